def p_X1_layFor (N : Nat) (G : Nat → Nat → Int32) (J : Nat → Nat → Int64) (p0 : Int32) : Option ((Nat → Nat → Int32)) :=
  if jin p0 6 = true then if jin ((p0 * (10 : Int32)) + (G 4 p0.toNatClampNeg)) 60 = true then jlt (jup G 3 ((p0 * (10 : Int32)) + (G 4 p0.toNatClampNeg)).toNatClampNeg (G 0 4)) fun G3 => if jin p0 6 = true then if jin p0 6 = true then jlt (jup G3 4 p0.toNatClampNeg ((G3 4 p0.toNatClampNeg) + (1 : Int32))) fun G7 => some G7 else none else none else none else none
set_option maxHeartbeats 4000000 in
set_option maxRecDepth 100000 in
theorem t_X1_layFor {X : jX} {po : Option Value → jH → Prop} {px : String → jH → Prop} {sf : Bool} {B9 : Nat} (hM : jMX X kX1_layFor RX1 tbX1 2 ⟨0, 0, 0, 0⟩ none 12) (hp : jPost X sf B9 po px) (N : Nat) (G : Nat → Nat → Int32) (J : Nat → Nat → Int64) (p0 : Int32) {res : (Nat → Nat → Int32)} (h : p_X1_layFor N G J p0 = some res) (hq : po none (hEn res J)) : JW X 0 0 0 [some (.ref 0), some (.int p0)] [] (hEn G J) := by
  unfold p_X1_layFor at h
  obtain ⟨g1, h⟩ := jg h
  obtain ⟨g2, h⟩ := jg h
  obtain ⟨G3, e4, h⟩ := jlE h
  refine JW.r hM 0 13 (pc2 := 20) (L2 := [some (.ref 0), some (.int p0)]) (st2 := []) (μ2 := (hEn (jup G 3 ((p0 * (10 : Int32)) + (G 4 p0.toNatClampNeg)).toNatClampNeg (G 0 4)) J)) rfl ⟨g1, g2, trivial⟩ ?_
  rw [e4]
  obtain ⟨g5, h⟩ := jg h
  obtain ⟨g6, h⟩ := jg h
  obtain ⟨G7, e8, h⟩ := jlE h
  refine JW.r hM 13 8 (pc2 := 30) (L2 := [some (.ref 0), some (.int p0)]) (st2 := []) (μ2 := (hEn (jup G3 4 p0.toNatClampNeg ((G3 4 p0.toNatClampNeg) + (1 : Int32))) J)) rfl ⟨g5, g6, trivial⟩ ?_
  rw [e8]
  cases h
  exact js_vret hM.1 hp hM.2.2.2.2.2.2.2.1 (by rw [hM.2.2.2.2.2.1]; exact Nat.le_of_ble_eq_true rfl) (by rw [hM.2.2.2.2.2.2.1]; exact Nat.le_of_ble_eq_true rfl) (jat hM.2.1 21 rfl) hq
theorem m_X1_layFor (V : jV) (hV : V.1.stackTraces = false) (N : Nat) (G : Nat → Nat → Int32) (J : Nat → Nat → Int64) (p0 : Int32) (v : (Nat → Nat → Int32)) (h : p_X1_layFor N G J p0 = some v) : jMet V yX1_layFor (jws yX1_layFor cX1_layFor 2 none) ⟨0, 0, 0, 0⟩ true 1 [.ref 0, .int p0] (hEn G J) (fun o ν => o = none ∧ ν = (hEn v J)) (fun _ _ => False) := by
  refine jmk (tb := tbX1) (C := kX1_layFor) hV rfl (by decide) tbX1_ok rfl kX1_layFor_ok rfl ?_
  intro X hM _ hp _
  exact t_X1_layFor hM hp N G J p0 h ⟨rfl, rfl⟩
def p_X1_layDeed_b65 (N : Nat) (J : Nat → Nat → Int64) (rv22 : (Nat → Nat → Int32) → Int32 → Int32 → Option ((Nat → Nat → Int32))) (G : Nat → Nat → Int32) (x2 : Int32) (x3 : Int32) : Option ((Nat → Nat → Int32)) :=
  rv22 G x2 (x3 + 1)
def p_X1_layDeed_b22 (N : Nat) (J : Nat → Nat → Int64) : Nat → (Nat → Nat → Int32) → (Int32) → (Int32) → Option ((Nat → Nat → Int32))
  | 0, _, _, _ => none
  | n + 1, G, x2, x3 => if (G 0 4) < x3 then (if jin x2 30 = true then (p_X1_layFor N (jvw G 0) (jvw J 0) (G 16 x2.toNatClampNeg)).bind (fun v9 => jlt (jpt G 0 11 v9) fun G10 => if jin x2 30 = true then (p_X1_layFor N (jvw G10 0) (jvw J 0) (G10 17 x2.toNatClampNeg)).bind (fun v14 => jlt (jpt G10 0 11 v14) fun G15 => jlt (jup G15 0 4 ((G15 0 4) + (1 : Int32))) fun G17 => some G17) else none) else none) else (if jin x3 10 = true then if jin (G 1 x3.toNatClampNeg) 30 = true then if jin x2 30 = true then if (G 15 (G 1 x3.toNatClampNeg).toNatClampNeg) = (G 15 x2.toNatClampNeg) then (if jin x3 10 = true then if jin x3 10 = true then jlt (jup G 2 x3.toNatClampNeg ((G 2 x3.toNatClampNeg) ||| ((1 : Int32) <<< ((G 0 4) &&& 31)))) fun G24 => p_X1_layDeed_b65 N J (p_X1_layDeed_b22 N J n) G24 x2 x3 else none else none) else (p_X1_layDeed_b65 N J (p_X1_layDeed_b22 N J n) G x2 x3) else none else none else none)
def p_X1_layDeed (N : Nat) (G : Nat → Nat → Int32) (J : Nat → Nat → Int64) (p0 : Int32) : Option ((Nat → Nat → Int32)) :=
  if jin (G 0 4) 10 = true then jlt (jup G 1 (G 0 4).toNatClampNeg p0) fun G2 => if jin (G2 0 4) 10 = true then jlt (jup G2 2 (G2 0 4).toNatClampNeg (0 : Int32)) fun G5 => p_X1_layDeed_b22 N J N G5 p0 (0 : Int32) else none else none
set_option maxHeartbeats 4000000 in
set_option maxRecDepth 100000 in
theorem t_X1_layDeed_b65 {X : jX} {po : Option Value → jH → Prop} {px : String → jH → Prop} {sf : Bool} {B9 : Nat} (hM : jMX X kX1_layDeed RX1 tbX1 4 ⟨1, 0, 0, 21⟩ none 21) (hp : jPost X sf B9 po px) (N : Nat) (J : Nat → Nat → Int64) (rv22 : (Nat → Nat → Int32) → Int32 → Int32 → Option ((Nat → Nat → Int32))) {res : (Nat → Nat → Int32)} (ih22 : ∀ (G : Nat → Nat → Int32) (x2 : Int32) (x3 : Int32), rv22 G x2 x3 = some res → JW X 0 0 22 [some (.ref 0), some (.ref 11), some (.int x2), some (.int x3)] [] (hET G J)) (G : Nat → Nat → Int32) (x2 : Int32) (x3 : Int32) (h : p_X1_layDeed_b65 N J rv22 G x2 x3 = some res) (hq : po none (hET res J)) : JW X 0 0 65 [some (.ref 0), some (.ref 11), some (.int x2), some (.int x3)] [] (hET G J) := by
  unfold p_X1_layDeed_b65 at h
  refine JW.r hM 41 2 (pc2 := 22) (L2 := [some (.ref 0), some (.ref 11), some (.int x2), some (.int (x3 + 1))]) (st2 := []) (μ2 := (hET G J)) rfl trivial ?_
  exact ih22 G x2 (x3 + 1) h
set_option maxHeartbeats 4000000 in
set_option maxRecDepth 100000 in
theorem t_X1_layDeed_b22 {X : jX} {po : Option Value → jH → Prop} {px : String → jH → Prop} {sf : Bool} {B9 : Nat} (hM : jMX X kX1_layDeed RX1 tbX1 4 ⟨1, 0, 0, 21⟩ none 21) (hp : jPost X sf B9 po px) (N : Nat) (J : Nat → Nat → Int64) {res : (Nat → Nat → Int32)} : ∀ (n : Nat) (G : Nat → Nat → Int32) (x2 : Int32) (x3 : Int32) (h : p_X1_layDeed_b22 N J n G x2 x3 = some res) (hq : po none (hET res J)), JW X 0 0 22 [some (.ref 0), some (.ref 11), some (.int x2), some (.int x3)] [] (hET G J) := by
  intro n
  induction n with
  | zero =>
    intro G x2 x3 h hq
    cases (show (none : Option ((Nat → Nat → Int32))) = some res from h)
  | succ n ih22 =>
    intro G x2 x3 h hq
    have ih22 := fun G x2 x3 h9 => ih22 G x2 x3 h9 hq
    rw [p_X1_layDeed_b22] at h
    refine JW.r hM 14 3 (pc2 := 27) (L2 := [some (.ref 0), some (.ref 11), some (.int x2), some (.int x3)]) (st2 := [.int (G 0 4), .int x3]) (μ2 := (hET G J)) rfl trivial ?_
    refine js_icgt (t := 71) hM.1 (jat hM.2.1 17 rfl) rfl (fun hc27 => ?_) (fun hc27 => ?_)
    · have h := (if_pos hc27).symm.trans h
      obtain ⟨g7, h⟩ := jg h
      refine JW.r hM 43 5 (pc2 := 78) (L2 := [some (.ref 0), some (.ref 11), some (.int x2), some (.int x3)]) (st2 := [.int (G 16 x2.toNatClampNeg), .ref 0]) (μ2 := (hET G J)) rfl ⟨g7, trivial⟩ ?_
      obtain ⟨v9, hv8, h⟩ := jbd h
      refine JW.cV (v := none) hM (m_X1_layFor (jVX X) hM.1.2.2.2.2.2.2.2.2.2.1 N (jvw G 0) (jvw J 0) (G 16 x2.toNatClampNeg) v9 hv8) (sb_ET_En_0 G J) (bk_ET_En_0 G J v9 (jvw J 0)) rfl rfl rfl kc_X1_91 rfl rfl rfl rfl rfl (jat hM.2.1 48 rfl) (st := []) rfl ?_
      show JW X 0 0 81 [some (.ref 0), some (.ref 11), some (.int x2), some (.int x3)] [] (hET (jpt G 0 11 v9) J)
      obtain ⟨G10, e11, h⟩ := jlE h
      rw [e11]
      obtain ⟨g12, h⟩ := jg h
      refine JW.r hM 49 5 (pc2 := 88) (L2 := [some (.ref 0), some (.ref 11), some (.int x2), some (.int x3)]) (st2 := [.int (G10 17 x2.toNatClampNeg), .ref 0]) (μ2 := (hET G10 J)) rfl ⟨g12, trivial⟩ ?_
      obtain ⟨v14, hv13, h⟩ := jbd h
      refine JW.cV (v := none) hM (m_X1_layFor (jVX X) hM.1.2.2.2.2.2.2.2.2.2.1 N (jvw G10 0) (jvw J 0) (G10 17 x2.toNatClampNeg) v14 hv13) (sb_ET_En_0 G10 J) (bk_ET_En_0 G10 J v14 (jvw J 0)) rfl rfl rfl kc_X1_91 rfl rfl rfl rfl rfl (jat hM.2.1 54 rfl) (st := []) rfl ?_
      show JW X 0 0 91 [some (.ref 0), some (.ref 11), some (.int x2), some (.int x3)] [] (hET (jpt G10 0 11 v14) J)
      obtain ⟨G15, e16, h⟩ := jlE h
      rw [e16]
      obtain ⟨G17, e18, h⟩ := jlE h
      refine JW.r hM 55 6 (pc2 := 101) (L2 := [some (.ref 0), some (.ref 11), some (.int x2), some (.int x3)]) (st2 := []) (μ2 := (hET (jup G15 0 4 ((G15 0 4) + (1 : Int32))) J)) rfl trivial ?_
      rw [e18]
      cases h
      exact js_vret hM.1 hp hM.2.2.2.2.2.2.2.1 (by rw [hM.2.2.2.2.2.1]; exact Nat.le_of_ble_eq_true rfl) (by rw [hM.2.2.2.2.2.2.1]; exact Nat.le_of_ble_eq_true rfl) (jat hM.2.1 61 rfl) hq
    · have h := (if_neg hc27).symm.trans h
      obtain ⟨g19, h⟩ := jg h
      obtain ⟨g20, h⟩ := jg h
      obtain ⟨g21, h⟩ := jg h
      refine JW.r hM 18 11 (pc2 := 47) (L2 := [some (.ref 0), some (.ref 11), some (.int x2), some (.int x3)]) (st2 := [.int (G 15 x2.toNatClampNeg), .int (G 15 (G 1 x3.toNatClampNeg).toNatClampNeg)]) (μ2 := (hET G J)) rfl ⟨g19, g20, g21, trivial⟩ ?_
      refine js_icne (t := 65) hM.1 (jat hM.2.1 29 rfl) rfl (fun hc26 => ?_) (fun hc26 => ?_)
      · have h := (if_neg hc26).symm.trans h
        exact t_X1_layDeed_b65 hM hp N J (p_X1_layDeed_b22 N J n) ih22 G x2 x3 h hq
      · have h := (if_pos hc26).symm.trans h
        obtain ⟨g22, h⟩ := jg h
        obtain ⟨g23, h⟩ := jg h
        obtain ⟨G24, e25, h⟩ := jlE h
        refine JW.r hM 30 11 (pc2 := 65) (L2 := [some (.ref 0), some (.ref 11), some (.int x2), some (.int x3)]) (st2 := []) (μ2 := (hET (jup G 2 x3.toNatClampNeg ((G 2 x3.toNatClampNeg) ||| ((1 : Int32) <<< ((G 0 4) &&& 31)))) J)) rfl ⟨g22, g23, trivial⟩ ?_
        rw [e25]
        exact t_X1_layDeed_b65 hM hp N J (p_X1_layDeed_b22 N J n) ih22 G24 x2 x3 h hq
set_option maxHeartbeats 4000000 in
set_option maxRecDepth 100000 in
theorem t_X1_layDeed {X : jX} {po : Option Value → jH → Prop} {px : String → jH → Prop} {sf : Bool} {B9 : Nat} (hM : jMX X kX1_layDeed RX1 tbX1 4 ⟨1, 0, 0, 21⟩ none 21) (hp : jPost X sf B9 po px) (N : Nat) (G : Nat → Nat → Int32) (J : Nat → Nat → Int64) (p0 : Int32) {res : (Nat → Nat → Int32)} (h : p_X1_layDeed N G J p0 = some res) (hq : po none (hET res J)) : JW X 0 0 0 [some (.ref 0), some (.ref 11), some (.int p0), none] [] (hET G J) := by
  unfold p_X1_layDeed at h
  obtain ⟨g1, h⟩ := jg h
  obtain ⟨G2, e3, h⟩ := jlE h
  refine JW.r hM 0 6 (pc2 := 10) (L2 := [some (.ref 0), some (.ref 11), some (.int p0), none]) (st2 := []) (μ2 := (hET (jup G 1 (G 0 4).toNatClampNeg p0) J)) rfl ⟨g1, trivial⟩ ?_
  rw [e3]
  obtain ⟨g4, h⟩ := jg h
  obtain ⟨G5, e6, h⟩ := jlE h
  refine JW.r hM 6 6 (pc2 := 20) (L2 := [some (.ref 0), some (.ref 11), some (.int p0), none]) (st2 := []) (μ2 := (hET (jup G2 2 (G2 0 4).toNatClampNeg (0 : Int32)) J)) rfl ⟨g4, trivial⟩ ?_
  rw [e6]
  refine JW.r hM 12 2 (pc2 := 22) (L2 := [some (.ref 0), some (.ref 11), some (.int p0), some (.int (0 : Int32))]) (st2 := []) (μ2 := (hET G5 J)) rfl trivial ?_
  exact t_X1_layDeed_b22 hM hp N J N G5 p0 (0 : Int32) h hq
theorem m_X1_layDeed (V : jV) (hV : V.1.stackTraces = false) (N : Nat) (G : Nat → Nat → Int32) (J : Nat → Nat → Int64) (p0 : Int32) (v : (Nat → Nat → Int32)) (h : p_X1_layDeed N G J p0 = some v) : jMet V yX1_layDeed (jws yX1_layDeed cX1_layDeed 4 none) ⟨1, 0, 0, 21⟩ true 1 [.ref 0, .ref 11, .int p0] (hET G J) (fun o ν => o = none ∧ ν = (hET v J)) (fun _ _ => False) := by
  refine jmk (tb := tbX1) (C := kX1_layDeed) hV rfl (by decide) tbX1_ok rfl kX1_layDeed_ok rfl ?_
  intro X hM _ hp _
  exact t_X1_layDeed hM hp N G J p0 h ⟨rfl, rfl⟩
def p_X1_whole (N : Nat) (G : Nat → Nat → Int32) (J : Nat → Nat → Int64) : Option (Int32) :=
  some (((1 : Int32) <<< ((G 0 4) &&& 31)) - (1 : Int32))
set_option maxHeartbeats 4000000 in
set_option maxRecDepth 100000 in
theorem t_X1_whole {X : jX} {po : Option Value → jH → Prop} {px : String → jH → Prop} {sf : Bool} {B9 : Nat} (hM : jMX X kX1_whole RX1 tbX1 1 ⟨0, 0, 0, 0⟩ (some .int) 12) (hp : jPost X sf B9 po px) (N : Nat) (G : Nat → Nat → Int32) (J : Nat → Nat → Int64) {res : Int32} (h : p_X1_whole N G J = some res) (hq : po (some (.int res)) (hEn G J)) : JW X 0 0 0 [some (.ref 0)] [] (hEn G J) := by
  unfold p_X1_whole at h
  refine JW.r hM 0 6 (pc2 := 8) (L2 := [some (.ref 0)]) (st2 := [.int (((1 : Int32) <<< ((G 0 4) &&& 31)) - (1 : Int32))]) (μ2 := (hEn G J)) rfl trivial ?_
  cases h
  exact js_iret hM.1 hp hM.2.2.2.2.2.2.2.1 (by rw [hM.2.2.2.2.2.1]; exact Nat.le_of_ble_eq_true rfl) (by rw [hM.2.2.2.2.2.2.1]; exact Nat.le_of_ble_eq_true rfl) (jat hM.2.1 6 rfl) hq
theorem m_X1_whole (V : jV) (hV : V.1.stackTraces = false) (N : Nat) (G : Nat → Nat → Int32) (J : Nat → Nat → Int64) (v : Int32) (h : p_X1_whole N G J = some v) : jMet V yX1_whole (jws yX1_whole cX1_whole 1 (some .int)) ⟨0, 0, 0, 0⟩ true 1 [.ref 0] (hEn G J) (fun o ν => o = some (.int v) ∧ ν = (hEn G J)) (fun _ _ => False) := by
  refine jmk (tb := tbX1) (C := kX1_whole) hV rfl (by decide) tbX1_ok rfl kX1_whole_ok rfl ?_
  intro X hM _ hp _
  exact t_X1_whole hM hp N G J h ⟨rfl, rfl⟩
def p_X1_personIn (N : Nat) (G : Nat → Nat → Int32) (J : Nat → Nat → Int64) (p0 : Int32) : Option (Int32) :=
  if 0 < (G 0 1) then (if (G 0 1) = 0 then none else some (((G 0 2) + p0) - ((G 0 2) + p0) / (G 0 1) * (G 0 1))) else (some (0 : Int32))
set_option maxHeartbeats 4000000 in
set_option maxRecDepth 100000 in
theorem t_X1_personIn {X : jX} {po : Option Value → jH → Prop} {px : String → jH → Prop} {sf : Bool} {B9 : Nat} (hM : jMX X kX1_personIn RX1 tbX1 2 ⟨0, 0, 0, 0⟩ (some .int) 12) (hp : jPost X sf B9 po px) (N : Nat) (G : Nat → Nat → Int32) (J : Nat → Nat → Int64) (p0 : Int32) {res : Int32} (h : p_X1_personIn N G J p0 = some res) (hq : po (some (.int res)) (hEn G J)) : JW X 0 0 0 [some (.ref 0), some (.int p0)] [] (hEn G J) := by
  unfold p_X1_personIn at h
  refine JW.r hM 0 2 (pc2 := 4) (L2 := [some (.ref 0), some (.int p0)]) (st2 := [.int (G 0 1)]) (μ2 := (hEn G J)) rfl trivial ?_
  refine js_ifgt (t := 11) hM.1 (jat hM.2.1 2 rfl) rfl (fun hc2 => ?_) (fun hc2 => ?_)
  · have h := (if_pos hc2).symm.trans h
    obtain ⟨g1, h⟩ := jgn h
    refine JW.r hM 5 7 (pc2 := 22) (L2 := [some (.ref 0), some (.int p0)]) (st2 := [.int (((G 0 2) + p0) - ((G 0 2) + p0) / (G 0 1) * (G 0 1))]) (μ2 := (hEn G J)) rfl ⟨g1, trivial⟩ ?_
    cases h
    exact js_iret hM.1 hp hM.2.2.2.2.2.2.2.1 (by rw [hM.2.2.2.2.2.1]; exact Nat.le_of_ble_eq_true rfl) (by rw [hM.2.2.2.2.2.2.1]; exact Nat.le_of_ble_eq_true rfl) (jat hM.2.1 12 rfl) hq
  · have h := (if_neg hc2).symm.trans h
    refine JW.r hM 3 2 (pc2 := 22) (L2 := [some (.ref 0), some (.int p0)]) (st2 := [.int (0 : Int32)]) (μ2 := (hEn G J)) rfl trivial ?_
    cases h
    exact js_iret hM.1 hp hM.2.2.2.2.2.2.2.1 (by rw [hM.2.2.2.2.2.1]; exact Nat.le_of_ble_eq_true rfl) (by rw [hM.2.2.2.2.2.2.1]; exact Nat.le_of_ble_eq_true rfl) (jat hM.2.1 12 rfl) hq
theorem m_X1_personIn (V : jV) (hV : V.1.stackTraces = false) (N : Nat) (G : Nat → Nat → Int32) (J : Nat → Nat → Int64) (p0 : Int32) (v : Int32) (h : p_X1_personIn N G J p0 = some v) : jMet V yX1_personIn (jws yX1_personIn cX1_personIn 2 (some .int)) ⟨0, 0, 0, 0⟩ true 1 [.ref 0, .int p0] (hEn G J) (fun o ν => o = some (.int v) ∧ ν = (hEn G J)) (fun _ _ => False) := by
  refine jmk (tb := tbX1) (C := kX1_personIn) hV rfl (by decide) tbX1_ok rfl kX1_personIn_ok rfl ?_
  intro X hM _ hp _
  exact t_X1_personIn hM hp N G J p0 h ⟨rfl, rfl⟩
def p_X1_reachFrom_b77 (N : Nat) (J : Nat → Nat → Int64) (rv21 : (Nat → Nat → Int32) → Int32 → Int32 → Int32 → Int32 → Option ((Nat → Nat → Int32))) (G : Nat → Nat → Int32) (x1 : Int32) (x3 : Int32) (x4 : Int32) (x5 : Int32) : Option ((Nat → Nat → Int32)) :=
  rv21 G x1 x3 x4 (x5 + 1)
def p_X1_reachFrom_b21 (N : Nat) (J : Nat → Nat → Int64) : Nat → (Nat → Nat → Int32) → (Int32) → (Int32) → (Int32) → (Int32) → Option ((Nat → Nat → Int32))
  | 0, _, _, _, _, _ => none
  | n + 1, G, x1, x3, x4, x5 => if jin x3 6 = true then if (G 4 x3.toNatClampNeg) ≤ x5 then (some G) else (if jin ((x3 * (10 : Int32)) + x5) 60 = true then if ((x1 >>> ((G 3 ((x3 * (10 : Int32)) + x5).toNatClampNeg) &&& 31)) &&& (1 : Int32)) = (1 : Int32) then (if jin (G 3 ((x3 * (10 : Int32)) + x5).toNatClampNeg) 10 = true then if jin (x1 &&& ((G 2 (G 3 ((x3 * (10 : Int32)) + x5).toNatClampNeg).toNatClampNeg) ^^^ (-1 : Int32))) 1024 = true then if jin (x1 &&& ((G 2 (G 3 ((x3 * (10 : Int32)) + x5).toNatClampNeg).toNatClampNeg) ^^^ (-1 : Int32))) 1024 = true then jlt (jup G 8 (x1 &&& ((G 2 (G 3 ((x3 * (10 : Int32)) + x5).toNatClampNeg).toNatClampNeg) ^^^ (-1 : Int32))).toNatClampNeg ((G 8 (x1 &&& ((G 2 (G 3 ((x3 * (10 : Int32)) + x5).toNatClampNeg).toNatClampNeg) ^^^ (-1 : Int32))).toNatClampNeg) ||| x4)) fun G10 => p_X1_reachFrom_b77 N J (p_X1_reachFrom_b21 N J n) G10 x1 x3 x4 x5 else none else none else none) else (p_X1_reachFrom_b77 N J (p_X1_reachFrom_b21 N J n) G x1 x3 x4 x5) else none) else none
def p_X1_reachFrom (N : Nat) (G : Nat → Nat → Int32) (J : Nat → Nat → Int64) (p0 : Int32) (p1 : Int32) (p2 : Int32) : Option ((Nat → Nat → Int32)) :=
  if jin p0 1024 = true then if jin p0 1024 = true then jlt (jup G 8 p0.toNatClampNeg ((G 8 p0.toNatClampNeg) ||| ((1 : Int32) <<< ((p1 + (1 : Int32)) &&& 31)))) fun G3 => p_X1_reachFrom_b21 N J N G3 p0 p2 ((1 : Int32) <<< ((p1 + (1 : Int32)) &&& 31)) (0 : Int32) else none else none
set_option maxHeartbeats 4000000 in
set_option maxRecDepth 100000 in
theorem t_X1_reachFrom_b77 {X : jX} {po : Option Value → jH → Prop} {px : String → jH → Prop} {sf : Bool} {B9 : Nat} (hM : jMX X kX1_reachFrom RX1 tbX1 7 ⟨0, 0, 0, 0⟩ none 12) (hp : jPost X sf B9 po px) (N : Nat) (J : Nat → Nat → Int64) (rv21 : (Nat → Nat → Int32) → Int32 → Int32 → Int32 → Int32 → Option ((Nat → Nat → Int32))) {res : (Nat → Nat → Int32)} (ih21 : ∀ (G : Nat → Nat → Int32) (x1 : Int32) (x3 : Int32) (x4 : Int32) (x5 : Int32), rv21 G x1 x3 x4 x5 = some res → JW X 0 0 21 [some (.ref 0), some (.int x1), none, some (.int x3), some (.int x4), some (.int x5), none] [] (hEn G J)) (G : Nat → Nat → Int32) (x1 : Int32) (x3 : Int32) (x4 : Int32) (x5 : Int32) (h : p_X1_reachFrom_b77 N J rv21 G x1 x3 x4 x5 = some res) (hq : po none (hEn res J)) : JW X 0 0 77 [some (.ref 0), some (.int x1), none, some (.int x3), some (.int x4), some (.int x5), none] [] (hEn G J) := by
  unfold p_X1_reachFrom_b77 at h
  refine JW.r hM 53 2 (pc2 := 21) (L2 := [some (.ref 0), some (.int x1), none, some (.int x3), some (.int x4), some (.int (x5 + 1)), none]) (st2 := []) (μ2 := (hEn G J)) rfl trivial ?_
  exact ih21 G x1 x3 x4 (x5 + 1) h
set_option maxHeartbeats 4000000 in
set_option maxRecDepth 100000 in
theorem t_X1_reachFrom_b21 {X : jX} {po : Option Value → jH → Prop} {px : String → jH → Prop} {sf : Bool} {B9 : Nat} (hM : jMX X kX1_reachFrom RX1 tbX1 7 ⟨0, 0, 0, 0⟩ none 12) (hp : jPost X sf B9 po px) (N : Nat) (J : Nat → Nat → Int64) {res : (Nat → Nat → Int32)} : ∀ (n : Nat) (G : Nat → Nat → Int32) (x1 : Int32) (x3 : Int32) (x4 : Int32) (x5 : Int32) (h : p_X1_reachFrom_b21 N J n G x1 x3 x4 x5 = some res) (hq : po none (hEn res J)), JW X 0 0 21 [some (.ref 0), some (.int x1), none, some (.int x3), some (.int x4), some (.int x5), none] [] (hEn G J) := by
  intro n
  induction n with
  | zero =>
    intro G x1 x3 x4 x5 h hq
    cases (show (none : Option ((Nat → Nat → Int32))) = some res from h)
  | succ n ih21 =>
    intro G x1 x3 x4 x5 h hq
    have ih21 := fun G x1 x3 x4 x5 h9 => ih21 G x1 x3 x4 x5 h9 hq
    rw [p_X1_reachFrom_b21] at h
    obtain ⟨g5, h⟩ := jg h
    refine JW.r hM 16 5 (pc2 := 29) (L2 := [some (.ref 0), some (.int x1), none, some (.int x3), some (.int x4), some (.int x5), none]) (st2 := [.int (G 4 x3.toNatClampNeg), .int x5]) (μ2 := (hEn G J)) rfl ⟨g5, trivial⟩ ?_
    refine js_icge (t := 83) hM.1 (jat hM.2.1 21 rfl) rfl (fun hc13 => ?_) (fun hc13 => ?_)
    · have h := (if_pos hc13).symm.trans h
      cases h
      exact js_vret hM.1 hp hM.2.2.2.2.2.2.2.1 (by rw [hM.2.2.2.2.2.1]; exact Nat.le_of_ble_eq_true rfl) (by rw [hM.2.2.2.2.2.2.1]; exact Nat.le_of_ble_eq_true rfl) (jat hM.2.1 55 rfl) hq
    · have h := (if_neg hc13).symm.trans h
      obtain ⟨g6, h⟩ := jg h
      refine JW.r hM 22 15 (pc2 := 53) (L2 := [some (.ref 0), some (.int x1), none, some (.int x3), some (.int x4), some (.int x5), some (.int (G 3 ((x3 * (10 : Int32)) + x5).toNatClampNeg))]) (st2 := [.int (1 : Int32), .int ((x1 >>> ((G 3 ((x3 * (10 : Int32)) + x5).toNatClampNeg) &&& 31)) &&& (1 : Int32))]) (μ2 := (hEn G J)) rfl ⟨g6, trivial⟩ ?_
      refine js_icne (t := 77) hM.1 (jat hM.2.1 37 rfl) rfl (fun hc12 => ?_) (fun hc12 => ?_)
      · have h := (if_neg hc12).symm.trans h
        exact JW.mask [true, true, false, true, true, true, false] (t_X1_reachFrom_b77 hM hp N J (p_X1_reachFrom_b21 N J n) ih21 G x1 x3 x4 x5 h hq)
      · have h := (if_pos hc12).symm.trans h
        obtain ⟨g7, h⟩ := jg h
        obtain ⟨g8, h⟩ := jg h
        obtain ⟨g9, h⟩ := jg h
        obtain ⟨G10, e11, h⟩ := jlE h
        refine JW.r hM 38 15 (pc2 := 77) (L2 := [some (.ref 0), some (.int x1), none, some (.int x3), some (.int x4), some (.int x5), some (.int (G 3 ((x3 * (10 : Int32)) + x5).toNatClampNeg))]) (st2 := []) (μ2 := (hEn (jup G 8 (x1 &&& ((G 2 (G 3 ((x3 * (10 : Int32)) + x5).toNatClampNeg).toNatClampNeg) ^^^ (-1 : Int32))).toNatClampNeg ((G 8 (x1 &&& ((G 2 (G 3 ((x3 * (10 : Int32)) + x5).toNatClampNeg).toNatClampNeg) ^^^ (-1 : Int32))).toNatClampNeg) ||| x4)) J)) rfl ⟨g7, g8, g9, trivial⟩ ?_
        rw [e11]
        exact JW.mask [true, true, false, true, true, true, false] (t_X1_reachFrom_b77 hM hp N J (p_X1_reachFrom_b21 N J n) ih21 G10 x1 x3 x4 x5 h hq)
set_option maxHeartbeats 4000000 in
set_option maxRecDepth 100000 in
theorem t_X1_reachFrom {X : jX} {po : Option Value → jH → Prop} {px : String → jH → Prop} {sf : Bool} {B9 : Nat} (hM : jMX X kX1_reachFrom RX1 tbX1 7 ⟨0, 0, 0, 0⟩ none 12) (hp : jPost X sf B9 po px) (N : Nat) (G : Nat → Nat → Int32) (J : Nat → Nat → Int64) (p0 : Int32) (p1 : Int32) (p2 : Int32) {res : (Nat → Nat → Int32)} (h : p_X1_reachFrom N G J p0 p1 p2 = some res) (hq : po none (hEn res J)) : JW X 0 0 0 [some (.ref 0), some (.int p0), some (.int p1), some (.int p2), none, none, none] [] (hEn G J) := by
  unfold p_X1_reachFrom at h
  obtain ⟨g1, h⟩ := jg h
  obtain ⟨g2, h⟩ := jg h
  obtain ⟨G3, e4, h⟩ := jlE h
  refine JW.r hM 0 14 (pc2 := 18) (L2 := [some (.ref 0), some (.int p0), some (.int p1), some (.int p2), some (.int ((1 : Int32) <<< ((p1 + (1 : Int32)) &&& 31))), none, none]) (st2 := []) (μ2 := (hEn (jup G 8 p0.toNatClampNeg ((G 8 p0.toNatClampNeg) ||| ((1 : Int32) <<< ((p1 + (1 : Int32)) &&& 31)))) J)) rfl ⟨g1, g2, trivial⟩ ?_
  rw [e4]
  refine JW.r hM 14 2 (pc2 := 21) (L2 := [some (.ref 0), some (.int p0), some (.int p1), some (.int p2), some (.int ((1 : Int32) <<< ((p1 + (1 : Int32)) &&& 31))), some (.int (0 : Int32)), none]) (st2 := []) (μ2 := (hEn G3 J)) rfl trivial ?_
  exact JW.mask [true, true, false, true, true, true, false] (t_X1_reachFrom_b21 hM hp N J N G3 p0 p2 ((1 : Int32) <<< ((p1 + (1 : Int32)) &&& 31)) (0 : Int32) h hq)
theorem m_X1_reachFrom (V : jV) (hV : V.1.stackTraces = false) (N : Nat) (G : Nat → Nat → Int32) (J : Nat → Nat → Int64) (p0 : Int32) (p1 : Int32) (p2 : Int32) (v : (Nat → Nat → Int32)) (h : p_X1_reachFrom N G J p0 p1 p2 = some v) : jMet V yX1_reachFrom (jws yX1_reachFrom cX1_reachFrom 7 none) ⟨0, 0, 0, 0⟩ true 1 [.ref 0, .int p0, .int p1, .int p2] (hEn G J) (fun o ν => o = none ∧ ν = (hEn v J)) (fun _ _ => False) := by
  refine jmk (tb := tbX1) (C := kX1_reachFrom) hV rfl (by decide) tbX1_ok rfl kX1_reachFrom_ok rfl ?_
  intro X hM _ hp _
  exact t_X1_reachFrom hM hp N G J p0 p1 p2 h ⟨rfl, rfl⟩
def p_X1_reach_b79 (N : Nat) (J : Nat → Nat → Int64) (rv34 : (Nat → Nat → Int32) → Int32 → Int32 → Option ((Nat → Nat → Int32))) (rv51 : (Nat → Nat → Int32) → Int32 → Int32 → Int32 → Int32 → Option ((Nat → Nat → Int32))) (G : Nat → Nat → Int32) (x1 : Int32) (x2 : Int32) (x3 : Int32) (x4 : Int32) : Option ((Nat → Nat → Int32)) :=
  rv51 G x1 x2 x3 (x4 + (-1))
def p_X1_reach_b51 (N : Nat) (J : Nat → Nat → Int64) (rv34 : (Nat → Nat → Int32) → Int32 → Int32 → Option ((Nat → Nat → Int32))) : Nat → (Nat → Nat → Int32) → (Int32) → (Int32) → (Int32) → (Int32) → Option ((Nat → Nat → Int32))
  | 0, _, _, _, _, _ => none
  | n + 1, G, x1, x2, x3, x4 => if x4 < 0 then (rv34 G x1 (x2 + 1)) else (if jin x4 1024 = true then if (((G 8 x4.toNatClampNeg) >>> (x2 &&& 31)) &&& (1 : Int32)) = (1 : Int32) then ((p_X1_reachFrom N G J x4 x2 x3).bind (fun v10 => jlt v10 fun G11 => (p_X1_reach_b51 N J rv34 n) G11 x1 x2 x3 (x4 + (-1)))) else (p_X1_reach_b79 N J rv34 (p_X1_reach_b51 N J rv34 n) G x1 x2 x3 x4) else none)
def p_X1_reach_b34 (N : Nat) (J : Nat → Nat → Int64) : Nat → (Nat → Nat → Int32) → (Int32) → (Int32) → Option ((Nat → Nat → Int32))
  | 0, _, _, _ => none
  | n + 1, G, x1, x2 => if (G 0 3) ≤ x2 then (some G) else ((p_X1_personIn N G J x2).bind (fun v7 => p_X1_reach_b51 N J (p_X1_reach_b34 N J n) N G x1 x2 v7 x1))
def p_X1_reach_b7 (N : Nat) (J : Nat → Nat → Int64) : Nat → (Nat → Nat → Int32) → (Int32) → (Int32) → Option ((Nat → Nat → Int32))
  | 0, _, _, _ => none
  | n + 1, G, x1, x2 => if x1 ≤ x2 then (if jin x1 1024 = true then jlt (jup G 8 x1.toNatClampNeg (1 : Int32)) fun G4 => p_X1_reach_b34 N J N G4 x1 (0 : Int32) else none) else (if jin x2 1024 = true then jlt (jup G 8 x2.toNatClampNeg (0 : Int32)) fun G17 => (p_X1_reach_b7 N J n) G17 x1 (x2 + 1) else none)
def p_X1_reach (N : Nat) (G : Nat → Nat → Int32) (J : Nat → Nat → Int64) : Option ((Nat → Nat → Int32)) :=
  (p_X1_whole N G J).bind (fun v2 => p_X1_reach_b7 N J N G v2 (0 : Int32))
set_option maxHeartbeats 4000000 in
set_option maxRecDepth 100000 in
theorem t_X1_reach_b79 {X : jX} {po : Option Value → jH → Prop} {px : String → jH → Prop} {sf : Bool} {B9 : Nat} (hM : jMX X kX1_reach RX1 tbX1 5 ⟨1, 0, 0, 26⟩ none 12) (hp : jPost X sf B9 po px) (N : Nat) (J : Nat → Nat → Int64) (rv34 : (Nat → Nat → Int32) → Int32 → Int32 → Option ((Nat → Nat → Int32))) (rv51 : (Nat → Nat → Int32) → Int32 → Int32 → Int32 → Int32 → Option ((Nat → Nat → Int32))) {res : (Nat → Nat → Int32)} (ih34 : ∀ (G : Nat → Nat → Int32) (x1 : Int32) (x2 : Int32), rv34 G x1 x2 = some res → JW X 0 0 34 [some (.ref 0), some (.int x1), some (.int x2), none, none] [] (hEn G J)) (ih51 : ∀ (G : Nat → Nat → Int32) (x1 : Int32) (x2 : Int32) (x3 : Int32) (x4 : Int32), rv51 G x1 x2 x3 x4 = some res → JW X 0 0 51 [some (.ref 0), some (.int x1), some (.int x2), some (.int x3), some (.int x4)] [] (hEn G J)) (G : Nat → Nat → Int32) (x1 : Int32) (x2 : Int32) (x3 : Int32) (x4 : Int32) (h : p_X1_reach_b79 N J rv34 rv51 G x1 x2 x3 x4 = some res) (hq : po none (hEn res J)) : JW X 0 0 79 [some (.ref 0), some (.int x1), some (.int x2), some (.int x3), some (.int x4)] [] (hEn G J) := by
  unfold p_X1_reach_b79 at h
  refine JW.r hM 49 2 (pc2 := 51) (L2 := [some (.ref 0), some (.int x1), some (.int x2), some (.int x3), some (.int (x4 + (-1)))]) (st2 := []) (μ2 := (hEn G J)) rfl trivial ?_
  exact ih51 G x1 x2 x3 (x4 + (-1)) h
set_option maxHeartbeats 4000000 in
set_option maxRecDepth 100000 in
theorem t_X1_reach_b51 {X : jX} {po : Option Value → jH → Prop} {px : String → jH → Prop} {sf : Bool} {B9 : Nat} (hM : jMX X kX1_reach RX1 tbX1 5 ⟨1, 0, 0, 26⟩ none 12) (hp : jPost X sf B9 po px) (N : Nat) (J : Nat → Nat → Int64) (rv34 : (Nat → Nat → Int32) → Int32 → Int32 → Option ((Nat → Nat → Int32))) {res : (Nat → Nat → Int32)} (ih34 : ∀ (G : Nat → Nat → Int32) (x1 : Int32) (x2 : Int32), rv34 G x1 x2 = some res → JW X 0 0 34 [some (.ref 0), some (.int x1), some (.int x2), none, none] [] (hEn G J)) : ∀ (n : Nat) (G : Nat → Nat → Int32) (x1 : Int32) (x2 : Int32) (x3 : Int32) (x4 : Int32) (h : p_X1_reach_b51 N J rv34 n G x1 x2 x3 x4 = some res) (hq : po none (hEn res J)), JW X 0 0 51 [some (.ref 0), some (.int x1), some (.int x2), some (.int x3), some (.int x4)] [] (hEn G J) := by
  intro n
  induction n with
  | zero =>
    intro G x1 x2 x3 x4 h hq
    cases (show (none : Option ((Nat → Nat → Int32))) = some res from h)
  | succ n ih51 =>
    intro G x1 x2 x3 x4 h hq
    have ih51 := fun G x1 x2 x3 x4 h9 => ih51 G x1 x2 x3 x4 h9 hq
    rw [p_X1_reach_b51] at h
    refine JW.r hM 32 1 (pc2 := 53) (L2 := [some (.ref 0), some (.int x1), some (.int x2), some (.int x3), some (.int x4)]) (st2 := [.int x4]) (μ2 := (hEn G J)) rfl trivial ?_
    refine js_iflt (t := 85) hM.1 (jat hM.2.1 33 rfl) rfl (fun hc14 => ?_) (fun hc14 => ?_)
    · have h := (if_pos hc14).symm.trans h
      refine JW.r hM 51 2 (pc2 := 34) (L2 := [some (.ref 0), some (.int x1), some (.int (x2 + 1)), some (.int x3), some (.int x4)]) (st2 := []) (μ2 := (hEn G J)) rfl trivial ?_
      exact JW.mask [true, true, true, false, false] (ih34 G x1 (x2 + 1) h)
    · have h := (if_neg hc14).symm.trans h
      obtain ⟨g8, h⟩ := jg h
      refine JW.r hM 34 9 (pc2 := 68) (L2 := [some (.ref 0), some (.int x1), some (.int x2), some (.int x3), some (.int x4)]) (st2 := [.int (1 : Int32), .int (((G 8 x4.toNatClampNeg) >>> (x2 &&& 31)) &&& (1 : Int32))]) (μ2 := (hEn G J)) rfl ⟨g8, trivial⟩ ?_
      refine js_icne (t := 79) hM.1 (jat hM.2.1 43 rfl) rfl (fun hc13 => ?_) (fun hc13 => ?_)
      · have h := (if_neg hc13).symm.trans h
        exact t_X1_reach_b79 hM hp N J rv34 (p_X1_reach_b51 N J rv34 n) ih34 ih51 G x1 x2 x3 x4 h hq
      · have h := (if_pos hc13).symm.trans h
        refine JW.r hM 44 4 (pc2 := 76) (L2 := [some (.ref 0), some (.int x1), some (.int x2), some (.int x3), some (.int x4)]) (st2 := [.int x3, .int x2, .int x4, .ref 0]) (μ2 := (hEn G J)) rfl trivial ?_
        obtain ⟨v10, hv9, h⟩ := jbd h
        refine JW.cV (v := none) hM (m_X1_reachFrom (jVX X) hM.1.2.2.2.2.2.2.2.2.2.1 N G J x4 x2 x3 v10 hv9) (sb_En_En_0 G J) (bk_En_En_0 G J v10 J) rfl rfl rfl kc_X1_104 rfl rfl rfl rfl rfl (jat hM.2.1 48 rfl) (st := []) rfl ?_
        show JW X 0 0 79 [some (.ref 0), some (.int x1), some (.int x2), some (.int x3), some (.int x4)] [] (hEn v10 J)
        obtain ⟨G11, e12, h⟩ := jlE h
        rw [e12]
        refine JW.r hM 49 2 (pc2 := 51) (L2 := [some (.ref 0), some (.int x1), some (.int x2), some (.int x3), some (.int (x4 + (-1)))]) (st2 := []) (μ2 := (hEn G11 J)) rfl trivial ?_
        exact ih51 G11 x1 x2 x3 (x4 + (-1)) h
set_option maxHeartbeats 4000000 in
set_option maxRecDepth 100000 in
theorem t_X1_reach_b34 {X : jX} {po : Option Value → jH → Prop} {px : String → jH → Prop} {sf : Bool} {B9 : Nat} (hM : jMX X kX1_reach RX1 tbX1 5 ⟨1, 0, 0, 26⟩ none 12) (hp : jPost X sf B9 po px) (N : Nat) (J : Nat → Nat → Int64) {res : (Nat → Nat → Int32)} : ∀ (n : Nat) (G : Nat → Nat → Int32) (x1 : Int32) (x2 : Int32) (h : p_X1_reach_b34 N J n G x1 x2 = some res) (hq : po none (hEn res J)), JW X 0 0 34 [some (.ref 0), some (.int x1), some (.int x2), none, none] [] (hEn G J) := by
  intro n
  induction n with
  | zero =>
    intro G x1 x2 h hq
    cases (show (none : Option ((Nat → Nat → Int32))) = some res from h)
  | succ n ih34 =>
    intro G x1 x2 h hq
    have ih34 := fun G x1 x2 h9 => ih34 G x1 x2 h9 hq
    rw [p_X1_reach_b34] at h
    refine JW.r hM 22 3 (pc2 := 39) (L2 := [some (.ref 0), some (.int x1), some (.int x2), none, none]) (st2 := [.int (G 0 3), .int x2]) (μ2 := (hEn G J)) rfl trivial ?_
    refine js_icge (t := 91) hM.1 (jat hM.2.1 25 rfl) rfl (fun hc15 => ?_) (fun hc15 => ?_)
    · have h := (if_pos hc15).symm.trans h
      cases h
      exact js_vret hM.1 hp hM.2.2.2.2.2.2.2.1 (by rw [hM.2.2.2.2.2.1]; exact Nat.le_of_ble_eq_true rfl) (by rw [hM.2.2.2.2.2.2.1]; exact Nat.le_of_ble_eq_true rfl) (jat hM.2.1 53 rfl) hq
    · have h := (if_neg hc15).symm.trans h
      refine JW.r hM 26 2 (pc2 := 44) (L2 := [some (.ref 0), some (.int x1), some (.int x2), none, none]) (st2 := [.int x2, .ref 0]) (μ2 := (hEn G J)) rfl trivial ?_
      obtain ⟨v7, hv6, h⟩ := jbd h
      refine JW.cV (v := some (.int v7)) hM (m_X1_personIn (jVX X) hM.1.2.2.2.2.2.2.2.2.2.1 N G J x2 v7 hv6) (sb_En_En_0 G J) (bi_En_En_0 G J) rfl rfl rfl kc_X1_101 rfl rfl rfl rfl rfl (jat hM.2.1 28 rfl) (st := []) rfl ?_
      show JW X 0 0 47 [some (.ref 0), some (.int x1), some (.int x2), none, none] [.int v7] (hEn G J)
      refine JW.r hM 29 3 (pc2 := 51) (L2 := [some (.ref 0), some (.int x1), some (.int x2), some (.int v7), some (.int x1)]) (st2 := []) (μ2 := (hEn G J)) rfl trivial ?_
      exact t_X1_reach_b51 hM hp N J (p_X1_reach_b34 N J n) ih34 N G x1 x2 v7 x1 h hq
set_option maxHeartbeats 4000000 in
set_option maxRecDepth 100000 in
theorem t_X1_reach_b7 {X : jX} {po : Option Value → jH → Prop} {px : String → jH → Prop} {sf : Bool} {B9 : Nat} (hM : jMX X kX1_reach RX1 tbX1 5 ⟨1, 0, 0, 26⟩ none 12) (hp : jPost X sf B9 po px) (N : Nat) (J : Nat → Nat → Int64) {res : (Nat → Nat → Int32)} : ∀ (n : Nat) (G : Nat → Nat → Int32) (x1 : Int32) (x2 : Int32) (h : p_X1_reach_b7 N J n G x1 x2 = some res) (hq : po none (hEn res J)), JW X 0 0 7 [some (.ref 0), some (.int x1), some (.int x2), none, none] [] (hEn G J) := by
  intro n
  induction n with
  | zero =>
    intro G x1 x2 h hq
    cases (show (none : Option ((Nat → Nat → Int32))) = some res from h)
  | succ n ih7 =>
    intro G x1 x2 h hq
    have ih7 := fun G x1 x2 h9 => ih7 G x1 x2 h9 hq
    rw [p_X1_reach_b7] at h
    refine JW.r hM 5 2 (pc2 := 9) (L2 := [some (.ref 0), some (.int x1), some (.int x2), none, none]) (st2 := [.int x1, .int x2]) (μ2 := (hEn G J)) rfl trivial ?_
    refine js_icge (t := 25) hM.1 (jat hM.2.1 7 rfl) rfl (fun hc19 => ?_) (fun hc19 => ?_)
    · have h := (if_pos hc19).symm.trans h
      obtain ⟨g3, h⟩ := jg h
      obtain ⟨G4, e5, h⟩ := jlE h
      refine JW.r hM 15 5 (pc2 := 32) (L2 := [some (.ref 0), some (.int x1), some (.int x2), none, none]) (st2 := []) (μ2 := (hEn (jup G 8 x1.toNatClampNeg (1 : Int32)) J)) rfl ⟨g3, trivial⟩ ?_
      rw [e5]
      refine JW.r hM 20 2 (pc2 := 34) (L2 := [some (.ref 0), some (.int x1), some (.int (0 : Int32)), none, none]) (st2 := []) (μ2 := (hEn G4 J)) rfl trivial ?_
      exact t_X1_reach_b34 hM hp N J N G4 x1 (0 : Int32) h hq
    · have h := (if_neg hc19).symm.trans h
      obtain ⟨g16, h⟩ := jg h
      obtain ⟨G17, e18, h⟩ := jlE h
      refine JW.r hM 8 5 (pc2 := 19) (L2 := [some (.ref 0), some (.int x1), some (.int x2), none, none]) (st2 := []) (μ2 := (hEn (jup G 8 x2.toNatClampNeg (0 : Int32)) J)) rfl ⟨g16, trivial⟩ ?_
      rw [e18]
      refine JW.r hM 13 2 (pc2 := 7) (L2 := [some (.ref 0), some (.int x1), some (.int (x2 + 1)), none, none]) (st2 := []) (μ2 := (hEn G17 J)) rfl trivial ?_
      exact ih7 G17 x1 (x2 + 1) h
set_option maxHeartbeats 4000000 in
set_option maxRecDepth 100000 in
theorem t_X1_reach {X : jX} {po : Option Value → jH → Prop} {px : String → jH → Prop} {sf : Bool} {B9 : Nat} (hM : jMX X kX1_reach RX1 tbX1 5 ⟨1, 0, 0, 26⟩ none 12) (hp : jPost X sf B9 po px) (N : Nat) (G : Nat → Nat → Int32) (J : Nat → Nat → Int64) {res : (Nat → Nat → Int32)} (h : p_X1_reach N G J = some res) (hq : po none (hEn res J)) : JW X 0 0 0 [some (.ref 0), none, none, none, none] [] (hEn G J) := by
  unfold p_X1_reach at h
  refine JW.r hM 0 1 (pc2 := 1) (L2 := [some (.ref 0), none, none, none, none]) (st2 := [.ref 0]) (μ2 := (hEn G J)) rfl trivial ?_
  obtain ⟨v2, hv1, h⟩ := jbd h
  refine JW.cV (v := some (.int v2)) hM (m_X1_whole (jVX X) hM.1.2.2.2.2.2.2.2.2.2.1 N G J v2 hv1) (sb_En_En_0 G J) (bi_En_En_0 G J) rfl rfl rfl kc_X1_98 rfl rfl rfl rfl rfl (jat hM.2.1 1 rfl) (st := []) rfl ?_
  show JW X 0 0 4 [some (.ref 0), none, none, none, none] [.int v2] (hEn G J)
  refine JW.r hM 2 3 (pc2 := 7) (L2 := [some (.ref 0), some (.int v2), some (.int (0 : Int32)), none, none]) (st2 := []) (μ2 := (hEn G J)) rfl trivial ?_
  exact t_X1_reach_b7 hM hp N J N G v2 (0 : Int32) h hq
theorem m_X1_reach (V : jV) (hV : V.1.stackTraces = false) (N : Nat) (G : Nat → Nat → Int32) (J : Nat → Nat → Int64) (v : (Nat → Nat → Int32)) (h : p_X1_reach N G J = some v) : jMet V yX1_reach (jws yX1_reach cX1_reach 5 none) ⟨1, 0, 0, 26⟩ true 1 [.ref 0] (hEn G J) (fun o ν => o = none ∧ ν = (hEn v J)) (fun _ _ => False) := by
  refine jmk (tb := tbX1) (C := kX1_reach) hV rfl (by decide) tbX1_ok rfl kX1_reach_ok rfl ?_
  intro X hM _ hp _
  exact t_X1_reach hM hp N G J h ⟨rfl, rfl⟩
def p_X1_lay_b99 (N : Nat) (J : Nat → Nat → Int64) (G : Nat → Nat → Int32) : Option (Int32 × (Nat → Nat → Int32)) :=
  (p_X1_reach N (jvw G 0) (jvw J 0)).bind (fun v18 => jlt (jpt G 0 11 v18) fun G19 => some ((1 : Int32), G19))
def p_X1_lay_b93 (N : Nat) (J : Nat → Nat → Int64) (rv57 : (Nat → Nat → Int32) → Int32 → Int32 → Option (Int32 × (Nat → Nat → Int32))) (G : Nat → Nat → Int32) (x4 : Int32) (x5 : Int32) : Option (Int32 × (Nat → Nat → Int32)) :=
  rv57 G x4 (x5 + 1)
def p_X1_lay_b57 (N : Nat) (J : Nat → Nat → Int64) : Nat → (Nat → Nat → Int32) → (Int32) → (Int32) → Option (Int32 × (Nat → Nat → Int32))
  | 0, _, _, _ => none
  | n + 1, G, x4, x5 => if (G 11 7) ≤ x5 then (p_X1_lay_b99 N J G) else (if (10 : Int32) ≤ (G 0 4) then (p_X1_lay_b99 N J G) else (if ((x4 >>> (x5 &&& 31)) &&& (1 : Int32)) = (1 : Int32) then ((p_X1_layDeed N G J x5).bind (fun v22 => jlt v22 fun G23 => (p_X1_lay_b57 N J n) G23 x4 (x5 + 1))) else (p_X1_lay_b93 N J (p_X1_lay_b57 N J n) G x4 x5)))
def p_X1_lay (N : Nat) (G : Nat → Nat → Int32) (J : Nat → Nat → Int64) (p0 : Int32) (p1 : Int32) : Option (Int32 × (Nat → Nat → Int32)) :=
  (p_X3_openBits N (jvw G 11)).bind (fun v2 => (p_J6_bitCount_0f7a4 N v2).bind (fun v4 => if v4 ≤ (10 : Int32) then (jlt (jup G 0 1 (G 11 1)) fun G5 => jlt (jup G5 0 2 p1) fun G7 => jlt (jup G7 0 3 (p0 * (G7 0 1))) fun G9 => jlt (jup G9 0 4 (0 : Int32)) fun G11 => (p_J7_fill_53178_F6 N (jvw G11 4) (0 : Int32)).bind (fun v14 => jlt (jpt G11 4 1 v14) fun G15 => p_X1_lay_b57 N J N G15 v2 (0 : Int32))) else (some ((0 : Int32), G))))
set_option maxHeartbeats 4000000 in
set_option maxRecDepth 100000 in
theorem t_X1_lay_b99 {X : jX} {po : Option Value → jH → Prop} {px : String → jH → Prop} {sf : Bool} {B9 : Nat} (hM : jMX X kX1_lay RX1 tbX1 6 ⟨3, 0, 0, 64⟩ (some .boolean) 21) (hp : jPost X sf B9 po px) (N : Nat) (J : Nat → Nat → Int64) {res : Int32 × (Nat → Nat → Int32)} (G : Nat → Nat → Int32) (h : p_X1_lay_b99 N J G = some res) (hq : po (some (.int res.1)) (hET res.2 J)) : JW X 0 0 99 [some (.ref 0), none, none, none, none, none] [] (hET G J) := by
  unfold p_X1_lay_b99 at h
  refine JW.r hM 52 1 (pc2 := 100) (L2 := [some (.ref 0), none, none, none, none, none]) (st2 := [.ref 0]) (μ2 := (hET G J)) rfl trivial ?_
  obtain ⟨v18, hv17, h⟩ := jbd h
  refine JW.cV (v := none) hM (m_X1_reach (jVX X) hM.1.2.2.2.2.2.2.2.2.2.1 N (jvw G 0) (jvw J 0) v18 hv17) (sb_ET_En_0 G J) (bk_ET_En_0 G J v18 (jvw J 0)) rfl rfl rfl kc_X1_82 rfl rfl rfl rfl rfl (jat hM.2.1 53 rfl) (st := []) rfl ?_
  show JW X 0 0 103 [some (.ref 0), none, none, none, none, none] [] (hET (jpt G 0 11 v18) J)
  obtain ⟨G19, e20, h⟩ := jlE h
  rw [e20]
  refine JW.r hM 54 1 (pc2 := 104) (L2 := [some (.ref 0), none, none, none, none, none]) (st2 := [.int (1 : Int32)]) (μ2 := (hET G19 J)) rfl trivial ?_
  cases h
  exact js_zret hM.1 hp hM.2.2.2.2.2.2.2.1 rfl (by rw [hM.2.2.2.2.2.1]; exact Nat.le_of_ble_eq_true rfl) (by rw [hM.2.2.2.2.2.2.1]; exact Nat.le_of_ble_eq_true rfl) (jat hM.2.1 55 rfl) hq
set_option maxHeartbeats 4000000 in
set_option maxRecDepth 100000 in
theorem t_X1_lay_b93 {X : jX} {po : Option Value → jH → Prop} {px : String → jH → Prop} {sf : Bool} {B9 : Nat} (hM : jMX X kX1_lay RX1 tbX1 6 ⟨3, 0, 0, 64⟩ (some .boolean) 21) (hp : jPost X sf B9 po px) (N : Nat) (J : Nat → Nat → Int64) (rv57 : (Nat → Nat → Int32) → Int32 → Int32 → Option (Int32 × (Nat → Nat → Int32))) {res : Int32 × (Nat → Nat → Int32)} (ih57 : ∀ (G : Nat → Nat → Int32) (x4 : Int32) (x5 : Int32), rv57 G x4 x5 = some res → JW X 0 0 57 [some (.ref 0), some (.ref 11), none, none, some (.int x4), some (.int x5)] [] (hET G J)) (G : Nat → Nat → Int32) (x4 : Int32) (x5 : Int32) (h : p_X1_lay_b93 N J rv57 G x4 x5 = some res) (hq : po (some (.int res.1)) (hET res.2 J)) : JW X 0 0 93 [some (.ref 0), some (.ref 11), none, none, some (.int x4), some (.int x5)] [] (hET G J) := by
  unfold p_X1_lay_b93 at h
  refine JW.r hM 50 2 (pc2 := 57) (L2 := [some (.ref 0), some (.ref 11), none, none, some (.int x4), some (.int (x5 + 1))]) (st2 := []) (μ2 := (hET G J)) rfl trivial ?_
  exact ih57 G x4 (x5 + 1) h
set_option maxHeartbeats 4000000 in
set_option maxRecDepth 100000 in
theorem t_X1_lay_b57 {X : jX} {po : Option Value → jH → Prop} {px : String → jH → Prop} {sf : Bool} {B9 : Nat} (hM : jMX X kX1_lay RX1 tbX1 6 ⟨3, 0, 0, 64⟩ (some .boolean) 21) (hp : jPost X sf B9 po px) (N : Nat) (J : Nat → Nat → Int64) {res : Int32 × (Nat → Nat → Int32)} : ∀ (n : Nat) (G : Nat → Nat → Int32) (x4 : Int32) (x5 : Int32) (h : p_X1_lay_b57 N J n G x4 x5 = some res) (hq : po (some (.int res.1)) (hET res.2 J)), JW X 0 0 57 [some (.ref 0), some (.ref 11), none, none, some (.int x4), some (.int x5)] [] (hET G J) := by
  intro n
  induction n with
  | zero =>
    intro G x4 x5 h hq
    cases (show (none : Option (Int32 × (Nat → Nat → Int32))) = some res from h)
  | succ n ih57 =>
    intro G x4 x5 h hq
    have ih57 := fun G x4 x5 h9 => ih57 G x4 x5 h9 hq
    rw [p_X1_lay_b57] at h
    refine JW.r hM 31 3 (pc2 := 63) (L2 := [some (.ref 0), some (.ref 11), none, none, some (.int x4), some (.int x5)]) (st2 := [.int (G 11 7), .int x5]) (μ2 := (hET G J)) rfl trivial ?_
    refine js_icge (t := 99) hM.1 (jat hM.2.1 34 rfl) rfl (fun hc27 => ?_) (fun hc27 => ?_)
    · have h := (if_pos hc27).symm.trans h
      exact JW.mask [true, false, false, false, false, false] (t_X1_lay_b99 hM hp N J G h hq)
    · have h := (if_neg hc27).symm.trans h
      refine JW.r hM 35 3 (pc2 := 72) (L2 := [some (.ref 0), some (.ref 11), none, none, some (.int x4), some (.int x5)]) (st2 := [.int (10 : Int32), .int (G 0 4)]) (μ2 := (hET G J)) rfl trivial ?_
      refine js_icge (t := 99) hM.1 (jat hM.2.1 38 rfl) rfl (fun hc26 => ?_) (fun hc26 => ?_)
      · have h := (if_pos hc26).symm.trans h
        exact JW.mask [true, false, false, false, false, false] (t_X1_lay_b99 hM hp N J G h hq)
      · have h := (if_neg hc26).symm.trans h
        refine JW.r hM 39 6 (pc2 := 83) (L2 := [some (.ref 0), some (.ref 11), none, none, some (.int x4), some (.int x5)]) (st2 := [.int (1 : Int32), .int ((x4 >>> (x5 &&& 31)) &&& (1 : Int32))]) (μ2 := (hET G J)) rfl trivial ?_
        refine js_icne (t := 93) hM.1 (jat hM.2.1 45 rfl) rfl (fun hc25 => ?_) (fun hc25 => ?_)
        · have h := (if_neg hc25).symm.trans h
          exact t_X1_lay_b93 hM hp N J (p_X1_lay_b57 N J n) ih57 G x4 x5 h hq
        · have h := (if_pos hc25).symm.trans h
          refine JW.r hM 46 3 (pc2 := 90) (L2 := [some (.ref 0), some (.ref 11), none, none, some (.int x4), some (.int x5)]) (st2 := [.int x5, .ref 11, .ref 0]) (μ2 := (hET G J)) rfl trivial ?_
          obtain ⟨v22, hv21, h⟩ := jbd h
          refine JW.cV (v := none) hM (m_X1_layDeed (jVX X) hM.1.2.2.2.2.2.2.2.2.2.1 N G J x5 v22 hv21) (sb_ET_ET_0_11 G J) (bk_ET_ET_0_11 G J v22 J) rfl rfl rfl kc_X1_78 rfl rfl rfl rfl rfl (jat hM.2.1 49 rfl) (st := []) rfl ?_
          show JW X 0 0 93 [some (.ref 0), some (.ref 11), none, none, some (.int x4), some (.int x5)] [] (hET v22 J)
          obtain ⟨G23, e24, h⟩ := jlE h
          rw [e24]
          refine JW.r hM 50 2 (pc2 := 57) (L2 := [some (.ref 0), some (.ref 11), none, none, some (.int x4), some (.int (x5 + 1))]) (st2 := []) (μ2 := (hET G23 J)) rfl trivial ?_
          exact ih57 G23 x4 (x5 + 1) h
set_option maxHeartbeats 4000000 in
set_option maxRecDepth 100000 in
theorem t_X1_lay {X : jX} {po : Option Value → jH → Prop} {px : String → jH → Prop} {sf : Bool} {B9 : Nat} (hM : jMX X kX1_lay RX1 tbX1 6 ⟨3, 0, 0, 64⟩ (some .boolean) 21) (hp : jPost X sf B9 po px) (N : Nat) (G : Nat → Nat → Int32) (J : Nat → Nat → Int64) (p0 : Int32) (p1 : Int32) {res : Int32 × (Nat → Nat → Int32)} (h : p_X1_lay N G J p0 p1 = some res) (hq : po (some (.int res.1)) (hET res.2 J)) : JW X 0 0 0 [some (.ref 0), some (.ref 11), some (.int p0), some (.int p1), none, none] [] (hET G J) := by
  unfold p_X1_lay at h
  refine JW.r hM 0 1 (pc2 := 1) (L2 := [some (.ref 0), some (.ref 11), some (.int p0), some (.int p1), none, none]) (st2 := [.ref 11]) (μ2 := (hET G J)) rfl trivial ?_
  obtain ⟨v2, hv1, h⟩ := jbd h
  refine JW.cV (v := some (.int v2)) hM (m_X3_openBits (jVX X) hM.1.2.2.2.2.2.2.2.2.2.1 N (jvw G 11) v2 hv1) (sb_ET_Town_11 G J) (bi_ET_Town_11 G J) rfl rfl rfl kc_X1_43 rfl rfl rfl rfl rfl (jat hM.2.1 1 rfl) (st := []) rfl ?_
  show JW X 0 0 4 [some (.ref 0), some (.ref 11), some (.int p0), some (.int p1), none, none] [.int v2] (hET G J)
  refine JW.r hM 2 2 (pc2 := 8) (L2 := [some (.ref 0), some (.ref 11), some (.int p0), some (.int p1), some (.int v2), none]) (st2 := [.int v2]) (μ2 := (hET G J)) rfl trivial ?_
  obtain ⟨v4, hv3, h⟩ := jbd h
  refine JW.cS (v := some (.int v4)) hM (m_J6_bitCount_0f7a4 (jVX X) hM.1.2.2.2.2.2.2.2.2.2.1 N v2 v4 hv3) (sb_ET_E_ G J) (bi_ET_E_ G J) rfl rfl rfl kc_X1_49 rfl rfl rfl (jat hM.2.1 4 rfl) (st := []) rfl ?_
  show JW X 0 0 11 [some (.ref 0), some (.ref 11), some (.int p0), some (.int p1), some (.int v2), none] [.int v4] (hET G J)
  refine JW.r hM 5 1 (pc2 := 13) (L2 := [some (.ref 0), some (.ref 11), some (.int p0), some (.int p1), some (.int v2), none]) (st2 := [.int (10 : Int32), .int v4]) (μ2 := (hET G J)) rfl trivial ?_
  refine js_icle (t := 18) hM.1 (jat hM.2.1 6 rfl) rfl (fun hc28 => ?_) (fun hc28 => ?_)
  · have h := (if_pos hc28).symm.trans h
    obtain ⟨G5, e6, h⟩ := jlE h
    refine JW.r hM 9 4 (pc2 := 26) (L2 := [some (.ref 0), some (.ref 11), some (.int p0), some (.int p1), some (.int v2), none]) (st2 := []) (μ2 := (hET (jup G 0 1 (G 11 1)) J)) rfl trivial ?_
    rw [e6]
    obtain ⟨G7, e8, h⟩ := jlE h
    refine JW.r hM 13 3 (pc2 := 31) (L2 := [some (.ref 0), some (.ref 11), some (.int p0), some (.int p1), some (.int v2), none]) (st2 := []) (μ2 := (hET (jup G5 0 2 p1) J)) rfl trivial ?_
    rw [e8]
    obtain ⟨G9, e10, h⟩ := jlE h
    refine JW.r hM 16 6 (pc2 := 41) (L2 := [some (.ref 0), some (.ref 11), some (.int p0), some (.int p1), some (.int v2), none]) (st2 := []) (μ2 := (hET (jup G7 0 3 (p0 * (G7 0 1))) J)) rfl trivial ?_
    rw [e10]
    obtain ⟨G11, e12, h⟩ := jlE h
    refine JW.r hM 22 3 (pc2 := 46) (L2 := [some (.ref 0), some (.ref 11), some (.int p0), some (.int p1), some (.int v2), none]) (st2 := []) (μ2 := (hET (jup G9 0 4 (0 : Int32)) J)) rfl trivial ?_
    rw [e12]
    refine JW.r hM 25 3 (pc2 := 51) (L2 := [some (.ref 0), some (.ref 11), some (.int p0), some (.int p1), some (.int v2), none]) (st2 := [.int (0 : Int32), .ref 4]) (μ2 := (hET G11 J)) rfl trivial ?_
    obtain ⟨v14, hv13, h⟩ := jbd h
    refine JW.cS (v := none) hM (m_J7_fill_53178_F6 (jVX X) hM.1.2.2.2.2.2.2.2.2.2.1 N (jvw G11 4) (0 : Int32) v14 hv13) (sb_ET_F6_4 G11 J) (bk_ET_F6_4 G11 J v14) rfl rfl rfl kc_X1_69 rfl rfl rfl (jat hM.2.1 28 rfl) (st := []) rfl ?_
    show JW X 0 0 54 [some (.ref 0), some (.ref 11), some (.int p0), some (.int p1), some (.int v2), none] [] (hET (jpt G11 4 1 v14) J)
    obtain ⟨G15, e16, h⟩ := jlE h
    rw [e16]
    refine JW.r hM 29 2 (pc2 := 57) (L2 := [some (.ref 0), some (.ref 11), some (.int p0), some (.int p1), some (.int v2), some (.int (0 : Int32))]) (st2 := []) (μ2 := (hET G15 J)) rfl trivial ?_
    exact JW.mask [true, true, false, false, true, true] (t_X1_lay_b57 hM hp N J N G15 v2 (0 : Int32) h hq)
  · have h := (if_neg hc28).symm.trans h
    refine JW.r hM 7 1 (pc2 := 17) (L2 := [some (.ref 0), some (.ref 11), some (.int p0), some (.int p1), some (.int v2), none]) (st2 := [.int (0 : Int32)]) (μ2 := (hET G J)) rfl trivial ?_
    cases h
    exact js_zret hM.1 hp hM.2.2.2.2.2.2.2.1 rfl (by rw [hM.2.2.2.2.2.1]; exact Nat.le_of_ble_eq_true rfl) (by rw [hM.2.2.2.2.2.2.1]; exact Nat.le_of_ble_eq_true rfl) (jat hM.2.1 8 rfl) hq
theorem m_X1_lay (V : jV) (hV : V.1.stackTraces = false) (N : Nat) (G : Nat → Nat → Int32) (J : Nat → Nat → Int64) (p0 : Int32) (p1 : Int32) (v : Int32 × (Nat → Nat → Int32)) (h : p_X1_lay N G J p0 p1 = some v) : jMet V yX1_lay (jws yX1_lay cX1_lay 6 (some .boolean)) ⟨3, 0, 0, 64⟩ true 1 [.ref 0, .ref 11, .int p0, .int p1] (hET G J) (fun o ν => o = some (.int v.1) ∧ ν = (hET v.2 J)) (fun _ _ => False) := by
  refine jmk (tb := tbX1) (C := kX1_lay) hV rfl (by decide) tbX1_ok rfl kX1_lay_ok rfl ?_
  intro X hM _ hp _
  exact t_X1_lay hM hp N G J p0 p1 h ⟨rfl, rfl⟩
def p_X1_weigh_b12 (N : Nat) (J : Nat → Nat → Int64) (rv2 : (Nat → Nat → Int32) → Int32 → Option ((Nat → Nat → Int32))) : Nat → (Nat → Nat → Int32) → (Int32) → (Int32) → Option ((Nat → Nat → Int32))
  | 0, _, _, _ => none
  | n + 1, G, x2, x3 => if (G 0 4) ≤ x3 then (rv2 G (x2 + 1)) else (if jin x3 10 = true then (p_X3_partOfUndoer N (jvw G 11) (G 1 x3.toNatClampNeg) x2).bind (fun v3 => if jin ((x2 * (10 : Int32)) + x3) 60 = true then jlt (jup G 5 ((x2 * (10 : Int32)) + x3).toNatClampNeg v3) fun G5 => if jin x3 10 = true then (p_X3_partOfOther N (jvw G5 11) (G5 1 x3.toNatClampNeg) x2).bind (fun v9 => if jin ((x2 * (10 : Int32)) + x3) 60 = true then jlt (jup G5 6 ((x2 * (10 : Int32)) + x3).toNatClampNeg v9) fun G11 => (p_X1_weigh_b12 N J rv2 n) G11 x2 (x3 + 1) else none) else none else none) else none)
def p_X1_weigh_b2 (N : Nat) (J : Nat → Nat → Int64) : Nat → (Nat → Nat → Int32) → (Int32) → Option ((Nat → Nat → Int32))
  | 0, _, _ => none
  | n + 1, G, x2 => if (G 0 1) ≤ x2 then (some G) else (p_X1_weigh_b12 N J (p_X1_weigh_b2 N J n) N G x2 (0 : Int32))
def p_X1_weigh (N : Nat) (G : Nat → Nat → Int32) (J : Nat → Nat → Int64) : Option ((Nat → Nat → Int32)) :=
  p_X1_weigh_b2 N J N G (0 : Int32)
set_option maxHeartbeats 4000000 in
set_option maxRecDepth 100000 in
theorem t_X1_weigh_b12 {X : jX} {po : Option Value → jH → Prop} {px : String → jH → Prop} {sf : Bool} {B9 : Nat} (hM : jMX X kX1_weigh RX1 tbX1 4 ⟨3, 0, 0, 69⟩ none 21) (hp : jPost X sf B9 po px) (N : Nat) (J : Nat → Nat → Int64) (rv2 : (Nat → Nat → Int32) → Int32 → Option ((Nat → Nat → Int32))) {res : (Nat → Nat → Int32)} (ih2 : ∀ (G : Nat → Nat → Int32) (x2 : Int32), rv2 G x2 = some res → JW X 0 0 2 [some (.ref 0), some (.ref 11), some (.int x2), none] [] (hET G J)) : ∀ (n : Nat) (G : Nat → Nat → Int32) (x2 : Int32) (x3 : Int32) (h : p_X1_weigh_b12 N J rv2 n G x2 x3 = some res) (hq : po none (hET res J)), JW X 0 0 12 [some (.ref 0), some (.ref 11), some (.int x2), some (.int x3)] [] (hET G J) := by
  intro n
  induction n with
  | zero =>
    intro G x2 x3 h hq
    cases (show (none : Option ((Nat → Nat → Int32))) = some res from h)
  | succ n ih12 =>
    intro G x2 x3 h hq
    have ih12 := fun G x2 x3 h9 => ih12 G x2 x3 h9 hq
    rw [p_X1_weigh_b12] at h
    refine JW.r hM 8 3 (pc2 := 17) (L2 := [some (.ref 0), some (.ref 11), some (.int x2), some (.int x3)]) (st2 := [.int (G 0 4), .int x3]) (μ2 := (hET G J)) rfl trivial ?_
    refine js_icge (t := 70) hM.1 (jat hM.2.1 11 rfl) rfl (fun hc13 => ?_) (fun hc13 => ?_)
    · have h := (if_pos hc13).symm.trans h
      refine JW.r hM 44 2 (pc2 := 2) (L2 := [some (.ref 0), some (.ref 11), some (.int (x2 + 1)), some (.int x3)]) (st2 := []) (μ2 := (hET G J)) rfl trivial ?_
      exact JW.mask [true, true, true, false] (ih2 G (x2 + 1) h)
    · have h := (if_neg hc13).symm.trans h
      obtain ⟨g1, h⟩ := jg h
      refine JW.r hM 12 13 (pc2 := 38) (L2 := [some (.ref 0), some (.ref 11), some (.int x2), some (.int x3)]) (st2 := [.int x2, .int (G 1 x3.toNatClampNeg), .ref 11, .int ((x2 * (10 : Int32)) + x3), .ref 5]) (μ2 := (hET G J)) rfl ⟨g1, trivial⟩ ?_
      obtain ⟨v3, hv2, h⟩ := jbd h
      refine JW.cV (v := some (.int v3)) hM (m_X3_partOfUndoer (jVX X) hM.1.2.2.2.2.2.2.2.2.2.1 N (jvw G 11) (G 1 x3.toNatClampNeg) x2 v3 hv2) (sb_ET_Town_11 G J) (bi_ET_Town_11 G J) rfl rfl rfl kc_X1_121 rfl rfl rfl rfl rfl (jat hM.2.1 25 rfl) (st := [.int ((x2 * (10 : Int32)) + x3), .ref 5]) rfl ?_
      show JW X 0 0 41 [some (.ref 0), some (.ref 11), some (.int x2), some (.int x3)] [.int v3, .int ((x2 * (10 : Int32)) + x3), .ref 5] (hET G J)
      obtain ⟨g4, h⟩ := jg h
      obtain ⟨G5, e6, h⟩ := jlE h
      refine JW.r hM 26 1 (pc2 := 42) (L2 := [some (.ref 0), some (.ref 11), some (.int x2), some (.int x3)]) (st2 := []) (μ2 := (hET (jup G 5 ((x2 * (10 : Int32)) + x3).toNatClampNeg v3) J)) rfl ⟨g4, trivial⟩ ?_
      rw [e6]
      obtain ⟨g7, h⟩ := jg h
      refine JW.r hM 27 13 (pc2 := 60) (L2 := [some (.ref 0), some (.ref 11), some (.int x2), some (.int x3)]) (st2 := [.int x2, .int (G5 1 x3.toNatClampNeg), .ref 11, .int ((x2 * (10 : Int32)) + x3), .ref 6]) (μ2 := (hET G5 J)) rfl ⟨g7, trivial⟩ ?_
      obtain ⟨v9, hv8, h⟩ := jbd h
      refine JW.cV (v := some (.int v9)) hM (m_X3_partOfOther (jVX X) hM.1.2.2.2.2.2.2.2.2.2.1 N (jvw G5 11) (G5 1 x3.toNatClampNeg) x2 v9 hv8) (sb_ET_Town_11 G5 J) (bi_ET_Town_11 G5 J) rfl rfl rfl kc_X1_125 rfl rfl rfl rfl rfl (jat hM.2.1 40 rfl) (st := [.int ((x2 * (10 : Int32)) + x3), .ref 6]) rfl ?_
      show JW X 0 0 63 [some (.ref 0), some (.ref 11), some (.int x2), some (.int x3)] [.int v9, .int ((x2 * (10 : Int32)) + x3), .ref 6] (hET G5 J)
      obtain ⟨g10, h⟩ := jg h
      obtain ⟨G11, e12, h⟩ := jlE h
      refine JW.r hM 41 1 (pc2 := 64) (L2 := [some (.ref 0), some (.ref 11), some (.int x2), some (.int x3)]) (st2 := []) (μ2 := (hET (jup G5 6 ((x2 * (10 : Int32)) + x3).toNatClampNeg v9) J)) rfl ⟨g10, trivial⟩ ?_
      rw [e12]
      refine JW.r hM 42 2 (pc2 := 12) (L2 := [some (.ref 0), some (.ref 11), some (.int x2), some (.int (x3 + 1))]) (st2 := []) (μ2 := (hET G11 J)) rfl trivial ?_
      exact ih12 G11 x2 (x3 + 1) h
set_option maxHeartbeats 4000000 in
set_option maxRecDepth 100000 in
theorem t_X1_weigh_b2 {X : jX} {po : Option Value → jH → Prop} {px : String → jH → Prop} {sf : Bool} {B9 : Nat} (hM : jMX X kX1_weigh RX1 tbX1 4 ⟨3, 0, 0, 69⟩ none 21) (hp : jPost X sf B9 po px) (N : Nat) (J : Nat → Nat → Int64) {res : (Nat → Nat → Int32)} : ∀ (n : Nat) (G : Nat → Nat → Int32) (x2 : Int32) (h : p_X1_weigh_b2 N J n G x2 = some res) (hq : po none (hET res J)), JW X 0 0 2 [some (.ref 0), some (.ref 11), some (.int x2), none] [] (hET G J) := by
  intro n
  induction n with
  | zero =>
    intro G x2 h hq
    cases (show (none : Option ((Nat → Nat → Int32))) = some res from h)
  | succ n ih2 =>
    intro G x2 h hq
    have ih2 := fun G x2 h9 => ih2 G x2 h9 hq
    rw [p_X1_weigh_b2] at h
    refine JW.r hM 2 3 (pc2 := 7) (L2 := [some (.ref 0), some (.ref 11), some (.int x2), none]) (st2 := [.int (G 0 1), .int x2]) (μ2 := (hET G J)) rfl trivial ?_
    refine js_icge (t := 76) hM.1 (jat hM.2.1 5 rfl) rfl (fun hc14 => ?_) (fun hc14 => ?_)
    · have h := (if_pos hc14).symm.trans h
      cases h
      exact js_vret hM.1 hp hM.2.2.2.2.2.2.2.1 (by rw [hM.2.2.2.2.2.1]; exact Nat.le_of_ble_eq_true rfl) (by rw [hM.2.2.2.2.2.2.1]; exact Nat.le_of_ble_eq_true rfl) (jat hM.2.1 46 rfl) hq
    · have h := (if_neg hc14).symm.trans h
      refine JW.r hM 6 2 (pc2 := 12) (L2 := [some (.ref 0), some (.ref 11), some (.int x2), some (.int (0 : Int32))]) (st2 := []) (μ2 := (hET G J)) rfl trivial ?_
      exact t_X1_weigh_b12 hM hp N J (p_X1_weigh_b2 N J n) ih2 N G x2 (0 : Int32) h hq
set_option maxHeartbeats 4000000 in
set_option maxRecDepth 100000 in
theorem t_X1_weigh {X : jX} {po : Option Value → jH → Prop} {px : String → jH → Prop} {sf : Bool} {B9 : Nat} (hM : jMX X kX1_weigh RX1 tbX1 4 ⟨3, 0, 0, 69⟩ none 21) (hp : jPost X sf B9 po px) (N : Nat) (G : Nat → Nat → Int32) (J : Nat → Nat → Int64) {res : (Nat → Nat → Int32)} (h : p_X1_weigh N G J = some res) (hq : po none (hET res J)) : JW X 0 0 0 [some (.ref 0), some (.ref 11), none, none] [] (hET G J) := by
  unfold p_X1_weigh at h
  refine JW.r hM 0 2 (pc2 := 2) (L2 := [some (.ref 0), some (.ref 11), some (.int (0 : Int32)), none]) (st2 := []) (μ2 := (hET G J)) rfl trivial ?_
  exact t_X1_weigh_b2 hM hp N J N G (0 : Int32) h hq
theorem m_X1_weigh (V : jV) (hV : V.1.stackTraces = false) (N : Nat) (G : Nat → Nat → Int32) (J : Nat → Nat → Int64) (v : (Nat → Nat → Int32)) (h : p_X1_weigh N G J = some v) : jMet V yX1_weigh (jws yX1_weigh cX1_weigh 4 none) ⟨3, 0, 0, 69⟩ true 1 [.ref 0, .ref 11] (hET G J) (fun o ν => o = none ∧ ν = (hET v J)) (fun _ _ => False) := by
  refine jmk (tb := tbX1) (C := kX1_weigh) hV rfl (by decide) tbX1_ok rfl kX1_weigh_ok rfl ?_
  intro X hM _ hp _
  exact t_X1_weigh hM hp N G J h ⟨rfl, rfl⟩
def p_X1_forget_b9 (N : Nat) : Nat → (Nat → Nat → Int32) → (Nat → Nat → Int64) → (Int32) → (Int32) → Option ((Nat → Nat → Int32) × (Nat → Nat → Int64))
  | 0, _, _, _, _ => none
  | n + 1, G, J, x1, x2 => if (G 0 1) ≤ x2 then (some (G, J)) else (if jin x1 1024 = true then if (G 8 x1.toNatClampNeg) = 0 then (some (G, J)) else (if jin ((x1 * (6 : Int32)) + x2) 6144 = true then jlt (jup G 7 ((x1 * (6 : Int32)) + x2).toNatClampNeg (0 : Int32)) fun G6 => (p_X1_forget_b9 N n) G6 J x1 (x2 + 1) else none) else none)
def p_X1_forget (N : Nat) (G : Nat → Nat → Int32) (J : Nat → Nat → Int64) (p0 : Int32) : Option ((Nat → Nat → Int32) × (Nat → Nat → Int64)) :=
  if jin p0 1024 = true then jlt (jupL J 9 p0.toNatClampNeg (0 : Int64)) fun J2 => p_X1_forget_b9 N N G J2 p0 (0 : Int32) else none
set_option maxHeartbeats 4000000 in
set_option maxRecDepth 100000 in
theorem t_X1_forget_b9 {X : jX} {po : Option Value → jH → Prop} {px : String → jH → Prop} {sf : Bool} {B9 : Nat} (hM : jMX X kX1_forget RX1 tbX1 3 ⟨0, 0, 0, 0⟩ none 12) (hp : jPost X sf B9 po px) (N : Nat) {res : (Nat → Nat → Int32) × (Nat → Nat → Int64)} : ∀ (n : Nat) (G : Nat → Nat → Int32) (J : Nat → Nat → Int64) (x1 : Int32) (x2 : Int32) (h : p_X1_forget_b9 N n G J x1 x2 = some res) (hq : po none (hEn res.1 res.2)), JW X 0 0 9 [some (.ref 0), some (.int x1), some (.int x2)] [] (hEn G J) := by
  intro n
  induction n with
  | zero =>
    intro G J x1 x2 h hq
    cases (show (none : Option ((Nat → Nat → Int32) × (Nat → Nat → Int64))) = some res from h)
  | succ n ih9 =>
    intro G J x1 x2 h hq
    have ih9 := fun G J x1 x2 h9 => ih9 G J x1 x2 h9 hq
    rw [p_X1_forget_b9] at h
    refine JW.r hM 7 3 (pc2 := 14) (L2 := [some (.ref 0), some (.int x1), some (.int x2)]) (st2 := [.int (G 0 1), .int x2]) (μ2 := (hEn G J)) rfl trivial ?_
    refine js_icge (t := 44) hM.1 (jat hM.2.1 10 rfl) rfl (fun hc9 => ?_) (fun hc9 => ?_)
    · have h := (if_pos hc9).symm.trans h
      cases h
      exact js_vret hM.1 hp hM.2.2.2.2.2.2.2.1 (by rw [hM.2.2.2.2.2.1]; exact Nat.le_of_ble_eq_true rfl) (by rw [hM.2.2.2.2.2.2.1]; exact Nat.le_of_ble_eq_true rfl) (jat hM.2.1 27 rfl) hq
    · have h := (if_neg hc9).symm.trans h
      obtain ⟨g4, h⟩ := jg h
      refine JW.r hM 11 4 (pc2 := 23) (L2 := [some (.ref 0), some (.int x1), some (.int x2)]) (st2 := [.int (G 8 x1.toNatClampNeg)]) (μ2 := (hEn G J)) rfl ⟨g4, trivial⟩ ?_
      refine js_ifeq (t := 44) hM.1 (jat hM.2.1 15 rfl) rfl (fun hc8 => ?_) (fun hc8 => ?_)
      · have h := (if_pos hc8).symm.trans h
        cases h
        exact js_vret hM.1 hp hM.2.2.2.2.2.2.2.1 (by rw [hM.2.2.2.2.2.1]; exact Nat.le_of_ble_eq_true rfl) (by rw [hM.2.2.2.2.2.2.1]; exact Nat.le_of_ble_eq_true rfl) (jat hM.2.1 27 rfl) hq
      · have h := (if_neg hc8).symm.trans h
        obtain ⟨g5, h⟩ := jg h
        obtain ⟨G6, e7, h⟩ := jlE h
        refine JW.r hM 16 9 (pc2 := 38) (L2 := [some (.ref 0), some (.int x1), some (.int x2)]) (st2 := []) (μ2 := (hEn (jup G 7 ((x1 * (6 : Int32)) + x2).toNatClampNeg (0 : Int32)) J)) rfl ⟨g5, trivial⟩ ?_
        rw [e7]
        refine JW.r hM 25 2 (pc2 := 9) (L2 := [some (.ref 0), some (.int x1), some (.int (x2 + 1))]) (st2 := []) (μ2 := (hEn G6 J)) rfl trivial ?_
        exact ih9 G6 J x1 (x2 + 1) h
set_option maxHeartbeats 4000000 in
set_option maxRecDepth 100000 in
theorem t_X1_forget {X : jX} {po : Option Value → jH → Prop} {px : String → jH → Prop} {sf : Bool} {B9 : Nat} (hM : jMX X kX1_forget RX1 tbX1 3 ⟨0, 0, 0, 0⟩ none 12) (hp : jPost X sf B9 po px) (N : Nat) (G : Nat → Nat → Int32) (J : Nat → Nat → Int64) (p0 : Int32) {res : (Nat → Nat → Int32) × (Nat → Nat → Int64)} (h : p_X1_forget N G J p0 = some res) (hq : po none (hEn res.1 res.2)) : JW X 0 0 0 [some (.ref 0), some (.int p0), none] [] (hEn G J) := by
  unfold p_X1_forget at h
  obtain ⟨g1, h⟩ := jg h
  obtain ⟨J2, e3, h⟩ := jlE h
  refine JW.r hM 0 5 (pc2 := 7) (L2 := [some (.ref 0), some (.int p0), none]) (st2 := []) (μ2 := (hEn G (jupL J 9 p0.toNatClampNeg (0 : Int64)))) rfl ⟨g1, trivial⟩ ?_
  rw [e3]
  refine JW.r hM 5 2 (pc2 := 9) (L2 := [some (.ref 0), some (.int p0), some (.int (0 : Int32))]) (st2 := []) (μ2 := (hEn G J2)) rfl trivial ?_
  exact t_X1_forget_b9 hM hp N N G J2 p0 (0 : Int32) h hq
theorem m_X1_forget (V : jV) (hV : V.1.stackTraces = false) (N : Nat) (G : Nat → Nat → Int32) (J : Nat → Nat → Int64) (p0 : Int32) (v : (Nat → Nat → Int32) × (Nat → Nat → Int64)) (h : p_X1_forget N G J p0 = some v) : jMet V yX1_forget (jws yX1_forget cX1_forget 3 none) ⟨0, 0, 0, 0⟩ true 1 [.ref 0, .int p0] (hEn G J) (fun o ν => o = none ∧ ν = (hEn v.1 v.2)) (fun _ _ => False) := by
  refine jmk (tb := tbX1) (C := kX1_forget) hV rfl (by decide) tbX1_ok rfl kX1_forget_ok rfl ?_
  intro X hM _ hp _
  exact t_X1_forget hM hp N G J p0 h ⟨rfl, rfl⟩
def p_X1_sumOf_5_b47 (N : Nat) (G : Nat → Nat → Int32) (J : Nat → Nat → Int64) (rv7 : Int32 → Int32 → Int32 → Int32 → Option (Int32)) (x2 : Int32) (x3 : Int32) (x5 : Int32) (x6 : Int32) : Option (Int32) :=
  rv7 x2 x3 x5 (x6 + 1)
def p_X1_sumOf_5_b7 (N : Nat) (G : Nat → Nat → Int32) (J : Nat → Nat → Int64) : Nat → (Int32) → (Int32) → (Int32) → (Int32) → Option (Int32)
  | 0, _, _, _, _ => none
  | n + 1, x2, x3, x5, x6 => if (G 0 4) ≤ x6 then (some x5) else (if (x3 >>> (x6 &&& 31)) = 0 then (some x5) else (if ((x3 >>> (x6 &&& 31)) &&& (1 : Int32)) = (1 : Int32) then (if jin ((x2 * (10 : Int32)) + x6) 60 = true then p_X1_sumOf_5_b47 N G J (p_X1_sumOf_5_b7 N G J n) x2 x3 (x5 + (G 5 ((x2 * (10 : Int32)) + x6).toNatClampNeg)) x6 else none) else (p_X1_sumOf_5_b47 N G J (p_X1_sumOf_5_b7 N G J n) x2 x3 x5 x6)))
def p_X1_sumOf_5 (N : Nat) (G : Nat → Nat → Int32) (J : Nat → Nat → Int64) (p0 : Int32) (p1 : Int32) (p2 : Int32) : Option (Int32) :=
  p_X1_sumOf_5_b7 N G J N p0 p1 (0 : Int32) p2
set_option maxHeartbeats 4000000 in
set_option maxRecDepth 100000 in
theorem t_X1_sumOf_5_b47 {X : jX} {po : Option Value → jH → Prop} {px : String → jH → Prop} {sf : Bool} {B9 : Nat} (hM : jMX X kX1_sumOf RX1 tbX1 7 ⟨0, 0, 0, 0⟩ (some .int) 12) (hp : jPost X sf B9 po px) (N : Nat) (G : Nat → Nat → Int32) (J : Nat → Nat → Int64) (rv7 : Int32 → Int32 → Int32 → Int32 → Option (Int32)) {res : Int32} (ih7 : ∀ (x2 : Int32) (x3 : Int32) (x5 : Int32) (x6 : Int32), rv7 x2 x3 x5 x6 = some res → JW X 0 0 7 [some (.ref 0), some (.ref 5), some (.int x2), some (.int x3), none, some (.int x5), some (.int x6)] [] (hEn G J)) (x2 : Int32) (x3 : Int32) (x5 : Int32) (x6 : Int32) (h : p_X1_sumOf_5_b47 N G J rv7 x2 x3 x5 x6 = some res) (hq : po (some (.int res)) (hEn G J)) : JW X 0 0 47 [some (.ref 0), some (.ref 5), some (.int x2), some (.int x3), none, some (.int x5), some (.int x6)] [] (hEn G J) := by
  unfold p_X1_sumOf_5_b47 at h
  refine JW.r hM 29 2 (pc2 := 7) (L2 := [some (.ref 0), some (.ref 5), some (.int x2), some (.int x3), none, some (.int x5), some (.int (x6 + 1))]) (st2 := []) (μ2 := (hEn G J)) rfl trivial ?_
  exact ih7 x2 x3 x5 (x6 + 1) h
set_option maxHeartbeats 4000000 in
set_option maxRecDepth 100000 in
theorem t_X1_sumOf_5_b7 {X : jX} {po : Option Value → jH → Prop} {px : String → jH → Prop} {sf : Bool} {B9 : Nat} (hM : jMX X kX1_sumOf RX1 tbX1 7 ⟨0, 0, 0, 0⟩ (some .int) 12) (hp : jPost X sf B9 po px) (N : Nat) (G : Nat → Nat → Int32) (J : Nat → Nat → Int64) {res : Int32} : ∀ (n : Nat) (x2 : Int32) (x3 : Int32) (x5 : Int32) (x6 : Int32) (h : p_X1_sumOf_5_b7 N G J n x2 x3 x5 x6 = some res) (hq : po (some (.int res)) (hEn G J)), JW X 0 0 7 [some (.ref 0), some (.ref 5), some (.int x2), some (.int x3), none, some (.int x5), some (.int x6)] [] (hEn G J) := by
  intro n
  induction n with
  | zero =>
    intro x2 x3 x5 x6 h hq
    cases (show (none : Option (Int32)) = some res from h)
  | succ n ih7 =>
    intro x2 x3 x5 x6 h hq
    have ih7 := fun x2 x3 x5 x6 h9 => ih7 x2 x3 x5 x6 h9 hq
    rw [p_X1_sumOf_5_b7] at h
    refine JW.r hM 4 3 (pc2 := 13) (L2 := [some (.ref 0), some (.ref 5), some (.int x2), some (.int x3), none, some (.int x5), some (.int x6)]) (st2 := [.int (G 0 4), .int x6]) (μ2 := (hEn G J)) rfl trivial ?_
    refine js_icge (t := 53) hM.1 (jat hM.2.1 7 rfl) rfl (fun hc4 => ?_) (fun hc4 => ?_)
    · have h := (if_pos hc4).symm.trans h
      refine JW.r hM 31 1 (pc2 := 55) (L2 := [some (.ref 0), some (.ref 5), some (.int x2), some (.int x3), none, some (.int x5), some (.int x6)]) (st2 := [.int x5]) (μ2 := (hEn G J)) rfl trivial ?_
      cases h
      exact js_iret hM.1 hp hM.2.2.2.2.2.2.2.1 (by rw [hM.2.2.2.2.2.1]; exact Nat.le_of_ble_eq_true rfl) (by rw [hM.2.2.2.2.2.2.1]; exact Nat.le_of_ble_eq_true rfl) (jat hM.2.1 32 rfl) hq
    · have h := (if_neg hc4).symm.trans h
      refine JW.r hM 8 3 (pc2 := 20) (L2 := [some (.ref 0), some (.ref 5), some (.int x2), some (.int x3), none, some (.int x5), some (.int x6)]) (st2 := [.int (x3 >>> (x6 &&& 31))]) (μ2 := (hEn G J)) rfl trivial ?_
      refine js_ifeq (t := 53) hM.1 (jat hM.2.1 11 rfl) rfl (fun hc3 => ?_) (fun hc3 => ?_)
      · have h := (if_pos hc3).symm.trans h
        refine JW.r hM 31 1 (pc2 := 55) (L2 := [some (.ref 0), some (.ref 5), some (.int x2), some (.int x3), none, some (.int x5), some (.int x6)]) (st2 := [.int x5]) (μ2 := (hEn G J)) rfl trivial ?_
        cases h
        exact js_iret hM.1 hp hM.2.2.2.2.2.2.2.1 (by rw [hM.2.2.2.2.2.1]; exact Nat.le_of_ble_eq_true rfl) (by rw [hM.2.2.2.2.2.2.1]; exact Nat.le_of_ble_eq_true rfl) (jat hM.2.1 32 rfl) hq
      · have h := (if_neg hc3).symm.trans h
        refine JW.r hM 12 6 (pc2 := 30) (L2 := [some (.ref 0), some (.ref 5), some (.int x2), some (.int x3), none, some (.int x5), some (.int x6)]) (st2 := [.int (1 : Int32), .int ((x3 >>> (x6 &&& 31)) &&& (1 : Int32))]) (μ2 := (hEn G J)) rfl trivial ?_
        refine js_icne (t := 47) hM.1 (jat hM.2.1 18 rfl) rfl (fun hc2 => ?_) (fun hc2 => ?_)
        · have h := (if_neg hc2).symm.trans h
          exact t_X1_sumOf_5_b47 hM hp N G J (p_X1_sumOf_5_b7 N G J n) ih7 x2 x3 x5 x6 h hq
        · have h := (if_pos hc2).symm.trans h
          obtain ⟨g1, h⟩ := jg h
          refine JW.r hM 19 10 (pc2 := 47) (L2 := [some (.ref 0), some (.ref 5), some (.int x2), some (.int x3), none, some (.int (x5 + (G 5 ((x2 * (10 : Int32)) + x6).toNatClampNeg))), some (.int x6)]) (st2 := []) (μ2 := (hEn G J)) rfl ⟨g1, trivial⟩ ?_
          exact t_X1_sumOf_5_b47 hM hp N G J (p_X1_sumOf_5_b7 N G J n) ih7 x2 x3 (x5 + (G 5 ((x2 * (10 : Int32)) + x6).toNatClampNeg)) x6 h hq
set_option maxHeartbeats 4000000 in
set_option maxRecDepth 100000 in
theorem t_X1_sumOf_5 {X : jX} {po : Option Value → jH → Prop} {px : String → jH → Prop} {sf : Bool} {B9 : Nat} (hM : jMX X kX1_sumOf RX1 tbX1 7 ⟨0, 0, 0, 0⟩ (some .int) 12) (hp : jPost X sf B9 po px) (N : Nat) (G : Nat → Nat → Int32) (J : Nat → Nat → Int64) (p0 : Int32) (p1 : Int32) (p2 : Int32) {res : Int32} (h : p_X1_sumOf_5 N G J p0 p1 p2 = some res) (hq : po (some (.int res)) (hEn G J)) : JW X 0 0 0 [some (.ref 0), some (.ref 5), some (.int p0), some (.int p1), some (.int p2), none, none] [] (hEn G J) := by
  unfold p_X1_sumOf_5 at h
  refine JW.r hM 0 4 (pc2 := 7) (L2 := [some (.ref 0), some (.ref 5), some (.int p0), some (.int p1), some (.int p2), some (.int (0 : Int32)), some (.int p2)]) (st2 := []) (μ2 := (hEn G J)) rfl trivial ?_
  exact JW.mask [true, true, true, true, false, true, true] (t_X1_sumOf_5_b7 hM hp N G J N p0 p1 (0 : Int32) p2 h hq)
theorem m_X1_sumOf_5 (V : jV) (hV : V.1.stackTraces = false) (N : Nat) (G : Nat → Nat → Int32) (J : Nat → Nat → Int64) (p0 : Int32) (p1 : Int32) (p2 : Int32) (v : Int32) (h : p_X1_sumOf_5 N G J p0 p1 p2 = some v) : jMet V yX1_sumOf (jws yX1_sumOf cX1_sumOf 7 (some .int)) ⟨0, 0, 0, 0⟩ true 1 [.ref 0, .ref 5, .int p0, .int p1, .int p2] (hEn G J) (fun o ν => o = some (.int v) ∧ ν = (hEn G J)) (fun _ _ => False) := by
  refine jmk (tb := tbX1) (C := kX1_sumOf) hV rfl (by decide) tbX1_ok rfl kX1_sumOf_ok rfl ?_
  intro X hM _ hp _
  exact t_X1_sumOf_5 hM hp N G J p0 p1 p2 h ⟨rfl, rfl⟩
def p_X1_sumOf_6_b47 (N : Nat) (G : Nat → Nat → Int32) (J : Nat → Nat → Int64) (rv7 : Int32 → Int32 → Int32 → Int32 → Option (Int32)) (x2 : Int32) (x3 : Int32) (x5 : Int32) (x6 : Int32) : Option (Int32) :=
  rv7 x2 x3 x5 (x6 + 1)
def p_X1_sumOf_6_b7 (N : Nat) (G : Nat → Nat → Int32) (J : Nat → Nat → Int64) : Nat → (Int32) → (Int32) → (Int32) → (Int32) → Option (Int32)
  | 0, _, _, _, _ => none
  | n + 1, x2, x3, x5, x6 => if (G 0 4) ≤ x6 then (some x5) else (if (x3 >>> (x6 &&& 31)) = 0 then (some x5) else (if ((x3 >>> (x6 &&& 31)) &&& (1 : Int32)) = (1 : Int32) then (if jin ((x2 * (10 : Int32)) + x6) 60 = true then p_X1_sumOf_6_b47 N G J (p_X1_sumOf_6_b7 N G J n) x2 x3 (x5 + (G 6 ((x2 * (10 : Int32)) + x6).toNatClampNeg)) x6 else none) else (p_X1_sumOf_6_b47 N G J (p_X1_sumOf_6_b7 N G J n) x2 x3 x5 x6)))
def p_X1_sumOf_6 (N : Nat) (G : Nat → Nat → Int32) (J : Nat → Nat → Int64) (p0 : Int32) (p1 : Int32) (p2 : Int32) : Option (Int32) :=
  p_X1_sumOf_6_b7 N G J N p0 p1 (0 : Int32) p2
set_option maxHeartbeats 4000000 in
set_option maxRecDepth 100000 in
theorem t_X1_sumOf_6_b47 {X : jX} {po : Option Value → jH → Prop} {px : String → jH → Prop} {sf : Bool} {B9 : Nat} (hM : jMX X kX1_sumOf RX1 tbX1 7 ⟨0, 0, 0, 0⟩ (some .int) 12) (hp : jPost X sf B9 po px) (N : Nat) (G : Nat → Nat → Int32) (J : Nat → Nat → Int64) (rv7 : Int32 → Int32 → Int32 → Int32 → Option (Int32)) {res : Int32} (ih7 : ∀ (x2 : Int32) (x3 : Int32) (x5 : Int32) (x6 : Int32), rv7 x2 x3 x5 x6 = some res → JW X 0 0 7 [some (.ref 0), some (.ref 6), some (.int x2), some (.int x3), none, some (.int x5), some (.int x6)] [] (hEn G J)) (x2 : Int32) (x3 : Int32) (x5 : Int32) (x6 : Int32) (h : p_X1_sumOf_6_b47 N G J rv7 x2 x3 x5 x6 = some res) (hq : po (some (.int res)) (hEn G J)) : JW X 0 0 47 [some (.ref 0), some (.ref 6), some (.int x2), some (.int x3), none, some (.int x5), some (.int x6)] [] (hEn G J) := by
  unfold p_X1_sumOf_6_b47 at h
  refine JW.r hM 29 2 (pc2 := 7) (L2 := [some (.ref 0), some (.ref 6), some (.int x2), some (.int x3), none, some (.int x5), some (.int (x6 + 1))]) (st2 := []) (μ2 := (hEn G J)) rfl trivial ?_
  exact ih7 x2 x3 x5 (x6 + 1) h
set_option maxHeartbeats 4000000 in
set_option maxRecDepth 100000 in
theorem t_X1_sumOf_6_b7 {X : jX} {po : Option Value → jH → Prop} {px : String → jH → Prop} {sf : Bool} {B9 : Nat} (hM : jMX X kX1_sumOf RX1 tbX1 7 ⟨0, 0, 0, 0⟩ (some .int) 12) (hp : jPost X sf B9 po px) (N : Nat) (G : Nat → Nat → Int32) (J : Nat → Nat → Int64) {res : Int32} : ∀ (n : Nat) (x2 : Int32) (x3 : Int32) (x5 : Int32) (x6 : Int32) (h : p_X1_sumOf_6_b7 N G J n x2 x3 x5 x6 = some res) (hq : po (some (.int res)) (hEn G J)), JW X 0 0 7 [some (.ref 0), some (.ref 6), some (.int x2), some (.int x3), none, some (.int x5), some (.int x6)] [] (hEn G J) := by
  intro n
  induction n with
  | zero =>
    intro x2 x3 x5 x6 h hq
    cases (show (none : Option (Int32)) = some res from h)
  | succ n ih7 =>
    intro x2 x3 x5 x6 h hq
    have ih7 := fun x2 x3 x5 x6 h9 => ih7 x2 x3 x5 x6 h9 hq
    rw [p_X1_sumOf_6_b7] at h
    refine JW.r hM 4 3 (pc2 := 13) (L2 := [some (.ref 0), some (.ref 6), some (.int x2), some (.int x3), none, some (.int x5), some (.int x6)]) (st2 := [.int (G 0 4), .int x6]) (μ2 := (hEn G J)) rfl trivial ?_
    refine js_icge (t := 53) hM.1 (jat hM.2.1 7 rfl) rfl (fun hc4 => ?_) (fun hc4 => ?_)
    · have h := (if_pos hc4).symm.trans h
      refine JW.r hM 31 1 (pc2 := 55) (L2 := [some (.ref 0), some (.ref 6), some (.int x2), some (.int x3), none, some (.int x5), some (.int x6)]) (st2 := [.int x5]) (μ2 := (hEn G J)) rfl trivial ?_
      cases h
      exact js_iret hM.1 hp hM.2.2.2.2.2.2.2.1 (by rw [hM.2.2.2.2.2.1]; exact Nat.le_of_ble_eq_true rfl) (by rw [hM.2.2.2.2.2.2.1]; exact Nat.le_of_ble_eq_true rfl) (jat hM.2.1 32 rfl) hq
    · have h := (if_neg hc4).symm.trans h
      refine JW.r hM 8 3 (pc2 := 20) (L2 := [some (.ref 0), some (.ref 6), some (.int x2), some (.int x3), none, some (.int x5), some (.int x6)]) (st2 := [.int (x3 >>> (x6 &&& 31))]) (μ2 := (hEn G J)) rfl trivial ?_
      refine js_ifeq (t := 53) hM.1 (jat hM.2.1 11 rfl) rfl (fun hc3 => ?_) (fun hc3 => ?_)
      · have h := (if_pos hc3).symm.trans h
        refine JW.r hM 31 1 (pc2 := 55) (L2 := [some (.ref 0), some (.ref 6), some (.int x2), some (.int x3), none, some (.int x5), some (.int x6)]) (st2 := [.int x5]) (μ2 := (hEn G J)) rfl trivial ?_
        cases h
        exact js_iret hM.1 hp hM.2.2.2.2.2.2.2.1 (by rw [hM.2.2.2.2.2.1]; exact Nat.le_of_ble_eq_true rfl) (by rw [hM.2.2.2.2.2.2.1]; exact Nat.le_of_ble_eq_true rfl) (jat hM.2.1 32 rfl) hq
      · have h := (if_neg hc3).symm.trans h
        refine JW.r hM 12 6 (pc2 := 30) (L2 := [some (.ref 0), some (.ref 6), some (.int x2), some (.int x3), none, some (.int x5), some (.int x6)]) (st2 := [.int (1 : Int32), .int ((x3 >>> (x6 &&& 31)) &&& (1 : Int32))]) (μ2 := (hEn G J)) rfl trivial ?_
        refine js_icne (t := 47) hM.1 (jat hM.2.1 18 rfl) rfl (fun hc2 => ?_) (fun hc2 => ?_)
        · have h := (if_neg hc2).symm.trans h
          exact t_X1_sumOf_6_b47 hM hp N G J (p_X1_sumOf_6_b7 N G J n) ih7 x2 x3 x5 x6 h hq
        · have h := (if_pos hc2).symm.trans h
          obtain ⟨g1, h⟩ := jg h
          refine JW.r hM 19 10 (pc2 := 47) (L2 := [some (.ref 0), some (.ref 6), some (.int x2), some (.int x3), none, some (.int (x5 + (G 6 ((x2 * (10 : Int32)) + x6).toNatClampNeg))), some (.int x6)]) (st2 := []) (μ2 := (hEn G J)) rfl ⟨g1, trivial⟩ ?_
          exact t_X1_sumOf_6_b47 hM hp N G J (p_X1_sumOf_6_b7 N G J n) ih7 x2 x3 (x5 + (G 6 ((x2 * (10 : Int32)) + x6).toNatClampNeg)) x6 h hq
set_option maxHeartbeats 4000000 in
set_option maxRecDepth 100000 in
theorem t_X1_sumOf_6 {X : jX} {po : Option Value → jH → Prop} {px : String → jH → Prop} {sf : Bool} {B9 : Nat} (hM : jMX X kX1_sumOf RX1 tbX1 7 ⟨0, 0, 0, 0⟩ (some .int) 12) (hp : jPost X sf B9 po px) (N : Nat) (G : Nat → Nat → Int32) (J : Nat → Nat → Int64) (p0 : Int32) (p1 : Int32) (p2 : Int32) {res : Int32} (h : p_X1_sumOf_6 N G J p0 p1 p2 = some res) (hq : po (some (.int res)) (hEn G J)) : JW X 0 0 0 [some (.ref 0), some (.ref 6), some (.int p0), some (.int p1), some (.int p2), none, none] [] (hEn G J) := by
  unfold p_X1_sumOf_6 at h
  refine JW.r hM 0 4 (pc2 := 7) (L2 := [some (.ref 0), some (.ref 6), some (.int p0), some (.int p1), some (.int p2), some (.int (0 : Int32)), some (.int p2)]) (st2 := []) (μ2 := (hEn G J)) rfl trivial ?_
  exact JW.mask [true, true, true, true, false, true, true] (t_X1_sumOf_6_b7 hM hp N G J N p0 p1 (0 : Int32) p2 h hq)
theorem m_X1_sumOf_6 (V : jV) (hV : V.1.stackTraces = false) (N : Nat) (G : Nat → Nat → Int32) (J : Nat → Nat → Int64) (p0 : Int32) (p1 : Int32) (p2 : Int32) (v : Int32) (h : p_X1_sumOf_6 N G J p0 p1 p2 = some v) : jMet V yX1_sumOf (jws yX1_sumOf cX1_sumOf 7 (some .int)) ⟨0, 0, 0, 0⟩ true 1 [.ref 0, .ref 6, .int p0, .int p1, .int p2] (hEn G J) (fun o ν => o = some (.int v) ∧ ν = (hEn G J)) (fun _ _ => False) := by
  refine jmk (tb := tbX1) (C := kX1_sumOf) hV rfl (by decide) tbX1_ok rfl kX1_sumOf_ok rfl ?_
  intro X hM _ hp _
  exact t_X1_sumOf_6 hM hp N G J p0 p1 p2 h ⟨rfl, rfl⟩
def p_X1_settle_b51 (N : Nat) (J : Nat → Nat → Int64) (rv24 : (Nat → Nat → Int32) → Int32 → Int32 → Int32 → Int32 → Int32 → Int32 → Option ((Nat → Nat → Int32))) (G : Nat → Nat → Int32) (x1 : Int32) (x2 : Int32) (x3 : Int32) (x4 : Int32) (x5 : Int32) (x6 : Int32) : Option ((Nat → Nat → Int32)) :=
  (p_X1_sumOf_6 N G J x6 x4 x2).bind (fun v3 => if jin (x5 + x6) 6144 = true then if jin ((x1 * (6 : Int32)) + x6) 6144 = true then jlt (jup G 7 ((x1 * (6 : Int32)) + x6).toNatClampNeg ((G 7 (x5 + x6).toNatClampNeg) + v3)) fun G6 => rv24 G6 x1 x2 x3 x4 x5 (x6 + 1) else none else none)
def p_X1_settle_b51a (N : Nat) (J : Nat → Nat → Int64) (rv24 : (Nat → Nat → Int32) → Int32 → Int32 → Int32 → Int32 → Int32 → Int32 → Option ((Nat → Nat → Int32))) (G : Nat → Nat → Int32) (x1 : Int32) (x2 : Int32) (x3 : Int32) (x4 : Int32) (x5 : Int32) (x6 : Int32) : Option ((Nat → Nat → Int32)) :=
  (p_X1_sumOf_5 N G J x6 x4 x2).bind (fun v9 => if jin (x5 + x6) 6144 = true then if jin ((x1 * (6 : Int32)) + x6) 6144 = true then jlt (jup G 7 ((x1 * (6 : Int32)) + x6).toNatClampNeg ((G 7 (x5 + x6).toNatClampNeg) + v9)) fun G12 => rv24 G12 x1 x2 x3 x4 x5 (x6 + 1) else none else none)
def p_X1_settle_b24 (N : Nat) (J : Nat → Nat → Int64) : Nat → (Nat → Nat → Int32) → (Int32) → (Int32) → (Int32) → (Int32) → (Int32) → (Int32) → Option ((Nat → Nat → Int32))
  | 0, _, _, _, _, _, _, _ => none
  | n + 1, G, x1, x2, x3, x4, x5, x6 => if (G 0 1) ≤ x6 then (some G) else (if x6 = x3 then (p_X1_settle_b51a N J (p_X1_settle_b24 N J n) G x1 x2 x3 x4 x5 x6) else (p_X1_settle_b51 N J (p_X1_settle_b24 N J n) G x1 x2 x3 x4 x5 x6))
def p_X1_settle (N : Nat) (G : Nat → Nat → Int32) (J : Nat → Nat → Int64) (p0 : Int32) (p1 : Int32) (p2 : Int32) : Option ((Nat → Nat → Int32)) :=
  if jin p1 10 = true then p_X1_settle_b24 N J N G p0 p1 p2 (p0 &&& (G 2 p1.toNatClampNeg)) ((p0 &&& ((p0 &&& (G 2 p1.toNatClampNeg)) ^^^ (-1 : Int32))) * (6 : Int32)) (0 : Int32) else none
set_option maxHeartbeats 4000000 in
set_option maxRecDepth 100000 in
theorem t_X1_settle_b51 {X : jX} {po : Option Value → jH → Prop} {px : String → jH → Prop} {sf : Bool} {B9 : Nat} (hM : jMX X kX1_settle RX1 tbX1 8 ⟨1, 0, 0, 26⟩ none 12) (hp : jPost X sf B9 po px) (N : Nat) (J : Nat → Nat → Int64) (rv24 : (Nat → Nat → Int32) → Int32 → Int32 → Int32 → Int32 → Int32 → Int32 → Option ((Nat → Nat → Int32))) {res : (Nat → Nat → Int32)} (ih24 : ∀ (G : Nat → Nat → Int32) (x1 : Int32) (x2 : Int32) (x3 : Int32) (x4 : Int32) (x5 : Int32) (x6 : Int32), rv24 G x1 x2 x3 x4 x5 x6 = some res → JW X 0 0 24 [some (.ref 0), some (.int x1), some (.int x2), some (.int x3), some (.int x4), some (.int x5), some (.int x6), none] [] (hEn G J)) (G : Nat → Nat → Int32) (x1 : Int32) (x2 : Int32) (x3 : Int32) (x4 : Int32) (x5 : Int32) (x6 : Int32) (h : p_X1_settle_b51 N J rv24 G x1 x2 x3 x4 x5 x6 = some res) (hq : po none (hEn res J)) : JW X 0 0 51 [some (.ref 0), some (.int x1), some (.int x2), some (.int x3), some (.int x4), some (.int x5), some (.int x6), none] [.ref 6, .ref 0] (hEn G J) := by
  unfold p_X1_settle_b51 at h
  refine JW.r hM 30 3 (pc2 := 56) (L2 := [some (.ref 0), some (.int x1), some (.int x2), some (.int x3), some (.int x4), some (.int x5), some (.int x6), none]) (st2 := [.int x2, .int x4, .int x6, .ref 6, .ref 0]) (μ2 := (hEn G J)) rfl trivial ?_
  obtain ⟨v3, hv2, h⟩ := jbd h
  refine JW.cV (v := some (.int v3)) hM (m_X1_sumOf_6 (jVX X) hM.1.2.2.2.2.2.2.2.2.2.1 N G J x6 x4 x2 v3 hv2) (sb_En_En_0 G J) (bi_En_En_0 G J) rfl rfl rfl kc_X1_128 rfl rfl rfl rfl rfl (jat hM.2.1 33 rfl) (st := []) rfl ?_
  show JW X 0 0 59 [some (.ref 0), some (.int x1), some (.int x2), some (.int x3), some (.int x4), some (.int x5), some (.int x6), none] [.int v3] (hEn G J)
  obtain ⟨g4, h⟩ := jg h
  obtain ⟨g5, h⟩ := jg h
  obtain ⟨G6, e7, h⟩ := jlE h
  refine JW.r hM 34 17 (pc2 := 86) (L2 := [some (.ref 0), some (.int x1), some (.int x2), some (.int x3), some (.int x4), some (.int x5), some (.int x6), some (.int v3)]) (st2 := []) (μ2 := (hEn (jup G 7 ((x1 * (6 : Int32)) + x6).toNatClampNeg ((G 7 (x5 + x6).toNatClampNeg) + v3)) J)) rfl ⟨g4, g5, trivial⟩ ?_
  rw [e7]
  refine JW.r hM 51 2 (pc2 := 24) (L2 := [some (.ref 0), some (.int x1), some (.int x2), some (.int x3), some (.int x4), some (.int x5), some (.int (x6 + 1)), some (.int v3)]) (st2 := []) (μ2 := (hEn G6 J)) rfl trivial ?_
  exact JW.mask [true, true, true, true, true, true, true, false] (ih24 G6 x1 x2 x3 x4 x5 (x6 + 1) h)
set_option maxHeartbeats 4000000 in
set_option maxRecDepth 100000 in
theorem t_X1_settle_b51a {X : jX} {po : Option Value → jH → Prop} {px : String → jH → Prop} {sf : Bool} {B9 : Nat} (hM : jMX X kX1_settle RX1 tbX1 8 ⟨1, 0, 0, 26⟩ none 12) (hp : jPost X sf B9 po px) (N : Nat) (J : Nat → Nat → Int64) (rv24 : (Nat → Nat → Int32) → Int32 → Int32 → Int32 → Int32 → Int32 → Int32 → Option ((Nat → Nat → Int32))) {res : (Nat → Nat → Int32)} (ih24 : ∀ (G : Nat → Nat → Int32) (x1 : Int32) (x2 : Int32) (x3 : Int32) (x4 : Int32) (x5 : Int32) (x6 : Int32), rv24 G x1 x2 x3 x4 x5 x6 = some res → JW X 0 0 24 [some (.ref 0), some (.int x1), some (.int x2), some (.int x3), some (.int x4), some (.int x5), some (.int x6), none] [] (hEn G J)) (G : Nat → Nat → Int32) (x1 : Int32) (x2 : Int32) (x3 : Int32) (x4 : Int32) (x5 : Int32) (x6 : Int32) (h : p_X1_settle_b51a N J rv24 G x1 x2 x3 x4 x5 x6 = some res) (hq : po none (hEn res J)) : JW X 0 0 51 [some (.ref 0), some (.int x1), some (.int x2), some (.int x3), some (.int x4), some (.int x5), some (.int x6), none] [.ref 5, .ref 0] (hEn G J) := by
  unfold p_X1_settle_b51a at h
  refine JW.r hM 30 3 (pc2 := 56) (L2 := [some (.ref 0), some (.int x1), some (.int x2), some (.int x3), some (.int x4), some (.int x5), some (.int x6), none]) (st2 := [.int x2, .int x4, .int x6, .ref 5, .ref 0]) (μ2 := (hEn G J)) rfl trivial ?_
  obtain ⟨v9, hv8, h⟩ := jbd h
  refine JW.cV (v := some (.int v9)) hM (m_X1_sumOf_5 (jVX X) hM.1.2.2.2.2.2.2.2.2.2.1 N G J x6 x4 x2 v9 hv8) (sb_En_En_0 G J) (bi_En_En_0 G J) rfl rfl rfl kc_X1_128 rfl rfl rfl rfl rfl (jat hM.2.1 33 rfl) (st := []) rfl ?_
  show JW X 0 0 59 [some (.ref 0), some (.int x1), some (.int x2), some (.int x3), some (.int x4), some (.int x5), some (.int x6), none] [.int v9] (hEn G J)
  obtain ⟨g10, h⟩ := jg h
  obtain ⟨g11, h⟩ := jg h
  obtain ⟨G12, e13, h⟩ := jlE h
  refine JW.r hM 34 17 (pc2 := 86) (L2 := [some (.ref 0), some (.int x1), some (.int x2), some (.int x3), some (.int x4), some (.int x5), some (.int x6), some (.int v9)]) (st2 := []) (μ2 := (hEn (jup G 7 ((x1 * (6 : Int32)) + x6).toNatClampNeg ((G 7 (x5 + x6).toNatClampNeg) + v9)) J)) rfl ⟨g10, g11, trivial⟩ ?_
  rw [e13]
  refine JW.r hM 51 2 (pc2 := 24) (L2 := [some (.ref 0), some (.int x1), some (.int x2), some (.int x3), some (.int x4), some (.int x5), some (.int (x6 + 1)), some (.int v9)]) (st2 := []) (μ2 := (hEn G12 J)) rfl trivial ?_
  exact JW.mask [true, true, true, true, true, true, true, false] (ih24 G12 x1 x2 x3 x4 x5 (x6 + 1) h)
set_option maxHeartbeats 4000000 in
set_option maxRecDepth 100000 in
theorem t_X1_settle_b24 {X : jX} {po : Option Value → jH → Prop} {px : String → jH → Prop} {sf : Bool} {B9 : Nat} (hM : jMX X kX1_settle RX1 tbX1 8 ⟨1, 0, 0, 26⟩ none 12) (hp : jPost X sf B9 po px) (N : Nat) (J : Nat → Nat → Int64) {res : (Nat → Nat → Int32)} : ∀ (n : Nat) (G : Nat → Nat → Int32) (x1 : Int32) (x2 : Int32) (x3 : Int32) (x4 : Int32) (x5 : Int32) (x6 : Int32) (h : p_X1_settle_b24 N J n G x1 x2 x3 x4 x5 x6 = some res) (hq : po none (hEn res J)), JW X 0 0 24 [some (.ref 0), some (.int x1), some (.int x2), some (.int x3), some (.int x4), some (.int x5), some (.int x6), none] [] (hEn G J) := by
  intro n
  induction n with
  | zero =>
    intro G x1 x2 x3 x4 x5 x6 h hq
    cases (show (none : Option ((Nat → Nat → Int32))) = some res from h)
  | succ n ih24 =>
    intro G x1 x2 x3 x4 x5 x6 h hq
    have ih24 := fun G x1 x2 x3 x4 x5 x6 h9 => ih24 G x1 x2 x3 x4 x5 x6 h9 hq
    rw [p_X1_settle_b24] at h
    refine JW.r hM 17 3 (pc2 := 30) (L2 := [some (.ref 0), some (.int x1), some (.int x2), some (.int x3), some (.int x4), some (.int x5), some (.int x6), none]) (st2 := [.int (G 0 1), .int x6]) (μ2 := (hEn G J)) rfl trivial ?_
    refine js_icge (t := 92) hM.1 (jat hM.2.1 20 rfl) rfl (fun hc15 => ?_) (fun hc15 => ?_)
    · have h := (if_pos hc15).symm.trans h
      cases h
      exact js_vret hM.1 hp hM.2.2.2.2.2.2.2.1 (by rw [hM.2.2.2.2.2.1]; exact Nat.le_of_ble_eq_true rfl) (by rw [hM.2.2.2.2.2.2.1]; exact Nat.le_of_ble_eq_true rfl) (jat hM.2.1 53 rfl) hq
    · have h := (if_neg hc15).symm.trans h
      refine JW.r hM 21 3 (pc2 := 37) (L2 := [some (.ref 0), some (.int x1), some (.int x2), some (.int x3), some (.int x4), some (.int x5), some (.int x6), none]) (st2 := [.int x3, .int x6, .ref 0]) (μ2 := (hEn G J)) rfl trivial ?_
      refine js_icne (t := 47) hM.1 (jat hM.2.1 24 rfl) rfl (fun hc14 => ?_) (fun hc14 => ?_)
      · have h := (if_neg hc14).symm.trans h
        refine JW.r hM 28 2 (pc2 := 51) (L2 := [some (.ref 0), some (.int x1), some (.int x2), some (.int x3), some (.int x4), some (.int x5), some (.int x6), none]) (st2 := [.ref 6, .ref 0]) (μ2 := (hEn G J)) rfl trivial ?_
        exact t_X1_settle_b51 hM hp N J (p_X1_settle_b24 N J n) ih24 G x1 x2 x3 x4 x5 x6 h hq
      · have h := (if_pos hc14).symm.trans h
        refine JW.r hM 25 3 (pc2 := 51) (L2 := [some (.ref 0), some (.int x1), some (.int x2), some (.int x3), some (.int x4), some (.int x5), some (.int x6), none]) (st2 := [.ref 5, .ref 0]) (μ2 := (hEn G J)) rfl trivial ?_
        exact t_X1_settle_b51a hM hp N J (p_X1_settle_b24 N J n) ih24 G x1 x2 x3 x4 x5 x6 h hq
set_option maxHeartbeats 4000000 in
set_option maxRecDepth 100000 in
theorem t_X1_settle {X : jX} {po : Option Value → jH → Prop} {px : String → jH → Prop} {sf : Bool} {B9 : Nat} (hM : jMX X kX1_settle RX1 tbX1 8 ⟨1, 0, 0, 26⟩ none 12) (hp : jPost X sf B9 po px) (N : Nat) (G : Nat → Nat → Int32) (J : Nat → Nat → Int64) (p0 : Int32) (p1 : Int32) (p2 : Int32) {res : (Nat → Nat → Int32)} (h : p_X1_settle N G J p0 p1 p2 = some res) (hq : po none (hEn res J)) : JW X 0 0 0 [some (.ref 0), some (.int p0), some (.int p1), some (.int p2), none, none, none, none] [] (hEn G J) := by
  unfold p_X1_settle at h
  obtain ⟨g1, h⟩ := jg h
  refine JW.r hM 0 17 (pc2 := 24) (L2 := [some (.ref 0), some (.int p0), some (.int p1), some (.int p2), some (.int (p0 &&& (G 2 p1.toNatClampNeg))), some (.int ((p0 &&& ((p0 &&& (G 2 p1.toNatClampNeg)) ^^^ (-1 : Int32))) * (6 : Int32))), some (.int (0 : Int32)), none]) (st2 := []) (μ2 := (hEn G J)) rfl ⟨g1, trivial⟩ ?_
  exact t_X1_settle_b24 hM hp N J N G p0 p1 p2 (p0 &&& (G 2 p1.toNatClampNeg)) ((p0 &&& ((p0 &&& (G 2 p1.toNatClampNeg)) ^^^ (-1 : Int32))) * (6 : Int32)) (0 : Int32) h hq
theorem m_X1_settle (V : jV) (hV : V.1.stackTraces = false) (N : Nat) (G : Nat → Nat → Int32) (J : Nat → Nat → Int64) (p0 : Int32) (p1 : Int32) (p2 : Int32) (v : (Nat → Nat → Int32)) (h : p_X1_settle N G J p0 p1 p2 = some v) : jMet V yX1_settle (jws yX1_settle cX1_settle 8 none) ⟨1, 0, 0, 26⟩ true 1 [.ref 0, .int p0, .int p1, .int p2] (hEn G J) (fun o ν => o = none ∧ ν = (hEn v J)) (fun _ _ => False) := by
  refine jmk (tb := tbX1) (C := kX1_settle) hV rfl (by decide) tbX1_ok rfl kX1_settle_ok rfl ?_
  intro X hM _ hp _
  exact t_X1_settle hM hp N G J p0 p1 p2 h ⟨rfl, rfl⟩
def p_X1_choose_b112 (N : Nat) (rv19 : (Nat → Nat → Int32) → (Nat → Nat → Int64) → Int32 → Int32 → Int32 → Int32 → Int32 → Int32 → Option ((Nat → Nat → Int32) × (Nat → Nat → Int64))) (G : Nat → Nat → Int32) (J : Nat → Nat → Int64) (x1 : Int32) (x2 : Int32) (x3 : Int32) (x4 : Int32) (x5 : Int32) (x6 : Int32) : Option ((Nat → Nat → Int32) × (Nat → Nat → Int64)) :=
  rv19 G J x1 x2 x3 x4 x5 (x6 + 1)
def p_X1_choose_b19 (N : Nat) : Nat → (Nat → Nat → Int32) → (Nat → Nat → Int64) → (Int32) → (Int32) → (Int32) → (Int32) → (Int32) → (Int32) → Option ((Nat → Nat → Int32) × (Nat → Nat → Int64))
  | 0, _, _, _, _, _, _, _, _ => none
  | n + 1, G, J, x1, x2, x3, x4, x5, x6 => if jin x3 6 = true then if (G 4 x3.toNatClampNeg) ≤ x6 then (if x5 = (-1 : Int32) then (some (G, J)) else ((p_X1_settle N G J x1 x5 x3).bind (fun v4 => jlt v4 fun G5 => if jin x1 1024 = true then if jin x1 1024 = true then jlt (jupL J 9 x1.toNatClampNeg ((J 9 x1.toNatClampNeg) ||| (((x5 + (1 : Int32)).toInt64) <<< (((4 : Int32) * x2).toInt64 &&& 63)))) fun J9 => some (G5, J9) else none else none))) else (if jin ((x3 * (10 : Int32)) + x6) 60 = true then if ((x1 >>> ((G 3 ((x3 * (10 : Int32)) + x6).toNatClampNeg) &&& 31)) &&& (1 : Int32)) = (1 : Int32) then (if jin (G 3 ((x3 * (10 : Int32)) + x6).toNatClampNeg) 10 = true then (p_X1_sumOf_5 N G J x3 (x1 &&& (G 2 (G 3 ((x3 * (10 : Int32)) + x6).toNatClampNeg).toNatClampNeg)) (G 3 ((x3 * (10 : Int32)) + x6).toNatClampNeg)).bind (fun v15 => if jin (((x1 &&& ((x1 &&& (G 2 (G 3 ((x3 * (10 : Int32)) + x6).toNatClampNeg).toNatClampNeg)) ^^^ (-1 : Int32))) * (6 : Int32)) + x3) 6144 = true then if (v15 + (G 7 (((x1 &&& ((x1 &&& (G 2 (G 3 ((x3 * (10 : Int32)) + x6).toNatClampNeg).toNatClampNeg)) ^^^ (-1 : Int32))) * (6 : Int32)) + x3).toNatClampNeg)) ≤ x4 then (p_X1_choose_b112 N (p_X1_choose_b19 N n) G J x1 x2 x3 x4 x5 x6) else (p_X1_choose_b112 N (p_X1_choose_b19 N n) G J x1 x2 x3 (v15 + (G 7 (((x1 &&& ((x1 &&& (G 2 (G 3 ((x3 * (10 : Int32)) + x6).toNatClampNeg).toNatClampNeg)) ^^^ (-1 : Int32))) * (6 : Int32)) + x3).toNatClampNeg)) (G 3 ((x3 * (10 : Int32)) + x6).toNatClampNeg) x6) else none) else none) else (p_X1_choose_b112 N (p_X1_choose_b19 N n) G J x1 x2 x3 x4 x5 x6) else none) else none
def p_X1_choose (N : Nat) (G : Nat → Nat → Int32) (J : Nat → Nat → Int64) (p0 : Int32) (p1 : Int32) (p2 : Int32) : Option ((Nat → Nat → Int32) × (Nat → Nat → Int64)) :=
  if jin ((p0 * (6 : Int32)) + p2) 6144 = true then p_X1_choose_b19 N N G J p0 p1 p2 (G 7 ((p0 * (6 : Int32)) + p2).toNatClampNeg) (-1 : Int32) (0 : Int32) else none
set_option maxHeartbeats 4000000 in
set_option maxRecDepth 100000 in
theorem t_X1_choose_b112 {X : jX} {po : Option Value → jH → Prop} {px : String → jH → Prop} {sf : Bool} {B9 : Nat} (hM : jMX X kX1_choose RX1 tbX1 10 ⟨2, 0, 0, 53⟩ none 12) (hp : jPost X sf B9 po px) (N : Nat) (rv19 : (Nat → Nat → Int32) → (Nat → Nat → Int64) → Int32 → Int32 → Int32 → Int32 → Int32 → Int32 → Option ((Nat → Nat → Int32) × (Nat → Nat → Int64))) {res : (Nat → Nat → Int32) × (Nat → Nat → Int64)} (ih19 : ∀ (G : Nat → Nat → Int32) (J : Nat → Nat → Int64) (x1 : Int32) (x2 : Int32) (x3 : Int32) (x4 : Int32) (x5 : Int32) (x6 : Int32), rv19 G J x1 x2 x3 x4 x5 x6 = some res → JW X 0 0 19 [some (.ref 0), some (.int x1), some (.int x2), some (.int x3), some (.int x4), some (.int x5), some (.int x6), none, none, none] [] (hEn G J)) (G : Nat → Nat → Int32) (J : Nat → Nat → Int64) (x1 : Int32) (x2 : Int32) (x3 : Int32) (x4 : Int32) (x5 : Int32) (x6 : Int32) (h : p_X1_choose_b112 N rv19 G J x1 x2 x3 x4 x5 x6 = some res) (hq : po none (hEn res.1 res.2)) : JW X 0 0 112 [some (.ref 0), some (.int x1), some (.int x2), some (.int x3), some (.int x4), some (.int x5), some (.int x6), none, none, none] [] (hEn G J) := by
  unfold p_X1_choose_b112 at h
  refine JW.r hM 70 2 (pc2 := 19) (L2 := [some (.ref 0), some (.int x1), some (.int x2), some (.int x3), some (.int x4), some (.int x5), some (.int (x6 + 1)), none, none, none]) (st2 := []) (μ2 := (hEn G J)) rfl trivial ?_
  exact ih19 G J x1 x2 x3 x4 x5 (x6 + 1) h
set_option maxHeartbeats 4000000 in
set_option maxRecDepth 100000 in
theorem t_X1_choose_b19 {X : jX} {po : Option Value → jH → Prop} {px : String → jH → Prop} {sf : Bool} {B9 : Nat} (hM : jMX X kX1_choose RX1 tbX1 10 ⟨2, 0, 0, 53⟩ none 12) (hp : jPost X sf B9 po px) (N : Nat) {res : (Nat → Nat → Int32) × (Nat → Nat → Int64)} : ∀ (n : Nat) (G : Nat → Nat → Int32) (J : Nat → Nat → Int64) (x1 : Int32) (x2 : Int32) (x3 : Int32) (x4 : Int32) (x5 : Int32) (x6 : Int32) (h : p_X1_choose_b19 N n G J x1 x2 x3 x4 x5 x6 = some res) (hq : po none (hEn res.1 res.2)), JW X 0 0 19 [some (.ref 0), some (.int x1), some (.int x2), some (.int x3), some (.int x4), some (.int x5), some (.int x6), none, none, none] [] (hEn G J) := by
  intro n
  induction n with
  | zero =>
    intro G J x1 x2 x3 x4 x5 x6 h hq
    cases (show (none : Option ((Nat → Nat → Int32) × (Nat → Nat → Int64))) = some res from h)
  | succ n ih19 =>
    intro G J x1 x2 x3 x4 x5 x6 h hq
    have ih19 := fun G J x1 x2 x3 x4 x5 x6 h9 => ih19 G J x1 x2 x3 x4 x5 x6 h9 hq
    rw [p_X1_choose_b19] at h
    obtain ⟨g2, h⟩ := jg h
    refine JW.r hM 13 5 (pc2 := 27) (L2 := [some (.ref 0), some (.int x1), some (.int x2), some (.int x3), some (.int x4), some (.int x5), some (.int x6), none, none, none]) (st2 := [.int (G 4 x3.toNatClampNeg), .int x6]) (μ2 := (hEn G J)) rfl ⟨g2, trivial⟩ ?_
    refine js_icge (t := 118) hM.1 (jat hM.2.1 18 rfl) rfl (fun hc19 => ?_) (fun hc19 => ?_)
    · have h := (if_pos hc19).symm.trans h
      refine JW.r hM 72 2 (pc2 := 121) (L2 := [some (.ref 0), some (.int x1), some (.int x2), some (.int x3), some (.int x4), some (.int x5), some (.int x6), none, none, none]) (st2 := [.int (-1 : Int32), .int x5]) (μ2 := (hEn G J)) rfl trivial ?_
      refine js_iceq (t := 150) hM.1 (jat hM.2.1 74 rfl) rfl (fun hc11 => ?_) (fun hc11 => ?_)
      · have h := (if_pos hc11).symm.trans h
        cases h
        exact js_vret hM.1 hp hM.2.2.2.2.2.2.2.1 (by rw [hM.2.2.2.2.2.1]; exact Nat.le_of_ble_eq_true rfl) (by rw [hM.2.2.2.2.2.2.1]; exact Nat.le_of_ble_eq_true rfl) (jat hM.2.1 95 rfl) hq
      · have h := (if_neg hc11).symm.trans h
        refine JW.r hM 75 4 (pc2 := 129) (L2 := [some (.ref 0), some (.int x1), some (.int x2), some (.int x3), some (.int x4), some (.int x5), some (.int x6), none, none, none]) (st2 := [.int x3, .int x5, .int x1, .ref 0]) (μ2 := (hEn G J)) rfl trivial ?_
        obtain ⟨v4, hv3, h⟩ := jbd h
        refine JW.cV (v := none) hM (m_X1_settle (jVX X) hM.1.2.2.2.2.2.2.2.2.2.1 N G J x1 x5 x3 v4 hv3) (sb_En_En_0 G J) (bk_En_En_0 G J v4 J) rfl rfl rfl kc_X1_132 rfl rfl rfl rfl rfl (jat hM.2.1 79 rfl) (st := []) rfl ?_
        show JW X 0 0 132 [some (.ref 0), some (.int x1), some (.int x2), some (.int x3), some (.int x4), some (.int x5), some (.int x6), none, none, none] [] (hEn v4 J)
        obtain ⟨G5, e6, h⟩ := jlE h
        rw [e6]
        obtain ⟨g7, h⟩ := jg h
        obtain ⟨g8, h⟩ := jg h
        obtain ⟨J9, e10, h⟩ := jlE h
        refine JW.r hM 80 15 (pc2 := 150) (L2 := [some (.ref 0), some (.int x1), some (.int x2), some (.int x3), some (.int x4), some (.int x5), some (.int x6), none, none, none]) (st2 := []) (μ2 := (hEn G5 (jupL J 9 x1.toNatClampNeg ((J 9 x1.toNatClampNeg) ||| (((x5 + (1 : Int32)).toInt64) <<< (((4 : Int32) * x2).toInt64 &&& 63)))))) rfl ⟨g7, g8, trivial⟩ ?_
        rw [e10]
        cases h
        exact js_vret hM.1 hp hM.2.2.2.2.2.2.2.1 (by rw [hM.2.2.2.2.2.1]; exact Nat.le_of_ble_eq_true rfl) (by rw [hM.2.2.2.2.2.2.1]; exact Nat.le_of_ble_eq_true rfl) (jat hM.2.1 95 rfl) hq
    · have h := (if_neg hc19).symm.trans h
      obtain ⟨g12, h⟩ := jg h
      refine JW.r hM 19 15 (pc2 := 51) (L2 := [some (.ref 0), some (.int x1), some (.int x2), some (.int x3), some (.int x4), some (.int x5), some (.int x6), some (.int (G 3 ((x3 * (10 : Int32)) + x6).toNatClampNeg)), none, none]) (st2 := [.int (1 : Int32), .int ((x1 >>> ((G 3 ((x3 * (10 : Int32)) + x6).toNatClampNeg) &&& 31)) &&& (1 : Int32))]) (μ2 := (hEn G J)) rfl ⟨g12, trivial⟩ ?_
      refine js_icne (t := 112) hM.1 (jat hM.2.1 34 rfl) rfl (fun hc18 => ?_) (fun hc18 => ?_)
      · have h := (if_neg hc18).symm.trans h
        exact JW.mask [true, true, true, true, true, true, true, false, false, false] (t_X1_choose_b112 hM hp N (p_X1_choose_b19 N n) ih19 G J x1 x2 x3 x4 x5 x6 h hq)
      · have h := (if_pos hc18).symm.trans h
        obtain ⟨g13, h⟩ := jg h
        refine JW.r hM 35 13 (pc2 := 75) (L2 := [some (.ref 0), some (.int x1), some (.int x2), some (.int x3), some (.int x4), some (.int x5), some (.int x6), some (.int (G 3 ((x3 * (10 : Int32)) + x6).toNatClampNeg)), some (.int (x1 &&& (G 2 (G 3 ((x3 * (10 : Int32)) + x6).toNatClampNeg).toNatClampNeg))), none]) (st2 := [.int (G 3 ((x3 * (10 : Int32)) + x6).toNatClampNeg), .int (x1 &&& (G 2 (G 3 ((x3 * (10 : Int32)) + x6).toNatClampNeg).toNatClampNeg)), .int x3, .ref 5, .ref 0]) (μ2 := (hEn G J)) rfl ⟨g13, trivial⟩ ?_
        obtain ⟨v15, hv14, h⟩ := jbd h
        refine JW.cV (v := some (.int v15)) hM (m_X1_sumOf_5 (jVX X) hM.1.2.2.2.2.2.2.2.2.2.1 N G J x3 (x1 &&& (G 2 (G 3 ((x3 * (10 : Int32)) + x6).toNatClampNeg).toNatClampNeg)) (G 3 ((x3 * (10 : Int32)) + x6).toNatClampNeg) v15 hv14) (sb_En_En_0 G J) (bi_En_En_0 G J) rfl rfl rfl kc_X1_128 rfl rfl rfl rfl rfl (jat hM.2.1 48 rfl) (st := []) rfl ?_
        show JW X 0 0 78 [some (.ref 0), some (.int x1), some (.int x2), some (.int x3), some (.int x4), some (.int x5), some (.int x6), some (.int (G 3 ((x3 * (10 : Int32)) + x6).toNatClampNeg)), some (.int (x1 &&& (G 2 (G 3 ((x3 * (10 : Int32)) + x6).toNatClampNeg).toNatClampNeg))), none] [.int v15] (hEn G J)
        obtain ⟨g16, h⟩ := jg h
        refine JW.r hM 49 16 (pc2 := 101) (L2 := [some (.ref 0), some (.int x1), some (.int x2), some (.int x3), some (.int x4), some (.int x5), some (.int x6), some (.int (G 3 ((x3 * (10 : Int32)) + x6).toNatClampNeg)), some (.int (x1 &&& (G 2 (G 3 ((x3 * (10 : Int32)) + x6).toNatClampNeg).toNatClampNeg))), some (.int (v15 + (G 7 (((x1 &&& ((x1 &&& (G 2 (G 3 ((x3 * (10 : Int32)) + x6).toNatClampNeg).toNatClampNeg)) ^^^ (-1 : Int32))) * (6 : Int32)) + x3).toNatClampNeg)))]) (st2 := [.int x4, .int (v15 + (G 7 (((x1 &&& ((x1 &&& (G 2 (G 3 ((x3 * (10 : Int32)) + x6).toNatClampNeg).toNatClampNeg)) ^^^ (-1 : Int32))) * (6 : Int32)) + x3).toNatClampNeg))]) (μ2 := (hEn G J)) rfl ⟨g16, trivial⟩ ?_
        refine js_icle (t := 112) hM.1 (jat hM.2.1 65 rfl) rfl (fun hc17 => ?_) (fun hc17 => ?_)
        · have h := (if_pos hc17).symm.trans h
          exact JW.mask [true, true, true, true, true, true, true, false, false, false] (t_X1_choose_b112 hM hp N (p_X1_choose_b19 N n) ih19 G J x1 x2 x3 x4 x5 x6 h hq)
        · have h := (if_neg hc17).symm.trans h
          refine JW.r hM 66 4 (pc2 := 112) (L2 := [some (.ref 0), some (.int x1), some (.int x2), some (.int x3), some (.int (v15 + (G 7 (((x1 &&& ((x1 &&& (G 2 (G 3 ((x3 * (10 : Int32)) + x6).toNatClampNeg).toNatClampNeg)) ^^^ (-1 : Int32))) * (6 : Int32)) + x3).toNatClampNeg))), some (.int (G 3 ((x3 * (10 : Int32)) + x6).toNatClampNeg)), some (.int x6), some (.int (G 3 ((x3 * (10 : Int32)) + x6).toNatClampNeg)), some (.int (x1 &&& (G 2 (G 3 ((x3 * (10 : Int32)) + x6).toNatClampNeg).toNatClampNeg))), some (.int (v15 + (G 7 (((x1 &&& ((x1 &&& (G 2 (G 3 ((x3 * (10 : Int32)) + x6).toNatClampNeg).toNatClampNeg)) ^^^ (-1 : Int32))) * (6 : Int32)) + x3).toNatClampNeg)))]) (st2 := []) (μ2 := (hEn G J)) rfl trivial ?_
          exact JW.mask [true, true, true, true, true, true, true, false, false, false] (t_X1_choose_b112 hM hp N (p_X1_choose_b19 N n) ih19 G J x1 x2 x3 (v15 + (G 7 (((x1 &&& ((x1 &&& (G 2 (G 3 ((x3 * (10 : Int32)) + x6).toNatClampNeg).toNatClampNeg)) ^^^ (-1 : Int32))) * (6 : Int32)) + x3).toNatClampNeg)) (G 3 ((x3 * (10 : Int32)) + x6).toNatClampNeg) x6 h hq)
set_option maxHeartbeats 4000000 in
set_option maxRecDepth 100000 in
theorem t_X1_choose {X : jX} {po : Option Value → jH → Prop} {px : String → jH → Prop} {sf : Bool} {B9 : Nat} (hM : jMX X kX1_choose RX1 tbX1 10 ⟨2, 0, 0, 53⟩ none 12) (hp : jPost X sf B9 po px) (N : Nat) (G : Nat → Nat → Int32) (J : Nat → Nat → Int64) (p0 : Int32) (p1 : Int32) (p2 : Int32) {res : (Nat → Nat → Int32) × (Nat → Nat → Int64)} (h : p_X1_choose N G J p0 p1 p2 = some res) (hq : po none (hEn res.1 res.2)) : JW X 0 0 0 [some (.ref 0), some (.int p0), some (.int p1), some (.int p2), none, none, none, none, none, none] [] (hEn G J) := by
  unfold p_X1_choose at h
  obtain ⟨g1, h⟩ := jg h
  refine JW.r hM 0 13 (pc2 := 19) (L2 := [some (.ref 0), some (.int p0), some (.int p1), some (.int p2), some (.int (G 7 ((p0 * (6 : Int32)) + p2).toNatClampNeg)), some (.int (-1 : Int32)), some (.int (0 : Int32)), none, none, none]) (st2 := []) (μ2 := (hEn G J)) rfl ⟨g1, trivial⟩ ?_
  exact t_X1_choose_b19 hM hp N N G J p0 p1 p2 (G 7 ((p0 * (6 : Int32)) + p2).toNatClampNeg) (-1 : Int32) (0 : Int32) h hq
theorem m_X1_choose (V : jV) (hV : V.1.stackTraces = false) (N : Nat) (G : Nat → Nat → Int32) (J : Nat → Nat → Int64) (p0 : Int32) (p1 : Int32) (p2 : Int32) (v : (Nat → Nat → Int32) × (Nat → Nat → Int64)) (h : p_X1_choose N G J p0 p1 p2 = some v) : jMet V yX1_choose (jws yX1_choose cX1_choose 10 none) ⟨2, 0, 0, 53⟩ true 1 [.ref 0, .int p0, .int p1, .int p2] (hEn G J) (fun o ν => o = none ∧ ν = (hEn v.1 v.2)) (fun _ _ => False) := by
  refine jmk (tb := tbX1) (C := kX1_choose) hV rfl (by decide) tbX1_ok rfl kX1_choose_ok rfl ?_
  intro X hM _ hp _
  exact t_X1_choose hM hp N G J p0 p1 p2 h ⟨rfl, rfl⟩
def p_X1_walk_b128 (N : Nat) (J : Nat → Nat → Int64) (rv93 : (Nat → Nat → Int32) → Int32 → Int32 → Option ((Nat → Nat → Int32))) (G : Nat → Nat → Int32) (x2 : Int32) (x3 : Int32) : Option ((Nat → Nat → Int32)) :=
  rv93 G x2 (x3 + 1)
def p_X1_walk_b93 (N : Nat) (J : Nat → Nat → Int64) : Nat → (Nat → Nat → Int32) → (Int32) → (Int32) → Option ((Nat → Nat → Int32))
  | 0, _, _, _ => none
  | n + 1, G, x2, x3 => if (G 0 4) ≤ x3 then (some G) else (if ((x2 >>> (x3 &&& 31)) &&& (1 : Int32)) = 0 then (if jin x3 10 = true then jlt (jup G 0 0 ((G 0 0) &&& (((1 : Int32) <<< ((G 1 x3.toNatClampNeg) &&& 31)) ^^^ (-1 : Int32)))) fun G6 => p_X1_walk_b128 N J (p_X1_walk_b93 N J n) G6 x2 x3 else none) else (p_X1_walk_b128 N J (p_X1_walk_b93 N J n) G x2 x3))
def p_X1_walk_b76 (N : Nat) (J : Nat → Nat → Int64) (rv7 : (Nat → Nat → Int32) → Int32 → Int32 → Option ((Nat → Nat → Int32))) (G : Nat → Nat → Int32) (x3 : Int32) (s0 : Int32) : Option ((Nat → Nat → Int32)) :=
  rv7 G s0 (x3 + 1)
def p_X1_walk_b55 (N : Nat) (J : Nat → Nat → Int64) (rv7 : (Nat → Nat → Int32) → Int32 → Int32 → Option ((Nat → Nat → Int32))) (G : Nat → Nat → Int32) (x2 : Int32) (x3 : Int32) (x4 : Int32) (s0 : Int32) (s1 : Int32) : Option ((Nat → Nat → Int32)) :=
  if jin s1 12 = true then jlt (jup G 10 s1.toNatClampNeg s0) fun G13 => if 0 ≤ x4 then (if jin x4 10 = true then p_X1_walk_b76 N J rv7 G13 x3 (x2 &&& ((G13 2 x4.toNatClampNeg) ^^^ (-1 : Int32))) else none) else (p_X1_walk_b76 N J rv7 G13 x3 x2) else none
def p_X1_walk_b7 (N : Nat) (J : Nat → Nat → Int64) : Nat → (Nat → Nat → Int32) → (Int32) → (Int32) → Option ((Nat → Nat → Int32))
  | 0, _, _, _ => none
  | n + 1, G, x2, x3 => if (G 0 3) ≤ x3 then (jlt (jup G 0 0 (G 11 8)) fun G3 => p_X1_walk_b93 N J N G3 x2 (0 : Int32)) else (if jin x2 1024 = true then if 0 ≤ (((((J 9 x2.toNatClampNeg).toUInt64 >>> (((4 : Int32) * x3).toInt64.toUInt64 &&& Int64.toUInt64 63)).toInt64 &&& (15 : Int64)).toInt32) - (1 : Int32)) then (if jin (((((J 9 x2.toNatClampNeg).toUInt64 >>> (((4 : Int32) * x3).toInt64.toUInt64 &&& Int64.toUInt64 63)).toInt64 &&& (15 : Int64)).toInt32) - (1 : Int32)) 10 = true then p_X1_walk_b55 N J (p_X1_walk_b7 N J n) G x2 x3 (((((J 9 x2.toNatClampNeg).toUInt64 >>> (((4 : Int32) * x3).toInt64.toUInt64 &&& Int64.toUInt64 63)).toInt64 &&& (15 : Int64)).toInt32) - (1 : Int32)) (G 1 (((((J 9 x2.toNatClampNeg).toUInt64 >>> (((4 : Int32) * x3).toInt64.toUInt64 &&& Int64.toUInt64 63)).toInt64 &&& (15 : Int64)).toInt32) - (1 : Int32)).toNatClampNeg) x3 else none) else (p_X1_walk_b55 N J (p_X1_walk_b7 N J n) G x2 x3 (((((J 9 x2.toNatClampNeg).toUInt64 >>> (((4 : Int32) * x3).toInt64.toUInt64 &&& Int64.toUInt64 63)).toInt64 &&& (15 : Int64)).toInt32) - (1 : Int32)) (-1 : Int32) x3) else none)
def p_X1_walk (N : Nat) (G : Nat → Nat → Int32) (J : Nat → Nat → Int64) : Option ((Nat → Nat → Int32)) :=
  (p_X1_whole N (jvw G 0) (jvw J 0)).bind (fun v2 => p_X1_walk_b7 N J N G v2 (0 : Int32))
set_option maxHeartbeats 4000000 in
set_option maxRecDepth 100000 in
theorem t_X1_walk_b128 {X : jX} {po : Option Value → jH → Prop} {px : String → jH → Prop} {sf : Bool} {B9 : Nat} (hM : jMX X kX1_walk RX1 tbX1 5 ⟨1, 0, 0, 20⟩ none 21) (hp : jPost X sf B9 po px) (N : Nat) (J : Nat → Nat → Int64) (rv93 : (Nat → Nat → Int32) → Int32 → Int32 → Option ((Nat → Nat → Int32))) {res : (Nat → Nat → Int32)} (ih93 : ∀ (G : Nat → Nat → Int32) (x2 : Int32) (x3 : Int32), rv93 G x2 x3 = some res → JW X 0 0 93 [some (.ref 0), none, some (.int x2), some (.int x3), none] [] (hET G J)) (G : Nat → Nat → Int32) (x2 : Int32) (x3 : Int32) (h : p_X1_walk_b128 N J rv93 G x2 x3 = some res) (hq : po none (hET res J)) : JW X 0 0 128 [some (.ref 0), none, some (.int x2), some (.int x3), none] [] (hET G J) := by
  unfold p_X1_walk_b128 at h
  refine JW.r hM 79 2 (pc2 := 93) (L2 := [some (.ref 0), none, some (.int x2), some (.int (x3 + 1)), none]) (st2 := []) (μ2 := (hET G J)) rfl trivial ?_
  exact ih93 G x2 (x3 + 1) h
set_option maxHeartbeats 4000000 in
set_option maxRecDepth 100000 in
theorem t_X1_walk_b93 {X : jX} {po : Option Value → jH → Prop} {px : String → jH → Prop} {sf : Bool} {B9 : Nat} (hM : jMX X kX1_walk RX1 tbX1 5 ⟨1, 0, 0, 20⟩ none 21) (hp : jPost X sf B9 po px) (N : Nat) (J : Nat → Nat → Int64) {res : (Nat → Nat → Int32)} : ∀ (n : Nat) (G : Nat → Nat → Int32) (x2 : Int32) (x3 : Int32) (h : p_X1_walk_b93 N J n G x2 x3 = some res) (hq : po none (hET res J)), JW X 0 0 93 [some (.ref 0), none, some (.int x2), some (.int x3), none] [] (hET G J) := by
  intro n
  induction n with
  | zero =>
    intro G x2 x3 h hq
    cases (show (none : Option ((Nat → Nat → Int32))) = some res from h)
  | succ n ih93 =>
    intro G x2 x3 h hq
    have ih93 := fun G x2 x3 h9 => ih93 G x2 x3 h9 hq
    rw [p_X1_walk_b93] at h
    refine JW.r hM 56 3 (pc2 := 98) (L2 := [some (.ref 0), none, some (.int x2), some (.int x3), none]) (st2 := [.int (G 0 4), .int x3]) (μ2 := (hET G J)) rfl trivial ?_
    refine js_icge (t := 134) hM.1 (jat hM.2.1 59 rfl) rfl (fun hc9 => ?_) (fun hc9 => ?_)
    · have h := (if_pos hc9).symm.trans h
      cases h
      exact js_vret hM.1 hp hM.2.2.2.2.2.2.2.1 (by rw [hM.2.2.2.2.2.1]; exact Nat.le_of_ble_eq_true rfl) (by rw [hM.2.2.2.2.2.2.1]; exact Nat.le_of_ble_eq_true rfl) (jat hM.2.1 81 rfl) hq
    · have h := (if_neg hc9).symm.trans h
      refine JW.r hM 60 5 (pc2 := 106) (L2 := [some (.ref 0), none, some (.int x2), some (.int x3), none]) (st2 := [.int ((x2 >>> (x3 &&& 31)) &&& (1 : Int32))]) (μ2 := (hET G J)) rfl trivial ?_
      refine js_ifne (t := 128) hM.1 (jat hM.2.1 65 rfl) rfl (fun hc8 => ?_) (fun hc8 => ?_)
      · have h := (if_neg hc8).symm.trans h
        exact t_X1_walk_b128 hM hp N J (p_X1_walk_b93 N J n) ih93 G x2 x3 h hq
      · have h := (if_pos hc8).symm.trans h
        obtain ⟨g5, h⟩ := jg h
        obtain ⟨G6, e7, h⟩ := jlE h
        refine JW.r hM 66 13 (pc2 := 128) (L2 := [some (.ref 0), none, some (.int x2), some (.int x3), none]) (st2 := []) (μ2 := (hET (jup G 0 0 ((G 0 0) &&& (((1 : Int32) <<< ((G 1 x3.toNatClampNeg) &&& 31)) ^^^ (-1 : Int32)))) J)) rfl ⟨g5, trivial⟩ ?_
        rw [e7]
        exact t_X1_walk_b128 hM hp N J (p_X1_walk_b93 N J n) ih93 G6 x2 x3 h hq
set_option maxHeartbeats 4000000 in
set_option maxRecDepth 100000 in
theorem t_X1_walk_b76 {X : jX} {po : Option Value → jH → Prop} {px : String → jH → Prop} {sf : Bool} {B9 : Nat} (hM : jMX X kX1_walk RX1 tbX1 5 ⟨1, 0, 0, 20⟩ none 21) (hp : jPost X sf B9 po px) (N : Nat) (J : Nat → Nat → Int64) (rv7 : (Nat → Nat → Int32) → Int32 → Int32 → Option ((Nat → Nat → Int32))) {res : (Nat → Nat → Int32)} (ih7 : ∀ (G : Nat → Nat → Int32) (x2 : Int32) (x3 : Int32), rv7 G x2 x3 = some res → JW X 0 0 7 [some (.ref 0), some (.ref 11), some (.int x2), some (.int x3), none] [] (hET G J)) (G : Nat → Nat → Int32) (x3 : Int32) (s0 : Int32) (h : p_X1_walk_b76 N J rv7 G x3 s0 = some res) (hq : po none (hET res J)) : JW X 0 0 76 [some (.ref 0), some (.ref 11), none, some (.int x3), none] [.int s0] (hET G J) := by
  unfold p_X1_walk_b76 at h
  refine JW.r hM 47 3 (pc2 := 7) (L2 := [some (.ref 0), some (.ref 11), some (.int s0), some (.int (x3 + 1)), none]) (st2 := []) (μ2 := (hET G J)) rfl trivial ?_
  exact ih7 G s0 (x3 + 1) h
set_option maxHeartbeats 4000000 in
set_option maxRecDepth 100000 in
theorem t_X1_walk_b55 {X : jX} {po : Option Value → jH → Prop} {px : String → jH → Prop} {sf : Bool} {B9 : Nat} (hM : jMX X kX1_walk RX1 tbX1 5 ⟨1, 0, 0, 20⟩ none 21) (hp : jPost X sf B9 po px) (N : Nat) (J : Nat → Nat → Int64) (rv7 : (Nat → Nat → Int32) → Int32 → Int32 → Option ((Nat → Nat → Int32))) {res : (Nat → Nat → Int32)} (ih7 : ∀ (G : Nat → Nat → Int32) (x2 : Int32) (x3 : Int32), rv7 G x2 x3 = some res → JW X 0 0 7 [some (.ref 0), some (.ref 11), some (.int x2), some (.int x3), none] [] (hET G J)) (G : Nat → Nat → Int32) (x2 : Int32) (x3 : Int32) (x4 : Int32) (s0 : Int32) (s1 : Int32) (h : p_X1_walk_b55 N J rv7 G x2 x3 x4 s0 s1 = some res) (hq : po none (hET res J)) : JW X 0 0 55 [some (.ref 0), some (.ref 11), some (.int x2), some (.int x3), some (.int x4)] [.int s0, .int s1, .ref 10] (hET G J) := by
  unfold p_X1_walk_b55 at h
  obtain ⟨g12, h⟩ := jg h
  obtain ⟨G13, e14, h⟩ := jlE h
  refine JW.r hM 34 1 (pc2 := 56) (L2 := [some (.ref 0), some (.ref 11), some (.int x2), some (.int x3), some (.int x4)]) (st2 := []) (μ2 := (hET (jup G 10 s1.toNatClampNeg s0) J)) rfl ⟨g12, trivial⟩ ?_
  rw [e14]
  refine JW.r hM 35 1 (pc2 := 58) (L2 := [some (.ref 0), some (.ref 11), some (.int x2), some (.int x3), some (.int x4)]) (st2 := [.int x4]) (μ2 := (hET G13 J)) rfl trivial ?_
  refine js_ifge (t := 65) hM.1 (jat hM.2.1 36 rfl) rfl (fun hc16 => ?_) (fun hc16 => ?_)
  · have h := (if_pos hc16).symm.trans h
    obtain ⟨g15, h⟩ := jg h
    refine JW.r hM 39 8 (pc2 := 76) (L2 := [some (.ref 0), some (.ref 11), some (.int x2), some (.int x3), some (.int x4)]) (st2 := [.int (x2 &&& ((G13 2 x4.toNatClampNeg) ^^^ (-1 : Int32)))]) (μ2 := (hET G13 J)) rfl ⟨g15, trivial⟩ ?_
    exact JW.mask [true, true, false, true, false] (t_X1_walk_b76 hM hp N J rv7 ih7 G13 x3 (x2 &&& ((G13 2 x4.toNatClampNeg) ^^^ (-1 : Int32))) h hq)
  · have h := (if_neg hc16).symm.trans h
    refine JW.r hM 37 2 (pc2 := 76) (L2 := [some (.ref 0), some (.ref 11), some (.int x2), some (.int x3), some (.int x4)]) (st2 := [.int x2]) (μ2 := (hET G13 J)) rfl trivial ?_
    exact JW.mask [true, true, false, true, false] (t_X1_walk_b76 hM hp N J rv7 ih7 G13 x3 x2 h hq)
set_option maxHeartbeats 4000000 in
set_option maxRecDepth 100000 in
theorem t_X1_walk_b7 {X : jX} {po : Option Value → jH → Prop} {px : String → jH → Prop} {sf : Bool} {B9 : Nat} (hM : jMX X kX1_walk RX1 tbX1 5 ⟨1, 0, 0, 20⟩ none 21) (hp : jPost X sf B9 po px) (N : Nat) (J : Nat → Nat → Int64) {res : (Nat → Nat → Int32)} : ∀ (n : Nat) (G : Nat → Nat → Int32) (x2 : Int32) (x3 : Int32) (h : p_X1_walk_b7 N J n G x2 x3 = some res) (hq : po none (hET res J)), JW X 0 0 7 [some (.ref 0), some (.ref 11), some (.int x2), some (.int x3), none] [] (hET G J) := by
  intro n
  induction n with
  | zero =>
    intro G x2 x3 h hq
    cases (show (none : Option ((Nat → Nat → Int32))) = some res from h)
  | succ n ih7 =>
    intro G x2 x3 h hq
    have ih7 := fun G x2 x3 h9 => ih7 G x2 x3 h9 hq
    rw [p_X1_walk_b7] at h
    refine JW.r hM 5 3 (pc2 := 12) (L2 := [some (.ref 0), some (.ref 11), some (.int x2), some (.int x3), none]) (st2 := [.int (G 0 3), .int x3]) (μ2 := (hET G J)) rfl trivial ?_
    refine js_icge (t := 83) hM.1 (jat hM.2.1 8 rfl) rfl (fun hc18 => ?_) (fun hc18 => ?_)
    · have h := (if_pos hc18).symm.trans h
      obtain ⟨G3, e4, h⟩ := jlE h
      refine JW.r hM 50 4 (pc2 := 91) (L2 := [some (.ref 0), some (.ref 11), some (.int x2), some (.int x3), none]) (st2 := []) (μ2 := (hET (jup G 0 0 (G 11 8)) J)) rfl trivial ?_
      rw [e4]
      refine JW.r hM 54 2 (pc2 := 93) (L2 := [some (.ref 0), some (.ref 11), some (.int x2), some (.int (0 : Int32)), none]) (st2 := []) (μ2 := (hET G3 J)) rfl trivial ?_
      exact JW.mask [true, false, true, true, false] (t_X1_walk_b93 hM hp N J N G3 x2 (0 : Int32) h hq)
    · have h := (if_neg hc18).symm.trans h
      obtain ⟨g10, h⟩ := jg h
      refine JW.r hM 9 18 (pc2 := 41) (L2 := [some (.ref 0), some (.ref 11), some (.int x2), some (.int x3), some (.int (((((J 9 x2.toNatClampNeg).toUInt64 >>> (((4 : Int32) * x3).toInt64.toUInt64 &&& Int64.toUInt64 63)).toInt64 &&& (15 : Int64)).toInt32) - (1 : Int32)))]) (st2 := [.int (((((J 9 x2.toNatClampNeg).toUInt64 >>> (((4 : Int32) * x3).toInt64.toUInt64 &&& Int64.toUInt64 63)).toInt64 &&& (15 : Int64)).toInt32) - (1 : Int32)), .int x3, .ref 10]) (μ2 := (hET G J)) rfl ⟨g10, trivial⟩ ?_
      refine js_ifge (t := 48) hM.1 (jat hM.2.1 27 rfl) rfl (fun hc17 => ?_) (fun hc17 => ?_)
      · have h := (if_pos hc17).symm.trans h
        obtain ⟨g11, h⟩ := jg h
        refine JW.r hM 30 4 (pc2 := 55) (L2 := [some (.ref 0), some (.ref 11), some (.int x2), some (.int x3), some (.int (((((J 9 x2.toNatClampNeg).toUInt64 >>> (((4 : Int32) * x3).toInt64.toUInt64 &&& Int64.toUInt64 63)).toInt64 &&& (15 : Int64)).toInt32) - (1 : Int32)))]) (st2 := [.int (G 1 (((((J 9 x2.toNatClampNeg).toUInt64 >>> (((4 : Int32) * x3).toInt64.toUInt64 &&& Int64.toUInt64 63)).toInt64 &&& (15 : Int64)).toInt32) - (1 : Int32)).toNatClampNeg), .int x3, .ref 10]) (μ2 := (hET G J)) rfl ⟨g11, trivial⟩ ?_
        exact t_X1_walk_b55 hM hp N J (p_X1_walk_b7 N J n) ih7 G x2 x3 (((((J 9 x2.toNatClampNeg).toUInt64 >>> (((4 : Int32) * x3).toInt64.toUInt64 &&& Int64.toUInt64 63)).toInt64 &&& (15 : Int64)).toInt32) - (1 : Int32)) (G 1 (((((J 9 x2.toNatClampNeg).toUInt64 >>> (((4 : Int32) * x3).toInt64.toUInt64 &&& Int64.toUInt64 63)).toInt64 &&& (15 : Int64)).toInt32) - (1 : Int32)).toNatClampNeg) x3 h hq
      · have h := (if_neg hc17).symm.trans h
        refine JW.r hM 28 2 (pc2 := 55) (L2 := [some (.ref 0), some (.ref 11), some (.int x2), some (.int x3), some (.int (((((J 9 x2.toNatClampNeg).toUInt64 >>> (((4 : Int32) * x3).toInt64.toUInt64 &&& Int64.toUInt64 63)).toInt64 &&& (15 : Int64)).toInt32) - (1 : Int32)))]) (st2 := [.int (-1 : Int32), .int x3, .ref 10]) (μ2 := (hET G J)) rfl trivial ?_
        exact t_X1_walk_b55 hM hp N J (p_X1_walk_b7 N J n) ih7 G x2 x3 (((((J 9 x2.toNatClampNeg).toUInt64 >>> (((4 : Int32) * x3).toInt64.toUInt64 &&& Int64.toUInt64 63)).toInt64 &&& (15 : Int64)).toInt32) - (1 : Int32)) (-1 : Int32) x3 h hq
set_option maxHeartbeats 4000000 in
set_option maxRecDepth 100000 in
theorem t_X1_walk {X : jX} {po : Option Value → jH → Prop} {px : String → jH → Prop} {sf : Bool} {B9 : Nat} (hM : jMX X kX1_walk RX1 tbX1 5 ⟨1, 0, 0, 20⟩ none 21) (hp : jPost X sf B9 po px) (N : Nat) (G : Nat → Nat → Int32) (J : Nat → Nat → Int64) {res : (Nat → Nat → Int32)} (h : p_X1_walk N G J = some res) (hq : po none (hET res J)) : JW X 0 0 0 [some (.ref 0), some (.ref 11), none, none, none] [] (hET G J) := by
  unfold p_X1_walk at h
  refine JW.r hM 0 1 (pc2 := 1) (L2 := [some (.ref 0), some (.ref 11), none, none, none]) (st2 := [.ref 0]) (μ2 := (hET G J)) rfl trivial ?_
  obtain ⟨v2, hv1, h⟩ := jbd h
  refine JW.cV (v := some (.int v2)) hM (m_X1_whole (jVX X) hM.1.2.2.2.2.2.2.2.2.2.1 N (jvw G 0) (jvw J 0) v2 hv1) (sb_ET_En_0 G J) (bi_ET_En_0 G J) rfl rfl rfl kc_X1_98 rfl rfl rfl rfl rfl (jat hM.2.1 1 rfl) (st := []) rfl ?_
  show JW X 0 0 4 [some (.ref 0), some (.ref 11), none, none, none] [.int v2] (hET G J)
  refine JW.r hM 2 3 (pc2 := 7) (L2 := [some (.ref 0), some (.ref 11), some (.int v2), some (.int (0 : Int32)), none]) (st2 := []) (μ2 := (hET G J)) rfl trivial ?_
  exact t_X1_walk_b7 hM hp N J N G v2 (0 : Int32) h hq
theorem m_X1_walk (V : jV) (hV : V.1.stackTraces = false) (N : Nat) (G : Nat → Nat → Int32) (J : Nat → Nat → Int64) (v : (Nat → Nat → Int32)) (h : p_X1_walk N G J = some v) : jMet V yX1_walk (jws yX1_walk cX1_walk 5 none) ⟨1, 0, 0, 20⟩ true 1 [.ref 0, .ref 11] (hET G J) (fun o ν => o = none ∧ ν = (hET v J)) (fun _ _ => False) := by
  refine jmk (tb := tbX1) (C := kX1_walk) hV rfl (by decide) tbX1_ok rfl kX1_walk_ok rfl ?_
  intro X hM _ hp _
  exact t_X1_walk hM hp N G J h ⟨rfl, rfl⟩
def p_X1_play_b78 (N : Nat) (rv35 : (Nat → Nat → Int32) → (Nat → Nat → Int64) → Int32 → Int32 → Option ((Nat → Nat → Int32) × (Nat → Nat → Int64))) (rv49 : (Nat → Nat → Int32) → (Nat → Nat → Int64) → Int32 → Int32 → Int32 → Int32 → Option ((Nat → Nat → Int32) × (Nat → Nat → Int64))) (G : Nat → Nat → Int32) (J : Nat → Nat → Int64) (x2 : Int32) (x3 : Int32) (x4 : Int32) (x5 : Int32) : Option ((Nat → Nat → Int32) × (Nat → Nat → Int64)) :=
  rv49 G J x2 x3 x4 (x5 + (-1))
def p_X1_play_b49 (N : Nat) (rv35 : (Nat → Nat → Int32) → (Nat → Nat → Int64) → Int32 → Int32 → Option ((Nat → Nat → Int32) × (Nat → Nat → Int64))) : Nat → (Nat → Nat → Int32) → (Nat → Nat → Int64) → (Int32) → (Int32) → (Int32) → (Int32) → Option ((Nat → Nat → Int32) × (Nat → Nat → Int64))
  | 0, _, _, _, _, _, _ => none
  | n + 1, G, J, x2, x3, x4, x5 => if x5 < 0 then (rv35 G J x2 (x3 + (-1))) else (if jin x5 1024 = true then if (((G 8 x5.toNatClampNeg) >>> (x3 &&& 31)) &&& (1 : Int32)) = (1 : Int32) then ((p_X1_choose N (jvw G 0) (jvw J 0) x5 x3 x4).bind (fun v15 => jlt (jpt G 0 11 v15.1) fun G16 => jlt (jpt J 0 11 v15.2) fun J18 => (p_X1_play_b49 N rv35 n) G16 J18 x2 x3 x4 (x5 + (-1)))) else (p_X1_play_b78 N rv35 (p_X1_play_b49 N rv35 n) G J x2 x3 x4 x5) else none)
def p_X1_play_b35 (N : Nat) : Nat → (Nat → Nat → Int32) → (Nat → Nat → Int64) → (Int32) → (Int32) → Option ((Nat → Nat → Int32) × (Nat → Nat → Int64))
  | 0, _, _, _, _ => none
  | n + 1, G, J, x2, x3 => if x3 < 0 then ((p_X1_walk N G J).bind (fun v8 => jlt v8 fun G9 => some (G9, J))) else ((p_X1_personIn N (jvw G 0) (jvw J 0) x3).bind (fun v12 => p_X1_play_b49 N (p_X1_play_b35 N n) N G J x2 x3 v12 x2))
def p_X1_play_b12 (N : Nat) : Nat → (Nat → Nat → Int32) → (Nat → Nat → Int64) → (Int32) → (Int32) → Option ((Nat → Nat → Int32) × (Nat → Nat → Int64))
  | 0, _, _, _, _ => none
  | n + 1, G, J, x2, x3 => if x2 < x3 then (p_X1_play_b35 N N G J x2 ((G 0 3) - (1 : Int32))) else ((p_X1_forget N (jvw G 0) (jvw J 0) x3).bind (fun v24 => jlt (jpt G 0 11 v24.1) fun G25 => jlt (jpt J 0 11 v24.2) fun J27 => (p_X1_play_b12 N n) G25 J27 x2 (x3 + 1)))
def p_X1_play (N : Nat) (G : Nat → Nat → Int32) (J : Nat → Nat → Int64) : Option ((Nat → Nat → Int32) × (Nat → Nat → Int64)) :=
  (p_X1_whole N (jvw G 0) (jvw J 0)).bind (fun v2 => (p_X1_weigh N G J).bind (fun v4 => jlt v4 fun G5 => p_X1_play_b12 N N G5 J v2 (0 : Int32)))
set_option maxHeartbeats 4000000 in
set_option maxRecDepth 100000 in
theorem t_X1_play_b78 {X : jX} {po : Option Value → jH → Prop} {px : String → jH → Prop} {sf : Bool} {B9 : Nat} (hM : jMX X kX1_play RX1 tbX1 6 ⟨4, 0, 0, 92⟩ none 21) (hp : jPost X sf B9 po px) (N : Nat) (rv35 : (Nat → Nat → Int32) → (Nat → Nat → Int64) → Int32 → Int32 → Option ((Nat → Nat → Int32) × (Nat → Nat → Int64))) (rv49 : (Nat → Nat → Int32) → (Nat → Nat → Int64) → Int32 → Int32 → Int32 → Int32 → Option ((Nat → Nat → Int32) × (Nat → Nat → Int64))) {res : (Nat → Nat → Int32) × (Nat → Nat → Int64)} (ih35 : ∀ (G : Nat → Nat → Int32) (J : Nat → Nat → Int64) (x2 : Int32) (x3 : Int32), rv35 G J x2 x3 = some res → JW X 0 0 35 [some (.ref 0), some (.ref 11), some (.int x2), some (.int x3), none, none] [] (hET G J)) (ih49 : ∀ (G : Nat → Nat → Int32) (J : Nat → Nat → Int64) (x2 : Int32) (x3 : Int32) (x4 : Int32) (x5 : Int32), rv49 G J x2 x3 x4 x5 = some res → JW X 0 0 49 [some (.ref 0), some (.ref 11), some (.int x2), some (.int x3), some (.int x4), some (.int x5)] [] (hET G J)) (G : Nat → Nat → Int32) (J : Nat → Nat → Int64) (x2 : Int32) (x3 : Int32) (x4 : Int32) (x5 : Int32) (h : p_X1_play_b78 N rv35 rv49 G J x2 x3 x4 x5 = some res) (hq : po none (hET res.1 res.2)) : JW X 0 0 78 [some (.ref 0), some (.ref 11), some (.int x2), some (.int x3), some (.int x4), some (.int x5)] [] (hET G J) := by
  unfold p_X1_play_b78 at h
  refine JW.r hM 46 2 (pc2 := 49) (L2 := [some (.ref 0), some (.ref 11), some (.int x2), some (.int x3), some (.int x4), some (.int (x5 + (-1)))]) (st2 := []) (μ2 := (hET G J)) rfl trivial ?_
  exact ih49 G J x2 x3 x4 (x5 + (-1)) h
set_option maxHeartbeats 4000000 in
set_option maxRecDepth 100000 in
theorem t_X1_play_b49 {X : jX} {po : Option Value → jH → Prop} {px : String → jH → Prop} {sf : Bool} {B9 : Nat} (hM : jMX X kX1_play RX1 tbX1 6 ⟨4, 0, 0, 92⟩ none 21) (hp : jPost X sf B9 po px) (N : Nat) (rv35 : (Nat → Nat → Int32) → (Nat → Nat → Int64) → Int32 → Int32 → Option ((Nat → Nat → Int32) × (Nat → Nat → Int64))) {res : (Nat → Nat → Int32) × (Nat → Nat → Int64)} (ih35 : ∀ (G : Nat → Nat → Int32) (J : Nat → Nat → Int64) (x2 : Int32) (x3 : Int32), rv35 G J x2 x3 = some res → JW X 0 0 35 [some (.ref 0), some (.ref 11), some (.int x2), some (.int x3), none, none] [] (hET G J)) : ∀ (n : Nat) (G : Nat → Nat → Int32) (J : Nat → Nat → Int64) (x2 : Int32) (x3 : Int32) (x4 : Int32) (x5 : Int32) (h : p_X1_play_b49 N rv35 n G J x2 x3 x4 x5 = some res) (hq : po none (hET res.1 res.2)), JW X 0 0 49 [some (.ref 0), some (.ref 11), some (.int x2), some (.int x3), some (.int x4), some (.int x5)] [] (hET G J) := by
  intro n
  induction n with
  | zero =>
    intro G J x2 x3 x4 x5 h hq
    cases (show (none : Option ((Nat → Nat → Int32) × (Nat → Nat → Int64))) = some res from h)
  | succ n ih49 =>
    intro G J x2 x3 x4 x5 h hq
    have ih49 := fun G J x2 x3 x4 x5 h9 => ih49 G J x2 x3 x4 x5 h9 hq
    rw [p_X1_play_b49] at h
    refine JW.r hM 29 1 (pc2 := 51) (L2 := [some (.ref 0), some (.ref 11), some (.int x2), some (.int x3), some (.int x4), some (.int x5)]) (st2 := [.int x5]) (μ2 := (hET G J)) rfl trivial ?_
    refine js_iflt (t := 84) hM.1 (jat hM.2.1 30 rfl) rfl (fun hc21 => ?_) (fun hc21 => ?_)
    · have h := (if_pos hc21).symm.trans h
      refine JW.r hM 48 2 (pc2 := 35) (L2 := [some (.ref 0), some (.ref 11), some (.int x2), some (.int (x3 + (-1))), some (.int x4), some (.int x5)]) (st2 := []) (μ2 := (hET G J)) rfl trivial ?_
      exact JW.mask [true, true, true, true, false, false] (ih35 G J x2 (x3 + (-1)) h)
    · have h := (if_neg hc21).symm.trans h
      obtain ⟨g13, h⟩ := jg h
      refine JW.r hM 31 9 (pc2 := 66) (L2 := [some (.ref 0), some (.ref 11), some (.int x2), some (.int x3), some (.int x4), some (.int x5)]) (st2 := [.int (1 : Int32), .int (((G 8 x5.toNatClampNeg) >>> (x3 &&& 31)) &&& (1 : Int32))]) (μ2 := (hET G J)) rfl ⟨g13, trivial⟩ ?_
      refine js_icne (t := 78) hM.1 (jat hM.2.1 40 rfl) rfl (fun hc20 => ?_) (fun hc20 => ?_)
      · have h := (if_neg hc20).symm.trans h
        exact t_X1_play_b78 hM hp N rv35 (p_X1_play_b49 N rv35 n) ih35 ih49 G J x2 x3 x4 x5 h hq
      · have h := (if_pos hc20).symm.trans h
        refine JW.r hM 41 4 (pc2 := 75) (L2 := [some (.ref 0), some (.ref 11), some (.int x2), some (.int x3), some (.int x4), some (.int x5)]) (st2 := [.int x4, .int x3, .int x5, .ref 0]) (μ2 := (hET G J)) rfl trivial ?_
        obtain ⟨v15, hv14, h⟩ := jbd h
        refine JW.cV (v := none) hM (m_X1_choose (jVX X) hM.1.2.2.2.2.2.2.2.2.2.1 N (jvw G 0) (jvw J 0) x5 x3 x4 v15 hv14) (sb_ET_En_0 G J) (bk_ET_En_0 G J v15.1 v15.2) rfl rfl rfl kc_X1_115 rfl rfl rfl rfl rfl (jat hM.2.1 45 rfl) (st := []) rfl ?_
        show JW X 0 0 78 [some (.ref 0), some (.ref 11), some (.int x2), some (.int x3), some (.int x4), some (.int x5)] [] (hET (jpt G 0 11 v15.1) (jpt J 0 11 v15.2))
        obtain ⟨G16, e17, h⟩ := jlE h
        rw [e17]
        obtain ⟨J18, e19, h⟩ := jlE h
        rw [e19]
        refine JW.r hM 46 2 (pc2 := 49) (L2 := [some (.ref 0), some (.ref 11), some (.int x2), some (.int x3), some (.int x4), some (.int (x5 + (-1)))]) (st2 := []) (μ2 := (hET G16 J18)) rfl trivial ?_
        exact ih49 G16 J18 x2 x3 x4 (x5 + (-1)) h
set_option maxHeartbeats 4000000 in
set_option maxRecDepth 100000 in
theorem t_X1_play_b35 {X : jX} {po : Option Value → jH → Prop} {px : String → jH → Prop} {sf : Bool} {B9 : Nat} (hM : jMX X kX1_play RX1 tbX1 6 ⟨4, 0, 0, 92⟩ none 21) (hp : jPost X sf B9 po px) (N : Nat) {res : (Nat → Nat → Int32) × (Nat → Nat → Int64)} : ∀ (n : Nat) (G : Nat → Nat → Int32) (J : Nat → Nat → Int64) (x2 : Int32) (x3 : Int32) (h : p_X1_play_b35 N n G J x2 x3 = some res) (hq : po none (hET res.1 res.2)), JW X 0 0 35 [some (.ref 0), some (.ref 11), some (.int x2), some (.int x3), none, none] [] (hET G J) := by
  intro n
  induction n with
  | zero =>
    intro G J x2 x3 h hq
    cases (show (none : Option ((Nat → Nat → Int32) × (Nat → Nat → Int64))) = some res from h)
  | succ n ih35 =>
    intro G J x2 x3 h hq
    have ih35 := fun G J x2 x3 h9 => ih35 G J x2 x3 h9 hq
    rw [p_X1_play_b35] at h
    refine JW.r hM 21 1 (pc2 := 36) (L2 := [some (.ref 0), some (.ref 11), some (.int x2), some (.int x3), none, none]) (st2 := [.int x3]) (μ2 := (hET G J)) rfl trivial ?_
    refine js_iflt (t := 90) hM.1 (jat hM.2.1 22 rfl) rfl (fun hc22 => ?_) (fun hc22 => ?_)
    · have h := (if_pos hc22).symm.trans h
      refine JW.r hM 50 2 (pc2 := 92) (L2 := [some (.ref 0), some (.ref 11), some (.int x2), some (.int x3), none, none]) (st2 := [.ref 11, .ref 0]) (μ2 := (hET G J)) rfl trivial ?_
      obtain ⟨v8, hv7, h⟩ := jbd h
      refine JW.cV (v := none) hM (m_X1_walk (jVX X) hM.1.2.2.2.2.2.2.2.2.2.1 N G J v8 hv7) (sb_ET_ET_0_11 G J) (bk_ET_ET_0_11 G J v8 J) rfl rfl rfl kc_X1_118 rfl rfl rfl rfl rfl (jat hM.2.1 52 rfl) (st := []) rfl ?_
      show JW X 0 0 95 [some (.ref 0), some (.ref 11), some (.int x2), some (.int x3), none, none] [] (hET v8 J)
      obtain ⟨G9, e10, h⟩ := jlE h
      rw [e10]
      cases h
      exact js_vret hM.1 hp hM.2.2.2.2.2.2.2.1 (by rw [hM.2.2.2.2.2.1]; exact Nat.le_of_ble_eq_true rfl) (by rw [hM.2.2.2.2.2.2.1]; exact Nat.le_of_ble_eq_true rfl) (jat hM.2.1 53 rfl) hq
    · have h := (if_neg hc22).symm.trans h
      refine JW.r hM 23 2 (pc2 := 41) (L2 := [some (.ref 0), some (.ref 11), some (.int x2), some (.int x3), none, none]) (st2 := [.int x3, .ref 0]) (μ2 := (hET G J)) rfl trivial ?_
      obtain ⟨v12, hv11, h⟩ := jbd h
      refine JW.cV (v := some (.int v12)) hM (m_X1_personIn (jVX X) hM.1.2.2.2.2.2.2.2.2.2.1 N (jvw G 0) (jvw J 0) x3 v12 hv11) (sb_ET_En_0 G J) (bi_ET_En_0 G J) rfl rfl rfl kc_X1_101 rfl rfl rfl rfl rfl (jat hM.2.1 25 rfl) (st := []) rfl ?_
      show JW X 0 0 44 [some (.ref 0), some (.ref 11), some (.int x2), some (.int x3), none, none] [.int v12] (hET G J)
      refine JW.r hM 26 3 (pc2 := 49) (L2 := [some (.ref 0), some (.ref 11), some (.int x2), some (.int x3), some (.int v12), some (.int x2)]) (st2 := []) (μ2 := (hET G J)) rfl trivial ?_
      exact t_X1_play_b49 hM hp N (p_X1_play_b35 N n) ih35 N G J x2 x3 v12 x2 h hq
set_option maxHeartbeats 4000000 in
set_option maxRecDepth 100000 in
theorem t_X1_play_b12 {X : jX} {po : Option Value → jH → Prop} {px : String → jH → Prop} {sf : Bool} {B9 : Nat} (hM : jMX X kX1_play RX1 tbX1 6 ⟨4, 0, 0, 92⟩ none 21) (hp : jPost X sf B9 po px) (N : Nat) {res : (Nat → Nat → Int32) × (Nat → Nat → Int64)} : ∀ (n : Nat) (G : Nat → Nat → Int32) (J : Nat → Nat → Int64) (x2 : Int32) (x3 : Int32) (h : p_X1_play_b12 N n G J x2 x3 = some res) (hq : po none (hET res.1 res.2)), JW X 0 0 12 [some (.ref 0), some (.ref 11), some (.int x2), some (.int x3), none, none] [] (hET G J) := by
  intro n
  induction n with
  | zero =>
    intro G J x2 x3 h hq
    cases (show (none : Option ((Nat → Nat → Int32) × (Nat → Nat → Int64))) = some res from h)
  | succ n ih12 =>
    intro G J x2 x3 h hq
    have ih12 := fun G J x2 x3 h9 => ih12 G J x2 x3 h9 hq
    rw [p_X1_play_b12] at h
    refine JW.r hM 8 2 (pc2 := 14) (L2 := [some (.ref 0), some (.ref 11), some (.int x2), some (.int x3), none, none]) (st2 := [.int x2, .int x3]) (μ2 := (hET G J)) rfl trivial ?_
    refine js_icgt (t := 28) hM.1 (jat hM.2.1 10 rfl) rfl (fun hc29 => ?_) (fun hc29 => ?_)
    · have h := (if_pos hc29).symm.trans h
      refine JW.r hM 16 5 (pc2 := 35) (L2 := [some (.ref 0), some (.ref 11), some (.int x2), some (.int ((G 0 3) - (1 : Int32))), none, none]) (st2 := []) (μ2 := (hET G J)) rfl trivial ?_
      exact t_X1_play_b35 hM hp N N G J x2 ((G 0 3) - (1 : Int32)) h hq
    · have h := (if_neg hc29).symm.trans h
      refine JW.r hM 11 2 (pc2 := 19) (L2 := [some (.ref 0), some (.ref 11), some (.int x2), some (.int x3), none, none]) (st2 := [.int x3, .ref 0]) (μ2 := (hET G J)) rfl trivial ?_
      obtain ⟨v24, hv23, h⟩ := jbd h
      refine JW.cV (v := none) hM (m_X1_forget (jVX X) hM.1.2.2.2.2.2.2.2.2.2.1 N (jvw G 0) (jvw J 0) x3 v24 hv23) (sb_ET_En_0 G J) (bk_ET_En_0 G J v24.1 v24.2) rfl rfl rfl kc_X1_112 rfl rfl rfl rfl rfl (jat hM.2.1 13 rfl) (st := []) rfl ?_
      show JW X 0 0 22 [some (.ref 0), some (.ref 11), some (.int x2), some (.int x3), none, none] [] (hET (jpt G 0 11 v24.1) (jpt J 0 11 v24.2))
      obtain ⟨G25, e26, h⟩ := jlE h
      rw [e26]
      obtain ⟨J27, e28, h⟩ := jlE h
      rw [e28]
      refine JW.r hM 14 2 (pc2 := 12) (L2 := [some (.ref 0), some (.ref 11), some (.int x2), some (.int (x3 + 1)), none, none]) (st2 := []) (μ2 := (hET G25 J27)) rfl trivial ?_
      exact ih12 G25 J27 x2 (x3 + 1) h
set_option maxHeartbeats 4000000 in
set_option maxRecDepth 100000 in
theorem t_X1_play {X : jX} {po : Option Value → jH → Prop} {px : String → jH → Prop} {sf : Bool} {B9 : Nat} (hM : jMX X kX1_play RX1 tbX1 6 ⟨4, 0, 0, 92⟩ none 21) (hp : jPost X sf B9 po px) (N : Nat) (G : Nat → Nat → Int32) (J : Nat → Nat → Int64) {res : (Nat → Nat → Int32) × (Nat → Nat → Int64)} (h : p_X1_play N G J = some res) (hq : po none (hET res.1 res.2)) : JW X 0 0 0 [some (.ref 0), some (.ref 11), none, none, none, none] [] (hET G J) := by
  unfold p_X1_play at h
  refine JW.r hM 0 1 (pc2 := 1) (L2 := [some (.ref 0), some (.ref 11), none, none, none, none]) (st2 := [.ref 0]) (μ2 := (hET G J)) rfl trivial ?_
  obtain ⟨v2, hv1, h⟩ := jbd h
  refine JW.cV (v := some (.int v2)) hM (m_X1_whole (jVX X) hM.1.2.2.2.2.2.2.2.2.2.1 N (jvw G 0) (jvw J 0) v2 hv1) (sb_ET_En_0 G J) (bi_ET_En_0 G J) rfl rfl rfl kc_X1_98 rfl rfl rfl rfl rfl (jat hM.2.1 1 rfl) (st := []) rfl ?_
  show JW X 0 0 4 [some (.ref 0), some (.ref 11), none, none, none, none] [.int v2] (hET G J)
  refine JW.r hM 2 3 (pc2 := 7) (L2 := [some (.ref 0), some (.ref 11), some (.int v2), none, none, none]) (st2 := [.ref 11, .ref 0]) (μ2 := (hET G J)) rfl trivial ?_
  obtain ⟨v4, hv3, h⟩ := jbd h
  refine JW.cV (v := none) hM (m_X1_weigh (jVX X) hM.1.2.2.2.2.2.2.2.2.2.1 N G J v4 hv3) (sb_ET_ET_0_11 G J) (bk_ET_ET_0_11 G J v4 J) rfl rfl rfl kc_X1_108 rfl rfl rfl rfl rfl (jat hM.2.1 5 rfl) (st := []) rfl ?_
  show JW X 0 0 10 [some (.ref 0), some (.ref 11), some (.int v2), none, none, none] [] (hET v4 J)
  obtain ⟨G5, e6, h⟩ := jlE h
  rw [e6]
  refine JW.r hM 6 2 (pc2 := 12) (L2 := [some (.ref 0), some (.ref 11), some (.int v2), some (.int (0 : Int32)), none, none]) (st2 := []) (μ2 := (hET G5 J)) rfl trivial ?_
  exact t_X1_play_b12 hM hp N N G5 J v2 (0 : Int32) h hq
theorem m_X1_play (V : jV) (hV : V.1.stackTraces = false) (N : Nat) (G : Nat → Nat → Int32) (J : Nat → Nat → Int64) (v : (Nat → Nat → Int32) × (Nat → Nat → Int64)) (h : p_X1_play N G J = some v) : jMet V yX1_play (jws yX1_play cX1_play 6 none) ⟨4, 0, 0, 92⟩ true 1 [.ref 0, .ref 11] (hET G J) (fun o ν => o = none ∧ ν = (hET v.1 v.2)) (fun _ _ => False) := by
  refine jmk (tb := tbX1) (C := kX1_play) hV rfl (by decide) tbX1_ok rfl kX1_play_ok rfl ?_
  intro X hM _ hp _
  exact t_X1_play hM hp N G J h ⟨rfl, rfl⟩
def p_X1_change (N : Nat) (G : Nat → Nat → Int32) (J : Nat → Nat → Int64) (p0 : Int32) : Option (Int32) :=
  (p_X1_whole N G J).bind (fun v2 => if jin ((v2 * (6 : Int32)) + p0) 6144 = true then some (G 7 ((v2 * (6 : Int32)) + p0).toNatClampNeg) else none)
set_option maxHeartbeats 4000000 in
set_option maxRecDepth 100000 in
theorem t_X1_change {X : jX} {po : Option Value → jH → Prop} {px : String → jH → Prop} {sf : Bool} {B9 : Nat} (hM : jMX X kX1_change RX1 tbX1 2 ⟨1, 0, 0, 20⟩ (some .int) 12) (hp : jPost X sf B9 po px) (N : Nat) (G : Nat → Nat → Int32) (J : Nat → Nat → Int64) (p0 : Int32) {res : Int32} (h : p_X1_change N G J p0 = some res) (hq : po (some (.int res)) (hEn G J)) : JW X 0 0 0 [some (.ref 0), some (.int p0)] [] (hEn G J) := by
  unfold p_X1_change at h
  refine JW.r hM 0 3 (pc2 := 5) (L2 := [some (.ref 0), some (.int p0)]) (st2 := [.ref 0, .ref 7]) (μ2 := (hEn G J)) rfl trivial ?_
  obtain ⟨v2, hv1, h⟩ := jbd h
  refine JW.cV (v := some (.int v2)) hM (m_X1_whole (jVX X) hM.1.2.2.2.2.2.2.2.2.2.1 N G J v2 hv1) (sb_En_En_0 G J) (bi_En_En_0 G J) rfl rfl rfl kc_X1_98 rfl rfl rfl rfl rfl (jat hM.2.1 3 rfl) (st := [.ref 7]) rfl ?_
  show JW X 0 0 8 [some (.ref 0), some (.int p0)] [.int v2, .ref 7] (hEn G J)
  obtain ⟨g3, h⟩ := jg h
  refine JW.r hM 4 5 (pc2 := 14) (L2 := [some (.ref 0), some (.int p0)]) (st2 := [.int (G 7 ((v2 * (6 : Int32)) + p0).toNatClampNeg)]) (μ2 := (hEn G J)) rfl ⟨g3, trivial⟩ ?_
  cases h
  exact js_iret hM.1 hp hM.2.2.2.2.2.2.2.1 (by rw [hM.2.2.2.2.2.1]; exact Nat.le_of_ble_eq_true rfl) (by rw [hM.2.2.2.2.2.2.1]; exact Nat.le_of_ble_eq_true rfl) (jat hM.2.1 9 rfl) hq
theorem m_X1_change (V : jV) (hV : V.1.stackTraces = false) (N : Nat) (G : Nat → Nat → Int32) (J : Nat → Nat → Int64) (p0 : Int32) (v : Int32) (h : p_X1_change N G J p0 = some v) : jMet V yX1_change (jws yX1_change cX1_change 2 (some .int)) ⟨1, 0, 0, 20⟩ true 1 [.ref 0, .int p0] (hEn G J) (fun o ν => o = some (.int v) ∧ ν = (hEn G J)) (fun _ _ => False) := by
  refine jmk (tb := tbX1) (C := kX1_change) hV rfl (by decide) tbX1_ok rfl kX1_change_ok rfl ?_
  intro X hM _ hp _
  exact t_X1_change hM hp N G J p0 h ⟨rfl, rfl⟩
def p_X1_undoneIn (N : Nat) (G : Nat → Nat → Int32) (J : Nat → Nat → Int64) (p0 : Int32) : Option (Int32) :=
  if p0 < 0 then (some (-1 : Int32)) else (if (G 0 3) ≤ p0 then (some (-1 : Int32)) else (if jin p0 12 = true then some (G 10 p0.toNatClampNeg) else none))
set_option maxHeartbeats 4000000 in
set_option maxRecDepth 100000 in
theorem t_X1_undoneIn {X : jX} {po : Option Value → jH → Prop} {px : String → jH → Prop} {sf : Bool} {B9 : Nat} (hM : jMX X kX1_undoneIn RX1 tbX1 2 ⟨0, 0, 0, 0⟩ (some .int) 12) (hp : jPost X sf B9 po px) (N : Nat) (G : Nat → Nat → Int32) (J : Nat → Nat → Int64) (p0 : Int32) {res : Int32} (h : p_X1_undoneIn N G J p0 = some res) (hq : po (some (.int res)) (hEn G J)) : JW X 0 0 0 [some (.ref 0), some (.int p0)] [] (hEn G J) := by
  unfold p_X1_undoneIn at h
  refine JW.r hM 0 1 (pc2 := 1) (L2 := [some (.ref 0), some (.int p0)]) (st2 := [.int p0]) (μ2 := (hEn G J)) rfl trivial ?_
  refine js_iflt (t := 21) hM.1 (jat hM.2.1 1 rfl) rfl (fun hc3 => ?_) (fun hc3 => ?_)
  · have h := (if_pos hc3).symm.trans h
    refine JW.r hM 11 1 (pc2 := 22) (L2 := [some (.ref 0), some (.int p0)]) (st2 := [.int (-1 : Int32)]) (μ2 := (hEn G J)) rfl trivial ?_
    cases h
    exact js_iret hM.1 hp hM.2.2.2.2.2.2.2.1 (by rw [hM.2.2.2.2.2.1]; exact Nat.le_of_ble_eq_true rfl) (by rw [hM.2.2.2.2.2.2.1]; exact Nat.le_of_ble_eq_true rfl) (jat hM.2.1 12 rfl) hq
  · have h := (if_neg hc3).symm.trans h
    refine JW.r hM 2 3 (pc2 := 9) (L2 := [some (.ref 0), some (.int p0)]) (st2 := [.int (G 0 3), .int p0]) (μ2 := (hEn G J)) rfl trivial ?_
    refine js_icge (t := 21) hM.1 (jat hM.2.1 5 rfl) rfl (fun hc2 => ?_) (fun hc2 => ?_)
    · have h := (if_pos hc2).symm.trans h
      refine JW.r hM 11 1 (pc2 := 22) (L2 := [some (.ref 0), some (.int p0)]) (st2 := [.int (-1 : Int32)]) (μ2 := (hEn G J)) rfl trivial ?_
      cases h
      exact js_iret hM.1 hp hM.2.2.2.2.2.2.2.1 (by rw [hM.2.2.2.2.2.1]; exact Nat.le_of_ble_eq_true rfl) (by rw [hM.2.2.2.2.2.2.1]; exact Nat.le_of_ble_eq_true rfl) (jat hM.2.1 12 rfl) hq
    · have h := (if_neg hc2).symm.trans h
      obtain ⟨g1, h⟩ := jg h
      refine JW.r hM 6 5 (pc2 := 22) (L2 := [some (.ref 0), some (.int p0)]) (st2 := [.int (G 10 p0.toNatClampNeg)]) (μ2 := (hEn G J)) rfl ⟨g1, trivial⟩ ?_
      cases h
      exact js_iret hM.1 hp hM.2.2.2.2.2.2.2.1 (by rw [hM.2.2.2.2.2.1]; exact Nat.le_of_ble_eq_true rfl) (by rw [hM.2.2.2.2.2.2.1]; exact Nat.le_of_ble_eq_true rfl) (jat hM.2.1 12 rfl) hq
theorem m_X1_undoneIn (V : jV) (hV : V.1.stackTraces = false) (N : Nat) (G : Nat → Nat → Int32) (J : Nat → Nat → Int64) (p0 : Int32) (v : Int32) (h : p_X1_undoneIn N G J p0 = some v) : jMet V yX1_undoneIn (jws yX1_undoneIn cX1_undoneIn 2 (some .int)) ⟨0, 0, 0, 0⟩ true 1 [.ref 0, .int p0] (hEn G J) (fun o ν => o = some (.int v) ∧ ν = (hEn G J)) (fun _ _ => False) := by
  refine jmk (tb := tbX1) (C := kX1_undoneIn) hV rfl (by decide) tbX1_ok rfl kX1_undoneIn_ok rfl ?_
  intro X hM _ hp _
  exact t_X1_undoneIn hM hp N G J p0 h ⟨rfl, rfl⟩
def p_X1_undoings_b28 (N : Nat) (G : Nat → Nat → Int32) (J : Nat → Nat → Int64) (rv4 : Int32 → Int32 → Option (Int32)) (x2 : Int32) (s0 : Int32) (s1 : Int32) : Option (Int32) :=
  rv4 (s1 + s0) (x2 + 1)
def p_X1_undoings_b4 (N : Nat) (G : Nat → Nat → Int32) (J : Nat → Nat → Int64) : Nat → (Int32) → (Int32) → Option (Int32)
  | 0, _, _ => none
  | n + 1, x1, x2 => if (G 0 3) ≤ x2 then (some x1) else (if jin x2 12 = true then if (G 10 x2.toNatClampNeg) = (-1 : Int32) then (p_X1_undoings_b28 N G J (p_X1_undoings_b4 N G J n) x2 (0 : Int32) x1) else (p_X1_undoings_b28 N G J (p_X1_undoings_b4 N G J n) x2 (1 : Int32) x1) else none)
def p_X1_undoings (N : Nat) (G : Nat → Nat → Int32) (J : Nat → Nat → Int64) : Option (Int32) :=
  p_X1_undoings_b4 N G J N (0 : Int32) (0 : Int32)
set_option maxHeartbeats 4000000 in
set_option maxRecDepth 100000 in
theorem t_X1_undoings_b28 {X : jX} {po : Option Value → jH → Prop} {px : String → jH → Prop} {sf : Bool} {B9 : Nat} (hM : jMX X kX1_undoings RX1 tbX1 3 ⟨0, 0, 0, 0⟩ (some .int) 12) (hp : jPost X sf B9 po px) (N : Nat) (G : Nat → Nat → Int32) (J : Nat → Nat → Int64) (rv4 : Int32 → Int32 → Option (Int32)) {res : Int32} (ih4 : ∀ (x1 : Int32) (x2 : Int32), rv4 x1 x2 = some res → JW X 0 0 4 [some (.ref 0), some (.int x1), some (.int x2)] [] (hEn G J)) (x2 : Int32) (s0 : Int32) (s1 : Int32) (h : p_X1_undoings_b28 N G J rv4 x2 s0 s1 = some res) (hq : po (some (.int res)) (hEn G J)) : JW X 0 0 28 [some (.ref 0), none, some (.int x2)] [.int s0, .int s1] (hEn G J) := by
  unfold p_X1_undoings_b28 at h
  refine JW.r hM 18 4 (pc2 := 4) (L2 := [some (.ref 0), some (.int (s1 + s0)), some (.int (x2 + 1))]) (st2 := []) (μ2 := (hEn G J)) rfl trivial ?_
  exact ih4 (s1 + s0) (x2 + 1) h
set_option maxHeartbeats 4000000 in
set_option maxRecDepth 100000 in
theorem t_X1_undoings_b4 {X : jX} {po : Option Value → jH → Prop} {px : String → jH → Prop} {sf : Bool} {B9 : Nat} (hM : jMX X kX1_undoings RX1 tbX1 3 ⟨0, 0, 0, 0⟩ (some .int) 12) (hp : jPost X sf B9 po px) (N : Nat) (G : Nat → Nat → Int32) (J : Nat → Nat → Int64) {res : Int32} : ∀ (n : Nat) (x1 : Int32) (x2 : Int32) (h : p_X1_undoings_b4 N G J n x1 x2 = some res) (hq : po (some (.int res)) (hEn G J)), JW X 0 0 4 [some (.ref 0), some (.int x1), some (.int x2)] [] (hEn G J) := by
  intro n
  induction n with
  | zero =>
    intro x1 x2 h hq
    cases (show (none : Option (Int32)) = some res from h)
  | succ n ih4 =>
    intro x1 x2 h hq
    have ih4 := fun x1 x2 h9 => ih4 x1 x2 h9 hq
    rw [p_X1_undoings_b4] at h
    refine JW.r hM 4 3 (pc2 := 9) (L2 := [some (.ref 0), some (.int x1), some (.int x2)]) (st2 := [.int (G 0 3), .int x2]) (μ2 := (hEn G J)) rfl trivial ?_
    refine js_icge (t := 36) hM.1 (jat hM.2.1 7 rfl) rfl (fun hc3 => ?_) (fun hc3 => ?_)
    · have h := (if_pos hc3).symm.trans h
      refine JW.r hM 22 1 (pc2 := 37) (L2 := [some (.ref 0), some (.int x1), some (.int x2)]) (st2 := [.int x1]) (μ2 := (hEn G J)) rfl trivial ?_
      cases h
      exact js_iret hM.1 hp hM.2.2.2.2.2.2.2.1 (by rw [hM.2.2.2.2.2.1]; exact Nat.le_of_ble_eq_true rfl) (by rw [hM.2.2.2.2.2.2.1]; exact Nat.le_of_ble_eq_true rfl) (jat hM.2.1 23 rfl) hq
    · have h := (if_neg hc3).symm.trans h
      obtain ⟨g1, h⟩ := jg h
      refine JW.r hM 8 6 (pc2 := 20) (L2 := [some (.ref 0), some (.int x1), some (.int x2)]) (st2 := [.int (-1 : Int32), .int (G 10 x2.toNatClampNeg), .int x1]) (μ2 := (hEn G J)) rfl ⟨g1, trivial⟩ ?_
      refine js_icne (t := 27) hM.1 (jat hM.2.1 14 rfl) rfl (fun hc2 => ?_) (fun hc2 => ?_)
      · have h := (if_neg hc2).symm.trans h
        refine JW.r hM 17 1 (pc2 := 28) (L2 := [some (.ref 0), some (.int x1), some (.int x2)]) (st2 := [.int (1 : Int32), .int x1]) (μ2 := (hEn G J)) rfl trivial ?_
        exact JW.mask [true, false, true] (t_X1_undoings_b28 hM hp N G J (p_X1_undoings_b4 N G J n) ih4 x2 (1 : Int32) x1 h hq)
      · have h := (if_pos hc2).symm.trans h
        refine JW.r hM 15 2 (pc2 := 28) (L2 := [some (.ref 0), some (.int x1), some (.int x2)]) (st2 := [.int (0 : Int32), .int x1]) (μ2 := (hEn G J)) rfl trivial ?_
        exact JW.mask [true, false, true] (t_X1_undoings_b28 hM hp N G J (p_X1_undoings_b4 N G J n) ih4 x2 (0 : Int32) x1 h hq)
set_option maxHeartbeats 4000000 in
set_option maxRecDepth 100000 in
theorem t_X1_undoings {X : jX} {po : Option Value → jH → Prop} {px : String → jH → Prop} {sf : Bool} {B9 : Nat} (hM : jMX X kX1_undoings RX1 tbX1 3 ⟨0, 0, 0, 0⟩ (some .int) 12) (hp : jPost X sf B9 po px) (N : Nat) (G : Nat → Nat → Int32) (J : Nat → Nat → Int64) {res : Int32} (h : p_X1_undoings N G J = some res) (hq : po (some (.int res)) (hEn G J)) : JW X 0 0 0 [some (.ref 0), none, none] [] (hEn G J) := by
  unfold p_X1_undoings at h
  refine JW.r hM 0 4 (pc2 := 4) (L2 := [some (.ref 0), some (.int (0 : Int32)), some (.int (0 : Int32))]) (st2 := []) (μ2 := (hEn G J)) rfl trivial ?_
  exact t_X1_undoings_b4 hM hp N G J N (0 : Int32) (0 : Int32) h hq
theorem m_X1_undoings (V : jV) (hV : V.1.stackTraces = false) (N : Nat) (G : Nat → Nat → Int32) (J : Nat → Nat → Int64) (v : Int32) (h : p_X1_undoings N G J = some v) : jMet V yX1_undoings (jws yX1_undoings cX1_undoings 3 (some .int)) ⟨0, 0, 0, 0⟩ true 1 [.ref 0] (hEn G J) (fun o ν => o = some (.int v) ∧ ν = (hEn G J)) (fun _ _ => False) := by
  refine jmk (tb := tbX1) (C := kX1_undoings) hV rfl (by decide) tbX1_ok rfl kX1_undoings_ok rfl ?_
  intro X hM _ hp _
  exact t_X1_undoings hM hp N G J h ⟨rfl, rfl⟩

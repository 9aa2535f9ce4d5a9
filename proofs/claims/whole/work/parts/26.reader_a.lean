def p_X2_add_b3 (N : Nat) : Nat → (Nat → Nat → Int32) → (Int32) → (Int32) → Option ((Nat → Nat → Int32))
  | 0, _, _, _ => none
  | n + 1, G, x1, x2 => if x2 < 0 then (some G) else (if (900 : Int32) ≤ (G 0 0) then (some G) else (if jin (G 0 0) 900 = true then jlt (jup G 1 (G 0 0).toNatClampNeg (vp_nar .byte ((x1 >>> (x2 &&& 31)).toInt8.toInt32))) fun G2 => jlt (jup G2 0 0 ((G2 0 0) + (1 : Int32))) fun G4 => (p_X2_add_b3 N n) G4 x1 (x2 + (-8)) else none))
def p_X2_add (N : Nat) (G : Nat → Nat → Int32) (p0 : Int32) : Option ((Nat → Nat → Int32)) :=
  p_X2_add_b3 N N G p0 (24 : Int32)
set_option maxHeartbeats 4000000 in
set_option maxRecDepth 100000 in
theorem t_X2_add_b3 {X : jX} {po : Option Value → jH → Prop} {px : String → jH → Prop} {sf : Bool} {B9 : Nat} (hM : jMX X kX2_add RX2 tbX2 3 ⟨0, 0, 0, 0⟩ none 3) (hp : jPost X sf B9 po px) (N : Nat) {res : (Nat → Nat → Int32)} : ∀ (n : Nat) (G : Nat → Nat → Int32) (x1 : Int32) (x2 : Int32) (h : p_X2_add_b3 N n G x1 x2 = some res) (hq : po none (hRd res)), JW X 0 0 3 [some (.ref 0), some (.int x1), some (.int x2)] [] (hRd G) := by
  intro n
  induction n with
  | zero =>
    intro G x1 x2 h hq
    cases (show (none : Option ((Nat → Nat → Int32))) = some res from h)
  | succ n ih3 =>
    intro G x1 x2 h hq
    have ih3 := fun G x1 x2 h9 => ih3 G x1 x2 h9 hq
    rw [p_X2_add_b3] at h
    refine JW.r hM 2 1 (pc2 := 4) (L2 := [some (.ref 0), some (.int x1), some (.int x2)]) (st2 := [.int x2]) (μ2 := (hRd G)) rfl trivial ?_
    refine js_iflt (t := 46) hM.1 (jat hM.2.1 3 rfl) rfl (fun hc7 => ?_) (fun hc7 => ?_)
    · have h := (if_pos hc7).symm.trans h
      cases h
      exact js_vret hM.1 hp hM.2.2.2.2.2.2.2.1 (by rw [hM.2.2.2.2.2.1]; exact Nat.le_of_ble_eq_true rfl) (by rw [hM.2.2.2.2.2.2.1]; exact Nat.le_of_ble_eq_true rfl) (jat hM.2.1 25 rfl) hq
    · have h := (if_neg hc7).symm.trans h
      refine JW.r hM 4 3 (pc2 := 14) (L2 := [some (.ref 0), some (.int x1), some (.int x2)]) (st2 := [.int (900 : Int32), .int (G 0 0)]) (μ2 := (hRd G)) rfl trivial ?_
      refine js_icge (t := 46) hM.1 (jat hM.2.1 7 rfl) rfl (fun hc6 => ?_) (fun hc6 => ?_)
      · have h := (if_pos hc6).symm.trans h
        cases h
        exact js_vret hM.1 hp hM.2.2.2.2.2.2.2.1 (by rw [hM.2.2.2.2.2.1]; exact Nat.le_of_ble_eq_true rfl) (by rw [hM.2.2.2.2.2.2.1]; exact Nat.le_of_ble_eq_true rfl) (jat hM.2.1 25 rfl) hq
      · have h := (if_neg hc6).symm.trans h
        obtain ⟨g1, h⟩ := jg h
        obtain ⟨G2, e3, h⟩ := jlE h
        refine JW.r hM 8 9 (pc2 := 30) (L2 := [some (.ref 0), some (.int x1), some (.int x2)]) (st2 := []) (μ2 := (hRd (jup G 1 (G 0 0).toNatClampNeg (vp_nar .byte ((x1 >>> (x2 &&& 31)).toInt8.toInt32))))) rfl ⟨g1, trivial⟩ ?_
        rw [e3]
        obtain ⟨G4, e5, h⟩ := jlE h
        refine JW.r hM 17 6 (pc2 := 40) (L2 := [some (.ref 0), some (.int x1), some (.int x2)]) (st2 := []) (μ2 := (hRd (jup G2 0 0 ((G2 0 0) + (1 : Int32))))) rfl trivial ?_
        rw [e5]
        refine JW.r hM 23 2 (pc2 := 3) (L2 := [some (.ref 0), some (.int x1), some (.int (x2 + (-8)))]) (st2 := []) (μ2 := (hRd G4)) rfl trivial ?_
        exact ih3 G4 x1 (x2 + (-8)) h
set_option maxHeartbeats 4000000 in
set_option maxRecDepth 100000 in
theorem t_X2_add {X : jX} {po : Option Value → jH → Prop} {px : String → jH → Prop} {sf : Bool} {B9 : Nat} (hM : jMX X kX2_add RX2 tbX2 3 ⟨0, 0, 0, 0⟩ none 3) (hp : jPost X sf B9 po px) (N : Nat) (G : Nat → Nat → Int32) (p0 : Int32) {res : (Nat → Nat → Int32)} (h : p_X2_add N G p0 = some res) (hq : po none (hRd res)) : JW X 0 0 0 [some (.ref 0), some (.int p0), none] [] (hRd G) := by
  unfold p_X2_add at h
  refine JW.r hM 0 2 (pc2 := 3) (L2 := [some (.ref 0), some (.int p0), some (.int (24 : Int32))]) (st2 := []) (μ2 := (hRd G)) rfl trivial ?_
  exact t_X2_add_b3 hM hp N N G p0 (24 : Int32) h hq
theorem m_X2_add (V : jV) (hV : V.1.stackTraces = false) (N : Nat) (G : Nat → Nat → Int32) (p0 : Int32) (v : (Nat → Nat → Int32)) (h : p_X2_add N G p0 = some v) : jMet V yX2_add (jws yX2_add cX2_add 3 none) ⟨0, 0, 0, 0⟩ true 1 [.ref 0, .int p0] (hRd G) (fun o ν => o = none ∧ ν = (hRd v)) (fun _ _ => False) := by
  refine jmk (tb := tbX2) (C := kX2_add) hV rfl (by decide) tbX2_ok rfl kX2_add_ok rfl ?_
  intro X hM _ hp _
  exact t_X2_add hM hp N G p0 h ⟨rfl, rfl⟩
def p_X2_takeRun_b50 (N : Nat) (G : Nat → Nat → Int32) : Option (Int32 × (Nat → Nat → Int32)) :=
  if (G 0 7) ≤ (G 0 6) then (some ((0 : Int32), G)) else (some ((1 : Int32), G))
def p_X2_takeRun_b0 (N : Nat) : Nat → (Nat → Nat → Int32) → (Int32) → (Int32) → Option (Int32 × (Nat → Nat → Int32))
  | 0, _, _, _ => none
  | n + 1, G, x1, x2 => if (G 0 4) ≤ (G 0 7) then (p_X2_takeRun_b50 N G) else (if jin (G 0 7) 900 = true then if (G 1 (G 0 7).toNatClampNeg) < x1 then (p_X2_takeRun_b50 N G) else (if jin (G 0 7) 900 = true then if x2 < (G 1 (G 0 7).toNatClampNeg) then (p_X2_takeRun_b50 N G) else (jlt (jup G 0 7 ((G 0 7) + (1 : Int32))) fun G4 => (p_X2_takeRun_b0 N n) G4 x1 x2) else none) else none)
def p_X2_takeRun (N : Nat) (G : Nat → Nat → Int32) (p0 : Int32) (p1 : Int32) : Option (Int32 × (Nat → Nat → Int32)) :=
  p_X2_takeRun_b0 N N G p0 p1
set_option maxHeartbeats 4000000 in
set_option maxRecDepth 100000 in
theorem t_X2_takeRun_b50 {X : jX} {po : Option Value → jH → Prop} {px : String → jH → Prop} {sf : Bool} {B9 : Nat} (hM : jMX X kX2_takeRun RX2 tbX2 3 ⟨0, 0, 0, 0⟩ (some .boolean) 3) (hp : jPost X sf B9 po px) (N : Nat) {res : Int32 × (Nat → Nat → Int32)} (G : Nat → Nat → Int32) (h : p_X2_takeRun_b50 N G = some res) (hq : po (some (.int res.1)) (hRd res.2)) : JW X 0 0 50 [some (.ref 0), none, none] [] (hRd G) := by
  unfold p_X2_takeRun_b50 at h
  refine JW.r hM 26 4 (pc2 := 58) (L2 := [some (.ref 0), none, none]) (st2 := [.int (G 0 6), .int (G 0 7)]) (μ2 := (hRd G)) rfl trivial ?_
  refine js_icle (t := 65) hM.1 (jat hM.2.1 30 rfl) rfl (fun hc1 => ?_) (fun hc1 => ?_)
  · have h := (if_pos hc1).symm.trans h
    refine JW.r hM 33 1 (pc2 := 66) (L2 := [some (.ref 0), none, none]) (st2 := [.int (0 : Int32)]) (μ2 := (hRd G)) rfl trivial ?_
    cases h
    exact js_zret hM.1 hp hM.2.2.2.2.2.2.2.1 rfl (by rw [hM.2.2.2.2.2.1]; exact Nat.le_of_ble_eq_true rfl) (by rw [hM.2.2.2.2.2.2.1]; exact Nat.le_of_ble_eq_true rfl) (jat hM.2.1 34 rfl) hq
  · have h := (if_neg hc1).symm.trans h
    refine JW.r hM 31 2 (pc2 := 66) (L2 := [some (.ref 0), none, none]) (st2 := [.int (1 : Int32)]) (μ2 := (hRd G)) rfl trivial ?_
    cases h
    exact js_zret hM.1 hp hM.2.2.2.2.2.2.2.1 rfl (by rw [hM.2.2.2.2.2.1]; exact Nat.le_of_ble_eq_true rfl) (by rw [hM.2.2.2.2.2.2.1]; exact Nat.le_of_ble_eq_true rfl) (jat hM.2.1 34 rfl) hq
set_option maxHeartbeats 4000000 in
set_option maxRecDepth 100000 in
theorem t_X2_takeRun_b0 {X : jX} {po : Option Value → jH → Prop} {px : String → jH → Prop} {sf : Bool} {B9 : Nat} (hM : jMX X kX2_takeRun RX2 tbX2 3 ⟨0, 0, 0, 0⟩ (some .boolean) 3) (hp : jPost X sf B9 po px) (N : Nat) {res : Int32 × (Nat → Nat → Int32)} : ∀ (n : Nat) (G : Nat → Nat → Int32) (x1 : Int32) (x2 : Int32) (h : p_X2_takeRun_b0 N n G x1 x2 = some res) (hq : po (some (.int res.1)) (hRd res.2)), JW X 0 0 0 [some (.ref 0), some (.int x1), some (.int x2)] [] (hRd G) := by
  intro n
  induction n with
  | zero =>
    intro G x1 x2 h hq
    cases (show (none : Option (Int32 × (Nat → Nat → Int32))) = some res from h)
  | succ n ih0 =>
    intro G x1 x2 h hq
    have ih0 := fun G x1 x2 h9 => ih0 G x1 x2 h9 hq
    rw [p_X2_takeRun_b0] at h
    refine JW.r hM 0 4 (pc2 := 8) (L2 := [some (.ref 0), some (.int x1), some (.int x2)]) (st2 := [.int (G 0 4), .int (G 0 7)]) (μ2 := (hRd G)) rfl trivial ?_
    refine js_icge (t := 50) hM.1 (jat hM.2.1 4 rfl) rfl (fun hc8 => ?_) (fun hc8 => ?_)
    · have h := (if_pos hc8).symm.trans h
      exact JW.mask [true, false, false] (t_X2_takeRun_b50 hM hp N G h hq)
    · have h := (if_neg hc8).symm.trans h
      obtain ⟨g2, h⟩ := jg h
      refine JW.r hM 5 6 (pc2 := 21) (L2 := [some (.ref 0), some (.int x1), some (.int x2)]) (st2 := [.int x1, .int (G 1 (G 0 7).toNatClampNeg)]) (μ2 := (hRd G)) rfl ⟨g2, trivial⟩ ?_
      refine js_iclt (t := 50) hM.1 (jat hM.2.1 11 rfl) rfl (fun hc7 => ?_) (fun hc7 => ?_)
      · have h := (if_pos hc7).symm.trans h
        exact JW.mask [true, false, false] (t_X2_takeRun_b50 hM hp N G h hq)
      · have h := (if_neg hc7).symm.trans h
        obtain ⟨g3, h⟩ := jg h
        refine JW.r hM 12 6 (pc2 := 34) (L2 := [some (.ref 0), some (.int x1), some (.int x2)]) (st2 := [.int x2, .int (G 1 (G 0 7).toNatClampNeg)]) (μ2 := (hRd G)) rfl ⟨g3, trivial⟩ ?_
        refine js_icgt (t := 50) hM.1 (jat hM.2.1 18 rfl) rfl (fun hc6 => ?_) (fun hc6 => ?_)
        · have h := (if_pos hc6).symm.trans h
          exact JW.mask [true, false, false] (t_X2_takeRun_b50 hM hp N G h hq)
        · have h := (if_neg hc6).symm.trans h
          obtain ⟨G4, e5, h⟩ := jlE h
          refine JW.r hM 19 6 (pc2 := 47) (L2 := [some (.ref 0), some (.int x1), some (.int x2)]) (st2 := []) (μ2 := (hRd (jup G 0 7 ((G 0 7) + (1 : Int32))))) rfl trivial ?_
          rw [e5]
          refine JW.r hM 25 1 (pc2 := 0) (L2 := [some (.ref 0), some (.int x1), some (.int x2)]) (st2 := []) (μ2 := (hRd G4)) rfl trivial ?_
          exact ih0 G4 x1 x2 h
set_option maxHeartbeats 4000000 in
set_option maxRecDepth 100000 in
theorem t_X2_takeRun {X : jX} {po : Option Value → jH → Prop} {px : String → jH → Prop} {sf : Bool} {B9 : Nat} (hM : jMX X kX2_takeRun RX2 tbX2 3 ⟨0, 0, 0, 0⟩ (some .boolean) 3) (hp : jPost X sf B9 po px) (N : Nat) (G : Nat → Nat → Int32) (p0 : Int32) (p1 : Int32) {res : Int32 × (Nat → Nat → Int32)} (h : p_X2_takeRun N G p0 p1 = some res) (hq : po (some (.int res.1)) (hRd res.2)) : JW X 0 0 0 [some (.ref 0), some (.int p0), some (.int p1)] [] (hRd G) := by
  unfold p_X2_takeRun at h
  exact t_X2_takeRun_b0 hM hp N N G p0 p1 h hq
theorem m_X2_takeRun (V : jV) (hV : V.1.stackTraces = false) (N : Nat) (G : Nat → Nat → Int32) (p0 : Int32) (p1 : Int32) (v : Int32 × (Nat → Nat → Int32)) (h : p_X2_takeRun N G p0 p1 = some v) : jMet V yX2_takeRun (jws yX2_takeRun cX2_takeRun 3 (some .boolean)) ⟨0, 0, 0, 0⟩ true 1 [.ref 0, .int p0, .int p1] (hRd G) (fun o ν => o = some (.int v.1) ∧ ν = (hRd v.2)) (fun _ _ => False) := by
  refine jmk (tb := tbX2) (C := kX2_takeRun) hV rfl (by decide) tbX2_ok rfl kX2_takeRun_ok rfl ?_
  intro X hM _ hp _
  exact t_X2_takeRun hM hp N G p0 p1 h ⟨rfl, rfl⟩
def p_X2_valueOfRun_b7 (N : Nat) (G : Nat → Nat → Int32) : Nat → (Int32) → (Int32) → Option (Int32)
  | 0, _, _ => none
  | n + 1, x1, x2 => if (G 0 7) ≤ x2 then (some x1) else (if ((G 0 6) + (4 : Int32)) ≤ x2 then (some x1) else (if jin x2 900 = true then (p_X2_valueOfRun_b7 N G n) (((x1 * (10 : Int32)) + (G 1 x2.toNatClampNeg)) - (48 : Int32)) (x2 + 1) else none))
def p_X2_valueOfRun (N : Nat) (G : Nat → Nat → Int32) : Option (Int32) :=
  p_X2_valueOfRun_b7 N G N (0 : Int32) (G 0 6)
set_option maxHeartbeats 4000000 in
set_option maxRecDepth 100000 in
theorem t_X2_valueOfRun_b7 {X : jX} {po : Option Value → jH → Prop} {px : String → jH → Prop} {sf : Bool} {B9 : Nat} (hM : jMX X kX2_valueOfRun RX2 tbX2 3 ⟨0, 0, 0, 0⟩ (some .int) 3) (hp : jPost X sf B9 po px) (N : Nat) (G : Nat → Nat → Int32) {res : Int32} : ∀ (n : Nat) (x1 : Int32) (x2 : Int32) (h : p_X2_valueOfRun_b7 N G n x1 x2 = some res) (hq : po (some (.int res)) (hRd G)), JW X 0 0 7 [some (.ref 0), some (.int x1), some (.int x2)] [] (hRd G) := by
  intro n
  induction n with
  | zero =>
    intro x1 x2 h hq
    cases (show (none : Option (Int32)) = some res from h)
  | succ n ih7 =>
    intro x1 x2 h hq
    have ih7 := fun x1 x2 h9 => ih7 x1 x2 h9 hq
    rw [p_X2_valueOfRun_b7] at h
    refine JW.r hM 5 3 (pc2 := 12) (L2 := [some (.ref 0), some (.int x1), some (.int x2)]) (st2 := [.int (G 0 7), .int x2]) (μ2 := (hRd G)) rfl trivial ?_
    refine js_icge (t := 46) hM.1 (jat hM.2.1 8 rfl) rfl (fun hc3 => ?_) (fun hc3 => ?_)
    · have h := (if_pos hc3).symm.trans h
      refine JW.r hM 28 1 (pc2 := 47) (L2 := [some (.ref 0), some (.int x1), some (.int x2)]) (st2 := [.int x1]) (μ2 := (hRd G)) rfl trivial ?_
      cases h
      exact js_iret hM.1 hp hM.2.2.2.2.2.2.2.1 (by rw [hM.2.2.2.2.2.1]; exact Nat.le_of_ble_eq_true rfl) (by rw [hM.2.2.2.2.2.2.1]; exact Nat.le_of_ble_eq_true rfl) (jat hM.2.1 29 rfl) hq
    · have h := (if_neg hc3).symm.trans h
      refine JW.r hM 9 5 (pc2 := 22) (L2 := [some (.ref 0), some (.int x1), some (.int x2)]) (st2 := [.int ((G 0 6) + (4 : Int32)), .int x2]) (μ2 := (hRd G)) rfl trivial ?_
      refine js_icge (t := 46) hM.1 (jat hM.2.1 14 rfl) rfl (fun hc2 => ?_) (fun hc2 => ?_)
      · have h := (if_pos hc2).symm.trans h
        refine JW.r hM 28 1 (pc2 := 47) (L2 := [some (.ref 0), some (.int x1), some (.int x2)]) (st2 := [.int x1]) (μ2 := (hRd G)) rfl trivial ?_
        cases h
        exact js_iret hM.1 hp hM.2.2.2.2.2.2.2.1 (by rw [hM.2.2.2.2.2.1]; exact Nat.le_of_ble_eq_true rfl) (by rw [hM.2.2.2.2.2.2.1]; exact Nat.le_of_ble_eq_true rfl) (jat hM.2.1 29 rfl) hq
      · have h := (if_neg hc2).symm.trans h
        obtain ⟨g1, h⟩ := jg h
        refine JW.r hM 15 13 (pc2 := 7) (L2 := [some (.ref 0), some (.int (((x1 * (10 : Int32)) + (G 1 x2.toNatClampNeg)) - (48 : Int32))), some (.int (x2 + 1))]) (st2 := []) (μ2 := (hRd G)) rfl ⟨g1, trivial⟩ ?_
        exact ih7 (((x1 * (10 : Int32)) + (G 1 x2.toNatClampNeg)) - (48 : Int32)) (x2 + 1) h
set_option maxHeartbeats 4000000 in
set_option maxRecDepth 100000 in
theorem t_X2_valueOfRun {X : jX} {po : Option Value → jH → Prop} {px : String → jH → Prop} {sf : Bool} {B9 : Nat} (hM : jMX X kX2_valueOfRun RX2 tbX2 3 ⟨0, 0, 0, 0⟩ (some .int) 3) (hp : jPost X sf B9 po px) (N : Nat) (G : Nat → Nat → Int32) {res : Int32} (h : p_X2_valueOfRun N G = some res) (hq : po (some (.int res)) (hRd G)) : JW X 0 0 0 [some (.ref 0), none, none] [] (hRd G) := by
  unfold p_X2_valueOfRun at h
  refine JW.r hM 0 5 (pc2 := 7) (L2 := [some (.ref 0), some (.int (0 : Int32)), some (.int (G 0 6))]) (st2 := []) (μ2 := (hRd G)) rfl trivial ?_
  exact t_X2_valueOfRun_b7 hM hp N G N (0 : Int32) (G 0 6) h hq
theorem m_X2_valueOfRun (V : jV) (hV : V.1.stackTraces = false) (N : Nat) (G : Nat → Nat → Int32) (v : Int32) (h : p_X2_valueOfRun N G = some v) : jMet V yX2_valueOfRun (jws yX2_valueOfRun cX2_valueOfRun 3 (some .int)) ⟨0, 0, 0, 0⟩ true 1 [.ref 0] (hRd G) (fun o ν => o = some (.int v) ∧ ν = (hRd G)) (fun _ _ => False) := by
  refine jmk (tb := tbX2) (C := kX2_valueOfRun) hV rfl (by decide) tbX2_ok rfl kX2_valueOfRun_ok rfl ?_
  intro X hM _ hp _
  exact t_X2_valueOfRun hM hp N G h ⟨rfl, rfl⟩
def p_X2_next_b170 (N : Nat) (G : Nat → Nat → Int32) (s0 : Int32) : Option ((Nat → Nat → Int32)) :=
  jlt (jup G 0 5 s0) fun G14 => jlt (jup G14 0 7 ((G14 0 6) + (1 : Int32))) fun G16 => some G16
def p_X2_next_b136 (N : Nat) (G : Nat → Nat → Int32) (s0 : Int32) : Option ((Nat → Nat → Int32)) :=
  jlt (jup G 0 5 s0) fun G19 => (p_X2_valueOfRun N G19).bind (fun v22 => jlt (jup G19 0 8 v22) fun G23 => some G23)
def p_X2_next_b60 (N : Nat) (G : Nat → Nat → Int32) : Option ((Nat → Nat → Int32)) :=
  jlt (jup G 0 7 (G 0 6)) fun G3 => if (G3 0 6) < (G3 0 4) then ((p_X2_takeRun N G3 (97 : Int32) (122 : Int32)).bind (fun v6 => jlt v6.2 fun G7 => if v6.1 = 0 then ((p_X2_takeRun N G7 (48 : Int32) (57 : Int32)).bind (fun v10 => jlt v10.2 fun G11 => if v10.1 = 0 then (if jin (G11 0 6) 900 = true then if (G11 1 (G11 0 6).toNatClampNeg) = (59 : Int32) then (p_X2_next_b170 N G11 (4 : Int32)) else (p_X2_next_b170 N G11 (0 : Int32)) else none) else (if ((G11 0 7) - (G11 0 6)) ≤ (4 : Int32) then (p_X2_next_b136 N G11 (3 : Int32)) else (p_X2_next_b136 N G11 (0 : Int32))))) else (jlt (jup G7 0 5 (2 : Int32)) fun G27 => some G27))) else (jlt (jup G3 0 5 (1 : Int32)) fun G30 => some G30)
def p_X2_next_b47 (N : Nat) (rv8 : (Nat → Nat → Int32) → Option ((Nat → Nat → Int32))) (G : Nat → Nat → Int32) : Option ((Nat → Nat → Int32)) :=
  jlt (jup G 0 6 ((G 0 6) + (1 : Int32))) fun G34 => rv8 G34
def p_X2_next_b8 (N : Nat) : Nat → (Nat → Nat → Int32) → Option ((Nat → Nat → Int32))
  | 0, _ => none
  | n + 1, G => if (G 0 4) ≤ (G 0 6) then (p_X2_next_b60 N G) else (if jin (G 0 6) 900 = true then if (G 1 (G 0 6).toNatClampNeg) = (10 : Int32) then (p_X2_next_b47 N (p_X2_next_b8 N n) G) else (if jin (G 0 6) 900 = true then if (G 1 (G 0 6).toNatClampNeg) = (32 : Int32) then (p_X2_next_b47 N (p_X2_next_b8 N n) G) else (p_X2_next_b60 N G) else none) else none)
def p_X2_next (N : Nat) (G : Nat → Nat → Int32) : Option ((Nat → Nat → Int32)) :=
  jlt (jup G 0 6 (G 0 7)) fun G1 => p_X2_next_b8 N N G1
set_option maxHeartbeats 4000000 in
set_option maxRecDepth 100000 in
theorem t_X2_next_b170 {X : jX} {po : Option Value → jH → Prop} {px : String → jH → Prop} {sf : Bool} {B9 : Nat} (hM : jMX X kX2_next RX2 tbX2 1 ⟨1, 0, 0, 22⟩ none 3) (hp : jPost X sf B9 po px) (N : Nat) {res : (Nat → Nat → Int32)} (G : Nat → Nat → Int32) (s0 : Int32) (h : p_X2_next_b170 N G s0 = some res) (hq : po none (hRd res)) : JW X 0 0 170 [some (.ref 0)] [.int s0, .ref 0] (hRd G) := by
  unfold p_X2_next_b170 at h
  obtain ⟨G14, e15, h⟩ := jlE h
  refine JW.r hM 85 1 (pc2 := 173) (L2 := [some (.ref 0)]) (st2 := []) (μ2 := (hRd (jup G 0 5 s0))) rfl trivial ?_
  rw [e15]
  obtain ⟨G16, e17, h⟩ := jlE h
  refine JW.r hM 86 6 (pc2 := 183) (L2 := [some (.ref 0)]) (st2 := []) (μ2 := (hRd (jup G14 0 7 ((G14 0 6) + (1 : Int32))))) rfl trivial ?_
  rw [e17]
  cases h
  exact js_vret hM.1 hp hM.2.2.2.2.2.2.2.1 (by rw [hM.2.2.2.2.2.1]; exact Nat.le_of_ble_eq_true rfl) (by rw [hM.2.2.2.2.2.2.1]; exact Nat.le_of_ble_eq_true rfl) (jat hM.2.1 92 rfl) hq
set_option maxHeartbeats 4000000 in
set_option maxRecDepth 100000 in
theorem t_X2_next_b136 {X : jX} {po : Option Value → jH → Prop} {px : String → jH → Prop} {sf : Bool} {B9 : Nat} (hM : jMX X kX2_next RX2 tbX2 1 ⟨1, 0, 0, 22⟩ none 3) (hp : jPost X sf B9 po px) (N : Nat) {res : (Nat → Nat → Int32)} (G : Nat → Nat → Int32) (s0 : Int32) (h : p_X2_next_b136 N G s0 = some res) (hq : po none (hRd res)) : JW X 0 0 136 [some (.ref 0)] [.int s0, .ref 0] (hRd G) := by
  unfold p_X2_next_b136 at h
  obtain ⟨G19, e20, h⟩ := jlE h
  refine JW.r hM 68 1 (pc2 := 139) (L2 := [some (.ref 0)]) (st2 := []) (μ2 := (hRd (jup G 0 5 s0))) rfl trivial ?_
  rw [e20]
  refine JW.r hM 69 2 (pc2 := 141) (L2 := [some (.ref 0)]) (st2 := [.ref 0, .ref 0]) (μ2 := (hRd G19)) rfl trivial ?_
  obtain ⟨v22, hv21, h⟩ := jbd h
  refine JW.cV (v := some (.int v22)) hM (m_X2_valueOfRun (jVX X) hM.1.2.2.2.2.2.2.2.2.2.1 N G19 v22 hv21) (sb_Rd_Rd_0 G19) (bi_Rd_Rd_0 G19) rfl rfl rfl kc_X2_149 rfl rfl rfl rfl rfl (jat hM.2.1 71 rfl) (st := [.ref 0]) rfl ?_
  show JW X 0 0 144 [some (.ref 0)] [.int v22, .ref 0] (hRd G19)
  obtain ⟨G23, e24, h⟩ := jlE h
  refine JW.r hM 72 1 (pc2 := 147) (L2 := [some (.ref 0)]) (st2 := []) (μ2 := (hRd (jup G19 0 8 v22))) rfl trivial ?_
  rw [e24]
  refine JW.r hM 73 1 (pc2 := 183) (L2 := [some (.ref 0)]) (st2 := []) (μ2 := (hRd G23)) rfl trivial ?_
  cases h
  exact js_vret hM.1 hp hM.2.2.2.2.2.2.2.1 (by rw [hM.2.2.2.2.2.1]; exact Nat.le_of_ble_eq_true rfl) (by rw [hM.2.2.2.2.2.2.1]; exact Nat.le_of_ble_eq_true rfl) (jat hM.2.1 92 rfl) hq
set_option maxHeartbeats 4000000 in
set_option maxRecDepth 100000 in
theorem t_X2_next_b60 {X : jX} {po : Option Value → jH → Prop} {px : String → jH → Prop} {sf : Bool} {B9 : Nat} (hM : jMX X kX2_next RX2 tbX2 1 ⟨1, 0, 0, 22⟩ none 3) (hp : jPost X sf B9 po px) (N : Nat) {res : (Nat → Nat → Int32)} (G : Nat → Nat → Int32) (h : p_X2_next_b60 N G = some res) (hq : po none (hRd res)) : JW X 0 0 60 [some (.ref 0)] [] (hRd G) := by
  unfold p_X2_next_b60 at h
  obtain ⟨G3, e4, h⟩ := jlE h
  refine JW.r hM 30 4 (pc2 := 68) (L2 := [some (.ref 0)]) (st2 := []) (μ2 := (hRd (jup G 0 7 (G 0 6)))) rfl trivial ?_
  rw [e4]
  refine JW.r hM 34 4 (pc2 := 76) (L2 := [some (.ref 0)]) (st2 := [.int (G3 0 4), .int (G3 0 6)]) (μ2 := (hRd G3)) rfl trivial ?_
  refine js_iclt (t := 87) hM.1 (jat hM.2.1 38 rfl) rfl (fun hc32 => ?_) (fun hc32 => ?_)
  · have h := (if_pos hc32).symm.trans h
    refine JW.r hM 43 3 (pc2 := 92) (L2 := [some (.ref 0)]) (st2 := [.int (122 : Int32), .int (97 : Int32), .ref 0]) (μ2 := (hRd G3)) rfl trivial ?_
    obtain ⟨v6, hv5, h⟩ := jbd h
    refine JW.cV (v := some (.int v6.1)) hM (m_X2_takeRun (jVX X) hM.1.2.2.2.2.2.2.2.2.2.1 N G3 (97 : Int32) (122 : Int32) v6 hv5) (sb_Rd_Rd_0 G3) (bk_Rd_Rd_0 G3 v6.2) rfl rfl rfl kc_X2_146 rfl rfl rfl rfl rfl (jat hM.2.1 46 rfl) (st := []) rfl ?_
    show JW X 0 0 95 [some (.ref 0)] [.int v6.1] (hRd v6.2)
    obtain ⟨G7, e8, h⟩ := jlE h
    rw [e8]
    refine js_ifeq (t := 106) hM.1 (jat hM.2.1 47 rfl) rfl (fun hc29 => ?_) (fun hc29 => ?_)
    · have h := (if_pos hc29).symm.trans h
      refine JW.r hM 52 3 (pc2 := 111) (L2 := [some (.ref 0)]) (st2 := [.int (57 : Int32), .int (48 : Int32), .ref 0]) (μ2 := (hRd G7)) rfl trivial ?_
      obtain ⟨v10, hv9, h⟩ := jbd h
      refine JW.cV (v := some (.int v10.1)) hM (m_X2_takeRun (jVX X) hM.1.2.2.2.2.2.2.2.2.2.1 N G7 (48 : Int32) (57 : Int32) v10 hv9) (sb_Rd_Rd_0 G7) (bk_Rd_Rd_0 G7 v10.2) rfl rfl rfl kc_X2_146 rfl rfl rfl rfl rfl (jat hM.2.1 55 rfl) (st := []) rfl ?_
      show JW X 0 0 114 [some (.ref 0)] [.int v10.1] (hRd v10.2)
      obtain ⟨G11, e12, h⟩ := jlE h
      rw [e12]
      refine js_ifeq (t := 150) hM.1 (jat hM.2.1 56 rfl) rfl (fun hc26 => ?_) (fun hc26 => ?_)
      · have h := (if_pos hc26).symm.trans h
        obtain ⟨g13, h⟩ := jg h
        refine JW.r hM 74 7 (pc2 := 162) (L2 := [some (.ref 0)]) (st2 := [.int (59 : Int32), .int (G11 1 (G11 0 6).toNatClampNeg), .ref 0]) (μ2 := (hRd G11)) rfl ⟨g13, trivial⟩ ?_
        refine js_icne (t := 169) hM.1 (jat hM.2.1 81 rfl) rfl (fun hc18 => ?_) (fun hc18 => ?_)
        · have h := (if_neg hc18).symm.trans h
          refine JW.r hM 84 1 (pc2 := 170) (L2 := [some (.ref 0)]) (st2 := [.int (0 : Int32), .ref 0]) (μ2 := (hRd G11)) rfl trivial ?_
          exact t_X2_next_b170 hM hp N G11 (0 : Int32) h hq
        · have h := (if_pos hc18).symm.trans h
          refine JW.r hM 82 2 (pc2 := 170) (L2 := [some (.ref 0)]) (st2 := [.int (4 : Int32), .ref 0]) (μ2 := (hRd G11)) rfl trivial ?_
          exact t_X2_next_b170 hM hp N G11 (4 : Int32) h hq
      · have h := (if_neg hc26).symm.trans h
        refine JW.r hM 57 7 (pc2 := 128) (L2 := [some (.ref 0)]) (st2 := [.int (4 : Int32), .int ((G11 0 7) - (G11 0 6)), .ref 0]) (μ2 := (hRd G11)) rfl trivial ?_
        refine js_icle (t := 135) hM.1 (jat hM.2.1 64 rfl) rfl (fun hc25 => ?_) (fun hc25 => ?_)
        · have h := (if_pos hc25).symm.trans h
          refine JW.r hM 67 1 (pc2 := 136) (L2 := [some (.ref 0)]) (st2 := [.int (3 : Int32), .ref 0]) (μ2 := (hRd G11)) rfl trivial ?_
          exact t_X2_next_b136 hM hp N G11 (3 : Int32) h hq
        · have h := (if_neg hc25).symm.trans h
          refine JW.r hM 65 2 (pc2 := 136) (L2 := [some (.ref 0)]) (st2 := [.int (0 : Int32), .ref 0]) (μ2 := (hRd G11)) rfl trivial ?_
          exact t_X2_next_b136 hM hp N G11 (0 : Int32) h hq
    · have h := (if_neg hc29).symm.trans h
      obtain ⟨G27, e28, h⟩ := jlE h
      refine JW.r hM 48 3 (pc2 := 103) (L2 := [some (.ref 0)]) (st2 := []) (μ2 := (hRd (jup G7 0 5 (2 : Int32)))) rfl trivial ?_
      rw [e28]
      refine JW.r hM 51 1 (pc2 := 183) (L2 := [some (.ref 0)]) (st2 := []) (μ2 := (hRd G27)) rfl trivial ?_
      cases h
      exact js_vret hM.1 hp hM.2.2.2.2.2.2.2.1 (by rw [hM.2.2.2.2.2.1]; exact Nat.le_of_ble_eq_true rfl) (by rw [hM.2.2.2.2.2.2.1]; exact Nat.le_of_ble_eq_true rfl) (jat hM.2.1 92 rfl) hq
  · have h := (if_neg hc32).symm.trans h
    obtain ⟨G30, e31, h⟩ := jlE h
    refine JW.r hM 39 3 (pc2 := 84) (L2 := [some (.ref 0)]) (st2 := []) (μ2 := (hRd (jup G3 0 5 (1 : Int32)))) rfl trivial ?_
    rw [e31]
    refine JW.r hM 42 1 (pc2 := 183) (L2 := [some (.ref 0)]) (st2 := []) (μ2 := (hRd G30)) rfl trivial ?_
    cases h
    exact js_vret hM.1 hp hM.2.2.2.2.2.2.2.1 (by rw [hM.2.2.2.2.2.1]; exact Nat.le_of_ble_eq_true rfl) (by rw [hM.2.2.2.2.2.2.1]; exact Nat.le_of_ble_eq_true rfl) (jat hM.2.1 92 rfl) hq
set_option maxHeartbeats 4000000 in
set_option maxRecDepth 100000 in
theorem t_X2_next_b47 {X : jX} {po : Option Value → jH → Prop} {px : String → jH → Prop} {sf : Bool} {B9 : Nat} (hM : jMX X kX2_next RX2 tbX2 1 ⟨1, 0, 0, 22⟩ none 3) (hp : jPost X sf B9 po px) (N : Nat) (rv8 : (Nat → Nat → Int32) → Option ((Nat → Nat → Int32))) {res : (Nat → Nat → Int32)} (ih8 : ∀ (G : Nat → Nat → Int32), rv8 G = some res → JW X 0 0 8 [some (.ref 0)] [] (hRd G)) (G : Nat → Nat → Int32) (h : p_X2_next_b47 N rv8 G = some res) (hq : po none (hRd res)) : JW X 0 0 47 [some (.ref 0)] [] (hRd G) := by
  unfold p_X2_next_b47 at h
  obtain ⟨G34, e35, h⟩ := jlE h
  refine JW.r hM 23 6 (pc2 := 57) (L2 := [some (.ref 0)]) (st2 := []) (μ2 := (hRd (jup G 0 6 ((G 0 6) + (1 : Int32))))) rfl trivial ?_
  rw [e35]
  refine JW.r hM 29 1 (pc2 := 8) (L2 := [some (.ref 0)]) (st2 := []) (μ2 := (hRd G34)) rfl trivial ?_
  exact ih8 G34 h
set_option maxHeartbeats 4000000 in
set_option maxRecDepth 100000 in
theorem t_X2_next_b8 {X : jX} {po : Option Value → jH → Prop} {px : String → jH → Prop} {sf : Bool} {B9 : Nat} (hM : jMX X kX2_next RX2 tbX2 1 ⟨1, 0, 0, 22⟩ none 3) (hp : jPost X sf B9 po px) (N : Nat) {res : (Nat → Nat → Int32)} : ∀ (n : Nat) (G : Nat → Nat → Int32) (h : p_X2_next_b8 N n G = some res) (hq : po none (hRd res)), JW X 0 0 8 [some (.ref 0)] [] (hRd G) := by
  intro n
  induction n with
  | zero =>
    intro G h hq
    cases (show (none : Option ((Nat → Nat → Int32))) = some res from h)
  | succ n ih8 =>
    intro G h hq
    have ih8 := fun G h9 => ih8 G h9 hq
    rw [p_X2_next_b8] at h
    refine JW.r hM 4 4 (pc2 := 16) (L2 := [some (.ref 0)]) (st2 := [.int (G 0 4), .int (G 0 6)]) (μ2 := (hRd G)) rfl trivial ?_
    refine js_icge (t := 60) hM.1 (jat hM.2.1 8 rfl) rfl (fun hc39 => ?_) (fun hc39 => ?_)
    · have h := (if_pos hc39).symm.trans h
      exact t_X2_next_b60 hM hp N G h hq
    · have h := (if_neg hc39).symm.trans h
      obtain ⟨g33, h⟩ := jg h
      refine JW.r hM 9 6 (pc2 := 30) (L2 := [some (.ref 0)]) (st2 := [.int (10 : Int32), .int (G 1 (G 0 6).toNatClampNeg)]) (μ2 := (hRd G)) rfl ⟨g33, trivial⟩ ?_
      refine js_iceq (t := 47) hM.1 (jat hM.2.1 15 rfl) rfl (fun hc38 => ?_) (fun hc38 => ?_)
      · have h := (if_pos hc38).symm.trans h
        exact t_X2_next_b47 hM hp N (p_X2_next_b8 N n) ih8 G h hq
      · have h := (if_neg hc38).symm.trans h
        obtain ⟨g36, h⟩ := jg h
        refine JW.r hM 16 6 (pc2 := 44) (L2 := [some (.ref 0)]) (st2 := [.int (32 : Int32), .int (G 1 (G 0 6).toNatClampNeg)]) (μ2 := (hRd G)) rfl ⟨g36, trivial⟩ ?_
        refine js_icne (t := 60) hM.1 (jat hM.2.1 22 rfl) rfl (fun hc37 => ?_) (fun hc37 => ?_)
        · have h := (if_neg hc37).symm.trans h
          exact t_X2_next_b60 hM hp N G h hq
        · have h := (if_pos hc37).symm.trans h
          exact t_X2_next_b47 hM hp N (p_X2_next_b8 N n) ih8 G h hq
set_option maxHeartbeats 4000000 in
set_option maxRecDepth 100000 in
theorem t_X2_next {X : jX} {po : Option Value → jH → Prop} {px : String → jH → Prop} {sf : Bool} {B9 : Nat} (hM : jMX X kX2_next RX2 tbX2 1 ⟨1, 0, 0, 22⟩ none 3) (hp : jPost X sf B9 po px) (N : Nat) (G : Nat → Nat → Int32) {res : (Nat → Nat → Int32)} (h : p_X2_next N G = some res) (hq : po none (hRd res)) : JW X 0 0 0 [some (.ref 0)] [] (hRd G) := by
  unfold p_X2_next at h
  obtain ⟨G1, e2, h⟩ := jlE h
  refine JW.r hM 0 4 (pc2 := 8) (L2 := [some (.ref 0)]) (st2 := []) (μ2 := (hRd (jup G 0 6 (G 0 7)))) rfl trivial ?_
  rw [e2]
  exact t_X2_next_b8 hM hp N N G1 h hq
theorem m_X2_next (V : jV) (hV : V.1.stackTraces = false) (N : Nat) (G : Nat → Nat → Int32) (v : (Nat → Nat → Int32)) (h : p_X2_next N G = some v) : jMet V yX2_next (jws yX2_next cX2_next 1 none) ⟨1, 0, 0, 22⟩ true 1 [.ref 0] (hRd G) (fun o ν => o = none ∧ ν = (hRd v)) (fun _ _ => False) := by
  refine jmk (tb := tbX2) (C := kX2_next) hV rfl (by decide) tbX2_ok rfl kX2_next_ok rfl ?_
  intro X hM _ hp _
  exact t_X2_next hM hp N G h ⟨rfl, rfl⟩
def p_X2_isWord_0_b28 (N : Nat) (G : Nat → Nat → Int32) : Nat → (Int32) → Option (Int32)
  | 0, _ => none
  | n + 1, x2 => if (6 : Int32) ≤ x2 then (some (1 : Int32)) else (if jin ((G 0 6) + x2) 900 = true then if jin x2 6 = true then if (G 1 ((G 0 6) + x2).toNatClampNeg) = (jch 0 x2) then ((p_X2_isWord_0_b28 N G n) (x2 + 1)) else (some (0 : Int32)) else none else none)
def p_X2_isWord_0 (N : Nat) (G : Nat → Nat → Int32) : Option (Int32) :=
  if (G 0 5) = (2 : Int32) then (if ((G 0 7) - (G 0 6)) = (6 : Int32) then (p_X2_isWord_0_b28 N G N (0 : Int32)) else (some (0 : Int32))) else (some (0 : Int32))
set_option maxHeartbeats 4000000 in
set_option maxRecDepth 100000 in
theorem t_X2_isWord_0_b28 {X : jX} {po : Option Value → jH → Prop} {px : String → jH → Prop} {sf : Bool} {B9 : Nat} (hM : jMX X kX2_isWord RX2 tbX2 3 ⟨4, 0, 0, 108⟩ (some .boolean) 3) (hp : jPost X sf B9 po px) (N : Nat) (G : Nat → Nat → Int32) {res : Int32} : ∀ (n : Nat) (x2 : Int32) (h : p_X2_isWord_0_b28 N G n x2 = some res) (hq : po (some (.int res)) (hRd G)), JW X 0 0 28 [some (.ref 0), some (.ref 1000000), some (.int x2)] [] (hRd G) := by
  intro n
  induction n with
  | zero =>
    intro x2 h hq
    cases (show (none : Option (Int32)) = some res from h)
  | succ n ih28 =>
    intro x2 h hq
    have ih28 := fun x2 h9 => ih28 x2 h9 hq
    rw [p_X2_isWord_0_b28] at h
    refine JW.r hM 16 2 (pc2 := 30) (L2 := [some (.ref 0), some (.ref 1000000), some (.int x2)]) (st2 := [.ref 1000000, .int x2]) (μ2 := (hRd G)) rfl trivial ?_
    refine js_slen (w := 0) hM.1 (by decide) (by rw [hM.2.2.1]; exact wd752) (jat hM.2.1 18 rfl) (by rw [hM.2.2.2.2.1]; exact Nat.le_of_ble_eq_true rfl) (by rw [hM.2.2.2.2.1]; exact Nat.le_of_ble_eq_true rfl) (by rw [hM.2.2.2.2.1]; exact Nat.le_of_ble_eq_true rfl) (by rw [hM.2.2.2.2.1]; exact Nat.le_of_ble_eq_true rfl) ?_
    show JW X 0 0 33 [some (.ref 0), some (.ref 1000000), some (.int x2)] [.int (6 : Int32), .int x2] (hRd G)
    refine js_icge (t := 63) hM.1 (jat hM.2.1 19 rfl) rfl (fun hc4 => ?_) (fun hc4 => ?_)
    · have h := (if_pos hc4).symm.trans h
      refine JW.r hM 35 1 (pc2 := 64) (L2 := [some (.ref 0), some (.ref 1000000), some (.int x2)]) (st2 := [.int (1 : Int32)]) (μ2 := (hRd G)) rfl trivial ?_
      cases h
      exact js_zret hM.1 hp hM.2.2.2.2.2.2.2.1 rfl (by rw [hM.2.2.2.2.2.1]; exact Nat.le_of_ble_eq_true rfl) (by rw [hM.2.2.2.2.2.2.1]; exact Nat.le_of_ble_eq_true rfl) (jat hM.2.1 36 rfl) hq
    · have h := (if_neg hc4).symm.trans h
      obtain ⟨g1, h⟩ := jg h
      refine JW.r hM 20 9 (pc2 := 49) (L2 := [some (.ref 0), some (.ref 1000000), some (.int x2)]) (st2 := [.int x2, .ref 1000000, .int (G 1 ((G 0 6) + x2).toNatClampNeg)]) (μ2 := (hRd G)) rfl ⟨g1, trivial⟩ ?_
      obtain ⟨g2, h⟩ := jg h
      refine js_sch (w := 0) hM.1 (by decide) (by rw [hM.2.2.1]; exact wd762) g2 (jat hM.2.1 29 rfl) (by rw [hM.2.2.2.2.1]; exact Nat.le_of_ble_eq_true rfl) (by rw [hM.2.2.2.2.1]; exact Nat.le_of_ble_eq_true rfl) (by rw [hM.2.2.2.2.1]; exact Nat.le_of_ble_eq_true rfl) (by rw [hM.2.2.2.2.1]; exact Nat.le_of_ble_eq_true rfl) ?_
      show JW X 0 0 52 [some (.ref 0), some (.ref 1000000), some (.int x2)] [.int (jch 0 x2), .int (G 1 ((G 0 6) + x2).toNatClampNeg)] (hRd G)
      refine js_iceq (t := 57) hM.1 (jat hM.2.1 30 rfl) rfl (fun hc3 => ?_) (fun hc3 => ?_)
      · have h := (if_pos hc3).symm.trans h
        refine JW.r hM 33 2 (pc2 := 28) (L2 := [some (.ref 0), some (.ref 1000000), some (.int (x2 + 1))]) (st2 := []) (μ2 := (hRd G)) rfl trivial ?_
        exact ih28 (x2 + 1) h
      · have h := (if_neg hc3).symm.trans h
        refine JW.r hM 31 1 (pc2 := 56) (L2 := [some (.ref 0), some (.ref 1000000), some (.int x2)]) (st2 := [.int (0 : Int32)]) (μ2 := (hRd G)) rfl trivial ?_
        cases h
        exact js_zret hM.1 hp hM.2.2.2.2.2.2.2.1 rfl (by rw [hM.2.2.2.2.2.1]; exact Nat.le_of_ble_eq_true rfl) (by rw [hM.2.2.2.2.2.2.1]; exact Nat.le_of_ble_eq_true rfl) (jat hM.2.1 32 rfl) hq
set_option maxHeartbeats 4000000 in
set_option maxRecDepth 100000 in
theorem t_X2_isWord_0 {X : jX} {po : Option Value → jH → Prop} {px : String → jH → Prop} {sf : Bool} {B9 : Nat} (hM : jMX X kX2_isWord RX2 tbX2 3 ⟨4, 0, 0, 108⟩ (some .boolean) 3) (hp : jPost X sf B9 po px) (N : Nat) (G : Nat → Nat → Int32) {res : Int32} (h : p_X2_isWord_0 N G = some res) (hq : po (some (.int res)) (hRd G)) : JW X 0 0 0 [some (.ref 0), some (.ref 1000000), none] [] (hRd G) := by
  unfold p_X2_isWord_0 at h
  refine JW.r hM 0 3 (pc2 := 5) (L2 := [some (.ref 0), some (.ref 1000000), none]) (st2 := [.int (2 : Int32), .int (G 0 5)]) (μ2 := (hRd G)) rfl trivial ?_
  refine js_icne (t := 24) hM.1 (jat hM.2.1 3 rfl) rfl (fun hc6 => ?_) (fun hc6 => ?_)
  · have h := (if_neg hc6).symm.trans h
    refine JW.r hM 12 1 (pc2 := 25) (L2 := [some (.ref 0), some (.ref 1000000), none]) (st2 := [.int (0 : Int32)]) (μ2 := (hRd G)) rfl trivial ?_
    cases h
    exact js_zret hM.1 hp hM.2.2.2.2.2.2.2.1 rfl (by rw [hM.2.2.2.2.2.1]; exact Nat.le_of_ble_eq_true rfl) (by rw [hM.2.2.2.2.2.2.1]; exact Nat.le_of_ble_eq_true rfl) (jat hM.2.1 13 rfl) hq
  · have h := (if_pos hc6).symm.trans h
    refine JW.r hM 4 6 (pc2 := 18) (L2 := [some (.ref 0), some (.ref 1000000), none]) (st2 := [.ref 1000000, .int ((G 0 7) - (G 0 6))]) (μ2 := (hRd G)) rfl trivial ?_
    refine js_slen (w := 0) hM.1 (by decide) (by rw [hM.2.2.1]; exact wd752) (jat hM.2.1 10 rfl) (by rw [hM.2.2.2.2.1]; exact Nat.le_of_ble_eq_true rfl) (by rw [hM.2.2.2.2.1]; exact Nat.le_of_ble_eq_true rfl) (by rw [hM.2.2.2.2.1]; exact Nat.le_of_ble_eq_true rfl) (by rw [hM.2.2.2.2.1]; exact Nat.le_of_ble_eq_true rfl) ?_
    show JW X 0 0 21 [some (.ref 0), some (.ref 1000000), none] [.int (6 : Int32), .int ((G 0 7) - (G 0 6))] (hRd G)
    refine js_iceq (t := 26) hM.1 (jat hM.2.1 11 rfl) rfl (fun hc5 => ?_) (fun hc5 => ?_)
    · have h := (if_pos hc5).symm.trans h
      refine JW.r hM 14 2 (pc2 := 28) (L2 := [some (.ref 0), some (.ref 1000000), some (.int (0 : Int32))]) (st2 := []) (μ2 := (hRd G)) rfl trivial ?_
      exact t_X2_isWord_0_b28 hM hp N G N (0 : Int32) h hq
    · have h := (if_neg hc5).symm.trans h
      refine JW.r hM 12 1 (pc2 := 25) (L2 := [some (.ref 0), some (.ref 1000000), none]) (st2 := [.int (0 : Int32)]) (μ2 := (hRd G)) rfl trivial ?_
      cases h
      exact js_zret hM.1 hp hM.2.2.2.2.2.2.2.1 rfl (by rw [hM.2.2.2.2.2.1]; exact Nat.le_of_ble_eq_true rfl) (by rw [hM.2.2.2.2.2.2.1]; exact Nat.le_of_ble_eq_true rfl) (jat hM.2.1 13 rfl) hq
theorem m_X2_isWord_0 (V : jV) (hV : V.1.stackTraces = false) (N : Nat) (G : Nat → Nat → Int32) (v : Int32) (h : p_X2_isWord_0 N G = some v) : jMet V yX2_isWord (jws yX2_isWord cX2_isWord 3 (some .boolean)) ⟨4, 0, 0, 108⟩ true 1 [.ref 0, .ref 1000000] (hRd G) (fun o ν => o = some (.int v) ∧ ν = (hRd G)) (fun _ _ => False) := by
  refine jmk (tb := tbX2) (C := kX2_isWord) hV rfl (by decide) tbX2_ok rfl kX2_isWord_ok rfl ?_
  intro X hM _ hp _
  exact t_X2_isWord_0 hM hp N G h ⟨rfl, rfl⟩
def p_X2_isWord_1_b28 (N : Nat) (G : Nat → Nat → Int32) : Nat → (Int32) → Option (Int32)
  | 0, _ => none
  | n + 1, x2 => if (5 : Int32) ≤ x2 then (some (1 : Int32)) else (if jin ((G 0 6) + x2) 900 = true then if jin x2 5 = true then if (G 1 ((G 0 6) + x2).toNatClampNeg) = (jch 1 x2) then ((p_X2_isWord_1_b28 N G n) (x2 + 1)) else (some (0 : Int32)) else none else none)
def p_X2_isWord_1 (N : Nat) (G : Nat → Nat → Int32) : Option (Int32) :=
  if (G 0 5) = (2 : Int32) then (if ((G 0 7) - (G 0 6)) = (5 : Int32) then (p_X2_isWord_1_b28 N G N (0 : Int32)) else (some (0 : Int32))) else (some (0 : Int32))
set_option maxHeartbeats 4000000 in
set_option maxRecDepth 100000 in
theorem t_X2_isWord_1_b28 {X : jX} {po : Option Value → jH → Prop} {px : String → jH → Prop} {sf : Bool} {B9 : Nat} (hM : jMX X kX2_isWord RX2 tbX2 3 ⟨4, 0, 0, 108⟩ (some .boolean) 3) (hp : jPost X sf B9 po px) (N : Nat) (G : Nat → Nat → Int32) {res : Int32} : ∀ (n : Nat) (x2 : Int32) (h : p_X2_isWord_1_b28 N G n x2 = some res) (hq : po (some (.int res)) (hRd G)), JW X 0 0 28 [some (.ref 0), some (.ref 1000001), some (.int x2)] [] (hRd G) := by
  intro n
  induction n with
  | zero =>
    intro x2 h hq
    cases (show (none : Option (Int32)) = some res from h)
  | succ n ih28 =>
    intro x2 h hq
    have ih28 := fun x2 h9 => ih28 x2 h9 hq
    rw [p_X2_isWord_1_b28] at h
    refine JW.r hM 16 2 (pc2 := 30) (L2 := [some (.ref 0), some (.ref 1000001), some (.int x2)]) (st2 := [.ref 1000001, .int x2]) (μ2 := (hRd G)) rfl trivial ?_
    refine js_slen (w := 1) hM.1 (by decide) (by rw [hM.2.2.1]; exact wd752) (jat hM.2.1 18 rfl) (by rw [hM.2.2.2.2.1]; exact Nat.le_of_ble_eq_true rfl) (by rw [hM.2.2.2.2.1]; exact Nat.le_of_ble_eq_true rfl) (by rw [hM.2.2.2.2.1]; exact Nat.le_of_ble_eq_true rfl) (by rw [hM.2.2.2.2.1]; exact Nat.le_of_ble_eq_true rfl) ?_
    show JW X 0 0 33 [some (.ref 0), some (.ref 1000001), some (.int x2)] [.int (5 : Int32), .int x2] (hRd G)
    refine js_icge (t := 63) hM.1 (jat hM.2.1 19 rfl) rfl (fun hc4 => ?_) (fun hc4 => ?_)
    · have h := (if_pos hc4).symm.trans h
      refine JW.r hM 35 1 (pc2 := 64) (L2 := [some (.ref 0), some (.ref 1000001), some (.int x2)]) (st2 := [.int (1 : Int32)]) (μ2 := (hRd G)) rfl trivial ?_
      cases h
      exact js_zret hM.1 hp hM.2.2.2.2.2.2.2.1 rfl (by rw [hM.2.2.2.2.2.1]; exact Nat.le_of_ble_eq_true rfl) (by rw [hM.2.2.2.2.2.2.1]; exact Nat.le_of_ble_eq_true rfl) (jat hM.2.1 36 rfl) hq
    · have h := (if_neg hc4).symm.trans h
      obtain ⟨g1, h⟩ := jg h
      refine JW.r hM 20 9 (pc2 := 49) (L2 := [some (.ref 0), some (.ref 1000001), some (.int x2)]) (st2 := [.int x2, .ref 1000001, .int (G 1 ((G 0 6) + x2).toNatClampNeg)]) (μ2 := (hRd G)) rfl ⟨g1, trivial⟩ ?_
      obtain ⟨g2, h⟩ := jg h
      refine js_sch (w := 1) hM.1 (by decide) (by rw [hM.2.2.1]; exact wd762) g2 (jat hM.2.1 29 rfl) (by rw [hM.2.2.2.2.1]; exact Nat.le_of_ble_eq_true rfl) (by rw [hM.2.2.2.2.1]; exact Nat.le_of_ble_eq_true rfl) (by rw [hM.2.2.2.2.1]; exact Nat.le_of_ble_eq_true rfl) (by rw [hM.2.2.2.2.1]; exact Nat.le_of_ble_eq_true rfl) ?_
      show JW X 0 0 52 [some (.ref 0), some (.ref 1000001), some (.int x2)] [.int (jch 1 x2), .int (G 1 ((G 0 6) + x2).toNatClampNeg)] (hRd G)
      refine js_iceq (t := 57) hM.1 (jat hM.2.1 30 rfl) rfl (fun hc3 => ?_) (fun hc3 => ?_)
      · have h := (if_pos hc3).symm.trans h
        refine JW.r hM 33 2 (pc2 := 28) (L2 := [some (.ref 0), some (.ref 1000001), some (.int (x2 + 1))]) (st2 := []) (μ2 := (hRd G)) rfl trivial ?_
        exact ih28 (x2 + 1) h
      · have h := (if_neg hc3).symm.trans h
        refine JW.r hM 31 1 (pc2 := 56) (L2 := [some (.ref 0), some (.ref 1000001), some (.int x2)]) (st2 := [.int (0 : Int32)]) (μ2 := (hRd G)) rfl trivial ?_
        cases h
        exact js_zret hM.1 hp hM.2.2.2.2.2.2.2.1 rfl (by rw [hM.2.2.2.2.2.1]; exact Nat.le_of_ble_eq_true rfl) (by rw [hM.2.2.2.2.2.2.1]; exact Nat.le_of_ble_eq_true rfl) (jat hM.2.1 32 rfl) hq
set_option maxHeartbeats 4000000 in
set_option maxRecDepth 100000 in
theorem t_X2_isWord_1 {X : jX} {po : Option Value → jH → Prop} {px : String → jH → Prop} {sf : Bool} {B9 : Nat} (hM : jMX X kX2_isWord RX2 tbX2 3 ⟨4, 0, 0, 108⟩ (some .boolean) 3) (hp : jPost X sf B9 po px) (N : Nat) (G : Nat → Nat → Int32) {res : Int32} (h : p_X2_isWord_1 N G = some res) (hq : po (some (.int res)) (hRd G)) : JW X 0 0 0 [some (.ref 0), some (.ref 1000001), none] [] (hRd G) := by
  unfold p_X2_isWord_1 at h
  refine JW.r hM 0 3 (pc2 := 5) (L2 := [some (.ref 0), some (.ref 1000001), none]) (st2 := [.int (2 : Int32), .int (G 0 5)]) (μ2 := (hRd G)) rfl trivial ?_
  refine js_icne (t := 24) hM.1 (jat hM.2.1 3 rfl) rfl (fun hc6 => ?_) (fun hc6 => ?_)
  · have h := (if_neg hc6).symm.trans h
    refine JW.r hM 12 1 (pc2 := 25) (L2 := [some (.ref 0), some (.ref 1000001), none]) (st2 := [.int (0 : Int32)]) (μ2 := (hRd G)) rfl trivial ?_
    cases h
    exact js_zret hM.1 hp hM.2.2.2.2.2.2.2.1 rfl (by rw [hM.2.2.2.2.2.1]; exact Nat.le_of_ble_eq_true rfl) (by rw [hM.2.2.2.2.2.2.1]; exact Nat.le_of_ble_eq_true rfl) (jat hM.2.1 13 rfl) hq
  · have h := (if_pos hc6).symm.trans h
    refine JW.r hM 4 6 (pc2 := 18) (L2 := [some (.ref 0), some (.ref 1000001), none]) (st2 := [.ref 1000001, .int ((G 0 7) - (G 0 6))]) (μ2 := (hRd G)) rfl trivial ?_
    refine js_slen (w := 1) hM.1 (by decide) (by rw [hM.2.2.1]; exact wd752) (jat hM.2.1 10 rfl) (by rw [hM.2.2.2.2.1]; exact Nat.le_of_ble_eq_true rfl) (by rw [hM.2.2.2.2.1]; exact Nat.le_of_ble_eq_true rfl) (by rw [hM.2.2.2.2.1]; exact Nat.le_of_ble_eq_true rfl) (by rw [hM.2.2.2.2.1]; exact Nat.le_of_ble_eq_true rfl) ?_
    show JW X 0 0 21 [some (.ref 0), some (.ref 1000001), none] [.int (5 : Int32), .int ((G 0 7) - (G 0 6))] (hRd G)
    refine js_iceq (t := 26) hM.1 (jat hM.2.1 11 rfl) rfl (fun hc5 => ?_) (fun hc5 => ?_)
    · have h := (if_pos hc5).symm.trans h
      refine JW.r hM 14 2 (pc2 := 28) (L2 := [some (.ref 0), some (.ref 1000001), some (.int (0 : Int32))]) (st2 := []) (μ2 := (hRd G)) rfl trivial ?_
      exact t_X2_isWord_1_b28 hM hp N G N (0 : Int32) h hq
    · have h := (if_neg hc5).symm.trans h
      refine JW.r hM 12 1 (pc2 := 25) (L2 := [some (.ref 0), some (.ref 1000001), none]) (st2 := [.int (0 : Int32)]) (μ2 := (hRd G)) rfl trivial ?_
      cases h
      exact js_zret hM.1 hp hM.2.2.2.2.2.2.2.1 rfl (by rw [hM.2.2.2.2.2.1]; exact Nat.le_of_ble_eq_true rfl) (by rw [hM.2.2.2.2.2.2.1]; exact Nat.le_of_ble_eq_true rfl) (jat hM.2.1 13 rfl) hq
theorem m_X2_isWord_1 (V : jV) (hV : V.1.stackTraces = false) (N : Nat) (G : Nat → Nat → Int32) (v : Int32) (h : p_X2_isWord_1 N G = some v) : jMet V yX2_isWord (jws yX2_isWord cX2_isWord 3 (some .boolean)) ⟨4, 0, 0, 108⟩ true 1 [.ref 0, .ref 1000001] (hRd G) (fun o ν => o = some (.int v) ∧ ν = (hRd G)) (fun _ _ => False) := by
  refine jmk (tb := tbX2) (C := kX2_isWord) hV rfl (by decide) tbX2_ok rfl kX2_isWord_ok rfl ?_
  intro X hM _ hp _
  exact t_X2_isWord_1 hM hp N G h ⟨rfl, rfl⟩
def p_X2_isWord_2_b28 (N : Nat) (G : Nat → Nat → Int32) : Nat → (Int32) → Option (Int32)
  | 0, _ => none
  | n + 1, x2 => if (5 : Int32) ≤ x2 then (some (1 : Int32)) else (if jin ((G 0 6) + x2) 900 = true then if jin x2 5 = true then if (G 1 ((G 0 6) + x2).toNatClampNeg) = (jch 2 x2) then ((p_X2_isWord_2_b28 N G n) (x2 + 1)) else (some (0 : Int32)) else none else none)
def p_X2_isWord_2 (N : Nat) (G : Nat → Nat → Int32) : Option (Int32) :=
  if (G 0 5) = (2 : Int32) then (if ((G 0 7) - (G 0 6)) = (5 : Int32) then (p_X2_isWord_2_b28 N G N (0 : Int32)) else (some (0 : Int32))) else (some (0 : Int32))
set_option maxHeartbeats 4000000 in
set_option maxRecDepth 100000 in
theorem t_X2_isWord_2_b28 {X : jX} {po : Option Value → jH → Prop} {px : String → jH → Prop} {sf : Bool} {B9 : Nat} (hM : jMX X kX2_isWord RX2 tbX2 3 ⟨4, 0, 0, 108⟩ (some .boolean) 3) (hp : jPost X sf B9 po px) (N : Nat) (G : Nat → Nat → Int32) {res : Int32} : ∀ (n : Nat) (x2 : Int32) (h : p_X2_isWord_2_b28 N G n x2 = some res) (hq : po (some (.int res)) (hRd G)), JW X 0 0 28 [some (.ref 0), some (.ref 1000002), some (.int x2)] [] (hRd G) := by
  intro n
  induction n with
  | zero =>
    intro x2 h hq
    cases (show (none : Option (Int32)) = some res from h)
  | succ n ih28 =>
    intro x2 h hq
    have ih28 := fun x2 h9 => ih28 x2 h9 hq
    rw [p_X2_isWord_2_b28] at h
    refine JW.r hM 16 2 (pc2 := 30) (L2 := [some (.ref 0), some (.ref 1000002), some (.int x2)]) (st2 := [.ref 1000002, .int x2]) (μ2 := (hRd G)) rfl trivial ?_
    refine js_slen (w := 2) hM.1 (by decide) (by rw [hM.2.2.1]; exact wd752) (jat hM.2.1 18 rfl) (by rw [hM.2.2.2.2.1]; exact Nat.le_of_ble_eq_true rfl) (by rw [hM.2.2.2.2.1]; exact Nat.le_of_ble_eq_true rfl) (by rw [hM.2.2.2.2.1]; exact Nat.le_of_ble_eq_true rfl) (by rw [hM.2.2.2.2.1]; exact Nat.le_of_ble_eq_true rfl) ?_
    show JW X 0 0 33 [some (.ref 0), some (.ref 1000002), some (.int x2)] [.int (5 : Int32), .int x2] (hRd G)
    refine js_icge (t := 63) hM.1 (jat hM.2.1 19 rfl) rfl (fun hc4 => ?_) (fun hc4 => ?_)
    · have h := (if_pos hc4).symm.trans h
      refine JW.r hM 35 1 (pc2 := 64) (L2 := [some (.ref 0), some (.ref 1000002), some (.int x2)]) (st2 := [.int (1 : Int32)]) (μ2 := (hRd G)) rfl trivial ?_
      cases h
      exact js_zret hM.1 hp hM.2.2.2.2.2.2.2.1 rfl (by rw [hM.2.2.2.2.2.1]; exact Nat.le_of_ble_eq_true rfl) (by rw [hM.2.2.2.2.2.2.1]; exact Nat.le_of_ble_eq_true rfl) (jat hM.2.1 36 rfl) hq
    · have h := (if_neg hc4).symm.trans h
      obtain ⟨g1, h⟩ := jg h
      refine JW.r hM 20 9 (pc2 := 49) (L2 := [some (.ref 0), some (.ref 1000002), some (.int x2)]) (st2 := [.int x2, .ref 1000002, .int (G 1 ((G 0 6) + x2).toNatClampNeg)]) (μ2 := (hRd G)) rfl ⟨g1, trivial⟩ ?_
      obtain ⟨g2, h⟩ := jg h
      refine js_sch (w := 2) hM.1 (by decide) (by rw [hM.2.2.1]; exact wd762) g2 (jat hM.2.1 29 rfl) (by rw [hM.2.2.2.2.1]; exact Nat.le_of_ble_eq_true rfl) (by rw [hM.2.2.2.2.1]; exact Nat.le_of_ble_eq_true rfl) (by rw [hM.2.2.2.2.1]; exact Nat.le_of_ble_eq_true rfl) (by rw [hM.2.2.2.2.1]; exact Nat.le_of_ble_eq_true rfl) ?_
      show JW X 0 0 52 [some (.ref 0), some (.ref 1000002), some (.int x2)] [.int (jch 2 x2), .int (G 1 ((G 0 6) + x2).toNatClampNeg)] (hRd G)
      refine js_iceq (t := 57) hM.1 (jat hM.2.1 30 rfl) rfl (fun hc3 => ?_) (fun hc3 => ?_)
      · have h := (if_pos hc3).symm.trans h
        refine JW.r hM 33 2 (pc2 := 28) (L2 := [some (.ref 0), some (.ref 1000002), some (.int (x2 + 1))]) (st2 := []) (μ2 := (hRd G)) rfl trivial ?_
        exact ih28 (x2 + 1) h
      · have h := (if_neg hc3).symm.trans h
        refine JW.r hM 31 1 (pc2 := 56) (L2 := [some (.ref 0), some (.ref 1000002), some (.int x2)]) (st2 := [.int (0 : Int32)]) (μ2 := (hRd G)) rfl trivial ?_
        cases h
        exact js_zret hM.1 hp hM.2.2.2.2.2.2.2.1 rfl (by rw [hM.2.2.2.2.2.1]; exact Nat.le_of_ble_eq_true rfl) (by rw [hM.2.2.2.2.2.2.1]; exact Nat.le_of_ble_eq_true rfl) (jat hM.2.1 32 rfl) hq
set_option maxHeartbeats 4000000 in
set_option maxRecDepth 100000 in
theorem t_X2_isWord_2 {X : jX} {po : Option Value → jH → Prop} {px : String → jH → Prop} {sf : Bool} {B9 : Nat} (hM : jMX X kX2_isWord RX2 tbX2 3 ⟨4, 0, 0, 108⟩ (some .boolean) 3) (hp : jPost X sf B9 po px) (N : Nat) (G : Nat → Nat → Int32) {res : Int32} (h : p_X2_isWord_2 N G = some res) (hq : po (some (.int res)) (hRd G)) : JW X 0 0 0 [some (.ref 0), some (.ref 1000002), none] [] (hRd G) := by
  unfold p_X2_isWord_2 at h
  refine JW.r hM 0 3 (pc2 := 5) (L2 := [some (.ref 0), some (.ref 1000002), none]) (st2 := [.int (2 : Int32), .int (G 0 5)]) (μ2 := (hRd G)) rfl trivial ?_
  refine js_icne (t := 24) hM.1 (jat hM.2.1 3 rfl) rfl (fun hc6 => ?_) (fun hc6 => ?_)
  · have h := (if_neg hc6).symm.trans h
    refine JW.r hM 12 1 (pc2 := 25) (L2 := [some (.ref 0), some (.ref 1000002), none]) (st2 := [.int (0 : Int32)]) (μ2 := (hRd G)) rfl trivial ?_
    cases h
    exact js_zret hM.1 hp hM.2.2.2.2.2.2.2.1 rfl (by rw [hM.2.2.2.2.2.1]; exact Nat.le_of_ble_eq_true rfl) (by rw [hM.2.2.2.2.2.2.1]; exact Nat.le_of_ble_eq_true rfl) (jat hM.2.1 13 rfl) hq
  · have h := (if_pos hc6).symm.trans h
    refine JW.r hM 4 6 (pc2 := 18) (L2 := [some (.ref 0), some (.ref 1000002), none]) (st2 := [.ref 1000002, .int ((G 0 7) - (G 0 6))]) (μ2 := (hRd G)) rfl trivial ?_
    refine js_slen (w := 2) hM.1 (by decide) (by rw [hM.2.2.1]; exact wd752) (jat hM.2.1 10 rfl) (by rw [hM.2.2.2.2.1]; exact Nat.le_of_ble_eq_true rfl) (by rw [hM.2.2.2.2.1]; exact Nat.le_of_ble_eq_true rfl) (by rw [hM.2.2.2.2.1]; exact Nat.le_of_ble_eq_true rfl) (by rw [hM.2.2.2.2.1]; exact Nat.le_of_ble_eq_true rfl) ?_
    show JW X 0 0 21 [some (.ref 0), some (.ref 1000002), none] [.int (5 : Int32), .int ((G 0 7) - (G 0 6))] (hRd G)
    refine js_iceq (t := 26) hM.1 (jat hM.2.1 11 rfl) rfl (fun hc5 => ?_) (fun hc5 => ?_)
    · have h := (if_pos hc5).symm.trans h
      refine JW.r hM 14 2 (pc2 := 28) (L2 := [some (.ref 0), some (.ref 1000002), some (.int (0 : Int32))]) (st2 := []) (μ2 := (hRd G)) rfl trivial ?_
      exact t_X2_isWord_2_b28 hM hp N G N (0 : Int32) h hq
    · have h := (if_neg hc5).symm.trans h
      refine JW.r hM 12 1 (pc2 := 25) (L2 := [some (.ref 0), some (.ref 1000002), none]) (st2 := [.int (0 : Int32)]) (μ2 := (hRd G)) rfl trivial ?_
      cases h
      exact js_zret hM.1 hp hM.2.2.2.2.2.2.2.1 rfl (by rw [hM.2.2.2.2.2.1]; exact Nat.le_of_ble_eq_true rfl) (by rw [hM.2.2.2.2.2.2.1]; exact Nat.le_of_ble_eq_true rfl) (jat hM.2.1 13 rfl) hq
theorem m_X2_isWord_2 (V : jV) (hV : V.1.stackTraces = false) (N : Nat) (G : Nat → Nat → Int32) (v : Int32) (h : p_X2_isWord_2 N G = some v) : jMet V yX2_isWord (jws yX2_isWord cX2_isWord 3 (some .boolean)) ⟨4, 0, 0, 108⟩ true 1 [.ref 0, .ref 1000002] (hRd G) (fun o ν => o = some (.int v) ∧ ν = (hRd G)) (fun _ _ => False) := by
  refine jmk (tb := tbX2) (C := kX2_isWord) hV rfl (by decide) tbX2_ok rfl kX2_isWord_ok rfl ?_
  intro X hM _ hp _
  exact t_X2_isWord_2 hM hp N G h ⟨rfl, rfl⟩
def p_X2_isWord_3_b28 (N : Nat) (G : Nat → Nat → Int32) : Nat → (Int32) → Option (Int32)
  | 0, _ => none
  | n + 1, x2 => if (5 : Int32) ≤ x2 then (some (1 : Int32)) else (if jin ((G 0 6) + x2) 900 = true then if jin x2 5 = true then if (G 1 ((G 0 6) + x2).toNatClampNeg) = (jch 3 x2) then ((p_X2_isWord_3_b28 N G n) (x2 + 1)) else (some (0 : Int32)) else none else none)
def p_X2_isWord_3 (N : Nat) (G : Nat → Nat → Int32) : Option (Int32) :=
  if (G 0 5) = (2 : Int32) then (if ((G 0 7) - (G 0 6)) = (5 : Int32) then (p_X2_isWord_3_b28 N G N (0 : Int32)) else (some (0 : Int32))) else (some (0 : Int32))
set_option maxHeartbeats 4000000 in
set_option maxRecDepth 100000 in
theorem t_X2_isWord_3_b28 {X : jX} {po : Option Value → jH → Prop} {px : String → jH → Prop} {sf : Bool} {B9 : Nat} (hM : jMX X kX2_isWord RX2 tbX2 3 ⟨4, 0, 0, 108⟩ (some .boolean) 3) (hp : jPost X sf B9 po px) (N : Nat) (G : Nat → Nat → Int32) {res : Int32} : ∀ (n : Nat) (x2 : Int32) (h : p_X2_isWord_3_b28 N G n x2 = some res) (hq : po (some (.int res)) (hRd G)), JW X 0 0 28 [some (.ref 0), some (.ref 1000003), some (.int x2)] [] (hRd G) := by
  intro n
  induction n with
  | zero =>
    intro x2 h hq
    cases (show (none : Option (Int32)) = some res from h)
  | succ n ih28 =>
    intro x2 h hq
    have ih28 := fun x2 h9 => ih28 x2 h9 hq
    rw [p_X2_isWord_3_b28] at h
    refine JW.r hM 16 2 (pc2 := 30) (L2 := [some (.ref 0), some (.ref 1000003), some (.int x2)]) (st2 := [.ref 1000003, .int x2]) (μ2 := (hRd G)) rfl trivial ?_
    refine js_slen (w := 3) hM.1 (by decide) (by rw [hM.2.2.1]; exact wd752) (jat hM.2.1 18 rfl) (by rw [hM.2.2.2.2.1]; exact Nat.le_of_ble_eq_true rfl) (by rw [hM.2.2.2.2.1]; exact Nat.le_of_ble_eq_true rfl) (by rw [hM.2.2.2.2.1]; exact Nat.le_of_ble_eq_true rfl) (by rw [hM.2.2.2.2.1]; exact Nat.le_of_ble_eq_true rfl) ?_
    show JW X 0 0 33 [some (.ref 0), some (.ref 1000003), some (.int x2)] [.int (5 : Int32), .int x2] (hRd G)
    refine js_icge (t := 63) hM.1 (jat hM.2.1 19 rfl) rfl (fun hc4 => ?_) (fun hc4 => ?_)
    · have h := (if_pos hc4).symm.trans h
      refine JW.r hM 35 1 (pc2 := 64) (L2 := [some (.ref 0), some (.ref 1000003), some (.int x2)]) (st2 := [.int (1 : Int32)]) (μ2 := (hRd G)) rfl trivial ?_
      cases h
      exact js_zret hM.1 hp hM.2.2.2.2.2.2.2.1 rfl (by rw [hM.2.2.2.2.2.1]; exact Nat.le_of_ble_eq_true rfl) (by rw [hM.2.2.2.2.2.2.1]; exact Nat.le_of_ble_eq_true rfl) (jat hM.2.1 36 rfl) hq
    · have h := (if_neg hc4).symm.trans h
      obtain ⟨g1, h⟩ := jg h
      refine JW.r hM 20 9 (pc2 := 49) (L2 := [some (.ref 0), some (.ref 1000003), some (.int x2)]) (st2 := [.int x2, .ref 1000003, .int (G 1 ((G 0 6) + x2).toNatClampNeg)]) (μ2 := (hRd G)) rfl ⟨g1, trivial⟩ ?_
      obtain ⟨g2, h⟩ := jg h
      refine js_sch (w := 3) hM.1 (by decide) (by rw [hM.2.2.1]; exact wd762) g2 (jat hM.2.1 29 rfl) (by rw [hM.2.2.2.2.1]; exact Nat.le_of_ble_eq_true rfl) (by rw [hM.2.2.2.2.1]; exact Nat.le_of_ble_eq_true rfl) (by rw [hM.2.2.2.2.1]; exact Nat.le_of_ble_eq_true rfl) (by rw [hM.2.2.2.2.1]; exact Nat.le_of_ble_eq_true rfl) ?_
      show JW X 0 0 52 [some (.ref 0), some (.ref 1000003), some (.int x2)] [.int (jch 3 x2), .int (G 1 ((G 0 6) + x2).toNatClampNeg)] (hRd G)
      refine js_iceq (t := 57) hM.1 (jat hM.2.1 30 rfl) rfl (fun hc3 => ?_) (fun hc3 => ?_)
      · have h := (if_pos hc3).symm.trans h
        refine JW.r hM 33 2 (pc2 := 28) (L2 := [some (.ref 0), some (.ref 1000003), some (.int (x2 + 1))]) (st2 := []) (μ2 := (hRd G)) rfl trivial ?_
        exact ih28 (x2 + 1) h
      · have h := (if_neg hc3).symm.trans h
        refine JW.r hM 31 1 (pc2 := 56) (L2 := [some (.ref 0), some (.ref 1000003), some (.int x2)]) (st2 := [.int (0 : Int32)]) (μ2 := (hRd G)) rfl trivial ?_
        cases h
        exact js_zret hM.1 hp hM.2.2.2.2.2.2.2.1 rfl (by rw [hM.2.2.2.2.2.1]; exact Nat.le_of_ble_eq_true rfl) (by rw [hM.2.2.2.2.2.2.1]; exact Nat.le_of_ble_eq_true rfl) (jat hM.2.1 32 rfl) hq
set_option maxHeartbeats 4000000 in
set_option maxRecDepth 100000 in
theorem t_X2_isWord_3 {X : jX} {po : Option Value → jH → Prop} {px : String → jH → Prop} {sf : Bool} {B9 : Nat} (hM : jMX X kX2_isWord RX2 tbX2 3 ⟨4, 0, 0, 108⟩ (some .boolean) 3) (hp : jPost X sf B9 po px) (N : Nat) (G : Nat → Nat → Int32) {res : Int32} (h : p_X2_isWord_3 N G = some res) (hq : po (some (.int res)) (hRd G)) : JW X 0 0 0 [some (.ref 0), some (.ref 1000003), none] [] (hRd G) := by
  unfold p_X2_isWord_3 at h
  refine JW.r hM 0 3 (pc2 := 5) (L2 := [some (.ref 0), some (.ref 1000003), none]) (st2 := [.int (2 : Int32), .int (G 0 5)]) (μ2 := (hRd G)) rfl trivial ?_
  refine js_icne (t := 24) hM.1 (jat hM.2.1 3 rfl) rfl (fun hc6 => ?_) (fun hc6 => ?_)
  · have h := (if_neg hc6).symm.trans h
    refine JW.r hM 12 1 (pc2 := 25) (L2 := [some (.ref 0), some (.ref 1000003), none]) (st2 := [.int (0 : Int32)]) (μ2 := (hRd G)) rfl trivial ?_
    cases h
    exact js_zret hM.1 hp hM.2.2.2.2.2.2.2.1 rfl (by rw [hM.2.2.2.2.2.1]; exact Nat.le_of_ble_eq_true rfl) (by rw [hM.2.2.2.2.2.2.1]; exact Nat.le_of_ble_eq_true rfl) (jat hM.2.1 13 rfl) hq
  · have h := (if_pos hc6).symm.trans h
    refine JW.r hM 4 6 (pc2 := 18) (L2 := [some (.ref 0), some (.ref 1000003), none]) (st2 := [.ref 1000003, .int ((G 0 7) - (G 0 6))]) (μ2 := (hRd G)) rfl trivial ?_
    refine js_slen (w := 3) hM.1 (by decide) (by rw [hM.2.2.1]; exact wd752) (jat hM.2.1 10 rfl) (by rw [hM.2.2.2.2.1]; exact Nat.le_of_ble_eq_true rfl) (by rw [hM.2.2.2.2.1]; exact Nat.le_of_ble_eq_true rfl) (by rw [hM.2.2.2.2.1]; exact Nat.le_of_ble_eq_true rfl) (by rw [hM.2.2.2.2.1]; exact Nat.le_of_ble_eq_true rfl) ?_
    show JW X 0 0 21 [some (.ref 0), some (.ref 1000003), none] [.int (5 : Int32), .int ((G 0 7) - (G 0 6))] (hRd G)
    refine js_iceq (t := 26) hM.1 (jat hM.2.1 11 rfl) rfl (fun hc5 => ?_) (fun hc5 => ?_)
    · have h := (if_pos hc5).symm.trans h
      refine JW.r hM 14 2 (pc2 := 28) (L2 := [some (.ref 0), some (.ref 1000003), some (.int (0 : Int32))]) (st2 := []) (μ2 := (hRd G)) rfl trivial ?_
      exact t_X2_isWord_3_b28 hM hp N G N (0 : Int32) h hq
    · have h := (if_neg hc5).symm.trans h
      refine JW.r hM 12 1 (pc2 := 25) (L2 := [some (.ref 0), some (.ref 1000003), none]) (st2 := [.int (0 : Int32)]) (μ2 := (hRd G)) rfl trivial ?_
      cases h
      exact js_zret hM.1 hp hM.2.2.2.2.2.2.2.1 rfl (by rw [hM.2.2.2.2.2.1]; exact Nat.le_of_ble_eq_true rfl) (by rw [hM.2.2.2.2.2.2.1]; exact Nat.le_of_ble_eq_true rfl) (jat hM.2.1 13 rfl) hq
theorem m_X2_isWord_3 (V : jV) (hV : V.1.stackTraces = false) (N : Nat) (G : Nat → Nat → Int32) (v : Int32) (h : p_X2_isWord_3 N G = some v) : jMet V yX2_isWord (jws yX2_isWord cX2_isWord 3 (some .boolean)) ⟨4, 0, 0, 108⟩ true 1 [.ref 0, .ref 1000003] (hRd G) (fun o ν => o = some (.int v) ∧ ν = (hRd G)) (fun _ _ => False) := by
  refine jmk (tb := tbX2) (C := kX2_isWord) hV rfl (by decide) tbX2_ok rfl kX2_isWord_ok rfl ?_
  intro X hM _ hp _
  exact t_X2_isWord_3 hM hp N G h ⟨rfl, rfl⟩
def p_X2_isWord_4_b28 (N : Nat) (G : Nat → Nat → Int32) : Nat → (Int32) → Option (Int32)
  | 0, _ => none
  | n + 1, x2 => if (5 : Int32) ≤ x2 then (some (1 : Int32)) else (if jin ((G 0 6) + x2) 900 = true then if jin x2 5 = true then if (G 1 ((G 0 6) + x2).toNatClampNeg) = (jch 4 x2) then ((p_X2_isWord_4_b28 N G n) (x2 + 1)) else (some (0 : Int32)) else none else none)
def p_X2_isWord_4 (N : Nat) (G : Nat → Nat → Int32) : Option (Int32) :=
  if (G 0 5) = (2 : Int32) then (if ((G 0 7) - (G 0 6)) = (5 : Int32) then (p_X2_isWord_4_b28 N G N (0 : Int32)) else (some (0 : Int32))) else (some (0 : Int32))
set_option maxHeartbeats 4000000 in
set_option maxRecDepth 100000 in
theorem t_X2_isWord_4_b28 {X : jX} {po : Option Value → jH → Prop} {px : String → jH → Prop} {sf : Bool} {B9 : Nat} (hM : jMX X kX2_isWord RX2 tbX2 3 ⟨4, 0, 0, 108⟩ (some .boolean) 3) (hp : jPost X sf B9 po px) (N : Nat) (G : Nat → Nat → Int32) {res : Int32} : ∀ (n : Nat) (x2 : Int32) (h : p_X2_isWord_4_b28 N G n x2 = some res) (hq : po (some (.int res)) (hRd G)), JW X 0 0 28 [some (.ref 0), some (.ref 1000004), some (.int x2)] [] (hRd G) := by
  intro n
  induction n with
  | zero =>
    intro x2 h hq
    cases (show (none : Option (Int32)) = some res from h)
  | succ n ih28 =>
    intro x2 h hq
    have ih28 := fun x2 h9 => ih28 x2 h9 hq
    rw [p_X2_isWord_4_b28] at h
    refine JW.r hM 16 2 (pc2 := 30) (L2 := [some (.ref 0), some (.ref 1000004), some (.int x2)]) (st2 := [.ref 1000004, .int x2]) (μ2 := (hRd G)) rfl trivial ?_
    refine js_slen (w := 4) hM.1 (by decide) (by rw [hM.2.2.1]; exact wd752) (jat hM.2.1 18 rfl) (by rw [hM.2.2.2.2.1]; exact Nat.le_of_ble_eq_true rfl) (by rw [hM.2.2.2.2.1]; exact Nat.le_of_ble_eq_true rfl) (by rw [hM.2.2.2.2.1]; exact Nat.le_of_ble_eq_true rfl) (by rw [hM.2.2.2.2.1]; exact Nat.le_of_ble_eq_true rfl) ?_
    show JW X 0 0 33 [some (.ref 0), some (.ref 1000004), some (.int x2)] [.int (5 : Int32), .int x2] (hRd G)
    refine js_icge (t := 63) hM.1 (jat hM.2.1 19 rfl) rfl (fun hc4 => ?_) (fun hc4 => ?_)
    · have h := (if_pos hc4).symm.trans h
      refine JW.r hM 35 1 (pc2 := 64) (L2 := [some (.ref 0), some (.ref 1000004), some (.int x2)]) (st2 := [.int (1 : Int32)]) (μ2 := (hRd G)) rfl trivial ?_
      cases h
      exact js_zret hM.1 hp hM.2.2.2.2.2.2.2.1 rfl (by rw [hM.2.2.2.2.2.1]; exact Nat.le_of_ble_eq_true rfl) (by rw [hM.2.2.2.2.2.2.1]; exact Nat.le_of_ble_eq_true rfl) (jat hM.2.1 36 rfl) hq
    · have h := (if_neg hc4).symm.trans h
      obtain ⟨g1, h⟩ := jg h
      refine JW.r hM 20 9 (pc2 := 49) (L2 := [some (.ref 0), some (.ref 1000004), some (.int x2)]) (st2 := [.int x2, .ref 1000004, .int (G 1 ((G 0 6) + x2).toNatClampNeg)]) (μ2 := (hRd G)) rfl ⟨g1, trivial⟩ ?_
      obtain ⟨g2, h⟩ := jg h
      refine js_sch (w := 4) hM.1 (by decide) (by rw [hM.2.2.1]; exact wd762) g2 (jat hM.2.1 29 rfl) (by rw [hM.2.2.2.2.1]; exact Nat.le_of_ble_eq_true rfl) (by rw [hM.2.2.2.2.1]; exact Nat.le_of_ble_eq_true rfl) (by rw [hM.2.2.2.2.1]; exact Nat.le_of_ble_eq_true rfl) (by rw [hM.2.2.2.2.1]; exact Nat.le_of_ble_eq_true rfl) ?_
      show JW X 0 0 52 [some (.ref 0), some (.ref 1000004), some (.int x2)] [.int (jch 4 x2), .int (G 1 ((G 0 6) + x2).toNatClampNeg)] (hRd G)
      refine js_iceq (t := 57) hM.1 (jat hM.2.1 30 rfl) rfl (fun hc3 => ?_) (fun hc3 => ?_)
      · have h := (if_pos hc3).symm.trans h
        refine JW.r hM 33 2 (pc2 := 28) (L2 := [some (.ref 0), some (.ref 1000004), some (.int (x2 + 1))]) (st2 := []) (μ2 := (hRd G)) rfl trivial ?_
        exact ih28 (x2 + 1) h
      · have h := (if_neg hc3).symm.trans h
        refine JW.r hM 31 1 (pc2 := 56) (L2 := [some (.ref 0), some (.ref 1000004), some (.int x2)]) (st2 := [.int (0 : Int32)]) (μ2 := (hRd G)) rfl trivial ?_
        cases h
        exact js_zret hM.1 hp hM.2.2.2.2.2.2.2.1 rfl (by rw [hM.2.2.2.2.2.1]; exact Nat.le_of_ble_eq_true rfl) (by rw [hM.2.2.2.2.2.2.1]; exact Nat.le_of_ble_eq_true rfl) (jat hM.2.1 32 rfl) hq
set_option maxHeartbeats 4000000 in
set_option maxRecDepth 100000 in
theorem t_X2_isWord_4 {X : jX} {po : Option Value → jH → Prop} {px : String → jH → Prop} {sf : Bool} {B9 : Nat} (hM : jMX X kX2_isWord RX2 tbX2 3 ⟨4, 0, 0, 108⟩ (some .boolean) 3) (hp : jPost X sf B9 po px) (N : Nat) (G : Nat → Nat → Int32) {res : Int32} (h : p_X2_isWord_4 N G = some res) (hq : po (some (.int res)) (hRd G)) : JW X 0 0 0 [some (.ref 0), some (.ref 1000004), none] [] (hRd G) := by
  unfold p_X2_isWord_4 at h
  refine JW.r hM 0 3 (pc2 := 5) (L2 := [some (.ref 0), some (.ref 1000004), none]) (st2 := [.int (2 : Int32), .int (G 0 5)]) (μ2 := (hRd G)) rfl trivial ?_
  refine js_icne (t := 24) hM.1 (jat hM.2.1 3 rfl) rfl (fun hc6 => ?_) (fun hc6 => ?_)
  · have h := (if_neg hc6).symm.trans h
    refine JW.r hM 12 1 (pc2 := 25) (L2 := [some (.ref 0), some (.ref 1000004), none]) (st2 := [.int (0 : Int32)]) (μ2 := (hRd G)) rfl trivial ?_
    cases h
    exact js_zret hM.1 hp hM.2.2.2.2.2.2.2.1 rfl (by rw [hM.2.2.2.2.2.1]; exact Nat.le_of_ble_eq_true rfl) (by rw [hM.2.2.2.2.2.2.1]; exact Nat.le_of_ble_eq_true rfl) (jat hM.2.1 13 rfl) hq
  · have h := (if_pos hc6).symm.trans h
    refine JW.r hM 4 6 (pc2 := 18) (L2 := [some (.ref 0), some (.ref 1000004), none]) (st2 := [.ref 1000004, .int ((G 0 7) - (G 0 6))]) (μ2 := (hRd G)) rfl trivial ?_
    refine js_slen (w := 4) hM.1 (by decide) (by rw [hM.2.2.1]; exact wd752) (jat hM.2.1 10 rfl) (by rw [hM.2.2.2.2.1]; exact Nat.le_of_ble_eq_true rfl) (by rw [hM.2.2.2.2.1]; exact Nat.le_of_ble_eq_true rfl) (by rw [hM.2.2.2.2.1]; exact Nat.le_of_ble_eq_true rfl) (by rw [hM.2.2.2.2.1]; exact Nat.le_of_ble_eq_true rfl) ?_
    show JW X 0 0 21 [some (.ref 0), some (.ref 1000004), none] [.int (5 : Int32), .int ((G 0 7) - (G 0 6))] (hRd G)
    refine js_iceq (t := 26) hM.1 (jat hM.2.1 11 rfl) rfl (fun hc5 => ?_) (fun hc5 => ?_)
    · have h := (if_pos hc5).symm.trans h
      refine JW.r hM 14 2 (pc2 := 28) (L2 := [some (.ref 0), some (.ref 1000004), some (.int (0 : Int32))]) (st2 := []) (μ2 := (hRd G)) rfl trivial ?_
      exact t_X2_isWord_4_b28 hM hp N G N (0 : Int32) h hq
    · have h := (if_neg hc5).symm.trans h
      refine JW.r hM 12 1 (pc2 := 25) (L2 := [some (.ref 0), some (.ref 1000004), none]) (st2 := [.int (0 : Int32)]) (μ2 := (hRd G)) rfl trivial ?_
      cases h
      exact js_zret hM.1 hp hM.2.2.2.2.2.2.2.1 rfl (by rw [hM.2.2.2.2.2.1]; exact Nat.le_of_ble_eq_true rfl) (by rw [hM.2.2.2.2.2.2.1]; exact Nat.le_of_ble_eq_true rfl) (jat hM.2.1 13 rfl) hq
theorem m_X2_isWord_4 (V : jV) (hV : V.1.stackTraces = false) (N : Nat) (G : Nat → Nat → Int32) (v : Int32) (h : p_X2_isWord_4 N G = some v) : jMet V yX2_isWord (jws yX2_isWord cX2_isWord 3 (some .boolean)) ⟨4, 0, 0, 108⟩ true 1 [.ref 0, .ref 1000004] (hRd G) (fun o ν => o = some (.int v) ∧ ν = (hRd G)) (fun _ _ => False) := by
  refine jmk (tb := tbX2) (C := kX2_isWord) hV rfl (by decide) tbX2_ok rfl kX2_isWord_ok rfl ?_
  intro X hM _ hp _
  exact t_X2_isWord_4 hM hp N G h ⟨rfl, rfl⟩
def p_X2_isWord_5_b28 (N : Nat) (G : Nat → Nat → Int32) : Nat → (Int32) → Option (Int32)
  | 0, _ => none
  | n + 1, x2 => if (4 : Int32) ≤ x2 then (some (1 : Int32)) else (if jin ((G 0 6) + x2) 900 = true then if jin x2 4 = true then if (G 1 ((G 0 6) + x2).toNatClampNeg) = (jch 5 x2) then ((p_X2_isWord_5_b28 N G n) (x2 + 1)) else (some (0 : Int32)) else none else none)
def p_X2_isWord_5 (N : Nat) (G : Nat → Nat → Int32) : Option (Int32) :=
  if (G 0 5) = (2 : Int32) then (if ((G 0 7) - (G 0 6)) = (4 : Int32) then (p_X2_isWord_5_b28 N G N (0 : Int32)) else (some (0 : Int32))) else (some (0 : Int32))
set_option maxHeartbeats 4000000 in
set_option maxRecDepth 100000 in
theorem t_X2_isWord_5_b28 {X : jX} {po : Option Value → jH → Prop} {px : String → jH → Prop} {sf : Bool} {B9 : Nat} (hM : jMX X kX2_isWord RX2 tbX2 3 ⟨4, 0, 0, 108⟩ (some .boolean) 3) (hp : jPost X sf B9 po px) (N : Nat) (G : Nat → Nat → Int32) {res : Int32} : ∀ (n : Nat) (x2 : Int32) (h : p_X2_isWord_5_b28 N G n x2 = some res) (hq : po (some (.int res)) (hRd G)), JW X 0 0 28 [some (.ref 0), some (.ref 1000005), some (.int x2)] [] (hRd G) := by
  intro n
  induction n with
  | zero =>
    intro x2 h hq
    cases (show (none : Option (Int32)) = some res from h)
  | succ n ih28 =>
    intro x2 h hq
    have ih28 := fun x2 h9 => ih28 x2 h9 hq
    rw [p_X2_isWord_5_b28] at h
    refine JW.r hM 16 2 (pc2 := 30) (L2 := [some (.ref 0), some (.ref 1000005), some (.int x2)]) (st2 := [.ref 1000005, .int x2]) (μ2 := (hRd G)) rfl trivial ?_
    refine js_slen (w := 5) hM.1 (by decide) (by rw [hM.2.2.1]; exact wd752) (jat hM.2.1 18 rfl) (by rw [hM.2.2.2.2.1]; exact Nat.le_of_ble_eq_true rfl) (by rw [hM.2.2.2.2.1]; exact Nat.le_of_ble_eq_true rfl) (by rw [hM.2.2.2.2.1]; exact Nat.le_of_ble_eq_true rfl) (by rw [hM.2.2.2.2.1]; exact Nat.le_of_ble_eq_true rfl) ?_
    show JW X 0 0 33 [some (.ref 0), some (.ref 1000005), some (.int x2)] [.int (4 : Int32), .int x2] (hRd G)
    refine js_icge (t := 63) hM.1 (jat hM.2.1 19 rfl) rfl (fun hc4 => ?_) (fun hc4 => ?_)
    · have h := (if_pos hc4).symm.trans h
      refine JW.r hM 35 1 (pc2 := 64) (L2 := [some (.ref 0), some (.ref 1000005), some (.int x2)]) (st2 := [.int (1 : Int32)]) (μ2 := (hRd G)) rfl trivial ?_
      cases h
      exact js_zret hM.1 hp hM.2.2.2.2.2.2.2.1 rfl (by rw [hM.2.2.2.2.2.1]; exact Nat.le_of_ble_eq_true rfl) (by rw [hM.2.2.2.2.2.2.1]; exact Nat.le_of_ble_eq_true rfl) (jat hM.2.1 36 rfl) hq
    · have h := (if_neg hc4).symm.trans h
      obtain ⟨g1, h⟩ := jg h
      refine JW.r hM 20 9 (pc2 := 49) (L2 := [some (.ref 0), some (.ref 1000005), some (.int x2)]) (st2 := [.int x2, .ref 1000005, .int (G 1 ((G 0 6) + x2).toNatClampNeg)]) (μ2 := (hRd G)) rfl ⟨g1, trivial⟩ ?_
      obtain ⟨g2, h⟩ := jg h
      refine js_sch (w := 5) hM.1 (by decide) (by rw [hM.2.2.1]; exact wd762) g2 (jat hM.2.1 29 rfl) (by rw [hM.2.2.2.2.1]; exact Nat.le_of_ble_eq_true rfl) (by rw [hM.2.2.2.2.1]; exact Nat.le_of_ble_eq_true rfl) (by rw [hM.2.2.2.2.1]; exact Nat.le_of_ble_eq_true rfl) (by rw [hM.2.2.2.2.1]; exact Nat.le_of_ble_eq_true rfl) ?_
      show JW X 0 0 52 [some (.ref 0), some (.ref 1000005), some (.int x2)] [.int (jch 5 x2), .int (G 1 ((G 0 6) + x2).toNatClampNeg)] (hRd G)
      refine js_iceq (t := 57) hM.1 (jat hM.2.1 30 rfl) rfl (fun hc3 => ?_) (fun hc3 => ?_)
      · have h := (if_pos hc3).symm.trans h
        refine JW.r hM 33 2 (pc2 := 28) (L2 := [some (.ref 0), some (.ref 1000005), some (.int (x2 + 1))]) (st2 := []) (μ2 := (hRd G)) rfl trivial ?_
        exact ih28 (x2 + 1) h
      · have h := (if_neg hc3).symm.trans h
        refine JW.r hM 31 1 (pc2 := 56) (L2 := [some (.ref 0), some (.ref 1000005), some (.int x2)]) (st2 := [.int (0 : Int32)]) (μ2 := (hRd G)) rfl trivial ?_
        cases h
        exact js_zret hM.1 hp hM.2.2.2.2.2.2.2.1 rfl (by rw [hM.2.2.2.2.2.1]; exact Nat.le_of_ble_eq_true rfl) (by rw [hM.2.2.2.2.2.2.1]; exact Nat.le_of_ble_eq_true rfl) (jat hM.2.1 32 rfl) hq
set_option maxHeartbeats 4000000 in
set_option maxRecDepth 100000 in
theorem t_X2_isWord_5 {X : jX} {po : Option Value → jH → Prop} {px : String → jH → Prop} {sf : Bool} {B9 : Nat} (hM : jMX X kX2_isWord RX2 tbX2 3 ⟨4, 0, 0, 108⟩ (some .boolean) 3) (hp : jPost X sf B9 po px) (N : Nat) (G : Nat → Nat → Int32) {res : Int32} (h : p_X2_isWord_5 N G = some res) (hq : po (some (.int res)) (hRd G)) : JW X 0 0 0 [some (.ref 0), some (.ref 1000005), none] [] (hRd G) := by
  unfold p_X2_isWord_5 at h
  refine JW.r hM 0 3 (pc2 := 5) (L2 := [some (.ref 0), some (.ref 1000005), none]) (st2 := [.int (2 : Int32), .int (G 0 5)]) (μ2 := (hRd G)) rfl trivial ?_
  refine js_icne (t := 24) hM.1 (jat hM.2.1 3 rfl) rfl (fun hc6 => ?_) (fun hc6 => ?_)
  · have h := (if_neg hc6).symm.trans h
    refine JW.r hM 12 1 (pc2 := 25) (L2 := [some (.ref 0), some (.ref 1000005), none]) (st2 := [.int (0 : Int32)]) (μ2 := (hRd G)) rfl trivial ?_
    cases h
    exact js_zret hM.1 hp hM.2.2.2.2.2.2.2.1 rfl (by rw [hM.2.2.2.2.2.1]; exact Nat.le_of_ble_eq_true rfl) (by rw [hM.2.2.2.2.2.2.1]; exact Nat.le_of_ble_eq_true rfl) (jat hM.2.1 13 rfl) hq
  · have h := (if_pos hc6).symm.trans h
    refine JW.r hM 4 6 (pc2 := 18) (L2 := [some (.ref 0), some (.ref 1000005), none]) (st2 := [.ref 1000005, .int ((G 0 7) - (G 0 6))]) (μ2 := (hRd G)) rfl trivial ?_
    refine js_slen (w := 5) hM.1 (by decide) (by rw [hM.2.2.1]; exact wd752) (jat hM.2.1 10 rfl) (by rw [hM.2.2.2.2.1]; exact Nat.le_of_ble_eq_true rfl) (by rw [hM.2.2.2.2.1]; exact Nat.le_of_ble_eq_true rfl) (by rw [hM.2.2.2.2.1]; exact Nat.le_of_ble_eq_true rfl) (by rw [hM.2.2.2.2.1]; exact Nat.le_of_ble_eq_true rfl) ?_
    show JW X 0 0 21 [some (.ref 0), some (.ref 1000005), none] [.int (4 : Int32), .int ((G 0 7) - (G 0 6))] (hRd G)
    refine js_iceq (t := 26) hM.1 (jat hM.2.1 11 rfl) rfl (fun hc5 => ?_) (fun hc5 => ?_)
    · have h := (if_pos hc5).symm.trans h
      refine JW.r hM 14 2 (pc2 := 28) (L2 := [some (.ref 0), some (.ref 1000005), some (.int (0 : Int32))]) (st2 := []) (μ2 := (hRd G)) rfl trivial ?_
      exact t_X2_isWord_5_b28 hM hp N G N (0 : Int32) h hq
    · have h := (if_neg hc5).symm.trans h
      refine JW.r hM 12 1 (pc2 := 25) (L2 := [some (.ref 0), some (.ref 1000005), none]) (st2 := [.int (0 : Int32)]) (μ2 := (hRd G)) rfl trivial ?_
      cases h
      exact js_zret hM.1 hp hM.2.2.2.2.2.2.2.1 rfl (by rw [hM.2.2.2.2.2.1]; exact Nat.le_of_ble_eq_true rfl) (by rw [hM.2.2.2.2.2.2.1]; exact Nat.le_of_ble_eq_true rfl) (jat hM.2.1 13 rfl) hq
theorem m_X2_isWord_5 (V : jV) (hV : V.1.stackTraces = false) (N : Nat) (G : Nat → Nat → Int32) (v : Int32) (h : p_X2_isWord_5 N G = some v) : jMet V yX2_isWord (jws yX2_isWord cX2_isWord 3 (some .boolean)) ⟨4, 0, 0, 108⟩ true 1 [.ref 0, .ref 1000005] (hRd G) (fun o ν => o = some (.int v) ∧ ν = (hRd G)) (fun _ _ => False) := by
  refine jmk (tb := tbX2) (C := kX2_isWord) hV rfl (by decide) tbX2_ok rfl kX2_isWord_ok rfl ?_
  intro X hM _ hp _
  exact t_X2_isWord_5 hM hp N G h ⟨rfl, rfl⟩
def p_X2_isWord_6_b28 (N : Nat) (G : Nat → Nat → Int32) : Nat → (Int32) → Option (Int32)
  | 0, _ => none
  | n + 1, x2 => if (5 : Int32) ≤ x2 then (some (1 : Int32)) else (if jin ((G 0 6) + x2) 900 = true then if jin x2 5 = true then if (G 1 ((G 0 6) + x2).toNatClampNeg) = (jch 6 x2) then ((p_X2_isWord_6_b28 N G n) (x2 + 1)) else (some (0 : Int32)) else none else none)
def p_X2_isWord_6 (N : Nat) (G : Nat → Nat → Int32) : Option (Int32) :=
  if (G 0 5) = (2 : Int32) then (if ((G 0 7) - (G 0 6)) = (5 : Int32) then (p_X2_isWord_6_b28 N G N (0 : Int32)) else (some (0 : Int32))) else (some (0 : Int32))
set_option maxHeartbeats 4000000 in
set_option maxRecDepth 100000 in
theorem t_X2_isWord_6_b28 {X : jX} {po : Option Value → jH → Prop} {px : String → jH → Prop} {sf : Bool} {B9 : Nat} (hM : jMX X kX2_isWord RX2 tbX2 3 ⟨4, 0, 0, 108⟩ (some .boolean) 3) (hp : jPost X sf B9 po px) (N : Nat) (G : Nat → Nat → Int32) {res : Int32} : ∀ (n : Nat) (x2 : Int32) (h : p_X2_isWord_6_b28 N G n x2 = some res) (hq : po (some (.int res)) (hRd G)), JW X 0 0 28 [some (.ref 0), some (.ref 1000006), some (.int x2)] [] (hRd G) := by
  intro n
  induction n with
  | zero =>
    intro x2 h hq
    cases (show (none : Option (Int32)) = some res from h)
  | succ n ih28 =>
    intro x2 h hq
    have ih28 := fun x2 h9 => ih28 x2 h9 hq
    rw [p_X2_isWord_6_b28] at h
    refine JW.r hM 16 2 (pc2 := 30) (L2 := [some (.ref 0), some (.ref 1000006), some (.int x2)]) (st2 := [.ref 1000006, .int x2]) (μ2 := (hRd G)) rfl trivial ?_
    refine js_slen (w := 6) hM.1 (by decide) (by rw [hM.2.2.1]; exact wd752) (jat hM.2.1 18 rfl) (by rw [hM.2.2.2.2.1]; exact Nat.le_of_ble_eq_true rfl) (by rw [hM.2.2.2.2.1]; exact Nat.le_of_ble_eq_true rfl) (by rw [hM.2.2.2.2.1]; exact Nat.le_of_ble_eq_true rfl) (by rw [hM.2.2.2.2.1]; exact Nat.le_of_ble_eq_true rfl) ?_
    show JW X 0 0 33 [some (.ref 0), some (.ref 1000006), some (.int x2)] [.int (5 : Int32), .int x2] (hRd G)
    refine js_icge (t := 63) hM.1 (jat hM.2.1 19 rfl) rfl (fun hc4 => ?_) (fun hc4 => ?_)
    · have h := (if_pos hc4).symm.trans h
      refine JW.r hM 35 1 (pc2 := 64) (L2 := [some (.ref 0), some (.ref 1000006), some (.int x2)]) (st2 := [.int (1 : Int32)]) (μ2 := (hRd G)) rfl trivial ?_
      cases h
      exact js_zret hM.1 hp hM.2.2.2.2.2.2.2.1 rfl (by rw [hM.2.2.2.2.2.1]; exact Nat.le_of_ble_eq_true rfl) (by rw [hM.2.2.2.2.2.2.1]; exact Nat.le_of_ble_eq_true rfl) (jat hM.2.1 36 rfl) hq
    · have h := (if_neg hc4).symm.trans h
      obtain ⟨g1, h⟩ := jg h
      refine JW.r hM 20 9 (pc2 := 49) (L2 := [some (.ref 0), some (.ref 1000006), some (.int x2)]) (st2 := [.int x2, .ref 1000006, .int (G 1 ((G 0 6) + x2).toNatClampNeg)]) (μ2 := (hRd G)) rfl ⟨g1, trivial⟩ ?_
      obtain ⟨g2, h⟩ := jg h
      refine js_sch (w := 6) hM.1 (by decide) (by rw [hM.2.2.1]; exact wd762) g2 (jat hM.2.1 29 rfl) (by rw [hM.2.2.2.2.1]; exact Nat.le_of_ble_eq_true rfl) (by rw [hM.2.2.2.2.1]; exact Nat.le_of_ble_eq_true rfl) (by rw [hM.2.2.2.2.1]; exact Nat.le_of_ble_eq_true rfl) (by rw [hM.2.2.2.2.1]; exact Nat.le_of_ble_eq_true rfl) ?_
      show JW X 0 0 52 [some (.ref 0), some (.ref 1000006), some (.int x2)] [.int (jch 6 x2), .int (G 1 ((G 0 6) + x2).toNatClampNeg)] (hRd G)
      refine js_iceq (t := 57) hM.1 (jat hM.2.1 30 rfl) rfl (fun hc3 => ?_) (fun hc3 => ?_)
      · have h := (if_pos hc3).symm.trans h
        refine JW.r hM 33 2 (pc2 := 28) (L2 := [some (.ref 0), some (.ref 1000006), some (.int (x2 + 1))]) (st2 := []) (μ2 := (hRd G)) rfl trivial ?_
        exact ih28 (x2 + 1) h
      · have h := (if_neg hc3).symm.trans h
        refine JW.r hM 31 1 (pc2 := 56) (L2 := [some (.ref 0), some (.ref 1000006), some (.int x2)]) (st2 := [.int (0 : Int32)]) (μ2 := (hRd G)) rfl trivial ?_
        cases h
        exact js_zret hM.1 hp hM.2.2.2.2.2.2.2.1 rfl (by rw [hM.2.2.2.2.2.1]; exact Nat.le_of_ble_eq_true rfl) (by rw [hM.2.2.2.2.2.2.1]; exact Nat.le_of_ble_eq_true rfl) (jat hM.2.1 32 rfl) hq
set_option maxHeartbeats 4000000 in
set_option maxRecDepth 100000 in
theorem t_X2_isWord_6 {X : jX} {po : Option Value → jH → Prop} {px : String → jH → Prop} {sf : Bool} {B9 : Nat} (hM : jMX X kX2_isWord RX2 tbX2 3 ⟨4, 0, 0, 108⟩ (some .boolean) 3) (hp : jPost X sf B9 po px) (N : Nat) (G : Nat → Nat → Int32) {res : Int32} (h : p_X2_isWord_6 N G = some res) (hq : po (some (.int res)) (hRd G)) : JW X 0 0 0 [some (.ref 0), some (.ref 1000006), none] [] (hRd G) := by
  unfold p_X2_isWord_6 at h
  refine JW.r hM 0 3 (pc2 := 5) (L2 := [some (.ref 0), some (.ref 1000006), none]) (st2 := [.int (2 : Int32), .int (G 0 5)]) (μ2 := (hRd G)) rfl trivial ?_
  refine js_icne (t := 24) hM.1 (jat hM.2.1 3 rfl) rfl (fun hc6 => ?_) (fun hc6 => ?_)
  · have h := (if_neg hc6).symm.trans h
    refine JW.r hM 12 1 (pc2 := 25) (L2 := [some (.ref 0), some (.ref 1000006), none]) (st2 := [.int (0 : Int32)]) (μ2 := (hRd G)) rfl trivial ?_
    cases h
    exact js_zret hM.1 hp hM.2.2.2.2.2.2.2.1 rfl (by rw [hM.2.2.2.2.2.1]; exact Nat.le_of_ble_eq_true rfl) (by rw [hM.2.2.2.2.2.2.1]; exact Nat.le_of_ble_eq_true rfl) (jat hM.2.1 13 rfl) hq
  · have h := (if_pos hc6).symm.trans h
    refine JW.r hM 4 6 (pc2 := 18) (L2 := [some (.ref 0), some (.ref 1000006), none]) (st2 := [.ref 1000006, .int ((G 0 7) - (G 0 6))]) (μ2 := (hRd G)) rfl trivial ?_
    refine js_slen (w := 6) hM.1 (by decide) (by rw [hM.2.2.1]; exact wd752) (jat hM.2.1 10 rfl) (by rw [hM.2.2.2.2.1]; exact Nat.le_of_ble_eq_true rfl) (by rw [hM.2.2.2.2.1]; exact Nat.le_of_ble_eq_true rfl) (by rw [hM.2.2.2.2.1]; exact Nat.le_of_ble_eq_true rfl) (by rw [hM.2.2.2.2.1]; exact Nat.le_of_ble_eq_true rfl) ?_
    show JW X 0 0 21 [some (.ref 0), some (.ref 1000006), none] [.int (5 : Int32), .int ((G 0 7) - (G 0 6))] (hRd G)
    refine js_iceq (t := 26) hM.1 (jat hM.2.1 11 rfl) rfl (fun hc5 => ?_) (fun hc5 => ?_)
    · have h := (if_pos hc5).symm.trans h
      refine JW.r hM 14 2 (pc2 := 28) (L2 := [some (.ref 0), some (.ref 1000006), some (.int (0 : Int32))]) (st2 := []) (μ2 := (hRd G)) rfl trivial ?_
      exact t_X2_isWord_6_b28 hM hp N G N (0 : Int32) h hq
    · have h := (if_neg hc5).symm.trans h
      refine JW.r hM 12 1 (pc2 := 25) (L2 := [some (.ref 0), some (.ref 1000006), none]) (st2 := [.int (0 : Int32)]) (μ2 := (hRd G)) rfl trivial ?_
      cases h
      exact js_zret hM.1 hp hM.2.2.2.2.2.2.2.1 rfl (by rw [hM.2.2.2.2.2.1]; exact Nat.le_of_ble_eq_true rfl) (by rw [hM.2.2.2.2.2.2.1]; exact Nat.le_of_ble_eq_true rfl) (jat hM.2.1 13 rfl) hq
theorem m_X2_isWord_6 (V : jV) (hV : V.1.stackTraces = false) (N : Nat) (G : Nat → Nat → Int32) (v : Int32) (h : p_X2_isWord_6 N G = some v) : jMet V yX2_isWord (jws yX2_isWord cX2_isWord 3 (some .boolean)) ⟨4, 0, 0, 108⟩ true 1 [.ref 0, .ref 1000006] (hRd G) (fun o ν => o = some (.int v) ∧ ν = (hRd G)) (fun _ _ => False) := by
  refine jmk (tb := tbX2) (C := kX2_isWord) hV rfl (by decide) tbX2_ok rfl kX2_isWord_ok rfl ?_
  intro X hM _ hp _
  exact t_X2_isWord_6 hM hp N G h ⟨rfl, rfl⟩
def p_X2_kindOfLine (N : Nat) (G : Nat → Nat → Int32) : Option (Int32) :=
  (p_X2_isWord_0 N G).bind (fun v2 => if v2 = 0 then ((p_X2_isWord_1 N G).bind (fun v4 => if v4 = 0 then ((p_X2_isWord_2 N G).bind (fun v6 => if v6 = 0 then ((p_X2_isWord_3 N G).bind (fun v8 => if v8 = 0 then ((p_X2_isWord_4 N G).bind (fun v10 => if v10 = 0 then ((p_X2_isWord_5 N G).bind (fun v12 => if v12 = 0 then ((p_X2_isWord_6 N G).bind (fun v14 => if v14 = 0 then (some (-1 : Int32)) else (some (6 : Int32)))) else (some (5 : Int32)))) else (some (4 : Int32)))) else (some (3 : Int32)))) else (some (2 : Int32)))) else (some (1 : Int32)))) else (some (0 : Int32)))
set_option maxHeartbeats 4000000 in
set_option maxRecDepth 100000 in
theorem t_X2_kindOfLine {X : jX} {po : Option Value → jH → Prop} {px : String → jH → Prop} {sf : Bool} {B9 : Nat} (hM : jMX X kX2_kindOfLine RX2 tbX2 1 ⟨5, 0, 0, 130⟩ (some .int) 3) (hp : jPost X sf B9 po px) (N : Nat) (G : Nat → Nat → Int32) {res : Int32} (h : p_X2_kindOfLine N G = some res) (hq : po (some (.int res)) (hRd G)) : JW X 0 0 0 [some (.ref 0)] [] (hRd G) := by
  unfold p_X2_kindOfLine at h
  refine JW.r hM 0 1 (pc2 := 1) (L2 := [some (.ref 0)]) (st2 := [.ref 0]) (μ2 := (hRd G)) rfl trivial ?_
  refine js_word (w := 0) (tx := "people") hM.1 (by rw [hM.2.2.1]; decide) (jat hM.2.1 1 rfl) ?_
  show JW X 0 0 3 [some (.ref 0)] [.ref 1000000, .ref 0] (hRd G)
  obtain ⟨v2, hv1, h⟩ := jbd h
  refine JW.cV (v := some (.int v2)) hM (m_X2_isWord_0 (jVX X) hM.1.2.2.2.2.2.2.2.2.2.1 N G v2 hv1) (sb_Rd_Rd_0 G) (bi_Rd_Rd_0 G) rfl rfl rfl kc_X2_62 rfl rfl rfl rfl rfl (jat hM.2.1 2 rfl) (st := []) rfl ?_
  show JW X 0 0 6 [some (.ref 0)] [.int v2] (hRd G)
  refine js_ifeq (t := 11) hM.1 (jat hM.2.1 3 rfl) rfl (fun hc21 => ?_) (fun hc21 => ?_)
  · have h := (if_pos hc21).symm.trans h
    refine JW.r hM 6 1 (pc2 := 12) (L2 := [some (.ref 0)]) (st2 := [.ref 0]) (μ2 := (hRd G)) rfl trivial ?_
    refine js_word (w := 1) (tx := "coins") hM.1 (by rw [hM.2.2.1]; decide) (jat hM.2.1 7 rfl) ?_
    show JW X 0 0 14 [some (.ref 0)] [.ref 1000001, .ref 0] (hRd G)
    obtain ⟨v4, hv3, h⟩ := jbd h
    refine JW.cV (v := some (.int v4)) hM (m_X2_isWord_1 (jVX X) hM.1.2.2.2.2.2.2.2.2.2.1 N G v4 hv3) (sb_Rd_Rd_0 G) (bi_Rd_Rd_0 G) rfl rfl rfl kc_X2_62 rfl rfl rfl rfl rfl (jat hM.2.1 8 rfl) (st := []) rfl ?_
    show JW X 0 0 17 [some (.ref 0)] [.int v4] (hRd G)
    refine js_ifeq (t := 22) hM.1 (jat hM.2.1 9 rfl) rfl (fun hc20 => ?_) (fun hc20 => ?_)
    · have h := (if_pos hc20).symm.trans h
      refine JW.r hM 12 1 (pc2 := 23) (L2 := [some (.ref 0)]) (st2 := [.ref 0]) (μ2 := (hRd G)) rfl trivial ?_
      refine js_word (w := 2) (tx := "thing") hM.1 (by rw [hM.2.2.1]; decide) (jat hM.2.1 13 rfl) ?_
      show JW X 0 0 25 [some (.ref 0)] [.ref 1000002, .ref 0] (hRd G)
      obtain ⟨v6, hv5, h⟩ := jbd h
      refine JW.cV (v := some (.int v6)) hM (m_X2_isWord_2 (jVX X) hM.1.2.2.2.2.2.2.2.2.2.1 N G v6 hv5) (sb_Rd_Rd_0 G) (bi_Rd_Rd_0 G) rfl rfl rfl kc_X2_62 rfl rfl rfl rfl rfl (jat hM.2.1 14 rfl) (st := []) rfl ?_
      show JW X 0 0 28 [some (.ref 0)] [.int v6] (hRd G)
      refine js_ifeq (t := 33) hM.1 (jat hM.2.1 15 rfl) rfl (fun hc19 => ?_) (fun hc19 => ?_)
      · have h := (if_pos hc19).symm.trans h
        refine JW.r hM 18 1 (pc2 := 34) (L2 := [some (.ref 0)]) (st2 := [.ref 0]) (μ2 := (hRd G)) rfl trivial ?_
        refine js_word (w := 3) (tx := "worth") hM.1 (by rw [hM.2.2.1]; decide) (jat hM.2.1 19 rfl) ?_
        show JW X 0 0 36 [some (.ref 0)] [.ref 1000003, .ref 0] (hRd G)
        obtain ⟨v8, hv7, h⟩ := jbd h
        refine JW.cV (v := some (.int v8)) hM (m_X2_isWord_3 (jVX X) hM.1.2.2.2.2.2.2.2.2.2.1 N G v8 hv7) (sb_Rd_Rd_0 G) (bi_Rd_Rd_0 G) rfl rfl rfl kc_X2_62 rfl rfl rfl rfl rfl (jat hM.2.1 20 rfl) (st := []) rfl ?_
        show JW X 0 0 39 [some (.ref 0)] [.int v8] (hRd G)
        refine js_ifeq (t := 44) hM.1 (jat hM.2.1 21 rfl) rfl (fun hc18 => ?_) (fun hc18 => ?_)
        · have h := (if_pos hc18).symm.trans h
          refine JW.r hM 24 1 (pc2 := 45) (L2 := [some (.ref 0)]) (st2 := [.ref 0]) (μ2 := (hRd G)) rfl trivial ?_
          refine js_word (w := 4) (tx := "share") hM.1 (by rw [hM.2.2.1]; decide) (jat hM.2.1 25 rfl) ?_
          show JW X 0 0 47 [some (.ref 0)] [.ref 1000004, .ref 0] (hRd G)
          obtain ⟨v10, hv9, h⟩ := jbd h
          refine JW.cV (v := some (.int v10)) hM (m_X2_isWord_4 (jVX X) hM.1.2.2.2.2.2.2.2.2.2.1 N G v10 hv9) (sb_Rd_Rd_0 G) (bi_Rd_Rd_0 G) rfl rfl rfl kc_X2_62 rfl rfl rfl rfl rfl (jat hM.2.1 26 rfl) (st := []) rfl ?_
          show JW X 0 0 50 [some (.ref 0)] [.int v10] (hRd G)
          refine js_ifeq (t := 55) hM.1 (jat hM.2.1 27 rfl) rfl (fun hc17 => ?_) (fun hc17 => ?_)
          · have h := (if_pos hc17).symm.trans h
            refine JW.r hM 30 1 (pc2 := 56) (L2 := [some (.ref 0)]) (st2 := [.ref 0]) (μ2 := (hRd G)) rfl trivial ?_
            refine js_word (w := 5) (tx := "bell") hM.1 (by rw [hM.2.2.1]; decide) (jat hM.2.1 31 rfl) ?_
            show JW X 0 0 58 [some (.ref 0)] [.ref 1000005, .ref 0] (hRd G)
            obtain ⟨v12, hv11, h⟩ := jbd h
            refine JW.cV (v := some (.int v12)) hM (m_X2_isWord_5 (jVX X) hM.1.2.2.2.2.2.2.2.2.2.1 N G v12 hv11) (sb_Rd_Rd_0 G) (bi_Rd_Rd_0 G) rfl rfl rfl kc_X2_62 rfl rfl rfl rfl rfl (jat hM.2.1 32 rfl) (st := []) rfl ?_
            show JW X 0 0 61 [some (.ref 0)] [.int v12] (hRd G)
            refine js_ifeq (t := 66) hM.1 (jat hM.2.1 33 rfl) rfl (fun hc16 => ?_) (fun hc16 => ?_)
            · have h := (if_pos hc16).symm.trans h
              refine JW.r hM 36 1 (pc2 := 67) (L2 := [some (.ref 0)]) (st2 := [.ref 0]) (μ2 := (hRd G)) rfl trivial ?_
              refine js_word (w := 6) (tx := "eaten") hM.1 (by rw [hM.2.2.1]; decide) (jat hM.2.1 37 rfl) ?_
              show JW X 0 0 69 [some (.ref 0)] [.ref 1000006, .ref 0] (hRd G)
              obtain ⟨v14, hv13, h⟩ := jbd h
              refine JW.cV (v := some (.int v14)) hM (m_X2_isWord_6 (jVX X) hM.1.2.2.2.2.2.2.2.2.2.1 N G v14 hv13) (sb_Rd_Rd_0 G) (bi_Rd_Rd_0 G) rfl rfl rfl kc_X2_62 rfl rfl rfl rfl rfl (jat hM.2.1 38 rfl) (st := []) rfl ?_
              show JW X 0 0 72 [some (.ref 0)] [.int v14] (hRd G)
              refine js_ifeq (t := 80) hM.1 (jat hM.2.1 39 rfl) rfl (fun hc15 => ?_) (fun hc15 => ?_)
              · have h := (if_pos hc15).symm.trans h
                refine JW.r hM 42 1 (pc2 := 81) (L2 := [some (.ref 0)]) (st2 := [.int (-1 : Int32)]) (μ2 := (hRd G)) rfl trivial ?_
                cases h
                exact js_iret hM.1 hp hM.2.2.2.2.2.2.2.1 (by rw [hM.2.2.2.2.2.1]; exact Nat.le_of_ble_eq_true rfl) (by rw [hM.2.2.2.2.2.2.1]; exact Nat.le_of_ble_eq_true rfl) (jat hM.2.1 43 rfl) hq
              · have h := (if_neg hc15).symm.trans h
                refine JW.r hM 40 2 (pc2 := 81) (L2 := [some (.ref 0)]) (st2 := [.int (6 : Int32)]) (μ2 := (hRd G)) rfl trivial ?_
                cases h
                exact js_iret hM.1 hp hM.2.2.2.2.2.2.2.1 (by rw [hM.2.2.2.2.2.1]; exact Nat.le_of_ble_eq_true rfl) (by rw [hM.2.2.2.2.2.2.1]; exact Nat.le_of_ble_eq_true rfl) (jat hM.2.1 43 rfl) hq
            · have h := (if_neg hc16).symm.trans h
              refine JW.r hM 34 1 (pc2 := 65) (L2 := [some (.ref 0)]) (st2 := [.int (5 : Int32)]) (μ2 := (hRd G)) rfl trivial ?_
              cases h
              exact js_iret hM.1 hp hM.2.2.2.2.2.2.2.1 (by rw [hM.2.2.2.2.2.1]; exact Nat.le_of_ble_eq_true rfl) (by rw [hM.2.2.2.2.2.2.1]; exact Nat.le_of_ble_eq_true rfl) (jat hM.2.1 35 rfl) hq
          · have h := (if_neg hc17).symm.trans h
            refine JW.r hM 28 1 (pc2 := 54) (L2 := [some (.ref 0)]) (st2 := [.int (4 : Int32)]) (μ2 := (hRd G)) rfl trivial ?_
            cases h
            exact js_iret hM.1 hp hM.2.2.2.2.2.2.2.1 (by rw [hM.2.2.2.2.2.1]; exact Nat.le_of_ble_eq_true rfl) (by rw [hM.2.2.2.2.2.2.1]; exact Nat.le_of_ble_eq_true rfl) (jat hM.2.1 29 rfl) hq
        · have h := (if_neg hc18).symm.trans h
          refine JW.r hM 22 1 (pc2 := 43) (L2 := [some (.ref 0)]) (st2 := [.int (3 : Int32)]) (μ2 := (hRd G)) rfl trivial ?_
          cases h
          exact js_iret hM.1 hp hM.2.2.2.2.2.2.2.1 (by rw [hM.2.2.2.2.2.1]; exact Nat.le_of_ble_eq_true rfl) (by rw [hM.2.2.2.2.2.2.1]; exact Nat.le_of_ble_eq_true rfl) (jat hM.2.1 23 rfl) hq
      · have h := (if_neg hc19).symm.trans h
        refine JW.r hM 16 1 (pc2 := 32) (L2 := [some (.ref 0)]) (st2 := [.int (2 : Int32)]) (μ2 := (hRd G)) rfl trivial ?_
        cases h
        exact js_iret hM.1 hp hM.2.2.2.2.2.2.2.1 (by rw [hM.2.2.2.2.2.1]; exact Nat.le_of_ble_eq_true rfl) (by rw [hM.2.2.2.2.2.2.1]; exact Nat.le_of_ble_eq_true rfl) (jat hM.2.1 17 rfl) hq
    · have h := (if_neg hc20).symm.trans h
      refine JW.r hM 10 1 (pc2 := 21) (L2 := [some (.ref 0)]) (st2 := [.int (1 : Int32)]) (μ2 := (hRd G)) rfl trivial ?_
      cases h
      exact js_iret hM.1 hp hM.2.2.2.2.2.2.2.1 (by rw [hM.2.2.2.2.2.1]; exact Nat.le_of_ble_eq_true rfl) (by rw [hM.2.2.2.2.2.2.1]; exact Nat.le_of_ble_eq_true rfl) (jat hM.2.1 11 rfl) hq
  · have h := (if_neg hc21).symm.trans h
    refine JW.r hM 4 1 (pc2 := 10) (L2 := [some (.ref 0)]) (st2 := [.int (0 : Int32)]) (μ2 := (hRd G)) rfl trivial ?_
    cases h
    exact js_iret hM.1 hp hM.2.2.2.2.2.2.2.1 (by rw [hM.2.2.2.2.2.1]; exact Nat.le_of_ble_eq_true rfl) (by rw [hM.2.2.2.2.2.2.1]; exact Nat.le_of_ble_eq_true rfl) (jat hM.2.1 5 rfl) hq
theorem m_X2_kindOfLine (V : jV) (hV : V.1.stackTraces = false) (N : Nat) (G : Nat → Nat → Int32) (v : Int32) (h : p_X2_kindOfLine N G = some v) : jMet V yX2_kindOfLine (jws yX2_kindOfLine cX2_kindOfLine 1 (some .int)) ⟨5, 0, 0, 130⟩ true 1 [.ref 0] (hRd G) (fun o ν => o = some (.int v) ∧ ν = (hRd G)) (fun _ _ => False) := by
  refine jmk (tb := tbX2) (C := kX2_kindOfLine) hV rfl (by decide) tbX2_ok rfl kX2_kindOfLine_ok rfl ?_
  intro X hM _ hp _
  exact t_X2_kindOfLine hM hp N G h ⟨rfl, rfl⟩
def p_X2_fails_b13 (N : Nat) (G : Nat → Nat → Int32) (s0 : Int32) : Option (Int32 × (Nat → Nat → Int32)) :=
  jlt (jup G 0 1 s0) fun G1 => jlt (jup G1 0 2 (G1 0 6)) fun G3 => some ((0 : Int32), G3)
def p_X2_fails (N : Nat) (G : Nat → Nat → Int32) (p0 : Int32) : Option (Int32 × (Nat → Nat → Int32)) :=
  if (G 0 5) = 0 then (p_X2_fails_b13 N G (1 : Int32)) else (p_X2_fails_b13 N G p0)
set_option maxHeartbeats 4000000 in
set_option maxRecDepth 100000 in
theorem t_X2_fails_b13 {X : jX} {po : Option Value → jH → Prop} {px : String → jH → Prop} {sf : Bool} {B9 : Nat} (hM : jMX X kX2_fails RX2 tbX2 2 ⟨0, 0, 0, 0⟩ (some .boolean) 3) (hp : jPost X sf B9 po px) (N : Nat) {res : Int32 × (Nat → Nat → Int32)} (G : Nat → Nat → Int32) (s0 : Int32) (h : p_X2_fails_b13 N G s0 = some res) (hq : po (some (.int res.1)) (hRd res.2)) : JW X 0 0 13 [some (.ref 0), none] [.int s0, .ref 0] (hRd G) := by
  unfold p_X2_fails_b13 at h
  obtain ⟨G1, e2, h⟩ := jlE h
  refine JW.r hM 7 1 (pc2 := 16) (L2 := [some (.ref 0), none]) (st2 := []) (μ2 := (hRd (jup G 0 1 s0))) rfl trivial ?_
  rw [e2]
  obtain ⟨G3, e4, h⟩ := jlE h
  refine JW.r hM 8 4 (pc2 := 24) (L2 := [some (.ref 0), none]) (st2 := []) (μ2 := (hRd (jup G1 0 2 (G1 0 6)))) rfl trivial ?_
  rw [e4]
  refine JW.r hM 12 1 (pc2 := 25) (L2 := [some (.ref 0), none]) (st2 := [.int (0 : Int32)]) (μ2 := (hRd G3)) rfl trivial ?_
  cases h
  exact js_zret hM.1 hp hM.2.2.2.2.2.2.2.1 rfl (by rw [hM.2.2.2.2.2.1]; exact Nat.le_of_ble_eq_true rfl) (by rw [hM.2.2.2.2.2.2.1]; exact Nat.le_of_ble_eq_true rfl) (jat hM.2.1 13 rfl) hq
set_option maxHeartbeats 4000000 in
set_option maxRecDepth 100000 in
theorem t_X2_fails {X : jX} {po : Option Value → jH → Prop} {px : String → jH → Prop} {sf : Bool} {B9 : Nat} (hM : jMX X kX2_fails RX2 tbX2 2 ⟨0, 0, 0, 0⟩ (some .boolean) 3) (hp : jPost X sf B9 po px) (N : Nat) (G : Nat → Nat → Int32) (p0 : Int32) {res : Int32 × (Nat → Nat → Int32)} (h : p_X2_fails N G p0 = some res) (hq : po (some (.int res.1)) (hRd res.2)) : JW X 0 0 0 [some (.ref 0), some (.int p0)] [] (hRd G) := by
  unfold p_X2_fails at h
  refine JW.r hM 0 3 (pc2 := 5) (L2 := [some (.ref 0), some (.int p0)]) (st2 := [.int (G 0 5), .ref 0]) (μ2 := (hRd G)) rfl trivial ?_
  refine js_ifne (t := 12) hM.1 (jat hM.2.1 3 rfl) rfl (fun hc5 => ?_) (fun hc5 => ?_)
  · have h := (if_neg hc5).symm.trans h
    refine JW.r hM 6 1 (pc2 := 13) (L2 := [some (.ref 0), some (.int p0)]) (st2 := [.int p0, .ref 0]) (μ2 := (hRd G)) rfl trivial ?_
    exact JW.mask [true, false] (t_X2_fails_b13 hM hp N G p0 h hq)
  · have h := (if_pos hc5).symm.trans h
    refine JW.r hM 4 2 (pc2 := 13) (L2 := [some (.ref 0), some (.int p0)]) (st2 := [.int (1 : Int32), .ref 0]) (μ2 := (hRd G)) rfl trivial ?_
    exact JW.mask [true, false] (t_X2_fails_b13 hM hp N G (1 : Int32) h hq)
theorem m_X2_fails (V : jV) (hV : V.1.stackTraces = false) (N : Nat) (G : Nat → Nat → Int32) (p0 : Int32) (v : Int32 × (Nat → Nat → Int32)) (h : p_X2_fails N G p0 = some v) : jMet V yX2_fails (jws yX2_fails cX2_fails 2 (some .boolean)) ⟨0, 0, 0, 0⟩ true 1 [.ref 0, .int p0] (hRd G) (fun o ν => o = some (.int v.1) ∧ ν = (hRd v.2)) (fun _ _ => False) := by
  refine jmk (tb := tbX2) (C := kX2_fails) hV rfl (by decide) tbX2_ok rfl kX2_fails_ok rfl ?_
  intro X hM _ hp _
  exact t_X2_fails hM hp N G p0 h ⟨rfl, rfl⟩
def p_X2_begins_b16 (N : Nat) (G : Nat → Nat → Int32) : Option (Int32 × (Nat → Nat → Int32)) :=
  (p_X2_fails N (jvw G 0) (2 : Int32)).bind (fun v2 => jlt (jpt G 0 2 v2.2) fun G3 => if jz v2.1 = true then some (v2.1, G3) else none)
def p_X2_begins_b53 (N : Nat) (G : Nat → Nat → Int32) : Option (Int32 × (Nat → Nat → Int32)) :=
  (p_X2_next N (jvw G 0)).bind (fun v7 => jlt (jpt G 0 2 v7) fun G8 => some ((1 : Int32), G8))
def p_X2_begins_b47 (N : Nat) (G : Nat → Nat → Int32) : Option (Int32 × (Nat → Nat → Int32)) :=
  (p_X2_fails N (jvw G 0) (4 : Int32)).bind (fun v11 => jlt (jpt G 0 2 v11.2) fun G12 => if jz v11.1 = true then some (v11.1, G12) else none)
def p_X2_begins_b33 (N : Nat) (G : Nat → Nat → Int32) (x1 : Int32) : Option (Int32 × (Nat → Nat → Int32)) :=
  if x1 = (2 : Int32) then (if (G 2 2) = (10 : Int32) then (p_X2_begins_b47 N G) else (p_X2_begins_b53 N G)) else (p_X2_begins_b53 N G)
def p_X2_begins_b22 (N : Nat) (G : Nat → Nat → Int32) (x1 : Int32) : Option (Int32 × (Nat → Nat → Int32)) :=
  if x1 = 0 then (if 0 < (G 2 1) then (p_X2_begins_b47 N G) else (p_X2_begins_b33 N G x1)) else (p_X2_begins_b33 N G x1)
def p_X2_begins (N : Nat) (G : Nat → Nat → Int32) (p0 : Int32) : Option (Int32 × (Nat → Nat → Int32)) :=
  if p0 = (-1 : Int32) then (p_X2_begins_b16 N G) else (if p0 = 0 then (p_X2_begins_b22 N G p0) else (if (G 2 1) = 0 then (p_X2_begins_b16 N G) else (p_X2_begins_b22 N G p0)))
set_option maxHeartbeats 4000000 in
set_option maxRecDepth 100000 in
theorem t_X2_begins_b16 {X : jX} {po : Option Value → jH → Prop} {px : String → jH → Prop} {sf : Bool} {B9 : Nat} (hM : jMX X kX2_begins RX2 tbX2 3 ⟨2, 0, 0, 42⟩ (some .boolean) 12) (hp : jPost X sf B9 po px) (N : Nat) {res : Int32 × (Nat → Nat → Int32)} (G : Nat → Nat → Int32) (h : p_X2_begins_b16 N G = some res) (hq : po (some (.int res.1)) (hRT res.2)) : JW X 0 0 16 [some (.ref 0), none, none] [] (hRT G) := by
  unfold p_X2_begins_b16 at h
  refine JW.r hM 8 2 (pc2 := 18) (L2 := [some (.ref 0), none, none]) (st2 := [.int (2 : Int32), .ref 0]) (μ2 := (hRT G)) rfl trivial ?_
  obtain ⟨v2, hv1, h⟩ := jbd h
  refine JW.cV (v := some (.int v2.1)) hM (m_X2_fails (jVX X) hM.1.2.2.2.2.2.2.2.2.2.1 N (jvw G 0) (2 : Int32) v2 hv1) (sb_RT_Rd_0 G) (bk_RT_Rd_0 G v2.2) rfl rfl rfl kc_X2_80 rfl rfl rfl rfl rfl (jat hM.2.1 10 rfl) (st := []) rfl ?_
  show JW X 0 0 21 [some (.ref 0), none, none] [.int v2.1] (hRT (jpt G 0 2 v2.2))
  obtain ⟨G3, e4, h⟩ := jlE h
  rw [e4]
  obtain ⟨g5, h⟩ := jg h
  cases h
  exact js_zret hM.1 hp hM.2.2.2.2.2.2.2.1 g5 (by rw [hM.2.2.2.2.2.1]; exact Nat.le_of_ble_eq_true rfl) (by rw [hM.2.2.2.2.2.2.1]; exact Nat.le_of_ble_eq_true rfl) (jat hM.2.1 11 rfl) hq
set_option maxHeartbeats 4000000 in
set_option maxRecDepth 100000 in
theorem t_X2_begins_b53 {X : jX} {po : Option Value → jH → Prop} {px : String → jH → Prop} {sf : Bool} {B9 : Nat} (hM : jMX X kX2_begins RX2 tbX2 3 ⟨2, 0, 0, 42⟩ (some .boolean) 12) (hp : jPost X sf B9 po px) (N : Nat) {res : Int32 × (Nat → Nat → Int32)} (G : Nat → Nat → Int32) (h : p_X2_begins_b53 N G = some res) (hq : po (some (.int res.1)) (hRT res.2)) : JW X 0 0 53 [some (.ref 0), none, none] [] (hRT G) := by
  unfold p_X2_begins_b53 at h
  refine JW.r hM 28 1 (pc2 := 54) (L2 := [some (.ref 0), none, none]) (st2 := [.ref 0]) (μ2 := (hRT G)) rfl trivial ?_
  obtain ⟨v7, hv6, h⟩ := jbd h
  refine JW.cV (v := none) hM (m_X2_next (jVX X) hM.1.2.2.2.2.2.2.2.2.2.1 N (jvw G 0) v7 hv6) (sb_RT_Rd_0 G) (bk_RT_Rd_0 G v7) rfl rfl rfl kc_X2_36 rfl rfl rfl rfl rfl (jat hM.2.1 29 rfl) (st := []) rfl ?_
  show JW X 0 0 57 [some (.ref 0), none, none] [] (hRT (jpt G 0 2 v7))
  obtain ⟨G8, e9, h⟩ := jlE h
  rw [e9]
  refine JW.r hM 30 1 (pc2 := 58) (L2 := [some (.ref 0), none, none]) (st2 := [.int (1 : Int32)]) (μ2 := (hRT G8)) rfl trivial ?_
  cases h
  exact js_zret hM.1 hp hM.2.2.2.2.2.2.2.1 rfl (by rw [hM.2.2.2.2.2.1]; exact Nat.le_of_ble_eq_true rfl) (by rw [hM.2.2.2.2.2.2.1]; exact Nat.le_of_ble_eq_true rfl) (jat hM.2.1 31 rfl) hq
set_option maxHeartbeats 4000000 in
set_option maxRecDepth 100000 in
theorem t_X2_begins_b47 {X : jX} {po : Option Value → jH → Prop} {px : String → jH → Prop} {sf : Bool} {B9 : Nat} (hM : jMX X kX2_begins RX2 tbX2 3 ⟨2, 0, 0, 42⟩ (some .boolean) 12) (hp : jPost X sf B9 po px) (N : Nat) {res : Int32 × (Nat → Nat → Int32)} (G : Nat → Nat → Int32) (h : p_X2_begins_b47 N G = some res) (hq : po (some (.int res.1)) (hRT res.2)) : JW X 0 0 47 [some (.ref 0), none, none] [] (hRT G) := by
  unfold p_X2_begins_b47 at h
  refine JW.r hM 24 2 (pc2 := 49) (L2 := [some (.ref 0), none, none]) (st2 := [.int (4 : Int32), .ref 0]) (μ2 := (hRT G)) rfl trivial ?_
  obtain ⟨v11, hv10, h⟩ := jbd h
  refine JW.cV (v := some (.int v11.1)) hM (m_X2_fails (jVX X) hM.1.2.2.2.2.2.2.2.2.2.1 N (jvw G 0) (4 : Int32) v11 hv10) (sb_RT_Rd_0 G) (bk_RT_Rd_0 G v11.2) rfl rfl rfl kc_X2_80 rfl rfl rfl rfl rfl (jat hM.2.1 26 rfl) (st := []) rfl ?_
  show JW X 0 0 52 [some (.ref 0), none, none] [.int v11.1] (hRT (jpt G 0 2 v11.2))
  obtain ⟨G12, e13, h⟩ := jlE h
  rw [e13]
  obtain ⟨g14, h⟩ := jg h
  cases h
  exact js_zret hM.1 hp hM.2.2.2.2.2.2.2.1 g14 (by rw [hM.2.2.2.2.2.1]; exact Nat.le_of_ble_eq_true rfl) (by rw [hM.2.2.2.2.2.2.1]; exact Nat.le_of_ble_eq_true rfl) (jat hM.2.1 27 rfl) hq
set_option maxHeartbeats 4000000 in
set_option maxRecDepth 100000 in
theorem t_X2_begins_b33 {X : jX} {po : Option Value → jH → Prop} {px : String → jH → Prop} {sf : Bool} {B9 : Nat} (hM : jMX X kX2_begins RX2 tbX2 3 ⟨2, 0, 0, 42⟩ (some .boolean) 12) (hp : jPost X sf B9 po px) (N : Nat) {res : Int32 × (Nat → Nat → Int32)} (G : Nat → Nat → Int32) (x1 : Int32) (h : p_X2_begins_b33 N G x1 = some res) (hq : po (some (.int res.1)) (hRT res.2)) : JW X 0 0 33 [some (.ref 0), some (.int x1), some (.ref 2)] [] (hRT G) := by
  unfold p_X2_begins_b33 at h
  refine JW.r hM 17 2 (pc2 := 35) (L2 := [some (.ref 0), some (.int x1), some (.ref 2)]) (st2 := [.int (2 : Int32), .int x1]) (μ2 := (hRT G)) rfl trivial ?_
  refine js_icne (t := 53) hM.1 (jat hM.2.1 19 rfl) rfl (fun hc16 => ?_) (fun hc16 => ?_)
  · have h := (if_neg hc16).symm.trans h
    exact JW.mask [true, false, false] (t_X2_begins_b53 hM hp N G h hq)
  · have h := (if_pos hc16).symm.trans h
    refine JW.r hM 20 3 (pc2 := 44) (L2 := [some (.ref 0), some (.int x1), some (.ref 2)]) (st2 := [.int (10 : Int32), .int (G 2 2)]) (μ2 := (hRT G)) rfl trivial ?_
    refine js_icne (t := 53) hM.1 (jat hM.2.1 23 rfl) rfl (fun hc15 => ?_) (fun hc15 => ?_)
    · have h := (if_neg hc15).symm.trans h
      exact JW.mask [true, false, false] (t_X2_begins_b53 hM hp N G h hq)
    · have h := (if_pos hc15).symm.trans h
      exact JW.mask [true, false, false] (t_X2_begins_b47 hM hp N G h hq)
set_option maxHeartbeats 4000000 in
set_option maxRecDepth 100000 in
theorem t_X2_begins_b22 {X : jX} {po : Option Value → jH → Prop} {px : String → jH → Prop} {sf : Bool} {B9 : Nat} (hM : jMX X kX2_begins RX2 tbX2 3 ⟨2, 0, 0, 42⟩ (some .boolean) 12) (hp : jPost X sf B9 po px) (N : Nat) {res : Int32 × (Nat → Nat → Int32)} (G : Nat → Nat → Int32) (x1 : Int32) (h : p_X2_begins_b22 N G x1 = some res) (hq : po (some (.int res.1)) (hRT res.2)) : JW X 0 0 22 [some (.ref 0), some (.int x1), some (.ref 2)] [] (hRT G) := by
  unfold p_X2_begins_b22 at h
  refine JW.r hM 12 1 (pc2 := 23) (L2 := [some (.ref 0), some (.int x1), some (.ref 2)]) (st2 := [.int x1]) (μ2 := (hRT G)) rfl trivial ?_
  refine js_ifne (t := 33) hM.1 (jat hM.2.1 13 rfl) rfl (fun hc18 => ?_) (fun hc18 => ?_)
  · have h := (if_neg hc18).symm.trans h
    exact t_X2_begins_b33 hM hp N G x1 h hq
  · have h := (if_pos hc18).symm.trans h
    refine JW.r hM 14 2 (pc2 := 30) (L2 := [some (.ref 0), some (.int x1), some (.ref 2)]) (st2 := [.int (G 2 1)]) (μ2 := (hRT G)) rfl trivial ?_
    refine js_ifgt (t := 47) hM.1 (jat hM.2.1 16 rfl) rfl (fun hc17 => ?_) (fun hc17 => ?_)
    · have h := (if_pos hc17).symm.trans h
      exact JW.mask [true, false, false] (t_X2_begins_b47 hM hp N G h hq)
    · have h := (if_neg hc17).symm.trans h
      exact t_X2_begins_b33 hM hp N G x1 h hq
set_option maxHeartbeats 4000000 in
set_option maxRecDepth 100000 in
theorem t_X2_begins {X : jX} {po : Option Value → jH → Prop} {px : String → jH → Prop} {sf : Bool} {B9 : Nat} (hM : jMX X kX2_begins RX2 tbX2 3 ⟨2, 0, 0, 42⟩ (some .boolean) 12) (hp : jPost X sf B9 po px) (N : Nat) (G : Nat → Nat → Int32) (p0 : Int32) {res : Int32 × (Nat → Nat → Int32)} (h : p_X2_begins N G p0 = some res) (hq : po (some (.int res.1)) (hRT res.2)) : JW X 0 0 0 [some (.ref 0), some (.int p0), some (.ref 2)] [] (hRT G) := by
  unfold p_X2_begins at h
  refine JW.r hM 0 2 (pc2 := 2) (L2 := [some (.ref 0), some (.int p0), some (.ref 2)]) (st2 := [.int (-1 : Int32), .int p0]) (μ2 := (hRT G)) rfl trivial ?_
  refine js_iceq (t := 16) hM.1 (jat hM.2.1 2 rfl) rfl (fun hc21 => ?_) (fun hc21 => ?_)
  · have h := (if_pos hc21).symm.trans h
    exact JW.mask [true, false, false] (t_X2_begins_b16 hM hp N G h hq)
  · have h := (if_neg hc21).symm.trans h
    refine JW.r hM 3 1 (pc2 := 6) (L2 := [some (.ref 0), some (.int p0), some (.ref 2)]) (st2 := [.int p0]) (μ2 := (hRT G)) rfl trivial ?_
    refine js_ifeq (t := 22) hM.1 (jat hM.2.1 4 rfl) rfl (fun hc20 => ?_) (fun hc20 => ?_)
    · have h := (if_pos hc20).symm.trans h
      exact t_X2_begins_b22 hM hp N G p0 h hq
    · have h := (if_neg hc20).symm.trans h
      refine JW.r hM 5 2 (pc2 := 13) (L2 := [some (.ref 0), some (.int p0), some (.ref 2)]) (st2 := [.int (G 2 1)]) (μ2 := (hRT G)) rfl trivial ?_
      refine js_ifne (t := 22) hM.1 (jat hM.2.1 7 rfl) rfl (fun hc19 => ?_) (fun hc19 => ?_)
      · have h := (if_neg hc19).symm.trans h
        exact t_X2_begins_b22 hM hp N G p0 h hq
      · have h := (if_pos hc19).symm.trans h
        exact JW.mask [true, false, false] (t_X2_begins_b16 hM hp N G h hq)
theorem m_X2_begins (V : jV) (hV : V.1.stackTraces = false) (N : Nat) (G : Nat → Nat → Int32) (p0 : Int32) (v : Int32 × (Nat → Nat → Int32)) (h : p_X2_begins N G p0 = some v) : jMet V yX2_begins (jws yX2_begins cX2_begins 3 (some .boolean)) ⟨2, 0, 0, 42⟩ true 1 [.ref 0, .int p0, .ref 2] (hRT G) (fun o ν => o = some (.int v.1) ∧ ν = (hRT v.2)) (fun _ _ => False) := by
  refine jmk (tb := tbX2) (C := kX2_begins) hV rfl (by decide) tbX2_ok rfl kX2_begins_ok rfl ?_
  intro X hM _ hp _
  exact t_X2_begins hM hp N G p0 h ⟨rfl, rfl⟩
def p_X2_takes_b30 (N : Nat) (G : Nat → Nat → Int32) : Option (Int32 × (Nat → Nat → Int32)) :=
  (p_X2_fails N G (3 : Int32)).bind (fun v2 => jlt v2.2 fun G3 => if jz v2.1 = true then some (v2.1, G3) else none)
def p_X2_takes (N : Nat) (G : Nat → Nat → Int32) (p0 : Int32) (p1 : Int32) : Option (Int32 × (Nat → Nat → Int32)) :=
  if (G 0 5) = (3 : Int32) then (if (G 0 8) < p0 then (p_X2_takes_b30 N G) else (if (G 0 8) ≤ p1 then (jlt (jup G 0 9 (G 0 8)) fun G6 => (p_X2_next N G6).bind (fun v9 => jlt v9 fun G10 => some ((1 : Int32), G10))) else (p_X2_takes_b30 N G))) else ((p_X2_fails N G (2 : Int32)).bind (fun v15 => jlt v15.2 fun G16 => if jz v15.1 = true then some (v15.1, G16) else none))
set_option maxHeartbeats 4000000 in
set_option maxRecDepth 100000 in
theorem t_X2_takes_b30 {X : jX} {po : Option Value → jH → Prop} {px : String → jH → Prop} {sf : Bool} {B9 : Nat} (hM : jMX X kX2_takes RX2 tbX2 3 ⟨2, 0, 0, 42⟩ (some .boolean) 3) (hp : jPost X sf B9 po px) (N : Nat) {res : Int32 × (Nat → Nat → Int32)} (G : Nat → Nat → Int32) (h : p_X2_takes_b30 N G = some res) (hq : po (some (.int res.1)) (hRd res.2)) : JW X 0 0 30 [some (.ref 0), none, none] [] (hRd G) := by
  unfold p_X2_takes_b30 at h
  refine JW.r hM 16 2 (pc2 := 32) (L2 := [some (.ref 0), none, none]) (st2 := [.int (3 : Int32), .ref 0]) (μ2 := (hRd G)) rfl trivial ?_
  obtain ⟨v2, hv1, h⟩ := jbd h
  refine JW.cV (v := some (.int v2.1)) hM (m_X2_fails (jVX X) hM.1.2.2.2.2.2.2.2.2.2.1 N G (3 : Int32) v2 hv1) (sb_Rd_Rd_0 G) (bk_Rd_Rd_0 G v2.2) rfl rfl rfl kc_X2_80 rfl rfl rfl rfl rfl (jat hM.2.1 18 rfl) (st := []) rfl ?_
  show JW X 0 0 35 [some (.ref 0), none, none] [.int v2.1] (hRd v2.2)
  obtain ⟨G3, e4, h⟩ := jlE h
  rw [e4]
  obtain ⟨g5, h⟩ := jg h
  cases h
  exact js_zret hM.1 hp hM.2.2.2.2.2.2.2.1 g5 (by rw [hM.2.2.2.2.2.1]; exact Nat.le_of_ble_eq_true rfl) (by rw [hM.2.2.2.2.2.2.1]; exact Nat.le_of_ble_eq_true rfl) (jat hM.2.1 19 rfl) hq
set_option maxHeartbeats 4000000 in
set_option maxRecDepth 100000 in
theorem t_X2_takes {X : jX} {po : Option Value → jH → Prop} {px : String → jH → Prop} {sf : Bool} {B9 : Nat} (hM : jMX X kX2_takes RX2 tbX2 3 ⟨2, 0, 0, 42⟩ (some .boolean) 3) (hp : jPost X sf B9 po px) (N : Nat) (G : Nat → Nat → Int32) (p0 : Int32) (p1 : Int32) {res : Int32 × (Nat → Nat → Int32)} (h : p_X2_takes N G p0 p1 = some res) (hq : po (some (.int res.1)) (hRd res.2)) : JW X 0 0 0 [some (.ref 0), some (.int p0), some (.int p1)] [] (hRd G) := by
  unfold p_X2_takes at h
  refine JW.r hM 0 3 (pc2 := 5) (L2 := [some (.ref 0), some (.int p0), some (.int p1)]) (st2 := [.int (3 : Int32), .int (G 0 5)]) (μ2 := (hRd G)) rfl trivial ?_
  refine js_iceq (t := 14) hM.1 (jat hM.2.1 3 rfl) rfl (fun hc19 => ?_) (fun hc19 => ?_)
  · have h := (if_pos hc19).symm.trans h
    refine JW.r hM 8 3 (pc2 := 19) (L2 := [some (.ref 0), some (.int p0), some (.int p1)]) (st2 := [.int p0, .int (G 0 8)]) (μ2 := (hRd G)) rfl trivial ?_
    refine js_iclt (t := 30) hM.1 (jat hM.2.1 11 rfl) rfl (fun hc13 => ?_) (fun hc13 => ?_)
    · have h := (if_pos hc13).symm.trans h
      exact JW.mask [true, false, false] (t_X2_takes_b30 hM hp N G h hq)
    · have h := (if_neg hc13).symm.trans h
      refine JW.r hM 12 3 (pc2 := 27) (L2 := [some (.ref 0), some (.int p0), some (.int p1)]) (st2 := [.int p1, .int (G 0 8)]) (μ2 := (hRd G)) rfl trivial ?_
      refine js_icle (t := 36) hM.1 (jat hM.2.1 15 rfl) rfl (fun hc12 => ?_) (fun hc12 => ?_)
      · have h := (if_pos hc12).symm.trans h
        obtain ⟨G6, e7, h⟩ := jlE h
        refine JW.r hM 20 4 (pc2 := 44) (L2 := [some (.ref 0), some (.int p0), some (.int p1)]) (st2 := []) (μ2 := (hRd (jup G 0 9 (G 0 8)))) rfl trivial ?_
        rw [e7]
        refine JW.r hM 24 1 (pc2 := 45) (L2 := [some (.ref 0), some (.int p0), some (.int p1)]) (st2 := [.ref 0]) (μ2 := (hRd G6)) rfl trivial ?_
        obtain ⟨v9, hv8, h⟩ := jbd h
        refine JW.cV (v := none) hM (m_X2_next (jVX X) hM.1.2.2.2.2.2.2.2.2.2.1 N G6 v9 hv8) (sb_Rd_Rd_0 G6) (bk_Rd_Rd_0 G6 v9) rfl rfl rfl kc_X2_36 rfl rfl rfl rfl rfl (jat hM.2.1 25 rfl) (st := []) rfl ?_
        show JW X 0 0 48 [some (.ref 0), some (.int p0), some (.int p1)] [] (hRd v9)
        obtain ⟨G10, e11, h⟩ := jlE h
        rw [e11]
        refine JW.r hM 26 1 (pc2 := 49) (L2 := [some (.ref 0), some (.int p0), some (.int p1)]) (st2 := [.int (1 : Int32)]) (μ2 := (hRd G10)) rfl trivial ?_
        cases h
        exact js_zret hM.1 hp hM.2.2.2.2.2.2.2.1 rfl (by rw [hM.2.2.2.2.2.1]; exact Nat.le_of_ble_eq_true rfl) (by rw [hM.2.2.2.2.2.2.1]; exact Nat.le_of_ble_eq_true rfl) (jat hM.2.1 27 rfl) hq
      · have h := (if_neg hc12).symm.trans h
        exact JW.mask [true, false, false] (t_X2_takes_b30 hM hp N G h hq)
  · have h := (if_neg hc19).symm.trans h
    refine JW.r hM 4 2 (pc2 := 10) (L2 := [some (.ref 0), some (.int p0), some (.int p1)]) (st2 := [.int (2 : Int32), .ref 0]) (μ2 := (hRd G)) rfl trivial ?_
    obtain ⟨v15, hv14, h⟩ := jbd h
    refine JW.cV (v := some (.int v15.1)) hM (m_X2_fails (jVX X) hM.1.2.2.2.2.2.2.2.2.2.1 N G (2 : Int32) v15 hv14) (sb_Rd_Rd_0 G) (bk_Rd_Rd_0 G v15.2) rfl rfl rfl kc_X2_80 rfl rfl rfl rfl rfl (jat hM.2.1 6 rfl) (st := []) rfl ?_
    show JW X 0 0 13 [some (.ref 0), some (.int p0), some (.int p1)] [.int v15.1] (hRd v15.2)
    obtain ⟨G16, e17, h⟩ := jlE h
    rw [e17]
    obtain ⟨g18, h⟩ := jg h
    cases h
    exact js_zret hM.1 hp hM.2.2.2.2.2.2.2.1 g18 (by rw [hM.2.2.2.2.2.1]; exact Nat.le_of_ble_eq_true rfl) (by rw [hM.2.2.2.2.2.2.1]; exact Nat.le_of_ble_eq_true rfl) (jat hM.2.1 7 rfl) hq
theorem m_X2_takes (V : jV) (hV : V.1.stackTraces = false) (N : Nat) (G : Nat → Nat → Int32) (p0 : Int32) (p1 : Int32) (v : Int32 × (Nat → Nat → Int32)) (h : p_X2_takes N G p0 p1 = some v) : jMet V yX2_takes (jws yX2_takes cX2_takes 3 (some .boolean)) ⟨2, 0, 0, 42⟩ true 1 [.ref 0, .int p0, .int p1] (hRd G) (fun o ν => o = some (.int v.1) ∧ ν = (hRd v.2)) (fun _ _ => False) := by
  refine jmk (tb := tbX2) (C := kX2_takes) hV rfl (by decide) tbX2_ok rfl kX2_takes_ok rfl ?_
  intro X hM _ hp _
  exact t_X2_takes hM hp N G p0 p1 h ⟨rfl, rfl⟩
def p_X2_readPeople (N : Nat) (G : Nat → Nat → Int32) : Option (Int32 × (Nat → Nat → Int32)) :=
  (p_X2_takes N (jvw G 0) (1 : Int32) (6 : Int32)).bind (fun v2 => jlt (jpt G 0 2 v2.2) fun G3 => if v2.1 = 0 then (some ((0 : Int32), G3)) else (jlt (jup G3 2 1 (G3 0 9)) fun G5 => some ((1 : Int32), G5)))
set_option maxHeartbeats 4000000 in
set_option maxRecDepth 100000 in
theorem t_X2_readPeople {X : jX} {po : Option Value → jH → Prop} {px : String → jH → Prop} {sf : Bool} {B9 : Nat} (hM : jMX X kX2_readPeople RX2 tbX2 2 ⟨3, 0, 0, 64⟩ (some .boolean) 12) (hp : jPost X sf B9 po px) (N : Nat) (G : Nat → Nat → Int32) {res : Int32 × (Nat → Nat → Int32)} (h : p_X2_readPeople N G = some res) (hq : po (some (.int res.1)) (hRT res.2)) : JW X 0 0 0 [some (.ref 0), some (.ref 2)] [] (hRT G) := by
  unfold p_X2_readPeople at h
  refine JW.r hM 0 3 (pc2 := 4) (L2 := [some (.ref 0), some (.ref 2)]) (st2 := [.int (6 : Int32), .int (1 : Int32), .ref 0]) (μ2 := (hRT G)) rfl trivial ?_
  obtain ⟨v2, hv1, h⟩ := jbd h
  refine JW.cV (v := some (.int v2.1)) hM (m_X2_takes (jVX X) hM.1.2.2.2.2.2.2.2.2.2.1 N (jvw G 0) (1 : Int32) (6 : Int32) v2 hv1) (sb_RT_Rd_0 G) (bk_RT_Rd_0 G v2.2) rfl rfl rfl kc_X2_109 rfl rfl rfl rfl rfl (jat hM.2.1 3 rfl) (st := []) rfl ?_
  show JW X 0 0 7 [some (.ref 0), some (.ref 2)] [.int v2.1] (hRT (jpt G 0 2 v2.2))
  obtain ⟨G3, e4, h⟩ := jlE h
  rw [e4]
  refine js_ifne (t := 12) hM.1 (jat hM.2.1 4 rfl) rfl (fun hc7 => ?_) (fun hc7 => ?_)
  · have h := (if_neg hc7).symm.trans h
    obtain ⟨G5, e6, h⟩ := jlE h
    refine JW.r hM 7 4 (pc2 := 20) (L2 := [some (.ref 0), some (.ref 2)]) (st2 := []) (μ2 := (hRT (jup G3 2 1 (G3 0 9)))) rfl trivial ?_
    rw [e6]
    refine JW.r hM 11 1 (pc2 := 21) (L2 := [some (.ref 0), some (.ref 2)]) (st2 := [.int (1 : Int32)]) (μ2 := (hRT G5)) rfl trivial ?_
    cases h
    exact js_zret hM.1 hp hM.2.2.2.2.2.2.2.1 rfl (by rw [hM.2.2.2.2.2.1]; exact Nat.le_of_ble_eq_true rfl) (by rw [hM.2.2.2.2.2.2.1]; exact Nat.le_of_ble_eq_true rfl) (jat hM.2.1 12 rfl) hq
  · have h := (if_pos hc7).symm.trans h
    refine JW.r hM 5 1 (pc2 := 11) (L2 := [some (.ref 0), some (.ref 2)]) (st2 := [.int (0 : Int32)]) (μ2 := (hRT G3)) rfl trivial ?_
    cases h
    exact js_zret hM.1 hp hM.2.2.2.2.2.2.2.1 rfl (by rw [hM.2.2.2.2.2.1]; exact Nat.le_of_ble_eq_true rfl) (by rw [hM.2.2.2.2.2.2.1]; exact Nat.le_of_ble_eq_true rfl) (jat hM.2.1 6 rfl) hq
theorem m_X2_readPeople (V : jV) (hV : V.1.stackTraces = false) (N : Nat) (G : Nat → Nat → Int32) (v : Int32 × (Nat → Nat → Int32)) (h : p_X2_readPeople N G = some v) : jMet V yX2_readPeople (jws yX2_readPeople cX2_readPeople 2 (some .boolean)) ⟨3, 0, 0, 64⟩ true 1 [.ref 0, .ref 2] (hRT G) (fun o ν => o = some (.int v.1) ∧ ν = (hRT v.2)) (fun _ _ => False) := by
  refine jmk (tb := tbX2) (C := kX2_readPeople) hV rfl (by decide) tbX2_ok rfl kX2_readPeople_ok rfl ?_
  intro X hM _ hp _
  exact t_X2_readPeople hM hp N G h ⟨rfl, rfl⟩
def p_X2_readCoins (N : Nat) (G : Nat → Nat → Int32) : Option (Int32 × (Nat → Nat → Int32)) :=
  (p_X2_takes N (jvw G 0) (0 : Int32) ((G 2 1) - (1 : Int32))).bind (fun v2 => jlt (jpt G 0 2 v2.2) fun G3 => if v2.1 = 0 then (some ((0 : Int32), G3)) else ((p_X2_takes N (jvw G3 0) (0 : Int32) (9999 : Int32)).bind (fun v6 => jlt (jpt G3 0 2 v6.2) fun G7 => if v6.1 = 0 then (some ((0 : Int32), G7)) else (if jin (G3 0 9) 6 = true then jlt (jup G7 3 (G3 0 9).toNatClampNeg (G7 0 9)) fun G10 => some ((1 : Int32), G10) else none))))
set_option maxHeartbeats 4000000 in
set_option maxRecDepth 100000 in
theorem t_X2_readCoins {X : jX} {po : Option Value → jH → Prop} {px : String → jH → Prop} {sf : Bool} {B9 : Nat} (hM : jMX X kX2_readCoins RX2 tbX2 3 ⟨3, 0, 0, 64⟩ (some .boolean) 12) (hp : jPost X sf B9 po px) (N : Nat) (G : Nat → Nat → Int32) {res : Int32 × (Nat → Nat → Int32)} (h : p_X2_readCoins N G = some res) (hq : po (some (.int res.1)) (hRT res.2)) : JW X 0 0 0 [some (.ref 0), some (.ref 2), none] [] (hRT G) := by
  unfold p_X2_readCoins at h
  refine JW.r hM 0 6 (pc2 := 8) (L2 := [some (.ref 0), some (.ref 2), none]) (st2 := [.int ((G 2 1) - (1 : Int32)), .int (0 : Int32), .ref 0]) (μ2 := (hRT G)) rfl trivial ?_
  obtain ⟨v2, hv1, h⟩ := jbd h
  refine JW.cV (v := some (.int v2.1)) hM (m_X2_takes (jVX X) hM.1.2.2.2.2.2.2.2.2.2.1 N (jvw G 0) (0 : Int32) ((G 2 1) - (1 : Int32)) v2 hv1) (sb_RT_Rd_0 G) (bk_RT_Rd_0 G v2.2) rfl rfl rfl kc_X2_109 rfl rfl rfl rfl rfl (jat hM.2.1 6 rfl) (st := []) rfl ?_
  show JW X 0 0 11 [some (.ref 0), some (.ref 2), none] [.int v2.1] (hRT (jpt G 0 2 v2.2))
  obtain ⟨G3, e4, h⟩ := jlE h
  rw [e4]
  refine js_ifne (t := 16) hM.1 (jat hM.2.1 7 rfl) rfl (fun hc13 => ?_) (fun hc13 => ?_)
  · have h := (if_neg hc13).symm.trans h
    refine JW.r hM 10 6 (pc2 := 26) (L2 := [some (.ref 0), some (.ref 2), some (.int (G3 0 9))]) (st2 := [.int (9999 : Int32), .int (0 : Int32), .ref 0]) (μ2 := (hRT G3)) rfl trivial ?_
    obtain ⟨v6, hv5, h⟩ := jbd h
    refine JW.cV (v := some (.int v6.1)) hM (m_X2_takes (jVX X) hM.1.2.2.2.2.2.2.2.2.2.1 N (jvw G3 0) (0 : Int32) (9999 : Int32) v6 hv5) (sb_RT_Rd_0 G3) (bk_RT_Rd_0 G3 v6.2) rfl rfl rfl kc_X2_109 rfl rfl rfl rfl rfl (jat hM.2.1 16 rfl) (st := []) rfl ?_
    show JW X 0 0 29 [some (.ref 0), some (.ref 2), some (.int (G3 0 9))] [.int v6.1] (hRT (jpt G3 0 2 v6.2))
    obtain ⟨G7, e8, h⟩ := jlE h
    rw [e8]
    refine js_ifne (t := 34) hM.1 (jat hM.2.1 17 rfl) rfl (fun hc12 => ?_) (fun hc12 => ?_)
    · have h := (if_neg hc12).symm.trans h
      obtain ⟨g9, h⟩ := jg h
      obtain ⟨G10, e11, h⟩ := jlE h
      refine JW.r hM 20 6 (pc2 := 44) (L2 := [some (.ref 0), some (.ref 2), some (.int (G3 0 9))]) (st2 := []) (μ2 := (hRT (jup G7 3 (G3 0 9).toNatClampNeg (G7 0 9)))) rfl ⟨g9, trivial⟩ ?_
      rw [e11]
      refine JW.r hM 26 1 (pc2 := 45) (L2 := [some (.ref 0), some (.ref 2), some (.int (G3 0 9))]) (st2 := [.int (1 : Int32)]) (μ2 := (hRT G10)) rfl trivial ?_
      cases h
      exact js_zret hM.1 hp hM.2.2.2.2.2.2.2.1 rfl (by rw [hM.2.2.2.2.2.1]; exact Nat.le_of_ble_eq_true rfl) (by rw [hM.2.2.2.2.2.2.1]; exact Nat.le_of_ble_eq_true rfl) (jat hM.2.1 27 rfl) hq
    · have h := (if_pos hc12).symm.trans h
      refine JW.r hM 18 1 (pc2 := 33) (L2 := [some (.ref 0), some (.ref 2), some (.int (G3 0 9))]) (st2 := [.int (0 : Int32)]) (μ2 := (hRT G7)) rfl trivial ?_
      cases h
      exact js_zret hM.1 hp hM.2.2.2.2.2.2.2.1 rfl (by rw [hM.2.2.2.2.2.1]; exact Nat.le_of_ble_eq_true rfl) (by rw [hM.2.2.2.2.2.2.1]; exact Nat.le_of_ble_eq_true rfl) (jat hM.2.1 19 rfl) hq
  · have h := (if_pos hc13).symm.trans h
    refine JW.r hM 8 1 (pc2 := 15) (L2 := [some (.ref 0), some (.ref 2), none]) (st2 := [.int (0 : Int32)]) (μ2 := (hRT G3)) rfl trivial ?_
    cases h
    exact js_zret hM.1 hp hM.2.2.2.2.2.2.2.1 rfl (by rw [hM.2.2.2.2.2.1]; exact Nat.le_of_ble_eq_true rfl) (by rw [hM.2.2.2.2.2.2.1]; exact Nat.le_of_ble_eq_true rfl) (jat hM.2.1 9 rfl) hq
theorem m_X2_readCoins (V : jV) (hV : V.1.stackTraces = false) (N : Nat) (G : Nat → Nat → Int32) (v : Int32 × (Nat → Nat → Int32)) (h : p_X2_readCoins N G = some v) : jMet V yX2_readCoins (jws yX2_readCoins cX2_readCoins 3 (some .boolean)) ⟨3, 0, 0, 64⟩ true 1 [.ref 0, .ref 2] (hRT G) (fun o ν => o = some (.int v.1) ∧ ν = (hRT v.2)) (fun _ _ => False) := by
  refine jmk (tb := tbX2) (C := kX2_readCoins) hV rfl (by decide) tbX2_ok rfl kX2_readCoins_ok rfl ?_
  intro X hM _ hp _
  exact t_X2_readCoins hM hp N G h ⟨rfl, rfl⟩
def p_X2_readThing_b113 (N : Nat) (G : Nat → Nat → Int32) (s0 : Int32) : Option (Int32 × (Nat → Nat → Int32)) :=
  (p_X2_fails N (jvw G 0) s0).bind (fun v11 => jlt (jpt G 0 2 v11.2) fun G12 => if v11.1 = 0 then (some ((0 : Int32), G12)) else (some ((1 : Int32), G12)))
def p_X2_readThing_b79 (N : Nat) (G : Nat → Nat → Int32) : Option (Int32 × (Nat → Nat → Int32)) :=
  jlt (jup G 2 2 ((G 2 2) + (1 : Int32))) fun G8 => if (G8 0 5) = (3 : Int32) then (if (G8 0 8) ≤ (999 : Int32) then (p_X2_readThing_b113 N G8 (4 : Int32)) else (p_X2_readThing_b113 N G8 (3 : Int32))) else (some ((1 : Int32), G8))
def p_X2_readThing_b31 (N : Nat) : Nat → (Nat → Nat → Int32) → (Int32) → Option (Int32 × (Nat → Nat → Int32))
  | 0, _, _ => none
  | n + 1, G, x2 => if (G 2 1) ≤ x2 then (p_X2_readThing_b79 N G) else (if (G 0 5) = (3 : Int32) then ((p_X2_takes N (jvw G 0) (0 : Int32) (999 : Int32)).bind (fun v18 => jlt (jpt G 0 2 v18.2) fun G19 => if v18.1 = 0 then (some ((0 : Int32), G19)) else ((p_X3_setWorth N (jvw G19 2) (G19 2 2) x2 (G19 0 9)).bind (fun v22 => jlt (jpt G19 2 9 v22) fun G23 => (p_X2_readThing_b31 N n) G23 (x2 + 1))))) else (p_X2_readThing_b79 N G))
def p_X2_readThing (N : Nat) (G : Nat → Nat → Int32) : Option (Int32 × (Nat → Nat → Int32)) :=
  (p_X2_takes N (jvw G 0) (0 : Int32) ((G 2 1) - (1 : Int32))).bind (fun v2 => jlt (jpt G 0 2 v2.2) fun G3 => if v2.1 = 0 then (some ((0 : Int32), G3)) else (if jin (G3 2 2) 10 = true then jlt (jup G3 4 (G3 2 2).toNatClampNeg (G3 0 9)) fun G6 => p_X2_readThing_b31 N N G6 (0 : Int32) else none))
set_option maxHeartbeats 4000000 in
set_option maxRecDepth 100000 in
theorem t_X2_readThing_b113 {X : jX} {po : Option Value → jH → Prop} {px : String → jH → Prop} {sf : Bool} {B9 : Nat} (hM : jMX X kX2_readThing RX2 tbX2 3 ⟨3, 0, 0, 64⟩ (some .boolean) 12) (hp : jPost X sf B9 po px) (N : Nat) {res : Int32 × (Nat → Nat → Int32)} (G : Nat → Nat → Int32) (s0 : Int32) (h : p_X2_readThing_b113 N G s0 = some res) (hq : po (some (.int res.1)) (hRT res.2)) : JW X 0 0 113 [none, none, none] [.int s0, .ref 0] (hRT G) := by
  unfold p_X2_readThing_b113 at h
  obtain ⟨v11, hv10, h⟩ := jbd h
  refine JW.cV (v := some (.int v11.1)) hM (m_X2_fails (jVX X) hM.1.2.2.2.2.2.2.2.2.2.1 N (jvw G 0) s0 v11 hv10) (sb_RT_Rd_0 G) (bk_RT_Rd_0 G v11.2) rfl rfl rfl kc_X2_80 rfl rfl rfl rfl rfl (jat hM.2.1 61 rfl) (st := []) rfl ?_
  show JW X 0 0 116 [none, none, none] [.int v11.1] (hRT (jpt G 0 2 v11.2))
  obtain ⟨G12, e13, h⟩ := jlE h
  rw [e13]
  refine js_ifeq (t := 123) hM.1 (jat hM.2.1 62 rfl) rfl (fun hc14 => ?_) (fun hc14 => ?_)
  · have h := (if_pos hc14).symm.trans h
    refine JW.r hM 65 1 (pc2 := 124) (L2 := [none, none, none]) (st2 := [.int (0 : Int32)]) (μ2 := (hRT G12)) rfl trivial ?_
    cases h
    exact js_zret hM.1 hp hM.2.2.2.2.2.2.2.1 rfl (by rw [hM.2.2.2.2.2.1]; exact Nat.le_of_ble_eq_true rfl) (by rw [hM.2.2.2.2.2.2.1]; exact Nat.le_of_ble_eq_true rfl) (jat hM.2.1 66 rfl) hq
  · have h := (if_neg hc14).symm.trans h
    refine JW.r hM 63 2 (pc2 := 124) (L2 := [none, none, none]) (st2 := [.int (1 : Int32)]) (μ2 := (hRT G12)) rfl trivial ?_
    cases h
    exact js_zret hM.1 hp hM.2.2.2.2.2.2.2.1 rfl (by rw [hM.2.2.2.2.2.1]; exact Nat.le_of_ble_eq_true rfl) (by rw [hM.2.2.2.2.2.2.1]; exact Nat.le_of_ble_eq_true rfl) (jat hM.2.1 66 rfl) hq
set_option maxHeartbeats 4000000 in
set_option maxRecDepth 100000 in
theorem t_X2_readThing_b79 {X : jX} {po : Option Value → jH → Prop} {px : String → jH → Prop} {sf : Bool} {B9 : Nat} (hM : jMX X kX2_readThing RX2 tbX2 3 ⟨3, 0, 0, 64⟩ (some .boolean) 12) (hp : jPost X sf B9 po px) (N : Nat) {res : Int32 × (Nat → Nat → Int32)} (G : Nat → Nat → Int32) (h : p_X2_readThing_b79 N G = some res) (hq : po (some (.int res.1)) (hRT res.2)) : JW X 0 0 79 [some (.ref 0), some (.ref 2), none] [] (hRT G) := by
  unfold p_X2_readThing_b79 at h
  obtain ⟨G8, e9, h⟩ := jlE h
  refine JW.r hM 43 6 (pc2 := 89) (L2 := [some (.ref 0), some (.ref 2), none]) (st2 := []) (μ2 := (hRT (jup G 2 2 ((G 2 2) + (1 : Int32))))) rfl trivial ?_
  rw [e9]
  refine JW.r hM 49 3 (pc2 := 94) (L2 := [some (.ref 0), some (.ref 2), none]) (st2 := [.int (3 : Int32), .int (G8 0 5)]) (μ2 := (hRT G8)) rfl trivial ?_
  refine js_icne (t := 119) hM.1 (jat hM.2.1 52 rfl) rfl (fun hc16 => ?_) (fun hc16 => ?_)
  · have h := (if_neg hc16).symm.trans h
    refine JW.r hM 63 2 (pc2 := 124) (L2 := [some (.ref 0), some (.ref 2), none]) (st2 := [.int (1 : Int32)]) (μ2 := (hRT G8)) rfl trivial ?_
    cases h
    exact js_zret hM.1 hp hM.2.2.2.2.2.2.2.1 rfl (by rw [hM.2.2.2.2.2.1]; exact Nat.le_of_ble_eq_true rfl) (by rw [hM.2.2.2.2.2.2.1]; exact Nat.le_of_ble_eq_true rfl) (jat hM.2.1 66 rfl) hq
  · have h := (if_pos hc16).symm.trans h
    refine JW.r hM 53 4 (pc2 := 105) (L2 := [some (.ref 0), some (.ref 2), none]) (st2 := [.int (999 : Int32), .int (G8 0 8), .ref 0]) (μ2 := (hRT G8)) rfl trivial ?_
    refine js_icle (t := 112) hM.1 (jat hM.2.1 57 rfl) rfl (fun hc15 => ?_) (fun hc15 => ?_)
    · have h := (if_pos hc15).symm.trans h
      refine JW.r hM 60 1 (pc2 := 113) (L2 := [some (.ref 0), some (.ref 2), none]) (st2 := [.int (4 : Int32), .ref 0]) (μ2 := (hRT G8)) rfl trivial ?_
      exact JW.mask [false, false, false] (t_X2_readThing_b113 hM hp N G8 (4 : Int32) h hq)
    · have h := (if_neg hc15).symm.trans h
      refine JW.r hM 58 2 (pc2 := 113) (L2 := [some (.ref 0), some (.ref 2), none]) (st2 := [.int (3 : Int32), .ref 0]) (μ2 := (hRT G8)) rfl trivial ?_
      exact JW.mask [false, false, false] (t_X2_readThing_b113 hM hp N G8 (3 : Int32) h hq)
set_option maxHeartbeats 4000000 in
set_option maxRecDepth 100000 in
theorem t_X2_readThing_b31 {X : jX} {po : Option Value → jH → Prop} {px : String → jH → Prop} {sf : Bool} {B9 : Nat} (hM : jMX X kX2_readThing RX2 tbX2 3 ⟨3, 0, 0, 64⟩ (some .boolean) 12) (hp : jPost X sf B9 po px) (N : Nat) {res : Int32 × (Nat → Nat → Int32)} : ∀ (n : Nat) (G : Nat → Nat → Int32) (x2 : Int32) (h : p_X2_readThing_b31 N n G x2 = some res) (hq : po (some (.int res.1)) (hRT res.2)), JW X 0 0 31 [some (.ref 0), some (.ref 2), some (.int x2)] [] (hRT G) := by
  intro n
  induction n with
  | zero =>
    intro G x2 h hq
    cases (show (none : Option (Int32 × (Nat → Nat → Int32))) = some res from h)
  | succ n ih31 =>
    intro G x2 h hq
    have ih31 := fun G x2 h9 => ih31 G x2 h9 hq
    rw [p_X2_readThing_b31] at h
    refine JW.r hM 19 3 (pc2 := 36) (L2 := [some (.ref 0), some (.ref 2), some (.int x2)]) (st2 := [.int (G 2 1), .int x2]) (μ2 := (hRT G)) rfl trivial ?_
    refine js_icge (t := 79) hM.1 (jat hM.2.1 22 rfl) rfl (fun hc27 => ?_) (fun hc27 => ?_)
    · have h := (if_pos hc27).symm.trans h
      exact JW.mask [true, true, false] (t_X2_readThing_b79 hM hp N G h hq)
    · have h := (if_neg hc27).symm.trans h
      refine JW.r hM 23 3 (pc2 := 44) (L2 := [some (.ref 0), some (.ref 2), some (.int x2)]) (st2 := [.int (3 : Int32), .int (G 0 5)]) (μ2 := (hRT G)) rfl trivial ?_
      refine js_icne (t := 79) hM.1 (jat hM.2.1 26 rfl) rfl (fun hc26 => ?_) (fun hc26 => ?_)
      · have h := (if_neg hc26).symm.trans h
        exact JW.mask [true, true, false] (t_X2_readThing_b79 hM hp N G h hq)
      · have h := (if_pos hc26).symm.trans h
        refine JW.r hM 27 3 (pc2 := 52) (L2 := [some (.ref 0), some (.ref 2), some (.int x2)]) (st2 := [.int (999 : Int32), .int (0 : Int32), .ref 0]) (μ2 := (hRT G)) rfl trivial ?_
        obtain ⟨v18, hv17, h⟩ := jbd h
        refine JW.cV (v := some (.int v18.1)) hM (m_X2_takes (jVX X) hM.1.2.2.2.2.2.2.2.2.2.1 N (jvw G 0) (0 : Int32) (999 : Int32) v18 hv17) (sb_RT_Rd_0 G) (bk_RT_Rd_0 G v18.2) rfl rfl rfl kc_X2_109 rfl rfl rfl rfl rfl (jat hM.2.1 30 rfl) (st := []) rfl ?_
        show JW X 0 0 55 [some (.ref 0), some (.ref 2), some (.int x2)] [.int v18.1] (hRT (jpt G 0 2 v18.2))
        obtain ⟨G19, e20, h⟩ := jlE h
        rw [e20]
        refine js_ifne (t := 60) hM.1 (jat hM.2.1 31 rfl) rfl (fun hc25 => ?_) (fun hc25 => ?_)
        · have h := (if_neg hc25).symm.trans h
          refine JW.r hM 34 6 (pc2 := 70) (L2 := [some (.ref 0), some (.ref 2), some (.int x2)]) (st2 := [.int (G19 0 9), .int x2, .int (G19 2 2), .ref 2]) (μ2 := (hRT G19)) rfl trivial ?_
          obtain ⟨v22, hv21, h⟩ := jbd h
          refine JW.cV (v := none) hM (m_X3_setWorth (jVX X) hM.1.2.2.2.2.2.2.2.2.2.1 N (jvw G19 2) (G19 2 2) x2 (G19 0 9) v22 hv21) (sb_RT_Town_2 G19) (bk_RT_Town_2 G19 v22) rfl rfl rfl kc_X2_122 rfl rfl rfl rfl rfl (jat hM.2.1 40 rfl) (st := []) rfl ?_
          show JW X 0 0 73 [some (.ref 0), some (.ref 2), some (.int x2)] [] (hRT (jpt G19 2 9 v22))
          obtain ⟨G23, e24, h⟩ := jlE h
          rw [e24]
          refine JW.r hM 41 2 (pc2 := 31) (L2 := [some (.ref 0), some (.ref 2), some (.int (x2 + 1))]) (st2 := []) (μ2 := (hRT G23)) rfl trivial ?_
          exact ih31 G23 (x2 + 1) h
        · have h := (if_pos hc25).symm.trans h
          refine JW.r hM 32 1 (pc2 := 59) (L2 := [some (.ref 0), some (.ref 2), some (.int x2)]) (st2 := [.int (0 : Int32)]) (μ2 := (hRT G19)) rfl trivial ?_
          cases h
          exact js_zret hM.1 hp hM.2.2.2.2.2.2.2.1 rfl (by rw [hM.2.2.2.2.2.1]; exact Nat.le_of_ble_eq_true rfl) (by rw [hM.2.2.2.2.2.2.1]; exact Nat.le_of_ble_eq_true rfl) (jat hM.2.1 33 rfl) hq
set_option maxHeartbeats 4000000 in
set_option maxRecDepth 100000 in
theorem t_X2_readThing {X : jX} {po : Option Value → jH → Prop} {px : String → jH → Prop} {sf : Bool} {B9 : Nat} (hM : jMX X kX2_readThing RX2 tbX2 3 ⟨3, 0, 0, 64⟩ (some .boolean) 12) (hp : jPost X sf B9 po px) (N : Nat) (G : Nat → Nat → Int32) {res : Int32 × (Nat → Nat → Int32)} (h : p_X2_readThing N G = some res) (hq : po (some (.int res.1)) (hRT res.2)) : JW X 0 0 0 [some (.ref 0), some (.ref 2), none] [] (hRT G) := by
  unfold p_X2_readThing at h
  refine JW.r hM 0 6 (pc2 := 8) (L2 := [some (.ref 0), some (.ref 2), none]) (st2 := [.int ((G 2 1) - (1 : Int32)), .int (0 : Int32), .ref 0]) (μ2 := (hRT G)) rfl trivial ?_
  obtain ⟨v2, hv1, h⟩ := jbd h
  refine JW.cV (v := some (.int v2.1)) hM (m_X2_takes (jVX X) hM.1.2.2.2.2.2.2.2.2.2.1 N (jvw G 0) (0 : Int32) ((G 2 1) - (1 : Int32)) v2 hv1) (sb_RT_Rd_0 G) (bk_RT_Rd_0 G v2.2) rfl rfl rfl kc_X2_109 rfl rfl rfl rfl rfl (jat hM.2.1 6 rfl) (st := []) rfl ?_
  show JW X 0 0 11 [some (.ref 0), some (.ref 2), none] [.int v2.1] (hRT (jpt G 0 2 v2.2))
  obtain ⟨G3, e4, h⟩ := jlE h
  rw [e4]
  refine js_ifne (t := 16) hM.1 (jat hM.2.1 7 rfl) rfl (fun hc28 => ?_) (fun hc28 => ?_)
  · have h := (if_neg hc28).symm.trans h
    obtain ⟨g5, h⟩ := jg h
    obtain ⟨G6, e7, h⟩ := jlE h
    refine JW.r hM 10 7 (pc2 := 29) (L2 := [some (.ref 0), some (.ref 2), none]) (st2 := []) (μ2 := (hRT (jup G3 4 (G3 2 2).toNatClampNeg (G3 0 9)))) rfl ⟨g5, trivial⟩ ?_
    rw [e7]
    refine JW.r hM 17 2 (pc2 := 31) (L2 := [some (.ref 0), some (.ref 2), some (.int (0 : Int32))]) (st2 := []) (μ2 := (hRT G6)) rfl trivial ?_
    exact t_X2_readThing_b31 hM hp N N G6 (0 : Int32) h hq
  · have h := (if_pos hc28).symm.trans h
    refine JW.r hM 8 1 (pc2 := 15) (L2 := [some (.ref 0), some (.ref 2), none]) (st2 := [.int (0 : Int32)]) (μ2 := (hRT G3)) rfl trivial ?_
    cases h
    exact js_zret hM.1 hp hM.2.2.2.2.2.2.2.1 rfl (by rw [hM.2.2.2.2.2.1]; exact Nat.le_of_ble_eq_true rfl) (by rw [hM.2.2.2.2.2.2.1]; exact Nat.le_of_ble_eq_true rfl) (jat hM.2.1 9 rfl) hq
theorem m_X2_readThing (V : jV) (hV : V.1.stackTraces = false) (N : Nat) (G : Nat → Nat → Int32) (v : Int32 × (Nat → Nat → Int32)) (h : p_X2_readThing N G = some v) : jMet V yX2_readThing (jws yX2_readThing cX2_readThing 3 (some .boolean)) ⟨3, 0, 0, 64⟩ true 1 [.ref 0, .ref 2] (hRT G) (fun o ν => o = some (.int v.1) ∧ ν = (hRT v.2)) (fun _ _ => False) := by
  refine jmk (tb := tbX2) (C := kX2_readThing) hV rfl (by decide) tbX2_ok rfl kX2_readThing_ok rfl ?_
  intro X hM _ hp _
  exact t_X2_readThing hM hp N G h ⟨rfl, rfl⟩
def p_X2_readWorth (N : Nat) (G : Nat → Nat → Int32) : Option (Int32 × (Nat → Nat → Int32)) :=
  (p_X2_takes N (jvw G 0) (0 : Int32) ((G 2 2) - (1 : Int32))).bind (fun v2 => jlt (jpt G 0 2 v2.2) fun G3 => if v2.1 = 0 then (some ((0 : Int32), G3)) else ((p_X2_takes N (jvw G3 0) (0 : Int32) ((G3 2 1) - (1 : Int32))).bind (fun v6 => jlt (jpt G3 0 2 v6.2) fun G7 => if v6.1 = 0 then (some ((0 : Int32), G7)) else ((p_X2_takes N (jvw G7 0) (0 : Int32) (999 : Int32)).bind (fun v10 => jlt (jpt G7 0 2 v10.2) fun G11 => if v10.1 = 0 then (some ((0 : Int32), G11)) else ((p_X3_setWorth N (jvw G11 2) (G3 0 9) (G7 0 9) (G11 0 9)).bind (fun v14 => jlt (jpt G11 2 9 v14) fun G15 => some ((1 : Int32), G15))))))))
set_option maxHeartbeats 4000000 in
set_option maxRecDepth 100000 in
theorem t_X2_readWorth {X : jX} {po : Option Value → jH → Prop} {px : String → jH → Prop} {sf : Bool} {B9 : Nat} (hM : jMX X kX2_readWorth RX2 tbX2 4 ⟨3, 0, 0, 64⟩ (some .boolean) 12) (hp : jPost X sf B9 po px) (N : Nat) (G : Nat → Nat → Int32) {res : Int32 × (Nat → Nat → Int32)} (h : p_X2_readWorth N G = some res) (hq : po (some (.int res.1)) (hRT res.2)) : JW X 0 0 0 [some (.ref 0), some (.ref 2), none, none] [] (hRT G) := by
  unfold p_X2_readWorth at h
  refine JW.r hM 0 6 (pc2 := 8) (L2 := [some (.ref 0), some (.ref 2), none, none]) (st2 := [.int ((G 2 2) - (1 : Int32)), .int (0 : Int32), .ref 0]) (μ2 := (hRT G)) rfl trivial ?_
  obtain ⟨v2, hv1, h⟩ := jbd h
  refine JW.cV (v := some (.int v2.1)) hM (m_X2_takes (jVX X) hM.1.2.2.2.2.2.2.2.2.2.1 N (jvw G 0) (0 : Int32) ((G 2 2) - (1 : Int32)) v2 hv1) (sb_RT_Rd_0 G) (bk_RT_Rd_0 G v2.2) rfl rfl rfl kc_X2_109 rfl rfl rfl rfl rfl (jat hM.2.1 6 rfl) (st := []) rfl ?_
  show JW X 0 0 11 [some (.ref 0), some (.ref 2), none, none] [.int v2.1] (hRT (jpt G 0 2 v2.2))
  obtain ⟨G3, e4, h⟩ := jlE h
  rw [e4]
  refine js_ifne (t := 16) hM.1 (jat hM.2.1 7 rfl) rfl (fun hc19 => ?_) (fun hc19 => ?_)
  · have h := (if_neg hc19).symm.trans h
    refine JW.r hM 10 9 (pc2 := 29) (L2 := [some (.ref 0), some (.ref 2), some (.int (G3 0 9)), none]) (st2 := [.int ((G3 2 1) - (1 : Int32)), .int (0 : Int32), .ref 0]) (μ2 := (hRT G3)) rfl trivial ?_
    obtain ⟨v6, hv5, h⟩ := jbd h
    refine JW.cV (v := some (.int v6.1)) hM (m_X2_takes (jVX X) hM.1.2.2.2.2.2.2.2.2.2.1 N (jvw G3 0) (0 : Int32) ((G3 2 1) - (1 : Int32)) v6 hv5) (sb_RT_Rd_0 G3) (bk_RT_Rd_0 G3 v6.2) rfl rfl rfl kc_X2_109 rfl rfl rfl rfl rfl (jat hM.2.1 19 rfl) (st := []) rfl ?_
    show JW X 0 0 32 [some (.ref 0), some (.ref 2), some (.int (G3 0 9)), none] [.int v6.1] (hRT (jpt G3 0 2 v6.2))
    obtain ⟨G7, e8, h⟩ := jlE h
    rw [e8]
    refine js_ifne (t := 37) hM.1 (jat hM.2.1 20 rfl) rfl (fun hc18 => ?_) (fun hc18 => ?_)
    · have h := (if_neg hc18).symm.trans h
      refine JW.r hM 23 6 (pc2 := 47) (L2 := [some (.ref 0), some (.ref 2), some (.int (G3 0 9)), some (.int (G7 0 9))]) (st2 := [.int (999 : Int32), .int (0 : Int32), .ref 0]) (μ2 := (hRT G7)) rfl trivial ?_
      obtain ⟨v10, hv9, h⟩ := jbd h
      refine JW.cV (v := some (.int v10.1)) hM (m_X2_takes (jVX X) hM.1.2.2.2.2.2.2.2.2.2.1 N (jvw G7 0) (0 : Int32) (999 : Int32) v10 hv9) (sb_RT_Rd_0 G7) (bk_RT_Rd_0 G7 v10.2) rfl rfl rfl kc_X2_109 rfl rfl rfl rfl rfl (jat hM.2.1 29 rfl) (st := []) rfl ?_
      show JW X 0 0 50 [some (.ref 0), some (.ref 2), some (.int (G3 0 9)), some (.int (G7 0 9))] [.int v10.1] (hRT (jpt G7 0 2 v10.2))
      obtain ⟨G11, e12, h⟩ := jlE h
      rw [e12]
      refine js_ifne (t := 55) hM.1 (jat hM.2.1 30 rfl) rfl (fun hc17 => ?_) (fun hc17 => ?_)
      · have h := (if_neg hc17).symm.trans h
        refine JW.r hM 33 5 (pc2 := 62) (L2 := [some (.ref 0), some (.ref 2), some (.int (G3 0 9)), some (.int (G7 0 9))]) (st2 := [.int (G11 0 9), .int (G7 0 9), .int (G3 0 9), .ref 2]) (μ2 := (hRT G11)) rfl trivial ?_
        obtain ⟨v14, hv13, h⟩ := jbd h
        refine JW.cV (v := none) hM (m_X3_setWorth (jVX X) hM.1.2.2.2.2.2.2.2.2.2.1 N (jvw G11 2) (G3 0 9) (G7 0 9) (G11 0 9) v14 hv13) (sb_RT_Town_2 G11) (bk_RT_Town_2 G11 v14) rfl rfl rfl kc_X2_122 rfl rfl rfl rfl rfl (jat hM.2.1 38 rfl) (st := []) rfl ?_
        show JW X 0 0 65 [some (.ref 0), some (.ref 2), some (.int (G3 0 9)), some (.int (G7 0 9))] [] (hRT (jpt G11 2 9 v14))
        obtain ⟨G15, e16, h⟩ := jlE h
        rw [e16]
        refine JW.r hM 39 1 (pc2 := 66) (L2 := [some (.ref 0), some (.ref 2), some (.int (G3 0 9)), some (.int (G7 0 9))]) (st2 := [.int (1 : Int32)]) (μ2 := (hRT G15)) rfl trivial ?_
        cases h
        exact js_zret hM.1 hp hM.2.2.2.2.2.2.2.1 rfl (by rw [hM.2.2.2.2.2.1]; exact Nat.le_of_ble_eq_true rfl) (by rw [hM.2.2.2.2.2.2.1]; exact Nat.le_of_ble_eq_true rfl) (jat hM.2.1 40 rfl) hq
      · have h := (if_pos hc17).symm.trans h
        refine JW.r hM 31 1 (pc2 := 54) (L2 := [some (.ref 0), some (.ref 2), some (.int (G3 0 9)), some (.int (G7 0 9))]) (st2 := [.int (0 : Int32)]) (μ2 := (hRT G11)) rfl trivial ?_
        cases h
        exact js_zret hM.1 hp hM.2.2.2.2.2.2.2.1 rfl (by rw [hM.2.2.2.2.2.1]; exact Nat.le_of_ble_eq_true rfl) (by rw [hM.2.2.2.2.2.2.1]; exact Nat.le_of_ble_eq_true rfl) (jat hM.2.1 32 rfl) hq
    · have h := (if_pos hc18).symm.trans h
      refine JW.r hM 21 1 (pc2 := 36) (L2 := [some (.ref 0), some (.ref 2), some (.int (G3 0 9)), none]) (st2 := [.int (0 : Int32)]) (μ2 := (hRT G7)) rfl trivial ?_
      cases h
      exact js_zret hM.1 hp hM.2.2.2.2.2.2.2.1 rfl (by rw [hM.2.2.2.2.2.1]; exact Nat.le_of_ble_eq_true rfl) (by rw [hM.2.2.2.2.2.2.1]; exact Nat.le_of_ble_eq_true rfl) (jat hM.2.1 22 rfl) hq
  · have h := (if_pos hc19).symm.trans h
    refine JW.r hM 8 1 (pc2 := 15) (L2 := [some (.ref 0), some (.ref 2), none, none]) (st2 := [.int (0 : Int32)]) (μ2 := (hRT G3)) rfl trivial ?_
    cases h
    exact js_zret hM.1 hp hM.2.2.2.2.2.2.2.1 rfl (by rw [hM.2.2.2.2.2.1]; exact Nat.le_of_ble_eq_true rfl) (by rw [hM.2.2.2.2.2.2.1]; exact Nat.le_of_ble_eq_true rfl) (jat hM.2.1 9 rfl) hq
theorem m_X2_readWorth (V : jV) (hV : V.1.stackTraces = false) (N : Nat) (G : Nat → Nat → Int32) (v : Int32 × (Nat → Nat → Int32)) (h : p_X2_readWorth N G = some v) : jMet V yX2_readWorth (jws yX2_readWorth cX2_readWorth 4 (some .boolean)) ⟨3, 0, 0, 64⟩ true 1 [.ref 0, .ref 2] (hRT G) (fun o ν => o = some (.int v.1) ∧ ν = (hRT v.2)) (fun _ _ => False) := by
  refine jmk (tb := tbX2) (C := kX2_readWorth) hV rfl (by decide) tbX2_ok rfl kX2_readWorth_ok rfl ?_
  intro X hM _ hp _
  exact t_X2_readWorth hM hp N G h ⟨rfl, rfl⟩
def p_X2_readShare (N : Nat) (G : Nat → Nat → Int32) : Option (Int32 × (Nat → Nat → Int32)) :=
  (p_X2_takes N (jvw G 0) (0 : Int32) (100 : Int32)).bind (fun v2 => jlt (jpt G 0 2 v2.2) fun G3 => if v2.1 = 0 then (some ((0 : Int32), G3)) else (jlt (jup G3 2 4 (G3 0 9)) fun G5 => some ((1 : Int32), G5)))
set_option maxHeartbeats 4000000 in
set_option maxRecDepth 100000 in
theorem t_X2_readShare {X : jX} {po : Option Value → jH → Prop} {px : String → jH → Prop} {sf : Bool} {B9 : Nat} (hM : jMX X kX2_readShare RX2 tbX2 2 ⟨3, 0, 0, 64⟩ (some .boolean) 12) (hp : jPost X sf B9 po px) (N : Nat) (G : Nat → Nat → Int32) {res : Int32 × (Nat → Nat → Int32)} (h : p_X2_readShare N G = some res) (hq : po (some (.int res.1)) (hRT res.2)) : JW X 0 0 0 [some (.ref 0), some (.ref 2)] [] (hRT G) := by
  unfold p_X2_readShare at h
  refine JW.r hM 0 3 (pc2 := 4) (L2 := [some (.ref 0), some (.ref 2)]) (st2 := [.int (100 : Int32), .int (0 : Int32), .ref 0]) (μ2 := (hRT G)) rfl trivial ?_
  obtain ⟨v2, hv1, h⟩ := jbd h
  refine JW.cV (v := some (.int v2.1)) hM (m_X2_takes (jVX X) hM.1.2.2.2.2.2.2.2.2.2.1 N (jvw G 0) (0 : Int32) (100 : Int32) v2 hv1) (sb_RT_Rd_0 G) (bk_RT_Rd_0 G v2.2) rfl rfl rfl kc_X2_109 rfl rfl rfl rfl rfl (jat hM.2.1 3 rfl) (st := []) rfl ?_
  show JW X 0 0 7 [some (.ref 0), some (.ref 2)] [.int v2.1] (hRT (jpt G 0 2 v2.2))
  obtain ⟨G3, e4, h⟩ := jlE h
  rw [e4]
  refine js_ifne (t := 12) hM.1 (jat hM.2.1 4 rfl) rfl (fun hc7 => ?_) (fun hc7 => ?_)
  · have h := (if_neg hc7).symm.trans h
    obtain ⟨G5, e6, h⟩ := jlE h
    refine JW.r hM 7 4 (pc2 := 20) (L2 := [some (.ref 0), some (.ref 2)]) (st2 := []) (μ2 := (hRT (jup G3 2 4 (G3 0 9)))) rfl trivial ?_
    rw [e6]
    refine JW.r hM 11 1 (pc2 := 21) (L2 := [some (.ref 0), some (.ref 2)]) (st2 := [.int (1 : Int32)]) (μ2 := (hRT G5)) rfl trivial ?_
    cases h
    exact js_zret hM.1 hp hM.2.2.2.2.2.2.2.1 rfl (by rw [hM.2.2.2.2.2.1]; exact Nat.le_of_ble_eq_true rfl) (by rw [hM.2.2.2.2.2.2.1]; exact Nat.le_of_ble_eq_true rfl) (jat hM.2.1 12 rfl) hq
  · have h := (if_pos hc7).symm.trans h
    refine JW.r hM 5 1 (pc2 := 11) (L2 := [some (.ref 0), some (.ref 2)]) (st2 := [.int (0 : Int32)]) (μ2 := (hRT G3)) rfl trivial ?_
    cases h
    exact js_zret hM.1 hp hM.2.2.2.2.2.2.2.1 rfl (by rw [hM.2.2.2.2.2.1]; exact Nat.le_of_ble_eq_true rfl) (by rw [hM.2.2.2.2.2.2.1]; exact Nat.le_of_ble_eq_true rfl) (jat hM.2.1 6 rfl) hq
theorem m_X2_readShare (V : jV) (hV : V.1.stackTraces = false) (N : Nat) (G : Nat → Nat → Int32) (v : Int32 × (Nat → Nat → Int32)) (h : p_X2_readShare N G = some v) : jMet V yX2_readShare (jws yX2_readShare cX2_readShare 2 (some .boolean)) ⟨3, 0, 0, 64⟩ true 1 [.ref 0, .ref 2] (hRT G) (fun o ν => o = some (.int v.1) ∧ ν = (hRT v.2)) (fun _ _ => False) := by
  refine jmk (tb := tbX2) (C := kX2_readShare) hV rfl (by decide) tbX2_ok rfl kX2_readShare_ok rfl ?_
  intro X hM _ hp _
  exact t_X2_readShare hM hp N G h ⟨rfl, rfl⟩
def p_X2_readBell (N : Nat) (G : Nat → Nat → Int32) : Option (Int32 × (Nat → Nat → Int32)) :=
  (p_X2_takes N (jvw G 0) (1 : Int32) (999 : Int32)).bind (fun v2 => jlt (jpt G 0 2 v2.2) fun G3 => if v2.1 = 0 then (some ((0 : Int32), G3)) else (jlt (jup G3 2 5 (G3 0 9)) fun G5 => some ((1 : Int32), G5)))
set_option maxHeartbeats 4000000 in
set_option maxRecDepth 100000 in
theorem t_X2_readBell {X : jX} {po : Option Value → jH → Prop} {px : String → jH → Prop} {sf : Bool} {B9 : Nat} (hM : jMX X kX2_readBell RX2 tbX2 2 ⟨3, 0, 0, 64⟩ (some .boolean) 12) (hp : jPost X sf B9 po px) (N : Nat) (G : Nat → Nat → Int32) {res : Int32 × (Nat → Nat → Int32)} (h : p_X2_readBell N G = some res) (hq : po (some (.int res.1)) (hRT res.2)) : JW X 0 0 0 [some (.ref 0), some (.ref 2)] [] (hRT G) := by
  unfold p_X2_readBell at h
  refine JW.r hM 0 3 (pc2 := 5) (L2 := [some (.ref 0), some (.ref 2)]) (st2 := [.int (999 : Int32), .int (1 : Int32), .ref 0]) (μ2 := (hRT G)) rfl trivial ?_
  obtain ⟨v2, hv1, h⟩ := jbd h
  refine JW.cV (v := some (.int v2.1)) hM (m_X2_takes (jVX X) hM.1.2.2.2.2.2.2.2.2.2.1 N (jvw G 0) (1 : Int32) (999 : Int32) v2 hv1) (sb_RT_Rd_0 G) (bk_RT_Rd_0 G v2.2) rfl rfl rfl kc_X2_109 rfl rfl rfl rfl rfl (jat hM.2.1 3 rfl) (st := []) rfl ?_
  show JW X 0 0 8 [some (.ref 0), some (.ref 2)] [.int v2.1] (hRT (jpt G 0 2 v2.2))
  obtain ⟨G3, e4, h⟩ := jlE h
  rw [e4]
  refine js_ifne (t := 13) hM.1 (jat hM.2.1 4 rfl) rfl (fun hc7 => ?_) (fun hc7 => ?_)
  · have h := (if_neg hc7).symm.trans h
    obtain ⟨G5, e6, h⟩ := jlE h
    refine JW.r hM 7 4 (pc2 := 21) (L2 := [some (.ref 0), some (.ref 2)]) (st2 := []) (μ2 := (hRT (jup G3 2 5 (G3 0 9)))) rfl trivial ?_
    rw [e6]
    refine JW.r hM 11 1 (pc2 := 22) (L2 := [some (.ref 0), some (.ref 2)]) (st2 := [.int (1 : Int32)]) (μ2 := (hRT G5)) rfl trivial ?_
    cases h
    exact js_zret hM.1 hp hM.2.2.2.2.2.2.2.1 rfl (by rw [hM.2.2.2.2.2.1]; exact Nat.le_of_ble_eq_true rfl) (by rw [hM.2.2.2.2.2.2.1]; exact Nat.le_of_ble_eq_true rfl) (jat hM.2.1 12 rfl) hq
  · have h := (if_pos hc7).symm.trans h
    refine JW.r hM 5 1 (pc2 := 12) (L2 := [some (.ref 0), some (.ref 2)]) (st2 := [.int (0 : Int32)]) (μ2 := (hRT G3)) rfl trivial ?_
    cases h
    exact js_zret hM.1 hp hM.2.2.2.2.2.2.2.1 rfl (by rw [hM.2.2.2.2.2.1]; exact Nat.le_of_ble_eq_true rfl) (by rw [hM.2.2.2.2.2.2.1]; exact Nat.le_of_ble_eq_true rfl) (jat hM.2.1 6 rfl) hq
theorem m_X2_readBell (V : jV) (hV : V.1.stackTraces = false) (N : Nat) (G : Nat → Nat → Int32) (v : Int32 × (Nat → Nat → Int32)) (h : p_X2_readBell N G = some v) : jMet V yX2_readBell (jws yX2_readBell cX2_readBell 2 (some .boolean)) ⟨3, 0, 0, 64⟩ true 1 [.ref 0, .ref 2] (hRT G) (fun o ν => o = some (.int v.1) ∧ ν = (hRT v.2)) (fun _ _ => False) := by
  refine jmk (tb := tbX2) (C := kX2_readBell) hV rfl (by decide) tbX2_ok rfl kX2_readBell_ok rfl ?_
  intro X hM _ hp _
  exact t_X2_readBell hM hp N G h ⟨rfl, rfl⟩
def p_X2_readEaten (N : Nat) (G : Nat → Nat → Int32) : Option (Int32 × (Nat → Nat → Int32)) :=
  (p_X2_takes N (jvw G 0) (0 : Int32) ((G 2 2) - (1 : Int32))).bind (fun v2 => jlt (jpt G 0 2 v2.2) fun G3 => if v2.1 = 0 then (some ((0 : Int32), G3)) else (jlt (jup G3 2 3 ((G3 2 3) ||| ((1 : Int32) <<< ((G3 0 9) &&& 31)))) fun G5 => some ((1 : Int32), G5)))
set_option maxHeartbeats 4000000 in
set_option maxRecDepth 100000 in
theorem t_X2_readEaten {X : jX} {po : Option Value → jH → Prop} {px : String → jH → Prop} {sf : Bool} {B9 : Nat} (hM : jMX X kX2_readEaten RX2 tbX2 2 ⟨3, 0, 0, 64⟩ (some .boolean) 12) (hp : jPost X sf B9 po px) (N : Nat) (G : Nat → Nat → Int32) {res : Int32 × (Nat → Nat → Int32)} (h : p_X2_readEaten N G = some res) (hq : po (some (.int res.1)) (hRT res.2)) : JW X 0 0 0 [some (.ref 0), some (.ref 2)] [] (hRT G) := by
  unfold p_X2_readEaten at h
  refine JW.r hM 0 6 (pc2 := 8) (L2 := [some (.ref 0), some (.ref 2)]) (st2 := [.int ((G 2 2) - (1 : Int32)), .int (0 : Int32), .ref 0]) (μ2 := (hRT G)) rfl trivial ?_
  obtain ⟨v2, hv1, h⟩ := jbd h
  refine JW.cV (v := some (.int v2.1)) hM (m_X2_takes (jVX X) hM.1.2.2.2.2.2.2.2.2.2.1 N (jvw G 0) (0 : Int32) ((G 2 2) - (1 : Int32)) v2 hv1) (sb_RT_Rd_0 G) (bk_RT_Rd_0 G v2.2) rfl rfl rfl kc_X2_109 rfl rfl rfl rfl rfl (jat hM.2.1 6 rfl) (st := []) rfl ?_
  show JW X 0 0 11 [some (.ref 0), some (.ref 2)] [.int v2.1] (hRT (jpt G 0 2 v2.2))
  obtain ⟨G3, e4, h⟩ := jlE h
  rw [e4]
  refine js_ifne (t := 16) hM.1 (jat hM.2.1 7 rfl) rfl (fun hc7 => ?_) (fun hc7 => ?_)
  · have h := (if_neg hc7).symm.trans h
    obtain ⟨G5, e6, h⟩ := jlE h
    refine JW.r hM 10 9 (pc2 := 31) (L2 := [some (.ref 0), some (.ref 2)]) (st2 := []) (μ2 := (hRT (jup G3 2 3 ((G3 2 3) ||| ((1 : Int32) <<< ((G3 0 9) &&& 31)))))) rfl trivial ?_
    rw [e6]
    refine JW.r hM 19 1 (pc2 := 32) (L2 := [some (.ref 0), some (.ref 2)]) (st2 := [.int (1 : Int32)]) (μ2 := (hRT G5)) rfl trivial ?_
    cases h
    exact js_zret hM.1 hp hM.2.2.2.2.2.2.2.1 rfl (by rw [hM.2.2.2.2.2.1]; exact Nat.le_of_ble_eq_true rfl) (by rw [hM.2.2.2.2.2.2.1]; exact Nat.le_of_ble_eq_true rfl) (jat hM.2.1 20 rfl) hq
  · have h := (if_pos hc7).symm.trans h
    refine JW.r hM 8 1 (pc2 := 15) (L2 := [some (.ref 0), some (.ref 2)]) (st2 := [.int (0 : Int32)]) (μ2 := (hRT G3)) rfl trivial ?_
    cases h
    exact js_zret hM.1 hp hM.2.2.2.2.2.2.2.1 rfl (by rw [hM.2.2.2.2.2.1]; exact Nat.le_of_ble_eq_true rfl) (by rw [hM.2.2.2.2.2.2.1]; exact Nat.le_of_ble_eq_true rfl) (jat hM.2.1 9 rfl) hq
theorem m_X2_readEaten (V : jV) (hV : V.1.stackTraces = false) (N : Nat) (G : Nat → Nat → Int32) (v : Int32 × (Nat → Nat → Int32)) (h : p_X2_readEaten N G = some v) : jMet V yX2_readEaten (jws yX2_readEaten cX2_readEaten 2 (some .boolean)) ⟨3, 0, 0, 64⟩ true 1 [.ref 0, .ref 2] (hRT G) (fun o ν => o = some (.int v.1) ∧ ν = (hRT v.2)) (fun _ _ => False) := by
  refine jmk (tb := tbX2) (C := kX2_readEaten) hV rfl (by decide) tbX2_ok rfl kX2_readEaten_ok rfl ?_
  intro X hM _ hp _
  exact t_X2_readEaten hM hp N G h ⟨rfl, rfl⟩
def p_X2_readNumbers (N : Nat) (G : Nat → Nat → Int32) (p0 : Int32) : Option (Int32 × (Nat → Nat → Int32)) :=
  if p0.toInt = 0 then ((p_X2_readPeople N G).bind (fun v8 => jlt v8.2 fun G9 => if jz v8.1 = true then some (v8.1, G9) else none)) else (if p0.toInt = 1 then ((p_X2_readCoins N G).bind (fun v13 => jlt v13.2 fun G14 => if jz v13.1 = true then some (v13.1, G14) else none)) else (if p0.toInt = 2 then ((p_X2_readThing N G).bind (fun v18 => jlt v18.2 fun G19 => if jz v18.1 = true then some (v18.1, G19) else none)) else (if p0.toInt = 3 then ((p_X2_readWorth N G).bind (fun v23 => jlt v23.2 fun G24 => if jz v23.1 = true then some (v23.1, G24) else none)) else (if p0.toInt = 4 then ((p_X2_readShare N G).bind (fun v28 => jlt v28.2 fun G29 => if jz v28.1 = true then some (v28.1, G29) else none)) else (if p0.toInt = 5 then ((p_X2_readBell N G).bind (fun v33 => jlt v33.2 fun G34 => if jz v33.1 = true then some (v33.1, G34) else none)) else ((p_X2_readEaten N G).bind (fun v38 => jlt v38.2 fun G39 => if jz v38.1 = true then some (v38.1, G39) else none)))))))
set_option maxHeartbeats 4000000 in
set_option maxRecDepth 100000 in
theorem t_X2_readNumbers {X : jX} {po : Option Value → jH → Prop} {px : String → jH → Prop} {sf : Bool} {B9 : Nat} (hM : jMX X kX2_readNumbers RX2 tbX2 3 ⟨4, 0, 0, 87⟩ (some .boolean) 12) (hp : jPost X sf B9 po px) (N : Nat) (G : Nat → Nat → Int32) (p0 : Int32) {res : Int32 × (Nat → Nat → Int32)} (h : p_X2_readNumbers N G p0 = some res) (hq : po (some (.int res.1)) (hRT res.2)) : JW X 0 0 0 [some (.ref 0), some (.int p0), some (.ref 2)] [] (hRT G) := by
  unfold p_X2_readNumbers at h
  refine JW.r hM 0 1 (pc2 := 1) (L2 := [some (.ref 0), some (.int p0), some (.ref 2)]) (st2 := [.int p0]) (μ2 := (hRT G)) rfl trivial ?_
  refine js_tsw (t0 := 76) hM.1 (jat hM.2.1 1 rfl) (by decide) rfl (by decide) ⟨fun hc1 t ht => ?_, fun hc1 => ⟨fun hc2 t ht => ?_, fun hc2 => ⟨fun hc3 t ht => ?_, fun hc3 => ⟨fun hc4 t ht => ?_, fun hc4 => ⟨fun hc5 t ht => ?_, fun hc5 => ⟨fun hc6 t ht => ?_, fun hc6 => fun t ht => ?_⟩⟩⟩⟩⟩⟩
  · have h := (if_pos hc1).symm.trans h
    obtain rfl : t = 40 := by omega
    refine JW.r hM 2 2 (pc2 := 42) (L2 := [some (.ref 0), some (.int p0), some (.ref 2)]) (st2 := [.ref 2, .ref 0]) (μ2 := (hRT G)) rfl trivial ?_
    obtain ⟨v8, hv7, h⟩ := jbd h
    refine JW.cV (v := some (.int v8.1)) hM (m_X2_readPeople (jVX X) hM.1.2.2.2.2.2.2.2.2.2.1 N G v8 hv7) (sb_RT_RT_0_2 G) (bk_RT_RT_0_2 G v8.2) rfl rfl rfl kc_X2_87 rfl rfl rfl rfl rfl (jat hM.2.1 4 rfl) (st := []) rfl ?_
    show JW X 0 0 45 [some (.ref 0), some (.int p0), some (.ref 2)] [.int v8.1] (hRT v8.2)
    obtain ⟨G9, e10, h⟩ := jlE h
    rw [e10]
    obtain ⟨g11, h⟩ := jg h
    cases h
    exact js_zret hM.1 hp hM.2.2.2.2.2.2.2.1 g11 (by rw [hM.2.2.2.2.2.1]; exact Nat.le_of_ble_eq_true rfl) (by rw [hM.2.2.2.2.2.2.1]; exact Nat.le_of_ble_eq_true rfl) (jat hM.2.1 5 rfl) hq
  · have h := (if_neg hc1).symm.trans h
    have h := (if_pos hc2).symm.trans h
    obtain rfl : t = 46 := by omega
    refine JW.r hM 6 2 (pc2 := 48) (L2 := [some (.ref 0), some (.int p0), some (.ref 2)]) (st2 := [.ref 2, .ref 0]) (μ2 := (hRT G)) rfl trivial ?_
    obtain ⟨v13, hv12, h⟩ := jbd h
    refine JW.cV (v := some (.int v13.1)) hM (m_X2_readCoins (jVX X) hM.1.2.2.2.2.2.2.2.2.2.1 N G v13 hv12) (sb_RT_RT_0_2 G) (bk_RT_RT_0_2 G v13.2) rfl rfl rfl kc_X2_91 rfl rfl rfl rfl rfl (jat hM.2.1 8 rfl) (st := []) rfl ?_
    show JW X 0 0 51 [some (.ref 0), some (.int p0), some (.ref 2)] [.int v13.1] (hRT v13.2)
    obtain ⟨G14, e15, h⟩ := jlE h
    rw [e15]
    obtain ⟨g16, h⟩ := jg h
    cases h
    exact js_zret hM.1 hp hM.2.2.2.2.2.2.2.1 g16 (by rw [hM.2.2.2.2.2.1]; exact Nat.le_of_ble_eq_true rfl) (by rw [hM.2.2.2.2.2.2.1]; exact Nat.le_of_ble_eq_true rfl) (jat hM.2.1 9 rfl) hq
  · have h := (if_neg hc1).symm.trans h
    have h := (if_neg hc2).symm.trans h
    have h := (if_pos hc3).symm.trans h
    obtain rfl : t = 52 := by omega
    refine JW.r hM 10 2 (pc2 := 54) (L2 := [some (.ref 0), some (.int p0), some (.ref 2)]) (st2 := [.ref 2, .ref 0]) (μ2 := (hRT G)) rfl trivial ?_
    obtain ⟨v18, hv17, h⟩ := jbd h
    refine JW.cV (v := some (.int v18.1)) hM (m_X2_readThing (jVX X) hM.1.2.2.2.2.2.2.2.2.2.1 N G v18 hv17) (sb_RT_RT_0_2 G) (bk_RT_RT_0_2 G v18.2) rfl rfl rfl kc_X2_94 rfl rfl rfl rfl rfl (jat hM.2.1 12 rfl) (st := []) rfl ?_
    show JW X 0 0 57 [some (.ref 0), some (.int p0), some (.ref 2)] [.int v18.1] (hRT v18.2)
    obtain ⟨G19, e20, h⟩ := jlE h
    rw [e20]
    obtain ⟨g21, h⟩ := jg h
    cases h
    exact js_zret hM.1 hp hM.2.2.2.2.2.2.2.1 g21 (by rw [hM.2.2.2.2.2.1]; exact Nat.le_of_ble_eq_true rfl) (by rw [hM.2.2.2.2.2.2.1]; exact Nat.le_of_ble_eq_true rfl) (jat hM.2.1 13 rfl) hq
  · have h := (if_neg hc1).symm.trans h
    have h := (if_neg hc2).symm.trans h
    have h := (if_neg hc3).symm.trans h
    have h := (if_pos hc4).symm.trans h
    obtain rfl : t = 58 := by omega
    refine JW.r hM 14 2 (pc2 := 60) (L2 := [some (.ref 0), some (.int p0), some (.ref 2)]) (st2 := [.ref 2, .ref 0]) (μ2 := (hRT G)) rfl trivial ?_
    obtain ⟨v23, hv22, h⟩ := jbd h
    refine JW.cV (v := some (.int v23.1)) hM (m_X2_readWorth (jVX X) hM.1.2.2.2.2.2.2.2.2.2.1 N G v23 hv22) (sb_RT_RT_0_2 G) (bk_RT_RT_0_2 G v23.2) rfl rfl rfl kc_X2_97 rfl rfl rfl rfl rfl (jat hM.2.1 16 rfl) (st := []) rfl ?_
    show JW X 0 0 63 [some (.ref 0), some (.int p0), some (.ref 2)] [.int v23.1] (hRT v23.2)
    obtain ⟨G24, e25, h⟩ := jlE h
    rw [e25]
    obtain ⟨g26, h⟩ := jg h
    cases h
    exact js_zret hM.1 hp hM.2.2.2.2.2.2.2.1 g26 (by rw [hM.2.2.2.2.2.1]; exact Nat.le_of_ble_eq_true rfl) (by rw [hM.2.2.2.2.2.2.1]; exact Nat.le_of_ble_eq_true rfl) (jat hM.2.1 17 rfl) hq
  · have h := (if_neg hc1).symm.trans h
    have h := (if_neg hc2).symm.trans h
    have h := (if_neg hc3).symm.trans h
    have h := (if_neg hc4).symm.trans h
    have h := (if_pos hc5).symm.trans h
    obtain rfl : t = 64 := by omega
    refine JW.r hM 18 2 (pc2 := 66) (L2 := [some (.ref 0), some (.int p0), some (.ref 2)]) (st2 := [.ref 2, .ref 0]) (μ2 := (hRT G)) rfl trivial ?_
    obtain ⟨v28, hv27, h⟩ := jbd h
    refine JW.cV (v := some (.int v28.1)) hM (m_X2_readShare (jVX X) hM.1.2.2.2.2.2.2.2.2.2.1 N G v28 hv27) (sb_RT_RT_0_2 G) (bk_RT_RT_0_2 G v28.2) rfl rfl rfl kc_X2_100 rfl rfl rfl rfl rfl (jat hM.2.1 20 rfl) (st := []) rfl ?_
    show JW X 0 0 69 [some (.ref 0), some (.int p0), some (.ref 2)] [.int v28.1] (hRT v28.2)
    obtain ⟨G29, e30, h⟩ := jlE h
    rw [e30]
    obtain ⟨g31, h⟩ := jg h
    cases h
    exact js_zret hM.1 hp hM.2.2.2.2.2.2.2.1 g31 (by rw [hM.2.2.2.2.2.1]; exact Nat.le_of_ble_eq_true rfl) (by rw [hM.2.2.2.2.2.2.1]; exact Nat.le_of_ble_eq_true rfl) (jat hM.2.1 21 rfl) hq
  · have h := (if_neg hc1).symm.trans h
    have h := (if_neg hc2).symm.trans h
    have h := (if_neg hc3).symm.trans h
    have h := (if_neg hc4).symm.trans h
    have h := (if_neg hc5).symm.trans h
    have h := (if_pos hc6).symm.trans h
    obtain rfl : t = 70 := by omega
    refine JW.r hM 22 2 (pc2 := 72) (L2 := [some (.ref 0), some (.int p0), some (.ref 2)]) (st2 := [.ref 2, .ref 0]) (μ2 := (hRT G)) rfl trivial ?_
    obtain ⟨v33, hv32, h⟩ := jbd h
    refine JW.cV (v := some (.int v33.1)) hM (m_X2_readBell (jVX X) hM.1.2.2.2.2.2.2.2.2.2.1 N G v33 hv32) (sb_RT_RT_0_2 G) (bk_RT_RT_0_2 G v33.2) rfl rfl rfl kc_X2_103 rfl rfl rfl rfl rfl (jat hM.2.1 24 rfl) (st := []) rfl ?_
    show JW X 0 0 75 [some (.ref 0), some (.int p0), some (.ref 2)] [.int v33.1] (hRT v33.2)
    obtain ⟨G34, e35, h⟩ := jlE h
    rw [e35]
    obtain ⟨g36, h⟩ := jg h
    cases h
    exact js_zret hM.1 hp hM.2.2.2.2.2.2.2.1 g36 (by rw [hM.2.2.2.2.2.1]; exact Nat.le_of_ble_eq_true rfl) (by rw [hM.2.2.2.2.2.2.1]; exact Nat.le_of_ble_eq_true rfl) (jat hM.2.1 25 rfl) hq
  · have h := (if_neg hc1).symm.trans h
    have h := (if_neg hc2).symm.trans h
    have h := (if_neg hc3).symm.trans h
    have h := (if_neg hc4).symm.trans h
    have h := (if_neg hc5).symm.trans h
    have h := (if_neg hc6).symm.trans h
    obtain rfl : t = 76 := by omega
    refine JW.r hM 26 2 (pc2 := 78) (L2 := [some (.ref 0), some (.int p0), some (.ref 2)]) (st2 := [.ref 2, .ref 0]) (μ2 := (hRT G)) rfl trivial ?_
    obtain ⟨v38, hv37, h⟩ := jbd h
    refine JW.cV (v := some (.int v38.1)) hM (m_X2_readEaten (jVX X) hM.1.2.2.2.2.2.2.2.2.2.1 N G v38 hv37) (sb_RT_RT_0_2 G) (bk_RT_RT_0_2 G v38.2) rfl rfl rfl kc_X2_106 rfl rfl rfl rfl rfl (jat hM.2.1 28 rfl) (st := []) rfl ?_
    show JW X 0 0 81 [some (.ref 0), some (.int p0), some (.ref 2)] [.int v38.1] (hRT v38.2)
    obtain ⟨G39, e40, h⟩ := jlE h
    rw [e40]
    obtain ⟨g41, h⟩ := jg h
    cases h
    exact js_zret hM.1 hp hM.2.2.2.2.2.2.2.1 g41 (by rw [hM.2.2.2.2.2.1]; exact Nat.le_of_ble_eq_true rfl) (by rw [hM.2.2.2.2.2.2.1]; exact Nat.le_of_ble_eq_true rfl) (jat hM.2.1 29 rfl) hq
theorem m_X2_readNumbers (V : jV) (hV : V.1.stackTraces = false) (N : Nat) (G : Nat → Nat → Int32) (p0 : Int32) (v : Int32 × (Nat → Nat → Int32)) (h : p_X2_readNumbers N G p0 = some v) : jMet V yX2_readNumbers (jws yX2_readNumbers cX2_readNumbers 3 (some .boolean)) ⟨4, 0, 0, 87⟩ true 1 [.ref 0, .int p0, .ref 2] (hRT G) (fun o ν => o = some (.int v.1) ∧ ν = (hRT v.2)) (fun _ _ => False) := by
  refine jmk (tb := tbX2) (C := kX2_readNumbers) hV rfl (by decide) tbX2_ok rfl kX2_readNumbers_ok rfl ?_
  intro X hM _ hp _
  exact t_X2_readNumbers hM hp N G p0 h ⟨rfl, rfl⟩
def p_X2_closes (N : Nat) (G : Nat → Nat → Int32) : Option (Int32 × (Nat → Nat → Int32)) :=
  if (G 0 5) = (4 : Int32) then ((p_X2_next N G).bind (fun v2 => jlt v2 fun G3 => some ((1 : Int32), G3))) else ((p_X2_fails N G (2 : Int32)).bind (fun v6 => jlt v6.2 fun G7 => if jz v6.1 = true then some (v6.1, G7) else none))
set_option maxHeartbeats 4000000 in
set_option maxRecDepth 100000 in
theorem t_X2_closes {X : jX} {po : Option Value → jH → Prop} {px : String → jH → Prop} {sf : Bool} {B9 : Nat} (hM : jMX X kX2_closes RX2 tbX2 1 ⟨2, 0, 0, 42⟩ (some .boolean) 3) (hp : jPost X sf B9 po px) (N : Nat) (G : Nat → Nat → Int32) {res : Int32 × (Nat → Nat → Int32)} (h : p_X2_closes N G = some res) (hq : po (some (.int res.1)) (hRd res.2)) : JW X 0 0 0 [some (.ref 0)] [] (hRd G) := by
  unfold p_X2_closes at h
  refine JW.r hM 0 3 (pc2 := 5) (L2 := [some (.ref 0)]) (st2 := [.int (4 : Int32), .int (G 0 5)]) (μ2 := (hRd G)) rfl trivial ?_
  refine js_iceq (t := 14) hM.1 (jat hM.2.1 3 rfl) rfl (fun hc10 => ?_) (fun hc10 => ?_)
  · have h := (if_pos hc10).symm.trans h
    refine JW.r hM 8 1 (pc2 := 15) (L2 := [some (.ref 0)]) (st2 := [.ref 0]) (μ2 := (hRd G)) rfl trivial ?_
    obtain ⟨v2, hv1, h⟩ := jbd h
    refine JW.cV (v := none) hM (m_X2_next (jVX X) hM.1.2.2.2.2.2.2.2.2.2.1 N G v2 hv1) (sb_Rd_Rd_0 G) (bk_Rd_Rd_0 G v2) rfl rfl rfl kc_X2_36 rfl rfl rfl rfl rfl (jat hM.2.1 9 rfl) (st := []) rfl ?_
    show JW X 0 0 18 [some (.ref 0)] [] (hRd v2)
    obtain ⟨G3, e4, h⟩ := jlE h
    rw [e4]
    refine JW.r hM 10 1 (pc2 := 19) (L2 := [some (.ref 0)]) (st2 := [.int (1 : Int32)]) (μ2 := (hRd G3)) rfl trivial ?_
    cases h
    exact js_zret hM.1 hp hM.2.2.2.2.2.2.2.1 rfl (by rw [hM.2.2.2.2.2.1]; exact Nat.le_of_ble_eq_true rfl) (by rw [hM.2.2.2.2.2.2.1]; exact Nat.le_of_ble_eq_true rfl) (jat hM.2.1 11 rfl) hq
  · have h := (if_neg hc10).symm.trans h
    refine JW.r hM 4 2 (pc2 := 10) (L2 := [some (.ref 0)]) (st2 := [.int (2 : Int32), .ref 0]) (μ2 := (hRd G)) rfl trivial ?_
    obtain ⟨v6, hv5, h⟩ := jbd h
    refine JW.cV (v := some (.int v6.1)) hM (m_X2_fails (jVX X) hM.1.2.2.2.2.2.2.2.2.2.1 N G (2 : Int32) v6 hv5) (sb_Rd_Rd_0 G) (bk_Rd_Rd_0 G v6.2) rfl rfl rfl kc_X2_80 rfl rfl rfl rfl rfl (jat hM.2.1 6 rfl) (st := []) rfl ?_
    show JW X 0 0 13 [some (.ref 0)] [.int v6.1] (hRd v6.2)
    obtain ⟨G7, e8, h⟩ := jlE h
    rw [e8]
    obtain ⟨g9, h⟩ := jg h
    cases h
    exact js_zret hM.1 hp hM.2.2.2.2.2.2.2.1 g9 (by rw [hM.2.2.2.2.2.1]; exact Nat.le_of_ble_eq_true rfl) (by rw [hM.2.2.2.2.2.2.1]; exact Nat.le_of_ble_eq_true rfl) (jat hM.2.1 7 rfl) hq
theorem m_X2_closes (V : jV) (hV : V.1.stackTraces = false) (N : Nat) (G : Nat → Nat → Int32) (v : Int32 × (Nat → Nat → Int32)) (h : p_X2_closes N G = some v) : jMet V yX2_closes (jws yX2_closes cX2_closes 1 (some .boolean)) ⟨2, 0, 0, 42⟩ true 1 [.ref 0] (hRd G) (fun o ν => o = some (.int v.1) ∧ ν = (hRd v.2)) (fun _ _ => False) := by
  refine jmk (tb := tbX2) (C := kX2_closes) hV rfl (by decide) tbX2_ok rfl kX2_closes_ok rfl ?_
  intro X hM _ hp _
  exact t_X2_closes hM hp N G h ⟨rfl, rfl⟩
def p_X2_read_b30 (N : Nat) : Nat → (Nat → Nat → Int32) → (Int32) → Option (Int32 × (Nat → Nat → Int32))
  | 0, _, _ => none
  | n + 1, G, x3 => if (900 : Int32) ≤ x3 then (some ((1 : Int32), G)) else (if (G 0 5) = (1 : Int32) then (some ((1 : Int32), G)) else ((p_X2_kindOfLine N (jvw G 0)).bind (fun v18 => (p_X2_begins N G v18).bind (fun v20 => jlt v20.2 fun G21 => if v20.1 = 0 then (some ((0 : Int32), G21)) else ((p_X2_readNumbers N G21 v18).bind (fun v24 => jlt v24.2 fun G25 => if v24.1 = 0 then (some ((0 : Int32), G25)) else ((p_X2_closes N (jvw G25 0)).bind (fun v28 => jlt (jpt G25 0 2 v28.2) fun G29 => if v28.1 = 0 then (some ((0 : Int32), G29)) else (jlt (jup G29 2 0 ((G29 2 0) + (1 : Int32))) fun G31 => (p_X2_read_b30 N n) G31 (x3 + 1))))))))))
def p_X2_read (N : Nat) (G : Nat → Nat → Int32) (p0 : Int32) : Option (Int32 × (Nat → Nat → Int32)) :=
  jlt (jup G 0 4 p0) fun G1 => jlt (jup G1 0 7 (0 : Int32)) fun G3 => jlt (jup G3 0 1 (0 : Int32)) fun G5 => jlt (jup G5 0 2 (-1 : Int32)) fun G7 => (p_X3_clear N (jvw G7 2)).bind (fun v10 => jlt (jpt G7 2 9 v10) fun G11 => (p_X2_next N (jvw G11 0)).bind (fun v14 => jlt (jpt G11 0 2 v14) fun G15 => p_X2_read_b30 N N G15 (0 : Int32)))
set_option maxHeartbeats 4000000 in
set_option maxRecDepth 100000 in
theorem t_X2_read_b30 {X : jX} {po : Option Value → jH → Prop} {px : String → jH → Prop} {sf : Bool} {B9 : Nat} (hM : jMX X kX2_read RX2 tbX2 5 ⟨6, 0, 0, 150⟩ (some .boolean) 12) (hp : jPost X sf B9 po px) (N : Nat) {res : Int32 × (Nat → Nat → Int32)} : ∀ (n : Nat) (G : Nat → Nat → Int32) (x3 : Int32) (h : p_X2_read_b30 N n G x3 = some res) (hq : po (some (.int res.1)) (hRT res.2)), JW X 0 0 30 [some (.ref 0), none, some (.ref 2), some (.int x3), none] [] (hRT G) := by
  intro n
  induction n with
  | zero =>
    intro G x3 h hq
    cases (show (none : Option (Int32 × (Nat → Nat → Int32))) = some res from h)
  | succ n ih30 =>
    intro G x3 h hq
    have ih30 := fun G x3 h9 => ih30 G x3 h9 hq
    rw [p_X2_read_b30] at h
    refine JW.r hM 18 2 (pc2 := 34) (L2 := [some (.ref 0), none, some (.ref 2), some (.int x3), none]) (st2 := [.int (900 : Int32), .int x3]) (μ2 := (hRT G)) rfl trivial ?_
    refine js_icge (t := 96) hM.1 (jat hM.2.1 20 rfl) rfl (fun hc37 => ?_) (fun hc37 => ?_)
    · have h := (if_pos hc37).symm.trans h
      refine JW.r hM 51 1 (pc2 := 97) (L2 := [some (.ref 0), none, some (.ref 2), some (.int x3), none]) (st2 := [.int (1 : Int32)]) (μ2 := (hRT G)) rfl trivial ?_
      cases h
      exact js_zret hM.1 hp hM.2.2.2.2.2.2.2.1 rfl (by rw [hM.2.2.2.2.2.1]; exact Nat.le_of_ble_eq_true rfl) (by rw [hM.2.2.2.2.2.2.1]; exact Nat.le_of_ble_eq_true rfl) (jat hM.2.1 52 rfl) hq
    · have h := (if_neg hc37).symm.trans h
      refine JW.r hM 21 3 (pc2 := 42) (L2 := [some (.ref 0), none, some (.ref 2), some (.int x3), none]) (st2 := [.int (1 : Int32), .int (G 0 5)]) (μ2 := (hRT G)) rfl trivial ?_
      refine js_iceq (t := 96) hM.1 (jat hM.2.1 24 rfl) rfl (fun hc36 => ?_) (fun hc36 => ?_)
      · have h := (if_pos hc36).symm.trans h
        refine JW.r hM 51 1 (pc2 := 97) (L2 := [some (.ref 0), none, some (.ref 2), some (.int x3), none]) (st2 := [.int (1 : Int32)]) (μ2 := (hRT G)) rfl trivial ?_
        cases h
        exact js_zret hM.1 hp hM.2.2.2.2.2.2.2.1 rfl (by rw [hM.2.2.2.2.2.1]; exact Nat.le_of_ble_eq_true rfl) (by rw [hM.2.2.2.2.2.2.1]; exact Nat.le_of_ble_eq_true rfl) (jat hM.2.1 52 rfl) hq
      · have h := (if_neg hc36).symm.trans h
        refine JW.r hM 25 1 (pc2 := 46) (L2 := [some (.ref 0), none, some (.ref 2), some (.int x3), none]) (st2 := [.ref 0]) (μ2 := (hRT G)) rfl trivial ?_
        obtain ⟨v18, hv17, h⟩ := jbd h
        refine JW.cV (v := some (.int v18)) hM (m_X2_kindOfLine (jVX X) hM.1.2.2.2.2.2.2.2.2.2.1 N (jvw G 0) v18 hv17) (sb_RT_Rd_0 G) (bi_RT_Rd_0 G) rfl rfl rfl kc_X2_42 rfl rfl rfl rfl rfl (jat hM.2.1 26 rfl) (st := []) rfl ?_
        show JW X 0 0 49 [some (.ref 0), none, some (.ref 2), some (.int x3), none] [.int v18] (hRT G)
        refine JW.r hM 27 4 (pc2 := 55) (L2 := [some (.ref 0), none, some (.ref 2), some (.int x3), some (.int v18)]) (st2 := [.ref 2, .int v18, .ref 0]) (μ2 := (hRT G)) rfl trivial ?_
        obtain ⟨v20, hv19, h⟩ := jbd h
        refine JW.cV (v := some (.int v20.1)) hM (m_X2_begins (jVX X) hM.1.2.2.2.2.2.2.2.2.2.1 N G v18 v20 hv19) (sb_RT_RT_0_2 G) (bk_RT_RT_0_2 G v20.2) rfl rfl rfl kc_X2_46 rfl rfl rfl rfl rfl (jat hM.2.1 31 rfl) (st := []) rfl ?_
        show JW X 0 0 58 [some (.ref 0), none, some (.ref 2), some (.int x3), some (.int v18)] [.int v20.1] (hRT v20.2)
        obtain ⟨G21, e22, h⟩ := jlE h
        rw [e22]
        refine js_ifeq (t := 78) hM.1 (jat hM.2.1 32 rfl) rfl (fun hc35 => ?_) (fun hc35 => ?_)
        · have h := (if_pos hc35).symm.trans h
          refine JW.r hM 41 1 (pc2 := 79) (L2 := [some (.ref 0), none, some (.ref 2), some (.int x3), some (.int v18)]) (st2 := [.int (0 : Int32)]) (μ2 := (hRT G21)) rfl trivial ?_
          cases h
          exact js_zret hM.1 hp hM.2.2.2.2.2.2.2.1 rfl (by rw [hM.2.2.2.2.2.1]; exact Nat.le_of_ble_eq_true rfl) (by rw [hM.2.2.2.2.2.2.1]; exact Nat.le_of_ble_eq_true rfl) (jat hM.2.1 42 rfl) hq
        · have h := (if_neg hc35).symm.trans h
          refine JW.r hM 33 3 (pc2 := 65) (L2 := [some (.ref 0), none, some (.ref 2), some (.int x3), some (.int v18)]) (st2 := [.ref 2, .int v18, .ref 0]) (μ2 := (hRT G21)) rfl trivial ?_
          obtain ⟨v24, hv23, h⟩ := jbd h
          refine JW.cV (v := some (.int v24.1)) hM (m_X2_readNumbers (jVX X) hM.1.2.2.2.2.2.2.2.2.2.1 N G21 v18 v24 hv23) (sb_RT_RT_0_2 G21) (bk_RT_RT_0_2 G21 v24.2) rfl rfl rfl kc_X2_50 rfl rfl rfl rfl rfl (jat hM.2.1 36 rfl) (st := []) rfl ?_
          show JW X 0 0 68 [some (.ref 0), none, some (.ref 2), some (.int x3), some (.int v18)] [.int v24.1] (hRT v24.2)
          obtain ⟨G25, e26, h⟩ := jlE h
          rw [e26]
          refine js_ifeq (t := 78) hM.1 (jat hM.2.1 37 rfl) rfl (fun hc34 => ?_) (fun hc34 => ?_)
          · have h := (if_pos hc34).symm.trans h
            refine JW.r hM 41 1 (pc2 := 79) (L2 := [some (.ref 0), none, some (.ref 2), some (.int x3), some (.int v18)]) (st2 := [.int (0 : Int32)]) (μ2 := (hRT G25)) rfl trivial ?_
            cases h
            exact js_zret hM.1 hp hM.2.2.2.2.2.2.2.1 rfl (by rw [hM.2.2.2.2.2.1]; exact Nat.le_of_ble_eq_true rfl) (by rw [hM.2.2.2.2.2.2.1]; exact Nat.le_of_ble_eq_true rfl) (jat hM.2.1 42 rfl) hq
          · have h := (if_neg hc34).symm.trans h
            refine JW.r hM 38 1 (pc2 := 72) (L2 := [some (.ref 0), none, some (.ref 2), some (.int x3), some (.int v18)]) (st2 := [.ref 0]) (μ2 := (hRT G25)) rfl trivial ?_
            obtain ⟨v28, hv27, h⟩ := jbd h
            refine JW.cV (v := some (.int v28.1)) hM (m_X2_closes (jVX X) hM.1.2.2.2.2.2.2.2.2.2.1 N (jvw G25 0) v28 hv27) (sb_RT_Rd_0 G25) (bk_RT_Rd_0 G25 v28.2) rfl rfl rfl kc_X2_53 rfl rfl rfl rfl rfl (jat hM.2.1 39 rfl) (st := []) rfl ?_
            show JW X 0 0 75 [some (.ref 0), none, some (.ref 2), some (.int x3), some (.int v18)] [.int v28.1] (hRT (jpt G25 0 2 v28.2))
            obtain ⟨G29, e30, h⟩ := jlE h
            rw [e30]
            refine js_ifne (t := 80) hM.1 (jat hM.2.1 40 rfl) rfl (fun hc33 => ?_) (fun hc33 => ?_)
            · have h := (if_neg hc33).symm.trans h
              obtain ⟨G31, e32, h⟩ := jlE h
              refine JW.r hM 43 6 (pc2 := 90) (L2 := [some (.ref 0), none, some (.ref 2), some (.int x3), some (.int v18)]) (st2 := []) (μ2 := (hRT (jup G29 2 0 ((G29 2 0) + (1 : Int32))))) rfl trivial ?_
              rw [e32]
              refine JW.r hM 49 2 (pc2 := 30) (L2 := [some (.ref 0), none, some (.ref 2), some (.int (x3 + 1)), some (.int v18)]) (st2 := []) (μ2 := (hRT G31)) rfl trivial ?_
              exact JW.mask [true, false, true, true, false] (ih30 G31 (x3 + 1) h)
            · have h := (if_pos hc33).symm.trans h
              refine JW.r hM 41 1 (pc2 := 79) (L2 := [some (.ref 0), none, some (.ref 2), some (.int x3), some (.int v18)]) (st2 := [.int (0 : Int32)]) (μ2 := (hRT G29)) rfl trivial ?_
              cases h
              exact js_zret hM.1 hp hM.2.2.2.2.2.2.2.1 rfl (by rw [hM.2.2.2.2.2.1]; exact Nat.le_of_ble_eq_true rfl) (by rw [hM.2.2.2.2.2.2.1]; exact Nat.le_of_ble_eq_true rfl) (jat hM.2.1 42 rfl) hq
set_option maxHeartbeats 4000000 in
set_option maxRecDepth 100000 in
theorem t_X2_read {X : jX} {po : Option Value → jH → Prop} {px : String → jH → Prop} {sf : Bool} {B9 : Nat} (hM : jMX X kX2_read RX2 tbX2 5 ⟨6, 0, 0, 150⟩ (some .boolean) 12) (hp : jPost X sf B9 po px) (N : Nat) (G : Nat → Nat → Int32) (p0 : Int32) {res : Int32 × (Nat → Nat → Int32)} (h : p_X2_read N G p0 = some res) (hq : po (some (.int res.1)) (hRT res.2)) : JW X 0 0 0 [some (.ref 0), some (.int p0), some (.ref 2), none, none] [] (hRT G) := by
  unfold p_X2_read at h
  obtain ⟨G1, e2, h⟩ := jlE h
  refine JW.r hM 0 3 (pc2 := 5) (L2 := [some (.ref 0), some (.int p0), some (.ref 2), none, none]) (st2 := []) (μ2 := (hRT (jup G 0 4 p0))) rfl trivial ?_
  rw [e2]
  obtain ⟨G3, e4, h⟩ := jlE h
  refine JW.r hM 3 3 (pc2 := 10) (L2 := [some (.ref 0), some (.int p0), some (.ref 2), none, none]) (st2 := []) (μ2 := (hRT (jup G1 0 7 (0 : Int32)))) rfl trivial ?_
  rw [e4]
  obtain ⟨G5, e6, h⟩ := jlE h
  refine JW.r hM 6 3 (pc2 := 15) (L2 := [some (.ref 0), some (.int p0), some (.ref 2), none, none]) (st2 := []) (μ2 := (hRT (jup G3 0 1 (0 : Int32)))) rfl trivial ?_
  rw [e6]
  obtain ⟨G7, e8, h⟩ := jlE h
  refine JW.r hM 9 3 (pc2 := 20) (L2 := [some (.ref 0), some (.int p0), some (.ref 2), none, none]) (st2 := []) (μ2 := (hRT (jup G5 0 2 (-1 : Int32)))) rfl trivial ?_
  rw [e8]
  refine JW.r hM 12 1 (pc2 := 21) (L2 := [some (.ref 0), some (.int p0), some (.ref 2), none, none]) (st2 := [.ref 2]) (μ2 := (hRT G7)) rfl trivial ?_
  obtain ⟨v10, hv9, h⟩ := jbd h
  refine JW.cV (v := none) hM (m_X3_clear (jVX X) hM.1.2.2.2.2.2.2.2.2.2.1 N (jvw G7 2) v10 hv9) (sb_RT_Town_2 G7) (bk_RT_Town_2 G7 v10) rfl rfl rfl kc_X2_31 rfl rfl rfl rfl rfl (jat hM.2.1 13 rfl) (st := []) rfl ?_
  show JW X 0 0 24 [some (.ref 0), some (.int p0), some (.ref 2), none, none] [] (hRT (jpt G7 2 9 v10))
  obtain ⟨G11, e12, h⟩ := jlE h
  rw [e12]
  refine JW.r hM 14 1 (pc2 := 25) (L2 := [some (.ref 0), some (.int p0), some (.ref 2), none, none]) (st2 := [.ref 0]) (μ2 := (hRT G11)) rfl trivial ?_
  obtain ⟨v14, hv13, h⟩ := jbd h
  refine JW.cV (v := none) hM (m_X2_next (jVX X) hM.1.2.2.2.2.2.2.2.2.2.1 N (jvw G11 0) v14 hv13) (sb_RT_Rd_0 G11) (bk_RT_Rd_0 G11 v14) rfl rfl rfl kc_X2_36 rfl rfl rfl rfl rfl (jat hM.2.1 15 rfl) (st := []) rfl ?_
  show JW X 0 0 28 [some (.ref 0), some (.int p0), some (.ref 2), none, none] [] (hRT (jpt G11 0 2 v14))
  obtain ⟨G15, e16, h⟩ := jlE h
  rw [e16]
  refine JW.r hM 16 2 (pc2 := 30) (L2 := [some (.ref 0), some (.int p0), some (.ref 2), some (.int (0 : Int32)), none]) (st2 := []) (μ2 := (hRT G15)) rfl trivial ?_
  exact JW.mask [true, false, true, true, false] (t_X2_read_b30 hM hp N N G15 (0 : Int32) h hq)
theorem m_X2_read (V : jV) (hV : V.1.stackTraces = false) (N : Nat) (G : Nat → Nat → Int32) (p0 : Int32) (v : Int32 × (Nat → Nat → Int32)) (h : p_X2_read N G p0 = some v) : jMet V yX2_read (jws yX2_read cX2_read 5 (some .boolean)) ⟨6, 0, 0, 150⟩ true 1 [.ref 0, .int p0, .ref 2] (hRT G) (fun o ν => o = some (.int v.1) ∧ ν = (hRT v.2)) (fun _ _ => False) := by
  refine jmk (tb := tbX2) (C := kX2_read) hV rfl (by decide) tbX2_ok rfl kX2_read_ok rfl ?_
  intro X hM _ hp _
  exact t_X2_read hM hp N G p0 h ⟨rfl, rfl⟩

def p_X6_eat_b14 (N : Nat) (J : Nat → Nat → Int64) (G : Nat → Nat → Int32) (x1 : Int32) (s0 : Int32) : Option (Int32 × (Nat → Nat → Int32)) :=
  jlt (jup G 0 5 s0) fun G3 => if 0 < (G3 0 5) then (some ((0 : Int32), G3)) else ((p_X6_isEaten N G3 J x1).bind (fun v6 => if v6 = 0 then (jlt (jup G3 1 3 ((G3 1 3) ||| ((1 : Int32) <<< (x1 &&& 31)))) fun G7 => some ((1 : Int32), G7)) else (some ((0 : Int32), G3))))
def p_X6_eat (N : Nat) (G : Nat → Nat → Int32) (J : Nat → Nat → Int64) (p0 : Int32) : Option (Int32 × (Nat → Nat → Int32)) :=
  (p_X6_isThing N G J p0).bind (fun v2 => if v2 = 0 then (p_X6_eat_b14 N J G p0 (1 : Int32)) else (p_X6_eat_b14 N J G p0 (0 : Int32)))
set_option maxHeartbeats 4000000 in
set_option maxRecDepth 100000 in
theorem t_X6_eat_b14 {X : jX} {po : Option Value → jH → Prop} {px : String → jH → Prop} {sf : Bool} {B9 : Nat} (hM : jMX X kX6_eat RX6 tbX6 2 ⟨2, 0, 0, 46⟩ (some .boolean) 16) (hp : jPost X sf B9 po px) (N : Nat) (J : Nat → Nat → Int64) {res : Int32 × (Nat → Nat → Int32)} (G : Nat → Nat → Int32) (x1 : Int32) (s0 : Int32) (h : p_X6_eat_b14 N J G x1 s0 = some res) (hq : po (some (.int res.1)) (hMo res.2 J)) : JW X 0 0 14 [some (.ref 0), some (.int x1)] [.int s0, .ref 0] (hMo G J) := by
  unfold p_X6_eat_b14 at h
  obtain ⟨G3, e4, h⟩ := jlE h
  refine JW.r hM 8 1 (pc2 := 17) (L2 := [some (.ref 0), some (.int x1)]) (st2 := []) (μ2 := (hMo (jup G 0 5 s0) J)) rfl trivial ?_
  rw [e4]
  refine JW.r hM 9 2 (pc2 := 21) (L2 := [some (.ref 0), some (.int x1)]) (st2 := [.int (G3 0 5)]) (μ2 := (hMo G3 J)) rfl trivial ?_
  refine js_ifgt (t := 32) hM.1 (jat hM.2.1 11 rfl) rfl (fun hc10 => ?_) (fun hc10 => ?_)
  · have h := (if_pos hc10).symm.trans h
    refine JW.r hM 16 1 (pc2 := 33) (L2 := [some (.ref 0), some (.int x1)]) (st2 := [.int (0 : Int32)]) (μ2 := (hMo G3 J)) rfl trivial ?_
    obtain rfl := Option.some.inj h
    exact js_zret hM.1 hp hM.2.2.2.2.2.2.2.1 rfl (by rw [hM.2.2.2.2.2.1]; exact Nat.le_of_ble_eq_true rfl) (by rw [hM.2.2.2.2.2.2.1]; exact Nat.le_of_ble_eq_true rfl) (jat hM.2.1 17 rfl) hq
  · have h := (if_neg hc10).symm.trans h
    refine JW.r hM 12 2 (pc2 := 26) (L2 := [some (.ref 0), some (.int x1)]) (st2 := [.int x1, .ref 0]) (μ2 := (hMo G3 J)) rfl trivial ?_
    obtain ⟨v6, hv5, h⟩ := jbd h
    refine JW.cV (v := some (.int v6)) hM (m_X6_isEaten (jVX X) hM.1.2.2.2.2.2.2.2.2.2.1 N G3 J x1 v6 hv5) (sb_Mo_Mo_0 G3 J) (bi_Mo_Mo_0 G3 J) rfl rfl rfl kc_X6_200 rfl rfl rfl rfl rfl (jat hM.2.1 14 rfl) (st := []) rfl ?_
    show JW X 0 0 29 [some (.ref 0), some (.int x1)] [.int v6] (hMo G3 J)
    refine js_ifeq (t := 34) hM.1 (jat hM.2.1 15 rfl) rfl (fun hc9 => ?_) (fun hc9 => ?_)
    · have h := (if_pos hc9).symm.trans h
      obtain ⟨G7, e8, h⟩ := jlE h
      refine JW.r hM 18 10 (pc2 := 46) (L2 := [some (.ref 0), some (.int x1)]) (st2 := []) (μ2 := (hMo (jup G3 1 3 ((G3 1 3) ||| ((1 : Int32) <<< (x1 &&& 31)))) J)) rfl ⟨rfl, rfl, trivial⟩ ?_
      rw [e8]
      refine JW.r hM 28 1 (pc2 := 47) (L2 := [some (.ref 0), some (.int x1)]) (st2 := [.int (1 : Int32)]) (μ2 := (hMo G7 J)) rfl trivial ?_
      obtain rfl := Option.some.inj h
      exact js_zret hM.1 hp hM.2.2.2.2.2.2.2.1 rfl (by rw [hM.2.2.2.2.2.1]; exact Nat.le_of_ble_eq_true rfl) (by rw [hM.2.2.2.2.2.2.1]; exact Nat.le_of_ble_eq_true rfl) (jat hM.2.1 29 rfl) hq
    · have h := (if_neg hc9).symm.trans h
      refine JW.r hM 16 1 (pc2 := 33) (L2 := [some (.ref 0), some (.int x1)]) (st2 := [.int (0 : Int32)]) (μ2 := (hMo G3 J)) rfl trivial ?_
      obtain rfl := Option.some.inj h
      exact js_zret hM.1 hp hM.2.2.2.2.2.2.2.1 rfl (by rw [hM.2.2.2.2.2.1]; exact Nat.le_of_ble_eq_true rfl) (by rw [hM.2.2.2.2.2.2.1]; exact Nat.le_of_ble_eq_true rfl) (jat hM.2.1 17 rfl) hq
set_option maxHeartbeats 4000000 in
set_option maxRecDepth 100000 in
theorem t_X6_eat {X : jX} {po : Option Value → jH → Prop} {px : String → jH → Prop} {sf : Bool} {B9 : Nat} (hM : jMX X kX6_eat RX6 tbX6 2 ⟨2, 0, 0, 46⟩ (some .boolean) 16) (hp : jPost X sf B9 po px) (N : Nat) (G : Nat → Nat → Int32) (J : Nat → Nat → Int64) (p0 : Int32) {res : Int32 × (Nat → Nat → Int32)} (h : p_X6_eat N G J p0 = some res) (hq : po (some (.int res.1)) (hMo res.2 J)) : JW X 0 0 0 [some (.ref 0), some (.int p0)] [] (hMo G J) := by
  unfold p_X6_eat at h
  refine JW.r hM 0 3 (pc2 := 3) (L2 := [some (.ref 0), some (.int p0)]) (st2 := [.int p0, .ref 0, .ref 0]) (μ2 := (hMo G J)) rfl trivial ?_
  obtain ⟨v2, hv1, h⟩ := jbd h
  refine JW.cV (v := some (.int v2)) hM (m_X6_isThing (jVX X) hM.1.2.2.2.2.2.2.2.2.2.1 N G J p0 v2 hv1) (sb_Mo_Mo_0 G J) (bi_Mo_Mo_0 G J) rfl rfl rfl kc_X6_197 rfl rfl rfl rfl rfl (jat hM.2.1 3 rfl) (st := [.ref 0]) rfl ?_
  show JW X 0 0 6 [some (.ref 0), some (.int p0)] [.int v2, .ref 0] (hMo G J)
  refine js_ifeq (t := 13) hM.1 (jat hM.2.1 4 rfl) rfl (fun hc11 => ?_) (fun hc11 => ?_)
  · have h := (if_pos hc11).symm.trans h
    refine JW.r hM 7 1 (pc2 := 14) (L2 := [some (.ref 0), some (.int p0)]) (st2 := [.int (1 : Int32), .ref 0]) (μ2 := (hMo G J)) rfl trivial ?_
    exact t_X6_eat_b14 hM hp N J G p0 (1 : Int32) h hq
  · have h := (if_neg hc11).symm.trans h
    refine JW.r hM 5 2 (pc2 := 14) (L2 := [some (.ref 0), some (.int p0)]) (st2 := [.int (0 : Int32), .ref 0]) (μ2 := (hMo G J)) rfl trivial ?_
    exact t_X6_eat_b14 hM hp N J G p0 (0 : Int32) h hq
theorem m_X6_eat (V : jV) (hV : V.1.stackTraces = false) (N : Nat) (G : Nat → Nat → Int32) (J : Nat → Nat → Int64) (p0 : Int32) (v : Int32 × (Nat → Nat → Int32)) (h : p_X6_eat N G J p0 = some v) : jMet V yX6_eat (jws yX6_eat cX6_eat 2 (some .boolean)) ⟨2, 0, 0, 46⟩ true 1 [.ref 0, .int p0] (hMo G J) (fun o ν => o = some (.int v.1) ∧ ν = (hMo v.2 J)) (fun _ _ => False) := by
  refine jmk (tb := tbX6) (C := kX6_eat) hV rfl (by decide) tbX6_ok rfl kX6_eat_ok rfl ?_
  intro X hM _ hp _
  exact t_X6_eat hM hp N G J p0 h ⟨rfl, rfl⟩
def p_X6_pass (N : Nat) (G : Nat → Nat → Int32) (J : Nat → Nat → Int64) (p0 : Int32) : Option (Int32 × (Nat → Nat → Int32)) :=
  jlt (jup G 0 5 (0 : Int32)) fun G1 => (p_X6_within N (p0.toInt64) (0 : Int64) (999 : Int64)).bind (fun v4 => if v4 = 0 then ((p_X6_fails N G1 J (1 : Int32)).bind (fun v8 => jlt v8.2 fun G9 => some (v8.1, G9))) else (jlt (jup G1 1 6 (if ((G1 1 6) + p0) < (1000 : Int32) then ((G1 1 6) + p0) else (1000 : Int32))) fun G5 => some ((G5 1 6), G5)))
set_option maxHeartbeats 4000000 in
set_option maxRecDepth 100000 in
theorem t_X6_pass {X : jX} {po : Option Value → jH → Prop} {px : String → jH → Prop} {sf : Bool} {B9 : Nat} (hM : jMX X kX6_pass RX6 tbX6 2 ⟨1, 0, 0, 25⟩ (some .int) 16) (hp : jPost X sf B9 po px) (N : Nat) (G : Nat → Nat → Int32) (J : Nat → Nat → Int64) (p0 : Int32) {res : Int32 × (Nat → Nat → Int32)} (h : p_X6_pass N G J p0 = some res) (hq : po (some (.int res.1)) (hMo res.2 J)) : JW X 0 0 0 [some (.ref 0), some (.int p0)] [] (hMo G J) := by
  unfold p_X6_pass at h
  obtain ⟨G1, e2, h⟩ := jlE h
  refine JW.r hM 0 3 (pc2 := 5) (L2 := [some (.ref 0), some (.int p0)]) (st2 := []) (μ2 := (hMo (jup G 0 5 (0 : Int32)) J)) rfl trivial ?_
  rw [e2]
  refine JW.r hM 3 4 (pc2 := 11) (L2 := [some (.ref 0), some (.int p0)]) (st2 := [.long (999 : Int64), .long (0 : Int64), .long (p0.toInt64)]) (μ2 := (hMo G1 J)) rfl trivial ?_
  obtain ⟨v4, hv3, h⟩ := jbd h
  refine JW.cS (v := some (.int v4)) hM (m_X6_within (jVX X) hM.1.2.2.2.2.2.2.2.2.2.1 N (p0.toInt64) (0 : Int64) (999 : Int64) v4 hv3) (sb_Mo_E_ G1 J) (bi_Mo_E_ G1 J) rfl rfl rfl kc_X6_122 rfl rfl rfl (jat hM.2.1 7 rfl) (st := []) rfl ?_
  show JW X 0 0 14 [some (.ref 0), some (.int p0)] [.int v4] (hMo G1 J)
  refine js_ifne (t := 23) hM.1 (jat hM.2.1 8 rfl) rfl (fun hc11 => ?_) (fun hc11 => ?_)
  · have h := (if_neg hc11).symm.trans h
    refine JW.r hM 13 10 (pc2 := 41) (L2 := [some (.ref 0), some (.int p0)]) (st2 := [.int ((G1 1 6) + p0), .int (1000 : Int32), .int (6 : Int32), .ref 1]) (μ2 := (hMo G1 J)) rfl ⟨rfl, trivial⟩ ?_
    refine js_min hM.1 (by rw [hM.2.2.1]; exact mx_X6_203) (jat hM.2.1 23 rfl) (by rw [hM.2.2.2.2.1]; exact Nat.le_of_ble_eq_true rfl) (by rw [hM.2.2.2.2.1]; exact Nat.le_of_ble_eq_true rfl) (by rw [hM.2.2.2.2.1]; exact Nat.le_of_ble_eq_true rfl) (by rw [hM.2.2.2.2.1]; exact Nat.le_of_ble_eq_true rfl) ?_
    show JW X 0 0 44 [some (.ref 0), some (.int p0)] [.int (if ((G1 1 6) + p0) < (1000 : Int32) then ((G1 1 6) + p0) else (1000 : Int32)), .int (6 : Int32), .ref 1] (hMo G1 J)
    obtain ⟨G5, e6, h⟩ := jlE h
    refine JW.r hM 24 1 (pc2 := 45) (L2 := [some (.ref 0), some (.int p0)]) (st2 := []) (μ2 := (hMo (jup G1 1 6 (if ((G1 1 6) + p0) < (1000 : Int32) then ((G1 1 6) + p0) else (1000 : Int32))) J)) rfl ⟨rfl, trivial⟩ ?_
    rw [e6]
    refine JW.r hM 25 4 (pc2 := 52) (L2 := [some (.ref 0), some (.int p0)]) (st2 := [.int (G5 1 6)]) (μ2 := (hMo G5 J)) rfl ⟨rfl, trivial⟩ ?_
    obtain rfl := Option.some.inj h
    exact js_iret hM.1 hp hM.2.2.2.2.2.2.2.1 (by rw [hM.2.2.2.2.2.1]; exact Nat.le_of_ble_eq_true rfl) (by rw [hM.2.2.2.2.2.2.1]; exact Nat.le_of_ble_eq_true rfl) (jat hM.2.1 29 rfl) hq
  · have h := (if_pos hc11).symm.trans h
    refine JW.r hM 9 2 (pc2 := 19) (L2 := [some (.ref 0), some (.int p0)]) (st2 := [.int (1 : Int32), .ref 0]) (μ2 := (hMo G1 J)) rfl trivial ?_
    obtain ⟨v8, hv7, h⟩ := jbd h
    refine JW.cV (v := some (.int v8.1)) hM (m_X6_fails (jVX X) hM.1.2.2.2.2.2.2.2.2.2.1 N G1 J (1 : Int32) v8 hv7) (sb_Mo_Mo_0 G1 J) (bk_Mo_Mo_0 G1 J v8.2 J) rfl rfl rfl kc_X6_170 rfl rfl rfl rfl rfl (jat hM.2.1 11 rfl) (st := []) rfl ?_
    show JW X 0 0 22 [some (.ref 0), some (.int p0)] [.int v8.1] (hMo v8.2 J)
    obtain ⟨G9, e10, h⟩ := jlE h
    rw [e10]
    obtain rfl := Option.some.inj h
    exact js_iret hM.1 hp hM.2.2.2.2.2.2.2.1 (by rw [hM.2.2.2.2.2.1]; exact Nat.le_of_ble_eq_true rfl) (by rw [hM.2.2.2.2.2.2.1]; exact Nat.le_of_ble_eq_true rfl) (jat hM.2.1 12 rfl) hq
theorem m_X6_pass (V : jV) (hV : V.1.stackTraces = false) (N : Nat) (G : Nat → Nat → Int32) (J : Nat → Nat → Int64) (p0 : Int32) (v : Int32 × (Nat → Nat → Int32)) (h : p_X6_pass N G J p0 = some v) : jMet V yX6_pass (jws yX6_pass cX6_pass 2 (some .int)) ⟨1, 0, 0, 25⟩ true 1 [.ref 0, .int p0] (hMo G J) (fun o ν => o = some (.int v.1) ∧ ν = (hMo v.2 J)) (fun _ _ => False) := by
  refine jmk (tb := tbX6) (C := kX6_pass) hV rfl (by decide) tbX6_ok rfl kX6_pass_ok rfl ?_
  intro X hM _ hp _
  exact t_X6_pass hM hp N G J p0 h ⟨rfl, rfl⟩
def p_X6_of (N : Nat) (G : Nat → Nat → Int32) (J : Nat → Nat → Int64) (p0 : Int32) (p1 : Int32) : Option (Int32) :=
  if jin (((84 : Int32) + ((6 : Int32) * p0)) + p1) 264 = true then some (G 1 (((84 : Int32) + ((6 : Int32) * p0)) + p1).toNatClampNeg) else none
set_option maxHeartbeats 4000000 in
set_option maxRecDepth 100000 in
theorem t_X6_of {X : jX} {po : Option Value → jH → Prop} {px : String → jH → Prop} {sf : Bool} {B9 : Nat} (hM : jMX X kX6_of RX6 tbX6 3 ⟨0, 0, 0, 0⟩ (some .int) 16) (hp : jPost X sf B9 po px) (N : Nat) (G : Nat → Nat → Int32) (J : Nat → Nat → Int64) (p0 : Int32) (p1 : Int32) {res : Int32} (h : p_X6_of N G J p0 p1 = some res) (hq : po (some (.int res)) (hMo G J)) : JW X 0 0 0 [some (.ref 0), some (.int p0), some (.int p1)] [] (hMo G J) := by
  unfold p_X6_of at h
  obtain ⟨g1, h⟩ := jg h
  refine JW.r hM 0 10 (pc2 := 14) (L2 := [some (.ref 0), some (.int p0), some (.int p1)]) (st2 := [.int (G 1 (((84 : Int32) + ((6 : Int32) * p0)) + p1).toNatClampNeg)]) (μ2 := (hMo G J)) rfl ⟨g1, trivial⟩ ?_
  obtain rfl := Option.some.inj h
  exact js_iret hM.1 hp hM.2.2.2.2.2.2.2.1 (by rw [hM.2.2.2.2.2.1]; exact Nat.le_of_ble_eq_true rfl) (by rw [hM.2.2.2.2.2.2.1]; exact Nat.le_of_ble_eq_true rfl) (jat hM.2.1 10 rfl) hq
theorem m_X6_of (V : jV) (hV : V.1.stackTraces = false) (N : Nat) (G : Nat → Nat → Int32) (J : Nat → Nat → Int64) (p0 : Int32) (p1 : Int32) (v : Int32) (h : p_X6_of N G J p0 p1 = some v) : jMet V yX6_of (jws yX6_of cX6_of 3 (some .int)) ⟨0, 0, 0, 0⟩ true 1 [.ref 0, .int p0, .int p1] (hMo G J) (fun o ν => o = some (.int v) ∧ ν = (hMo G J)) (fun _ _ => False) := by
  refine jmk (tb := tbX6) (C := kX6_of) hV rfl (by decide) tbX6_ok rfl kX6_of_ok rfl ?_
  intro X hM _ hp _
  exact t_X6_of hM hp N G J p0 p1 h ⟨rfl, rfl⟩
def p_X6_standMany_b4 (N : Nat) (G : Nat → Nat → Int32) (J : Nat → Nat → Int64) : Nat → (Int32) → (Int32) → Option (Int32)
  | 0, _, _ => none
  | n + 1, x1, x2 => if (G 1 7) ≤ x2 then (some x1) else ((p_X6_of N G J x2 (4 : Int32)).bind (fun v2 => (p_X6_standMany_b4 N G J n) (x1 + v2) (x2 + 1)))
def p_X6_standMany (N : Nat) (G : Nat → Nat → Int32) (J : Nat → Nat → Int64) : Option (Int32) :=
  p_X6_standMany_b4 N G J N (0 : Int32) (0 : Int32)
set_option maxHeartbeats 4000000 in
set_option maxRecDepth 100000 in
theorem t_X6_standMany_b4 {X : jX} {po : Option Value → jH → Prop} {px : String → jH → Prop} {sf : Bool} {B9 : Nat} (hM : jMX X kX6_standMany RX6 tbX6 3 ⟨1, 0, 0, 22⟩ (some .int) 16) (hp : jPost X sf B9 po px) (N : Nat) (G : Nat → Nat → Int32) (J : Nat → Nat → Int64) {res : Int32} : ∀ (n : Nat) (x1 : Int32) (x2 : Int32) (h : p_X6_standMany_b4 N G J n x1 x2 = some res) (hq : po (some (.int res)) (hMo G J)), JW X 0 0 4 [some (.ref 0), some (.int x1), some (.int x2)] [] (hMo G J) := by
  intro n
  induction n with
  | zero =>
    intro x1 x2 h hq
    cases (show (none : Option (Int32)) = some res from h)
  | succ n ih4 =>
    intro x1 x2 h hq
    have ih4 := fun x1 x2 h9 => ih4 x1 x2 h9 hq
    rw [p_X6_standMany_b4] at h
    refine JW.r hM 4 5 (pc2 := 12) (L2 := [some (.ref 0), some (.int x1), some (.int x2)]) (st2 := [.int (G 1 7), .int x2]) (μ2 := (hMo G J)) rfl ⟨rfl, trivial⟩ ?_
    refine js_icge (t := 30) hM.1 (jat hM.2.1 9 rfl) rfl (fun hc3 => ?_) (fun hc3 => ?_)
    · have h := (if_pos hc3).symm.trans h
      refine JW.r hM 19 1 (pc2 := 31) (L2 := [some (.ref 0), some (.int x1), some (.int x2)]) (st2 := [.int x1]) (μ2 := (hMo G J)) rfl trivial ?_
      obtain rfl := Option.some.inj h
      exact js_iret hM.1 hp hM.2.2.2.2.2.2.2.1 (by rw [hM.2.2.2.2.2.1]; exact Nat.le_of_ble_eq_true rfl) (by rw [hM.2.2.2.2.2.2.1]; exact Nat.le_of_ble_eq_true rfl) (jat hM.2.1 20 rfl) hq
    · have h := (if_neg hc3).symm.trans h
      refine JW.r hM 10 4 (pc2 := 19) (L2 := [some (.ref 0), some (.int x1), some (.int x2)]) (st2 := [.int (4 : Int32), .int x2, .ref 0, .int x1]) (μ2 := (hMo G J)) rfl trivial ?_
      obtain ⟨v2, hv1, h⟩ := jbd h
      refine JW.cV (v := some (.int v2)) hM (m_X6_of (jVX X) hM.1.2.2.2.2.2.2.2.2.2.1 N G J x2 (4 : Int32) v2 hv1) (sb_Mo_Mo_0 G J) (bi_Mo_Mo_0 G J) rfl rfl rfl kc_X6_208 rfl rfl rfl rfl rfl (jat hM.2.1 14 rfl) (st := [.int x1]) rfl ?_
      show JW X 0 0 22 [some (.ref 0), some (.int x1), some (.int x2)] [.int v2, .int x1] (hMo G J)
      refine JW.r hM 15 4 (pc2 := 4) (L2 := [some (.ref 0), some (.int (x1 + v2)), some (.int (x2 + 1))]) (st2 := []) (μ2 := (hMo G J)) rfl trivial ?_
      exact ih4 (x1 + v2) (x2 + 1) h
set_option maxHeartbeats 4000000 in
set_option maxRecDepth 100000 in
theorem t_X6_standMany {X : jX} {po : Option Value → jH → Prop} {px : String → jH → Prop} {sf : Bool} {B9 : Nat} (hM : jMX X kX6_standMany RX6 tbX6 3 ⟨1, 0, 0, 22⟩ (some .int) 16) (hp : jPost X sf B9 po px) (N : Nat) (G : Nat → Nat → Int32) (J : Nat → Nat → Int64) {res : Int32} (h : p_X6_standMany N G J = some res) (hq : po (some (.int res)) (hMo G J)) : JW X 0 0 0 [some (.ref 0), none, none] [] (hMo G J) := by
  unfold p_X6_standMany at h
  refine JW.r hM 0 4 (pc2 := 4) (L2 := [some (.ref 0), some (.int (0 : Int32)), some (.int (0 : Int32))]) (st2 := []) (μ2 := (hMo G J)) rfl trivial ?_
  exact t_X6_standMany_b4 hM hp N G J N (0 : Int32) (0 : Int32) h hq
theorem m_X6_standMany (V : jV) (hV : V.1.stackTraces = false) (N : Nat) (G : Nat → Nat → Int32) (J : Nat → Nat → Int64) (v : Int32) (h : p_X6_standMany N G J = some v) : jMet V yX6_standMany (jws yX6_standMany cX6_standMany 3 (some .int)) ⟨1, 0, 0, 22⟩ true 1 [.ref 0] (hMo G J) (fun o ν => o = some (.int v) ∧ ν = (hMo G J)) (fun _ _ => False) := by
  refine jmk (tb := tbX6) (C := kX6_standMany) hV rfl (by decide) tbX6_ok rfl kX6_standMany_ok rfl ?_
  intro X hM _ hp _
  exact t_X6_standMany hM hp N G J h ⟨rfl, rfl⟩
def p_X6_morning (N : Nat) (G : Nat → Nat → Int32) (J : Nat → Nat → Int64) : Option (Int32 × (Nat → Nat → Int32)) :=
  jlt (jup G 0 5 (0 : Int32)) fun G1 => (p_X6_hasRung N G1 J).bind (fun v4 => if v4 = 0 then ((p_X6_fails N G1 J (1 : Int32)).bind (fun v12 => jlt v12.2 fun G13 => some (v12.1, G13))) else ((p_X6_standMany N G1 J).bind (fun v6 => jlt (jup G1 1 6 (0 : Int32)) fun G7 => jlt (jup G7 1 7 (0 : Int32)) fun G9 => some (v6, G9))))
set_option maxHeartbeats 4000000 in
set_option maxRecDepth 100000 in
theorem t_X6_morning {X : jX} {po : Option Value → jH → Prop} {px : String → jH → Prop} {sf : Bool} {B9 : Nat} (hM : jMX X kX6_morning RX6 tbX6 2 ⟨2, 0, 0, 44⟩ (some .int) 16) (hp : jPost X sf B9 po px) (N : Nat) (G : Nat → Nat → Int32) (J : Nat → Nat → Int64) {res : Int32 × (Nat → Nat → Int32)} (h : p_X6_morning N G J = some res) (hq : po (some (.int res.1)) (hMo res.2 J)) : JW X 0 0 0 [some (.ref 0), none] [] (hMo G J) := by
  unfold p_X6_morning at h
  obtain ⟨G1, e2, h⟩ := jlE h
  refine JW.r hM 0 3 (pc2 := 5) (L2 := [some (.ref 0), none]) (st2 := []) (μ2 := (hMo (jup G 0 5 (0 : Int32)) J)) rfl trivial ?_
  rw [e2]
  refine JW.r hM 3 1 (pc2 := 6) (L2 := [some (.ref 0), none]) (st2 := [.ref 0]) (μ2 := (hMo G1 J)) rfl trivial ?_
  obtain ⟨v4, hv3, h⟩ := jbd h
  refine JW.cV (v := some (.int v4)) hM (m_X6_hasRung (jVX X) hM.1.2.2.2.2.2.2.2.2.2.1 N G1 J v4 hv3) (sb_Mo_Mo_0 G1 J) (bi_Mo_Mo_0 G1 J) rfl rfl rfl kc_X6_211 rfl rfl rfl rfl rfl (jat hM.2.1 4 rfl) (st := []) rfl ?_
  show JW X 0 0 9 [some (.ref 0), none] [.int v4] (hMo G1 J)
  refine js_ifne (t := 18) hM.1 (jat hM.2.1 5 rfl) rfl (fun hc15 => ?_) (fun hc15 => ?_)
  · have h := (if_neg hc15).symm.trans h
    refine JW.r hM 10 1 (pc2 := 19) (L2 := [some (.ref 0), none]) (st2 := [.ref 0]) (μ2 := (hMo G1 J)) rfl trivial ?_
    obtain ⟨v6, hv5, h⟩ := jbd h
    refine JW.cV (v := some (.int v6)) hM (m_X6_standMany (jVX X) hM.1.2.2.2.2.2.2.2.2.2.1 N G1 J v6 hv5) (sb_Mo_Mo_0 G1 J) (bi_Mo_Mo_0 G1 J) rfl rfl rfl kc_X6_215 rfl rfl rfl rfl rfl (jat hM.2.1 11 rfl) (st := []) rfl ?_
    show JW X 0 0 22 [some (.ref 0), none] [.int v6] (hMo G1 J)
    obtain ⟨G7, e8, h⟩ := jlE h
    refine JW.r hM 12 6 (pc2 := 31) (L2 := [some (.ref 0), some (.int v6)]) (st2 := []) (μ2 := (hMo (jup G1 1 6 (0 : Int32)) J)) rfl ⟨rfl, trivial⟩ ?_
    rw [e8]
    obtain ⟨G9, e10, h⟩ := jlE h
    refine JW.r hM 18 5 (pc2 := 39) (L2 := [some (.ref 0), some (.int v6)]) (st2 := []) (μ2 := (hMo (jup G7 1 7 (0 : Int32)) J)) rfl ⟨rfl, trivial⟩ ?_
    rw [e10]
    refine JW.r hM 23 1 (pc2 := 40) (L2 := [some (.ref 0), some (.int v6)]) (st2 := [.int v6]) (μ2 := (hMo G9 J)) rfl trivial ?_
    obtain rfl := Option.some.inj h
    exact js_iret hM.1 hp hM.2.2.2.2.2.2.2.1 (by rw [hM.2.2.2.2.2.1]; exact Nat.le_of_ble_eq_true rfl) (by rw [hM.2.2.2.2.2.2.1]; exact Nat.le_of_ble_eq_true rfl) (jat hM.2.1 24 rfl) hq
  · have h := (if_pos hc15).symm.trans h
    refine JW.r hM 6 2 (pc2 := 14) (L2 := [some (.ref 0), none]) (st2 := [.int (1 : Int32), .ref 0]) (μ2 := (hMo G1 J)) rfl trivial ?_
    obtain ⟨v12, hv11, h⟩ := jbd h
    refine JW.cV (v := some (.int v12.1)) hM (m_X6_fails (jVX X) hM.1.2.2.2.2.2.2.2.2.2.1 N G1 J (1 : Int32) v12 hv11) (sb_Mo_Mo_0 G1 J) (bk_Mo_Mo_0 G1 J v12.2 J) rfl rfl rfl kc_X6_170 rfl rfl rfl rfl rfl (jat hM.2.1 8 rfl) (st := []) rfl ?_
    show JW X 0 0 17 [some (.ref 0), none] [.int v12.1] (hMo v12.2 J)
    obtain ⟨G13, e14, h⟩ := jlE h
    rw [e14]
    obtain rfl := Option.some.inj h
    exact js_iret hM.1 hp hM.2.2.2.2.2.2.2.1 (by rw [hM.2.2.2.2.2.1]; exact Nat.le_of_ble_eq_true rfl) (by rw [hM.2.2.2.2.2.2.1]; exact Nat.le_of_ble_eq_true rfl) (jat hM.2.1 9 rfl) hq
theorem m_X6_morning (V : jV) (hV : V.1.stackTraces = false) (N : Nat) (G : Nat → Nat → Int32) (J : Nat → Nat → Int64) (v : Int32 × (Nat → Nat → Int32)) (h : p_X6_morning N G J = some v) : jMet V yX6_morning (jws yX6_morning cX6_morning 2 (some .int)) ⟨2, 0, 0, 44⟩ true 1 [.ref 0] (hMo G J) (fun o ν => o = some (.int v.1) ∧ ν = (hMo v.2 J)) (fun _ _ => False) := by
  refine jmk (tb := tbX6) (C := kX6_morning) hV rfl (by decide) tbX6_ok rfl kX6_morning_ok rfl ?_
  intro X hM _ hp _
  exact t_X6_morning hM hp N G J h ⟨rfl, rfl⟩
def p_X6_whyNoSale (N : Nat) (G : Nat → Nat → Int32) (J : Nat → Nat → Int64) (p0 : Int32) (p1 : Int32) (p2 : Int32) : Option (Int32) :=
  (p_X6_isThing N G J p0).bind (fun v2 => if v2 = 0 then (some (1 : Int32)) else ((p_X6_isPerson N G J p1).bind (fun v4 => if v4 = 0 then (some (1 : Int32)) else (if jin ((14 : Int32) + p0) 264 = true then if (G 1 ((14 : Int32) + p0).toNatClampNeg) = p1 then (some (1 : Int32)) else ((p_X6_within N (p2.toInt64) (0 : Int64) (9999 : Int64)).bind (fun v7 => if v7 = 0 then (some (2 : Int32)) else (if jin ((8 : Int32) + p1) 264 = true then if p2 ≤ (G 1 ((8 : Int32) + p1).toNatClampNeg) then ((p_X6_hasRung N G J).bind (fun v10 => if v10 = 0 then ((p_X6_isEaten N G J p0).bind (fun v12 => if v12 = 0 then (if (G 1 7) = (30 : Int32) then (some (6 : Int32)) else (some (0 : Int32))) else (some (5 : Int32)))) else (some (4 : Int32)))) else (some (3 : Int32)) else none))) else none))))
set_option maxHeartbeats 4000000 in
set_option maxRecDepth 100000 in
theorem t_X6_whyNoSale {X : jX} {po : Option Value → jH → Prop} {px : String → jH → Prop} {sf : Bool} {B9 : Nat} (hM : jMX X kX6_whyNoSale RX6 tbX6 4 ⟨2, 0, 0, 46⟩ (some .int) 16) (hp : jPost X sf B9 po px) (N : Nat) (G : Nat → Nat → Int32) (J : Nat → Nat → Int64) (p0 : Int32) (p1 : Int32) (p2 : Int32) {res : Int32} (h : p_X6_whyNoSale N G J p0 p1 p2 = some res) (hq : po (some (.int res)) (hMo G J)) : JW X 0 0 0 [some (.ref 0), some (.int p0), some (.int p1), some (.int p2)] [] (hMo G J) := by
  unfold p_X6_whyNoSale at h
  refine JW.r hM 0 2 (pc2 := 2) (L2 := [some (.ref 0), some (.int p0), some (.int p1), some (.int p2)]) (st2 := [.int p0, .ref 0]) (μ2 := (hMo G J)) rfl trivial ?_
  obtain ⟨v2, hv1, h⟩ := jbd h
  refine JW.cV (v := some (.int v2)) hM (m_X6_isThing (jVX X) hM.1.2.2.2.2.2.2.2.2.2.1 N G J p0 v2 hv1) (sb_Mo_Mo_0 G J) (bi_Mo_Mo_0 G J) rfl rfl rfl kc_X6_197 rfl rfl rfl rfl rfl (jat hM.2.1 2 rfl) (st := []) rfl ?_
  show JW X 0 0 5 [some (.ref 0), some (.int p0), some (.int p1), some (.int p2)] [.int v2] (hMo G J)
  refine js_ifeq (t := 29) hM.1 (jat hM.2.1 3 rfl) rfl (fun hc20 => ?_) (fun hc20 => ?_)
  · have h := (if_pos hc20).symm.trans h
    refine JW.r hM 16 1 (pc2 := 30) (L2 := [some (.ref 0), some (.int p0), some (.int p1), some (.int p2)]) (st2 := [.int (1 : Int32)]) (μ2 := (hMo G J)) rfl trivial ?_
    obtain rfl := Option.some.inj h
    exact js_iret hM.1 hp hM.2.2.2.2.2.2.2.1 (by rw [hM.2.2.2.2.2.1]; exact Nat.le_of_ble_eq_true rfl) (by rw [hM.2.2.2.2.2.2.1]; exact Nat.le_of_ble_eq_true rfl) (jat hM.2.1 17 rfl) hq
  · have h := (if_neg hc20).symm.trans h
    refine JW.r hM 4 2 (pc2 := 10) (L2 := [some (.ref 0), some (.int p0), some (.int p1), some (.int p2)]) (st2 := [.int p1, .ref 0]) (μ2 := (hMo G J)) rfl trivial ?_
    obtain ⟨v4, hv3, h⟩ := jbd h
    refine JW.cV (v := some (.int v4)) hM (m_X6_isPerson (jVX X) hM.1.2.2.2.2.2.2.2.2.2.1 N G J p1 v4 hv3) (sb_Mo_Mo_0 G J) (bi_Mo_Mo_0 G J) rfl rfl rfl kc_X6_186 rfl rfl rfl rfl rfl (jat hM.2.1 6 rfl) (st := []) rfl ?_
    show JW X 0 0 13 [some (.ref 0), some (.int p0), some (.int p1), some (.int p2)] [.int v4] (hMo G J)
    refine js_ifeq (t := 29) hM.1 (jat hM.2.1 7 rfl) rfl (fun hc19 => ?_) (fun hc19 => ?_)
    · have h := (if_pos hc19).symm.trans h
      refine JW.r hM 16 1 (pc2 := 30) (L2 := [some (.ref 0), some (.int p0), some (.int p1), some (.int p2)]) (st2 := [.int (1 : Int32)]) (μ2 := (hMo G J)) rfl trivial ?_
      obtain rfl := Option.some.inj h
      exact js_iret hM.1 hp hM.2.2.2.2.2.2.2.1 (by rw [hM.2.2.2.2.2.1]; exact Nat.le_of_ble_eq_true rfl) (by rw [hM.2.2.2.2.2.2.1]; exact Nat.le_of_ble_eq_true rfl) (jat hM.2.1 17 rfl) hq
    · have h := (if_neg hc19).symm.trans h
      obtain ⟨g5, h⟩ := jg h
      refine JW.r hM 8 7 (pc2 := 26) (L2 := [some (.ref 0), some (.int p0), some (.int p1), some (.int p2)]) (st2 := [.int p1, .int (G 1 ((14 : Int32) + p0).toNatClampNeg)]) (μ2 := (hMo G J)) rfl ⟨g5, trivial⟩ ?_
      refine js_icne (t := 31) hM.1 (jat hM.2.1 15 rfl) rfl (fun hc18 => ?_) (fun hc18 => ?_)
      · have h := (if_neg hc18).symm.trans h
        refine JW.r hM 18 4 (pc2 := 37) (L2 := [some (.ref 0), some (.int p0), some (.int p1), some (.int p2)]) (st2 := [.long (9999 : Int64), .long (0 : Int64), .long (p2.toInt64)]) (μ2 := (hMo G J)) rfl trivial ?_
        obtain ⟨v7, hv6, h⟩ := jbd h
        refine JW.cS (v := some (.int v7)) hM (m_X6_within (jVX X) hM.1.2.2.2.2.2.2.2.2.2.1 N (p2.toInt64) (0 : Int64) (9999 : Int64) v7 hv6) (sb_Mo_E_ G J) (bi_Mo_E_ G J) rfl rfl rfl kc_X6_122 rfl rfl rfl (jat hM.2.1 22 rfl) (st := []) rfl ?_
        show JW X 0 0 40 [some (.ref 0), some (.int p0), some (.int p1), some (.int p2)] [.int v7] (hMo G J)
        refine js_ifne (t := 45) hM.1 (jat hM.2.1 23 rfl) rfl (fun hc17 => ?_) (fun hc17 => ?_)
        · have h := (if_neg hc17).symm.trans h
          obtain ⟨g8, h⟩ := jg h
          refine JW.r hM 26 7 (pc2 := 55) (L2 := [some (.ref 0), some (.int p0), some (.int p1), some (.int p2)]) (st2 := [.int p2, .int (G 1 ((8 : Int32) + p1).toNatClampNeg)]) (μ2 := (hMo G J)) rfl ⟨g8, trivial⟩ ?_
          refine js_icge (t := 60) hM.1 (jat hM.2.1 33 rfl) rfl (fun hc16 => ?_) (fun hc16 => ?_)
          · have h := (if_pos hc16).symm.trans h
            refine JW.r hM 36 1 (pc2 := 61) (L2 := [some (.ref 0), some (.int p0), some (.int p1), some (.int p2)]) (st2 := [.ref 0]) (μ2 := (hMo G J)) rfl trivial ?_
            obtain ⟨v10, hv9, h⟩ := jbd h
            refine JW.cV (v := some (.int v10)) hM (m_X6_hasRung (jVX X) hM.1.2.2.2.2.2.2.2.2.2.1 N G J v10 hv9) (sb_Mo_Mo_0 G J) (bi_Mo_Mo_0 G J) rfl rfl rfl kc_X6_211 rfl rfl rfl rfl rfl (jat hM.2.1 37 rfl) (st := []) rfl ?_
            show JW X 0 0 64 [some (.ref 0), some (.int p0), some (.int p1), some (.int p2)] [.int v10] (hMo G J)
            refine js_ifeq (t := 71) hM.1 (jat hM.2.1 38 rfl) rfl (fun hc15 => ?_) (fun hc15 => ?_)
            · have h := (if_pos hc15).symm.trans h
              refine JW.r hM 41 2 (pc2 := 73) (L2 := [some (.ref 0), some (.int p0), some (.int p1), some (.int p2)]) (st2 := [.int p0, .ref 0]) (μ2 := (hMo G J)) rfl trivial ?_
              obtain ⟨v12, hv11, h⟩ := jbd h
              refine JW.cV (v := some (.int v12)) hM (m_X6_isEaten (jVX X) hM.1.2.2.2.2.2.2.2.2.2.1 N G J p0 v12 hv11) (sb_Mo_Mo_0 G J) (bi_Mo_Mo_0 G J) rfl rfl rfl kc_X6_200 rfl rfl rfl rfl rfl (jat hM.2.1 43 rfl) (st := []) rfl ?_
              show JW X 0 0 76 [some (.ref 0), some (.int p0), some (.int p1), some (.int p2)] [.int v12] (hMo G J)
              refine js_ifeq (t := 83) hM.1 (jat hM.2.1 44 rfl) rfl (fun hc14 => ?_) (fun hc14 => ?_)
              · have h := (if_pos hc14).symm.trans h
                refine JW.r hM 47 5 (pc2 := 92) (L2 := [some (.ref 0), some (.int p0), some (.int p1), some (.int p2)]) (st2 := [.int (30 : Int32), .int (G 1 7)]) (μ2 := (hMo G J)) rfl ⟨rfl, trivial⟩ ?_
                refine js_icne (t := 100) hM.1 (jat hM.2.1 52 rfl) rfl (fun hc13 => ?_) (fun hc13 => ?_)
                · have h := (if_neg hc13).symm.trans h
                  refine JW.r hM 55 1 (pc2 := 101) (L2 := [some (.ref 0), some (.int p0), some (.int p1), some (.int p2)]) (st2 := [.int (0 : Int32)]) (μ2 := (hMo G J)) rfl trivial ?_
                  obtain rfl := Option.some.inj h
                  exact js_iret hM.1 hp hM.2.2.2.2.2.2.2.1 (by rw [hM.2.2.2.2.2.1]; exact Nat.le_of_ble_eq_true rfl) (by rw [hM.2.2.2.2.2.2.1]; exact Nat.le_of_ble_eq_true rfl) (jat hM.2.1 56 rfl) hq
                · have h := (if_pos hc13).symm.trans h
                  refine JW.r hM 53 2 (pc2 := 101) (L2 := [some (.ref 0), some (.int p0), some (.int p1), some (.int p2)]) (st2 := [.int (6 : Int32)]) (μ2 := (hMo G J)) rfl trivial ?_
                  obtain rfl := Option.some.inj h
                  exact js_iret hM.1 hp hM.2.2.2.2.2.2.2.1 (by rw [hM.2.2.2.2.2.1]; exact Nat.le_of_ble_eq_true rfl) (by rw [hM.2.2.2.2.2.2.1]; exact Nat.le_of_ble_eq_true rfl) (jat hM.2.1 56 rfl) hq
              · have h := (if_neg hc14).symm.trans h
                refine JW.r hM 45 2 (pc2 := 101) (L2 := [some (.ref 0), some (.int p0), some (.int p1), some (.int p2)]) (st2 := [.int (5 : Int32)]) (μ2 := (hMo G J)) rfl trivial ?_
                obtain rfl := Option.some.inj h
                exact js_iret hM.1 hp hM.2.2.2.2.2.2.2.1 (by rw [hM.2.2.2.2.2.1]; exact Nat.le_of_ble_eq_true rfl) (by rw [hM.2.2.2.2.2.2.1]; exact Nat.le_of_ble_eq_true rfl) (jat hM.2.1 56 rfl) hq
            · have h := (if_neg hc15).symm.trans h
              refine JW.r hM 39 2 (pc2 := 101) (L2 := [some (.ref 0), some (.int p0), some (.int p1), some (.int p2)]) (st2 := [.int (4 : Int32)]) (μ2 := (hMo G J)) rfl trivial ?_
              obtain rfl := Option.some.inj h
              exact js_iret hM.1 hp hM.2.2.2.2.2.2.2.1 (by rw [hM.2.2.2.2.2.1]; exact Nat.le_of_ble_eq_true rfl) (by rw [hM.2.2.2.2.2.2.1]; exact Nat.le_of_ble_eq_true rfl) (jat hM.2.1 56 rfl) hq
          · have h := (if_neg hc16).symm.trans h
            refine JW.r hM 34 1 (pc2 := 59) (L2 := [some (.ref 0), some (.int p0), some (.int p1), some (.int p2)]) (st2 := [.int (3 : Int32)]) (μ2 := (hMo G J)) rfl trivial ?_
            obtain rfl := Option.some.inj h
            exact js_iret hM.1 hp hM.2.2.2.2.2.2.2.1 (by rw [hM.2.2.2.2.2.1]; exact Nat.le_of_ble_eq_true rfl) (by rw [hM.2.2.2.2.2.2.1]; exact Nat.le_of_ble_eq_true rfl) (jat hM.2.1 35 rfl) hq
        · have h := (if_pos hc17).symm.trans h
          refine JW.r hM 24 1 (pc2 := 44) (L2 := [some (.ref 0), some (.int p0), some (.int p1), some (.int p2)]) (st2 := [.int (2 : Int32)]) (μ2 := (hMo G J)) rfl trivial ?_
          obtain rfl := Option.some.inj h
          exact js_iret hM.1 hp hM.2.2.2.2.2.2.2.1 (by rw [hM.2.2.2.2.2.1]; exact Nat.le_of_ble_eq_true rfl) (by rw [hM.2.2.2.2.2.2.1]; exact Nat.le_of_ble_eq_true rfl) (jat hM.2.1 25 rfl) hq
      · have h := (if_pos hc18).symm.trans h
        refine JW.r hM 16 1 (pc2 := 30) (L2 := [some (.ref 0), some (.int p0), some (.int p1), some (.int p2)]) (st2 := [.int (1 : Int32)]) (μ2 := (hMo G J)) rfl trivial ?_
        obtain rfl := Option.some.inj h
        exact js_iret hM.1 hp hM.2.2.2.2.2.2.2.1 (by rw [hM.2.2.2.2.2.1]; exact Nat.le_of_ble_eq_true rfl) (by rw [hM.2.2.2.2.2.2.1]; exact Nat.le_of_ble_eq_true rfl) (jat hM.2.1 17 rfl) hq
theorem m_X6_whyNoSale (V : jV) (hV : V.1.stackTraces = false) (N : Nat) (G : Nat → Nat → Int32) (J : Nat → Nat → Int64) (p0 : Int32) (p1 : Int32) (p2 : Int32) (v : Int32) (h : p_X6_whyNoSale N G J p0 p1 p2 = some v) : jMet V yX6_whyNoSale (jws yX6_whyNoSale cX6_whyNoSale 4 (some .int)) ⟨2, 0, 0, 46⟩ true 1 [.ref 0, .int p0, .int p1, .int p2] (hMo G J) (fun o ν => o = some (.int v) ∧ ν = (hMo G J)) (fun _ _ => False) := by
  refine jmk (tb := tbX6) (C := kX6_whyNoSale) hV rfl (by decide) tbX6_ok rfl kX6_whyNoSale_ok rfl ?_
  intro X hM _ hp _
  exact t_X6_whyNoSale hM hp N G J p0 p1 p2 h ⟨rfl, rfl⟩
def p_X6_sells (N : Nat) (G : Nat → Nat → Int32) (J : Nat → Nat → Int64) (p0 : Int32) (p1 : Int32) (p2 : Int32) : Option (Int32 × (Nat → Nat → Int32)) :=
  if jin ((14 : Int32) + p0) 264 = true then if jin (((84 : Int32) + ((6 : Int32) * (G 1 7))) + (0 : Int32)) 264 = true then jlt (jup G 1 (((84 : Int32) + ((6 : Int32) * (G 1 7))) + (0 : Int32)).toNatClampNeg p0) fun G3 => if jin (((84 : Int32) + ((6 : Int32) * (G 1 7))) + (1 : Int32)) 264 = true then jlt (jup G3 1 (((84 : Int32) + ((6 : Int32) * (G 1 7))) + (1 : Int32)).toNatClampNeg (G 1 ((14 : Int32) + p0).toNatClampNeg)) fun G6 => if jin (((84 : Int32) + ((6 : Int32) * (G 1 7))) + (2 : Int32)) 264 = true then jlt (jup G6 1 (((84 : Int32) + ((6 : Int32) * (G 1 7))) + (2 : Int32)).toNatClampNeg p1) fun G9 => if jin (((84 : Int32) + ((6 : Int32) * (G 1 7))) + (3 : Int32)) 264 = true then jlt (jup G9 1 (((84 : Int32) + ((6 : Int32) * (G 1 7))) + (3 : Int32)).toNatClampNeg p2) fun G12 => if jin (((84 : Int32) + ((6 : Int32) * (G 1 7))) + (4 : Int32)) 264 = true then jlt (jup G12 1 (((84 : Int32) + ((6 : Int32) * (G 1 7))) + (4 : Int32)).toNatClampNeg (1 : Int32)) fun G15 => if jin (((84 : Int32) + ((6 : Int32) * (G 1 7))) + (5 : Int32)) 264 = true then jlt (jup G15 1 (((84 : Int32) + ((6 : Int32) * (G 1 7))) + (5 : Int32)).toNatClampNeg (G15 1 6)) fun G18 => if jin ((14 : Int32) + p0) 264 = true then jlt (jup G18 1 ((14 : Int32) + p0).toNatClampNeg p1) fun G21 => if jin ((8 : Int32) + p1) 264 = true then if jin ((8 : Int32) + p1) 264 = true then jlt (jup G21 1 ((8 : Int32) + p1).toNatClampNeg ((G21 1 ((8 : Int32) + p1).toNatClampNeg) - p2)) fun G25 => if jin ((8 : Int32) + (G 1 ((14 : Int32) + p0).toNatClampNeg)) 264 = true then if jin ((8 : Int32) + (G 1 ((14 : Int32) + p0).toNatClampNeg)) 264 = true then jlt (jup G25 1 ((8 : Int32) + (G 1 ((14 : Int32) + p0).toNatClampNeg)).toNatClampNeg ((G25 1 ((8 : Int32) + (G 1 ((14 : Int32) + p0).toNatClampNeg)).toNatClampNeg) + p2)) fun G29 => jlt (jup G29 1 7 ((G29 1 7) + (1 : Int32))) fun G31 => some (((G31 1 7) - (1 : Int32)), G31) else none else none else none else none else none else none else none else none else none else none else none else none
set_option maxHeartbeats 4000000 in
set_option maxRecDepth 100000 in
theorem t_X6_sells {X : jX} {po : Option Value → jH → Prop} {px : String → jH → Prop} {sf : Bool} {B9 : Nat} (hM : jMX X kX6_sells RX6 tbX6 6 ⟨0, 0, 0, 0⟩ (some .int) 16) (hp : jPost X sf B9 po px) (N : Nat) (G : Nat → Nat → Int32) (J : Nat → Nat → Int64) (p0 : Int32) (p1 : Int32) (p2 : Int32) {res : Int32 × (Nat → Nat → Int32)} (h : p_X6_sells N G J p0 p1 p2 = some res) (hq : po (some (.int res.1)) (hMo res.2 J)) : JW X 0 0 0 [some (.ref 0), some (.int p0), some (.int p1), some (.int p2), none, none] [] (hMo G J) := by
  unfold p_X6_sells at h
  obtain ⟨g1, h⟩ := jg h
  obtain ⟨g2, h⟩ := jg h
  obtain ⟨G3, e4, h⟩ := jlE h
  refine JW.r hM 0 23 (pc2 := 36) (L2 := [some (.ref 0), some (.int p0), some (.int p1), some (.int p2), some (.int ((84 : Int32) + ((6 : Int32) * (G 1 7)))), some (.int (G 1 ((14 : Int32) + p0).toNatClampNeg))]) (st2 := []) (μ2 := (hMo (jup G 1 (((84 : Int32) + ((6 : Int32) * (G 1 7))) + (0 : Int32)).toNatClampNeg p0) J)) rfl ⟨rfl, g1, g2, trivial⟩ ?_
  rw [e4]
  obtain ⟨g5, h⟩ := jg h
  obtain ⟨G6, e7, h⟩ := jlE h
  refine JW.r hM 23 7 (pc2 := 47) (L2 := [some (.ref 0), some (.int p0), some (.int p1), some (.int p2), some (.int ((84 : Int32) + ((6 : Int32) * (G 1 7)))), some (.int (G 1 ((14 : Int32) + p0).toNatClampNeg))]) (st2 := []) (μ2 := (hMo (jup G3 1 (((84 : Int32) + ((6 : Int32) * (G 1 7))) + (1 : Int32)).toNatClampNeg (G 1 ((14 : Int32) + p0).toNatClampNeg)) J)) rfl ⟨g5, trivial⟩ ?_
  rw [e7]
  obtain ⟨g8, h⟩ := jg h
  obtain ⟨G9, e10, h⟩ := jlE h
  refine JW.r hM 30 7 (pc2 := 57) (L2 := [some (.ref 0), some (.int p0), some (.int p1), some (.int p2), some (.int ((84 : Int32) + ((6 : Int32) * (G 1 7)))), some (.int (G 1 ((14 : Int32) + p0).toNatClampNeg))]) (st2 := []) (μ2 := (hMo (jup G6 1 (((84 : Int32) + ((6 : Int32) * (G 1 7))) + (2 : Int32)).toNatClampNeg p1) J)) rfl ⟨g8, trivial⟩ ?_
  rw [e10]
  obtain ⟨g11, h⟩ := jg h
  obtain ⟨G12, e13, h⟩ := jlE h
  refine JW.r hM 37 7 (pc2 := 67) (L2 := [some (.ref 0), some (.int p0), some (.int p1), some (.int p2), some (.int ((84 : Int32) + ((6 : Int32) * (G 1 7)))), some (.int (G 1 ((14 : Int32) + p0).toNatClampNeg))]) (st2 := []) (μ2 := (hMo (jup G9 1 (((84 : Int32) + ((6 : Int32) * (G 1 7))) + (3 : Int32)).toNatClampNeg p2) J)) rfl ⟨g11, trivial⟩ ?_
  rw [e13]
  obtain ⟨g14, h⟩ := jg h
  obtain ⟨G15, e16, h⟩ := jlE h
  refine JW.r hM 44 7 (pc2 := 77) (L2 := [some (.ref 0), some (.int p0), some (.int p1), some (.int p2), some (.int ((84 : Int32) + ((6 : Int32) * (G 1 7)))), some (.int (G 1 ((14 : Int32) + p0).toNatClampNeg))]) (st2 := []) (μ2 := (hMo (jup G12 1 (((84 : Int32) + ((6 : Int32) * (G 1 7))) + (4 : Int32)).toNatClampNeg (1 : Int32)) J)) rfl ⟨g14, trivial⟩ ?_
  rw [e16]
  obtain ⟨g17, h⟩ := jg h
  obtain ⟨G18, e19, h⟩ := jlE h
  refine JW.r hM 51 10 (pc2 := 93) (L2 := [some (.ref 0), some (.int p0), some (.int p1), some (.int p2), some (.int ((84 : Int32) + ((6 : Int32) * (G 1 7)))), some (.int (G 1 ((14 : Int32) + p0).toNatClampNeg))]) (st2 := []) (μ2 := (hMo (jup G15 1 (((84 : Int32) + ((6 : Int32) * (G 1 7))) + (5 : Int32)).toNatClampNeg (G15 1 6)) J)) rfl ⟨rfl, g17, trivial⟩ ?_
  rw [e19]
  obtain ⟨g20, h⟩ := jg h
  obtain ⟨G21, e22, h⟩ := jlE h
  refine JW.r hM 61 7 (pc2 := 103) (L2 := [some (.ref 0), some (.int p0), some (.int p1), some (.int p2), some (.int ((84 : Int32) + ((6 : Int32) * (G 1 7)))), some (.int (G 1 ((14 : Int32) + p0).toNatClampNeg))]) (st2 := []) (μ2 := (hMo (jup G18 1 ((14 : Int32) + p0).toNatClampNeg p1) J)) rfl ⟨g20, trivial⟩ ?_
  rw [e22]
  obtain ⟨g23, h⟩ := jg h
  obtain ⟨g24, h⟩ := jg h
  obtain ⟨G25, e26, h⟩ := jlE h
  refine JW.r hM 68 10 (pc2 := 116) (L2 := [some (.ref 0), some (.int p0), some (.int p1), some (.int p2), some (.int ((84 : Int32) + ((6 : Int32) * (G 1 7)))), some (.int (G 1 ((14 : Int32) + p0).toNatClampNeg))]) (st2 := []) (μ2 := (hMo (jup G21 1 ((8 : Int32) + p1).toNatClampNeg ((G21 1 ((8 : Int32) + p1).toNatClampNeg) - p2)) J)) rfl ⟨g23, g24, trivial⟩ ?_
  rw [e26]
  obtain ⟨g27, h⟩ := jg h
  obtain ⟨g28, h⟩ := jg h
  obtain ⟨G29, e30, h⟩ := jlE h
  refine JW.r hM 78 10 (pc2 := 130) (L2 := [some (.ref 0), some (.int p0), some (.int p1), some (.int p2), some (.int ((84 : Int32) + ((6 : Int32) * (G 1 7)))), some (.int (G 1 ((14 : Int32) + p0).toNatClampNeg))]) (st2 := []) (μ2 := (hMo (jup G25 1 ((8 : Int32) + (G 1 ((14 : Int32) + p0).toNatClampNeg)).toNatClampNeg ((G25 1 ((8 : Int32) + (G 1 ((14 : Int32) + p0).toNatClampNeg)).toNatClampNeg) + p2)) J)) rfl ⟨g27, g28, trivial⟩ ?_
  rw [e30]
  obtain ⟨G31, e32, h⟩ := jlE h
  refine JW.r hM 88 8 (pc2 := 141) (L2 := [some (.ref 0), some (.int p0), some (.int p1), some (.int p2), some (.int ((84 : Int32) + ((6 : Int32) * (G 1 7)))), some (.int (G 1 ((14 : Int32) + p0).toNatClampNeg))]) (st2 := []) (μ2 := (hMo (jup G29 1 7 ((G29 1 7) + (1 : Int32))) J)) rfl ⟨rfl, rfl, trivial⟩ ?_
  rw [e32]
  refine JW.r hM 96 6 (pc2 := 150) (L2 := [some (.ref 0), some (.int p0), some (.int p1), some (.int p2), some (.int ((84 : Int32) + ((6 : Int32) * (G 1 7)))), some (.int (G 1 ((14 : Int32) + p0).toNatClampNeg))]) (st2 := [.int ((G31 1 7) - (1 : Int32))]) (μ2 := (hMo G31 J)) rfl ⟨rfl, trivial⟩ ?_
  obtain rfl := Option.some.inj h
  exact js_iret hM.1 hp hM.2.2.2.2.2.2.2.1 (by rw [hM.2.2.2.2.2.1]; exact Nat.le_of_ble_eq_true rfl) (by rw [hM.2.2.2.2.2.2.1]; exact Nat.le_of_ble_eq_true rfl) (jat hM.2.1 102 rfl) hq
theorem m_X6_sells (V : jV) (hV : V.1.stackTraces = false) (N : Nat) (G : Nat → Nat → Int32) (J : Nat → Nat → Int64) (p0 : Int32) (p1 : Int32) (p2 : Int32) (v : Int32 × (Nat → Nat → Int32)) (h : p_X6_sells N G J p0 p1 p2 = some v) : jMet V yX6_sells (jws yX6_sells cX6_sells 6 (some .int)) ⟨0, 0, 0, 0⟩ true 1 [.ref 0, .int p0, .int p1, .int p2] (hMo G J) (fun o ν => o = some (.int v.1) ∧ ν = (hMo v.2 J)) (fun _ _ => False) := by
  refine jmk (tb := tbX6) (C := kX6_sells) hV rfl (by decide) tbX6_ok rfl kX6_sells_ok rfl ?_
  intro X hM _ hp _
  exact t_X6_sells hM hp N G J p0 p1 p2 h ⟨rfl, rfl⟩
def p_X6_sell (N : Nat) (G : Nat → Nat → Int32) (J : Nat → Nat → Int64) (p0 : Int32) (p1 : Int32) (p2 : Int32) : Option (Int32 × (Nat → Nat → Int32)) :=
  jlt (jup G 0 5 (0 : Int32)) fun G1 => (p_X6_whyNoSale N G1 J p0 p1 p2).bind (fun v4 => if v4 = 0 then ((p_X6_sells N G1 J p0 p1 p2).bind (fun v6 => jlt v6.2 fun G7 => some (v6.1, G7))) else (some (((-10 : Int32) - v4), G1)))
set_option maxHeartbeats 4000000 in
set_option maxRecDepth 100000 in
theorem t_X6_sell {X : jX} {po : Option Value → jH → Prop} {px : String → jH → Prop} {sf : Bool} {B9 : Nat} (hM : jMX X kX6_sell RX6 tbX6 5 ⟨3, 0, 0, 69⟩ (some .int) 16) (hp : jPost X sf B9 po px) (N : Nat) (G : Nat → Nat → Int32) (J : Nat → Nat → Int64) (p0 : Int32) (p1 : Int32) (p2 : Int32) {res : Int32 × (Nat → Nat → Int32)} (h : p_X6_sell N G J p0 p1 p2 = some res) (hq : po (some (.int res.1)) (hMo res.2 J)) : JW X 0 0 0 [some (.ref 0), some (.int p0), some (.int p1), some (.int p2), none] [] (hMo G J) := by
  unfold p_X6_sell at h
  obtain ⟨G1, e2, h⟩ := jlE h
  refine JW.r hM 0 3 (pc2 := 5) (L2 := [some (.ref 0), some (.int p0), some (.int p1), some (.int p2), none]) (st2 := []) (μ2 := (hMo (jup G 0 5 (0 : Int32)) J)) rfl trivial ?_
  rw [e2]
  refine JW.r hM 3 4 (pc2 := 9) (L2 := [some (.ref 0), some (.int p0), some (.int p1), some (.int p2), none]) (st2 := [.int p2, .int p1, .int p0, .ref 0]) (μ2 := (hMo G1 J)) rfl trivial ?_
  obtain ⟨v4, hv3, h⟩ := jbd h
  refine JW.cV (v := some (.int v4)) hM (m_X6_whyNoSale (jVX X) hM.1.2.2.2.2.2.2.2.2.2.1 N G1 J p0 p1 p2 v4 hv3) (sb_Mo_Mo_0 G1 J) (bi_Mo_Mo_0 G1 J) rfl rfl rfl kc_X6_220 rfl rfl rfl rfl rfl (jat hM.2.1 7 rfl) (st := []) rfl ?_
  show JW X 0 0 12 [some (.ref 0), some (.int p0), some (.int p1), some (.int p2), none] [.int v4] (hMo G1 J)
  refine JW.r hM 8 2 (pc2 := 16) (L2 := [some (.ref 0), some (.int p0), some (.int p1), some (.int p2), some (.int v4)]) (st2 := [.int v4]) (μ2 := (hMo G1 J)) rfl trivial ?_
  refine js_ifne (t := 29) hM.1 (jat hM.2.1 10 rfl) rfl (fun hc9 => ?_) (fun hc9 => ?_)
  · have h := (if_neg hc9).symm.trans h
    refine JW.r hM 17 3 (pc2 := 34) (L2 := [some (.ref 0), some (.int p0), some (.int p1), some (.int p2), some (.int v4)]) (st2 := [.int ((-10 : Int32) - v4)]) (μ2 := (hMo G1 J)) rfl trivial ?_
    obtain rfl := Option.some.inj h
    exact js_iret hM.1 hp hM.2.2.2.2.2.2.2.1 (by rw [hM.2.2.2.2.2.1]; exact Nat.le_of_ble_eq_true rfl) (by rw [hM.2.2.2.2.2.2.1]; exact Nat.le_of_ble_eq_true rfl) (jat hM.2.1 20 rfl) hq
  · have h := (if_pos hc9).symm.trans h
    refine JW.r hM 11 4 (pc2 := 23) (L2 := [some (.ref 0), some (.int p0), some (.int p1), some (.int p2), some (.int v4)]) (st2 := [.int p2, .int p1, .int p0, .ref 0]) (μ2 := (hMo G1 J)) rfl trivial ?_
    obtain ⟨v6, hv5, h⟩ := jbd h
    refine JW.cV (v := some (.int v6.1)) hM (m_X6_sells (jVX X) hM.1.2.2.2.2.2.2.2.2.2.1 N G1 J p0 p1 p2 v6 hv5) (sb_Mo_Mo_0 G1 J) (bk_Mo_Mo_0 G1 J v6.2 J) rfl rfl rfl kc_X6_224 rfl rfl rfl rfl rfl (jat hM.2.1 15 rfl) (st := []) rfl ?_
    show JW X 0 0 26 [some (.ref 0), some (.int p0), some (.int p1), some (.int p2), some (.int v4)] [.int v6.1] (hMo v6.2 J)
    obtain ⟨G7, e8, h⟩ := jlE h
    rw [e8]
    refine JW.r hM 16 1 (pc2 := 34) (L2 := [some (.ref 0), some (.int p0), some (.int p1), some (.int p2), some (.int v4)]) (st2 := [.int v6.1]) (μ2 := (hMo G7 J)) rfl trivial ?_
    obtain rfl := Option.some.inj h
    exact js_iret hM.1 hp hM.2.2.2.2.2.2.2.1 (by rw [hM.2.2.2.2.2.1]; exact Nat.le_of_ble_eq_true rfl) (by rw [hM.2.2.2.2.2.2.1]; exact Nat.le_of_ble_eq_true rfl) (jat hM.2.1 20 rfl) hq
theorem m_X6_sell (V : jV) (hV : V.1.stackTraces = false) (N : Nat) (G : Nat → Nat → Int32) (J : Nat → Nat → Int64) (p0 : Int32) (p1 : Int32) (p2 : Int32) (v : Int32 × (Nat → Nat → Int32)) (h : p_X6_sell N G J p0 p1 p2 = some v) : jMet V yX6_sell (jws yX6_sell cX6_sell 5 (some .int)) ⟨3, 0, 0, 69⟩ true 1 [.ref 0, .int p0, .int p1, .int p2] (hMo G J) (fun o ν => o = some (.int v.1) ∧ ν = (hMo v.2 J)) (fun _ _ => False) := by
  refine jmk (tb := tbX6) (C := kX6_sell) hV rfl (by decide) tbX6_ok rfl kX6_sell_ok rfl ?_
  intro X hM _ hp _
  exact t_X6_sell hM hp N G J p0 p1 p2 h ⟨rfl, rfl⟩
def p_X6_worthOf_b53 (N : Nat) (G : Nat → Nat → Int32) (J : Nat → Nat → Int64) (s0 : Int32) : Option (Int32) :=
  some (if (0 : Int32) < s0 then s0 else (0 : Int32))
def p_X6_worthOf (N : Nat) (G : Nat → Nat → Int32) (J : Nat → Nat → Int64) (p0 : Int32) (p1 : Int32) : Option (Int32) :=
  if p1 = 0 then ((p_X6_of N G J p0 (0 : Int32)).bind (fun v2 => (p_X6_of N G J p0 (2 : Int32)).bind (fun v4 => (p_X6_worthTo N G J v2 v4).bind (fun v6 => (p_X6_of N G J p0 (3 : Int32)).bind (fun v8 => p_X6_worthOf_b53 N G J (v6 - v8)))))) else ((p_X6_of N G J p0 (3 : Int32)).bind (fun v10 => (p_X6_of N G J p0 (0 : Int32)).bind (fun v12 => (p_X6_of N G J p0 (1 : Int32)).bind (fun v14 => (p_X6_worthTo N G J v12 v14).bind (fun v16 => p_X6_worthOf_b53 N G J (v10 - v16))))))
set_option maxHeartbeats 4000000 in
set_option maxRecDepth 100000 in
theorem t_X6_worthOf_b53 {X : jX} {po : Option Value → jH → Prop} {px : String → jH → Prop} {sf : Bool} {B9 : Nat} (hM : jMX X kX6_worthOf RX6 tbX6 4 ⟨1, 0, 0, 23⟩ (some .int) 16) (hp : jPost X sf B9 po px) (N : Nat) (G : Nat → Nat → Int32) (J : Nat → Nat → Int64) {res : Int32} (s0 : Int32) (h : p_X6_worthOf_b53 N G J s0 = some res) (hq : po (some (.int res)) (hMo G J)) : JW X 0 0 53 [none, none, none, none] [.int s0] (hMo G J) := by
  unfold p_X6_worthOf_b53 at h
  refine JW.r hM 33 3 (pc2 := 56) (L2 := [none, none, none, some (.int s0)]) (st2 := [.int s0, .int (0 : Int32)]) (μ2 := (hMo G J)) rfl trivial ?_
  refine js_max hM.1 (by rw [hM.2.2.1]; exact mx_X6_227) (jat hM.2.1 36 rfl) (by rw [hM.2.2.2.2.1]; exact Nat.le_of_ble_eq_true rfl) (by rw [hM.2.2.2.2.1]; exact Nat.le_of_ble_eq_true rfl) (by rw [hM.2.2.2.2.1]; exact Nat.le_of_ble_eq_true rfl) (by rw [hM.2.2.2.2.1]; exact Nat.le_of_ble_eq_true rfl) ?_
  show JW X 0 0 59 [none, none, none, some (.int s0)] [.int (if (0 : Int32) < s0 then s0 else (0 : Int32))] (hMo G J)
  obtain rfl := Option.some.inj h
  exact js_iret hM.1 hp hM.2.2.2.2.2.2.2.1 (by rw [hM.2.2.2.2.2.1]; exact Nat.le_of_ble_eq_true rfl) (by rw [hM.2.2.2.2.2.2.1]; exact Nat.le_of_ble_eq_true rfl) (jat hM.2.1 37 rfl) hq
set_option maxHeartbeats 4000000 in
set_option maxRecDepth 100000 in
theorem t_X6_worthOf {X : jX} {po : Option Value → jH → Prop} {px : String → jH → Prop} {sf : Bool} {B9 : Nat} (hM : jMX X kX6_worthOf RX6 tbX6 4 ⟨1, 0, 0, 23⟩ (some .int) 16) (hp : jPost X sf B9 po px) (N : Nat) (G : Nat → Nat → Int32) (J : Nat → Nat → Int64) (p0 : Int32) (p1 : Int32) {res : Int32} (h : p_X6_worthOf N G J p0 p1 = some res) (hq : po (some (.int res)) (hMo G J)) : JW X 0 0 0 [some (.ref 0), some (.int p0), some (.int p1), none] [] (hMo G J) := by
  unfold p_X6_worthOf at h
  refine JW.r hM 0 1 (pc2 := 1) (L2 := [some (.ref 0), some (.int p0), some (.int p1), none]) (st2 := [.int p1]) (μ2 := (hMo G J)) rfl trivial ?_
  refine js_ifeq (t := 30) hM.1 (jat hM.2.1 1 rfl) rfl (fun hc17 => ?_) (fun hc17 => ?_)
  · have h := (if_pos hc17).symm.trans h
    refine JW.r hM 18 4 (pc2 := 34) (L2 := [some (.ref 0), some (.int p0), some (.int p1), none]) (st2 := [.int (0 : Int32), .int p0, .ref 0, .ref 0]) (μ2 := (hMo G J)) rfl trivial ?_
    obtain ⟨v2, hv1, h⟩ := jbd h
    refine JW.cV (v := some (.int v2)) hM (m_X6_of (jVX X) hM.1.2.2.2.2.2.2.2.2.2.1 N G J p0 (0 : Int32) v2 hv1) (sb_Mo_Mo_0 G J) (bi_Mo_Mo_0 G J) rfl rfl rfl kc_X6_208 rfl rfl rfl rfl rfl (jat hM.2.1 22 rfl) (st := [.ref 0]) rfl ?_
    show JW X 0 0 37 [some (.ref 0), some (.int p0), some (.int p1), none] [.int v2, .ref 0] (hMo G J)
    refine JW.r hM 23 3 (pc2 := 40) (L2 := [some (.ref 0), some (.int p0), some (.int p1), none]) (st2 := [.int (2 : Int32), .int p0, .ref 0, .int v2, .ref 0]) (μ2 := (hMo G J)) rfl trivial ?_
    obtain ⟨v4, hv3, h⟩ := jbd h
    refine JW.cV (v := some (.int v4)) hM (m_X6_of (jVX X) hM.1.2.2.2.2.2.2.2.2.2.1 N G J p0 (2 : Int32) v4 hv3) (sb_Mo_Mo_0 G J) (bi_Mo_Mo_0 G J) rfl rfl rfl kc_X6_208 rfl rfl rfl rfl rfl (jat hM.2.1 26 rfl) (st := [.int v2, .ref 0]) rfl ?_
    show JW X 0 0 43 [some (.ref 0), some (.int p0), some (.int p1), none] [.int v4, .int v2, .ref 0] (hMo G J)
    obtain ⟨v6, hv5, h⟩ := jbd h
    refine JW.cV (v := some (.int v6)) hM (m_X6_worthTo (jVX X) hM.1.2.2.2.2.2.2.2.2.2.1 N G J v2 v4 v6 hv5) (sb_Mo_Mo_0 G J) (bi_Mo_Mo_0 G J) rfl rfl rfl kc_X6_183 rfl rfl rfl rfl rfl (jat hM.2.1 27 rfl) (st := []) rfl ?_
    show JW X 0 0 46 [some (.ref 0), some (.int p0), some (.int p1), none] [.int v6] (hMo G J)
    refine JW.r hM 28 3 (pc2 := 49) (L2 := [some (.ref 0), some (.int p0), some (.int p1), none]) (st2 := [.int (3 : Int32), .int p0, .ref 0, .int v6]) (μ2 := (hMo G J)) rfl trivial ?_
    obtain ⟨v8, hv7, h⟩ := jbd h
    refine JW.cV (v := some (.int v8)) hM (m_X6_of (jVX X) hM.1.2.2.2.2.2.2.2.2.2.1 N G J p0 (3 : Int32) v8 hv7) (sb_Mo_Mo_0 G J) (bi_Mo_Mo_0 G J) rfl rfl rfl kc_X6_208 rfl rfl rfl rfl rfl (jat hM.2.1 31 rfl) (st := [.int v6]) rfl ?_
    show JW X 0 0 52 [some (.ref 0), some (.int p0), some (.int p1), none] [.int v8, .int v6] (hMo G J)
    refine JW.r hM 32 1 (pc2 := 53) (L2 := [some (.ref 0), some (.int p0), some (.int p1), none]) (st2 := [.int (v6 - v8)]) (μ2 := (hMo G J)) rfl trivial ?_
    exact JW.mask [false, false, false, false] (t_X6_worthOf_b53 hM hp N G J (v6 - v8) h hq)
  · have h := (if_neg hc17).symm.trans h
    refine JW.r hM 2 3 (pc2 := 7) (L2 := [some (.ref 0), some (.int p0), some (.int p1), none]) (st2 := [.int (3 : Int32), .int p0, .ref 0]) (μ2 := (hMo G J)) rfl trivial ?_
    obtain ⟨v10, hv9, h⟩ := jbd h
    refine JW.cV (v := some (.int v10)) hM (m_X6_of (jVX X) hM.1.2.2.2.2.2.2.2.2.2.1 N G J p0 (3 : Int32) v10 hv9) (sb_Mo_Mo_0 G J) (bi_Mo_Mo_0 G J) rfl rfl rfl kc_X6_208 rfl rfl rfl rfl rfl (jat hM.2.1 5 rfl) (st := []) rfl ?_
    show JW X 0 0 10 [some (.ref 0), some (.int p0), some (.int p1), none] [.int v10] (hMo G J)
    refine JW.r hM 6 4 (pc2 := 14) (L2 := [some (.ref 0), some (.int p0), some (.int p1), none]) (st2 := [.int (0 : Int32), .int p0, .ref 0, .ref 0, .int v10]) (μ2 := (hMo G J)) rfl trivial ?_
    obtain ⟨v12, hv11, h⟩ := jbd h
    refine JW.cV (v := some (.int v12)) hM (m_X6_of (jVX X) hM.1.2.2.2.2.2.2.2.2.2.1 N G J p0 (0 : Int32) v12 hv11) (sb_Mo_Mo_0 G J) (bi_Mo_Mo_0 G J) rfl rfl rfl kc_X6_208 rfl rfl rfl rfl rfl (jat hM.2.1 10 rfl) (st := [.ref 0, .int v10]) rfl ?_
    show JW X 0 0 17 [some (.ref 0), some (.int p0), some (.int p1), none] [.int v12, .ref 0, .int v10] (hMo G J)
    refine JW.r hM 11 3 (pc2 := 20) (L2 := [some (.ref 0), some (.int p0), some (.int p1), none]) (st2 := [.int (1 : Int32), .int p0, .ref 0, .int v12, .ref 0, .int v10]) (μ2 := (hMo G J)) rfl trivial ?_
    obtain ⟨v14, hv13, h⟩ := jbd h
    refine JW.cV (v := some (.int v14)) hM (m_X6_of (jVX X) hM.1.2.2.2.2.2.2.2.2.2.1 N G J p0 (1 : Int32) v14 hv13) (sb_Mo_Mo_0 G J) (bi_Mo_Mo_0 G J) rfl rfl rfl kc_X6_208 rfl rfl rfl rfl rfl (jat hM.2.1 14 rfl) (st := [.int v12, .ref 0, .int v10]) rfl ?_
    show JW X 0 0 23 [some (.ref 0), some (.int p0), some (.int p1), none] [.int v14, .int v12, .ref 0, .int v10] (hMo G J)
    obtain ⟨v16, hv15, h⟩ := jbd h
    refine JW.cV (v := some (.int v16)) hM (m_X6_worthTo (jVX X) hM.1.2.2.2.2.2.2.2.2.2.1 N G J v12 v14 v16 hv15) (sb_Mo_Mo_0 G J) (bi_Mo_Mo_0 G J) rfl rfl rfl kc_X6_183 rfl rfl rfl rfl rfl (jat hM.2.1 15 rfl) (st := [.int v10]) rfl ?_
    show JW X 0 0 26 [some (.ref 0), some (.int p0), some (.int p1), none] [.int v16, .int v10] (hMo G J)
    refine JW.r hM 16 2 (pc2 := 53) (L2 := [some (.ref 0), some (.int p0), some (.int p1), none]) (st2 := [.int (v10 - v16)]) (μ2 := (hMo G J)) rfl trivial ?_
    exact JW.mask [false, false, false, false] (t_X6_worthOf_b53 hM hp N G J (v10 - v16) h hq)
theorem m_X6_worthOf (V : jV) (hV : V.1.stackTraces = false) (N : Nat) (G : Nat → Nat → Int32) (J : Nat → Nat → Int64) (p0 : Int32) (p1 : Int32) (v : Int32) (h : p_X6_worthOf N G J p0 p1 = some v) : jMet V yX6_worthOf (jws yX6_worthOf cX6_worthOf 4 (some .int)) ⟨1, 0, 0, 23⟩ true 1 [.ref 0, .int p0, .int p1] (hMo G J) (fun o ν => o = some (.int v) ∧ ν = (hMo G J)) (fun _ _ => False) := by
  refine jmk (tb := tbX6) (C := kX6_worthOf) hV rfl (by decide) tbX6_ok rfl kX6_worthOf_ok rfl ?_
  intro X hM _ hp _
  exact t_X6_worthOf hM hp N G J p0 p1 h ⟨rfl, rfl⟩
def p_X6_deed_b66 (N : Nat) (J : Nat → Nat → Int64) (G : Nat → Nat → Int32) (s0 : Int32) (s1 : Int32) : Option (Int32 × (Nat → Nat → Int32)) :=
  (p_X6_worthOf N G J s1 s0).bind (fun v8 => some (v8, G))
def p_X6_deed (N : Nat) (G : Nat → Nat → Int32) (J : Nat → Nat → Int64) (p0 : Int32) (p1 : Int32) : Option (Int32 × (Nat → Nat → Int32)) :=
  jlt (jup G 0 5 (0 : Int32)) fun G1 => (p_X6_isDeed N G1 J (p0.toInt64)).bind (fun v4 => if v4 = 0 then ((p_X6_fails N G1 J (1 : Int32)).bind (fun v19 => jlt v19.2 fun G20 => some (v19.1, G20))) else ((p_X6_within N (p1.toInt64) (0 : Int64) (7 : Int64)).bind (fun v6 => if v6 = 0 then ((p_X6_fails N G1 J (2 : Int32)).bind (fun v14 => jlt v14.2 fun G15 => some (v14.1, G15))) else (if (6 : Int32) ≤ p1 then (if p1 = (6 : Int32) then (p_X6_deed_b66 N J G1 (1 : Int32) p0) else (p_X6_deed_b66 N J G1 (0 : Int32) p0)) else ((p_X6_of N G1 J p0 p1).bind (fun v11 => some (v11, G1)))))))
set_option maxHeartbeats 4000000 in
set_option maxRecDepth 100000 in
theorem t_X6_deed_b66 {X : jX} {po : Option Value → jH → Prop} {px : String → jH → Prop} {sf : Bool} {B9 : Nat} (hM : jMX X kX6_deed RX6 tbX6 3 ⟨2, 0, 0, 47⟩ (some .int) 16) (hp : jPost X sf B9 po px) (N : Nat) (J : Nat → Nat → Int64) {res : Int32 × (Nat → Nat → Int32)} (G : Nat → Nat → Int32) (s0 : Int32) (s1 : Int32) (h : p_X6_deed_b66 N J G s0 s1 = some res) (hq : po (some (.int res.1)) (hMo res.2 J)) : JW X 0 0 66 [none, none, none] [.int s0, .int s1, .ref 0] (hMo G J) := by
  unfold p_X6_deed_b66 at h
  obtain ⟨v8, hv7, h⟩ := jbd h
  refine JW.cV (v := some (.int v8)) hM (m_X6_worthOf (jVX X) hM.1.2.2.2.2.2.2.2.2.2.1 N G J s1 s0 v8 hv7) (sb_Mo_Mo_0 G J) (bi_Mo_Mo_0 G J) rfl rfl rfl kc_X6_236 rfl rfl rfl rfl rfl (jat hM.2.1 38 rfl) (st := []) rfl ?_
  show JW X 0 0 69 [none, none, none] [.int v8] (hMo G J)
  obtain rfl := Option.some.inj h
  exact js_iret hM.1 hp hM.2.2.2.2.2.2.2.1 (by rw [hM.2.2.2.2.2.1]; exact Nat.le_of_ble_eq_true rfl) (by rw [hM.2.2.2.2.2.2.1]; exact Nat.le_of_ble_eq_true rfl) (jat hM.2.1 39 rfl) hq
set_option maxHeartbeats 4000000 in
set_option maxRecDepth 100000 in
theorem t_X6_deed {X : jX} {po : Option Value → jH → Prop} {px : String → jH → Prop} {sf : Bool} {B9 : Nat} (hM : jMX X kX6_deed RX6 tbX6 3 ⟨2, 0, 0, 47⟩ (some .int) 16) (hp : jPost X sf B9 po px) (N : Nat) (G : Nat → Nat → Int32) (J : Nat → Nat → Int64) (p0 : Int32) (p1 : Int32) {res : Int32 × (Nat → Nat → Int32)} (h : p_X6_deed N G J p0 p1 = some res) (hq : po (some (.int res.1)) (hMo res.2 J)) : JW X 0 0 0 [some (.ref 0), some (.int p0), some (.int p1)] [] (hMo G J) := by
  unfold p_X6_deed at h
  obtain ⟨G1, e2, h⟩ := jlE h
  refine JW.r hM 0 3 (pc2 := 5) (L2 := [some (.ref 0), some (.int p0), some (.int p1)]) (st2 := []) (μ2 := (hMo (jup G 0 5 (0 : Int32)) J)) rfl trivial ?_
  rw [e2]
  refine JW.r hM 3 3 (pc2 := 8) (L2 := [some (.ref 0), some (.int p0), some (.int p1)]) (st2 := [.long (p0.toInt64), .ref 0]) (μ2 := (hMo G1 J)) rfl trivial ?_
  obtain ⟨v4, hv3, h⟩ := jbd h
  refine JW.cV (v := some (.int v4)) hM (m_X6_isDeed (jVX X) hM.1.2.2.2.2.2.2.2.2.2.1 N G1 J (p0.toInt64) v4 hv3) (sb_Mo_Mo_0 G1 J) (bi_Mo_Mo_0 G1 J) rfl rfl rfl kc_X6_230 rfl rfl rfl rfl rfl (jat hM.2.1 6 rfl) (st := []) rfl ?_
  show JW X 0 0 11 [some (.ref 0), some (.int p0), some (.int p1)] [.int v4] (hMo G1 J)
  refine js_ifne (t := 20) hM.1 (jat hM.2.1 7 rfl) rfl (fun hc22 => ?_) (fun hc22 => ?_)
  · have h := (if_neg hc22).symm.trans h
    refine JW.r hM 12 4 (pc2 := 26) (L2 := [some (.ref 0), some (.int p0), some (.int p1)]) (st2 := [.long (7 : Int64), .long (0 : Int64), .long (p1.toInt64)]) (μ2 := (hMo G1 J)) rfl trivial ?_
    obtain ⟨v6, hv5, h⟩ := jbd h
    refine JW.cS (v := some (.int v6)) hM (m_X6_within (jVX X) hM.1.2.2.2.2.2.2.2.2.2.1 N (p1.toInt64) (0 : Int64) (7 : Int64) v6 hv5) (sb_Mo_E_ G1 J) (bi_Mo_E_ G1 J) rfl rfl rfl kc_X6_122 rfl rfl rfl (jat hM.2.1 16 rfl) (st := []) rfl ?_
    show JW X 0 0 29 [some (.ref 0), some (.int p0), some (.int p1)] [.int v6] (hMo G1 J)
    refine js_ifne (t := 38) hM.1 (jat hM.2.1 17 rfl) rfl (fun hc17 => ?_) (fun hc17 => ?_)
    · have h := (if_neg hc17).symm.trans h
      refine JW.r hM 22 2 (pc2 := 41) (L2 := [some (.ref 0), some (.int p0), some (.int p1)]) (st2 := [.int (6 : Int32), .int p1]) (μ2 := (hMo G1 J)) rfl trivial ?_
      refine js_icge (t := 53) hM.1 (jat hM.2.1 24 rfl) rfl (fun hc12 => ?_) (fun hc12 => ?_)
      · have h := (if_pos hc12).symm.trans h
        refine JW.r hM 30 4 (pc2 := 58) (L2 := [some (.ref 0), some (.int p0), some (.int p1)]) (st2 := [.int (6 : Int32), .int p1, .int p0, .ref 0]) (μ2 := (hMo G1 J)) rfl trivial ?_
        refine js_icne (t := 65) hM.1 (jat hM.2.1 34 rfl) rfl (fun hc9 => ?_) (fun hc9 => ?_)
        · have h := (if_neg hc9).symm.trans h
          refine JW.r hM 37 1 (pc2 := 66) (L2 := [some (.ref 0), some (.int p0), some (.int p1)]) (st2 := [.int (0 : Int32), .int p0, .ref 0]) (μ2 := (hMo G1 J)) rfl trivial ?_
          exact JW.mask [false, false, false] (t_X6_deed_b66 hM hp N J G1 (0 : Int32) p0 h hq)
        · have h := (if_pos hc9).symm.trans h
          refine JW.r hM 35 2 (pc2 := 66) (L2 := [some (.ref 0), some (.int p0), some (.int p1)]) (st2 := [.int (1 : Int32), .int p0, .ref 0]) (μ2 := (hMo G1 J)) rfl trivial ?_
          exact JW.mask [false, false, false] (t_X6_deed_b66 hM hp N J G1 (1 : Int32) p0 h hq)
      · have h := (if_neg hc12).symm.trans h
        refine JW.r hM 25 3 (pc2 := 47) (L2 := [some (.ref 0), some (.int p0), some (.int p1)]) (st2 := [.int p1, .int p0, .ref 0]) (μ2 := (hMo G1 J)) rfl trivial ?_
        obtain ⟨v11, hv10, h⟩ := jbd h
        refine JW.cV (v := some (.int v11)) hM (m_X6_of (jVX X) hM.1.2.2.2.2.2.2.2.2.2.1 N G1 J p0 p1 v11 hv10) (sb_Mo_Mo_0 G1 J) (bi_Mo_Mo_0 G1 J) rfl rfl rfl kc_X6_208 rfl rfl rfl rfl rfl (jat hM.2.1 28 rfl) (st := []) rfl ?_
        show JW X 0 0 50 [some (.ref 0), some (.int p0), some (.int p1)] [.int v11] (hMo G1 J)
        refine JW.r hM 29 1 (pc2 := 69) (L2 := [some (.ref 0), some (.int p0), some (.int p1)]) (st2 := [.int v11]) (μ2 := (hMo G1 J)) rfl trivial ?_
        obtain rfl := Option.some.inj h
        exact js_iret hM.1 hp hM.2.2.2.2.2.2.2.1 (by rw [hM.2.2.2.2.2.1]; exact Nat.le_of_ble_eq_true rfl) (by rw [hM.2.2.2.2.2.2.1]; exact Nat.le_of_ble_eq_true rfl) (jat hM.2.1 39 rfl) hq
    · have h := (if_pos hc17).symm.trans h
      refine JW.r hM 18 2 (pc2 := 34) (L2 := [some (.ref 0), some (.int p0), some (.int p1)]) (st2 := [.int (2 : Int32), .ref 0]) (μ2 := (hMo G1 J)) rfl trivial ?_
      obtain ⟨v14, hv13, h⟩ := jbd h
      refine JW.cV (v := some (.int v14.1)) hM (m_X6_fails (jVX X) hM.1.2.2.2.2.2.2.2.2.2.1 N G1 J (2 : Int32) v14 hv13) (sb_Mo_Mo_0 G1 J) (bk_Mo_Mo_0 G1 J v14.2 J) rfl rfl rfl kc_X6_170 rfl rfl rfl rfl rfl (jat hM.2.1 20 rfl) (st := []) rfl ?_
      show JW X 0 0 37 [some (.ref 0), some (.int p0), some (.int p1)] [.int v14.1] (hMo v14.2 J)
      obtain ⟨G15, e16, h⟩ := jlE h
      rw [e16]
      obtain rfl := Option.some.inj h
      exact js_iret hM.1 hp hM.2.2.2.2.2.2.2.1 (by rw [hM.2.2.2.2.2.1]; exact Nat.le_of_ble_eq_true rfl) (by rw [hM.2.2.2.2.2.2.1]; exact Nat.le_of_ble_eq_true rfl) (jat hM.2.1 21 rfl) hq
  · have h := (if_pos hc22).symm.trans h
    refine JW.r hM 8 2 (pc2 := 16) (L2 := [some (.ref 0), some (.int p0), some (.int p1)]) (st2 := [.int (1 : Int32), .ref 0]) (μ2 := (hMo G1 J)) rfl trivial ?_
    obtain ⟨v19, hv18, h⟩ := jbd h
    refine JW.cV (v := some (.int v19.1)) hM (m_X6_fails (jVX X) hM.1.2.2.2.2.2.2.2.2.2.1 N G1 J (1 : Int32) v19 hv18) (sb_Mo_Mo_0 G1 J) (bk_Mo_Mo_0 G1 J v19.2 J) rfl rfl rfl kc_X6_170 rfl rfl rfl rfl rfl (jat hM.2.1 10 rfl) (st := []) rfl ?_
    show JW X 0 0 19 [some (.ref 0), some (.int p0), some (.int p1)] [.int v19.1] (hMo v19.2 J)
    obtain ⟨G20, e21, h⟩ := jlE h
    rw [e21]
    obtain rfl := Option.some.inj h
    exact js_iret hM.1 hp hM.2.2.2.2.2.2.2.1 (by rw [hM.2.2.2.2.2.1]; exact Nat.le_of_ble_eq_true rfl) (by rw [hM.2.2.2.2.2.2.1]; exact Nat.le_of_ble_eq_true rfl) (jat hM.2.1 11 rfl) hq
theorem m_X6_deed (V : jV) (hV : V.1.stackTraces = false) (N : Nat) (G : Nat → Nat → Int32) (J : Nat → Nat → Int64) (p0 : Int32) (p1 : Int32) (v : Int32 × (Nat → Nat → Int32)) (h : p_X6_deed N G J p0 p1 = some v) : jMet V yX6_deed (jws yX6_deed cX6_deed 3 (some .int)) ⟨2, 0, 0, 47⟩ true 1 [.ref 0, .int p0, .int p1] (hMo G J) (fun o ν => o = some (.int v.1) ∧ ν = (hMo v.2 J)) (fun _ _ => False) := by
  refine jmk (tb := tbX6) (C := kX6_deed) hV rfl (by decide) tbX6_ok rfl kX6_deed_ok rfl ?_
  intro X hM _ hp _
  exact t_X6_deed hM hp N G J p0 p1 h ⟨rfl, rfl⟩
def p_X6_fallsOf_b58 (N : Nat) (G : Nat → Nat → Int32) (J : Nat → Nat → Int64) (rv4 : Int32 → Int32 → Int32 → Option (Int32)) (x1 : Int32) (x3 : Int32) (s0 : Int32) (s1 : Int32) : Option (Int32) :=
  rv4 x1 (s1 ||| s0) (x3 + 1)
def p_X6_fallsOf_b57 (N : Nat) (G : Nat → Nat → Int32) (J : Nat → Nat → Int64) (rv4 : Int32 → Int32 → Int32 → Option (Int32)) (x1 : Int32) (x3 : Int32) (s0 : Int32) : Option (Int32) :=
  p_X6_fallsOf_b58 N G J rv4 x1 x3 (0 : Int32) s0
def p_X6_fallsOf_b4 (N : Nat) (G : Nat → Nat → Int32) (J : Nat → Nat → Int64) : Nat → (Int32) → (Int32) → (Int32) → Option (Int32)
  | 0, _, _, _ => none
  | n + 1, x1, x2, x3 => if (G 1 7) ≤ x3 then (some x2) else ((p_X6_of N G J x1 (4 : Int32)).bind (fun v2 => if v2 = (1 : Int32) then ((p_X6_of N G J x3 (0 : Int32)).bind (fun v4 => (p_X6_of N G J x1 (0 : Int32)).bind (fun v6 => if v4 = v6 then ((p_X6_of N G J x3 (4 : Int32)).bind (fun v8 => if v8 = (1 : Int32) then (p_X6_fallsOf_b58 N G J (p_X6_fallsOf_b4 N G J n) x1 x3 ((1 : Int32) <<< (x3 &&& 31)) x2) else (p_X6_fallsOf_b57 N G J (p_X6_fallsOf_b4 N G J n) x1 x3 x2))) else (p_X6_fallsOf_b57 N G J (p_X6_fallsOf_b4 N G J n) x1 x3 x2)))) else (some x2)))
def p_X6_fallsOf (N : Nat) (G : Nat → Nat → Int32) (J : Nat → Nat → Int64) (p0 : Int32) : Option (Int32) :=
  p_X6_fallsOf_b4 N G J N p0 (0 : Int32) p0
set_option maxHeartbeats 4000000 in
set_option maxRecDepth 100000 in
theorem t_X6_fallsOf_b58 {X : jX} {po : Option Value → jH → Prop} {px : String → jH → Prop} {sf : Bool} {B9 : Nat} (hM : jMX X kX6_fallsOf RX6 tbX6 4 ⟨1, 0, 0, 22⟩ (some .int) 16) (hp : jPost X sf B9 po px) (N : Nat) (G : Nat → Nat → Int32) (J : Nat → Nat → Int64) (rv4 : Int32 → Int32 → Int32 → Option (Int32)) {res : Int32} (ih4 : ∀ (x1 : Int32) (x2 : Int32) (x3 : Int32), rv4 x1 x2 x3 = some res → JW X 0 0 4 [some (.ref 0), some (.int x1), some (.int x2), some (.int x3)] [] (hMo G J)) (x1 : Int32) (x3 : Int32) (s0 : Int32) (s1 : Int32) (h : p_X6_fallsOf_b58 N G J rv4 x1 x3 s0 s1 = some res) (hq : po (some (.int res)) (hMo G J)) : JW X 0 0 58 [some (.ref 0), some (.int x1), none, some (.int x3)] [.int s0, .int s1] (hMo G J) := by
  unfold p_X6_fallsOf_b58 at h
  refine JW.r hM 37 4 (pc2 := 4) (L2 := [some (.ref 0), some (.int x1), some (.int (s1 ||| s0)), some (.int (x3 + 1))]) (st2 := []) (μ2 := (hMo G J)) rfl trivial ?_
  exact ih4 x1 (s1 ||| s0) (x3 + 1) h
set_option maxHeartbeats 4000000 in
set_option maxRecDepth 100000 in
theorem t_X6_fallsOf_b57 {X : jX} {po : Option Value → jH → Prop} {px : String → jH → Prop} {sf : Bool} {B9 : Nat} (hM : jMX X kX6_fallsOf RX6 tbX6 4 ⟨1, 0, 0, 22⟩ (some .int) 16) (hp : jPost X sf B9 po px) (N : Nat) (G : Nat → Nat → Int32) (J : Nat → Nat → Int64) (rv4 : Int32 → Int32 → Int32 → Option (Int32)) {res : Int32} (ih4 : ∀ (x1 : Int32) (x2 : Int32) (x3 : Int32), rv4 x1 x2 x3 = some res → JW X 0 0 4 [some (.ref 0), some (.int x1), some (.int x2), some (.int x3)] [] (hMo G J)) (x1 : Int32) (x3 : Int32) (s0 : Int32) (h : p_X6_fallsOf_b57 N G J rv4 x1 x3 s0 = some res) (hq : po (some (.int res)) (hMo G J)) : JW X 0 0 57 [some (.ref 0), some (.int x1), none, some (.int x3)] [.int s0] (hMo G J) := by
  unfold p_X6_fallsOf_b57 at h
  refine JW.r hM 36 1 (pc2 := 58) (L2 := [some (.ref 0), some (.int x1), none, some (.int x3)]) (st2 := [.int (0 : Int32), .int s0]) (μ2 := (hMo G J)) rfl trivial ?_
  exact t_X6_fallsOf_b58 hM hp N G J rv4 ih4 x1 x3 (0 : Int32) s0 h hq
set_option maxHeartbeats 4000000 in
set_option maxRecDepth 100000 in
theorem t_X6_fallsOf_b4 {X : jX} {po : Option Value → jH → Prop} {px : String → jH → Prop} {sf : Bool} {B9 : Nat} (hM : jMX X kX6_fallsOf RX6 tbX6 4 ⟨1, 0, 0, 22⟩ (some .int) 16) (hp : jPost X sf B9 po px) (N : Nat) (G : Nat → Nat → Int32) (J : Nat → Nat → Int64) {res : Int32} : ∀ (n : Nat) (x1 : Int32) (x2 : Int32) (x3 : Int32) (h : p_X6_fallsOf_b4 N G J n x1 x2 x3 = some res) (hq : po (some (.int res)) (hMo G J)), JW X 0 0 4 [some (.ref 0), some (.int x1), some (.int x2), some (.int x3)] [] (hMo G J) := by
  intro n
  induction n with
  | zero =>
    intro x1 x2 x3 h hq
    cases (show (none : Option (Int32)) = some res from h)
  | succ n ih4 =>
    intro x1 x2 x3 h hq
    have ih4 := fun x1 x2 x3 h9 => ih4 x1 x2 x3 h9 hq
    rw [p_X6_fallsOf_b4] at h
    refine JW.r hM 4 5 (pc2 := 12) (L2 := [some (.ref 0), some (.int x1), some (.int x2), some (.int x3)]) (st2 := [.int (G 1 7), .int x3]) (μ2 := (hMo G J)) rfl ⟨rfl, trivial⟩ ?_
    refine js_icge (t := 66) hM.1 (jat hM.2.1 9 rfl) rfl (fun hc12 => ?_) (fun hc12 => ?_)
    · have h := (if_pos hc12).symm.trans h
      refine JW.r hM 41 1 (pc2 := 67) (L2 := [some (.ref 0), some (.int x1), some (.int x2), some (.int x3)]) (st2 := [.int x2]) (μ2 := (hMo G J)) rfl trivial ?_
      obtain rfl := Option.some.inj h
      exact js_iret hM.1 hp hM.2.2.2.2.2.2.2.1 (by rw [hM.2.2.2.2.2.1]; exact Nat.le_of_ble_eq_true rfl) (by rw [hM.2.2.2.2.2.2.1]; exact Nat.le_of_ble_eq_true rfl) (jat hM.2.1 42 rfl) hq
    · have h := (if_neg hc12).symm.trans h
      refine JW.r hM 10 3 (pc2 := 18) (L2 := [some (.ref 0), some (.int x1), some (.int x2), some (.int x3)]) (st2 := [.int (4 : Int32), .int x1, .ref 0]) (μ2 := (hMo G J)) rfl trivial ?_
      obtain ⟨v2, hv1, h⟩ := jbd h
      refine JW.cV (v := some (.int v2)) hM (m_X6_of (jVX X) hM.1.2.2.2.2.2.2.2.2.2.1 N G J x1 (4 : Int32) v2 hv1) (sb_Mo_Mo_0 G J) (bi_Mo_Mo_0 G J) rfl rfl rfl kc_X6_208 rfl rfl rfl rfl rfl (jat hM.2.1 13 rfl) (st := []) rfl ?_
      show JW X 0 0 21 [some (.ref 0), some (.int x1), some (.int x2), some (.int x3)] [.int v2] (hMo G J)
      refine JW.r hM 14 1 (pc2 := 22) (L2 := [some (.ref 0), some (.int x1), some (.int x2), some (.int x3)]) (st2 := [.int (1 : Int32), .int v2]) (μ2 := (hMo G J)) rfl trivial ?_
      refine js_icne (t := 66) hM.1 (jat hM.2.1 15 rfl) rfl (fun hc11 => ?_) (fun hc11 => ?_)
      · have h := (if_neg hc11).symm.trans h
        refine JW.r hM 41 1 (pc2 := 67) (L2 := [some (.ref 0), some (.int x1), some (.int x2), some (.int x3)]) (st2 := [.int x2]) (μ2 := (hMo G J)) rfl trivial ?_
        obtain rfl := Option.some.inj h
        exact js_iret hM.1 hp hM.2.2.2.2.2.2.2.1 (by rw [hM.2.2.2.2.2.1]; exact Nat.le_of_ble_eq_true rfl) (by rw [hM.2.2.2.2.2.2.1]; exact Nat.le_of_ble_eq_true rfl) (jat hM.2.1 42 rfl) hq
      · have h := (if_pos hc11).symm.trans h
        refine JW.r hM 16 4 (pc2 := 29) (L2 := [some (.ref 0), some (.int x1), some (.int x2), some (.int x3)]) (st2 := [.int (0 : Int32), .int x3, .ref 0, .int x2]) (μ2 := (hMo G J)) rfl trivial ?_
        obtain ⟨v4, hv3, h⟩ := jbd h
        refine JW.cV (v := some (.int v4)) hM (m_X6_of (jVX X) hM.1.2.2.2.2.2.2.2.2.2.1 N G J x3 (0 : Int32) v4 hv3) (sb_Mo_Mo_0 G J) (bi_Mo_Mo_0 G J) rfl rfl rfl kc_X6_208 rfl rfl rfl rfl rfl (jat hM.2.1 20 rfl) (st := [.int x2]) rfl ?_
        show JW X 0 0 32 [some (.ref 0), some (.int x1), some (.int x2), some (.int x3)] [.int v4, .int x2] (hMo G J)
        refine JW.r hM 21 3 (pc2 := 35) (L2 := [some (.ref 0), some (.int x1), some (.int x2), some (.int x3)]) (st2 := [.int (0 : Int32), .int x1, .ref 0, .int v4, .int x2]) (μ2 := (hMo G J)) rfl trivial ?_
        obtain ⟨v6, hv5, h⟩ := jbd h
        refine JW.cV (v := some (.int v6)) hM (m_X6_of (jVX X) hM.1.2.2.2.2.2.2.2.2.2.1 N G J x1 (0 : Int32) v6 hv5) (sb_Mo_Mo_0 G J) (bi_Mo_Mo_0 G J) rfl rfl rfl kc_X6_208 rfl rfl rfl rfl rfl (jat hM.2.1 24 rfl) (st := [.int v4, .int x2]) rfl ?_
        show JW X 0 0 38 [some (.ref 0), some (.int x1), some (.int x2), some (.int x3)] [.int v6, .int v4, .int x2] (hMo G J)
        refine js_icne (t := 57) hM.1 (jat hM.2.1 25 rfl) rfl (fun hc10 => ?_) (fun hc10 => ?_)
        · have h := (if_neg hc10).symm.trans h
          exact JW.mask [true, true, false, true] (t_X6_fallsOf_b57 hM hp N G J (p_X6_fallsOf_b4 N G J n) ih4 x1 x3 x2 h hq)
        · have h := (if_pos hc10).symm.trans h
          refine JW.r hM 26 3 (pc2 := 44) (L2 := [some (.ref 0), some (.int x1), some (.int x2), some (.int x3)]) (st2 := [.int (4 : Int32), .int x3, .ref 0, .int x2]) (μ2 := (hMo G J)) rfl trivial ?_
          obtain ⟨v8, hv7, h⟩ := jbd h
          refine JW.cV (v := some (.int v8)) hM (m_X6_of (jVX X) hM.1.2.2.2.2.2.2.2.2.2.1 N G J x3 (4 : Int32) v8 hv7) (sb_Mo_Mo_0 G J) (bi_Mo_Mo_0 G J) rfl rfl rfl kc_X6_208 rfl rfl rfl rfl rfl (jat hM.2.1 29 rfl) (st := [.int x2]) rfl ?_
          show JW X 0 0 47 [some (.ref 0), some (.int x1), some (.int x2), some (.int x3)] [.int v8, .int x2] (hMo G J)
          refine JW.r hM 30 1 (pc2 := 48) (L2 := [some (.ref 0), some (.int x1), some (.int x2), some (.int x3)]) (st2 := [.int (1 : Int32), .int v8, .int x2]) (μ2 := (hMo G J)) rfl trivial ?_
          refine js_icne (t := 57) hM.1 (jat hM.2.1 31 rfl) rfl (fun hc9 => ?_) (fun hc9 => ?_)
          · have h := (if_neg hc9).symm.trans h
            exact JW.mask [true, true, false, true] (t_X6_fallsOf_b57 hM hp N G J (p_X6_fallsOf_b4 N G J n) ih4 x1 x3 x2 h hq)
          · have h := (if_pos hc9).symm.trans h
            refine JW.r hM 32 4 (pc2 := 58) (L2 := [some (.ref 0), some (.int x1), some (.int x2), some (.int x3)]) (st2 := [.int ((1 : Int32) <<< (x3 &&& 31)), .int x2]) (μ2 := (hMo G J)) rfl trivial ?_
            exact JW.mask [true, true, false, true] (t_X6_fallsOf_b58 hM hp N G J (p_X6_fallsOf_b4 N G J n) ih4 x1 x3 ((1 : Int32) <<< (x3 &&& 31)) x2 h hq)
set_option maxHeartbeats 4000000 in
set_option maxRecDepth 100000 in
theorem t_X6_fallsOf {X : jX} {po : Option Value → jH → Prop} {px : String → jH → Prop} {sf : Bool} {B9 : Nat} (hM : jMX X kX6_fallsOf RX6 tbX6 4 ⟨1, 0, 0, 22⟩ (some .int) 16) (hp : jPost X sf B9 po px) (N : Nat) (G : Nat → Nat → Int32) (J : Nat → Nat → Int64) (p0 : Int32) {res : Int32} (h : p_X6_fallsOf N G J p0 = some res) (hq : po (some (.int res)) (hMo G J)) : JW X 0 0 0 [some (.ref 0), some (.int p0), none, none] [] (hMo G J) := by
  unfold p_X6_fallsOf at h
  refine JW.r hM 0 4 (pc2 := 4) (L2 := [some (.ref 0), some (.int p0), some (.int (0 : Int32)), some (.int p0)]) (st2 := []) (μ2 := (hMo G J)) rfl trivial ?_
  exact t_X6_fallsOf_b4 hM hp N G J N p0 (0 : Int32) p0 h hq
theorem m_X6_fallsOf (V : jV) (hV : V.1.stackTraces = false) (N : Nat) (G : Nat → Nat → Int32) (J : Nat → Nat → Int64) (p0 : Int32) (v : Int32) (h : p_X6_fallsOf N G J p0 = some v) : jMet V yX6_fallsOf (jws yX6_fallsOf cX6_fallsOf 4 (some .int)) ⟨1, 0, 0, 22⟩ true 1 [.ref 0, .int p0] (hMo G J) (fun o ν => o = some (.int v) ∧ ν = (hMo G J)) (fun _ _ => False) := by
  refine jmk (tb := tbX6) (C := kX6_fallsOf) hV rfl (by decide) tbX6_ok rfl kX6_fallsOf_ok rfl ?_
  intro X hM _ hp _
  exact t_X6_fallsOf hM hp N G J p0 h ⟨rfl, rfl⟩
def p_X6_isOf (N : Nat) (G : Nat → Nat → Int32) (J : Nat → Nat → Int64) (p0 : Int32) (p1 : Int32) : Option (Int32) :=
  (p_X6_of N G J p0 (1 : Int32)).bind (fun v2 => if v2 = p1 then (some (1 : Int32)) else ((p_X6_of N G J p0 (2 : Int32)).bind (fun v4 => if v4 = p1 then (some (1 : Int32)) else (some (0 : Int32)))))
set_option maxHeartbeats 4000000 in
set_option maxRecDepth 100000 in
theorem t_X6_isOf {X : jX} {po : Option Value → jH → Prop} {px : String → jH → Prop} {sf : Bool} {B9 : Nat} (hM : jMX X kX6_isOf RX6 tbX6 3 ⟨1, 0, 0, 22⟩ (some .boolean) 16) (hp : jPost X sf B9 po px) (N : Nat) (G : Nat → Nat → Int32) (J : Nat → Nat → Int64) (p0 : Int32) (p1 : Int32) {res : Int32} (h : p_X6_isOf N G J p0 p1 = some res) (hq : po (some (.int res)) (hMo G J)) : JW X 0 0 0 [some (.ref 0), some (.int p0), some (.int p1)] [] (hMo G J) := by
  unfold p_X6_isOf at h
  refine JW.r hM 0 3 (pc2 := 3) (L2 := [some (.ref 0), some (.int p0), some (.int p1)]) (st2 := [.int (1 : Int32), .int p0, .ref 0]) (μ2 := (hMo G J)) rfl trivial ?_
  obtain ⟨v2, hv1, h⟩ := jbd h
  refine JW.cV (v := some (.int v2)) hM (m_X6_of (jVX X) hM.1.2.2.2.2.2.2.2.2.2.1 N G J p0 (1 : Int32) v2 hv1) (sb_Mo_Mo_0 G J) (bi_Mo_Mo_0 G J) rfl rfl rfl kc_X6_208 rfl rfl rfl rfl rfl (jat hM.2.1 3 rfl) (st := []) rfl ?_
  show JW X 0 0 6 [some (.ref 0), some (.int p0), some (.int p1)] [.int v2] (hMo G J)
  refine JW.r hM 4 1 (pc2 := 7) (L2 := [some (.ref 0), some (.int p0), some (.int p1)]) (st2 := [.int p1, .int v2]) (μ2 := (hMo G J)) rfl trivial ?_
  refine js_iceq (t := 20) hM.1 (jat hM.2.1 5 rfl) rfl (fun hc6 => ?_) (fun hc6 => ?_)
  · have h := (if_pos hc6).symm.trans h
    refine JW.r hM 12 2 (pc2 := 25) (L2 := [some (.ref 0), some (.int p0), some (.int p1)]) (st2 := [.int (1 : Int32)]) (μ2 := (hMo G J)) rfl trivial ?_
    obtain rfl := Option.some.inj h
    exact js_zret hM.1 hp hM.2.2.2.2.2.2.2.1 rfl (by rw [hM.2.2.2.2.2.1]; exact Nat.le_of_ble_eq_true rfl) (by rw [hM.2.2.2.2.2.2.1]; exact Nat.le_of_ble_eq_true rfl) (jat hM.2.1 15 rfl) hq
  · have h := (if_neg hc6).symm.trans h
    refine JW.r hM 6 3 (pc2 := 13) (L2 := [some (.ref 0), some (.int p0), some (.int p1)]) (st2 := [.int (2 : Int32), .int p0, .ref 0]) (μ2 := (hMo G J)) rfl trivial ?_
    obtain ⟨v4, hv3, h⟩ := jbd h
    refine JW.cV (v := some (.int v4)) hM (m_X6_of (jVX X) hM.1.2.2.2.2.2.2.2.2.2.1 N G J p0 (2 : Int32) v4 hv3) (sb_Mo_Mo_0 G J) (bi_Mo_Mo_0 G J) rfl rfl rfl kc_X6_208 rfl rfl rfl rfl rfl (jat hM.2.1 9 rfl) (st := []) rfl ?_
    show JW X 0 0 16 [some (.ref 0), some (.int p0), some (.int p1)] [.int v4] (hMo G J)
    refine JW.r hM 10 1 (pc2 := 17) (L2 := [some (.ref 0), some (.int p0), some (.int p1)]) (st2 := [.int p1, .int v4]) (μ2 := (hMo G J)) rfl trivial ?_
    refine js_icne (t := 24) hM.1 (jat hM.2.1 11 rfl) rfl (fun hc5 => ?_) (fun hc5 => ?_)
    · have h := (if_neg hc5).symm.trans h
      refine JW.r hM 14 1 (pc2 := 25) (L2 := [some (.ref 0), some (.int p0), some (.int p1)]) (st2 := [.int (0 : Int32)]) (μ2 := (hMo G J)) rfl trivial ?_
      obtain rfl := Option.some.inj h
      exact js_zret hM.1 hp hM.2.2.2.2.2.2.2.1 rfl (by rw [hM.2.2.2.2.2.1]; exact Nat.le_of_ble_eq_true rfl) (by rw [hM.2.2.2.2.2.2.1]; exact Nat.le_of_ble_eq_true rfl) (jat hM.2.1 15 rfl) hq
    · have h := (if_pos hc5).symm.trans h
      refine JW.r hM 12 2 (pc2 := 25) (L2 := [some (.ref 0), some (.int p0), some (.int p1)]) (st2 := [.int (1 : Int32)]) (μ2 := (hMo G J)) rfl trivial ?_
      obtain rfl := Option.some.inj h
      exact js_zret hM.1 hp hM.2.2.2.2.2.2.2.1 rfl (by rw [hM.2.2.2.2.2.1]; exact Nat.le_of_ble_eq_true rfl) (by rw [hM.2.2.2.2.2.2.1]; exact Nat.le_of_ble_eq_true rfl) (jat hM.2.1 15 rfl) hq
theorem m_X6_isOf (V : jV) (hV : V.1.stackTraces = false) (N : Nat) (G : Nat → Nat → Int32) (J : Nat → Nat → Int64) (p0 : Int32) (p1 : Int32) (v : Int32) (h : p_X6_isOf N G J p0 p1 = some v) : jMet V yX6_isOf (jws yX6_isOf cX6_isOf 3 (some .boolean)) ⟨1, 0, 0, 22⟩ true 1 [.ref 0, .int p0, .int p1] (hMo G J) (fun o ν => o = some (.int v) ∧ ν = (hMo G J)) (fun _ _ => False) := by
  refine jmk (tb := tbX6) (C := kX6_isOf) hV rfl (by decide) tbX6_ok rfl kX6_isOf_ok rfl ?_
  intro X hM _ hp _
  exact t_X6_isOf hM hp N G J p0 p1 h ⟨rfl, rfl⟩
def p_X6_pays_b109 (N : Nat) (G : Nat → Nat → Int32) (J : Nat → Nat → Int64) (rv6 : Int32 → Int32 → Int32 → Int32 → Int32 → Option (Int32)) (x1 : Int32) (x2 : Int32) (x3 : Int32) (x4 : Int32) (x5 : Int32) : Option (Int32) :=
  rv6 x1 x2 x3 x4 (x5 + 1)
def p_X6_pays_b106 (N : Nat) (G : Nat → Nat → Int32) (J : Nat → Nat → Int64) (rv6 : Int32 → Int32 → Int32 → Int32 → Int32 → Option (Int32)) (x1 : Int32) (x2 : Int32) (x3 : Int32) (x5 : Int32) (s0 : Int32) (s1 : Int32) : Option (Int32) :=
  p_X6_pays_b109 N G J rv6 x1 x2 x3 (s1 + s0) x5
def p_X6_pays_b69 (N : Nat) (G : Nat → Nat → Int32) (J : Nat → Nat → Int64) (rv6 : Int32 → Int32 → Int32 → Int32 → Int32 → Option (Int32)) (x1 : Int32) (x2 : Int32) (x3 : Int32) (x5 : Int32) (s0 : Int32) (s1 : Int32) : Option (Int32) :=
  (p_X6_of N G J x5 (2 : Int32)).bind (fun v4 => if v4 = x3 then ((p_X6_worthOf N G J x5 (0 : Int32)).bind (fun v6 => p_X6_pays_b106 N G J rv6 x1 x2 x3 x5 (((G 1 4) * v6) / (100 : Int32)) (s1 + s0))) else (p_X6_pays_b106 N G J rv6 x1 x2 x3 x5 (0 : Int32) (s1 + s0)))
def p_X6_pays_b6 (N : Nat) (G : Nat → Nat → Int32) (J : Nat → Nat → Int64) : Nat → (Int32) → (Int32) → (Int32) → (Int32) → (Int32) → Option (Int32)
  | 0, _, _, _, _, _ => none
  | n + 1, x1, x2, x3, x4, x5 => if (G 1 7) ≤ x5 then (some x4) else (if x3 = x2 then (some x4) else (if ((x1 >>> (x5 &&& 31)) &&& (1 : Int32)) = 0 then (p_X6_pays_b109 N G J (p_X6_pays_b6 N G J n) x1 x2 x3 x4 x5) else ((p_X6_of N G J x5 (1 : Int32)).bind (fun v2 => if v2 = x3 then ((p_X6_worthOf N G J x5 (1 : Int32)).bind (fun v9 => p_X6_pays_b69 N G J (p_X6_pays_b6 N G J n) x1 x2 x3 x5 (((G 1 4) * v9) / (100 : Int32)) x4)) else (p_X6_pays_b69 N G J (p_X6_pays_b6 N G J n) x1 x2 x3 x5 (0 : Int32) x4)))))
def p_X6_pays (N : Nat) (G : Nat → Nat → Int32) (J : Nat → Nat → Int64) (p0 : Int32) (p1 : Int32) (p2 : Int32) : Option (Int32) :=
  p_X6_pays_b6 N G J N p0 p1 p2 (0 : Int32) (0 : Int32)
set_option maxHeartbeats 4000000 in
set_option maxRecDepth 100000 in
theorem t_X6_pays_b109 {X : jX} {po : Option Value → jH → Prop} {px : String → jH → Prop} {sf : Bool} {B9 : Nat} (hM : jMX X kX6_pays RX6 tbX6 6 ⟨2, 0, 0, 46⟩ (some .int) 16) (hp : jPost X sf B9 po px) (N : Nat) (G : Nat → Nat → Int32) (J : Nat → Nat → Int64) (rv6 : Int32 → Int32 → Int32 → Int32 → Int32 → Option (Int32)) {res : Int32} (ih6 : ∀ (x1 : Int32) (x2 : Int32) (x3 : Int32) (x4 : Int32) (x5 : Int32), rv6 x1 x2 x3 x4 x5 = some res → JW X 0 0 6 [some (.ref 0), some (.int x1), some (.int x2), some (.int x3), some (.int x4), some (.int x5)] [] (hMo G J)) (x1 : Int32) (x2 : Int32) (x3 : Int32) (x4 : Int32) (x5 : Int32) (h : p_X6_pays_b109 N G J rv6 x1 x2 x3 x4 x5 = some res) (hq : po (some (.int res)) (hMo G J)) : JW X 0 0 109 [some (.ref 0), some (.int x1), some (.int x2), some (.int x3), some (.int x4), some (.int x5)] [] (hMo G J) := by
  unfold p_X6_pays_b109 at h
  refine JW.r hM 64 2 (pc2 := 6) (L2 := [some (.ref 0), some (.int x1), some (.int x2), some (.int x3), some (.int x4), some (.int (x5 + 1))]) (st2 := []) (μ2 := (hMo G J)) rfl trivial ?_
  exact ih6 x1 x2 x3 x4 (x5 + 1) h
set_option maxHeartbeats 4000000 in
set_option maxRecDepth 100000 in
theorem t_X6_pays_b106 {X : jX} {po : Option Value → jH → Prop} {px : String → jH → Prop} {sf : Bool} {B9 : Nat} (hM : jMX X kX6_pays RX6 tbX6 6 ⟨2, 0, 0, 46⟩ (some .int) 16) (hp : jPost X sf B9 po px) (N : Nat) (G : Nat → Nat → Int32) (J : Nat → Nat → Int64) (rv6 : Int32 → Int32 → Int32 → Int32 → Int32 → Option (Int32)) {res : Int32} (ih6 : ∀ (x1 : Int32) (x2 : Int32) (x3 : Int32) (x4 : Int32) (x5 : Int32), rv6 x1 x2 x3 x4 x5 = some res → JW X 0 0 6 [some (.ref 0), some (.int x1), some (.int x2), some (.int x3), some (.int x4), some (.int x5)] [] (hMo G J)) (x1 : Int32) (x2 : Int32) (x3 : Int32) (x5 : Int32) (s0 : Int32) (s1 : Int32) (h : p_X6_pays_b106 N G J rv6 x1 x2 x3 x5 s0 s1 = some res) (hq : po (some (.int res)) (hMo G J)) : JW X 0 0 106 [some (.ref 0), some (.int x1), some (.int x2), some (.int x3), none, some (.int x5)] [.int s0, .int s1] (hMo G J) := by
  unfold p_X6_pays_b106 at h
  refine JW.r hM 62 2 (pc2 := 109) (L2 := [some (.ref 0), some (.int x1), some (.int x2), some (.int x3), some (.int (s1 + s0)), some (.int x5)]) (st2 := []) (μ2 := (hMo G J)) rfl trivial ?_
  exact t_X6_pays_b109 hM hp N G J rv6 ih6 x1 x2 x3 (s1 + s0) x5 h hq
set_option maxHeartbeats 4000000 in
set_option maxRecDepth 100000 in
theorem t_X6_pays_b69 {X : jX} {po : Option Value → jH → Prop} {px : String → jH → Prop} {sf : Bool} {B9 : Nat} (hM : jMX X kX6_pays RX6 tbX6 6 ⟨2, 0, 0, 46⟩ (some .int) 16) (hp : jPost X sf B9 po px) (N : Nat) (G : Nat → Nat → Int32) (J : Nat → Nat → Int64) (rv6 : Int32 → Int32 → Int32 → Int32 → Int32 → Option (Int32)) {res : Int32} (ih6 : ∀ (x1 : Int32) (x2 : Int32) (x3 : Int32) (x4 : Int32) (x5 : Int32), rv6 x1 x2 x3 x4 x5 = some res → JW X 0 0 6 [some (.ref 0), some (.int x1), some (.int x2), some (.int x3), some (.int x4), some (.int x5)] [] (hMo G J)) (x1 : Int32) (x2 : Int32) (x3 : Int32) (x5 : Int32) (s0 : Int32) (s1 : Int32) (h : p_X6_pays_b69 N G J rv6 x1 x2 x3 x5 s0 s1 = some res) (hq : po (some (.int res)) (hMo G J)) : JW X 0 0 69 [some (.ref 0), some (.int x1), some (.int x2), some (.int x3), none, some (.int x5)] [.int s0, .int s1] (hMo G J) := by
  unfold p_X6_pays_b69 at h
  refine JW.r hM 40 6 (pc2 := 78) (L2 := [some (.ref 0), some (.int x1), some (.int x2), some (.int x3), some (.int (s1 + s0)), some (.int x5)]) (st2 := [.int (2 : Int32), .int x5, .ref 0, .int (s1 + s0)]) (μ2 := (hMo G J)) rfl trivial ?_
  obtain ⟨v4, hv3, h⟩ := jbd h
  refine JW.cV (v := some (.int v4)) hM (m_X6_of (jVX X) hM.1.2.2.2.2.2.2.2.2.2.1 N G J x5 (2 : Int32) v4 hv3) (sb_Mo_Mo_0 G J) (bi_Mo_Mo_0 G J) rfl rfl rfl kc_X6_208 rfl rfl rfl rfl rfl (jat hM.2.1 46 rfl) (st := [.int (s1 + s0)]) rfl ?_
  show JW X 0 0 81 [some (.ref 0), some (.int x1), some (.int x2), some (.int x3), some (.int (s1 + s0)), some (.int x5)] [.int v4, .int (s1 + s0)] (hMo G J)
  refine JW.r hM 47 1 (pc2 := 82) (L2 := [some (.ref 0), some (.int x1), some (.int x2), some (.int x3), some (.int (s1 + s0)), some (.int x5)]) (st2 := [.int x3, .int v4, .int (s1 + s0)]) (μ2 := (hMo G J)) rfl trivial ?_
  refine js_icne (t := 105) hM.1 (jat hM.2.1 48 rfl) rfl (fun hc7 => ?_) (fun hc7 => ?_)
  · have h := (if_neg hc7).symm.trans h
    refine JW.r hM 61 1 (pc2 := 106) (L2 := [some (.ref 0), some (.int x1), some (.int x2), some (.int x3), some (.int (s1 + s0)), some (.int x5)]) (st2 := [.int (0 : Int32), .int (s1 + s0)]) (μ2 := (hMo G J)) rfl trivial ?_
    exact JW.mask [true, true, true, true, false, true] (t_X6_pays_b106 hM hp N G J rv6 ih6 x1 x2 x3 x5 (0 : Int32) (s1 + s0) h hq)
  · have h := (if_pos hc7).symm.trans h
    refine JW.r hM 49 7 (pc2 := 95) (L2 := [some (.ref 0), some (.int x1), some (.int x2), some (.int x3), some (.int (s1 + s0)), some (.int x5)]) (st2 := [.int (0 : Int32), .int x5, .ref 0, .int (G 1 4), .int (s1 + s0)]) (μ2 := (hMo G J)) rfl ⟨rfl, trivial⟩ ?_
    obtain ⟨v6, hv5, h⟩ := jbd h
    refine JW.cV (v := some (.int v6)) hM (m_X6_worthOf (jVX X) hM.1.2.2.2.2.2.2.2.2.2.1 N G J x5 (0 : Int32) v6 hv5) (sb_Mo_Mo_0 G J) (bi_Mo_Mo_0 G J) rfl rfl rfl kc_X6_236 rfl rfl rfl rfl rfl (jat hM.2.1 56 rfl) (st := [.int (G 1 4), .int (s1 + s0)]) rfl ?_
    show JW X 0 0 98 [some (.ref 0), some (.int x1), some (.int x2), some (.int x3), some (.int (s1 + s0)), some (.int x5)] [.int v6, .int (G 1 4), .int (s1 + s0)] (hMo G J)
    refine JW.r hM 57 4 (pc2 := 106) (L2 := [some (.ref 0), some (.int x1), some (.int x2), some (.int x3), some (.int (s1 + s0)), some (.int x5)]) (st2 := [.int (((G 1 4) * v6) / (100 : Int32)), .int (s1 + s0)]) (μ2 := (hMo G J)) rfl ⟨(by decide), trivial⟩ ?_
    exact JW.mask [true, true, true, true, false, true] (t_X6_pays_b106 hM hp N G J rv6 ih6 x1 x2 x3 x5 (((G 1 4) * v6) / (100 : Int32)) (s1 + s0) h hq)
set_option maxHeartbeats 4000000 in
set_option maxRecDepth 100000 in
theorem t_X6_pays_b6 {X : jX} {po : Option Value → jH → Prop} {px : String → jH → Prop} {sf : Bool} {B9 : Nat} (hM : jMX X kX6_pays RX6 tbX6 6 ⟨2, 0, 0, 46⟩ (some .int) 16) (hp : jPost X sf B9 po px) (N : Nat) (G : Nat → Nat → Int32) (J : Nat → Nat → Int64) {res : Int32} : ∀ (n : Nat) (x1 : Int32) (x2 : Int32) (x3 : Int32) (x4 : Int32) (x5 : Int32) (h : p_X6_pays_b6 N G J n x1 x2 x3 x4 x5 = some res) (hq : po (some (.int res)) (hMo G J)), JW X 0 0 6 [some (.ref 0), some (.int x1), some (.int x2), some (.int x3), some (.int x4), some (.int x5)] [] (hMo G J) := by
  intro n
  induction n with
  | zero =>
    intro x1 x2 x3 x4 x5 h hq
    cases (show (none : Option (Int32)) = some res from h)
  | succ n ih6 =>
    intro x1 x2 x3 x4 x5 h hq
    have ih6 := fun x1 x2 x3 x4 x5 h9 => ih6 x1 x2 x3 x4 x5 h9 hq
    rw [p_X6_pays_b6] at h
    refine JW.r hM 4 5 (pc2 := 15) (L2 := [some (.ref 0), some (.int x1), some (.int x2), some (.int x3), some (.int x4), some (.int x5)]) (st2 := [.int (G 1 7), .int x5]) (μ2 := (hMo G J)) rfl ⟨rfl, trivial⟩ ?_
    refine js_icge (t := 115) hM.1 (jat hM.2.1 9 rfl) rfl (fun hc13 => ?_) (fun hc13 => ?_)
    · have h := (if_pos hc13).symm.trans h
      refine JW.r hM 66 1 (pc2 := 117) (L2 := [some (.ref 0), some (.int x1), some (.int x2), some (.int x3), some (.int x4), some (.int x5)]) (st2 := [.int x4]) (μ2 := (hMo G J)) rfl trivial ?_
      obtain rfl := Option.some.inj h
      exact js_iret hM.1 hp hM.2.2.2.2.2.2.2.1 (by rw [hM.2.2.2.2.2.1]; exact Nat.le_of_ble_eq_true rfl) (by rw [hM.2.2.2.2.2.2.1]; exact Nat.le_of_ble_eq_true rfl) (jat hM.2.1 67 rfl) hq
    · have h := (if_neg hc13).symm.trans h
      refine JW.r hM 10 2 (pc2 := 20) (L2 := [some (.ref 0), some (.int x1), some (.int x2), some (.int x3), some (.int x4), some (.int x5)]) (st2 := [.int x2, .int x3]) (μ2 := (hMo G J)) rfl trivial ?_
      refine js_iceq (t := 115) hM.1 (jat hM.2.1 12 rfl) rfl (fun hc12 => ?_) (fun hc12 => ?_)
      · have h := (if_pos hc12).symm.trans h
        refine JW.r hM 66 1 (pc2 := 117) (L2 := [some (.ref 0), some (.int x1), some (.int x2), some (.int x3), some (.int x4), some (.int x5)]) (st2 := [.int x4]) (μ2 := (hMo G J)) rfl trivial ?_
        obtain rfl := Option.some.inj h
        exact js_iret hM.1 hp hM.2.2.2.2.2.2.2.1 (by rw [hM.2.2.2.2.2.1]; exact Nat.le_of_ble_eq_true rfl) (by rw [hM.2.2.2.2.2.2.1]; exact Nat.le_of_ble_eq_true rfl) (jat hM.2.1 67 rfl) hq
      · have h := (if_neg hc12).symm.trans h
        refine JW.r hM 13 5 (pc2 := 29) (L2 := [some (.ref 0), some (.int x1), some (.int x2), some (.int x3), some (.int x4), some (.int x5)]) (st2 := [.int ((x1 >>> (x5 &&& 31)) &&& (1 : Int32))]) (μ2 := (hMo G J)) rfl trivial ?_
        refine js_ifne (t := 35) hM.1 (jat hM.2.1 18 rfl) rfl (fun hc11 => ?_) (fun hc11 => ?_)
        · have h := (if_neg hc11).symm.trans h
          refine JW.r hM 20 4 (pc2 := 41) (L2 := [some (.ref 0), some (.int x1), some (.int x2), some (.int x3), some (.int x4), some (.int x5)]) (st2 := [.int (1 : Int32), .int x5, .ref 0, .int x4]) (μ2 := (hMo G J)) rfl trivial ?_
          obtain ⟨v2, hv1, h⟩ := jbd h
          refine JW.cV (v := some (.int v2)) hM (m_X6_of (jVX X) hM.1.2.2.2.2.2.2.2.2.2.1 N G J x5 (1 : Int32) v2 hv1) (sb_Mo_Mo_0 G J) (bi_Mo_Mo_0 G J) rfl rfl rfl kc_X6_208 rfl rfl rfl rfl rfl (jat hM.2.1 24 rfl) (st := [.int x4]) rfl ?_
          show JW X 0 0 44 [some (.ref 0), some (.int x1), some (.int x2), some (.int x3), some (.int x4), some (.int x5)] [.int v2, .int x4] (hMo G J)
          refine JW.r hM 25 1 (pc2 := 45) (L2 := [some (.ref 0), some (.int x1), some (.int x2), some (.int x3), some (.int x4), some (.int x5)]) (st2 := [.int x3, .int v2, .int x4]) (μ2 := (hMo G J)) rfl trivial ?_
          refine js_icne (t := 68) hM.1 (jat hM.2.1 26 rfl) rfl (fun hc10 => ?_) (fun hc10 => ?_)
          · have h := (if_neg hc10).symm.trans h
            refine JW.r hM 39 1 (pc2 := 69) (L2 := [some (.ref 0), some (.int x1), some (.int x2), some (.int x3), some (.int x4), some (.int x5)]) (st2 := [.int (0 : Int32), .int x4]) (μ2 := (hMo G J)) rfl trivial ?_
            exact JW.mask [true, true, true, true, false, true] (t_X6_pays_b69 hM hp N G J (p_X6_pays_b6 N G J n) ih6 x1 x2 x3 x5 (0 : Int32) x4 h hq)
          · have h := (if_pos hc10).symm.trans h
            refine JW.r hM 27 7 (pc2 := 58) (L2 := [some (.ref 0), some (.int x1), some (.int x2), some (.int x3), some (.int x4), some (.int x5)]) (st2 := [.int (1 : Int32), .int x5, .ref 0, .int (G 1 4), .int x4]) (μ2 := (hMo G J)) rfl ⟨rfl, trivial⟩ ?_
            obtain ⟨v9, hv8, h⟩ := jbd h
            refine JW.cV (v := some (.int v9)) hM (m_X6_worthOf (jVX X) hM.1.2.2.2.2.2.2.2.2.2.1 N G J x5 (1 : Int32) v9 hv8) (sb_Mo_Mo_0 G J) (bi_Mo_Mo_0 G J) rfl rfl rfl kc_X6_236 rfl rfl rfl rfl rfl (jat hM.2.1 34 rfl) (st := [.int (G 1 4), .int x4]) rfl ?_
            show JW X 0 0 61 [some (.ref 0), some (.int x1), some (.int x2), some (.int x3), some (.int x4), some (.int x5)] [.int v9, .int (G 1 4), .int x4] (hMo G J)
            refine JW.r hM 35 4 (pc2 := 69) (L2 := [some (.ref 0), some (.int x1), some (.int x2), some (.int x3), some (.int x4), some (.int x5)]) (st2 := [.int (((G 1 4) * v9) / (100 : Int32)), .int x4]) (μ2 := (hMo G J)) rfl ⟨(by decide), trivial⟩ ?_
            exact JW.mask [true, true, true, true, false, true] (t_X6_pays_b69 hM hp N G J (p_X6_pays_b6 N G J n) ih6 x1 x2 x3 x5 (((G 1 4) * v9) / (100 : Int32)) x4 h hq)
        · have h := (if_pos hc11).symm.trans h
          refine JW.r hM 19 1 (pc2 := 109) (L2 := [some (.ref 0), some (.int x1), some (.int x2), some (.int x3), some (.int x4), some (.int x5)]) (st2 := []) (μ2 := (hMo G J)) rfl trivial ?_
          exact t_X6_pays_b109 hM hp N G J (p_X6_pays_b6 N G J n) ih6 x1 x2 x3 x4 x5 h hq
set_option maxHeartbeats 4000000 in
set_option maxRecDepth 100000 in
theorem t_X6_pays {X : jX} {po : Option Value → jH → Prop} {px : String → jH → Prop} {sf : Bool} {B9 : Nat} (hM : jMX X kX6_pays RX6 tbX6 6 ⟨2, 0, 0, 46⟩ (some .int) 16) (hp : jPost X sf B9 po px) (N : Nat) (G : Nat → Nat → Int32) (J : Nat → Nat → Int64) (p0 : Int32) (p1 : Int32) (p2 : Int32) {res : Int32} (h : p_X6_pays N G J p0 p1 p2 = some res) (hq : po (some (.int res)) (hMo G J)) : JW X 0 0 0 [some (.ref 0), some (.int p0), some (.int p1), some (.int p2), none, none] [] (hMo G J) := by
  unfold p_X6_pays at h
  refine JW.r hM 0 4 (pc2 := 6) (L2 := [some (.ref 0), some (.int p0), some (.int p1), some (.int p2), some (.int (0 : Int32)), some (.int (0 : Int32))]) (st2 := []) (μ2 := (hMo G J)) rfl trivial ?_
  exact t_X6_pays_b6 hM hp N G J N p0 p1 p2 (0 : Int32) (0 : Int32) h hq
theorem m_X6_pays (V : jV) (hV : V.1.stackTraces = false) (N : Nat) (G : Nat → Nat → Int32) (J : Nat → Nat → Int64) (p0 : Int32) (p1 : Int32) (p2 : Int32) (v : Int32) (h : p_X6_pays N G J p0 p1 p2 = some v) : jMet V yX6_pays (jws yX6_pays cX6_pays 6 (some .int)) ⟨2, 0, 0, 46⟩ true 1 [.ref 0, .int p0, .int p1, .int p2] (hMo G J) (fun o ν => o = some (.int v) ∧ ν = (hMo G J)) (fun _ _ => False) := by
  refine jmk (tb := tbX6) (C := kX6_pays) hV rfl (by decide) tbX6_ok rfl kX6_pays_ok rfl ?_
  intro X hM _ hp _
  exact t_X6_pays hM hp N G J p0 p1 p2 h ⟨rfl, rfl⟩
def p_X6_undoes_b187 (N : Nat) (J : Nat → Nat → Int64) (rv79 : (Nat → Nat → Int32) → Int32 → Int32 → Int32 → Option (Int32 × (Nat → Nat → Int32))) (G : Nat → Nat → Int32) (x3 : Int32) (x4 : Int32) (x5 : Int32) : Option (Int32 × (Nat → Nat → Int32)) :=
  rv79 G x3 x4 (x5 + (-1))
def p_X6_undoes_b79 (N : Nat) (J : Nat → Nat → Int64) : Nat → (Nat → Nat → Int32) → (Int32) → (Int32) → (Int32) → Option (Int32 × (Nat → Nat → Int32))
  | 0, _, _, _, _ => none
  | n + 1, G, x3, x4, x5 => if x5 < 0 then (some (x4, G)) else (if ((x3 >>> (x5 &&& 31)) &&& (1 : Int32)) = 0 then (p_X6_undoes_b187 N J (p_X6_undoes_b79 N J n) G x3 x4 x5) else (if jin (((84 : Int32) + ((6 : Int32) * x5)) + (4 : Int32)) 264 = true then jlt (jup G 1 (((84 : Int32) + ((6 : Int32) * x5)) + (4 : Int32)).toNatClampNeg (0 : Int32)) fun G4 => (p_X6_of N G4 J x5 (0 : Int32)).bind (fun v7 => (p_X6_of N G4 J x5 (1 : Int32)).bind (fun v9 => if jin ((14 : Int32) + v7) 264 = true then jlt (jup G4 1 ((14 : Int32) + v7).toNatClampNeg v9) fun G11 => (p_X6_of N G11 J x5 (1 : Int32)).bind (fun v14 => if jin ((8 : Int32) + v14) 264 = true then (p_X6_of N G11 J x5 (3 : Int32)).bind (fun v17 => if jin ((8 : Int32) + v14) 264 = true then jlt (jup G11 1 ((8 : Int32) + v14).toNatClampNeg ((G11 1 ((8 : Int32) + v14).toNatClampNeg) - v17)) fun G19 => (p_X6_of N G19 J x5 (2 : Int32)).bind (fun v22 => if jin ((8 : Int32) + v22) 264 = true then (p_X6_of N G19 J x5 (3 : Int32)).bind (fun v25 => if jin ((8 : Int32) + v22) 264 = true then jlt (jup G19 1 ((8 : Int32) + v22).toNatClampNeg ((G19 1 ((8 : Int32) + v22).toNatClampNeg) + v25)) fun G27 => p_X6_undoes_b187 N J (p_X6_undoes_b79 N J n) G27 x3 (x4 + 1) x5 else none) else none) else none) else none) else none)) else none))
def p_X6_undoes_b12 (N : Nat) (J : Nat → Nat → Int64) : Nat → (Nat → Nat → Int32) → (Int32) → (Int32) → (Int32) → (Int32) → Option (Int32 × (Nat → Nat → Int32))
  | 0, _, _, _, _, _ => none
  | n + 1, G, x2, x3, x4, x5 => if (G 1 1) ≤ x5 then (p_X6_undoes_b79 N J N G x3 x4 ((G 1 7) - (1 : Int32))) else ((p_X6_pays N G J x3 x2 x5).bind (fun v32 => if jin ((8 : Int32) + x5) 264 = true then if jin ((8 : Int32) + x5) 264 = true then jlt (jup G 1 ((8 : Int32) + x5).toNatClampNeg ((G 1 ((8 : Int32) + x5).toNatClampNeg) + v32)) fun G35 => if jin ((8 : Int32) + x2) 264 = true then if jin ((8 : Int32) + x2) 264 = true then jlt (jup G35 1 ((8 : Int32) + x2).toNatClampNeg ((G35 1 ((8 : Int32) + x2).toNatClampNeg) - v32)) fun G39 => (p_X6_undoes_b12 N J n) G39 x2 x3 x4 (x5 + 1) else none else none else none else none))
def p_X6_undoes (N : Nat) (G : Nat → Nat → Int32) (J : Nat → Nat → Int64) (p0 : Int32) (p1 : Int32) : Option (Int32 × (Nat → Nat → Int32)) :=
  (p_X6_fallsOf N G J p0).bind (fun v2 => p_X6_undoes_b12 N J N G p1 v2 (0 : Int32) (0 : Int32))
set_option maxHeartbeats 4000000 in
set_option maxRecDepth 100000 in
theorem t_X6_undoes_b187 {X : jX} {po : Option Value → jH → Prop} {px : String → jH → Prop} {sf : Bool} {B9 : Nat} (hM : jMX X kX6_undoes RX6 tbX6 7 ⟨3, 0, 0, 71⟩ (some .int) 16) (hp : jPost X sf B9 po px) (N : Nat) (J : Nat → Nat → Int64) (rv79 : (Nat → Nat → Int32) → Int32 → Int32 → Int32 → Option (Int32 × (Nat → Nat → Int32))) {res : Int32 × (Nat → Nat → Int32)} (ih79 : ∀ (G : Nat → Nat → Int32) (x3 : Int32) (x4 : Int32) (x5 : Int32), rv79 G x3 x4 x5 = some res → JW X 0 0 79 [some (.ref 0), none, none, some (.int x3), some (.int x4), some (.int x5), none] [] (hMo G J)) (G : Nat → Nat → Int32) (x3 : Int32) (x4 : Int32) (x5 : Int32) (h : p_X6_undoes_b187 N J rv79 G x3 x4 x5 = some res) (hq : po (some (.int res.1)) (hMo res.2 J)) : JW X 0 0 187 [some (.ref 0), none, none, some (.int x3), some (.int x4), some (.int x5), none] [] (hMo G J) := by
  unfold p_X6_undoes_b187 at h
  refine JW.r hM 115 2 (pc2 := 79) (L2 := [some (.ref 0), none, none, some (.int x3), some (.int x4), some (.int (x5 + (-1))), none]) (st2 := []) (μ2 := (hMo G J)) rfl trivial ?_
  exact ih79 G x3 x4 (x5 + (-1)) h
set_option maxHeartbeats 4000000 in
set_option maxRecDepth 100000 in
theorem t_X6_undoes_b79 {X : jX} {po : Option Value → jH → Prop} {px : String → jH → Prop} {sf : Bool} {B9 : Nat} (hM : jMX X kX6_undoes RX6 tbX6 7 ⟨3, 0, 0, 71⟩ (some .int) 16) (hp : jPost X sf B9 po px) (N : Nat) (J : Nat → Nat → Int64) {res : Int32 × (Nat → Nat → Int32)} : ∀ (n : Nat) (G : Nat → Nat → Int32) (x3 : Int32) (x4 : Int32) (x5 : Int32) (h : p_X6_undoes_b79 N J n G x3 x4 x5 = some res) (hq : po (some (.int res.1)) (hMo res.2 J)), JW X 0 0 79 [some (.ref 0), none, none, some (.int x3), some (.int x4), some (.int x5), none] [] (hMo G J) := by
  intro n
  induction n with
  | zero =>
    intro G x3 x4 x5 h hq
    cases (show (none : Option (Int32 × (Nat → Nat → Int32))) = some res from h)
  | succ n ih79 =>
    intro G x3 x4 x5 h hq
    have ih79 := fun G x3 x4 x5 h9 => ih79 G x3 x4 x5 h9 hq
    rw [p_X6_undoes_b79] at h
    refine JW.r hM 49 1 (pc2 := 81) (L2 := [some (.ref 0), none, none, some (.int x3), some (.int x4), some (.int x5), none]) (st2 := [.int x5]) (μ2 := (hMo G J)) rfl trivial ?_
    refine js_iflt (t := 193) hM.1 (jat hM.2.1 50 rfl) rfl (fun hc30 => ?_) (fun hc30 => ?_)
    · have h := (if_pos hc30).symm.trans h
      refine JW.r hM 117 1 (pc2 := 195) (L2 := [some (.ref 0), none, none, some (.int x3), some (.int x4), some (.int x5), none]) (st2 := [.int x4]) (μ2 := (hMo G J)) rfl trivial ?_
      obtain rfl := Option.some.inj h
      exact js_iret hM.1 hp hM.2.2.2.2.2.2.2.1 (by rw [hM.2.2.2.2.2.1]; exact Nat.le_of_ble_eq_true rfl) (by rw [hM.2.2.2.2.2.2.1]; exact Nat.le_of_ble_eq_true rfl) (jat hM.2.1 118 rfl) hq
    · have h := (if_neg hc30).symm.trans h
      refine JW.r hM 51 5 (pc2 := 90) (L2 := [some (.ref 0), none, none, some (.int x3), some (.int x4), some (.int x5), none]) (st2 := [.int ((x3 >>> (x5 &&& 31)) &&& (1 : Int32))]) (μ2 := (hMo G J)) rfl trivial ?_
      refine js_ifne (t := 96) hM.1 (jat hM.2.1 56 rfl) rfl (fun hc29 => ?_) (fun hc29 => ?_)
      · have h := (if_neg hc29).symm.trans h
        obtain ⟨g3, h⟩ := jg h
        obtain ⟨G4, e5, h⟩ := jlE h
        refine JW.r hM 58 11 (pc2 := 112) (L2 := [some (.ref 0), none, none, some (.int x3), some (.int x4), some (.int x5), none]) (st2 := []) (μ2 := (hMo (jup G 1 (((84 : Int32) + ((6 : Int32) * x5)) + (4 : Int32)).toNatClampNeg (0 : Int32)) J)) rfl ⟨g3, trivial⟩ ?_
        rw [e5]
        refine JW.r hM 69 6 (pc2 := 122) (L2 := [some (.ref 0), none, none, some (.int x3), some (.int x4), some (.int x5), none]) (st2 := [.int (0 : Int32), .int x5, .ref 0, .int (14 : Int32), .ref 1]) (μ2 := (hMo G4 J)) rfl trivial ?_
        obtain ⟨v7, hv6, h⟩ := jbd h
        refine JW.cV (v := some (.int v7)) hM (m_X6_of (jVX X) hM.1.2.2.2.2.2.2.2.2.2.1 N G4 J x5 (0 : Int32) v7 hv6) (sb_Mo_Mo_0 G4 J) (bi_Mo_Mo_0 G4 J) rfl rfl rfl kc_X6_208 rfl rfl rfl rfl rfl (jat hM.2.1 75 rfl) (st := [.int (14 : Int32), .ref 1]) rfl ?_
        show JW X 0 0 125 [some (.ref 0), none, none, some (.int x3), some (.int x4), some (.int x5), none] [.int v7, .int (14 : Int32), .ref 1] (hMo G4 J)
        refine JW.r hM 76 4 (pc2 := 130) (L2 := [some (.ref 0), none, none, some (.int x3), some (.int x4), some (.int x5), none]) (st2 := [.int (1 : Int32), .int x5, .ref 0, .int ((14 : Int32) + v7), .ref 1]) (μ2 := (hMo G4 J)) rfl trivial ?_
        obtain ⟨v9, hv8, h⟩ := jbd h
        refine JW.cV (v := some (.int v9)) hM (m_X6_of (jVX X) hM.1.2.2.2.2.2.2.2.2.2.1 N G4 J x5 (1 : Int32) v9 hv8) (sb_Mo_Mo_0 G4 J) (bi_Mo_Mo_0 G4 J) rfl rfl rfl kc_X6_208 rfl rfl rfl rfl rfl (jat hM.2.1 80 rfl) (st := [.int ((14 : Int32) + v7), .ref 1]) rfl ?_
        show JW X 0 0 133 [some (.ref 0), none, none, some (.int x3), some (.int x4), some (.int x5), none] [.int v9, .int ((14 : Int32) + v7), .ref 1] (hMo G4 J)
        obtain ⟨g10, h⟩ := jg h
        obtain ⟨G11, e12, h⟩ := jlE h
        refine JW.r hM 81 1 (pc2 := 134) (L2 := [some (.ref 0), none, none, some (.int x3), some (.int x4), some (.int x5), none]) (st2 := []) (μ2 := (hMo (jup G4 1 ((14 : Int32) + v7).toNatClampNeg v9) J)) rfl ⟨g10, trivial⟩ ?_
        rw [e12]
        refine JW.r hM 82 6 (pc2 := 144) (L2 := [some (.ref 0), none, none, some (.int x3), some (.int x4), some (.int x5), none]) (st2 := [.int (1 : Int32), .int x5, .ref 0, .int (8 : Int32), .ref 1]) (μ2 := (hMo G11 J)) rfl trivial ?_
        obtain ⟨v14, hv13, h⟩ := jbd h
        refine JW.cV (v := some (.int v14)) hM (m_X6_of (jVX X) hM.1.2.2.2.2.2.2.2.2.2.1 N G11 J x5 (1 : Int32) v14 hv13) (sb_Mo_Mo_0 G11 J) (bi_Mo_Mo_0 G11 J) rfl rfl rfl kc_X6_208 rfl rfl rfl rfl rfl (jat hM.2.1 88 rfl) (st := [.int (8 : Int32), .ref 1]) rfl ?_
        show JW X 0 0 147 [some (.ref 0), none, none, some (.int x3), some (.int x4), some (.int x5), none] [.int v14, .int (8 : Int32), .ref 1] (hMo G11 J)
        obtain ⟨g15, h⟩ := jg h
        refine JW.r hM 89 6 (pc2 := 154) (L2 := [some (.ref 0), none, none, some (.int x3), some (.int x4), some (.int x5), none]) (st2 := [.int (3 : Int32), .int x5, .ref 0, .int (G11 1 ((8 : Int32) + v14).toNatClampNeg), .int ((8 : Int32) + v14), .ref 1]) (μ2 := (hMo G11 J)) rfl ⟨g15, trivial⟩ ?_
        obtain ⟨v17, hv16, h⟩ := jbd h
        refine JW.cV (v := some (.int v17)) hM (m_X6_of (jVX X) hM.1.2.2.2.2.2.2.2.2.2.1 N G11 J x5 (3 : Int32) v17 hv16) (sb_Mo_Mo_0 G11 J) (bi_Mo_Mo_0 G11 J) rfl rfl rfl kc_X6_208 rfl rfl rfl rfl rfl (jat hM.2.1 95 rfl) (st := [.int (G11 1 ((8 : Int32) + v14).toNatClampNeg), .int ((8 : Int32) + v14), .ref 1]) rfl ?_
        show JW X 0 0 157 [some (.ref 0), none, none, some (.int x3), some (.int x4), some (.int x5), none] [.int v17, .int (G11 1 ((8 : Int32) + v14).toNatClampNeg), .int ((8 : Int32) + v14), .ref 1] (hMo G11 J)
        obtain ⟨g18, h⟩ := jg h
        obtain ⟨G19, e20, h⟩ := jlE h
        refine JW.r hM 96 2 (pc2 := 159) (L2 := [some (.ref 0), none, none, some (.int x3), some (.int x4), some (.int x5), none]) (st2 := []) (μ2 := (hMo (jup G11 1 ((8 : Int32) + v14).toNatClampNeg ((G11 1 ((8 : Int32) + v14).toNatClampNeg) - v17)) J)) rfl ⟨g18, trivial⟩ ?_
        rw [e20]
        refine JW.r hM 98 6 (pc2 := 169) (L2 := [some (.ref 0), none, none, some (.int x3), some (.int x4), some (.int x5), none]) (st2 := [.int (2 : Int32), .int x5, .ref 0, .int (8 : Int32), .ref 1]) (μ2 := (hMo G19 J)) rfl trivial ?_
        obtain ⟨v22, hv21, h⟩ := jbd h
        refine JW.cV (v := some (.int v22)) hM (m_X6_of (jVX X) hM.1.2.2.2.2.2.2.2.2.2.1 N G19 J x5 (2 : Int32) v22 hv21) (sb_Mo_Mo_0 G19 J) (bi_Mo_Mo_0 G19 J) rfl rfl rfl kc_X6_208 rfl rfl rfl rfl rfl (jat hM.2.1 104 rfl) (st := [.int (8 : Int32), .ref 1]) rfl ?_
        show JW X 0 0 172 [some (.ref 0), none, none, some (.int x3), some (.int x4), some (.int x5), none] [.int v22, .int (8 : Int32), .ref 1] (hMo G19 J)
        obtain ⟨g23, h⟩ := jg h
        refine JW.r hM 105 6 (pc2 := 179) (L2 := [some (.ref 0), none, none, some (.int x3), some (.int x4), some (.int x5), none]) (st2 := [.int (3 : Int32), .int x5, .ref 0, .int (G19 1 ((8 : Int32) + v22).toNatClampNeg), .int ((8 : Int32) + v22), .ref 1]) (μ2 := (hMo G19 J)) rfl ⟨g23, trivial⟩ ?_
        obtain ⟨v25, hv24, h⟩ := jbd h
        refine JW.cV (v := some (.int v25)) hM (m_X6_of (jVX X) hM.1.2.2.2.2.2.2.2.2.2.1 N G19 J x5 (3 : Int32) v25 hv24) (sb_Mo_Mo_0 G19 J) (bi_Mo_Mo_0 G19 J) rfl rfl rfl kc_X6_208 rfl rfl rfl rfl rfl (jat hM.2.1 111 rfl) (st := [.int (G19 1 ((8 : Int32) + v22).toNatClampNeg), .int ((8 : Int32) + v22), .ref 1]) rfl ?_
        show JW X 0 0 182 [some (.ref 0), none, none, some (.int x3), some (.int x4), some (.int x5), none] [.int v25, .int (G19 1 ((8 : Int32) + v22).toNatClampNeg), .int ((8 : Int32) + v22), .ref 1] (hMo G19 J)
        obtain ⟨g26, h⟩ := jg h
        obtain ⟨G27, e28, h⟩ := jlE h
        refine JW.r hM 112 2 (pc2 := 184) (L2 := [some (.ref 0), none, none, some (.int x3), some (.int x4), some (.int x5), none]) (st2 := []) (μ2 := (hMo (jup G19 1 ((8 : Int32) + v22).toNatClampNeg ((G19 1 ((8 : Int32) + v22).toNatClampNeg) + v25)) J)) rfl ⟨g26, trivial⟩ ?_
        rw [e28]
        refine JW.r hM 114 1 (pc2 := 187) (L2 := [some (.ref 0), none, none, some (.int x3), some (.int (x4 + 1)), some (.int x5), none]) (st2 := []) (μ2 := (hMo G27 J)) rfl trivial ?_
        exact t_X6_undoes_b187 hM hp N J (p_X6_undoes_b79 N J n) ih79 G27 x3 (x4 + 1) x5 h hq
      · have h := (if_pos hc29).symm.trans h
        refine JW.r hM 57 1 (pc2 := 187) (L2 := [some (.ref 0), none, none, some (.int x3), some (.int x4), some (.int x5), none]) (st2 := []) (μ2 := (hMo G J)) rfl trivial ?_
        exact t_X6_undoes_b187 hM hp N J (p_X6_undoes_b79 N J n) ih79 G x3 x4 x5 h hq
set_option maxHeartbeats 4000000 in
set_option maxRecDepth 100000 in
theorem t_X6_undoes_b12 {X : jX} {po : Option Value → jH → Prop} {px : String → jH → Prop} {sf : Bool} {B9 : Nat} (hM : jMX X kX6_undoes RX6 tbX6 7 ⟨3, 0, 0, 71⟩ (some .int) 16) (hp : jPost X sf B9 po px) (N : Nat) (J : Nat → Nat → Int64) {res : Int32 × (Nat → Nat → Int32)} : ∀ (n : Nat) (G : Nat → Nat → Int32) (x2 : Int32) (x3 : Int32) (x4 : Int32) (x5 : Int32) (h : p_X6_undoes_b12 N J n G x2 x3 x4 x5 = some res) (hq : po (some (.int res.1)) (hMo res.2 J)), JW X 0 0 12 [some (.ref 0), none, some (.int x2), some (.int x3), some (.int x4), some (.int x5), none] [] (hMo G J) := by
  intro n
  induction n with
  | zero =>
    intro G x2 x3 x4 x5 h hq
    cases (show (none : Option (Int32 × (Nat → Nat → Int32))) = some res from h)
  | succ n ih12 =>
    intro G x2 x3 x4 x5 h hq
    have ih12 := fun G x2 x3 x4 x5 h9 => ih12 G x2 x3 x4 x5 h9 hq
    rw [p_X6_undoes_b12] at h
    refine JW.r hM 8 5 (pc2 := 20) (L2 := [some (.ref 0), none, some (.int x2), some (.int x3), some (.int x4), some (.int x5), none]) (st2 := [.int (G 1 1), .int x5]) (μ2 := (hMo G J)) rfl ⟨rfl, trivial⟩ ?_
    refine js_icge (t := 68) hM.1 (jat hM.2.1 13 rfl) rfl (fun hc41 => ?_) (fun hc41 => ?_)
    · have h := (if_pos hc41).symm.trans h
      refine JW.r hM 42 7 (pc2 := 79) (L2 := [some (.ref 0), none, some (.int x2), some (.int x3), some (.int x4), some (.int ((G 1 7) - (1 : Int32))), none]) (st2 := []) (μ2 := (hMo G J)) rfl ⟨rfl, trivial⟩ ?_
      exact JW.mask [true, false, false, true, true, true, false] (t_X6_undoes_b79 hM hp N J N G x3 x4 ((G 1 7) - (1 : Int32)) h hq)
    · have h := (if_neg hc41).symm.trans h
      refine JW.r hM 14 4 (pc2 := 28) (L2 := [some (.ref 0), none, some (.int x2), some (.int x3), some (.int x4), some (.int x5), none]) (st2 := [.int x5, .int x2, .int x3, .ref 0]) (μ2 := (hMo G J)) rfl trivial ?_
      obtain ⟨v32, hv31, h⟩ := jbd h
      refine JW.cV (v := some (.int v32)) hM (m_X6_pays (jVX X) hM.1.2.2.2.2.2.2.2.2.2.1 N G J x3 x2 x5 v32 hv31) (sb_Mo_Mo_0 G J) (bi_Mo_Mo_0 G J) rfl rfl rfl kc_X6_243 rfl rfl rfl rfl rfl (jat hM.2.1 18 rfl) (st := []) rfl ?_
      show JW X 0 0 31 [some (.ref 0), none, some (.int x2), some (.int x3), some (.int x4), some (.int x5), none] [.int v32] (hMo G J)
      obtain ⟨g33, h⟩ := jg h
      obtain ⟨g34, h⟩ := jg h
      obtain ⟨G35, e36, h⟩ := jlE h
      refine JW.r hM 19 11 (pc2 := 48) (L2 := [some (.ref 0), none, some (.int x2), some (.int x3), some (.int x4), some (.int x5), some (.int v32)]) (st2 := []) (μ2 := (hMo (jup G 1 ((8 : Int32) + x5).toNatClampNeg ((G 1 ((8 : Int32) + x5).toNatClampNeg) + v32)) J)) rfl ⟨g33, g34, trivial⟩ ?_
      rw [e36]
      obtain ⟨g37, h⟩ := jg h
      obtain ⟨g38, h⟩ := jg h
      obtain ⟨G39, e40, h⟩ := jlE h
      refine JW.r hM 30 10 (pc2 := 62) (L2 := [some (.ref 0), none, some (.int x2), some (.int x3), some (.int x4), some (.int x5), some (.int v32)]) (st2 := []) (μ2 := (hMo (jup G35 1 ((8 : Int32) + x2).toNatClampNeg ((G35 1 ((8 : Int32) + x2).toNatClampNeg) - v32)) J)) rfl ⟨g37, g38, trivial⟩ ?_
      rw [e40]
      refine JW.r hM 40 2 (pc2 := 12) (L2 := [some (.ref 0), none, some (.int x2), some (.int x3), some (.int x4), some (.int (x5 + 1)), some (.int v32)]) (st2 := []) (μ2 := (hMo G39 J)) rfl trivial ?_
      exact JW.mask [true, false, true, true, true, true, false] (ih12 G39 x2 x3 x4 (x5 + 1) h)
set_option maxHeartbeats 4000000 in
set_option maxRecDepth 100000 in
theorem t_X6_undoes {X : jX} {po : Option Value → jH → Prop} {px : String → jH → Prop} {sf : Bool} {B9 : Nat} (hM : jMX X kX6_undoes RX6 tbX6 7 ⟨3, 0, 0, 71⟩ (some .int) 16) (hp : jPost X sf B9 po px) (N : Nat) (G : Nat → Nat → Int32) (J : Nat → Nat → Int64) (p0 : Int32) (p1 : Int32) {res : Int32 × (Nat → Nat → Int32)} (h : p_X6_undoes N G J p0 p1 = some res) (hq : po (some (.int res.1)) (hMo res.2 J)) : JW X 0 0 0 [some (.ref 0), some (.int p0), some (.int p1), none, none, none, none] [] (hMo G J) := by
  unfold p_X6_undoes at h
  refine JW.r hM 0 2 (pc2 := 2) (L2 := [some (.ref 0), some (.int p0), some (.int p1), none, none, none, none]) (st2 := [.int p0, .ref 0]) (μ2 := (hMo G J)) rfl trivial ?_
  obtain ⟨v2, hv1, h⟩ := jbd h
  refine JW.cV (v := some (.int v2)) hM (m_X6_fallsOf (jVX X) hM.1.2.2.2.2.2.2.2.2.2.1 N G J p0 v2 hv1) (sb_Mo_Mo_0 G J) (bi_Mo_Mo_0 G J) rfl rfl rfl kc_X6_240 rfl rfl rfl rfl rfl (jat hM.2.1 2 rfl) (st := []) rfl ?_
  show JW X 0 0 5 [some (.ref 0), some (.int p0), some (.int p1), none, none, none, none] [.int v2] (hMo G J)
  refine JW.r hM 3 5 (pc2 := 12) (L2 := [some (.ref 0), some (.int p0), some (.int p1), some (.int v2), some (.int (0 : Int32)), some (.int (0 : Int32)), none]) (st2 := []) (μ2 := (hMo G J)) rfl trivial ?_
  exact JW.mask [true, false, true, true, true, true, false] (t_X6_undoes_b12 hM hp N J N G p1 v2 (0 : Int32) (0 : Int32) h hq)
theorem m_X6_undoes (V : jV) (hV : V.1.stackTraces = false) (N : Nat) (G : Nat → Nat → Int32) (J : Nat → Nat → Int64) (p0 : Int32) (p1 : Int32) (v : Int32 × (Nat → Nat → Int32)) (h : p_X6_undoes N G J p0 p1 = some v) : jMet V yX6_undoes (jws yX6_undoes cX6_undoes 7 (some .int)) ⟨3, 0, 0, 71⟩ true 1 [.ref 0, .int p0, .int p1] (hMo G J) (fun o ν => o = some (.int v.1) ∧ ν = (hMo v.2 J)) (fun _ _ => False) := by
  refine jmk (tb := tbX6) (C := kX6_undoes) hV rfl (by decide) tbX6_ok rfl kX6_undoes_ok rfl ?_
  intro X hM _ hp _
  exact t_X6_undoes hM hp N G J p0 p1 h ⟨rfl, rfl⟩
def p_X6_whyNot (N : Nat) (G : Nat → Nat → Int32) (J : Nat → Nat → Int64) (p0 : Int64) (p1 : Int32) : Option (Int32 × (Nat → Nat → Int32)) :=
  (p_X6_isDeed N G J p0).bind (fun v2 => if v2 = 0 then (some ((1 : Int32), G)) else ((p_X6_of N G J (p0.toInt32) (4 : Int32)).bind (fun v4 => if v4 = 0 then (some ((2 : Int32), G)) else ((p_X6_isOf N G J (p0.toInt32) p1).bind (fun v6 => if v6 = 0 then (some ((3 : Int32), G)) else ((p_X6_hasRung N G J).bind (fun v8 => if v8 = 0 then ((p_X6_of N G J (p0.toInt32) (0 : Int32)).bind (fun v10 => (p_X6_isEaten N G J v10).bind (fun v12 => if v12 = 0 then ((p_X6_copies N (jv2 G 1 1 3)).bind (fun v14 => jlt (jp2 G 1 1 3 1 v14) fun G15 => (p_X6_undoes N G15 J (p0.toInt32) p1).bind (fun v18 => jlt v18.2 fun G19 => if jin ((8 : Int32) + p1) 264 = true then (p_X6_copies N (jv2 G19 3 1 1)).bind (fun v23 => jlt (jp2 G19 3 1 1 1 v23) fun G24 => if 0 ≤ (G19 1 ((8 : Int32) + p1).toNatClampNeg) then (some ((0 : Int32), G24)) else (some ((6 : Int32), G24))) else none))) else (some ((5 : Int32), G))))) else (some ((4 : Int32), G)))))))))
set_option maxHeartbeats 4000000 in
set_option maxRecDepth 100000 in
theorem t_X6_whyNot {X : jX} {po : Option Value → jH → Prop} {px : String → jH → Prop} {sf : Bool} {B9 : Nat} (hM : jMX X kX6_whyNot RX6 tbX6 6 ⟨4, 0, 0, 97⟩ (some .int) 16) (hp : jPost X sf B9 po px) (N : Nat) (G : Nat → Nat → Int32) (J : Nat → Nat → Int64) (p0 : Int64) (p1 : Int32) {res : Int32 × (Nat → Nat → Int32)} (h : p_X6_whyNot N G J p0 p1 = some res) (hq : po (some (.int res.1)) (hMo res.2 J)) : JW X 0 0 0 [some (.ref 0), some (.long p0), none, some (.int p1), none, none] [] (hMo G J) := by
  unfold p_X6_whyNot at h
  refine JW.r hM 0 2 (pc2 := 2) (L2 := [some (.ref 0), some (.long p0), none, some (.int p1), none, none]) (st2 := [.long p0, .ref 0]) (μ2 := (hMo G J)) rfl trivial ?_
  obtain ⟨v2, hv1, h⟩ := jbd h
  refine JW.cV (v := some (.int v2)) hM (m_X6_isDeed (jVX X) hM.1.2.2.2.2.2.2.2.2.2.1 N G J p0 v2 hv1) (sb_Mo_Mo_0 G J) (bi_Mo_Mo_0 G J) rfl rfl rfl kc_X6_230 rfl rfl rfl rfl rfl (jat hM.2.1 2 rfl) (st := []) rfl ?_
  show JW X 0 0 5 [some (.ref 0), some (.long p0), none, some (.int p1), none, none] [.int v2] (hMo G J)
  refine js_ifne (t := 10) hM.1 (jat hM.2.1 3 rfl) rfl (fun hc31 => ?_) (fun hc31 => ?_)
  · have h := (if_neg hc31).symm.trans h
    refine JW.r hM 6 6 (pc2 := 18) (L2 := [some (.ref 0), some (.long p0), none, some (.int p1), some (.int (p0.toInt32)), none]) (st2 := [.int (4 : Int32), .int (p0.toInt32), .ref 0]) (μ2 := (hMo G J)) rfl trivial ?_
    obtain ⟨v4, hv3, h⟩ := jbd h
    refine JW.cV (v := some (.int v4)) hM (m_X6_of (jVX X) hM.1.2.2.2.2.2.2.2.2.2.1 N G J (p0.toInt32) (4 : Int32) v4 hv3) (sb_Mo_Mo_0 G J) (bi_Mo_Mo_0 G J) rfl rfl rfl kc_X6_208 rfl rfl rfl rfl rfl (jat hM.2.1 12 rfl) (st := []) rfl ?_
    show JW X 0 0 21 [some (.ref 0), some (.long p0), none, some (.int p1), some (.int (p0.toInt32)), none] [.int v4] (hMo G J)
    refine js_ifne (t := 26) hM.1 (jat hM.2.1 13 rfl) rfl (fun hc30 => ?_) (fun hc30 => ?_)
    · have h := (if_neg hc30).symm.trans h
      refine JW.r hM 16 3 (pc2 := 30) (L2 := [some (.ref 0), some (.long p0), none, some (.int p1), some (.int (p0.toInt32)), none]) (st2 := [.int p1, .int (p0.toInt32), .ref 0]) (μ2 := (hMo G J)) rfl trivial ?_
      obtain ⟨v6, hv5, h⟩ := jbd h
      refine JW.cV (v := some (.int v6)) hM (m_X6_isOf (jVX X) hM.1.2.2.2.2.2.2.2.2.2.1 N G J (p0.toInt32) p1 v6 hv5) (sb_Mo_Mo_0 G J) (bi_Mo_Mo_0 G J) rfl rfl rfl kc_X6_246 rfl rfl rfl rfl rfl (jat hM.2.1 19 rfl) (st := []) rfl ?_
      show JW X 0 0 33 [some (.ref 0), some (.long p0), none, some (.int p1), some (.int (p0.toInt32)), none] [.int v6] (hMo G J)
      refine js_ifne (t := 38) hM.1 (jat hM.2.1 20 rfl) rfl (fun hc29 => ?_) (fun hc29 => ?_)
      · have h := (if_neg hc29).symm.trans h
        refine JW.r hM 23 1 (pc2 := 39) (L2 := [some (.ref 0), some (.long p0), none, some (.int p1), some (.int (p0.toInt32)), none]) (st2 := [.ref 0]) (μ2 := (hMo G J)) rfl trivial ?_
        obtain ⟨v8, hv7, h⟩ := jbd h
        refine JW.cV (v := some (.int v8)) hM (m_X6_hasRung (jVX X) hM.1.2.2.2.2.2.2.2.2.2.1 N G J v8 hv7) (sb_Mo_Mo_0 G J) (bi_Mo_Mo_0 G J) rfl rfl rfl kc_X6_211 rfl rfl rfl rfl rfl (jat hM.2.1 24 rfl) (st := []) rfl ?_
        show JW X 0 0 42 [some (.ref 0), some (.long p0), none, some (.int p1), some (.int (p0.toInt32)), none] [.int v8] (hMo G J)
        refine js_ifeq (t := 47) hM.1 (jat hM.2.1 25 rfl) rfl (fun hc28 => ?_) (fun hc28 => ?_)
        · have h := (if_pos hc28).symm.trans h
          refine JW.r hM 28 4 (pc2 := 52) (L2 := [some (.ref 0), some (.long p0), none, some (.int p1), some (.int (p0.toInt32)), none]) (st2 := [.int (0 : Int32), .int (p0.toInt32), .ref 0, .ref 0]) (μ2 := (hMo G J)) rfl trivial ?_
          obtain ⟨v10, hv9, h⟩ := jbd h
          refine JW.cV (v := some (.int v10)) hM (m_X6_of (jVX X) hM.1.2.2.2.2.2.2.2.2.2.1 N G J (p0.toInt32) (0 : Int32) v10 hv9) (sb_Mo_Mo_0 G J) (bi_Mo_Mo_0 G J) rfl rfl rfl kc_X6_208 rfl rfl rfl rfl rfl (jat hM.2.1 32 rfl) (st := [.ref 0]) rfl ?_
          show JW X 0 0 55 [some (.ref 0), some (.long p0), none, some (.int p1), some (.int (p0.toInt32)), none] [.int v10, .ref 0] (hMo G J)
          obtain ⟨v12, hv11, h⟩ := jbd h
          refine JW.cV (v := some (.int v12)) hM (m_X6_isEaten (jVX X) hM.1.2.2.2.2.2.2.2.2.2.1 N G J v10 v12 hv11) (sb_Mo_Mo_0 G J) (bi_Mo_Mo_0 G J) rfl rfl rfl kc_X6_200 rfl rfl rfl rfl rfl (jat hM.2.1 33 rfl) (st := []) rfl ?_
          show JW X 0 0 58 [some (.ref 0), some (.long p0), none, some (.int p1), some (.int (p0.toInt32)), none] [.int v12] (hMo G J)
          refine js_ifeq (t := 63) hM.1 (jat hM.2.1 34 rfl) rfl (fun hc27 => ?_) (fun hc27 => ?_)
          · have h := (if_pos hc27).symm.trans h
            refine JW.r hM 37 4 (pc2 := 71) (L2 := [some (.ref 0), some (.long p0), none, some (.int p1), some (.int (p0.toInt32)), none]) (st2 := [.ref 3, .ref 1]) (μ2 := (hMo G J)) rfl trivial ?_
            obtain ⟨v14, hv13, h⟩ := jbd h
            refine JW.cS (v := none) hM (m_X6_copies (jVX X) hM.1.2.2.2.2.2.2.2.2.2.1 N (jv2 G 1 1 3) v14 hv13) (sb_Mo_B264_1_3 G J) (bk_Mo_B264_1_3 G J v14) rfl rfl rfl kc_X6_179 rfl rfl rfl (jat hM.2.1 41 rfl) (st := []) rfl ?_
            show JW X 0 0 74 [some (.ref 0), some (.long p0), none, some (.int p1), some (.int (p0.toInt32)), none] [] (hMo (jp2 G 1 1 3 1 v14) J)
            obtain ⟨G15, e16, h⟩ := jlE h
            rw [e16]
            refine JW.r hM 42 3 (pc2 := 78) (L2 := [some (.ref 0), some (.long p0), none, some (.int p1), some (.int (p0.toInt32)), none]) (st2 := [.int p1, .int (p0.toInt32), .ref 0]) (μ2 := (hMo G15 J)) rfl trivial ?_
            obtain ⟨v18, hv17, h⟩ := jbd h
            refine JW.cV (v := some (.int v18.1)) hM (m_X6_undoes (jVX X) hM.1.2.2.2.2.2.2.2.2.2.1 N G15 J (p0.toInt32) p1 v18 hv17) (sb_Mo_Mo_0 G15 J) (bk_Mo_Mo_0 G15 J v18.2 J) rfl rfl rfl kc_X6_250 rfl rfl rfl rfl rfl (jat hM.2.1 45 rfl) (st := []) rfl ?_
            show JW X 0 0 81 [some (.ref 0), some (.long p0), none, some (.int p1), some (.int (p0.toInt32)), none] [.int v18.1] (hMo v18.2 J)
            obtain ⟨G19, e20, h⟩ := jlE h
            rw [e20]
            obtain ⟨g21, h⟩ := jg h
            refine JW.r hM 46 12 (pc2 := 101) (L2 := [some (.ref 0), some (.long p0), none, some (.int p1), some (.int (p0.toInt32)), some (.int (G19 1 ((8 : Int32) + p1).toNatClampNeg))]) (st2 := [.ref 1, .ref 3]) (μ2 := (hMo G19 J)) rfl ⟨g21, trivial⟩ ?_
            obtain ⟨v23, hv22, h⟩ := jbd h
            refine JW.cS (v := none) hM (m_X6_copies (jVX X) hM.1.2.2.2.2.2.2.2.2.2.1 N (jv2 G19 3 1 1) v23 hv22) (sb_Mo_B264_3_1 G19 J) (bk_Mo_B264_3_1 G19 J v23) rfl rfl rfl kc_X6_179 rfl rfl rfl (jat hM.2.1 58 rfl) (st := []) rfl ?_
            show JW X 0 0 104 [some (.ref 0), some (.long p0), none, some (.int p1), some (.int (p0.toInt32)), some (.int (G19 1 ((8 : Int32) + p1).toNatClampNeg))] [] (hMo (jp2 G19 3 1 1 1 v23) J)
            obtain ⟨G24, e25, h⟩ := jlE h
            rw [e25]
            refine JW.r hM 59 1 (pc2 := 106) (L2 := [some (.ref 0), some (.long p0), none, some (.int p1), some (.int (p0.toInt32)), some (.int (G19 1 ((8 : Int32) + p1).toNatClampNeg))]) (st2 := [.int (G19 1 ((8 : Int32) + p1).toNatClampNeg)]) (μ2 := (hMo G24 J)) rfl trivial ?_
            refine js_ifge (t := 114) hM.1 (jat hM.2.1 60 rfl) rfl (fun hc26 => ?_) (fun hc26 => ?_)
            · have h := (if_pos hc26).symm.trans h
              refine JW.r hM 63 1 (pc2 := 115) (L2 := [some (.ref 0), some (.long p0), none, some (.int p1), some (.int (p0.toInt32)), some (.int (G19 1 ((8 : Int32) + p1).toNatClampNeg))]) (st2 := [.int (0 : Int32)]) (μ2 := (hMo G24 J)) rfl trivial ?_
              obtain rfl := Option.some.inj h
              exact js_iret hM.1 hp hM.2.2.2.2.2.2.2.1 (by rw [hM.2.2.2.2.2.1]; exact Nat.le_of_ble_eq_true rfl) (by rw [hM.2.2.2.2.2.2.1]; exact Nat.le_of_ble_eq_true rfl) (jat hM.2.1 64 rfl) hq
            · have h := (if_neg hc26).symm.trans h
              refine JW.r hM 61 2 (pc2 := 115) (L2 := [some (.ref 0), some (.long p0), none, some (.int p1), some (.int (p0.toInt32)), some (.int (G19 1 ((8 : Int32) + p1).toNatClampNeg))]) (st2 := [.int (6 : Int32)]) (μ2 := (hMo G24 J)) rfl trivial ?_
              obtain rfl := Option.some.inj h
              exact js_iret hM.1 hp hM.2.2.2.2.2.2.2.1 (by rw [hM.2.2.2.2.2.1]; exact Nat.le_of_ble_eq_true rfl) (by rw [hM.2.2.2.2.2.2.1]; exact Nat.le_of_ble_eq_true rfl) (jat hM.2.1 64 rfl) hq
          · have h := (if_neg hc27).symm.trans h
            refine JW.r hM 35 1 (pc2 := 62) (L2 := [some (.ref 0), some (.long p0), none, some (.int p1), some (.int (p0.toInt32)), none]) (st2 := [.int (5 : Int32)]) (μ2 := (hMo G J)) rfl trivial ?_
            obtain rfl := Option.some.inj h
            exact js_iret hM.1 hp hM.2.2.2.2.2.2.2.1 (by rw [hM.2.2.2.2.2.1]; exact Nat.le_of_ble_eq_true rfl) (by rw [hM.2.2.2.2.2.2.1]; exact Nat.le_of_ble_eq_true rfl) (jat hM.2.1 36 rfl) hq
        · have h := (if_neg hc28).symm.trans h
          refine JW.r hM 26 1 (pc2 := 46) (L2 := [some (.ref 0), some (.long p0), none, some (.int p1), some (.int (p0.toInt32)), none]) (st2 := [.int (4 : Int32)]) (μ2 := (hMo G J)) rfl trivial ?_
          obtain rfl := Option.some.inj h
          exact js_iret hM.1 hp hM.2.2.2.2.2.2.2.1 (by rw [hM.2.2.2.2.2.1]; exact Nat.le_of_ble_eq_true rfl) (by rw [hM.2.2.2.2.2.2.1]; exact Nat.le_of_ble_eq_true rfl) (jat hM.2.1 27 rfl) hq
      · have h := (if_pos hc29).symm.trans h
        refine JW.r hM 21 1 (pc2 := 37) (L2 := [some (.ref 0), some (.long p0), none, some (.int p1), some (.int (p0.toInt32)), none]) (st2 := [.int (3 : Int32)]) (μ2 := (hMo G J)) rfl trivial ?_
        obtain rfl := Option.some.inj h
        exact js_iret hM.1 hp hM.2.2.2.2.2.2.2.1 (by rw [hM.2.2.2.2.2.1]; exact Nat.le_of_ble_eq_true rfl) (by rw [hM.2.2.2.2.2.2.1]; exact Nat.le_of_ble_eq_true rfl) (jat hM.2.1 22 rfl) hq
    · have h := (if_pos hc30).symm.trans h
      refine JW.r hM 14 1 (pc2 := 25) (L2 := [some (.ref 0), some (.long p0), none, some (.int p1), some (.int (p0.toInt32)), none]) (st2 := [.int (2 : Int32)]) (μ2 := (hMo G J)) rfl trivial ?_
      obtain rfl := Option.some.inj h
      exact js_iret hM.1 hp hM.2.2.2.2.2.2.2.1 (by rw [hM.2.2.2.2.2.1]; exact Nat.le_of_ble_eq_true rfl) (by rw [hM.2.2.2.2.2.2.1]; exact Nat.le_of_ble_eq_true rfl) (jat hM.2.1 15 rfl) hq
  · have h := (if_pos hc31).symm.trans h
    refine JW.r hM 4 1 (pc2 := 9) (L2 := [some (.ref 0), some (.long p0), none, some (.int p1), none, none]) (st2 := [.int (1 : Int32)]) (μ2 := (hMo G J)) rfl trivial ?_
    obtain rfl := Option.some.inj h
    exact js_iret hM.1 hp hM.2.2.2.2.2.2.2.1 (by rw [hM.2.2.2.2.2.1]; exact Nat.le_of_ble_eq_true rfl) (by rw [hM.2.2.2.2.2.2.1]; exact Nat.le_of_ble_eq_true rfl) (jat hM.2.1 5 rfl) hq
theorem m_X6_whyNot (V : jV) (hV : V.1.stackTraces = false) (N : Nat) (G : Nat → Nat → Int32) (J : Nat → Nat → Int64) (p0 : Int64) (p1 : Int32) (v : Int32 × (Nat → Nat → Int32)) (h : p_X6_whyNot N G J p0 p1 = some v) : jMet V yX6_whyNot (jws yX6_whyNot cX6_whyNot 6 (some .int)) ⟨4, 0, 0, 97⟩ true 1 [.ref 0, .long p0, .int p1] (hMo G J) (fun o ν => o = some (.int v.1) ∧ ν = (hMo v.2 J)) (fun _ _ => False) := by
  refine jmk (tb := tbX6) (C := kX6_whyNot) hV rfl (by decide) tbX6_ok rfl kX6_whyNot_ok rfl ?_
  intro X hM _ hp _
  exact t_X6_whyNot hM hp N G J p0 p1 h ⟨rfl, rfl⟩
def p_X6_may_b14 (N : Nat) (J : Nat → Nat → Int64) (G : Nat → Nat → Int32) (x1 : Int32) (x2 : Int32) (s0 : Int32) : Option (Int32 × (Nat → Nat → Int32)) :=
  jlt (jup G 0 5 s0) fun G3 => if (G3 0 5) ≤ 0 then ((p_X6_whyNot N G3 J (x1.toInt64) x2).bind (fun v6 => jlt v6.2 fun G7 => some (v6.1, G7))) else (some ((0 : Int32), G3))
def p_X6_may (N : Nat) (G : Nat → Nat → Int32) (J : Nat → Nat → Int64) (p0 : Int32) (p1 : Int32) : Option (Int32 × (Nat → Nat → Int32)) :=
  (p_X6_isPerson N G J p1).bind (fun v2 => if v2 = 0 then (p_X6_may_b14 N J G p0 p1 (1 : Int32)) else (p_X6_may_b14 N J G p0 p1 (0 : Int32)))
set_option maxHeartbeats 4000000 in
set_option maxRecDepth 100000 in
theorem t_X6_may_b14 {X : jX} {po : Option Value → jH → Prop} {px : String → jH → Prop} {sf : Bool} {B9 : Nat} (hM : jMX X kX6_may RX6 tbX6 3 ⟨5, 0, 0, 122⟩ (some .int) 16) (hp : jPost X sf B9 po px) (N : Nat) (J : Nat → Nat → Int64) {res : Int32 × (Nat → Nat → Int32)} (G : Nat → Nat → Int32) (x1 : Int32) (x2 : Int32) (s0 : Int32) (h : p_X6_may_b14 N J G x1 x2 s0 = some res) (hq : po (some (.int res.1)) (hMo res.2 J)) : JW X 0 0 14 [some (.ref 0), some (.int x1), some (.int x2)] [.int s0, .ref 0] (hMo G J) := by
  unfold p_X6_may_b14 at h
  obtain ⟨G3, e4, h⟩ := jlE h
  refine JW.r hM 8 1 (pc2 := 17) (L2 := [some (.ref 0), some (.int x1), some (.int x2)]) (st2 := []) (μ2 := (hMo (jup G 0 5 s0) J)) rfl trivial ?_
  rw [e4]
  refine JW.r hM 9 2 (pc2 := 21) (L2 := [some (.ref 0), some (.int x1), some (.int x2)]) (st2 := [.int (G3 0 5)]) (μ2 := (hMo G3 J)) rfl trivial ?_
  refine js_ifle (t := 28) hM.1 (jat hM.2.1 11 rfl) rfl (fun hc9 => ?_) (fun hc9 => ?_)
  · have h := (if_pos hc9).symm.trans h
    refine JW.r hM 14 4 (pc2 := 32) (L2 := [some (.ref 0), some (.int x1), some (.int x2)]) (st2 := [.int x2, .long (x1.toInt64), .ref 0]) (μ2 := (hMo G3 J)) rfl trivial ?_
    obtain ⟨v6, hv5, h⟩ := jbd h
    refine JW.cV (v := some (.int v6.1)) hM (m_X6_whyNot (jVX X) hM.1.2.2.2.2.2.2.2.2.2.1 N G3 J (x1.toInt64) x2 v6 hv5) (sb_Mo_Mo_0 G3 J) (bk_Mo_Mo_0 G3 J v6.2 J) rfl rfl rfl kc_X6_253 rfl rfl rfl rfl rfl (jat hM.2.1 18 rfl) (st := []) rfl ?_
    show JW X 0 0 35 [some (.ref 0), some (.int x1), some (.int x2)] [.int v6.1] (hMo v6.2 J)
    obtain ⟨G7, e8, h⟩ := jlE h
    rw [e8]
    obtain rfl := Option.some.inj h
    exact js_iret hM.1 hp hM.2.2.2.2.2.2.2.1 (by rw [hM.2.2.2.2.2.1]; exact Nat.le_of_ble_eq_true rfl) (by rw [hM.2.2.2.2.2.2.1]; exact Nat.le_of_ble_eq_true rfl) (jat hM.2.1 19 rfl) hq
  · have h := (if_neg hc9).symm.trans h
    refine JW.r hM 12 2 (pc2 := 35) (L2 := [some (.ref 0), some (.int x1), some (.int x2)]) (st2 := [.int (0 : Int32)]) (μ2 := (hMo G3 J)) rfl trivial ?_
    obtain rfl := Option.some.inj h
    exact js_iret hM.1 hp hM.2.2.2.2.2.2.2.1 (by rw [hM.2.2.2.2.2.1]; exact Nat.le_of_ble_eq_true rfl) (by rw [hM.2.2.2.2.2.2.1]; exact Nat.le_of_ble_eq_true rfl) (jat hM.2.1 19 rfl) hq
set_option maxHeartbeats 4000000 in
set_option maxRecDepth 100000 in
theorem t_X6_may {X : jX} {po : Option Value → jH → Prop} {px : String → jH → Prop} {sf : Bool} {B9 : Nat} (hM : jMX X kX6_may RX6 tbX6 3 ⟨5, 0, 0, 122⟩ (some .int) 16) (hp : jPost X sf B9 po px) (N : Nat) (G : Nat → Nat → Int32) (J : Nat → Nat → Int64) (p0 : Int32) (p1 : Int32) {res : Int32 × (Nat → Nat → Int32)} (h : p_X6_may N G J p0 p1 = some res) (hq : po (some (.int res.1)) (hMo res.2 J)) : JW X 0 0 0 [some (.ref 0), some (.int p0), some (.int p1)] [] (hMo G J) := by
  unfold p_X6_may at h
  refine JW.r hM 0 3 (pc2 := 3) (L2 := [some (.ref 0), some (.int p0), some (.int p1)]) (st2 := [.int p1, .ref 0, .ref 0]) (μ2 := (hMo G J)) rfl trivial ?_
  obtain ⟨v2, hv1, h⟩ := jbd h
  refine JW.cV (v := some (.int v2)) hM (m_X6_isPerson (jVX X) hM.1.2.2.2.2.2.2.2.2.2.1 N G J p1 v2 hv1) (sb_Mo_Mo_0 G J) (bi_Mo_Mo_0 G J) rfl rfl rfl kc_X6_186 rfl rfl rfl rfl rfl (jat hM.2.1 3 rfl) (st := [.ref 0]) rfl ?_
  show JW X 0 0 6 [some (.ref 0), some (.int p0), some (.int p1)] [.int v2, .ref 0] (hMo G J)
  refine js_ifeq (t := 13) hM.1 (jat hM.2.1 4 rfl) rfl (fun hc10 => ?_) (fun hc10 => ?_)
  · have h := (if_pos hc10).symm.trans h
    refine JW.r hM 7 1 (pc2 := 14) (L2 := [some (.ref 0), some (.int p0), some (.int p1)]) (st2 := [.int (1 : Int32), .ref 0]) (μ2 := (hMo G J)) rfl trivial ?_
    exact t_X6_may_b14 hM hp N J G p0 p1 (1 : Int32) h hq
  · have h := (if_neg hc10).symm.trans h
    refine JW.r hM 5 2 (pc2 := 14) (L2 := [some (.ref 0), some (.int p0), some (.int p1)]) (st2 := [.int (0 : Int32), .ref 0]) (μ2 := (hMo G J)) rfl trivial ?_
    exact t_X6_may_b14 hM hp N J G p0 p1 (0 : Int32) h hq
theorem m_X6_may (V : jV) (hV : V.1.stackTraces = false) (N : Nat) (G : Nat → Nat → Int32) (J : Nat → Nat → Int64) (p0 : Int32) (p1 : Int32) (v : Int32 × (Nat → Nat → Int32)) (h : p_X6_may N G J p0 p1 = some v) : jMet V yX6_may (jws yX6_may cX6_may 3 (some .int)) ⟨5, 0, 0, 122⟩ true 1 [.ref 0, .int p0, .int p1] (hMo G J) (fun o ν => o = some (.int v.1) ∧ ν = (hMo v.2 J)) (fun _ _ => False) := by
  refine jmk (tb := tbX6) (C := kX6_may) hV rfl (by decide) tbX6_ok rfl kX6_may_ok rfl ?_
  intro X hM _ hp _
  exact t_X6_may hM hp N G J p0 p1 h ⟨rfl, rfl⟩
def p_X6_undo_b14 (N : Nat) (J : Nat → Nat → Int64) (G : Nat → Nat → Int32) (x1 : Int32) (x2 : Int32) (s0 : Int32) : Option (Int32 × (Nat → Nat → Int32)) :=
  jlt (jup G 0 5 s0) fun G3 => if (G3 0 5) ≤ 0 then ((p_X6_whyNot N G3 J (x1.toInt64) x2).bind (fun v6 => jlt v6.2 fun G7 => if v6.1 = 0 then ((p_X6_undoes N G7 J x1 x2).bind (fun v10 => jlt v10.2 fun G11 => some (v10.1, G11))) else (some (((-10 : Int32) - v6.1), G7)))) else (some ((0 : Int32), G3))
def p_X6_undo (N : Nat) (G : Nat → Nat → Int32) (J : Nat → Nat → Int64) (p0 : Int32) (p1 : Int32) : Option (Int32 × (Nat → Nat → Int32)) :=
  (p_X6_isPerson N G J p1).bind (fun v2 => if v2 = 0 then (p_X6_undo_b14 N J G p0 p1 (1 : Int32)) else (p_X6_undo_b14 N J G p0 p1 (0 : Int32)))
set_option maxHeartbeats 4000000 in
set_option maxRecDepth 100000 in
theorem t_X6_undo_b14 {X : jX} {po : Option Value → jH → Prop} {px : String → jH → Prop} {sf : Bool} {B9 : Nat} (hM : jMX X kX6_undo RX6 tbX6 4 ⟨5, 0, 0, 122⟩ (some .int) 16) (hp : jPost X sf B9 po px) (N : Nat) (J : Nat → Nat → Int64) {res : Int32 × (Nat → Nat → Int32)} (G : Nat → Nat → Int32) (x1 : Int32) (x2 : Int32) (s0 : Int32) (h : p_X6_undo_b14 N J G x1 x2 s0 = some res) (hq : po (some (.int res.1)) (hMo res.2 J)) : JW X 0 0 14 [some (.ref 0), some (.int x1), some (.int x2), none] [.int s0, .ref 0] (hMo G J) := by
  unfold p_X6_undo_b14 at h
  obtain ⟨G3, e4, h⟩ := jlE h
  refine JW.r hM 8 1 (pc2 := 17) (L2 := [some (.ref 0), some (.int x1), some (.int x2), none]) (st2 := []) (μ2 := (hMo (jup G 0 5 s0) J)) rfl trivial ?_
  rw [e4]
  refine JW.r hM 9 2 (pc2 := 21) (L2 := [some (.ref 0), some (.int x1), some (.int x2), none]) (st2 := [.int (G3 0 5)]) (μ2 := (hMo G3 J)) rfl trivial ?_
  refine js_ifle (t := 26) hM.1 (jat hM.2.1 11 rfl) rfl (fun hc14 => ?_) (fun hc14 => ?_)
  · have h := (if_pos hc14).symm.trans h
    refine JW.r hM 14 4 (pc2 := 30) (L2 := [some (.ref 0), some (.int x1), some (.int x2), none]) (st2 := [.int x2, .long (x1.toInt64), .ref 0]) (μ2 := (hMo G3 J)) rfl trivial ?_
    obtain ⟨v6, hv5, h⟩ := jbd h
    refine JW.cV (v := some (.int v6.1)) hM (m_X6_whyNot (jVX X) hM.1.2.2.2.2.2.2.2.2.2.1 N G3 J (x1.toInt64) x2 v6 hv5) (sb_Mo_Mo_0 G3 J) (bk_Mo_Mo_0 G3 J v6.2 J) rfl rfl rfl kc_X6_253 rfl rfl rfl rfl rfl (jat hM.2.1 18 rfl) (st := []) rfl ?_
    show JW X 0 0 33 [some (.ref 0), some (.int x1), some (.int x2), none] [.int v6.1] (hMo v6.2 J)
    obtain ⟨G7, e8, h⟩ := jlE h
    rw [e8]
    refine JW.r hM 19 2 (pc2 := 35) (L2 := [some (.ref 0), some (.int x1), some (.int x2), some (.int v6.1)]) (st2 := [.int v6.1]) (μ2 := (hMo G7 J)) rfl trivial ?_
    refine js_ifne (t := 47) hM.1 (jat hM.2.1 21 rfl) rfl (fun hc13 => ?_) (fun hc13 => ?_)
    · have h := (if_neg hc13).symm.trans h
      refine JW.r hM 27 3 (pc2 := 51) (L2 := [some (.ref 0), some (.int x1), some (.int x2), some (.int v6.1)]) (st2 := [.int ((-10 : Int32) - v6.1)]) (μ2 := (hMo G7 J)) rfl trivial ?_
      obtain rfl := Option.some.inj h
      exact js_iret hM.1 hp hM.2.2.2.2.2.2.2.1 (by rw [hM.2.2.2.2.2.1]; exact Nat.le_of_ble_eq_true rfl) (by rw [hM.2.2.2.2.2.2.1]; exact Nat.le_of_ble_eq_true rfl) (jat hM.2.1 30 rfl) hq
    · have h := (if_pos hc13).symm.trans h
      refine JW.r hM 22 3 (pc2 := 41) (L2 := [some (.ref 0), some (.int x1), some (.int x2), some (.int v6.1)]) (st2 := [.int x2, .int x1, .ref 0]) (μ2 := (hMo G7 J)) rfl trivial ?_
      obtain ⟨v10, hv9, h⟩ := jbd h
      refine JW.cV (v := some (.int v10.1)) hM (m_X6_undoes (jVX X) hM.1.2.2.2.2.2.2.2.2.2.1 N G7 J x1 x2 v10 hv9) (sb_Mo_Mo_0 G7 J) (bk_Mo_Mo_0 G7 J v10.2 J) rfl rfl rfl kc_X6_250 rfl rfl rfl rfl rfl (jat hM.2.1 25 rfl) (st := []) rfl ?_
      show JW X 0 0 44 [some (.ref 0), some (.int x1), some (.int x2), some (.int v6.1)] [.int v10.1] (hMo v10.2 J)
      obtain ⟨G11, e12, h⟩ := jlE h
      rw [e12]
      refine JW.r hM 26 1 (pc2 := 51) (L2 := [some (.ref 0), some (.int x1), some (.int x2), some (.int v6.1)]) (st2 := [.int v10.1]) (μ2 := (hMo G11 J)) rfl trivial ?_
      obtain rfl := Option.some.inj h
      exact js_iret hM.1 hp hM.2.2.2.2.2.2.2.1 (by rw [hM.2.2.2.2.2.1]; exact Nat.le_of_ble_eq_true rfl) (by rw [hM.2.2.2.2.2.2.1]; exact Nat.le_of_ble_eq_true rfl) (jat hM.2.1 30 rfl) hq
  · have h := (if_neg hc14).symm.trans h
    refine JW.r hM 12 1 (pc2 := 25) (L2 := [some (.ref 0), some (.int x1), some (.int x2), none]) (st2 := [.int (0 : Int32)]) (μ2 := (hMo G3 J)) rfl trivial ?_
    obtain rfl := Option.some.inj h
    exact js_iret hM.1 hp hM.2.2.2.2.2.2.2.1 (by rw [hM.2.2.2.2.2.1]; exact Nat.le_of_ble_eq_true rfl) (by rw [hM.2.2.2.2.2.2.1]; exact Nat.le_of_ble_eq_true rfl) (jat hM.2.1 13 rfl) hq
set_option maxHeartbeats 4000000 in
set_option maxRecDepth 100000 in
theorem t_X6_undo {X : jX} {po : Option Value → jH → Prop} {px : String → jH → Prop} {sf : Bool} {B9 : Nat} (hM : jMX X kX6_undo RX6 tbX6 4 ⟨5, 0, 0, 122⟩ (some .int) 16) (hp : jPost X sf B9 po px) (N : Nat) (G : Nat → Nat → Int32) (J : Nat → Nat → Int64) (p0 : Int32) (p1 : Int32) {res : Int32 × (Nat → Nat → Int32)} (h : p_X6_undo N G J p0 p1 = some res) (hq : po (some (.int res.1)) (hMo res.2 J)) : JW X 0 0 0 [some (.ref 0), some (.int p0), some (.int p1), none] [] (hMo G J) := by
  unfold p_X6_undo at h
  refine JW.r hM 0 3 (pc2 := 3) (L2 := [some (.ref 0), some (.int p0), some (.int p1), none]) (st2 := [.int p1, .ref 0, .ref 0]) (μ2 := (hMo G J)) rfl trivial ?_
  obtain ⟨v2, hv1, h⟩ := jbd h
  refine JW.cV (v := some (.int v2)) hM (m_X6_isPerson (jVX X) hM.1.2.2.2.2.2.2.2.2.2.1 N G J p1 v2 hv1) (sb_Mo_Mo_0 G J) (bi_Mo_Mo_0 G J) rfl rfl rfl kc_X6_186 rfl rfl rfl rfl rfl (jat hM.2.1 3 rfl) (st := [.ref 0]) rfl ?_
  show JW X 0 0 6 [some (.ref 0), some (.int p0), some (.int p1), none] [.int v2, .ref 0] (hMo G J)
  refine js_ifeq (t := 13) hM.1 (jat hM.2.1 4 rfl) rfl (fun hc15 => ?_) (fun hc15 => ?_)
  · have h := (if_pos hc15).symm.trans h
    refine JW.r hM 7 1 (pc2 := 14) (L2 := [some (.ref 0), some (.int p0), some (.int p1), none]) (st2 := [.int (1 : Int32), .ref 0]) (μ2 := (hMo G J)) rfl trivial ?_
    exact t_X6_undo_b14 hM hp N J G p0 p1 (1 : Int32) h hq
  · have h := (if_neg hc15).symm.trans h
    refine JW.r hM 5 2 (pc2 := 14) (L2 := [some (.ref 0), some (.int p0), some (.int p1), none]) (st2 := [.int (0 : Int32), .ref 0]) (μ2 := (hMo G J)) rfl trivial ?_
    exact t_X6_undo_b14 hM hp N J G p0 p1 (0 : Int32) h hq
theorem m_X6_undo (V : jV) (hV : V.1.stackTraces = false) (N : Nat) (G : Nat → Nat → Int32) (J : Nat → Nat → Int64) (p0 : Int32) (p1 : Int32) (v : Int32 × (Nat → Nat → Int32)) (h : p_X6_undo N G J p0 p1 = some v) : jMet V yX6_undo (jws yX6_undo cX6_undo 4 (some .int)) ⟨5, 0, 0, 122⟩ true 1 [.ref 0, .int p0, .int p1] (hMo G J) (fun o ν => o = some (.int v.1) ∧ ν = (hMo v.2 J)) (fun _ _ => False) := by
  refine jmk (tb := tbX6) (C := kX6_undo) hV rfl (by decide) tbX6_ok rfl kX6_undo_ok rfl ?_
  intro X hM _ hp _
  exact t_X6_undo hM hp N G J p0 p1 h ⟨rfl, rfl⟩
def p_X6_falls (N : Nat) (G : Nat → Nat → Int32) (J : Nat → Nat → Int64) (p0 : Int32) : Option (Int32 × (Nat → Nat → Int32)) :=
  jlt (jup G 0 5 (0 : Int32)) fun G1 => (p_X6_isDeed N G1 J (p0.toInt64)).bind (fun v4 => if v4 = 0 then ((p_X6_fails N G1 J (1 : Int32)).bind (fun v6 => jlt v6.2 fun G7 => some (v6.1, G7))) else ((p_X6_fallsOf N G1 J p0).bind (fun v10 => some (v10, G1))))
set_option maxHeartbeats 4000000 in
set_option maxRecDepth 100000 in
theorem t_X6_falls {X : jX} {po : Option Value → jH → Prop} {px : String → jH → Prop} {sf : Bool} {B9 : Nat} (hM : jMX X kX6_falls RX6 tbX6 2 ⟨2, 0, 0, 47⟩ (some .int) 16) (hp : jPost X sf B9 po px) (N : Nat) (G : Nat → Nat → Int32) (J : Nat → Nat → Int64) (p0 : Int32) {res : Int32 × (Nat → Nat → Int32)} (h : p_X6_falls N G J p0 = some res) (hq : po (some (.int res.1)) (hMo res.2 J)) : JW X 0 0 0 [some (.ref 0), some (.int p0)] [] (hMo G J) := by
  unfold p_X6_falls at h
  obtain ⟨G1, e2, h⟩ := jlE h
  refine JW.r hM 0 3 (pc2 := 5) (L2 := [some (.ref 0), some (.int p0)]) (st2 := []) (μ2 := (hMo (jup G 0 5 (0 : Int32)) J)) rfl trivial ?_
  rw [e2]
  refine JW.r hM 3 3 (pc2 := 8) (L2 := [some (.ref 0), some (.int p0)]) (st2 := [.long (p0.toInt64), .ref 0]) (μ2 := (hMo G1 J)) rfl trivial ?_
  obtain ⟨v4, hv3, h⟩ := jbd h
  refine JW.cV (v := some (.int v4)) hM (m_X6_isDeed (jVX X) hM.1.2.2.2.2.2.2.2.2.2.1 N G1 J (p0.toInt64) v4 hv3) (sb_Mo_Mo_0 G1 J) (bi_Mo_Mo_0 G1 J) rfl rfl rfl kc_X6_230 rfl rfl rfl rfl rfl (jat hM.2.1 6 rfl) (st := []) rfl ?_
  show JW X 0 0 11 [some (.ref 0), some (.int p0)] [.int v4] (hMo G1 J)
  refine js_ifeq (t := 22) hM.1 (jat hM.2.1 7 rfl) rfl (fun hc11 => ?_) (fun hc11 => ?_)
  · have h := (if_pos hc11).symm.trans h
    refine JW.r hM 12 2 (pc2 := 24) (L2 := [some (.ref 0), some (.int p0)]) (st2 := [.int (1 : Int32), .ref 0]) (μ2 := (hMo G1 J)) rfl trivial ?_
    obtain ⟨v6, hv5, h⟩ := jbd h
    refine JW.cV (v := some (.int v6.1)) hM (m_X6_fails (jVX X) hM.1.2.2.2.2.2.2.2.2.2.1 N G1 J (1 : Int32) v6 hv5) (sb_Mo_Mo_0 G1 J) (bk_Mo_Mo_0 G1 J v6.2 J) rfl rfl rfl kc_X6_170 rfl rfl rfl rfl rfl (jat hM.2.1 14 rfl) (st := []) rfl ?_
    show JW X 0 0 27 [some (.ref 0), some (.int p0)] [.int v6.1] (hMo v6.2 J)
    obtain ⟨G7, e8, h⟩ := jlE h
    rw [e8]
    obtain rfl := Option.some.inj h
    exact js_iret hM.1 hp hM.2.2.2.2.2.2.2.1 (by rw [hM.2.2.2.2.2.1]; exact Nat.le_of_ble_eq_true rfl) (by rw [hM.2.2.2.2.2.2.1]; exact Nat.le_of_ble_eq_true rfl) (jat hM.2.1 15 rfl) hq
  · have h := (if_neg hc11).symm.trans h
    refine JW.r hM 8 2 (pc2 := 16) (L2 := [some (.ref 0), some (.int p0)]) (st2 := [.int p0, .ref 0]) (μ2 := (hMo G1 J)) rfl trivial ?_
    obtain ⟨v10, hv9, h⟩ := jbd h
    refine JW.cV (v := some (.int v10)) hM (m_X6_fallsOf (jVX X) hM.1.2.2.2.2.2.2.2.2.2.1 N G1 J p0 v10 hv9) (sb_Mo_Mo_0 G1 J) (bi_Mo_Mo_0 G1 J) rfl rfl rfl kc_X6_240 rfl rfl rfl rfl rfl (jat hM.2.1 10 rfl) (st := []) rfl ?_
    show JW X 0 0 19 [some (.ref 0), some (.int p0)] [.int v10] (hMo G1 J)
    refine JW.r hM 11 1 (pc2 := 27) (L2 := [some (.ref 0), some (.int p0)]) (st2 := [.int v10]) (μ2 := (hMo G1 J)) rfl trivial ?_
    obtain rfl := Option.some.inj h
    exact js_iret hM.1 hp hM.2.2.2.2.2.2.2.1 (by rw [hM.2.2.2.2.2.1]; exact Nat.le_of_ble_eq_true rfl) (by rw [hM.2.2.2.2.2.2.1]; exact Nat.le_of_ble_eq_true rfl) (jat hM.2.1 15 rfl) hq
theorem m_X6_falls (V : jV) (hV : V.1.stackTraces = false) (N : Nat) (G : Nat → Nat → Int32) (J : Nat → Nat → Int64) (p0 : Int32) (v : Int32 × (Nat → Nat → Int32)) (h : p_X6_falls N G J p0 = some v) : jMet V yX6_falls (jws yX6_falls cX6_falls 2 (some .int)) ⟨2, 0, 0, 47⟩ true 1 [.ref 0, .int p0] (hMo G J) (fun o ν => o = some (.int v.1) ∧ ν = (hMo v.2 J)) (fun _ _ => False) := by
  refine jmk (tb := tbX6) (C := kX6_falls) hV rfl (by decide) tbX6_ok rfl kX6_falls_ok rfl ?_
  intro X hM _ hp _
  exact t_X6_falls hM hp N G J p0 h ⟨rfl, rfl⟩
def p_X6_owes_b31 (N : Nat) (J : Nat → Nat → Int64) (G : Nat → Nat → Int32) (x1 : Int32) (x2 : Int32) (x3 : Int32) (s0 : Int32) : Option (Int32 × (Nat → Nat → Int32)) :=
  jlt (jup G 0 5 s0) fun G3 => if (G3 0 5) ≤ 0 then ((p_X6_isOf N G3 J x1 x2).bind (fun v6 => if v6 = 0 then (some ((0 : Int32), G3)) else ((p_X6_fallsOf N G3 J x1).bind (fun v8 => (p_X6_pays N G3 J v8 x2 x3).bind (fun v10 => some (v10, G3)))))) else (some ((0 : Int32), G3))
def p_X6_owes_b30 (N : Nat) (J : Nat → Nat → Int64) (G : Nat → Nat → Int32) (x1 : Int32) (x2 : Int32) (x3 : Int32) : Option (Int32 × (Nat → Nat → Int32)) :=
  p_X6_owes_b31 N J G x1 x2 x3 (1 : Int32)
def p_X6_owes (N : Nat) (G : Nat → Nat → Int32) (J : Nat → Nat → Int64) (p0 : Int32) (p1 : Int32) (p2 : Int32) : Option (Int32 × (Nat → Nat → Int32)) :=
  (p_X6_isDeed N G J (p0.toInt64)).bind (fun v2 => if v2 = 0 then (p_X6_owes_b30 N J G p0 p1 p2) else ((p_X6_isPerson N G J p1).bind (fun v14 => if v14 = 0 then (p_X6_owes_b30 N J G p0 p1 p2) else ((p_X6_isPerson N G J p2).bind (fun v16 => if v16 = 0 then (p_X6_owes_b30 N J G p0 p1 p2) else (p_X6_owes_b31 N J G p0 p1 p2 (0 : Int32)))))))
set_option maxHeartbeats 4000000 in
set_option maxRecDepth 100000 in
theorem t_X6_owes_b31 {X : jX} {po : Option Value → jH → Prop} {px : String → jH → Prop} {sf : Bool} {B9 : Nat} (hM : jMX X kX6_owes RX6 tbX6 4 ⟨3, 0, 0, 71⟩ (some .int) 16) (hp : jPost X sf B9 po px) (N : Nat) (J : Nat → Nat → Int64) {res : Int32 × (Nat → Nat → Int32)} (G : Nat → Nat → Int32) (x1 : Int32) (x2 : Int32) (x3 : Int32) (s0 : Int32) (h : p_X6_owes_b31 N J G x1 x2 x3 s0 = some res) (hq : po (some (.int res.1)) (hMo res.2 J)) : JW X 0 0 31 [some (.ref 0), some (.int x1), some (.int x2), some (.int x3)] [.int s0, .ref 0] (hMo G J) := by
  unfold p_X6_owes_b31 at h
  obtain ⟨G3, e4, h⟩ := jlE h
  refine JW.r hM 17 1 (pc2 := 34) (L2 := [some (.ref 0), some (.int x1), some (.int x2), some (.int x3)]) (st2 := []) (μ2 := (hMo (jup G 0 5 s0) J)) rfl trivial ?_
  rw [e4]
  refine JW.r hM 18 2 (pc2 := 38) (L2 := [some (.ref 0), some (.int x1), some (.int x2), some (.int x3)]) (st2 := [.int (G3 0 5)]) (μ2 := (hMo G3 J)) rfl trivial ?_
  refine js_ifle (t := 43) hM.1 (jat hM.2.1 20 rfl) rfl (fun hc12 => ?_) (fun hc12 => ?_)
  · have h := (if_pos hc12).symm.trans h
    refine JW.r hM 23 3 (pc2 := 46) (L2 := [some (.ref 0), some (.int x1), some (.int x2), some (.int x3)]) (st2 := [.int x2, .int x1, .ref 0]) (μ2 := (hMo G3 J)) rfl trivial ?_
    obtain ⟨v6, hv5, h⟩ := jbd h
    refine JW.cV (v := some (.int v6)) hM (m_X6_isOf (jVX X) hM.1.2.2.2.2.2.2.2.2.2.1 N G3 J x1 x2 v6 hv5) (sb_Mo_Mo_0 G3 J) (bi_Mo_Mo_0 G3 J) rfl rfl rfl kc_X6_246 rfl rfl rfl rfl rfl (jat hM.2.1 26 rfl) (st := []) rfl ?_
    show JW X 0 0 49 [some (.ref 0), some (.int x1), some (.int x2), some (.int x3)] [.int v6] (hMo G3 J)
    refine js_ifeq (t := 66) hM.1 (jat hM.2.1 27 rfl) rfl (fun hc11 => ?_) (fun hc11 => ?_)
    · have h := (if_pos hc11).symm.trans h
      refine JW.r hM 36 1 (pc2 := 67) (L2 := [some (.ref 0), some (.int x1), some (.int x2), some (.int x3)]) (st2 := [.int (0 : Int32)]) (μ2 := (hMo G3 J)) rfl trivial ?_
      obtain rfl := Option.some.inj h
      exact js_iret hM.1 hp hM.2.2.2.2.2.2.2.1 (by rw [hM.2.2.2.2.2.1]; exact Nat.le_of_ble_eq_true rfl) (by rw [hM.2.2.2.2.2.2.1]; exact Nat.le_of_ble_eq_true rfl) (jat hM.2.1 37 rfl) hq
    · have h := (if_neg hc11).symm.trans h
      refine JW.r hM 28 3 (pc2 := 55) (L2 := [some (.ref 0), some (.int x1), some (.int x2), some (.int x3)]) (st2 := [.int x1, .ref 0, .ref 0]) (μ2 := (hMo G3 J)) rfl trivial ?_
      obtain ⟨v8, hv7, h⟩ := jbd h
      refine JW.cV (v := some (.int v8)) hM (m_X6_fallsOf (jVX X) hM.1.2.2.2.2.2.2.2.2.2.1 N G3 J x1 v8 hv7) (sb_Mo_Mo_0 G3 J) (bi_Mo_Mo_0 G3 J) rfl rfl rfl kc_X6_240 rfl rfl rfl rfl rfl (jat hM.2.1 31 rfl) (st := [.ref 0]) rfl ?_
      show JW X 0 0 58 [some (.ref 0), some (.int x1), some (.int x2), some (.int x3)] [.int v8, .ref 0] (hMo G3 J)
      refine JW.r hM 32 2 (pc2 := 60) (L2 := [some (.ref 0), some (.int x1), some (.int x2), some (.int x3)]) (st2 := [.int x3, .int x2, .int v8, .ref 0]) (μ2 := (hMo G3 J)) rfl trivial ?_
      obtain ⟨v10, hv9, h⟩ := jbd h
      refine JW.cV (v := some (.int v10)) hM (m_X6_pays (jVX X) hM.1.2.2.2.2.2.2.2.2.2.1 N G3 J v8 x2 x3 v10 hv9) (sb_Mo_Mo_0 G3 J) (bi_Mo_Mo_0 G3 J) rfl rfl rfl kc_X6_243 rfl rfl rfl rfl rfl (jat hM.2.1 34 rfl) (st := []) rfl ?_
      show JW X 0 0 63 [some (.ref 0), some (.int x1), some (.int x2), some (.int x3)] [.int v10] (hMo G3 J)
      refine JW.r hM 35 1 (pc2 := 67) (L2 := [some (.ref 0), some (.int x1), some (.int x2), some (.int x3)]) (st2 := [.int v10]) (μ2 := (hMo G3 J)) rfl trivial ?_
      obtain rfl := Option.some.inj h
      exact js_iret hM.1 hp hM.2.2.2.2.2.2.2.1 (by rw [hM.2.2.2.2.2.1]; exact Nat.le_of_ble_eq_true rfl) (by rw [hM.2.2.2.2.2.2.1]; exact Nat.le_of_ble_eq_true rfl) (jat hM.2.1 37 rfl) hq
  · have h := (if_neg hc12).symm.trans h
    refine JW.r hM 21 1 (pc2 := 42) (L2 := [some (.ref 0), some (.int x1), some (.int x2), some (.int x3)]) (st2 := [.int (0 : Int32)]) (μ2 := (hMo G3 J)) rfl trivial ?_
    obtain rfl := Option.some.inj h
    exact js_iret hM.1 hp hM.2.2.2.2.2.2.2.1 (by rw [hM.2.2.2.2.2.1]; exact Nat.le_of_ble_eq_true rfl) (by rw [hM.2.2.2.2.2.2.1]; exact Nat.le_of_ble_eq_true rfl) (jat hM.2.1 22 rfl) hq
set_option maxHeartbeats 4000000 in
set_option maxRecDepth 100000 in
theorem t_X6_owes_b30 {X : jX} {po : Option Value → jH → Prop} {px : String → jH → Prop} {sf : Bool} {B9 : Nat} (hM : jMX X kX6_owes RX6 tbX6 4 ⟨3, 0, 0, 71⟩ (some .int) 16) (hp : jPost X sf B9 po px) (N : Nat) (J : Nat → Nat → Int64) {res : Int32 × (Nat → Nat → Int32)} (G : Nat → Nat → Int32) (x1 : Int32) (x2 : Int32) (x3 : Int32) (h : p_X6_owes_b30 N J G x1 x2 x3 = some res) (hq : po (some (.int res.1)) (hMo res.2 J)) : JW X 0 0 30 [some (.ref 0), some (.int x1), some (.int x2), some (.int x3)] [.ref 0] (hMo G J) := by
  unfold p_X6_owes_b30 at h
  refine JW.r hM 16 1 (pc2 := 31) (L2 := [some (.ref 0), some (.int x1), some (.int x2), some (.int x3)]) (st2 := [.int (1 : Int32), .ref 0]) (μ2 := (hMo G J)) rfl trivial ?_
  exact t_X6_owes_b31 hM hp N J G x1 x2 x3 (1 : Int32) h hq
set_option maxHeartbeats 4000000 in
set_option maxRecDepth 100000 in
theorem t_X6_owes {X : jX} {po : Option Value → jH → Prop} {px : String → jH → Prop} {sf : Bool} {B9 : Nat} (hM : jMX X kX6_owes RX6 tbX6 4 ⟨3, 0, 0, 71⟩ (some .int) 16) (hp : jPost X sf B9 po px) (N : Nat) (G : Nat → Nat → Int32) (J : Nat → Nat → Int64) (p0 : Int32) (p1 : Int32) (p2 : Int32) {res : Int32 × (Nat → Nat → Int32)} (h : p_X6_owes N G J p0 p1 p2 = some res) (hq : po (some (.int res.1)) (hMo res.2 J)) : JW X 0 0 0 [some (.ref 0), some (.int p0), some (.int p1), some (.int p2)] [] (hMo G J) := by
  unfold p_X6_owes at h
  refine JW.r hM 0 4 (pc2 := 4) (L2 := [some (.ref 0), some (.int p0), some (.int p1), some (.int p2)]) (st2 := [.long (p0.toInt64), .ref 0, .ref 0]) (μ2 := (hMo G J)) rfl trivial ?_
  obtain ⟨v2, hv1, h⟩ := jbd h
  refine JW.cV (v := some (.int v2)) hM (m_X6_isDeed (jVX X) hM.1.2.2.2.2.2.2.2.2.2.1 N G J (p0.toInt64) v2 hv1) (sb_Mo_Mo_0 G J) (bi_Mo_Mo_0 G J) rfl rfl rfl kc_X6_230 rfl rfl rfl rfl rfl (jat hM.2.1 4 rfl) (st := [.ref 0]) rfl ?_
  show JW X 0 0 7 [some (.ref 0), some (.int p0), some (.int p1), some (.int p2)] [.int v2, .ref 0] (hMo G J)
  refine js_ifeq (t := 30) hM.1 (jat hM.2.1 5 rfl) rfl (fun hc19 => ?_) (fun hc19 => ?_)
  · have h := (if_pos hc19).symm.trans h
    exact t_X6_owes_b30 hM hp N J G p0 p1 p2 h hq
  · have h := (if_neg hc19).symm.trans h
    refine JW.r hM 6 2 (pc2 := 12) (L2 := [some (.ref 0), some (.int p0), some (.int p1), some (.int p2)]) (st2 := [.int p1, .ref 0, .ref 0]) (μ2 := (hMo G J)) rfl trivial ?_
    obtain ⟨v14, hv13, h⟩ := jbd h
    refine JW.cV (v := some (.int v14)) hM (m_X6_isPerson (jVX X) hM.1.2.2.2.2.2.2.2.2.2.1 N G J p1 v14 hv13) (sb_Mo_Mo_0 G J) (bi_Mo_Mo_0 G J) rfl rfl rfl kc_X6_186 rfl rfl rfl rfl rfl (jat hM.2.1 8 rfl) (st := [.ref 0]) rfl ?_
    show JW X 0 0 15 [some (.ref 0), some (.int p0), some (.int p1), some (.int p2)] [.int v14, .ref 0] (hMo G J)
    refine js_ifeq (t := 30) hM.1 (jat hM.2.1 9 rfl) rfl (fun hc18 => ?_) (fun hc18 => ?_)
    · have h := (if_pos hc18).symm.trans h
      exact t_X6_owes_b30 hM hp N J G p0 p1 p2 h hq
    · have h := (if_neg hc18).symm.trans h
      refine JW.r hM 10 2 (pc2 := 20) (L2 := [some (.ref 0), some (.int p0), some (.int p1), some (.int p2)]) (st2 := [.int p2, .ref 0, .ref 0]) (μ2 := (hMo G J)) rfl trivial ?_
      obtain ⟨v16, hv15, h⟩ := jbd h
      refine JW.cV (v := some (.int v16)) hM (m_X6_isPerson (jVX X) hM.1.2.2.2.2.2.2.2.2.2.1 N G J p2 v16 hv15) (sb_Mo_Mo_0 G J) (bi_Mo_Mo_0 G J) rfl rfl rfl kc_X6_186 rfl rfl rfl rfl rfl (jat hM.2.1 12 rfl) (st := [.ref 0]) rfl ?_
      show JW X 0 0 23 [some (.ref 0), some (.int p0), some (.int p1), some (.int p2)] [.int v16, .ref 0] (hMo G J)
      refine js_ifeq (t := 30) hM.1 (jat hM.2.1 13 rfl) rfl (fun hc17 => ?_) (fun hc17 => ?_)
      · have h := (if_pos hc17).symm.trans h
        exact t_X6_owes_b30 hM hp N J G p0 p1 p2 h hq
      · have h := (if_neg hc17).symm.trans h
        refine JW.r hM 14 2 (pc2 := 31) (L2 := [some (.ref 0), some (.int p0), some (.int p1), some (.int p2)]) (st2 := [.int (0 : Int32), .ref 0]) (μ2 := (hMo G J)) rfl trivial ?_
        exact t_X6_owes_b31 hM hp N J G p0 p1 p2 (0 : Int32) h hq
theorem m_X6_owes (V : jV) (hV : V.1.stackTraces = false) (N : Nat) (G : Nat → Nat → Int32) (J : Nat → Nat → Int64) (p0 : Int32) (p1 : Int32) (p2 : Int32) (v : Int32 × (Nat → Nat → Int32)) (h : p_X6_owes N G J p0 p1 p2 = some v) : jMet V yX6_owes (jws yX6_owes cX6_owes 4 (some .int)) ⟨3, 0, 0, 71⟩ true 1 [.ref 0, .int p0, .int p1, .int p2] (hMo G J) (fun o ν => o = some (.int v.1) ∧ ν = (hMo v.2 J)) (fun _ _ => False) := by
  refine jmk (tb := tbX6) (C := kX6_owes) hV rfl (by decide) tbX6_ok rfl kX6_owes_ok rfl ?_
  intro X hM _ hp _
  exact t_X6_owes hM hp N G J p0 p1 p2 h ⟨rfl, rfl⟩
def p_X6_chain_b70 (N : Nat) (J : Nat → Nat → Int64) (rv24 : (Nat → Nat → Int32) → Int32 → Int32 → Int32 → Option (Int32 × (Nat → Nat → Int32))) (G : Nat → Nat → Int32) (x1 : Int32) (x3 : Int32) (x4 : Int32) : Option (Int32 × (Nat → Nat → Int32)) :=
  rv24 G x1 x3 (x4 + 1)
def p_X6_chain_b24 (N : Nat) (J : Nat → Nat → Int64) : Nat → (Nat → Nat → Int32) → (Int32) → (Int32) → (Int32) → Option (Int32 × (Nat → Nat → Int32))
  | 0, _, _, _, _ => none
  | n + 1, G, x1, x3, x4 => if (G 1 7) ≤ x4 then (some ((-1 : Int32), G)) else ((p_X6_of N G J x4 (0 : Int32)).bind (fun v6 => if v6 = x1 then ((p_X6_of N G J x4 (4 : Int32)).bind (fun v8 => if v8 = 0 then (p_X6_chain_b70 N J (p_X6_chain_b24 N J n) G x1 x3 x4) else (if x3 = 0 then (some (x4, G)) else (p_X6_chain_b70 N J (p_X6_chain_b24 N J n) G x1 (x3 + (-1)) x4)))) else (p_X6_chain_b70 N J (p_X6_chain_b24 N J n) G x1 x3 x4)))
def p_X6_chain (N : Nat) (G : Nat → Nat → Int32) (J : Nat → Nat → Int64) (p0 : Int32) (p1 : Int32) : Option (Int32 × (Nat → Nat → Int32)) :=
  jlt (jup G 0 5 (0 : Int32)) fun G1 => (p_X6_isThing N G1 J p0).bind (fun v4 => if v4 = 0 then ((p_X6_fails N G1 J (1 : Int32)).bind (fun v14 => jlt v14.2 fun G15 => some (v14.1, G15))) else (p_X6_chain_b24 N J N G1 p0 p1 (0 : Int32)))
set_option maxHeartbeats 4000000 in
set_option maxRecDepth 100000 in
theorem t_X6_chain_b70 {X : jX} {po : Option Value → jH → Prop} {px : String → jH → Prop} {sf : Bool} {B9 : Nat} (hM : jMX X kX6_chain RX6 tbX6 5 ⟨2, 0, 0, 46⟩ (some .int) 16) (hp : jPost X sf B9 po px) (N : Nat) (J : Nat → Nat → Int64) (rv24 : (Nat → Nat → Int32) → Int32 → Int32 → Int32 → Option (Int32 × (Nat → Nat → Int32))) {res : Int32 × (Nat → Nat → Int32)} (ih24 : ∀ (G : Nat → Nat → Int32) (x1 : Int32) (x3 : Int32) (x4 : Int32), rv24 G x1 x3 x4 = some res → JW X 0 0 24 [some (.ref 0), some (.int x1), none, some (.int x3), some (.int x4)] [] (hMo G J)) (G : Nat → Nat → Int32) (x1 : Int32) (x3 : Int32) (x4 : Int32) (h : p_X6_chain_b70 N J rv24 G x1 x3 x4 = some res) (hq : po (some (.int res.1)) (hMo res.2 J)) : JW X 0 0 70 [some (.ref 0), some (.int x1), none, some (.int x3), some (.int x4)] [] (hMo G J) := by
  unfold p_X6_chain_b70 at h
  refine JW.r hM 38 2 (pc2 := 24) (L2 := [some (.ref 0), some (.int x1), none, some (.int x3), some (.int (x4 + 1))]) (st2 := []) (μ2 := (hMo G J)) rfl trivial ?_
  exact ih24 G x1 x3 (x4 + 1) h
set_option maxHeartbeats 4000000 in
set_option maxRecDepth 100000 in
theorem t_X6_chain_b24 {X : jX} {po : Option Value → jH → Prop} {px : String → jH → Prop} {sf : Bool} {B9 : Nat} (hM : jMX X kX6_chain RX6 tbX6 5 ⟨2, 0, 0, 46⟩ (some .int) 16) (hp : jPost X sf B9 po px) (N : Nat) (J : Nat → Nat → Int64) {res : Int32 × (Nat → Nat → Int32)} : ∀ (n : Nat) (G : Nat → Nat → Int32) (x1 : Int32) (x3 : Int32) (x4 : Int32) (h : p_X6_chain_b24 N J n G x1 x3 x4 = some res) (hq : po (some (.int res.1)) (hMo res.2 J)), JW X 0 0 24 [some (.ref 0), some (.int x1), none, some (.int x3), some (.int x4)] [] (hMo G J) := by
  intro n
  induction n with
  | zero =>
    intro G x1 x3 x4 h hq
    cases (show (none : Option (Int32 × (Nat → Nat → Int32))) = some res from h)
  | succ n ih24 =>
    intro G x1 x3 x4 h hq
    have ih24 := fun G x1 x3 x4 h9 => ih24 G x1 x3 x4 h9 hq
    rw [p_X6_chain_b24] at h
    refine JW.r hM 15 5 (pc2 := 33) (L2 := [some (.ref 0), some (.int x1), none, some (.int x3), some (.int x4)]) (st2 := [.int (G 1 7), .int x4]) (μ2 := (hMo G J)) rfl ⟨rfl, trivial⟩ ?_
    refine js_icge (t := 76) hM.1 (jat hM.2.1 20 rfl) rfl (fun hc12 => ?_) (fun hc12 => ?_)
    · have h := (if_pos hc12).symm.trans h
      refine JW.r hM 40 1 (pc2 := 77) (L2 := [some (.ref 0), some (.int x1), none, some (.int x3), some (.int x4)]) (st2 := [.int (-1 : Int32)]) (μ2 := (hMo G J)) rfl trivial ?_
      obtain rfl := Option.some.inj h
      exact js_iret hM.1 hp hM.2.2.2.2.2.2.2.1 (by rw [hM.2.2.2.2.2.1]; exact Nat.le_of_ble_eq_true rfl) (by rw [hM.2.2.2.2.2.2.1]; exact Nat.le_of_ble_eq_true rfl) (jat hM.2.1 41 rfl) hq
    · have h := (if_neg hc12).symm.trans h
      refine JW.r hM 21 3 (pc2 := 40) (L2 := [some (.ref 0), some (.int x1), none, some (.int x3), some (.int x4)]) (st2 := [.int (0 : Int32), .int x4, .ref 0]) (μ2 := (hMo G J)) rfl trivial ?_
      obtain ⟨v6, hv5, h⟩ := jbd h
      refine JW.cV (v := some (.int v6)) hM (m_X6_of (jVX X) hM.1.2.2.2.2.2.2.2.2.2.1 N G J x4 (0 : Int32) v6 hv5) (sb_Mo_Mo_0 G J) (bi_Mo_Mo_0 G J) rfl rfl rfl kc_X6_208 rfl rfl rfl rfl rfl (jat hM.2.1 24 rfl) (st := []) rfl ?_
      show JW X 0 0 43 [some (.ref 0), some (.int x1), none, some (.int x3), some (.int x4)] [.int v6] (hMo G J)
      refine JW.r hM 25 1 (pc2 := 44) (L2 := [some (.ref 0), some (.int x1), none, some (.int x3), some (.int x4)]) (st2 := [.int x1, .int v6]) (μ2 := (hMo G J)) rfl trivial ?_
      refine js_icne (t := 70) hM.1 (jat hM.2.1 26 rfl) rfl (fun hc11 => ?_) (fun hc11 => ?_)
      · have h := (if_neg hc11).symm.trans h
        exact t_X6_chain_b70 hM hp N J (p_X6_chain_b24 N J n) ih24 G x1 x3 x4 h hq
      · have h := (if_pos hc11).symm.trans h
        refine JW.r hM 27 3 (pc2 := 51) (L2 := [some (.ref 0), some (.int x1), none, some (.int x3), some (.int x4)]) (st2 := [.int (4 : Int32), .int x4, .ref 0]) (μ2 := (hMo G J)) rfl trivial ?_
        obtain ⟨v8, hv7, h⟩ := jbd h
        refine JW.cV (v := some (.int v8)) hM (m_X6_of (jVX X) hM.1.2.2.2.2.2.2.2.2.2.1 N G J x4 (4 : Int32) v8 hv7) (sb_Mo_Mo_0 G J) (bi_Mo_Mo_0 G J) rfl rfl rfl kc_X6_208 rfl rfl rfl rfl rfl (jat hM.2.1 30 rfl) (st := []) rfl ?_
        show JW X 0 0 54 [some (.ref 0), some (.int x1), none, some (.int x3), some (.int x4)] [.int v8] (hMo G J)
        refine js_ifne (t := 60) hM.1 (jat hM.2.1 31 rfl) rfl (fun hc10 => ?_) (fun hc10 => ?_)
        · have h := (if_neg hc10).symm.trans h
          refine JW.r hM 33 1 (pc2 := 61) (L2 := [some (.ref 0), some (.int x1), none, some (.int x3), some (.int x4)]) (st2 := [.int x3]) (μ2 := (hMo G J)) rfl trivial ?_
          refine js_ifne (t := 67) hM.1 (jat hM.2.1 34 rfl) rfl (fun hc9 => ?_) (fun hc9 => ?_)
          · have h := (if_neg hc9).symm.trans h
            refine JW.r hM 37 1 (pc2 := 70) (L2 := [some (.ref 0), some (.int x1), none, some (.int (x3 + (-1))), some (.int x4)]) (st2 := []) (μ2 := (hMo G J)) rfl trivial ?_
            exact t_X6_chain_b70 hM hp N J (p_X6_chain_b24 N J n) ih24 G x1 (x3 + (-1)) x4 h hq
          · have h := (if_pos hc9).symm.trans h
            refine JW.r hM 35 1 (pc2 := 66) (L2 := [some (.ref 0), some (.int x1), none, some (.int x3), some (.int x4)]) (st2 := [.int x4]) (μ2 := (hMo G J)) rfl trivial ?_
            obtain rfl := Option.some.inj h
            exact js_iret hM.1 hp hM.2.2.2.2.2.2.2.1 (by rw [hM.2.2.2.2.2.1]; exact Nat.le_of_ble_eq_true rfl) (by rw [hM.2.2.2.2.2.2.1]; exact Nat.le_of_ble_eq_true rfl) (jat hM.2.1 36 rfl) hq
        · have h := (if_pos hc10).symm.trans h
          refine JW.r hM 32 1 (pc2 := 70) (L2 := [some (.ref 0), some (.int x1), none, some (.int x3), some (.int x4)]) (st2 := []) (μ2 := (hMo G J)) rfl trivial ?_
          exact t_X6_chain_b70 hM hp N J (p_X6_chain_b24 N J n) ih24 G x1 x3 x4 h hq
set_option maxHeartbeats 4000000 in
set_option maxRecDepth 100000 in
theorem t_X6_chain {X : jX} {po : Option Value → jH → Prop} {px : String → jH → Prop} {sf : Bool} {B9 : Nat} (hM : jMX X kX6_chain RX6 tbX6 5 ⟨2, 0, 0, 46⟩ (some .int) 16) (hp : jPost X sf B9 po px) (N : Nat) (G : Nat → Nat → Int32) (J : Nat → Nat → Int64) (p0 : Int32) (p1 : Int32) {res : Int32 × (Nat → Nat → Int32)} (h : p_X6_chain N G J p0 p1 = some res) (hq : po (some (.int res.1)) (hMo res.2 J)) : JW X 0 0 0 [some (.ref 0), some (.int p0), some (.int p1), none, none] [] (hMo G J) := by
  unfold p_X6_chain at h
  obtain ⟨G1, e2, h⟩ := jlE h
  refine JW.r hM 0 3 (pc2 := 5) (L2 := [some (.ref 0), some (.int p0), some (.int p1), none, none]) (st2 := []) (μ2 := (hMo (jup G 0 5 (0 : Int32)) J)) rfl trivial ?_
  rw [e2]
  refine JW.r hM 3 2 (pc2 := 7) (L2 := [some (.ref 0), some (.int p0), some (.int p1), none, none]) (st2 := [.int p0, .ref 0]) (μ2 := (hMo G1 J)) rfl trivial ?_
  obtain ⟨v4, hv3, h⟩ := jbd h
  refine JW.cV (v := some (.int v4)) hM (m_X6_isThing (jVX X) hM.1.2.2.2.2.2.2.2.2.2.1 N G1 J p0 v4 hv3) (sb_Mo_Mo_0 G1 J) (bi_Mo_Mo_0 G1 J) rfl rfl rfl kc_X6_197 rfl rfl rfl rfl rfl (jat hM.2.1 5 rfl) (st := []) rfl ?_
  show JW X 0 0 10 [some (.ref 0), some (.int p0), some (.int p1), none, none] [.int v4] (hMo G1 J)
  refine js_ifne (t := 19) hM.1 (jat hM.2.1 6 rfl) rfl (fun hc17 => ?_) (fun hc17 => ?_)
  · have h := (if_neg hc17).symm.trans h
    refine JW.r hM 11 4 (pc2 := 24) (L2 := [some (.ref 0), some (.int p0), some (.int p1), some (.int p1), some (.int (0 : Int32))]) (st2 := []) (μ2 := (hMo G1 J)) rfl trivial ?_
    exact JW.mask [true, true, false, true, true] (t_X6_chain_b24 hM hp N J N G1 p0 p1 (0 : Int32) h hq)
  · have h := (if_pos hc17).symm.trans h
    refine JW.r hM 7 2 (pc2 := 15) (L2 := [some (.ref 0), some (.int p0), some (.int p1), none, none]) (st2 := [.int (1 : Int32), .ref 0]) (μ2 := (hMo G1 J)) rfl trivial ?_
    obtain ⟨v14, hv13, h⟩ := jbd h
    refine JW.cV (v := some (.int v14.1)) hM (m_X6_fails (jVX X) hM.1.2.2.2.2.2.2.2.2.2.1 N G1 J (1 : Int32) v14 hv13) (sb_Mo_Mo_0 G1 J) (bk_Mo_Mo_0 G1 J v14.2 J) rfl rfl rfl kc_X6_170 rfl rfl rfl rfl rfl (jat hM.2.1 9 rfl) (st := []) rfl ?_
    show JW X 0 0 18 [some (.ref 0), some (.int p0), some (.int p1), none, none] [.int v14.1] (hMo v14.2 J)
    obtain ⟨G15, e16, h⟩ := jlE h
    rw [e16]
    obtain rfl := Option.some.inj h
    exact js_iret hM.1 hp hM.2.2.2.2.2.2.2.1 (by rw [hM.2.2.2.2.2.1]; exact Nat.le_of_ble_eq_true rfl) (by rw [hM.2.2.2.2.2.2.1]; exact Nat.le_of_ble_eq_true rfl) (jat hM.2.1 10 rfl) hq
theorem m_X6_chain (V : jV) (hV : V.1.stackTraces = false) (N : Nat) (G : Nat → Nat → Int32) (J : Nat → Nat → Int64) (p0 : Int32) (p1 : Int32) (v : Int32 × (Nat → Nat → Int32)) (h : p_X6_chain N G J p0 p1 = some v) : jMet V yX6_chain (jws yX6_chain cX6_chain 5 (some .int)) ⟨2, 0, 0, 46⟩ true 1 [.ref 0, .int p0, .int p1] (hMo G J) (fun o ν => o = some (.int v.1) ∧ ν = (hMo v.2 J)) (fun _ _ => False) := by
  refine jmk (tb := tbX6) (C := kX6_chain) hV rfl (by decide) tbX6_ok rfl kX6_chain_ok rfl ?_
  intro X hM _ hp _
  exact t_X6_chain hM hp N G J p0 p1 h ⟨rfl, rfl⟩
def p_X6_isTray (N : Nat) (p0 : Int32) : Option (Int32) :=
  (p_X6_within N (p0.toInt64) (0 : Int64) (3 : Int64)).bind (fun v2 => if jz v2 = true then some v2 else none)
set_option maxHeartbeats 4000000 in
set_option maxRecDepth 100000 in
theorem t_X6_isTray {X : jX} {po : Option Value → jH → Prop} {px : String → jH → Prop} {sf : Bool} {B9 : Nat} (hM : jMX X kX6_isTray RX6 tbX6 1 ⟨1, 0, 0, 25⟩ (some .boolean) 1) (hp : jPost X sf B9 po px) (N : Nat) (p0 : Int32) {res : Int32} (h : p_X6_isTray N p0 = some res) (hq : po (some (.int res)) hE) : JW X 0 0 0 [some (.int p0)] [] hE := by
  unfold p_X6_isTray at h
  refine JW.r hM 0 4 (pc2 := 6) (L2 := [some (.int p0)]) (st2 := [.long (3 : Int64), .long (0 : Int64), .long (p0.toInt64)]) (μ2 := hE) rfl trivial ?_
  obtain ⟨v2, hv1, h⟩ := jbd h
  refine JW.cS (v := some (.int v2)) hM (m_X6_within (jVX X) hM.1.2.2.2.2.2.2.2.2.2.1 N (p0.toInt64) (0 : Int64) (3 : Int64) v2 hv1) (sb_E_E_) (bi_E_E_) rfl rfl rfl kc_X6_122 rfl rfl rfl (jat hM.2.1 4 rfl) (st := []) rfl ?_
  show JW X 0 0 9 [some (.int p0)] [.int v2] hE
  obtain ⟨g3, h⟩ := jg h
  obtain rfl := Option.some.inj h
  exact js_zret hM.1 hp hM.2.2.2.2.2.2.2.1 g3 (by rw [hM.2.2.2.2.2.1]; exact Nat.le_of_ble_eq_true rfl) (by rw [hM.2.2.2.2.2.2.1]; exact Nat.le_of_ble_eq_true rfl) (jat hM.2.1 5 rfl) hq
theorem m_X6_isTray (V : jV) (hV : V.1.stackTraces = false) (N : Nat) (p0 : Int32) (v : Int32) (h : p_X6_isTray N p0 = some v) : jMet V yX6_isTray (jws yX6_isTray cX6_isTray 1 (some .boolean)) ⟨1, 0, 0, 25⟩ true 1 [.int p0] hE (fun o ν => o = some (.int v) ∧ ν = hE) (fun _ _ => False) := by
  refine jmk (tb := tbX6) (C := kX6_isTray) hV rfl (by decide) tbX6_ok rfl kX6_isTray_ok rfl ?_
  intro X hM _ hp _
  exact t_X6_isTray hM hp N p0 h ⟨rfl, rfl⟩
def p_X6_trayFault (N : Nat) (G : Nat → Nat → Int32) (J : Nat → Nat → Int64) (p0 : Int32) : Option (Int32) :=
  (p_X6_isTray N p0).bind (fun v2 => if v2 = 0 then (some (1 : Int32)) else (if jin p0 4 = true then if (G 12 p0.toNatClampNeg) = (-1 : Int32) then (some (2 : Int32)) else (some (0 : Int32)) else none))
set_option maxHeartbeats 4000000 in
set_option maxRecDepth 100000 in
theorem t_X6_trayFault {X : jX} {po : Option Value → jH → Prop} {px : String → jH → Prop} {sf : Bool} {B9 : Nat} (hM : jMX X kX6_trayFault RX6 tbX6 2 ⟨2, 0, 0, 45⟩ (some .int) 16) (hp : jPost X sf B9 po px) (N : Nat) (G : Nat → Nat → Int32) (J : Nat → Nat → Int64) (p0 : Int32) {res : Int32} (h : p_X6_trayFault N G J p0 = some res) (hq : po (some (.int res)) (hMo G J)) : JW X 0 0 0 [some (.ref 0), some (.int p0)] [] (hMo G J) := by
  unfold p_X6_trayFault at h
  refine JW.r hM 0 1 (pc2 := 1) (L2 := [some (.ref 0), some (.int p0)]) (st2 := [.int p0]) (μ2 := (hMo G J)) rfl trivial ?_
  obtain ⟨v2, hv1, h⟩ := jbd h
  refine JW.cS (v := some (.int v2)) hM (m_X6_isTray (jVX X) hM.1.2.2.2.2.2.2.2.2.2.1 N p0 v2 hv1) (sb_Mo_E_ G J) (bi_Mo_E_ G J) rfl rfl rfl kc_X6_257 rfl rfl rfl (jat hM.2.1 1 rfl) (st := []) rfl ?_
  show JW X 0 0 4 [some (.ref 0), some (.int p0)] [.int v2] (hMo G J)
  refine js_ifne (t := 11) hM.1 (jat hM.2.1 2 rfl) rfl (fun hc5 => ?_) (fun hc5 => ?_)
  · have h := (if_neg hc5).symm.trans h
    obtain ⟨g3, h⟩ := jg h
    refine JW.r hM 5 5 (pc2 := 18) (L2 := [some (.ref 0), some (.int p0)]) (st2 := [.int (-1 : Int32), .int (G 12 p0.toNatClampNeg)]) (μ2 := (hMo G J)) rfl ⟨g3, trivial⟩ ?_
    refine js_icne (t := 25) hM.1 (jat hM.2.1 10 rfl) rfl (fun hc4 => ?_) (fun hc4 => ?_)
    · have h := (if_neg hc4).symm.trans h
      refine JW.r hM 13 1 (pc2 := 26) (L2 := [some (.ref 0), some (.int p0)]) (st2 := [.int (0 : Int32)]) (μ2 := (hMo G J)) rfl trivial ?_
      obtain rfl := Option.some.inj h
      exact js_iret hM.1 hp hM.2.2.2.2.2.2.2.1 (by rw [hM.2.2.2.2.2.1]; exact Nat.le_of_ble_eq_true rfl) (by rw [hM.2.2.2.2.2.2.1]; exact Nat.le_of_ble_eq_true rfl) (jat hM.2.1 14 rfl) hq
    · have h := (if_pos hc4).symm.trans h
      refine JW.r hM 11 2 (pc2 := 26) (L2 := [some (.ref 0), some (.int p0)]) (st2 := [.int (2 : Int32)]) (μ2 := (hMo G J)) rfl trivial ?_
      obtain rfl := Option.some.inj h
      exact js_iret hM.1 hp hM.2.2.2.2.2.2.2.1 (by rw [hM.2.2.2.2.2.1]; exact Nat.le_of_ble_eq_true rfl) (by rw [hM.2.2.2.2.2.2.1]; exact Nat.le_of_ble_eq_true rfl) (jat hM.2.1 14 rfl) hq
  · have h := (if_pos hc5).symm.trans h
    refine JW.r hM 3 2 (pc2 := 26) (L2 := [some (.ref 0), some (.int p0)]) (st2 := [.int (1 : Int32)]) (μ2 := (hMo G J)) rfl trivial ?_
    obtain rfl := Option.some.inj h
    exact js_iret hM.1 hp hM.2.2.2.2.2.2.2.1 (by rw [hM.2.2.2.2.2.1]; exact Nat.le_of_ble_eq_true rfl) (by rw [hM.2.2.2.2.2.2.1]; exact Nat.le_of_ble_eq_true rfl) (jat hM.2.1 14 rfl) hq
theorem m_X6_trayFault (V : jV) (hV : V.1.stackTraces = false) (N : Nat) (G : Nat → Nat → Int32) (J : Nat → Nat → Int64) (p0 : Int32) (v : Int32) (h : p_X6_trayFault N G J p0 = some v) : jMet V yX6_trayFault (jws yX6_trayFault cX6_trayFault 2 (some .int)) ⟨2, 0, 0, 45⟩ true 1 [.ref 0, .int p0] (hMo G J) (fun o ν => o = some (.int v) ∧ ν = (hMo G J)) (fun _ _ => False) := by
  refine jmk (tb := tbX6) (C := kX6_trayFault) hV rfl (by decide) tbX6_ok rfl kX6_trayFault_ok rfl ?_
  intro X hM _ hp _
  exact t_X6_trayFault hM hp N G J p0 h ⟨rfl, rfl⟩
def p_X6_byTold_b15 (N : Nat) (G : Nat → Nat → Int32) (J : Nat → Nat → Int64) (s0 : Int32) (s1 : Int32) : Option (Int32) :=
  (p_X6_of N G J s1 s0).bind (fun v2 => some v2)
def p_X6_byTold (N : Nat) (G : Nat → Nat → Int32) (J : Nat → Nat → Int64) (p0 : Int32) : Option (Int32) :=
  if (p0 - p0 / (2 : Int32) * (2 : Int32)) = 0 then (p_X6_byTold_b15 N G J (1 : Int32) (p0 / (2 : Int32))) else (p_X6_byTold_b15 N G J (2 : Int32) (p0 / (2 : Int32)))
set_option maxHeartbeats 4000000 in
set_option maxRecDepth 100000 in
theorem t_X6_byTold_b15 {X : jX} {po : Option Value → jH → Prop} {px : String → jH → Prop} {sf : Bool} {B9 : Nat} (hM : jMX X kX6_byTold RX6 tbX6 2 ⟨1, 0, 0, 22⟩ (some .int) 16) (hp : jPost X sf B9 po px) (N : Nat) (G : Nat → Nat → Int32) (J : Nat → Nat → Int64) {res : Int32} (s0 : Int32) (s1 : Int32) (h : p_X6_byTold_b15 N G J s0 s1 = some res) (hq : po (some (.int res)) (hMo G J)) : JW X 0 0 15 [none, none] [.int s0, .int s1, .ref 0] (hMo G J) := by
  unfold p_X6_byTold_b15 at h
  obtain ⟨v2, hv1, h⟩ := jbd h
  refine JW.cV (v := some (.int v2)) hM (m_X6_of (jVX X) hM.1.2.2.2.2.2.2.2.2.2.1 N G J s1 s0 v2 hv1) (sb_Mo_Mo_0 G J) (bi_Mo_Mo_0 G J) rfl rfl rfl kc_X6_208 rfl rfl rfl rfl rfl (jat hM.2.1 11 rfl) (st := []) rfl ?_
  show JW X 0 0 18 [none, none] [.int v2] (hMo G J)
  obtain rfl := Option.some.inj h
  exact js_iret hM.1 hp hM.2.2.2.2.2.2.2.1 (by rw [hM.2.2.2.2.2.1]; exact Nat.le_of_ble_eq_true rfl) (by rw [hM.2.2.2.2.2.2.1]; exact Nat.le_of_ble_eq_true rfl) (jat hM.2.1 12 rfl) hq
set_option maxHeartbeats 4000000 in
set_option maxRecDepth 100000 in
theorem t_X6_byTold {X : jX} {po : Option Value → jH → Prop} {px : String → jH → Prop} {sf : Bool} {B9 : Nat} (hM : jMX X kX6_byTold RX6 tbX6 2 ⟨1, 0, 0, 22⟩ (some .int) 16) (hp : jPost X sf B9 po px) (N : Nat) (G : Nat → Nat → Int32) (J : Nat → Nat → Int64) (p0 : Int32) {res : Int32} (h : p_X6_byTold N G J p0 = some res) (hq : po (some (.int res)) (hMo G J)) : JW X 0 0 0 [some (.ref 0), some (.int p0)] [] (hMo G J) := by
  unfold p_X6_byTold at h
  refine JW.r hM 0 7 (pc2 := 7) (L2 := [some (.ref 0), some (.int p0)]) (st2 := [.int (p0 - p0 / (2 : Int32) * (2 : Int32)), .int (p0 / (2 : Int32)), .ref 0]) (μ2 := (hMo G J)) rfl ⟨(by decide), (by decide), trivial⟩ ?_
  refine js_ifne (t := 14) hM.1 (jat hM.2.1 7 rfl) rfl (fun hc3 => ?_) (fun hc3 => ?_)
  · have h := (if_neg hc3).symm.trans h
    refine JW.r hM 10 1 (pc2 := 15) (L2 := [some (.ref 0), some (.int p0)]) (st2 := [.int (2 : Int32), .int (p0 / (2 : Int32)), .ref 0]) (μ2 := (hMo G J)) rfl trivial ?_
    exact JW.mask [false, false] (t_X6_byTold_b15 hM hp N G J (2 : Int32) (p0 / (2 : Int32)) h hq)
  · have h := (if_pos hc3).symm.trans h
    refine JW.r hM 8 2 (pc2 := 15) (L2 := [some (.ref 0), some (.int p0)]) (st2 := [.int (1 : Int32), .int (p0 / (2 : Int32)), .ref 0]) (μ2 := (hMo G J)) rfl trivial ?_
    exact JW.mask [false, false] (t_X6_byTold_b15 hM hp N G J (1 : Int32) (p0 / (2 : Int32)) h hq)
theorem m_X6_byTold (V : jV) (hV : V.1.stackTraces = false) (N : Nat) (G : Nat → Nat → Int32) (J : Nat → Nat → Int64) (p0 : Int32) (v : Int32) (h : p_X6_byTold N G J p0 = some v) : jMet V yX6_byTold (jws yX6_byTold cX6_byTold 2 (some .int)) ⟨1, 0, 0, 22⟩ true 1 [.ref 0, .int p0] (hMo G J) (fun o ν => o = some (.int v) ∧ ν = (hMo G J)) (fun _ _ => False) := by
  refine jmk (tb := tbX6) (C := kX6_byTold) hV rfl (by decide) tbX6_ok rfl kX6_byTold_ok rfl ?_
  intro X hM _ hp _
  exact t_X6_byTold hM hp N G J p0 h ⟨rfl, rfl⟩
def p_X6_whyTold (N : Nat) (G : Nat → Nat → Int32) (J : Nat → Nat → Int64) (p0 : Int64) : Option (Int32 × (Nat → Nat → Int32)) :=
  if (lg_cmp p0 (0 : Int64)) < 0 then (some ((1 : Int32), G)) else ((p_X6_isDeed N G J (p0 / (2 : Int64))).bind (fun v2 => if v2 = 0 then (some ((1 : Int32), G)) else ((p_X6_byTold N G J (p0.toInt32)).bind (fun v4 => (p_X6_whyNot N G J (p0 / (2 : Int64)) v4).bind (fun v6 => jlt v6.2 fun G7 => some (v6.1, G7))))))
set_option maxHeartbeats 4000000 in
set_option maxRecDepth 100000 in
theorem t_X6_whyTold {X : jX} {po : Option Value → jH → Prop} {px : String → jH → Prop} {sf : Bool} {B9 : Nat} (hM : jMX X kX6_whyTold RX6 tbX6 3 ⟨5, 0, 0, 122⟩ (some .int) 16) (hp : jPost X sf B9 po px) (N : Nat) (G : Nat → Nat → Int32) (J : Nat → Nat → Int64) (p0 : Int64) {res : Int32 × (Nat → Nat → Int32)} (h : p_X6_whyTold N G J p0 = some res) (hq : po (some (.int res.1)) (hMo res.2 J)) : JW X 0 0 0 [some (.ref 0), some (.long p0), none] [] (hMo G J) := by
  unfold p_X6_whyTold at h
  refine JW.r hM 0 3 (pc2 := 3) (L2 := [some (.ref 0), some (.long p0), none]) (st2 := [.int (lg_cmp p0 (0 : Int64))]) (μ2 := (hMo G J)) rfl trivial ?_
  refine js_iflt (t := 18) hM.1 (jat hM.2.1 3 rfl) rfl (fun hc10 => ?_) (fun hc10 => ?_)
  · have h := (if_pos hc10).symm.trans h
    refine JW.r hM 10 1 (pc2 := 19) (L2 := [some (.ref 0), some (.long p0), none]) (st2 := [.int (1 : Int32)]) (μ2 := (hMo G J)) rfl trivial ?_
    obtain rfl := Option.some.inj h
    exact js_iret hM.1 hp hM.2.2.2.2.2.2.2.1 (by rw [hM.2.2.2.2.2.1]; exact Nat.le_of_ble_eq_true rfl) (by rw [hM.2.2.2.2.2.2.1]; exact Nat.le_of_ble_eq_true rfl) (jat hM.2.1 11 rfl) hq
  · have h := (if_neg hc10).symm.trans h
    refine JW.r hM 4 4 (pc2 := 12) (L2 := [some (.ref 0), some (.long p0), none]) (st2 := [.long (p0 / (2 : Int64)), .ref 0]) (μ2 := (hMo G J)) rfl ⟨(by decide), trivial⟩ ?_
    obtain ⟨v2, hv1, h⟩ := jbd h
    refine JW.cV (v := some (.int v2)) hM (m_X6_isDeed (jVX X) hM.1.2.2.2.2.2.2.2.2.2.1 N G J (p0 / (2 : Int64)) v2 hv1) (sb_Mo_Mo_0 G J) (bi_Mo_Mo_0 G J) rfl rfl rfl kc_X6_230 rfl rfl rfl rfl rfl (jat hM.2.1 8 rfl) (st := []) rfl ?_
    show JW X 0 0 15 [some (.ref 0), some (.long p0), none] [.int v2] (hMo G J)
    refine js_ifne (t := 20) hM.1 (jat hM.2.1 9 rfl) rfl (fun hc9 => ?_) (fun hc9 => ?_)
    · have h := (if_neg hc9).symm.trans h
      refine JW.r hM 12 7 (pc2 := 29) (L2 := [some (.ref 0), some (.long p0), none]) (st2 := [.int (p0.toInt32), .ref 0, .long (p0 / (2 : Int64)), .ref 0]) (μ2 := (hMo G J)) rfl ⟨(by decide), trivial⟩ ?_
      obtain ⟨v4, hv3, h⟩ := jbd h
      refine JW.cV (v := some (.int v4)) hM (m_X6_byTold (jVX X) hM.1.2.2.2.2.2.2.2.2.2.1 N G J (p0.toInt32) v4 hv3) (sb_Mo_Mo_0 G J) (bi_Mo_Mo_0 G J) rfl rfl rfl kc_X6_260 rfl rfl rfl rfl rfl (jat hM.2.1 19 rfl) (st := [.long (p0 / (2 : Int64)), .ref 0]) rfl ?_
      show JW X 0 0 32 [some (.ref 0), some (.long p0), none] [.int v4, .long (p0 / (2 : Int64)), .ref 0] (hMo G J)
      obtain ⟨v6, hv5, h⟩ := jbd h
      refine JW.cV (v := some (.int v6.1)) hM (m_X6_whyNot (jVX X) hM.1.2.2.2.2.2.2.2.2.2.1 N G J (p0 / (2 : Int64)) v4 v6 hv5) (sb_Mo_Mo_0 G J) (bk_Mo_Mo_0 G J v6.2 J) rfl rfl rfl kc_X6_253 rfl rfl rfl rfl rfl (jat hM.2.1 20 rfl) (st := []) rfl ?_
      show JW X 0 0 35 [some (.ref 0), some (.long p0), none] [.int v6.1] (hMo v6.2 J)
      obtain ⟨G7, e8, h⟩ := jlE h
      rw [e8]
      obtain rfl := Option.some.inj h
      exact js_iret hM.1 hp hM.2.2.2.2.2.2.2.1 (by rw [hM.2.2.2.2.2.1]; exact Nat.le_of_ble_eq_true rfl) (by rw [hM.2.2.2.2.2.2.1]; exact Nat.le_of_ble_eq_true rfl) (jat hM.2.1 21 rfl) hq
    · have h := (if_pos hc9).symm.trans h
      refine JW.r hM 10 1 (pc2 := 19) (L2 := [some (.ref 0), some (.long p0), none]) (st2 := [.int (1 : Int32)]) (μ2 := (hMo G J)) rfl trivial ?_
      obtain rfl := Option.some.inj h
      exact js_iret hM.1 hp hM.2.2.2.2.2.2.2.1 (by rw [hM.2.2.2.2.2.1]; exact Nat.le_of_ble_eq_true rfl) (by rw [hM.2.2.2.2.2.2.1]; exact Nat.le_of_ble_eq_true rfl) (jat hM.2.1 11 rfl) hq
theorem m_X6_whyTold (V : jV) (hV : V.1.stackTraces = false) (N : Nat) (G : Nat → Nat → Int32) (J : Nat → Nat → Int64) (p0 : Int64) (v : Int32 × (Nat → Nat → Int32)) (h : p_X6_whyTold N G J p0 = some v) : jMet V yX6_whyTold (jws yX6_whyTold cX6_whyTold 3 (some .int)) ⟨5, 0, 0, 122⟩ true 1 [.ref 0, .long p0] (hMo G J) (fun o ν => o = some (.int v.1) ∧ ν = (hMo v.2 J)) (fun _ _ => False) := by
  refine jmk (tb := tbX6) (C := kX6_whyTold) hV rfl (by decide) tbX6_ok rfl kX6_whyTold_ok rfl ?_
  intro X hM _ hp _
  exact t_X6_whyTold hM hp N G J p0 h ⟨rfl, rfl⟩
def p_X6_goesBy_b2 (N : Nat) (J : Nat → Nat → Int64) : Nat → (Nat → Nat → Int32) → (Int32) → (Int32) → Option (Int32 × (Nat → Nat → Int32))
  | 0, _, _, _ => none
  | n + 1, G, x1, x2 => if jin x1 4 = true then if (G 13 x1.toNatClampNeg) ≤ x2 then (some (x2, G)) else (if jin (((40 : Int32) * x1) + x2) 160 = true then (p_X6_whyTold N G J (J 14 (((40 : Int32) * x1) + x2).toNatClampNeg)).bind (fun v4 => jlt v4.2 fun G5 => if v4.1 = 0 then (if jin (((40 : Int32) * x1) + x2) 160 = true then (p_X6_byTold N G5 J ((J 14 (((40 : Int32) * x1) + x2).toNatClampNeg).toInt32)).bind (fun v9 => (p_X6_undoes N G5 J (((J 14 (((40 : Int32) * x1) + x2).toNatClampNeg).toInt32) / (2 : Int32)) v9).bind (fun v11 => jlt v11.2 fun G12 => (p_X6_goesBy_b2 N J n) G12 x1 (x2 + 1))) else none) else (some (x2, G5))) else none) else none
def p_X6_goesBy (N : Nat) (G : Nat → Nat → Int32) (J : Nat → Nat → Int64) (p0 : Int32) : Option (Int32 × (Nat → Nat → Int32)) :=
  p_X6_goesBy_b2 N J N G p0 (0 : Int32)
set_option maxHeartbeats 4000000 in
set_option maxRecDepth 100000 in
theorem t_X6_goesBy_b2 {X : jX} {po : Option Value → jH → Prop} {px : String → jH → Prop} {sf : Bool} {B9 : Nat} (hM : jMX X kX6_goesBy RX6 tbX6 4 ⟨6, 0, 0, 144⟩ (some .int) 16) (hp : jPost X sf B9 po px) (N : Nat) (J : Nat → Nat → Int64) {res : Int32 × (Nat → Nat → Int32)} : ∀ (n : Nat) (G : Nat → Nat → Int32) (x1 : Int32) (x2 : Int32) (h : p_X6_goesBy_b2 N J n G x1 x2 = some res) (hq : po (some (.int res.1)) (hMo res.2 J)), JW X 0 0 2 [some (.ref 0), some (.int x1), some (.int x2), none] [] (hMo G J) := by
  intro n
  induction n with
  | zero =>
    intro G x1 x2 h hq
    cases (show (none : Option (Int32 × (Nat → Nat → Int32))) = some res from h)
  | succ n ih2 =>
    intro G x1 x2 h hq
    have ih2 := fun G x1 x2 h9 => ih2 G x1 x2 h9 hq
    rw [p_X6_goesBy_b2] at h
    obtain ⟨g1, h⟩ := jg h
    refine JW.r hM 2 5 (pc2 := 9) (L2 := [some (.ref 0), some (.int x1), some (.int x2), none]) (st2 := [.int (G 13 x1.toNatClampNeg), .int x2]) (μ2 := (hMo G J)) rfl ⟨g1, trivial⟩ ?_
    refine js_icge (t := 62) hM.1 (jat hM.2.1 7 rfl) rfl (fun hc15 => ?_) (fun hc15 => ?_)
    · have h := (if_pos hc15).symm.trans h
      refine JW.r hM 40 1 (pc2 := 63) (L2 := [some (.ref 0), some (.int x1), some (.int x2), none]) (st2 := [.int x2]) (μ2 := (hMo G J)) rfl trivial ?_
      obtain rfl := Option.some.inj h
      exact js_iret hM.1 hp hM.2.2.2.2.2.2.2.1 (by rw [hM.2.2.2.2.2.1]; exact Nat.le_of_ble_eq_true rfl) (by rw [hM.2.2.2.2.2.2.1]; exact Nat.le_of_ble_eq_true rfl) (jat hM.2.1 41 rfl) hq
    · have h := (if_neg hc15).symm.trans h
      obtain ⟨g2, h⟩ := jg h
      refine JW.r hM 8 9 (pc2 := 24) (L2 := [some (.ref 0), some (.int x1), some (.int x2), none]) (st2 := [.long (J 14 (((40 : Int32) * x1) + x2).toNatClampNeg), .ref 0]) (μ2 := (hMo G J)) rfl ⟨g2, trivial⟩ ?_
      obtain ⟨v4, hv3, h⟩ := jbd h
      refine JW.cV (v := some (.int v4.1)) hM (m_X6_whyTold (jVX X) hM.1.2.2.2.2.2.2.2.2.2.1 N G J (J 14 (((40 : Int32) * x1) + x2).toNatClampNeg) v4 hv3) (sb_Mo_Mo_0 G J) (bk_Mo_Mo_0 G J v4.2 J) rfl rfl rfl kc_X6_263 rfl rfl rfl rfl rfl (jat hM.2.1 17 rfl) (st := []) rfl ?_
      show JW X 0 0 27 [some (.ref 0), some (.int x1), some (.int x2), none] [.int v4.1] (hMo v4.2 J)
      obtain ⟨G5, e6, h⟩ := jlE h
      rw [e6]
      refine js_ifne (t := 62) hM.1 (jat hM.2.1 18 rfl) rfl (fun hc14 => ?_) (fun hc14 => ?_)
      · have h := (if_neg hc14).symm.trans h
        refine JW.r hM 40 1 (pc2 := 63) (L2 := [some (.ref 0), some (.int x1), some (.int x2), none]) (st2 := [.int x2]) (μ2 := (hMo G5 J)) rfl trivial ?_
        obtain rfl := Option.some.inj h
        exact js_iret hM.1 hp hM.2.2.2.2.2.2.2.1 (by rw [hM.2.2.2.2.2.1]; exact Nat.le_of_ble_eq_true rfl) (by rw [hM.2.2.2.2.2.2.1]; exact Nat.le_of_ble_eq_true rfl) (jat hM.2.1 41 rfl) hq
      · have h := (if_pos hc14).symm.trans h
        obtain ⟨g7, h⟩ := jg h
        refine JW.r hM 19 16 (pc2 := 49) (L2 := [some (.ref 0), some (.int x1), some (.int x2), some (.int ((J 14 (((40 : Int32) * x1) + x2).toNatClampNeg).toInt32))]) (st2 := [.int ((J 14 (((40 : Int32) * x1) + x2).toNatClampNeg).toInt32), .ref 0, .int (((J 14 (((40 : Int32) * x1) + x2).toNatClampNeg).toInt32) / (2 : Int32)), .ref 0]) (μ2 := (hMo G5 J)) rfl ⟨g7, (by decide), trivial⟩ ?_
        obtain ⟨v9, hv8, h⟩ := jbd h
        refine JW.cV (v := some (.int v9)) hM (m_X6_byTold (jVX X) hM.1.2.2.2.2.2.2.2.2.2.1 N G5 J ((J 14 (((40 : Int32) * x1) + x2).toNatClampNeg).toInt32) v9 hv8) (sb_Mo_Mo_0 G5 J) (bi_Mo_Mo_0 G5 J) rfl rfl rfl kc_X6_260 rfl rfl rfl rfl rfl (jat hM.2.1 35 rfl) (st := [.int (((J 14 (((40 : Int32) * x1) + x2).toNatClampNeg).toInt32) / (2 : Int32)), .ref 0]) rfl ?_
        show JW X 0 0 52 [some (.ref 0), some (.int x1), some (.int x2), some (.int ((J 14 (((40 : Int32) * x1) + x2).toNatClampNeg).toInt32))] [.int v9, .int (((J 14 (((40 : Int32) * x1) + x2).toNatClampNeg).toInt32) / (2 : Int32)), .ref 0] (hMo G5 J)
        obtain ⟨v11, hv10, h⟩ := jbd h
        refine JW.cV (v := some (.int v11.1)) hM (m_X6_undoes (jVX X) hM.1.2.2.2.2.2.2.2.2.2.1 N G5 J (((J 14 (((40 : Int32) * x1) + x2).toNatClampNeg).toInt32) / (2 : Int32)) v9 v11 hv10) (sb_Mo_Mo_0 G5 J) (bk_Mo_Mo_0 G5 J v11.2 J) rfl rfl rfl kc_X6_250 rfl rfl rfl rfl rfl (jat hM.2.1 36 rfl) (st := []) rfl ?_
        show JW X 0 0 55 [some (.ref 0), some (.int x1), some (.int x2), some (.int ((J 14 (((40 : Int32) * x1) + x2).toNatClampNeg).toInt32))] [.int v11.1] (hMo v11.2 J)
        obtain ⟨G12, e13, h⟩ := jlE h
        rw [e13]
        refine JW.r hM 37 3 (pc2 := 2) (L2 := [some (.ref 0), some (.int x1), some (.int (x2 + 1)), some (.int ((J 14 (((40 : Int32) * x1) + x2).toNatClampNeg).toInt32))]) (st2 := []) (μ2 := (hMo G12 J)) rfl trivial ?_
        exact JW.mask [true, true, true, false] (ih2 G12 x1 (x2 + 1) h)
set_option maxHeartbeats 4000000 in
set_option maxRecDepth 100000 in
theorem t_X6_goesBy {X : jX} {po : Option Value → jH → Prop} {px : String → jH → Prop} {sf : Bool} {B9 : Nat} (hM : jMX X kX6_goesBy RX6 tbX6 4 ⟨6, 0, 0, 144⟩ (some .int) 16) (hp : jPost X sf B9 po px) (N : Nat) (G : Nat → Nat → Int32) (J : Nat → Nat → Int64) (p0 : Int32) {res : Int32 × (Nat → Nat → Int32)} (h : p_X6_goesBy N G J p0 = some res) (hq : po (some (.int res.1)) (hMo res.2 J)) : JW X 0 0 0 [some (.ref 0), some (.int p0), none, none] [] (hMo G J) := by
  unfold p_X6_goesBy at h
  refine JW.r hM 0 2 (pc2 := 2) (L2 := [some (.ref 0), some (.int p0), some (.int (0 : Int32)), none]) (st2 := []) (μ2 := (hMo G J)) rfl trivial ?_
  exact t_X6_goesBy_b2 hM hp N J N G p0 (0 : Int32) h hq
theorem m_X6_goesBy (V : jV) (hV : V.1.stackTraces = false) (N : Nat) (G : Nat → Nat → Int32) (J : Nat → Nat → Int64) (p0 : Int32) (v : Int32 × (Nat → Nat → Int32)) (h : p_X6_goesBy N G J p0 = some v) : jMet V yX6_goesBy (jws yX6_goesBy cX6_goesBy 4 (some .int)) ⟨6, 0, 0, 144⟩ true 1 [.ref 0, .int p0] (hMo G J) (fun o ν => o = some (.int v.1) ∧ ν = (hMo v.2 J)) (fun _ _ => False) := by
  refine jmk (tb := tbX6) (C := kX6_goesBy) hV rfl (by decide) tbX6_ok rfl kX6_goesBy_ok rfl ?_
  intro X hM _ hp _
  exact t_X6_goesBy hM hp N G J p0 h ⟨rfl, rfl⟩
def p_X6_judge_b88 (N : Nat) (J : Nat → Nat → Int64) (G : Nat → Nat → Int32) (x2 : Int32) (x3 : Int32) (s0 : Int32) : Option (Int32 × (Nat → Nat → Int32)) :=
  (p_X6_standMany N G J).bind (fun v29 => (p_X6_copies N (jv2 G 7 1 1)).bind (fun v31 => jlt (jp2 G 7 1 1 1 v31) fun G32 => if x2 = 0 then (if s0 = 0 then (some ((-1 : Int32), G32)) else (some (x3, G32))) else (if x2 = (1 : Int32) then (some (s0, G32)) else (some (v29, G32)))))
def p_X6_judge_b33 (N : Nat) (J : Nat → Nat → Int64) (G : Nat → Nat → Int32) (x1 : Int32) (x2 : Int32) : Option (Int32 × (Nat → Nat → Int32)) :=
  if (G 0 5) ≤ 0 then ((p_X6_copies N (jv2 G 1 1 7)).bind (fun v6 => jlt (jp2 G 1 1 7 1 v6) fun G7 => (p_X6_goesBy N G7 J x1).bind (fun v10 => jlt v10.2 fun G11 => if jin x1 4 = true then if v10.1 = (G11 13 x1.toNatClampNeg) then (p_X6_judge_b88 N J G11 x2 v10.1 (0 : Int32)) else (if jin (((40 : Int32) * x1) + v10.1) 160 = true then (p_X6_whyTold N G11 J (J 14 (((40 : Int32) * x1) + v10.1).toNatClampNeg)).bind (fun v16 => jlt v16.2 fun G17 => (p_X6_standMany N G17 J).bind (fun v20 => (p_X6_copies N (jv2 G17 7 1 1)).bind (fun v22 => jlt (jp2 G17 7 1 1 1 v22) fun G23 => if x2 = 0 then (if v16.1 = 0 then (some ((-1 : Int32), G23)) else (some (v10.1, G23))) else (if x2 = (1 : Int32) then (some (v16.1, G23)) else (some (v20, G23)))))) else none) else none))) else (some ((0 : Int32), G))
def p_X6_judge (N : Nat) (G : Nat → Nat → Int32) (J : Nat → Nat → Int64) (p0 : Int32) (p1 : Int32) : Option (Int32 × (Nat → Nat → Int32)) :=
  (p_X6_trayFault N G J p0).bind (fun v2 => jlt (jup G 0 5 v2) fun G3 => if (G3 0 5) = 0 then ((p_X6_within N (p1.toInt64) (0 : Int64) (2 : Int64)).bind (fun v40 => if v40 = 0 then (jlt (jup G3 0 5 (3 : Int32)) fun G41 => p_X6_judge_b33 N J G41 p0 p1) else (p_X6_judge_b33 N J G3 p0 p1))) else (p_X6_judge_b33 N J G3 p0 p1))
set_option maxHeartbeats 4000000 in
set_option maxRecDepth 100000 in
theorem t_X6_judge_b88 {X : jX} {po : Option Value → jH → Prop} {px : String → jH → Prop} {sf : Bool} {B9 : Nat} (hM : jMX X kX6_judge RX6 tbX6 6 ⟨7, 0, 0, 167⟩ (some .int) 16) (hp : jPost X sf B9 po px) (N : Nat) (J : Nat → Nat → Int64) {res : Int32 × (Nat → Nat → Int32)} (G : Nat → Nat → Int32) (x2 : Int32) (x3 : Int32) (s0 : Int32) (h : p_X6_judge_b88 N J G x2 x3 s0 = some res) (hq : po (some (.int res.1)) (hMo res.2 J)) : JW X 0 0 88 [some (.ref 0), none, some (.int x2), some (.int x3), none, none] [.int s0] (hMo G J) := by
  unfold p_X6_judge_b88 at h
  refine JW.r hM 49 2 (pc2 := 91) (L2 := [some (.ref 0), none, some (.int x2), some (.int x3), some (.int s0), none]) (st2 := [.ref 0]) (μ2 := (hMo G J)) rfl trivial ?_
  obtain ⟨v29, hv28, h⟩ := jbd h
  refine JW.cV (v := some (.int v29)) hM (m_X6_standMany (jVX X) hM.1.2.2.2.2.2.2.2.2.2.1 N G J v29 hv28) (sb_Mo_Mo_0 G J) (bi_Mo_Mo_0 G J) rfl rfl rfl kc_X6_215 rfl rfl rfl rfl rfl (jat hM.2.1 51 rfl) (st := []) rfl ?_
  show JW X 0 0 94 [some (.ref 0), none, some (.int x2), some (.int x3), some (.int s0), none] [.int v29] (hMo G J)
  refine JW.r hM 52 5 (pc2 := 104) (L2 := [some (.ref 0), none, some (.int x2), some (.int x3), some (.int s0), some (.int v29)]) (st2 := [.ref 1, .ref 7]) (μ2 := (hMo G J)) rfl trivial ?_
  obtain ⟨v31, hv30, h⟩ := jbd h
  refine JW.cS (v := none) hM (m_X6_copies (jVX X) hM.1.2.2.2.2.2.2.2.2.2.1 N (jv2 G 7 1 1) v31 hv30) (sb_Mo_B264_7_1 G J) (bk_Mo_B264_7_1 G J v31) rfl rfl rfl kc_X6_179 rfl rfl rfl (jat hM.2.1 57 rfl) (st := []) rfl ?_
  show JW X 0 0 107 [some (.ref 0), none, some (.int x2), some (.int x3), some (.int s0), some (.int v29)] [] (hMo (jp2 G 7 1 1 1 v31) J)
  obtain ⟨G32, e33, h⟩ := jlE h
  rw [e33]
  refine JW.r hM 58 1 (pc2 := 108) (L2 := [some (.ref 0), none, some (.int x2), some (.int x3), some (.int s0), some (.int v29)]) (st2 := [.int x2]) (μ2 := (hMo G32 J)) rfl trivial ?_
  refine js_ifne (t := 124) hM.1 (jat hM.2.1 59 rfl) rfl (fun hc36 => ?_) (fun hc36 => ?_)
  · have h := (if_neg hc36).symm.trans h
    refine JW.r hM 66 2 (pc2 := 126) (L2 := [some (.ref 0), none, some (.int x2), some (.int x3), some (.int s0), some (.int v29)]) (st2 := [.int (1 : Int32), .int x2]) (μ2 := (hMo G32 J)) rfl trivial ?_
    refine js_icne (t := 134) hM.1 (jat hM.2.1 68 rfl) rfl (fun hc34 => ?_) (fun hc34 => ?_)
    · have h := (if_neg hc34).symm.trans h
      refine JW.r hM 71 1 (pc2 := 136) (L2 := [some (.ref 0), none, some (.int x2), some (.int x3), some (.int s0), some (.int v29)]) (st2 := [.int v29]) (μ2 := (hMo G32 J)) rfl trivial ?_
      obtain rfl := Option.some.inj h
      exact js_iret hM.1 hp hM.2.2.2.2.2.2.2.1 (by rw [hM.2.2.2.2.2.1]; exact Nat.le_of_ble_eq_true rfl) (by rw [hM.2.2.2.2.2.2.1]; exact Nat.le_of_ble_eq_true rfl) (jat hM.2.1 72 rfl) hq
    · have h := (if_pos hc34).symm.trans h
      refine JW.r hM 69 2 (pc2 := 136) (L2 := [some (.ref 0), none, some (.int x2), some (.int x3), some (.int s0), some (.int v29)]) (st2 := [.int s0]) (μ2 := (hMo G32 J)) rfl trivial ?_
      obtain rfl := Option.some.inj h
      exact js_iret hM.1 hp hM.2.2.2.2.2.2.2.1 (by rw [hM.2.2.2.2.2.1]; exact Nat.le_of_ble_eq_true rfl) (by rw [hM.2.2.2.2.2.2.1]; exact Nat.le_of_ble_eq_true rfl) (jat hM.2.1 72 rfl) hq
  · have h := (if_pos hc36).symm.trans h
    refine JW.r hM 60 1 (pc2 := 113) (L2 := [some (.ref 0), none, some (.int x2), some (.int x3), some (.int s0), some (.int v29)]) (st2 := [.int s0]) (μ2 := (hMo G32 J)) rfl trivial ?_
    refine js_ifne (t := 120) hM.1 (jat hM.2.1 61 rfl) rfl (fun hc35 => ?_) (fun hc35 => ?_)
    · have h := (if_neg hc35).symm.trans h
      refine JW.r hM 64 2 (pc2 := 136) (L2 := [some (.ref 0), none, some (.int x2), some (.int x3), some (.int s0), some (.int v29)]) (st2 := [.int x3]) (μ2 := (hMo G32 J)) rfl trivial ?_
      obtain rfl := Option.some.inj h
      exact js_iret hM.1 hp hM.2.2.2.2.2.2.2.1 (by rw [hM.2.2.2.2.2.1]; exact Nat.le_of_ble_eq_true rfl) (by rw [hM.2.2.2.2.2.2.1]; exact Nat.le_of_ble_eq_true rfl) (jat hM.2.1 72 rfl) hq
    · have h := (if_pos hc35).symm.trans h
      refine JW.r hM 62 2 (pc2 := 136) (L2 := [some (.ref 0), none, some (.int x2), some (.int x3), some (.int s0), some (.int v29)]) (st2 := [.int (-1 : Int32)]) (μ2 := (hMo G32 J)) rfl trivial ?_
      obtain rfl := Option.some.inj h
      exact js_iret hM.1 hp hM.2.2.2.2.2.2.2.1 (by rw [hM.2.2.2.2.2.1]; exact Nat.le_of_ble_eq_true rfl) (by rw [hM.2.2.2.2.2.2.1]; exact Nat.le_of_ble_eq_true rfl) (jat hM.2.1 72 rfl) hq
set_option maxHeartbeats 4000000 in
set_option maxRecDepth 100000 in
theorem t_X6_judge_b33 {X : jX} {po : Option Value → jH → Prop} {px : String → jH → Prop} {sf : Bool} {B9 : Nat} (hM : jMX X kX6_judge RX6 tbX6 6 ⟨7, 0, 0, 167⟩ (some .int) 16) (hp : jPost X sf B9 po px) (N : Nat) (J : Nat → Nat → Int64) {res : Int32 × (Nat → Nat → Int32)} (G : Nat → Nat → Int32) (x1 : Int32) (x2 : Int32) (h : p_X6_judge_b33 N J G x1 x2 = some res) (hq : po (some (.int res.1)) (hMo res.2 J)) : JW X 0 0 33 [some (.ref 0), some (.int x1), some (.int x2), none, none, none] [] (hMo G J) := by
  unfold p_X6_judge_b33 at h
  refine JW.r hM 17 2 (pc2 := 37) (L2 := [some (.ref 0), some (.int x1), some (.int x2), none, none, none]) (st2 := [.int (G 0 5)]) (μ2 := (hMo G J)) rfl trivial ?_
  refine js_ifle (t := 42) hM.1 (jat hM.2.1 19 rfl) rfl (fun hc38 => ?_) (fun hc38 => ?_)
  · have h := (if_pos hc38).symm.trans h
    refine JW.r hM 22 4 (pc2 := 50) (L2 := [some (.ref 0), some (.int x1), some (.int x2), none, none, none]) (st2 := [.ref 7, .ref 1]) (μ2 := (hMo G J)) rfl trivial ?_
    obtain ⟨v6, hv5, h⟩ := jbd h
    refine JW.cS (v := none) hM (m_X6_copies (jVX X) hM.1.2.2.2.2.2.2.2.2.2.1 N (jv2 G 1 1 7) v6 hv5) (sb_Mo_B264_1_7 G J) (bk_Mo_B264_1_7 G J v6) rfl rfl rfl kc_X6_179 rfl rfl rfl (jat hM.2.1 26 rfl) (st := []) rfl ?_
    show JW X 0 0 53 [some (.ref 0), some (.int x1), some (.int x2), none, none, none] [] (hMo (jp2 G 1 1 7 1 v6) J)
    obtain ⟨G7, e8, h⟩ := jlE h
    rw [e8]
    refine JW.r hM 27 2 (pc2 := 55) (L2 := [some (.ref 0), some (.int x1), some (.int x2), none, none, none]) (st2 := [.int x1, .ref 0]) (μ2 := (hMo G7 J)) rfl trivial ?_
    obtain ⟨v10, hv9, h⟩ := jbd h
    refine JW.cV (v := some (.int v10.1)) hM (m_X6_goesBy (jVX X) hM.1.2.2.2.2.2.2.2.2.2.1 N G7 J x1 v10 hv9) (sb_Mo_Mo_0 G7 J) (bk_Mo_Mo_0 G7 J v10.2 J) rfl rfl rfl kc_X6_270 rfl rfl rfl rfl rfl (jat hM.2.1 29 rfl) (st := []) rfl ?_
    show JW X 0 0 58 [some (.ref 0), some (.int x1), some (.int x2), none, none, none] [.int v10.1] (hMo v10.2 J)
    obtain ⟨G11, e12, h⟩ := jlE h
    rw [e12]
    obtain ⟨g13, h⟩ := jg h
    refine JW.r hM 30 6 (pc2 := 66) (L2 := [some (.ref 0), some (.int x1), some (.int x2), some (.int v10.1), none, none]) (st2 := [.int (G11 13 x1.toNatClampNeg), .int v10.1]) (μ2 := (hMo G11 J)) rfl ⟨g13, trivial⟩ ?_
    refine js_icne (t := 73) hM.1 (jat hM.2.1 36 rfl) rfl (fun hc37 => ?_) (fun hc37 => ?_)
    · have h := (if_neg hc37).symm.trans h
      obtain ⟨g14, h⟩ := jg h
      refine JW.r hM 39 9 (pc2 := 85) (L2 := [some (.ref 0), some (.int x1), some (.int x2), some (.int v10.1), none, none]) (st2 := [.long (J 14 (((40 : Int32) * x1) + v10.1).toNatClampNeg), .ref 0]) (μ2 := (hMo G11 J)) rfl ⟨g14, trivial⟩ ?_
      obtain ⟨v16, hv15, h⟩ := jbd h
      refine JW.cV (v := some (.int v16.1)) hM (m_X6_whyTold (jVX X) hM.1.2.2.2.2.2.2.2.2.2.1 N G11 J (J 14 (((40 : Int32) * x1) + v10.1).toNatClampNeg) v16 hv15) (sb_Mo_Mo_0 G11 J) (bk_Mo_Mo_0 G11 J v16.2 J) rfl rfl rfl kc_X6_263 rfl rfl rfl rfl rfl (jat hM.2.1 48 rfl) (st := []) rfl ?_
      show JW X 0 0 88 [some (.ref 0), some (.int x1), some (.int x2), some (.int v10.1), none, none] [.int v16.1] (hMo v16.2 J)
      obtain ⟨G17, e18, h⟩ := jlE h
      rw [e18]
      refine JW.r hM 49 2 (pc2 := 91) (L2 := [some (.ref 0), some (.int x1), some (.int x2), some (.int v10.1), some (.int v16.1), none]) (st2 := [.ref 0]) (μ2 := (hMo G17 J)) rfl trivial ?_
      obtain ⟨v20, hv19, h⟩ := jbd h
      refine JW.cV (v := some (.int v20)) hM (m_X6_standMany (jVX X) hM.1.2.2.2.2.2.2.2.2.2.1 N G17 J v20 hv19) (sb_Mo_Mo_0 G17 J) (bi_Mo_Mo_0 G17 J) rfl rfl rfl kc_X6_215 rfl rfl rfl rfl rfl (jat hM.2.1 51 rfl) (st := []) rfl ?_
      show JW X 0 0 94 [some (.ref 0), some (.int x1), some (.int x2), some (.int v10.1), some (.int v16.1), none] [.int v20] (hMo G17 J)
      refine JW.r hM 52 5 (pc2 := 104) (L2 := [some (.ref 0), some (.int x1), some (.int x2), some (.int v10.1), some (.int v16.1), some (.int v20)]) (st2 := [.ref 1, .ref 7]) (μ2 := (hMo G17 J)) rfl trivial ?_
      obtain ⟨v22, hv21, h⟩ := jbd h
      refine JW.cS (v := none) hM (m_X6_copies (jVX X) hM.1.2.2.2.2.2.2.2.2.2.1 N (jv2 G17 7 1 1) v22 hv21) (sb_Mo_B264_7_1 G17 J) (bk_Mo_B264_7_1 G17 J v22) rfl rfl rfl kc_X6_179 rfl rfl rfl (jat hM.2.1 57 rfl) (st := []) rfl ?_
      show JW X 0 0 107 [some (.ref 0), some (.int x1), some (.int x2), some (.int v10.1), some (.int v16.1), some (.int v20)] [] (hMo (jp2 G17 7 1 1 1 v22) J)
      obtain ⟨G23, e24, h⟩ := jlE h
      rw [e24]
      refine JW.r hM 58 1 (pc2 := 108) (L2 := [some (.ref 0), some (.int x1), some (.int x2), some (.int v10.1), some (.int v16.1), some (.int v20)]) (st2 := [.int x2]) (μ2 := (hMo G23 J)) rfl trivial ?_
      refine js_ifne (t := 124) hM.1 (jat hM.2.1 59 rfl) rfl (fun hc27 => ?_) (fun hc27 => ?_)
      · have h := (if_neg hc27).symm.trans h
        refine JW.r hM 66 2 (pc2 := 126) (L2 := [some (.ref 0), some (.int x1), some (.int x2), some (.int v10.1), some (.int v16.1), some (.int v20)]) (st2 := [.int (1 : Int32), .int x2]) (μ2 := (hMo G23 J)) rfl trivial ?_
        refine js_icne (t := 134) hM.1 (jat hM.2.1 68 rfl) rfl (fun hc25 => ?_) (fun hc25 => ?_)
        · have h := (if_neg hc25).symm.trans h
          refine JW.r hM 71 1 (pc2 := 136) (L2 := [some (.ref 0), some (.int x1), some (.int x2), some (.int v10.1), some (.int v16.1), some (.int v20)]) (st2 := [.int v20]) (μ2 := (hMo G23 J)) rfl trivial ?_
          obtain rfl := Option.some.inj h
          exact js_iret hM.1 hp hM.2.2.2.2.2.2.2.1 (by rw [hM.2.2.2.2.2.1]; exact Nat.le_of_ble_eq_true rfl) (by rw [hM.2.2.2.2.2.2.1]; exact Nat.le_of_ble_eq_true rfl) (jat hM.2.1 72 rfl) hq
        · have h := (if_pos hc25).symm.trans h
          refine JW.r hM 69 2 (pc2 := 136) (L2 := [some (.ref 0), some (.int x1), some (.int x2), some (.int v10.1), some (.int v16.1), some (.int v20)]) (st2 := [.int v16.1]) (μ2 := (hMo G23 J)) rfl trivial ?_
          obtain rfl := Option.some.inj h
          exact js_iret hM.1 hp hM.2.2.2.2.2.2.2.1 (by rw [hM.2.2.2.2.2.1]; exact Nat.le_of_ble_eq_true rfl) (by rw [hM.2.2.2.2.2.2.1]; exact Nat.le_of_ble_eq_true rfl) (jat hM.2.1 72 rfl) hq
      · have h := (if_pos hc27).symm.trans h
        refine JW.r hM 60 1 (pc2 := 113) (L2 := [some (.ref 0), some (.int x1), some (.int x2), some (.int v10.1), some (.int v16.1), some (.int v20)]) (st2 := [.int v16.1]) (μ2 := (hMo G23 J)) rfl trivial ?_
        refine js_ifne (t := 120) hM.1 (jat hM.2.1 61 rfl) rfl (fun hc26 => ?_) (fun hc26 => ?_)
        · have h := (if_neg hc26).symm.trans h
          refine JW.r hM 64 2 (pc2 := 136) (L2 := [some (.ref 0), some (.int x1), some (.int x2), some (.int v10.1), some (.int v16.1), some (.int v20)]) (st2 := [.int v10.1]) (μ2 := (hMo G23 J)) rfl trivial ?_
          obtain rfl := Option.some.inj h
          exact js_iret hM.1 hp hM.2.2.2.2.2.2.2.1 (by rw [hM.2.2.2.2.2.1]; exact Nat.le_of_ble_eq_true rfl) (by rw [hM.2.2.2.2.2.2.1]; exact Nat.le_of_ble_eq_true rfl) (jat hM.2.1 72 rfl) hq
        · have h := (if_pos hc26).symm.trans h
          refine JW.r hM 62 2 (pc2 := 136) (L2 := [some (.ref 0), some (.int x1), some (.int x2), some (.int v10.1), some (.int v16.1), some (.int v20)]) (st2 := [.int (-1 : Int32)]) (μ2 := (hMo G23 J)) rfl trivial ?_
          obtain rfl := Option.some.inj h
          exact js_iret hM.1 hp hM.2.2.2.2.2.2.2.1 (by rw [hM.2.2.2.2.2.1]; exact Nat.le_of_ble_eq_true rfl) (by rw [hM.2.2.2.2.2.2.1]; exact Nat.le_of_ble_eq_true rfl) (jat hM.2.1 72 rfl) hq
    · have h := (if_pos hc37).symm.trans h
      refine JW.r hM 37 2 (pc2 := 88) (L2 := [some (.ref 0), some (.int x1), some (.int x2), some (.int v10.1), none, none]) (st2 := [.int (0 : Int32)]) (μ2 := (hMo G11 J)) rfl trivial ?_
      exact JW.mask [true, false, true, true, false, false] (t_X6_judge_b88 hM hp N J G11 x2 v10.1 (0 : Int32) h hq)
  · have h := (if_neg hc38).symm.trans h
    refine JW.r hM 20 1 (pc2 := 41) (L2 := [some (.ref 0), some (.int x1), some (.int x2), none, none, none]) (st2 := [.int (0 : Int32)]) (μ2 := (hMo G J)) rfl trivial ?_
    obtain rfl := Option.some.inj h
    exact js_iret hM.1 hp hM.2.2.2.2.2.2.2.1 (by rw [hM.2.2.2.2.2.1]; exact Nat.le_of_ble_eq_true rfl) (by rw [hM.2.2.2.2.2.2.1]; exact Nat.le_of_ble_eq_true rfl) (jat hM.2.1 21 rfl) hq
set_option maxHeartbeats 4000000 in
set_option maxRecDepth 100000 in
theorem t_X6_judge {X : jX} {po : Option Value → jH → Prop} {px : String → jH → Prop} {sf : Bool} {B9 : Nat} (hM : jMX X kX6_judge RX6 tbX6 6 ⟨7, 0, 0, 167⟩ (some .int) 16) (hp : jPost X sf B9 po px) (N : Nat) (G : Nat → Nat → Int32) (J : Nat → Nat → Int64) (p0 : Int32) (p1 : Int32) {res : Int32 × (Nat → Nat → Int32)} (h : p_X6_judge N G J p0 p1 = some res) (hq : po (some (.int res.1)) (hMo res.2 J)) : JW X 0 0 0 [some (.ref 0), some (.int p0), some (.int p1), none, none, none] [] (hMo G J) := by
  unfold p_X6_judge at h
  refine JW.r hM 0 3 (pc2 := 3) (L2 := [some (.ref 0), some (.int p0), some (.int p1), none, none, none]) (st2 := [.int p0, .ref 0, .ref 0]) (μ2 := (hMo G J)) rfl trivial ?_
  obtain ⟨v2, hv1, h⟩ := jbd h
  refine JW.cV (v := some (.int v2)) hM (m_X6_trayFault (jVX X) hM.1.2.2.2.2.2.2.2.2.2.1 N G J p0 v2 hv1) (sb_Mo_Mo_0 G J) (bi_Mo_Mo_0 G J) rfl rfl rfl kc_X6_267 rfl rfl rfl rfl rfl (jat hM.2.1 3 rfl) (st := [.ref 0]) rfl ?_
  show JW X 0 0 6 [some (.ref 0), some (.int p0), some (.int p1), none, none, none] [.int v2, .ref 0] (hMo G J)
  obtain ⟨G3, e4, h⟩ := jlE h
  refine JW.r hM 4 1 (pc2 := 9) (L2 := [some (.ref 0), some (.int p0), some (.int p1), none, none, none]) (st2 := []) (μ2 := (hMo (jup G 0 5 v2) J)) rfl trivial ?_
  rw [e4]
  refine JW.r hM 5 2 (pc2 := 13) (L2 := [some (.ref 0), some (.int p0), some (.int p1), none, none, none]) (st2 := [.int (G3 0 5)]) (μ2 := (hMo G3 J)) rfl trivial ?_
  refine js_ifne (t := 33) hM.1 (jat hM.2.1 7 rfl) rfl (fun hc44 => ?_) (fun hc44 => ?_)
  · have h := (if_neg hc44).symm.trans h
    exact t_X6_judge_b33 hM hp N J G3 p0 p1 h hq
  · have h := (if_pos hc44).symm.trans h
    refine JW.r hM 8 4 (pc2 := 22) (L2 := [some (.ref 0), some (.int p0), some (.int p1), none, none, none]) (st2 := [.long (2 : Int64), .long (0 : Int64), .long (p1.toInt64)]) (μ2 := (hMo G3 J)) rfl trivial ?_
    obtain ⟨v40, hv39, h⟩ := jbd h
    refine JW.cS (v := some (.int v40)) hM (m_X6_within (jVX X) hM.1.2.2.2.2.2.2.2.2.2.1 N (p1.toInt64) (0 : Int64) (2 : Int64) v40 hv39) (sb_Mo_E_ G3 J) (bi_Mo_E_ G3 J) rfl rfl rfl kc_X6_122 rfl rfl rfl (jat hM.2.1 12 rfl) (st := []) rfl ?_
    show JW X 0 0 25 [some (.ref 0), some (.int p0), some (.int p1), none, none, none] [.int v40] (hMo G3 J)
    refine js_ifne (t := 33) hM.1 (jat hM.2.1 13 rfl) rfl (fun hc43 => ?_) (fun hc43 => ?_)
    · have h := (if_neg hc43).symm.trans h
      exact t_X6_judge_b33 hM hp N J G3 p0 p1 h hq
    · have h := (if_pos hc43).symm.trans h
      obtain ⟨G41, e42, h⟩ := jlE h
      refine JW.r hM 14 3 (pc2 := 33) (L2 := [some (.ref 0), some (.int p0), some (.int p1), none, none, none]) (st2 := []) (μ2 := (hMo (jup G3 0 5 (3 : Int32)) J)) rfl trivial ?_
      rw [e42]
      exact t_X6_judge_b33 hM hp N J G41 p0 p1 h hq
theorem m_X6_judge (V : jV) (hV : V.1.stackTraces = false) (N : Nat) (G : Nat → Nat → Int32) (J : Nat → Nat → Int64) (p0 : Int32) (p1 : Int32) (v : Int32 × (Nat → Nat → Int32)) (h : p_X6_judge N G J p0 p1 = some v) : jMet V yX6_judge (jws yX6_judge cX6_judge 6 (some .int)) ⟨7, 0, 0, 167⟩ true 1 [.ref 0, .int p0, .int p1] (hMo G J) (fun o ν => o = some (.int v.1) ∧ ν = (hMo v.2 J)) (fun _ _ => False) := by
  refine jmk (tb := tbX6) (C := kX6_judge) hV rfl (by decide) tbX6_ok rfl kX6_judge_ok rfl ?_
  intro X hM _ hp _
  exact t_X6_judge hM hp N G J p0 p1 h ⟨rfl, rfl⟩
def p_X6_perform (N : Nat) (G : Nat → Nat → Int32) (J : Nat → Nat → Int64) (p0 : Int32) : Option (Int32 × (Nat → Nat → Int32)) :=
  (p_X6_trayFault N G J p0).bind (fun v2 => jlt (jup G 0 5 v2) fun G3 => if (G3 0 5) ≤ 0 then ((p_X6_goesBy N G3 J p0).bind (fun v6 => jlt v6.2 fun G7 => some (v6.1, G7))) else (some ((0 : Int32), G3)))
set_option maxHeartbeats 4000000 in
set_option maxRecDepth 100000 in
theorem t_X6_perform {X : jX} {po : Option Value → jH → Prop} {px : String → jH → Prop} {sf : Bool} {B9 : Nat} (hM : jMX X kX6_perform RX6 tbX6 2 ⟨7, 0, 0, 167⟩ (some .int) 16) (hp : jPost X sf B9 po px) (N : Nat) (G : Nat → Nat → Int32) (J : Nat → Nat → Int64) (p0 : Int32) {res : Int32 × (Nat → Nat → Int32)} (h : p_X6_perform N G J p0 = some res) (hq : po (some (.int res.1)) (hMo res.2 J)) : JW X 0 0 0 [some (.ref 0), some (.int p0)] [] (hMo G J) := by
  unfold p_X6_perform at h
  refine JW.r hM 0 3 (pc2 := 3) (L2 := [some (.ref 0), some (.int p0)]) (st2 := [.int p0, .ref 0, .ref 0]) (μ2 := (hMo G J)) rfl trivial ?_
  obtain ⟨v2, hv1, h⟩ := jbd h
  refine JW.cV (v := some (.int v2)) hM (m_X6_trayFault (jVX X) hM.1.2.2.2.2.2.2.2.2.2.1 N G J p0 v2 hv1) (sb_Mo_Mo_0 G J) (bi_Mo_Mo_0 G J) rfl rfl rfl kc_X6_267 rfl rfl rfl rfl rfl (jat hM.2.1 3 rfl) (st := [.ref 0]) rfl ?_
  show JW X 0 0 6 [some (.ref 0), some (.int p0)] [.int v2, .ref 0] (hMo G J)
  obtain ⟨G3, e4, h⟩ := jlE h
  refine JW.r hM 4 1 (pc2 := 9) (L2 := [some (.ref 0), some (.int p0)]) (st2 := []) (μ2 := (hMo (jup G 0 5 v2) J)) rfl trivial ?_
  rw [e4]
  refine JW.r hM 5 2 (pc2 := 13) (L2 := [some (.ref 0), some (.int p0)]) (st2 := [.int (G3 0 5)]) (μ2 := (hMo G3 J)) rfl trivial ?_
  refine js_ifle (t := 20) hM.1 (jat hM.2.1 7 rfl) rfl (fun hc9 => ?_) (fun hc9 => ?_)
  · have h := (if_pos hc9).symm.trans h
    refine JW.r hM 10 2 (pc2 := 22) (L2 := [some (.ref 0), some (.int p0)]) (st2 := [.int p0, .ref 0]) (μ2 := (hMo G3 J)) rfl trivial ?_
    obtain ⟨v6, hv5, h⟩ := jbd h
    refine JW.cV (v := some (.int v6.1)) hM (m_X6_goesBy (jVX X) hM.1.2.2.2.2.2.2.2.2.2.1 N G3 J p0 v6 hv5) (sb_Mo_Mo_0 G3 J) (bk_Mo_Mo_0 G3 J v6.2 J) rfl rfl rfl kc_X6_270 rfl rfl rfl rfl rfl (jat hM.2.1 12 rfl) (st := []) rfl ?_
    show JW X 0 0 25 [some (.ref 0), some (.int p0)] [.int v6.1] (hMo v6.2 J)
    obtain ⟨G7, e8, h⟩ := jlE h
    rw [e8]
    obtain rfl := Option.some.inj h
    exact js_iret hM.1 hp hM.2.2.2.2.2.2.2.1 (by rw [hM.2.2.2.2.2.1]; exact Nat.le_of_ble_eq_true rfl) (by rw [hM.2.2.2.2.2.2.1]; exact Nat.le_of_ble_eq_true rfl) (jat hM.2.1 13 rfl) hq
  · have h := (if_neg hc9).symm.trans h
    refine JW.r hM 8 2 (pc2 := 25) (L2 := [some (.ref 0), some (.int p0)]) (st2 := [.int (0 : Int32)]) (μ2 := (hMo G3 J)) rfl trivial ?_
    obtain rfl := Option.some.inj h
    exact js_iret hM.1 hp hM.2.2.2.2.2.2.2.1 (by rw [hM.2.2.2.2.2.1]; exact Nat.le_of_ble_eq_true rfl) (by rw [hM.2.2.2.2.2.2.1]; exact Nat.le_of_ble_eq_true rfl) (jat hM.2.1 13 rfl) hq
theorem m_X6_perform (V : jV) (hV : V.1.stackTraces = false) (N : Nat) (G : Nat → Nat → Int32) (J : Nat → Nat → Int64) (p0 : Int32) (v : Int32 × (Nat → Nat → Int32)) (h : p_X6_perform N G J p0 = some v) : jMet V yX6_perform (jws yX6_perform cX6_perform 2 (some .int)) ⟨7, 0, 0, 167⟩ true 1 [.ref 0, .int p0] (hMo G J) (fun o ν => o = some (.int v.1) ∧ ν = (hMo v.2 J)) (fun _ _ => False) := by
  refine jmk (tb := tbX6) (C := kX6_perform) hV rfl (by decide) tbX6_ok rfl kX6_perform_ok rfl ?_
  intro X hM _ hp _
  exact t_X6_perform hM hp N G J p0 h ⟨rfl, rfl⟩
def p_X6_draw (N : Nat) (G : Nat → Nat → Int32) (J : Nat → Nat → Int64) (p0 : Int32) : Option (Int32 × (Nat → Nat → Int32)) :=
  jlt (jup G 0 18 (((1103515245 : Int32) * (G 0 18)) + (12345 : Int32))) fun G1 => if p0 = 0 then none else some ((((G1 0 18).toUInt32 >>> ((16 : Int32).toUInt32 &&& Int32.toUInt32 31)).toInt32 - ((G1 0 18).toUInt32 >>> ((16 : Int32).toUInt32 &&& Int32.toUInt32 31)).toInt32 / p0 * p0), G1)
set_option maxHeartbeats 4000000 in
set_option maxRecDepth 100000 in
theorem t_X6_draw {X : jX} {po : Option Value → jH → Prop} {px : String → jH → Prop} {sf : Bool} {B9 : Nat} (hM : jMX X kX6_draw RX6 tbX6 2 ⟨0, 0, 0, 0⟩ (some .int) 16) (hp : jPost X sf B9 po px) (N : Nat) (G : Nat → Nat → Int32) (J : Nat → Nat → Int64) (p0 : Int32) {res : Int32 × (Nat → Nat → Int32)} (h : p_X6_draw N G J p0 = some res) (hq : po (some (.int res.1)) (hMo res.2 J)) : JW X 0 0 0 [some (.ref 0), some (.int p0)] [] (hMo G J) := by
  unfold p_X6_draw at h
  obtain ⟨G1, e2, h⟩ := jlE h
  refine JW.r hM 0 8 (pc2 := 16) (L2 := [some (.ref 0), some (.int p0)]) (st2 := []) (μ2 := (hMo (jup G 0 18 (((1103515245 : Int32) * (G 0 18)) + (12345 : Int32))) J)) rfl trivial ?_
  rw [e2]
  obtain ⟨g3, h⟩ := jgn h
  refine JW.r hM 8 6 (pc2 := 25) (L2 := [some (.ref 0), some (.int p0)]) (st2 := [.int (((G1 0 18).toUInt32 >>> ((16 : Int32).toUInt32 &&& Int32.toUInt32 31)).toInt32 - ((G1 0 18).toUInt32 >>> ((16 : Int32).toUInt32 &&& Int32.toUInt32 31)).toInt32 / p0 * p0)]) (μ2 := (hMo G1 J)) rfl ⟨g3, trivial⟩ ?_
  obtain rfl := Option.some.inj h
  exact js_iret hM.1 hp hM.2.2.2.2.2.2.2.1 (by rw [hM.2.2.2.2.2.1]; exact Nat.le_of_ble_eq_true rfl) (by rw [hM.2.2.2.2.2.2.1]; exact Nat.le_of_ble_eq_true rfl) (jat hM.2.1 14 rfl) hq
theorem m_X6_draw (V : jV) (hV : V.1.stackTraces = false) (N : Nat) (G : Nat → Nat → Int32) (J : Nat → Nat → Int64) (p0 : Int32) (v : Int32 × (Nat → Nat → Int32)) (h : p_X6_draw N G J p0 = some v) : jMet V yX6_draw (jws yX6_draw cX6_draw 2 (some .int)) ⟨0, 0, 0, 0⟩ true 1 [.ref 0, .int p0] (hMo G J) (fun o ν => o = some (.int v.1) ∧ ν = (hMo v.2 J)) (fun _ _ => False) := by
  refine jmk (tb := tbX6) (C := kX6_draw) hV rfl (by decide) tbX6_ok rfl kX6_draw_ok rfl ?_
  intro X hM _ hp _
  exact t_X6_draw hM hp N G J p0 h ⟨rfl, rfl⟩
def p_X6_drawn_b99 (N : Nat) (J : Nat → Nat → Int64) (G : Nat → Nat → Int32) (x1 : Int32) (s0 : Int32) (s1 : Int32) : Option (Int32 × (Nat → Nat → Int32)) :=
  (p_X6_of N G J s1 s0).bind (fun v14 => (p_X6_whyNot N G J (x1.toInt64) v14).bind (fun v16 => jlt v16.2 fun G17 => if v16.1 = 0 then ((p_X6_undoes N G17 J x1 v14).bind (fun v20 => jlt v20.2 fun G21 => some ((1 : Int32), G21))) else (some ((0 : Int32), G17))))
def p_X6_drawn (N : Nat) (G : Nat → Nat → Int32) (J : Nat → Nat → Int64) : Option (Int32 × (Nat → Nat → Int32)) :=
  (p_X6_draw N G J (3 : Int32)).bind (fun v2 => jlt v2.2 fun G3 => if (2 : Int32) ≤ v2.1 then (if (G3 1 7) = 0 then (some ((0 : Int32), G3)) else ((p_X6_draw N G3 J (G3 1 7)).bind (fun v6 => jlt v6.2 fun G7 => (p_X6_draw N G7 J (2 : Int32)).bind (fun v10 => jlt v10.2 fun G11 => if v10.1 = 0 then (p_X6_drawn_b99 N J G11 v6.1 (1 : Int32) v6.1) else (p_X6_drawn_b99 N J G11 v6.1 (2 : Int32) v6.1))))) else ((p_X6_draw N G3 J (G3 1 2)).bind (fun v27 => jlt v27.2 fun G28 => (p_X6_draw N G28 J (G28 1 1)).bind (fun v31 => jlt v31.2 fun G32 => (p_X6_draw N G32 J (100 : Int32)).bind (fun v35 => jlt v35.2 fun G36 => (p_X6_whyNoSale N G36 J v27.1 v31.1 v35.1).bind (fun v39 => if v39 = 0 then ((p_X6_sells N G36 J v27.1 v31.1 v35.1).bind (fun v41 => jlt v41.2 fun G42 => some ((1 : Int32), G42))) else (some ((0 : Int32), G36))))))))
set_option maxHeartbeats 4000000 in
set_option maxRecDepth 100000 in
theorem t_X6_drawn_b99 {X : jX} {po : Option Value → jH → Prop} {px : String → jH → Prop} {sf : Bool} {B9 : Nat} (hM : jMX X kX6_drawn RX6 tbX6 4 ⟨5, 0, 0, 122⟩ (some .boolean) 16) (hp : jPost X sf B9 po px) (N : Nat) (J : Nat → Nat → Int64) {res : Int32 × (Nat → Nat → Int32)} (G : Nat → Nat → Int32) (x1 : Int32) (s0 : Int32) (s1 : Int32) (h : p_X6_drawn_b99 N J G x1 s0 s1 = some res) (hq : po (some (.int res.1)) (hMo res.2 J)) : JW X 0 0 99 [some (.ref 0), some (.int x1), none, none] [.int s0, .int s1, .ref 0] (hMo G J) := by
  unfold p_X6_drawn_b99 at h
  obtain ⟨v14, hv13, h⟩ := jbd h
  refine JW.cV (v := some (.int v14)) hM (m_X6_of (jVX X) hM.1.2.2.2.2.2.2.2.2.2.1 N G J s1 s0 v14 hv13) (sb_Mo_Mo_0 G J) (bi_Mo_Mo_0 G J) rfl rfl rfl kc_X6_208 rfl rfl rfl rfl rfl (jat hM.2.1 62 rfl) (st := []) rfl ?_
  show JW X 0 0 102 [some (.ref 0), some (.int x1), none, none] [.int v14] (hMo G J)
  refine JW.r hM 63 5 (pc2 := 107) (L2 := [some (.ref 0), some (.int x1), some (.int v14), none]) (st2 := [.int v14, .long (x1.toInt64), .ref 0]) (μ2 := (hMo G J)) rfl trivial ?_
  obtain ⟨v16, hv15, h⟩ := jbd h
  refine JW.cV (v := some (.int v16.1)) hM (m_X6_whyNot (jVX X) hM.1.2.2.2.2.2.2.2.2.2.1 N G J (x1.toInt64) v14 v16 hv15) (sb_Mo_Mo_0 G J) (bk_Mo_Mo_0 G J v16.2 J) rfl rfl rfl kc_X6_253 rfl rfl rfl rfl rfl (jat hM.2.1 68 rfl) (st := []) rfl ?_
  show JW X 0 0 110 [some (.ref 0), some (.int x1), some (.int v14), none] [.int v16.1] (hMo v16.2 J)
  obtain ⟨G17, e18, h⟩ := jlE h
  rw [e18]
  refine js_ifeq (t := 115) hM.1 (jat hM.2.1 69 rfl) rfl (fun hc23 => ?_) (fun hc23 => ?_)
  · have h := (if_pos hc23).symm.trans h
    refine JW.r hM 72 3 (pc2 := 118) (L2 := [some (.ref 0), some (.int x1), some (.int v14), none]) (st2 := [.int v14, .int x1, .ref 0]) (μ2 := (hMo G17 J)) rfl trivial ?_
    obtain ⟨v20, hv19, h⟩ := jbd h
    refine JW.cV (v := some (.int v20.1)) hM (m_X6_undoes (jVX X) hM.1.2.2.2.2.2.2.2.2.2.1 N G17 J x1 v14 v20 hv19) (sb_Mo_Mo_0 G17 J) (bk_Mo_Mo_0 G17 J v20.2 J) rfl rfl rfl kc_X6_250 rfl rfl rfl rfl rfl (jat hM.2.1 75 rfl) (st := []) rfl ?_
    show JW X 0 0 121 [some (.ref 0), some (.int x1), some (.int v14), none] [.int v20.1] (hMo v20.2 J)
    obtain ⟨G21, e22, h⟩ := jlE h
    rw [e22]
    refine JW.r hM 76 2 (pc2 := 123) (L2 := [some (.ref 0), some (.int x1), some (.int v14), none]) (st2 := [.int (1 : Int32)]) (μ2 := (hMo G21 J)) rfl trivial ?_
    obtain rfl := Option.some.inj h
    exact js_zret hM.1 hp hM.2.2.2.2.2.2.2.1 rfl (by rw [hM.2.2.2.2.2.1]; exact Nat.le_of_ble_eq_true rfl) (by rw [hM.2.2.2.2.2.2.1]; exact Nat.le_of_ble_eq_true rfl) (jat hM.2.1 78 rfl) hq
  · have h := (if_neg hc23).symm.trans h
    refine JW.r hM 70 1 (pc2 := 114) (L2 := [some (.ref 0), some (.int x1), some (.int v14), none]) (st2 := [.int (0 : Int32)]) (μ2 := (hMo G17 J)) rfl trivial ?_
    obtain rfl := Option.some.inj h
    exact js_zret hM.1 hp hM.2.2.2.2.2.2.2.1 rfl (by rw [hM.2.2.2.2.2.1]; exact Nat.le_of_ble_eq_true rfl) (by rw [hM.2.2.2.2.2.2.1]; exact Nat.le_of_ble_eq_true rfl) (jat hM.2.1 71 rfl) hq
set_option maxHeartbeats 4000000 in
set_option maxRecDepth 100000 in
theorem t_X6_drawn {X : jX} {po : Option Value → jH → Prop} {px : String → jH → Prop} {sf : Bool} {B9 : Nat} (hM : jMX X kX6_drawn RX6 tbX6 4 ⟨5, 0, 0, 122⟩ (some .boolean) 16) (hp : jPost X sf B9 po px) (N : Nat) (G : Nat → Nat → Int32) (J : Nat → Nat → Int64) {res : Int32 × (Nat → Nat → Int32)} (h : p_X6_drawn N G J = some res) (hq : po (some (.int res.1)) (hMo res.2 J)) : JW X 0 0 0 [some (.ref 0), none, none, none] [] (hMo G J) := by
  unfold p_X6_drawn at h
  refine JW.r hM 0 2 (pc2 := 2) (L2 := [some (.ref 0), none, none, none]) (st2 := [.int (3 : Int32), .ref 0]) (μ2 := (hMo G J)) rfl trivial ?_
  obtain ⟨v2, hv1, h⟩ := jbd h
  refine JW.cV (v := some (.int v2.1)) hM (m_X6_draw (jVX X) hM.1.2.2.2.2.2.2.2.2.2.1 N G J (3 : Int32) v2 hv1) (sb_Mo_Mo_0 G J) (bk_Mo_Mo_0 G J v2.2 J) rfl rfl rfl kc_X6_277 rfl rfl rfl rfl rfl (jat hM.2.1 2 rfl) (st := []) rfl ?_
  show JW X 0 0 5 [some (.ref 0), none, none, none] [.int v2.1] (hMo v2.2 J)
  obtain ⟨G3, e4, h⟩ := jlE h
  rw [e4]
  refine JW.r hM 3 1 (pc2 := 6) (L2 := [some (.ref 0), none, none, none]) (st2 := [.int (2 : Int32), .int v2.1]) (μ2 := (hMo G3 J)) rfl trivial ?_
  refine js_icge (t := 60) hM.1 (jat hM.2.1 4 rfl) rfl (fun hc45 => ?_) (fun hc45 => ?_)
  · have h := (if_pos hc45).symm.trans h
    refine JW.r hM 39 4 (pc2 := 67) (L2 := [some (.ref 0), none, none, none]) (st2 := [.int (G3 1 7)]) (μ2 := (hMo G3 J)) rfl ⟨rfl, trivial⟩ ?_
    refine js_ifne (t := 72) hM.1 (jat hM.2.1 43 rfl) rfl (fun hc25 => ?_) (fun hc25 => ?_)
    · have h := (if_neg hc25).symm.trans h
      refine JW.r hM 46 5 (pc2 := 80) (L2 := [some (.ref 0), none, none, none]) (st2 := [.int (G3 1 7), .ref 0]) (μ2 := (hMo G3 J)) rfl ⟨rfl, trivial⟩ ?_
      obtain ⟨v6, hv5, h⟩ := jbd h
      refine JW.cV (v := some (.int v6.1)) hM (m_X6_draw (jVX X) hM.1.2.2.2.2.2.2.2.2.2.1 N G3 J (G3 1 7) v6 hv5) (sb_Mo_Mo_0 G3 J) (bk_Mo_Mo_0 G3 J v6.2 J) rfl rfl rfl kc_X6_277 rfl rfl rfl rfl rfl (jat hM.2.1 51 rfl) (st := []) rfl ?_
      show JW X 0 0 83 [some (.ref 0), none, none, none] [.int v6.1] (hMo v6.2 J)
      obtain ⟨G7, e8, h⟩ := jlE h
      rw [e8]
      refine JW.r hM 52 5 (pc2 := 88) (L2 := [some (.ref 0), some (.int v6.1), none, none]) (st2 := [.int (2 : Int32), .ref 0, .int v6.1, .ref 0]) (μ2 := (hMo G7 J)) rfl trivial ?_
      obtain ⟨v10, hv9, h⟩ := jbd h
      refine JW.cV (v := some (.int v10.1)) hM (m_X6_draw (jVX X) hM.1.2.2.2.2.2.2.2.2.2.1 N G7 J (2 : Int32) v10 hv9) (sb_Mo_Mo_0 G7 J) (bk_Mo_Mo_0 G7 J v10.2 J) rfl rfl rfl kc_X6_277 rfl rfl rfl rfl rfl (jat hM.2.1 57 rfl) (st := [.int v6.1, .ref 0]) rfl ?_
      show JW X 0 0 91 [some (.ref 0), some (.int v6.1), none, none] [.int v10.1, .int v6.1, .ref 0] (hMo v10.2 J)
      obtain ⟨G11, e12, h⟩ := jlE h
      rw [e12]
      refine js_ifne (t := 98) hM.1 (jat hM.2.1 58 rfl) rfl (fun hc24 => ?_) (fun hc24 => ?_)
      · have h := (if_neg hc24).symm.trans h
        refine JW.r hM 61 1 (pc2 := 99) (L2 := [some (.ref 0), some (.int v6.1), none, none]) (st2 := [.int (2 : Int32), .int v6.1, .ref 0]) (μ2 := (hMo G11 J)) rfl trivial ?_
        exact t_X6_drawn_b99 hM hp N J G11 v6.1 (2 : Int32) v6.1 h hq
      · have h := (if_pos hc24).symm.trans h
        refine JW.r hM 59 2 (pc2 := 99) (L2 := [some (.ref 0), some (.int v6.1), none, none]) (st2 := [.int (1 : Int32), .int v6.1, .ref 0]) (μ2 := (hMo G11 J)) rfl trivial ?_
        exact t_X6_drawn_b99 hM hp N J G11 v6.1 (1 : Int32) v6.1 h hq
    · have h := (if_pos hc25).symm.trans h
      refine JW.r hM 44 1 (pc2 := 71) (L2 := [some (.ref 0), none, none, none]) (st2 := [.int (0 : Int32)]) (μ2 := (hMo G3 J)) rfl trivial ?_
      obtain rfl := Option.some.inj h
      exact js_zret hM.1 hp hM.2.2.2.2.2.2.2.1 rfl (by rw [hM.2.2.2.2.2.1]; exact Nat.le_of_ble_eq_true rfl) (by rw [hM.2.2.2.2.2.2.1]; exact Nat.le_of_ble_eq_true rfl) (jat hM.2.1 45 rfl) hq
  · have h := (if_neg hc45).symm.trans h
    refine JW.r hM 5 5 (pc2 := 16) (L2 := [some (.ref 0), none, none, none]) (st2 := [.int (G3 1 2), .ref 0]) (μ2 := (hMo G3 J)) rfl ⟨rfl, trivial⟩ ?_
    obtain ⟨v27, hv26, h⟩ := jbd h
    refine JW.cV (v := some (.int v27.1)) hM (m_X6_draw (jVX X) hM.1.2.2.2.2.2.2.2.2.2.1 N G3 J (G3 1 2) v27 hv26) (sb_Mo_Mo_0 G3 J) (bk_Mo_Mo_0 G3 J v27.2 J) rfl rfl rfl kc_X6_277 rfl rfl rfl rfl rfl (jat hM.2.1 10 rfl) (st := []) rfl ?_
    show JW X 0 0 19 [some (.ref 0), none, none, none] [.int v27.1] (hMo v27.2 J)
    obtain ⟨G28, e29, h⟩ := jlE h
    rw [e29]
    refine JW.r hM 11 6 (pc2 := 27) (L2 := [some (.ref 0), some (.int v27.1), none, none]) (st2 := [.int (G28 1 1), .ref 0]) (μ2 := (hMo G28 J)) rfl ⟨rfl, trivial⟩ ?_
    obtain ⟨v31, hv30, h⟩ := jbd h
    refine JW.cV (v := some (.int v31.1)) hM (m_X6_draw (jVX X) hM.1.2.2.2.2.2.2.2.2.2.1 N G28 J (G28 1 1) v31 hv30) (sb_Mo_Mo_0 G28 J) (bk_Mo_Mo_0 G28 J v31.2 J) rfl rfl rfl kc_X6_277 rfl rfl rfl rfl rfl (jat hM.2.1 17 rfl) (st := []) rfl ?_
    show JW X 0 0 30 [some (.ref 0), some (.int v27.1), none, none] [.int v31.1] (hMo v31.2 J)
    obtain ⟨G32, e33, h⟩ := jlE h
    rw [e33]
    refine JW.r hM 18 3 (pc2 := 34) (L2 := [some (.ref 0), some (.int v27.1), some (.int v31.1), none]) (st2 := [.int (100 : Int32), .ref 0]) (μ2 := (hMo G32 J)) rfl trivial ?_
    obtain ⟨v35, hv34, h⟩ := jbd h
    refine JW.cV (v := some (.int v35.1)) hM (m_X6_draw (jVX X) hM.1.2.2.2.2.2.2.2.2.2.1 N G32 J (100 : Int32) v35 hv34) (sb_Mo_Mo_0 G32 J) (bk_Mo_Mo_0 G32 J v35.2 J) rfl rfl rfl kc_X6_277 rfl rfl rfl rfl rfl (jat hM.2.1 21 rfl) (st := []) rfl ?_
    show JW X 0 0 37 [some (.ref 0), some (.int v27.1), some (.int v31.1), none] [.int v35.1] (hMo v35.2 J)
    obtain ⟨G36, e37, h⟩ := jlE h
    rw [e37]
    refine JW.r hM 22 5 (pc2 := 42) (L2 := [some (.ref 0), some (.int v27.1), some (.int v31.1), some (.int v35.1)]) (st2 := [.int v35.1, .int v31.1, .int v27.1, .ref 0]) (μ2 := (hMo G36 J)) rfl trivial ?_
    obtain ⟨v39, hv38, h⟩ := jbd h
    refine JW.cV (v := some (.int v39)) hM (m_X6_whyNoSale (jVX X) hM.1.2.2.2.2.2.2.2.2.2.1 N G36 J v27.1 v31.1 v35.1 v39 hv38) (sb_Mo_Mo_0 G36 J) (bi_Mo_Mo_0 G36 J) rfl rfl rfl kc_X6_220 rfl rfl rfl rfl rfl (jat hM.2.1 27 rfl) (st := []) rfl ?_
    show JW X 0 0 45 [some (.ref 0), some (.int v27.1), some (.int v31.1), some (.int v35.1)] [.int v39] (hMo G36 J)
    refine js_ifeq (t := 50) hM.1 (jat hM.2.1 28 rfl) rfl (fun hc44 => ?_) (fun hc44 => ?_)
    · have h := (if_pos hc44).symm.trans h
      refine JW.r hM 31 4 (pc2 := 54) (L2 := [some (.ref 0), some (.int v27.1), some (.int v31.1), some (.int v35.1)]) (st2 := [.int v35.1, .int v31.1, .int v27.1, .ref 0]) (μ2 := (hMo G36 J)) rfl trivial ?_
      obtain ⟨v41, hv40, h⟩ := jbd h
      refine JW.cV (v := some (.int v41.1)) hM (m_X6_sells (jVX X) hM.1.2.2.2.2.2.2.2.2.2.1 N G36 J v27.1 v31.1 v35.1 v41 hv40) (sb_Mo_Mo_0 G36 J) (bk_Mo_Mo_0 G36 J v41.2 J) rfl rfl rfl kc_X6_224 rfl rfl rfl rfl rfl (jat hM.2.1 35 rfl) (st := []) rfl ?_
      show JW X 0 0 57 [some (.ref 0), some (.int v27.1), some (.int v31.1), some (.int v35.1)] [.int v41.1] (hMo v41.2 J)
      obtain ⟨G42, e43, h⟩ := jlE h
      rw [e43]
      refine JW.r hM 36 2 (pc2 := 59) (L2 := [some (.ref 0), some (.int v27.1), some (.int v31.1), some (.int v35.1)]) (st2 := [.int (1 : Int32)]) (μ2 := (hMo G42 J)) rfl trivial ?_
      obtain rfl := Option.some.inj h
      exact js_zret hM.1 hp hM.2.2.2.2.2.2.2.1 rfl (by rw [hM.2.2.2.2.2.1]; exact Nat.le_of_ble_eq_true rfl) (by rw [hM.2.2.2.2.2.2.1]; exact Nat.le_of_ble_eq_true rfl) (jat hM.2.1 38 rfl) hq
    · have h := (if_neg hc44).symm.trans h
      refine JW.r hM 29 1 (pc2 := 49) (L2 := [some (.ref 0), some (.int v27.1), some (.int v31.1), some (.int v35.1)]) (st2 := [.int (0 : Int32)]) (μ2 := (hMo G36 J)) rfl trivial ?_
      obtain rfl := Option.some.inj h
      exact js_zret hM.1 hp hM.2.2.2.2.2.2.2.1 rfl (by rw [hM.2.2.2.2.2.1]; exact Nat.le_of_ble_eq_true rfl) (by rw [hM.2.2.2.2.2.2.1]; exact Nat.le_of_ble_eq_true rfl) (jat hM.2.1 30 rfl) hq
theorem m_X6_drawn (V : jV) (hV : V.1.stackTraces = false) (N : Nat) (G : Nat → Nat → Int32) (J : Nat → Nat → Int64) (v : Int32 × (Nat → Nat → Int32)) (h : p_X6_drawn N G J = some v) : jMet V yX6_drawn (jws yX6_drawn cX6_drawn 4 (some .boolean)) ⟨5, 0, 0, 122⟩ true 1 [.ref 0] (hMo G J) (fun o ν => o = some (.int v.1) ∧ ν = (hMo v.2 J)) (fun _ _ => False) := by
  refine jmk (tb := tbX6) (C := kX6_drawn) hV rfl (by decide) tbX6_ok rfl kX6_drawn_ok rfl ?_
  intro X hM _ hp _
  exact t_X6_drawn hM hp N G J h ⟨rfl, rfl⟩
def p_X6_day_b61 (N : Nat) (J : Nat → Nat → Int64) (rv33 : (Nat → Nat → Int32) → Int32 → Int32 → Int32 → Option (Int32 × (Nat → Nat → Int32))) (G : Nat → Nat → Int32) (x2 : Int32) (x4 : Int32) (s0 : Int32) (s1 : Int32) : Option (Int32 × (Nat → Nat → Int32)) :=
  rv33 G x2 (s1 + s0) (x4 + 1)
def p_X6_day_b33 (N : Nat) (J : Nat → Nat → Int64) : Nat → (Nat → Nat → Int32) → (Int32) → (Int32) → (Int32) → Option (Int32 × (Nat → Nat → Int32))
  | 0, _, _, _, _ => none
  | n + 1, G, x2, x3, x4 => if x2 ≤ x4 then (some (x3, G)) else (if (G 1 2) ≤ 0 then (some (x3, G)) else ((p_X6_drawn N G J).bind (fun v8 => jlt v8.2 fun G9 => if v8.1 = 0 then (p_X6_day_b61 N J (p_X6_day_b33 N J n) G9 x2 x4 (0 : Int32) x3) else (p_X6_day_b61 N J (p_X6_day_b33 N J n) G9 x2 x4 (1 : Int32) x3))))
def p_X6_day (N : Nat) (G : Nat → Nat → Int32) (J : Nat → Nat → Int64) (p0 : Int32) (p1 : Int32) : Option (Int32 × (Nat → Nat → Int32)) :=
  jlt (jup G 0 5 (0 : Int32)) fun G1 => (p_X6_within N (p1.toInt64) (1 : Int64) (40 : Int64)).bind (fun v4 => if v4 = 0 then ((p_X6_fails N G1 J (1 : Int32)).bind (fun v15 => jlt v15.2 fun G16 => some (v15.1, G16))) else (jlt (jup G1 0 18 p0) fun G5 => p_X6_day_b33 N J N G5 p1 (0 : Int32) (0 : Int32)))
set_option maxHeartbeats 4000000 in
set_option maxRecDepth 100000 in
theorem t_X6_day_b61 {X : jX} {po : Option Value → jH → Prop} {px : String → jH → Prop} {sf : Bool} {B9 : Nat} (hM : jMX X kX6_day RX6 tbX6 5 ⟨6, 0, 0, 145⟩ (some .int) 16) (hp : jPost X sf B9 po px) (N : Nat) (J : Nat → Nat → Int64) (rv33 : (Nat → Nat → Int32) → Int32 → Int32 → Int32 → Option (Int32 × (Nat → Nat → Int32))) {res : Int32 × (Nat → Nat → Int32)} (ih33 : ∀ (G : Nat → Nat → Int32) (x2 : Int32) (x3 : Int32) (x4 : Int32), rv33 G x2 x3 x4 = some res → JW X 0 0 33 [some (.ref 0), none, some (.int x2), some (.int x3), some (.int x4)] [] (hMo G J)) (G : Nat → Nat → Int32) (x2 : Int32) (x4 : Int32) (s0 : Int32) (s1 : Int32) (h : p_X6_day_b61 N J rv33 G x2 x4 s0 s1 = some res) (hq : po (some (.int res.1)) (hMo res.2 J)) : JW X 0 0 61 [some (.ref 0), none, some (.int x2), none, some (.int x4)] [.int s0, .int s1] (hMo G J) := by
  unfold p_X6_day_b61 at h
  refine JW.r hM 35 4 (pc2 := 33) (L2 := [some (.ref 0), none, some (.int x2), some (.int (s1 + s0)), some (.int (x4 + 1))]) (st2 := []) (μ2 := (hMo G J)) rfl trivial ?_
  exact ih33 G x2 (s1 + s0) (x4 + 1) h
set_option maxHeartbeats 4000000 in
set_option maxRecDepth 100000 in
theorem t_X6_day_b33 {X : jX} {po : Option Value → jH → Prop} {px : String → jH → Prop} {sf : Bool} {B9 : Nat} (hM : jMX X kX6_day RX6 tbX6 5 ⟨6, 0, 0, 145⟩ (some .int) 16) (hp : jPost X sf B9 po px) (N : Nat) (J : Nat → Nat → Int64) {res : Int32 × (Nat → Nat → Int32)} : ∀ (n : Nat) (G : Nat → Nat → Int32) (x2 : Int32) (x3 : Int32) (x4 : Int32) (h : p_X6_day_b33 N J n G x2 x3 x4 = some res) (hq : po (some (.int res.1)) (hMo res.2 J)), JW X 0 0 33 [some (.ref 0), none, some (.int x2), some (.int x3), some (.int x4)] [] (hMo G J) := by
  intro n
  induction n with
  | zero =>
    intro G x2 x3 x4 h hq
    cases (show (none : Option (Int32 × (Nat → Nat → Int32))) = some res from h)
  | succ n ih33 =>
    intro G x2 x3 x4 h hq
    have ih33 := fun G x2 x3 x4 h9 => ih33 G x2 x3 x4 h9 hq
    rw [p_X6_day_b33] at h
    refine JW.r hM 20 2 (pc2 := 36) (L2 := [some (.ref 0), none, some (.int x2), some (.int x3), some (.int x4)]) (st2 := [.int x2, .int x4]) (μ2 := (hMo G J)) rfl trivial ?_
    refine js_icge (t := 69) hM.1 (jat hM.2.1 22 rfl) rfl (fun hc13 => ?_) (fun hc13 => ?_)
    · have h := (if_pos hc13).symm.trans h
      refine JW.r hM 39 1 (pc2 := 70) (L2 := [some (.ref 0), none, some (.int x2), some (.int x3), some (.int x4)]) (st2 := [.int x3]) (μ2 := (hMo G J)) rfl trivial ?_
      obtain rfl := Option.some.inj h
      exact js_iret hM.1 hp hM.2.2.2.2.2.2.2.1 (by rw [hM.2.2.2.2.2.1]; exact Nat.le_of_ble_eq_true rfl) (by rw [hM.2.2.2.2.2.2.1]; exact Nat.le_of_ble_eq_true rfl) (jat hM.2.1 40 rfl) hq
    · have h := (if_neg hc13).symm.trans h
      refine JW.r hM 23 4 (pc2 := 45) (L2 := [some (.ref 0), none, some (.int x2), some (.int x3), some (.int x4)]) (st2 := [.int (G 1 2)]) (μ2 := (hMo G J)) rfl ⟨rfl, trivial⟩ ?_
      refine js_ifle (t := 69) hM.1 (jat hM.2.1 27 rfl) rfl (fun hc12 => ?_) (fun hc12 => ?_)
      · have h := (if_pos hc12).symm.trans h
        refine JW.r hM 39 1 (pc2 := 70) (L2 := [some (.ref 0), none, some (.int x2), some (.int x3), some (.int x4)]) (st2 := [.int x3]) (μ2 := (hMo G J)) rfl trivial ?_
        obtain rfl := Option.some.inj h
        exact js_iret hM.1 hp hM.2.2.2.2.2.2.2.1 (by rw [hM.2.2.2.2.2.1]; exact Nat.le_of_ble_eq_true rfl) (by rw [hM.2.2.2.2.2.2.1]; exact Nat.le_of_ble_eq_true rfl) (jat hM.2.1 40 rfl) hq
      · have h := (if_neg hc12).symm.trans h
        refine JW.r hM 28 2 (pc2 := 50) (L2 := [some (.ref 0), none, some (.int x2), some (.int x3), some (.int x4)]) (st2 := [.ref 0, .int x3]) (μ2 := (hMo G J)) rfl trivial ?_
        obtain ⟨v8, hv7, h⟩ := jbd h
        refine JW.cV (v := some (.int v8.1)) hM (m_X6_drawn (jVX X) hM.1.2.2.2.2.2.2.2.2.2.1 N G J v8 hv7) (sb_Mo_Mo_0 G J) (bk_Mo_Mo_0 G J v8.2 J) rfl rfl rfl kc_X6_282 rfl rfl rfl rfl rfl (jat hM.2.1 30 rfl) (st := [.int x3]) rfl ?_
        show JW X 0 0 53 [some (.ref 0), none, some (.int x2), some (.int x3), some (.int x4)] [.int v8.1, .int x3] (hMo v8.2 J)
        obtain ⟨G9, e10, h⟩ := jlE h
        rw [e10]
        refine js_ifeq (t := 60) hM.1 (jat hM.2.1 31 rfl) rfl (fun hc11 => ?_) (fun hc11 => ?_)
        · have h := (if_pos hc11).symm.trans h
          refine JW.r hM 34 1 (pc2 := 61) (L2 := [some (.ref 0), none, some (.int x2), some (.int x3), some (.int x4)]) (st2 := [.int (0 : Int32), .int x3]) (μ2 := (hMo G9 J)) rfl trivial ?_
          exact JW.mask [true, false, true, false, true] (t_X6_day_b61 hM hp N J (p_X6_day_b33 N J n) ih33 G9 x2 x4 (0 : Int32) x3 h hq)
        · have h := (if_neg hc11).symm.trans h
          refine JW.r hM 32 2 (pc2 := 61) (L2 := [some (.ref 0), none, some (.int x2), some (.int x3), some (.int x4)]) (st2 := [.int (1 : Int32), .int x3]) (μ2 := (hMo G9 J)) rfl trivial ?_
          exact JW.mask [true, false, true, false, true] (t_X6_day_b61 hM hp N J (p_X6_day_b33 N J n) ih33 G9 x2 x4 (1 : Int32) x3 h hq)
set_option maxHeartbeats 4000000 in
set_option maxRecDepth 100000 in
theorem t_X6_day {X : jX} {po : Option Value → jH → Prop} {px : String → jH → Prop} {sf : Bool} {B9 : Nat} (hM : jMX X kX6_day RX6 tbX6 5 ⟨6, 0, 0, 145⟩ (some .int) 16) (hp : jPost X sf B9 po px) (N : Nat) (G : Nat → Nat → Int32) (J : Nat → Nat → Int64) (p0 : Int32) (p1 : Int32) {res : Int32 × (Nat → Nat → Int32)} (h : p_X6_day N G J p0 p1 = some res) (hq : po (some (.int res.1)) (hMo res.2 J)) : JW X 0 0 0 [some (.ref 0), some (.int p0), some (.int p1), none, none] [] (hMo G J) := by
  unfold p_X6_day at h
  obtain ⟨G1, e2, h⟩ := jlE h
  refine JW.r hM 0 3 (pc2 := 5) (L2 := [some (.ref 0), some (.int p0), some (.int p1), none, none]) (st2 := []) (μ2 := (hMo (jup G 0 5 (0 : Int32)) J)) rfl trivial ?_
  rw [e2]
  refine JW.r hM 3 4 (pc2 := 11) (L2 := [some (.ref 0), some (.int p0), some (.int p1), none, none]) (st2 := [.long (40 : Int64), .long (1 : Int64), .long (p1.toInt64)]) (μ2 := (hMo G1 J)) rfl trivial ?_
  obtain ⟨v4, hv3, h⟩ := jbd h
  refine JW.cS (v := some (.int v4)) hM (m_X6_within (jVX X) hM.1.2.2.2.2.2.2.2.2.2.1 N (p1.toInt64) (1 : Int64) (40 : Int64) v4 hv3) (sb_Mo_E_ G1 J) (bi_Mo_E_ G1 J) rfl rfl rfl kc_X6_122 rfl rfl rfl (jat hM.2.1 7 rfl) (st := []) rfl ?_
  show JW X 0 0 14 [some (.ref 0), some (.int p0), some (.int p1), none, none] [.int v4] (hMo G1 J)
  refine js_ifne (t := 23) hM.1 (jat hM.2.1 8 rfl) rfl (fun hc18 => ?_) (fun hc18 => ?_)
  · have h := (if_neg hc18).symm.trans h
    obtain ⟨G5, e6, h⟩ := jlE h
    refine JW.r hM 13 3 (pc2 := 28) (L2 := [some (.ref 0), some (.int p0), some (.int p1), none, none]) (st2 := []) (μ2 := (hMo (jup G1 0 18 p0) J)) rfl trivial ?_
    rw [e6]
    refine JW.r hM 16 4 (pc2 := 33) (L2 := [some (.ref 0), some (.int p0), some (.int p1), some (.int (0 : Int32)), some (.int (0 : Int32))]) (st2 := []) (μ2 := (hMo G5 J)) rfl trivial ?_
    exact JW.mask [true, false, true, true, true] (t_X6_day_b33 hM hp N J N G5 p1 (0 : Int32) (0 : Int32) h hq)
  · have h := (if_pos hc18).symm.trans h
    refine JW.r hM 9 2 (pc2 := 19) (L2 := [some (.ref 0), some (.int p0), some (.int p1), none, none]) (st2 := [.int (1 : Int32), .ref 0]) (μ2 := (hMo G1 J)) rfl trivial ?_
    obtain ⟨v15, hv14, h⟩ := jbd h
    refine JW.cV (v := some (.int v15.1)) hM (m_X6_fails (jVX X) hM.1.2.2.2.2.2.2.2.2.2.1 N G1 J (1 : Int32) v15 hv14) (sb_Mo_Mo_0 G1 J) (bk_Mo_Mo_0 G1 J v15.2 J) rfl rfl rfl kc_X6_170 rfl rfl rfl rfl rfl (jat hM.2.1 11 rfl) (st := []) rfl ?_
    show JW X 0 0 22 [some (.ref 0), some (.int p0), some (.int p1), none, none] [.int v15.1] (hMo v15.2 J)
    obtain ⟨G16, e17, h⟩ := jlE h
    rw [e17]
    obtain rfl := Option.some.inj h
    exact js_iret hM.1 hp hM.2.2.2.2.2.2.2.1 (by rw [hM.2.2.2.2.2.1]; exact Nat.le_of_ble_eq_true rfl) (by rw [hM.2.2.2.2.2.2.1]; exact Nat.le_of_ble_eq_true rfl) (jat hM.2.1 12 rfl) hq
theorem m_X6_day (V : jV) (hV : V.1.stackTraces = false) (N : Nat) (G : Nat → Nat → Int32) (J : Nat → Nat → Int64) (p0 : Int32) (p1 : Int32) (v : Int32 × (Nat → Nat → Int32)) (h : p_X6_day N G J p0 p1 = some v) : jMet V yX6_day (jws yX6_day cX6_day 5 (some .int)) ⟨6, 0, 0, 145⟩ true 1 [.ref 0, .int p0, .int p1] (hMo G J) (fun o ν => o = some (.int v.1) ∧ ν = (hMo v.2 J)) (fun _ _ => False) := by
  refine jmk (tb := tbX6) (C := kX6_day) hV rfl (by decide) tbX6_ok rfl kX6_day_ok rfl ?_
  intro X hM _ hp _
  exact t_X6_day hM hp N G J p0 p1 h ⟨rfl, rfl⟩
def p_X6_isOpen (N : Nat) (G : Nat → Nat → Int32) (J : Nat → Nat → Int64) (p0 : Int32) : Option (Int32) :=
  (p_X6_of N G J p0 (4 : Int32)).bind (fun v2 => if v2 = (1 : Int32) then ((p_X6_of N G J p0 (0 : Int32)).bind (fun v4 => (p_X6_isEaten N G J v4).bind (fun v6 => if v6 = 0 then ((p_X6_hasRung N G J).bind (fun v8 => if v8 = 0 then (some (1 : Int32)) else (some (0 : Int32)))) else (some (0 : Int32))))) else (some (0 : Int32)))
set_option maxHeartbeats 4000000 in
set_option maxRecDepth 100000 in
theorem t_X6_isOpen {X : jX} {po : Option Value → jH → Prop} {px : String → jH → Prop} {sf : Bool} {B9 : Nat} (hM : jMX X kX6_isOpen RX6 tbX6 2 ⟨1, 0, 0, 22⟩ (some .boolean) 16) (hp : jPost X sf B9 po px) (N : Nat) (G : Nat → Nat → Int32) (J : Nat → Nat → Int64) (p0 : Int32) {res : Int32} (h : p_X6_isOpen N G J p0 = some res) (hq : po (some (.int res)) (hMo G J)) : JW X 0 0 0 [some (.ref 0), some (.int p0)] [] (hMo G J) := by
  unfold p_X6_isOpen at h
  refine JW.r hM 0 3 (pc2 := 3) (L2 := [some (.ref 0), some (.int p0)]) (st2 := [.int (4 : Int32), .int p0, .ref 0]) (μ2 := (hMo G J)) rfl trivial ?_
  obtain ⟨v2, hv1, h⟩ := jbd h
  refine JW.cV (v := some (.int v2)) hM (m_X6_of (jVX X) hM.1.2.2.2.2.2.2.2.2.2.1 N G J p0 (4 : Int32) v2 hv1) (sb_Mo_Mo_0 G J) (bi_Mo_Mo_0 G J) rfl rfl rfl kc_X6_208 rfl rfl rfl rfl rfl (jat hM.2.1 3 rfl) (st := []) rfl ?_
  show JW X 0 0 6 [some (.ref 0), some (.int p0)] [.int v2] (hMo G J)
  refine JW.r hM 4 1 (pc2 := 7) (L2 := [some (.ref 0), some (.int p0)]) (st2 := [.int (1 : Int32), .int v2]) (μ2 := (hMo G J)) rfl trivial ?_
  refine js_icne (t := 34) hM.1 (jat hM.2.1 5 rfl) rfl (fun hc11 => ?_) (fun hc11 => ?_)
  · have h := (if_neg hc11).symm.trans h
    refine JW.r hM 18 1 (pc2 := 35) (L2 := [some (.ref 0), some (.int p0)]) (st2 := [.int (0 : Int32)]) (μ2 := (hMo G J)) rfl trivial ?_
    obtain rfl := Option.some.inj h
    exact js_zret hM.1 hp hM.2.2.2.2.2.2.2.1 rfl (by rw [hM.2.2.2.2.2.1]; exact Nat.le_of_ble_eq_true rfl) (by rw [hM.2.2.2.2.2.2.1]; exact Nat.le_of_ble_eq_true rfl) (jat hM.2.1 19 rfl) hq
  · have h := (if_pos hc11).symm.trans h
    refine JW.r hM 6 4 (pc2 := 14) (L2 := [some (.ref 0), some (.int p0)]) (st2 := [.int (0 : Int32), .int p0, .ref 0, .ref 0]) (μ2 := (hMo G J)) rfl trivial ?_
    obtain ⟨v4, hv3, h⟩ := jbd h
    refine JW.cV (v := some (.int v4)) hM (m_X6_of (jVX X) hM.1.2.2.2.2.2.2.2.2.2.1 N G J p0 (0 : Int32) v4 hv3) (sb_Mo_Mo_0 G J) (bi_Mo_Mo_0 G J) rfl rfl rfl kc_X6_208 rfl rfl rfl rfl rfl (jat hM.2.1 10 rfl) (st := [.ref 0]) rfl ?_
    show JW X 0 0 17 [some (.ref 0), some (.int p0)] [.int v4, .ref 0] (hMo G J)
    obtain ⟨v6, hv5, h⟩ := jbd h
    refine JW.cV (v := some (.int v6)) hM (m_X6_isEaten (jVX X) hM.1.2.2.2.2.2.2.2.2.2.1 N G J v4 v6 hv5) (sb_Mo_Mo_0 G J) (bi_Mo_Mo_0 G J) rfl rfl rfl kc_X6_200 rfl rfl rfl rfl rfl (jat hM.2.1 11 rfl) (st := []) rfl ?_
    show JW X 0 0 20 [some (.ref 0), some (.int p0)] [.int v6] (hMo G J)
    refine js_ifne (t := 34) hM.1 (jat hM.2.1 12 rfl) rfl (fun hc10 => ?_) (fun hc10 => ?_)
    · have h := (if_neg hc10).symm.trans h
      refine JW.r hM 18 1 (pc2 := 35) (L2 := [some (.ref 0), some (.int p0)]) (st2 := [.int (0 : Int32)]) (μ2 := (hMo G J)) rfl trivial ?_
      obtain rfl := Option.some.inj h
      exact js_zret hM.1 hp hM.2.2.2.2.2.2.2.1 rfl (by rw [hM.2.2.2.2.2.1]; exact Nat.le_of_ble_eq_true rfl) (by rw [hM.2.2.2.2.2.2.1]; exact Nat.le_of_ble_eq_true rfl) (jat hM.2.1 19 rfl) hq
    · have h := (if_pos hc10).symm.trans h
      refine JW.r hM 13 1 (pc2 := 24) (L2 := [some (.ref 0), some (.int p0)]) (st2 := [.ref 0]) (μ2 := (hMo G J)) rfl trivial ?_
      obtain ⟨v8, hv7, h⟩ := jbd h
      refine JW.cV (v := some (.int v8)) hM (m_X6_hasRung (jVX X) hM.1.2.2.2.2.2.2.2.2.2.1 N G J v8 hv7) (sb_Mo_Mo_0 G J) (bi_Mo_Mo_0 G J) rfl rfl rfl kc_X6_211 rfl rfl rfl rfl rfl (jat hM.2.1 14 rfl) (st := []) rfl ?_
      show JW X 0 0 27 [some (.ref 0), some (.int p0)] [.int v8] (hMo G J)
      refine js_ifne (t := 34) hM.1 (jat hM.2.1 15 rfl) rfl (fun hc9 => ?_) (fun hc9 => ?_)
      · have h := (if_neg hc9).symm.trans h
        refine JW.r hM 18 1 (pc2 := 35) (L2 := [some (.ref 0), some (.int p0)]) (st2 := [.int (0 : Int32)]) (μ2 := (hMo G J)) rfl trivial ?_
        obtain rfl := Option.some.inj h
        exact js_zret hM.1 hp hM.2.2.2.2.2.2.2.1 rfl (by rw [hM.2.2.2.2.2.1]; exact Nat.le_of_ble_eq_true rfl) (by rw [hM.2.2.2.2.2.2.1]; exact Nat.le_of_ble_eq_true rfl) (jat hM.2.1 19 rfl) hq
      · have h := (if_pos hc9).symm.trans h
        refine JW.r hM 16 2 (pc2 := 35) (L2 := [some (.ref 0), some (.int p0)]) (st2 := [.int (1 : Int32)]) (μ2 := (hMo G J)) rfl trivial ?_
        obtain rfl := Option.some.inj h
        exact js_zret hM.1 hp hM.2.2.2.2.2.2.2.1 rfl (by rw [hM.2.2.2.2.2.1]; exact Nat.le_of_ble_eq_true rfl) (by rw [hM.2.2.2.2.2.2.1]; exact Nat.le_of_ble_eq_true rfl) (jat hM.2.1 19 rfl) hq
theorem m_X6_isOpen (V : jV) (hV : V.1.stackTraces = false) (N : Nat) (G : Nat → Nat → Int32) (J : Nat → Nat → Int64) (p0 : Int32) (v : Int32) (h : p_X6_isOpen N G J p0 = some v) : jMet V yX6_isOpen (jws yX6_isOpen cX6_isOpen 2 (some .boolean)) ⟨1, 0, 0, 22⟩ true 1 [.ref 0, .int p0] (hMo G J) (fun o ν => o = some (.int v) ∧ ν = (hMo G J)) (fun _ _ => False) := by
  refine jmk (tb := tbX6) (C := kX6_isOpen) hV rfl (by decide) tbX6_ok rfl kX6_isOpen_ok rfl ?_
  intro X hM _ hp _
  exact t_X6_isOpen hM hp N G J p0 h ⟨rfl, rfl⟩
def p_X6_openSet_b31 (N : Nat) (G : Nat → Nat → Int32) (J : Nat → Nat → Int64) (rv4 : Int32 → Int32 → Option (Int32)) (x2 : Int32) (s0 : Int32) (s1 : Int32) : Option (Int32) :=
  rv4 (s1 ||| s0) (x2 + 1)
def p_X6_openSet_b4 (N : Nat) (G : Nat → Nat → Int32) (J : Nat → Nat → Int64) : Nat → (Int32) → (Int32) → Option (Int32)
  | 0, _, _ => none
  | n + 1, x1, x2 => if (G 1 7) ≤ x2 then (some x1) else ((p_X6_isOpen N G J x2).bind (fun v2 => if v2 = 0 then (p_X6_openSet_b31 N G J (p_X6_openSet_b4 N G J n) x2 (0 : Int32) x1) else (p_X6_openSet_b31 N G J (p_X6_openSet_b4 N G J n) x2 ((1 : Int32) <<< (x2 &&& 31)) x1)))
def p_X6_openSet (N : Nat) (G : Nat → Nat → Int32) (J : Nat → Nat → Int64) : Option (Int32) :=
  p_X6_openSet_b4 N G J N (0 : Int32) (0 : Int32)
set_option maxHeartbeats 4000000 in
set_option maxRecDepth 100000 in
theorem t_X6_openSet_b31 {X : jX} {po : Option Value → jH → Prop} {px : String → jH → Prop} {sf : Bool} {B9 : Nat} (hM : jMX X kX6_openSet RX6 tbX6 3 ⟨2, 0, 0, 43⟩ (some .int) 16) (hp : jPost X sf B9 po px) (N : Nat) (G : Nat → Nat → Int32) (J : Nat → Nat → Int64) (rv4 : Int32 → Int32 → Option (Int32)) {res : Int32} (ih4 : ∀ (x1 : Int32) (x2 : Int32), rv4 x1 x2 = some res → JW X 0 0 4 [some (.ref 0), some (.int x1), some (.int x2)] [] (hMo G J)) (x2 : Int32) (s0 : Int32) (s1 : Int32) (h : p_X6_openSet_b31 N G J rv4 x2 s0 s1 = some res) (hq : po (some (.int res)) (hMo G J)) : JW X 0 0 31 [some (.ref 0), none, some (.int x2)] [.int s0, .int s1] (hMo G J) := by
  unfold p_X6_openSet_b31 at h
  refine JW.r hM 20 4 (pc2 := 4) (L2 := [some (.ref 0), some (.int (s1 ||| s0)), some (.int (x2 + 1))]) (st2 := []) (μ2 := (hMo G J)) rfl trivial ?_
  exact ih4 (s1 ||| s0) (x2 + 1) h
set_option maxHeartbeats 4000000 in
set_option maxRecDepth 100000 in
theorem t_X6_openSet_b4 {X : jX} {po : Option Value → jH → Prop} {px : String → jH → Prop} {sf : Bool} {B9 : Nat} (hM : jMX X kX6_openSet RX6 tbX6 3 ⟨2, 0, 0, 43⟩ (some .int) 16) (hp : jPost X sf B9 po px) (N : Nat) (G : Nat → Nat → Int32) (J : Nat → Nat → Int64) {res : Int32} : ∀ (n : Nat) (x1 : Int32) (x2 : Int32) (h : p_X6_openSet_b4 N G J n x1 x2 = some res) (hq : po (some (.int res)) (hMo G J)), JW X 0 0 4 [some (.ref 0), some (.int x1), some (.int x2)] [] (hMo G J) := by
  intro n
  induction n with
  | zero =>
    intro x1 x2 h hq
    cases (show (none : Option (Int32)) = some res from h)
  | succ n ih4 =>
    intro x1 x2 h hq
    have ih4 := fun x1 x2 h9 => ih4 x1 x2 h9 hq
    rw [p_X6_openSet_b4] at h
    refine JW.r hM 4 5 (pc2 := 12) (L2 := [some (.ref 0), some (.int x1), some (.int x2)]) (st2 := [.int (G 1 7), .int x2]) (μ2 := (hMo G J)) rfl ⟨rfl, trivial⟩ ?_
    refine js_icge (t := 39) hM.1 (jat hM.2.1 9 rfl) rfl (fun hc4 => ?_) (fun hc4 => ?_)
    · have h := (if_pos hc4).symm.trans h
      refine JW.r hM 24 1 (pc2 := 40) (L2 := [some (.ref 0), some (.int x1), some (.int x2)]) (st2 := [.int x1]) (μ2 := (hMo G J)) rfl trivial ?_
      obtain rfl := Option.some.inj h
      exact js_iret hM.1 hp hM.2.2.2.2.2.2.2.1 (by rw [hM.2.2.2.2.2.1]; exact Nat.le_of_ble_eq_true rfl) (by rw [hM.2.2.2.2.2.2.1]; exact Nat.le_of_ble_eq_true rfl) (jat hM.2.1 25 rfl) hq
    · have h := (if_neg hc4).symm.trans h
      refine JW.r hM 10 3 (pc2 := 18) (L2 := [some (.ref 0), some (.int x1), some (.int x2)]) (st2 := [.int x2, .ref 0, .int x1]) (μ2 := (hMo G J)) rfl trivial ?_
      obtain ⟨v2, hv1, h⟩ := jbd h
      refine JW.cV (v := some (.int v2)) hM (m_X6_isOpen (jVX X) hM.1.2.2.2.2.2.2.2.2.2.1 N G J x2 v2 hv1) (sb_Mo_Mo_0 G J) (bi_Mo_Mo_0 G J) rfl rfl rfl kc_X6_285 rfl rfl rfl rfl rfl (jat hM.2.1 13 rfl) (st := [.int x1]) rfl ?_
      show JW X 0 0 21 [some (.ref 0), some (.int x1), some (.int x2)] [.int v2, .int x1] (hMo G J)
      refine js_ifeq (t := 30) hM.1 (jat hM.2.1 14 rfl) rfl (fun hc3 => ?_) (fun hc3 => ?_)
      · have h := (if_pos hc3).symm.trans h
        refine JW.r hM 19 1 (pc2 := 31) (L2 := [some (.ref 0), some (.int x1), some (.int x2)]) (st2 := [.int (0 : Int32), .int x1]) (μ2 := (hMo G J)) rfl trivial ?_
        exact JW.mask [true, false, true] (t_X6_openSet_b31 hM hp N G J (p_X6_openSet_b4 N G J n) ih4 x2 (0 : Int32) x1 h hq)
      · have h := (if_neg hc3).symm.trans h
        refine JW.r hM 15 4 (pc2 := 31) (L2 := [some (.ref 0), some (.int x1), some (.int x2)]) (st2 := [.int ((1 : Int32) <<< (x2 &&& 31)), .int x1]) (μ2 := (hMo G J)) rfl trivial ?_
        exact JW.mask [true, false, true] (t_X6_openSet_b31 hM hp N G J (p_X6_openSet_b4 N G J n) ih4 x2 ((1 : Int32) <<< (x2 &&& 31)) x1 h hq)
set_option maxHeartbeats 4000000 in
set_option maxRecDepth 100000 in
theorem t_X6_openSet {X : jX} {po : Option Value → jH → Prop} {px : String → jH → Prop} {sf : Bool} {B9 : Nat} (hM : jMX X kX6_openSet RX6 tbX6 3 ⟨2, 0, 0, 43⟩ (some .int) 16) (hp : jPost X sf B9 po px) (N : Nat) (G : Nat → Nat → Int32) (J : Nat → Nat → Int64) {res : Int32} (h : p_X6_openSet N G J = some res) (hq : po (some (.int res)) (hMo G J)) : JW X 0 0 0 [some (.ref 0), none, none] [] (hMo G J) := by
  unfold p_X6_openSet at h
  refine JW.r hM 0 4 (pc2 := 4) (L2 := [some (.ref 0), some (.int (0 : Int32)), some (.int (0 : Int32))]) (st2 := []) (μ2 := (hMo G J)) rfl trivial ?_
  exact t_X6_openSet_b4 hM hp N G J N (0 : Int32) (0 : Int32) h hq
theorem m_X6_openSet (V : jV) (hV : V.1.stackTraces = false) (N : Nat) (G : Nat → Nat → Int32) (J : Nat → Nat → Int64) (v : Int32) (h : p_X6_openSet N G J = some v) : jMet V yX6_openSet (jws yX6_openSet cX6_openSet 3 (some .int)) ⟨2, 0, 0, 43⟩ true 1 [.ref 0] (hMo G J) (fun o ν => o = some (.int v) ∧ ν = (hMo G J)) (fun _ _ => False) := by
  refine jmk (tb := tbX6) (C := kX6_openSet) hV rfl (by decide) tbX6_ok rfl kX6_openSet_ok rfl ?_
  intro X hM _ hp _
  exact t_X6_openSet hM hp N G J h ⟨rfl, rfl⟩
def p_X6_open (N : Nat) (G : Nat → Nat → Int32) (J : Nat → Nat → Int64) : Option (Int32 × (Nat → Nat → Int32)) :=
  jlt (jup G 0 5 (0 : Int32)) fun G1 => (p_X6_openSet N G1 J).bind (fun v4 => some (v4, G1))
set_option maxHeartbeats 4000000 in
set_option maxRecDepth 100000 in
theorem t_X6_open {X : jX} {po : Option Value → jH → Prop} {px : String → jH → Prop} {sf : Bool} {B9 : Nat} (hM : jMX X kX6_open RX6 tbX6 1 ⟨3, 0, 0, 65⟩ (some .int) 16) (hp : jPost X sf B9 po px) (N : Nat) (G : Nat → Nat → Int32) (J : Nat → Nat → Int64) {res : Int32 × (Nat → Nat → Int32)} (h : p_X6_open N G J = some res) (hq : po (some (.int res.1)) (hMo res.2 J)) : JW X 0 0 0 [some (.ref 0)] [] (hMo G J) := by
  unfold p_X6_open at h
  obtain ⟨G1, e2, h⟩ := jlE h
  refine JW.r hM 0 3 (pc2 := 5) (L2 := [some (.ref 0)]) (st2 := []) (μ2 := (hMo (jup G 0 5 (0 : Int32)) J)) rfl trivial ?_
  rw [e2]
  refine JW.r hM 3 1 (pc2 := 6) (L2 := [some (.ref 0)]) (st2 := [.ref 0]) (μ2 := (hMo G1 J)) rfl trivial ?_
  obtain ⟨v4, hv3, h⟩ := jbd h
  refine JW.cV (v := some (.int v4)) hM (m_X6_openSet (jVX X) hM.1.2.2.2.2.2.2.2.2.2.1 N G1 J v4 hv3) (sb_Mo_Mo_0 G1 J) (bi_Mo_Mo_0 G1 J) rfl rfl rfl kc_X6_288 rfl rfl rfl rfl rfl (jat hM.2.1 4 rfl) (st := []) rfl ?_
  show JW X 0 0 9 [some (.ref 0)] [.int v4] (hMo G1 J)
  obtain rfl := Option.some.inj h
  exact js_iret hM.1 hp hM.2.2.2.2.2.2.2.1 (by rw [hM.2.2.2.2.2.1]; exact Nat.le_of_ble_eq_true rfl) (by rw [hM.2.2.2.2.2.2.1]; exact Nat.le_of_ble_eq_true rfl) (jat hM.2.1 5 rfl) hq
theorem m_X6_open (V : jV) (hV : V.1.stackTraces = false) (N : Nat) (G : Nat → Nat → Int32) (J : Nat → Nat → Int64) (v : Int32 × (Nat → Nat → Int32)) (h : p_X6_open N G J = some v) : jMet V yX6_open (jws yX6_open cX6_open 1 (some .int)) ⟨3, 0, 0, 65⟩ true 1 [.ref 0] (hMo G J) (fun o ν => o = some (.int v.1) ∧ ν = (hMo v.2 J)) (fun _ _ => False) := by
  refine jmk (tb := tbX6) (C := kX6_open) hV rfl (by decide) tbX6_ok rfl kX6_open_ok rfl ?_
  intro X hM _ hp _
  exact t_X6_open hM hp N G J h ⟨rfl, rfl⟩
def p_X6_gainOf (N : Nat) (G : Nat → Nat → Int32) (J : Nat → Nat → Int64) (p0 : Int32) (p1 : Int32) : Option (Int32 × (Nat → Nat → Int32)) :=
  (p_X6_copies N (jv2 G 1 1 3)).bind (fun v2 => jlt (jp2 G 1 1 3 1 v2) fun G3 => (p_X6_wealth N G3 J p1).bind (fun v6 => (p_X6_undoes N G3 J p0 p1).bind (fun v8 => jlt v8.2 fun G9 => (p_X6_wealth N G9 J p1).bind (fun v12 => (p_X6_copies N (jv2 G9 3 1 1)).bind (fun v14 => jlt (jp2 G9 3 1 1 1 v14) fun G15 => some ((v12 - v6), G15))))))
set_option maxHeartbeats 4000000 in
set_option maxRecDepth 100000 in
theorem t_X6_gainOf {X : jX} {po : Option Value → jH → Prop} {px : String → jH → Prop} {sf : Bool} {B9 : Nat} (hM : jMX X kX6_gainOf RX6 tbX6 5 ⟨4, 0, 0, 97⟩ (some .int) 16) (hp : jPost X sf B9 po px) (N : Nat) (G : Nat → Nat → Int32) (J : Nat → Nat → Int64) (p0 : Int32) (p1 : Int32) {res : Int32 × (Nat → Nat → Int32)} (h : p_X6_gainOf N G J p0 p1 = some res) (hq : po (some (.int res.1)) (hMo res.2 J)) : JW X 0 0 0 [some (.ref 0), some (.int p0), some (.int p1), none, none] [] (hMo G J) := by
  unfold p_X6_gainOf at h
  refine JW.r hM 0 4 (pc2 := 8) (L2 := [some (.ref 0), some (.int p0), some (.int p1), none, none]) (st2 := [.ref 3, .ref 1]) (μ2 := (hMo G J)) rfl trivial ?_
  obtain ⟨v2, hv1, h⟩ := jbd h
  refine JW.cS (v := none) hM (m_X6_copies (jVX X) hM.1.2.2.2.2.2.2.2.2.2.1 N (jv2 G 1 1 3) v2 hv1) (sb_Mo_B264_1_3 G J) (bk_Mo_B264_1_3 G J v2) rfl rfl rfl kc_X6_179 rfl rfl rfl (jat hM.2.1 4 rfl) (st := []) rfl ?_
  show JW X 0 0 11 [some (.ref 0), some (.int p0), some (.int p1), none, none] [] (hMo (jp2 G 1 1 3 1 v2) J)
  obtain ⟨G3, e4, h⟩ := jlE h
  rw [e4]
  refine JW.r hM 5 2 (pc2 := 13) (L2 := [some (.ref 0), some (.int p0), some (.int p1), none, none]) (st2 := [.int p1, .ref 0]) (μ2 := (hMo G3 J)) rfl trivial ?_
  obtain ⟨v6, hv5, h⟩ := jbd h
  refine JW.cV (v := some (.int v6)) hM (m_X6_wealth (jVX X) hM.1.2.2.2.2.2.2.2.2.2.1 N G3 J p1 v6 hv5) (sb_Mo_Mo_0 G3 J) (bi_Mo_Mo_0 G3 J) rfl rfl rfl kc_X6_191 rfl rfl rfl rfl rfl (jat hM.2.1 7 rfl) (st := []) rfl ?_
  show JW X 0 0 16 [some (.ref 0), some (.int p0), some (.int p1), none, none] [.int v6] (hMo G3 J)
  refine JW.r hM 8 4 (pc2 := 20) (L2 := [some (.ref 0), some (.int p0), some (.int p1), some (.int v6), none]) (st2 := [.int p1, .int p0, .ref 0]) (μ2 := (hMo G3 J)) rfl trivial ?_
  obtain ⟨v8, hv7, h⟩ := jbd h
  refine JW.cV (v := some (.int v8.1)) hM (m_X6_undoes (jVX X) hM.1.2.2.2.2.2.2.2.2.2.1 N G3 J p0 p1 v8 hv7) (sb_Mo_Mo_0 G3 J) (bk_Mo_Mo_0 G3 J v8.2 J) rfl rfl rfl kc_X6_250 rfl rfl rfl rfl rfl (jat hM.2.1 12 rfl) (st := []) rfl ?_
  show JW X 0 0 23 [some (.ref 0), some (.int p0), some (.int p1), some (.int v6), none] [.int v8.1] (hMo v8.2 J)
  obtain ⟨G9, e10, h⟩ := jlE h
  rw [e10]
  refine JW.r hM 13 3 (pc2 := 26) (L2 := [some (.ref 0), some (.int p0), some (.int p1), some (.int v6), none]) (st2 := [.int p1, .ref 0]) (μ2 := (hMo G9 J)) rfl trivial ?_
  obtain ⟨v12, hv11, h⟩ := jbd h
  refine JW.cV (v := some (.int v12)) hM (m_X6_wealth (jVX X) hM.1.2.2.2.2.2.2.2.2.2.1 N G9 J p1 v12 hv11) (sb_Mo_Mo_0 G9 J) (bi_Mo_Mo_0 G9 J) rfl rfl rfl kc_X6_191 rfl rfl rfl rfl rfl (jat hM.2.1 16 rfl) (st := []) rfl ?_
  show JW X 0 0 29 [some (.ref 0), some (.int p0), some (.int p1), some (.int v6), none] [.int v12] (hMo G9 J)
  refine JW.r hM 17 7 (pc2 := 41) (L2 := [some (.ref 0), some (.int p0), some (.int p1), some (.int v6), some (.int (v12 - v6))]) (st2 := [.ref 1, .ref 3]) (μ2 := (hMo G9 J)) rfl trivial ?_
  obtain ⟨v14, hv13, h⟩ := jbd h
  refine JW.cS (v := none) hM (m_X6_copies (jVX X) hM.1.2.2.2.2.2.2.2.2.2.1 N (jv2 G9 3 1 1) v14 hv13) (sb_Mo_B264_3_1 G9 J) (bk_Mo_B264_3_1 G9 J v14) rfl rfl rfl kc_X6_179 rfl rfl rfl (jat hM.2.1 24 rfl) (st := []) rfl ?_
  show JW X 0 0 44 [some (.ref 0), some (.int p0), some (.int p1), some (.int v6), some (.int (v12 - v6))] [] (hMo (jp2 G9 3 1 1 1 v14) J)
  obtain ⟨G15, e16, h⟩ := jlE h
  rw [e16]
  refine JW.r hM 25 1 (pc2 := 46) (L2 := [some (.ref 0), some (.int p0), some (.int p1), some (.int v6), some (.int (v12 - v6))]) (st2 := [.int (v12 - v6)]) (μ2 := (hMo G15 J)) rfl trivial ?_
  obtain rfl := Option.some.inj h
  exact js_iret hM.1 hp hM.2.2.2.2.2.2.2.1 (by rw [hM.2.2.2.2.2.1]; exact Nat.le_of_ble_eq_true rfl) (by rw [hM.2.2.2.2.2.2.1]; exact Nat.le_of_ble_eq_true rfl) (jat hM.2.1 26 rfl) hq
theorem m_X6_gainOf (V : jV) (hV : V.1.stackTraces = false) (N : Nat) (G : Nat → Nat → Int32) (J : Nat → Nat → Int64) (p0 : Int32) (p1 : Int32) (v : Int32 × (Nat → Nat → Int32)) (h : p_X6_gainOf N G J p0 p1 = some v) : jMet V yX6_gainOf (jws yX6_gainOf cX6_gainOf 5 (some .int)) ⟨4, 0, 0, 97⟩ true 1 [.ref 0, .int p0, .int p1] (hMo G J) (fun o ν => o = some (.int v.1) ∧ ν = (hMo v.2 J)) (fun _ _ => False) := by
  refine jmk (tb := tbX6) (C := kX6_gainOf) hV rfl (by decide) tbX6_ok rfl kX6_gainOf_ok rfl ?_
  intro X hM _ hp _
  exact t_X6_gainOf hM hp N G J p0 p1 h ⟨rfl, rfl⟩
def p_X6_gain_b23 (N : Nat) (J : Nat → Nat → Int64) (G : Nat → Nat → Int32) (x1 : Int32) (x2 : Int32) (s0 : Int32) : Option (Int32 × (Nat → Nat → Int32)) :=
  jlt (jup G 0 5 s0) fun G3 => if (G3 0 5) ≤ 0 then ((p_X6_isOpen N G3 J x1).bind (fun v6 => if v6 = 0 then (some ((-1 : Int32), G3)) else ((p_X6_isOf N G3 J x1 x2).bind (fun v8 => if v8 = 0 then (some ((-1 : Int32), G3)) else ((p_X6_gainOf N G3 J x1 x2).bind (fun v10 => jlt v10.2 fun G11 => some (v10.1, G11))))))) else (some ((0 : Int32), G3))
def p_X6_gain_b22 (N : Nat) (J : Nat → Nat → Int64) (G : Nat → Nat → Int32) (x1 : Int32) (x2 : Int32) : Option (Int32 × (Nat → Nat → Int32)) :=
  p_X6_gain_b23 N J G x1 x2 (1 : Int32)
def p_X6_gain (N : Nat) (G : Nat → Nat → Int32) (J : Nat → Nat → Int64) (p0 : Int32) (p1 : Int32) : Option (Int32 × (Nat → Nat → Int32)) :=
  (p_X6_isDeed N G J (p0.toInt64)).bind (fun v2 => if v2 = 0 then (p_X6_gain_b22 N J G p0 p1) else ((p_X6_isPerson N G J p1).bind (fun v17 => if v17 = 0 then (p_X6_gain_b22 N J G p0 p1) else (p_X6_gain_b23 N J G p0 p1 (0 : Int32)))))
set_option maxHeartbeats 4000000 in
set_option maxRecDepth 100000 in
theorem t_X6_gain_b23 {X : jX} {po : Option Value → jH → Prop} {px : String → jH → Prop} {sf : Bool} {B9 : Nat} (hM : jMX X kX6_gain RX6 tbX6 3 ⟨5, 0, 0, 121⟩ (some .int) 16) (hp : jPost X sf B9 po px) (N : Nat) (J : Nat → Nat → Int64) {res : Int32 × (Nat → Nat → Int32)} (G : Nat → Nat → Int32) (x1 : Int32) (x2 : Int32) (s0 : Int32) (h : p_X6_gain_b23 N J G x1 x2 s0 = some res) (hq : po (some (.int res.1)) (hMo res.2 J)) : JW X 0 0 23 [some (.ref 0), some (.int x1), some (.int x2)] [.int s0, .ref 0] (hMo G J) := by
  unfold p_X6_gain_b23 at h
  obtain ⟨G3, e4, h⟩ := jlE h
  refine JW.r hM 13 1 (pc2 := 26) (L2 := [some (.ref 0), some (.int x1), some (.int x2)]) (st2 := []) (μ2 := (hMo (jup G 0 5 s0) J)) rfl trivial ?_
  rw [e4]
  refine JW.r hM 14 2 (pc2 := 30) (L2 := [some (.ref 0), some (.int x1), some (.int x2)]) (st2 := [.int (G3 0 5)]) (μ2 := (hMo G3 J)) rfl trivial ?_
  refine js_ifle (t := 35) hM.1 (jat hM.2.1 16 rfl) rfl (fun hc15 => ?_) (fun hc15 => ?_)
  · have h := (if_pos hc15).symm.trans h
    refine JW.r hM 19 2 (pc2 := 37) (L2 := [some (.ref 0), some (.int x1), some (.int x2)]) (st2 := [.int x1, .ref 0]) (μ2 := (hMo G3 J)) rfl trivial ?_
    obtain ⟨v6, hv5, h⟩ := jbd h
    refine JW.cV (v := some (.int v6)) hM (m_X6_isOpen (jVX X) hM.1.2.2.2.2.2.2.2.2.2.1 N G3 J x1 v6 hv5) (sb_Mo_Mo_0 G3 J) (bi_Mo_Mo_0 G3 J) rfl rfl rfl kc_X6_285 rfl rfl rfl rfl rfl (jat hM.2.1 21 rfl) (st := []) rfl ?_
    show JW X 0 0 40 [some (.ref 0), some (.int x1), some (.int x2)] [.int v6] (hMo G3 J)
    refine js_ifeq (t := 61) hM.1 (jat hM.2.1 22 rfl) rfl (fun hc14 => ?_) (fun hc14 => ?_)
    · have h := (if_pos hc14).symm.trans h
      refine JW.r hM 33 1 (pc2 := 62) (L2 := [some (.ref 0), some (.int x1), some (.int x2)]) (st2 := [.int (-1 : Int32)]) (μ2 := (hMo G3 J)) rfl trivial ?_
      obtain rfl := Option.some.inj h
      exact js_iret hM.1 hp hM.2.2.2.2.2.2.2.1 (by rw [hM.2.2.2.2.2.1]; exact Nat.le_of_ble_eq_true rfl) (by rw [hM.2.2.2.2.2.2.1]; exact Nat.le_of_ble_eq_true rfl) (jat hM.2.1 34 rfl) hq
    · have h := (if_neg hc14).symm.trans h
      refine JW.r hM 23 3 (pc2 := 46) (L2 := [some (.ref 0), some (.int x1), some (.int x2)]) (st2 := [.int x2, .int x1, .ref 0]) (μ2 := (hMo G3 J)) rfl trivial ?_
      obtain ⟨v8, hv7, h⟩ := jbd h
      refine JW.cV (v := some (.int v8)) hM (m_X6_isOf (jVX X) hM.1.2.2.2.2.2.2.2.2.2.1 N G3 J x1 x2 v8 hv7) (sb_Mo_Mo_0 G3 J) (bi_Mo_Mo_0 G3 J) rfl rfl rfl kc_X6_246 rfl rfl rfl rfl rfl (jat hM.2.1 26 rfl) (st := []) rfl ?_
      show JW X 0 0 49 [some (.ref 0), some (.int x1), some (.int x2)] [.int v8] (hMo G3 J)
      refine js_ifeq (t := 61) hM.1 (jat hM.2.1 27 rfl) rfl (fun hc13 => ?_) (fun hc13 => ?_)
      · have h := (if_pos hc13).symm.trans h
        refine JW.r hM 33 1 (pc2 := 62) (L2 := [some (.ref 0), some (.int x1), some (.int x2)]) (st2 := [.int (-1 : Int32)]) (μ2 := (hMo G3 J)) rfl trivial ?_
        obtain rfl := Option.some.inj h
        exact js_iret hM.1 hp hM.2.2.2.2.2.2.2.1 (by rw [hM.2.2.2.2.2.1]; exact Nat.le_of_ble_eq_true rfl) (by rw [hM.2.2.2.2.2.2.1]; exact Nat.le_of_ble_eq_true rfl) (jat hM.2.1 34 rfl) hq
      · have h := (if_neg hc13).symm.trans h
        refine JW.r hM 28 3 (pc2 := 55) (L2 := [some (.ref 0), some (.int x1), some (.int x2)]) (st2 := [.int x2, .int x1, .ref 0]) (μ2 := (hMo G3 J)) rfl trivial ?_
        obtain ⟨v10, hv9, h⟩ := jbd h
        refine JW.cV (v := some (.int v10.1)) hM (m_X6_gainOf (jVX X) hM.1.2.2.2.2.2.2.2.2.2.1 N G3 J x1 x2 v10 hv9) (sb_Mo_Mo_0 G3 J) (bk_Mo_Mo_0 G3 J v10.2 J) rfl rfl rfl kc_X6_291 rfl rfl rfl rfl rfl (jat hM.2.1 31 rfl) (st := []) rfl ?_
        show JW X 0 0 58 [some (.ref 0), some (.int x1), some (.int x2)] [.int v10.1] (hMo v10.2 J)
        obtain ⟨G11, e12, h⟩ := jlE h
        rw [e12]
        refine JW.r hM 32 1 (pc2 := 62) (L2 := [some (.ref 0), some (.int x1), some (.int x2)]) (st2 := [.int v10.1]) (μ2 := (hMo G11 J)) rfl trivial ?_
        obtain rfl := Option.some.inj h
        exact js_iret hM.1 hp hM.2.2.2.2.2.2.2.1 (by rw [hM.2.2.2.2.2.1]; exact Nat.le_of_ble_eq_true rfl) (by rw [hM.2.2.2.2.2.2.1]; exact Nat.le_of_ble_eq_true rfl) (jat hM.2.1 34 rfl) hq
  · have h := (if_neg hc15).symm.trans h
    refine JW.r hM 17 1 (pc2 := 34) (L2 := [some (.ref 0), some (.int x1), some (.int x2)]) (st2 := [.int (0 : Int32)]) (μ2 := (hMo G3 J)) rfl trivial ?_
    obtain rfl := Option.some.inj h
    exact js_iret hM.1 hp hM.2.2.2.2.2.2.2.1 (by rw [hM.2.2.2.2.2.1]; exact Nat.le_of_ble_eq_true rfl) (by rw [hM.2.2.2.2.2.2.1]; exact Nat.le_of_ble_eq_true rfl) (jat hM.2.1 18 rfl) hq
set_option maxHeartbeats 4000000 in
set_option maxRecDepth 100000 in
theorem t_X6_gain_b22 {X : jX} {po : Option Value → jH → Prop} {px : String → jH → Prop} {sf : Bool} {B9 : Nat} (hM : jMX X kX6_gain RX6 tbX6 3 ⟨5, 0, 0, 121⟩ (some .int) 16) (hp : jPost X sf B9 po px) (N : Nat) (J : Nat → Nat → Int64) {res : Int32 × (Nat → Nat → Int32)} (G : Nat → Nat → Int32) (x1 : Int32) (x2 : Int32) (h : p_X6_gain_b22 N J G x1 x2 = some res) (hq : po (some (.int res.1)) (hMo res.2 J)) : JW X 0 0 22 [some (.ref 0), some (.int x1), some (.int x2)] [.ref 0] (hMo G J) := by
  unfold p_X6_gain_b22 at h
  refine JW.r hM 12 1 (pc2 := 23) (L2 := [some (.ref 0), some (.int x1), some (.int x2)]) (st2 := [.int (1 : Int32), .ref 0]) (μ2 := (hMo G J)) rfl trivial ?_
  exact t_X6_gain_b23 hM hp N J G x1 x2 (1 : Int32) h hq
set_option maxHeartbeats 4000000 in
set_option maxRecDepth 100000 in
theorem t_X6_gain {X : jX} {po : Option Value → jH → Prop} {px : String → jH → Prop} {sf : Bool} {B9 : Nat} (hM : jMX X kX6_gain RX6 tbX6 3 ⟨5, 0, 0, 121⟩ (some .int) 16) (hp : jPost X sf B9 po px) (N : Nat) (G : Nat → Nat → Int32) (J : Nat → Nat → Int64) (p0 : Int32) (p1 : Int32) {res : Int32 × (Nat → Nat → Int32)} (h : p_X6_gain N G J p0 p1 = some res) (hq : po (some (.int res.1)) (hMo res.2 J)) : JW X 0 0 0 [some (.ref 0), some (.int p0), some (.int p1)] [] (hMo G J) := by
  unfold p_X6_gain at h
  refine JW.r hM 0 4 (pc2 := 4) (L2 := [some (.ref 0), some (.int p0), some (.int p1)]) (st2 := [.long (p0.toInt64), .ref 0, .ref 0]) (μ2 := (hMo G J)) rfl trivial ?_
  obtain ⟨v2, hv1, h⟩ := jbd h
  refine JW.cV (v := some (.int v2)) hM (m_X6_isDeed (jVX X) hM.1.2.2.2.2.2.2.2.2.2.1 N G J (p0.toInt64) v2 hv1) (sb_Mo_Mo_0 G J) (bi_Mo_Mo_0 G J) rfl rfl rfl kc_X6_230 rfl rfl rfl rfl rfl (jat hM.2.1 4 rfl) (st := [.ref 0]) rfl ?_
  show JW X 0 0 7 [some (.ref 0), some (.int p0), some (.int p1)] [.int v2, .ref 0] (hMo G J)
  refine js_ifeq (t := 22) hM.1 (jat hM.2.1 5 rfl) rfl (fun hc19 => ?_) (fun hc19 => ?_)
  · have h := (if_pos hc19).symm.trans h
    exact t_X6_gain_b22 hM hp N J G p0 p1 h hq
  · have h := (if_neg hc19).symm.trans h
    refine JW.r hM 6 2 (pc2 := 12) (L2 := [some (.ref 0), some (.int p0), some (.int p1)]) (st2 := [.int p1, .ref 0, .ref 0]) (μ2 := (hMo G J)) rfl trivial ?_
    obtain ⟨v17, hv16, h⟩ := jbd h
    refine JW.cV (v := some (.int v17)) hM (m_X6_isPerson (jVX X) hM.1.2.2.2.2.2.2.2.2.2.1 N G J p1 v17 hv16) (sb_Mo_Mo_0 G J) (bi_Mo_Mo_0 G J) rfl rfl rfl kc_X6_186 rfl rfl rfl rfl rfl (jat hM.2.1 8 rfl) (st := [.ref 0]) rfl ?_
    show JW X 0 0 15 [some (.ref 0), some (.int p0), some (.int p1)] [.int v17, .ref 0] (hMo G J)
    refine js_ifeq (t := 22) hM.1 (jat hM.2.1 9 rfl) rfl (fun hc18 => ?_) (fun hc18 => ?_)
    · have h := (if_pos hc18).symm.trans h
      exact t_X6_gain_b22 hM hp N J G p0 p1 h hq
    · have h := (if_neg hc18).symm.trans h
      refine JW.r hM 10 2 (pc2 := 23) (L2 := [some (.ref 0), some (.int p0), some (.int p1)]) (st2 := [.int (0 : Int32), .ref 0]) (μ2 := (hMo G J)) rfl trivial ?_
      exact t_X6_gain_b23 hM hp N J G p0 p1 (0 : Int32) h hq
theorem m_X6_gain (V : jV) (hV : V.1.stackTraces = false) (N : Nat) (G : Nat → Nat → Int32) (J : Nat → Nat → Int64) (p0 : Int32) (p1 : Int32) (v : Int32 × (Nat → Nat → Int32)) (h : p_X6_gain N G J p0 p1 = some v) : jMet V yX6_gain (jws yX6_gain cX6_gain 3 (some .int)) ⟨5, 0, 0, 121⟩ true 1 [.ref 0, .int p0, .int p1] (hMo G J) (fun o ν => o = some (.int v.1) ∧ ν = (hMo v.2 J)) (fun _ _ => False) := by
  refine jmk (tb := tbX6) (C := kX6_gain) hV rfl (by decide) tbX6_ok rfl kX6_gain_ok rfl ?_
  intro X hM _ hp _
  exact t_X6_gain hM hp N G J p0 p1 h ⟨rfl, rfl⟩
def p_X6_pledgeOf (N : Nat) (G : Nat → Nat → Int32) (J : Nat → Nat → Int64) (p0 : Int32) : Option (Int32 × (Nat → Nat → Int32)) :=
  (p_X6_of N G J p0 (1 : Int32)).bind (fun v2 => (p_X6_gainOf N G J p0 v2).bind (fun v4 => jlt v4.2 fun G5 => (p_X6_of N G5 J p0 (2 : Int32)).bind (fun v8 => (p_X6_gainOf N G5 J p0 v8).bind (fun v10 => jlt v10.2 fun G11 => some ((if (0 : Int32) < (if v4.1 < v10.1 then v10.1 else v4.1) then (if v4.1 < v10.1 then v10.1 else v4.1) else (0 : Int32)), G11)))))
set_option maxHeartbeats 4000000 in
set_option maxRecDepth 100000 in
theorem t_X6_pledgeOf {X : jX} {po : Option Value → jH → Prop} {px : String → jH → Prop} {sf : Bool} {B9 : Nat} (hM : jMX X kX6_pledgeOf RX6 tbX6 2 ⟨5, 0, 0, 121⟩ (some .int) 16) (hp : jPost X sf B9 po px) (N : Nat) (G : Nat → Nat → Int32) (J : Nat → Nat → Int64) (p0 : Int32) {res : Int32 × (Nat → Nat → Int32)} (h : p_X6_pledgeOf N G J p0 = some res) (hq : po (some (.int res.1)) (hMo res.2 J)) : JW X 0 0 0 [some (.ref 0), some (.int p0)] [] (hMo G J) := by
  unfold p_X6_pledgeOf at h
  refine JW.r hM 0 6 (pc2 := 6) (L2 := [some (.ref 0), some (.int p0)]) (st2 := [.int (1 : Int32), .int p0, .ref 0, .int p0, .ref 0, .int (0 : Int32)]) (μ2 := (hMo G J)) rfl trivial ?_
  obtain ⟨v2, hv1, h⟩ := jbd h
  refine JW.cV (v := some (.int v2)) hM (m_X6_of (jVX X) hM.1.2.2.2.2.2.2.2.2.2.1 N G J p0 (1 : Int32) v2 hv1) (sb_Mo_Mo_0 G J) (bi_Mo_Mo_0 G J) rfl rfl rfl kc_X6_208 rfl rfl rfl rfl rfl (jat hM.2.1 6 rfl) (st := [.int p0, .ref 0, .int (0 : Int32)]) rfl ?_
  show JW X 0 0 9 [some (.ref 0), some (.int p0)] [.int v2, .int p0, .ref 0, .int (0 : Int32)] (hMo G J)
  obtain ⟨v4, hv3, h⟩ := jbd h
  refine JW.cV (v := some (.int v4.1)) hM (m_X6_gainOf (jVX X) hM.1.2.2.2.2.2.2.2.2.2.1 N G J p0 v2 v4 hv3) (sb_Mo_Mo_0 G J) (bk_Mo_Mo_0 G J v4.2 J) rfl rfl rfl kc_X6_291 rfl rfl rfl rfl rfl (jat hM.2.1 7 rfl) (st := [.int (0 : Int32)]) rfl ?_
  show JW X 0 0 12 [some (.ref 0), some (.int p0)] [.int v4.1, .int (0 : Int32)] (hMo v4.2 J)
  obtain ⟨G5, e6, h⟩ := jlE h
  rw [e6]
  refine JW.r hM 8 5 (pc2 := 17) (L2 := [some (.ref 0), some (.int p0)]) (st2 := [.int (2 : Int32), .int p0, .ref 0, .int p0, .ref 0, .int v4.1, .int (0 : Int32)]) (μ2 := (hMo G5 J)) rfl trivial ?_
  obtain ⟨v8, hv7, h⟩ := jbd h
  refine JW.cV (v := some (.int v8)) hM (m_X6_of (jVX X) hM.1.2.2.2.2.2.2.2.2.2.1 N G5 J p0 (2 : Int32) v8 hv7) (sb_Mo_Mo_0 G5 J) (bi_Mo_Mo_0 G5 J) rfl rfl rfl kc_X6_208 rfl rfl rfl rfl rfl (jat hM.2.1 13 rfl) (st := [.int p0, .ref 0, .int v4.1, .int (0 : Int32)]) rfl ?_
  show JW X 0 0 20 [some (.ref 0), some (.int p0)] [.int v8, .int p0, .ref 0, .int v4.1, .int (0 : Int32)] (hMo G5 J)
  obtain ⟨v10, hv9, h⟩ := jbd h
  refine JW.cV (v := some (.int v10.1)) hM (m_X6_gainOf (jVX X) hM.1.2.2.2.2.2.2.2.2.2.1 N G5 J p0 v8 v10 hv9) (sb_Mo_Mo_0 G5 J) (bk_Mo_Mo_0 G5 J v10.2 J) rfl rfl rfl kc_X6_291 rfl rfl rfl rfl rfl (jat hM.2.1 14 rfl) (st := [.int v4.1, .int (0 : Int32)]) rfl ?_
  show JW X 0 0 23 [some (.ref 0), some (.int p0)] [.int v10.1, .int v4.1, .int (0 : Int32)] (hMo v10.2 J)
  obtain ⟨G11, e12, h⟩ := jlE h
  rw [e12]
  refine js_max hM.1 (by rw [hM.2.2.1]; exact mx_X6_227) (jat hM.2.1 15 rfl) (by rw [hM.2.2.2.2.1]; exact Nat.le_of_ble_eq_true rfl) (by rw [hM.2.2.2.2.1]; exact Nat.le_of_ble_eq_true rfl) (by rw [hM.2.2.2.2.1]; exact Nat.le_of_ble_eq_true rfl) (by rw [hM.2.2.2.2.1]; exact Nat.le_of_ble_eq_true rfl) ?_
  show JW X 0 0 26 [some (.ref 0), some (.int p0)] [.int (if v4.1 < v10.1 then v10.1 else v4.1), .int (0 : Int32)] (hMo G11 J)
  refine js_max hM.1 (by rw [hM.2.2.1]; exact mx_X6_227) (jat hM.2.1 16 rfl) (by rw [hM.2.2.2.2.1]; exact Nat.le_of_ble_eq_true rfl) (by rw [hM.2.2.2.2.1]; exact Nat.le_of_ble_eq_true rfl) (by rw [hM.2.2.2.2.1]; exact Nat.le_of_ble_eq_true rfl) (by rw [hM.2.2.2.2.1]; exact Nat.le_of_ble_eq_true rfl) ?_
  show JW X 0 0 29 [some (.ref 0), some (.int p0)] [.int (if (0 : Int32) < (if v4.1 < v10.1 then v10.1 else v4.1) then (if v4.1 < v10.1 then v10.1 else v4.1) else (0 : Int32))] (hMo G11 J)
  obtain rfl := Option.some.inj h
  exact js_iret hM.1 hp hM.2.2.2.2.2.2.2.1 (by rw [hM.2.2.2.2.2.1]; exact Nat.le_of_ble_eq_true rfl) (by rw [hM.2.2.2.2.2.2.1]; exact Nat.le_of_ble_eq_true rfl) (jat hM.2.1 17 rfl) hq
theorem m_X6_pledgeOf (V : jV) (hV : V.1.stackTraces = false) (N : Nat) (G : Nat → Nat → Int32) (J : Nat → Nat → Int64) (p0 : Int32) (v : Int32 × (Nat → Nat → Int32)) (h : p_X6_pledgeOf N G J p0 = some v) : jMet V yX6_pledgeOf (jws yX6_pledgeOf cX6_pledgeOf 2 (some .int)) ⟨5, 0, 0, 121⟩ true 1 [.ref 0, .int p0] (hMo G J) (fun o ν => o = some (.int v.1) ∧ ν = (hMo v.2 J)) (fun _ _ => False) := by
  refine jmk (tb := tbX6) (C := kX6_pledgeOf) hV rfl (by decide) tbX6_ok rfl kX6_pledgeOf_ok rfl ?_
  intro X hM _ hp _
  exact t_X6_pledgeOf hM hp N G J p0 h ⟨rfl, rfl⟩
def p_X6_safe_b44 (N : Nat) (J : Nat → Nat → Int64) (rv9 : (Nat → Nat → Int32) → Int32 → Int32 → Option (Int32 × (Nat → Nat → Int32))) (G : Nat → Nat → Int32) (x2 : Int32) (s0 : Int32) (s1 : Int32) : Option (Int32 × (Nat → Nat → Int32)) :=
  rv9 G (s1 ||| s0) (x2 + 1)
def p_X6_safe_b43 (N : Nat) (J : Nat → Nat → Int64) (rv9 : (Nat → Nat → Int32) → Int32 → Int32 → Option (Int32 × (Nat → Nat → Int32))) (G : Nat → Nat → Int32) (x2 : Int32) (s0 : Int32) : Option (Int32 × (Nat → Nat → Int32)) :=
  p_X6_safe_b44 N J rv9 G x2 (0 : Int32) s0
def p_X6_safe_b9 (N : Nat) (J : Nat → Nat → Int64) : Nat → (Nat → Nat → Int32) → (Int32) → (Int32) → Option (Int32 × (Nat → Nat → Int32))
  | 0, _, _, _ => none
  | n + 1, G, x1, x2 => if (G 1 7) ≤ x2 then (some (x1, G)) else ((p_X6_isOpen N G J x2).bind (fun v4 => if v4 = 0 then (p_X6_safe_b43 N J (p_X6_safe_b9 N J n) G x2 x1) else ((p_X6_pledgeOf N G J x2).bind (fun v6 => jlt v6.2 fun G7 => if v6.1 = 0 then (p_X6_safe_b44 N J (p_X6_safe_b9 N J n) G7 x2 ((1 : Int32) <<< (x2 &&& 31)) x1) else (p_X6_safe_b43 N J (p_X6_safe_b9 N J n) G7 x2 x1)))))
def p_X6_safe (N : Nat) (G : Nat → Nat → Int32) (J : Nat → Nat → Int64) : Option (Int32 × (Nat → Nat → Int32)) :=
  jlt (jup G 0 5 (0 : Int32)) fun G1 => p_X6_safe_b9 N J N G1 (0 : Int32) (0 : Int32)
set_option maxHeartbeats 4000000 in
set_option maxRecDepth 100000 in
theorem t_X6_safe_b44 {X : jX} {po : Option Value → jH → Prop} {px : String → jH → Prop} {sf : Bool} {B9 : Nat} (hM : jMX X kX6_safe RX6 tbX6 3 ⟨6, 0, 0, 142⟩ (some .int) 16) (hp : jPost X sf B9 po px) (N : Nat) (J : Nat → Nat → Int64) (rv9 : (Nat → Nat → Int32) → Int32 → Int32 → Option (Int32 × (Nat → Nat → Int32))) {res : Int32 × (Nat → Nat → Int32)} (ih9 : ∀ (G : Nat → Nat → Int32) (x1 : Int32) (x2 : Int32), rv9 G x1 x2 = some res → JW X 0 0 9 [some (.ref 0), some (.int x1), some (.int x2)] [] (hMo G J)) (G : Nat → Nat → Int32) (x2 : Int32) (s0 : Int32) (s1 : Int32) (h : p_X6_safe_b44 N J rv9 G x2 s0 s1 = some res) (hq : po (some (.int res.1)) (hMo res.2 J)) : JW X 0 0 44 [some (.ref 0), none, some (.int x2)] [.int s0, .int s1] (hMo G J) := by
  unfold p_X6_safe_b44 at h
  refine JW.r hM 27 4 (pc2 := 9) (L2 := [some (.ref 0), some (.int (s1 ||| s0)), some (.int (x2 + 1))]) (st2 := []) (μ2 := (hMo G J)) rfl trivial ?_
  exact ih9 G (s1 ||| s0) (x2 + 1) h
set_option maxHeartbeats 4000000 in
set_option maxRecDepth 100000 in
theorem t_X6_safe_b43 {X : jX} {po : Option Value → jH → Prop} {px : String → jH → Prop} {sf : Bool} {B9 : Nat} (hM : jMX X kX6_safe RX6 tbX6 3 ⟨6, 0, 0, 142⟩ (some .int) 16) (hp : jPost X sf B9 po px) (N : Nat) (J : Nat → Nat → Int64) (rv9 : (Nat → Nat → Int32) → Int32 → Int32 → Option (Int32 × (Nat → Nat → Int32))) {res : Int32 × (Nat → Nat → Int32)} (ih9 : ∀ (G : Nat → Nat → Int32) (x1 : Int32) (x2 : Int32), rv9 G x1 x2 = some res → JW X 0 0 9 [some (.ref 0), some (.int x1), some (.int x2)] [] (hMo G J)) (G : Nat → Nat → Int32) (x2 : Int32) (s0 : Int32) (h : p_X6_safe_b43 N J rv9 G x2 s0 = some res) (hq : po (some (.int res.1)) (hMo res.2 J)) : JW X 0 0 43 [some (.ref 0), none, some (.int x2)] [.int s0] (hMo G J) := by
  unfold p_X6_safe_b43 at h
  refine JW.r hM 26 1 (pc2 := 44) (L2 := [some (.ref 0), none, some (.int x2)]) (st2 := [.int (0 : Int32), .int s0]) (μ2 := (hMo G J)) rfl trivial ?_
  exact t_X6_safe_b44 hM hp N J rv9 ih9 G x2 (0 : Int32) s0 h hq
set_option maxHeartbeats 4000000 in
set_option maxRecDepth 100000 in
theorem t_X6_safe_b9 {X : jX} {po : Option Value → jH → Prop} {px : String → jH → Prop} {sf : Bool} {B9 : Nat} (hM : jMX X kX6_safe RX6 tbX6 3 ⟨6, 0, 0, 142⟩ (some .int) 16) (hp : jPost X sf B9 po px) (N : Nat) (J : Nat → Nat → Int64) {res : Int32 × (Nat → Nat → Int32)} : ∀ (n : Nat) (G : Nat → Nat → Int32) (x1 : Int32) (x2 : Int32) (h : p_X6_safe_b9 N J n G x1 x2 = some res) (hq : po (some (.int res.1)) (hMo res.2 J)), JW X 0 0 9 [some (.ref 0), some (.int x1), some (.int x2)] [] (hMo G J) := by
  intro n
  induction n with
  | zero =>
    intro G x1 x2 h hq
    cases (show (none : Option (Int32 × (Nat → Nat → Int32))) = some res from h)
  | succ n ih9 =>
    intro G x1 x2 h hq
    have ih9 := fun G x1 x2 h9 => ih9 G x1 x2 h9 hq
    rw [p_X6_safe_b9] at h
    refine JW.r hM 7 5 (pc2 := 17) (L2 := [some (.ref 0), some (.int x1), some (.int x2)]) (st2 := [.int (G 1 7), .int x2]) (μ2 := (hMo G J)) rfl ⟨rfl, trivial⟩ ?_
    refine js_icge (t := 52) hM.1 (jat hM.2.1 12 rfl) rfl (fun hc11 => ?_) (fun hc11 => ?_)
    · have h := (if_pos hc11).symm.trans h
      refine JW.r hM 31 1 (pc2 := 53) (L2 := [some (.ref 0), some (.int x1), some (.int x2)]) (st2 := [.int x1]) (μ2 := (hMo G J)) rfl trivial ?_
      obtain rfl := Option.some.inj h
      exact js_iret hM.1 hp hM.2.2.2.2.2.2.2.1 (by rw [hM.2.2.2.2.2.1]; exact Nat.le_of_ble_eq_true rfl) (by rw [hM.2.2.2.2.2.2.1]; exact Nat.le_of_ble_eq_true rfl) (jat hM.2.1 32 rfl) hq
    · have h := (if_neg hc11).symm.trans h
      refine JW.r hM 13 3 (pc2 := 23) (L2 := [some (.ref 0), some (.int x1), some (.int x2)]) (st2 := [.int x2, .ref 0, .int x1]) (μ2 := (hMo G J)) rfl trivial ?_
      obtain ⟨v4, hv3, h⟩ := jbd h
      refine JW.cV (v := some (.int v4)) hM (m_X6_isOpen (jVX X) hM.1.2.2.2.2.2.2.2.2.2.1 N G J x2 v4 hv3) (sb_Mo_Mo_0 G J) (bi_Mo_Mo_0 G J) rfl rfl rfl kc_X6_285 rfl rfl rfl rfl rfl (jat hM.2.1 16 rfl) (st := [.int x1]) rfl ?_
      show JW X 0 0 26 [some (.ref 0), some (.int x1), some (.int x2)] [.int v4, .int x1] (hMo G J)
      refine js_ifeq (t := 43) hM.1 (jat hM.2.1 17 rfl) rfl (fun hc10 => ?_) (fun hc10 => ?_)
      · have h := (if_pos hc10).symm.trans h
        exact JW.mask [true, false, true] (t_X6_safe_b43 hM hp N J (p_X6_safe_b9 N J n) ih9 G x2 x1 h hq)
      · have h := (if_neg hc10).symm.trans h
        refine JW.r hM 18 2 (pc2 := 31) (L2 := [some (.ref 0), some (.int x1), some (.int x2)]) (st2 := [.int x2, .ref 0, .int x1]) (μ2 := (hMo G J)) rfl trivial ?_
        obtain ⟨v6, hv5, h⟩ := jbd h
        refine JW.cV (v := some (.int v6.1)) hM (m_X6_pledgeOf (jVX X) hM.1.2.2.2.2.2.2.2.2.2.1 N G J x2 v6 hv5) (sb_Mo_Mo_0 G J) (bk_Mo_Mo_0 G J v6.2 J) rfl rfl rfl kc_X6_294 rfl rfl rfl rfl rfl (jat hM.2.1 20 rfl) (st := [.int x1]) rfl ?_
        show JW X 0 0 34 [some (.ref 0), some (.int x1), some (.int x2)] [.int v6.1, .int x1] (hMo v6.2 J)
        obtain ⟨G7, e8, h⟩ := jlE h
        rw [e8]
        refine js_ifne (t := 43) hM.1 (jat hM.2.1 21 rfl) rfl (fun hc9 => ?_) (fun hc9 => ?_)
        · have h := (if_neg hc9).symm.trans h
          exact JW.mask [true, false, true] (t_X6_safe_b43 hM hp N J (p_X6_safe_b9 N J n) ih9 G7 x2 x1 h hq)
        · have h := (if_pos hc9).symm.trans h
          refine JW.r hM 22 4 (pc2 := 44) (L2 := [some (.ref 0), some (.int x1), some (.int x2)]) (st2 := [.int ((1 : Int32) <<< (x2 &&& 31)), .int x1]) (μ2 := (hMo G7 J)) rfl trivial ?_
          exact JW.mask [true, false, true] (t_X6_safe_b44 hM hp N J (p_X6_safe_b9 N J n) ih9 G7 x2 ((1 : Int32) <<< (x2 &&& 31)) x1 h hq)
set_option maxHeartbeats 4000000 in
set_option maxRecDepth 100000 in
theorem t_X6_safe {X : jX} {po : Option Value → jH → Prop} {px : String → jH → Prop} {sf : Bool} {B9 : Nat} (hM : jMX X kX6_safe RX6 tbX6 3 ⟨6, 0, 0, 142⟩ (some .int) 16) (hp : jPost X sf B9 po px) (N : Nat) (G : Nat → Nat → Int32) (J : Nat → Nat → Int64) {res : Int32 × (Nat → Nat → Int32)} (h : p_X6_safe N G J = some res) (hq : po (some (.int res.1)) (hMo res.2 J)) : JW X 0 0 0 [some (.ref 0), none, none] [] (hMo G J) := by
  unfold p_X6_safe at h
  obtain ⟨G1, e2, h⟩ := jlE h
  refine JW.r hM 0 3 (pc2 := 5) (L2 := [some (.ref 0), none, none]) (st2 := []) (μ2 := (hMo (jup G 0 5 (0 : Int32)) J)) rfl trivial ?_
  rw [e2]
  refine JW.r hM 3 4 (pc2 := 9) (L2 := [some (.ref 0), some (.int (0 : Int32)), some (.int (0 : Int32))]) (st2 := []) (μ2 := (hMo G1 J)) rfl trivial ?_
  exact t_X6_safe_b9 hM hp N J N G1 (0 : Int32) (0 : Int32) h hq
theorem m_X6_safe (V : jV) (hV : V.1.stackTraces = false) (N : Nat) (G : Nat → Nat → Int32) (J : Nat → Nat → Int64) (v : Int32 × (Nat → Nat → Int32)) (h : p_X6_safe N G J = some v) : jMet V yX6_safe (jws yX6_safe cX6_safe 3 (some .int)) ⟨6, 0, 0, 142⟩ true 1 [.ref 0] (hMo G J) (fun o ν => o = some (.int v.1) ∧ ν = (hMo v.2 J)) (fun _ _ => False) := by
  refine jmk (tb := tbX6) (C := kX6_safe) hV rfl (by decide) tbX6_ok rfl kX6_safe_ok rfl ?_
  intro X hM _ hp _
  exact t_X6_safe hM hp N G J h ⟨rfl, rfl⟩
def p_X6_pledge (N : Nat) (G : Nat → Nat → Int32) (J : Nat → Nat → Int64) (p0 : Int32) : Option (Int32 × (Nat → Nat → Int32)) :=
  jlt (jup G 0 5 (0 : Int32)) fun G1 => (p_X6_isDeed N G1 J (p0.toInt64)).bind (fun v4 => if v4 = 0 then ((p_X6_fails N G1 J (1 : Int32)).bind (fun v13 => jlt v13.2 fun G14 => some (v13.1, G14))) else ((p_X6_isOpen N G1 J p0).bind (fun v6 => if v6 = 0 then (some ((0 : Int32), G1)) else ((p_X6_pledgeOf N G1 J p0).bind (fun v8 => jlt v8.2 fun G9 => some (v8.1, G9))))))
set_option maxHeartbeats 4000000 in
set_option maxRecDepth 100000 in
theorem t_X6_pledge {X : jX} {po : Option Value → jH → Prop} {px : String → jH → Prop} {sf : Bool} {B9 : Nat} (hM : jMX X kX6_pledge RX6 tbX6 2 ⟨6, 0, 0, 142⟩ (some .int) 16) (hp : jPost X sf B9 po px) (N : Nat) (G : Nat → Nat → Int32) (J : Nat → Nat → Int64) (p0 : Int32) {res : Int32 × (Nat → Nat → Int32)} (h : p_X6_pledge N G J p0 = some res) (hq : po (some (.int res.1)) (hMo res.2 J)) : JW X 0 0 0 [some (.ref 0), some (.int p0)] [] (hMo G J) := by
  unfold p_X6_pledge at h
  obtain ⟨G1, e2, h⟩ := jlE h
  refine JW.r hM 0 3 (pc2 := 5) (L2 := [some (.ref 0), some (.int p0)]) (st2 := []) (μ2 := (hMo (jup G 0 5 (0 : Int32)) J)) rfl trivial ?_
  rw [e2]
  refine JW.r hM 3 3 (pc2 := 8) (L2 := [some (.ref 0), some (.int p0)]) (st2 := [.long (p0.toInt64), .ref 0]) (μ2 := (hMo G1 J)) rfl trivial ?_
  obtain ⟨v4, hv3, h⟩ := jbd h
  refine JW.cV (v := some (.int v4)) hM (m_X6_isDeed (jVX X) hM.1.2.2.2.2.2.2.2.2.2.1 N G1 J (p0.toInt64) v4 hv3) (sb_Mo_Mo_0 G1 J) (bi_Mo_Mo_0 G1 J) rfl rfl rfl kc_X6_230 rfl rfl rfl rfl rfl (jat hM.2.1 6 rfl) (st := []) rfl ?_
  show JW X 0 0 11 [some (.ref 0), some (.int p0)] [.int v4] (hMo G1 J)
  refine js_ifne (t := 20) hM.1 (jat hM.2.1 7 rfl) rfl (fun hc16 => ?_) (fun hc16 => ?_)
  · have h := (if_neg hc16).symm.trans h
    refine JW.r hM 12 2 (pc2 := 22) (L2 := [some (.ref 0), some (.int p0)]) (st2 := [.int p0, .ref 0]) (μ2 := (hMo G1 J)) rfl trivial ?_
    obtain ⟨v6, hv5, h⟩ := jbd h
    refine JW.cV (v := some (.int v6)) hM (m_X6_isOpen (jVX X) hM.1.2.2.2.2.2.2.2.2.2.1 N G1 J p0 v6 hv5) (sb_Mo_Mo_0 G1 J) (bi_Mo_Mo_0 G1 J) rfl rfl rfl kc_X6_285 rfl rfl rfl rfl rfl (jat hM.2.1 14 rfl) (st := []) rfl ?_
    show JW X 0 0 25 [some (.ref 0), some (.int p0)] [.int v6] (hMo G1 J)
    refine js_ifeq (t := 36) hM.1 (jat hM.2.1 15 rfl) rfl (fun hc11 => ?_) (fun hc11 => ?_)
    · have h := (if_pos hc11).symm.trans h
      refine JW.r hM 20 1 (pc2 := 37) (L2 := [some (.ref 0), some (.int p0)]) (st2 := [.int (0 : Int32)]) (μ2 := (hMo G1 J)) rfl trivial ?_
      obtain rfl := Option.some.inj h
      exact js_iret hM.1 hp hM.2.2.2.2.2.2.2.1 (by rw [hM.2.2.2.2.2.1]; exact Nat.le_of_ble_eq_true rfl) (by rw [hM.2.2.2.2.2.2.1]; exact Nat.le_of_ble_eq_true rfl) (jat hM.2.1 21 rfl) hq
    · have h := (if_neg hc11).symm.trans h
      refine JW.r hM 16 2 (pc2 := 30) (L2 := [some (.ref 0), some (.int p0)]) (st2 := [.int p0, .ref 0]) (μ2 := (hMo G1 J)) rfl trivial ?_
      obtain ⟨v8, hv7, h⟩ := jbd h
      refine JW.cV (v := some (.int v8.1)) hM (m_X6_pledgeOf (jVX X) hM.1.2.2.2.2.2.2.2.2.2.1 N G1 J p0 v8 hv7) (sb_Mo_Mo_0 G1 J) (bk_Mo_Mo_0 G1 J v8.2 J) rfl rfl rfl kc_X6_294 rfl rfl rfl rfl rfl (jat hM.2.1 18 rfl) (st := []) rfl ?_
      show JW X 0 0 33 [some (.ref 0), some (.int p0)] [.int v8.1] (hMo v8.2 J)
      obtain ⟨G9, e10, h⟩ := jlE h
      rw [e10]
      refine JW.r hM 19 1 (pc2 := 37) (L2 := [some (.ref 0), some (.int p0)]) (st2 := [.int v8.1]) (μ2 := (hMo G9 J)) rfl trivial ?_
      obtain rfl := Option.some.inj h
      exact js_iret hM.1 hp hM.2.2.2.2.2.2.2.1 (by rw [hM.2.2.2.2.2.1]; exact Nat.le_of_ble_eq_true rfl) (by rw [hM.2.2.2.2.2.2.1]; exact Nat.le_of_ble_eq_true rfl) (jat hM.2.1 21 rfl) hq
  · have h := (if_pos hc16).symm.trans h
    refine JW.r hM 8 2 (pc2 := 16) (L2 := [some (.ref 0), some (.int p0)]) (st2 := [.int (1 : Int32), .ref 0]) (μ2 := (hMo G1 J)) rfl trivial ?_
    obtain ⟨v13, hv12, h⟩ := jbd h
    refine JW.cV (v := some (.int v13.1)) hM (m_X6_fails (jVX X) hM.1.2.2.2.2.2.2.2.2.2.1 N G1 J (1 : Int32) v13 hv12) (sb_Mo_Mo_0 G1 J) (bk_Mo_Mo_0 G1 J v13.2 J) rfl rfl rfl kc_X6_170 rfl rfl rfl rfl rfl (jat hM.2.1 10 rfl) (st := []) rfl ?_
    show JW X 0 0 19 [some (.ref 0), some (.int p0)] [.int v13.1] (hMo v13.2 J)
    obtain ⟨G14, e15, h⟩ := jlE h
    rw [e15]
    obtain rfl := Option.some.inj h
    exact js_iret hM.1 hp hM.2.2.2.2.2.2.2.1 (by rw [hM.2.2.2.2.2.1]; exact Nat.le_of_ble_eq_true rfl) (by rw [hM.2.2.2.2.2.2.1]; exact Nat.le_of_ble_eq_true rfl) (jat hM.2.1 11 rfl) hq
theorem m_X6_pledge (V : jV) (hV : V.1.stackTraces = false) (N : Nat) (G : Nat → Nat → Int32) (J : Nat → Nat → Int64) (p0 : Int32) (v : Int32 × (Nat → Nat → Int32)) (h : p_X6_pledge N G J p0 = some v) : jMet V yX6_pledge (jws yX6_pledge cX6_pledge 2 (some .int)) ⟨6, 0, 0, 142⟩ true 1 [.ref 0, .int p0] (hMo G J) (fun o ν => o = some (.int v.1) ∧ ν = (hMo v.2 J)) (fun _ _ => False) := by
  refine jmk (tb := tbX6) (C := kX6_pledge) hV rfl (by decide) tbX6_ok rfl kX6_pledge_ok rfl ?_
  intro X hM _ hp _
  exact t_X6_pledge hM hp N G J p0 h ⟨rfl, rfl⟩
def p_X6_isTempted (N : Nat) (G : Nat → Nat → Int32) (J : Nat → Nat → Int64) (p0 : Int32) (p1 : Int32) : Option (Int32 × (Nat → Nat → Int32)) :=
  (p_X6_isOpen N G J p0).bind (fun v2 => if v2 = 0 then (some ((0 : Int32), G)) else ((p_X6_isOf N G J p0 p1).bind (fun v4 => if v4 = 0 then (some ((0 : Int32), G)) else ((p_X6_gainOf N G J p0 p1).bind (fun v6 => jlt v6.2 fun G7 => if v6.1 ≤ 0 then (some ((0 : Int32), G7)) else (some ((1 : Int32), G7)))))))
set_option maxHeartbeats 4000000 in
set_option maxRecDepth 100000 in
theorem t_X6_isTempted {X : jX} {po : Option Value → jH → Prop} {px : String → jH → Prop} {sf : Bool} {B9 : Nat} (hM : jMX X kX6_isTempted RX6 tbX6 3 ⟨5, 0, 0, 121⟩ (some .boolean) 16) (hp : jPost X sf B9 po px) (N : Nat) (G : Nat → Nat → Int32) (J : Nat → Nat → Int64) (p0 : Int32) (p1 : Int32) {res : Int32 × (Nat → Nat → Int32)} (h : p_X6_isTempted N G J p0 p1 = some res) (hq : po (some (.int res.1)) (hMo res.2 J)) : JW X 0 0 0 [some (.ref 0), some (.int p0), some (.int p1)] [] (hMo G J) := by
  unfold p_X6_isTempted at h
  refine JW.r hM 0 2 (pc2 := 2) (L2 := [some (.ref 0), some (.int p0), some (.int p1)]) (st2 := [.int p0, .ref 0]) (μ2 := (hMo G J)) rfl trivial ?_
  obtain ⟨v2, hv1, h⟩ := jbd h
  refine JW.cV (v := some (.int v2)) hM (m_X6_isOpen (jVX X) hM.1.2.2.2.2.2.2.2.2.2.1 N G J p0 v2 hv1) (sb_Mo_Mo_0 G J) (bi_Mo_Mo_0 G J) rfl rfl rfl kc_X6_285 rfl rfl rfl rfl rfl (jat hM.2.1 2 rfl) (st := []) rfl ?_
  show JW X 0 0 5 [some (.ref 0), some (.int p0), some (.int p1)] [.int v2] (hMo G J)
  refine js_ifeq (t := 30) hM.1 (jat hM.2.1 3 rfl) rfl (fun hc11 => ?_) (fun hc11 => ?_)
  · have h := (if_pos hc11).symm.trans h
    refine JW.r hM 16 1 (pc2 := 31) (L2 := [some (.ref 0), some (.int p0), some (.int p1)]) (st2 := [.int (0 : Int32)]) (μ2 := (hMo G J)) rfl trivial ?_
    obtain rfl := Option.some.inj h
    exact js_zret hM.1 hp hM.2.2.2.2.2.2.2.1 rfl (by rw [hM.2.2.2.2.2.1]; exact Nat.le_of_ble_eq_true rfl) (by rw [hM.2.2.2.2.2.2.1]; exact Nat.le_of_ble_eq_true rfl) (jat hM.2.1 17 rfl) hq
  · have h := (if_neg hc11).symm.trans h
    refine JW.r hM 4 3 (pc2 := 11) (L2 := [some (.ref 0), some (.int p0), some (.int p1)]) (st2 := [.int p1, .int p0, .ref 0]) (μ2 := (hMo G J)) rfl trivial ?_
    obtain ⟨v4, hv3, h⟩ := jbd h
    refine JW.cV (v := some (.int v4)) hM (m_X6_isOf (jVX X) hM.1.2.2.2.2.2.2.2.2.2.1 N G J p0 p1 v4 hv3) (sb_Mo_Mo_0 G J) (bi_Mo_Mo_0 G J) rfl rfl rfl kc_X6_246 rfl rfl rfl rfl rfl (jat hM.2.1 7 rfl) (st := []) rfl ?_
    show JW X 0 0 14 [some (.ref 0), some (.int p0), some (.int p1)] [.int v4] (hMo G J)
    refine js_ifeq (t := 30) hM.1 (jat hM.2.1 8 rfl) rfl (fun hc10 => ?_) (fun hc10 => ?_)
    · have h := (if_pos hc10).symm.trans h
      refine JW.r hM 16 1 (pc2 := 31) (L2 := [some (.ref 0), some (.int p0), some (.int p1)]) (st2 := [.int (0 : Int32)]) (μ2 := (hMo G J)) rfl trivial ?_
      obtain rfl := Option.some.inj h
      exact js_zret hM.1 hp hM.2.2.2.2.2.2.2.1 rfl (by rw [hM.2.2.2.2.2.1]; exact Nat.le_of_ble_eq_true rfl) (by rw [hM.2.2.2.2.2.2.1]; exact Nat.le_of_ble_eq_true rfl) (jat hM.2.1 17 rfl) hq
    · have h := (if_neg hc10).symm.trans h
      refine JW.r hM 9 3 (pc2 := 20) (L2 := [some (.ref 0), some (.int p0), some (.int p1)]) (st2 := [.int p1, .int p0, .ref 0]) (μ2 := (hMo G J)) rfl trivial ?_
      obtain ⟨v6, hv5, h⟩ := jbd h
      refine JW.cV (v := some (.int v6.1)) hM (m_X6_gainOf (jVX X) hM.1.2.2.2.2.2.2.2.2.2.1 N G J p0 p1 v6 hv5) (sb_Mo_Mo_0 G J) (bk_Mo_Mo_0 G J v6.2 J) rfl rfl rfl kc_X6_291 rfl rfl rfl rfl rfl (jat hM.2.1 12 rfl) (st := []) rfl ?_
      show JW X 0 0 23 [some (.ref 0), some (.int p0), some (.int p1)] [.int v6.1] (hMo v6.2 J)
      obtain ⟨G7, e8, h⟩ := jlE h
      rw [e8]
      refine js_ifle (t := 30) hM.1 (jat hM.2.1 13 rfl) rfl (fun hc9 => ?_) (fun hc9 => ?_)
      · have h := (if_pos hc9).symm.trans h
        refine JW.r hM 16 1 (pc2 := 31) (L2 := [some (.ref 0), some (.int p0), some (.int p1)]) (st2 := [.int (0 : Int32)]) (μ2 := (hMo G7 J)) rfl trivial ?_
        obtain rfl := Option.some.inj h
        exact js_zret hM.1 hp hM.2.2.2.2.2.2.2.1 rfl (by rw [hM.2.2.2.2.2.1]; exact Nat.le_of_ble_eq_true rfl) (by rw [hM.2.2.2.2.2.2.1]; exact Nat.le_of_ble_eq_true rfl) (jat hM.2.1 17 rfl) hq
      · have h := (if_neg hc9).symm.trans h
        refine JW.r hM 14 2 (pc2 := 31) (L2 := [some (.ref 0), some (.int p0), some (.int p1)]) (st2 := [.int (1 : Int32)]) (μ2 := (hMo G7 J)) rfl trivial ?_
        obtain rfl := Option.some.inj h
        exact js_zret hM.1 hp hM.2.2.2.2.2.2.2.1 rfl (by rw [hM.2.2.2.2.2.1]; exact Nat.le_of_ble_eq_true rfl) (by rw [hM.2.2.2.2.2.2.1]; exact Nat.le_of_ble_eq_true rfl) (jat hM.2.1 17 rfl) hq
theorem m_X6_isTempted (V : jV) (hV : V.1.stackTraces = false) (N : Nat) (G : Nat → Nat → Int32) (J : Nat → Nat → Int64) (p0 : Int32) (p1 : Int32) (v : Int32 × (Nat → Nat → Int32)) (h : p_X6_isTempted N G J p0 p1 = some v) : jMet V yX6_isTempted (jws yX6_isTempted cX6_isTempted 3 (some .boolean)) ⟨5, 0, 0, 121⟩ true 1 [.ref 0, .int p0, .int p1] (hMo G J) (fun o ν => o = some (.int v.1) ∧ ν = (hMo v.2 J)) (fun _ _ => False) := by
  refine jmk (tb := tbX6) (C := kX6_isTempted) hV rfl (by decide) tbX6_ok rfl kX6_isTempted_ok rfl ?_
  intro X hM _ hp _
  exact t_X6_isTempted hM hp N G J p0 p1 h ⟨rfl, rfl⟩
def p_X6_tempted_b49 (N : Nat) (J : Nat → Nat → Int64) (rv9 : (Nat → Nat → Int32) → Int32 → Int32 → Option (Int32 × (Nat → Nat → Int32))) (rv21 : (Nat → Nat → Int32) → Int32 → Int32 → Int32 → Option (Int32 × (Nat → Nat → Int32))) (G : Nat → Nat → Int32) (x2 : Int32) (x3 : Int32) (s0 : Int32) (s1 : Int32) : Option (Int32 × (Nat → Nat → Int32)) :=
  rv21 G (s1 ||| s0) x2 (x3 + 1)
def p_X6_tempted_b21 (N : Nat) (J : Nat → Nat → Int64) (rv9 : (Nat → Nat → Int32) → Int32 → Int32 → Option (Int32 × (Nat → Nat → Int32))) : Nat → (Nat → Nat → Int32) → (Int32) → (Int32) → (Int32) → Option (Int32 × (Nat → Nat → Int32))
  | 0, _, _, _, _ => none
  | n + 1, G, x1, x2, x3 => if (G 1 7) ≤ x3 then (rv9 G x1 (x2 + 1)) else ((p_X6_isTempted N G J x3 x2).bind (fun v4 => jlt v4.2 fun G5 => if v4.1 = 0 then (p_X6_tempted_b49 N J rv9 (p_X6_tempted_b21 N J rv9 n) G5 x2 x3 (0 : Int32) x1) else (p_X6_tempted_b49 N J rv9 (p_X6_tempted_b21 N J rv9 n) G5 x2 x3 ((1 : Int32) <<< (x2 &&& 31)) x1)))
def p_X6_tempted_b9 (N : Nat) (J : Nat → Nat → Int64) : Nat → (Nat → Nat → Int32) → (Int32) → (Int32) → Option (Int32 × (Nat → Nat → Int32))
  | 0, _, _, _ => none
  | n + 1, G, x1, x2 => if (G 1 1) ≤ x2 then (some (x1, G)) else (p_X6_tempted_b21 N J (p_X6_tempted_b9 N J n) N G x1 x2 (0 : Int32))
def p_X6_tempted (N : Nat) (G : Nat → Nat → Int32) (J : Nat → Nat → Int64) : Option (Int32 × (Nat → Nat → Int32)) :=
  jlt (jup G 0 5 (0 : Int32)) fun G1 => p_X6_tempted_b9 N J N G1 (0 : Int32) (0 : Int32)
set_option maxHeartbeats 4000000 in
set_option maxRecDepth 100000 in
theorem t_X6_tempted_b49 {X : jX} {po : Option Value → jH → Prop} {px : String → jH → Prop} {sf : Bool} {B9 : Nat} (hM : jMX X kX6_tempted RX6 tbX6 4 ⟨6, 0, 0, 143⟩ (some .int) 16) (hp : jPost X sf B9 po px) (N : Nat) (J : Nat → Nat → Int64) (rv9 : (Nat → Nat → Int32) → Int32 → Int32 → Option (Int32 × (Nat → Nat → Int32))) (rv21 : (Nat → Nat → Int32) → Int32 → Int32 → Int32 → Option (Int32 × (Nat → Nat → Int32))) {res : Int32 × (Nat → Nat → Int32)} (ih9 : ∀ (G : Nat → Nat → Int32) (x1 : Int32) (x2 : Int32), rv9 G x1 x2 = some res → JW X 0 0 9 [some (.ref 0), some (.int x1), some (.int x2), none] [] (hMo G J)) (ih21 : ∀ (G : Nat → Nat → Int32) (x1 : Int32) (x2 : Int32) (x3 : Int32), rv21 G x1 x2 x3 = some res → JW X 0 0 21 [some (.ref 0), some (.int x1), some (.int x2), some (.int x3)] [] (hMo G J)) (G : Nat → Nat → Int32) (x2 : Int32) (x3 : Int32) (s0 : Int32) (s1 : Int32) (h : p_X6_tempted_b49 N J rv9 rv21 G x2 x3 s0 s1 = some res) (hq : po (some (.int res.1)) (hMo res.2 J)) : JW X 0 0 49 [some (.ref 0), none, some (.int x2), some (.int x3)] [.int s0, .int s1] (hMo G J) := by
  unfold p_X6_tempted_b49 at h
  refine JW.r hM 32 4 (pc2 := 21) (L2 := [some (.ref 0), some (.int (s1 ||| s0)), some (.int x2), some (.int (x3 + 1))]) (st2 := []) (μ2 := (hMo G J)) rfl trivial ?_
  exact ih21 G (s1 ||| s0) x2 (x3 + 1) h
set_option maxHeartbeats 4000000 in
set_option maxRecDepth 100000 in
theorem t_X6_tempted_b21 {X : jX} {po : Option Value → jH → Prop} {px : String → jH → Prop} {sf : Bool} {B9 : Nat} (hM : jMX X kX6_tempted RX6 tbX6 4 ⟨6, 0, 0, 143⟩ (some .int) 16) (hp : jPost X sf B9 po px) (N : Nat) (J : Nat → Nat → Int64) (rv9 : (Nat → Nat → Int32) → Int32 → Int32 → Option (Int32 × (Nat → Nat → Int32))) {res : Int32 × (Nat → Nat → Int32)} (ih9 : ∀ (G : Nat → Nat → Int32) (x1 : Int32) (x2 : Int32), rv9 G x1 x2 = some res → JW X 0 0 9 [some (.ref 0), some (.int x1), some (.int x2), none] [] (hMo G J)) : ∀ (n : Nat) (G : Nat → Nat → Int32) (x1 : Int32) (x2 : Int32) (x3 : Int32) (h : p_X6_tempted_b21 N J rv9 n G x1 x2 x3 = some res) (hq : po (some (.int res.1)) (hMo res.2 J)), JW X 0 0 21 [some (.ref 0), some (.int x1), some (.int x2), some (.int x3)] [] (hMo G J) := by
  intro n
  induction n with
  | zero =>
    intro G x1 x2 x3 h hq
    cases (show (none : Option (Int32 × (Nat → Nat → Int32))) = some res from h)
  | succ n ih21 =>
    intro G x1 x2 x3 h hq
    have ih21 := fun G x1 x2 x3 h9 => ih21 G x1 x2 x3 h9 hq
    rw [p_X6_tempted_b21] at h
    refine JW.r hM 15 5 (pc2 := 29) (L2 := [some (.ref 0), some (.int x1), some (.int x2), some (.int x3)]) (st2 := [.int (G 1 7), .int x3]) (μ2 := (hMo G J)) rfl ⟨rfl, trivial⟩ ?_
    refine js_icge (t := 57) hM.1 (jat hM.2.1 20 rfl) rfl (fun hc8 => ?_) (fun hc8 => ?_)
    · have h := (if_pos hc8).symm.trans h
      refine JW.r hM 36 2 (pc2 := 9) (L2 := [some (.ref 0), some (.int x1), some (.int (x2 + 1)), some (.int x3)]) (st2 := []) (μ2 := (hMo G J)) rfl trivial ?_
      exact JW.mask [true, true, true, false] (ih9 G x1 (x2 + 1) h)
    · have h := (if_neg hc8).symm.trans h
      refine JW.r hM 21 4 (pc2 := 36) (L2 := [some (.ref 0), some (.int x1), some (.int x2), some (.int x3)]) (st2 := [.int x2, .int x3, .ref 0, .int x1]) (μ2 := (hMo G J)) rfl trivial ?_
      obtain ⟨v4, hv3, h⟩ := jbd h
      refine JW.cV (v := some (.int v4.1)) hM (m_X6_isTempted (jVX X) hM.1.2.2.2.2.2.2.2.2.2.1 N G J x3 x2 v4 hv3) (sb_Mo_Mo_0 G J) (bk_Mo_Mo_0 G J v4.2 J) rfl rfl rfl kc_X6_297 rfl rfl rfl rfl rfl (jat hM.2.1 25 rfl) (st := [.int x1]) rfl ?_
      show JW X 0 0 39 [some (.ref 0), some (.int x1), some (.int x2), some (.int x3)] [.int v4.1, .int x1] (hMo v4.2 J)
      obtain ⟨G5, e6, h⟩ := jlE h
      rw [e6]
      refine js_ifeq (t := 48) hM.1 (jat hM.2.1 26 rfl) rfl (fun hc7 => ?_) (fun hc7 => ?_)
      · have h := (if_pos hc7).symm.trans h
        refine JW.r hM 31 1 (pc2 := 49) (L2 := [some (.ref 0), some (.int x1), some (.int x2), some (.int x3)]) (st2 := [.int (0 : Int32), .int x1]) (μ2 := (hMo G5 J)) rfl trivial ?_
        exact JW.mask [true, false, true, true] (t_X6_tempted_b49 hM hp N J rv9 (p_X6_tempted_b21 N J rv9 n) ih9 ih21 G5 x2 x3 (0 : Int32) x1 h hq)
      · have h := (if_neg hc7).symm.trans h
        refine JW.r hM 27 4 (pc2 := 49) (L2 := [some (.ref 0), some (.int x1), some (.int x2), some (.int x3)]) (st2 := [.int ((1 : Int32) <<< (x2 &&& 31)), .int x1]) (μ2 := (hMo G5 J)) rfl trivial ?_
        exact JW.mask [true, false, true, true] (t_X6_tempted_b49 hM hp N J rv9 (p_X6_tempted_b21 N J rv9 n) ih9 ih21 G5 x2 x3 ((1 : Int32) <<< (x2 &&& 31)) x1 h hq)
set_option maxHeartbeats 4000000 in
set_option maxRecDepth 100000 in
theorem t_X6_tempted_b9 {X : jX} {po : Option Value → jH → Prop} {px : String → jH → Prop} {sf : Bool} {B9 : Nat} (hM : jMX X kX6_tempted RX6 tbX6 4 ⟨6, 0, 0, 143⟩ (some .int) 16) (hp : jPost X sf B9 po px) (N : Nat) (J : Nat → Nat → Int64) {res : Int32 × (Nat → Nat → Int32)} : ∀ (n : Nat) (G : Nat → Nat → Int32) (x1 : Int32) (x2 : Int32) (h : p_X6_tempted_b9 N J n G x1 x2 = some res) (hq : po (some (.int res.1)) (hMo res.2 J)), JW X 0 0 9 [some (.ref 0), some (.int x1), some (.int x2), none] [] (hMo G J) := by
  intro n
  induction n with
  | zero =>
    intro G x1 x2 h hq
    cases (show (none : Option (Int32 × (Nat → Nat → Int32))) = some res from h)
  | succ n ih9 =>
    intro G x1 x2 h hq
    have ih9 := fun G x1 x2 h9 => ih9 G x1 x2 h9 hq
    rw [p_X6_tempted_b9] at h
    refine JW.r hM 7 5 (pc2 := 16) (L2 := [some (.ref 0), some (.int x1), some (.int x2), none]) (st2 := [.int (G 1 1), .int x2]) (μ2 := (hMo G J)) rfl ⟨rfl, trivial⟩ ?_
    refine js_icge (t := 63) hM.1 (jat hM.2.1 12 rfl) rfl (fun hc9 => ?_) (fun hc9 => ?_)
    · have h := (if_pos hc9).symm.trans h
      refine JW.r hM 38 1 (pc2 := 64) (L2 := [some (.ref 0), some (.int x1), some (.int x2), none]) (st2 := [.int x1]) (μ2 := (hMo G J)) rfl trivial ?_
      obtain rfl := Option.some.inj h
      exact js_iret hM.1 hp hM.2.2.2.2.2.2.2.1 (by rw [hM.2.2.2.2.2.1]; exact Nat.le_of_ble_eq_true rfl) (by rw [hM.2.2.2.2.2.2.1]; exact Nat.le_of_ble_eq_true rfl) (jat hM.2.1 39 rfl) hq
    · have h := (if_neg hc9).symm.trans h
      refine JW.r hM 13 2 (pc2 := 21) (L2 := [some (.ref 0), some (.int x1), some (.int x2), some (.int (0 : Int32))]) (st2 := []) (μ2 := (hMo G J)) rfl trivial ?_
      exact t_X6_tempted_b21 hM hp N J (p_X6_tempted_b9 N J n) ih9 N G x1 x2 (0 : Int32) h hq
set_option maxHeartbeats 4000000 in
set_option maxRecDepth 100000 in
theorem t_X6_tempted {X : jX} {po : Option Value → jH → Prop} {px : String → jH → Prop} {sf : Bool} {B9 : Nat} (hM : jMX X kX6_tempted RX6 tbX6 4 ⟨6, 0, 0, 143⟩ (some .int) 16) (hp : jPost X sf B9 po px) (N : Nat) (G : Nat → Nat → Int32) (J : Nat → Nat → Int64) {res : Int32 × (Nat → Nat → Int32)} (h : p_X6_tempted N G J = some res) (hq : po (some (.int res.1)) (hMo res.2 J)) : JW X 0 0 0 [some (.ref 0), none, none, none] [] (hMo G J) := by
  unfold p_X6_tempted at h
  obtain ⟨G1, e2, h⟩ := jlE h
  refine JW.r hM 0 3 (pc2 := 5) (L2 := [some (.ref 0), none, none, none]) (st2 := []) (μ2 := (hMo (jup G 0 5 (0 : Int32)) J)) rfl trivial ?_
  rw [e2]
  refine JW.r hM 3 4 (pc2 := 9) (L2 := [some (.ref 0), some (.int (0 : Int32)), some (.int (0 : Int32)), none]) (st2 := []) (μ2 := (hMo G1 J)) rfl trivial ?_
  exact t_X6_tempted_b9 hM hp N J N G1 (0 : Int32) (0 : Int32) h hq
theorem m_X6_tempted (V : jV) (hV : V.1.stackTraces = false) (N : Nat) (G : Nat → Nat → Int32) (J : Nat → Nat → Int64) (v : Int32 × (Nat → Nat → Int32)) (h : p_X6_tempted N G J = some v) : jMet V yX6_tempted (jws yX6_tempted cX6_tempted 4 (some .int)) ⟨6, 0, 0, 143⟩ true 1 [.ref 0] (hMo G J) (fun o ν => o = some (.int v.1) ∧ ν = (hMo v.2 J)) (fun _ _ => False) := by
  refine jmk (tb := tbX6) (C := kX6_tempted) hV rfl (by decide) tbX6_ok rfl kX6_tempted_ok rfl ?_
  intro X hM _ hp _
  exact t_X6_tempted hM hp N G J h ⟨rfl, rfl⟩
def p_X6_unravel_b103 (N : Nat) (J : Nat → Nat → Int64) (rv7 : (Nat → Nat → Int32) → Int32 → Option (Int32 × (Nat → Nat → Int32))) (rv17 : (Nat → Nat → Int32) → Int32 → Int32 → Int32 → Int32 → Int32 → Option (Int32 × (Nat → Nat → Int32))) (rv32 : (Nat → Nat → Int32) → Int32 → Int32 → Int32 → Int32 → Int32 → Int32 → Option (Int32 × (Nat → Nat → Int32))) (G : Nat → Nat → Int32) (x1 : Int32) (x2 : Int32) (x3 : Int32) (x4 : Int32) (x5 : Int32) (x6 : Int32) : Option (Int32 × (Nat → Nat → Int32)) :=
  rv32 G x1 x2 x3 x4 x5 (x6 + 1)
def p_X6_unravel_b32 (N : Nat) (J : Nat → Nat → Int64) (rv7 : (Nat → Nat → Int32) → Int32 → Option (Int32 × (Nat → Nat → Int32))) (rv17 : (Nat → Nat → Int32) → Int32 → Int32 → Int32 → Int32 → Int32 → Option (Int32 × (Nat → Nat → Int32))) : Nat → (Nat → Nat → Int32) → (Int32) → (Int32) → (Int32) → (Int32) → (Int32) → (Int32) → Option (Int32 × (Nat → Nat → Int32))
  | 0, _, _, _, _, _, _, _ => none
  | n + 1, G, x1, x2, x3, x4, x5, x6 => if (2 : Int32) < x6 then (rv17 G x1 x2 x3 x4 (x5 + 1)) else ((p_X6_of N G J x5 x6).bind (fun v9 => (p_X6_isTempted N G J x5 v9).bind (fun v11 => jlt v11.2 fun G12 => if v11.1 = 0 then (p_X6_unravel_b103 N J rv7 rv17 (p_X6_unravel_b32 N J rv7 rv17 n) G12 x1 x2 x3 x4 x5 x6) else ((p_X6_whyNot N G12 J (x5.toInt64) v9).bind (fun v15 => jlt v15.2 fun G16 => if v15.1 = 0 then ((p_X6_gainOf N G16 J x5 v9).bind (fun v19 => jlt v19.2 fun G20 => if x4 < v19.1 then ((p_X6_gainOf N G20 J x5 v9).bind (fun v23 => jlt v23.2 fun G24 => p_X6_unravel_b103 N J rv7 rv17 (p_X6_unravel_b32 N J rv7 rv17 n) G24 x1 x5 v9 v23.1 x5 x6)) else (p_X6_unravel_b103 N J rv7 rv17 (p_X6_unravel_b32 N J rv7 rv17 n) G20 x1 x2 x3 x4 x5 x6))) else (p_X6_unravel_b103 N J rv7 rv17 (p_X6_unravel_b32 N J rv7 rv17 n) G16 x1 x2 x3 x4 x5 x6))))))
def p_X6_unravel_b17 (N : Nat) (J : Nat → Nat → Int64) (rv7 : (Nat → Nat → Int32) → Int32 → Option (Int32 × (Nat → Nat → Int32))) : Nat → (Nat → Nat → Int32) → (Int32) → (Int32) → (Int32) → (Int32) → (Int32) → Option (Int32 × (Nat → Nat → Int32))
  | 0, _, _, _, _, _, _ => none
  | n + 1, G, x1, x2, x3, x4, x5 => if (G 1 7) ≤ x5 then (if x2 = (-1 : Int32) then (some (x1, G)) else ((p_X6_undoes N G J x2 x3).bind (fun v4 => jlt v4.2 fun G5 => rv7 G5 (x1 + 1)))) else (p_X6_unravel_b32 N J rv7 (p_X6_unravel_b17 N J rv7 n) N G x1 x2 x3 x4 x5 (1 : Int32))
def p_X6_unravel_b7 (N : Nat) (J : Nat → Nat → Int64) : Nat → (Nat → Nat → Int32) → (Int32) → Option (Int32 × (Nat → Nat → Int32))
  | 0, _, _ => none
  | n + 1, G, x1 => p_X6_unravel_b17 N J (p_X6_unravel_b7 N J n) N G x1 (-1 : Int32) (-1 : Int32) (0 : Int32) (0 : Int32)
def p_X6_unravel (N : Nat) (G : Nat → Nat → Int32) (J : Nat → Nat → Int64) : Option (Int32 × (Nat → Nat → Int32)) :=
  jlt (jup G 0 5 (0 : Int32)) fun G1 => p_X6_unravel_b7 N J N G1 (0 : Int32)
set_option maxHeartbeats 4000000 in
set_option maxRecDepth 100000 in
theorem t_X6_unravel_b103 {X : jX} {po : Option Value → jH → Prop} {px : String → jH → Prop} {sf : Bool} {B9 : Nat} (hM : jMX X kX6_unravel RX6 tbX6 8 ⟨6, 0, 0, 143⟩ (some .int) 16) (hp : jPost X sf B9 po px) (N : Nat) (J : Nat → Nat → Int64) (rv7 : (Nat → Nat → Int32) → Int32 → Option (Int32 × (Nat → Nat → Int32))) (rv17 : (Nat → Nat → Int32) → Int32 → Int32 → Int32 → Int32 → Int32 → Option (Int32 × (Nat → Nat → Int32))) (rv32 : (Nat → Nat → Int32) → Int32 → Int32 → Int32 → Int32 → Int32 → Int32 → Option (Int32 × (Nat → Nat → Int32))) {res : Int32 × (Nat → Nat → Int32)} (ih7 : ∀ (G : Nat → Nat → Int32) (x1 : Int32), rv7 G x1 = some res → JW X 0 0 7 [some (.ref 0), some (.int x1), none, none, none, none, none, none] [] (hMo G J)) (ih17 : ∀ (G : Nat → Nat → Int32) (x1 : Int32) (x2 : Int32) (x3 : Int32) (x4 : Int32) (x5 : Int32), rv17 G x1 x2 x3 x4 x5 = some res → JW X 0 0 17 [some (.ref 0), some (.int x1), some (.int x2), some (.int x3), some (.int x4), some (.int x5), none, none] [] (hMo G J)) (ih32 : ∀ (G : Nat → Nat → Int32) (x1 : Int32) (x2 : Int32) (x3 : Int32) (x4 : Int32) (x5 : Int32) (x6 : Int32), rv32 G x1 x2 x3 x4 x5 x6 = some res → JW X 0 0 32 [some (.ref 0), some (.int x1), some (.int x2), some (.int x3), some (.int x4), some (.int x5), some (.int x6), none] [] (hMo G J)) (G : Nat → Nat → Int32) (x1 : Int32) (x2 : Int32) (x3 : Int32) (x4 : Int32) (x5 : Int32) (x6 : Int32) (h : p_X6_unravel_b103 N J rv7 rv17 rv32 G x1 x2 x3 x4 x5 x6 = some res) (hq : po (some (.int res.1)) (hMo res.2 J)) : JW X 0 0 103 [some (.ref 0), some (.int x1), some (.int x2), some (.int x3), some (.int x4), some (.int x5), some (.int x6), none] [] (hMo G J) := by
  unfold p_X6_unravel_b103 at h
  refine JW.r hM 56 2 (pc2 := 32) (L2 := [some (.ref 0), some (.int x1), some (.int x2), some (.int x3), some (.int x4), some (.int x5), some (.int (x6 + 1)), none]) (st2 := []) (μ2 := (hMo G J)) rfl trivial ?_
  exact ih32 G x1 x2 x3 x4 x5 (x6 + 1) h
set_option maxHeartbeats 4000000 in
set_option maxRecDepth 100000 in
theorem t_X6_unravel_b32 {X : jX} {po : Option Value → jH → Prop} {px : String → jH → Prop} {sf : Bool} {B9 : Nat} (hM : jMX X kX6_unravel RX6 tbX6 8 ⟨6, 0, 0, 143⟩ (some .int) 16) (hp : jPost X sf B9 po px) (N : Nat) (J : Nat → Nat → Int64) (rv7 : (Nat → Nat → Int32) → Int32 → Option (Int32 × (Nat → Nat → Int32))) (rv17 : (Nat → Nat → Int32) → Int32 → Int32 → Int32 → Int32 → Int32 → Option (Int32 × (Nat → Nat → Int32))) {res : Int32 × (Nat → Nat → Int32)} (ih7 : ∀ (G : Nat → Nat → Int32) (x1 : Int32), rv7 G x1 = some res → JW X 0 0 7 [some (.ref 0), some (.int x1), none, none, none, none, none, none] [] (hMo G J)) (ih17 : ∀ (G : Nat → Nat → Int32) (x1 : Int32) (x2 : Int32) (x3 : Int32) (x4 : Int32) (x5 : Int32), rv17 G x1 x2 x3 x4 x5 = some res → JW X 0 0 17 [some (.ref 0), some (.int x1), some (.int x2), some (.int x3), some (.int x4), some (.int x5), none, none] [] (hMo G J)) : ∀ (n : Nat) (G : Nat → Nat → Int32) (x1 : Int32) (x2 : Int32) (x3 : Int32) (x4 : Int32) (x5 : Int32) (x6 : Int32) (h : p_X6_unravel_b32 N J rv7 rv17 n G x1 x2 x3 x4 x5 x6 = some res) (hq : po (some (.int res.1)) (hMo res.2 J)), JW X 0 0 32 [some (.ref 0), some (.int x1), some (.int x2), some (.int x3), some (.int x4), some (.int x5), some (.int x6), none] [] (hMo G J) := by
  intro n
  induction n with
  | zero =>
    intro G x1 x2 x3 x4 x5 x6 h hq
    cases (show (none : Option (Int32 × (Nat → Nat → Int32))) = some res from h)
  | succ n ih32 =>
    intro G x1 x2 x3 x4 x5 x6 h hq
    have ih32 := fun G x1 x2 x3 x4 x5 x6 h9 => ih32 G x1 x2 x3 x4 x5 x6 h9 hq
    rw [p_X6_unravel_b32] at h
    refine JW.r hM 21 2 (pc2 := 35) (L2 := [some (.ref 0), some (.int x1), some (.int x2), some (.int x3), some (.int x4), some (.int x5), some (.int x6), none]) (st2 := [.int (2 : Int32), .int x6]) (μ2 := (hMo G J)) rfl trivial ?_
    refine js_icgt (t := 109) hM.1 (jat hM.2.1 23 rfl) rfl (fun hc29 => ?_) (fun hc29 => ?_)
    · have h := (if_pos hc29).symm.trans h
      refine JW.r hM 58 2 (pc2 := 17) (L2 := [some (.ref 0), some (.int x1), some (.int x2), some (.int x3), some (.int x4), some (.int (x5 + 1)), some (.int x6), none]) (st2 := []) (μ2 := (hMo G J)) rfl trivial ?_
      exact JW.mask [true, true, true, true, true, true, false, false] (ih17 G x1 x2 x3 x4 (x5 + 1) h)
    · have h := (if_neg hc29).symm.trans h
      refine JW.r hM 24 3 (pc2 := 43) (L2 := [some (.ref 0), some (.int x1), some (.int x2), some (.int x3), some (.int x4), some (.int x5), some (.int x6), none]) (st2 := [.int x6, .int x5, .ref 0]) (μ2 := (hMo G J)) rfl trivial ?_
      obtain ⟨v9, hv8, h⟩ := jbd h
      refine JW.cV (v := some (.int v9)) hM (m_X6_of (jVX X) hM.1.2.2.2.2.2.2.2.2.2.1 N G J x5 x6 v9 hv8) (sb_Mo_Mo_0 G J) (bi_Mo_Mo_0 G J) rfl rfl rfl kc_X6_208 rfl rfl rfl rfl rfl (jat hM.2.1 27 rfl) (st := []) rfl ?_
      show JW X 0 0 46 [some (.ref 0), some (.int x1), some (.int x2), some (.int x3), some (.int x4), some (.int x5), some (.int x6), none] [.int v9] (hMo G J)
      refine JW.r hM 28 4 (pc2 := 53) (L2 := [some (.ref 0), some (.int x1), some (.int x2), some (.int x3), some (.int x4), some (.int x5), some (.int x6), some (.int v9)]) (st2 := [.int v9, .int x5, .ref 0]) (μ2 := (hMo G J)) rfl trivial ?_
      obtain ⟨v11, hv10, h⟩ := jbd h
      refine JW.cV (v := some (.int v11.1)) hM (m_X6_isTempted (jVX X) hM.1.2.2.2.2.2.2.2.2.2.1 N G J x5 v9 v11 hv10) (sb_Mo_Mo_0 G J) (bk_Mo_Mo_0 G J v11.2 J) rfl rfl rfl kc_X6_297 rfl rfl rfl rfl rfl (jat hM.2.1 32 rfl) (st := []) rfl ?_
      show JW X 0 0 56 [some (.ref 0), some (.int x1), some (.int x2), some (.int x3), some (.int x4), some (.int x5), some (.int x6), some (.int v9)] [.int v11.1] (hMo v11.2 J)
      obtain ⟨G12, e13, h⟩ := jlE h
      rw [e13]
      refine js_ifeq (t := 103) hM.1 (jat hM.2.1 33 rfl) rfl (fun hc28 => ?_) (fun hc28 => ?_)
      · have h := (if_pos hc28).symm.trans h
        exact JW.mask [true, true, true, true, true, true, true, false] (t_X6_unravel_b103 hM hp N J rv7 rv17 (p_X6_unravel_b32 N J rv7 rv17 n) ih7 ih17 ih32 G12 x1 x2 x3 x4 x5 x6 h hq)
      · have h := (if_neg hc28).symm.trans h
        refine JW.r hM 34 4 (pc2 := 65) (L2 := [some (.ref 0), some (.int x1), some (.int x2), some (.int x3), some (.int x4), some (.int x5), some (.int x6), some (.int v9)]) (st2 := [.int v9, .long (x5.toInt64), .ref 0]) (μ2 := (hMo G12 J)) rfl trivial ?_
        obtain ⟨v15, hv14, h⟩ := jbd h
        refine JW.cV (v := some (.int v15.1)) hM (m_X6_whyNot (jVX X) hM.1.2.2.2.2.2.2.2.2.2.1 N G12 J (x5.toInt64) v9 v15 hv14) (sb_Mo_Mo_0 G12 J) (bk_Mo_Mo_0 G12 J v15.2 J) rfl rfl rfl kc_X6_253 rfl rfl rfl rfl rfl (jat hM.2.1 38 rfl) (st := []) rfl ?_
        show JW X 0 0 68 [some (.ref 0), some (.int x1), some (.int x2), some (.int x3), some (.int x4), some (.int x5), some (.int x6), some (.int v9)] [.int v15.1] (hMo v15.2 J)
        obtain ⟨G16, e17, h⟩ := jlE h
        rw [e17]
        refine js_ifne (t := 103) hM.1 (jat hM.2.1 39 rfl) rfl (fun hc27 => ?_) (fun hc27 => ?_)
        · have h := (if_neg hc27).symm.trans h
          exact JW.mask [true, true, true, true, true, true, true, false] (t_X6_unravel_b103 hM hp N J rv7 rv17 (p_X6_unravel_b32 N J rv7 rv17 n) ih7 ih17 ih32 G16 x1 x2 x3 x4 x5 x6 h hq)
        · have h := (if_pos hc27).symm.trans h
          refine JW.r hM 40 3 (pc2 := 76) (L2 := [some (.ref 0), some (.int x1), some (.int x2), some (.int x3), some (.int x4), some (.int x5), some (.int x6), some (.int v9)]) (st2 := [.int v9, .int x5, .ref 0]) (μ2 := (hMo G16 J)) rfl trivial ?_
          obtain ⟨v19, hv18, h⟩ := jbd h
          refine JW.cV (v := some (.int v19.1)) hM (m_X6_gainOf (jVX X) hM.1.2.2.2.2.2.2.2.2.2.1 N G16 J x5 v9 v19 hv18) (sb_Mo_Mo_0 G16 J) (bk_Mo_Mo_0 G16 J v19.2 J) rfl rfl rfl kc_X6_291 rfl rfl rfl rfl rfl (jat hM.2.1 43 rfl) (st := []) rfl ?_
          show JW X 0 0 79 [some (.ref 0), some (.int x1), some (.int x2), some (.int x3), some (.int x4), some (.int x5), some (.int x6), some (.int v9)] [.int v19.1] (hMo v19.2 J)
          obtain ⟨G20, e21, h⟩ := jlE h
          rw [e21]
          refine JW.r hM 44 1 (pc2 := 81) (L2 := [some (.ref 0), some (.int x1), some (.int x2), some (.int x3), some (.int x4), some (.int x5), some (.int x6), some (.int v9)]) (st2 := [.int x4, .int v19.1]) (μ2 := (hMo G20 J)) rfl trivial ?_
          refine js_icgt (t := 87) hM.1 (jat hM.2.1 45 rfl) rfl (fun hc26 => ?_) (fun hc26 => ?_)
          · have h := (if_pos hc26).symm.trans h
            refine JW.r hM 47 3 (pc2 := 92) (L2 := [some (.ref 0), some (.int x1), some (.int x2), some (.int x3), some (.int x4), some (.int x5), some (.int x6), some (.int v9)]) (st2 := [.int v9, .int x5, .ref 0]) (μ2 := (hMo G20 J)) rfl trivial ?_
            obtain ⟨v23, hv22, h⟩ := jbd h
            refine JW.cV (v := some (.int v23.1)) hM (m_X6_gainOf (jVX X) hM.1.2.2.2.2.2.2.2.2.2.1 N G20 J x5 v9 v23 hv22) (sb_Mo_Mo_0 G20 J) (bk_Mo_Mo_0 G20 J v23.2 J) rfl rfl rfl kc_X6_291 rfl rfl rfl rfl rfl (jat hM.2.1 50 rfl) (st := []) rfl ?_
            show JW X 0 0 95 [some (.ref 0), some (.int x1), some (.int x2), some (.int x3), some (.int x4), some (.int x5), some (.int x6), some (.int v9)] [.int v23.1] (hMo v23.2 J)
            obtain ⟨G24, e25, h⟩ := jlE h
            rw [e25]
            refine JW.r hM 51 5 (pc2 := 103) (L2 := [some (.ref 0), some (.int x1), some (.int x5), some (.int v9), some (.int v23.1), some (.int x5), some (.int x6), some (.int v9)]) (st2 := []) (μ2 := (hMo G24 J)) rfl trivial ?_
            exact JW.mask [true, true, true, true, true, true, true, false] (t_X6_unravel_b103 hM hp N J rv7 rv17 (p_X6_unravel_b32 N J rv7 rv17 n) ih7 ih17 ih32 G24 x1 x5 v9 v23.1 x5 x6 h hq)
          · have h := (if_neg hc26).symm.trans h
            refine JW.r hM 46 1 (pc2 := 103) (L2 := [some (.ref 0), some (.int x1), some (.int x2), some (.int x3), some (.int x4), some (.int x5), some (.int x6), some (.int v9)]) (st2 := []) (μ2 := (hMo G20 J)) rfl trivial ?_
            exact JW.mask [true, true, true, true, true, true, true, false] (t_X6_unravel_b103 hM hp N J rv7 rv17 (p_X6_unravel_b32 N J rv7 rv17 n) ih7 ih17 ih32 G20 x1 x2 x3 x4 x5 x6 h hq)
set_option maxHeartbeats 4000000 in
set_option maxRecDepth 100000 in
theorem t_X6_unravel_b17 {X : jX} {po : Option Value → jH → Prop} {px : String → jH → Prop} {sf : Bool} {B9 : Nat} (hM : jMX X kX6_unravel RX6 tbX6 8 ⟨6, 0, 0, 143⟩ (some .int) 16) (hp : jPost X sf B9 po px) (N : Nat) (J : Nat → Nat → Int64) (rv7 : (Nat → Nat → Int32) → Int32 → Option (Int32 × (Nat → Nat → Int32))) {res : Int32 × (Nat → Nat → Int32)} (ih7 : ∀ (G : Nat → Nat → Int32) (x1 : Int32), rv7 G x1 = some res → JW X 0 0 7 [some (.ref 0), some (.int x1), none, none, none, none, none, none] [] (hMo G J)) : ∀ (n : Nat) (G : Nat → Nat → Int32) (x1 : Int32) (x2 : Int32) (x3 : Int32) (x4 : Int32) (x5 : Int32) (h : p_X6_unravel_b17 N J rv7 n G x1 x2 x3 x4 x5 = some res) (hq : po (some (.int res.1)) (hMo res.2 J)), JW X 0 0 17 [some (.ref 0), some (.int x1), some (.int x2), some (.int x3), some (.int x4), some (.int x5), none, none] [] (hMo G J) := by
  intro n
  induction n with
  | zero =>
    intro G x1 x2 x3 x4 x5 h hq
    cases (show (none : Option (Int32 × (Nat → Nat → Int32))) = some res from h)
  | succ n ih17 =>
    intro G x1 x2 x3 x4 x5 h hq
    have ih17 := fun G x1 x2 x3 x4 x5 h9 => ih17 G x1 x2 x3 x4 x5 h9 hq
    rw [p_X6_unravel_b17] at h
    refine JW.r hM 13 5 (pc2 := 26) (L2 := [some (.ref 0), some (.int x1), some (.int x2), some (.int x3), some (.int x4), some (.int x5), none, none]) (st2 := [.int (G 1 7), .int x5]) (μ2 := (hMo G J)) rfl ⟨rfl, trivial⟩ ?_
    refine js_icge (t := 115) hM.1 (jat hM.2.1 18 rfl) rfl (fun hc30 => ?_) (fun hc30 => ?_)
    · have h := (if_pos hc30).symm.trans h
      refine JW.r hM 60 2 (pc2 := 117) (L2 := [some (.ref 0), some (.int x1), some (.int x2), some (.int x3), some (.int x4), some (.int x5), none, none]) (st2 := [.int (-1 : Int32), .int x2]) (μ2 := (hMo G J)) rfl trivial ?_
      refine js_icne (t := 122) hM.1 (jat hM.2.1 62 rfl) rfl (fun hc7 => ?_) (fun hc7 => ?_)
      · have h := (if_neg hc7).symm.trans h
        refine JW.r hM 65 3 (pc2 := 125) (L2 := [some (.ref 0), some (.int x1), some (.int x2), some (.int x3), some (.int x4), some (.int x5), none, none]) (st2 := [.int x3, .int x2, .ref 0]) (μ2 := (hMo G J)) rfl trivial ?_
        obtain ⟨v4, hv3, h⟩ := jbd h
        refine JW.cV (v := some (.int v4.1)) hM (m_X6_undoes (jVX X) hM.1.2.2.2.2.2.2.2.2.2.1 N G J x2 x3 v4 hv3) (sb_Mo_Mo_0 G J) (bk_Mo_Mo_0 G J v4.2 J) rfl rfl rfl kc_X6_250 rfl rfl rfl rfl rfl (jat hM.2.1 68 rfl) (st := []) rfl ?_
        show JW X 0 0 128 [some (.ref 0), some (.int x1), some (.int x2), some (.int x3), some (.int x4), some (.int x5), none, none] [.int v4.1] (hMo v4.2 J)
        obtain ⟨G5, e6, h⟩ := jlE h
        rw [e6]
        refine JW.r hM 69 3 (pc2 := 7) (L2 := [some (.ref 0), some (.int (x1 + 1)), some (.int x2), some (.int x3), some (.int x4), some (.int x5), none, none]) (st2 := []) (μ2 := (hMo G5 J)) rfl trivial ?_
        exact JW.mask [true, true, false, false, false, false, false, false] (ih7 G5 (x1 + 1) h)
      · have h := (if_pos hc7).symm.trans h
        refine JW.r hM 63 1 (pc2 := 121) (L2 := [some (.ref 0), some (.int x1), some (.int x2), some (.int x3), some (.int x4), some (.int x5), none, none]) (st2 := [.int x1]) (μ2 := (hMo G J)) rfl trivial ?_
        obtain rfl := Option.some.inj h
        exact js_iret hM.1 hp hM.2.2.2.2.2.2.2.1 (by rw [hM.2.2.2.2.2.1]; exact Nat.le_of_ble_eq_true rfl) (by rw [hM.2.2.2.2.2.2.1]; exact Nat.le_of_ble_eq_true rfl) (jat hM.2.1 64 rfl) hq
    · have h := (if_neg hc30).symm.trans h
      refine JW.r hM 19 2 (pc2 := 32) (L2 := [some (.ref 0), some (.int x1), some (.int x2), some (.int x3), some (.int x4), some (.int x5), some (.int (1 : Int32)), none]) (st2 := []) (μ2 := (hMo G J)) rfl trivial ?_
      exact t_X6_unravel_b32 hM hp N J rv7 (p_X6_unravel_b17 N J rv7 n) ih7 ih17 N G x1 x2 x3 x4 x5 (1 : Int32) h hq
set_option maxHeartbeats 4000000 in
set_option maxRecDepth 100000 in
theorem t_X6_unravel_b7 {X : jX} {po : Option Value → jH → Prop} {px : String → jH → Prop} {sf : Bool} {B9 : Nat} (hM : jMX X kX6_unravel RX6 tbX6 8 ⟨6, 0, 0, 143⟩ (some .int) 16) (hp : jPost X sf B9 po px) (N : Nat) (J : Nat → Nat → Int64) {res : Int32 × (Nat → Nat → Int32)} : ∀ (n : Nat) (G : Nat → Nat → Int32) (x1 : Int32) (h : p_X6_unravel_b7 N J n G x1 = some res) (hq : po (some (.int res.1)) (hMo res.2 J)), JW X 0 0 7 [some (.ref 0), some (.int x1), none, none, none, none, none, none] [] (hMo G J) := by
  intro n
  induction n with
  | zero =>
    intro G x1 h hq
    cases (show (none : Option (Int32 × (Nat → Nat → Int32))) = some res from h)
  | succ n ih7 =>
    intro G x1 h hq
    have ih7 := fun G x1 h9 => ih7 G x1 h9 hq
    rw [p_X6_unravel_b7] at h
    refine JW.r hM 5 8 (pc2 := 17) (L2 := [some (.ref 0), some (.int x1), some (.int (-1 : Int32)), some (.int (-1 : Int32)), some (.int (0 : Int32)), some (.int (0 : Int32)), none, none]) (st2 := []) (μ2 := (hMo G J)) rfl trivial ?_
    exact t_X6_unravel_b17 hM hp N J (p_X6_unravel_b7 N J n) ih7 N G x1 (-1 : Int32) (-1 : Int32) (0 : Int32) (0 : Int32) h hq
set_option maxHeartbeats 4000000 in
set_option maxRecDepth 100000 in
theorem t_X6_unravel {X : jX} {po : Option Value → jH → Prop} {px : String → jH → Prop} {sf : Bool} {B9 : Nat} (hM : jMX X kX6_unravel RX6 tbX6 8 ⟨6, 0, 0, 143⟩ (some .int) 16) (hp : jPost X sf B9 po px) (N : Nat) (G : Nat → Nat → Int32) (J : Nat → Nat → Int64) {res : Int32 × (Nat → Nat → Int32)} (h : p_X6_unravel N G J = some res) (hq : po (some (.int res.1)) (hMo res.2 J)) : JW X 0 0 0 [some (.ref 0), none, none, none, none, none, none, none] [] (hMo G J) := by
  unfold p_X6_unravel at h
  obtain ⟨G1, e2, h⟩ := jlE h
  refine JW.r hM 0 3 (pc2 := 5) (L2 := [some (.ref 0), none, none, none, none, none, none, none]) (st2 := []) (μ2 := (hMo (jup G 0 5 (0 : Int32)) J)) rfl trivial ?_
  rw [e2]
  refine JW.r hM 3 2 (pc2 := 7) (L2 := [some (.ref 0), some (.int (0 : Int32)), none, none, none, none, none, none]) (st2 := []) (μ2 := (hMo G1 J)) rfl trivial ?_
  exact t_X6_unravel_b7 hM hp N J N G1 (0 : Int32) h hq
theorem m_X6_unravel (V : jV) (hV : V.1.stackTraces = false) (N : Nat) (G : Nat → Nat → Int32) (J : Nat → Nat → Int64) (v : Int32 × (Nat → Nat → Int32)) (h : p_X6_unravel N G J = some v) : jMet V yX6_unravel (jws yX6_unravel cX6_unravel 8 (some .int)) ⟨6, 0, 0, 143⟩ true 1 [.ref 0] (hMo G J) (fun o ν => o = some (.int v.1) ∧ ν = (hMo v.2 J)) (fun _ _ => False) := by
  refine jmk (tb := tbX6) (C := kX6_unravel) hV rfl (by decide) tbX6_ok rfl kX6_unravel_ok rfl ?_
  intro X hM _ hp _
  exact t_X6_unravel hM hp N G J h ⟨rfl, rfl⟩

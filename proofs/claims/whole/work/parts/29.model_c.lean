def p_X6_debt_b145 (N : Nat) (J : Nat → Nat → Int64) (rv48 : (Nat → Nat → Int32) → Int32 → Int32 → Int32 → Int32 → Int32 → Option (Int32 × (Nat → Nat → Int32))) (G : Nat → Nat → Int32) (x1 : Int32) (x2 : Int32) (x3 : Int32) (x4 : Int32) (x5 : Int32) : Option (Int32 × (Nat → Nat → Int32)) :=
  rv48 G x1 x2 x3 x4 (x5 + 1)
def p_X6_debt_b138 (N : Nat) (J : Nat → Nat → Int64) (rv48 : (Nat → Nat → Int32) → Int32 → Int32 → Int32 → Int32 → Int32 → Option (Int32 × (Nat → Nat → Int32))) (G : Nat → Nat → Int32) (x1 : Int32) (x2 : Int32) (x5 : Int32) (x6 : Int32) : Option (Int32 × (Nat → Nat → Int32)) :=
  p_X6_debt_b145 N J rv48 G x1 x2 x6 x5 x5
def p_X6_debt_b88 (N : Nat) (J : Nat → Nat → Int64) (rv48 : (Nat → Nat → Int32) → Int32 → Int32 → Int32 → Int32 → Int32 → Option (Int32 × (Nat → Nat → Int32))) : Nat → (Nat → Nat → Int32) → (Int32) → (Int32) → (Int32) → (Int32) → (Int32) → (Int32) → (Int32) → Option (Int32 × (Nat → Nat → Int32))
  | 0, _, _, _, _, _, _, _, _ => none
  | n + 1, G, x1, x2, x3, x4, x5, x6, x7 => if (G 1 1) ≤ x7 then (if x4 = (-1 : Int32) then (p_X6_debt_b138 N J rv48 G x1 x2 x5 x6) else (if x3 < x6 then (p_X6_debt_b138 N J rv48 G x1 x2 x5 x6) else (p_X6_debt_b145 N J rv48 G x1 x2 x3 x4 x5))) else ((p_X6_fallsOf N G J x5).bind (fun v15 => (p_X6_pays N G J v15 x1 x7).bind (fun v17 => (p_X6_debt_b88 N J rv48 n) G x1 x2 x3 x4 x5 (x6 + v17) (x7 + 1))))
def p_X6_debt_b48 (N : Nat) (J : Nat → Nat → Int64) : Nat → (Nat → Nat → Int32) → (Int32) → (Int32) → (Int32) → (Int32) → (Int32) → Option (Int32 × (Nat → Nat → Int32))
  | 0, _, _, _, _, _, _ => none
  | n + 1, G, x1, x2, x3, x4, x5 => if (G 1 7) ≤ x5 then (if x2 = 0 then (some (x3, G)) else (some (x4, G))) else ((p_X6_isOpen N G J x5).bind (fun v9 => if v9 = 0 then (p_X6_debt_b145 N J (p_X6_debt_b48 N J n) G x1 x2 x3 x4 x5) else ((p_X6_isOf N G J x5 x1).bind (fun v11 => if v11 = 0 then (p_X6_debt_b145 N J (p_X6_debt_b48 N J n) G x1 x2 x3 x4 x5) else (p_X6_debt_b88 N J (p_X6_debt_b48 N J n) N G x1 x2 x3 x4 x5 (0 : Int32) (0 : Int32))))))
def p_X6_debt_b28 (N : Nat) (J : Nat → Nat → Int64) (G : Nat → Nat → Int32) (x1 : Int32) (x2 : Int32) (s0 : Int32) : Option (Int32 × (Nat → Nat → Int32)) :=
  jlt (jup G 0 5 s0) fun G5 => if (G5 0 5) ≤ 0 then (p_X6_debt_b48 N J N G5 x1 x2 (0 : Int32) (-1 : Int32) (0 : Int32)) else (some ((0 : Int32), G5))
def p_X6_debt (N : Nat) (G : Nat → Nat → Int32) (J : Nat → Nat → Int64) (p0 : Int32) (p1 : Int32) : Option (Int32 × (Nat → Nat → Int32)) :=
  (p_X6_isPerson N G J p0).bind (fun v2 => if v2 = 0 then (p_X6_debt_b28 N J G p0 p1 (1 : Int32)) else ((p_X6_within N (p1.toInt64) (0 : Int64) (1 : Int64)).bind (fun v4 => if v4 = 0 then (p_X6_debt_b28 N J G p0 p1 (2 : Int32)) else (p_X6_debt_b28 N J G p0 p1 (0 : Int32)))))
set_option maxHeartbeats 4000000 in
set_option maxRecDepth 100000 in
theorem t_X6_debt_b145 {X : jX} {po : Option Value → jH → Prop} {px : String → jH → Prop} {sf : Bool} {B9 : Nat} (hM : jMX X kX6_debt RX6 tbX6 8 ⟨3, 0, 0, 71⟩ (some .int) 16) (hp : jPost X sf B9 po px) (N : Nat) (J : Nat → Nat → Int64) (rv48 : (Nat → Nat → Int32) → Int32 → Int32 → Int32 → Int32 → Int32 → Option (Int32 × (Nat → Nat → Int32))) {res : Int32 × (Nat → Nat → Int32)} (ih48 : ∀ (G : Nat → Nat → Int32) (x1 : Int32) (x2 : Int32) (x3 : Int32) (x4 : Int32) (x5 : Int32), rv48 G x1 x2 x3 x4 x5 = some res → JW X 0 0 48 [some (.ref 0), some (.int x1), some (.int x2), some (.int x3), some (.int x4), some (.int x5), none, none] [] (hMo G J)) (G : Nat → Nat → Int32) (x1 : Int32) (x2 : Int32) (x3 : Int32) (x4 : Int32) (x5 : Int32) (h : p_X6_debt_b145 N J rv48 G x1 x2 x3 x4 x5 = some res) (hq : po (some (.int res.1)) (hMo res.2 J)) : JW X 0 0 145 [some (.ref 0), some (.int x1), some (.int x2), some (.int x3), some (.int x4), some (.int x5), none, none] [] (hMo G J) := by
  unfold p_X6_debt_b145 at h
  refine JW.r hM 77 2 (pc2 := 48) (L2 := [some (.ref 0), some (.int x1), some (.int x2), some (.int x3), some (.int x4), some (.int (x5 + 1)), none, none]) (st2 := []) (μ2 := (hMo G J)) rfl trivial ?_
  exact ih48 G x1 x2 x3 x4 (x5 + 1) h
set_option maxHeartbeats 4000000 in
set_option maxRecDepth 100000 in
theorem t_X6_debt_b138 {X : jX} {po : Option Value → jH → Prop} {px : String → jH → Prop} {sf : Bool} {B9 : Nat} (hM : jMX X kX6_debt RX6 tbX6 8 ⟨3, 0, 0, 71⟩ (some .int) 16) (hp : jPost X sf B9 po px) (N : Nat) (J : Nat → Nat → Int64) (rv48 : (Nat → Nat → Int32) → Int32 → Int32 → Int32 → Int32 → Int32 → Option (Int32 × (Nat → Nat → Int32))) {res : Int32 × (Nat → Nat → Int32)} (ih48 : ∀ (G : Nat → Nat → Int32) (x1 : Int32) (x2 : Int32) (x3 : Int32) (x4 : Int32) (x5 : Int32), rv48 G x1 x2 x3 x4 x5 = some res → JW X 0 0 48 [some (.ref 0), some (.int x1), some (.int x2), some (.int x3), some (.int x4), some (.int x5), none, none] [] (hMo G J)) (G : Nat → Nat → Int32) (x1 : Int32) (x2 : Int32) (x5 : Int32) (x6 : Int32) (h : p_X6_debt_b138 N J rv48 G x1 x2 x5 x6 = some res) (hq : po (some (.int res.1)) (hMo res.2 J)) : JW X 0 0 138 [some (.ref 0), some (.int x1), some (.int x2), none, none, some (.int x5), some (.int x6), none] [] (hMo G J) := by
  unfold p_X6_debt_b138 at h
  refine JW.r hM 73 4 (pc2 := 145) (L2 := [some (.ref 0), some (.int x1), some (.int x2), some (.int x6), some (.int x5), some (.int x5), some (.int x6), none]) (st2 := []) (μ2 := (hMo G J)) rfl trivial ?_
  exact JW.mask [true, true, true, true, true, true, false, false] (t_X6_debt_b145 hM hp N J rv48 ih48 G x1 x2 x6 x5 x5 h hq)
set_option maxHeartbeats 4000000 in
set_option maxRecDepth 100000 in
theorem t_X6_debt_b88 {X : jX} {po : Option Value → jH → Prop} {px : String → jH → Prop} {sf : Bool} {B9 : Nat} (hM : jMX X kX6_debt RX6 tbX6 8 ⟨3, 0, 0, 71⟩ (some .int) 16) (hp : jPost X sf B9 po px) (N : Nat) (J : Nat → Nat → Int64) (rv48 : (Nat → Nat → Int32) → Int32 → Int32 → Int32 → Int32 → Int32 → Option (Int32 × (Nat → Nat → Int32))) {res : Int32 × (Nat → Nat → Int32)} (ih48 : ∀ (G : Nat → Nat → Int32) (x1 : Int32) (x2 : Int32) (x3 : Int32) (x4 : Int32) (x5 : Int32), rv48 G x1 x2 x3 x4 x5 = some res → JW X 0 0 48 [some (.ref 0), some (.int x1), some (.int x2), some (.int x3), some (.int x4), some (.int x5), none, none] [] (hMo G J)) : ∀ (n : Nat) (G : Nat → Nat → Int32) (x1 : Int32) (x2 : Int32) (x3 : Int32) (x4 : Int32) (x5 : Int32) (x6 : Int32) (x7 : Int32) (h : p_X6_debt_b88 N J rv48 n G x1 x2 x3 x4 x5 x6 x7 = some res) (hq : po (some (.int res.1)) (hMo res.2 J)), JW X 0 0 88 [some (.ref 0), some (.int x1), some (.int x2), some (.int x3), some (.int x4), some (.int x5), some (.int x6), some (.int x7)] [] (hMo G J) := by
  intro n
  induction n with
  | zero =>
    intro G x1 x2 x3 x4 x5 x6 x7 h hq
    cases (show (none : Option (Int32 × (Nat → Nat → Int32))) = some res from h)
  | succ n ih88 =>
    intro G x1 x2 x3 x4 x5 x6 x7 h hq
    have ih88 := fun G x1 x2 x3 x4 x5 x6 x7 h9 => ih88 G x1 x2 x3 x4 x5 x6 x7 h9 hq
    rw [p_X6_debt_b88] at h
    refine JW.r hM 48 5 (pc2 := 96) (L2 := [some (.ref 0), some (.int x1), some (.int x2), some (.int x3), some (.int x4), some (.int x5), some (.int x6), some (.int x7)]) (st2 := [.int (G 1 1), .int x7]) (μ2 := (hMo G J)) rfl ⟨rfl, trivial⟩ ?_
    refine js_icge (t := 123) hM.1 (jat hM.2.1 53 rfl) rfl (fun hc18 => ?_) (fun hc18 => ?_)
    · have h := (if_pos hc18).symm.trans h
      refine JW.r hM 66 2 (pc2 := 126) (L2 := [some (.ref 0), some (.int x1), some (.int x2), some (.int x3), some (.int x4), some (.int x5), some (.int x6), some (.int x7)]) (st2 := [.int (-1 : Int32), .int x4]) (μ2 := (hMo G J)) rfl trivial ?_
      refine js_iceq (t := 138) hM.1 (jat hM.2.1 68 rfl) rfl (fun hc13 => ?_) (fun hc13 => ?_)
      · have h := (if_pos hc13).symm.trans h
        exact JW.mask [true, true, true, false, false, true, true, false] (t_X6_debt_b138 hM hp N J rv48 ih48 G x1 x2 x5 x6 h hq)
      · have h := (if_neg hc13).symm.trans h
        refine JW.r hM 69 2 (pc2 := 132) (L2 := [some (.ref 0), some (.int x1), some (.int x2), some (.int x3), some (.int x4), some (.int x5), some (.int x6), some (.int x7)]) (st2 := [.int x3, .int x6]) (μ2 := (hMo G J)) rfl trivial ?_
        refine js_icgt (t := 138) hM.1 (jat hM.2.1 71 rfl) rfl (fun hc12 => ?_) (fun hc12 => ?_)
        · have h := (if_pos hc12).symm.trans h
          exact JW.mask [true, true, true, false, false, true, true, false] (t_X6_debt_b138 hM hp N J rv48 ih48 G x1 x2 x5 x6 h hq)
        · have h := (if_neg hc12).symm.trans h
          refine JW.r hM 72 1 (pc2 := 145) (L2 := [some (.ref 0), some (.int x1), some (.int x2), some (.int x3), some (.int x4), some (.int x5), some (.int x6), some (.int x7)]) (st2 := []) (μ2 := (hMo G J)) rfl trivial ?_
          exact JW.mask [true, true, true, true, true, true, false, false] (t_X6_debt_b145 hM hp N J rv48 ih48 G x1 x2 x3 x4 x5 h hq)
    · have h := (if_neg hc18).symm.trans h
      refine JW.r hM 54 4 (pc2 := 105) (L2 := [some (.ref 0), some (.int x1), some (.int x2), some (.int x3), some (.int x4), some (.int x5), some (.int x6), some (.int x7)]) (st2 := [.int x5, .ref 0, .ref 0, .int x6]) (μ2 := (hMo G J)) rfl trivial ?_
      obtain ⟨v15, hv14, h⟩ := jbd h
      refine JW.cV (v := some (.int v15)) hM (m_X6_fallsOf (jVX X) hM.1.2.2.2.2.2.2.2.2.2.1 N G J x5 v15 hv14) (sb_Mo_Mo_0 G J) (bi_Mo_Mo_0 G J) rfl rfl rfl kc_X6_240 rfl rfl rfl rfl rfl (jat hM.2.1 58 rfl) (st := [.ref 0, .int x6]) rfl ?_
      show JW X 0 0 108 [some (.ref 0), some (.int x1), some (.int x2), some (.int x3), some (.int x4), some (.int x5), some (.int x6), some (.int x7)] [.int v15, .ref 0, .int x6] (hMo G J)
      refine JW.r hM 59 2 (pc2 := 111) (L2 := [some (.ref 0), some (.int x1), some (.int x2), some (.int x3), some (.int x4), some (.int x5), some (.int x6), some (.int x7)]) (st2 := [.int x7, .int x1, .int v15, .ref 0, .int x6]) (μ2 := (hMo G J)) rfl trivial ?_
      obtain ⟨v17, hv16, h⟩ := jbd h
      refine JW.cV (v := some (.int v17)) hM (m_X6_pays (jVX X) hM.1.2.2.2.2.2.2.2.2.2.1 N G J v15 x1 x7 v17 hv16) (sb_Mo_Mo_0 G J) (bi_Mo_Mo_0 G J) rfl rfl rfl kc_X6_243 rfl rfl rfl rfl rfl (jat hM.2.1 61 rfl) (st := [.int x6]) rfl ?_
      show JW X 0 0 114 [some (.ref 0), some (.int x1), some (.int x2), some (.int x3), some (.int x4), some (.int x5), some (.int x6), some (.int x7)] [.int v17, .int x6] (hMo G J)
      refine JW.r hM 62 4 (pc2 := 88) (L2 := [some (.ref 0), some (.int x1), some (.int x2), some (.int x3), some (.int x4), some (.int x5), some (.int (x6 + v17)), some (.int (x7 + 1))]) (st2 := []) (μ2 := (hMo G J)) rfl trivial ?_
      exact ih88 G x1 x2 x3 x4 x5 (x6 + v17) (x7 + 1) h
set_option maxHeartbeats 4000000 in
set_option maxRecDepth 100000 in
theorem t_X6_debt_b48 {X : jX} {po : Option Value → jH → Prop} {px : String → jH → Prop} {sf : Bool} {B9 : Nat} (hM : jMX X kX6_debt RX6 tbX6 8 ⟨3, 0, 0, 71⟩ (some .int) 16) (hp : jPost X sf B9 po px) (N : Nat) (J : Nat → Nat → Int64) {res : Int32 × (Nat → Nat → Int32)} : ∀ (n : Nat) (G : Nat → Nat → Int32) (x1 : Int32) (x2 : Int32) (x3 : Int32) (x4 : Int32) (x5 : Int32) (h : p_X6_debt_b48 N J n G x1 x2 x3 x4 x5 = some res) (hq : po (some (.int res.1)) (hMo res.2 J)), JW X 0 0 48 [some (.ref 0), some (.int x1), some (.int x2), some (.int x3), some (.int x4), some (.int x5), none, none] [] (hMo G J) := by
  intro n
  induction n with
  | zero =>
    intro G x1 x2 x3 x4 x5 h hq
    cases (show (none : Option (Int32 × (Nat → Nat → Int32))) = some res from h)
  | succ n ih48 =>
    intro G x1 x2 x3 x4 x5 h hq
    have ih48 := fun G x1 x2 x3 x4 x5 h9 => ih48 G x1 x2 x3 x4 x5 h9 hq
    rw [p_X6_debt_b48] at h
    refine JW.r hM 28 5 (pc2 := 57) (L2 := [some (.ref 0), some (.int x1), some (.int x2), some (.int x3), some (.int x4), some (.int x5), none, none]) (st2 := [.int (G 1 7), .int x5]) (μ2 := (hMo G J)) rfl ⟨rfl, trivial⟩ ?_
    refine js_icge (t := 151) hM.1 (jat hM.2.1 33 rfl) rfl (fun hc21 => ?_) (fun hc21 => ?_)
    · have h := (if_pos hc21).symm.trans h
      refine JW.r hM 79 1 (pc2 := 152) (L2 := [some (.ref 0), some (.int x1), some (.int x2), some (.int x3), some (.int x4), some (.int x5), none, none]) (st2 := [.int x2]) (μ2 := (hMo G J)) rfl trivial ?_
      refine js_ifne (t := 159) hM.1 (jat hM.2.1 80 rfl) rfl (fun hc7 => ?_) (fun hc7 => ?_)
      · have h := (if_neg hc7).symm.trans h
        refine JW.r hM 83 1 (pc2 := 161) (L2 := [some (.ref 0), some (.int x1), some (.int x2), some (.int x3), some (.int x4), some (.int x5), none, none]) (st2 := [.int x4]) (μ2 := (hMo G J)) rfl trivial ?_
        obtain rfl := Option.some.inj h
        exact js_iret hM.1 hp hM.2.2.2.2.2.2.2.1 (by rw [hM.2.2.2.2.2.1]; exact Nat.le_of_ble_eq_true rfl) (by rw [hM.2.2.2.2.2.2.1]; exact Nat.le_of_ble_eq_true rfl) (jat hM.2.1 84 rfl) hq
      · have h := (if_pos hc7).symm.trans h
        refine JW.r hM 81 2 (pc2 := 161) (L2 := [some (.ref 0), some (.int x1), some (.int x2), some (.int x3), some (.int x4), some (.int x5), none, none]) (st2 := [.int x3]) (μ2 := (hMo G J)) rfl trivial ?_
        obtain rfl := Option.some.inj h
        exact js_iret hM.1 hp hM.2.2.2.2.2.2.2.1 (by rw [hM.2.2.2.2.2.1]; exact Nat.le_of_ble_eq_true rfl) (by rw [hM.2.2.2.2.2.2.1]; exact Nat.le_of_ble_eq_true rfl) (jat hM.2.1 84 rfl) hq
    · have h := (if_neg hc21).symm.trans h
      refine JW.r hM 34 2 (pc2 := 63) (L2 := [some (.ref 0), some (.int x1), some (.int x2), some (.int x3), some (.int x4), some (.int x5), none, none]) (st2 := [.int x5, .ref 0]) (μ2 := (hMo G J)) rfl trivial ?_
      obtain ⟨v9, hv8, h⟩ := jbd h
      refine JW.cV (v := some (.int v9)) hM (m_X6_isOpen (jVX X) hM.1.2.2.2.2.2.2.2.2.2.1 N G J x5 v9 hv8) (sb_Mo_Mo_0 G J) (bi_Mo_Mo_0 G J) rfl rfl rfl kc_X6_285 rfl rfl rfl rfl rfl (jat hM.2.1 36 rfl) (st := []) rfl ?_
      show JW X 0 0 66 [some (.ref 0), some (.int x1), some (.int x2), some (.int x3), some (.int x4), some (.int x5), none, none] [.int v9] (hMo G J)
      refine js_ifeq (t := 145) hM.1 (jat hM.2.1 37 rfl) rfl (fun hc20 => ?_) (fun hc20 => ?_)
      · have h := (if_pos hc20).symm.trans h
        exact t_X6_debt_b145 hM hp N J (p_X6_debt_b48 N J n) ih48 G x1 x2 x3 x4 x5 h hq
      · have h := (if_neg hc20).symm.trans h
        refine JW.r hM 38 3 (pc2 := 73) (L2 := [some (.ref 0), some (.int x1), some (.int x2), some (.int x3), some (.int x4), some (.int x5), none, none]) (st2 := [.int x1, .int x5, .ref 0]) (μ2 := (hMo G J)) rfl trivial ?_
        obtain ⟨v11, hv10, h⟩ := jbd h
        refine JW.cV (v := some (.int v11)) hM (m_X6_isOf (jVX X) hM.1.2.2.2.2.2.2.2.2.2.1 N G J x5 x1 v11 hv10) (sb_Mo_Mo_0 G J) (bi_Mo_Mo_0 G J) rfl rfl rfl kc_X6_246 rfl rfl rfl rfl rfl (jat hM.2.1 41 rfl) (st := []) rfl ?_
        show JW X 0 0 76 [some (.ref 0), some (.int x1), some (.int x2), some (.int x3), some (.int x4), some (.int x5), none, none] [.int v11] (hMo G J)
        refine js_ifne (t := 82) hM.1 (jat hM.2.1 42 rfl) rfl (fun hc19 => ?_) (fun hc19 => ?_)
        · have h := (if_neg hc19).symm.trans h
          refine JW.r hM 44 4 (pc2 := 88) (L2 := [some (.ref 0), some (.int x1), some (.int x2), some (.int x3), some (.int x4), some (.int x5), some (.int (0 : Int32)), some (.int (0 : Int32))]) (st2 := []) (μ2 := (hMo G J)) rfl trivial ?_
          exact t_X6_debt_b88 hM hp N J (p_X6_debt_b48 N J n) ih48 N G x1 x2 x3 x4 x5 (0 : Int32) (0 : Int32) h hq
        · have h := (if_pos hc19).symm.trans h
          refine JW.r hM 43 1 (pc2 := 145) (L2 := [some (.ref 0), some (.int x1), some (.int x2), some (.int x3), some (.int x4), some (.int x5), none, none]) (st2 := []) (μ2 := (hMo G J)) rfl trivial ?_
          exact t_X6_debt_b145 hM hp N J (p_X6_debt_b48 N J n) ih48 G x1 x2 x3 x4 x5 h hq
set_option maxHeartbeats 4000000 in
set_option maxRecDepth 100000 in
theorem t_X6_debt_b28 {X : jX} {po : Option Value → jH → Prop} {px : String → jH → Prop} {sf : Bool} {B9 : Nat} (hM : jMX X kX6_debt RX6 tbX6 8 ⟨3, 0, 0, 71⟩ (some .int) 16) (hp : jPost X sf B9 po px) (N : Nat) (J : Nat → Nat → Int64) {res : Int32 × (Nat → Nat → Int32)} (G : Nat → Nat → Int32) (x1 : Int32) (x2 : Int32) (s0 : Int32) (h : p_X6_debt_b28 N J G x1 x2 s0 = some res) (hq : po (some (.int res.1)) (hMo res.2 J)) : JW X 0 0 28 [some (.ref 0), some (.int x1), some (.int x2), none, none, none, none, none] [.int s0, .ref 0] (hMo G J) := by
  unfold p_X6_debt_b28 at h
  obtain ⟨G5, e6, h⟩ := jlE h
  refine JW.r hM 16 1 (pc2 := 31) (L2 := [some (.ref 0), some (.int x1), some (.int x2), none, none, none, none, none]) (st2 := []) (μ2 := (hMo (jup G 0 5 s0) J)) rfl trivial ?_
  rw [e6]
  refine JW.r hM 17 2 (pc2 := 35) (L2 := [some (.ref 0), some (.int x1), some (.int x2), none, none, none, none, none]) (st2 := [.int (G5 0 5)]) (μ2 := (hMo G5 J)) rfl trivial ?_
  refine js_ifle (t := 40) hM.1 (jat hM.2.1 19 rfl) rfl (fun hc22 => ?_) (fun hc22 => ?_)
  · have h := (if_pos hc22).symm.trans h
    refine JW.r hM 22 6 (pc2 := 48) (L2 := [some (.ref 0), some (.int x1), some (.int x2), some (.int (0 : Int32)), some (.int (-1 : Int32)), some (.int (0 : Int32)), none, none]) (st2 := []) (μ2 := (hMo G5 J)) rfl trivial ?_
    exact t_X6_debt_b48 hM hp N J N G5 x1 x2 (0 : Int32) (-1 : Int32) (0 : Int32) h hq
  · have h := (if_neg hc22).symm.trans h
    refine JW.r hM 20 1 (pc2 := 39) (L2 := [some (.ref 0), some (.int x1), some (.int x2), none, none, none, none, none]) (st2 := [.int (0 : Int32)]) (μ2 := (hMo G5 J)) rfl trivial ?_
    obtain rfl := Option.some.inj h
    exact js_iret hM.1 hp hM.2.2.2.2.2.2.2.1 (by rw [hM.2.2.2.2.2.1]; exact Nat.le_of_ble_eq_true rfl) (by rw [hM.2.2.2.2.2.2.1]; exact Nat.le_of_ble_eq_true rfl) (jat hM.2.1 21 rfl) hq
set_option maxHeartbeats 4000000 in
set_option maxRecDepth 100000 in
theorem t_X6_debt {X : jX} {po : Option Value → jH → Prop} {px : String → jH → Prop} {sf : Bool} {B9 : Nat} (hM : jMX X kX6_debt RX6 tbX6 8 ⟨3, 0, 0, 71⟩ (some .int) 16) (hp : jPost X sf B9 po px) (N : Nat) (G : Nat → Nat → Int32) (J : Nat → Nat → Int64) (p0 : Int32) (p1 : Int32) {res : Int32 × (Nat → Nat → Int32)} (h : p_X6_debt N G J p0 p1 = some res) (hq : po (some (.int res.1)) (hMo res.2 J)) : JW X 0 0 0 [some (.ref 0), some (.int p0), some (.int p1), none, none, none, none, none] [] (hMo G J) := by
  unfold p_X6_debt at h
  refine JW.r hM 0 3 (pc2 := 3) (L2 := [some (.ref 0), some (.int p0), some (.int p1), none, none, none, none, none]) (st2 := [.int p0, .ref 0, .ref 0]) (μ2 := (hMo G J)) rfl trivial ?_
  obtain ⟨v2, hv1, h⟩ := jbd h
  refine JW.cV (v := some (.int v2)) hM (m_X6_isPerson (jVX X) hM.1.2.2.2.2.2.2.2.2.2.1 N G J p0 v2 hv1) (sb_Mo_Mo_0 G J) (bi_Mo_Mo_0 G J) rfl rfl rfl kc_X6_186 rfl rfl rfl rfl rfl (jat hM.2.1 3 rfl) (st := [.ref 0]) rfl ?_
  show JW X 0 0 6 [some (.ref 0), some (.int p0), some (.int p1), none, none, none, none, none] [.int v2, .ref 0] (hMo G J)
  refine js_ifne (t := 13) hM.1 (jat hM.2.1 4 rfl) rfl (fun hc24 => ?_) (fun hc24 => ?_)
  · have h := (if_neg hc24).symm.trans h
    refine JW.r hM 7 4 (pc2 := 17) (L2 := [some (.ref 0), some (.int p0), some (.int p1), none, none, none, none, none]) (st2 := [.long (1 : Int64), .long (0 : Int64), .long (p1.toInt64), .ref 0]) (μ2 := (hMo G J)) rfl trivial ?_
    obtain ⟨v4, hv3, h⟩ := jbd h
    refine JW.cS (v := some (.int v4)) hM (m_X6_within (jVX X) hM.1.2.2.2.2.2.2.2.2.2.1 N (p1.toInt64) (0 : Int64) (1 : Int64) v4 hv3) (sb_Mo_E_ G J) (bi_Mo_E_ G J) rfl rfl rfl kc_X6_122 rfl rfl rfl (jat hM.2.1 11 rfl) (st := [.ref 0]) rfl ?_
    show JW X 0 0 20 [some (.ref 0), some (.int p0), some (.int p1), none, none, none, none, none] [.int v4, .ref 0] (hMo G J)
    refine js_ifeq (t := 27) hM.1 (jat hM.2.1 12 rfl) rfl (fun hc23 => ?_) (fun hc23 => ?_)
    · have h := (if_pos hc23).symm.trans h
      refine JW.r hM 15 1 (pc2 := 28) (L2 := [some (.ref 0), some (.int p0), some (.int p1), none, none, none, none, none]) (st2 := [.int (2 : Int32), .ref 0]) (μ2 := (hMo G J)) rfl trivial ?_
      exact t_X6_debt_b28 hM hp N J G p0 p1 (2 : Int32) h hq
    · have h := (if_neg hc23).symm.trans h
      refine JW.r hM 13 2 (pc2 := 28) (L2 := [some (.ref 0), some (.int p0), some (.int p1), none, none, none, none, none]) (st2 := [.int (0 : Int32), .ref 0]) (μ2 := (hMo G J)) rfl trivial ?_
      exact t_X6_debt_b28 hM hp N J G p0 p1 (0 : Int32) h hq
  · have h := (if_pos hc24).symm.trans h
    refine JW.r hM 5 2 (pc2 := 28) (L2 := [some (.ref 0), some (.int p0), some (.int p1), none, none, none, none, none]) (st2 := [.int (1 : Int32), .ref 0]) (μ2 := (hMo G J)) rfl trivial ?_
    exact t_X6_debt_b28 hM hp N J G p0 p1 (1 : Int32) h hq
theorem m_X6_debt (V : jV) (hV : V.1.stackTraces = false) (N : Nat) (G : Nat → Nat → Int32) (J : Nat → Nat → Int64) (p0 : Int32) (p1 : Int32) (v : Int32 × (Nat → Nat → Int32)) (h : p_X6_debt N G J p0 p1 = some v) : jMet V yX6_debt (jws yX6_debt cX6_debt 8 (some .int)) ⟨3, 0, 0, 71⟩ true 1 [.ref 0, .int p0, .int p1] (hMo G J) (fun o ν => o = some (.int v.1) ∧ ν = (hMo v.2 J)) (fun _ _ => False) := by
  refine jmk (tb := tbX6) (C := kX6_debt) hV rfl (by decide) tbX6_ok rfl kX6_debt_ok rfl ?_
  intro X hM _ hp _
  exact t_X6_debt hM hp N G J p0 p1 h ⟨rfl, rfl⟩
def p_X6_isSafePrice (N : Nat) (G : Nat → Nat → Int32) (J : Nat → Nat → Int64) (p0 : Int32) (p1 : Int32) (p2 : Int32) (p3 : Int32) : Option (Int32) :=
  (p_X6_worthTo N G J p0 p1).bind (fun v2 => (p_X6_worthTo N G J p0 p2).bind (fun v4 => (p_X6_worthTo N G J p0 p2).bind (fun v6 => (p_X6_worthTo N G J p0 p1).bind (fun v8 => if 0 < ((v2 - p3) - (((G 1 4) * (if (0 : Int32) < (v4 - p3) then (v4 - p3) else (0 : Int32))) / (100 : Int32))) then (some (0 : Int32)) else (if 0 < ((p3 - v6) - (((G 1 4) * (if (0 : Int32) < (p3 - v8) then (p3 - v8) else (0 : Int32))) / (100 : Int32))) then (some (0 : Int32)) else (some (1 : Int32)))))))
set_option maxHeartbeats 4000000 in
set_option maxRecDepth 100000 in
theorem t_X6_isSafePrice {X : jX} {po : Option Value → jH → Prop} {px : String → jH → Prop} {sf : Bool} {B9 : Nat} (hM : jMX X kX6_isSafePrice RX6 tbX6 7 ⟨1, 0, 0, 23⟩ (some .boolean) 16) (hp : jPost X sf B9 po px) (N : Nat) (G : Nat → Nat → Int32) (J : Nat → Nat → Int64) (p0 : Int32) (p1 : Int32) (p2 : Int32) (p3 : Int32) {res : Int32} (h : p_X6_isSafePrice N G J p0 p1 p2 p3 = some res) (hq : po (some (.int res)) (hMo G J)) : JW X 0 0 0 [some (.ref 0), some (.int p0), some (.int p1), some (.int p2), some (.int p3), none, none] [] (hMo G J) := by
  unfold p_X6_isSafePrice at h
  refine JW.r hM 0 3 (pc2 := 3) (L2 := [some (.ref 0), some (.int p0), some (.int p1), some (.int p2), some (.int p3), none, none]) (st2 := [.int p1, .int p0, .ref 0]) (μ2 := (hMo G J)) rfl trivial ?_
  obtain ⟨v2, hv1, h⟩ := jbd h
  refine JW.cV (v := some (.int v2)) hM (m_X6_worthTo (jVX X) hM.1.2.2.2.2.2.2.2.2.2.1 N G J p0 p1 v2 hv1) (sb_Mo_Mo_0 G J) (bi_Mo_Mo_0 G J) rfl rfl rfl kc_X6_183 rfl rfl rfl rfl rfl (jat hM.2.1 3 rfl) (st := []) rfl ?_
  show JW X 0 0 6 [some (.ref 0), some (.int p0), some (.int p1), some (.int p2), some (.int p3), none, none] [.int v2] (hMo G J)
  refine JW.r hM 4 10 (pc2 := 19) (L2 := [some (.ref 0), some (.int p0), some (.int p1), some (.int p2), some (.int p3), none, none]) (st2 := [.int p2, .int p0, .ref 0, .int (0 : Int32), .int (G 1 4), .int (v2 - p3)]) (μ2 := (hMo G J)) rfl ⟨rfl, trivial⟩ ?_
  obtain ⟨v4, hv3, h⟩ := jbd h
  refine JW.cV (v := some (.int v4)) hM (m_X6_worthTo (jVX X) hM.1.2.2.2.2.2.2.2.2.2.1 N G J p0 p2 v4 hv3) (sb_Mo_Mo_0 G J) (bi_Mo_Mo_0 G J) rfl rfl rfl kc_X6_183 rfl rfl rfl rfl rfl (jat hM.2.1 14 rfl) (st := [.int (0 : Int32), .int (G 1 4), .int (v2 - p3)]) rfl ?_
  show JW X 0 0 22 [some (.ref 0), some (.int p0), some (.int p1), some (.int p2), some (.int p3), none, none] [.int v4, .int (0 : Int32), .int (G 1 4), .int (v2 - p3)] (hMo G J)
  refine JW.r hM 15 2 (pc2 := 25) (L2 := [some (.ref 0), some (.int p0), some (.int p1), some (.int p2), some (.int p3), none, none]) (st2 := [.int (v4 - p3), .int (0 : Int32), .int (G 1 4), .int (v2 - p3)]) (μ2 := (hMo G J)) rfl trivial ?_
  refine js_max hM.1 (by rw [hM.2.2.1]; exact mx_X6_227) (jat hM.2.1 17 rfl) (by rw [hM.2.2.2.2.1]; exact Nat.le_of_ble_eq_true rfl) (by rw [hM.2.2.2.2.1]; exact Nat.le_of_ble_eq_true rfl) (by rw [hM.2.2.2.2.1]; exact Nat.le_of_ble_eq_true rfl) (by rw [hM.2.2.2.2.1]; exact Nat.le_of_ble_eq_true rfl) ?_
  show JW X 0 0 28 [some (.ref 0), some (.int p0), some (.int p1), some (.int p2), some (.int p3), none, none] [.int (if (0 : Int32) < (v4 - p3) then (v4 - p3) else (0 : Int32)), .int (G 1 4), .int (v2 - p3)] (hMo G J)
  refine JW.r hM 18 9 (pc2 := 40) (L2 := [some (.ref 0), some (.int p0), some (.int p1), some (.int p2), some (.int p3), some (.int ((v2 - p3) - (((G 1 4) * (if (0 : Int32) < (v4 - p3) then (v4 - p3) else (0 : Int32))) / (100 : Int32)))), none]) (st2 := [.int p2, .int p0, .ref 0, .int p3]) (μ2 := (hMo G J)) rfl ⟨(by decide), trivial⟩ ?_
  obtain ⟨v6, hv5, h⟩ := jbd h
  refine JW.cV (v := some (.int v6)) hM (m_X6_worthTo (jVX X) hM.1.2.2.2.2.2.2.2.2.2.1 N G J p0 p2 v6 hv5) (sb_Mo_Mo_0 G J) (bi_Mo_Mo_0 G J) rfl rfl rfl kc_X6_183 rfl rfl rfl rfl rfl (jat hM.2.1 27 rfl) (st := [.int p3]) rfl ?_
  show JW X 0 0 43 [some (.ref 0), some (.int p0), some (.int p1), some (.int p2), some (.int p3), some (.int ((v2 - p3) - (((G 1 4) * (if (0 : Int32) < (v4 - p3) then (v4 - p3) else (0 : Int32))) / (100 : Int32)))), none] [.int v6, .int p3] (hMo G J)
  refine JW.r hM 28 10 (pc2 := 56) (L2 := [some (.ref 0), some (.int p0), some (.int p1), some (.int p2), some (.int p3), some (.int ((v2 - p3) - (((G 1 4) * (if (0 : Int32) < (v4 - p3) then (v4 - p3) else (0 : Int32))) / (100 : Int32)))), none]) (st2 := [.int p1, .int p0, .ref 0, .int p3, .int (0 : Int32), .int (G 1 4), .int (p3 - v6)]) (μ2 := (hMo G J)) rfl ⟨rfl, trivial⟩ ?_
  obtain ⟨v8, hv7, h⟩ := jbd h
  refine JW.cV (v := some (.int v8)) hM (m_X6_worthTo (jVX X) hM.1.2.2.2.2.2.2.2.2.2.1 N G J p0 p1 v8 hv7) (sb_Mo_Mo_0 G J) (bi_Mo_Mo_0 G J) rfl rfl rfl kc_X6_183 rfl rfl rfl rfl rfl (jat hM.2.1 38 rfl) (st := [.int p3, .int (0 : Int32), .int (G 1 4), .int (p3 - v6)]) rfl ?_
  show JW X 0 0 59 [some (.ref 0), some (.int p0), some (.int p1), some (.int p2), some (.int p3), some (.int ((v2 - p3) - (((G 1 4) * (if (0 : Int32) < (v4 - p3) then (v4 - p3) else (0 : Int32))) / (100 : Int32)))), none] [.int v8, .int p3, .int (0 : Int32), .int (G 1 4), .int (p3 - v6)] (hMo G J)
  refine JW.r hM 39 1 (pc2 := 60) (L2 := [some (.ref 0), some (.int p0), some (.int p1), some (.int p2), some (.int p3), some (.int ((v2 - p3) - (((G 1 4) * (if (0 : Int32) < (v4 - p3) then (v4 - p3) else (0 : Int32))) / (100 : Int32)))), none]) (st2 := [.int (p3 - v8), .int (0 : Int32), .int (G 1 4), .int (p3 - v6)]) (μ2 := (hMo G J)) rfl trivial ?_
  refine js_max hM.1 (by rw [hM.2.2.1]; exact mx_X6_227) (jat hM.2.1 40 rfl) (by rw [hM.2.2.2.2.1]; exact Nat.le_of_ble_eq_true rfl) (by rw [hM.2.2.2.2.1]; exact Nat.le_of_ble_eq_true rfl) (by rw [hM.2.2.2.2.1]; exact Nat.le_of_ble_eq_true rfl) (by rw [hM.2.2.2.2.1]; exact Nat.le_of_ble_eq_true rfl) ?_
  show JW X 0 0 63 [some (.ref 0), some (.int p0), some (.int p1), some (.int p2), some (.int p3), some (.int ((v2 - p3) - (((G 1 4) * (if (0 : Int32) < (v4 - p3) then (v4 - p3) else (0 : Int32))) / (100 : Int32)))), none] [.int (if (0 : Int32) < (p3 - v8) then (p3 - v8) else (0 : Int32)), .int (G 1 4), .int (p3 - v6)] (hMo G J)
  refine JW.r hM 41 6 (pc2 := 72) (L2 := [some (.ref 0), some (.int p0), some (.int p1), some (.int p2), some (.int p3), some (.int ((v2 - p3) - (((G 1 4) * (if (0 : Int32) < (v4 - p3) then (v4 - p3) else (0 : Int32))) / (100 : Int32)))), some (.int ((p3 - v6) - (((G 1 4) * (if (0 : Int32) < (p3 - v8) then (p3 - v8) else (0 : Int32))) / (100 : Int32))))]) (st2 := [.int ((v2 - p3) - (((G 1 4) * (if (0 : Int32) < (v4 - p3) then (v4 - p3) else (0 : Int32))) / (100 : Int32)))]) (μ2 := (hMo G J)) rfl ⟨(by decide), trivial⟩ ?_
  refine js_ifgt (t := 84) hM.1 (jat hM.2.1 47 rfl) rfl (fun hc10 => ?_) (fun hc10 => ?_)
  · have h := (if_pos hc10).symm.trans h
    refine JW.r hM 52 1 (pc2 := 85) (L2 := [some (.ref 0), some (.int p0), some (.int p1), some (.int p2), some (.int p3), some (.int ((v2 - p3) - (((G 1 4) * (if (0 : Int32) < (v4 - p3) then (v4 - p3) else (0 : Int32))) / (100 : Int32)))), some (.int ((p3 - v6) - (((G 1 4) * (if (0 : Int32) < (p3 - v8) then (p3 - v8) else (0 : Int32))) / (100 : Int32))))]) (st2 := [.int (0 : Int32)]) (μ2 := (hMo G J)) rfl trivial ?_
    obtain rfl := Option.some.inj h
    exact js_zret hM.1 hp hM.2.2.2.2.2.2.2.1 rfl (by rw [hM.2.2.2.2.2.1]; exact Nat.le_of_ble_eq_true rfl) (by rw [hM.2.2.2.2.2.2.1]; exact Nat.le_of_ble_eq_true rfl) (jat hM.2.1 53 rfl) hq
  · have h := (if_neg hc10).symm.trans h
    refine JW.r hM 48 1 (pc2 := 77) (L2 := [some (.ref 0), some (.int p0), some (.int p1), some (.int p2), some (.int p3), some (.int ((v2 - p3) - (((G 1 4) * (if (0 : Int32) < (v4 - p3) then (v4 - p3) else (0 : Int32))) / (100 : Int32)))), some (.int ((p3 - v6) - (((G 1 4) * (if (0 : Int32) < (p3 - v8) then (p3 - v8) else (0 : Int32))) / (100 : Int32))))]) (st2 := [.int ((p3 - v6) - (((G 1 4) * (if (0 : Int32) < (p3 - v8) then (p3 - v8) else (0 : Int32))) / (100 : Int32)))]) (μ2 := (hMo G J)) rfl trivial ?_
    refine js_ifgt (t := 84) hM.1 (jat hM.2.1 49 rfl) rfl (fun hc9 => ?_) (fun hc9 => ?_)
    · have h := (if_pos hc9).symm.trans h
      refine JW.r hM 52 1 (pc2 := 85) (L2 := [some (.ref 0), some (.int p0), some (.int p1), some (.int p2), some (.int p3), some (.int ((v2 - p3) - (((G 1 4) * (if (0 : Int32) < (v4 - p3) then (v4 - p3) else (0 : Int32))) / (100 : Int32)))), some (.int ((p3 - v6) - (((G 1 4) * (if (0 : Int32) < (p3 - v8) then (p3 - v8) else (0 : Int32))) / (100 : Int32))))]) (st2 := [.int (0 : Int32)]) (μ2 := (hMo G J)) rfl trivial ?_
      obtain rfl := Option.some.inj h
      exact js_zret hM.1 hp hM.2.2.2.2.2.2.2.1 rfl (by rw [hM.2.2.2.2.2.1]; exact Nat.le_of_ble_eq_true rfl) (by rw [hM.2.2.2.2.2.2.1]; exact Nat.le_of_ble_eq_true rfl) (jat hM.2.1 53 rfl) hq
    · have h := (if_neg hc9).symm.trans h
      refine JW.r hM 50 2 (pc2 := 85) (L2 := [some (.ref 0), some (.int p0), some (.int p1), some (.int p2), some (.int p3), some (.int ((v2 - p3) - (((G 1 4) * (if (0 : Int32) < (v4 - p3) then (v4 - p3) else (0 : Int32))) / (100 : Int32)))), some (.int ((p3 - v6) - (((G 1 4) * (if (0 : Int32) < (p3 - v8) then (p3 - v8) else (0 : Int32))) / (100 : Int32))))]) (st2 := [.int (1 : Int32)]) (μ2 := (hMo G J)) rfl trivial ?_
      obtain rfl := Option.some.inj h
      exact js_zret hM.1 hp hM.2.2.2.2.2.2.2.1 rfl (by rw [hM.2.2.2.2.2.1]; exact Nat.le_of_ble_eq_true rfl) (by rw [hM.2.2.2.2.2.2.1]; exact Nat.le_of_ble_eq_true rfl) (jat hM.2.1 53 rfl) hq
theorem m_X6_isSafePrice (V : jV) (hV : V.1.stackTraces = false) (N : Nat) (G : Nat → Nat → Int32) (J : Nat → Nat → Int64) (p0 : Int32) (p1 : Int32) (p2 : Int32) (p3 : Int32) (v : Int32) (h : p_X6_isSafePrice N G J p0 p1 p2 p3 = some v) : jMet V yX6_isSafePrice (jws yX6_isSafePrice cX6_isSafePrice 7 (some .boolean)) ⟨1, 0, 0, 23⟩ true 1 [.ref 0, .int p0, .int p1, .int p2, .int p3] (hMo G J) (fun o ν => o = some (.int v) ∧ ν = (hMo G J)) (fun _ _ => False) := by
  refine jmk (tb := tbX6) (C := kX6_isSafePrice) hV rfl (by decide) tbX6_ok rfl kX6_isSafePrice_ok rfl ?_
  intro X hM _ hp _
  exact t_X6_isSafePrice hM hp N G J p0 p1 p2 p3 h ⟨rfl, rfl⟩
def p_X6_safePrice_b124 (N : Nat) (J : Nat → Nat → Int64) (rv74 : (Nat → Nat → Int32) → Int32 → Int32 → Int32 → Int32 → Int32 → Int32 → Option (Int32 × (Nat → Nat → Int32))) (G : Nat → Nat → Int32) (x1 : Int32) (x2 : Int32) (x3 : Int32) (x4 : Int32) (x5 : Int32) (x6 : Int32) : Option (Int32 × (Nat → Nat → Int32)) :=
  rv74 G x1 x2 x3 x4 x5 (x6 + 1)
def p_X6_safePrice_b118 (N : Nat) (J : Nat → Nat → Int64) (rv74 : (Nat → Nat → Int32) → Int32 → Int32 → Int32 → Int32 → Int32 → Int32 → Option (Int32 × (Nat → Nat → Int32))) (G : Nat → Nat → Int32) (x1 : Int32) (x2 : Int32) (x3 : Int32) (x6 : Int32) (s0 : Int32) : Option (Int32 × (Nat → Nat → Int32)) :=
  p_X6_safePrice_b124 N J rv74 G x1 x2 x3 s0 x6 x6
def p_X6_safePrice_b74 (N : Nat) (J : Nat → Nat → Int64) : Nat → (Nat → Nat → Int32) → (Int32) → (Int32) → (Int32) → (Int32) → (Int32) → (Int32) → Option (Int32 × (Nat → Nat → Int32))
  | 0, _, _, _, _, _, _, _ => none
  | n + 1, G, x1, x2, x3, x4, x5, x6 => if (999 : Int32) < x6 then (if x3 = 0 then (some (x4, G)) else (some (x5, G))) else (if jin ((14 : Int32) + x1) 264 = true then (p_X6_isSafePrice N G J x1 (G 1 ((14 : Int32) + x1).toNatClampNeg) x2 x6).bind (fun v8 => if v8 = 0 then (p_X6_safePrice_b124 N J (p_X6_safePrice_b74 N J n) G x1 x2 x3 x4 x5 x6) else (if x4 = (-1 : Int32) then (p_X6_safePrice_b118 N J (p_X6_safePrice_b74 N J n) G x1 x2 x3 x6 x6) else (p_X6_safePrice_b118 N J (p_X6_safePrice_b74 N J n) G x1 x2 x3 x6 x4))) else none)
def p_X6_safePrice_b53 (N : Nat) (J : Nat → Nat → Int64) (G : Nat → Nat → Int32) (x1 : Int32) (x2 : Int32) (x3 : Int32) (s0 : Int32) : Option (Int32 × (Nat → Nat → Int32)) :=
  jlt (jup G 0 5 s0) fun G3 => if (G3 0 5) ≤ 0 then (p_X6_safePrice_b74 N J N G3 x1 x2 x3 (-1 : Int32) (-1 : Int32) (0 : Int32)) else (some ((0 : Int32), G3))
def p_X6_safePrice_b17 (N : Nat) (J : Nat → Nat → Int64) (G : Nat → Nat → Int32) (x1 : Int32) (x2 : Int32) (x3 : Int32) : Option (Int32 × (Nat → Nat → Int32)) :=
  p_X6_safePrice_b53 N J G x1 x2 x3 (1 : Int32)
def p_X6_safePrice (N : Nat) (G : Nat → Nat → Int32) (J : Nat → Nat → Int64) (p0 : Int32) (p1 : Int32) (p2 : Int32) : Option (Int32 × (Nat → Nat → Int32)) :=
  (p_X6_isThing N G J p0).bind (fun v2 => if v2 = 0 then (p_X6_safePrice_b17 N J G p0 p1 p2) else ((p_X6_isPerson N G J p1).bind (fun v14 => if v14 = 0 then (p_X6_safePrice_b17 N J G p0 p1 p2) else (if jin ((14 : Int32) + p0) 264 = true then if (G 1 ((14 : Int32) + p0).toNatClampNeg) = p1 then (p_X6_safePrice_b53 N J G p0 p1 p2 (2 : Int32)) else ((p_X6_within N (p2.toInt64) (0 : Int64) (1 : Int64)).bind (fun v17 => if v17 = 0 then (p_X6_safePrice_b53 N J G p0 p1 p2 (3 : Int32)) else (p_X6_safePrice_b53 N J G p0 p1 p2 (0 : Int32)))) else none))))
set_option maxHeartbeats 4000000 in
set_option maxRecDepth 100000 in
theorem t_X6_safePrice_b124 {X : jX} {po : Option Value → jH → Prop} {px : String → jH → Prop} {sf : Bool} {B9 : Nat} (hM : jMX X kX6_safePrice RX6 tbX6 7 ⟨2, 0, 0, 49⟩ (some .int) 16) (hp : jPost X sf B9 po px) (N : Nat) (J : Nat → Nat → Int64) (rv74 : (Nat → Nat → Int32) → Int32 → Int32 → Int32 → Int32 → Int32 → Int32 → Option (Int32 × (Nat → Nat → Int32))) {res : Int32 × (Nat → Nat → Int32)} (ih74 : ∀ (G : Nat → Nat → Int32) (x1 : Int32) (x2 : Int32) (x3 : Int32) (x4 : Int32) (x5 : Int32) (x6 : Int32), rv74 G x1 x2 x3 x4 x5 x6 = some res → JW X 0 0 74 [some (.ref 0), some (.int x1), some (.int x2), some (.int x3), some (.int x4), some (.int x5), some (.int x6)] [] (hMo G J)) (G : Nat → Nat → Int32) (x1 : Int32) (x2 : Int32) (x3 : Int32) (x4 : Int32) (x5 : Int32) (x6 : Int32) (h : p_X6_safePrice_b124 N J rv74 G x1 x2 x3 x4 x5 x6 = some res) (hq : po (some (.int res.1)) (hMo res.2 J)) : JW X 0 0 124 [some (.ref 0), some (.int x1), some (.int x2), some (.int x3), some (.int x4), some (.int x5), some (.int x6)] [] (hMo G J) := by
  unfold p_X6_safePrice_b124 at h
  refine JW.r hM 67 2 (pc2 := 74) (L2 := [some (.ref 0), some (.int x1), some (.int x2), some (.int x3), some (.int x4), some (.int x5), some (.int (x6 + 1))]) (st2 := []) (μ2 := (hMo G J)) rfl trivial ?_
  exact ih74 G x1 x2 x3 x4 x5 (x6 + 1) h
set_option maxHeartbeats 4000000 in
set_option maxRecDepth 100000 in
theorem t_X6_safePrice_b118 {X : jX} {po : Option Value → jH → Prop} {px : String → jH → Prop} {sf : Bool} {B9 : Nat} (hM : jMX X kX6_safePrice RX6 tbX6 7 ⟨2, 0, 0, 49⟩ (some .int) 16) (hp : jPost X sf B9 po px) (N : Nat) (J : Nat → Nat → Int64) (rv74 : (Nat → Nat → Int32) → Int32 → Int32 → Int32 → Int32 → Int32 → Int32 → Option (Int32 × (Nat → Nat → Int32))) {res : Int32 × (Nat → Nat → Int32)} (ih74 : ∀ (G : Nat → Nat → Int32) (x1 : Int32) (x2 : Int32) (x3 : Int32) (x4 : Int32) (x5 : Int32) (x6 : Int32), rv74 G x1 x2 x3 x4 x5 x6 = some res → JW X 0 0 74 [some (.ref 0), some (.int x1), some (.int x2), some (.int x3), some (.int x4), some (.int x5), some (.int x6)] [] (hMo G J)) (G : Nat → Nat → Int32) (x1 : Int32) (x2 : Int32) (x3 : Int32) (x6 : Int32) (s0 : Int32) (h : p_X6_safePrice_b118 N J rv74 G x1 x2 x3 x6 s0 = some res) (hq : po (some (.int res.1)) (hMo res.2 J)) : JW X 0 0 118 [some (.ref 0), some (.int x1), some (.int x2), some (.int x3), none, none, some (.int x6)] [.int s0] (hMo G J) := by
  unfold p_X6_safePrice_b118 at h
  refine JW.r hM 64 3 (pc2 := 124) (L2 := [some (.ref 0), some (.int x1), some (.int x2), some (.int x3), some (.int s0), some (.int x6), some (.int x6)]) (st2 := []) (μ2 := (hMo G J)) rfl trivial ?_
  exact t_X6_safePrice_b124 hM hp N J rv74 ih74 G x1 x2 x3 s0 x6 x6 h hq
set_option maxHeartbeats 4000000 in
set_option maxRecDepth 100000 in
theorem t_X6_safePrice_b74 {X : jX} {po : Option Value → jH → Prop} {px : String → jH → Prop} {sf : Bool} {B9 : Nat} (hM : jMX X kX6_safePrice RX6 tbX6 7 ⟨2, 0, 0, 49⟩ (some .int) 16) (hp : jPost X sf B9 po px) (N : Nat) (J : Nat → Nat → Int64) {res : Int32 × (Nat → Nat → Int32)} : ∀ (n : Nat) (G : Nat → Nat → Int32) (x1 : Int32) (x2 : Int32) (x3 : Int32) (x4 : Int32) (x5 : Int32) (x6 : Int32) (h : p_X6_safePrice_b74 N J n G x1 x2 x3 x4 x5 x6 = some res) (hq : po (some (.int res.1)) (hMo res.2 J)), JW X 0 0 74 [some (.ref 0), some (.int x1), some (.int x2), some (.int x3), some (.int x4), some (.int x5), some (.int x6)] [] (hMo G J) := by
  intro n
  induction n with
  | zero =>
    intro G x1 x2 x3 x4 x5 x6 h hq
    cases (show (none : Option (Int32 × (Nat → Nat → Int32))) = some res from h)
  | succ n ih74 =>
    intro G x1 x2 x3 x4 x5 x6 h hq
    have ih74 := fun G x1 x2 x3 x4 x5 x6 h9 => ih74 G x1 x2 x3 x4 x5 x6 h9 hq
    rw [p_X6_safePrice_b74] at h
    refine JW.r hM 42 2 (pc2 := 79) (L2 := [some (.ref 0), some (.int x1), some (.int x2), some (.int x3), some (.int x4), some (.int x5), some (.int x6)]) (st2 := [.int (999 : Int32), .int x6]) (μ2 := (hMo G J)) rfl trivial ?_
    refine js_icgt (t := 130) hM.1 (jat hM.2.1 44 rfl) rfl (fun hc11 => ?_) (fun hc11 => ?_)
    · have h := (if_pos hc11).symm.trans h
      refine JW.r hM 69 1 (pc2 := 131) (L2 := [some (.ref 0), some (.int x1), some (.int x2), some (.int x3), some (.int x4), some (.int x5), some (.int x6)]) (st2 := [.int x3]) (μ2 := (hMo G J)) rfl trivial ?_
      refine js_ifne (t := 139) hM.1 (jat hM.2.1 70 rfl) rfl (fun hc5 => ?_) (fun hc5 => ?_)
      · have h := (if_neg hc5).symm.trans h
        refine JW.r hM 73 1 (pc2 := 141) (L2 := [some (.ref 0), some (.int x1), some (.int x2), some (.int x3), some (.int x4), some (.int x5), some (.int x6)]) (st2 := [.int x5]) (μ2 := (hMo G J)) rfl trivial ?_
        obtain rfl := Option.some.inj h
        exact js_iret hM.1 hp hM.2.2.2.2.2.2.2.1 (by rw [hM.2.2.2.2.2.1]; exact Nat.le_of_ble_eq_true rfl) (by rw [hM.2.2.2.2.2.2.1]; exact Nat.le_of_ble_eq_true rfl) (jat hM.2.1 74 rfl) hq
      · have h := (if_pos hc5).symm.trans h
        refine JW.r hM 71 2 (pc2 := 141) (L2 := [some (.ref 0), some (.int x1), some (.int x2), some (.int x3), some (.int x4), some (.int x5), some (.int x6)]) (st2 := [.int x4]) (μ2 := (hMo G J)) rfl trivial ?_
        obtain rfl := Option.some.inj h
        exact js_iret hM.1 hp hM.2.2.2.2.2.2.2.1 (by rw [hM.2.2.2.2.2.1]; exact Nat.le_of_ble_eq_true rfl) (by rw [hM.2.2.2.2.2.2.1]; exact Nat.le_of_ble_eq_true rfl) (jat hM.2.1 74 rfl) hq
    · have h := (if_neg hc11).symm.trans h
      obtain ⟨g6, h⟩ := jg h
      refine JW.r hM 45 10 (pc2 := 96) (L2 := [some (.ref 0), some (.int x1), some (.int x2), some (.int x3), some (.int x4), some (.int x5), some (.int x6)]) (st2 := [.int x6, .int x2, .int (G 1 ((14 : Int32) + x1).toNatClampNeg), .int x1, .ref 0]) (μ2 := (hMo G J)) rfl ⟨g6, trivial⟩ ?_
      obtain ⟨v8, hv7, h⟩ := jbd h
      refine JW.cV (v := some (.int v8)) hM (m_X6_isSafePrice (jVX X) hM.1.2.2.2.2.2.2.2.2.2.1 N G J x1 (G 1 ((14 : Int32) + x1).toNatClampNeg) x2 x6 v8 hv7) (sb_Mo_Mo_0 G J) (bi_Mo_Mo_0 G J) rfl rfl rfl kc_X6_300 rfl rfl rfl rfl rfl (jat hM.2.1 55 rfl) (st := []) rfl ?_
      show JW X 0 0 99 [some (.ref 0), some (.int x1), some (.int x2), some (.int x3), some (.int x4), some (.int x5), some (.int x6)] [.int v8] (hMo G J)
      refine js_ifne (t := 105) hM.1 (jat hM.2.1 56 rfl) rfl (fun hc10 => ?_) (fun hc10 => ?_)
      · have h := (if_neg hc10).symm.trans h
        refine JW.r hM 58 2 (pc2 := 108) (L2 := [some (.ref 0), some (.int x1), some (.int x2), some (.int x3), some (.int x4), some (.int x5), some (.int x6)]) (st2 := [.int (-1 : Int32), .int x4]) (μ2 := (hMo G J)) rfl trivial ?_
        refine js_icne (t := 116) hM.1 (jat hM.2.1 60 rfl) rfl (fun hc9 => ?_) (fun hc9 => ?_)
        · have h := (if_neg hc9).symm.trans h
          refine JW.r hM 63 1 (pc2 := 118) (L2 := [some (.ref 0), some (.int x1), some (.int x2), some (.int x3), some (.int x4), some (.int x5), some (.int x6)]) (st2 := [.int x4]) (μ2 := (hMo G J)) rfl trivial ?_
          exact JW.mask [true, true, true, true, false, false, true] (t_X6_safePrice_b118 hM hp N J (p_X6_safePrice_b74 N J n) ih74 G x1 x2 x3 x6 x4 h hq)
        · have h := (if_pos hc9).symm.trans h
          refine JW.r hM 61 2 (pc2 := 118) (L2 := [some (.ref 0), some (.int x1), some (.int x2), some (.int x3), some (.int x4), some (.int x5), some (.int x6)]) (st2 := [.int x6]) (μ2 := (hMo G J)) rfl trivial ?_
          exact JW.mask [true, true, true, true, false, false, true] (t_X6_safePrice_b118 hM hp N J (p_X6_safePrice_b74 N J n) ih74 G x1 x2 x3 x6 x6 h hq)
      · have h := (if_pos hc10).symm.trans h
        refine JW.r hM 57 1 (pc2 := 124) (L2 := [some (.ref 0), some (.int x1), some (.int x2), some (.int x3), some (.int x4), some (.int x5), some (.int x6)]) (st2 := []) (μ2 := (hMo G J)) rfl trivial ?_
        exact t_X6_safePrice_b124 hM hp N J (p_X6_safePrice_b74 N J n) ih74 G x1 x2 x3 x4 x5 x6 h hq
set_option maxHeartbeats 4000000 in
set_option maxRecDepth 100000 in
theorem t_X6_safePrice_b53 {X : jX} {po : Option Value → jH → Prop} {px : String → jH → Prop} {sf : Bool} {B9 : Nat} (hM : jMX X kX6_safePrice RX6 tbX6 7 ⟨2, 0, 0, 49⟩ (some .int) 16) (hp : jPost X sf B9 po px) (N : Nat) (J : Nat → Nat → Int64) {res : Int32 × (Nat → Nat → Int32)} (G : Nat → Nat → Int32) (x1 : Int32) (x2 : Int32) (x3 : Int32) (s0 : Int32) (h : p_X6_safePrice_b53 N J G x1 x2 x3 s0 = some res) (hq : po (some (.int res.1)) (hMo res.2 J)) : JW X 0 0 53 [some (.ref 0), some (.int x1), some (.int x2), some (.int x3), none, none, none] [.int s0, .ref 0] (hMo G J) := by
  unfold p_X6_safePrice_b53 at h
  obtain ⟨G3, e4, h⟩ := jlE h
  refine JW.r hM 30 1 (pc2 := 56) (L2 := [some (.ref 0), some (.int x1), some (.int x2), some (.int x3), none, none, none]) (st2 := []) (μ2 := (hMo (jup G 0 5 s0) J)) rfl trivial ?_
  rw [e4]
  refine JW.r hM 31 2 (pc2 := 60) (L2 := [some (.ref 0), some (.int x1), some (.int x2), some (.int x3), none, none, none]) (st2 := [.int (G3 0 5)]) (μ2 := (hMo G3 J)) rfl trivial ?_
  refine js_ifle (t := 65) hM.1 (jat hM.2.1 33 rfl) rfl (fun hc12 => ?_) (fun hc12 => ?_)
  · have h := (if_pos hc12).symm.trans h
    refine JW.r hM 36 6 (pc2 := 74) (L2 := [some (.ref 0), some (.int x1), some (.int x2), some (.int x3), some (.int (-1 : Int32)), some (.int (-1 : Int32)), some (.int (0 : Int32))]) (st2 := []) (μ2 := (hMo G3 J)) rfl trivial ?_
    exact t_X6_safePrice_b74 hM hp N J N G3 x1 x2 x3 (-1 : Int32) (-1 : Int32) (0 : Int32) h hq
  · have h := (if_neg hc12).symm.trans h
    refine JW.r hM 34 1 (pc2 := 64) (L2 := [some (.ref 0), some (.int x1), some (.int x2), some (.int x3), none, none, none]) (st2 := [.int (0 : Int32)]) (μ2 := (hMo G3 J)) rfl trivial ?_
    obtain rfl := Option.some.inj h
    exact js_iret hM.1 hp hM.2.2.2.2.2.2.2.1 (by rw [hM.2.2.2.2.2.1]; exact Nat.le_of_ble_eq_true rfl) (by rw [hM.2.2.2.2.2.2.1]; exact Nat.le_of_ble_eq_true rfl) (jat hM.2.1 35 rfl) hq
set_option maxHeartbeats 4000000 in
set_option maxRecDepth 100000 in
theorem t_X6_safePrice_b17 {X : jX} {po : Option Value → jH → Prop} {px : String → jH → Prop} {sf : Bool} {B9 : Nat} (hM : jMX X kX6_safePrice RX6 tbX6 7 ⟨2, 0, 0, 49⟩ (some .int) 16) (hp : jPost X sf B9 po px) (N : Nat) (J : Nat → Nat → Int64) {res : Int32 × (Nat → Nat → Int32)} (G : Nat → Nat → Int32) (x1 : Int32) (x2 : Int32) (x3 : Int32) (h : p_X6_safePrice_b17 N J G x1 x2 x3 = some res) (hq : po (some (.int res.1)) (hMo res.2 J)) : JW X 0 0 17 [some (.ref 0), some (.int x1), some (.int x2), some (.int x3), none, none, none] [.ref 0] (hMo G J) := by
  unfold p_X6_safePrice_b17 at h
  refine JW.r hM 9 2 (pc2 := 53) (L2 := [some (.ref 0), some (.int x1), some (.int x2), some (.int x3), none, none, none]) (st2 := [.int (1 : Int32), .ref 0]) (μ2 := (hMo G J)) rfl trivial ?_
  exact t_X6_safePrice_b53 hM hp N J G x1 x2 x3 (1 : Int32) h hq
set_option maxHeartbeats 4000000 in
set_option maxRecDepth 100000 in
theorem t_X6_safePrice {X : jX} {po : Option Value → jH → Prop} {px : String → jH → Prop} {sf : Bool} {B9 : Nat} (hM : jMX X kX6_safePrice RX6 tbX6 7 ⟨2, 0, 0, 49⟩ (some .int) 16) (hp : jPost X sf B9 po px) (N : Nat) (G : Nat → Nat → Int32) (J : Nat → Nat → Int64) (p0 : Int32) (p1 : Int32) (p2 : Int32) {res : Int32 × (Nat → Nat → Int32)} (h : p_X6_safePrice N G J p0 p1 p2 = some res) (hq : po (some (.int res.1)) (hMo res.2 J)) : JW X 0 0 0 [some (.ref 0), some (.int p0), some (.int p1), some (.int p2), none, none, none] [] (hMo G J) := by
  unfold p_X6_safePrice at h
  refine JW.r hM 0 3 (pc2 := 3) (L2 := [some (.ref 0), some (.int p0), some (.int p1), some (.int p2), none, none, none]) (st2 := [.int p0, .ref 0, .ref 0]) (μ2 := (hMo G J)) rfl trivial ?_
  obtain ⟨v2, hv1, h⟩ := jbd h
  refine JW.cV (v := some (.int v2)) hM (m_X6_isThing (jVX X) hM.1.2.2.2.2.2.2.2.2.2.1 N G J p0 v2 hv1) (sb_Mo_Mo_0 G J) (bi_Mo_Mo_0 G J) rfl rfl rfl kc_X6_197 rfl rfl rfl rfl rfl (jat hM.2.1 3 rfl) (st := [.ref 0]) rfl ?_
  show JW X 0 0 6 [some (.ref 0), some (.int p0), some (.int p1), some (.int p2), none, none, none] [.int v2, .ref 0] (hMo G J)
  refine js_ifeq (t := 17) hM.1 (jat hM.2.1 4 rfl) rfl (fun hc21 => ?_) (fun hc21 => ?_)
  · have h := (if_pos hc21).symm.trans h
    exact t_X6_safePrice_b17 hM hp N J G p0 p1 p2 h hq
  · have h := (if_neg hc21).symm.trans h
    refine JW.r hM 5 2 (pc2 := 11) (L2 := [some (.ref 0), some (.int p0), some (.int p1), some (.int p2), none, none, none]) (st2 := [.int p1, .ref 0, .ref 0]) (μ2 := (hMo G J)) rfl trivial ?_
    obtain ⟨v14, hv13, h⟩ := jbd h
    refine JW.cV (v := some (.int v14)) hM (m_X6_isPerson (jVX X) hM.1.2.2.2.2.2.2.2.2.2.1 N G J p1 v14 hv13) (sb_Mo_Mo_0 G J) (bi_Mo_Mo_0 G J) rfl rfl rfl kc_X6_186 rfl rfl rfl rfl rfl (jat hM.2.1 7 rfl) (st := [.ref 0]) rfl ?_
    show JW X 0 0 14 [some (.ref 0), some (.int p0), some (.int p1), some (.int p2), none, none, none] [.int v14, .ref 0] (hMo G J)
    refine js_ifne (t := 21) hM.1 (jat hM.2.1 8 rfl) rfl (fun hc20 => ?_) (fun hc20 => ?_)
    · have h := (if_neg hc20).symm.trans h
      obtain ⟨g15, h⟩ := jg h
      refine JW.r hM 11 7 (pc2 := 31) (L2 := [some (.ref 0), some (.int p0), some (.int p1), some (.int p2), none, none, none]) (st2 := [.int p1, .int (G 1 ((14 : Int32) + p0).toNatClampNeg), .ref 0]) (μ2 := (hMo G J)) rfl ⟨g15, trivial⟩ ?_
      refine js_icne (t := 38) hM.1 (jat hM.2.1 18 rfl) rfl (fun hc19 => ?_) (fun hc19 => ?_)
      · have h := (if_neg hc19).symm.trans h
        refine JW.r hM 21 4 (pc2 := 42) (L2 := [some (.ref 0), some (.int p0), some (.int p1), some (.int p2), none, none, none]) (st2 := [.long (1 : Int64), .long (0 : Int64), .long (p2.toInt64), .ref 0]) (μ2 := (hMo G J)) rfl trivial ?_
        obtain ⟨v17, hv16, h⟩ := jbd h
        refine JW.cS (v := some (.int v17)) hM (m_X6_within (jVX X) hM.1.2.2.2.2.2.2.2.2.2.1 N (p2.toInt64) (0 : Int64) (1 : Int64) v17 hv16) (sb_Mo_E_ G J) (bi_Mo_E_ G J) rfl rfl rfl kc_X6_122 rfl rfl rfl (jat hM.2.1 25 rfl) (st := [.ref 0]) rfl ?_
        show JW X 0 0 45 [some (.ref 0), some (.int p0), some (.int p1), some (.int p2), none, none, none] [.int v17, .ref 0] (hMo G J)
        refine js_ifeq (t := 52) hM.1 (jat hM.2.1 26 rfl) rfl (fun hc18 => ?_) (fun hc18 => ?_)
        · have h := (if_pos hc18).symm.trans h
          refine JW.r hM 29 1 (pc2 := 53) (L2 := [some (.ref 0), some (.int p0), some (.int p1), some (.int p2), none, none, none]) (st2 := [.int (3 : Int32), .ref 0]) (μ2 := (hMo G J)) rfl trivial ?_
          exact t_X6_safePrice_b53 hM hp N J G p0 p1 p2 (3 : Int32) h hq
        · have h := (if_neg hc18).symm.trans h
          refine JW.r hM 27 2 (pc2 := 53) (L2 := [some (.ref 0), some (.int p0), some (.int p1), some (.int p2), none, none, none]) (st2 := [.int (0 : Int32), .ref 0]) (μ2 := (hMo G J)) rfl trivial ?_
          exact t_X6_safePrice_b53 hM hp N J G p0 p1 p2 (0 : Int32) h hq
      · have h := (if_pos hc19).symm.trans h
        refine JW.r hM 19 2 (pc2 := 53) (L2 := [some (.ref 0), some (.int p0), some (.int p1), some (.int p2), none, none, none]) (st2 := [.int (2 : Int32), .ref 0]) (μ2 := (hMo G J)) rfl trivial ?_
        exact t_X6_safePrice_b53 hM hp N J G p0 p1 p2 (2 : Int32) h hq
    · have h := (if_pos hc20).symm.trans h
      exact t_X6_safePrice_b17 hM hp N J G p0 p1 p2 h hq
theorem m_X6_safePrice (V : jV) (hV : V.1.stackTraces = false) (N : Nat) (G : Nat → Nat → Int32) (J : Nat → Nat → Int64) (p0 : Int32) (p1 : Int32) (p2 : Int32) (v : Int32 × (Nat → Nat → Int32)) (h : p_X6_safePrice N G J p0 p1 p2 = some v) : jMet V yX6_safePrice (jws yX6_safePrice cX6_safePrice 7 (some .int)) ⟨2, 0, 0, 49⟩ true 1 [.ref 0, .int p0, .int p1, .int p2] (hMo G J) (fun o ν => o = some (.int v.1) ∧ ν = (hMo v.2 J)) (fun _ _ => False) := by
  refine jmk (tb := tbX6) (C := kX6_safePrice) hV rfl (by decide) tbX6_ok rfl kX6_safePrice_ok rfl ?_
  intro X hM _ hp _
  exact t_X6_safePrice hM hp N G J p0 p1 p2 h ⟨rfl, rfl⟩
def p_X6_longest_b86 (N : Nat) (J : Nat → Nat → Int64) (rv11 : (Nat → Nat → Int32) → Int32 → Int32 → Int32 → Option (Int32 × (Nat → Nat → Int32))) (G : Nat → Nat → Int32) (x1 : Int32) (x2 : Int32) (x3 : Int32) : Option (Int32 × (Nat → Nat → Int32)) :=
  rv11 G x1 x2 (x3 + 1)
def p_X6_longest_b63 (N : Nat) (J : Nat → Nat → Int64) (rv11 : (Nat → Nat → Int32) → Int32 → Int32 → Int32 → Option (Int32 × (Nat → Nat → Int32))) (rv27 : (Nat → Nat → Int32) → Int32 → Int32 → Int32 → Int32 → Int32 → Option (Int32 × (Nat → Nat → Int32))) (G : Nat → Nat → Int32) (x1 : Int32) (x2 : Int32) (x3 : Int32) (x5 : Int32) (s0 : Int32) (s1 : Int32) : Option (Int32 × (Nat → Nat → Int32)) :=
  rv27 G x1 x2 x3 (s1 + s0) (x5 + 1)
def p_X6_longest_b27 (N : Nat) (J : Nat → Nat → Int64) (rv11 : (Nat → Nat → Int32) → Int32 → Int32 → Int32 → Option (Int32 × (Nat → Nat → Int32))) : Nat → (Nat → Nat → Int32) → (Int32) → (Int32) → (Int32) → (Int32) → (Int32) → Option (Int32 × (Nat → Nat → Int32))
  | 0, _, _, _, _, _, _ => none
  | n + 1, G, x1, x2, x3, x4, x5 => if (G 1 7) ≤ x5 then (if x2 < x4 then (p_X6_longest_b86 N J rv11 G x3 x4 x3) else (p_X6_longest_b86 N J rv11 G x1 x2 x3)) else ((p_X6_of N G J x5 (0 : Int32)).bind (fun v5 => if v5 = x3 then ((p_X6_of N G J x5 (4 : Int32)).bind (fun v7 => p_X6_longest_b63 N J rv11 (p_X6_longest_b27 N J rv11 n) G x1 x2 x3 x5 v7 x4)) else (p_X6_longest_b63 N J rv11 (p_X6_longest_b27 N J rv11 n) G x1 x2 x3 x5 (0 : Int32) x4)))
def p_X6_longest_b11 (N : Nat) (J : Nat → Nat → Int64) : Nat → (Nat → Nat → Int32) → (Int32) → (Int32) → (Int32) → Option (Int32 × (Nat → Nat → Int32))
  | 0, _, _, _, _ => none
  | n + 1, G, x1, x2, x3 => if (G 1 2) ≤ x3 then (some (x1, G)) else (p_X6_longest_b27 N J (p_X6_longest_b11 N J n) N G x1 x2 x3 (0 : Int32) (0 : Int32))
def p_X6_longest (N : Nat) (G : Nat → Nat → Int32) (J : Nat → Nat → Int64) : Option (Int32 × (Nat → Nat → Int32)) :=
  jlt (jup G 0 5 (0 : Int32)) fun G1 => p_X6_longest_b11 N J N G1 (-1 : Int32) (0 : Int32) (0 : Int32)
set_option maxHeartbeats 4000000 in
set_option maxRecDepth 100000 in
theorem t_X6_longest_b86 {X : jX} {po : Option Value → jH → Prop} {px : String → jH → Prop} {sf : Bool} {B9 : Nat} (hM : jMX X kX6_longest RX6 tbX6 6 ⟨1, 0, 0, 22⟩ (some .int) 16) (hp : jPost X sf B9 po px) (N : Nat) (J : Nat → Nat → Int64) (rv11 : (Nat → Nat → Int32) → Int32 → Int32 → Int32 → Option (Int32 × (Nat → Nat → Int32))) {res : Int32 × (Nat → Nat → Int32)} (ih11 : ∀ (G : Nat → Nat → Int32) (x1 : Int32) (x2 : Int32) (x3 : Int32), rv11 G x1 x2 x3 = some res → JW X 0 0 11 [some (.ref 0), some (.int x1), some (.int x2), some (.int x3), none, none] [] (hMo G J)) (G : Nat → Nat → Int32) (x1 : Int32) (x2 : Int32) (x3 : Int32) (h : p_X6_longest_b86 N J rv11 G x1 x2 x3 = some res) (hq : po (some (.int res.1)) (hMo res.2 J)) : JW X 0 0 86 [some (.ref 0), some (.int x1), some (.int x2), some (.int x3), none, none] [] (hMo G J) := by
  unfold p_X6_longest_b86 at h
  refine JW.r hM 50 2 (pc2 := 11) (L2 := [some (.ref 0), some (.int x1), some (.int x2), some (.int (x3 + 1)), none, none]) (st2 := []) (μ2 := (hMo G J)) rfl trivial ?_
  exact ih11 G x1 x2 (x3 + 1) h
set_option maxHeartbeats 4000000 in
set_option maxRecDepth 100000 in
theorem t_X6_longest_b63 {X : jX} {po : Option Value → jH → Prop} {px : String → jH → Prop} {sf : Bool} {B9 : Nat} (hM : jMX X kX6_longest RX6 tbX6 6 ⟨1, 0, 0, 22⟩ (some .int) 16) (hp : jPost X sf B9 po px) (N : Nat) (J : Nat → Nat → Int64) (rv11 : (Nat → Nat → Int32) → Int32 → Int32 → Int32 → Option (Int32 × (Nat → Nat → Int32))) (rv27 : (Nat → Nat → Int32) → Int32 → Int32 → Int32 → Int32 → Int32 → Option (Int32 × (Nat → Nat → Int32))) {res : Int32 × (Nat → Nat → Int32)} (ih11 : ∀ (G : Nat → Nat → Int32) (x1 : Int32) (x2 : Int32) (x3 : Int32), rv11 G x1 x2 x3 = some res → JW X 0 0 11 [some (.ref 0), some (.int x1), some (.int x2), some (.int x3), none, none] [] (hMo G J)) (ih27 : ∀ (G : Nat → Nat → Int32) (x1 : Int32) (x2 : Int32) (x3 : Int32) (x4 : Int32) (x5 : Int32), rv27 G x1 x2 x3 x4 x5 = some res → JW X 0 0 27 [some (.ref 0), some (.int x1), some (.int x2), some (.int x3), some (.int x4), some (.int x5)] [] (hMo G J)) (G : Nat → Nat → Int32) (x1 : Int32) (x2 : Int32) (x3 : Int32) (x5 : Int32) (s0 : Int32) (s1 : Int32) (h : p_X6_longest_b63 N J rv11 rv27 G x1 x2 x3 x5 s0 s1 = some res) (hq : po (some (.int res.1)) (hMo res.2 J)) : JW X 0 0 63 [some (.ref 0), some (.int x1), some (.int x2), some (.int x3), none, some (.int x5)] [.int s0, .int s1] (hMo G J) := by
  unfold p_X6_longest_b63 at h
  refine JW.r hM 38 4 (pc2 := 27) (L2 := [some (.ref 0), some (.int x1), some (.int x2), some (.int x3), some (.int (s1 + s0)), some (.int (x5 + 1))]) (st2 := []) (μ2 := (hMo G J)) rfl trivial ?_
  exact ih27 G x1 x2 x3 (s1 + s0) (x5 + 1) h
set_option maxHeartbeats 4000000 in
set_option maxRecDepth 100000 in
theorem t_X6_longest_b27 {X : jX} {po : Option Value → jH → Prop} {px : String → jH → Prop} {sf : Bool} {B9 : Nat} (hM : jMX X kX6_longest RX6 tbX6 6 ⟨1, 0, 0, 22⟩ (some .int) 16) (hp : jPost X sf B9 po px) (N : Nat) (J : Nat → Nat → Int64) (rv11 : (Nat → Nat → Int32) → Int32 → Int32 → Int32 → Option (Int32 × (Nat → Nat → Int32))) {res : Int32 × (Nat → Nat → Int32)} (ih11 : ∀ (G : Nat → Nat → Int32) (x1 : Int32) (x2 : Int32) (x3 : Int32), rv11 G x1 x2 x3 = some res → JW X 0 0 11 [some (.ref 0), some (.int x1), some (.int x2), some (.int x3), none, none] [] (hMo G J)) : ∀ (n : Nat) (G : Nat → Nat → Int32) (x1 : Int32) (x2 : Int32) (x3 : Int32) (x4 : Int32) (x5 : Int32) (h : p_X6_longest_b27 N J rv11 n G x1 x2 x3 x4 x5 = some res) (hq : po (some (.int res.1)) (hMo res.2 J)), JW X 0 0 27 [some (.ref 0), some (.int x1), some (.int x2), some (.int x3), some (.int x4), some (.int x5)] [] (hMo G J) := by
  intro n
  induction n with
  | zero =>
    intro G x1 x2 x3 x4 x5 h hq
    cases (show (none : Option (Int32 × (Nat → Nat → Int32))) = some res from h)
  | succ n ih27 =>
    intro G x1 x2 x3 x4 x5 h hq
    have ih27 := fun G x1 x2 x3 x4 x5 h9 => ih27 G x1 x2 x3 x4 x5 h9 hq
    rw [p_X6_longest_b27] at h
    refine JW.r hM 19 5 (pc2 := 36) (L2 := [some (.ref 0), some (.int x1), some (.int x2), some (.int x3), some (.int x4), some (.int x5)]) (st2 := [.int (G 1 7), .int x5]) (μ2 := (hMo G J)) rfl ⟨rfl, trivial⟩ ?_
    refine js_icge (t := 72) hM.1 (jat hM.2.1 24 rfl) rfl (fun hc9 => ?_) (fun hc9 => ?_)
    · have h := (if_pos hc9).symm.trans h
      refine JW.r hM 42 2 (pc2 := 75) (L2 := [some (.ref 0), some (.int x1), some (.int x2), some (.int x3), some (.int x4), some (.int x5)]) (st2 := [.int x2, .int x4]) (μ2 := (hMo G J)) rfl trivial ?_
      refine js_icgt (t := 81) hM.1 (jat hM.2.1 44 rfl) rfl (fun hc3 => ?_) (fun hc3 => ?_)
      · have h := (if_pos hc3).symm.trans h
        refine JW.r hM 46 4 (pc2 := 86) (L2 := [some (.ref 0), some (.int x3), some (.int x4), some (.int x3), some (.int x4), some (.int x5)]) (st2 := []) (μ2 := (hMo G J)) rfl trivial ?_
        exact JW.mask [true, true, true, true, false, false] (t_X6_longest_b86 hM hp N J rv11 ih11 G x3 x4 x3 h hq)
      · have h := (if_neg hc3).symm.trans h
        refine JW.r hM 45 1 (pc2 := 86) (L2 := [some (.ref 0), some (.int x1), some (.int x2), some (.int x3), some (.int x4), some (.int x5)]) (st2 := []) (μ2 := (hMo G J)) rfl trivial ?_
        exact JW.mask [true, true, true, true, false, false] (t_X6_longest_b86 hM hp N J rv11 ih11 G x1 x2 x3 h hq)
    · have h := (if_neg hc9).symm.trans h
      refine JW.r hM 25 4 (pc2 := 45) (L2 := [some (.ref 0), some (.int x1), some (.int x2), some (.int x3), some (.int x4), some (.int x5)]) (st2 := [.int (0 : Int32), .int x5, .ref 0, .int x4]) (μ2 := (hMo G J)) rfl trivial ?_
      obtain ⟨v5, hv4, h⟩ := jbd h
      refine JW.cV (v := some (.int v5)) hM (m_X6_of (jVX X) hM.1.2.2.2.2.2.2.2.2.2.1 N G J x5 (0 : Int32) v5 hv4) (sb_Mo_Mo_0 G J) (bi_Mo_Mo_0 G J) rfl rfl rfl kc_X6_208 rfl rfl rfl rfl rfl (jat hM.2.1 29 rfl) (st := [.int x4]) rfl ?_
      show JW X 0 0 48 [some (.ref 0), some (.int x1), some (.int x2), some (.int x3), some (.int x4), some (.int x5)] [.int v5, .int x4] (hMo G J)
      refine JW.r hM 30 1 (pc2 := 49) (L2 := [some (.ref 0), some (.int x1), some (.int x2), some (.int x3), some (.int x4), some (.int x5)]) (st2 := [.int x3, .int v5, .int x4]) (μ2 := (hMo G J)) rfl trivial ?_
      refine js_icne (t := 62) hM.1 (jat hM.2.1 31 rfl) rfl (fun hc8 => ?_) (fun hc8 => ?_)
      · have h := (if_neg hc8).symm.trans h
        refine JW.r hM 37 1 (pc2 := 63) (L2 := [some (.ref 0), some (.int x1), some (.int x2), some (.int x3), some (.int x4), some (.int x5)]) (st2 := [.int (0 : Int32), .int x4]) (μ2 := (hMo G J)) rfl trivial ?_
        exact JW.mask [true, true, true, true, false, true] (t_X6_longest_b63 hM hp N J rv11 (p_X6_longest_b27 N J rv11 n) ih11 ih27 G x1 x2 x3 x5 (0 : Int32) x4 h hq)
      · have h := (if_pos hc8).symm.trans h
        refine JW.r hM 32 3 (pc2 := 56) (L2 := [some (.ref 0), some (.int x1), some (.int x2), some (.int x3), some (.int x4), some (.int x5)]) (st2 := [.int (4 : Int32), .int x5, .ref 0, .int x4]) (μ2 := (hMo G J)) rfl trivial ?_
        obtain ⟨v7, hv6, h⟩ := jbd h
        refine JW.cV (v := some (.int v7)) hM (m_X6_of (jVX X) hM.1.2.2.2.2.2.2.2.2.2.1 N G J x5 (4 : Int32) v7 hv6) (sb_Mo_Mo_0 G J) (bi_Mo_Mo_0 G J) rfl rfl rfl kc_X6_208 rfl rfl rfl rfl rfl (jat hM.2.1 35 rfl) (st := [.int x4]) rfl ?_
        show JW X 0 0 59 [some (.ref 0), some (.int x1), some (.int x2), some (.int x3), some (.int x4), some (.int x5)] [.int v7, .int x4] (hMo G J)
        refine JW.r hM 36 1 (pc2 := 63) (L2 := [some (.ref 0), some (.int x1), some (.int x2), some (.int x3), some (.int x4), some (.int x5)]) (st2 := [.int v7, .int x4]) (μ2 := (hMo G J)) rfl trivial ?_
        exact JW.mask [true, true, true, true, false, true] (t_X6_longest_b63 hM hp N J rv11 (p_X6_longest_b27 N J rv11 n) ih11 ih27 G x1 x2 x3 x5 v7 x4 h hq)
set_option maxHeartbeats 4000000 in
set_option maxRecDepth 100000 in
theorem t_X6_longest_b11 {X : jX} {po : Option Value → jH → Prop} {px : String → jH → Prop} {sf : Bool} {B9 : Nat} (hM : jMX X kX6_longest RX6 tbX6 6 ⟨1, 0, 0, 22⟩ (some .int) 16) (hp : jPost X sf B9 po px) (N : Nat) (J : Nat → Nat → Int64) {res : Int32 × (Nat → Nat → Int32)} : ∀ (n : Nat) (G : Nat → Nat → Int32) (x1 : Int32) (x2 : Int32) (x3 : Int32) (h : p_X6_longest_b11 N J n G x1 x2 x3 = some res) (hq : po (some (.int res.1)) (hMo res.2 J)), JW X 0 0 11 [some (.ref 0), some (.int x1), some (.int x2), some (.int x3), none, none] [] (hMo G J) := by
  intro n
  induction n with
  | zero =>
    intro G x1 x2 x3 h hq
    cases (show (none : Option (Int32 × (Nat → Nat → Int32))) = some res from h)
  | succ n ih11 =>
    intro G x1 x2 x3 h hq
    have ih11 := fun G x1 x2 x3 h9 => ih11 G x1 x2 x3 h9 hq
    rw [p_X6_longest_b11] at h
    refine JW.r hM 9 5 (pc2 := 18) (L2 := [some (.ref 0), some (.int x1), some (.int x2), some (.int x3), none, none]) (st2 := [.int (G 1 2), .int x3]) (μ2 := (hMo G J)) rfl ⟨rfl, trivial⟩ ?_
    refine js_icge (t := 92) hM.1 (jat hM.2.1 14 rfl) rfl (fun hc10 => ?_) (fun hc10 => ?_)
    · have h := (if_pos hc10).symm.trans h
      refine JW.r hM 52 1 (pc2 := 93) (L2 := [some (.ref 0), some (.int x1), some (.int x2), some (.int x3), none, none]) (st2 := [.int x1]) (μ2 := (hMo G J)) rfl trivial ?_
      obtain rfl := Option.some.inj h
      exact js_iret hM.1 hp hM.2.2.2.2.2.2.2.1 (by rw [hM.2.2.2.2.2.1]; exact Nat.le_of_ble_eq_true rfl) (by rw [hM.2.2.2.2.2.2.1]; exact Nat.le_of_ble_eq_true rfl) (jat hM.2.1 53 rfl) hq
    · have h := (if_neg hc10).symm.trans h
      refine JW.r hM 15 4 (pc2 := 27) (L2 := [some (.ref 0), some (.int x1), some (.int x2), some (.int x3), some (.int (0 : Int32)), some (.int (0 : Int32))]) (st2 := []) (μ2 := (hMo G J)) rfl trivial ?_
      exact t_X6_longest_b27 hM hp N J (p_X6_longest_b11 N J n) ih11 N G x1 x2 x3 (0 : Int32) (0 : Int32) h hq
set_option maxHeartbeats 4000000 in
set_option maxRecDepth 100000 in
theorem t_X6_longest {X : jX} {po : Option Value → jH → Prop} {px : String → jH → Prop} {sf : Bool} {B9 : Nat} (hM : jMX X kX6_longest RX6 tbX6 6 ⟨1, 0, 0, 22⟩ (some .int) 16) (hp : jPost X sf B9 po px) (N : Nat) (G : Nat → Nat → Int32) (J : Nat → Nat → Int64) {res : Int32 × (Nat → Nat → Int32)} (h : p_X6_longest N G J = some res) (hq : po (some (.int res.1)) (hMo res.2 J)) : JW X 0 0 0 [some (.ref 0), none, none, none, none, none] [] (hMo G J) := by
  unfold p_X6_longest at h
  obtain ⟨G1, e2, h⟩ := jlE h
  refine JW.r hM 0 3 (pc2 := 5) (L2 := [some (.ref 0), none, none, none, none, none]) (st2 := []) (μ2 := (hMo (jup G 0 5 (0 : Int32)) J)) rfl trivial ?_
  rw [e2]
  refine JW.r hM 3 6 (pc2 := 11) (L2 := [some (.ref 0), some (.int (-1 : Int32)), some (.int (0 : Int32)), some (.int (0 : Int32)), none, none]) (st2 := []) (μ2 := (hMo G1 J)) rfl trivial ?_
  exact t_X6_longest_b11 hM hp N J N G1 (-1 : Int32) (0 : Int32) (0 : Int32) h hq
theorem m_X6_longest (V : jV) (hV : V.1.stackTraces = false) (N : Nat) (G : Nat → Nat → Int32) (J : Nat → Nat → Int64) (v : Int32 × (Nat → Nat → Int32)) (h : p_X6_longest N G J = some v) : jMet V yX6_longest (jws yX6_longest cX6_longest 6 (some .int)) ⟨1, 0, 0, 22⟩ true 1 [.ref 0] (hMo G J) (fun o ν => o = some (.int v.1) ∧ ν = (hMo v.2 J)) (fun _ _ => False) := by
  refine jmk (tb := tbX6) (C := kX6_longest) hV rfl (by decide) tbX6_ok rfl kX6_longest_ok rfl ?_
  intro X hM _ hp _
  exact t_X6_longest hM hp N G J h ⟨rfl, rfl⟩
def p_X6_bidder_b89 (N : Nat) (J : Nat → Nat → Int64) (rv23 : (Nat → Nat → Int32) → Int32 → Int32 → Int32 → Option (Int32 × (Nat → Nat → Int32))) (G : Nat → Nat → Int32) (x1 : Int32) (x2 : Int32) (x3 : Int32) : Option (Int32 × (Nat → Nat → Int32)) :=
  rv23 G x1 x2 (x3 + 1)
def p_X6_bidder_b87 (N : Nat) (J : Nat → Nat → Int64) (rv23 : (Nat → Nat → Int32) → Int32 → Int32 → Int32 → Option (Int32 × (Nat → Nat → Int32))) (G : Nat → Nat → Int32) (x1 : Int32) (x3 : Int32) : Option (Int32 × (Nat → Nat → Int32)) :=
  p_X6_bidder_b89 N J rv23 G x1 x3 x3
def p_X6_bidder_b23 (N : Nat) (J : Nat → Nat → Int64) : Nat → (Nat → Nat → Int32) → (Int32) → (Int32) → (Int32) → Option (Int32 × (Nat → Nat → Int32))
  | 0, _, _, _, _ => none
  | n + 1, G, x1, x2, x3 => if (G 1 1) ≤ x3 then (some (x2, G)) else (if jin ((14 : Int32) + x1) 264 = true then if (G 1 ((14 : Int32) + x1).toNatClampNeg) = x3 then (p_X6_bidder_b89 N J (p_X6_bidder_b23 N J n) G x1 x2 x3) else (if jin ((8 : Int32) + x3) 264 = true then (p_X6_worthTo N G J x1 x3).bind (fun v8 => if v8 ≤ (G 1 ((8 : Int32) + x3).toNatClampNeg) then (if x2 = (-1 : Int32) then (p_X6_bidder_b87 N J (p_X6_bidder_b23 N J n) G x1 x3) else ((p_X6_worthTo N G J x1 x3).bind (fun v10 => (p_X6_worthTo N G J x1 x2).bind (fun v12 => if v10 ≤ v12 then (p_X6_bidder_b89 N J (p_X6_bidder_b23 N J n) G x1 x2 x3) else (p_X6_bidder_b87 N J (p_X6_bidder_b23 N J n) G x1 x3))))) else (p_X6_bidder_b89 N J (p_X6_bidder_b23 N J n) G x1 x2 x3)) else none) else none)
def p_X6_bidder (N : Nat) (G : Nat → Nat → Int32) (J : Nat → Nat → Int64) (p0 : Int32) : Option (Int32 × (Nat → Nat → Int32)) :=
  jlt (jup G 0 5 (0 : Int32)) fun G1 => (p_X6_isThing N G1 J p0).bind (fun v4 => if v4 = 0 then ((p_X6_fails N G1 J (1 : Int32)).bind (fun v19 => jlt v19.2 fun G20 => some (v19.1, G20))) else (p_X6_bidder_b23 N J N G1 p0 (-1 : Int32) (0 : Int32)))
set_option maxHeartbeats 4000000 in
set_option maxRecDepth 100000 in
theorem t_X6_bidder_b89 {X : jX} {po : Option Value → jH → Prop} {px : String → jH → Prop} {sf : Bool} {B9 : Nat} (hM : jMX X kX6_bidder RX6 tbX6 4 ⟨2, 0, 0, 46⟩ (some .int) 16) (hp : jPost X sf B9 po px) (N : Nat) (J : Nat → Nat → Int64) (rv23 : (Nat → Nat → Int32) → Int32 → Int32 → Int32 → Option (Int32 × (Nat → Nat → Int32))) {res : Int32 × (Nat → Nat → Int32)} (ih23 : ∀ (G : Nat → Nat → Int32) (x1 : Int32) (x2 : Int32) (x3 : Int32), rv23 G x1 x2 x3 = some res → JW X 0 0 23 [some (.ref 0), some (.int x1), some (.int x2), some (.int x3)] [] (hMo G J)) (G : Nat → Nat → Int32) (x1 : Int32) (x2 : Int32) (x3 : Int32) (h : p_X6_bidder_b89 N J rv23 G x1 x2 x3 = some res) (hq : po (some (.int res.1)) (hMo res.2 J)) : JW X 0 0 89 [some (.ref 0), some (.int x1), some (.int x2), some (.int x3)] [] (hMo G J) := by
  unfold p_X6_bidder_b89 at h
  refine JW.r hM 55 2 (pc2 := 23) (L2 := [some (.ref 0), some (.int x1), some (.int x2), some (.int (x3 + 1))]) (st2 := []) (μ2 := (hMo G J)) rfl trivial ?_
  exact ih23 G x1 x2 (x3 + 1) h
set_option maxHeartbeats 4000000 in
set_option maxRecDepth 100000 in
theorem t_X6_bidder_b87 {X : jX} {po : Option Value → jH → Prop} {px : String → jH → Prop} {sf : Bool} {B9 : Nat} (hM : jMX X kX6_bidder RX6 tbX6 4 ⟨2, 0, 0, 46⟩ (some .int) 16) (hp : jPost X sf B9 po px) (N : Nat) (J : Nat → Nat → Int64) (rv23 : (Nat → Nat → Int32) → Int32 → Int32 → Int32 → Option (Int32 × (Nat → Nat → Int32))) {res : Int32 × (Nat → Nat → Int32)} (ih23 : ∀ (G : Nat → Nat → Int32) (x1 : Int32) (x2 : Int32) (x3 : Int32), rv23 G x1 x2 x3 = some res → JW X 0 0 23 [some (.ref 0), some (.int x1), some (.int x2), some (.int x3)] [] (hMo G J)) (G : Nat → Nat → Int32) (x1 : Int32) (x3 : Int32) (h : p_X6_bidder_b87 N J rv23 G x1 x3 = some res) (hq : po (some (.int res.1)) (hMo res.2 J)) : JW X 0 0 87 [some (.ref 0), some (.int x1), none, some (.int x3)] [] (hMo G J) := by
  unfold p_X6_bidder_b87 at h
  refine JW.r hM 53 2 (pc2 := 89) (L2 := [some (.ref 0), some (.int x1), some (.int x3), some (.int x3)]) (st2 := []) (μ2 := (hMo G J)) rfl trivial ?_
  exact t_X6_bidder_b89 hM hp N J rv23 ih23 G x1 x3 x3 h hq
set_option maxHeartbeats 4000000 in
set_option maxRecDepth 100000 in
theorem t_X6_bidder_b23 {X : jX} {po : Option Value → jH → Prop} {px : String → jH → Prop} {sf : Bool} {B9 : Nat} (hM : jMX X kX6_bidder RX6 tbX6 4 ⟨2, 0, 0, 46⟩ (some .int) 16) (hp : jPost X sf B9 po px) (N : Nat) (J : Nat → Nat → Int64) {res : Int32 × (Nat → Nat → Int32)} : ∀ (n : Nat) (G : Nat → Nat → Int32) (x1 : Int32) (x2 : Int32) (x3 : Int32) (h : p_X6_bidder_b23 N J n G x1 x2 x3 = some res) (hq : po (some (.int res.1)) (hMo res.2 J)), JW X 0 0 23 [some (.ref 0), some (.int x1), some (.int x2), some (.int x3)] [] (hMo G J) := by
  intro n
  induction n with
  | zero =>
    intro G x1 x2 x3 h hq
    cases (show (none : Option (Int32 × (Nat → Nat → Int32))) = some res from h)
  | succ n ih23 =>
    intro G x1 x2 x3 h hq
    have ih23 := fun G x1 x2 x3 h9 => ih23 G x1 x2 x3 h9 hq
    rw [p_X6_bidder_b23] at h
    refine JW.r hM 15 5 (pc2 := 30) (L2 := [some (.ref 0), some (.int x1), some (.int x2), some (.int x3)]) (st2 := [.int (G 1 1), .int x3]) (μ2 := (hMo G J)) rfl ⟨rfl, trivial⟩ ?_
    refine js_icge (t := 95) hM.1 (jat hM.2.1 20 rfl) rfl (fun hc17 => ?_) (fun hc17 => ?_)
    · have h := (if_pos hc17).symm.trans h
      refine JW.r hM 57 1 (pc2 := 96) (L2 := [some (.ref 0), some (.int x1), some (.int x2), some (.int x3)]) (st2 := [.int x2]) (μ2 := (hMo G J)) rfl trivial ?_
      obtain rfl := Option.some.inj h
      exact js_iret hM.1 hp hM.2.2.2.2.2.2.2.1 (by rw [hM.2.2.2.2.2.1]; exact Nat.le_of_ble_eq_true rfl) (by rw [hM.2.2.2.2.2.2.1]; exact Nat.le_of_ble_eq_true rfl) (jat hM.2.1 58 rfl) hq
    · have h := (if_neg hc17).symm.trans h
      obtain ⟨g5, h⟩ := jg h
      refine JW.r hM 21 7 (pc2 := 43) (L2 := [some (.ref 0), some (.int x1), some (.int x2), some (.int x3)]) (st2 := [.int x3, .int (G 1 ((14 : Int32) + x1).toNatClampNeg)]) (μ2 := (hMo G J)) rfl ⟨g5, trivial⟩ ?_
      refine js_iceq (t := 89) hM.1 (jat hM.2.1 28 rfl) rfl (fun hc16 => ?_) (fun hc16 => ?_)
      · have h := (if_pos hc16).symm.trans h
        exact t_X6_bidder_b89 hM hp N J (p_X6_bidder_b23 N J n) ih23 G x1 x2 x3 h hq
      · have h := (if_neg hc16).symm.trans h
        obtain ⟨g6, h⟩ := jg h
        refine JW.r hM 29 9 (pc2 := 58) (L2 := [some (.ref 0), some (.int x1), some (.int x2), some (.int x3)]) (st2 := [.int x3, .int x1, .ref 0, .int (G 1 ((8 : Int32) + x3).toNatClampNeg)]) (μ2 := (hMo G J)) rfl ⟨g6, trivial⟩ ?_
        obtain ⟨v8, hv7, h⟩ := jbd h
        refine JW.cV (v := some (.int v8)) hM (m_X6_worthTo (jVX X) hM.1.2.2.2.2.2.2.2.2.2.1 N G J x1 x3 v8 hv7) (sb_Mo_Mo_0 G J) (bi_Mo_Mo_0 G J) rfl rfl rfl kc_X6_183 rfl rfl rfl rfl rfl (jat hM.2.1 38 rfl) (st := [.int (G 1 ((8 : Int32) + x3).toNatClampNeg)]) rfl ?_
        show JW X 0 0 61 [some (.ref 0), some (.int x1), some (.int x2), some (.int x3)] [.int v8, .int (G 1 ((8 : Int32) + x3).toNatClampNeg)] (hMo G J)
        refine js_icge (t := 67) hM.1 (jat hM.2.1 39 rfl) rfl (fun hc15 => ?_) (fun hc15 => ?_)
        · have h := (if_pos hc15).symm.trans h
          refine JW.r hM 41 2 (pc2 := 69) (L2 := [some (.ref 0), some (.int x1), some (.int x2), some (.int x3)]) (st2 := [.int (-1 : Int32), .int x2]) (μ2 := (hMo G J)) rfl trivial ?_
          refine js_iceq (t := 87) hM.1 (jat hM.2.1 43 rfl) rfl (fun hc14 => ?_) (fun hc14 => ?_)
          · have h := (if_pos hc14).symm.trans h
            exact JW.mask [true, true, false, true] (t_X6_bidder_b87 hM hp N J (p_X6_bidder_b23 N J n) ih23 G x1 x3 h hq)
          · have h := (if_neg hc14).symm.trans h
            refine JW.r hM 44 3 (pc2 := 75) (L2 := [some (.ref 0), some (.int x1), some (.int x2), some (.int x3)]) (st2 := [.int x3, .int x1, .ref 0]) (μ2 := (hMo G J)) rfl trivial ?_
            obtain ⟨v10, hv9, h⟩ := jbd h
            refine JW.cV (v := some (.int v10)) hM (m_X6_worthTo (jVX X) hM.1.2.2.2.2.2.2.2.2.2.1 N G J x1 x3 v10 hv9) (sb_Mo_Mo_0 G J) (bi_Mo_Mo_0 G J) rfl rfl rfl kc_X6_183 rfl rfl rfl rfl rfl (jat hM.2.1 47 rfl) (st := []) rfl ?_
            show JW X 0 0 78 [some (.ref 0), some (.int x1), some (.int x2), some (.int x3)] [.int v10] (hMo G J)
            refine JW.r hM 48 3 (pc2 := 81) (L2 := [some (.ref 0), some (.int x1), some (.int x2), some (.int x3)]) (st2 := [.int x2, .int x1, .ref 0, .int v10]) (μ2 := (hMo G J)) rfl trivial ?_
            obtain ⟨v12, hv11, h⟩ := jbd h
            refine JW.cV (v := some (.int v12)) hM (m_X6_worthTo (jVX X) hM.1.2.2.2.2.2.2.2.2.2.1 N G J x1 x2 v12 hv11) (sb_Mo_Mo_0 G J) (bi_Mo_Mo_0 G J) rfl rfl rfl kc_X6_183 rfl rfl rfl rfl rfl (jat hM.2.1 51 rfl) (st := [.int v10]) rfl ?_
            show JW X 0 0 84 [some (.ref 0), some (.int x1), some (.int x2), some (.int x3)] [.int v12, .int v10] (hMo G J)
            refine js_icle (t := 89) hM.1 (jat hM.2.1 52 rfl) rfl (fun hc13 => ?_) (fun hc13 => ?_)
            · have h := (if_pos hc13).symm.trans h
              exact t_X6_bidder_b89 hM hp N J (p_X6_bidder_b23 N J n) ih23 G x1 x2 x3 h hq
            · have h := (if_neg hc13).symm.trans h
              exact JW.mask [true, true, false, true] (t_X6_bidder_b87 hM hp N J (p_X6_bidder_b23 N J n) ih23 G x1 x3 h hq)
        · have h := (if_neg hc15).symm.trans h
          refine JW.r hM 40 1 (pc2 := 89) (L2 := [some (.ref 0), some (.int x1), some (.int x2), some (.int x3)]) (st2 := []) (μ2 := (hMo G J)) rfl trivial ?_
          exact t_X6_bidder_b89 hM hp N J (p_X6_bidder_b23 N J n) ih23 G x1 x2 x3 h hq
set_option maxHeartbeats 4000000 in
set_option maxRecDepth 100000 in
theorem t_X6_bidder {X : jX} {po : Option Value → jH → Prop} {px : String → jH → Prop} {sf : Bool} {B9 : Nat} (hM : jMX X kX6_bidder RX6 tbX6 4 ⟨2, 0, 0, 46⟩ (some .int) 16) (hp : jPost X sf B9 po px) (N : Nat) (G : Nat → Nat → Int32) (J : Nat → Nat → Int64) (p0 : Int32) {res : Int32 × (Nat → Nat → Int32)} (h : p_X6_bidder N G J p0 = some res) (hq : po (some (.int res.1)) (hMo res.2 J)) : JW X 0 0 0 [some (.ref 0), some (.int p0), none, none] [] (hMo G J) := by
  unfold p_X6_bidder at h
  obtain ⟨G1, e2, h⟩ := jlE h
  refine JW.r hM 0 3 (pc2 := 5) (L2 := [some (.ref 0), some (.int p0), none, none]) (st2 := []) (μ2 := (hMo (jup G 0 5 (0 : Int32)) J)) rfl trivial ?_
  rw [e2]
  refine JW.r hM 3 2 (pc2 := 7) (L2 := [some (.ref 0), some (.int p0), none, none]) (st2 := [.int p0, .ref 0]) (μ2 := (hMo G1 J)) rfl trivial ?_
  obtain ⟨v4, hv3, h⟩ := jbd h
  refine JW.cV (v := some (.int v4)) hM (m_X6_isThing (jVX X) hM.1.2.2.2.2.2.2.2.2.2.1 N G1 J p0 v4 hv3) (sb_Mo_Mo_0 G1 J) (bi_Mo_Mo_0 G1 J) rfl rfl rfl kc_X6_197 rfl rfl rfl rfl rfl (jat hM.2.1 5 rfl) (st := []) rfl ?_
  show JW X 0 0 10 [some (.ref 0), some (.int p0), none, none] [.int v4] (hMo G1 J)
  refine js_ifne (t := 19) hM.1 (jat hM.2.1 6 rfl) rfl (fun hc22 => ?_) (fun hc22 => ?_)
  · have h := (if_neg hc22).symm.trans h
    refine JW.r hM 11 4 (pc2 := 23) (L2 := [some (.ref 0), some (.int p0), some (.int (-1 : Int32)), some (.int (0 : Int32))]) (st2 := []) (μ2 := (hMo G1 J)) rfl trivial ?_
    exact t_X6_bidder_b23 hM hp N J N G1 p0 (-1 : Int32) (0 : Int32) h hq
  · have h := (if_pos hc22).symm.trans h
    refine JW.r hM 7 2 (pc2 := 15) (L2 := [some (.ref 0), some (.int p0), none, none]) (st2 := [.int (1 : Int32), .ref 0]) (μ2 := (hMo G1 J)) rfl trivial ?_
    obtain ⟨v19, hv18, h⟩ := jbd h
    refine JW.cV (v := some (.int v19.1)) hM (m_X6_fails (jVX X) hM.1.2.2.2.2.2.2.2.2.2.1 N G1 J (1 : Int32) v19 hv18) (sb_Mo_Mo_0 G1 J) (bk_Mo_Mo_0 G1 J v19.2 J) rfl rfl rfl kc_X6_170 rfl rfl rfl rfl rfl (jat hM.2.1 9 rfl) (st := []) rfl ?_
    show JW X 0 0 18 [some (.ref 0), some (.int p0), none, none] [.int v19.1] (hMo v19.2 J)
    obtain ⟨G20, e21, h⟩ := jlE h
    rw [e21]
    obtain rfl := Option.some.inj h
    exact js_iret hM.1 hp hM.2.2.2.2.2.2.2.1 (by rw [hM.2.2.2.2.2.1]; exact Nat.le_of_ble_eq_true rfl) (by rw [hM.2.2.2.2.2.2.1]; exact Nat.le_of_ble_eq_true rfl) (jat hM.2.1 10 rfl) hq
theorem m_X6_bidder (V : jV) (hV : V.1.stackTraces = false) (N : Nat) (G : Nat → Nat → Int32) (J : Nat → Nat → Int64) (p0 : Int32) (v : Int32 × (Nat → Nat → Int32)) (h : p_X6_bidder N G J p0 = some v) : jMet V yX6_bidder (jws yX6_bidder cX6_bidder 4 (some .int)) ⟨2, 0, 0, 46⟩ true 1 [.ref 0, .int p0] (hMo G J) (fun o ν => o = some (.int v.1) ∧ ν = (hMo v.2 J)) (fun _ _ => False) := by
  refine jmk (tb := tbX6) (C := kX6_bidder) hV rfl (by decide) tbX6_ok rfl kX6_bidder_ok rfl ?_
  intro X hM _ hp _
  exact t_X6_bidder hM hp N G J p0 h ⟨rfl, rfl⟩
def p_X6_seat (N : Nat) (G : Nat → Nat → Int32) (J : Nat → Nat → Int64) (p0 : Int32) (p1 : Int32) (p2 : Int32) : Option (Int32) :=
  some ((((p0 * (1024 : Int32)) + p1) * (6 : Int32)) + p2)
set_option maxHeartbeats 4000000 in
set_option maxRecDepth 100000 in
theorem t_X6_seat {X : jX} {po : Option Value → jH → Prop} {px : String → jH → Prop} {sf : Bool} {B9 : Nat} (hM : jMX X kX6_seat RX6 tbX6 4 ⟨0, 0, 0, 0⟩ (some .int) 16) (hp : jPost X sf B9 po px) (N : Nat) (G : Nat → Nat → Int32) (J : Nat → Nat → Int64) (p0 : Int32) (p1 : Int32) (p2 : Int32) {res : Int32} (h : p_X6_seat N G J p0 p1 p2 = some res) (hq : po (some (.int res)) (hMo G J)) : JW X 0 0 0 [some (.ref 0), some (.int p0), some (.int p1), some (.int p2)] [] (hMo G J) := by
  unfold p_X6_seat at h
  refine JW.r hM 0 9 (pc2 := 12) (L2 := [some (.ref 0), some (.int p0), some (.int p1), some (.int p2)]) (st2 := [.int ((((p0 * (1024 : Int32)) + p1) * (6 : Int32)) + p2)]) (μ2 := (hMo G J)) rfl trivial ?_
  obtain rfl := Option.some.inj h
  exact js_iret hM.1 hp hM.2.2.2.2.2.2.2.1 (by rw [hM.2.2.2.2.2.1]; exact Nat.le_of_ble_eq_true rfl) (by rw [hM.2.2.2.2.2.2.1]; exact Nat.le_of_ble_eq_true rfl) (jat hM.2.1 9 rfl) hq
theorem m_X6_seat (V : jV) (hV : V.1.stackTraces = false) (N : Nat) (G : Nat → Nat → Int32) (J : Nat → Nat → Int64) (p0 : Int32) (p1 : Int32) (p2 : Int32) (v : Int32) (h : p_X6_seat N G J p0 p1 p2 = some v) : jMet V yX6_seat (jws yX6_seat cX6_seat 4 (some .int)) ⟨0, 0, 0, 0⟩ true 1 [.ref 0, .int p0, .int p1, .int p2] (hMo G J) (fun o ν => o = some (.int v) ∧ ν = (hMo G J)) (fun _ _ => False) := by
  refine jmk (tb := tbX6) (C := kX6_seat) hV rfl (by decide) tbX6_ok rfl kX6_seat_ok rfl ?_
  intro X hM _ hp _
  exact t_X6_seat hM hp N G J p0 p1 p2 h ⟨rfl, rfl⟩
def p_X6_fallIn_b59 (N : Nat) (G : Nat → Nat → Int32) (J : Nat → Nat → Int64) (rv5 : Int32 → Int32 → Int32 → Int32 → Option (Int32)) (x1 : Int32) (x2 : Int32) (x4 : Int32) (s0 : Int32) (s1 : Int32) : Option (Int32) :=
  rv5 x1 x2 (s1 ||| s0) (x4 + 1)
def p_X6_fallIn_b58 (N : Nat) (G : Nat → Nat → Int32) (J : Nat → Nat → Int64) (rv5 : Int32 → Int32 → Int32 → Int32 → Option (Int32)) (x1 : Int32) (x2 : Int32) (x4 : Int32) (s0 : Int32) : Option (Int32) :=
  p_X6_fallIn_b59 N G J rv5 x1 x2 x4 (0 : Int32) s0
def p_X6_fallIn_b5 (N : Nat) (G : Nat → Nat → Int32) (J : Nat → Nat → Int64) : Nat → (Int32) → (Int32) → (Int32) → (Int32) → Option (Int32)
  | 0, _, _, _, _ => none
  | n + 1, x1, x2, x3, x4 => if (G 0 23) ≤ x4 then (some x3) else (if ((x1 >>> (x4 &&& 31)) &&& (1 : Int32)) = (1 : Int32) then (if jin x4 10 = true then (p_X6_of N G J (G 8 x4.toNatClampNeg) (0 : Int32)).bind (fun v3 => if jin x2 10 = true then (p_X6_of N G J (G 8 x2.toNatClampNeg) (0 : Int32)).bind (fun v6 => if v3 = v6 then (p_X6_fallIn_b59 N G J (p_X6_fallIn_b5 N G J n) x1 x2 x4 ((1 : Int32) <<< (x4 &&& 31)) x3) else (p_X6_fallIn_b58 N G J (p_X6_fallIn_b5 N G J n) x1 x2 x4 x3)) else none) else none) else (p_X6_fallIn_b58 N G J (p_X6_fallIn_b5 N G J n) x1 x2 x4 x3))
def p_X6_fallIn (N : Nat) (G : Nat → Nat → Int32) (J : Nat → Nat → Int64) (p0 : Int32) (p1 : Int32) : Option (Int32) :=
  p_X6_fallIn_b5 N G J N p0 p1 (0 : Int32) p1
set_option maxHeartbeats 4000000 in
set_option maxRecDepth 100000 in
theorem t_X6_fallIn_b59 {X : jX} {po : Option Value → jH → Prop} {px : String → jH → Prop} {sf : Bool} {B9 : Nat} (hM : jMX X kX6_fallIn RX6 tbX6 5 ⟨1, 0, 0, 22⟩ (some .int) 16) (hp : jPost X sf B9 po px) (N : Nat) (G : Nat → Nat → Int32) (J : Nat → Nat → Int64) (rv5 : Int32 → Int32 → Int32 → Int32 → Option (Int32)) {res : Int32} (ih5 : ∀ (x1 : Int32) (x2 : Int32) (x3 : Int32) (x4 : Int32), rv5 x1 x2 x3 x4 = some res → JW X 0 0 5 [some (.ref 0), some (.int x1), some (.int x2), some (.int x3), some (.int x4)] [] (hMo G J)) (x1 : Int32) (x2 : Int32) (x4 : Int32) (s0 : Int32) (s1 : Int32) (h : p_X6_fallIn_b59 N G J rv5 x1 x2 x4 s0 s1 = some res) (hq : po (some (.int res)) (hMo G J)) : JW X 0 0 59 [some (.ref 0), some (.int x1), some (.int x2), none, some (.int x4)] [.int s0, .int s1] (hMo G J) := by
  unfold p_X6_fallIn_b59 at h
  refine JW.r hM 36 4 (pc2 := 5) (L2 := [some (.ref 0), some (.int x1), some (.int x2), some (.int (s1 ||| s0)), some (.int (x4 + 1))]) (st2 := []) (μ2 := (hMo G J)) rfl trivial ?_
  exact ih5 x1 x2 (s1 ||| s0) (x4 + 1) h
set_option maxHeartbeats 4000000 in
set_option maxRecDepth 100000 in
theorem t_X6_fallIn_b58 {X : jX} {po : Option Value → jH → Prop} {px : String → jH → Prop} {sf : Bool} {B9 : Nat} (hM : jMX X kX6_fallIn RX6 tbX6 5 ⟨1, 0, 0, 22⟩ (some .int) 16) (hp : jPost X sf B9 po px) (N : Nat) (G : Nat → Nat → Int32) (J : Nat → Nat → Int64) (rv5 : Int32 → Int32 → Int32 → Int32 → Option (Int32)) {res : Int32} (ih5 : ∀ (x1 : Int32) (x2 : Int32) (x3 : Int32) (x4 : Int32), rv5 x1 x2 x3 x4 = some res → JW X 0 0 5 [some (.ref 0), some (.int x1), some (.int x2), some (.int x3), some (.int x4)] [] (hMo G J)) (x1 : Int32) (x2 : Int32) (x4 : Int32) (s0 : Int32) (h : p_X6_fallIn_b58 N G J rv5 x1 x2 x4 s0 = some res) (hq : po (some (.int res)) (hMo G J)) : JW X 0 0 58 [some (.ref 0), some (.int x1), some (.int x2), none, some (.int x4)] [.int s0] (hMo G J) := by
  unfold p_X6_fallIn_b58 at h
  refine JW.r hM 35 1 (pc2 := 59) (L2 := [some (.ref 0), some (.int x1), some (.int x2), none, some (.int x4)]) (st2 := [.int (0 : Int32), .int s0]) (μ2 := (hMo G J)) rfl trivial ?_
  exact t_X6_fallIn_b59 hM hp N G J rv5 ih5 x1 x2 x4 (0 : Int32) s0 h hq
set_option maxHeartbeats 4000000 in
set_option maxRecDepth 100000 in
theorem t_X6_fallIn_b5 {X : jX} {po : Option Value → jH → Prop} {px : String → jH → Prop} {sf : Bool} {B9 : Nat} (hM : jMX X kX6_fallIn RX6 tbX6 5 ⟨1, 0, 0, 22⟩ (some .int) 16) (hp : jPost X sf B9 po px) (N : Nat) (G : Nat → Nat → Int32) (J : Nat → Nat → Int64) {res : Int32} : ∀ (n : Nat) (x1 : Int32) (x2 : Int32) (x3 : Int32) (x4 : Int32) (h : p_X6_fallIn_b5 N G J n x1 x2 x3 x4 = some res) (hq : po (some (.int res)) (hMo G J)), JW X 0 0 5 [some (.ref 0), some (.int x1), some (.int x2), some (.int x3), some (.int x4)] [] (hMo G J) := by
  intro n
  induction n with
  | zero =>
    intro x1 x2 x3 x4 h hq
    cases (show (none : Option (Int32)) = some res from h)
  | succ n ih5 =>
    intro x1 x2 x3 x4 h hq
    have ih5 := fun x1 x2 x3 x4 h9 => ih5 x1 x2 x3 x4 h9 hq
    rw [p_X6_fallIn_b5] at h
    refine JW.r hM 4 3 (pc2 := 11) (L2 := [some (.ref 0), some (.int x1), some (.int x2), some (.int x3), some (.int x4)]) (st2 := [.int (G 0 23), .int x4]) (μ2 := (hMo G J)) rfl trivial ?_
    refine js_icge (t := 67) hM.1 (jat hM.2.1 7 rfl) rfl (fun hc9 => ?_) (fun hc9 => ?_)
    · have h := (if_pos hc9).symm.trans h
      refine JW.r hM 40 1 (pc2 := 68) (L2 := [some (.ref 0), some (.int x1), some (.int x2), some (.int x3), some (.int x4)]) (st2 := [.int x3]) (μ2 := (hMo G J)) rfl trivial ?_
      obtain rfl := Option.some.inj h
      exact js_iret hM.1 hp hM.2.2.2.2.2.2.2.1 (by rw [hM.2.2.2.2.2.1]; exact Nat.le_of_ble_eq_true rfl) (by rw [hM.2.2.2.2.2.2.1]; exact Nat.le_of_ble_eq_true rfl) (jat hM.2.1 41 rfl) hq
    · have h := (if_neg hc9).symm.trans h
      refine JW.r hM 8 7 (pc2 := 22) (L2 := [some (.ref 0), some (.int x1), some (.int x2), some (.int x3), some (.int x4)]) (st2 := [.int (1 : Int32), .int ((x1 >>> (x4 &&& 31)) &&& (1 : Int32)), .int x3]) (μ2 := (hMo G J)) rfl trivial ?_
      refine js_icne (t := 58) hM.1 (jat hM.2.1 15 rfl) rfl (fun hc8 => ?_) (fun hc8 => ?_)
      · have h := (if_neg hc8).symm.trans h
        exact JW.mask [true, true, true, false, true] (t_X6_fallIn_b58 hM hp N G J (p_X6_fallIn_b5 N G J n) ih5 x1 x2 x4 x3 h hq)
      · have h := (if_pos hc8).symm.trans h
        obtain ⟨g1, h⟩ := jg h
        refine JW.r hM 16 6 (pc2 := 34) (L2 := [some (.ref 0), some (.int x1), some (.int x2), some (.int x3), some (.int x4)]) (st2 := [.int (0 : Int32), .int (G 8 x4.toNatClampNeg), .ref 0, .int x3]) (μ2 := (hMo G J)) rfl ⟨g1, trivial⟩ ?_
        obtain ⟨v3, hv2, h⟩ := jbd h
        refine JW.cV (v := some (.int v3)) hM (m_X6_of (jVX X) hM.1.2.2.2.2.2.2.2.2.2.1 N G J (G 8 x4.toNatClampNeg) (0 : Int32) v3 hv2) (sb_Mo_Mo_0 G J) (bi_Mo_Mo_0 G J) rfl rfl rfl kc_X6_208 rfl rfl rfl rfl rfl (jat hM.2.1 22 rfl) (st := [.int x3]) rfl ?_
        show JW X 0 0 37 [some (.ref 0), some (.int x1), some (.int x2), some (.int x3), some (.int x4)] [.int v3, .int x3] (hMo G J)
        obtain ⟨g4, h⟩ := jg h
        refine JW.r hM 23 6 (pc2 := 45) (L2 := [some (.ref 0), some (.int x1), some (.int x2), some (.int x3), some (.int x4)]) (st2 := [.int (0 : Int32), .int (G 8 x2.toNatClampNeg), .ref 0, .int v3, .int x3]) (μ2 := (hMo G J)) rfl ⟨g4, trivial⟩ ?_
        obtain ⟨v6, hv5, h⟩ := jbd h
        refine JW.cV (v := some (.int v6)) hM (m_X6_of (jVX X) hM.1.2.2.2.2.2.2.2.2.2.1 N G J (G 8 x2.toNatClampNeg) (0 : Int32) v6 hv5) (sb_Mo_Mo_0 G J) (bi_Mo_Mo_0 G J) rfl rfl rfl kc_X6_208 rfl rfl rfl rfl rfl (jat hM.2.1 29 rfl) (st := [.int v3, .int x3]) rfl ?_
        show JW X 0 0 48 [some (.ref 0), some (.int x1), some (.int x2), some (.int x3), some (.int x4)] [.int v6, .int v3, .int x3] (hMo G J)
        refine js_icne (t := 58) hM.1 (jat hM.2.1 30 rfl) rfl (fun hc7 => ?_) (fun hc7 => ?_)
        · have h := (if_neg hc7).symm.trans h
          exact JW.mask [true, true, true, false, true] (t_X6_fallIn_b58 hM hp N G J (p_X6_fallIn_b5 N G J n) ih5 x1 x2 x4 x3 h hq)
        · have h := (if_pos hc7).symm.trans h
          refine JW.r hM 31 4 (pc2 := 59) (L2 := [some (.ref 0), some (.int x1), some (.int x2), some (.int x3), some (.int x4)]) (st2 := [.int ((1 : Int32) <<< (x4 &&& 31)), .int x3]) (μ2 := (hMo G J)) rfl trivial ?_
          exact JW.mask [true, true, true, false, true] (t_X6_fallIn_b59 hM hp N G J (p_X6_fallIn_b5 N G J n) ih5 x1 x2 x4 ((1 : Int32) <<< (x4 &&& 31)) x3 h hq)
set_option maxHeartbeats 4000000 in
set_option maxRecDepth 100000 in
theorem t_X6_fallIn {X : jX} {po : Option Value → jH → Prop} {px : String → jH → Prop} {sf : Bool} {B9 : Nat} (hM : jMX X kX6_fallIn RX6 tbX6 5 ⟨1, 0, 0, 22⟩ (some .int) 16) (hp : jPost X sf B9 po px) (N : Nat) (G : Nat → Nat → Int32) (J : Nat → Nat → Int64) (p0 : Int32) (p1 : Int32) {res : Int32} (h : p_X6_fallIn N G J p0 p1 = some res) (hq : po (some (.int res)) (hMo G J)) : JW X 0 0 0 [some (.ref 0), some (.int p0), some (.int p1), none, none] [] (hMo G J) := by
  unfold p_X6_fallIn at h
  refine JW.r hM 0 4 (pc2 := 5) (L2 := [some (.ref 0), some (.int p0), some (.int p1), some (.int (0 : Int32)), some (.int p1)]) (st2 := []) (μ2 := (hMo G J)) rfl trivial ?_
  exact t_X6_fallIn_b5 hM hp N G J N p0 p1 (0 : Int32) p1 h hq
theorem m_X6_fallIn (V : jV) (hV : V.1.stackTraces = false) (N : Nat) (G : Nat → Nat → Int32) (J : Nat → Nat → Int64) (p0 : Int32) (p1 : Int32) (v : Int32) (h : p_X6_fallIn N G J p0 p1 = some v) : jMet V yX6_fallIn (jws yX6_fallIn cX6_fallIn 5 (some .int)) ⟨1, 0, 0, 22⟩ true 1 [.ref 0, .int p0, .int p1] (hMo G J) (fun o ν => o = some (.int v) ∧ ν = (hMo G J)) (fun _ _ => False) := by
  refine jmk (tb := tbX6) (C := kX6_fallIn) hV rfl (by decide) tbX6_ok rfl kX6_fallIn_ok rfl ?_
  intro X hM _ hp _
  exact t_X6_fallIn hM hp N G J p0 p1 h ⟨rfl, rfl⟩
def p_X6_laysUndoing_b154 (N : Nat) (J : Nat → Nat → Int64) : Nat → (Nat → Nat → Int32) → (Int32) → (Int32) → (Int32) → (Int32) → (Int32) → Option ((Nat → Nat → Int32))
  | 0, _, _, _, _, _, _ => none
  | n + 1, G, x2, x3, x5, x6, x7 => if (G 1 1) ≤ x7 then (if jin x2 10 = true then (p_X6_of N G J (G 8 x2.toNatClampNeg) (0 : Int32)).bind (fun v5 => if jin x6 10 = true then (p_X6_of N G J (G 8 x6.toNatClampNeg) (2 : Int32)).bind (fun v8 => if jin x2 10 = true then (p_X6_of N G J (G 8 x2.toNatClampNeg) (1 : Int32)).bind (fun v11 => if jin v8 6 = true then (p_X6_worthTo N G J v5 v8).bind (fun v14 => if jin v8 6 = true then jlt (jup G 11 v8.toNatClampNeg ((G 11 v8.toNatClampNeg) - v14)) fun G16 => if jin v11 6 = true then (p_X6_worthTo N G16 J v5 v11).bind (fun v20 => if jin v11 6 = true then jlt (jup G16 11 v11.toNatClampNeg ((G16 11 v11.toNatClampNeg) + v20)) fun G22 => some G22 else none) else none else none) else none) else none) else none) else none) else ((p_X6_pays N G J x5 x3 x7).bind (fun v25 => if jin x7 6 = true then if jin x7 6 = true then jlt (jup G 11 x7.toNatClampNeg ((G 11 x7.toNatClampNeg) + v25)) fun G28 => if jin x3 6 = true then if jin x3 6 = true then jlt (jup G28 11 x3.toNatClampNeg ((G28 11 x3.toNatClampNeg) - v25)) fun G32 => (p_X6_laysUndoing_b154 N J n) G32 x2 x3 x5 x6 (x7 + 1) else none else none else none else none))
def p_X6_laysUndoing_b145 (N : Nat) (J : Nat → Nat → Int64) (rv41 : (Nat → Nat → Int32) → Int32 → Int32 → Int32 → Int32 → Int32 → Int32 → Option ((Nat → Nat → Int32))) (G : Nat → Nat → Int32) (x2 : Int32) (x3 : Int32) (x4 : Int32) (x5 : Int32) (x6 : Int32) (x7 : Int32) : Option ((Nat → Nat → Int32)) :=
  rv41 G x2 x3 x4 x5 x6 (x7 + 1)
def p_X6_laysUndoing_b41 (N : Nat) (J : Nat → Nat → Int64) : Nat → (Nat → Nat → Int32) → (Int32) → (Int32) → (Int32) → (Int32) → (Int32) → (Int32) → Option ((Nat → Nat → Int32))
  | 0, _, _, _, _, _, _, _ => none
  | n + 1, G, x2, x3, x4, x5, x6, x7 => if (G 0 23) ≤ x7 then (p_X6_laysUndoing_b154 N J N G x2 x3 x5 x6 (0 : Int32)) else (if ((x4 >>> (x7 &&& 31)) &&& (1 : Int32)) = 0 then (p_X6_laysUndoing_b145 N J (p_X6_laysUndoing_b41 N J n) G x2 x3 x4 x5 x6 x7) else (if jin x7 10 = true then if jin x7 10 = true then (p_X6_of N G J (G 8 x7.toNatClampNeg) (1 : Int32)).bind (fun v38 => if jin v38 6 = true then if jin x7 10 = true then (p_X6_of N G J (G 8 x7.toNatClampNeg) (3 : Int32)).bind (fun v42 => if jin v38 6 = true then jlt (jup G 11 v38.toNatClampNeg ((G 11 v38.toNatClampNeg) - v42)) fun G44 => if jin x7 10 = true then (p_X6_of N G44 J (G44 8 x7.toNatClampNeg) (2 : Int32)).bind (fun v48 => if jin v48 6 = true then if jin x7 10 = true then (p_X6_of N G44 J (G44 8 x7.toNatClampNeg) (3 : Int32)).bind (fun v52 => if jin v48 6 = true then jlt (jup G44 11 v48.toNatClampNeg ((G44 11 v48.toNatClampNeg) + v52)) fun G54 => p_X6_laysUndoing_b145 N J (p_X6_laysUndoing_b41 N J n) G54 x2 x3 x4 (x5 ||| ((1 : Int32) <<< ((G 8 x7.toNatClampNeg) &&& 31))) x7 x7 else none) else none else none) else none else none) else none else none) else none else none))
def p_X6_laysUndoing_b3 (N : Nat) (J : Nat → Nat → Int64) : Nat → (Nat → Nat → Int32) → (Int32) → (Int32) → (Int32) → (Int32) → Option ((Nat → Nat → Int32))
  | 0, _, _, _, _, _ => none
  | n + 1, G, x1, x2, x3, x4 => if (6 : Int32) ≤ x4 then ((p_X6_fallIn N G J x1 x2).bind (fun v2 => p_X6_laysUndoing_b41 N J N G x2 x3 v2 (0 : Int32) x2 x2)) else (if jin x4 6 = true then jlt (jup G 11 x4.toNatClampNeg (0 : Int32)) fun G59 => (p_X6_laysUndoing_b3 N J n) G59 x1 x2 x3 (x4 + 1) else none)
def p_X6_laysUndoing (N : Nat) (G : Nat → Nat → Int32) (J : Nat → Nat → Int64) (p0 : Int32) (p1 : Int32) (p2 : Int32) : Option ((Nat → Nat → Int32)) :=
  p_X6_laysUndoing_b3 N J N G p0 p1 p2 (0 : Int32)
set_option maxHeartbeats 4000000 in
set_option maxRecDepth 100000 in
theorem t_X6_laysUndoing_b154 {X : jX} {po : Option Value → jH → Prop} {px : String → jH → Prop} {sf : Bool} {B9 : Nat} (hM : jMX X kX6_laysUndoing RX6 tbX6 10 ⟨3, 0, 0, 71⟩ none 16) (hp : jPost X sf B9 po px) (N : Nat) (J : Nat → Nat → Int64) {res : (Nat → Nat → Int32)} : ∀ (n : Nat) (G : Nat → Nat → Int32) (x2 : Int32) (x3 : Int32) (x5 : Int32) (x6 : Int32) (x7 : Int32) (h : p_X6_laysUndoing_b154 N J n G x2 x3 x5 x6 x7 = some res) (hq : po none (hMo res J)), JW X 0 0 154 [some (.ref 0), none, some (.int x2), some (.int x3), none, some (.int x5), some (.int x6), some (.int x7), none, none] [] (hMo G J) := by
  intro n
  induction n with
  | zero =>
    intro G x2 x3 x5 x6 x7 h hq
    cases (show (none : Option ((Nat → Nat → Int32))) = some res from h)
  | succ n ih154 =>
    intro G x2 x3 x5 x6 x7 h hq
    have ih154 := fun G x2 x3 x5 x6 x7 h9 => ih154 G x2 x3 x5 x6 x7 h9 hq
    rw [p_X6_laysUndoing_b154] at h
    refine JW.r hM 89 5 (pc2 := 162) (L2 := [some (.ref 0), none, some (.int x2), some (.int x3), none, some (.int x5), some (.int x6), some (.int x7), none, none]) (st2 := [.int (G 1 1), .int x7]) (μ2 := (hMo G J)) rfl ⟨rfl, trivial⟩ ?_
    refine js_icge (t := 205) hM.1 (jat hM.2.1 94 rfl) rfl (fun hc34 => ?_) (fun hc34 => ?_)
    · have h := (if_pos hc34).symm.trans h
      obtain ⟨g3, h⟩ := jg h
      refine JW.r hM 119 6 (pc2 := 213) (L2 := [some (.ref 0), none, some (.int x2), some (.int x3), none, some (.int x5), some (.int x6), some (.int x7), none, none]) (st2 := [.int (0 : Int32), .int (G 8 x2.toNatClampNeg), .ref 0]) (μ2 := (hMo G J)) rfl ⟨g3, trivial⟩ ?_
      obtain ⟨v5, hv4, h⟩ := jbd h
      refine JW.cV (v := some (.int v5)) hM (m_X6_of (jVX X) hM.1.2.2.2.2.2.2.2.2.2.1 N G J (G 8 x2.toNatClampNeg) (0 : Int32) v5 hv4) (sb_Mo_Mo_0 G J) (bi_Mo_Mo_0 G J) rfl rfl rfl kc_X6_208 rfl rfl rfl rfl rfl (jat hM.2.1 125 rfl) (st := []) rfl ?_
      show JW X 0 0 216 [some (.ref 0), none, some (.int x2), some (.int x3), none, some (.int x5), some (.int x6), some (.int x7), none, none] [.int v5] (hMo G J)
      obtain ⟨g6, h⟩ := jg h
      refine JW.r hM 126 7 (pc2 := 227) (L2 := [some (.ref 0), none, some (.int x2), some (.int x3), none, some (.int x5), some (.int x6), some (.int v5), none, none]) (st2 := [.int (2 : Int32), .int (G 8 x6.toNatClampNeg), .ref 0]) (μ2 := (hMo G J)) rfl ⟨g6, trivial⟩ ?_
      obtain ⟨v8, hv7, h⟩ := jbd h
      refine JW.cV (v := some (.int v8)) hM (m_X6_of (jVX X) hM.1.2.2.2.2.2.2.2.2.2.1 N G J (G 8 x6.toNatClampNeg) (2 : Int32) v8 hv7) (sb_Mo_Mo_0 G J) (bi_Mo_Mo_0 G J) rfl rfl rfl kc_X6_208 rfl rfl rfl rfl rfl (jat hM.2.1 133 rfl) (st := []) rfl ?_
      show JW X 0 0 230 [some (.ref 0), none, some (.int x2), some (.int x3), none, some (.int x5), some (.int x6), some (.int v5), none, none] [.int v8] (hMo G J)
      obtain ⟨g9, h⟩ := jg h
      refine JW.r hM 134 7 (pc2 := 240) (L2 := [some (.ref 0), none, some (.int x2), some (.int x3), none, some (.int x5), some (.int x6), some (.int v5), some (.int v8), none]) (st2 := [.int (1 : Int32), .int (G 8 x2.toNatClampNeg), .ref 0]) (μ2 := (hMo G J)) rfl ⟨g9, trivial⟩ ?_
      obtain ⟨v11, hv10, h⟩ := jbd h
      refine JW.cV (v := some (.int v11)) hM (m_X6_of (jVX X) hM.1.2.2.2.2.2.2.2.2.2.1 N G J (G 8 x2.toNatClampNeg) (1 : Int32) v11 hv10) (sb_Mo_Mo_0 G J) (bi_Mo_Mo_0 G J) rfl rfl rfl kc_X6_208 rfl rfl rfl rfl rfl (jat hM.2.1 141 rfl) (st := []) rfl ?_
      show JW X 0 0 243 [some (.ref 0), none, some (.int x2), some (.int x3), none, some (.int x5), some (.int x6), some (.int v5), some (.int v8), none] [.int v11] (hMo G J)
      obtain ⟨g12, h⟩ := jg h
      refine JW.r hM 142 9 (pc2 := 258) (L2 := [some (.ref 0), none, some (.int x2), some (.int x3), none, some (.int x5), some (.int x6), some (.int v5), some (.int v8), some (.int v11)]) (st2 := [.int v8, .int v5, .ref 0, .int (G 11 v8.toNatClampNeg), .int v8, .ref 11]) (μ2 := (hMo G J)) rfl ⟨g12, trivial⟩ ?_
      obtain ⟨v14, hv13, h⟩ := jbd h
      refine JW.cV (v := some (.int v14)) hM (m_X6_worthTo (jVX X) hM.1.2.2.2.2.2.2.2.2.2.1 N G J v5 v8 v14 hv13) (sb_Mo_Mo_0 G J) (bi_Mo_Mo_0 G J) rfl rfl rfl kc_X6_183 rfl rfl rfl rfl rfl (jat hM.2.1 151 rfl) (st := [.int (G 11 v8.toNatClampNeg), .int v8, .ref 11]) rfl ?_
      show JW X 0 0 261 [some (.ref 0), none, some (.int x2), some (.int x3), none, some (.int x5), some (.int x6), some (.int v5), some (.int v8), some (.int v11)] [.int v14, .int (G 11 v8.toNatClampNeg), .int v8, .ref 11] (hMo G J)
      obtain ⟨g15, h⟩ := jg h
      obtain ⟨G16, e17, h⟩ := jlE h
      refine JW.r hM 152 2 (pc2 := 263) (L2 := [some (.ref 0), none, some (.int x2), some (.int x3), none, some (.int x5), some (.int x6), some (.int v5), some (.int v8), some (.int v11)]) (st2 := []) (μ2 := (hMo (jup G 11 v8.toNatClampNeg ((G 11 v8.toNatClampNeg) - v14)) J)) rfl ⟨g15, trivial⟩ ?_
      rw [e17]
      obtain ⟨g18, h⟩ := jg h
      refine JW.r hM 154 8 (pc2 := 276) (L2 := [some (.ref 0), none, some (.int x2), some (.int x3), none, some (.int x5), some (.int x6), some (.int v5), some (.int v8), some (.int v11)]) (st2 := [.int v11, .int v5, .ref 0, .int (G16 11 v11.toNatClampNeg), .int v11, .ref 11]) (μ2 := (hMo G16 J)) rfl ⟨g18, trivial⟩ ?_
      obtain ⟨v20, hv19, h⟩ := jbd h
      refine JW.cV (v := some (.int v20)) hM (m_X6_worthTo (jVX X) hM.1.2.2.2.2.2.2.2.2.2.1 N G16 J v5 v11 v20 hv19) (sb_Mo_Mo_0 G16 J) (bi_Mo_Mo_0 G16 J) rfl rfl rfl kc_X6_183 rfl rfl rfl rfl rfl (jat hM.2.1 162 rfl) (st := [.int (G16 11 v11.toNatClampNeg), .int v11, .ref 11]) rfl ?_
      show JW X 0 0 279 [some (.ref 0), none, some (.int x2), some (.int x3), none, some (.int x5), some (.int x6), some (.int v5), some (.int v8), some (.int v11)] [.int v20, .int (G16 11 v11.toNatClampNeg), .int v11, .ref 11] (hMo G16 J)
      obtain ⟨g21, h⟩ := jg h
      obtain ⟨G22, e23, h⟩ := jlE h
      refine JW.r hM 163 2 (pc2 := 281) (L2 := [some (.ref 0), none, some (.int x2), some (.int x3), none, some (.int x5), some (.int x6), some (.int v5), some (.int v8), some (.int v11)]) (st2 := []) (μ2 := (hMo (jup G16 11 v11.toNatClampNeg ((G16 11 v11.toNatClampNeg) + v20)) J)) rfl ⟨g21, trivial⟩ ?_
      rw [e23]
      obtain rfl := Option.some.inj h
      exact js_vret hM.1 hp hM.2.2.2.2.2.2.2.1 (by rw [hM.2.2.2.2.2.1]; exact Nat.le_of_ble_eq_true rfl) (by rw [hM.2.2.2.2.2.2.1]; exact Nat.le_of_ble_eq_true rfl) (jat hM.2.1 165 rfl) hq
    · have h := (if_neg hc34).symm.trans h
      refine JW.r hM 95 4 (pc2 := 171) (L2 := [some (.ref 0), none, some (.int x2), some (.int x3), none, some (.int x5), some (.int x6), some (.int x7), none, none]) (st2 := [.int x7, .int x3, .int x5, .ref 0]) (μ2 := (hMo G J)) rfl trivial ?_
      obtain ⟨v25, hv24, h⟩ := jbd h
      refine JW.cV (v := some (.int v25)) hM (m_X6_pays (jVX X) hM.1.2.2.2.2.2.2.2.2.2.1 N G J x5 x3 x7 v25 hv24) (sb_Mo_Mo_0 G J) (bi_Mo_Mo_0 G J) rfl rfl rfl kc_X6_243 rfl rfl rfl rfl rfl (jat hM.2.1 99 rfl) (st := []) rfl ?_
      show JW X 0 0 174 [some (.ref 0), none, some (.int x2), some (.int x3), none, some (.int x5), some (.int x6), some (.int x7), none, none] [.int v25] (hMo G J)
      obtain ⟨g26, h⟩ := jg h
      obtain ⟨g27, h⟩ := jg h
      obtain ⟨G28, e29, h⟩ := jlE h
      refine JW.r hM 100 9 (pc2 := 188) (L2 := [some (.ref 0), none, some (.int x2), some (.int x3), none, some (.int x5), some (.int x6), some (.int x7), some (.int v25), none]) (st2 := []) (μ2 := (hMo (jup G 11 x7.toNatClampNeg ((G 11 x7.toNatClampNeg) + v25)) J)) rfl ⟨g26, g27, trivial⟩ ?_
      rw [e29]
      obtain ⟨g30, h⟩ := jg h
      obtain ⟨g31, h⟩ := jg h
      obtain ⟨G32, e33, h⟩ := jlE h
      refine JW.r hM 109 8 (pc2 := 199) (L2 := [some (.ref 0), none, some (.int x2), some (.int x3), none, some (.int x5), some (.int x6), some (.int x7), some (.int v25), none]) (st2 := []) (μ2 := (hMo (jup G28 11 x3.toNatClampNeg ((G28 11 x3.toNatClampNeg) - v25)) J)) rfl ⟨g30, g31, trivial⟩ ?_
      rw [e33]
      refine JW.r hM 117 2 (pc2 := 154) (L2 := [some (.ref 0), none, some (.int x2), some (.int x3), none, some (.int x5), some (.int x6), some (.int (x7 + 1)), some (.int v25), none]) (st2 := []) (μ2 := (hMo G32 J)) rfl trivial ?_
      exact JW.mask [true, false, true, true, false, true, true, true, false, false] (ih154 G32 x2 x3 x5 x6 (x7 + 1) h)
set_option maxHeartbeats 4000000 in
set_option maxRecDepth 100000 in
theorem t_X6_laysUndoing_b145 {X : jX} {po : Option Value → jH → Prop} {px : String → jH → Prop} {sf : Bool} {B9 : Nat} (hM : jMX X kX6_laysUndoing RX6 tbX6 10 ⟨3, 0, 0, 71⟩ none 16) (hp : jPost X sf B9 po px) (N : Nat) (J : Nat → Nat → Int64) (rv41 : (Nat → Nat → Int32) → Int32 → Int32 → Int32 → Int32 → Int32 → Int32 → Option ((Nat → Nat → Int32))) {res : (Nat → Nat → Int32)} (ih41 : ∀ (G : Nat → Nat → Int32) (x2 : Int32) (x3 : Int32) (x4 : Int32) (x5 : Int32) (x6 : Int32) (x7 : Int32), rv41 G x2 x3 x4 x5 x6 x7 = some res → JW X 0 0 41 [some (.ref 0), none, some (.int x2), some (.int x3), some (.int x4), some (.int x5), some (.int x6), some (.int x7), none, none] [] (hMo G J)) (G : Nat → Nat → Int32) (x2 : Int32) (x3 : Int32) (x4 : Int32) (x5 : Int32) (x6 : Int32) (x7 : Int32) (h : p_X6_laysUndoing_b145 N J rv41 G x2 x3 x4 x5 x6 x7 = some res) (hq : po none (hMo res J)) : JW X 0 0 145 [some (.ref 0), none, some (.int x2), some (.int x3), some (.int x4), some (.int x5), some (.int x6), some (.int x7), none, none] [] (hMo G J) := by
  unfold p_X6_laysUndoing_b145 at h
  refine JW.r hM 85 2 (pc2 := 41) (L2 := [some (.ref 0), none, some (.int x2), some (.int x3), some (.int x4), some (.int x5), some (.int x6), some (.int (x7 + 1)), none, none]) (st2 := []) (μ2 := (hMo G J)) rfl trivial ?_
  exact ih41 G x2 x3 x4 x5 x6 (x7 + 1) h
set_option maxHeartbeats 4000000 in
set_option maxRecDepth 100000 in
theorem t_X6_laysUndoing_b41 {X : jX} {po : Option Value → jH → Prop} {px : String → jH → Prop} {sf : Bool} {B9 : Nat} (hM : jMX X kX6_laysUndoing RX6 tbX6 10 ⟨3, 0, 0, 71⟩ none 16) (hp : jPost X sf B9 po px) (N : Nat) (J : Nat → Nat → Int64) {res : (Nat → Nat → Int32)} : ∀ (n : Nat) (G : Nat → Nat → Int32) (x2 : Int32) (x3 : Int32) (x4 : Int32) (x5 : Int32) (x6 : Int32) (x7 : Int32) (h : p_X6_laysUndoing_b41 N J n G x2 x3 x4 x5 x6 x7 = some res) (hq : po none (hMo res J)), JW X 0 0 41 [some (.ref 0), none, some (.int x2), some (.int x3), some (.int x4), some (.int x5), some (.int x6), some (.int x7), none, none] [] (hMo G J) := by
  intro n
  induction n with
  | zero =>
    intro G x2 x3 x4 x5 x6 x7 h hq
    cases (show (none : Option ((Nat → Nat → Int32))) = some res from h)
  | succ n ih41 =>
    intro G x2 x3 x4 x5 x6 x7 h hq
    have ih41 := fun G x2 x3 x4 x5 x6 x7 h9 => ih41 G x2 x3 x4 x5 x6 x7 h9 hq
    rw [p_X6_laysUndoing_b41] at h
    refine JW.r hM 23 3 (pc2 := 47) (L2 := [some (.ref 0), none, some (.int x2), some (.int x3), some (.int x4), some (.int x5), some (.int x6), some (.int x7), none, none]) (st2 := [.int (G 0 23), .int x7]) (μ2 := (hMo G J)) rfl trivial ?_
    refine js_icge (t := 151) hM.1 (jat hM.2.1 26 rfl) rfl (fun hc57 => ?_) (fun hc57 => ?_)
    · have h := (if_pos hc57).symm.trans h
      refine JW.r hM 87 2 (pc2 := 154) (L2 := [some (.ref 0), none, some (.int x2), some (.int x3), some (.int x4), some (.int x5), some (.int x6), some (.int (0 : Int32)), none, none]) (st2 := []) (μ2 := (hMo G J)) rfl trivial ?_
      exact JW.mask [true, false, true, true, false, true, true, true, false, false] (t_X6_laysUndoing_b154 hM hp N J N G x2 x3 x5 x6 (0 : Int32) h hq)
    · have h := (if_neg hc57).symm.trans h
      refine JW.r hM 27 5 (pc2 := 57) (L2 := [some (.ref 0), none, some (.int x2), some (.int x3), some (.int x4), some (.int x5), some (.int x6), some (.int x7), none, none]) (st2 := [.int ((x4 >>> (x7 &&& 31)) &&& (1 : Int32))]) (μ2 := (hMo G J)) rfl trivial ?_
      refine js_ifne (t := 63) hM.1 (jat hM.2.1 32 rfl) rfl (fun hc56 => ?_) (fun hc56 => ?_)
      · have h := (if_neg hc56).symm.trans h
        obtain ⟨g35, h⟩ := jg h
        obtain ⟨g36, h⟩ := jg h
        refine JW.r hM 34 17 (pc2 := 90) (L2 := [some (.ref 0), none, some (.int x2), some (.int x3), some (.int x4), some (.int (x5 ||| ((1 : Int32) <<< ((G 8 x7.toNatClampNeg) &&& 31)))), some (.int x6), some (.int x7), none, none]) (st2 := [.int (1 : Int32), .int (G 8 x7.toNatClampNeg), .ref 0, .ref 11]) (μ2 := (hMo G J)) rfl ⟨g35, g36, trivial⟩ ?_
        obtain ⟨v38, hv37, h⟩ := jbd h
        refine JW.cV (v := some (.int v38)) hM (m_X6_of (jVX X) hM.1.2.2.2.2.2.2.2.2.2.1 N G J (G 8 x7.toNatClampNeg) (1 : Int32) v38 hv37) (sb_Mo_Mo_0 G J) (bi_Mo_Mo_0 G J) rfl rfl rfl kc_X6_208 rfl rfl rfl rfl rfl (jat hM.2.1 51 rfl) (st := [.ref 11]) rfl ?_
        show JW X 0 0 93 [some (.ref 0), none, some (.int x2), some (.int x3), some (.int x4), some (.int (x5 ||| ((1 : Int32) <<< ((G 8 x7.toNatClampNeg) &&& 31)))), some (.int x6), some (.int x7), none, none] [.int v38, .ref 11] (hMo G J)
        obtain ⟨g39, h⟩ := jg h
        obtain ⟨g40, h⟩ := jg h
        refine JW.r hM 52 8 (pc2 := 104) (L2 := [some (.ref 0), none, some (.int x2), some (.int x3), some (.int x4), some (.int (x5 ||| ((1 : Int32) <<< ((G 8 x7.toNatClampNeg) &&& 31)))), some (.int x6), some (.int x7), none, none]) (st2 := [.int (3 : Int32), .int (G 8 x7.toNatClampNeg), .ref 0, .int (G 11 v38.toNatClampNeg), .int v38, .ref 11]) (μ2 := (hMo G J)) rfl ⟨g39, g40, trivial⟩ ?_
        obtain ⟨v42, hv41, h⟩ := jbd h
        refine JW.cV (v := some (.int v42)) hM (m_X6_of (jVX X) hM.1.2.2.2.2.2.2.2.2.2.1 N G J (G 8 x7.toNatClampNeg) (3 : Int32) v42 hv41) (sb_Mo_Mo_0 G J) (bi_Mo_Mo_0 G J) rfl rfl rfl kc_X6_208 rfl rfl rfl rfl rfl (jat hM.2.1 60 rfl) (st := [.int (G 11 v38.toNatClampNeg), .int v38, .ref 11]) rfl ?_
        show JW X 0 0 107 [some (.ref 0), none, some (.int x2), some (.int x3), some (.int x4), some (.int (x5 ||| ((1 : Int32) <<< ((G 8 x7.toNatClampNeg) &&& 31)))), some (.int x6), some (.int x7), none, none] [.int v42, .int (G 11 v38.toNatClampNeg), .int v38, .ref 11] (hMo G J)
        obtain ⟨g43, h⟩ := jg h
        obtain ⟨G44, e45, h⟩ := jlE h
        refine JW.r hM 61 2 (pc2 := 109) (L2 := [some (.ref 0), none, some (.int x2), some (.int x3), some (.int x4), some (.int (x5 ||| ((1 : Int32) <<< ((G 8 x7.toNatClampNeg) &&& 31)))), some (.int x6), some (.int x7), none, none]) (st2 := []) (μ2 := (hMo (jup G 11 v38.toNatClampNeg ((G 11 v38.toNatClampNeg) - v42)) J)) rfl ⟨g43, trivial⟩ ?_
        rw [e45]
        obtain ⟨g46, h⟩ := jg h
        refine JW.r hM 63 8 (pc2 := 122) (L2 := [some (.ref 0), none, some (.int x2), some (.int x3), some (.int x4), some (.int (x5 ||| ((1 : Int32) <<< ((G 8 x7.toNatClampNeg) &&& 31)))), some (.int x6), some (.int x7), none, none]) (st2 := [.int (2 : Int32), .int (G44 8 x7.toNatClampNeg), .ref 0, .ref 11]) (μ2 := (hMo G44 J)) rfl ⟨g46, trivial⟩ ?_
        obtain ⟨v48, hv47, h⟩ := jbd h
        refine JW.cV (v := some (.int v48)) hM (m_X6_of (jVX X) hM.1.2.2.2.2.2.2.2.2.2.1 N G44 J (G44 8 x7.toNatClampNeg) (2 : Int32) v48 hv47) (sb_Mo_Mo_0 G44 J) (bi_Mo_Mo_0 G44 J) rfl rfl rfl kc_X6_208 rfl rfl rfl rfl rfl (jat hM.2.1 71 rfl) (st := [.ref 11]) rfl ?_
        show JW X 0 0 125 [some (.ref 0), none, some (.int x2), some (.int x3), some (.int x4), some (.int (x5 ||| ((1 : Int32) <<< ((G 8 x7.toNatClampNeg) &&& 31)))), some (.int x6), some (.int x7), none, none] [.int v48, .ref 11] (hMo G44 J)
        obtain ⟨g49, h⟩ := jg h
        obtain ⟨g50, h⟩ := jg h
        refine JW.r hM 72 8 (pc2 := 136) (L2 := [some (.ref 0), none, some (.int x2), some (.int x3), some (.int x4), some (.int (x5 ||| ((1 : Int32) <<< ((G 8 x7.toNatClampNeg) &&& 31)))), some (.int x6), some (.int x7), none, none]) (st2 := [.int (3 : Int32), .int (G44 8 x7.toNatClampNeg), .ref 0, .int (G44 11 v48.toNatClampNeg), .int v48, .ref 11]) (μ2 := (hMo G44 J)) rfl ⟨g49, g50, trivial⟩ ?_
        obtain ⟨v52, hv51, h⟩ := jbd h
        refine JW.cV (v := some (.int v52)) hM (m_X6_of (jVX X) hM.1.2.2.2.2.2.2.2.2.2.1 N G44 J (G44 8 x7.toNatClampNeg) (3 : Int32) v52 hv51) (sb_Mo_Mo_0 G44 J) (bi_Mo_Mo_0 G44 J) rfl rfl rfl kc_X6_208 rfl rfl rfl rfl rfl (jat hM.2.1 80 rfl) (st := [.int (G44 11 v48.toNatClampNeg), .int v48, .ref 11]) rfl ?_
        show JW X 0 0 139 [some (.ref 0), none, some (.int x2), some (.int x3), some (.int x4), some (.int (x5 ||| ((1 : Int32) <<< ((G 8 x7.toNatClampNeg) &&& 31)))), some (.int x6), some (.int x7), none, none] [.int v52, .int (G44 11 v48.toNatClampNeg), .int v48, .ref 11] (hMo G44 J)
        obtain ⟨g53, h⟩ := jg h
        obtain ⟨G54, e55, h⟩ := jlE h
        refine JW.r hM 81 2 (pc2 := 141) (L2 := [some (.ref 0), none, some (.int x2), some (.int x3), some (.int x4), some (.int (x5 ||| ((1 : Int32) <<< ((G 8 x7.toNatClampNeg) &&& 31)))), some (.int x6), some (.int x7), none, none]) (st2 := []) (μ2 := (hMo (jup G44 11 v48.toNatClampNeg ((G44 11 v48.toNatClampNeg) + v52)) J)) rfl ⟨g53, trivial⟩ ?_
        rw [e55]
        refine JW.r hM 83 2 (pc2 := 145) (L2 := [some (.ref 0), none, some (.int x2), some (.int x3), some (.int x4), some (.int (x5 ||| ((1 : Int32) <<< ((G 8 x7.toNatClampNeg) &&& 31)))), some (.int x7), some (.int x7), none, none]) (st2 := []) (μ2 := (hMo G54 J)) rfl trivial ?_
        exact t_X6_laysUndoing_b145 hM hp N J (p_X6_laysUndoing_b41 N J n) ih41 G54 x2 x3 x4 (x5 ||| ((1 : Int32) <<< ((G 8 x7.toNatClampNeg) &&& 31))) x7 x7 h hq
      · have h := (if_pos hc56).symm.trans h
        refine JW.r hM 33 1 (pc2 := 145) (L2 := [some (.ref 0), none, some (.int x2), some (.int x3), some (.int x4), some (.int x5), some (.int x6), some (.int x7), none, none]) (st2 := []) (μ2 := (hMo G J)) rfl trivial ?_
        exact t_X6_laysUndoing_b145 hM hp N J (p_X6_laysUndoing_b41 N J n) ih41 G x2 x3 x4 x5 x6 x7 h hq
set_option maxHeartbeats 4000000 in
set_option maxRecDepth 100000 in
theorem t_X6_laysUndoing_b3 {X : jX} {po : Option Value → jH → Prop} {px : String → jH → Prop} {sf : Bool} {B9 : Nat} (hM : jMX X kX6_laysUndoing RX6 tbX6 10 ⟨3, 0, 0, 71⟩ none 16) (hp : jPost X sf B9 po px) (N : Nat) (J : Nat → Nat → Int64) {res : (Nat → Nat → Int32)} : ∀ (n : Nat) (G : Nat → Nat → Int32) (x1 : Int32) (x2 : Int32) (x3 : Int32) (x4 : Int32) (h : p_X6_laysUndoing_b3 N J n G x1 x2 x3 x4 = some res) (hq : po none (hMo res J)), JW X 0 0 3 [some (.ref 0), some (.int x1), some (.int x2), some (.int x3), some (.int x4), none, none, none, none, none] [] (hMo G J) := by
  intro n
  induction n with
  | zero =>
    intro G x1 x2 x3 x4 h hq
    cases (show (none : Option ((Nat → Nat → Int32))) = some res from h)
  | succ n ih3 =>
    intro G x1 x2 x3 x4 h hq
    have ih3 := fun G x1 x2 x3 x4 h9 => ih3 G x1 x2 x3 x4 h9 hq
    rw [p_X6_laysUndoing_b3] at h
    refine JW.r hM 2 2 (pc2 := 7) (L2 := [some (.ref 0), some (.int x1), some (.int x2), some (.int x3), some (.int x4), none, none, none, none, none]) (st2 := [.int (6 : Int32), .int x4]) (μ2 := (hMo G J)) rfl trivial ?_
    refine js_icge (t := 24) hM.1 (jat hM.2.1 4 rfl) rfl (fun hc61 => ?_) (fun hc61 => ?_)
    · have h := (if_pos hc61).symm.trans h
      refine JW.r hM 12 3 (pc2 := 27) (L2 := [some (.ref 0), some (.int x1), some (.int x2), some (.int x3), some (.int x4), none, none, none, none, none]) (st2 := [.int x2, .int x1, .ref 0]) (μ2 := (hMo G J)) rfl trivial ?_
      obtain ⟨v2, hv1, h⟩ := jbd h
      refine JW.cV (v := some (.int v2)) hM (m_X6_fallIn (jVX X) hM.1.2.2.2.2.2.2.2.2.2.1 N G J x1 x2 v2 hv1) (sb_Mo_Mo_0 G J) (bi_Mo_Mo_0 G J) rfl rfl rfl kc_X6_307 rfl rfl rfl rfl rfl (jat hM.2.1 15 rfl) (st := []) rfl ?_
      show JW X 0 0 30 [some (.ref 0), some (.int x1), some (.int x2), some (.int x3), some (.int x4), none, none, none, none, none] [.int v2] (hMo G J)
      refine JW.r hM 16 7 (pc2 := 41) (L2 := [some (.ref 0), some (.int x1), some (.int x2), some (.int x3), some (.int v2), some (.int (0 : Int32)), some (.int x2), some (.int x2), none, none]) (st2 := []) (μ2 := (hMo G J)) rfl trivial ?_
      exact JW.mask [true, false, true, true, true, true, true, true, false, false] (t_X6_laysUndoing_b41 hM hp N J N G x2 x3 v2 (0 : Int32) x2 x2 h hq)
    · have h := (if_neg hc61).symm.trans h
      obtain ⟨g58, h⟩ := jg h
      obtain ⟨G59, e60, h⟩ := jlE h
      refine JW.r hM 5 5 (pc2 := 18) (L2 := [some (.ref 0), some (.int x1), some (.int x2), some (.int x3), some (.int x4), none, none, none, none, none]) (st2 := []) (μ2 := (hMo (jup G 11 x4.toNatClampNeg (0 : Int32)) J)) rfl ⟨g58, trivial⟩ ?_
      rw [e60]
      refine JW.r hM 10 2 (pc2 := 3) (L2 := [some (.ref 0), some (.int x1), some (.int x2), some (.int x3), some (.int (x4 + 1)), none, none, none, none, none]) (st2 := []) (μ2 := (hMo G59 J)) rfl trivial ?_
      exact ih3 G59 x1 x2 x3 (x4 + 1) h
set_option maxHeartbeats 4000000 in
set_option maxRecDepth 100000 in
theorem t_X6_laysUndoing {X : jX} {po : Option Value → jH → Prop} {px : String → jH → Prop} {sf : Bool} {B9 : Nat} (hM : jMX X kX6_laysUndoing RX6 tbX6 10 ⟨3, 0, 0, 71⟩ none 16) (hp : jPost X sf B9 po px) (N : Nat) (G : Nat → Nat → Int32) (J : Nat → Nat → Int64) (p0 : Int32) (p1 : Int32) (p2 : Int32) {res : (Nat → Nat → Int32)} (h : p_X6_laysUndoing N G J p0 p1 p2 = some res) (hq : po none (hMo res J)) : JW X 0 0 0 [some (.ref 0), some (.int p0), some (.int p1), some (.int p2), none, none, none, none, none, none] [] (hMo G J) := by
  unfold p_X6_laysUndoing at h
  refine JW.r hM 0 2 (pc2 := 3) (L2 := [some (.ref 0), some (.int p0), some (.int p1), some (.int p2), some (.int (0 : Int32)), none, none, none, none, none]) (st2 := []) (μ2 := (hMo G J)) rfl trivial ?_
  exact t_X6_laysUndoing_b3 hM hp N J N G p0 p1 p2 (0 : Int32) h hq
theorem m_X6_laysUndoing (V : jV) (hV : V.1.stackTraces = false) (N : Nat) (G : Nat → Nat → Int32) (J : Nat → Nat → Int64) (p0 : Int32) (p1 : Int32) (p2 : Int32) (v : (Nat → Nat → Int32)) (h : p_X6_laysUndoing N G J p0 p1 p2 = some v) : jMet V yX6_laysUndoing (jws yX6_laysUndoing cX6_laysUndoing 10 none) ⟨3, 0, 0, 71⟩ true 1 [.ref 0, .int p0, .int p1, .int p2] (hMo G J) (fun o ν => o = none ∧ ν = (hMo v J)) (fun _ _ => False) := by
  refine jmk (tb := tbX6) (C := kX6_laysUndoing) hV rfl (by decide) tbX6_ok rfl kX6_laysUndoing_ok rfl ?_
  intro X hM _ hp _
  exact t_X6_laysUndoing hM hp N G J p0 p1 p2 h ⟨rfl, rfl⟩
def p_X6_laysTurn_b238 (N : Nat) (J : Nat → Nat → Int64) (rv74 : (Nat → Nat → Int32) → Int32 → Int32 → Int32 → Int32 → Option ((Nat → Nat → Int32))) (G : Nat → Nat → Int32) (x1 : Int32) (x2 : Int32) (x3 : Int32) (x4 : Int32) : Option ((Nat → Nat → Int32)) :=
  rv74 G x1 x2 x3 (x4 + 1)
def p_X6_laysTurn_b188 (N : Nat) (J : Nat → Nat → Int64) (rv74 : (Nat → Nat → Int32) → Int32 → Int32 → Int32 → Int32 → Option ((Nat → Nat → Int32))) : Nat → (Nat → Nat → Int32) → (Int32) → (Int32) → (Int32) → (Int32) → (Int32) → (Int32) → Option ((Nat → Nat → Int32))
  | 0, _, _, _, _, _, _, _ => none
  | n + 1, G, x1, x2, x3, x4, x5, x6 => if (6 : Int32) ≤ x6 then (p_X6_laysTurn_b238 N J rv74 G x1 x2 x3 x4) else ((p_X6_seat N G J x1 x2 x6).bind (fun v25 => if jin x6 6 = true then (p_X6_seat N G J (x1 + (1 : Int32)) x5 x6).bind (fun v28 => if jin v28 79872 = true then if jin v25 79872 = true then jlt (jup G 9 v25.toNatClampNeg ((G 11 x6.toNatClampNeg) + (G 9 v28.toNatClampNeg))) fun G31 => (p_X6_laysTurn_b188 N J rv74 n) G31 x1 x2 x3 x4 x5 (x6 + 1) else none else none) else none))
def p_X6_laysTurn_b74 (N : Nat) (J : Nat → Nat → Int64) : Nat → (Nat → Nat → Int32) → (Int32) → (Int32) → (Int32) → (Int32) → Option ((Nat → Nat → Int32))
  | 0, _, _, _, _, _ => none
  | n + 1, G, x1, x2, x3, x4 => if (G 0 23) ≤ x4 then (some G) else (if ((x2 >>> (x4 &&& 31)) &&& (1 : Int32)) = 0 then (p_X6_laysTurn_b238 N J (p_X6_laysTurn_b74 N J n) G x1 x2 x3 x4) else (if jin x4 10 = true then (p_X6_isOf N G J (G 8 x4.toNatClampNeg) x3).bind (fun v7 => if v7 = 0 then (p_X6_laysTurn_b238 N J (p_X6_laysTurn_b74 N J n) G x1 x2 x3 x4) else ((p_X6_laysUndoing N G J x2 x4 x3).bind (fun v9 => jlt v9 fun G10 => (p_X6_fallIn N G10 J x2 x4).bind (fun v13 => if jin x3 6 = true then (p_X6_seat N G10 J (x1 + (1 : Int32)) (x2 &&& (v13 ^^^ (-1 : Int32))) x3).bind (fun v16 => if jin v16 79872 = true then (p_X6_seat N G10 J x1 x2 x3).bind (fun v19 => if jin v19 79872 = true then if (G10 9 v19.toNatClampNeg) < ((G10 11 x3.toNatClampNeg) + (G10 9 v16.toNatClampNeg)) then (if jin ((x1 * (1024 : Int32)) + x2) 12288 = true then jlt (jup G10 10 ((x1 * (1024 : Int32)) + x2).toNatClampNeg x4) fun G22 => p_X6_laysTurn_b188 N J (p_X6_laysTurn_b74 N J n) N G22 x1 x2 x3 x4 (x2 &&& (v13 ^^^ (-1 : Int32))) (0 : Int32) else none) else (p_X6_laysTurn_b238 N J (p_X6_laysTurn_b74 N J n) G10 x1 x2 x3 x4) else none) else none) else none)))) else none))
def p_X6_laysTurn_b30 (N : Nat) (J : Nat → Nat → Int64) : Nat → (Nat → Nat → Int32) → (Int32) → (Int32) → (Int32) → (Int32) → Option ((Nat → Nat → Int32))
  | 0, _, _, _, _, _ => none
  | n + 1, G, x1, x2, x3, x4 => if (6 : Int32) ≤ x4 then (p_X6_laysTurn_b74 N J N G x1 x2 x3 (0 : Int32)) else ((p_X6_seat N G J x1 x2 x4).bind (fun v39 => (p_X6_seat N G J (x1 + (1 : Int32)) x2 x4).bind (fun v41 => if jin v41 79872 = true then if jin v39 79872 = true then jlt (jup G 9 v39.toNatClampNeg (G 9 v41.toNatClampNeg)) fun G44 => (p_X6_laysTurn_b30 N J n) G44 x1 x2 x3 (x4 + 1) else none else none)))
def p_X6_laysTurn (N : Nat) (G : Nat → Nat → Int32) (J : Nat → Nat → Int64) (p0 : Int32) (p1 : Int32) : Option ((Nat → Nat → Int32)) :=
  if (G 1 1) = 0 then none else if jin ((p0 * (1024 : Int32)) + p1) 12288 = true then jlt (jup G 10 ((p0 * (1024 : Int32)) + p1).toNatClampNeg (-1 : Int32)) fun G3 => p_X6_laysTurn_b30 N J N G3 p0 p1 (((G 0 25) + p0) - ((G 0 25) + p0) / (G 1 1) * (G 1 1)) (0 : Int32) else none
set_option maxHeartbeats 4000000 in
set_option maxRecDepth 100000 in
theorem t_X6_laysTurn_b238 {X : jX} {po : Option Value → jH → Prop} {px : String → jH → Prop} {sf : Bool} {B9 : Nat} (hM : jMX X kX6_laysTurn RX6 tbX6 7 ⟨4, 0, 0, 100⟩ none 16) (hp : jPost X sf B9 po px) (N : Nat) (J : Nat → Nat → Int64) (rv74 : (Nat → Nat → Int32) → Int32 → Int32 → Int32 → Int32 → Option ((Nat → Nat → Int32))) {res : (Nat → Nat → Int32)} (ih74 : ∀ (G : Nat → Nat → Int32) (x1 : Int32) (x2 : Int32) (x3 : Int32) (x4 : Int32), rv74 G x1 x2 x3 x4 = some res → JW X 0 0 74 [some (.ref 0), some (.int x1), some (.int x2), some (.int x3), some (.int x4), none, none] [] (hMo G J)) (G : Nat → Nat → Int32) (x1 : Int32) (x2 : Int32) (x3 : Int32) (x4 : Int32) (h : p_X6_laysTurn_b238 N J rv74 G x1 x2 x3 x4 = some res) (hq : po none (hMo res J)) : JW X 0 0 238 [some (.ref 0), some (.int x1), some (.int x2), some (.int x3), some (.int x4), none, none] [] (hMo G J) := by
  unfold p_X6_laysTurn_b238 at h
  refine JW.r hM 143 2 (pc2 := 74) (L2 := [some (.ref 0), some (.int x1), some (.int x2), some (.int x3), some (.int (x4 + 1)), none, none]) (st2 := []) (μ2 := (hMo G J)) rfl trivial ?_
  exact ih74 G x1 x2 x3 (x4 + 1) h
set_option maxHeartbeats 4000000 in
set_option maxRecDepth 100000 in
theorem t_X6_laysTurn_b188 {X : jX} {po : Option Value → jH → Prop} {px : String → jH → Prop} {sf : Bool} {B9 : Nat} (hM : jMX X kX6_laysTurn RX6 tbX6 7 ⟨4, 0, 0, 100⟩ none 16) (hp : jPost X sf B9 po px) (N : Nat) (J : Nat → Nat → Int64) (rv74 : (Nat → Nat → Int32) → Int32 → Int32 → Int32 → Int32 → Option ((Nat → Nat → Int32))) {res : (Nat → Nat → Int32)} (ih74 : ∀ (G : Nat → Nat → Int32) (x1 : Int32) (x2 : Int32) (x3 : Int32) (x4 : Int32), rv74 G x1 x2 x3 x4 = some res → JW X 0 0 74 [some (.ref 0), some (.int x1), some (.int x2), some (.int x3), some (.int x4), none, none] [] (hMo G J)) : ∀ (n : Nat) (G : Nat → Nat → Int32) (x1 : Int32) (x2 : Int32) (x3 : Int32) (x4 : Int32) (x5 : Int32) (x6 : Int32) (h : p_X6_laysTurn_b188 N J rv74 n G x1 x2 x3 x4 x5 x6 = some res) (hq : po none (hMo res J)), JW X 0 0 188 [some (.ref 0), some (.int x1), some (.int x2), some (.int x3), some (.int x4), some (.int x5), some (.int x6)] [] (hMo G J) := by
  intro n
  induction n with
  | zero =>
    intro G x1 x2 x3 x4 x5 x6 h hq
    cases (show (none : Option ((Nat → Nat → Int32))) = some res from h)
  | succ n ih188 =>
    intro G x1 x2 x3 x4 x5 x6 h hq
    have ih188 := fun G x1 x2 x3 x4 x5 x6 h9 => ih188 G x1 x2 x3 x4 x5 x6 h9 hq
    rw [p_X6_laysTurn_b188] at h
    refine JW.r hM 115 2 (pc2 := 192) (L2 := [some (.ref 0), some (.int x1), some (.int x2), some (.int x3), some (.int x4), some (.int x5), some (.int x6)]) (st2 := [.int (6 : Int32), .int x6]) (μ2 := (hMo G J)) rfl trivial ?_
    refine js_icge (t := 238) hM.1 (jat hM.2.1 117 rfl) rfl (fun hc33 => ?_) (fun hc33 => ?_)
    · have h := (if_pos hc33).symm.trans h
      exact JW.mask [true, true, true, true, true, false, false] (t_X6_laysTurn_b238 hM hp N J rv74 ih74 G x1 x2 x3 x4 h hq)
    · have h := (if_neg hc33).symm.trans h
      refine JW.r hM 118 6 (pc2 := 204) (L2 := [some (.ref 0), some (.int x1), some (.int x2), some (.int x3), some (.int x4), some (.int x5), some (.int x6)]) (st2 := [.int x6, .int x2, .int x1, .ref 0, .ref 9]) (μ2 := (hMo G J)) rfl trivial ?_
      obtain ⟨v25, hv24, h⟩ := jbd h
      refine JW.cV (v := some (.int v25)) hM (m_X6_seat (jVX X) hM.1.2.2.2.2.2.2.2.2.2.1 N G J x1 x2 x6 v25 hv24) (sb_Mo_Mo_0 G J) (bi_Mo_Mo_0 G J) rfl rfl rfl kc_X6_319 rfl rfl rfl rfl rfl (jat hM.2.1 124 rfl) (st := [.ref 9]) rfl ?_
      show JW X 0 0 207 [some (.ref 0), some (.int x1), some (.int x2), some (.int x3), some (.int x4), some (.int x5), some (.int x6)] [.int v25, .ref 9] (hMo G J)
      obtain ⟨g26, h⟩ := jg h
      refine JW.r hM 125 12 (pc2 := 226) (L2 := [some (.ref 0), some (.int x1), some (.int x2), some (.int x3), some (.int x4), some (.int x5), some (.int x6)]) (st2 := [.int x6, .int x5, .int (x1 + (1 : Int32)), .ref 0, .ref 9, .int (G 11 x6.toNatClampNeg), .int v25, .ref 9]) (μ2 := (hMo G J)) rfl ⟨g26, trivial⟩ ?_
      obtain ⟨v28, hv27, h⟩ := jbd h
      refine JW.cV (v := some (.int v28)) hM (m_X6_seat (jVX X) hM.1.2.2.2.2.2.2.2.2.2.1 N G J (x1 + (1 : Int32)) x5 x6 v28 hv27) (sb_Mo_Mo_0 G J) (bi_Mo_Mo_0 G J) rfl rfl rfl kc_X6_319 rfl rfl rfl rfl rfl (jat hM.2.1 137 rfl) (st := [.ref 9, .int (G 11 x6.toNatClampNeg), .int v25, .ref 9]) rfl ?_
      show JW X 0 0 229 [some (.ref 0), some (.int x1), some (.int x2), some (.int x3), some (.int x4), some (.int x5), some (.int x6)] [.int v28, .ref 9, .int (G 11 x6.toNatClampNeg), .int v25, .ref 9] (hMo G J)
      obtain ⟨g29, h⟩ := jg h
      obtain ⟨g30, h⟩ := jg h
      obtain ⟨G31, e32, h⟩ := jlE h
      refine JW.r hM 138 3 (pc2 := 232) (L2 := [some (.ref 0), some (.int x1), some (.int x2), some (.int x3), some (.int x4), some (.int x5), some (.int x6)]) (st2 := []) (μ2 := (hMo (jup G 9 v25.toNatClampNeg ((G 11 x6.toNatClampNeg) + (G 9 v28.toNatClampNeg))) J)) rfl ⟨g29, g30, trivial⟩ ?_
      rw [e32]
      refine JW.r hM 141 2 (pc2 := 188) (L2 := [some (.ref 0), some (.int x1), some (.int x2), some (.int x3), some (.int x4), some (.int x5), some (.int (x6 + 1))]) (st2 := []) (μ2 := (hMo G31 J)) rfl trivial ?_
      exact ih188 G31 x1 x2 x3 x4 x5 (x6 + 1) h
set_option maxHeartbeats 4000000 in
set_option maxRecDepth 100000 in
theorem t_X6_laysTurn_b74 {X : jX} {po : Option Value → jH → Prop} {px : String → jH → Prop} {sf : Bool} {B9 : Nat} (hM : jMX X kX6_laysTurn RX6 tbX6 7 ⟨4, 0, 0, 100⟩ none 16) (hp : jPost X sf B9 po px) (N : Nat) (J : Nat → Nat → Int64) {res : (Nat → Nat → Int32)} : ∀ (n : Nat) (G : Nat → Nat → Int32) (x1 : Int32) (x2 : Int32) (x3 : Int32) (x4 : Int32) (h : p_X6_laysTurn_b74 N J n G x1 x2 x3 x4 = some res) (hq : po none (hMo res J)), JW X 0 0 74 [some (.ref 0), some (.int x1), some (.int x2), some (.int x3), some (.int x4), none, none] [] (hMo G J) := by
  intro n
  induction n with
  | zero =>
    intro G x1 x2 x3 x4 h hq
    cases (show (none : Option ((Nat → Nat → Int32))) = some res from h)
  | succ n ih74 =>
    intro G x1 x2 x3 x4 h hq
    have ih74 := fun G x1 x2 x3 x4 h9 => ih74 G x1 x2 x3 x4 h9 hq
    rw [p_X6_laysTurn_b74] at h
    refine JW.r hM 46 3 (pc2 := 80) (L2 := [some (.ref 0), some (.int x1), some (.int x2), some (.int x3), some (.int x4), none, none]) (st2 := [.int (G 0 23), .int x4]) (μ2 := (hMo G J)) rfl trivial ?_
    refine js_icge (t := 244) hM.1 (jat hM.2.1 49 rfl) rfl (fun hc37 => ?_) (fun hc37 => ?_)
    · have h := (if_pos hc37).symm.trans h
      obtain rfl := Option.some.inj h
      exact js_vret hM.1 hp hM.2.2.2.2.2.2.2.1 (by rw [hM.2.2.2.2.2.1]; exact Nat.le_of_ble_eq_true rfl) (by rw [hM.2.2.2.2.2.2.1]; exact Nat.le_of_ble_eq_true rfl) (jat hM.2.1 145 rfl) hq
    · have h := (if_neg hc37).symm.trans h
      refine JW.r hM 50 5 (pc2 := 89) (L2 := [some (.ref 0), some (.int x1), some (.int x2), some (.int x3), some (.int x4), none, none]) (st2 := [.int ((x2 >>> (x4 &&& 31)) &&& (1 : Int32))]) (μ2 := (hMo G J)) rfl trivial ?_
      refine js_ifeq (t := 238) hM.1 (jat hM.2.1 55 rfl) rfl (fun hc36 => ?_) (fun hc36 => ?_)
      · have h := (if_pos hc36).symm.trans h
        exact t_X6_laysTurn_b238 hM hp N J (p_X6_laysTurn_b74 N J n) ih74 G x1 x2 x3 x4 h hq
      · have h := (if_neg hc36).symm.trans h
        obtain ⟨g5, h⟩ := jg h
        refine JW.r hM 56 6 (pc2 := 101) (L2 := [some (.ref 0), some (.int x1), some (.int x2), some (.int x3), some (.int x4), none, none]) (st2 := [.int x3, .int (G 8 x4.toNatClampNeg), .ref 0]) (μ2 := (hMo G J)) rfl ⟨g5, trivial⟩ ?_
        obtain ⟨v7, hv6, h⟩ := jbd h
        refine JW.cV (v := some (.int v7)) hM (m_X6_isOf (jVX X) hM.1.2.2.2.2.2.2.2.2.2.1 N G J (G 8 x4.toNatClampNeg) x3 v7 hv6) (sb_Mo_Mo_0 G J) (bi_Mo_Mo_0 G J) rfl rfl rfl kc_X6_246 rfl rfl rfl rfl rfl (jat hM.2.1 62 rfl) (st := []) rfl ?_
        show JW X 0 0 104 [some (.ref 0), some (.int x1), some (.int x2), some (.int x3), some (.int x4), none, none] [.int v7] (hMo G J)
        refine js_ifne (t := 110) hM.1 (jat hM.2.1 63 rfl) rfl (fun hc35 => ?_) (fun hc35 => ?_)
        · have h := (if_neg hc35).symm.trans h
          refine JW.r hM 65 4 (pc2 := 115) (L2 := [some (.ref 0), some (.int x1), some (.int x2), some (.int x3), some (.int x4), none, none]) (st2 := [.int x3, .int x4, .int x2, .ref 0]) (μ2 := (hMo G J)) rfl trivial ?_
          obtain ⟨v9, hv8, h⟩ := jbd h
          refine JW.cV (v := none) hM (m_X6_laysUndoing (jVX X) hM.1.2.2.2.2.2.2.2.2.2.1 N G J x2 x4 x3 v9 hv8) (sb_Mo_Mo_0 G J) (bk_Mo_Mo_0 G J v9 J) rfl rfl rfl kc_X6_326 rfl rfl rfl rfl rfl (jat hM.2.1 69 rfl) (st := []) rfl ?_
          show JW X 0 0 118 [some (.ref 0), some (.int x1), some (.int x2), some (.int x3), some (.int x4), none, none] [] (hMo v9 J)
          obtain ⟨G10, e11, h⟩ := jlE h
          rw [e11]
          refine JW.r hM 70 4 (pc2 := 123) (L2 := [some (.ref 0), some (.int x1), some (.int x2), some (.int x3), some (.int x4), none, none]) (st2 := [.int x4, .int x2, .ref 0, .int x2]) (μ2 := (hMo G10 J)) rfl trivial ?_
          obtain ⟨v13, hv12, h⟩ := jbd h
          refine JW.cV (v := some (.int v13)) hM (m_X6_fallIn (jVX X) hM.1.2.2.2.2.2.2.2.2.2.1 N G10 J x2 x4 v13 hv12) (sb_Mo_Mo_0 G10 J) (bi_Mo_Mo_0 G10 J) rfl rfl rfl kc_X6_307 rfl rfl rfl rfl rfl (jat hM.2.1 74 rfl) (st := [.int x2]) rfl ?_
          show JW X 0 0 126 [some (.ref 0), some (.int x1), some (.int x2), some (.int x3), some (.int x4), none, none] [.int v13, .int x2] (hMo G10 J)
          obtain ⟨g14, h⟩ := jg h
          refine JW.r hM 75 16 (pc2 := 148) (L2 := [some (.ref 0), some (.int x1), some (.int x2), some (.int x3), some (.int x4), some (.int (x2 &&& (v13 ^^^ (-1 : Int32)))), none]) (st2 := [.int x3, .int (x2 &&& (v13 ^^^ (-1 : Int32))), .int (x1 + (1 : Int32)), .ref 0, .ref 9, .int (G10 11 x3.toNatClampNeg)]) (μ2 := (hMo G10 J)) rfl ⟨g14, trivial⟩ ?_
          obtain ⟨v16, hv15, h⟩ := jbd h
          refine JW.cV (v := some (.int v16)) hM (m_X6_seat (jVX X) hM.1.2.2.2.2.2.2.2.2.2.1 N G10 J (x1 + (1 : Int32)) (x2 &&& (v13 ^^^ (-1 : Int32))) x3 v16 hv15) (sb_Mo_Mo_0 G10 J) (bi_Mo_Mo_0 G10 J) rfl rfl rfl kc_X6_319 rfl rfl rfl rfl rfl (jat hM.2.1 91 rfl) (st := [.ref 9, .int (G10 11 x3.toNatClampNeg)]) rfl ?_
          show JW X 0 0 151 [some (.ref 0), some (.int x1), some (.int x2), some (.int x3), some (.int x4), some (.int (x2 &&& (v13 ^^^ (-1 : Int32)))), none] [.int v16, .ref 9, .int (G10 11 x3.toNatClampNeg)] (hMo G10 J)
          obtain ⟨g17, h⟩ := jg h
          refine JW.r hM 92 8 (pc2 := 161) (L2 := [some (.ref 0), some (.int x1), some (.int x2), some (.int x3), some (.int x4), some (.int (x2 &&& (v13 ^^^ (-1 : Int32)))), none]) (st2 := [.int x3, .int x2, .int x1, .ref 0, .ref 9, .int ((G10 11 x3.toNatClampNeg) + (G10 9 v16.toNatClampNeg))]) (μ2 := (hMo G10 J)) rfl ⟨g17, trivial⟩ ?_
          obtain ⟨v19, hv18, h⟩ := jbd h
          refine JW.cV (v := some (.int v19)) hM (m_X6_seat (jVX X) hM.1.2.2.2.2.2.2.2.2.2.1 N G10 J x1 x2 x3 v19 hv18) (sb_Mo_Mo_0 G10 J) (bi_Mo_Mo_0 G10 J) rfl rfl rfl kc_X6_319 rfl rfl rfl rfl rfl (jat hM.2.1 100 rfl) (st := [.ref 9, .int ((G10 11 x3.toNatClampNeg) + (G10 9 v16.toNatClampNeg))]) rfl ?_
          show JW X 0 0 164 [some (.ref 0), some (.int x1), some (.int x2), some (.int x3), some (.int x4), some (.int (x2 &&& (v13 ^^^ (-1 : Int32)))), none] [.int v19, .ref 9, .int ((G10 11 x3.toNatClampNeg) + (G10 9 v16.toNatClampNeg))] (hMo G10 J)
          obtain ⟨g20, h⟩ := jg h
          refine JW.r hM 101 1 (pc2 := 165) (L2 := [some (.ref 0), some (.int x1), some (.int x2), some (.int x3), some (.int x4), some (.int (x2 &&& (v13 ^^^ (-1 : Int32)))), none]) (st2 := [.int (G10 9 v19.toNatClampNeg), .int ((G10 11 x3.toNatClampNeg) + (G10 9 v16.toNatClampNeg))]) (μ2 := (hMo G10 J)) rfl ⟨g20, trivial⟩ ?_
          refine js_icgt (t := 171) hM.1 (jat hM.2.1 102 rfl) rfl (fun hc34 => ?_) (fun hc34 => ?_)
          · have h := (if_pos hc34).symm.trans h
            obtain ⟨g21, h⟩ := jg h
            obtain ⟨G22, e23, h⟩ := jlE h
            refine JW.r hM 104 9 (pc2 := 185) (L2 := [some (.ref 0), some (.int x1), some (.int x2), some (.int x3), some (.int x4), some (.int (x2 &&& (v13 ^^^ (-1 : Int32)))), none]) (st2 := []) (μ2 := (hMo (jup G10 10 ((x1 * (1024 : Int32)) + x2).toNatClampNeg x4) J)) rfl ⟨g21, trivial⟩ ?_
            rw [e23]
            refine JW.r hM 113 2 (pc2 := 188) (L2 := [some (.ref 0), some (.int x1), some (.int x2), some (.int x3), some (.int x4), some (.int (x2 &&& (v13 ^^^ (-1 : Int32)))), some (.int (0 : Int32))]) (st2 := []) (μ2 := (hMo G22 J)) rfl trivial ?_
            exact t_X6_laysTurn_b188 hM hp N J (p_X6_laysTurn_b74 N J n) ih74 N G22 x1 x2 x3 x4 (x2 &&& (v13 ^^^ (-1 : Int32))) (0 : Int32) h hq
          · have h := (if_neg hc34).symm.trans h
            refine JW.r hM 103 1 (pc2 := 238) (L2 := [some (.ref 0), some (.int x1), some (.int x2), some (.int x3), some (.int x4), some (.int (x2 &&& (v13 ^^^ (-1 : Int32)))), none]) (st2 := []) (μ2 := (hMo G10 J)) rfl trivial ?_
            exact JW.mask [true, true, true, true, true, false, false] (t_X6_laysTurn_b238 hM hp N J (p_X6_laysTurn_b74 N J n) ih74 G10 x1 x2 x3 x4 h hq)
        · have h := (if_pos hc35).symm.trans h
          refine JW.r hM 64 1 (pc2 := 238) (L2 := [some (.ref 0), some (.int x1), some (.int x2), some (.int x3), some (.int x4), none, none]) (st2 := []) (μ2 := (hMo G J)) rfl trivial ?_
          exact t_X6_laysTurn_b238 hM hp N J (p_X6_laysTurn_b74 N J n) ih74 G x1 x2 x3 x4 h hq
set_option maxHeartbeats 4000000 in
set_option maxRecDepth 100000 in
theorem t_X6_laysTurn_b30 {X : jX} {po : Option Value → jH → Prop} {px : String → jH → Prop} {sf : Bool} {B9 : Nat} (hM : jMX X kX6_laysTurn RX6 tbX6 7 ⟨4, 0, 0, 100⟩ none 16) (hp : jPost X sf B9 po px) (N : Nat) (J : Nat → Nat → Int64) {res : (Nat → Nat → Int32)} : ∀ (n : Nat) (G : Nat → Nat → Int32) (x1 : Int32) (x2 : Int32) (x3 : Int32) (x4 : Int32) (h : p_X6_laysTurn_b30 N J n G x1 x2 x3 x4 = some res) (hq : po none (hMo res J)), JW X 0 0 30 [some (.ref 0), some (.int x1), some (.int x2), some (.int x3), some (.int x4), none, none] [] (hMo G J) := by
  intro n
  induction n with
  | zero =>
    intro G x1 x2 x3 x4 h hq
    cases (show (none : Option ((Nat → Nat → Int32))) = some res from h)
  | succ n ih30 =>
    intro G x1 x2 x3 x4 h hq
    have ih30 := fun G x1 x2 x3 x4 h9 => ih30 G x1 x2 x3 x4 h9 hq
    rw [p_X6_laysTurn_b30] at h
    refine JW.r hM 21 2 (pc2 := 34) (L2 := [some (.ref 0), some (.int x1), some (.int x2), some (.int x3), some (.int x4), none, none]) (st2 := [.int (6 : Int32), .int x4]) (μ2 := (hMo G J)) rfl trivial ?_
    refine js_icge (t := 71) hM.1 (jat hM.2.1 23 rfl) rfl (fun hc46 => ?_) (fun hc46 => ?_)
    · have h := (if_pos hc46).symm.trans h
      refine JW.r hM 44 2 (pc2 := 74) (L2 := [some (.ref 0), some (.int x1), some (.int x2), some (.int x3), some (.int (0 : Int32)), none, none]) (st2 := []) (μ2 := (hMo G J)) rfl trivial ?_
      exact t_X6_laysTurn_b74 hM hp N J N G x1 x2 x3 (0 : Int32) h hq
    · have h := (if_neg hc46).symm.trans h
      refine JW.r hM 24 6 (pc2 := 46) (L2 := [some (.ref 0), some (.int x1), some (.int x2), some (.int x3), some (.int x4), none, none]) (st2 := [.int x4, .int x2, .int x1, .ref 0, .ref 9]) (μ2 := (hMo G J)) rfl trivial ?_
      obtain ⟨v39, hv38, h⟩ := jbd h
      refine JW.cV (v := some (.int v39)) hM (m_X6_seat (jVX X) hM.1.2.2.2.2.2.2.2.2.2.1 N G J x1 x2 x4 v39 hv38) (sb_Mo_Mo_0 G J) (bi_Mo_Mo_0 G J) rfl rfl rfl kc_X6_319 rfl rfl rfl rfl rfl (jat hM.2.1 30 rfl) (st := [.ref 9]) rfl ?_
      show JW X 0 0 49 [some (.ref 0), some (.int x1), some (.int x2), some (.int x3), some (.int x4), none, none] [.int v39, .ref 9] (hMo G J)
      refine JW.r hM 31 8 (pc2 := 60) (L2 := [some (.ref 0), some (.int x1), some (.int x2), some (.int x3), some (.int x4), none, none]) (st2 := [.int x4, .int x2, .int (x1 + (1 : Int32)), .ref 0, .ref 9, .int v39, .ref 9]) (μ2 := (hMo G J)) rfl trivial ?_
      obtain ⟨v41, hv40, h⟩ := jbd h
      refine JW.cV (v := some (.int v41)) hM (m_X6_seat (jVX X) hM.1.2.2.2.2.2.2.2.2.2.1 N G J (x1 + (1 : Int32)) x2 x4 v41 hv40) (sb_Mo_Mo_0 G J) (bi_Mo_Mo_0 G J) rfl rfl rfl kc_X6_319 rfl rfl rfl rfl rfl (jat hM.2.1 39 rfl) (st := [.ref 9, .int v39, .ref 9]) rfl ?_
      show JW X 0 0 63 [some (.ref 0), some (.int x1), some (.int x2), some (.int x3), some (.int x4), none, none] [.int v41, .ref 9, .int v39, .ref 9] (hMo G J)
      obtain ⟨g42, h⟩ := jg h
      obtain ⟨g43, h⟩ := jg h
      obtain ⟨G44, e45, h⟩ := jlE h
      refine JW.r hM 40 2 (pc2 := 65) (L2 := [some (.ref 0), some (.int x1), some (.int x2), some (.int x3), some (.int x4), none, none]) (st2 := []) (μ2 := (hMo (jup G 9 v39.toNatClampNeg (G 9 v41.toNatClampNeg)) J)) rfl ⟨g42, g43, trivial⟩ ?_
      rw [e45]
      refine JW.r hM 42 2 (pc2 := 30) (L2 := [some (.ref 0), some (.int x1), some (.int x2), some (.int x3), some (.int (x4 + 1)), none, none]) (st2 := []) (μ2 := (hMo G44 J)) rfl trivial ?_
      exact ih30 G44 x1 x2 x3 (x4 + 1) h
set_option maxHeartbeats 4000000 in
set_option maxRecDepth 100000 in
theorem t_X6_laysTurn {X : jX} {po : Option Value → jH → Prop} {px : String → jH → Prop} {sf : Bool} {B9 : Nat} (hM : jMX X kX6_laysTurn RX6 tbX6 7 ⟨4, 0, 0, 100⟩ none 16) (hp : jPost X sf B9 po px) (N : Nat) (G : Nat → Nat → Int32) (J : Nat → Nat → Int64) (p0 : Int32) (p1 : Int32) {res : (Nat → Nat → Int32)} (h : p_X6_laysTurn N G J p0 p1 = some res) (hq : po none (hMo res J)) : JW X 0 0 0 [some (.ref 0), some (.int p0), some (.int p1), none, none, none, none] [] (hMo G J) := by
  unfold p_X6_laysTurn at h
  obtain ⟨g1, h⟩ := jgn h
  obtain ⟨g2, h⟩ := jg h
  obtain ⟨G3, e4, h⟩ := jlE h
  refine JW.r hM 0 19 (pc2 := 27) (L2 := [some (.ref 0), some (.int p0), some (.int p1), some (.int (((G 0 25) + p0) - ((G 0 25) + p0) / (G 1 1) * (G 1 1))), none, none, none]) (st2 := []) (μ2 := (hMo (jup G 10 ((p0 * (1024 : Int32)) + p1).toNatClampNeg (-1 : Int32)) J)) rfl ⟨rfl, g1, g2, trivial⟩ ?_
  rw [e4]
  refine JW.r hM 19 2 (pc2 := 30) (L2 := [some (.ref 0), some (.int p0), some (.int p1), some (.int (((G 0 25) + p0) - ((G 0 25) + p0) / (G 1 1) * (G 1 1))), some (.int (0 : Int32)), none, none]) (st2 := []) (μ2 := (hMo G3 J)) rfl trivial ?_
  exact t_X6_laysTurn_b30 hM hp N J N G3 p0 p1 (((G 0 25) + p0) - ((G 0 25) + p0) / (G 1 1) * (G 1 1)) (0 : Int32) h hq
theorem m_X6_laysTurn (V : jV) (hV : V.1.stackTraces = false) (N : Nat) (G : Nat → Nat → Int32) (J : Nat → Nat → Int64) (p0 : Int32) (p1 : Int32) (v : (Nat → Nat → Int32)) (h : p_X6_laysTurn N G J p0 p1 = some v) : jMet V yX6_laysTurn (jws yX6_laysTurn cX6_laysTurn 7 none) ⟨4, 0, 0, 100⟩ true 1 [.ref 0, .int p0, .int p1] (hMo G J) (fun o ν => o = none ∧ ν = (hMo v J)) (fun _ _ => False) := by
  refine jmk (tb := tbX6) (C := kX6_laysTurn) hV rfl (by decide) tbX6_ok rfl kX6_laysTurn_ok rfl ?_
  intro X hM _ hp _
  exact t_X6_laysTurn hM hp N G J p0 p1 h ⟨rfl, rfl⟩
def p_X6_laysFrom_b148 (N : Nat) (J : Nat → Nat → Int64) (rv141 : (Nat → Nat → Int32) → Int32 → Option (Int32 × (Nat → Nat → Int32))) : Nat → (Nat → Nat → Int32) → (Int32) → (Int32) → Option (Int32 × (Nat → Nat → Int32))
  | 0, _, _, _ => none
  | n + 1, G, x3, x4 => if ((1 : Int32) <<< ((G 0 23) &&& 31)) ≤ x4 then (rv141 G (x3 + (-1))) else ((p_X6_laysTurn N G J x3 x4).bind (fun v8 => jlt v8 fun G9 => (p_X6_laysFrom_b148 N J rv141 n) G9 x3 (x4 + 1)))
def p_X6_laysFrom_b141 (N : Nat) (J : Nat → Nat → Int64) : Nat → (Nat → Nat → Int32) → (Int32) → Option (Int32 × (Nat → Nat → Int32))
  | 0, _, _ => none
  | n + 1, G, x3 => if x3 < 0 then (some ((1 : Int32), G)) else (p_X6_laysFrom_b148 N J (p_X6_laysFrom_b141 N J n) N G x3 (0 : Int32))
def p_X6_laysFrom_b98 (N : Nat) (J : Nat → Nat → Int64) (rv85 : (Nat → Nat → Int32) → Int32 → Option (Int32 × (Nat → Nat → Int32))) : Nat → (Nat → Nat → Int32) → (Int32) → (Int32) → Option (Int32 × (Nat → Nat → Int32))
  | 0, _, _, _ => none
  | n + 1, G, x3, x4 => if (6 : Int32) ≤ x4 then (rv85 G (x3 + 1)) else ((p_X6_seat N G J (G 0 24) x3 x4).bind (fun v14 => if jin v14 79872 = true then jlt (jup G 9 v14.toNatClampNeg (0 : Int32)) fun G16 => (p_X6_laysFrom_b98 N J rv85 n) G16 x3 (x4 + 1) else none))
def p_X6_laysFrom_b85 (N : Nat) (J : Nat → Nat → Int64) : Nat → (Nat → Nat → Int32) → (Int32) → Option (Int32 × (Nat → Nat → Int32))
  | 0, _, _ => none
  | n + 1, G, x3 => if ((1 : Int32) <<< ((G 0 23) &&& 31)) ≤ x3 then (p_X6_laysFrom_b141 N J N G ((G 0 24) - (1 : Int32))) else (p_X6_laysFrom_b98 N J (p_X6_laysFrom_b85 N J n) N G x3 (0 : Int32))
def p_X6_laysFrom_b65 (N : Nat) (J : Nat → Nat → Int64) (rv12 : (Nat → Nat → Int32) → Int32 → Int32 → Option (Int32 × (Nat → Nat → Int32))) (G : Nat → Nat → Int32) (x1 : Int32) (x3 : Int32) : Option (Int32 × (Nat → Nat → Int32)) :=
  rv12 G x1 (x3 + 1)
def p_X6_laysFrom_b12 (N : Nat) (J : Nat → Nat → Int64) : Nat → (Nat → Nat → Int32) → (Int32) → (Int32) → Option (Int32 × (Nat → Nat → Int32))
  | 0, _, _, _ => none
  | n + 1, G, x1, x3 => if (G 1 7) ≤ x3 then (jlt (jup G 0 24 (x1 * (G 1 1))) fun G5 => p_X6_laysFrom_b85 N J N G5 (0 : Int32)) else ((p_X6_isOpen N G J x3).bind (fun v21 => if v21 = 0 then (p_X6_laysFrom_b65 N J (p_X6_laysFrom_b12 N J n) G x1 x3) else (if (G 0 23) = (10 : Int32) then (some ((0 : Int32), G)) else (if jin (G 0 23) 10 = true then jlt (jup G 8 (G 0 23).toNatClampNeg x3) fun G23 => jlt (jup G23 0 23 ((G23 0 23) + (1 : Int32))) fun G25 => p_X6_laysFrom_b65 N J (p_X6_laysFrom_b12 N J n) G25 x1 x3 else none))))
def p_X6_laysFrom (N : Nat) (G : Nat → Nat → Int32) (J : Nat → Nat → Int64) (p0 : Int32) (p1 : Int32) : Option (Int32 × (Nat → Nat → Int32)) :=
  jlt (jup G 0 25 p1) fun G1 => jlt (jup G1 0 23 (0 : Int32)) fun G3 => p_X6_laysFrom_b12 N J N G3 p0 (0 : Int32)
set_option maxHeartbeats 4000000 in
set_option maxRecDepth 100000 in
theorem t_X6_laysFrom_b148 {X : jX} {po : Option Value → jH → Prop} {px : String → jH → Prop} {sf : Bool} {B9 : Nat} (hM : jMX X kX6_laysFrom RX6 tbX6 5 ⟨5, 0, 0, 126⟩ (some .boolean) 16) (hp : jPost X sf B9 po px) (N : Nat) (J : Nat → Nat → Int64) (rv141 : (Nat → Nat → Int32) → Int32 → Option (Int32 × (Nat → Nat → Int32))) {res : Int32 × (Nat → Nat → Int32)} (ih141 : ∀ (G : Nat → Nat → Int32) (x3 : Int32), rv141 G x3 = some res → JW X 0 0 141 [some (.ref 0), none, none, some (.int x3), none] [] (hMo G J)) : ∀ (n : Nat) (G : Nat → Nat → Int32) (x3 : Int32) (x4 : Int32) (h : p_X6_laysFrom_b148 N J rv141 n G x3 x4 = some res) (hq : po (some (.int res.1)) (hMo res.2 J)), JW X 0 0 148 [some (.ref 0), none, none, some (.int x3), some (.int x4)] [] (hMo G J) := by
  intro n
  induction n with
  | zero =>
    intro G x3 x4 h hq
    cases (show (none : Option (Int32 × (Nat → Nat → Int32))) = some res from h)
  | succ n ih148 =>
    intro G x3 x4 h hq
    have ih148 := fun G x3 x4 h9 => ih148 G x3 x4 h9 hq
    rw [p_X6_laysFrom_b148] at h
    refine JW.r hM 83 5 (pc2 := 156) (L2 := [some (.ref 0), none, none, some (.int x3), some (.int x4)]) (st2 := [.int ((1 : Int32) <<< ((G 0 23) &&& 31)), .int x4]) (μ2 := (hMo G J)) rfl trivial ?_
    refine js_icge (t := 172) hM.1 (jat hM.2.1 88 rfl) rfl (fun hc11 => ?_) (fun hc11 => ?_)
    · have h := (if_pos hc11).symm.trans h
      refine JW.r hM 95 2 (pc2 := 141) (L2 := [some (.ref 0), none, none, some (.int (x3 + (-1))), some (.int x4)]) (st2 := []) (μ2 := (hMo G J)) rfl trivial ?_
      exact JW.mask [true, false, false, true, false] (ih141 G (x3 + (-1)) h)
    · have h := (if_neg hc11).symm.trans h
      refine JW.r hM 89 3 (pc2 := 163) (L2 := [some (.ref 0), none, none, some (.int x3), some (.int x4)]) (st2 := [.int x4, .int x3, .ref 0]) (μ2 := (hMo G J)) rfl trivial ?_
      obtain ⟨v8, hv7, h⟩ := jbd h
      refine JW.cV (v := none) hM (m_X6_laysTurn (jVX X) hM.1.2.2.2.2.2.2.2.2.2.1 N G J x3 x4 v8 hv7) (sb_Mo_Mo_0 G J) (bk_Mo_Mo_0 G J v8 J) rfl rfl rfl kc_X6_322 rfl rfl rfl rfl rfl (jat hM.2.1 92 rfl) (st := []) rfl ?_
      show JW X 0 0 166 [some (.ref 0), none, none, some (.int x3), some (.int x4)] [] (hMo v8 J)
      obtain ⟨G9, e10, h⟩ := jlE h
      rw [e10]
      refine JW.r hM 93 2 (pc2 := 148) (L2 := [some (.ref 0), none, none, some (.int x3), some (.int (x4 + 1))]) (st2 := []) (μ2 := (hMo G9 J)) rfl trivial ?_
      exact ih148 G9 x3 (x4 + 1) h
set_option maxHeartbeats 4000000 in
set_option maxRecDepth 100000 in
theorem t_X6_laysFrom_b141 {X : jX} {po : Option Value → jH → Prop} {px : String → jH → Prop} {sf : Bool} {B9 : Nat} (hM : jMX X kX6_laysFrom RX6 tbX6 5 ⟨5, 0, 0, 126⟩ (some .boolean) 16) (hp : jPost X sf B9 po px) (N : Nat) (J : Nat → Nat → Int64) {res : Int32 × (Nat → Nat → Int32)} : ∀ (n : Nat) (G : Nat → Nat → Int32) (x3 : Int32) (h : p_X6_laysFrom_b141 N J n G x3 = some res) (hq : po (some (.int res.1)) (hMo res.2 J)), JW X 0 0 141 [some (.ref 0), none, none, some (.int x3), none] [] (hMo G J) := by
  intro n
  induction n with
  | zero =>
    intro G x3 h hq
    cases (show (none : Option (Int32 × (Nat → Nat → Int32))) = some res from h)
  | succ n ih141 =>
    intro G x3 h hq
    have ih141 := fun G x3 h9 => ih141 G x3 h9 hq
    rw [p_X6_laysFrom_b141] at h
    refine JW.r hM 79 1 (pc2 := 142) (L2 := [some (.ref 0), none, none, some (.int x3), none]) (st2 := [.int x3]) (μ2 := (hMo G J)) rfl trivial ?_
    refine js_iflt (t := 178) hM.1 (jat hM.2.1 80 rfl) rfl (fun hc12 => ?_) (fun hc12 => ?_)
    · have h := (if_pos hc12).symm.trans h
      refine JW.r hM 97 1 (pc2 := 179) (L2 := [some (.ref 0), none, none, some (.int x3), none]) (st2 := [.int (1 : Int32)]) (μ2 := (hMo G J)) rfl trivial ?_
      obtain rfl := Option.some.inj h
      exact js_zret hM.1 hp hM.2.2.2.2.2.2.2.1 rfl (by rw [hM.2.2.2.2.2.1]; exact Nat.le_of_ble_eq_true rfl) (by rw [hM.2.2.2.2.2.2.1]; exact Nat.le_of_ble_eq_true rfl) (jat hM.2.1 98 rfl) hq
    · have h := (if_neg hc12).symm.trans h
      refine JW.r hM 81 2 (pc2 := 148) (L2 := [some (.ref 0), none, none, some (.int x3), some (.int (0 : Int32))]) (st2 := []) (μ2 := (hMo G J)) rfl trivial ?_
      exact t_X6_laysFrom_b148 hM hp N J (p_X6_laysFrom_b141 N J n) ih141 N G x3 (0 : Int32) h hq
set_option maxHeartbeats 4000000 in
set_option maxRecDepth 100000 in
theorem t_X6_laysFrom_b98 {X : jX} {po : Option Value → jH → Prop} {px : String → jH → Prop} {sf : Bool} {B9 : Nat} (hM : jMX X kX6_laysFrom RX6 tbX6 5 ⟨5, 0, 0, 126⟩ (some .boolean) 16) (hp : jPost X sf B9 po px) (N : Nat) (J : Nat → Nat → Int64) (rv85 : (Nat → Nat → Int32) → Int32 → Option (Int32 × (Nat → Nat → Int32))) {res : Int32 × (Nat → Nat → Int32)} (ih85 : ∀ (G : Nat → Nat → Int32) (x3 : Int32), rv85 G x3 = some res → JW X 0 0 85 [some (.ref 0), none, none, some (.int x3), none] [] (hMo G J)) : ∀ (n : Nat) (G : Nat → Nat → Int32) (x3 : Int32) (x4 : Int32) (h : p_X6_laysFrom_b98 N J rv85 n G x3 x4 = some res) (hq : po (some (.int res.1)) (hMo res.2 J)), JW X 0 0 98 [some (.ref 0), none, none, some (.int x3), some (.int x4)] [] (hMo G J) := by
  intro n
  induction n with
  | zero =>
    intro G x3 x4 h hq
    cases (show (none : Option (Int32 × (Nat → Nat → Int32))) = some res from h)
  | succ n ih98 =>
    intro G x3 x4 h hq
    have ih98 := fun G x3 x4 h9 => ih98 G x3 x4 h9 hq
    rw [p_X6_laysFrom_b98] at h
    refine JW.r hM 57 2 (pc2 := 102) (L2 := [some (.ref 0), none, none, some (.int x3), some (.int x4)]) (st2 := [.int (6 : Int32), .int x4]) (μ2 := (hMo G J)) rfl trivial ?_
    refine js_icge (t := 128) hM.1 (jat hM.2.1 59 rfl) rfl (fun hc18 => ?_) (fun hc18 => ?_)
    · have h := (if_pos hc18).symm.trans h
      refine JW.r hM 72 2 (pc2 := 85) (L2 := [some (.ref 0), none, none, some (.int (x3 + 1)), some (.int x4)]) (st2 := []) (μ2 := (hMo G J)) rfl trivial ?_
      exact JW.mask [true, false, false, true, false] (ih85 G (x3 + 1) h)
    · have h := (if_neg hc18).symm.trans h
      refine JW.r hM 60 7 (pc2 := 117) (L2 := [some (.ref 0), none, none, some (.int x3), some (.int x4)]) (st2 := [.int x4, .int x3, .int (G 0 24), .ref 0, .ref 9]) (μ2 := (hMo G J)) rfl trivial ?_
      obtain ⟨v14, hv13, h⟩ := jbd h
      refine JW.cV (v := some (.int v14)) hM (m_X6_seat (jVX X) hM.1.2.2.2.2.2.2.2.2.2.1 N G J (G 0 24) x3 x4 v14 hv13) (sb_Mo_Mo_0 G J) (bi_Mo_Mo_0 G J) rfl rfl rfl kc_X6_319 rfl rfl rfl rfl rfl (jat hM.2.1 67 rfl) (st := [.ref 9]) rfl ?_
      show JW X 0 0 120 [some (.ref 0), none, none, some (.int x3), some (.int x4)] [.int v14, .ref 9] (hMo G J)
      obtain ⟨g15, h⟩ := jg h
      obtain ⟨G16, e17, h⟩ := jlE h
      refine JW.r hM 68 2 (pc2 := 122) (L2 := [some (.ref 0), none, none, some (.int x3), some (.int x4)]) (st2 := []) (μ2 := (hMo (jup G 9 v14.toNatClampNeg (0 : Int32)) J)) rfl ⟨g15, trivial⟩ ?_
      rw [e17]
      refine JW.r hM 70 2 (pc2 := 98) (L2 := [some (.ref 0), none, none, some (.int x3), some (.int (x4 + 1))]) (st2 := []) (μ2 := (hMo G16 J)) rfl trivial ?_
      exact ih98 G16 x3 (x4 + 1) h
set_option maxHeartbeats 4000000 in
set_option maxRecDepth 100000 in
theorem t_X6_laysFrom_b85 {X : jX} {po : Option Value → jH → Prop} {px : String → jH → Prop} {sf : Bool} {B9 : Nat} (hM : jMX X kX6_laysFrom RX6 tbX6 5 ⟨5, 0, 0, 126⟩ (some .boolean) 16) (hp : jPost X sf B9 po px) (N : Nat) (J : Nat → Nat → Int64) {res : Int32 × (Nat → Nat → Int32)} : ∀ (n : Nat) (G : Nat → Nat → Int32) (x3 : Int32) (h : p_X6_laysFrom_b85 N J n G x3 = some res) (hq : po (some (.int res.1)) (hMo res.2 J)), JW X 0 0 85 [some (.ref 0), none, none, some (.int x3), none] [] (hMo G J) := by
  intro n
  induction n with
  | zero =>
    intro G x3 h hq
    cases (show (none : Option (Int32 × (Nat → Nat → Int32))) = some res from h)
  | succ n ih85 =>
    intro G x3 h hq
    have ih85 := fun G x3 h9 => ih85 G x3 h9 hq
    rw [p_X6_laysFrom_b85] at h
    refine JW.r hM 49 5 (pc2 := 92) (L2 := [some (.ref 0), none, none, some (.int x3), none]) (st2 := [.int ((1 : Int32) <<< ((G 0 23) &&& 31)), .int x3]) (μ2 := (hMo G J)) rfl trivial ?_
    refine js_icge (t := 134) hM.1 (jat hM.2.1 54 rfl) rfl (fun hc19 => ?_) (fun hc19 => ?_)
    · have h := (if_pos hc19).symm.trans h
      refine JW.r hM 74 5 (pc2 := 141) (L2 := [some (.ref 0), none, none, some (.int ((G 0 24) - (1 : Int32))), none]) (st2 := []) (μ2 := (hMo G J)) rfl trivial ?_
      exact t_X6_laysFrom_b141 hM hp N J N G ((G 0 24) - (1 : Int32)) h hq
    · have h := (if_neg hc19).symm.trans h
      refine JW.r hM 55 2 (pc2 := 98) (L2 := [some (.ref 0), none, none, some (.int x3), some (.int (0 : Int32))]) (st2 := []) (μ2 := (hMo G J)) rfl trivial ?_
      exact t_X6_laysFrom_b98 hM hp N J (p_X6_laysFrom_b85 N J n) ih85 N G x3 (0 : Int32) h hq
set_option maxHeartbeats 4000000 in
set_option maxRecDepth 100000 in
theorem t_X6_laysFrom_b65 {X : jX} {po : Option Value → jH → Prop} {px : String → jH → Prop} {sf : Bool} {B9 : Nat} (hM : jMX X kX6_laysFrom RX6 tbX6 5 ⟨5, 0, 0, 126⟩ (some .boolean) 16) (hp : jPost X sf B9 po px) (N : Nat) (J : Nat → Nat → Int64) (rv12 : (Nat → Nat → Int32) → Int32 → Int32 → Option (Int32 × (Nat → Nat → Int32))) {res : Int32 × (Nat → Nat → Int32)} (ih12 : ∀ (G : Nat → Nat → Int32) (x1 : Int32) (x3 : Int32), rv12 G x1 x3 = some res → JW X 0 0 12 [some (.ref 0), some (.int x1), none, some (.int x3), none] [] (hMo G J)) (G : Nat → Nat → Int32) (x1 : Int32) (x3 : Int32) (h : p_X6_laysFrom_b65 N J rv12 G x1 x3 = some res) (hq : po (some (.int res.1)) (hMo res.2 J)) : JW X 0 0 65 [some (.ref 0), some (.int x1), none, some (.int x3), none] [] (hMo G J) := by
  unfold p_X6_laysFrom_b65 at h
  refine JW.r hM 37 2 (pc2 := 12) (L2 := [some (.ref 0), some (.int x1), none, some (.int (x3 + 1)), none]) (st2 := []) (μ2 := (hMo G J)) rfl trivial ?_
  exact ih12 G x1 (x3 + 1) h
set_option maxHeartbeats 4000000 in
set_option maxRecDepth 100000 in
theorem t_X6_laysFrom_b12 {X : jX} {po : Option Value → jH → Prop} {px : String → jH → Prop} {sf : Bool} {B9 : Nat} (hM : jMX X kX6_laysFrom RX6 tbX6 5 ⟨5, 0, 0, 126⟩ (some .boolean) 16) (hp : jPost X sf B9 po px) (N : Nat) (J : Nat → Nat → Int64) {res : Int32 × (Nat → Nat → Int32)} : ∀ (n : Nat) (G : Nat → Nat → Int32) (x1 : Int32) (x3 : Int32) (h : p_X6_laysFrom_b12 N J n G x1 x3 = some res) (hq : po (some (.int res.1)) (hMo res.2 J)), JW X 0 0 12 [some (.ref 0), some (.int x1), none, some (.int x3), none] [] (hMo G J) := by
  intro n
  induction n with
  | zero =>
    intro G x1 x3 h hq
    cases (show (none : Option (Int32 × (Nat → Nat → Int32))) = some res from h)
  | succ n ih12 =>
    intro G x1 x3 h hq
    have ih12 := fun G x1 x3 h9 => ih12 G x1 x3 h9 hq
    rw [p_X6_laysFrom_b12] at h
    refine JW.r hM 8 5 (pc2 := 20) (L2 := [some (.ref 0), some (.int x1), none, some (.int x3), none]) (st2 := [.int (G 1 7), .int x3]) (μ2 := (hMo G J)) rfl ⟨rfl, trivial⟩ ?_
    refine js_icge (t := 71) hM.1 (jat hM.2.1 13 rfl) rfl (fun hc29 => ?_) (fun hc29 => ?_)
    · have h := (if_pos hc29).symm.trans h
      obtain ⟨G5, e6, h⟩ := jlE h
      refine JW.r hM 39 8 (pc2 := 83) (L2 := [some (.ref 0), some (.int x1), none, some (.int x3), none]) (st2 := []) (μ2 := (hMo (jup G 0 24 (x1 * (G 1 1))) J)) rfl ⟨rfl, trivial⟩ ?_
      rw [e6]
      refine JW.r hM 47 2 (pc2 := 85) (L2 := [some (.ref 0), some (.int x1), none, some (.int (0 : Int32)), none]) (st2 := []) (μ2 := (hMo G5 J)) rfl trivial ?_
      exact JW.mask [true, false, false, true, false] (t_X6_laysFrom_b85 hM hp N J N G5 (0 : Int32) h hq)
    · have h := (if_neg hc29).symm.trans h
      refine JW.r hM 14 2 (pc2 := 25) (L2 := [some (.ref 0), some (.int x1), none, some (.int x3), none]) (st2 := [.int x3, .ref 0]) (μ2 := (hMo G J)) rfl trivial ?_
      obtain ⟨v21, hv20, h⟩ := jbd h
      refine JW.cV (v := some (.int v21)) hM (m_X6_isOpen (jVX X) hM.1.2.2.2.2.2.2.2.2.2.1 N G J x3 v21 hv20) (sb_Mo_Mo_0 G J) (bi_Mo_Mo_0 G J) rfl rfl rfl kc_X6_285 rfl rfl rfl rfl rfl (jat hM.2.1 16 rfl) (st := []) rfl ?_
      show JW X 0 0 28 [some (.ref 0), some (.int x1), none, some (.int x3), none] [.int v21] (hMo G J)
      refine js_ifne (t := 34) hM.1 (jat hM.2.1 17 rfl) rfl (fun hc28 => ?_) (fun hc28 => ?_)
      · have h := (if_neg hc28).symm.trans h
        refine JW.r hM 19 3 (pc2 := 40) (L2 := [some (.ref 0), some (.int x1), none, some (.int x3), none]) (st2 := [.int (10 : Int32), .int (G 0 23)]) (μ2 := (hMo G J)) rfl trivial ?_
        refine js_icne (t := 45) hM.1 (jat hM.2.1 22 rfl) rfl (fun hc27 => ?_) (fun hc27 => ?_)
        · have h := (if_neg hc27).symm.trans h
          obtain ⟨g22, h⟩ := jg h
          obtain ⟨G23, e24, h⟩ := jlE h
          refine JW.r hM 25 6 (pc2 := 55) (L2 := [some (.ref 0), some (.int x1), none, some (.int x3), none]) (st2 := []) (μ2 := (hMo (jup G 8 (G 0 23).toNatClampNeg x3) J)) rfl ⟨g22, trivial⟩ ?_
          rw [e24]
          obtain ⟨G25, e26, h⟩ := jlE h
          refine JW.r hM 31 6 (pc2 := 65) (L2 := [some (.ref 0), some (.int x1), none, some (.int x3), none]) (st2 := []) (μ2 := (hMo (jup G23 0 23 ((G23 0 23) + (1 : Int32))) J)) rfl trivial ?_
          rw [e26]
          exact t_X6_laysFrom_b65 hM hp N J (p_X6_laysFrom_b12 N J n) ih12 G25 x1 x3 h hq
        · have h := (if_pos hc27).symm.trans h
          refine JW.r hM 23 1 (pc2 := 44) (L2 := [some (.ref 0), some (.int x1), none, some (.int x3), none]) (st2 := [.int (0 : Int32)]) (μ2 := (hMo G J)) rfl trivial ?_
          obtain rfl := Option.some.inj h
          exact js_zret hM.1 hp hM.2.2.2.2.2.2.2.1 rfl (by rw [hM.2.2.2.2.2.1]; exact Nat.le_of_ble_eq_true rfl) (by rw [hM.2.2.2.2.2.2.1]; exact Nat.le_of_ble_eq_true rfl) (jat hM.2.1 24 rfl) hq
      · have h := (if_pos hc28).symm.trans h
        refine JW.r hM 18 1 (pc2 := 65) (L2 := [some (.ref 0), some (.int x1), none, some (.int x3), none]) (st2 := []) (μ2 := (hMo G J)) rfl trivial ?_
        exact t_X6_laysFrom_b65 hM hp N J (p_X6_laysFrom_b12 N J n) ih12 G x1 x3 h hq
set_option maxHeartbeats 4000000 in
set_option maxRecDepth 100000 in
theorem t_X6_laysFrom {X : jX} {po : Option Value → jH → Prop} {px : String → jH → Prop} {sf : Bool} {B9 : Nat} (hM : jMX X kX6_laysFrom RX6 tbX6 5 ⟨5, 0, 0, 126⟩ (some .boolean) 16) (hp : jPost X sf B9 po px) (N : Nat) (G : Nat → Nat → Int32) (J : Nat → Nat → Int64) (p0 : Int32) (p1 : Int32) {res : Int32 × (Nat → Nat → Int32)} (h : p_X6_laysFrom N G J p0 p1 = some res) (hq : po (some (.int res.1)) (hMo res.2 J)) : JW X 0 0 0 [some (.ref 0), some (.int p0), some (.int p1), none, none] [] (hMo G J) := by
  unfold p_X6_laysFrom at h
  obtain ⟨G1, e2, h⟩ := jlE h
  refine JW.r hM 0 3 (pc2 := 5) (L2 := [some (.ref 0), some (.int p0), some (.int p1), none, none]) (st2 := []) (μ2 := (hMo (jup G 0 25 p1) J)) rfl trivial ?_
  rw [e2]
  obtain ⟨G3, e4, h⟩ := jlE h
  refine JW.r hM 3 3 (pc2 := 10) (L2 := [some (.ref 0), some (.int p0), some (.int p1), none, none]) (st2 := []) (μ2 := (hMo (jup G1 0 23 (0 : Int32)) J)) rfl trivial ?_
  rw [e4]
  refine JW.r hM 6 2 (pc2 := 12) (L2 := [some (.ref 0), some (.int p0), some (.int p1), some (.int (0 : Int32)), none]) (st2 := []) (μ2 := (hMo G3 J)) rfl trivial ?_
  exact JW.mask [true, true, false, true, false] (t_X6_laysFrom_b12 hM hp N J N G3 p0 (0 : Int32) h hq)
theorem m_X6_laysFrom (V : jV) (hV : V.1.stackTraces = false) (N : Nat) (G : Nat → Nat → Int32) (J : Nat → Nat → Int64) (p0 : Int32) (p1 : Int32) (v : Int32 × (Nat → Nat → Int32)) (h : p_X6_laysFrom N G J p0 p1 = some v) : jMet V yX6_laysFrom (jws yX6_laysFrom cX6_laysFrom 5 (some .boolean)) ⟨5, 0, 0, 126⟩ true 1 [.ref 0, .int p0, .int p1] (hMo G J) (fun o ν => o = some (.int v.1) ∧ ν = (hMo v.2 J)) (fun _ _ => False) := by
  refine jmk (tb := tbX6) (C := kX6_laysFrom) hV rfl (by decide) tbX6_ok rfl kX6_laysFrom_ok rfl ?_
  intro X hM _ hp _
  exact t_X6_laysFrom hM hp N G J p0 p1 h ⟨rfl, rfl⟩
def p_X6_laysEnd (N : Nat) (G : Nat → Nat → Int32) (J : Nat → Nat → Int64) (p0 : Int32) : Option (Int32 × (Nat → Nat → Int32)) :=
  (p_X6_laysFrom N G J p0 (0 : Int32)).bind (fun v2 => jlt v2.2 fun G3 => if jz v2.1 = true then some (v2.1, G3) else none)
set_option maxHeartbeats 4000000 in
set_option maxRecDepth 100000 in
theorem t_X6_laysEnd {X : jX} {po : Option Value → jH → Prop} {px : String → jH → Prop} {sf : Bool} {B9 : Nat} (hM : jMX X kX6_laysEnd RX6 tbX6 2 ⟨6, 0, 0, 150⟩ (some .boolean) 16) (hp : jPost X sf B9 po px) (N : Nat) (G : Nat → Nat → Int32) (J : Nat → Nat → Int64) (p0 : Int32) {res : Int32 × (Nat → Nat → Int32)} (h : p_X6_laysEnd N G J p0 = some res) (hq : po (some (.int res.1)) (hMo res.2 J)) : JW X 0 0 0 [some (.ref 0), some (.int p0)] [] (hMo G J) := by
  unfold p_X6_laysEnd at h
  refine JW.r hM 0 3 (pc2 := 3) (L2 := [some (.ref 0), some (.int p0)]) (st2 := [.int (0 : Int32), .int p0, .ref 0]) (μ2 := (hMo G J)) rfl trivial ?_
  obtain ⟨v2, hv1, h⟩ := jbd h
  refine JW.cV (v := some (.int v2.1)) hM (m_X6_laysFrom (jVX X) hM.1.2.2.2.2.2.2.2.2.2.1 N G J p0 (0 : Int32) v2 hv1) (sb_Mo_Mo_0 G J) (bk_Mo_Mo_0 G J v2.2 J) rfl rfl rfl kc_X6_310 rfl rfl rfl rfl rfl (jat hM.2.1 3 rfl) (st := []) rfl ?_
  show JW X 0 0 6 [some (.ref 0), some (.int p0)] [.int v2.1] (hMo v2.2 J)
  obtain ⟨G3, e4, h⟩ := jlE h
  rw [e4]
  obtain ⟨g5, h⟩ := jg h
  obtain rfl := Option.some.inj h
  exact js_zret hM.1 hp hM.2.2.2.2.2.2.2.1 g5 (by rw [hM.2.2.2.2.2.1]; exact Nat.le_of_ble_eq_true rfl) (by rw [hM.2.2.2.2.2.2.1]; exact Nat.le_of_ble_eq_true rfl) (jat hM.2.1 4 rfl) hq
theorem m_X6_laysEnd (V : jV) (hV : V.1.stackTraces = false) (N : Nat) (G : Nat → Nat → Int32) (J : Nat → Nat → Int64) (p0 : Int32) (v : Int32 × (Nat → Nat → Int32)) (h : p_X6_laysEnd N G J p0 = some v) : jMet V yX6_laysEnd (jws yX6_laysEnd cX6_laysEnd 2 (some .boolean)) ⟨6, 0, 0, 150⟩ true 1 [.ref 0, .int p0] (hMo G J) (fun o ν => o = some (.int v.1) ∧ ν = (hMo v.2 J)) (fun _ _ => False) := by
  refine jmk (tb := tbX6) (C := kX6_laysEnd) hV rfl (by decide) tbX6_ok rfl kX6_laysEnd_ok rfl ?_
  intro X hM _ hp _
  exact t_X6_laysEnd hM hp N G J p0 h ⟨rfl, rfl⟩
def p_X6_full (N : Nat) (G : Nat → Nat → Int32) (J : Nat → Nat → Int64) : Option (Int32) :=
  some (((1 : Int32) <<< ((G 0 23) &&& 31)) - (1 : Int32))
set_option maxHeartbeats 4000000 in
set_option maxRecDepth 100000 in
theorem t_X6_full {X : jX} {po : Option Value → jH → Prop} {px : String → jH → Prop} {sf : Bool} {B9 : Nat} (hM : jMX X kX6_full RX6 tbX6 1 ⟨0, 0, 0, 0⟩ (some .int) 16) (hp : jPost X sf B9 po px) (N : Nat) (G : Nat → Nat → Int32) (J : Nat → Nat → Int64) {res : Int32} (h : p_X6_full N G J = some res) (hq : po (some (.int res)) (hMo G J)) : JW X 0 0 0 [some (.ref 0)] [] (hMo G J) := by
  unfold p_X6_full at h
  refine JW.r hM 0 6 (pc2 := 8) (L2 := [some (.ref 0)]) (st2 := [.int (((1 : Int32) <<< ((G 0 23) &&& 31)) - (1 : Int32))]) (μ2 := (hMo G J)) rfl trivial ?_
  obtain rfl := Option.some.inj h
  exact js_iret hM.1 hp hM.2.2.2.2.2.2.2.1 (by rw [hM.2.2.2.2.2.1]; exact Nat.le_of_ble_eq_true rfl) (by rw [hM.2.2.2.2.2.2.1]; exact Nat.le_of_ble_eq_true rfl) (jat hM.2.1 6 rfl) hq
theorem m_X6_full (V : jV) (hV : V.1.stackTraces = false) (N : Nat) (G : Nat → Nat → Int32) (J : Nat → Nat → Int64) (v : Int32) (h : p_X6_full N G J = some v) : jMet V yX6_full (jws yX6_full cX6_full 1 (some .int)) ⟨0, 0, 0, 0⟩ true 1 [.ref 0] (hMo G J) (fun o ν => o = some (.int v) ∧ ν = (hMo G J)) (fun _ _ => False) := by
  refine jmk (tb := tbX6) (C := kX6_full) hV rfl (by decide) tbX6_ok rfl kX6_full_ok rfl ?_
  intro X hM _ hp _
  exact t_X6_full hM hp N G J h ⟨rfl, rfl⟩
def p_X6_setBehind_b44 (N : Nat) (G : Nat → Nat → Int32) (J : Nat → Nat → Int64) (rv7 : Int32 → Int32 → Int32 → Option (Int32)) (x1 : Int32) (x2 : Int32) (x3 : Int32) : Option (Int32) :=
  rv7 x1 x2 (x3 + 1)
def p_X6_setBehind_b7 (N : Nat) (G : Nat → Nat → Int32) (J : Nat → Nat → Int64) : Nat → (Int32) → (Int32) → (Int32) → Option (Int32)
  | 0, _, _, _ => none
  | n + 1, x1, x2, x3 => if x1 ≤ x3 then (some x2) else (if jin ((x3 * (1024 : Int32)) + x2) 12288 = true then if (G 10 ((x3 * (1024 : Int32)) + x2).toNatClampNeg) = (-1 : Int32) then (p_X6_setBehind_b44 N G J (p_X6_setBehind_b7 N G J n) x1 x2 x3) else ((p_X6_fallIn N G J x2 (G 10 ((x3 * (1024 : Int32)) + x2).toNatClampNeg)).bind (fun v5 => p_X6_setBehind_b44 N G J (p_X6_setBehind_b7 N G J n) x1 (x2 &&& (v5 ^^^ (-1 : Int32))) x3)) else none)
def p_X6_setBehind (N : Nat) (G : Nat → Nat → Int32) (J : Nat → Nat → Int64) (p0 : Int32) : Option (Int32) :=
  (p_X6_full N G J).bind (fun v2 => p_X6_setBehind_b7 N G J N p0 v2 (0 : Int32))
set_option maxHeartbeats 4000000 in
set_option maxRecDepth 100000 in
theorem t_X6_setBehind_b44 {X : jX} {po : Option Value → jH → Prop} {px : String → jH → Prop} {sf : Bool} {B9 : Nat} (hM : jMX X kX6_setBehind RX6 tbX6 5 ⟨2, 0, 0, 46⟩ (some .int) 16) (hp : jPost X sf B9 po px) (N : Nat) (G : Nat → Nat → Int32) (J : Nat → Nat → Int64) (rv7 : Int32 → Int32 → Int32 → Option (Int32)) {res : Int32} (ih7 : ∀ (x1 : Int32) (x2 : Int32) (x3 : Int32), rv7 x1 x2 x3 = some res → JW X 0 0 7 [some (.ref 0), some (.int x1), some (.int x2), some (.int x3), none] [] (hMo G J)) (x1 : Int32) (x2 : Int32) (x3 : Int32) (h : p_X6_setBehind_b44 N G J rv7 x1 x2 x3 = some res) (hq : po (some (.int res)) (hMo G J)) : JW X 0 0 44 [some (.ref 0), some (.int x1), some (.int x2), some (.int x3), none] [] (hMo G J) := by
  unfold p_X6_setBehind_b44 at h
  refine JW.r hM 29 2 (pc2 := 7) (L2 := [some (.ref 0), some (.int x1), some (.int x2), some (.int (x3 + 1)), none]) (st2 := []) (μ2 := (hMo G J)) rfl trivial ?_
  exact ih7 x1 x2 (x3 + 1) h
set_option maxHeartbeats 4000000 in
set_option maxRecDepth 100000 in
theorem t_X6_setBehind_b7 {X : jX} {po : Option Value → jH → Prop} {px : String → jH → Prop} {sf : Bool} {B9 : Nat} (hM : jMX X kX6_setBehind RX6 tbX6 5 ⟨2, 0, 0, 46⟩ (some .int) 16) (hp : jPost X sf B9 po px) (N : Nat) (G : Nat → Nat → Int32) (J : Nat → Nat → Int64) {res : Int32} : ∀ (n : Nat) (x1 : Int32) (x2 : Int32) (x3 : Int32) (h : p_X6_setBehind_b7 N G J n x1 x2 x3 = some res) (hq : po (some (.int res)) (hMo G J)), JW X 0 0 7 [some (.ref 0), some (.int x1), some (.int x2), some (.int x3), none] [] (hMo G J) := by
  intro n
  induction n with
  | zero =>
    intro x1 x2 x3 h hq
    cases (show (none : Option (Int32)) = some res from h)
  | succ n ih7 =>
    intro x1 x2 x3 h hq
    have ih7 := fun x1 x2 x3 h9 => ih7 x1 x2 x3 h9 hq
    rw [p_X6_setBehind_b7] at h
    refine JW.r hM 5 2 (pc2 := 9) (L2 := [some (.ref 0), some (.int x1), some (.int x2), some (.int x3), none]) (st2 := [.int x1, .int x3]) (μ2 := (hMo G J)) rfl trivial ?_
    refine js_icge (t := 50) hM.1 (jat hM.2.1 7 rfl) rfl (fun hc7 => ?_) (fun hc7 => ?_)
    · have h := (if_pos hc7).symm.trans h
      refine JW.r hM 31 1 (pc2 := 51) (L2 := [some (.ref 0), some (.int x1), some (.int x2), some (.int x3), none]) (st2 := [.int x2]) (μ2 := (hMo G J)) rfl trivial ?_
      obtain rfl := Option.some.inj h
      exact js_iret hM.1 hp hM.2.2.2.2.2.2.2.1 (by rw [hM.2.2.2.2.2.1]; exact Nat.le_of_ble_eq_true rfl) (by rw [hM.2.2.2.2.2.2.1]; exact Nat.le_of_ble_eq_true rfl) (jat hM.2.1 32 rfl) hq
    · have h := (if_neg hc7).symm.trans h
      obtain ⟨g3, h⟩ := jg h
      refine JW.r hM 8 11 (pc2 := 29) (L2 := [some (.ref 0), some (.int x1), some (.int x2), some (.int x3), some (.int (G 10 ((x3 * (1024 : Int32)) + x2).toNatClampNeg))]) (st2 := [.int (-1 : Int32), .int (G 10 ((x3 * (1024 : Int32)) + x2).toNatClampNeg)]) (μ2 := (hMo G J)) rfl ⟨g3, trivial⟩ ?_
      refine js_iceq (t := 44) hM.1 (jat hM.2.1 19 rfl) rfl (fun hc6 => ?_) (fun hc6 => ?_)
      · have h := (if_pos hc6).symm.trans h
        exact JW.mask [true, true, true, true, false] (t_X6_setBehind_b44 hM hp N G J (p_X6_setBehind_b7 N G J n) ih7 x1 x2 x3 h hq)
      · have h := (if_neg hc6).symm.trans h
        refine JW.r hM 20 4 (pc2 := 37) (L2 := [some (.ref 0), some (.int x1), some (.int x2), some (.int x3), some (.int (G 10 ((x3 * (1024 : Int32)) + x2).toNatClampNeg))]) (st2 := [.int (G 10 ((x3 * (1024 : Int32)) + x2).toNatClampNeg), .int x2, .ref 0, .int x2]) (μ2 := (hMo G J)) rfl trivial ?_
        obtain ⟨v5, hv4, h⟩ := jbd h
        refine JW.cV (v := some (.int v5)) hM (m_X6_fallIn (jVX X) hM.1.2.2.2.2.2.2.2.2.2.1 N G J x2 (G 10 ((x3 * (1024 : Int32)) + x2).toNatClampNeg) v5 hv4) (sb_Mo_Mo_0 G J) (bi_Mo_Mo_0 G J) rfl rfl rfl kc_X6_307 rfl rfl rfl rfl rfl (jat hM.2.1 24 rfl) (st := [.int x2]) rfl ?_
        show JW X 0 0 40 [some (.ref 0), some (.int x1), some (.int x2), some (.int x3), some (.int (G 10 ((x3 * (1024 : Int32)) + x2).toNatClampNeg))] [.int v5, .int x2] (hMo G J)
        refine JW.r hM 25 4 (pc2 := 44) (L2 := [some (.ref 0), some (.int x1), some (.int (x2 &&& (v5 ^^^ (-1 : Int32)))), some (.int x3), some (.int (G 10 ((x3 * (1024 : Int32)) + x2).toNatClampNeg))]) (st2 := []) (μ2 := (hMo G J)) rfl trivial ?_
        exact JW.mask [true, true, true, true, false] (t_X6_setBehind_b44 hM hp N G J (p_X6_setBehind_b7 N G J n) ih7 x1 (x2 &&& (v5 ^^^ (-1 : Int32))) x3 h hq)
set_option maxHeartbeats 4000000 in
set_option maxRecDepth 100000 in
theorem t_X6_setBehind {X : jX} {po : Option Value → jH → Prop} {px : String → jH → Prop} {sf : Bool} {B9 : Nat} (hM : jMX X kX6_setBehind RX6 tbX6 5 ⟨2, 0, 0, 46⟩ (some .int) 16) (hp : jPost X sf B9 po px) (N : Nat) (G : Nat → Nat → Int32) (J : Nat → Nat → Int64) (p0 : Int32) {res : Int32} (h : p_X6_setBehind N G J p0 = some res) (hq : po (some (.int res)) (hMo G J)) : JW X 0 0 0 [some (.ref 0), some (.int p0), none, none, none] [] (hMo G J) := by
  unfold p_X6_setBehind at h
  refine JW.r hM 0 1 (pc2 := 1) (L2 := [some (.ref 0), some (.int p0), none, none, none]) (st2 := [.ref 0]) (μ2 := (hMo G J)) rfl trivial ?_
  obtain ⟨v2, hv1, h⟩ := jbd h
  refine JW.cV (v := some (.int v2)) hM (m_X6_full (jVX X) hM.1.2.2.2.2.2.2.2.2.2.1 N G J v2 hv1) (sb_Mo_Mo_0 G J) (bi_Mo_Mo_0 G J) rfl rfl rfl kc_X6_330 rfl rfl rfl rfl rfl (jat hM.2.1 1 rfl) (st := []) rfl ?_
  show JW X 0 0 4 [some (.ref 0), some (.int p0), none, none, none] [.int v2] (hMo G J)
  refine JW.r hM 2 3 (pc2 := 7) (L2 := [some (.ref 0), some (.int p0), some (.int v2), some (.int (0 : Int32)), none]) (st2 := []) (μ2 := (hMo G J)) rfl trivial ?_
  exact t_X6_setBehind_b7 hM hp N G J N p0 v2 (0 : Int32) h hq
theorem m_X6_setBehind (V : jV) (hV : V.1.stackTraces = false) (N : Nat) (G : Nat → Nat → Int32) (J : Nat → Nat → Int64) (p0 : Int32) (v : Int32) (h : p_X6_setBehind N G J p0 = some v) : jMet V yX6_setBehind (jws yX6_setBehind cX6_setBehind 5 (some .int)) ⟨2, 0, 0, 46⟩ true 1 [.ref 0, .int p0] (hMo G J) (fun o ν => o = some (.int v) ∧ ν = (hMo G J)) (fun _ _ => False) := by
  refine jmk (tb := tbX6) (C := kX6_setBehind) hV rfl (by decide) tbX6_ok rfl kX6_setBehind_ok rfl ?_
  intro X hM _ hp _
  exact t_X6_setBehind hM hp N G J p0 h ⟨rfl, rfl⟩
def p_X6_standIn_b75 (N : Nat) (G : Nat → Nat → Int32) (J : Nat → Nat → Int64) (rv43 : Int32 → Int32 → Int32 → Option (Int32)) (x2 : Int32) (x3 : Int32) (s0 : Int32) (s1 : Int32) : Option (Int32) :=
  rv43 (s1 &&& s0) x2 (x3 + 1)
def p_X6_standIn_b43 (N : Nat) (G : Nat → Nat → Int32) (J : Nat → Nat → Int64) : Nat → (Int32) → (Int32) → (Int32) → Option (Int32)
  | 0, _, _, _ => none
  | n + 1, x1, x2, x3 => if (G 0 23) ≤ x3 then (some x1) else (if ((x2 >>> (x3 &&& 31)) &&& (1 : Int32)) = (1 : Int32) then (p_X6_standIn_b75 N G J (p_X6_standIn_b43 N G J n) x2 x3 (-1 : Int32) x1) else (if jin x3 10 = true then p_X6_standIn_b75 N G J (p_X6_standIn_b43 N G J n) x2 x3 (((1 : Int32) <<< ((G 8 x3.toNatClampNeg) &&& 31)) ^^^ (-1 : Int32)) x1 else none))
def p_X6_standIn_b4 (N : Nat) (G : Nat → Nat → Int32) (J : Nat → Nat → Int64) : Nat → (Int32) → (Int32) → Option (Int32)
  | 0, _, _ => none
  | n + 1, x1, x2 => if (G 1 7) ≤ x2 then ((p_X6_setBehind N G J (G 0 24)).bind (fun v2 => p_X6_standIn_b43 N G J N x1 v2 (0 : Int32))) else ((p_X6_of N G J x2 (4 : Int32)).bind (fun v7 => (p_X6_standIn_b4 N G J n) (x1 ||| (v7 <<< (x2 &&& 31))) (x2 + 1)))
def p_X6_standIn (N : Nat) (G : Nat → Nat → Int32) (J : Nat → Nat → Int64) : Option (Int32) :=
  p_X6_standIn_b4 N G J N (0 : Int32) (0 : Int32)
set_option maxHeartbeats 4000000 in
set_option maxRecDepth 100000 in
theorem t_X6_standIn_b75 {X : jX} {po : Option Value → jH → Prop} {px : String → jH → Prop} {sf : Bool} {B9 : Nat} (hM : jMX X kX6_standIn RX6 tbX6 4 ⟨3, 0, 0, 70⟩ (some .int) 16) (hp : jPost X sf B9 po px) (N : Nat) (G : Nat → Nat → Int32) (J : Nat → Nat → Int64) (rv43 : Int32 → Int32 → Int32 → Option (Int32)) {res : Int32} (ih43 : ∀ (x1 : Int32) (x2 : Int32) (x3 : Int32), rv43 x1 x2 x3 = some res → JW X 0 0 43 [some (.ref 0), some (.int x1), some (.int x2), some (.int x3)] [] (hMo G J)) (x2 : Int32) (x3 : Int32) (s0 : Int32) (s1 : Int32) (h : p_X6_standIn_b75 N G J rv43 x2 x3 s0 s1 = some res) (hq : po (some (.int res)) (hMo G J)) : JW X 0 0 75 [some (.ref 0), none, some (.int x2), some (.int x3)] [.int s0, .int s1] (hMo G J) := by
  unfold p_X6_standIn_b75 at h
  refine JW.r hM 50 4 (pc2 := 43) (L2 := [some (.ref 0), some (.int (s1 &&& s0)), some (.int x2), some (.int (x3 + 1))]) (st2 := []) (μ2 := (hMo G J)) rfl trivial ?_
  exact ih43 (s1 &&& s0) x2 (x3 + 1) h
set_option maxHeartbeats 4000000 in
set_option maxRecDepth 100000 in
theorem t_X6_standIn_b43 {X : jX} {po : Option Value → jH → Prop} {px : String → jH → Prop} {sf : Bool} {B9 : Nat} (hM : jMX X kX6_standIn RX6 tbX6 4 ⟨3, 0, 0, 70⟩ (some .int) 16) (hp : jPost X sf B9 po px) (N : Nat) (G : Nat → Nat → Int32) (J : Nat → Nat → Int64) {res : Int32} : ∀ (n : Nat) (x1 : Int32) (x2 : Int32) (x3 : Int32) (h : p_X6_standIn_b43 N G J n x1 x2 x3 = some res) (hq : po (some (.int res)) (hMo G J)), JW X 0 0 43 [some (.ref 0), some (.int x1), some (.int x2), some (.int x3)] [] (hMo G J) := by
  intro n
  induction n with
  | zero =>
    intro x1 x2 x3 h hq
    cases (show (none : Option (Int32)) = some res from h)
  | succ n ih43 =>
    intro x1 x2 x3 h hq
    have ih43 := fun x1 x2 x3 h9 => ih43 x1 x2 x3 h9 hq
    rw [p_X6_standIn_b43] at h
    refine JW.r hM 28 3 (pc2 := 48) (L2 := [some (.ref 0), some (.int x1), some (.int x2), some (.int x3)]) (st2 := [.int (G 0 23), .int x3]) (μ2 := (hMo G J)) rfl trivial ?_
    refine js_icge (t := 83) hM.1 (jat hM.2.1 31 rfl) rfl (fun hc5 => ?_) (fun hc5 => ?_)
    · have h := (if_pos hc5).symm.trans h
      refine JW.r hM 54 1 (pc2 := 84) (L2 := [some (.ref 0), some (.int x1), some (.int x2), some (.int x3)]) (st2 := [.int x1]) (μ2 := (hMo G J)) rfl trivial ?_
      obtain rfl := Option.some.inj h
      exact js_iret hM.1 hp hM.2.2.2.2.2.2.2.1 (by rw [hM.2.2.2.2.2.1]; exact Nat.le_of_ble_eq_true rfl) (by rw [hM.2.2.2.2.2.2.1]; exact Nat.le_of_ble_eq_true rfl) (jat hM.2.1 55 rfl) hq
    · have h := (if_neg hc5).symm.trans h
      refine JW.r hM 32 7 (pc2 := 58) (L2 := [some (.ref 0), some (.int x1), some (.int x2), some (.int x3)]) (st2 := [.int (1 : Int32), .int ((x2 >>> (x3 &&& 31)) &&& (1 : Int32)), .int x1]) (μ2 := (hMo G J)) rfl trivial ?_
      refine js_icne (t := 65) hM.1 (jat hM.2.1 39 rfl) rfl (fun hc4 => ?_) (fun hc4 => ?_)
      · have h := (if_neg hc4).symm.trans h
        obtain ⟨g3, h⟩ := jg h
        refine JW.r hM 42 8 (pc2 := 75) (L2 := [some (.ref 0), some (.int x1), some (.int x2), some (.int x3)]) (st2 := [.int (((1 : Int32) <<< ((G 8 x3.toNatClampNeg) &&& 31)) ^^^ (-1 : Int32)), .int x1]) (μ2 := (hMo G J)) rfl ⟨g3, trivial⟩ ?_
        exact JW.mask [true, false, true, true] (t_X6_standIn_b75 hM hp N G J (p_X6_standIn_b43 N G J n) ih43 x2 x3 (((1 : Int32) <<< ((G 8 x3.toNatClampNeg) &&& 31)) ^^^ (-1 : Int32)) x1 h hq)
      · have h := (if_pos hc4).symm.trans h
        refine JW.r hM 40 2 (pc2 := 75) (L2 := [some (.ref 0), some (.int x1), some (.int x2), some (.int x3)]) (st2 := [.int (-1 : Int32), .int x1]) (μ2 := (hMo G J)) rfl trivial ?_
        exact JW.mask [true, false, true, true] (t_X6_standIn_b75 hM hp N G J (p_X6_standIn_b43 N G J n) ih43 x2 x3 (-1 : Int32) x1 h hq)
set_option maxHeartbeats 4000000 in
set_option maxRecDepth 100000 in
theorem t_X6_standIn_b4 {X : jX} {po : Option Value → jH → Prop} {px : String → jH → Prop} {sf : Bool} {B9 : Nat} (hM : jMX X kX6_standIn RX6 tbX6 4 ⟨3, 0, 0, 70⟩ (some .int) 16) (hp : jPost X sf B9 po px) (N : Nat) (G : Nat → Nat → Int32) (J : Nat → Nat → Int64) {res : Int32} : ∀ (n : Nat) (x1 : Int32) (x2 : Int32) (h : p_X6_standIn_b4 N G J n x1 x2 = some res) (hq : po (some (.int res)) (hMo G J)), JW X 0 0 4 [some (.ref 0), some (.int x1), some (.int x2), none] [] (hMo G J) := by
  intro n
  induction n with
  | zero =>
    intro x1 x2 h hq
    cases (show (none : Option (Int32)) = some res from h)
  | succ n ih4 =>
    intro x1 x2 h hq
    have ih4 := fun x1 x2 h9 => ih4 x1 x2 h9 hq
    rw [p_X6_standIn_b4] at h
    refine JW.r hM 4 5 (pc2 := 12) (L2 := [some (.ref 0), some (.int x1), some (.int x2), none]) (st2 := [.int (G 1 7), .int x2]) (μ2 := (hMo G J)) rfl ⟨rfl, trivial⟩ ?_
    refine js_icge (t := 32) hM.1 (jat hM.2.1 9 rfl) rfl (fun hc8 => ?_) (fun hc8 => ?_)
    · have h := (if_pos hc8).symm.trans h
      refine JW.r hM 21 3 (pc2 := 37) (L2 := [some (.ref 0), some (.int x1), some (.int x2), none]) (st2 := [.int (G 0 24), .ref 0]) (μ2 := (hMo G J)) rfl trivial ?_
      obtain ⟨v2, hv1, h⟩ := jbd h
      refine JW.cV (v := some (.int v2)) hM (m_X6_setBehind (jVX X) hM.1.2.2.2.2.2.2.2.2.2.1 N G J (G 0 24) v2 hv1) (sb_Mo_Mo_0 G J) (bi_Mo_Mo_0 G J) rfl rfl rfl kc_X6_333 rfl rfl rfl rfl rfl (jat hM.2.1 24 rfl) (st := []) rfl ?_
      show JW X 0 0 40 [some (.ref 0), some (.int x1), some (.int x2), none] [.int v2] (hMo G J)
      refine JW.r hM 25 3 (pc2 := 43) (L2 := [some (.ref 0), some (.int x1), some (.int v2), some (.int (0 : Int32))]) (st2 := []) (μ2 := (hMo G J)) rfl trivial ?_
      exact t_X6_standIn_b43 hM hp N G J N x1 v2 (0 : Int32) h hq
    · have h := (if_neg hc8).symm.trans h
      refine JW.r hM 10 4 (pc2 := 19) (L2 := [some (.ref 0), some (.int x1), some (.int x2), none]) (st2 := [.int (4 : Int32), .int x2, .ref 0, .int x1]) (μ2 := (hMo G J)) rfl trivial ?_
      obtain ⟨v7, hv6, h⟩ := jbd h
      refine JW.cV (v := some (.int v7)) hM (m_X6_of (jVX X) hM.1.2.2.2.2.2.2.2.2.2.1 N G J x2 (4 : Int32) v7 hv6) (sb_Mo_Mo_0 G J) (bi_Mo_Mo_0 G J) rfl rfl rfl kc_X6_208 rfl rfl rfl rfl rfl (jat hM.2.1 14 rfl) (st := [.int x1]) rfl ?_
      show JW X 0 0 22 [some (.ref 0), some (.int x1), some (.int x2), none] [.int v7, .int x1] (hMo G J)
      refine JW.r hM 15 6 (pc2 := 4) (L2 := [some (.ref 0), some (.int (x1 ||| (v7 <<< (x2 &&& 31)))), some (.int (x2 + 1)), none]) (st2 := []) (μ2 := (hMo G J)) rfl trivial ?_
      exact ih4 (x1 ||| (v7 <<< (x2 &&& 31))) (x2 + 1) h
set_option maxHeartbeats 4000000 in
set_option maxRecDepth 100000 in
theorem t_X6_standIn {X : jX} {po : Option Value → jH → Prop} {px : String → jH → Prop} {sf : Bool} {B9 : Nat} (hM : jMX X kX6_standIn RX6 tbX6 4 ⟨3, 0, 0, 70⟩ (some .int) 16) (hp : jPost X sf B9 po px) (N : Nat) (G : Nat → Nat → Int32) (J : Nat → Nat → Int64) {res : Int32} (h : p_X6_standIn N G J = some res) (hq : po (some (.int res)) (hMo G J)) : JW X 0 0 0 [some (.ref 0), none, none, none] [] (hMo G J) := by
  unfold p_X6_standIn at h
  refine JW.r hM 0 4 (pc2 := 4) (L2 := [some (.ref 0), some (.int (0 : Int32)), some (.int (0 : Int32)), none]) (st2 := []) (μ2 := (hMo G J)) rfl trivial ?_
  exact t_X6_standIn_b4 hM hp N G J N (0 : Int32) (0 : Int32) h hq
theorem m_X6_standIn (V : jV) (hV : V.1.stackTraces = false) (N : Nat) (G : Nat → Nat → Int32) (J : Nat → Nat → Int64) (v : Int32) (h : p_X6_standIn N G J = some v) : jMet V yX6_standIn (jws yX6_standIn cX6_standIn 4 (some .int)) ⟨3, 0, 0, 70⟩ true 1 [.ref 0] (hMo G J) (fun o ν => o = some (.int v) ∧ ν = (hMo G J)) (fun _ _ => False) := by
  refine jmk (tb := tbX6) (C := kX6_standIn) hV rfl (by decide) tbX6_ok rfl kX6_standIn_ok rfl ?_
  intro X hM _ hp _
  exact t_X6_standIn hM hp N G J h ⟨rfl, rfl⟩
def p_X6_chosen (N : Nat) (G : Nat → Nat → Int32) (J : Nat → Nat → Int64) (p0 : Int32) : Option (Int32) :=
  (p_X6_setBehind N G J p0).bind (fun v2 => if jin ((p0 * (1024 : Int32)) + v2) 12288 = true then if (G 10 ((p0 * (1024 : Int32)) + v2).toNatClampNeg) = (-1 : Int32) then (some (-1 : Int32)) else (if jin (G 10 ((p0 * (1024 : Int32)) + v2).toNatClampNeg) 10 = true then some (G 8 (G 10 ((p0 * (1024 : Int32)) + v2).toNatClampNeg).toNatClampNeg) else none) else none)
set_option maxHeartbeats 4000000 in
set_option maxRecDepth 100000 in
theorem t_X6_chosen {X : jX} {po : Option Value → jH → Prop} {px : String → jH → Prop} {sf : Bool} {B9 : Nat} (hM : jMX X kX6_chosen RX6 tbX6 3 ⟨3, 0, 0, 70⟩ (some .int) 16) (hp : jPost X sf B9 po px) (N : Nat) (G : Nat → Nat → Int32) (J : Nat → Nat → Int64) (p0 : Int32) {res : Int32} (h : p_X6_chosen N G J p0 = some res) (hq : po (some (.int res)) (hMo G J)) : JW X 0 0 0 [some (.ref 0), some (.int p0), none] [] (hMo G J) := by
  unfold p_X6_chosen at h
  refine JW.r hM 0 7 (pc2 := 11) (L2 := [some (.ref 0), some (.int p0), none]) (st2 := [.int p0, .ref 0, .int (p0 * (1024 : Int32)), .ref 10]) (μ2 := (hMo G J)) rfl trivial ?_
  obtain ⟨v2, hv1, h⟩ := jbd h
  refine JW.cV (v := some (.int v2)) hM (m_X6_setBehind (jVX X) hM.1.2.2.2.2.2.2.2.2.2.1 N G J p0 v2 hv1) (sb_Mo_Mo_0 G J) (bi_Mo_Mo_0 G J) rfl rfl rfl kc_X6_333 rfl rfl rfl rfl rfl (jat hM.2.1 7 rfl) (st := [.int (p0 * (1024 : Int32)), .ref 10]) rfl ?_
  show JW X 0 0 14 [some (.ref 0), some (.int p0), none] [.int v2, .int (p0 * (1024 : Int32)), .ref 10] (hMo G J)
  obtain ⟨g3, h⟩ := jg h
  refine JW.r hM 8 5 (pc2 := 19) (L2 := [some (.ref 0), some (.int p0), some (.int (G 10 ((p0 * (1024 : Int32)) + v2).toNatClampNeg))]) (st2 := [.int (-1 : Int32), .int (G 10 ((p0 * (1024 : Int32)) + v2).toNatClampNeg)]) (μ2 := (hMo G J)) rfl ⟨g3, trivial⟩ ?_
  refine js_icne (t := 26) hM.1 (jat hM.2.1 13 rfl) rfl (fun hc5 => ?_) (fun hc5 => ?_)
  · have h := (if_neg hc5).symm.trans h
    obtain ⟨g4, h⟩ := jg h
    refine JW.r hM 16 4 (pc2 := 32) (L2 := [some (.ref 0), some (.int p0), some (.int (G 10 ((p0 * (1024 : Int32)) + v2).toNatClampNeg))]) (st2 := [.int (G 8 (G 10 ((p0 * (1024 : Int32)) + v2).toNatClampNeg).toNatClampNeg)]) (μ2 := (hMo G J)) rfl ⟨g4, trivial⟩ ?_
    obtain rfl := Option.some.inj h
    exact js_iret hM.1 hp hM.2.2.2.2.2.2.2.1 (by rw [hM.2.2.2.2.2.1]; exact Nat.le_of_ble_eq_true rfl) (by rw [hM.2.2.2.2.2.2.1]; exact Nat.le_of_ble_eq_true rfl) (jat hM.2.1 20 rfl) hq
  · have h := (if_pos hc5).symm.trans h
    refine JW.r hM 14 2 (pc2 := 32) (L2 := [some (.ref 0), some (.int p0), some (.int (G 10 ((p0 * (1024 : Int32)) + v2).toNatClampNeg))]) (st2 := [.int (-1 : Int32)]) (μ2 := (hMo G J)) rfl trivial ?_
    obtain rfl := Option.some.inj h
    exact js_iret hM.1 hp hM.2.2.2.2.2.2.2.1 (by rw [hM.2.2.2.2.2.1]; exact Nat.le_of_ble_eq_true rfl) (by rw [hM.2.2.2.2.2.2.1]; exact Nat.le_of_ble_eq_true rfl) (jat hM.2.1 20 rfl) hq
theorem m_X6_chosen (V : jV) (hV : V.1.stackTraces = false) (N : Nat) (G : Nat → Nat → Int32) (J : Nat → Nat → Int64) (p0 : Int32) (v : Int32) (h : p_X6_chosen N G J p0 = some v) : jMet V yX6_chosen (jws yX6_chosen cX6_chosen 3 (some .int)) ⟨3, 0, 0, 70⟩ true 1 [.ref 0, .int p0] (hMo G J) (fun o ν => o = some (.int v) ∧ ν = (hMo G J)) (fun _ _ => False) := by
  refine jmk (tb := tbX6) (C := kX6_chosen) hV rfl (by decide) tbX6_ok rfl kX6_chosen_ok rfl ?_
  intro X hM _ hp _
  exact t_X6_chosen hM hp N G J p0 h ⟨rfl, rfl⟩
def p_X6_wealthIn (N : Nat) (G : Nat → Nat → Int32) (J : Nat → Nat → Int64) (p0 : Int32) : Option (Int32) :=
  (p_X6_wealth N G J p0).bind (fun v2 => (p_X6_full N G J).bind (fun v4 => (p_X6_seat N G J (0 : Int32) v4 p0).bind (fun v6 => if jin v6 79872 = true then some (v2 + (G 9 v6.toNatClampNeg)) else none)))
set_option maxHeartbeats 4000000 in
set_option maxRecDepth 100000 in
theorem t_X6_wealthIn {X : jX} {po : Option Value → jH → Prop} {px : String → jH → Prop} {sf : Bool} {B9 : Nat} (hM : jMX X kX6_wealthIn RX6 tbX6 2 ⟨2, 0, 0, 45⟩ (some .int) 16) (hp : jPost X sf B9 po px) (N : Nat) (G : Nat → Nat → Int32) (J : Nat → Nat → Int64) (p0 : Int32) {res : Int32} (h : p_X6_wealthIn N G J p0 = some res) (hq : po (some (.int res)) (hMo G J)) : JW X 0 0 0 [some (.ref 0), some (.int p0)] [] (hMo G J) := by
  unfold p_X6_wealthIn at h
  refine JW.r hM 0 2 (pc2 := 2) (L2 := [some (.ref 0), some (.int p0)]) (st2 := [.int p0, .ref 0]) (μ2 := (hMo G J)) rfl trivial ?_
  obtain ⟨v2, hv1, h⟩ := jbd h
  refine JW.cV (v := some (.int v2)) hM (m_X6_wealth (jVX X) hM.1.2.2.2.2.2.2.2.2.2.1 N G J p0 v2 hv1) (sb_Mo_Mo_0 G J) (bi_Mo_Mo_0 G J) rfl rfl rfl kc_X6_191 rfl rfl rfl rfl rfl (jat hM.2.1 2 rfl) (st := []) rfl ?_
  show JW X 0 0 5 [some (.ref 0), some (.int p0)] [.int v2] (hMo G J)
  refine JW.r hM 3 5 (pc2 := 12) (L2 := [some (.ref 0), some (.int p0)]) (st2 := [.ref 0, .int (0 : Int32), .ref 0, .ref 9, .int v2]) (μ2 := (hMo G J)) rfl trivial ?_
  obtain ⟨v4, hv3, h⟩ := jbd h
  refine JW.cV (v := some (.int v4)) hM (m_X6_full (jVX X) hM.1.2.2.2.2.2.2.2.2.2.1 N G J v4 hv3) (sb_Mo_Mo_0 G J) (bi_Mo_Mo_0 G J) rfl rfl rfl kc_X6_330 rfl rfl rfl rfl rfl (jat hM.2.1 8 rfl) (st := [.int (0 : Int32), .ref 0, .ref 9, .int v2]) rfl ?_
  show JW X 0 0 15 [some (.ref 0), some (.int p0)] [.int v4, .int (0 : Int32), .ref 0, .ref 9, .int v2] (hMo G J)
  refine JW.r hM 9 1 (pc2 := 16) (L2 := [some (.ref 0), some (.int p0)]) (st2 := [.int p0, .int v4, .int (0 : Int32), .ref 0, .ref 9, .int v2]) (μ2 := (hMo G J)) rfl trivial ?_
  obtain ⟨v6, hv5, h⟩ := jbd h
  refine JW.cV (v := some (.int v6)) hM (m_X6_seat (jVX X) hM.1.2.2.2.2.2.2.2.2.2.1 N G J (0 : Int32) v4 p0 v6 hv5) (sb_Mo_Mo_0 G J) (bi_Mo_Mo_0 G J) rfl rfl rfl kc_X6_319 rfl rfl rfl rfl rfl (jat hM.2.1 10 rfl) (st := [.ref 9, .int v2]) rfl ?_
  show JW X 0 0 19 [some (.ref 0), some (.int p0)] [.int v6, .ref 9, .int v2] (hMo G J)
  obtain ⟨g7, h⟩ := jg h
  refine JW.r hM 11 2 (pc2 := 21) (L2 := [some (.ref 0), some (.int p0)]) (st2 := [.int (v2 + (G 9 v6.toNatClampNeg))]) (μ2 := (hMo G J)) rfl ⟨g7, trivial⟩ ?_
  obtain rfl := Option.some.inj h
  exact js_iret hM.1 hp hM.2.2.2.2.2.2.2.1 (by rw [hM.2.2.2.2.2.1]; exact Nat.le_of_ble_eq_true rfl) (by rw [hM.2.2.2.2.2.2.1]; exact Nat.le_of_ble_eq_true rfl) (jat hM.2.1 13 rfl) hq
theorem m_X6_wealthIn (V : jV) (hV : V.1.stackTraces = false) (N : Nat) (G : Nat → Nat → Int32) (J : Nat → Nat → Int64) (p0 : Int32) (v : Int32) (h : p_X6_wealthIn N G J p0 = some v) : jMet V yX6_wealthIn (jws yX6_wealthIn cX6_wealthIn 2 (some .int)) ⟨2, 0, 0, 45⟩ true 1 [.ref 0, .int p0] (hMo G J) (fun o ν => o = some (.int v) ∧ ν = (hMo G J)) (fun _ _ => False) := by
  refine jmk (tb := tbX6) (C := kX6_wealthIn) hV rfl (by decide) tbX6_ok rfl kX6_wealthIn_ok rfl ?_
  intro X hM _ hp _
  exact t_X6_wealthIn hM hp N G J p0 h ⟨rfl, rfl⟩
def p_X6_end_b170 (N : Nat) (J : Nat → Nat → Int64) (rv144 : (Nat → Nat → Int32) → Int32 → Int32 → Option (Int32 × (Nat → Nat → Int32))) (G : Nat → Nat → Int32) (x5 : Int32) (s0 : Int32) (s1 : Int32) : Option (Int32 × (Nat → Nat → Int32)) :=
  rv144 G (s1 + s0) (x5 + 1)
def p_X6_end_b144 (N : Nat) (J : Nat → Nat → Int64) : Nat → (Nat → Nat → Int32) → (Int32) → (Int32) → Option (Int32 × (Nat → Nat → Int32))
  | 0, _, _, _ => none
  | n + 1, G, x4, x5 => if (G 0 24) ≤ x5 then (some (x4, G)) else ((p_X6_chosen N G J x5).bind (fun v10 => if v10 = (-1 : Int32) then (p_X6_end_b170 N J (p_X6_end_b144 N J n) G x5 (0 : Int32) x4) else (p_X6_end_b170 N J (p_X6_end_b144 N J n) G x5 (1 : Int32) x4)))
def p_X6_end_b76 (N : Nat) (J : Nat → Nat → Int64) (G : Nat → Nat → Int32) (x1 : Int32) (x2 : Int32) (s0 : Int32) : Option (Int32 × (Nat → Nat → Int32)) :=
  if s0 = 0 then ((p_X6_fails N G J (1 : Int32)).bind (fun v24 => jlt v24.2 fun G25 => some (v24.1, G25))) else ((p_X6_laysEnd N G J x1).bind (fun v6 => jlt v6.2 fun G7 => if v6.1 = 0 then (some ((-100000 : Int32), G7)) else (if x2 = 0 then ((p_X6_standIn N G7 J).bind (fun v20 => some (v20, G7))) else (if x2 < (100 : Int32) then (if x2 < (10 : Int32) then (p_X6_end_b144 N J N G7 (0 : Int32) (0 : Int32)) else ((p_X6_wealthIn N G7 J (x2 - (10 : Int32))).bind (fun v14 => some (v14, G7)))) else ((p_X6_chosen N G7 J (x2 - (100 : Int32))).bind (fun v17 => some (v17, G7)))))))
def p_X6_end_b75 (N : Nat) (J : Nat → Nat → Int64) (G : Nat → Nat → Int32) (x1 : Int32) (x2 : Int32) : Option (Int32 × (Nat → Nat → Int32)) :=
  p_X6_end_b76 N J G x1 x2 (0 : Int32)
def p_X6_end_b71 (N : Nat) (J : Nat → Nat → Int64) (G : Nat → Nat → Int32) (x1 : Int32) (x2 : Int32) : Option (Int32 × (Nat → Nat → Int32)) :=
  p_X6_end_b76 N J G x1 x2 (1 : Int32)
def p_X6_end (N : Nat) (G : Nat → Nat → Int32) (J : Nat → Nat → Int64) (p0 : Int32) (p1 : Int32) : Option (Int32 × (Nat → Nat → Int32)) :=
  jlt (jup G 0 5 (0 : Int32)) fun G1 => (p_X6_within N (p0.toInt64) (1 : Int64) (2 : Int64)).bind (fun v4 => if v4 = 0 then (p_X6_end_b75 N J G1 p0 p1) else ((p_X6_within N (p1.toInt64) (0 : Int64) (1 : Int64)).bind (fun v29 => if v29 = 0 then ((p_X6_within N (p1.toInt64) (10 : Int64) (((9 : Int32) + (G1 1 1)).toInt64)).bind (fun v31 => if v31 = 0 then ((p_X6_within N (p1.toInt64) (100 : Int64) (((99 : Int32) + (p0 * (G1 1 1))).toInt64)).bind (fun v33 => if v33 = 0 then (p_X6_end_b75 N J G1 p0 p1) else (p_X6_end_b71 N J G1 p0 p1))) else (p_X6_end_b71 N J G1 p0 p1))) else (p_X6_end_b71 N J G1 p0 p1))))
set_option maxHeartbeats 4000000 in
set_option maxRecDepth 100000 in
theorem t_X6_end_b170 {X : jX} {po : Option Value → jH → Prop} {px : String → jH → Prop} {sf : Bool} {B9 : Nat} (hM : jMX X kX6_end RX6 tbX6 6 ⟨7, 0, 0, 171⟩ (some .int) 16) (hp : jPost X sf B9 po px) (N : Nat) (J : Nat → Nat → Int64) (rv144 : (Nat → Nat → Int32) → Int32 → Int32 → Option (Int32 × (Nat → Nat → Int32))) {res : Int32 × (Nat → Nat → Int32)} (ih144 : ∀ (G : Nat → Nat → Int32) (x4 : Int32) (x5 : Int32), rv144 G x4 x5 = some res → JW X 0 0 144 [some (.ref 0), none, none, none, some (.int x4), some (.int x5)] [] (hMo G J)) (G : Nat → Nat → Int32) (x5 : Int32) (s0 : Int32) (s1 : Int32) (h : p_X6_end_b170 N J rv144 G x5 s0 s1 = some res) (hq : po (some (.int res.1)) (hMo res.2 J)) : JW X 0 0 170 [some (.ref 0), none, none, none, none, some (.int x5)] [.int s0, .int s1] (hMo G J) := by
  unfold p_X6_end_b170 at h
  refine JW.r hM 97 4 (pc2 := 144) (L2 := [some (.ref 0), none, none, none, some (.int (s1 + s0)), some (.int (x5 + 1))]) (st2 := []) (μ2 := (hMo G J)) rfl trivial ?_
  exact ih144 G (s1 + s0) (x5 + 1) h
set_option maxHeartbeats 4000000 in
set_option maxRecDepth 100000 in
theorem t_X6_end_b144 {X : jX} {po : Option Value → jH → Prop} {px : String → jH → Prop} {sf : Bool} {B9 : Nat} (hM : jMX X kX6_end RX6 tbX6 6 ⟨7, 0, 0, 171⟩ (some .int) 16) (hp : jPost X sf B9 po px) (N : Nat) (J : Nat → Nat → Int64) {res : Int32 × (Nat → Nat → Int32)} : ∀ (n : Nat) (G : Nat → Nat → Int32) (x4 : Int32) (x5 : Int32) (h : p_X6_end_b144 N J n G x4 x5 = some res) (hq : po (some (.int res.1)) (hMo res.2 J)), JW X 0 0 144 [some (.ref 0), none, none, none, some (.int x4), some (.int x5)] [] (hMo G J) := by
  intro n
  induction n with
  | zero =>
    intro G x4 x5 h hq
    cases (show (none : Option (Int32 × (Nat → Nat → Int32))) = some res from h)
  | succ n ih144 =>
    intro G x4 x5 h hq
    have ih144 := fun G x4 x5 h9 => ih144 G x4 x5 h9 hq
    rw [p_X6_end_b144] at h
    refine JW.r hM 84 3 (pc2 := 150) (L2 := [some (.ref 0), none, none, none, some (.int x4), some (.int x5)]) (st2 := [.int (G 0 24), .int x5]) (μ2 := (hMo G J)) rfl trivial ?_
    refine js_icge (t := 179) hM.1 (jat hM.2.1 87 rfl) rfl (fun hc12 => ?_) (fun hc12 => ?_)
    · have h := (if_pos hc12).symm.trans h
      refine JW.r hM 101 1 (pc2 := 181) (L2 := [some (.ref 0), none, none, none, some (.int x4), some (.int x5)]) (st2 := [.int x4]) (μ2 := (hMo G J)) rfl trivial ?_
      obtain rfl := Option.some.inj h
      exact js_iret hM.1 hp hM.2.2.2.2.2.2.2.1 (by rw [hM.2.2.2.2.2.1]; exact Nat.le_of_ble_eq_true rfl) (by rw [hM.2.2.2.2.2.2.1]; exact Nat.le_of_ble_eq_true rfl) (jat hM.2.1 102 rfl) hq
    · have h := (if_neg hc12).symm.trans h
      refine JW.r hM 88 3 (pc2 := 158) (L2 := [some (.ref 0), none, none, none, some (.int x4), some (.int x5)]) (st2 := [.int x5, .ref 0, .int x4]) (μ2 := (hMo G J)) rfl trivial ?_
      obtain ⟨v10, hv9, h⟩ := jbd h
      refine JW.cV (v := some (.int v10)) hM (m_X6_chosen (jVX X) hM.1.2.2.2.2.2.2.2.2.2.1 N G J x5 v10 hv9) (sb_Mo_Mo_0 G J) (bi_Mo_Mo_0 G J) rfl rfl rfl kc_X6_347 rfl rfl rfl rfl rfl (jat hM.2.1 91 rfl) (st := [.int x4]) rfl ?_
      show JW X 0 0 161 [some (.ref 0), none, none, none, some (.int x4), some (.int x5)] [.int v10, .int x4] (hMo G J)
      refine JW.r hM 92 1 (pc2 := 162) (L2 := [some (.ref 0), none, none, none, some (.int x4), some (.int x5)]) (st2 := [.int (-1 : Int32), .int v10, .int x4]) (μ2 := (hMo G J)) rfl trivial ?_
      refine js_icne (t := 169) hM.1 (jat hM.2.1 93 rfl) rfl (fun hc11 => ?_) (fun hc11 => ?_)
      · have h := (if_neg hc11).symm.trans h
        refine JW.r hM 96 1 (pc2 := 170) (L2 := [some (.ref 0), none, none, none, some (.int x4), some (.int x5)]) (st2 := [.int (1 : Int32), .int x4]) (μ2 := (hMo G J)) rfl trivial ?_
        exact JW.mask [true, false, false, false, false, true] (t_X6_end_b170 hM hp N J (p_X6_end_b144 N J n) ih144 G x5 (1 : Int32) x4 h hq)
      · have h := (if_pos hc11).symm.trans h
        refine JW.r hM 94 2 (pc2 := 170) (L2 := [some (.ref 0), none, none, none, some (.int x4), some (.int x5)]) (st2 := [.int (0 : Int32), .int x4]) (μ2 := (hMo G J)) rfl trivial ?_
        exact JW.mask [true, false, false, false, false, true] (t_X6_end_b170 hM hp N J (p_X6_end_b144 N J n) ih144 G x5 (0 : Int32) x4 h hq)
set_option maxHeartbeats 4000000 in
set_option maxRecDepth 100000 in
theorem t_X6_end_b76 {X : jX} {po : Option Value → jH → Prop} {px : String → jH → Prop} {sf : Bool} {B9 : Nat} (hM : jMX X kX6_end RX6 tbX6 6 ⟨7, 0, 0, 171⟩ (some .int) 16) (hp : jPost X sf B9 po px) (N : Nat) (J : Nat → Nat → Int64) {res : Int32 × (Nat → Nat → Int32)} (G : Nat → Nat → Int32) (x1 : Int32) (x2 : Int32) (s0 : Int32) (h : p_X6_end_b76 N J G x1 x2 s0 = some res) (hq : po (some (.int res.1)) (hMo res.2 J)) : JW X 0 0 76 [some (.ref 0), some (.int x1), some (.int x2), none, none, none] [.int s0] (hMo G J) := by
  unfold p_X6_end_b76 at h
  refine JW.r hM 44 2 (pc2 := 78) (L2 := [some (.ref 0), some (.int x1), some (.int x2), some (.int s0), none, none]) (st2 := [.int s0]) (μ2 := (hMo G J)) rfl trivial ?_
  refine js_ifne (t := 87) hM.1 (jat hM.2.1 46 rfl) rfl (fun hc27 => ?_) (fun hc27 => ?_)
  · have h := (if_neg hc27).symm.trans h
    refine JW.r hM 51 2 (pc2 := 89) (L2 := [some (.ref 0), some (.int x1), some (.int x2), some (.int s0), none, none]) (st2 := [.int x1, .ref 0]) (μ2 := (hMo G J)) rfl trivial ?_
    obtain ⟨v6, hv5, h⟩ := jbd h
    refine JW.cV (v := some (.int v6.1)) hM (m_X6_laysEnd (jVX X) hM.1.2.2.2.2.2.2.2.2.2.1 N G J x1 v6 hv5) (sb_Mo_Mo_0 G J) (bk_Mo_Mo_0 G J v6.2 J) rfl rfl rfl kc_X6_340 rfl rfl rfl rfl rfl (jat hM.2.1 53 rfl) (st := []) rfl ?_
    show JW X 0 0 92 [some (.ref 0), some (.int x1), some (.int x2), some (.int s0), none, none] [.int v6.1] (hMo v6.2 J)
    obtain ⟨G7, e8, h⟩ := jlE h
    rw [e8]
    refine js_ifne (t := 99) hM.1 (jat hM.2.1 54 rfl) rfl (fun hc22 => ?_) (fun hc22 => ?_)
    · have h := (if_neg hc22).symm.trans h
      refine JW.r hM 57 1 (pc2 := 100) (L2 := [some (.ref 0), some (.int x1), some (.int x2), some (.int s0), none, none]) (st2 := [.int x2]) (μ2 := (hMo G7 J)) rfl trivial ?_
      refine js_ifne (t := 108) hM.1 (jat hM.2.1 58 rfl) rfl (fun hc21 => ?_) (fun hc21 => ?_)
      · have h := (if_neg hc21).symm.trans h
        refine JW.r hM 62 2 (pc2 := 111) (L2 := [some (.ref 0), some (.int x1), some (.int x2), some (.int s0), none, none]) (st2 := [.int (100 : Int32), .int x2]) (μ2 := (hMo G7 J)) rfl trivial ?_
        refine js_iclt (t := 123) hM.1 (jat hM.2.1 64 rfl) rfl (fun hc18 => ?_) (fun hc18 => ?_)
        · have h := (if_pos hc18).symm.trans h
          refine JW.r hM 71 2 (pc2 := 126) (L2 := [some (.ref 0), some (.int x1), some (.int x2), some (.int s0), none, none]) (st2 := [.int (10 : Int32), .int x2]) (μ2 := (hMo G7 J)) rfl trivial ?_
          refine js_iclt (t := 138) hM.1 (jat hM.2.1 73 rfl) rfl (fun hc15 => ?_) (fun hc15 => ?_)
          · have h := (if_pos hc15).symm.trans h
            refine JW.r hM 80 4 (pc2 := 144) (L2 := [some (.ref 0), some (.int x1), some (.int x2), some (.int s0), some (.int (0 : Int32)), some (.int (0 : Int32))]) (st2 := []) (μ2 := (hMo G7 J)) rfl trivial ?_
            exact JW.mask [true, false, false, false, true, true] (t_X6_end_b144 hM hp N J N G7 (0 : Int32) (0 : Int32) h hq)
          · have h := (if_neg hc15).symm.trans h
            refine JW.r hM 74 4 (pc2 := 134) (L2 := [some (.ref 0), some (.int x1), some (.int x2), some (.int s0), none, none]) (st2 := [.int (x2 - (10 : Int32)), .ref 0]) (μ2 := (hMo G7 J)) rfl trivial ?_
            obtain ⟨v14, hv13, h⟩ := jbd h
            refine JW.cV (v := some (.int v14)) hM (m_X6_wealthIn (jVX X) hM.1.2.2.2.2.2.2.2.2.2.1 N G7 J (x2 - (10 : Int32)) v14 hv13) (sb_Mo_Mo_0 G7 J) (bi_Mo_Mo_0 G7 J) rfl rfl rfl kc_X6_350 rfl rfl rfl rfl rfl (jat hM.2.1 78 rfl) (st := []) rfl ?_
            show JW X 0 0 137 [some (.ref 0), some (.int x1), some (.int x2), some (.int s0), none, none] [.int v14] (hMo G7 J)
            obtain rfl := Option.some.inj h
            exact js_iret hM.1 hp hM.2.2.2.2.2.2.2.1 (by rw [hM.2.2.2.2.2.1]; exact Nat.le_of_ble_eq_true rfl) (by rw [hM.2.2.2.2.2.2.1]; exact Nat.le_of_ble_eq_true rfl) (jat hM.2.1 79 rfl) hq
        · have h := (if_neg hc18).symm.trans h
          refine JW.r hM 65 4 (pc2 := 119) (L2 := [some (.ref 0), some (.int x1), some (.int x2), some (.int s0), none, none]) (st2 := [.int (x2 - (100 : Int32)), .ref 0]) (μ2 := (hMo G7 J)) rfl trivial ?_
          obtain ⟨v17, hv16, h⟩ := jbd h
          refine JW.cV (v := some (.int v17)) hM (m_X6_chosen (jVX X) hM.1.2.2.2.2.2.2.2.2.2.1 N G7 J (x2 - (100 : Int32)) v17 hv16) (sb_Mo_Mo_0 G7 J) (bi_Mo_Mo_0 G7 J) rfl rfl rfl kc_X6_347 rfl rfl rfl rfl rfl (jat hM.2.1 69 rfl) (st := []) rfl ?_
          show JW X 0 0 122 [some (.ref 0), some (.int x1), some (.int x2), some (.int s0), none, none] [.int v17] (hMo G7 J)
          obtain rfl := Option.some.inj h
          exact js_iret hM.1 hp hM.2.2.2.2.2.2.2.1 (by rw [hM.2.2.2.2.2.1]; exact Nat.le_of_ble_eq_true rfl) (by rw [hM.2.2.2.2.2.2.1]; exact Nat.le_of_ble_eq_true rfl) (jat hM.2.1 70 rfl) hq
      · have h := (if_pos hc21).symm.trans h
        refine JW.r hM 59 1 (pc2 := 104) (L2 := [some (.ref 0), some (.int x1), some (.int x2), some (.int s0), none, none]) (st2 := [.ref 0]) (μ2 := (hMo G7 J)) rfl trivial ?_
        obtain ⟨v20, hv19, h⟩ := jbd h
        refine JW.cV (v := some (.int v20)) hM (m_X6_standIn (jVX X) hM.1.2.2.2.2.2.2.2.2.2.1 N G7 J v20 hv19) (sb_Mo_Mo_0 G7 J) (bi_Mo_Mo_0 G7 J) rfl rfl rfl kc_X6_344 rfl rfl rfl rfl rfl (jat hM.2.1 60 rfl) (st := []) rfl ?_
        show JW X 0 0 107 [some (.ref 0), some (.int x1), some (.int x2), some (.int s0), none, none] [.int v20] (hMo G7 J)
        obtain rfl := Option.some.inj h
        exact js_iret hM.1 hp hM.2.2.2.2.2.2.2.1 (by rw [hM.2.2.2.2.2.1]; exact Nat.le_of_ble_eq_true rfl) (by rw [hM.2.2.2.2.2.2.1]; exact Nat.le_of_ble_eq_true rfl) (jat hM.2.1 61 rfl) hq
    · have h := (if_pos hc22).symm.trans h
      refine JW.r hM 55 1 (pc2 := 98) (L2 := [some (.ref 0), some (.int x1), some (.int x2), some (.int s0), none, none]) (st2 := [.int (-100000 : Int32)]) (μ2 := (hMo G7 J)) rfl trivial ?_
      obtain rfl := Option.some.inj h
      exact js_iret hM.1 hp hM.2.2.2.2.2.2.2.1 (by rw [hM.2.2.2.2.2.1]; exact Nat.le_of_ble_eq_true rfl) (by rw [hM.2.2.2.2.2.2.1]; exact Nat.le_of_ble_eq_true rfl) (jat hM.2.1 56 rfl) hq
  · have h := (if_pos hc27).symm.trans h
    refine JW.r hM 47 2 (pc2 := 83) (L2 := [some (.ref 0), some (.int x1), some (.int x2), some (.int s0), none, none]) (st2 := [.int (1 : Int32), .ref 0]) (μ2 := (hMo G J)) rfl trivial ?_
    obtain ⟨v24, hv23, h⟩ := jbd h
    refine JW.cV (v := some (.int v24.1)) hM (m_X6_fails (jVX X) hM.1.2.2.2.2.2.2.2.2.2.1 N G J (1 : Int32) v24 hv23) (sb_Mo_Mo_0 G J) (bk_Mo_Mo_0 G J v24.2 J) rfl rfl rfl kc_X6_170 rfl rfl rfl rfl rfl (jat hM.2.1 49 rfl) (st := []) rfl ?_
    show JW X 0 0 86 [some (.ref 0), some (.int x1), some (.int x2), some (.int s0), none, none] [.int v24.1] (hMo v24.2 J)
    obtain ⟨G25, e26, h⟩ := jlE h
    rw [e26]
    obtain rfl := Option.some.inj h
    exact js_iret hM.1 hp hM.2.2.2.2.2.2.2.1 (by rw [hM.2.2.2.2.2.1]; exact Nat.le_of_ble_eq_true rfl) (by rw [hM.2.2.2.2.2.2.1]; exact Nat.le_of_ble_eq_true rfl) (jat hM.2.1 50 rfl) hq
set_option maxHeartbeats 4000000 in
set_option maxRecDepth 100000 in
theorem t_X6_end_b75 {X : jX} {po : Option Value → jH → Prop} {px : String → jH → Prop} {sf : Bool} {B9 : Nat} (hM : jMX X kX6_end RX6 tbX6 6 ⟨7, 0, 0, 171⟩ (some .int) 16) (hp : jPost X sf B9 po px) (N : Nat) (J : Nat → Nat → Int64) {res : Int32 × (Nat → Nat → Int32)} (G : Nat → Nat → Int32) (x1 : Int32) (x2 : Int32) (h : p_X6_end_b75 N J G x1 x2 = some res) (hq : po (some (.int res.1)) (hMo res.2 J)) : JW X 0 0 75 [some (.ref 0), some (.int x1), some (.int x2), none, none, none] [] (hMo G J) := by
  unfold p_X6_end_b75 at h
  refine JW.r hM 43 1 (pc2 := 76) (L2 := [some (.ref 0), some (.int x1), some (.int x2), none, none, none]) (st2 := [.int (0 : Int32)]) (μ2 := (hMo G J)) rfl trivial ?_
  exact t_X6_end_b76 hM hp N J G x1 x2 (0 : Int32) h hq
set_option maxHeartbeats 4000000 in
set_option maxRecDepth 100000 in
theorem t_X6_end_b71 {X : jX} {po : Option Value → jH → Prop} {px : String → jH → Prop} {sf : Bool} {B9 : Nat} (hM : jMX X kX6_end RX6 tbX6 6 ⟨7, 0, 0, 171⟩ (some .int) 16) (hp : jPost X sf B9 po px) (N : Nat) (J : Nat → Nat → Int64) {res : Int32 × (Nat → Nat → Int32)} (G : Nat → Nat → Int32) (x1 : Int32) (x2 : Int32) (h : p_X6_end_b71 N J G x1 x2 = some res) (hq : po (some (.int res.1)) (hMo res.2 J)) : JW X 0 0 71 [some (.ref 0), some (.int x1), some (.int x2), none, none, none] [] (hMo G J) := by
  unfold p_X6_end_b71 at h
  refine JW.r hM 41 2 (pc2 := 76) (L2 := [some (.ref 0), some (.int x1), some (.int x2), none, none, none]) (st2 := [.int (1 : Int32)]) (μ2 := (hMo G J)) rfl trivial ?_
  exact t_X6_end_b76 hM hp N J G x1 x2 (1 : Int32) h hq
set_option maxHeartbeats 4000000 in
set_option maxRecDepth 100000 in
theorem t_X6_end {X : jX} {po : Option Value → jH → Prop} {px : String → jH → Prop} {sf : Bool} {B9 : Nat} (hM : jMX X kX6_end RX6 tbX6 6 ⟨7, 0, 0, 171⟩ (some .int) 16) (hp : jPost X sf B9 po px) (N : Nat) (G : Nat → Nat → Int32) (J : Nat → Nat → Int64) (p0 : Int32) (p1 : Int32) {res : Int32 × (Nat → Nat → Int32)} (h : p_X6_end N G J p0 p1 = some res) (hq : po (some (.int res.1)) (hMo res.2 J)) : JW X 0 0 0 [some (.ref 0), some (.int p0), some (.int p1), none, none, none] [] (hMo G J) := by
  unfold p_X6_end at h
  obtain ⟨G1, e2, h⟩ := jlE h
  refine JW.r hM 0 3 (pc2 := 5) (L2 := [some (.ref 0), some (.int p0), some (.int p1), none, none, none]) (st2 := []) (μ2 := (hMo (jup G 0 5 (0 : Int32)) J)) rfl trivial ?_
  rw [e2]
  refine JW.r hM 3 4 (pc2 := 11) (L2 := [some (.ref 0), some (.int p0), some (.int p1), none, none, none]) (st2 := [.long (2 : Int64), .long (1 : Int64), .long (p0.toInt64)]) (μ2 := (hMo G1 J)) rfl trivial ?_
  obtain ⟨v4, hv3, h⟩ := jbd h
  refine JW.cS (v := some (.int v4)) hM (m_X6_within (jVX X) hM.1.2.2.2.2.2.2.2.2.2.1 N (p0.toInt64) (1 : Int64) (2 : Int64) v4 hv3) (sb_Mo_E_ G1 J) (bi_Mo_E_ G1 J) rfl rfl rfl kc_X6_122 rfl rfl rfl (jat hM.2.1 7 rfl) (st := []) rfl ?_
  show JW X 0 0 14 [some (.ref 0), some (.int p0), some (.int p1), none, none, none] [.int v4] (hMo G1 J)
  refine js_ifeq (t := 75) hM.1 (jat hM.2.1 8 rfl) rfl (fun hc37 => ?_) (fun hc37 => ?_)
  · have h := (if_pos hc37).symm.trans h
    exact t_X6_end_b75 hM hp N J G1 p0 p1 h hq
  · have h := (if_neg hc37).symm.trans h
    refine JW.r hM 9 4 (pc2 := 21) (L2 := [some (.ref 0), some (.int p0), some (.int p1), none, none, none]) (st2 := [.long (1 : Int64), .long (0 : Int64), .long (p1.toInt64)]) (μ2 := (hMo G1 J)) rfl trivial ?_
    obtain ⟨v29, hv28, h⟩ := jbd h
    refine JW.cS (v := some (.int v29)) hM (m_X6_within (jVX X) hM.1.2.2.2.2.2.2.2.2.2.1 N (p1.toInt64) (0 : Int64) (1 : Int64) v29 hv28) (sb_Mo_E_ G1 J) (bi_Mo_E_ G1 J) rfl rfl rfl kc_X6_122 rfl rfl rfl (jat hM.2.1 13 rfl) (st := []) rfl ?_
    show JW X 0 0 24 [some (.ref 0), some (.int p0), some (.int p1), none, none, none] [.int v29] (hMo G1 J)
    refine js_ifne (t := 71) hM.1 (jat hM.2.1 14 rfl) rfl (fun hc36 => ?_) (fun hc36 => ?_)
    · have h := (if_neg hc36).symm.trans h
      exact t_X6_end_b71 hM hp N J G1 p0 p1 h hq
    · have h := (if_pos hc36).symm.trans h
      refine JW.r hM 15 10 (pc2 := 42) (L2 := [some (.ref 0), some (.int p0), some (.int p1), none, none, none]) (st2 := [.long (((9 : Int32) + (G1 1 1)).toInt64), .long (10 : Int64), .long (p1.toInt64)]) (μ2 := (hMo G1 J)) rfl ⟨rfl, trivial⟩ ?_
      obtain ⟨v31, hv30, h⟩ := jbd h
      refine JW.cS (v := some (.int v31)) hM (m_X6_within (jVX X) hM.1.2.2.2.2.2.2.2.2.2.1 N (p1.toInt64) (10 : Int64) (((9 : Int32) + (G1 1 1)).toInt64) v31 hv30) (sb_Mo_E_ G1 J) (bi_Mo_E_ G1 J) rfl rfl rfl kc_X6_122 rfl rfl rfl (jat hM.2.1 25 rfl) (st := []) rfl ?_
      show JW X 0 0 45 [some (.ref 0), some (.int p0), some (.int p1), none, none, none] [.int v31] (hMo G1 J)
      refine js_ifne (t := 71) hM.1 (jat hM.2.1 26 rfl) rfl (fun hc35 => ?_) (fun hc35 => ?_)
      · have h := (if_neg hc35).symm.trans h
        exact t_X6_end_b71 hM hp N J G1 p0 p1 h hq
      · have h := (if_pos hc35).symm.trans h
        refine JW.r hM 27 12 (pc2 := 65) (L2 := [some (.ref 0), some (.int p0), some (.int p1), none, none, none]) (st2 := [.long (((99 : Int32) + (p0 * (G1 1 1))).toInt64), .long (100 : Int64), .long (p1.toInt64)]) (μ2 := (hMo G1 J)) rfl ⟨rfl, trivial⟩ ?_
        obtain ⟨v33, hv32, h⟩ := jbd h
        refine JW.cS (v := some (.int v33)) hM (m_X6_within (jVX X) hM.1.2.2.2.2.2.2.2.2.2.1 N (p1.toInt64) (100 : Int64) (((99 : Int32) + (p0 * (G1 1 1))).toInt64) v33 hv32) (sb_Mo_E_ G1 J) (bi_Mo_E_ G1 J) rfl rfl rfl kc_X6_122 rfl rfl rfl (jat hM.2.1 39 rfl) (st := []) rfl ?_
        show JW X 0 0 68 [some (.ref 0), some (.int p0), some (.int p1), none, none, none] [.int v33] (hMo G1 J)
        refine js_ifeq (t := 75) hM.1 (jat hM.2.1 40 rfl) rfl (fun hc34 => ?_) (fun hc34 => ?_)
        · have h := (if_pos hc34).symm.trans h
          exact t_X6_end_b75 hM hp N J G1 p0 p1 h hq
        · have h := (if_neg hc34).symm.trans h
          exact t_X6_end_b71 hM hp N J G1 p0 p1 h hq
theorem m_X6_end (V : jV) (hV : V.1.stackTraces = false) (N : Nat) (G : Nat → Nat → Int32) (J : Nat → Nat → Int64) (p0 : Int32) (p1 : Int32) (v : Int32 × (Nat → Nat → Int32)) (h : p_X6_end N G J p0 p1 = some v) : jMet V yX6_end (jws yX6_end cX6_end 6 (some .int)) ⟨7, 0, 0, 171⟩ true 1 [.ref 0, .int p0, .int p1] (hMo G J) (fun o ν => o = some (.int v.1) ∧ ν = (hMo v.2 J)) (fun _ _ => False) := by
  refine jmk (tb := tbX6) (C := kX6_end) hV rfl (by decide) tbX6_ok rfl kX6_end_ok rfl ?_
  intro X hM _ hp _
  exact t_X6_end hM hp N G J p0 p1 h ⟨rfl, rfl⟩
def p_X6_ringer (N : Nat) (G : Nat → Nat → Int32) (J : Nat → Nat → Int64) (p0 : Int32) : Option (Int32 × (Nat → Nat → Int32)) :=
  jlt (jup G 0 5 (0 : Int32)) fun G1 => (p_X6_isPerson N G1 J p0).bind (fun v4 => if v4 = 0 then ((p_X6_fails N G1 J (1 : Int32)).bind (fun v15 => jlt v15.2 fun G16 => some (v15.1, G16))) else ((p_X6_laysEnd N G1 J (1 : Int32)).bind (fun v6 => jlt v6.2 fun G7 => if v6.1 = 0 then (some ((-100000 : Int32), G7)) else ((p_X6_wealth N G7 J p0).bind (fun v10 => (p_X6_wealthIn N G7 J p0).bind (fun v12 => some ((v10 - v12), G7)))))))
set_option maxHeartbeats 4000000 in
set_option maxRecDepth 100000 in
theorem t_X6_ringer {X : jX} {po : Option Value → jH → Prop} {px : String → jH → Prop} {sf : Bool} {B9 : Nat} (hM : jMX X kX6_ringer RX6 tbX6 2 ⟨7, 0, 0, 171⟩ (some .int) 16) (hp : jPost X sf B9 po px) (N : Nat) (G : Nat → Nat → Int32) (J : Nat → Nat → Int64) (p0 : Int32) {res : Int32 × (Nat → Nat → Int32)} (h : p_X6_ringer N G J p0 = some res) (hq : po (some (.int res.1)) (hMo res.2 J)) : JW X 0 0 0 [some (.ref 0), some (.int p0)] [] (hMo G J) := by
  unfold p_X6_ringer at h
  obtain ⟨G1, e2, h⟩ := jlE h
  refine JW.r hM 0 3 (pc2 := 5) (L2 := [some (.ref 0), some (.int p0)]) (st2 := []) (μ2 := (hMo (jup G 0 5 (0 : Int32)) J)) rfl trivial ?_
  rw [e2]
  refine JW.r hM 3 2 (pc2 := 7) (L2 := [some (.ref 0), some (.int p0)]) (st2 := [.int p0, .ref 0]) (μ2 := (hMo G1 J)) rfl trivial ?_
  obtain ⟨v4, hv3, h⟩ := jbd h
  refine JW.cV (v := some (.int v4)) hM (m_X6_isPerson (jVX X) hM.1.2.2.2.2.2.2.2.2.2.1 N G1 J p0 v4 hv3) (sb_Mo_Mo_0 G1 J) (bi_Mo_Mo_0 G1 J) rfl rfl rfl kc_X6_186 rfl rfl rfl rfl rfl (jat hM.2.1 5 rfl) (st := []) rfl ?_
  show JW X 0 0 10 [some (.ref 0), some (.int p0)] [.int v4] (hMo G1 J)
  refine js_ifne (t := 19) hM.1 (jat hM.2.1 6 rfl) rfl (fun hc18 => ?_) (fun hc18 => ?_)
  · have h := (if_neg hc18).symm.trans h
    refine JW.r hM 11 2 (pc2 := 21) (L2 := [some (.ref 0), some (.int p0)]) (st2 := [.int (1 : Int32), .ref 0]) (μ2 := (hMo G1 J)) rfl trivial ?_
    obtain ⟨v6, hv5, h⟩ := jbd h
    refine JW.cV (v := some (.int v6.1)) hM (m_X6_laysEnd (jVX X) hM.1.2.2.2.2.2.2.2.2.2.1 N G1 J (1 : Int32) v6 hv5) (sb_Mo_Mo_0 G1 J) (bk_Mo_Mo_0 G1 J v6.2 J) rfl rfl rfl kc_X6_340 rfl rfl rfl rfl rfl (jat hM.2.1 13 rfl) (st := []) rfl ?_
    show JW X 0 0 24 [some (.ref 0), some (.int p0)] [.int v6.1] (hMo v6.2 J)
    obtain ⟨G7, e8, h⟩ := jlE h
    rw [e8]
    refine js_ifeq (t := 41) hM.1 (jat hM.2.1 14 rfl) rfl (fun hc13 => ?_) (fun hc13 => ?_)
    · have h := (if_pos hc13).symm.trans h
      refine JW.r hM 23 1 (pc2 := 44) (L2 := [some (.ref 0), some (.int p0)]) (st2 := [.int (-100000 : Int32)]) (μ2 := (hMo G7 J)) rfl trivial ?_
      obtain rfl := Option.some.inj h
      exact js_iret hM.1 hp hM.2.2.2.2.2.2.2.1 (by rw [hM.2.2.2.2.2.1]; exact Nat.le_of_ble_eq_true rfl) (by rw [hM.2.2.2.2.2.2.1]; exact Nat.le_of_ble_eq_true rfl) (jat hM.2.1 24 rfl) hq
    · have h := (if_neg hc13).symm.trans h
      refine JW.r hM 15 2 (pc2 := 29) (L2 := [some (.ref 0), some (.int p0)]) (st2 := [.int p0, .ref 0]) (μ2 := (hMo G7 J)) rfl trivial ?_
      obtain ⟨v10, hv9, h⟩ := jbd h
      refine JW.cV (v := some (.int v10)) hM (m_X6_wealth (jVX X) hM.1.2.2.2.2.2.2.2.2.2.1 N G7 J p0 v10 hv9) (sb_Mo_Mo_0 G7 J) (bi_Mo_Mo_0 G7 J) rfl rfl rfl kc_X6_191 rfl rfl rfl rfl rfl (jat hM.2.1 17 rfl) (st := []) rfl ?_
      show JW X 0 0 32 [some (.ref 0), some (.int p0)] [.int v10] (hMo G7 J)
      refine JW.r hM 18 2 (pc2 := 34) (L2 := [some (.ref 0), some (.int p0)]) (st2 := [.int p0, .ref 0, .int v10]) (μ2 := (hMo G7 J)) rfl trivial ?_
      obtain ⟨v12, hv11, h⟩ := jbd h
      refine JW.cV (v := some (.int v12)) hM (m_X6_wealthIn (jVX X) hM.1.2.2.2.2.2.2.2.2.2.1 N G7 J p0 v12 hv11) (sb_Mo_Mo_0 G7 J) (bi_Mo_Mo_0 G7 J) rfl rfl rfl kc_X6_350 rfl rfl rfl rfl rfl (jat hM.2.1 20 rfl) (st := [.int v10]) rfl ?_
      show JW X 0 0 37 [some (.ref 0), some (.int p0)] [.int v12, .int v10] (hMo G7 J)
      refine JW.r hM 21 2 (pc2 := 44) (L2 := [some (.ref 0), some (.int p0)]) (st2 := [.int (v10 - v12)]) (μ2 := (hMo G7 J)) rfl trivial ?_
      obtain rfl := Option.some.inj h
      exact js_iret hM.1 hp hM.2.2.2.2.2.2.2.1 (by rw [hM.2.2.2.2.2.1]; exact Nat.le_of_ble_eq_true rfl) (by rw [hM.2.2.2.2.2.2.1]; exact Nat.le_of_ble_eq_true rfl) (jat hM.2.1 24 rfl) hq
  · have h := (if_pos hc18).symm.trans h
    refine JW.r hM 7 2 (pc2 := 15) (L2 := [some (.ref 0), some (.int p0)]) (st2 := [.int (1 : Int32), .ref 0]) (μ2 := (hMo G1 J)) rfl trivial ?_
    obtain ⟨v15, hv14, h⟩ := jbd h
    refine JW.cV (v := some (.int v15.1)) hM (m_X6_fails (jVX X) hM.1.2.2.2.2.2.2.2.2.2.1 N G1 J (1 : Int32) v15 hv14) (sb_Mo_Mo_0 G1 J) (bk_Mo_Mo_0 G1 J v15.2 J) rfl rfl rfl kc_X6_170 rfl rfl rfl rfl rfl (jat hM.2.1 9 rfl) (st := []) rfl ?_
    show JW X 0 0 18 [some (.ref 0), some (.int p0)] [.int v15.1] (hMo v15.2 J)
    obtain ⟨G16, e17, h⟩ := jlE h
    rw [e17]
    obtain rfl := Option.some.inj h
    exact js_iret hM.1 hp hM.2.2.2.2.2.2.2.1 (by rw [hM.2.2.2.2.2.1]; exact Nat.le_of_ble_eq_true rfl) (by rw [hM.2.2.2.2.2.2.1]; exact Nat.le_of_ble_eq_true rfl) (jat hM.2.1 10 rfl) hq
theorem m_X6_ringer (V : jV) (hV : V.1.stackTraces = false) (N : Nat) (G : Nat → Nat → Int32) (J : Nat → Nat → Int64) (p0 : Int32) (v : Int32 × (Nat → Nat → Int32)) (h : p_X6_ringer N G J p0 = some v) : jMet V yX6_ringer (jws yX6_ringer cX6_ringer 2 (some .int)) ⟨7, 0, 0, 171⟩ true 1 [.ref 0, .int p0] (hMo G J) (fun o ν => o = some (.int v.1) ∧ ν = (hMo v.2 J)) (fun _ _ => False) := by
  refine jmk (tb := tbX6) (C := kX6_ringer) hV rfl (by decide) tbX6_ok rfl kX6_ringer_ok rfl ?_
  intro X hM _ hp _
  exact t_X6_ringer hM hp N G J p0 h ⟨rfl, rfl⟩
def p_X6_keeper_b126 (N : Nat) (J : Nat → Nat → Int64) (rv82 : (Nat → Nat → Int32) → Int32 → Int32 → Int32 → Int32 → Option (Int32 × (Nat → Nat → Int32))) (G : Nat → Nat → Int32) (x1 : Int32) (x3 : Int32) (x4 : Int32) (x5 : Int32) : Option (Int32 × (Nat → Nat → Int32)) :=
  rv82 G x1 x3 x4 (x5 + (-1))
def p_X6_keeper_b82 (N : Nat) (J : Nat → Nat → Int64) : Nat → (Nat → Nat → Int32) → (Int32) → (Int32) → (Int32) → (Int32) → Option (Int32 × (Nat → Nat → Int32))
  | 0, _, _, _, _, _ => none
  | n + 1, G, x1, x3, x4, x5 => if x5 < 0 then (some (x4, G)) else (if jin x5 10 = true then (p_X6_of N G J (G 8 x5.toNatClampNeg) (0 : Int32)).bind (fun v16 => if v16 = x1 then (if ((x3 >>> (x5 &&& 31)) &&& (1 : Int32)) = 0 then (if jin x5 10 = true then (p_X6_of N G J (G 8 x5.toNatClampNeg) (1 : Int32)).bind (fun v19 => p_X6_keeper_b126 N J (p_X6_keeper_b82 N J n) G x1 x3 v19 x5) else none) else (p_X6_keeper_b126 N J (p_X6_keeper_b82 N J n) G x1 x3 x4 x5)) else (p_X6_keeper_b126 N J (p_X6_keeper_b82 N J n) G x1 x3 x4 x5)) else none)
def p_X6_keeper_b30 (N : Nat) (J : Nat → Nat → Int64) (G : Nat → Nat → Int32) (x1 : Int32) (x2 : Int32) (s0 : Int32) : Option (Int32 × (Nat → Nat → Int32)) :=
  jlt (jup G 0 5 s0) fun G5 => if (G5 0 5) ≤ 0 then ((p_X6_laysEnd N G5 J x2).bind (fun v8 => jlt v8.2 fun G9 => if v8.1 = 0 then (some ((-100000 : Int32), G9)) else ((p_X6_setBehind N G9 J (G9 0 24)).bind (fun v12 => if jin ((14 : Int32) + x1) 264 = true then p_X6_keeper_b82 N J N G9 x1 v12 (G9 1 ((14 : Int32) + x1).toNatClampNeg) ((G9 0 23) - (1 : Int32)) else none)))) else (some ((0 : Int32), G5))
def p_X6_keeper (N : Nat) (G : Nat → Nat → Int32) (J : Nat → Nat → Int64) (p0 : Int32) (p1 : Int32) : Option (Int32 × (Nat → Nat → Int32)) :=
  (p_X6_isThing N G J p0).bind (fun v2 => if v2 = 0 then (p_X6_keeper_b30 N J G p0 p1 (1 : Int32)) else ((p_X6_within N (p1.toInt64) (1 : Int64) (2 : Int64)).bind (fun v4 => if v4 = 0 then (p_X6_keeper_b30 N J G p0 p1 (2 : Int32)) else (p_X6_keeper_b30 N J G p0 p1 (0 : Int32)))))
set_option maxHeartbeats 4000000 in
set_option maxRecDepth 100000 in
theorem t_X6_keeper_b126 {X : jX} {po : Option Value → jH → Prop} {px : String → jH → Prop} {sf : Bool} {B9 : Nat} (hM : jMX X kX6_keeper RX6 tbX6 6 ⟨7, 0, 0, 171⟩ (some .int) 16) (hp : jPost X sf B9 po px) (N : Nat) (J : Nat → Nat → Int64) (rv82 : (Nat → Nat → Int32) → Int32 → Int32 → Int32 → Int32 → Option (Int32 × (Nat → Nat → Int32))) {res : Int32 × (Nat → Nat → Int32)} (ih82 : ∀ (G : Nat → Nat → Int32) (x1 : Int32) (x3 : Int32) (x4 : Int32) (x5 : Int32), rv82 G x1 x3 x4 x5 = some res → JW X 0 0 82 [some (.ref 0), some (.int x1), none, some (.int x3), some (.int x4), some (.int x5)] [] (hMo G J)) (G : Nat → Nat → Int32) (x1 : Int32) (x3 : Int32) (x4 : Int32) (x5 : Int32) (h : p_X6_keeper_b126 N J rv82 G x1 x3 x4 x5 = some res) (hq : po (some (.int res.1)) (hMo res.2 J)) : JW X 0 0 126 [some (.ref 0), some (.int x1), none, some (.int x3), some (.int x4), some (.int x5)] [] (hMo G J) := by
  unfold p_X6_keeper_b126 at h
  refine JW.r hM 70 2 (pc2 := 82) (L2 := [some (.ref 0), some (.int x1), none, some (.int x3), some (.int x4), some (.int (x5 + (-1)))]) (st2 := []) (μ2 := (hMo G J)) rfl trivial ?_
  exact ih82 G x1 x3 x4 (x5 + (-1)) h
set_option maxHeartbeats 4000000 in
set_option maxRecDepth 100000 in
theorem t_X6_keeper_b82 {X : jX} {po : Option Value → jH → Prop} {px : String → jH → Prop} {sf : Bool} {B9 : Nat} (hM : jMX X kX6_keeper RX6 tbX6 6 ⟨7, 0, 0, 171⟩ (some .int) 16) (hp : jPost X sf B9 po px) (N : Nat) (J : Nat → Nat → Int64) {res : Int32 × (Nat → Nat → Int32)} : ∀ (n : Nat) (G : Nat → Nat → Int32) (x1 : Int32) (x3 : Int32) (x4 : Int32) (x5 : Int32) (h : p_X6_keeper_b82 N J n G x1 x3 x4 x5 = some res) (hq : po (some (.int res.1)) (hMo res.2 J)), JW X 0 0 82 [some (.ref 0), some (.int x1), none, some (.int x3), some (.int x4), some (.int x5)] [] (hMo G J) := by
  intro n
  induction n with
  | zero =>
    intro G x1 x3 x4 x5 h hq
    cases (show (none : Option (Int32 × (Nat → Nat → Int32))) = some res from h)
  | succ n ih82 =>
    intro G x1 x3 x4 x5 h hq
    have ih82 := fun G x1 x3 x4 x5 h9 => ih82 G x1 x3 x4 x5 h9 hq
    rw [p_X6_keeper_b82] at h
    refine JW.r hM 45 1 (pc2 := 84) (L2 := [some (.ref 0), some (.int x1), none, some (.int x3), some (.int x4), some (.int x5)]) (st2 := [.int x5]) (μ2 := (hMo G J)) rfl trivial ?_
    refine js_iflt (t := 132) hM.1 (jat hM.2.1 46 rfl) rfl (fun hc22 => ?_) (fun hc22 => ?_)
    · have h := (if_pos hc22).symm.trans h
      refine JW.r hM 72 1 (pc2 := 134) (L2 := [some (.ref 0), some (.int x1), none, some (.int x3), some (.int x4), some (.int x5)]) (st2 := [.int x4]) (μ2 := (hMo G J)) rfl trivial ?_
      obtain rfl := Option.some.inj h
      exact js_iret hM.1 hp hM.2.2.2.2.2.2.2.1 (by rw [hM.2.2.2.2.2.1]; exact Nat.le_of_ble_eq_true rfl) (by rw [hM.2.2.2.2.2.2.1]; exact Nat.le_of_ble_eq_true rfl) (jat hM.2.1 73 rfl) hq
    · have h := (if_neg hc22).symm.trans h
      obtain ⟨g14, h⟩ := jg h
      refine JW.r hM 47 6 (pc2 := 96) (L2 := [some (.ref 0), some (.int x1), none, some (.int x3), some (.int x4), some (.int x5)]) (st2 := [.int (0 : Int32), .int (G 8 x5.toNatClampNeg), .ref 0]) (μ2 := (hMo G J)) rfl ⟨g14, trivial⟩ ?_
      obtain ⟨v16, hv15, h⟩ := jbd h
      refine JW.cV (v := some (.int v16)) hM (m_X6_of (jVX X) hM.1.2.2.2.2.2.2.2.2.2.1 N G J (G 8 x5.toNatClampNeg) (0 : Int32) v16 hv15) (sb_Mo_Mo_0 G J) (bi_Mo_Mo_0 G J) rfl rfl rfl kc_X6_208 rfl rfl rfl rfl rfl (jat hM.2.1 53 rfl) (st := []) rfl ?_
      show JW X 0 0 99 [some (.ref 0), some (.int x1), none, some (.int x3), some (.int x4), some (.int x5)] [.int v16] (hMo G J)
      refine JW.r hM 54 1 (pc2 := 100) (L2 := [some (.ref 0), some (.int x1), none, some (.int x3), some (.int x4), some (.int x5)]) (st2 := [.int x1, .int v16]) (μ2 := (hMo G J)) rfl trivial ?_
      refine js_icne (t := 126) hM.1 (jat hM.2.1 55 rfl) rfl (fun hc21 => ?_) (fun hc21 => ?_)
      · have h := (if_neg hc21).symm.trans h
        exact t_X6_keeper_b126 hM hp N J (p_X6_keeper_b82 N J n) ih82 G x1 x3 x4 x5 h hq
      · have h := (if_pos hc21).symm.trans h
        refine JW.r hM 56 5 (pc2 := 109) (L2 := [some (.ref 0), some (.int x1), none, some (.int x3), some (.int x4), some (.int x5)]) (st2 := [.int ((x3 >>> (x5 &&& 31)) &&& (1 : Int32))]) (μ2 := (hMo G J)) rfl trivial ?_
        refine js_ifne (t := 126) hM.1 (jat hM.2.1 61 rfl) rfl (fun hc20 => ?_) (fun hc20 => ?_)
        · have h := (if_neg hc20).symm.trans h
          exact t_X6_keeper_b126 hM hp N J (p_X6_keeper_b82 N J n) ih82 G x1 x3 x4 x5 h hq
        · have h := (if_pos hc20).symm.trans h
          obtain ⟨g17, h⟩ := jg h
          refine JW.r hM 62 6 (pc2 := 121) (L2 := [some (.ref 0), some (.int x1), none, some (.int x3), some (.int x4), some (.int x5)]) (st2 := [.int (1 : Int32), .int (G 8 x5.toNatClampNeg), .ref 0]) (μ2 := (hMo G J)) rfl ⟨g17, trivial⟩ ?_
          obtain ⟨v19, hv18, h⟩ := jbd h
          refine JW.cV (v := some (.int v19)) hM (m_X6_of (jVX X) hM.1.2.2.2.2.2.2.2.2.2.1 N G J (G 8 x5.toNatClampNeg) (1 : Int32) v19 hv18) (sb_Mo_Mo_0 G J) (bi_Mo_Mo_0 G J) rfl rfl rfl kc_X6_208 rfl rfl rfl rfl rfl (jat hM.2.1 68 rfl) (st := []) rfl ?_
          show JW X 0 0 124 [some (.ref 0), some (.int x1), none, some (.int x3), some (.int x4), some (.int x5)] [.int v19] (hMo G J)
          refine JW.r hM 69 1 (pc2 := 126) (L2 := [some (.ref 0), some (.int x1), none, some (.int x3), some (.int v19), some (.int x5)]) (st2 := []) (μ2 := (hMo G J)) rfl trivial ?_
          exact t_X6_keeper_b126 hM hp N J (p_X6_keeper_b82 N J n) ih82 G x1 x3 v19 x5 h hq
set_option maxHeartbeats 4000000 in
set_option maxRecDepth 100000 in
theorem t_X6_keeper_b30 {X : jX} {po : Option Value → jH → Prop} {px : String → jH → Prop} {sf : Bool} {B9 : Nat} (hM : jMX X kX6_keeper RX6 tbX6 6 ⟨7, 0, 0, 171⟩ (some .int) 16) (hp : jPost X sf B9 po px) (N : Nat) (J : Nat → Nat → Int64) {res : Int32 × (Nat → Nat → Int32)} (G : Nat → Nat → Int32) (x1 : Int32) (x2 : Int32) (s0 : Int32) (h : p_X6_keeper_b30 N J G x1 x2 s0 = some res) (hq : po (some (.int res.1)) (hMo res.2 J)) : JW X 0 0 30 [some (.ref 0), some (.int x1), some (.int x2), none, none, none] [.int s0, .ref 0] (hMo G J) := by
  unfold p_X6_keeper_b30 at h
  obtain ⟨G5, e6, h⟩ := jlE h
  refine JW.r hM 16 1 (pc2 := 33) (L2 := [some (.ref 0), some (.int x1), some (.int x2), none, none, none]) (st2 := []) (μ2 := (hMo (jup G 0 5 s0) J)) rfl trivial ?_
  rw [e6]
  refine JW.r hM 17 2 (pc2 := 37) (L2 := [some (.ref 0), some (.int x1), some (.int x2), none, none, none]) (st2 := [.int (G5 0 5)]) (μ2 := (hMo G5 J)) rfl trivial ?_
  refine js_ifle (t := 42) hM.1 (jat hM.2.1 19 rfl) rfl (fun hc24 => ?_) (fun hc24 => ?_)
  · have h := (if_pos hc24).symm.trans h
    refine JW.r hM 22 2 (pc2 := 44) (L2 := [some (.ref 0), some (.int x1), some (.int x2), none, none, none]) (st2 := [.int x2, .ref 0]) (μ2 := (hMo G5 J)) rfl trivial ?_
    obtain ⟨v8, hv7, h⟩ := jbd h
    refine JW.cV (v := some (.int v8.1)) hM (m_X6_laysEnd (jVX X) hM.1.2.2.2.2.2.2.2.2.2.1 N G5 J x2 v8 hv7) (sb_Mo_Mo_0 G5 J) (bk_Mo_Mo_0 G5 J v8.2 J) rfl rfl rfl kc_X6_340 rfl rfl rfl rfl rfl (jat hM.2.1 24 rfl) (st := []) rfl ?_
    show JW X 0 0 47 [some (.ref 0), some (.int x1), some (.int x2), none, none, none] [.int v8.1] (hMo v8.2 J)
    obtain ⟨G9, e10, h⟩ := jlE h
    rw [e10]
    refine js_ifne (t := 54) hM.1 (jat hM.2.1 25 rfl) rfl (fun hc23 => ?_) (fun hc23 => ?_)
    · have h := (if_neg hc23).symm.trans h
      refine JW.r hM 28 3 (pc2 := 59) (L2 := [some (.ref 0), some (.int x1), some (.int x2), none, none, none]) (st2 := [.int (G9 0 24), .ref 0]) (μ2 := (hMo G9 J)) rfl trivial ?_
      obtain ⟨v12, hv11, h⟩ := jbd h
      refine JW.cV (v := some (.int v12)) hM (m_X6_setBehind (jVX X) hM.1.2.2.2.2.2.2.2.2.2.1 N G9 J (G9 0 24) v12 hv11) (sb_Mo_Mo_0 G9 J) (bi_Mo_Mo_0 G9 J) rfl rfl rfl kc_X6_333 rfl rfl rfl rfl rfl (jat hM.2.1 31 rfl) (st := []) rfl ?_
      show JW X 0 0 62 [some (.ref 0), some (.int x1), some (.int x2), none, none, none] [.int v12] (hMo G9 J)
      obtain ⟨g13, h⟩ := jg h
      refine JW.r hM 32 13 (pc2 := 82) (L2 := [some (.ref 0), some (.int x1), some (.int x2), some (.int v12), some (.int (G9 1 ((14 : Int32) + x1).toNatClampNeg)), some (.int ((G9 0 23) - (1 : Int32)))]) (st2 := []) (μ2 := (hMo G9 J)) rfl ⟨g13, trivial⟩ ?_
      exact JW.mask [true, true, false, true, true, true] (t_X6_keeper_b82 hM hp N J N G9 x1 v12 (G9 1 ((14 : Int32) + x1).toNatClampNeg) ((G9 0 23) - (1 : Int32)) h hq)
    · have h := (if_pos hc23).symm.trans h
      refine JW.r hM 26 1 (pc2 := 53) (L2 := [some (.ref 0), some (.int x1), some (.int x2), none, none, none]) (st2 := [.int (-100000 : Int32)]) (μ2 := (hMo G9 J)) rfl trivial ?_
      obtain rfl := Option.some.inj h
      exact js_iret hM.1 hp hM.2.2.2.2.2.2.2.1 (by rw [hM.2.2.2.2.2.1]; exact Nat.le_of_ble_eq_true rfl) (by rw [hM.2.2.2.2.2.2.1]; exact Nat.le_of_ble_eq_true rfl) (jat hM.2.1 27 rfl) hq
  · have h := (if_neg hc24).symm.trans h
    refine JW.r hM 20 1 (pc2 := 41) (L2 := [some (.ref 0), some (.int x1), some (.int x2), none, none, none]) (st2 := [.int (0 : Int32)]) (μ2 := (hMo G5 J)) rfl trivial ?_
    obtain rfl := Option.some.inj h
    exact js_iret hM.1 hp hM.2.2.2.2.2.2.2.1 (by rw [hM.2.2.2.2.2.1]; exact Nat.le_of_ble_eq_true rfl) (by rw [hM.2.2.2.2.2.2.1]; exact Nat.le_of_ble_eq_true rfl) (jat hM.2.1 21 rfl) hq
set_option maxHeartbeats 4000000 in
set_option maxRecDepth 100000 in
theorem t_X6_keeper {X : jX} {po : Option Value → jH → Prop} {px : String → jH → Prop} {sf : Bool} {B9 : Nat} (hM : jMX X kX6_keeper RX6 tbX6 6 ⟨7, 0, 0, 171⟩ (some .int) 16) (hp : jPost X sf B9 po px) (N : Nat) (G : Nat → Nat → Int32) (J : Nat → Nat → Int64) (p0 : Int32) (p1 : Int32) {res : Int32 × (Nat → Nat → Int32)} (h : p_X6_keeper N G J p0 p1 = some res) (hq : po (some (.int res.1)) (hMo res.2 J)) : JW X 0 0 0 [some (.ref 0), some (.int p0), some (.int p1), none, none, none] [] (hMo G J) := by
  unfold p_X6_keeper at h
  refine JW.r hM 0 3 (pc2 := 3) (L2 := [some (.ref 0), some (.int p0), some (.int p1), none, none, none]) (st2 := [.int p0, .ref 0, .ref 0]) (μ2 := (hMo G J)) rfl trivial ?_
  obtain ⟨v2, hv1, h⟩ := jbd h
  refine JW.cV (v := some (.int v2)) hM (m_X6_isThing (jVX X) hM.1.2.2.2.2.2.2.2.2.2.1 N G J p0 v2 hv1) (sb_Mo_Mo_0 G J) (bi_Mo_Mo_0 G J) rfl rfl rfl kc_X6_197 rfl rfl rfl rfl rfl (jat hM.2.1 3 rfl) (st := [.ref 0]) rfl ?_
  show JW X 0 0 6 [some (.ref 0), some (.int p0), some (.int p1), none, none, none] [.int v2, .ref 0] (hMo G J)
  refine js_ifne (t := 13) hM.1 (jat hM.2.1 4 rfl) rfl (fun hc26 => ?_) (fun hc26 => ?_)
  · have h := (if_neg hc26).symm.trans h
    refine JW.r hM 7 4 (pc2 := 19) (L2 := [some (.ref 0), some (.int p0), some (.int p1), none, none, none]) (st2 := [.long (2 : Int64), .long (1 : Int64), .long (p1.toInt64), .ref 0]) (μ2 := (hMo G J)) rfl trivial ?_
    obtain ⟨v4, hv3, h⟩ := jbd h
    refine JW.cS (v := some (.int v4)) hM (m_X6_within (jVX X) hM.1.2.2.2.2.2.2.2.2.2.1 N (p1.toInt64) (1 : Int64) (2 : Int64) v4 hv3) (sb_Mo_E_ G J) (bi_Mo_E_ G J) rfl rfl rfl kc_X6_122 rfl rfl rfl (jat hM.2.1 11 rfl) (st := [.ref 0]) rfl ?_
    show JW X 0 0 22 [some (.ref 0), some (.int p0), some (.int p1), none, none, none] [.int v4, .ref 0] (hMo G J)
    refine js_ifeq (t := 29) hM.1 (jat hM.2.1 12 rfl) rfl (fun hc25 => ?_) (fun hc25 => ?_)
    · have h := (if_pos hc25).symm.trans h
      refine JW.r hM 15 1 (pc2 := 30) (L2 := [some (.ref 0), some (.int p0), some (.int p1), none, none, none]) (st2 := [.int (2 : Int32), .ref 0]) (μ2 := (hMo G J)) rfl trivial ?_
      exact t_X6_keeper_b30 hM hp N J G p0 p1 (2 : Int32) h hq
    · have h := (if_neg hc25).symm.trans h
      refine JW.r hM 13 2 (pc2 := 30) (L2 := [some (.ref 0), some (.int p0), some (.int p1), none, none, none]) (st2 := [.int (0 : Int32), .ref 0]) (μ2 := (hMo G J)) rfl trivial ?_
      exact t_X6_keeper_b30 hM hp N J G p0 p1 (0 : Int32) h hq
  · have h := (if_pos hc26).symm.trans h
    refine JW.r hM 5 2 (pc2 := 30) (L2 := [some (.ref 0), some (.int p0), some (.int p1), none, none, none]) (st2 := [.int (1 : Int32), .ref 0]) (μ2 := (hMo G J)) rfl trivial ?_
    exact t_X6_keeper_b30 hM hp N J G p0 p1 (1 : Int32) h hq
theorem m_X6_keeper (V : jV) (hV : V.1.stackTraces = false) (N : Nat) (G : Nat → Nat → Int32) (J : Nat → Nat → Int64) (p0 : Int32) (p1 : Int32) (v : Int32 × (Nat → Nat → Int32)) (h : p_X6_keeper N G J p0 p1 = some v) : jMet V yX6_keeper (jws yX6_keeper cX6_keeper 6 (some .int)) ⟨7, 0, 0, 171⟩ true 1 [.ref 0, .int p0, .int p1] (hMo G J) (fun o ν => o = some (.int v.1) ∧ ν = (hMo v.2 J)) (fun _ _ => False) := by
  refine jmk (tb := tbX6) (C := kX6_keeper) hV rfl (by decide) tbX6_ok rfl kX6_keeper_ok rfl ?_
  intro X hM _ hp _
  exact t_X6_keeper hM hp N G J p0 p1 h ⟨rfl, rfl⟩
def p_X6_endFrom (N : Nat) (G : Nat → Nat → Int32) (J : Nat → Nat → Int64) (p0 : Int32) : Option (Int32 × (Nat → Nat → Int32)) :=
  jlt (jup G 0 5 (0 : Int32)) fun G1 => (p_X6_isPerson N G1 J p0).bind (fun v4 => if v4 = 0 then ((p_X6_fails N G1 J (1 : Int32)).bind (fun v13 => jlt v13.2 fun G14 => some (v13.1, G14))) else ((p_X6_laysFrom N G1 J (1 : Int32) p0).bind (fun v6 => jlt v6.2 fun G7 => if v6.1 = 0 then (some ((-100000 : Int32), G7)) else ((p_X6_standIn N G7 J).bind (fun v10 => some (v10, G7))))))
set_option maxHeartbeats 4000000 in
set_option maxRecDepth 100000 in
theorem t_X6_endFrom {X : jX} {po : Option Value → jH → Prop} {px : String → jH → Prop} {sf : Bool} {B9 : Nat} (hM : jMX X kX6_endFrom RX6 tbX6 2 ⟨6, 0, 0, 150⟩ (some .int) 16) (hp : jPost X sf B9 po px) (N : Nat) (G : Nat → Nat → Int32) (J : Nat → Nat → Int64) (p0 : Int32) {res : Int32 × (Nat → Nat → Int32)} (h : p_X6_endFrom N G J p0 = some res) (hq : po (some (.int res.1)) (hMo res.2 J)) : JW X 0 0 0 [some (.ref 0), some (.int p0)] [] (hMo G J) := by
  unfold p_X6_endFrom at h
  obtain ⟨G1, e2, h⟩ := jlE h
  refine JW.r hM 0 3 (pc2 := 5) (L2 := [some (.ref 0), some (.int p0)]) (st2 := []) (μ2 := (hMo (jup G 0 5 (0 : Int32)) J)) rfl trivial ?_
  rw [e2]
  refine JW.r hM 3 2 (pc2 := 7) (L2 := [some (.ref 0), some (.int p0)]) (st2 := [.int p0, .ref 0]) (μ2 := (hMo G1 J)) rfl trivial ?_
  obtain ⟨v4, hv3, h⟩ := jbd h
  refine JW.cV (v := some (.int v4)) hM (m_X6_isPerson (jVX X) hM.1.2.2.2.2.2.2.2.2.2.1 N G1 J p0 v4 hv3) (sb_Mo_Mo_0 G1 J) (bi_Mo_Mo_0 G1 J) rfl rfl rfl kc_X6_186 rfl rfl rfl rfl rfl (jat hM.2.1 5 rfl) (st := []) rfl ?_
  show JW X 0 0 10 [some (.ref 0), some (.int p0)] [.int v4] (hMo G1 J)
  refine js_ifne (t := 19) hM.1 (jat hM.2.1 6 rfl) rfl (fun hc16 => ?_) (fun hc16 => ?_)
  · have h := (if_neg hc16).symm.trans h
    refine JW.r hM 11 3 (pc2 := 22) (L2 := [some (.ref 0), some (.int p0)]) (st2 := [.int p0, .int (1 : Int32), .ref 0]) (μ2 := (hMo G1 J)) rfl trivial ?_
    obtain ⟨v6, hv5, h⟩ := jbd h
    refine JW.cV (v := some (.int v6.1)) hM (m_X6_laysFrom (jVX X) hM.1.2.2.2.2.2.2.2.2.2.1 N G1 J (1 : Int32) p0 v6 hv5) (sb_Mo_Mo_0 G1 J) (bk_Mo_Mo_0 G1 J v6.2 J) rfl rfl rfl kc_X6_310 rfl rfl rfl rfl rfl (jat hM.2.1 14 rfl) (st := []) rfl ?_
    show JW X 0 0 25 [some (.ref 0), some (.int p0)] [.int v6.1] (hMo v6.2 J)
    obtain ⟨G7, e8, h⟩ := jlE h
    rw [e8]
    refine js_ifeq (t := 35) hM.1 (jat hM.2.1 15 rfl) rfl (fun hc11 => ?_) (fun hc11 => ?_)
    · have h := (if_pos hc11).symm.trans h
      refine JW.r hM 19 1 (pc2 := 38) (L2 := [some (.ref 0), some (.int p0)]) (st2 := [.int (-100000 : Int32)]) (μ2 := (hMo G7 J)) rfl trivial ?_
      obtain rfl := Option.some.inj h
      exact js_iret hM.1 hp hM.2.2.2.2.2.2.2.1 (by rw [hM.2.2.2.2.2.1]; exact Nat.le_of_ble_eq_true rfl) (by rw [hM.2.2.2.2.2.2.1]; exact Nat.le_of_ble_eq_true rfl) (jat hM.2.1 20 rfl) hq
    · have h := (if_neg hc11).symm.trans h
      refine JW.r hM 16 1 (pc2 := 29) (L2 := [some (.ref 0), some (.int p0)]) (st2 := [.ref 0]) (μ2 := (hMo G7 J)) rfl trivial ?_
      obtain ⟨v10, hv9, h⟩ := jbd h
      refine JW.cV (v := some (.int v10)) hM (m_X6_standIn (jVX X) hM.1.2.2.2.2.2.2.2.2.2.1 N G7 J v10 hv9) (sb_Mo_Mo_0 G7 J) (bi_Mo_Mo_0 G7 J) rfl rfl rfl kc_X6_344 rfl rfl rfl rfl rfl (jat hM.2.1 17 rfl) (st := []) rfl ?_
      show JW X 0 0 32 [some (.ref 0), some (.int p0)] [.int v10] (hMo G7 J)
      refine JW.r hM 18 1 (pc2 := 38) (L2 := [some (.ref 0), some (.int p0)]) (st2 := [.int v10]) (μ2 := (hMo G7 J)) rfl trivial ?_
      obtain rfl := Option.some.inj h
      exact js_iret hM.1 hp hM.2.2.2.2.2.2.2.1 (by rw [hM.2.2.2.2.2.1]; exact Nat.le_of_ble_eq_true rfl) (by rw [hM.2.2.2.2.2.2.1]; exact Nat.le_of_ble_eq_true rfl) (jat hM.2.1 20 rfl) hq
  · have h := (if_pos hc16).symm.trans h
    refine JW.r hM 7 2 (pc2 := 15) (L2 := [some (.ref 0), some (.int p0)]) (st2 := [.int (1 : Int32), .ref 0]) (μ2 := (hMo G1 J)) rfl trivial ?_
    obtain ⟨v13, hv12, h⟩ := jbd h
    refine JW.cV (v := some (.int v13.1)) hM (m_X6_fails (jVX X) hM.1.2.2.2.2.2.2.2.2.2.1 N G1 J (1 : Int32) v13 hv12) (sb_Mo_Mo_0 G1 J) (bk_Mo_Mo_0 G1 J v13.2 J) rfl rfl rfl kc_X6_170 rfl rfl rfl rfl rfl (jat hM.2.1 9 rfl) (st := []) rfl ?_
    show JW X 0 0 18 [some (.ref 0), some (.int p0)] [.int v13.1] (hMo v13.2 J)
    obtain ⟨G14, e15, h⟩ := jlE h
    rw [e15]
    obtain rfl := Option.some.inj h
    exact js_iret hM.1 hp hM.2.2.2.2.2.2.2.1 (by rw [hM.2.2.2.2.2.1]; exact Nat.le_of_ble_eq_true rfl) (by rw [hM.2.2.2.2.2.2.1]; exact Nat.le_of_ble_eq_true rfl) (jat hM.2.1 10 rfl) hq
theorem m_X6_endFrom (V : jV) (hV : V.1.stackTraces = false) (N : Nat) (G : Nat → Nat → Int32) (J : Nat → Nat → Int64) (p0 : Int32) (v : Int32 × (Nat → Nat → Int32)) (h : p_X6_endFrom N G J p0 = some v) : jMet V yX6_endFrom (jws yX6_endFrom cX6_endFrom 2 (some .int)) ⟨6, 0, 0, 150⟩ true 1 [.ref 0, .int p0] (hMo G J) (fun o ν => o = some (.int v.1) ∧ ν = (hMo v.2 J)) (fun _ _ => False) := by
  refine jmk (tb := tbX6) (C := kX6_endFrom) hV rfl (by decide) tbX6_ok rfl kX6_endFrom_ok rfl ?_
  intro X hM _ hp _
  exact t_X6_endFrom hM hp N G J p0 h ⟨rfl, rfl⟩
def p_X6_news_b91 (N : Nat) (J : Nat → Nat → Int64) (G : Nat → Nat → Int32) (x1 : Int32) (x2 : Int32) (x4 : Int32) (s0 : Int32) : Option (Int32 × (Nat → Nat → Int32)) :=
  if jin (((24 : Int32) + ((6 : Int32) * x1)) + x2) 264 = true then jlt (jup G 1 (((24 : Int32) + ((6 : Int32) * x1)) + x2).toNatClampNeg x4) fun G15 => some (s0, G15) else none
def p_X6_news_b38 (N : Nat) (J : Nat → Nat → Int64) (G : Nat → Nat → Int32) (x1 : Int32) (x2 : Int32) (x3 : Int32) (s0 : Int32) : Option (Int32 × (Nat → Nat → Int32)) :=
  jlt (jup G 0 5 s0) fun G3 => if (G3 0 5) ≤ 0 then ((p_X6_worthTo N G3 J x1 x2).bind (fun v6 => if jin (((24 : Int32) + ((6 : Int32) * x1)) + x2) 264 = true then jlt (jup G3 1 (((24 : Int32) + ((6 : Int32) * x1)) + x2).toNatClampNeg x3) fun G8 => (p_X6_laysEnd N G8 J (1 : Int32)).bind (fun v11 => jlt v11.2 fun G12 => if v11.1 = 0 then (p_X6_news_b91 N J G12 x1 x2 v6 (-100000 : Int32)) else ((p_X6_standIn N G12 J).bind (fun v18 => p_X6_news_b91 N J G12 x1 x2 v6 v18))) else none)) else (some ((0 : Int32), G3))
def p_X6_news_b17 (N : Nat) (J : Nat → Nat → Int64) (G : Nat → Nat → Int32) (x1 : Int32) (x2 : Int32) (x3 : Int32) : Option (Int32 × (Nat → Nat → Int32)) :=
  p_X6_news_b38 N J G x1 x2 x3 (1 : Int32)
def p_X6_news (N : Nat) (G : Nat → Nat → Int32) (J : Nat → Nat → Int64) (p0 : Int32) (p1 : Int32) (p2 : Int32) : Option (Int32 × (Nat → Nat → Int32)) :=
  (p_X6_isThing N G J p0).bind (fun v2 => if v2 = 0 then (p_X6_news_b17 N J G p0 p1 p2) else ((p_X6_isPerson N G J p1).bind (fun v22 => if v22 = 0 then (p_X6_news_b17 N J G p0 p1 p2) else ((p_X6_within N (p2.toInt64) (0 : Int64) (999 : Int64)).bind (fun v24 => if v24 = 0 then (p_X6_news_b38 N J G p0 p1 p2 (2 : Int32)) else (p_X6_news_b38 N J G p0 p1 p2 (0 : Int32)))))))
set_option maxHeartbeats 4000000 in
set_option maxRecDepth 100000 in
theorem t_X6_news_b91 {X : jX} {po : Option Value → jH → Prop} {px : String → jH → Prop} {sf : Bool} {B9 : Nat} (hM : jMX X kX6_news RX6 tbX6 6 ⟨7, 0, 0, 171⟩ (some .int) 16) (hp : jPost X sf B9 po px) (N : Nat) (J : Nat → Nat → Int64) {res : Int32 × (Nat → Nat → Int32)} (G : Nat → Nat → Int32) (x1 : Int32) (x2 : Int32) (x4 : Int32) (s0 : Int32) (h : p_X6_news_b91 N J G x1 x2 x4 s0 = some res) (hq : po (some (.int res.1)) (hMo res.2 J)) : JW X 0 0 91 [some (.ref 0), some (.int x1), some (.int x2), none, some (.int x4), none] [.int s0] (hMo G J) := by
  unfold p_X6_news_b91 at h
  obtain ⟨g14, h⟩ := jg h
  obtain ⟨G15, e16, h⟩ := jlE h
  refine JW.r hM 50 12 (pc2 := 109) (L2 := [some (.ref 0), some (.int x1), some (.int x2), none, some (.int x4), some (.int s0)]) (st2 := []) (μ2 := (hMo (jup G 1 (((24 : Int32) + ((6 : Int32) * x1)) + x2).toNatClampNeg x4) J)) rfl ⟨g14, trivial⟩ ?_
  rw [e16]
  refine JW.r hM 62 1 (pc2 := 111) (L2 := [some (.ref 0), some (.int x1), some (.int x2), none, some (.int x4), some (.int s0)]) (st2 := [.int s0]) (μ2 := (hMo G15 J)) rfl trivial ?_
  obtain rfl := Option.some.inj h
  exact js_iret hM.1 hp hM.2.2.2.2.2.2.2.1 (by rw [hM.2.2.2.2.2.1]; exact Nat.le_of_ble_eq_true rfl) (by rw [hM.2.2.2.2.2.2.1]; exact Nat.le_of_ble_eq_true rfl) (jat hM.2.1 63 rfl) hq
set_option maxHeartbeats 4000000 in
set_option maxRecDepth 100000 in
theorem t_X6_news_b38 {X : jX} {po : Option Value → jH → Prop} {px : String → jH → Prop} {sf : Bool} {B9 : Nat} (hM : jMX X kX6_news RX6 tbX6 6 ⟨7, 0, 0, 171⟩ (some .int) 16) (hp : jPost X sf B9 po px) (N : Nat) (J : Nat → Nat → Int64) {res : Int32 × (Nat → Nat → Int32)} (G : Nat → Nat → Int32) (x1 : Int32) (x2 : Int32) (x3 : Int32) (s0 : Int32) (h : p_X6_news_b38 N J G x1 x2 x3 s0 = some res) (hq : po (some (.int res.1)) (hMo res.2 J)) : JW X 0 0 38 [some (.ref 0), some (.int x1), some (.int x2), some (.int x3), none, none] [.int s0, .ref 0] (hMo G J) := by
  unfold p_X6_news_b38 at h
  obtain ⟨G3, e4, h⟩ := jlE h
  refine JW.r hM 20 1 (pc2 := 41) (L2 := [some (.ref 0), some (.int x1), some (.int x2), some (.int x3), none, none]) (st2 := []) (μ2 := (hMo (jup G 0 5 s0) J)) rfl trivial ?_
  rw [e4]
  refine JW.r hM 21 2 (pc2 := 45) (L2 := [some (.ref 0), some (.int x1), some (.int x2), some (.int x3), none, none]) (st2 := [.int (G3 0 5)]) (μ2 := (hMo G3 J)) rfl trivial ?_
  refine js_ifle (t := 50) hM.1 (jat hM.2.1 23 rfl) rfl (fun hc20 => ?_) (fun hc20 => ?_)
  · have h := (if_pos hc20).symm.trans h
    refine JW.r hM 26 3 (pc2 := 53) (L2 := [some (.ref 0), some (.int x1), some (.int x2), some (.int x3), none, none]) (st2 := [.int x2, .int x1, .ref 0]) (μ2 := (hMo G3 J)) rfl trivial ?_
    obtain ⟨v6, hv5, h⟩ := jbd h
    refine JW.cV (v := some (.int v6)) hM (m_X6_worthTo (jVX X) hM.1.2.2.2.2.2.2.2.2.2.1 N G3 J x1 x2 v6 hv5) (sb_Mo_Mo_0 G3 J) (bi_Mo_Mo_0 G3 J) rfl rfl rfl kc_X6_183 rfl rfl rfl rfl rfl (jat hM.2.1 29 rfl) (st := []) rfl ?_
    show JW X 0 0 56 [some (.ref 0), some (.int x1), some (.int x2), some (.int x3), none, none] [.int v6] (hMo G3 J)
    obtain ⟨g7, h⟩ := jg h
    obtain ⟨G8, e9, h⟩ := jlE h
    refine JW.r hM 30 12 (pc2 := 73) (L2 := [some (.ref 0), some (.int x1), some (.int x2), some (.int x3), some (.int v6), none]) (st2 := []) (μ2 := (hMo (jup G3 1 (((24 : Int32) + ((6 : Int32) * x1)) + x2).toNatClampNeg x3) J)) rfl ⟨g7, trivial⟩ ?_
    rw [e9]
    refine JW.r hM 42 2 (pc2 := 75) (L2 := [some (.ref 0), some (.int x1), some (.int x2), some (.int x3), some (.int v6), none]) (st2 := [.int (1 : Int32), .ref 0]) (μ2 := (hMo G8 J)) rfl trivial ?_
    obtain ⟨v11, hv10, h⟩ := jbd h
    refine JW.cV (v := some (.int v11.1)) hM (m_X6_laysEnd (jVX X) hM.1.2.2.2.2.2.2.2.2.2.1 N G8 J (1 : Int32) v11 hv10) (sb_Mo_Mo_0 G8 J) (bk_Mo_Mo_0 G8 J v11.2 J) rfl rfl rfl kc_X6_340 rfl rfl rfl rfl rfl (jat hM.2.1 44 rfl) (st := []) rfl ?_
    show JW X 0 0 78 [some (.ref 0), some (.int x1), some (.int x2), some (.int x3), some (.int v6), none] [.int v11.1] (hMo v11.2 J)
    obtain ⟨G12, e13, h⟩ := jlE h
    rw [e13]
    refine js_ifeq (t := 88) hM.1 (jat hM.2.1 45 rfl) rfl (fun hc19 => ?_) (fun hc19 => ?_)
    · have h := (if_pos hc19).symm.trans h
      refine JW.r hM 49 1 (pc2 := 91) (L2 := [some (.ref 0), some (.int x1), some (.int x2), some (.int x3), some (.int v6), none]) (st2 := [.int (-100000 : Int32)]) (μ2 := (hMo G12 J)) rfl trivial ?_
      exact JW.mask [true, true, true, false, true, false] (t_X6_news_b91 hM hp N J G12 x1 x2 v6 (-100000 : Int32) h hq)
    · have h := (if_neg hc19).symm.trans h
      refine JW.r hM 46 1 (pc2 := 82) (L2 := [some (.ref 0), some (.int x1), some (.int x2), some (.int x3), some (.int v6), none]) (st2 := [.ref 0]) (μ2 := (hMo G12 J)) rfl trivial ?_
      obtain ⟨v18, hv17, h⟩ := jbd h
      refine JW.cV (v := some (.int v18)) hM (m_X6_standIn (jVX X) hM.1.2.2.2.2.2.2.2.2.2.1 N G12 J v18 hv17) (sb_Mo_Mo_0 G12 J) (bi_Mo_Mo_0 G12 J) rfl rfl rfl kc_X6_344 rfl rfl rfl rfl rfl (jat hM.2.1 47 rfl) (st := []) rfl ?_
      show JW X 0 0 85 [some (.ref 0), some (.int x1), some (.int x2), some (.int x3), some (.int v6), none] [.int v18] (hMo G12 J)
      refine JW.r hM 48 1 (pc2 := 91) (L2 := [some (.ref 0), some (.int x1), some (.int x2), some (.int x3), some (.int v6), none]) (st2 := [.int v18]) (μ2 := (hMo G12 J)) rfl trivial ?_
      exact JW.mask [true, true, true, false, true, false] (t_X6_news_b91 hM hp N J G12 x1 x2 v6 v18 h hq)
  · have h := (if_neg hc20).symm.trans h
    refine JW.r hM 24 1 (pc2 := 49) (L2 := [some (.ref 0), some (.int x1), some (.int x2), some (.int x3), none, none]) (st2 := [.int (0 : Int32)]) (μ2 := (hMo G3 J)) rfl trivial ?_
    obtain rfl := Option.some.inj h
    exact js_iret hM.1 hp hM.2.2.2.2.2.2.2.1 (by rw [hM.2.2.2.2.2.1]; exact Nat.le_of_ble_eq_true rfl) (by rw [hM.2.2.2.2.2.2.1]; exact Nat.le_of_ble_eq_true rfl) (jat hM.2.1 25 rfl) hq
set_option maxHeartbeats 4000000 in
set_option maxRecDepth 100000 in
theorem t_X6_news_b17 {X : jX} {po : Option Value → jH → Prop} {px : String → jH → Prop} {sf : Bool} {B9 : Nat} (hM : jMX X kX6_news RX6 tbX6 6 ⟨7, 0, 0, 171⟩ (some .int) 16) (hp : jPost X sf B9 po px) (N : Nat) (J : Nat → Nat → Int64) {res : Int32 × (Nat → Nat → Int32)} (G : Nat → Nat → Int32) (x1 : Int32) (x2 : Int32) (x3 : Int32) (h : p_X6_news_b17 N J G x1 x2 x3 = some res) (hq : po (some (.int res.1)) (hMo res.2 J)) : JW X 0 0 17 [some (.ref 0), some (.int x1), some (.int x2), some (.int x3), none, none] [.ref 0] (hMo G J) := by
  unfold p_X6_news_b17 at h
  refine JW.r hM 9 2 (pc2 := 38) (L2 := [some (.ref 0), some (.int x1), some (.int x2), some (.int x3), none, none]) (st2 := [.int (1 : Int32), .ref 0]) (μ2 := (hMo G J)) rfl trivial ?_
  exact t_X6_news_b38 hM hp N J G x1 x2 x3 (1 : Int32) h hq
set_option maxHeartbeats 4000000 in
set_option maxRecDepth 100000 in
theorem t_X6_news {X : jX} {po : Option Value → jH → Prop} {px : String → jH → Prop} {sf : Bool} {B9 : Nat} (hM : jMX X kX6_news RX6 tbX6 6 ⟨7, 0, 0, 171⟩ (some .int) 16) (hp : jPost X sf B9 po px) (N : Nat) (G : Nat → Nat → Int32) (J : Nat → Nat → Int64) (p0 : Int32) (p1 : Int32) (p2 : Int32) {res : Int32 × (Nat → Nat → Int32)} (h : p_X6_news N G J p0 p1 p2 = some res) (hq : po (some (.int res.1)) (hMo res.2 J)) : JW X 0 0 0 [some (.ref 0), some (.int p0), some (.int p1), some (.int p2), none, none] [] (hMo G J) := by
  unfold p_X6_news at h
  refine JW.r hM 0 3 (pc2 := 3) (L2 := [some (.ref 0), some (.int p0), some (.int p1), some (.int p2), none, none]) (st2 := [.int p0, .ref 0, .ref 0]) (μ2 := (hMo G J)) rfl trivial ?_
  obtain ⟨v2, hv1, h⟩ := jbd h
  refine JW.cV (v := some (.int v2)) hM (m_X6_isThing (jVX X) hM.1.2.2.2.2.2.2.2.2.2.1 N G J p0 v2 hv1) (sb_Mo_Mo_0 G J) (bi_Mo_Mo_0 G J) rfl rfl rfl kc_X6_197 rfl rfl rfl rfl rfl (jat hM.2.1 3 rfl) (st := [.ref 0]) rfl ?_
  show JW X 0 0 6 [some (.ref 0), some (.int p0), some (.int p1), some (.int p2), none, none] [.int v2, .ref 0] (hMo G J)
  refine js_ifeq (t := 17) hM.1 (jat hM.2.1 4 rfl) rfl (fun hc27 => ?_) (fun hc27 => ?_)
  · have h := (if_pos hc27).symm.trans h
    exact t_X6_news_b17 hM hp N J G p0 p1 p2 h hq
  · have h := (if_neg hc27).symm.trans h
    refine JW.r hM 5 2 (pc2 := 11) (L2 := [some (.ref 0), some (.int p0), some (.int p1), some (.int p2), none, none]) (st2 := [.int p1, .ref 0, .ref 0]) (μ2 := (hMo G J)) rfl trivial ?_
    obtain ⟨v22, hv21, h⟩ := jbd h
    refine JW.cV (v := some (.int v22)) hM (m_X6_isPerson (jVX X) hM.1.2.2.2.2.2.2.2.2.2.1 N G J p1 v22 hv21) (sb_Mo_Mo_0 G J) (bi_Mo_Mo_0 G J) rfl rfl rfl kc_X6_186 rfl rfl rfl rfl rfl (jat hM.2.1 7 rfl) (st := [.ref 0]) rfl ?_
    show JW X 0 0 14 [some (.ref 0), some (.int p0), some (.int p1), some (.int p2), none, none] [.int v22, .ref 0] (hMo G J)
    refine js_ifne (t := 21) hM.1 (jat hM.2.1 8 rfl) rfl (fun hc26 => ?_) (fun hc26 => ?_)
    · have h := (if_neg hc26).symm.trans h
      refine JW.r hM 11 4 (pc2 := 27) (L2 := [some (.ref 0), some (.int p0), some (.int p1), some (.int p2), none, none]) (st2 := [.long (999 : Int64), .long (0 : Int64), .long (p2.toInt64), .ref 0]) (μ2 := (hMo G J)) rfl trivial ?_
      obtain ⟨v24, hv23, h⟩ := jbd h
      refine JW.cS (v := some (.int v24)) hM (m_X6_within (jVX X) hM.1.2.2.2.2.2.2.2.2.2.1 N (p2.toInt64) (0 : Int64) (999 : Int64) v24 hv23) (sb_Mo_E_ G J) (bi_Mo_E_ G J) rfl rfl rfl kc_X6_122 rfl rfl rfl (jat hM.2.1 15 rfl) (st := [.ref 0]) rfl ?_
      show JW X 0 0 30 [some (.ref 0), some (.int p0), some (.int p1), some (.int p2), none, none] [.int v24, .ref 0] (hMo G J)
      refine js_ifeq (t := 37) hM.1 (jat hM.2.1 16 rfl) rfl (fun hc25 => ?_) (fun hc25 => ?_)
      · have h := (if_pos hc25).symm.trans h
        refine JW.r hM 19 1 (pc2 := 38) (L2 := [some (.ref 0), some (.int p0), some (.int p1), some (.int p2), none, none]) (st2 := [.int (2 : Int32), .ref 0]) (μ2 := (hMo G J)) rfl trivial ?_
        exact t_X6_news_b38 hM hp N J G p0 p1 p2 (2 : Int32) h hq
      · have h := (if_neg hc25).symm.trans h
        refine JW.r hM 17 2 (pc2 := 38) (L2 := [some (.ref 0), some (.int p0), some (.int p1), some (.int p2), none, none]) (st2 := [.int (0 : Int32), .ref 0]) (μ2 := (hMo G J)) rfl trivial ?_
        exact t_X6_news_b38 hM hp N J G p0 p1 p2 (0 : Int32) h hq
    · have h := (if_pos hc26).symm.trans h
      exact t_X6_news_b17 hM hp N J G p0 p1 p2 h hq
theorem m_X6_news (V : jV) (hV : V.1.stackTraces = false) (N : Nat) (G : Nat → Nat → Int32) (J : Nat → Nat → Int64) (p0 : Int32) (p1 : Int32) (p2 : Int32) (v : Int32 × (Nat → Nat → Int32)) (h : p_X6_news N G J p0 p1 p2 = some v) : jMet V yX6_news (jws yX6_news cX6_news 6 (some .int)) ⟨7, 0, 0, 171⟩ true 1 [.ref 0, .int p0, .int p1, .int p2] (hMo G J) (fun o ν => o = some (.int v.1) ∧ ν = (hMo v.2 J)) (fun _ _ => False) := by
  refine jmk (tb := tbX6) (C := kX6_news) hV rfl (by decide) tbX6_ok rfl kX6_news_ok rfl ?_
  intro X hM _ hp _
  exact t_X6_news hM hp N G J p0 p1 p2 h ⟨rfl, rfl⟩
def p_X6_size_b4 (N : Nat) : Nat → (Int32) → (Int32) → Option (Int32)
  | 0, _, _ => none
  | n + 1, x1, x2 => if x2 = 0 then (some x1) else ((p_X6_size_b4 N n) (x1 + 1) (x2 &&& (x2 - (1 : Int32))))
def p_X6_size (N : Nat) (p0 : Int32) : Option (Int32) :=
  p_X6_size_b4 N N (0 : Int32) p0
set_option maxHeartbeats 4000000 in
set_option maxRecDepth 100000 in
theorem t_X6_size_b4 {X : jX} {po : Option Value → jH → Prop} {px : String → jH → Prop} {sf : Bool} {B9 : Nat} (hM : jMX X kX6_size RX6 tbX6 3 ⟨0, 0, 0, 0⟩ (some .int) 1) (hp : jPost X sf B9 po px) (N : Nat) {res : Int32} : ∀ (n : Nat) (x1 : Int32) (x2 : Int32) (h : p_X6_size_b4 N n x1 x2 = some res) (hq : po (some (.int res)) hE), JW X 0 0 4 [none, some (.int x1), some (.int x2)] [] hE := by
  intro n
  induction n with
  | zero =>
    intro x1 x2 h hq
    cases (show (none : Option (Int32)) = some res from h)
  | succ n ih4 =>
    intro x1 x2 h hq
    have ih4 := fun x1 x2 h9 => ih4 x1 x2 h9 hq
    rw [p_X6_size_b4] at h
    refine JW.r hM 4 1 (pc2 := 5) (L2 := [none, some (.int x1), some (.int x2)]) (st2 := [.int x2]) (μ2 := hE) rfl trivial ?_
    refine js_ifeq (t := 20) hM.1 (jat hM.2.1 5 rfl) rfl (fun hc1 => ?_) (fun hc1 => ?_)
    · have h := (if_pos hc1).symm.trans h
      refine JW.r hM 14 1 (pc2 := 21) (L2 := [none, some (.int x1), some (.int x2)]) (st2 := [.int x1]) (μ2 := hE) rfl trivial ?_
      obtain rfl := Option.some.inj h
      exact js_iret hM.1 hp hM.2.2.2.2.2.2.2.1 (by rw [hM.2.2.2.2.2.1]; exact Nat.le_of_ble_eq_true rfl) (by rw [hM.2.2.2.2.2.2.1]; exact Nat.le_of_ble_eq_true rfl) (jat hM.2.1 15 rfl) hq
    · have h := (if_neg hc1).symm.trans h
      refine JW.r hM 6 8 (pc2 := 4) (L2 := [none, some (.int (x1 + 1)), some (.int (x2 &&& (x2 - (1 : Int32))))]) (st2 := []) (μ2 := hE) rfl trivial ?_
      exact ih4 (x1 + 1) (x2 &&& (x2 - (1 : Int32))) h
set_option maxHeartbeats 4000000 in
set_option maxRecDepth 100000 in
theorem t_X6_size {X : jX} {po : Option Value → jH → Prop} {px : String → jH → Prop} {sf : Bool} {B9 : Nat} (hM : jMX X kX6_size RX6 tbX6 3 ⟨0, 0, 0, 0⟩ (some .int) 1) (hp : jPost X sf B9 po px) (N : Nat) (p0 : Int32) {res : Int32} (h : p_X6_size N p0 = some res) (hq : po (some (.int res)) hE) : JW X 0 0 0 [some (.int p0), none, none] [] hE := by
  unfold p_X6_size at h
  refine JW.r hM 0 4 (pc2 := 4) (L2 := [some (.int p0), some (.int (0 : Int32)), some (.int p0)]) (st2 := []) (μ2 := hE) rfl trivial ?_
  exact JW.mask [false, true, true] (t_X6_size_b4 hM hp N N (0 : Int32) p0 h hq)
theorem m_X6_size (V : jV) (hV : V.1.stackTraces = false) (N : Nat) (p0 : Int32) (v : Int32) (h : p_X6_size N p0 = some v) : jMet V yX6_size (jws yX6_size cX6_size 3 (some .int)) ⟨0, 0, 0, 0⟩ true 1 [.int p0] hE (fun o ν => o = some (.int v) ∧ ν = hE) (fun _ _ => False) := by
  refine jmk (tb := tbX6) (C := kX6_size) hV rfl (by decide) tbX6_ok rfl kX6_size_ok rfl ?_
  intro X hM _ hp _
  exact t_X6_size hM hp N p0 h ⟨rfl, rfl⟩
def p_X6_bestShare_b80 (N : Nat) (J : Nat → Nat → Int64) (G : Nat → Nat → Int32) (x1 : Int32) (x2 : Int32) : Option (Int32 × (Nat → Nat → Int32)) :=
  jlt (jup G 1 4 x1) fun G3 => some (x2, G3)
def p_X6_bestShare_b74 (N : Nat) (J : Nat → Nat → Int64) (rv19 : (Nat → Nat → Int32) → Int32 → Int32 → Int32 → Int32 → Option (Int32 × (Nat → Nat → Int32))) (G : Nat → Nat → Int32) (x1 : Int32) (x2 : Int32) (x3 : Int32) (x4 : Int32) : Option (Int32 × (Nat → Nat → Int32)) :=
  rv19 G x1 x2 x3 (x4 + 1)
def p_X6_bestShare_b19 (N : Nat) (J : Nat → Nat → Int64) : Nat → (Nat → Nat → Int32) → (Int32) → (Int32) → (Int32) → (Int32) → Option (Int32 × (Nat → Nat → Int32))
  | 0, _, _, _, _, _ => none
  | n + 1, G, x1, x2, x3, x4 => if (100 : Int32) < x4 then (p_X6_bestShare_b80 N J G x1 x2) else (jlt (jup G 1 4 x4) fun G5 => (p_X6_laysEnd N G5 J (1 : Int32)).bind (fun v8 => jlt v8.2 fun G9 => if v8.1 = 0 then (p_X6_bestShare_b80 N J G9 x1 (-100000 : Int32)) else ((p_X6_standIn N G9 J).bind (fun v12 => (p_X6_size N v12).bind (fun v14 => if x3 < v14 then ((p_X6_standIn N G9 J).bind (fun v16 => (p_X6_size N v16).bind (fun v18 => p_X6_bestShare_b74 N J (p_X6_bestShare_b19 N J n) G9 x1 x4 v18 x4))) else (p_X6_bestShare_b74 N J (p_X6_bestShare_b19 N J n) G9 x1 x2 x3 x4))))))
def p_X6_bestShare (N : Nat) (G : Nat → Nat → Int32) (J : Nat → Nat → Int64) : Option (Int32 × (Nat → Nat → Int32)) :=
  jlt (jup G 0 5 (0 : Int32)) fun G1 => p_X6_bestShare_b19 N J N G1 (G1 1 4) (-1 : Int32) (-1 : Int32) (0 : Int32)
set_option maxHeartbeats 4000000 in
set_option maxRecDepth 100000 in
theorem t_X6_bestShare_b80 {X : jX} {po : Option Value → jH → Prop} {px : String → jH → Prop} {sf : Bool} {B9 : Nat} (hM : jMX X kX6_bestShare RX6 tbX6 5 ⟨7, 0, 0, 171⟩ (some .int) 16) (hp : jPost X sf B9 po px) (N : Nat) (J : Nat → Nat → Int64) {res : Int32 × (Nat → Nat → Int32)} (G : Nat → Nat → Int32) (x1 : Int32) (x2 : Int32) (h : p_X6_bestShare_b80 N J G x1 x2 = some res) (hq : po (some (.int res.1)) (hMo res.2 J)) : JW X 0 0 80 [some (.ref 0), some (.int x1), some (.int x2), none, none] [] (hMo G J) := by
  unfold p_X6_bestShare_b80 at h
  obtain ⟨G3, e4, h⟩ := jlE h
  refine JW.r hM 43 5 (pc2 := 87) (L2 := [some (.ref 0), some (.int x1), some (.int x2), none, none]) (st2 := []) (μ2 := (hMo (jup G 1 4 x1) J)) rfl ⟨rfl, trivial⟩ ?_
  rw [e4]
  refine JW.r hM 48 1 (pc2 := 88) (L2 := [some (.ref 0), some (.int x1), some (.int x2), none, none]) (st2 := [.int x2]) (μ2 := (hMo G3 J)) rfl trivial ?_
  obtain rfl := Option.some.inj h
  exact js_iret hM.1 hp hM.2.2.2.2.2.2.2.1 (by rw [hM.2.2.2.2.2.1]; exact Nat.le_of_ble_eq_true rfl) (by rw [hM.2.2.2.2.2.2.1]; exact Nat.le_of_ble_eq_true rfl) (jat hM.2.1 49 rfl) hq
set_option maxHeartbeats 4000000 in
set_option maxRecDepth 100000 in
theorem t_X6_bestShare_b74 {X : jX} {po : Option Value → jH → Prop} {px : String → jH → Prop} {sf : Bool} {B9 : Nat} (hM : jMX X kX6_bestShare RX6 tbX6 5 ⟨7, 0, 0, 171⟩ (some .int) 16) (hp : jPost X sf B9 po px) (N : Nat) (J : Nat → Nat → Int64) (rv19 : (Nat → Nat → Int32) → Int32 → Int32 → Int32 → Int32 → Option (Int32 × (Nat → Nat → Int32))) {res : Int32 × (Nat → Nat → Int32)} (ih19 : ∀ (G : Nat → Nat → Int32) (x1 : Int32) (x2 : Int32) (x3 : Int32) (x4 : Int32), rv19 G x1 x2 x3 x4 = some res → JW X 0 0 19 [some (.ref 0), some (.int x1), some (.int x2), some (.int x3), some (.int x4)] [] (hMo G J)) (G : Nat → Nat → Int32) (x1 : Int32) (x2 : Int32) (x3 : Int32) (x4 : Int32) (h : p_X6_bestShare_b74 N J rv19 G x1 x2 x3 x4 = some res) (hq : po (some (.int res.1)) (hMo res.2 J)) : JW X 0 0 74 [some (.ref 0), some (.int x1), some (.int x2), some (.int x3), some (.int x4)] [] (hMo G J) := by
  unfold p_X6_bestShare_b74 at h
  refine JW.r hM 41 2 (pc2 := 19) (L2 := [some (.ref 0), some (.int x1), some (.int x2), some (.int x3), some (.int (x4 + 1))]) (st2 := []) (μ2 := (hMo G J)) rfl trivial ?_
  exact ih19 G x1 x2 x3 (x4 + 1) h
set_option maxHeartbeats 4000000 in
set_option maxRecDepth 100000 in
theorem t_X6_bestShare_b19 {X : jX} {po : Option Value → jH → Prop} {px : String → jH → Prop} {sf : Bool} {B9 : Nat} (hM : jMX X kX6_bestShare RX6 tbX6 5 ⟨7, 0, 0, 171⟩ (some .int) 16) (hp : jPost X sf B9 po px) (N : Nat) (J : Nat → Nat → Int64) {res : Int32 × (Nat → Nat → Int32)} : ∀ (n : Nat) (G : Nat → Nat → Int32) (x1 : Int32) (x2 : Int32) (x3 : Int32) (x4 : Int32) (h : p_X6_bestShare_b19 N J n G x1 x2 x3 x4 = some res) (hq : po (some (.int res.1)) (hMo res.2 J)), JW X 0 0 19 [some (.ref 0), some (.int x1), some (.int x2), some (.int x3), some (.int x4)] [] (hMo G J) := by
  intro n
  induction n with
  | zero =>
    intro G x1 x2 x3 x4 h hq
    cases (show (none : Option (Int32 × (Nat → Nat → Int32))) = some res from h)
  | succ n ih19 =>
    intro G x1 x2 x3 x4 h hq
    have ih19 := fun G x1 x2 x3 x4 h9 => ih19 G x1 x2 x3 x4 h9 hq
    rw [p_X6_bestShare_b19] at h
    refine JW.r hM 14 2 (pc2 := 23) (L2 := [some (.ref 0), some (.int x1), some (.int x2), some (.int x3), some (.int x4)]) (st2 := [.int (100 : Int32), .int x4]) (μ2 := (hMo G J)) rfl trivial ?_
    refine js_icgt (t := 80) hM.1 (jat hM.2.1 16 rfl) rfl (fun hc21 => ?_) (fun hc21 => ?_)
    · have h := (if_pos hc21).symm.trans h
      exact JW.mask [true, true, true, false, false] (t_X6_bestShare_b80 hM hp N J G x1 x2 h hq)
    · have h := (if_neg hc21).symm.trans h
      obtain ⟨G5, e6, h⟩ := jlE h
      refine JW.r hM 17 5 (pc2 := 34) (L2 := [some (.ref 0), some (.int x1), some (.int x2), some (.int x3), some (.int x4)]) (st2 := []) (μ2 := (hMo (jup G 1 4 x4) J)) rfl ⟨rfl, trivial⟩ ?_
      rw [e6]
      refine JW.r hM 22 2 (pc2 := 36) (L2 := [some (.ref 0), some (.int x1), some (.int x2), some (.int x3), some (.int x4)]) (st2 := [.int (1 : Int32), .ref 0]) (μ2 := (hMo G5 J)) rfl trivial ?_
      obtain ⟨v8, hv7, h⟩ := jbd h
      refine JW.cV (v := some (.int v8.1)) hM (m_X6_laysEnd (jVX X) hM.1.2.2.2.2.2.2.2.2.2.1 N G5 J (1 : Int32) v8 hv7) (sb_Mo_Mo_0 G5 J) (bk_Mo_Mo_0 G5 J v8.2 J) rfl rfl rfl kc_X6_340 rfl rfl rfl rfl rfl (jat hM.2.1 24 rfl) (st := []) rfl ?_
      show JW X 0 0 39 [some (.ref 0), some (.int x1), some (.int x2), some (.int x3), some (.int x4)] [.int v8.1] (hMo v8.2 J)
      obtain ⟨G9, e10, h⟩ := jlE h
      rw [e10]
      refine js_ifne (t := 49) hM.1 (jat hM.2.1 25 rfl) rfl (fun hc20 => ?_) (fun hc20 => ?_)
      · have h := (if_neg hc20).symm.trans h
        refine JW.r hM 29 1 (pc2 := 50) (L2 := [some (.ref 0), some (.int x1), some (.int x2), some (.int x3), some (.int x4)]) (st2 := [.ref 0]) (μ2 := (hMo G9 J)) rfl trivial ?_
        obtain ⟨v12, hv11, h⟩ := jbd h
        refine JW.cV (v := some (.int v12)) hM (m_X6_standIn (jVX X) hM.1.2.2.2.2.2.2.2.2.2.1 N G9 J v12 hv11) (sb_Mo_Mo_0 G9 J) (bi_Mo_Mo_0 G9 J) rfl rfl rfl kc_X6_344 rfl rfl rfl rfl rfl (jat hM.2.1 30 rfl) (st := []) rfl ?_
        show JW X 0 0 53 [some (.ref 0), some (.int x1), some (.int x2), some (.int x3), some (.int x4)] [.int v12] (hMo G9 J)
        obtain ⟨v14, hv13, h⟩ := jbd h
        refine JW.cS (v := some (.int v14)) hM (m_X6_size (jVX X) hM.1.2.2.2.2.2.2.2.2.2.1 N v12 v14 hv13) (sb_Mo_E_ G9 J) (bi_Mo_E_ G9 J) rfl rfl rfl kc_X6_353 rfl rfl rfl (jat hM.2.1 31 rfl) (st := []) rfl ?_
        show JW X 0 0 56 [some (.ref 0), some (.int x1), some (.int x2), some (.int x3), some (.int x4)] [.int v14] (hMo G9 J)
        refine JW.r hM 32 1 (pc2 := 57) (L2 := [some (.ref 0), some (.int x1), some (.int x2), some (.int x3), some (.int x4)]) (st2 := [.int x3, .int v14]) (μ2 := (hMo G9 J)) rfl trivial ?_
        refine js_icgt (t := 63) hM.1 (jat hM.2.1 33 rfl) rfl (fun hc19 => ?_) (fun hc19 => ?_)
        · have h := (if_pos hc19).symm.trans h
          refine JW.r hM 35 3 (pc2 := 67) (L2 := [some (.ref 0), some (.int x1), some (.int x4), some (.int x3), some (.int x4)]) (st2 := [.ref 0]) (μ2 := (hMo G9 J)) rfl trivial ?_
          obtain ⟨v16, hv15, h⟩ := jbd h
          refine JW.cV (v := some (.int v16)) hM (m_X6_standIn (jVX X) hM.1.2.2.2.2.2.2.2.2.2.1 N G9 J v16 hv15) (sb_Mo_Mo_0 G9 J) (bi_Mo_Mo_0 G9 J) rfl rfl rfl kc_X6_344 rfl rfl rfl rfl rfl (jat hM.2.1 38 rfl) (st := []) rfl ?_
          show JW X 0 0 70 [some (.ref 0), some (.int x1), some (.int x4), some (.int x3), some (.int x4)] [.int v16] (hMo G9 J)
          obtain ⟨v18, hv17, h⟩ := jbd h
          refine JW.cS (v := some (.int v18)) hM (m_X6_size (jVX X) hM.1.2.2.2.2.2.2.2.2.2.1 N v16 v18 hv17) (sb_Mo_E_ G9 J) (bi_Mo_E_ G9 J) rfl rfl rfl kc_X6_353 rfl rfl rfl (jat hM.2.1 39 rfl) (st := []) rfl ?_
          show JW X 0 0 73 [some (.ref 0), some (.int x1), some (.int x4), some (.int x3), some (.int x4)] [.int v18] (hMo G9 J)
          refine JW.r hM 40 1 (pc2 := 74) (L2 := [some (.ref 0), some (.int x1), some (.int x4), some (.int v18), some (.int x4)]) (st2 := []) (μ2 := (hMo G9 J)) rfl trivial ?_
          exact t_X6_bestShare_b74 hM hp N J (p_X6_bestShare_b19 N J n) ih19 G9 x1 x4 v18 x4 h hq
        · have h := (if_neg hc19).symm.trans h
          refine JW.r hM 34 1 (pc2 := 74) (L2 := [some (.ref 0), some (.int x1), some (.int x2), some (.int x3), some (.int x4)]) (st2 := []) (μ2 := (hMo G9 J)) rfl trivial ?_
          exact t_X6_bestShare_b74 hM hp N J (p_X6_bestShare_b19 N J n) ih19 G9 x1 x2 x3 x4 h hq
      · have h := (if_pos hc20).symm.trans h
        refine JW.r hM 26 3 (pc2 := 80) (L2 := [some (.ref 0), some (.int x1), some (.int (-100000 : Int32)), some (.int x3), some (.int x4)]) (st2 := []) (μ2 := (hMo G9 J)) rfl trivial ?_
        exact JW.mask [true, true, true, false, false] (t_X6_bestShare_b80 hM hp N J G9 x1 (-100000 : Int32) h hq)
set_option maxHeartbeats 4000000 in
set_option maxRecDepth 100000 in
theorem t_X6_bestShare {X : jX} {po : Option Value → jH → Prop} {px : String → jH → Prop} {sf : Bool} {B9 : Nat} (hM : jMX X kX6_bestShare RX6 tbX6 5 ⟨7, 0, 0, 171⟩ (some .int) 16) (hp : jPost X sf B9 po px) (N : Nat) (G : Nat → Nat → Int32) (J : Nat → Nat → Int64) {res : Int32 × (Nat → Nat → Int32)} (h : p_X6_bestShare N G J = some res) (hq : po (some (.int res.1)) (hMo res.2 J)) : JW X 0 0 0 [some (.ref 0), none, none, none, none] [] (hMo G J) := by
  unfold p_X6_bestShare at h
  obtain ⟨G1, e2, h⟩ := jlE h
  refine JW.r hM 0 3 (pc2 := 5) (L2 := [some (.ref 0), none, none, none, none]) (st2 := []) (μ2 := (hMo (jup G 0 5 (0 : Int32)) J)) rfl trivial ?_
  rw [e2]
  refine JW.r hM 3 11 (pc2 := 19) (L2 := [some (.ref 0), some (.int (G1 1 4)), some (.int (-1 : Int32)), some (.int (-1 : Int32)), some (.int (0 : Int32))]) (st2 := []) (μ2 := (hMo G1 J)) rfl ⟨rfl, trivial⟩ ?_
  exact t_X6_bestShare_b19 hM hp N J N G1 (G1 1 4) (-1 : Int32) (-1 : Int32) (0 : Int32) h hq
theorem m_X6_bestShare (V : jV) (hV : V.1.stackTraces = false) (N : Nat) (G : Nat → Nat → Int32) (J : Nat → Nat → Int64) (v : Int32 × (Nat → Nat → Int32)) (h : p_X6_bestShare N G J = some v) : jMet V yX6_bestShare (jws yX6_bestShare cX6_bestShare 5 (some .int)) ⟨7, 0, 0, 171⟩ true 1 [.ref 0] (hMo G J) (fun o ν => o = some (.int v.1) ∧ ν = (hMo v.2 J)) (fun _ _ => False) := by
  refine jmk (tb := tbX6) (C := kX6_bestShare) hV rfl (by decide) tbX6_ok rfl kX6_bestShare_ok rfl ?_
  intro X hM _ hp _
  exact t_X6_bestShare hM hp N G J h ⟨rfl, rfl⟩
def p_X6_share (N : Nat) (G : Nat → Nat → Int32) (J : Nat → Nat → Int64) (p0 : Int32) : Option (Int32 × (Nat → Nat → Int32)) :=
  jlt (jup G 0 5 (0 : Int32)) fun G1 => (p_X6_within N (p0.toInt64) (0 : Int64) (100 : Int64)).bind (fun v4 => if v4 = 0 then ((p_X6_fails N G1 J (1 : Int32)).bind (fun v8 => jlt v8.2 fun G9 => some (v8.1, G9))) else (jlt (jup G1 1 4 p0) fun G5 => some ((G1 1 4), G5)))
set_option maxHeartbeats 4000000 in
set_option maxRecDepth 100000 in
theorem t_X6_share {X : jX} {po : Option Value → jH → Prop} {px : String → jH → Prop} {sf : Bool} {B9 : Nat} (hM : jMX X kX6_share RX6 tbX6 3 ⟨1, 0, 0, 25⟩ (some .int) 16) (hp : jPost X sf B9 po px) (N : Nat) (G : Nat → Nat → Int32) (J : Nat → Nat → Int64) (p0 : Int32) {res : Int32 × (Nat → Nat → Int32)} (h : p_X6_share N G J p0 = some res) (hq : po (some (.int res.1)) (hMo res.2 J)) : JW X 0 0 0 [some (.ref 0), some (.int p0), none] [] (hMo G J) := by
  unfold p_X6_share at h
  obtain ⟨G1, e2, h⟩ := jlE h
  refine JW.r hM 0 3 (pc2 := 5) (L2 := [some (.ref 0), some (.int p0), none]) (st2 := []) (μ2 := (hMo (jup G 0 5 (0 : Int32)) J)) rfl trivial ?_
  rw [e2]
  refine JW.r hM 3 4 (pc2 := 11) (L2 := [some (.ref 0), some (.int p0), none]) (st2 := [.long (100 : Int64), .long (0 : Int64), .long (p0.toInt64)]) (μ2 := (hMo G1 J)) rfl trivial ?_
  obtain ⟨v4, hv3, h⟩ := jbd h
  refine JW.cS (v := some (.int v4)) hM (m_X6_within (jVX X) hM.1.2.2.2.2.2.2.2.2.2.1 N (p0.toInt64) (0 : Int64) (100 : Int64) v4 hv3) (sb_Mo_E_ G1 J) (bi_Mo_E_ G1 J) rfl rfl rfl kc_X6_122 rfl rfl rfl (jat hM.2.1 7 rfl) (st := []) rfl ?_
  show JW X 0 0 14 [some (.ref 0), some (.int p0), none] [.int v4] (hMo G1 J)
  refine js_ifne (t := 23) hM.1 (jat hM.2.1 8 rfl) rfl (fun hc11 => ?_) (fun hc11 => ?_)
  · have h := (if_neg hc11).symm.trans h
    obtain ⟨G5, e6, h⟩ := jlE h
    refine JW.r hM 13 10 (pc2 := 37) (L2 := [some (.ref 0), some (.int p0), some (.int (G1 1 4))]) (st2 := []) (μ2 := (hMo (jup G1 1 4 p0) J)) rfl ⟨rfl, rfl, trivial⟩ ?_
    rw [e6]
    refine JW.r hM 23 1 (pc2 := 38) (L2 := [some (.ref 0), some (.int p0), some (.int (G1 1 4))]) (st2 := [.int (G1 1 4)]) (μ2 := (hMo G5 J)) rfl trivial ?_
    obtain rfl := Option.some.inj h
    exact js_iret hM.1 hp hM.2.2.2.2.2.2.2.1 (by rw [hM.2.2.2.2.2.1]; exact Nat.le_of_ble_eq_true rfl) (by rw [hM.2.2.2.2.2.2.1]; exact Nat.le_of_ble_eq_true rfl) (jat hM.2.1 24 rfl) hq
  · have h := (if_pos hc11).symm.trans h
    refine JW.r hM 9 2 (pc2 := 19) (L2 := [some (.ref 0), some (.int p0), none]) (st2 := [.int (1 : Int32), .ref 0]) (μ2 := (hMo G1 J)) rfl trivial ?_
    obtain ⟨v8, hv7, h⟩ := jbd h
    refine JW.cV (v := some (.int v8.1)) hM (m_X6_fails (jVX X) hM.1.2.2.2.2.2.2.2.2.2.1 N G1 J (1 : Int32) v8 hv7) (sb_Mo_Mo_0 G1 J) (bk_Mo_Mo_0 G1 J v8.2 J) rfl rfl rfl kc_X6_170 rfl rfl rfl rfl rfl (jat hM.2.1 11 rfl) (st := []) rfl ?_
    show JW X 0 0 22 [some (.ref 0), some (.int p0), none] [.int v8.1] (hMo v8.2 J)
    obtain ⟨G9, e10, h⟩ := jlE h
    rw [e10]
    obtain rfl := Option.some.inj h
    exact js_iret hM.1 hp hM.2.2.2.2.2.2.2.1 (by rw [hM.2.2.2.2.2.1]; exact Nat.le_of_ble_eq_true rfl) (by rw [hM.2.2.2.2.2.2.1]; exact Nat.le_of_ble_eq_true rfl) (jat hM.2.1 12 rfl) hq
theorem m_X6_share (V : jV) (hV : V.1.stackTraces = false) (N : Nat) (G : Nat → Nat → Int32) (J : Nat → Nat → Int64) (p0 : Int32) (v : Int32 × (Nat → Nat → Int32)) (h : p_X6_share N G J p0 = some v) : jMet V yX6_share (jws yX6_share cX6_share 3 (some .int)) ⟨1, 0, 0, 25⟩ true 1 [.ref 0, .int p0] (hMo G J) (fun o ν => o = some (.int v.1) ∧ ν = (hMo v.2 J)) (fun _ _ => False) := by
  refine jmk (tb := tbX6) (C := kX6_share) hV rfl (by decide) tbX6_ok rfl kX6_share_ok rfl ?_
  intro X hM _ hp _
  exact t_X6_share hM hp N G J p0 h ⟨rfl, rfl⟩
def p_X6_hope_b313 (N : Nat) (J : Nat → Nat → Int64) (rv204 : (Nat → Nat → Int32) → Int32 → Int32 → Int32 → Int32 → Int32 → Int64 → Int64 → Int32 → Int32 → Option (Int32 × (Nat → Nat → Int32))) (rv219 : (Nat → Nat → Int32) → Int32 → Int32 → Int32 → Int32 → Int32 → Int64 → Int64 → Int32 → Int32 → Int64 → Int32 → Option (Int32 × (Nat → Nat → Int32))) (G : Nat → Nat → Int32) (x2 : Int32) (x3 : Int32) (x4 : Int32) (x5 : Int32) (x7 : Int32) (x8 : Int64) (x10 : Int64) (x12 : Int32) (x13 : Int32) (x14 : Int64) (x16 : Int32) : Option (Int32 × (Nat → Nat → Int32)) :=
  rv219 G x2 x3 x4 x5 x7 x8 x10 x12 x13 x14 (x16 + 1)
def p_X6_hope_b309 (N : Nat) (J : Nat → Nat → Int64) (rv204 : (Nat → Nat → Int32) → Int32 → Int32 → Int32 → Int32 → Int32 → Int64 → Int64 → Int32 → Int32 → Option (Int32 × (Nat → Nat → Int32))) (rv219 : (Nat → Nat → Int32) → Int32 → Int32 → Int32 → Int32 → Int32 → Int64 → Int64 → Int32 → Int32 → Int64 → Int32 → Option (Int32 × (Nat → Nat → Int32))) (G : Nat → Nat → Int32) (x2 : Int32) (x3 : Int32) (x4 : Int32) (x5 : Int32) (x7 : Int32) (x8 : Int64) (x10 : Int64) (x13 : Int32) (x14 : Int64) (x16 : Int32) (x17 : Int32) : Option (Int32 × (Nat → Nat → Int32)) :=
  p_X6_hope_b313 N J rv204 rv219 G x2 x3 x4 x5 x7 x8 x10 x17 x13 x14 x16
def p_X6_hope_b288 (N : Nat) (J : Nat → Nat → Int64) (rv204 : (Nat → Nat → Int32) → Int32 → Int32 → Int32 → Int32 → Int32 → Int64 → Int64 → Int32 → Int32 → Option (Int32 × (Nat → Nat → Int32))) (rv219 : (Nat → Nat → Int32) → Int32 → Int32 → Int32 → Int32 → Int32 → Int64 → Int64 → Int32 → Int32 → Int64 → Int32 → Option (Int32 × (Nat → Nat → Int32))) (G : Nat → Nat → Int32) (x2 : Int32) (x3 : Int32) (x4 : Int32) (x5 : Int32) (x7 : Int32) (x8 : Int64) (x10 : Int64) (x12 : Int32) (x13 : Int32) (x16 : Int32) (x17 : Int32) (x20 : Int32) (s0 : Int64) (s1 : Int64) : Option (Int32 × (Nat → Nat → Int32)) :=
  if x20 = 0 then (p_X6_hope_b313 N J rv204 rv219 G x2 x3 x4 x5 x7 x8 x10 x12 x13 (s1 + s0) x16) else (if x12 = (-1 : Int32) then (p_X6_hope_b309 N J rv204 rv219 G x2 x3 x4 x5 x7 x8 x10 x13 (s1 + s0) x16 x17) else (if x12 ≤ x17 then (p_X6_hope_b313 N J rv204 rv219 G x2 x3 x4 x5 x7 x8 x10 x12 x13 (s1 + s0) x16) else (p_X6_hope_b309 N J rv204 rv219 G x2 x3 x4 x5 x7 x8 x10 x13 (s1 + s0) x16 x17)))
def p_X6_hope_b272 (N : Nat) (J : Nat → Nat → Int64) (rv204 : (Nat → Nat → Int32) → Int32 → Int32 → Int32 → Int32 → Int32 → Int64 → Int64 → Int32 → Int32 → Option (Int32 × (Nat → Nat → Int32))) (rv219 : (Nat → Nat → Int32) → Int32 → Int32 → Int32 → Int32 → Int32 → Int64 → Int64 → Int32 → Int32 → Int64 → Int32 → Option (Int32 × (Nat → Nat → Int32))) (G : Nat → Nat → Int32) (x2 : Int32) (x3 : Int32) (x4 : Int32) (x5 : Int32) (x7 : Int32) (x8 : Int64) (x10 : Int64) (x12 : Int32) (x13 : Int32) (x14 : Int64) (x16 : Int32) (x17 : Int32) (x18 : Int64) (s0 : Int32) : Option (Int32 × (Nat → Nat → Int32)) :=
  if s0 = 0 then (p_X6_hope_b288 N J rv204 rv219 G x2 x3 x4 x5 x7 x8 x10 x12 x13 x16 x17 s0 x8 x14) else (p_X6_hope_b288 N J rv204 rv219 G x2 x3 x4 x5 x7 x8 x10 x12 x13 x16 x17 s0 x18 x14)
def p_X6_hope_b271 (N : Nat) (J : Nat → Nat → Int64) (rv204 : (Nat → Nat → Int32) → Int32 → Int32 → Int32 → Int32 → Int32 → Int64 → Int64 → Int32 → Int32 → Option (Int32 × (Nat → Nat → Int32))) (rv219 : (Nat → Nat → Int32) → Int32 → Int32 → Int32 → Int32 → Int32 → Int64 → Int64 → Int32 → Int32 → Int64 → Int32 → Option (Int32 × (Nat → Nat → Int32))) (G : Nat → Nat → Int32) (x2 : Int32) (x3 : Int32) (x4 : Int32) (x5 : Int32) (x7 : Int32) (x8 : Int64) (x10 : Int64) (x12 : Int32) (x13 : Int32) (x14 : Int64) (x16 : Int32) (x17 : Int32) (x18 : Int64) : Option (Int32 × (Nat → Nat → Int32)) :=
  p_X6_hope_b272 N J rv204 rv219 G x2 x3 x4 x5 x7 x8 x10 x12 x13 x14 x16 x17 x18 (0 : Int32)
def p_X6_hope_b219 (N : Nat) (J : Nat → Nat → Int64) (rv204 : (Nat → Nat → Int32) → Int32 → Int32 → Int32 → Int32 → Int32 → Int64 → Int64 → Int32 → Int32 → Option (Int32 × (Nat → Nat → Int32))) : Nat → (Nat → Nat → Int32) → (Int32) → (Int32) → (Int32) → (Int32) → (Int32) → (Int64) → (Int64) → (Int32) → (Int32) → (Int64) → (Int32) → Option (Int32 × (Nat → Nat → Int32))
  | 0, _, _, _, _, _, _, _, _, _, _, _, _ => none
  | n + 1, G, x2, x3, x4, x5, x7, x8, x10, x12, x13, x14, x16 => if x5 ≤ x16 then (rv204 G x2 x3 x4 x5 x7 x14 (x10 * (x5.toInt64)) x12 (x13 + 1)) else (if jin (((40 : Int32) * x2) + x16) 160 = true then if (lg_cmp (((((J 14 (((40 : Int32) * x2) + x16).toNatClampNeg).toInt32) + x7).toInt64) * x10) x8) < 0 then (p_X6_hope_b271 N J rv204 (p_X6_hope_b219 N J rv204 n) G x2 x3 x4 x5 x7 x8 x10 x12 x13 x14 x16 ((J 14 (((40 : Int32) * x2) + x16).toNatClampNeg).toInt32) (((((J 14 (((40 : Int32) * x2) + x16).toNatClampNeg).toInt32) + x7).toInt64) * x10)) else (if (lg_cmp (((((J 14 (((40 : Int32) * x2) + x16).toNatClampNeg).toInt32) + x7).toInt64) * x10) (0 : Int64)) < 0 then (p_X6_hope_b271 N J rv204 (p_X6_hope_b219 N J rv204 n) G x2 x3 x4 x5 x7 x8 x10 x12 x13 x14 x16 ((J 14 (((40 : Int32) * x2) + x16).toNatClampNeg).toInt32) (((((J 14 (((40 : Int32) * x2) + x16).toNatClampNeg).toInt32) + x7).toInt64) * x10)) else (p_X6_hope_b272 N J rv204 (p_X6_hope_b219 N J rv204 n) G x2 x3 x4 x5 x7 x8 x10 x12 x13 x14 x16 ((J 14 (((40 : Int32) * x2) + x16).toNatClampNeg).toInt32) (((((J 14 (((40 : Int32) * x2) + x16).toNatClampNeg).toInt32) + x7).toInt64) * x10) (1 : Int32))) else none)
def p_X6_hope_b204 (N : Nat) (J : Nat → Nat → Int64) : Nat → (Nat → Nat → Int32) → (Int32) → (Int32) → (Int32) → (Int32) → (Int32) → (Int64) → (Int64) → (Int32) → (Int32) → Option (Int32 × (Nat → Nat → Int32))
  | 0, _, _, _, _, _, _, _, _, _, _ => none
  | n + 1, G, x2, x3, x4, x5, x7, x8, x10, x12, x13 => if x3 < x13 then (if x4 = 0 then (if x10 = 0 then none else some (((x8 / x10).toInt32), G)) else (if x4 = (1 : Int32) then (if x10 = 0 then none else some (((x8 - x8 / x10 * x10).toInt32), G)) else (some (x12, G)))) else (p_X6_hope_b219 N J (p_X6_hope_b204 N J n) N G x2 x3 x4 x5 x7 x8 x10 (-1 : Int32) x13 (0 : Int64) (0 : Int32))
def p_X6_hope_b151 (N : Nat) (J : Nat → Nat → Int64) (G : Nat → Nat → Int32) (x1 : Int32) (x2 : Int32) (x3 : Int32) (x4 : Int32) (x5 : Int32) (x6 : Int32) : Option (Int32 × (Nat → Nat → Int32)) :=
  if x6 = 0 then ((p_X6_fails N G J (3 : Int32)).bind (fun v34 => jlt v34.2 fun G35 => some (v34.1, G35))) else ((p_X6_of N G J x1 (1 : Int32)).bind (fun v9 => (p_X6_gainOf N G J x1 v9).bind (fun v11 => jlt v11.2 fun G12 => (p_X6_of N G12 J x1 (0 : Int32)).bind (fun v15 => (p_X6_of N G12 J x1 (1 : Int32)).bind (fun v17 => (p_X6_worthTo N G12 J v15 v17).bind (fun v19 => p_X6_hope_b204 N J N G12 x2 x3 x4 x5 (v11.1 - v19) (0 : Int64) (1 : Int64) (-1 : Int32) (1 : Int32)))))))
def p_X6_hope_b112 (N : Nat) (J : Nat → Nat → Int64) : Nat → (Nat → Nat → Int32) → (Int32) → (Int32) → (Int32) → (Int32) → (Int32) → (Int32) → (Int32) → Option (Int32 × (Nat → Nat → Int32))
  | 0, _, _, _, _, _, _, _, _ => none
  | n + 1, G, x1, x2, x3, x4, x5, x6, x7 => if x5 ≤ x7 then (p_X6_hope_b151 N J G x1 x2 x3 x4 x5 x6) else (if x6 = 0 then (p_X6_hope_b151 N J G x1 x2 x3 x4 x5 x6) else (if jin (((40 : Int32) * x2) + x7) 160 = true then (p_X6_within N (J 14 (((40 : Int32) * x2) + x7).toNatClampNeg) (0 : Int64) (9999 : Int64)).bind (fun v40 => (p_X6_hope_b112 N J n) G x1 x2 x3 x4 x5 v40 (x7 + 1)) else none))
def p_X6_hope_b107 (N : Nat) (J : Nat → Nat → Int64) (G : Nat → Nat → Int32) (x1 : Int32) (x2 : Int32) (x3 : Int32) (x4 : Int32) (x5 : Int32) (s0 : Int32) : Option (Int32 × (Nat → Nat → Int32)) :=
  p_X6_hope_b112 N J N G x1 x2 x3 x4 x5 s0 (0 : Int32)
def p_X6_hope_b106 (N : Nat) (J : Nat → Nat → Int64) (G : Nat → Nat → Int32) (x1 : Int32) (x2 : Int32) (x3 : Int32) (x4 : Int32) (x5 : Int32) : Option (Int32 × (Nat → Nat → Int32)) :=
  p_X6_hope_b107 N J G x1 x2 x3 x4 x5 (0 : Int32)
def p_X6_hope_b44 (N : Nat) (J : Nat → Nat → Int64) (G : Nat → Nat → Int32) (x1 : Int32) (x2 : Int32) (x3 : Int32) (x4 : Int32) (s0 : Int32) : Option (Int32 × (Nat → Nat → Int32)) :=
  jlt (jup G 0 5 s0) fun G3 => if (G3 0 5) ≤ 0 then (if jin x2 4 = true then (p_X6_within N (x3.toInt64) (1 : Int64) (6 : Int64)).bind (fun v7 => if v7 = 0 then (p_X6_hope_b106 N J G3 x1 x2 x3 x4 (G3 13 x2.toNatClampNeg)) else ((p_X6_within N (x4.toInt64) (0 : Int64) (2 : Int64)).bind (fun v44 => if v44 = 0 then (p_X6_hope_b106 N J G3 x1 x2 x3 x4 (G3 13 x2.toNatClampNeg)) else ((p_X6_within N ((G3 13 x2.toNatClampNeg).toInt64) (1 : Int64) (6 : Int64)).bind (fun v46 => if v46 = 0 then (p_X6_hope_b106 N J G3 x1 x2 x3 x4 (G3 13 x2.toNatClampNeg)) else (p_X6_hope_b107 N J G3 x1 x2 x3 x4 (G3 13 x2.toNatClampNeg) (1 : Int32))))))) else none) else (some ((0 : Int32), G3))
def p_X6_hope_b17 (N : Nat) (J : Nat → Nat → Int64) (G : Nat → Nat → Int32) (x1 : Int32) (x2 : Int32) (x3 : Int32) (x4 : Int32) : Option (Int32 × (Nat → Nat → Int32)) :=
  p_X6_hope_b44 N J G x1 x2 x3 x4 (1 : Int32)
def p_X6_hope_b39 (N : Nat) (J : Nat → Nat → Int64) (G : Nat → Nat → Int32) (x1 : Int32) (x2 : Int32) (x3 : Int32) (x4 : Int32) : Option (Int32 × (Nat → Nat → Int32)) :=
  p_X6_hope_b44 N J G x1 x2 x3 x4 (2 : Int32)
def p_X6_hope (N : Nat) (G : Nat → Nat → Int32) (J : Nat → Nat → Int64) (p0 : Int32) (p1 : Int32) (p2 : Int32) (p3 : Int32) : Option (Int32 × (Nat → Nat → Int32)) :=
  (p_X6_isDeed N G J (p0.toInt64)).bind (fun v2 => if v2 = 0 then (p_X6_hope_b17 N J G p0 p1 p2 p3) else ((p_X6_isTray N p1).bind (fun v52 => if v52 = 0 then (p_X6_hope_b17 N J G p0 p1 p2 p3) else (if jin p1 4 = true then if (G 12 p1.toNatClampNeg) = (-1 : Int32) then (p_X6_hope_b39 N J G p0 p1 p2 p3) else ((p_X6_isOpen N G J p0).bind (fun v55 => if v55 = 0 then (p_X6_hope_b39 N J G p0 p1 p2 p3) else (p_X6_hope_b44 N J G p0 p1 p2 p3 (0 : Int32)))) else none))))
set_option maxHeartbeats 4000000 in
set_option maxRecDepth 100000 in
theorem t_X6_hope_b313 {X : jX} {po : Option Value → jH → Prop} {px : String → jH → Prop} {sf : Bool} {B9 : Nat} (hM : jMX X kX6_hope RX6 tbX6 21 ⟨5, 0, 0, 121⟩ (some .int) 16) (hp : jPost X sf B9 po px) (N : Nat) (J : Nat → Nat → Int64) (rv204 : (Nat → Nat → Int32) → Int32 → Int32 → Int32 → Int32 → Int32 → Int64 → Int64 → Int32 → Int32 → Option (Int32 × (Nat → Nat → Int32))) (rv219 : (Nat → Nat → Int32) → Int32 → Int32 → Int32 → Int32 → Int32 → Int64 → Int64 → Int32 → Int32 → Int64 → Int32 → Option (Int32 × (Nat → Nat → Int32))) {res : Int32 × (Nat → Nat → Int32)} (ih204 : ∀ (G : Nat → Nat → Int32) (x2 : Int32) (x3 : Int32) (x4 : Int32) (x5 : Int32) (x7 : Int32) (x8 : Int64) (x10 : Int64) (x12 : Int32) (x13 : Int32), rv204 G x2 x3 x4 x5 x7 x8 x10 x12 x13 = some res → JW X 0 0 204 [some (.ref 0), none, some (.int x2), some (.int x3), some (.int x4), some (.int x5), none, some (.int x7), some (.long x8), none, some (.long x10), none, some (.int x12), some (.int x13), none, none, none, none, none, none, none] [] (hMo G J)) (ih219 : ∀ (G : Nat → Nat → Int32) (x2 : Int32) (x3 : Int32) (x4 : Int32) (x5 : Int32) (x7 : Int32) (x8 : Int64) (x10 : Int64) (x12 : Int32) (x13 : Int32) (x14 : Int64) (x16 : Int32), rv219 G x2 x3 x4 x5 x7 x8 x10 x12 x13 x14 x16 = some res → JW X 0 0 219 [some (.ref 0), none, some (.int x2), some (.int x3), some (.int x4), some (.int x5), none, some (.int x7), some (.long x8), none, some (.long x10), none, some (.int x12), some (.int x13), some (.long x14), none, some (.int x16), none, none, none, none] [] (hMo G J)) (G : Nat → Nat → Int32) (x2 : Int32) (x3 : Int32) (x4 : Int32) (x5 : Int32) (x7 : Int32) (x8 : Int64) (x10 : Int64) (x12 : Int32) (x13 : Int32) (x14 : Int64) (x16 : Int32) (h : p_X6_hope_b313 N J rv204 rv219 G x2 x3 x4 x5 x7 x8 x10 x12 x13 x14 x16 = some res) (hq : po (some (.int res.1)) (hMo res.2 J)) : JW X 0 0 313 [some (.ref 0), none, some (.int x2), some (.int x3), some (.int x4), some (.int x5), none, some (.int x7), some (.long x8), none, some (.long x10), none, some (.int x12), some (.int x13), some (.long x14), none, some (.int x16), none, none, none, none] [] (hMo G J) := by
  unfold p_X6_hope_b313 at h
  refine JW.r hM 170 2 (pc2 := 219) (L2 := [some (.ref 0), none, some (.int x2), some (.int x3), some (.int x4), some (.int x5), none, some (.int x7), some (.long x8), none, some (.long x10), none, some (.int x12), some (.int x13), some (.long x14), none, some (.int (x16 + 1)), none, none, none, none]) (st2 := []) (μ2 := (hMo G J)) rfl trivial ?_
  exact ih219 G x2 x3 x4 x5 x7 x8 x10 x12 x13 x14 (x16 + 1) h
set_option maxHeartbeats 4000000 in
set_option maxRecDepth 100000 in
theorem t_X6_hope_b309 {X : jX} {po : Option Value → jH → Prop} {px : String → jH → Prop} {sf : Bool} {B9 : Nat} (hM : jMX X kX6_hope RX6 tbX6 21 ⟨5, 0, 0, 121⟩ (some .int) 16) (hp : jPost X sf B9 po px) (N : Nat) (J : Nat → Nat → Int64) (rv204 : (Nat → Nat → Int32) → Int32 → Int32 → Int32 → Int32 → Int32 → Int64 → Int64 → Int32 → Int32 → Option (Int32 × (Nat → Nat → Int32))) (rv219 : (Nat → Nat → Int32) → Int32 → Int32 → Int32 → Int32 → Int32 → Int64 → Int64 → Int32 → Int32 → Int64 → Int32 → Option (Int32 × (Nat → Nat → Int32))) {res : Int32 × (Nat → Nat → Int32)} (ih204 : ∀ (G : Nat → Nat → Int32) (x2 : Int32) (x3 : Int32) (x4 : Int32) (x5 : Int32) (x7 : Int32) (x8 : Int64) (x10 : Int64) (x12 : Int32) (x13 : Int32), rv204 G x2 x3 x4 x5 x7 x8 x10 x12 x13 = some res → JW X 0 0 204 [some (.ref 0), none, some (.int x2), some (.int x3), some (.int x4), some (.int x5), none, some (.int x7), some (.long x8), none, some (.long x10), none, some (.int x12), some (.int x13), none, none, none, none, none, none, none] [] (hMo G J)) (ih219 : ∀ (G : Nat → Nat → Int32) (x2 : Int32) (x3 : Int32) (x4 : Int32) (x5 : Int32) (x7 : Int32) (x8 : Int64) (x10 : Int64) (x12 : Int32) (x13 : Int32) (x14 : Int64) (x16 : Int32), rv219 G x2 x3 x4 x5 x7 x8 x10 x12 x13 x14 x16 = some res → JW X 0 0 219 [some (.ref 0), none, some (.int x2), some (.int x3), some (.int x4), some (.int x5), none, some (.int x7), some (.long x8), none, some (.long x10), none, some (.int x12), some (.int x13), some (.long x14), none, some (.int x16), none, none, none, none] [] (hMo G J)) (G : Nat → Nat → Int32) (x2 : Int32) (x3 : Int32) (x4 : Int32) (x5 : Int32) (x7 : Int32) (x8 : Int64) (x10 : Int64) (x13 : Int32) (x14 : Int64) (x16 : Int32) (x17 : Int32) (h : p_X6_hope_b309 N J rv204 rv219 G x2 x3 x4 x5 x7 x8 x10 x13 x14 x16 x17 = some res) (hq : po (some (.int res.1)) (hMo res.2 J)) : JW X 0 0 309 [some (.ref 0), none, some (.int x2), some (.int x3), some (.int x4), some (.int x5), none, some (.int x7), some (.long x8), none, some (.long x10), none, none, some (.int x13), some (.long x14), none, some (.int x16), some (.int x17), none, none, none] [] (hMo G J) := by
  unfold p_X6_hope_b309 at h
  refine JW.r hM 168 2 (pc2 := 313) (L2 := [some (.ref 0), none, some (.int x2), some (.int x3), some (.int x4), some (.int x5), none, some (.int x7), some (.long x8), none, some (.long x10), none, some (.int x17), some (.int x13), some (.long x14), none, some (.int x16), some (.int x17), none, none, none]) (st2 := []) (μ2 := (hMo G J)) rfl trivial ?_
  exact JW.mask [true, false, true, true, true, true, false, true, true, false, true, false, true, true, true, false, true, false, false, false, false] (t_X6_hope_b313 hM hp N J rv204 rv219 ih204 ih219 G x2 x3 x4 x5 x7 x8 x10 x17 x13 x14 x16 h hq)
set_option maxHeartbeats 4000000 in
set_option maxRecDepth 100000 in
theorem t_X6_hope_b288 {X : jX} {po : Option Value → jH → Prop} {px : String → jH → Prop} {sf : Bool} {B9 : Nat} (hM : jMX X kX6_hope RX6 tbX6 21 ⟨5, 0, 0, 121⟩ (some .int) 16) (hp : jPost X sf B9 po px) (N : Nat) (J : Nat → Nat → Int64) (rv204 : (Nat → Nat → Int32) → Int32 → Int32 → Int32 → Int32 → Int32 → Int64 → Int64 → Int32 → Int32 → Option (Int32 × (Nat → Nat → Int32))) (rv219 : (Nat → Nat → Int32) → Int32 → Int32 → Int32 → Int32 → Int32 → Int64 → Int64 → Int32 → Int32 → Int64 → Int32 → Option (Int32 × (Nat → Nat → Int32))) {res : Int32 × (Nat → Nat → Int32)} (ih204 : ∀ (G : Nat → Nat → Int32) (x2 : Int32) (x3 : Int32) (x4 : Int32) (x5 : Int32) (x7 : Int32) (x8 : Int64) (x10 : Int64) (x12 : Int32) (x13 : Int32), rv204 G x2 x3 x4 x5 x7 x8 x10 x12 x13 = some res → JW X 0 0 204 [some (.ref 0), none, some (.int x2), some (.int x3), some (.int x4), some (.int x5), none, some (.int x7), some (.long x8), none, some (.long x10), none, some (.int x12), some (.int x13), none, none, none, none, none, none, none] [] (hMo G J)) (ih219 : ∀ (G : Nat → Nat → Int32) (x2 : Int32) (x3 : Int32) (x4 : Int32) (x5 : Int32) (x7 : Int32) (x8 : Int64) (x10 : Int64) (x12 : Int32) (x13 : Int32) (x14 : Int64) (x16 : Int32), rv219 G x2 x3 x4 x5 x7 x8 x10 x12 x13 x14 x16 = some res → JW X 0 0 219 [some (.ref 0), none, some (.int x2), some (.int x3), some (.int x4), some (.int x5), none, some (.int x7), some (.long x8), none, some (.long x10), none, some (.int x12), some (.int x13), some (.long x14), none, some (.int x16), none, none, none, none] [] (hMo G J)) (G : Nat → Nat → Int32) (x2 : Int32) (x3 : Int32) (x4 : Int32) (x5 : Int32) (x7 : Int32) (x8 : Int64) (x10 : Int64) (x12 : Int32) (x13 : Int32) (x16 : Int32) (x17 : Int32) (x20 : Int32) (s0 : Int64) (s1 : Int64) (h : p_X6_hope_b288 N J rv204 rv219 G x2 x3 x4 x5 x7 x8 x10 x12 x13 x16 x17 x20 s0 s1 = some res) (hq : po (some (.int res.1)) (hMo res.2 J)) : JW X 0 0 288 [some (.ref 0), none, some (.int x2), some (.int x3), some (.int x4), some (.int x5), none, some (.int x7), some (.long x8), none, some (.long x10), none, some (.int x12), some (.int x13), none, none, some (.int x16), some (.int x17), none, none, some (.int x20)] [.long s0, .long s1] (hMo G J) := by
  unfold p_X6_hope_b288 at h
  refine JW.r hM 158 3 (pc2 := 293) (L2 := [some (.ref 0), none, some (.int x2), some (.int x3), some (.int x4), some (.int x5), none, some (.int x7), some (.long x8), none, some (.long x10), none, some (.int x12), some (.int x13), some (.long (s1 + s0)), none, some (.int x16), some (.int x17), none, none, some (.int x20)]) (st2 := [.int x20]) (μ2 := (hMo G J)) rfl trivial ?_
  refine js_ifeq (t := 313) hM.1 (jat hM.2.1 161 rfl) rfl (fun hc27 => ?_) (fun hc27 => ?_)
  · have h := (if_pos hc27).symm.trans h
    exact JW.mask [true, false, true, true, true, true, false, true, true, false, true, false, true, true, true, false, true, false, false, false, false] (t_X6_hope_b313 hM hp N J rv204 rv219 ih204 ih219 G x2 x3 x4 x5 x7 x8 x10 x12 x13 (s1 + s0) x16 h hq)
  · have h := (if_neg hc27).symm.trans h
    refine JW.r hM 162 2 (pc2 := 299) (L2 := [some (.ref 0), none, some (.int x2), some (.int x3), some (.int x4), some (.int x5), none, some (.int x7), some (.long x8), none, some (.long x10), none, some (.int x12), some (.int x13), some (.long (s1 + s0)), none, some (.int x16), some (.int x17), none, none, some (.int x20)]) (st2 := [.int (-1 : Int32), .int x12]) (μ2 := (hMo G J)) rfl trivial ?_
    refine js_iceq (t := 309) hM.1 (jat hM.2.1 164 rfl) rfl (fun hc26 => ?_) (fun hc26 => ?_)
    · have h := (if_pos hc26).symm.trans h
      exact JW.mask [true, false, true, true, true, true, false, true, true, false, true, false, false, true, true, false, true, true, false, false, false] (t_X6_hope_b309 hM hp N J rv204 rv219 ih204 ih219 G x2 x3 x4 x5 x7 x8 x10 x13 (s1 + s0) x16 x17 h hq)
    · have h := (if_neg hc26).symm.trans h
      refine JW.r hM 165 2 (pc2 := 306) (L2 := [some (.ref 0), none, some (.int x2), some (.int x3), some (.int x4), some (.int x5), none, some (.int x7), some (.long x8), none, some (.long x10), none, some (.int x12), some (.int x13), some (.long (s1 + s0)), none, some (.int x16), some (.int x17), none, none, some (.int x20)]) (st2 := [.int x12, .int x17]) (μ2 := (hMo G J)) rfl trivial ?_
      refine js_icge (t := 313) hM.1 (jat hM.2.1 167 rfl) rfl (fun hc25 => ?_) (fun hc25 => ?_)
      · have h := (if_pos hc25).symm.trans h
        exact JW.mask [true, false, true, true, true, true, false, true, true, false, true, false, true, true, true, false, true, false, false, false, false] (t_X6_hope_b313 hM hp N J rv204 rv219 ih204 ih219 G x2 x3 x4 x5 x7 x8 x10 x12 x13 (s1 + s0) x16 h hq)
      · have h := (if_neg hc25).symm.trans h
        exact JW.mask [true, false, true, true, true, true, false, true, true, false, true, false, false, true, true, false, true, true, false, false, false] (t_X6_hope_b309 hM hp N J rv204 rv219 ih204 ih219 G x2 x3 x4 x5 x7 x8 x10 x13 (s1 + s0) x16 x17 h hq)
set_option maxHeartbeats 4000000 in
set_option maxRecDepth 100000 in
theorem t_X6_hope_b272 {X : jX} {po : Option Value → jH → Prop} {px : String → jH → Prop} {sf : Bool} {B9 : Nat} (hM : jMX X kX6_hope RX6 tbX6 21 ⟨5, 0, 0, 121⟩ (some .int) 16) (hp : jPost X sf B9 po px) (N : Nat) (J : Nat → Nat → Int64) (rv204 : (Nat → Nat → Int32) → Int32 → Int32 → Int32 → Int32 → Int32 → Int64 → Int64 → Int32 → Int32 → Option (Int32 × (Nat → Nat → Int32))) (rv219 : (Nat → Nat → Int32) → Int32 → Int32 → Int32 → Int32 → Int32 → Int64 → Int64 → Int32 → Int32 → Int64 → Int32 → Option (Int32 × (Nat → Nat → Int32))) {res : Int32 × (Nat → Nat → Int32)} (ih204 : ∀ (G : Nat → Nat → Int32) (x2 : Int32) (x3 : Int32) (x4 : Int32) (x5 : Int32) (x7 : Int32) (x8 : Int64) (x10 : Int64) (x12 : Int32) (x13 : Int32), rv204 G x2 x3 x4 x5 x7 x8 x10 x12 x13 = some res → JW X 0 0 204 [some (.ref 0), none, some (.int x2), some (.int x3), some (.int x4), some (.int x5), none, some (.int x7), some (.long x8), none, some (.long x10), none, some (.int x12), some (.int x13), none, none, none, none, none, none, none] [] (hMo G J)) (ih219 : ∀ (G : Nat → Nat → Int32) (x2 : Int32) (x3 : Int32) (x4 : Int32) (x5 : Int32) (x7 : Int32) (x8 : Int64) (x10 : Int64) (x12 : Int32) (x13 : Int32) (x14 : Int64) (x16 : Int32), rv219 G x2 x3 x4 x5 x7 x8 x10 x12 x13 x14 x16 = some res → JW X 0 0 219 [some (.ref 0), none, some (.int x2), some (.int x3), some (.int x4), some (.int x5), none, some (.int x7), some (.long x8), none, some (.long x10), none, some (.int x12), some (.int x13), some (.long x14), none, some (.int x16), none, none, none, none] [] (hMo G J)) (G : Nat → Nat → Int32) (x2 : Int32) (x3 : Int32) (x4 : Int32) (x5 : Int32) (x7 : Int32) (x8 : Int64) (x10 : Int64) (x12 : Int32) (x13 : Int32) (x14 : Int64) (x16 : Int32) (x17 : Int32) (x18 : Int64) (s0 : Int32) (h : p_X6_hope_b272 N J rv204 rv219 G x2 x3 x4 x5 x7 x8 x10 x12 x13 x14 x16 x17 x18 s0 = some res) (hq : po (some (.int res.1)) (hMo res.2 J)) : JW X 0 0 272 [some (.ref 0), none, some (.int x2), some (.int x3), some (.int x4), some (.int x5), none, some (.int x7), some (.long x8), none, some (.long x10), none, some (.int x12), some (.int x13), some (.long x14), none, some (.int x16), some (.int x17), some (.long x18), none, none] [.int s0] (hMo G J) := by
  unfold p_X6_hope_b272 at h
  refine JW.r hM 151 3 (pc2 := 278) (L2 := [some (.ref 0), none, some (.int x2), some (.int x3), some (.int x4), some (.int x5), none, some (.int x7), some (.long x8), none, some (.long x10), none, some (.int x12), some (.int x13), some (.long x14), none, some (.int x16), some (.int x17), some (.long x18), none, some (.int s0)]) (st2 := [.int s0, .long x14]) (μ2 := (hMo G J)) rfl trivial ?_
  refine js_ifeq (t := 286) hM.1 (jat hM.2.1 154 rfl) rfl (fun hc28 => ?_) (fun hc28 => ?_)
  · have h := (if_pos hc28).symm.trans h
    refine JW.r hM 157 1 (pc2 := 288) (L2 := [some (.ref 0), none, some (.int x2), some (.int x3), some (.int x4), some (.int x5), none, some (.int x7), some (.long x8), none, some (.long x10), none, some (.int x12), some (.int x13), some (.long x14), none, some (.int x16), some (.int x17), some (.long x18), none, some (.int s0)]) (st2 := [.long x8, .long x14]) (μ2 := (hMo G J)) rfl trivial ?_
    exact JW.mask [true, false, true, true, true, true, false, true, true, false, true, false, true, true, false, false, true, true, false, false, true] (t_X6_hope_b288 hM hp N J rv204 rv219 ih204 ih219 G x2 x3 x4 x5 x7 x8 x10 x12 x13 x16 x17 s0 x8 x14 h hq)
  · have h := (if_neg hc28).symm.trans h
    refine JW.r hM 155 2 (pc2 := 288) (L2 := [some (.ref 0), none, some (.int x2), some (.int x3), some (.int x4), some (.int x5), none, some (.int x7), some (.long x8), none, some (.long x10), none, some (.int x12), some (.int x13), some (.long x14), none, some (.int x16), some (.int x17), some (.long x18), none, some (.int s0)]) (st2 := [.long x18, .long x14]) (μ2 := (hMo G J)) rfl trivial ?_
    exact JW.mask [true, false, true, true, true, true, false, true, true, false, true, false, true, true, false, false, true, true, false, false, true] (t_X6_hope_b288 hM hp N J rv204 rv219 ih204 ih219 G x2 x3 x4 x5 x7 x8 x10 x12 x13 x16 x17 s0 x18 x14 h hq)
set_option maxHeartbeats 4000000 in
set_option maxRecDepth 100000 in
theorem t_X6_hope_b271 {X : jX} {po : Option Value → jH → Prop} {px : String → jH → Prop} {sf : Bool} {B9 : Nat} (hM : jMX X kX6_hope RX6 tbX6 21 ⟨5, 0, 0, 121⟩ (some .int) 16) (hp : jPost X sf B9 po px) (N : Nat) (J : Nat → Nat → Int64) (rv204 : (Nat → Nat → Int32) → Int32 → Int32 → Int32 → Int32 → Int32 → Int64 → Int64 → Int32 → Int32 → Option (Int32 × (Nat → Nat → Int32))) (rv219 : (Nat → Nat → Int32) → Int32 → Int32 → Int32 → Int32 → Int32 → Int64 → Int64 → Int32 → Int32 → Int64 → Int32 → Option (Int32 × (Nat → Nat → Int32))) {res : Int32 × (Nat → Nat → Int32)} (ih204 : ∀ (G : Nat → Nat → Int32) (x2 : Int32) (x3 : Int32) (x4 : Int32) (x5 : Int32) (x7 : Int32) (x8 : Int64) (x10 : Int64) (x12 : Int32) (x13 : Int32), rv204 G x2 x3 x4 x5 x7 x8 x10 x12 x13 = some res → JW X 0 0 204 [some (.ref 0), none, some (.int x2), some (.int x3), some (.int x4), some (.int x5), none, some (.int x7), some (.long x8), none, some (.long x10), none, some (.int x12), some (.int x13), none, none, none, none, none, none, none] [] (hMo G J)) (ih219 : ∀ (G : Nat → Nat → Int32) (x2 : Int32) (x3 : Int32) (x4 : Int32) (x5 : Int32) (x7 : Int32) (x8 : Int64) (x10 : Int64) (x12 : Int32) (x13 : Int32) (x14 : Int64) (x16 : Int32), rv219 G x2 x3 x4 x5 x7 x8 x10 x12 x13 x14 x16 = some res → JW X 0 0 219 [some (.ref 0), none, some (.int x2), some (.int x3), some (.int x4), some (.int x5), none, some (.int x7), some (.long x8), none, some (.long x10), none, some (.int x12), some (.int x13), some (.long x14), none, some (.int x16), none, none, none, none] [] (hMo G J)) (G : Nat → Nat → Int32) (x2 : Int32) (x3 : Int32) (x4 : Int32) (x5 : Int32) (x7 : Int32) (x8 : Int64) (x10 : Int64) (x12 : Int32) (x13 : Int32) (x14 : Int64) (x16 : Int32) (x17 : Int32) (x18 : Int64) (h : p_X6_hope_b271 N J rv204 rv219 G x2 x3 x4 x5 x7 x8 x10 x12 x13 x14 x16 x17 x18 = some res) (hq : po (some (.int res.1)) (hMo res.2 J)) : JW X 0 0 271 [some (.ref 0), none, some (.int x2), some (.int x3), some (.int x4), some (.int x5), none, some (.int x7), some (.long x8), none, some (.long x10), none, some (.int x12), some (.int x13), some (.long x14), none, some (.int x16), some (.int x17), some (.long x18), none, none] [] (hMo G J) := by
  unfold p_X6_hope_b271 at h
  refine JW.r hM 150 1 (pc2 := 272) (L2 := [some (.ref 0), none, some (.int x2), some (.int x3), some (.int x4), some (.int x5), none, some (.int x7), some (.long x8), none, some (.long x10), none, some (.int x12), some (.int x13), some (.long x14), none, some (.int x16), some (.int x17), some (.long x18), none, none]) (st2 := [.int (0 : Int32)]) (μ2 := (hMo G J)) rfl trivial ?_
  exact t_X6_hope_b272 hM hp N J rv204 rv219 ih204 ih219 G x2 x3 x4 x5 x7 x8 x10 x12 x13 x14 x16 x17 x18 (0 : Int32) h hq
set_option maxHeartbeats 4000000 in
set_option maxRecDepth 100000 in
theorem t_X6_hope_b219 {X : jX} {po : Option Value → jH → Prop} {px : String → jH → Prop} {sf : Bool} {B9 : Nat} (hM : jMX X kX6_hope RX6 tbX6 21 ⟨5, 0, 0, 121⟩ (some .int) 16) (hp : jPost X sf B9 po px) (N : Nat) (J : Nat → Nat → Int64) (rv204 : (Nat → Nat → Int32) → Int32 → Int32 → Int32 → Int32 → Int32 → Int64 → Int64 → Int32 → Int32 → Option (Int32 × (Nat → Nat → Int32))) {res : Int32 × (Nat → Nat → Int32)} (ih204 : ∀ (G : Nat → Nat → Int32) (x2 : Int32) (x3 : Int32) (x4 : Int32) (x5 : Int32) (x7 : Int32) (x8 : Int64) (x10 : Int64) (x12 : Int32) (x13 : Int32), rv204 G x2 x3 x4 x5 x7 x8 x10 x12 x13 = some res → JW X 0 0 204 [some (.ref 0), none, some (.int x2), some (.int x3), some (.int x4), some (.int x5), none, some (.int x7), some (.long x8), none, some (.long x10), none, some (.int x12), some (.int x13), none, none, none, none, none, none, none] [] (hMo G J)) : ∀ (n : Nat) (G : Nat → Nat → Int32) (x2 : Int32) (x3 : Int32) (x4 : Int32) (x5 : Int32) (x7 : Int32) (x8 : Int64) (x10 : Int64) (x12 : Int32) (x13 : Int32) (x14 : Int64) (x16 : Int32) (h : p_X6_hope_b219 N J rv204 n G x2 x3 x4 x5 x7 x8 x10 x12 x13 x14 x16 = some res) (hq : po (some (.int res.1)) (hMo res.2 J)), JW X 0 0 219 [some (.ref 0), none, some (.int x2), some (.int x3), some (.int x4), some (.int x5), none, some (.int x7), some (.long x8), none, some (.long x10), none, some (.int x12), some (.int x13), some (.long x14), none, some (.int x16), none, none, none, none] [] (hMo G J) := by
  intro n
  induction n with
  | zero =>
    intro G x2 x3 x4 x5 x7 x8 x10 x12 x13 x14 x16 h hq
    cases (show (none : Option (Int32 × (Nat → Nat → Int32))) = some res from h)
  | succ n ih219 =>
    intro G x2 x3 x4 x5 x7 x8 x10 x12 x13 x14 x16 h hq
    have ih219 := fun G x2 x3 x4 x5 x7 x8 x10 x12 x13 x14 x16 h9 => ih219 G x2 x3 x4 x5 x7 x8 x10 x12 x13 x14 x16 h9 hq
    rw [p_X6_hope_b219] at h
    refine JW.r hM 120 2 (pc2 := 223) (L2 := [some (.ref 0), none, some (.int x2), some (.int x3), some (.int x4), some (.int x5), none, some (.int x7), some (.long x8), none, some (.long x10), none, some (.int x12), some (.int x13), some (.long x14), none, some (.int x16), none, none, none, none]) (st2 := [.int x5, .int x16]) (μ2 := (hMo G J)) rfl trivial ?_
    refine js_icge (t := 319) hM.1 (jat hM.2.1 122 rfl) rfl (fun hc31 => ?_) (fun hc31 => ?_)
    · have h := (if_pos hc31).symm.trans h
      refine JW.r hM 172 9 (pc2 := 204) (L2 := [some (.ref 0), none, some (.int x2), some (.int x3), some (.int x4), some (.int x5), none, some (.int x7), some (.long x14), none, some (.long (x10 * (x5.toInt64))), none, some (.int x12), some (.int (x13 + 1)), some (.long x14), none, some (.int x16), none, none, none, none]) (st2 := []) (μ2 := (hMo G J)) rfl trivial ?_
      exact JW.mask [true, false, true, true, true, true, false, true, true, false, true, false, true, true, false, false, false, false, false, false, false] (ih204 G x2 x3 x4 x5 x7 x14 (x10 * (x5.toInt64)) x12 (x13 + 1) h)
    · have h := (if_neg hc31).symm.trans h
      obtain ⟨g24, h⟩ := jg h
      refine JW.r hM 123 20 (pc2 := 257) (L2 := [some (.ref 0), none, some (.int x2), some (.int x3), some (.int x4), some (.int x5), none, some (.int x7), some (.long x8), none, some (.long x10), none, some (.int x12), some (.int x13), some (.long x14), none, some (.int x16), some (.int ((J 14 (((40 : Int32) * x2) + x16).toNatClampNeg).toInt32)), some (.long (((((J 14 (((40 : Int32) * x2) + x16).toNatClampNeg).toInt32) + x7).toInt64) * x10)), none, none]) (st2 := [.int (lg_cmp (((((J 14 (((40 : Int32) * x2) + x16).toNatClampNeg).toInt32) + x7).toInt64) * x10) x8)]) (μ2 := (hMo G J)) rfl ⟨g24, trivial⟩ ?_
      refine js_iflt (t := 271) hM.1 (jat hM.2.1 143 rfl) rfl (fun hc30 => ?_) (fun hc30 => ?_)
      · have h := (if_pos hc30).symm.trans h
        exact t_X6_hope_b271 hM hp N J rv204 (p_X6_hope_b219 N J rv204 n) ih204 ih219 G x2 x3 x4 x5 x7 x8 x10 x12 x13 x14 x16 ((J 14 (((40 : Int32) * x2) + x16).toNatClampNeg).toInt32) (((((J 14 (((40 : Int32) * x2) + x16).toNatClampNeg).toInt32) + x7).toInt64) * x10) h hq
      · have h := (if_neg hc30).symm.trans h
        refine JW.r hM 144 3 (pc2 := 264) (L2 := [some (.ref 0), none, some (.int x2), some (.int x3), some (.int x4), some (.int x5), none, some (.int x7), some (.long x8), none, some (.long x10), none, some (.int x12), some (.int x13), some (.long x14), none, some (.int x16), some (.int ((J 14 (((40 : Int32) * x2) + x16).toNatClampNeg).toInt32)), some (.long (((((J 14 (((40 : Int32) * x2) + x16).toNatClampNeg).toInt32) + x7).toInt64) * x10)), none, none]) (st2 := [.int (lg_cmp (((((J 14 (((40 : Int32) * x2) + x16).toNatClampNeg).toInt32) + x7).toInt64) * x10) (0 : Int64))]) (μ2 := (hMo G J)) rfl trivial ?_
        refine js_iflt (t := 271) hM.1 (jat hM.2.1 147 rfl) rfl (fun hc29 => ?_) (fun hc29 => ?_)
        · have h := (if_pos hc29).symm.trans h
          exact t_X6_hope_b271 hM hp N J rv204 (p_X6_hope_b219 N J rv204 n) ih204 ih219 G x2 x3 x4 x5 x7 x8 x10 x12 x13 x14 x16 ((J 14 (((40 : Int32) * x2) + x16).toNatClampNeg).toInt32) (((((J 14 (((40 : Int32) * x2) + x16).toNatClampNeg).toInt32) + x7).toInt64) * x10) h hq
        · have h := (if_neg hc29).symm.trans h
          refine JW.r hM 148 2 (pc2 := 272) (L2 := [some (.ref 0), none, some (.int x2), some (.int x3), some (.int x4), some (.int x5), none, some (.int x7), some (.long x8), none, some (.long x10), none, some (.int x12), some (.int x13), some (.long x14), none, some (.int x16), some (.int ((J 14 (((40 : Int32) * x2) + x16).toNatClampNeg).toInt32)), some (.long (((((J 14 (((40 : Int32) * x2) + x16).toNatClampNeg).toInt32) + x7).toInt64) * x10)), none, none]) (st2 := [.int (1 : Int32)]) (μ2 := (hMo G J)) rfl trivial ?_
          exact t_X6_hope_b272 hM hp N J rv204 (p_X6_hope_b219 N J rv204 n) ih204 ih219 G x2 x3 x4 x5 x7 x8 x10 x12 x13 x14 x16 ((J 14 (((40 : Int32) * x2) + x16).toNatClampNeg).toInt32) (((((J 14 (((40 : Int32) * x2) + x16).toNatClampNeg).toInt32) + x7).toInt64) * x10) (1 : Int32) h hq
set_option maxHeartbeats 4000000 in
set_option maxRecDepth 100000 in
theorem t_X6_hope_b204 {X : jX} {po : Option Value → jH → Prop} {px : String → jH → Prop} {sf : Bool} {B9 : Nat} (hM : jMX X kX6_hope RX6 tbX6 21 ⟨5, 0, 0, 121⟩ (some .int) 16) (hp : jPost X sf B9 po px) (N : Nat) (J : Nat → Nat → Int64) {res : Int32 × (Nat → Nat → Int32)} : ∀ (n : Nat) (G : Nat → Nat → Int32) (x2 : Int32) (x3 : Int32) (x4 : Int32) (x5 : Int32) (x7 : Int32) (x8 : Int64) (x10 : Int64) (x12 : Int32) (x13 : Int32) (h : p_X6_hope_b204 N J n G x2 x3 x4 x5 x7 x8 x10 x12 x13 = some res) (hq : po (some (.int res.1)) (hMo res.2 J)), JW X 0 0 204 [some (.ref 0), none, some (.int x2), some (.int x3), some (.int x4), some (.int x5), none, some (.int x7), some (.long x8), none, some (.long x10), none, some (.int x12), some (.int x13), none, none, none, none, none, none, none] [] (hMo G J) := by
  intro n
  induction n with
  | zero =>
    intro G x2 x3 x4 x5 x7 x8 x10 x12 x13 h hq
    cases (show (none : Option (Int32 × (Nat → Nat → Int32))) = some res from h)
  | succ n ih204 =>
    intro G x2 x3 x4 x5 x7 x8 x10 x12 x13 h hq
    have ih204 := fun G x2 x3 x4 x5 x7 x8 x10 x12 x13 h9 => ih204 G x2 x3 x4 x5 x7 x8 x10 x12 x13 h9 hq
    rw [p_X6_hope_b204] at h
    refine JW.r hM 111 2 (pc2 := 207) (L2 := [some (.ref 0), none, some (.int x2), some (.int x3), some (.int x4), some (.int x5), none, some (.int x7), some (.long x8), none, some (.long x10), none, some (.int x12), some (.int x13), none, none, none, none, none, none, none]) (st2 := [.int x3, .int x13]) (μ2 := (hMo G J)) rfl trivial ?_
    refine js_icgt (t := 337) hM.1 (jat hM.2.1 113 rfl) rfl (fun hc32 => ?_) (fun hc32 => ?_)
    · have h := (if_pos hc32).symm.trans h
      refine JW.r hM 181 1 (pc2 := 339) (L2 := [some (.ref 0), none, some (.int x2), some (.int x3), some (.int x4), some (.int x5), none, some (.int x7), some (.long x8), none, some (.long x10), none, some (.int x12), some (.int x13), none, none, none, none, none, none, none]) (st2 := [.int x4]) (μ2 := (hMo G J)) rfl trivial ?_
      refine js_ifne (t := 351) hM.1 (jat hM.2.1 182 rfl) rfl (fun hc23 => ?_) (fun hc23 => ?_)
      · have h := (if_neg hc23).symm.trans h
        refine JW.r hM 188 2 (pc2 := 354) (L2 := [some (.ref 0), none, some (.int x2), some (.int x3), some (.int x4), some (.int x5), none, some (.int x7), some (.long x8), none, some (.long x10), none, some (.int x12), some (.int x13), none, none, none, none, none, none, none]) (st2 := [.int (1 : Int32), .int x4]) (μ2 := (hMo G J)) rfl trivial ?_
        refine js_icne (t := 366) hM.1 (jat hM.2.1 190 rfl) rfl (fun hc21 => ?_) (fun hc21 => ?_)
        · have h := (if_neg hc21).symm.trans h
          refine JW.r hM 196 1 (pc2 := 368) (L2 := [some (.ref 0), none, some (.int x2), some (.int x3), some (.int x4), some (.int x5), none, some (.int x7), some (.long x8), none, some (.long x10), none, some (.int x12), some (.int x13), none, none, none, none, none, none, none]) (st2 := [.int x12]) (μ2 := (hMo G J)) rfl trivial ?_
          obtain rfl := Option.some.inj h
          exact js_iret hM.1 hp hM.2.2.2.2.2.2.2.1 (by rw [hM.2.2.2.2.2.1]; exact Nat.le_of_ble_eq_true rfl) (by rw [hM.2.2.2.2.2.2.1]; exact Nat.le_of_ble_eq_true rfl) (jat hM.2.1 197 rfl) hq
        · have h := (if_pos hc21).symm.trans h
          obtain ⟨g20, h⟩ := jgn h
          refine JW.r hM 191 5 (pc2 := 368) (L2 := [some (.ref 0), none, some (.int x2), some (.int x3), some (.int x4), some (.int x5), none, some (.int x7), some (.long x8), none, some (.long x10), none, some (.int x12), some (.int x13), none, none, none, none, none, none, none]) (st2 := [.int ((x8 - x8 / x10 * x10).toInt32)]) (μ2 := (hMo G J)) rfl ⟨g20, trivial⟩ ?_
          obtain rfl := Option.some.inj h
          exact js_iret hM.1 hp hM.2.2.2.2.2.2.2.1 (by rw [hM.2.2.2.2.2.1]; exact Nat.le_of_ble_eq_true rfl) (by rw [hM.2.2.2.2.2.2.1]; exact Nat.le_of_ble_eq_true rfl) (jat hM.2.1 197 rfl) hq
      · have h := (if_pos hc23).symm.trans h
        obtain ⟨g22, h⟩ := jgn h
        refine JW.r hM 183 5 (pc2 := 368) (L2 := [some (.ref 0), none, some (.int x2), some (.int x3), some (.int x4), some (.int x5), none, some (.int x7), some (.long x8), none, some (.long x10), none, some (.int x12), some (.int x13), none, none, none, none, none, none, none]) (st2 := [.int ((x8 / x10).toInt32)]) (μ2 := (hMo G J)) rfl ⟨g22, trivial⟩ ?_
        obtain rfl := Option.some.inj h
        exact js_iret hM.1 hp hM.2.2.2.2.2.2.2.1 (by rw [hM.2.2.2.2.2.1]; exact Nat.le_of_ble_eq_true rfl) (by rw [hM.2.2.2.2.2.2.1]; exact Nat.le_of_ble_eq_true rfl) (jat hM.2.1 197 rfl) hq
    · have h := (if_neg hc32).symm.trans h
      refine JW.r hM 114 6 (pc2 := 219) (L2 := [some (.ref 0), none, some (.int x2), some (.int x3), some (.int x4), some (.int x5), none, some (.int x7), some (.long x8), none, some (.long x10), none, some (.int (-1 : Int32)), some (.int x13), some (.long (0 : Int64)), none, some (.int (0 : Int32)), none, none, none, none]) (st2 := []) (μ2 := (hMo G J)) rfl trivial ?_
      exact t_X6_hope_b219 hM hp N J (p_X6_hope_b204 N J n) ih204 N G x2 x3 x4 x5 x7 x8 x10 (-1 : Int32) x13 (0 : Int64) (0 : Int32) h hq
set_option maxHeartbeats 4000000 in
set_option maxRecDepth 100000 in
theorem t_X6_hope_b151 {X : jX} {po : Option Value → jH → Prop} {px : String → jH → Prop} {sf : Bool} {B9 : Nat} (hM : jMX X kX6_hope RX6 tbX6 21 ⟨5, 0, 0, 121⟩ (some .int) 16) (hp : jPost X sf B9 po px) (N : Nat) (J : Nat → Nat → Int64) {res : Int32 × (Nat → Nat → Int32)} (G : Nat → Nat → Int32) (x1 : Int32) (x2 : Int32) (x3 : Int32) (x4 : Int32) (x5 : Int32) (x6 : Int32) (h : p_X6_hope_b151 N J G x1 x2 x3 x4 x5 x6 = some res) (hq : po (some (.int res.1)) (hMo res.2 J)) : JW X 0 0 151 [some (.ref 0), some (.int x1), some (.int x2), some (.int x3), some (.int x4), some (.int x5), some (.int x6), none, none, none, none, none, none, none, none, none, none, none, none, none, none] [] (hMo G J) := by
  unfold p_X6_hope_b151 at h
  refine JW.r hM 78 1 (pc2 := 153) (L2 := [some (.ref 0), some (.int x1), some (.int x2), some (.int x3), some (.int x4), some (.int x5), some (.int x6), none, none, none, none, none, none, none, none, none, none, none, none, none, none]) (st2 := [.int x6]) (μ2 := (hMo G J)) rfl trivial ?_
  refine js_ifne (t := 162) hM.1 (jat hM.2.1 79 rfl) rfl (fun hc37 => ?_) (fun hc37 => ?_)
  · have h := (if_neg hc37).symm.trans h
    refine JW.r hM 84 5 (pc2 := 167) (L2 := [some (.ref 0), some (.int x1), some (.int x2), some (.int x3), some (.int x4), some (.int x5), some (.int x6), none, none, none, none, none, none, none, none, none, none, none, none, none, none]) (st2 := [.int (1 : Int32), .int x1, .ref 0, .int x1, .ref 0]) (μ2 := (hMo G J)) rfl trivial ?_
    obtain ⟨v9, hv8, h⟩ := jbd h
    refine JW.cV (v := some (.int v9)) hM (m_X6_of (jVX X) hM.1.2.2.2.2.2.2.2.2.2.1 N G J x1 (1 : Int32) v9 hv8) (sb_Mo_Mo_0 G J) (bi_Mo_Mo_0 G J) rfl rfl rfl kc_X6_208 rfl rfl rfl rfl rfl (jat hM.2.1 89 rfl) (st := [.int x1, .ref 0]) rfl ?_
    show JW X 0 0 170 [some (.ref 0), some (.int x1), some (.int x2), some (.int x3), some (.int x4), some (.int x5), some (.int x6), none, none, none, none, none, none, none, none, none, none, none, none, none, none] [.int v9, .int x1, .ref 0] (hMo G J)
    obtain ⟨v11, hv10, h⟩ := jbd h
    refine JW.cV (v := some (.int v11.1)) hM (m_X6_gainOf (jVX X) hM.1.2.2.2.2.2.2.2.2.2.1 N G J x1 v9 v11 hv10) (sb_Mo_Mo_0 G J) (bk_Mo_Mo_0 G J v11.2 J) rfl rfl rfl kc_X6_291 rfl rfl rfl rfl rfl (jat hM.2.1 90 rfl) (st := []) rfl ?_
    show JW X 0 0 173 [some (.ref 0), some (.int x1), some (.int x2), some (.int x3), some (.int x4), some (.int x5), some (.int x6), none, none, none, none, none, none, none, none, none, none, none, none, none, none] [.int v11.1] (hMo v11.2 J)
    obtain ⟨G12, e13, h⟩ := jlE h
    rw [e13]
    refine JW.r hM 91 4 (pc2 := 177) (L2 := [some (.ref 0), some (.int x1), some (.int x2), some (.int x3), some (.int x4), some (.int x5), some (.int x6), none, none, none, none, none, none, none, none, none, none, none, none, none, none]) (st2 := [.int (0 : Int32), .int x1, .ref 0, .ref 0, .int v11.1]) (μ2 := (hMo G12 J)) rfl trivial ?_
    obtain ⟨v15, hv14, h⟩ := jbd h
    refine JW.cV (v := some (.int v15)) hM (m_X6_of (jVX X) hM.1.2.2.2.2.2.2.2.2.2.1 N G12 J x1 (0 : Int32) v15 hv14) (sb_Mo_Mo_0 G12 J) (bi_Mo_Mo_0 G12 J) rfl rfl rfl kc_X6_208 rfl rfl rfl rfl rfl (jat hM.2.1 95 rfl) (st := [.ref 0, .int v11.1]) rfl ?_
    show JW X 0 0 180 [some (.ref 0), some (.int x1), some (.int x2), some (.int x3), some (.int x4), some (.int x5), some (.int x6), none, none, none, none, none, none, none, none, none, none, none, none, none, none] [.int v15, .ref 0, .int v11.1] (hMo G12 J)
    refine JW.r hM 96 3 (pc2 := 183) (L2 := [some (.ref 0), some (.int x1), some (.int x2), some (.int x3), some (.int x4), some (.int x5), some (.int x6), none, none, none, none, none, none, none, none, none, none, none, none, none, none]) (st2 := [.int (1 : Int32), .int x1, .ref 0, .int v15, .ref 0, .int v11.1]) (μ2 := (hMo G12 J)) rfl trivial ?_
    obtain ⟨v17, hv16, h⟩ := jbd h
    refine JW.cV (v := some (.int v17)) hM (m_X6_of (jVX X) hM.1.2.2.2.2.2.2.2.2.2.1 N G12 J x1 (1 : Int32) v17 hv16) (sb_Mo_Mo_0 G12 J) (bi_Mo_Mo_0 G12 J) rfl rfl rfl kc_X6_208 rfl rfl rfl rfl rfl (jat hM.2.1 99 rfl) (st := [.int v15, .ref 0, .int v11.1]) rfl ?_
    show JW X 0 0 186 [some (.ref 0), some (.int x1), some (.int x2), some (.int x3), some (.int x4), some (.int x5), some (.int x6), none, none, none, none, none, none, none, none, none, none, none, none, none, none] [.int v17, .int v15, .ref 0, .int v11.1] (hMo G12 J)
    obtain ⟨v19, hv18, h⟩ := jbd h
    refine JW.cV (v := some (.int v19)) hM (m_X6_worthTo (jVX X) hM.1.2.2.2.2.2.2.2.2.2.1 N G12 J v15 v17 v19 hv18) (sb_Mo_Mo_0 G12 J) (bi_Mo_Mo_0 G12 J) rfl rfl rfl kc_X6_183 rfl rfl rfl rfl rfl (jat hM.2.1 100 rfl) (st := [.int v11.1]) rfl ?_
    show JW X 0 0 189 [some (.ref 0), some (.int x1), some (.int x2), some (.int x3), some (.int x4), some (.int x5), some (.int x6), none, none, none, none, none, none, none, none, none, none, none, none, none, none] [.int v19, .int v11.1] (hMo G12 J)
    refine JW.r hM 101 10 (pc2 := 204) (L2 := [some (.ref 0), some (.int x1), some (.int x2), some (.int x3), some (.int x4), some (.int x5), some (.int x6), some (.int (v11.1 - v19)), some (.long (0 : Int64)), none, some (.long (1 : Int64)), none, some (.int (-1 : Int32)), some (.int (1 : Int32)), none, none, none, none, none, none, none]) (st2 := []) (μ2 := (hMo G12 J)) rfl trivial ?_
    exact JW.mask [true, false, true, true, true, true, false, true, true, false, true, false, true, true, false, false, false, false, false, false, false] (t_X6_hope_b204 hM hp N J N G12 x2 x3 x4 x5 (v11.1 - v19) (0 : Int64) (1 : Int64) (-1 : Int32) (1 : Int32) h hq)
  · have h := (if_pos hc37).symm.trans h
    refine JW.r hM 80 2 (pc2 := 158) (L2 := [some (.ref 0), some (.int x1), some (.int x2), some (.int x3), some (.int x4), some (.int x5), some (.int x6), none, none, none, none, none, none, none, none, none, none, none, none, none, none]) (st2 := [.int (3 : Int32), .ref 0]) (μ2 := (hMo G J)) rfl trivial ?_
    obtain ⟨v34, hv33, h⟩ := jbd h
    refine JW.cV (v := some (.int v34.1)) hM (m_X6_fails (jVX X) hM.1.2.2.2.2.2.2.2.2.2.1 N G J (3 : Int32) v34 hv33) (sb_Mo_Mo_0 G J) (bk_Mo_Mo_0 G J v34.2 J) rfl rfl rfl kc_X6_170 rfl rfl rfl rfl rfl (jat hM.2.1 82 rfl) (st := []) rfl ?_
    show JW X 0 0 161 [some (.ref 0), some (.int x1), some (.int x2), some (.int x3), some (.int x4), some (.int x5), some (.int x6), none, none, none, none, none, none, none, none, none, none, none, none, none, none] [.int v34.1] (hMo v34.2 J)
    obtain ⟨G35, e36, h⟩ := jlE h
    rw [e36]
    obtain rfl := Option.some.inj h
    exact js_iret hM.1 hp hM.2.2.2.2.2.2.2.1 (by rw [hM.2.2.2.2.2.1]; exact Nat.le_of_ble_eq_true rfl) (by rw [hM.2.2.2.2.2.2.1]; exact Nat.le_of_ble_eq_true rfl) (jat hM.2.1 83 rfl) hq
set_option maxHeartbeats 4000000 in
set_option maxRecDepth 100000 in
theorem t_X6_hope_b112 {X : jX} {po : Option Value → jH → Prop} {px : String → jH → Prop} {sf : Bool} {B9 : Nat} (hM : jMX X kX6_hope RX6 tbX6 21 ⟨5, 0, 0, 121⟩ (some .int) 16) (hp : jPost X sf B9 po px) (N : Nat) (J : Nat → Nat → Int64) {res : Int32 × (Nat → Nat → Int32)} : ∀ (n : Nat) (G : Nat → Nat → Int32) (x1 : Int32) (x2 : Int32) (x3 : Int32) (x4 : Int32) (x5 : Int32) (x6 : Int32) (x7 : Int32) (h : p_X6_hope_b112 N J n G x1 x2 x3 x4 x5 x6 x7 = some res) (hq : po (some (.int res.1)) (hMo res.2 J)), JW X 0 0 112 [some (.ref 0), some (.int x1), some (.int x2), some (.int x3), some (.int x4), some (.int x5), some (.int x6), some (.int x7), none, none, none, none, none, none, none, none, none, none, none, none, none] [] (hMo G J) := by
  intro n
  induction n with
  | zero =>
    intro G x1 x2 x3 x4 x5 x6 x7 h hq
    cases (show (none : Option (Int32 × (Nat → Nat → Int32))) = some res from h)
  | succ n ih112 =>
    intro G x1 x2 x3 x4 x5 x6 x7 h hq
    have ih112 := fun G x1 x2 x3 x4 x5 x6 x7 h9 => ih112 G x1 x2 x3 x4 x5 x6 x7 h9 hq
    rw [p_X6_hope_b112] at h
    refine JW.r hM 59 2 (pc2 := 116) (L2 := [some (.ref 0), some (.int x1), some (.int x2), some (.int x3), some (.int x4), some (.int x5), some (.int x6), some (.int x7), none, none, none, none, none, none, none, none, none, none, none, none, none]) (st2 := [.int x5, .int x7]) (μ2 := (hMo G J)) rfl trivial ?_
    refine js_icge (t := 151) hM.1 (jat hM.2.1 61 rfl) rfl (fun hc42 => ?_) (fun hc42 => ?_)
    · have h := (if_pos hc42).symm.trans h
      exact JW.mask [true, true, true, true, true, true, true, false, false, false, false, false, false, false, false, false, false, false, false, false, false] (t_X6_hope_b151 hM hp N J G x1 x2 x3 x4 x5 x6 h hq)
    · have h := (if_neg hc42).symm.trans h
      refine JW.r hM 62 1 (pc2 := 121) (L2 := [some (.ref 0), some (.int x1), some (.int x2), some (.int x3), some (.int x4), some (.int x5), some (.int x6), some (.int x7), none, none, none, none, none, none, none, none, none, none, none, none, none]) (st2 := [.int x6]) (μ2 := (hMo G J)) rfl trivial ?_
      refine js_ifeq (t := 151) hM.1 (jat hM.2.1 63 rfl) rfl (fun hc41 => ?_) (fun hc41 => ?_)
      · have h := (if_pos hc41).symm.trans h
        exact JW.mask [true, true, true, true, true, true, true, false, false, false, false, false, false, false, false, false, false, false, false, false, false] (t_X6_hope_b151 hM hp N J G x1 x2 x3 x4 x5 x6 h hq)
      · have h := (if_neg hc41).symm.trans h
        obtain ⟨g38, h⟩ := jg h
        refine JW.r hM 64 10 (pc2 := 140) (L2 := [some (.ref 0), some (.int x1), some (.int x2), some (.int x3), some (.int x4), some (.int x5), some (.int x6), some (.int x7), none, none, none, none, none, none, none, none, none, none, none, none, none]) (st2 := [.long (9999 : Int64), .long (0 : Int64), .long (J 14 (((40 : Int32) * x2) + x7).toNatClampNeg)]) (μ2 := (hMo G J)) rfl ⟨g38, trivial⟩ ?_
        obtain ⟨v40, hv39, h⟩ := jbd h
        refine JW.cS (v := some (.int v40)) hM (m_X6_within (jVX X) hM.1.2.2.2.2.2.2.2.2.2.1 N (J 14 (((40 : Int32) * x2) + x7).toNatClampNeg) (0 : Int64) (9999 : Int64) v40 hv39) (sb_Mo_E_ G J) (bi_Mo_E_ G J) rfl rfl rfl kc_X6_122 rfl rfl rfl (jat hM.2.1 74 rfl) (st := []) rfl ?_
        show JW X 0 0 143 [some (.ref 0), some (.int x1), some (.int x2), some (.int x3), some (.int x4), some (.int x5), some (.int x6), some (.int x7), none, none, none, none, none, none, none, none, none, none, none, none, none] [.int v40] (hMo G J)
        refine JW.r hM 75 3 (pc2 := 112) (L2 := [some (.ref 0), some (.int x1), some (.int x2), some (.int x3), some (.int x4), some (.int x5), some (.int v40), some (.int (x7 + 1)), none, none, none, none, none, none, none, none, none, none, none, none, none]) (st2 := []) (μ2 := (hMo G J)) rfl trivial ?_
        exact ih112 G x1 x2 x3 x4 x5 v40 (x7 + 1) h
set_option maxHeartbeats 4000000 in
set_option maxRecDepth 100000 in
theorem t_X6_hope_b107 {X : jX} {po : Option Value → jH → Prop} {px : String → jH → Prop} {sf : Bool} {B9 : Nat} (hM : jMX X kX6_hope RX6 tbX6 21 ⟨5, 0, 0, 121⟩ (some .int) 16) (hp : jPost X sf B9 po px) (N : Nat) (J : Nat → Nat → Int64) {res : Int32 × (Nat → Nat → Int32)} (G : Nat → Nat → Int32) (x1 : Int32) (x2 : Int32) (x3 : Int32) (x4 : Int32) (x5 : Int32) (s0 : Int32) (h : p_X6_hope_b107 N J G x1 x2 x3 x4 x5 s0 = some res) (hq : po (some (.int res.1)) (hMo res.2 J)) : JW X 0 0 107 [some (.ref 0), some (.int x1), some (.int x2), some (.int x3), some (.int x4), some (.int x5), none, none, none, none, none, none, none, none, none, none, none, none, none, none, none] [.int s0] (hMo G J) := by
  unfold p_X6_hope_b107 at h
  refine JW.r hM 56 3 (pc2 := 112) (L2 := [some (.ref 0), some (.int x1), some (.int x2), some (.int x3), some (.int x4), some (.int x5), some (.int s0), some (.int (0 : Int32)), none, none, none, none, none, none, none, none, none, none, none, none, none]) (st2 := []) (μ2 := (hMo G J)) rfl trivial ?_
  exact t_X6_hope_b112 hM hp N J N G x1 x2 x3 x4 x5 s0 (0 : Int32) h hq
set_option maxHeartbeats 4000000 in
set_option maxRecDepth 100000 in
theorem t_X6_hope_b106 {X : jX} {po : Option Value → jH → Prop} {px : String → jH → Prop} {sf : Bool} {B9 : Nat} (hM : jMX X kX6_hope RX6 tbX6 21 ⟨5, 0, 0, 121⟩ (some .int) 16) (hp : jPost X sf B9 po px) (N : Nat) (J : Nat → Nat → Int64) {res : Int32 × (Nat → Nat → Int32)} (G : Nat → Nat → Int32) (x1 : Int32) (x2 : Int32) (x3 : Int32) (x4 : Int32) (x5 : Int32) (h : p_X6_hope_b106 N J G x1 x2 x3 x4 x5 = some res) (hq : po (some (.int res.1)) (hMo res.2 J)) : JW X 0 0 106 [some (.ref 0), some (.int x1), some (.int x2), some (.int x3), some (.int x4), some (.int x5), none, none, none, none, none, none, none, none, none, none, none, none, none, none, none] [] (hMo G J) := by
  unfold p_X6_hope_b106 at h
  refine JW.r hM 55 1 (pc2 := 107) (L2 := [some (.ref 0), some (.int x1), some (.int x2), some (.int x3), some (.int x4), some (.int x5), none, none, none, none, none, none, none, none, none, none, none, none, none, none, none]) (st2 := [.int (0 : Int32)]) (μ2 := (hMo G J)) rfl trivial ?_
  exact t_X6_hope_b107 hM hp N J G x1 x2 x3 x4 x5 (0 : Int32) h hq
set_option maxHeartbeats 4000000 in
set_option maxRecDepth 100000 in
theorem t_X6_hope_b44 {X : jX} {po : Option Value → jH → Prop} {px : String → jH → Prop} {sf : Bool} {B9 : Nat} (hM : jMX X kX6_hope RX6 tbX6 21 ⟨5, 0, 0, 121⟩ (some .int) 16) (hp : jPost X sf B9 po px) (N : Nat) (J : Nat → Nat → Int64) {res : Int32 × (Nat → Nat → Int32)} (G : Nat → Nat → Int32) (x1 : Int32) (x2 : Int32) (x3 : Int32) (x4 : Int32) (s0 : Int32) (h : p_X6_hope_b44 N J G x1 x2 x3 x4 s0 = some res) (hq : po (some (.int res.1)) (hMo res.2 J)) : JW X 0 0 44 [some (.ref 0), some (.int x1), some (.int x2), some (.int x3), some (.int x4), none, none, none, none, none, none, none, none, none, none, none, none, none, none, none, none] [.int s0, .ref 0] (hMo G J) := by
  unfold p_X6_hope_b44 at h
  obtain ⟨G3, e4, h⟩ := jlE h
  refine JW.r hM 24 1 (pc2 := 47) (L2 := [some (.ref 0), some (.int x1), some (.int x2), some (.int x3), some (.int x4), none, none, none, none, none, none, none, none, none, none, none, none, none, none, none, none]) (st2 := []) (μ2 := (hMo (jup G 0 5 s0) J)) rfl trivial ?_
  rw [e4]
  refine JW.r hM 25 2 (pc2 := 51) (L2 := [some (.ref 0), some (.int x1), some (.int x2), some (.int x3), some (.int x4), none, none, none, none, none, none, none, none, none, none, none, none, none, none, none, none]) (st2 := [.int (G3 0 5)]) (μ2 := (hMo G3 J)) rfl trivial ?_
  refine js_ifle (t := 56) hM.1 (jat hM.2.1 27 rfl) rfl (fun hc50 => ?_) (fun hc50 => ?_)
  · have h := (if_pos hc50).symm.trans h
    obtain ⟨g5, h⟩ := jg h
    refine JW.r hM 30 9 (pc2 := 70) (L2 := [some (.ref 0), some (.int x1), some (.int x2), some (.int x3), some (.int x4), some (.int (G3 13 x2.toNatClampNeg)), none, none, none, none, none, none, none, none, none, none, none, none, none, none, none]) (st2 := [.long (6 : Int64), .long (1 : Int64), .long (x3.toInt64)]) (μ2 := (hMo G3 J)) rfl ⟨g5, trivial⟩ ?_
    obtain ⟨v7, hv6, h⟩ := jbd h
    refine JW.cS (v := some (.int v7)) hM (m_X6_within (jVX X) hM.1.2.2.2.2.2.2.2.2.2.1 N (x3.toInt64) (1 : Int64) (6 : Int64) v7 hv6) (sb_Mo_E_ G3 J) (bi_Mo_E_ G3 J) rfl rfl rfl kc_X6_122 rfl rfl rfl (jat hM.2.1 39 rfl) (st := []) rfl ?_
    show JW X 0 0 73 [some (.ref 0), some (.int x1), some (.int x2), some (.int x3), some (.int x4), some (.int (G3 13 x2.toNatClampNeg)), none, none, none, none, none, none, none, none, none, none, none, none, none, none, none] [.int v7] (hMo G3 J)
    refine js_ifeq (t := 106) hM.1 (jat hM.2.1 40 rfl) rfl (fun hc49 => ?_) (fun hc49 => ?_)
    · have h := (if_pos hc49).symm.trans h
      exact t_X6_hope_b106 hM hp N J G3 x1 x2 x3 x4 (G3 13 x2.toNatClampNeg) h hq
    · have h := (if_neg hc49).symm.trans h
      refine JW.r hM 41 4 (pc2 := 83) (L2 := [some (.ref 0), some (.int x1), some (.int x2), some (.int x3), some (.int x4), some (.int (G3 13 x2.toNatClampNeg)), none, none, none, none, none, none, none, none, none, none, none, none, none, none, none]) (st2 := [.long (2 : Int64), .long (0 : Int64), .long (x4.toInt64)]) (μ2 := (hMo G3 J)) rfl trivial ?_
      obtain ⟨v44, hv43, h⟩ := jbd h
      refine JW.cS (v := some (.int v44)) hM (m_X6_within (jVX X) hM.1.2.2.2.2.2.2.2.2.2.1 N (x4.toInt64) (0 : Int64) (2 : Int64) v44 hv43) (sb_Mo_E_ G3 J) (bi_Mo_E_ G3 J) rfl rfl rfl kc_X6_122 rfl rfl rfl (jat hM.2.1 45 rfl) (st := []) rfl ?_
      show JW X 0 0 86 [some (.ref 0), some (.int x1), some (.int x2), some (.int x3), some (.int x4), some (.int (G3 13 x2.toNatClampNeg)), none, none, none, none, none, none, none, none, none, none, none, none, none, none, none] [.int v44] (hMo G3 J)
      refine js_ifeq (t := 106) hM.1 (jat hM.2.1 46 rfl) rfl (fun hc48 => ?_) (fun hc48 => ?_)
      · have h := (if_pos hc48).symm.trans h
        exact t_X6_hope_b106 hM hp N J G3 x1 x2 x3 x4 (G3 13 x2.toNatClampNeg) h hq
      · have h := (if_neg hc48).symm.trans h
        refine JW.r hM 47 4 (pc2 := 96) (L2 := [some (.ref 0), some (.int x1), some (.int x2), some (.int x3), some (.int x4), some (.int (G3 13 x2.toNatClampNeg)), none, none, none, none, none, none, none, none, none, none, none, none, none, none, none]) (st2 := [.long (6 : Int64), .long (1 : Int64), .long ((G3 13 x2.toNatClampNeg).toInt64)]) (μ2 := (hMo G3 J)) rfl trivial ?_
        obtain ⟨v46, hv45, h⟩ := jbd h
        refine JW.cS (v := some (.int v46)) hM (m_X6_within (jVX X) hM.1.2.2.2.2.2.2.2.2.2.1 N ((G3 13 x2.toNatClampNeg).toInt64) (1 : Int64) (6 : Int64) v46 hv45) (sb_Mo_E_ G3 J) (bi_Mo_E_ G3 J) rfl rfl rfl kc_X6_122 rfl rfl rfl (jat hM.2.1 51 rfl) (st := []) rfl ?_
        show JW X 0 0 99 [some (.ref 0), some (.int x1), some (.int x2), some (.int x3), some (.int x4), some (.int (G3 13 x2.toNatClampNeg)), none, none, none, none, none, none, none, none, none, none, none, none, none, none, none] [.int v46] (hMo G3 J)
        refine js_ifeq (t := 106) hM.1 (jat hM.2.1 52 rfl) rfl (fun hc47 => ?_) (fun hc47 => ?_)
        · have h := (if_pos hc47).symm.trans h
          exact t_X6_hope_b106 hM hp N J G3 x1 x2 x3 x4 (G3 13 x2.toNatClampNeg) h hq
        · have h := (if_neg hc47).symm.trans h
          refine JW.r hM 53 2 (pc2 := 107) (L2 := [some (.ref 0), some (.int x1), some (.int x2), some (.int x3), some (.int x4), some (.int (G3 13 x2.toNatClampNeg)), none, none, none, none, none, none, none, none, none, none, none, none, none, none, none]) (st2 := [.int (1 : Int32)]) (μ2 := (hMo G3 J)) rfl trivial ?_
          exact t_X6_hope_b107 hM hp N J G3 x1 x2 x3 x4 (G3 13 x2.toNatClampNeg) (1 : Int32) h hq
  · have h := (if_neg hc50).symm.trans h
    refine JW.r hM 28 1 (pc2 := 55) (L2 := [some (.ref 0), some (.int x1), some (.int x2), some (.int x3), some (.int x4), none, none, none, none, none, none, none, none, none, none, none, none, none, none, none, none]) (st2 := [.int (0 : Int32)]) (μ2 := (hMo G3 J)) rfl trivial ?_
    obtain rfl := Option.some.inj h
    exact js_iret hM.1 hp hM.2.2.2.2.2.2.2.1 (by rw [hM.2.2.2.2.2.1]; exact Nat.le_of_ble_eq_true rfl) (by rw [hM.2.2.2.2.2.2.1]; exact Nat.le_of_ble_eq_true rfl) (jat hM.2.1 29 rfl) hq
set_option maxHeartbeats 4000000 in
set_option maxRecDepth 100000 in
theorem t_X6_hope_b17 {X : jX} {po : Option Value → jH → Prop} {px : String → jH → Prop} {sf : Bool} {B9 : Nat} (hM : jMX X kX6_hope RX6 tbX6 21 ⟨5, 0, 0, 121⟩ (some .int) 16) (hp : jPost X sf B9 po px) (N : Nat) (J : Nat → Nat → Int64) {res : Int32 × (Nat → Nat → Int32)} (G : Nat → Nat → Int32) (x1 : Int32) (x2 : Int32) (x3 : Int32) (x4 : Int32) (h : p_X6_hope_b17 N J G x1 x2 x3 x4 = some res) (hq : po (some (.int res.1)) (hMo res.2 J)) : JW X 0 0 17 [some (.ref 0), some (.int x1), some (.int x2), some (.int x3), some (.int x4), none, none, none, none, none, none, none, none, none, none, none, none, none, none, none, none] [.ref 0] (hMo G J) := by
  unfold p_X6_hope_b17 at h
  refine JW.r hM 9 2 (pc2 := 44) (L2 := [some (.ref 0), some (.int x1), some (.int x2), some (.int x3), some (.int x4), none, none, none, none, none, none, none, none, none, none, none, none, none, none, none, none]) (st2 := [.int (1 : Int32), .ref 0]) (μ2 := (hMo G J)) rfl trivial ?_
  exact t_X6_hope_b44 hM hp N J G x1 x2 x3 x4 (1 : Int32) h hq
set_option maxHeartbeats 4000000 in
set_option maxRecDepth 100000 in
theorem t_X6_hope_b39 {X : jX} {po : Option Value → jH → Prop} {px : String → jH → Prop} {sf : Bool} {B9 : Nat} (hM : jMX X kX6_hope RX6 tbX6 21 ⟨5, 0, 0, 121⟩ (some .int) 16) (hp : jPost X sf B9 po px) (N : Nat) (J : Nat → Nat → Int64) {res : Int32 × (Nat → Nat → Int32)} (G : Nat → Nat → Int32) (x1 : Int32) (x2 : Int32) (x3 : Int32) (x4 : Int32) (h : p_X6_hope_b39 N J G x1 x2 x3 x4 = some res) (hq : po (some (.int res.1)) (hMo res.2 J)) : JW X 0 0 39 [some (.ref 0), some (.int x1), some (.int x2), some (.int x3), some (.int x4), none, none, none, none, none, none, none, none, none, none, none, none, none, none, none, none] [.ref 0] (hMo G J) := by
  unfold p_X6_hope_b39 at h
  refine JW.r hM 21 2 (pc2 := 44) (L2 := [some (.ref 0), some (.int x1), some (.int x2), some (.int x3), some (.int x4), none, none, none, none, none, none, none, none, none, none, none, none, none, none, none, none]) (st2 := [.int (2 : Int32), .ref 0]) (μ2 := (hMo G J)) rfl trivial ?_
  exact t_X6_hope_b44 hM hp N J G x1 x2 x3 x4 (2 : Int32) h hq
set_option maxHeartbeats 4000000 in
set_option maxRecDepth 100000 in
theorem t_X6_hope {X : jX} {po : Option Value → jH → Prop} {px : String → jH → Prop} {sf : Bool} {B9 : Nat} (hM : jMX X kX6_hope RX6 tbX6 21 ⟨5, 0, 0, 121⟩ (some .int) 16) (hp : jPost X sf B9 po px) (N : Nat) (G : Nat → Nat → Int32) (J : Nat → Nat → Int64) (p0 : Int32) (p1 : Int32) (p2 : Int32) (p3 : Int32) {res : Int32 × (Nat → Nat → Int32)} (h : p_X6_hope N G J p0 p1 p2 p3 = some res) (hq : po (some (.int res.1)) (hMo res.2 J)) : JW X 0 0 0 [some (.ref 0), some (.int p0), some (.int p1), some (.int p2), some (.int p3), none, none, none, none, none, none, none, none, none, none, none, none, none, none, none, none] [] (hMo G J) := by
  unfold p_X6_hope at h
  refine JW.r hM 0 4 (pc2 := 4) (L2 := [some (.ref 0), some (.int p0), some (.int p1), some (.int p2), some (.int p3), none, none, none, none, none, none, none, none, none, none, none, none, none, none, none, none]) (st2 := [.long (p0.toInt64), .ref 0, .ref 0]) (μ2 := (hMo G J)) rfl trivial ?_
  obtain ⟨v2, hv1, h⟩ := jbd h
  refine JW.cV (v := some (.int v2)) hM (m_X6_isDeed (jVX X) hM.1.2.2.2.2.2.2.2.2.2.1 N G J (p0.toInt64) v2 hv1) (sb_Mo_Mo_0 G J) (bi_Mo_Mo_0 G J) rfl rfl rfl kc_X6_230 rfl rfl rfl rfl rfl (jat hM.2.1 4 rfl) (st := [.ref 0]) rfl ?_
  show JW X 0 0 7 [some (.ref 0), some (.int p0), some (.int p1), some (.int p2), some (.int p3), none, none, none, none, none, none, none, none, none, none, none, none, none, none, none, none] [.int v2, .ref 0] (hMo G J)
  refine js_ifeq (t := 17) hM.1 (jat hM.2.1 5 rfl) rfl (fun hc59 => ?_) (fun hc59 => ?_)
  · have h := (if_pos hc59).symm.trans h
    exact t_X6_hope_b17 hM hp N J G p0 p1 p2 p3 h hq
  · have h := (if_neg hc59).symm.trans h
    refine JW.r hM 6 1 (pc2 := 11) (L2 := [some (.ref 0), some (.int p0), some (.int p1), some (.int p2), some (.int p3), none, none, none, none, none, none, none, none, none, none, none, none, none, none, none, none]) (st2 := [.int p1, .ref 0]) (μ2 := (hMo G J)) rfl trivial ?_
    obtain ⟨v52, hv51, h⟩ := jbd h
    refine JW.cS (v := some (.int v52)) hM (m_X6_isTray (jVX X) hM.1.2.2.2.2.2.2.2.2.2.1 N p1 v52 hv51) (sb_Mo_E_ G J) (bi_Mo_E_ G J) rfl rfl rfl kc_X6_257 rfl rfl rfl (jat hM.2.1 7 rfl) (st := [.ref 0]) rfl ?_
    show JW X 0 0 14 [some (.ref 0), some (.int p0), some (.int p1), some (.int p2), some (.int p3), none, none, none, none, none, none, none, none, none, none, none, none, none, none, none, none] [.int v52, .ref 0] (hMo G J)
    refine js_ifne (t := 21) hM.1 (jat hM.2.1 8 rfl) rfl (fun hc58 => ?_) (fun hc58 => ?_)
    · have h := (if_neg hc58).symm.trans h
      obtain ⟨g53, h⟩ := jg h
      refine JW.r hM 11 5 (pc2 := 28) (L2 := [some (.ref 0), some (.int p0), some (.int p1), some (.int p2), some (.int p3), none, none, none, none, none, none, none, none, none, none, none, none, none, none, none, none]) (st2 := [.int (-1 : Int32), .int (G 12 p1.toNatClampNeg), .ref 0]) (μ2 := (hMo G J)) rfl ⟨g53, trivial⟩ ?_
      refine js_iceq (t := 39) hM.1 (jat hM.2.1 16 rfl) rfl (fun hc57 => ?_) (fun hc57 => ?_)
      · have h := (if_pos hc57).symm.trans h
        exact t_X6_hope_b39 hM hp N J G p0 p1 p2 p3 h hq
      · have h := (if_neg hc57).symm.trans h
        refine JW.r hM 17 2 (pc2 := 33) (L2 := [some (.ref 0), some (.int p0), some (.int p1), some (.int p2), some (.int p3), none, none, none, none, none, none, none, none, none, none, none, none, none, none, none, none]) (st2 := [.int p0, .ref 0, .ref 0]) (μ2 := (hMo G J)) rfl trivial ?_
        obtain ⟨v55, hv54, h⟩ := jbd h
        refine JW.cV (v := some (.int v55)) hM (m_X6_isOpen (jVX X) hM.1.2.2.2.2.2.2.2.2.2.1 N G J p0 v55 hv54) (sb_Mo_Mo_0 G J) (bi_Mo_Mo_0 G J) rfl rfl rfl kc_X6_285 rfl rfl rfl rfl rfl (jat hM.2.1 19 rfl) (st := [.ref 0]) rfl ?_
        show JW X 0 0 36 [some (.ref 0), some (.int p0), some (.int p1), some (.int p2), some (.int p3), none, none, none, none, none, none, none, none, none, none, none, none, none, none, none, none] [.int v55, .ref 0] (hMo G J)
        refine js_ifne (t := 43) hM.1 (jat hM.2.1 20 rfl) rfl (fun hc56 => ?_) (fun hc56 => ?_)
        · have h := (if_neg hc56).symm.trans h
          refine JW.r hM 23 1 (pc2 := 44) (L2 := [some (.ref 0), some (.int p0), some (.int p1), some (.int p2), some (.int p3), none, none, none, none, none, none, none, none, none, none, none, none, none, none, none, none]) (st2 := [.int (0 : Int32), .ref 0]) (μ2 := (hMo G J)) rfl trivial ?_
          exact t_X6_hope_b44 hM hp N J G p0 p1 p2 p3 (0 : Int32) h hq
        · have h := (if_pos hc56).symm.trans h
          exact t_X6_hope_b39 hM hp N J G p0 p1 p2 p3 h hq
    · have h := (if_pos hc58).symm.trans h
      exact t_X6_hope_b17 hM hp N J G p0 p1 p2 p3 h hq
theorem m_X6_hope (V : jV) (hV : V.1.stackTraces = false) (N : Nat) (G : Nat → Nat → Int32) (J : Nat → Nat → Int64) (p0 : Int32) (p1 : Int32) (p2 : Int32) (p3 : Int32) (v : Int32 × (Nat → Nat → Int32)) (h : p_X6_hope N G J p0 p1 p2 p3 = some v) : jMet V yX6_hope (jws yX6_hope cX6_hope 21 (some .int)) ⟨5, 0, 0, 121⟩ true 1 [.ref 0, .int p0, .int p1, .int p2, .int p3] (hMo G J) (fun o ν => o = some (.int v.1) ∧ ν = (hMo v.2 J)) (fun _ _ => False) := by
  refine jmk (tb := tbX6) (C := kX6_hope) hV rfl (by decide) tbX6_ok rfl kX6_hope_ok rfl ?_
  intro X hM _ hp _
  exact t_X6_hope hM hp N G J p0 p1 p2 p3 h ⟨rfl, rfl⟩

def p_X6_rather (N : Nat) (G : Nat → Nat → Int32) (J : Nat → Nat → Int64) (p0 : Int32) (p1 : Int32) : Option (Int32) :=
  if jin ((14 : Int32) + p0) 264 = true then (p_X6_worthTo N G J p1 (G 1 ((14 : Int32) + p0).toNatClampNeg)).bind (fun v3 => if jin ((14 : Int32) + p0) 264 = true then (p_X6_worthTo N G J p0 (G 1 ((14 : Int32) + p0).toNatClampNeg)).bind (fun v6 => if v3 ≤ v6 then (some (0 : Int32)) else (some (1 : Int32))) else none) else none
set_option maxHeartbeats 4000000 in
set_option maxRecDepth 100000 in
theorem t_X6_rather {X : jX} {po : Option Value → jH → Prop} {px : String → jH → Prop} {sf : Bool} {B9 : Nat} (hM : jMX X kX6_rather RX6 tbX6 3 ⟨1, 0, 0, 22⟩ (some .boolean) 16) (hp : jPost X sf B9 po px) (N : Nat) (G : Nat → Nat → Int32) (J : Nat → Nat → Int64) (p0 : Int32) (p1 : Int32) {res : Int32} (h : p_X6_rather N G J p0 p1 = some res) (hq : po (some (.int res)) (hMo G J)) : JW X 0 0 0 [some (.ref 0), some (.int p0), some (.int p1)] [] (hMo G J) := by
  unfold p_X6_rather at h
  obtain ⟨g1, h⟩ := jg h
  refine JW.r hM 0 8 (pc2 := 11) (L2 := [some (.ref 0), some (.int p0), some (.int p1)]) (st2 := [.int (G 1 ((14 : Int32) + p0).toNatClampNeg), .int p1, .ref 0]) (μ2 := (hMo G J)) rfl ⟨g1, trivial⟩ ?_
  obtain ⟨v3, hv2, h⟩ := jbd h
  refine JW.cV (v := some (.int v3)) hM (m_X6_worthTo (jVX X) hM.1.2.2.2.2.2.2.2.2.2.1 N G J p1 (G 1 ((14 : Int32) + p0).toNatClampNeg) v3 hv2) (sb_Mo_Mo_0 G J) (bi_Mo_Mo_0 G J) rfl rfl rfl kc_X6_183 rfl rfl rfl rfl rfl (jat hM.2.1 8 rfl) (st := []) rfl ?_
  show JW X 0 0 14 [some (.ref 0), some (.int p0), some (.int p1)] [.int v3] (hMo G J)
  obtain ⟨g4, h⟩ := jg h
  refine JW.r hM 9 8 (pc2 := 25) (L2 := [some (.ref 0), some (.int p0), some (.int p1)]) (st2 := [.int (G 1 ((14 : Int32) + p0).toNatClampNeg), .int p0, .ref 0, .int v3]) (μ2 := (hMo G J)) rfl ⟨g4, trivial⟩ ?_
  obtain ⟨v6, hv5, h⟩ := jbd h
  refine JW.cV (v := some (.int v6)) hM (m_X6_worthTo (jVX X) hM.1.2.2.2.2.2.2.2.2.2.1 N G J p0 (G 1 ((14 : Int32) + p0).toNatClampNeg) v6 hv5) (sb_Mo_Mo_0 G J) (bi_Mo_Mo_0 G J) rfl rfl rfl kc_X6_183 rfl rfl rfl rfl rfl (jat hM.2.1 17 rfl) (st := [.int v3]) rfl ?_
  show JW X 0 0 28 [some (.ref 0), some (.int p0), some (.int p1)] [.int v6, .int v3] (hMo G J)
  refine js_icle (t := 35) hM.1 (jat hM.2.1 18 rfl) rfl (fun hc7 => ?_) (fun hc7 => ?_)
  · have h := (if_pos hc7).symm.trans h
    refine JW.r hM 21 1 (pc2 := 36) (L2 := [some (.ref 0), some (.int p0), some (.int p1)]) (st2 := [.int (0 : Int32)]) (μ2 := (hMo G J)) rfl trivial ?_
    obtain rfl := Option.some.inj h
    exact js_zret hM.1 hp hM.2.2.2.2.2.2.2.1 rfl (by rw [hM.2.2.2.2.2.1]; exact Nat.le_of_ble_eq_true rfl) (by rw [hM.2.2.2.2.2.2.1]; exact Nat.le_of_ble_eq_true rfl) (jat hM.2.1 22 rfl) hq
  · have h := (if_neg hc7).symm.trans h
    refine JW.r hM 19 2 (pc2 := 36) (L2 := [some (.ref 0), some (.int p0), some (.int p1)]) (st2 := [.int (1 : Int32)]) (μ2 := (hMo G J)) rfl trivial ?_
    obtain rfl := Option.some.inj h
    exact js_zret hM.1 hp hM.2.2.2.2.2.2.2.1 rfl (by rw [hM.2.2.2.2.2.1]; exact Nat.le_of_ble_eq_true rfl) (by rw [hM.2.2.2.2.2.2.1]; exact Nat.le_of_ble_eq_true rfl) (jat hM.2.1 22 rfl) hq
theorem m_X6_rather (V : jV) (hV : V.1.stackTraces = false) (N : Nat) (G : Nat → Nat → Int32) (J : Nat → Nat → Int64) (p0 : Int32) (p1 : Int32) (v : Int32) (h : p_X6_rather N G J p0 p1 = some v) : jMet V yX6_rather (jws yX6_rather cX6_rather 3 (some .boolean)) ⟨1, 0, 0, 22⟩ true 1 [.ref 0, .int p0, .int p1] (hMo G J) (fun o ν => o = some (.int v) ∧ ν = (hMo G J)) (fun _ _ => False) := by
  refine jmk (tb := tbX6) (C := kX6_rather) hV rfl (by decide) tbX6_ok rfl kX6_rather_ok rfl ?_
  intro X hM _ hp _
  exact t_X6_rather hM hp N G J p0 p1 h ⟨rfl, rfl⟩
def p_X6_isHeld (N : Nat) (G : Nat → Nat → Int32) (J : Nat → Nat → Int64) (p0 : Int32) : Option (Int32) :=
  (p_X6_isEaten N G J p0).bind (fun v2 => if v2 = 0 then (some (1 : Int32)) else (some (0 : Int32)))
set_option maxHeartbeats 4000000 in
set_option maxRecDepth 100000 in
theorem t_X6_isHeld {X : jX} {po : Option Value → jH → Prop} {px : String → jH → Prop} {sf : Bool} {B9 : Nat} (hM : jMX X kX6_isHeld RX6 tbX6 2 ⟨1, 0, 0, 21⟩ (some .boolean) 16) (hp : jPost X sf B9 po px) (N : Nat) (G : Nat → Nat → Int32) (J : Nat → Nat → Int64) (p0 : Int32) {res : Int32} (h : p_X6_isHeld N G J p0 = some res) (hq : po (some (.int res)) (hMo G J)) : JW X 0 0 0 [some (.ref 0), some (.int p0)] [] (hMo G J) := by
  unfold p_X6_isHeld at h
  refine JW.r hM 0 2 (pc2 := 2) (L2 := [some (.ref 0), some (.int p0)]) (st2 := [.int p0, .ref 0]) (μ2 := (hMo G J)) rfl trivial ?_
  obtain ⟨v2, hv1, h⟩ := jbd h
  refine JW.cV (v := some (.int v2)) hM (m_X6_isEaten (jVX X) hM.1.2.2.2.2.2.2.2.2.2.1 N G J p0 v2 hv1) (sb_Mo_Mo_0 G J) (bi_Mo_Mo_0 G J) rfl rfl rfl kc_X6_200 rfl rfl rfl rfl rfl (jat hM.2.1 2 rfl) (st := []) rfl ?_
  show JW X 0 0 5 [some (.ref 0), some (.int p0)] [.int v2] (hMo G J)
  refine js_ifne (t := 12) hM.1 (jat hM.2.1 3 rfl) rfl (fun hc3 => ?_) (fun hc3 => ?_)
  · have h := (if_neg hc3).symm.trans h
    refine JW.r hM 6 1 (pc2 := 13) (L2 := [some (.ref 0), some (.int p0)]) (st2 := [.int (0 : Int32)]) (μ2 := (hMo G J)) rfl trivial ?_
    obtain rfl := Option.some.inj h
    exact js_zret hM.1 hp hM.2.2.2.2.2.2.2.1 rfl (by rw [hM.2.2.2.2.2.1]; exact Nat.le_of_ble_eq_true rfl) (by rw [hM.2.2.2.2.2.2.1]; exact Nat.le_of_ble_eq_true rfl) (jat hM.2.1 7 rfl) hq
  · have h := (if_pos hc3).symm.trans h
    refine JW.r hM 4 2 (pc2 := 13) (L2 := [some (.ref 0), some (.int p0)]) (st2 := [.int (1 : Int32)]) (μ2 := (hMo G J)) rfl trivial ?_
    obtain rfl := Option.some.inj h
    exact js_zret hM.1 hp hM.2.2.2.2.2.2.2.1 rfl (by rw [hM.2.2.2.2.2.1]; exact Nat.le_of_ble_eq_true rfl) (by rw [hM.2.2.2.2.2.2.1]; exact Nat.le_of_ble_eq_true rfl) (jat hM.2.1 7 rfl) hq
theorem m_X6_isHeld (V : jV) (hV : V.1.stackTraces = false) (N : Nat) (G : Nat → Nat → Int32) (J : Nat → Nat → Int64) (p0 : Int32) (v : Int32) (h : p_X6_isHeld N G J p0 = some v) : jMet V yX6_isHeld (jws yX6_isHeld cX6_isHeld 2 (some .boolean)) ⟨1, 0, 0, 21⟩ true 1 [.ref 0, .int p0] (hMo G J) (fun o ν => o = some (.int v) ∧ ν = (hMo G J)) (fun _ _ => False) := by
  refine jmk (tb := tbX6) (C := kX6_isHeld) hV rfl (by decide) tbX6_ok rfl kX6_isHeld_ok rfl ?_
  intro X hM _ hp _
  exact t_X6_isHeld hM hp N G J p0 h ⟨rfl, rfl⟩
def p_X6_swaps_b113 (N : Nat) (J : Nat → Nat → Int64) (rv9 : (Nat → Nat → Int32) → Int32 → Int32 → Int32 → Option (Int32 × (Nat → Nat → Int32))) (rv24 : (Nat → Nat → Int32) → Int32 → Int32 → Int32 → Int32 → Option (Int32 × (Nat → Nat → Int32))) (G : Nat → Nat → Int32) (x1 : Int32) (x2 : Int32) (x3 : Int32) (x4 : Int32) : Option (Int32 × (Nat → Nat → Int32)) :=
  rv24 G x1 x2 x3 (x4 + 1)
def p_X6_swaps_b24 (N : Nat) (J : Nat → Nat → Int64) (rv9 : (Nat → Nat → Int32) → Int32 → Int32 → Int32 → Option (Int32 × (Nat → Nat → Int32))) : Nat → (Nat → Nat → Int32) → (Int32) → (Int32) → (Int32) → (Int32) → Option (Int32 × (Nat → Nat → Int32))
  | 0, _, _, _, _, _ => none
  | n + 1, G, x1, x2, x3, x4 => if (G 1 2) ≤ x4 then (rv9 G x1 x2 (x3 + 1)) else ((p_X6_isHeld N G J x3).bind (fun v5 => if v5 = 0 then (p_X6_swaps_b113 N J rv9 (p_X6_swaps_b24 N J rv9 n) G x1 x2 x3 x4) else ((p_X6_isHeld N G J x4).bind (fun v7 => if v7 = 0 then (p_X6_swaps_b113 N J rv9 (p_X6_swaps_b24 N J rv9 n) G x1 x2 x3 x4) else (if jin ((14 : Int32) + x3) 264 = true then if jin ((14 : Int32) + x4) 264 = true then if (G 1 ((14 : Int32) + x3).toNatClampNeg) = (G 1 ((14 : Int32) + x4).toNatClampNeg) then (p_X6_swaps_b113 N J rv9 (p_X6_swaps_b24 N J rv9 n) G x1 x2 x3 x4) else ((p_X6_rather N G J x3 x4).bind (fun v11 => if v11 = 0 then (p_X6_swaps_b113 N J rv9 (p_X6_swaps_b24 N J rv9 n) G x1 x2 x3 x4) else ((p_X6_rather N G J x4 x3).bind (fun v13 => if v13 = 0 then (p_X6_swaps_b113 N J rv9 (p_X6_swaps_b24 N J rv9 n) G x1 x2 x3 x4) else (if x2 = x1 then (some ((((100 : Int32) * x3) + x4), G)) else (p_X6_swaps_b113 N J rv9 (p_X6_swaps_b24 N J rv9 n) G x1 (x2 + 1) x3 x4)))))) else none else none)))))
def p_X6_swaps_b9 (N : Nat) (J : Nat → Nat → Int64) : Nat → (Nat → Nat → Int32) → (Int32) → (Int32) → (Int32) → Option (Int32 × (Nat → Nat → Int32))
  | 0, _, _, _, _ => none
  | n + 1, G, x1, x2, x3 => if (G 1 2) ≤ x3 then (if x1 = (-1 : Int32) then (some (x2, G)) else (some ((-1 : Int32), G))) else (p_X6_swaps_b24 N J (p_X6_swaps_b9 N J n) N G x1 x2 x3 (x3 + (1 : Int32)))
def p_X6_swaps (N : Nat) (G : Nat → Nat → Int32) (J : Nat → Nat → Int64) (p0 : Int32) : Option (Int32 × (Nat → Nat → Int32)) :=
  jlt (jup G 0 5 (0 : Int32)) fun G1 => p_X6_swaps_b9 N J N G1 p0 (0 : Int32) (0 : Int32)
set_option maxHeartbeats 4000000 in
set_option maxRecDepth 100000 in
theorem t_X6_swaps_b113 {X : jX} {po : Option Value → jH → Prop} {px : String → jH → Prop} {sf : Bool} {B9 : Nat} (hM : jMX X kX6_swaps RX6 tbX6 5 ⟨2, 0, 0, 44⟩ (some .int) 16) (hp : jPost X sf B9 po px) (N : Nat) (J : Nat → Nat → Int64) (rv9 : (Nat → Nat → Int32) → Int32 → Int32 → Int32 → Option (Int32 × (Nat → Nat → Int32))) (rv24 : (Nat → Nat → Int32) → Int32 → Int32 → Int32 → Int32 → Option (Int32 × (Nat → Nat → Int32))) {res : Int32 × (Nat → Nat → Int32)} (ih9 : ∀ (G : Nat → Nat → Int32) (x1 : Int32) (x2 : Int32) (x3 : Int32), rv9 G x1 x2 x3 = some res → JW X 0 0 9 [some (.ref 0), some (.int x1), some (.int x2), some (.int x3), none] [] (hMo G J)) (ih24 : ∀ (G : Nat → Nat → Int32) (x1 : Int32) (x2 : Int32) (x3 : Int32) (x4 : Int32), rv24 G x1 x2 x3 x4 = some res → JW X 0 0 24 [some (.ref 0), some (.int x1), some (.int x2), some (.int x3), some (.int x4)] [] (hMo G J)) (G : Nat → Nat → Int32) (x1 : Int32) (x2 : Int32) (x3 : Int32) (x4 : Int32) (h : p_X6_swaps_b113 N J rv9 rv24 G x1 x2 x3 x4 = some res) (hq : po (some (.int res.1)) (hMo res.2 J)) : JW X 0 0 113 [some (.ref 0), some (.int x1), some (.int x2), some (.int x3), some (.int x4)] [] (hMo G J) := by
  unfold p_X6_swaps_b113 at h
  refine JW.r hM 65 2 (pc2 := 24) (L2 := [some (.ref 0), some (.int x1), some (.int x2), some (.int x3), some (.int (x4 + 1))]) (st2 := []) (μ2 := (hMo G J)) rfl trivial ?_
  exact ih24 G x1 x2 x3 (x4 + 1) h
set_option maxHeartbeats 4000000 in
set_option maxRecDepth 100000 in
theorem t_X6_swaps_b24 {X : jX} {po : Option Value → jH → Prop} {px : String → jH → Prop} {sf : Bool} {B9 : Nat} (hM : jMX X kX6_swaps RX6 tbX6 5 ⟨2, 0, 0, 44⟩ (some .int) 16) (hp : jPost X sf B9 po px) (N : Nat) (J : Nat → Nat → Int64) (rv9 : (Nat → Nat → Int32) → Int32 → Int32 → Int32 → Option (Int32 × (Nat → Nat → Int32))) {res : Int32 × (Nat → Nat → Int32)} (ih9 : ∀ (G : Nat → Nat → Int32) (x1 : Int32) (x2 : Int32) (x3 : Int32), rv9 G x1 x2 x3 = some res → JW X 0 0 9 [some (.ref 0), some (.int x1), some (.int x2), some (.int x3), none] [] (hMo G J)) : ∀ (n : Nat) (G : Nat → Nat → Int32) (x1 : Int32) (x2 : Int32) (x3 : Int32) (x4 : Int32) (h : p_X6_swaps_b24 N J rv9 n G x1 x2 x3 x4 = some res) (hq : po (some (.int res.1)) (hMo res.2 J)), JW X 0 0 24 [some (.ref 0), some (.int x1), some (.int x2), some (.int x3), some (.int x4)] [] (hMo G J) := by
  intro n
  induction n with
  | zero =>
    intro G x1 x2 x3 x4 h hq
    cases (show (none : Option (Int32 × (Nat → Nat → Int32))) = some res from h)
  | succ n ih24 =>
    intro G x1 x2 x3 x4 h hq
    have ih24 := fun G x1 x2 x3 x4 h9 => ih24 G x1 x2 x3 x4 h9 hq
    rw [p_X6_swaps_b24] at h
    refine JW.r hM 17 5 (pc2 := 32) (L2 := [some (.ref 0), some (.int x1), some (.int x2), some (.int x3), some (.int x4)]) (st2 := [.int (G 1 2), .int x4]) (μ2 := (hMo G J)) rfl ⟨rfl, trivial⟩ ?_
    refine js_icge (t := 119) hM.1 (jat hM.2.1 22 rfl) rfl (fun hc20 => ?_) (fun hc20 => ?_)
    · have h := (if_pos hc20).symm.trans h
      refine JW.r hM 67 2 (pc2 := 9) (L2 := [some (.ref 0), some (.int x1), some (.int x2), some (.int (x3 + 1)), some (.int x4)]) (st2 := []) (μ2 := (hMo G J)) rfl trivial ?_
      exact JW.mask [true, true, true, true, false] (ih9 G x1 x2 (x3 + 1) h)
    · have h := (if_neg hc20).symm.trans h
      refine JW.r hM 23 2 (pc2 := 37) (L2 := [some (.ref 0), some (.int x1), some (.int x2), some (.int x3), some (.int x4)]) (st2 := [.int x3, .ref 0]) (μ2 := (hMo G J)) rfl trivial ?_
      obtain ⟨v5, hv4, h⟩ := jbd h
      refine JW.cV (v := some (.int v5)) hM (m_X6_isHeld (jVX X) hM.1.2.2.2.2.2.2.2.2.2.1 N G J x3 v5 hv4) (sb_Mo_Mo_0 G J) (bi_Mo_Mo_0 G J) rfl rfl rfl kc_X6_357 rfl rfl rfl rfl rfl (jat hM.2.1 25 rfl) (st := []) rfl ?_
      show JW X 0 0 40 [some (.ref 0), some (.int x1), some (.int x2), some (.int x3), some (.int x4)] [.int v5] (hMo G J)
      refine js_ifeq (t := 113) hM.1 (jat hM.2.1 26 rfl) rfl (fun hc19 => ?_) (fun hc19 => ?_)
      · have h := (if_pos hc19).symm.trans h
        exact t_X6_swaps_b113 hM hp N J rv9 (p_X6_swaps_b24 N J rv9 n) ih9 ih24 G x1 x2 x3 x4 h hq
      · have h := (if_neg hc19).symm.trans h
        refine JW.r hM 27 2 (pc2 := 46) (L2 := [some (.ref 0), some (.int x1), some (.int x2), some (.int x3), some (.int x4)]) (st2 := [.int x4, .ref 0]) (μ2 := (hMo G J)) rfl trivial ?_
        obtain ⟨v7, hv6, h⟩ := jbd h
        refine JW.cV (v := some (.int v7)) hM (m_X6_isHeld (jVX X) hM.1.2.2.2.2.2.2.2.2.2.1 N G J x4 v7 hv6) (sb_Mo_Mo_0 G J) (bi_Mo_Mo_0 G J) rfl rfl rfl kc_X6_357 rfl rfl rfl rfl rfl (jat hM.2.1 29 rfl) (st := []) rfl ?_
        show JW X 0 0 49 [some (.ref 0), some (.int x1), some (.int x2), some (.int x3), some (.int x4)] [.int v7] (hMo G J)
        refine js_ifeq (t := 113) hM.1 (jat hM.2.1 30 rfl) rfl (fun hc18 => ?_) (fun hc18 => ?_)
        · have h := (if_pos hc18).symm.trans h
          exact t_X6_swaps_b113 hM hp N J rv9 (p_X6_swaps_b24 N J rv9 n) ih9 ih24 G x1 x2 x3 x4 h hq
        · have h := (if_neg hc18).symm.trans h
          obtain ⟨g8, h⟩ := jg h
          obtain ⟨g9, h⟩ := jg h
          refine JW.r hM 31 12 (pc2 := 71) (L2 := [some (.ref 0), some (.int x1), some (.int x2), some (.int x3), some (.int x4)]) (st2 := [.int (G 1 ((14 : Int32) + x4).toNatClampNeg), .int (G 1 ((14 : Int32) + x3).toNatClampNeg)]) (μ2 := (hMo G J)) rfl ⟨g8, g9, trivial⟩ ?_
          refine js_iceq (t := 113) hM.1 (jat hM.2.1 43 rfl) rfl (fun hc17 => ?_) (fun hc17 => ?_)
          · have h := (if_pos hc17).symm.trans h
            exact t_X6_swaps_b113 hM hp N J rv9 (p_X6_swaps_b24 N J rv9 n) ih9 ih24 G x1 x2 x3 x4 h hq
          · have h := (if_neg hc17).symm.trans h
            refine JW.r hM 44 3 (pc2 := 78) (L2 := [some (.ref 0), some (.int x1), some (.int x2), some (.int x3), some (.int x4)]) (st2 := [.int x4, .int x3, .ref 0]) (μ2 := (hMo G J)) rfl trivial ?_
            obtain ⟨v11, hv10, h⟩ := jbd h
            refine JW.cV (v := some (.int v11)) hM (m_X6_rather (jVX X) hM.1.2.2.2.2.2.2.2.2.2.1 N G J x3 x4 v11 hv10) (sb_Mo_Mo_0 G J) (bi_Mo_Mo_0 G J) rfl rfl rfl kc_X6_360 rfl rfl rfl rfl rfl (jat hM.2.1 47 rfl) (st := []) rfl ?_
            show JW X 0 0 81 [some (.ref 0), some (.int x1), some (.int x2), some (.int x3), some (.int x4)] [.int v11] (hMo G J)
            refine js_ifeq (t := 113) hM.1 (jat hM.2.1 48 rfl) rfl (fun hc16 => ?_) (fun hc16 => ?_)
            · have h := (if_pos hc16).symm.trans h
              exact t_X6_swaps_b113 hM hp N J rv9 (p_X6_swaps_b24 N J rv9 n) ih9 ih24 G x1 x2 x3 x4 h hq
            · have h := (if_neg hc16).symm.trans h
              refine JW.r hM 49 3 (pc2 := 88) (L2 := [some (.ref 0), some (.int x1), some (.int x2), some (.int x3), some (.int x4)]) (st2 := [.int x3, .int x4, .ref 0]) (μ2 := (hMo G J)) rfl trivial ?_
              obtain ⟨v13, hv12, h⟩ := jbd h
              refine JW.cV (v := some (.int v13)) hM (m_X6_rather (jVX X) hM.1.2.2.2.2.2.2.2.2.2.1 N G J x4 x3 v13 hv12) (sb_Mo_Mo_0 G J) (bi_Mo_Mo_0 G J) rfl rfl rfl kc_X6_360 rfl rfl rfl rfl rfl (jat hM.2.1 52 rfl) (st := []) rfl ?_
              show JW X 0 0 91 [some (.ref 0), some (.int x1), some (.int x2), some (.int x3), some (.int x4)] [.int v13] (hMo G J)
              refine js_ifne (t := 97) hM.1 (jat hM.2.1 53 rfl) rfl (fun hc15 => ?_) (fun hc15 => ?_)
              · have h := (if_neg hc15).symm.trans h
                refine JW.r hM 55 2 (pc2 := 99) (L2 := [some (.ref 0), some (.int x1), some (.int x2), some (.int x3), some (.int x4)]) (st2 := [.int x1, .int x2]) (μ2 := (hMo G J)) rfl trivial ?_
                refine js_icne (t := 110) hM.1 (jat hM.2.1 57 rfl) rfl (fun hc14 => ?_) (fun hc14 => ?_)
                · have h := (if_neg hc14).symm.trans h
                  refine JW.r hM 64 1 (pc2 := 113) (L2 := [some (.ref 0), some (.int x1), some (.int (x2 + 1)), some (.int x3), some (.int x4)]) (st2 := []) (μ2 := (hMo G J)) rfl trivial ?_
                  exact t_X6_swaps_b113 hM hp N J rv9 (p_X6_swaps_b24 N J rv9 n) ih9 ih24 G x1 (x2 + 1) x3 x4 h hq
                · have h := (if_pos hc14).symm.trans h
                  refine JW.r hM 58 5 (pc2 := 109) (L2 := [some (.ref 0), some (.int x1), some (.int x2), some (.int x3), some (.int x4)]) (st2 := [.int (((100 : Int32) * x3) + x4)]) (μ2 := (hMo G J)) rfl trivial ?_
                  obtain rfl := Option.some.inj h
                  exact js_iret hM.1 hp hM.2.2.2.2.2.2.2.1 (by rw [hM.2.2.2.2.2.1]; exact Nat.le_of_ble_eq_true rfl) (by rw [hM.2.2.2.2.2.2.1]; exact Nat.le_of_ble_eq_true rfl) (jat hM.2.1 63 rfl) hq
              · have h := (if_pos hc15).symm.trans h
                refine JW.r hM 54 1 (pc2 := 113) (L2 := [some (.ref 0), some (.int x1), some (.int x2), some (.int x3), some (.int x4)]) (st2 := []) (μ2 := (hMo G J)) rfl trivial ?_
                exact t_X6_swaps_b113 hM hp N J rv9 (p_X6_swaps_b24 N J rv9 n) ih9 ih24 G x1 x2 x3 x4 h hq
set_option maxHeartbeats 4000000 in
set_option maxRecDepth 100000 in
theorem t_X6_swaps_b9 {X : jX} {po : Option Value → jH → Prop} {px : String → jH → Prop} {sf : Bool} {B9 : Nat} (hM : jMX X kX6_swaps RX6 tbX6 5 ⟨2, 0, 0, 44⟩ (some .int) 16) (hp : jPost X sf B9 po px) (N : Nat) (J : Nat → Nat → Int64) {res : Int32 × (Nat → Nat → Int32)} : ∀ (n : Nat) (G : Nat → Nat → Int32) (x1 : Int32) (x2 : Int32) (x3 : Int32) (h : p_X6_swaps_b9 N J n G x1 x2 x3 = some res) (hq : po (some (.int res.1)) (hMo res.2 J)), JW X 0 0 9 [some (.ref 0), some (.int x1), some (.int x2), some (.int x3), none] [] (hMo G J) := by
  intro n
  induction n with
  | zero =>
    intro G x1 x2 x3 h hq
    cases (show (none : Option (Int32 × (Nat → Nat → Int32))) = some res from h)
  | succ n ih9 =>
    intro G x1 x2 x3 h hq
    have ih9 := fun G x1 x2 x3 h9 => ih9 G x1 x2 x3 h9 hq
    rw [p_X6_swaps_b9] at h
    refine JW.r hM 7 5 (pc2 := 16) (L2 := [some (.ref 0), some (.int x1), some (.int x2), some (.int x3), none]) (st2 := [.int (G 1 2), .int x3]) (μ2 := (hMo G J)) rfl ⟨rfl, trivial⟩ ?_
    refine js_icge (t := 125) hM.1 (jat hM.2.1 12 rfl) rfl (fun hc21 => ?_) (fun hc21 => ?_)
    · have h := (if_pos hc21).symm.trans h
      refine JW.r hM 69 2 (pc2 := 127) (L2 := [some (.ref 0), some (.int x1), some (.int x2), some (.int x3), none]) (st2 := [.int (-1 : Int32), .int x1]) (μ2 := (hMo G J)) rfl trivial ?_
      refine js_icne (t := 134) hM.1 (jat hM.2.1 71 rfl) rfl (fun hc3 => ?_) (fun hc3 => ?_)
      · have h := (if_neg hc3).symm.trans h
        refine JW.r hM 74 1 (pc2 := 135) (L2 := [some (.ref 0), some (.int x1), some (.int x2), some (.int x3), none]) (st2 := [.int (-1 : Int32)]) (μ2 := (hMo G J)) rfl trivial ?_
        obtain rfl := Option.some.inj h
        exact js_iret hM.1 hp hM.2.2.2.2.2.2.2.1 (by rw [hM.2.2.2.2.2.1]; exact Nat.le_of_ble_eq_true rfl) (by rw [hM.2.2.2.2.2.2.1]; exact Nat.le_of_ble_eq_true rfl) (jat hM.2.1 75 rfl) hq
      · have h := (if_pos hc3).symm.trans h
        refine JW.r hM 72 2 (pc2 := 135) (L2 := [some (.ref 0), some (.int x1), some (.int x2), some (.int x3), none]) (st2 := [.int x2]) (μ2 := (hMo G J)) rfl trivial ?_
        obtain rfl := Option.some.inj h
        exact js_iret hM.1 hp hM.2.2.2.2.2.2.2.1 (by rw [hM.2.2.2.2.2.1]; exact Nat.le_of_ble_eq_true rfl) (by rw [hM.2.2.2.2.2.2.1]; exact Nat.le_of_ble_eq_true rfl) (jat hM.2.1 75 rfl) hq
    · have h := (if_neg hc21).symm.trans h
      refine JW.r hM 13 4 (pc2 := 24) (L2 := [some (.ref 0), some (.int x1), some (.int x2), some (.int x3), some (.int (x3 + (1 : Int32)))]) (st2 := []) (μ2 := (hMo G J)) rfl trivial ?_
      exact t_X6_swaps_b24 hM hp N J (p_X6_swaps_b9 N J n) ih9 N G x1 x2 x3 (x3 + (1 : Int32)) h hq
set_option maxHeartbeats 4000000 in
set_option maxRecDepth 100000 in
theorem t_X6_swaps {X : jX} {po : Option Value → jH → Prop} {px : String → jH → Prop} {sf : Bool} {B9 : Nat} (hM : jMX X kX6_swaps RX6 tbX6 5 ⟨2, 0, 0, 44⟩ (some .int) 16) (hp : jPost X sf B9 po px) (N : Nat) (G : Nat → Nat → Int32) (J : Nat → Nat → Int64) (p0 : Int32) {res : Int32 × (Nat → Nat → Int32)} (h : p_X6_swaps N G J p0 = some res) (hq : po (some (.int res.1)) (hMo res.2 J)) : JW X 0 0 0 [some (.ref 0), some (.int p0), none, none, none] [] (hMo G J) := by
  unfold p_X6_swaps at h
  obtain ⟨G1, e2, h⟩ := jlE h
  refine JW.r hM 0 3 (pc2 := 5) (L2 := [some (.ref 0), some (.int p0), none, none, none]) (st2 := []) (μ2 := (hMo (jup G 0 5 (0 : Int32)) J)) rfl trivial ?_
  rw [e2]
  refine JW.r hM 3 4 (pc2 := 9) (L2 := [some (.ref 0), some (.int p0), some (.int (0 : Int32)), some (.int (0 : Int32)), none]) (st2 := []) (μ2 := (hMo G1 J)) rfl trivial ?_
  exact t_X6_swaps_b9 hM hp N J N G1 p0 (0 : Int32) (0 : Int32) h hq
theorem m_X6_swaps (V : jV) (hV : V.1.stackTraces = false) (N : Nat) (G : Nat → Nat → Int32) (J : Nat → Nat → Int64) (p0 : Int32) (v : Int32 × (Nat → Nat → Int32)) (h : p_X6_swaps N G J p0 = some v) : jMet V yX6_swaps (jws yX6_swaps cX6_swaps 5 (some .int)) ⟨2, 0, 0, 44⟩ true 1 [.ref 0, .int p0] (hMo G J) (fun o ν => o = some (.int v.1) ∧ ν = (hMo v.2 J)) (fun _ _ => False) := by
  refine jmk (tb := tbX6) (C := kX6_swaps) hV rfl (by decide) tbX6_ok rfl kX6_swaps_ok rfl ?_
  intro X hM _ hp _
  exact t_X6_swaps hM hp N G J p0 h ⟨rfl, rfl⟩
def p_X6_isThree (N : Nat) (G : Nat → Nat → Int32) (J : Nat → Nat → Int64) (p0 : Int32) (p1 : Int32) (p2 : Int32) : Option (Int32) :=
  if jin ((14 : Int32) + p0) 264 = true then if jin ((14 : Int32) + p1) 264 = true then if jin ((14 : Int32) + p2) 264 = true then if (G 1 ((14 : Int32) + p0).toNatClampNeg) = (G 1 ((14 : Int32) + p1).toNatClampNeg) then (some (0 : Int32)) else (if (G 1 ((14 : Int32) + p1).toNatClampNeg) = (G 1 ((14 : Int32) + p2).toNatClampNeg) then (some (0 : Int32)) else (if (G 1 ((14 : Int32) + p0).toNatClampNeg) = (G 1 ((14 : Int32) + p2).toNatClampNeg) then (some (0 : Int32)) else ((p_X6_isHeld N G J p0).bind (fun v5 => if v5 = 0 then (some (0 : Int32)) else ((p_X6_isHeld N G J p1).bind (fun v7 => if v7 = 0 then (some (0 : Int32)) else ((p_X6_isHeld N G J p2).bind (fun v9 => if v9 = 0 then (some (0 : Int32)) else ((p_X6_rather N G J p0 p1).bind (fun v11 => if v11 = 0 then (some (0 : Int32)) else ((p_X6_rather N G J p1 p2).bind (fun v13 => if v13 = 0 then (some (0 : Int32)) else ((p_X6_rather N G J p2 p0).bind (fun v15 => if v15 = 0 then (some (0 : Int32)) else (some (1 : Int32)))))))))))))))) else none else none else none
set_option maxHeartbeats 4000000 in
set_option maxRecDepth 100000 in
theorem t_X6_isThree {X : jX} {po : Option Value → jH → Prop} {px : String → jH → Prop} {sf : Bool} {B9 : Nat} (hM : jMX X kX6_isThree RX6 tbX6 7 ⟨2, 0, 0, 44⟩ (some .boolean) 16) (hp : jPost X sf B9 po px) (N : Nat) (G : Nat → Nat → Int32) (J : Nat → Nat → Int64) (p0 : Int32) (p1 : Int32) (p2 : Int32) {res : Int32} (h : p_X6_isThree N G J p0 p1 p2 = some res) (hq : po (some (.int res)) (hMo G J)) : JW X 0 0 0 [some (.ref 0), some (.int p0), some (.int p1), some (.int p2), none, none, none] [] (hMo G J) := by
  unfold p_X6_isThree at h
  obtain ⟨g1, h⟩ := jg h
  obtain ⟨g2, h⟩ := jg h
  obtain ⟨g3, h⟩ := jg h
  refine JW.r hM 0 23 (pc2 := 37) (L2 := [some (.ref 0), some (.int p0), some (.int p1), some (.int p2), some (.int (G 1 ((14 : Int32) + p0).toNatClampNeg)), some (.int (G 1 ((14 : Int32) + p1).toNatClampNeg)), some (.int (G 1 ((14 : Int32) + p2).toNatClampNeg))]) (st2 := [.int (G 1 ((14 : Int32) + p1).toNatClampNeg), .int (G 1 ((14 : Int32) + p0).toNatClampNeg)]) (μ2 := (hMo G J)) rfl ⟨g1, g2, g3, trivial⟩ ?_
  refine js_iceq (t := 109) hM.1 (jat hM.2.1 23 rfl) rfl (fun hc24 => ?_) (fun hc24 => ?_)
  · have h := (if_pos hc24).symm.trans h
    refine JW.r hM 59 1 (pc2 := 110) (L2 := [some (.ref 0), some (.int p0), some (.int p1), some (.int p2), some (.int (G 1 ((14 : Int32) + p0).toNatClampNeg)), some (.int (G 1 ((14 : Int32) + p1).toNatClampNeg)), some (.int (G 1 ((14 : Int32) + p2).toNatClampNeg))]) (st2 := [.int (0 : Int32)]) (μ2 := (hMo G J)) rfl trivial ?_
    obtain rfl := Option.some.inj h
    exact js_zret hM.1 hp hM.2.2.2.2.2.2.2.1 rfl (by rw [hM.2.2.2.2.2.1]; exact Nat.le_of_ble_eq_true rfl) (by rw [hM.2.2.2.2.2.2.1]; exact Nat.le_of_ble_eq_true rfl) (jat hM.2.1 60 rfl) hq
  · have h := (if_neg hc24).symm.trans h
    refine JW.r hM 24 2 (pc2 := 44) (L2 := [some (.ref 0), some (.int p0), some (.int p1), some (.int p2), some (.int (G 1 ((14 : Int32) + p0).toNatClampNeg)), some (.int (G 1 ((14 : Int32) + p1).toNatClampNeg)), some (.int (G 1 ((14 : Int32) + p2).toNatClampNeg))]) (st2 := [.int (G 1 ((14 : Int32) + p2).toNatClampNeg), .int (G 1 ((14 : Int32) + p1).toNatClampNeg)]) (μ2 := (hMo G J)) rfl trivial ?_
    refine js_iceq (t := 109) hM.1 (jat hM.2.1 26 rfl) rfl (fun hc23 => ?_) (fun hc23 => ?_)
    · have h := (if_pos hc23).symm.trans h
      refine JW.r hM 59 1 (pc2 := 110) (L2 := [some (.ref 0), some (.int p0), some (.int p1), some (.int p2), some (.int (G 1 ((14 : Int32) + p0).toNatClampNeg)), some (.int (G 1 ((14 : Int32) + p1).toNatClampNeg)), some (.int (G 1 ((14 : Int32) + p2).toNatClampNeg))]) (st2 := [.int (0 : Int32)]) (μ2 := (hMo G J)) rfl trivial ?_
      obtain rfl := Option.some.inj h
      exact js_zret hM.1 hp hM.2.2.2.2.2.2.2.1 rfl (by rw [hM.2.2.2.2.2.1]; exact Nat.le_of_ble_eq_true rfl) (by rw [hM.2.2.2.2.2.2.1]; exact Nat.le_of_ble_eq_true rfl) (jat hM.2.1 60 rfl) hq
    · have h := (if_neg hc23).symm.trans h
      refine JW.r hM 27 2 (pc2 := 51) (L2 := [some (.ref 0), some (.int p0), some (.int p1), some (.int p2), some (.int (G 1 ((14 : Int32) + p0).toNatClampNeg)), some (.int (G 1 ((14 : Int32) + p1).toNatClampNeg)), some (.int (G 1 ((14 : Int32) + p2).toNatClampNeg))]) (st2 := [.int (G 1 ((14 : Int32) + p2).toNatClampNeg), .int (G 1 ((14 : Int32) + p0).toNatClampNeg)]) (μ2 := (hMo G J)) rfl trivial ?_
      refine js_iceq (t := 109) hM.1 (jat hM.2.1 29 rfl) rfl (fun hc22 => ?_) (fun hc22 => ?_)
      · have h := (if_pos hc22).symm.trans h
        refine JW.r hM 59 1 (pc2 := 110) (L2 := [some (.ref 0), some (.int p0), some (.int p1), some (.int p2), some (.int (G 1 ((14 : Int32) + p0).toNatClampNeg)), some (.int (G 1 ((14 : Int32) + p1).toNatClampNeg)), some (.int (G 1 ((14 : Int32) + p2).toNatClampNeg))]) (st2 := [.int (0 : Int32)]) (μ2 := (hMo G J)) rfl trivial ?_
        obtain rfl := Option.some.inj h
        exact js_zret hM.1 hp hM.2.2.2.2.2.2.2.1 rfl (by rw [hM.2.2.2.2.2.1]; exact Nat.le_of_ble_eq_true rfl) (by rw [hM.2.2.2.2.2.2.1]; exact Nat.le_of_ble_eq_true rfl) (jat hM.2.1 60 rfl) hq
      · have h := (if_neg hc22).symm.trans h
        refine JW.r hM 30 2 (pc2 := 56) (L2 := [some (.ref 0), some (.int p0), some (.int p1), some (.int p2), some (.int (G 1 ((14 : Int32) + p0).toNatClampNeg)), some (.int (G 1 ((14 : Int32) + p1).toNatClampNeg)), some (.int (G 1 ((14 : Int32) + p2).toNatClampNeg))]) (st2 := [.int p0, .ref 0]) (μ2 := (hMo G J)) rfl trivial ?_
        obtain ⟨v5, hv4, h⟩ := jbd h
        refine JW.cV (v := some (.int v5)) hM (m_X6_isHeld (jVX X) hM.1.2.2.2.2.2.2.2.2.2.1 N G J p0 v5 hv4) (sb_Mo_Mo_0 G J) (bi_Mo_Mo_0 G J) rfl rfl rfl kc_X6_357 rfl rfl rfl rfl rfl (jat hM.2.1 32 rfl) (st := []) rfl ?_
        show JW X 0 0 59 [some (.ref 0), some (.int p0), some (.int p1), some (.int p2), some (.int (G 1 ((14 : Int32) + p0).toNatClampNeg)), some (.int (G 1 ((14 : Int32) + p1).toNatClampNeg)), some (.int (G 1 ((14 : Int32) + p2).toNatClampNeg))] [.int v5] (hMo G J)
        refine js_ifeq (t := 109) hM.1 (jat hM.2.1 33 rfl) rfl (fun hc21 => ?_) (fun hc21 => ?_)
        · have h := (if_pos hc21).symm.trans h
          refine JW.r hM 59 1 (pc2 := 110) (L2 := [some (.ref 0), some (.int p0), some (.int p1), some (.int p2), some (.int (G 1 ((14 : Int32) + p0).toNatClampNeg)), some (.int (G 1 ((14 : Int32) + p1).toNatClampNeg)), some (.int (G 1 ((14 : Int32) + p2).toNatClampNeg))]) (st2 := [.int (0 : Int32)]) (μ2 := (hMo G J)) rfl trivial ?_
          obtain rfl := Option.some.inj h
          exact js_zret hM.1 hp hM.2.2.2.2.2.2.2.1 rfl (by rw [hM.2.2.2.2.2.1]; exact Nat.le_of_ble_eq_true rfl) (by rw [hM.2.2.2.2.2.2.1]; exact Nat.le_of_ble_eq_true rfl) (jat hM.2.1 60 rfl) hq
        · have h := (if_neg hc21).symm.trans h
          refine JW.r hM 34 2 (pc2 := 64) (L2 := [some (.ref 0), some (.int p0), some (.int p1), some (.int p2), some (.int (G 1 ((14 : Int32) + p0).toNatClampNeg)), some (.int (G 1 ((14 : Int32) + p1).toNatClampNeg)), some (.int (G 1 ((14 : Int32) + p2).toNatClampNeg))]) (st2 := [.int p1, .ref 0]) (μ2 := (hMo G J)) rfl trivial ?_
          obtain ⟨v7, hv6, h⟩ := jbd h
          refine JW.cV (v := some (.int v7)) hM (m_X6_isHeld (jVX X) hM.1.2.2.2.2.2.2.2.2.2.1 N G J p1 v7 hv6) (sb_Mo_Mo_0 G J) (bi_Mo_Mo_0 G J) rfl rfl rfl kc_X6_357 rfl rfl rfl rfl rfl (jat hM.2.1 36 rfl) (st := []) rfl ?_
          show JW X 0 0 67 [some (.ref 0), some (.int p0), some (.int p1), some (.int p2), some (.int (G 1 ((14 : Int32) + p0).toNatClampNeg)), some (.int (G 1 ((14 : Int32) + p1).toNatClampNeg)), some (.int (G 1 ((14 : Int32) + p2).toNatClampNeg))] [.int v7] (hMo G J)
          refine js_ifeq (t := 109) hM.1 (jat hM.2.1 37 rfl) rfl (fun hc20 => ?_) (fun hc20 => ?_)
          · have h := (if_pos hc20).symm.trans h
            refine JW.r hM 59 1 (pc2 := 110) (L2 := [some (.ref 0), some (.int p0), some (.int p1), some (.int p2), some (.int (G 1 ((14 : Int32) + p0).toNatClampNeg)), some (.int (G 1 ((14 : Int32) + p1).toNatClampNeg)), some (.int (G 1 ((14 : Int32) + p2).toNatClampNeg))]) (st2 := [.int (0 : Int32)]) (μ2 := (hMo G J)) rfl trivial ?_
            obtain rfl := Option.some.inj h
            exact js_zret hM.1 hp hM.2.2.2.2.2.2.2.1 rfl (by rw [hM.2.2.2.2.2.1]; exact Nat.le_of_ble_eq_true rfl) (by rw [hM.2.2.2.2.2.2.1]; exact Nat.le_of_ble_eq_true rfl) (jat hM.2.1 60 rfl) hq
          · have h := (if_neg hc20).symm.trans h
            refine JW.r hM 38 2 (pc2 := 72) (L2 := [some (.ref 0), some (.int p0), some (.int p1), some (.int p2), some (.int (G 1 ((14 : Int32) + p0).toNatClampNeg)), some (.int (G 1 ((14 : Int32) + p1).toNatClampNeg)), some (.int (G 1 ((14 : Int32) + p2).toNatClampNeg))]) (st2 := [.int p2, .ref 0]) (μ2 := (hMo G J)) rfl trivial ?_
            obtain ⟨v9, hv8, h⟩ := jbd h
            refine JW.cV (v := some (.int v9)) hM (m_X6_isHeld (jVX X) hM.1.2.2.2.2.2.2.2.2.2.1 N G J p2 v9 hv8) (sb_Mo_Mo_0 G J) (bi_Mo_Mo_0 G J) rfl rfl rfl kc_X6_357 rfl rfl rfl rfl rfl (jat hM.2.1 40 rfl) (st := []) rfl ?_
            show JW X 0 0 75 [some (.ref 0), some (.int p0), some (.int p1), some (.int p2), some (.int (G 1 ((14 : Int32) + p0).toNatClampNeg)), some (.int (G 1 ((14 : Int32) + p1).toNatClampNeg)), some (.int (G 1 ((14 : Int32) + p2).toNatClampNeg))] [.int v9] (hMo G J)
            refine js_ifeq (t := 109) hM.1 (jat hM.2.1 41 rfl) rfl (fun hc19 => ?_) (fun hc19 => ?_)
            · have h := (if_pos hc19).symm.trans h
              refine JW.r hM 59 1 (pc2 := 110) (L2 := [some (.ref 0), some (.int p0), some (.int p1), some (.int p2), some (.int (G 1 ((14 : Int32) + p0).toNatClampNeg)), some (.int (G 1 ((14 : Int32) + p1).toNatClampNeg)), some (.int (G 1 ((14 : Int32) + p2).toNatClampNeg))]) (st2 := [.int (0 : Int32)]) (μ2 := (hMo G J)) rfl trivial ?_
              obtain rfl := Option.some.inj h
              exact js_zret hM.1 hp hM.2.2.2.2.2.2.2.1 rfl (by rw [hM.2.2.2.2.2.1]; exact Nat.le_of_ble_eq_true rfl) (by rw [hM.2.2.2.2.2.2.1]; exact Nat.le_of_ble_eq_true rfl) (jat hM.2.1 60 rfl) hq
            · have h := (if_neg hc19).symm.trans h
              refine JW.r hM 42 3 (pc2 := 81) (L2 := [some (.ref 0), some (.int p0), some (.int p1), some (.int p2), some (.int (G 1 ((14 : Int32) + p0).toNatClampNeg)), some (.int (G 1 ((14 : Int32) + p1).toNatClampNeg)), some (.int (G 1 ((14 : Int32) + p2).toNatClampNeg))]) (st2 := [.int p1, .int p0, .ref 0]) (μ2 := (hMo G J)) rfl trivial ?_
              obtain ⟨v11, hv10, h⟩ := jbd h
              refine JW.cV (v := some (.int v11)) hM (m_X6_rather (jVX X) hM.1.2.2.2.2.2.2.2.2.2.1 N G J p0 p1 v11 hv10) (sb_Mo_Mo_0 G J) (bi_Mo_Mo_0 G J) rfl rfl rfl kc_X6_360 rfl rfl rfl rfl rfl (jat hM.2.1 45 rfl) (st := []) rfl ?_
              show JW X 0 0 84 [some (.ref 0), some (.int p0), some (.int p1), some (.int p2), some (.int (G 1 ((14 : Int32) + p0).toNatClampNeg)), some (.int (G 1 ((14 : Int32) + p1).toNatClampNeg)), some (.int (G 1 ((14 : Int32) + p2).toNatClampNeg))] [.int v11] (hMo G J)
              refine js_ifeq (t := 109) hM.1 (jat hM.2.1 46 rfl) rfl (fun hc18 => ?_) (fun hc18 => ?_)
              · have h := (if_pos hc18).symm.trans h
                refine JW.r hM 59 1 (pc2 := 110) (L2 := [some (.ref 0), some (.int p0), some (.int p1), some (.int p2), some (.int (G 1 ((14 : Int32) + p0).toNatClampNeg)), some (.int (G 1 ((14 : Int32) + p1).toNatClampNeg)), some (.int (G 1 ((14 : Int32) + p2).toNatClampNeg))]) (st2 := [.int (0 : Int32)]) (μ2 := (hMo G J)) rfl trivial ?_
                obtain rfl := Option.some.inj h
                exact js_zret hM.1 hp hM.2.2.2.2.2.2.2.1 rfl (by rw [hM.2.2.2.2.2.1]; exact Nat.le_of_ble_eq_true rfl) (by rw [hM.2.2.2.2.2.2.1]; exact Nat.le_of_ble_eq_true rfl) (jat hM.2.1 60 rfl) hq
              · have h := (if_neg hc18).symm.trans h
                refine JW.r hM 47 3 (pc2 := 90) (L2 := [some (.ref 0), some (.int p0), some (.int p1), some (.int p2), some (.int (G 1 ((14 : Int32) + p0).toNatClampNeg)), some (.int (G 1 ((14 : Int32) + p1).toNatClampNeg)), some (.int (G 1 ((14 : Int32) + p2).toNatClampNeg))]) (st2 := [.int p2, .int p1, .ref 0]) (μ2 := (hMo G J)) rfl trivial ?_
                obtain ⟨v13, hv12, h⟩ := jbd h
                refine JW.cV (v := some (.int v13)) hM (m_X6_rather (jVX X) hM.1.2.2.2.2.2.2.2.2.2.1 N G J p1 p2 v13 hv12) (sb_Mo_Mo_0 G J) (bi_Mo_Mo_0 G J) rfl rfl rfl kc_X6_360 rfl rfl rfl rfl rfl (jat hM.2.1 50 rfl) (st := []) rfl ?_
                show JW X 0 0 93 [some (.ref 0), some (.int p0), some (.int p1), some (.int p2), some (.int (G 1 ((14 : Int32) + p0).toNatClampNeg)), some (.int (G 1 ((14 : Int32) + p1).toNatClampNeg)), some (.int (G 1 ((14 : Int32) + p2).toNatClampNeg))] [.int v13] (hMo G J)
                refine js_ifeq (t := 109) hM.1 (jat hM.2.1 51 rfl) rfl (fun hc17 => ?_) (fun hc17 => ?_)
                · have h := (if_pos hc17).symm.trans h
                  refine JW.r hM 59 1 (pc2 := 110) (L2 := [some (.ref 0), some (.int p0), some (.int p1), some (.int p2), some (.int (G 1 ((14 : Int32) + p0).toNatClampNeg)), some (.int (G 1 ((14 : Int32) + p1).toNatClampNeg)), some (.int (G 1 ((14 : Int32) + p2).toNatClampNeg))]) (st2 := [.int (0 : Int32)]) (μ2 := (hMo G J)) rfl trivial ?_
                  obtain rfl := Option.some.inj h
                  exact js_zret hM.1 hp hM.2.2.2.2.2.2.2.1 rfl (by rw [hM.2.2.2.2.2.1]; exact Nat.le_of_ble_eq_true rfl) (by rw [hM.2.2.2.2.2.2.1]; exact Nat.le_of_ble_eq_true rfl) (jat hM.2.1 60 rfl) hq
                · have h := (if_neg hc17).symm.trans h
                  refine JW.r hM 52 3 (pc2 := 99) (L2 := [some (.ref 0), some (.int p0), some (.int p1), some (.int p2), some (.int (G 1 ((14 : Int32) + p0).toNatClampNeg)), some (.int (G 1 ((14 : Int32) + p1).toNatClampNeg)), some (.int (G 1 ((14 : Int32) + p2).toNatClampNeg))]) (st2 := [.int p0, .int p2, .ref 0]) (μ2 := (hMo G J)) rfl trivial ?_
                  obtain ⟨v15, hv14, h⟩ := jbd h
                  refine JW.cV (v := some (.int v15)) hM (m_X6_rather (jVX X) hM.1.2.2.2.2.2.2.2.2.2.1 N G J p2 p0 v15 hv14) (sb_Mo_Mo_0 G J) (bi_Mo_Mo_0 G J) rfl rfl rfl kc_X6_360 rfl rfl rfl rfl rfl (jat hM.2.1 55 rfl) (st := []) rfl ?_
                  show JW X 0 0 102 [some (.ref 0), some (.int p0), some (.int p1), some (.int p2), some (.int (G 1 ((14 : Int32) + p0).toNatClampNeg)), some (.int (G 1 ((14 : Int32) + p1).toNatClampNeg)), some (.int (G 1 ((14 : Int32) + p2).toNatClampNeg))] [.int v15] (hMo G J)
                  refine js_ifeq (t := 109) hM.1 (jat hM.2.1 56 rfl) rfl (fun hc16 => ?_) (fun hc16 => ?_)
                  · have h := (if_pos hc16).symm.trans h
                    refine JW.r hM 59 1 (pc2 := 110) (L2 := [some (.ref 0), some (.int p0), some (.int p1), some (.int p2), some (.int (G 1 ((14 : Int32) + p0).toNatClampNeg)), some (.int (G 1 ((14 : Int32) + p1).toNatClampNeg)), some (.int (G 1 ((14 : Int32) + p2).toNatClampNeg))]) (st2 := [.int (0 : Int32)]) (μ2 := (hMo G J)) rfl trivial ?_
                    obtain rfl := Option.some.inj h
                    exact js_zret hM.1 hp hM.2.2.2.2.2.2.2.1 rfl (by rw [hM.2.2.2.2.2.1]; exact Nat.le_of_ble_eq_true rfl) (by rw [hM.2.2.2.2.2.2.1]; exact Nat.le_of_ble_eq_true rfl) (jat hM.2.1 60 rfl) hq
                  · have h := (if_neg hc16).symm.trans h
                    refine JW.r hM 57 2 (pc2 := 110) (L2 := [some (.ref 0), some (.int p0), some (.int p1), some (.int p2), some (.int (G 1 ((14 : Int32) + p0).toNatClampNeg)), some (.int (G 1 ((14 : Int32) + p1).toNatClampNeg)), some (.int (G 1 ((14 : Int32) + p2).toNatClampNeg))]) (st2 := [.int (1 : Int32)]) (μ2 := (hMo G J)) rfl trivial ?_
                    obtain rfl := Option.some.inj h
                    exact js_zret hM.1 hp hM.2.2.2.2.2.2.2.1 rfl (by rw [hM.2.2.2.2.2.1]; exact Nat.le_of_ble_eq_true rfl) (by rw [hM.2.2.2.2.2.2.1]; exact Nat.le_of_ble_eq_true rfl) (jat hM.2.1 60 rfl) hq
theorem m_X6_isThree (V : jV) (hV : V.1.stackTraces = false) (N : Nat) (G : Nat → Nat → Int32) (J : Nat → Nat → Int64) (p0 : Int32) (p1 : Int32) (p2 : Int32) (v : Int32) (h : p_X6_isThree N G J p0 p1 p2 = some v) : jMet V yX6_isThree (jws yX6_isThree cX6_isThree 7 (some .boolean)) ⟨2, 0, 0, 44⟩ true 1 [.ref 0, .int p0, .int p1, .int p2] (hMo G J) (fun o ν => o = some (.int v) ∧ ν = (hMo G J)) (fun _ _ => False) := by
  refine jmk (tb := tbX6) (C := kX6_isThree) hV rfl (by decide) tbX6_ok rfl kX6_isThree_ok rfl ?_
  intro X hM _ hp _
  exact t_X6_isThree hM hp N G J p0 p1 p2 h ⟨rfl, rfl⟩
def p_X6_threes_b89 (N : Nat) (J : Nat → Nat → Int64) (rv9 : (Nat → Nat → Int32) → Int32 → Int32 → Int32 → Option (Int32 × (Nat → Nat → Int32))) (rv24 : (Nat → Nat → Int32) → Int32 → Int32 → Int32 → Int32 → Option (Int32 × (Nat → Nat → Int32))) (rv40 : (Nat → Nat → Int32) → Int32 → Int32 → Int32 → Int32 → Int32 → Option (Int32 × (Nat → Nat → Int32))) (G : Nat → Nat → Int32) (x1 : Int32) (x2 : Int32) (x3 : Int32) (x4 : Int32) (x5 : Int32) : Option (Int32 × (Nat → Nat → Int32)) :=
  rv40 G x1 x2 x3 x4 (x5 + 1)
def p_X6_threes_b40 (N : Nat) (J : Nat → Nat → Int64) (rv9 : (Nat → Nat → Int32) → Int32 → Int32 → Int32 → Option (Int32 × (Nat → Nat → Int32))) (rv24 : (Nat → Nat → Int32) → Int32 → Int32 → Int32 → Int32 → Option (Int32 × (Nat → Nat → Int32))) : Nat → (Nat → Nat → Int32) → (Int32) → (Int32) → (Int32) → (Int32) → (Int32) → Option (Int32 × (Nat → Nat → Int32))
  | 0, _, _, _, _, _, _ => none
  | n + 1, G, x1, x2, x3, x4, x5 => if (G 1 2) ≤ x5 then (rv24 G x1 x2 x3 (x4 + 1)) else ((p_X6_isThree N G J x3 x4 x5).bind (fun v5 => if v5 = 0 then (p_X6_threes_b89 N J rv9 rv24 (p_X6_threes_b40 N J rv9 rv24 n) G x1 x2 x3 x4 x5) else (if x2 = x1 then (some (((((10000 : Int32) * x3) + ((100 : Int32) * x4)) + x5), G)) else (p_X6_threes_b89 N J rv9 rv24 (p_X6_threes_b40 N J rv9 rv24 n) G x1 (x2 + 1) x3 x4 x5))))
def p_X6_threes_b24 (N : Nat) (J : Nat → Nat → Int64) (rv9 : (Nat → Nat → Int32) → Int32 → Int32 → Int32 → Option (Int32 × (Nat → Nat → Int32))) : Nat → (Nat → Nat → Int32) → (Int32) → (Int32) → (Int32) → (Int32) → Option (Int32 × (Nat → Nat → Int32))
  | 0, _, _, _, _, _ => none
  | n + 1, G, x1, x2, x3, x4 => if (G 1 2) ≤ x4 then (rv9 G x1 x2 (x3 + 1)) else (p_X6_threes_b40 N J rv9 (p_X6_threes_b24 N J rv9 n) N G x1 x2 x3 x4 (x3 + (1 : Int32)))
def p_X6_threes_b9 (N : Nat) (J : Nat → Nat → Int64) : Nat → (Nat → Nat → Int32) → (Int32) → (Int32) → (Int32) → Option (Int32 × (Nat → Nat → Int32))
  | 0, _, _, _, _ => none
  | n + 1, G, x1, x2, x3 => if (G 1 2) ≤ x3 then (if x1 = (-1 : Int32) then (some (x2, G)) else (some ((-1 : Int32), G))) else (p_X6_threes_b24 N J (p_X6_threes_b9 N J n) N G x1 x2 x3 (x3 + (1 : Int32)))
def p_X6_threes (N : Nat) (G : Nat → Nat → Int32) (J : Nat → Nat → Int64) (p0 : Int32) : Option (Int32 × (Nat → Nat → Int32)) :=
  jlt (jup G 0 5 (0 : Int32)) fun G1 => p_X6_threes_b9 N J N G1 p0 (0 : Int32) (0 : Int32)
set_option maxHeartbeats 4000000 in
set_option maxRecDepth 100000 in
theorem t_X6_threes_b89 {X : jX} {po : Option Value → jH → Prop} {px : String → jH → Prop} {sf : Bool} {B9 : Nat} (hM : jMX X kX6_threes RX6 tbX6 6 ⟨3, 0, 0, 70⟩ (some .int) 16) (hp : jPost X sf B9 po px) (N : Nat) (J : Nat → Nat → Int64) (rv9 : (Nat → Nat → Int32) → Int32 → Int32 → Int32 → Option (Int32 × (Nat → Nat → Int32))) (rv24 : (Nat → Nat → Int32) → Int32 → Int32 → Int32 → Int32 → Option (Int32 × (Nat → Nat → Int32))) (rv40 : (Nat → Nat → Int32) → Int32 → Int32 → Int32 → Int32 → Int32 → Option (Int32 × (Nat → Nat → Int32))) {res : Int32 × (Nat → Nat → Int32)} (ih9 : ∀ (G : Nat → Nat → Int32) (x1 : Int32) (x2 : Int32) (x3 : Int32), rv9 G x1 x2 x3 = some res → JW X 0 0 9 [some (.ref 0), some (.int x1), some (.int x2), some (.int x3), none, none] [] (hMo G J)) (ih24 : ∀ (G : Nat → Nat → Int32) (x1 : Int32) (x2 : Int32) (x3 : Int32) (x4 : Int32), rv24 G x1 x2 x3 x4 = some res → JW X 0 0 24 [some (.ref 0), some (.int x1), some (.int x2), some (.int x3), some (.int x4), none] [] (hMo G J)) (ih40 : ∀ (G : Nat → Nat → Int32) (x1 : Int32) (x2 : Int32) (x3 : Int32) (x4 : Int32) (x5 : Int32), rv40 G x1 x2 x3 x4 x5 = some res → JW X 0 0 40 [some (.ref 0), some (.int x1), some (.int x2), some (.int x3), some (.int x4), some (.int x5)] [] (hMo G J)) (G : Nat → Nat → Int32) (x1 : Int32) (x2 : Int32) (x3 : Int32) (x4 : Int32) (x5 : Int32) (h : p_X6_threes_b89 N J rv9 rv24 rv40 G x1 x2 x3 x4 x5 = some res) (hq : po (some (.int res.1)) (hMo res.2 J)) : JW X 0 0 89 [some (.ref 0), some (.int x1), some (.int x2), some (.int x3), some (.int x4), some (.int x5)] [] (hMo G J) := by
  unfold p_X6_threes_b89 at h
  refine JW.r hM 54 2 (pc2 := 40) (L2 := [some (.ref 0), some (.int x1), some (.int x2), some (.int x3), some (.int x4), some (.int (x5 + 1))]) (st2 := []) (μ2 := (hMo G J)) rfl trivial ?_
  exact ih40 G x1 x2 x3 x4 (x5 + 1) h
set_option maxHeartbeats 4000000 in
set_option maxRecDepth 100000 in
theorem t_X6_threes_b40 {X : jX} {po : Option Value → jH → Prop} {px : String → jH → Prop} {sf : Bool} {B9 : Nat} (hM : jMX X kX6_threes RX6 tbX6 6 ⟨3, 0, 0, 70⟩ (some .int) 16) (hp : jPost X sf B9 po px) (N : Nat) (J : Nat → Nat → Int64) (rv9 : (Nat → Nat → Int32) → Int32 → Int32 → Int32 → Option (Int32 × (Nat → Nat → Int32))) (rv24 : (Nat → Nat → Int32) → Int32 → Int32 → Int32 → Int32 → Option (Int32 × (Nat → Nat → Int32))) {res : Int32 × (Nat → Nat → Int32)} (ih9 : ∀ (G : Nat → Nat → Int32) (x1 : Int32) (x2 : Int32) (x3 : Int32), rv9 G x1 x2 x3 = some res → JW X 0 0 9 [some (.ref 0), some (.int x1), some (.int x2), some (.int x3), none, none] [] (hMo G J)) (ih24 : ∀ (G : Nat → Nat → Int32) (x1 : Int32) (x2 : Int32) (x3 : Int32) (x4 : Int32), rv24 G x1 x2 x3 x4 = some res → JW X 0 0 24 [some (.ref 0), some (.int x1), some (.int x2), some (.int x3), some (.int x4), none] [] (hMo G J)) : ∀ (n : Nat) (G : Nat → Nat → Int32) (x1 : Int32) (x2 : Int32) (x3 : Int32) (x4 : Int32) (x5 : Int32) (h : p_X6_threes_b40 N J rv9 rv24 n G x1 x2 x3 x4 x5 = some res) (hq : po (some (.int res.1)) (hMo res.2 J)), JW X 0 0 40 [some (.ref 0), some (.int x1), some (.int x2), some (.int x3), some (.int x4), some (.int x5)] [] (hMo G J) := by
  intro n
  induction n with
  | zero =>
    intro G x1 x2 x3 x4 x5 h hq
    cases (show (none : Option (Int32 × (Nat → Nat → Int32))) = some res from h)
  | succ n ih40 =>
    intro G x1 x2 x3 x4 x5 h hq
    have ih40 := fun G x1 x2 x3 x4 x5 h9 => ih40 G x1 x2 x3 x4 x5 h9 hq
    rw [p_X6_threes_b40] at h
    refine JW.r hM 27 5 (pc2 := 48) (L2 := [some (.ref 0), some (.int x1), some (.int x2), some (.int x3), some (.int x4), some (.int x5)]) (st2 := [.int (G 1 2), .int x5]) (μ2 := (hMo G J)) rfl ⟨rfl, trivial⟩ ?_
    refine js_icge (t := 95) hM.1 (jat hM.2.1 32 rfl) rfl (fun hc8 => ?_) (fun hc8 => ?_)
    · have h := (if_pos hc8).symm.trans h
      refine JW.r hM 56 2 (pc2 := 24) (L2 := [some (.ref 0), some (.int x1), some (.int x2), some (.int x3), some (.int (x4 + 1)), some (.int x5)]) (st2 := []) (μ2 := (hMo G J)) rfl trivial ?_
      exact JW.mask [true, true, true, true, true, false] (ih24 G x1 x2 x3 (x4 + 1) h)
    · have h := (if_neg hc8).symm.trans h
      refine JW.r hM 33 4 (pc2 := 57) (L2 := [some (.ref 0), some (.int x1), some (.int x2), some (.int x3), some (.int x4), some (.int x5)]) (st2 := [.int x5, .int x4, .int x3, .ref 0]) (μ2 := (hMo G J)) rfl trivial ?_
      obtain ⟨v5, hv4, h⟩ := jbd h
      refine JW.cV (v := some (.int v5)) hM (m_X6_isThree (jVX X) hM.1.2.2.2.2.2.2.2.2.2.1 N G J x3 x4 x5 v5 hv4) (sb_Mo_Mo_0 G J) (bi_Mo_Mo_0 G J) rfl rfl rfl kc_X6_363 rfl rfl rfl rfl rfl (jat hM.2.1 37 rfl) (st := []) rfl ?_
      show JW X 0 0 60 [some (.ref 0), some (.int x1), some (.int x2), some (.int x3), some (.int x4), some (.int x5)] [.int v5] (hMo G J)
      refine js_ifne (t := 66) hM.1 (jat hM.2.1 38 rfl) rfl (fun hc7 => ?_) (fun hc7 => ?_)
      · have h := (if_neg hc7).symm.trans h
        refine JW.r hM 40 2 (pc2 := 68) (L2 := [some (.ref 0), some (.int x1), some (.int x2), some (.int x3), some (.int x4), some (.int x5)]) (st2 := [.int x1, .int x2]) (μ2 := (hMo G J)) rfl trivial ?_
        refine js_icne (t := 86) hM.1 (jat hM.2.1 42 rfl) rfl (fun hc6 => ?_) (fun hc6 => ?_)
        · have h := (if_neg hc6).symm.trans h
          refine JW.r hM 53 1 (pc2 := 89) (L2 := [some (.ref 0), some (.int x1), some (.int (x2 + 1)), some (.int x3), some (.int x4), some (.int x5)]) (st2 := []) (μ2 := (hMo G J)) rfl trivial ?_
          exact t_X6_threes_b89 hM hp N J rv9 rv24 (p_X6_threes_b40 N J rv9 rv24 n) ih9 ih24 ih40 G x1 (x2 + 1) x3 x4 x5 h hq
        · have h := (if_pos hc6).symm.trans h
          refine JW.r hM 43 9 (pc2 := 85) (L2 := [some (.ref 0), some (.int x1), some (.int x2), some (.int x3), some (.int x4), some (.int x5)]) (st2 := [.int ((((10000 : Int32) * x3) + ((100 : Int32) * x4)) + x5)]) (μ2 := (hMo G J)) rfl trivial ?_
          obtain rfl := Option.some.inj h
          exact js_iret hM.1 hp hM.2.2.2.2.2.2.2.1 (by rw [hM.2.2.2.2.2.1]; exact Nat.le_of_ble_eq_true rfl) (by rw [hM.2.2.2.2.2.2.1]; exact Nat.le_of_ble_eq_true rfl) (jat hM.2.1 52 rfl) hq
      · have h := (if_pos hc7).symm.trans h
        refine JW.r hM 39 1 (pc2 := 89) (L2 := [some (.ref 0), some (.int x1), some (.int x2), some (.int x3), some (.int x4), some (.int x5)]) (st2 := []) (μ2 := (hMo G J)) rfl trivial ?_
        exact t_X6_threes_b89 hM hp N J rv9 rv24 (p_X6_threes_b40 N J rv9 rv24 n) ih9 ih24 ih40 G x1 x2 x3 x4 x5 h hq
set_option maxHeartbeats 4000000 in
set_option maxRecDepth 100000 in
theorem t_X6_threes_b24 {X : jX} {po : Option Value → jH → Prop} {px : String → jH → Prop} {sf : Bool} {B9 : Nat} (hM : jMX X kX6_threes RX6 tbX6 6 ⟨3, 0, 0, 70⟩ (some .int) 16) (hp : jPost X sf B9 po px) (N : Nat) (J : Nat → Nat → Int64) (rv9 : (Nat → Nat → Int32) → Int32 → Int32 → Int32 → Option (Int32 × (Nat → Nat → Int32))) {res : Int32 × (Nat → Nat → Int32)} (ih9 : ∀ (G : Nat → Nat → Int32) (x1 : Int32) (x2 : Int32) (x3 : Int32), rv9 G x1 x2 x3 = some res → JW X 0 0 9 [some (.ref 0), some (.int x1), some (.int x2), some (.int x3), none, none] [] (hMo G J)) : ∀ (n : Nat) (G : Nat → Nat → Int32) (x1 : Int32) (x2 : Int32) (x3 : Int32) (x4 : Int32) (h : p_X6_threes_b24 N J rv9 n G x1 x2 x3 x4 = some res) (hq : po (some (.int res.1)) (hMo res.2 J)), JW X 0 0 24 [some (.ref 0), some (.int x1), some (.int x2), some (.int x3), some (.int x4), none] [] (hMo G J) := by
  intro n
  induction n with
  | zero =>
    intro G x1 x2 x3 x4 h hq
    cases (show (none : Option (Int32 × (Nat → Nat → Int32))) = some res from h)
  | succ n ih24 =>
    intro G x1 x2 x3 x4 h hq
    have ih24 := fun G x1 x2 x3 x4 h9 => ih24 G x1 x2 x3 x4 h9 hq
    rw [p_X6_threes_b24] at h
    refine JW.r hM 17 5 (pc2 := 32) (L2 := [some (.ref 0), some (.int x1), some (.int x2), some (.int x3), some (.int x4), none]) (st2 := [.int (G 1 2), .int x4]) (μ2 := (hMo G J)) rfl ⟨rfl, trivial⟩ ?_
    refine js_icge (t := 101) hM.1 (jat hM.2.1 22 rfl) rfl (fun hc9 => ?_) (fun hc9 => ?_)
    · have h := (if_pos hc9).symm.trans h
      refine JW.r hM 58 2 (pc2 := 9) (L2 := [some (.ref 0), some (.int x1), some (.int x2), some (.int (x3 + 1)), some (.int x4), none]) (st2 := []) (μ2 := (hMo G J)) rfl trivial ?_
      exact JW.mask [true, true, true, true, false, false] (ih9 G x1 x2 (x3 + 1) h)
    · have h := (if_neg hc9).symm.trans h
      refine JW.r hM 23 4 (pc2 := 40) (L2 := [some (.ref 0), some (.int x1), some (.int x2), some (.int x3), some (.int x4), some (.int (x3 + (1 : Int32)))]) (st2 := []) (μ2 := (hMo G J)) rfl trivial ?_
      exact t_X6_threes_b40 hM hp N J rv9 (p_X6_threes_b24 N J rv9 n) ih9 ih24 N G x1 x2 x3 x4 (x3 + (1 : Int32)) h hq
set_option maxHeartbeats 4000000 in
set_option maxRecDepth 100000 in
theorem t_X6_threes_b9 {X : jX} {po : Option Value → jH → Prop} {px : String → jH → Prop} {sf : Bool} {B9 : Nat} (hM : jMX X kX6_threes RX6 tbX6 6 ⟨3, 0, 0, 70⟩ (some .int) 16) (hp : jPost X sf B9 po px) (N : Nat) (J : Nat → Nat → Int64) {res : Int32 × (Nat → Nat → Int32)} : ∀ (n : Nat) (G : Nat → Nat → Int32) (x1 : Int32) (x2 : Int32) (x3 : Int32) (h : p_X6_threes_b9 N J n G x1 x2 x3 = some res) (hq : po (some (.int res.1)) (hMo res.2 J)), JW X 0 0 9 [some (.ref 0), some (.int x1), some (.int x2), some (.int x3), none, none] [] (hMo G J) := by
  intro n
  induction n with
  | zero =>
    intro G x1 x2 x3 h hq
    cases (show (none : Option (Int32 × (Nat → Nat → Int32))) = some res from h)
  | succ n ih9 =>
    intro G x1 x2 x3 h hq
    have ih9 := fun G x1 x2 x3 h9 => ih9 G x1 x2 x3 h9 hq
    rw [p_X6_threes_b9] at h
    refine JW.r hM 7 5 (pc2 := 16) (L2 := [some (.ref 0), some (.int x1), some (.int x2), some (.int x3), none, none]) (st2 := [.int (G 1 2), .int x3]) (μ2 := (hMo G J)) rfl ⟨rfl, trivial⟩ ?_
    refine js_icge (t := 107) hM.1 (jat hM.2.1 12 rfl) rfl (fun hc10 => ?_) (fun hc10 => ?_)
    · have h := (if_pos hc10).symm.trans h
      refine JW.r hM 60 2 (pc2 := 109) (L2 := [some (.ref 0), some (.int x1), some (.int x2), some (.int x3), none, none]) (st2 := [.int (-1 : Int32), .int x1]) (μ2 := (hMo G J)) rfl trivial ?_
      refine js_icne (t := 116) hM.1 (jat hM.2.1 62 rfl) rfl (fun hc3 => ?_) (fun hc3 => ?_)
      · have h := (if_neg hc3).symm.trans h
        refine JW.r hM 65 1 (pc2 := 117) (L2 := [some (.ref 0), some (.int x1), some (.int x2), some (.int x3), none, none]) (st2 := [.int (-1 : Int32)]) (μ2 := (hMo G J)) rfl trivial ?_
        obtain rfl := Option.some.inj h
        exact js_iret hM.1 hp hM.2.2.2.2.2.2.2.1 (by rw [hM.2.2.2.2.2.1]; exact Nat.le_of_ble_eq_true rfl) (by rw [hM.2.2.2.2.2.2.1]; exact Nat.le_of_ble_eq_true rfl) (jat hM.2.1 66 rfl) hq
      · have h := (if_pos hc3).symm.trans h
        refine JW.r hM 63 2 (pc2 := 117) (L2 := [some (.ref 0), some (.int x1), some (.int x2), some (.int x3), none, none]) (st2 := [.int x2]) (μ2 := (hMo G J)) rfl trivial ?_
        obtain rfl := Option.some.inj h
        exact js_iret hM.1 hp hM.2.2.2.2.2.2.2.1 (by rw [hM.2.2.2.2.2.1]; exact Nat.le_of_ble_eq_true rfl) (by rw [hM.2.2.2.2.2.2.1]; exact Nat.le_of_ble_eq_true rfl) (jat hM.2.1 66 rfl) hq
    · have h := (if_neg hc10).symm.trans h
      refine JW.r hM 13 4 (pc2 := 24) (L2 := [some (.ref 0), some (.int x1), some (.int x2), some (.int x3), some (.int (x3 + (1 : Int32))), none]) (st2 := []) (μ2 := (hMo G J)) rfl trivial ?_
      exact t_X6_threes_b24 hM hp N J (p_X6_threes_b9 N J n) ih9 N G x1 x2 x3 (x3 + (1 : Int32)) h hq
set_option maxHeartbeats 4000000 in
set_option maxRecDepth 100000 in
theorem t_X6_threes {X : jX} {po : Option Value → jH → Prop} {px : String → jH → Prop} {sf : Bool} {B9 : Nat} (hM : jMX X kX6_threes RX6 tbX6 6 ⟨3, 0, 0, 70⟩ (some .int) 16) (hp : jPost X sf B9 po px) (N : Nat) (G : Nat → Nat → Int32) (J : Nat → Nat → Int64) (p0 : Int32) {res : Int32 × (Nat → Nat → Int32)} (h : p_X6_threes N G J p0 = some res) (hq : po (some (.int res.1)) (hMo res.2 J)) : JW X 0 0 0 [some (.ref 0), some (.int p0), none, none, none, none] [] (hMo G J) := by
  unfold p_X6_threes at h
  obtain ⟨G1, e2, h⟩ := jlE h
  refine JW.r hM 0 3 (pc2 := 5) (L2 := [some (.ref 0), some (.int p0), none, none, none, none]) (st2 := []) (μ2 := (hMo (jup G 0 5 (0 : Int32)) J)) rfl trivial ?_
  rw [e2]
  refine JW.r hM 3 4 (pc2 := 9) (L2 := [some (.ref 0), some (.int p0), some (.int (0 : Int32)), some (.int (0 : Int32)), none, none]) (st2 := []) (μ2 := (hMo G1 J)) rfl trivial ?_
  exact t_X6_threes_b9 hM hp N J N G1 p0 (0 : Int32) (0 : Int32) h hq
theorem m_X6_threes (V : jV) (hV : V.1.stackTraces = false) (N : Nat) (G : Nat → Nat → Int32) (J : Nat → Nat → Int64) (p0 : Int32) (v : Int32 × (Nat → Nat → Int32)) (h : p_X6_threes N G J p0 = some v) : jMet V yX6_threes (jws yX6_threes cX6_threes 6 (some .int)) ⟨3, 0, 0, 70⟩ true 1 [.ref 0, .int p0] (hMo G J) (fun o ν => o = some (.int v.1) ∧ ν = (hMo v.2 J)) (fun _ _ => False) := by
  refine jmk (tb := tbX6) (C := kX6_threes) hV rfl (by decide) tbX6_ok rfl kX6_threes_ok rfl ?_
  intro X hM _ hp _
  exact t_X6_threes hM hp N G J p0 h ⟨rfl, rfl⟩
def p_X6_misplaced_b62 (N : Nat) (J : Nat → Nat → Int64) (rv9 : (Nat → Nat → Int32) → Int32 → Int32 → Option (Int32 × (Nat → Nat → Int32))) (rv21 : (Nat → Nat → Int32) → Int32 → Int32 → Int32 → Option (Int32 × (Nat → Nat → Int32))) (G : Nat → Nat → Int32) (x2 : Int32) (x3 : Int32) (s0 : Int32) (s1 : Int32) : Option (Int32 × (Nat → Nat → Int32)) :=
  rv21 G (s1 ||| s0) x2 (x3 + 1)
def p_X6_misplaced_b21 (N : Nat) (J : Nat → Nat → Int64) (rv9 : (Nat → Nat → Int32) → Int32 → Int32 → Option (Int32 × (Nat → Nat → Int32))) : Nat → (Nat → Nat → Int32) → (Int32) → (Int32) → (Int32) → Option (Int32 × (Nat → Nat → Int32))
  | 0, _, _, _, _ => none
  | n + 1, G, x1, x2, x3 => if (G 1 1) ≤ x3 then (rv9 G x1 (x2 + 1)) else ((p_X6_worthTo N G J x2 x3).bind (fun v4 => if jin ((14 : Int32) + x2) 264 = true then (p_X6_worthTo N G J x2 (G 1 ((14 : Int32) + x2).toNatClampNeg)).bind (fun v7 => if v4 ≤ v7 then (p_X6_misplaced_b62 N J rv9 (p_X6_misplaced_b21 N J rv9 n) G x2 x3 (0 : Int32) x1) else (p_X6_misplaced_b62 N J rv9 (p_X6_misplaced_b21 N J rv9 n) G x2 x3 ((1 : Int32) <<< (x2 &&& 31)) x1)) else none))
def p_X6_misplaced_b9 (N : Nat) (J : Nat → Nat → Int64) : Nat → (Nat → Nat → Int32) → (Int32) → (Int32) → Option (Int32 × (Nat → Nat → Int32))
  | 0, _, _, _ => none
  | n + 1, G, x1, x2 => if (G 1 2) ≤ x2 then (some (x1, G)) else (p_X6_misplaced_b21 N J (p_X6_misplaced_b9 N J n) N G x1 x2 (0 : Int32))
def p_X6_misplaced (N : Nat) (G : Nat → Nat → Int32) (J : Nat → Nat → Int64) : Option (Int32 × (Nat → Nat → Int32)) :=
  jlt (jup G 0 5 (0 : Int32)) fun G1 => p_X6_misplaced_b9 N J N G1 (0 : Int32) (0 : Int32)
set_option maxHeartbeats 4000000 in
set_option maxRecDepth 100000 in
theorem t_X6_misplaced_b62 {X : jX} {po : Option Value → jH → Prop} {px : String → jH → Prop} {sf : Bool} {B9 : Nat} (hM : jMX X kX6_misplaced RX6 tbX6 4 ⟨1, 0, 0, 22⟩ (some .int) 16) (hp : jPost X sf B9 po px) (N : Nat) (J : Nat → Nat → Int64) (rv9 : (Nat → Nat → Int32) → Int32 → Int32 → Option (Int32 × (Nat → Nat → Int32))) (rv21 : (Nat → Nat → Int32) → Int32 → Int32 → Int32 → Option (Int32 × (Nat → Nat → Int32))) {res : Int32 × (Nat → Nat → Int32)} (ih9 : ∀ (G : Nat → Nat → Int32) (x1 : Int32) (x2 : Int32), rv9 G x1 x2 = some res → JW X 0 0 9 [some (.ref 0), some (.int x1), some (.int x2), none] [] (hMo G J)) (ih21 : ∀ (G : Nat → Nat → Int32) (x1 : Int32) (x2 : Int32) (x3 : Int32), rv21 G x1 x2 x3 = some res → JW X 0 0 21 [some (.ref 0), some (.int x1), some (.int x2), some (.int x3)] [] (hMo G J)) (G : Nat → Nat → Int32) (x2 : Int32) (x3 : Int32) (s0 : Int32) (s1 : Int32) (h : p_X6_misplaced_b62 N J rv9 rv21 G x2 x3 s0 s1 = some res) (hq : po (some (.int res.1)) (hMo res.2 J)) : JW X 0 0 62 [some (.ref 0), none, some (.int x2), some (.int x3)] [.int s0, .int s1] (hMo G J) := by
  unfold p_X6_misplaced_b62 at h
  refine JW.r hM 41 4 (pc2 := 21) (L2 := [some (.ref 0), some (.int (s1 ||| s0)), some (.int x2), some (.int (x3 + 1))]) (st2 := []) (μ2 := (hMo G J)) rfl trivial ?_
  exact ih21 G (s1 ||| s0) x2 (x3 + 1) h
set_option maxHeartbeats 4000000 in
set_option maxRecDepth 100000 in
theorem t_X6_misplaced_b21 {X : jX} {po : Option Value → jH → Prop} {px : String → jH → Prop} {sf : Bool} {B9 : Nat} (hM : jMX X kX6_misplaced RX6 tbX6 4 ⟨1, 0, 0, 22⟩ (some .int) 16) (hp : jPost X sf B9 po px) (N : Nat) (J : Nat → Nat → Int64) (rv9 : (Nat → Nat → Int32) → Int32 → Int32 → Option (Int32 × (Nat → Nat → Int32))) {res : Int32 × (Nat → Nat → Int32)} (ih9 : ∀ (G : Nat → Nat → Int32) (x1 : Int32) (x2 : Int32), rv9 G x1 x2 = some res → JW X 0 0 9 [some (.ref 0), some (.int x1), some (.int x2), none] [] (hMo G J)) : ∀ (n : Nat) (G : Nat → Nat → Int32) (x1 : Int32) (x2 : Int32) (x3 : Int32) (h : p_X6_misplaced_b21 N J rv9 n G x1 x2 x3 = some res) (hq : po (some (.int res.1)) (hMo res.2 J)), JW X 0 0 21 [some (.ref 0), some (.int x1), some (.int x2), some (.int x3)] [] (hMo G J) := by
  intro n
  induction n with
  | zero =>
    intro G x1 x2 x3 h hq
    cases (show (none : Option (Int32 × (Nat → Nat → Int32))) = some res from h)
  | succ n ih21 =>
    intro G x1 x2 x3 h hq
    have ih21 := fun G x1 x2 x3 h9 => ih21 G x1 x2 x3 h9 hq
    rw [p_X6_misplaced_b21] at h
    refine JW.r hM 15 5 (pc2 := 28) (L2 := [some (.ref 0), some (.int x1), some (.int x2), some (.int x3)]) (st2 := [.int (G 1 1), .int x3]) (μ2 := (hMo G J)) rfl ⟨rfl, trivial⟩ ?_
    refine js_icge (t := 70) hM.1 (jat hM.2.1 20 rfl) rfl (fun hc9 => ?_) (fun hc9 => ?_)
    · have h := (if_pos hc9).symm.trans h
      refine JW.r hM 45 2 (pc2 := 9) (L2 := [some (.ref 0), some (.int x1), some (.int (x2 + 1)), some (.int x3)]) (st2 := []) (μ2 := (hMo G J)) rfl trivial ?_
      exact JW.mask [true, true, true, false] (ih9 G x1 (x2 + 1) h)
    · have h := (if_neg hc9).symm.trans h
      refine JW.r hM 21 4 (pc2 := 35) (L2 := [some (.ref 0), some (.int x1), some (.int x2), some (.int x3)]) (st2 := [.int x3, .int x2, .ref 0, .int x1]) (μ2 := (hMo G J)) rfl trivial ?_
      obtain ⟨v4, hv3, h⟩ := jbd h
      refine JW.cV (v := some (.int v4)) hM (m_X6_worthTo (jVX X) hM.1.2.2.2.2.2.2.2.2.2.1 N G J x2 x3 v4 hv3) (sb_Mo_Mo_0 G J) (bi_Mo_Mo_0 G J) rfl rfl rfl kc_X6_183 rfl rfl rfl rfl rfl (jat hM.2.1 25 rfl) (st := [.int x1]) rfl ?_
      show JW X 0 0 38 [some (.ref 0), some (.int x1), some (.int x2), some (.int x3)] [.int v4, .int x1] (hMo G J)
      obtain ⟨g5, h⟩ := jg h
      refine JW.r hM 26 8 (pc2 := 49) (L2 := [some (.ref 0), some (.int x1), some (.int x2), some (.int x3)]) (st2 := [.int (G 1 ((14 : Int32) + x2).toNatClampNeg), .int x2, .ref 0, .int v4, .int x1]) (μ2 := (hMo G J)) rfl ⟨g5, trivial⟩ ?_
      obtain ⟨v7, hv6, h⟩ := jbd h
      refine JW.cV (v := some (.int v7)) hM (m_X6_worthTo (jVX X) hM.1.2.2.2.2.2.2.2.2.2.1 N G J x2 (G 1 ((14 : Int32) + x2).toNatClampNeg) v7 hv6) (sb_Mo_Mo_0 G J) (bi_Mo_Mo_0 G J) rfl rfl rfl kc_X6_183 rfl rfl rfl rfl rfl (jat hM.2.1 34 rfl) (st := [.int v4, .int x1]) rfl ?_
      show JW X 0 0 52 [some (.ref 0), some (.int x1), some (.int x2), some (.int x3)] [.int v7, .int v4, .int x1] (hMo G J)
      refine js_icle (t := 61) hM.1 (jat hM.2.1 35 rfl) rfl (fun hc8 => ?_) (fun hc8 => ?_)
      · have h := (if_pos hc8).symm.trans h
        refine JW.r hM 40 1 (pc2 := 62) (L2 := [some (.ref 0), some (.int x1), some (.int x2), some (.int x3)]) (st2 := [.int (0 : Int32), .int x1]) (μ2 := (hMo G J)) rfl trivial ?_
        exact JW.mask [true, false, true, true] (t_X6_misplaced_b62 hM hp N J rv9 (p_X6_misplaced_b21 N J rv9 n) ih9 ih21 G x2 x3 (0 : Int32) x1 h hq)
      · have h := (if_neg hc8).symm.trans h
        refine JW.r hM 36 4 (pc2 := 62) (L2 := [some (.ref 0), some (.int x1), some (.int x2), some (.int x3)]) (st2 := [.int ((1 : Int32) <<< (x2 &&& 31)), .int x1]) (μ2 := (hMo G J)) rfl trivial ?_
        exact JW.mask [true, false, true, true] (t_X6_misplaced_b62 hM hp N J rv9 (p_X6_misplaced_b21 N J rv9 n) ih9 ih21 G x2 x3 ((1 : Int32) <<< (x2 &&& 31)) x1 h hq)
set_option maxHeartbeats 4000000 in
set_option maxRecDepth 100000 in
theorem t_X6_misplaced_b9 {X : jX} {po : Option Value → jH → Prop} {px : String → jH → Prop} {sf : Bool} {B9 : Nat} (hM : jMX X kX6_misplaced RX6 tbX6 4 ⟨1, 0, 0, 22⟩ (some .int) 16) (hp : jPost X sf B9 po px) (N : Nat) (J : Nat → Nat → Int64) {res : Int32 × (Nat → Nat → Int32)} : ∀ (n : Nat) (G : Nat → Nat → Int32) (x1 : Int32) (x2 : Int32) (h : p_X6_misplaced_b9 N J n G x1 x2 = some res) (hq : po (some (.int res.1)) (hMo res.2 J)), JW X 0 0 9 [some (.ref 0), some (.int x1), some (.int x2), none] [] (hMo G J) := by
  intro n
  induction n with
  | zero =>
    intro G x1 x2 h hq
    cases (show (none : Option (Int32 × (Nat → Nat → Int32))) = some res from h)
  | succ n ih9 =>
    intro G x1 x2 h hq
    have ih9 := fun G x1 x2 h9 => ih9 G x1 x2 h9 hq
    rw [p_X6_misplaced_b9] at h
    refine JW.r hM 7 5 (pc2 := 16) (L2 := [some (.ref 0), some (.int x1), some (.int x2), none]) (st2 := [.int (G 1 2), .int x2]) (μ2 := (hMo G J)) rfl ⟨rfl, trivial⟩ ?_
    refine js_icge (t := 76) hM.1 (jat hM.2.1 12 rfl) rfl (fun hc10 => ?_) (fun hc10 => ?_)
    · have h := (if_pos hc10).symm.trans h
      refine JW.r hM 47 1 (pc2 := 77) (L2 := [some (.ref 0), some (.int x1), some (.int x2), none]) (st2 := [.int x1]) (μ2 := (hMo G J)) rfl trivial ?_
      obtain rfl := Option.some.inj h
      exact js_iret hM.1 hp hM.2.2.2.2.2.2.2.1 (by rw [hM.2.2.2.2.2.1]; exact Nat.le_of_ble_eq_true rfl) (by rw [hM.2.2.2.2.2.2.1]; exact Nat.le_of_ble_eq_true rfl) (jat hM.2.1 48 rfl) hq
    · have h := (if_neg hc10).symm.trans h
      refine JW.r hM 13 2 (pc2 := 21) (L2 := [some (.ref 0), some (.int x1), some (.int x2), some (.int (0 : Int32))]) (st2 := []) (μ2 := (hMo G J)) rfl trivial ?_
      exact t_X6_misplaced_b21 hM hp N J (p_X6_misplaced_b9 N J n) ih9 N G x1 x2 (0 : Int32) h hq
set_option maxHeartbeats 4000000 in
set_option maxRecDepth 100000 in
theorem t_X6_misplaced {X : jX} {po : Option Value → jH → Prop} {px : String → jH → Prop} {sf : Bool} {B9 : Nat} (hM : jMX X kX6_misplaced RX6 tbX6 4 ⟨1, 0, 0, 22⟩ (some .int) 16) (hp : jPost X sf B9 po px) (N : Nat) (G : Nat → Nat → Int32) (J : Nat → Nat → Int64) {res : Int32 × (Nat → Nat → Int32)} (h : p_X6_misplaced N G J = some res) (hq : po (some (.int res.1)) (hMo res.2 J)) : JW X 0 0 0 [some (.ref 0), none, none, none] [] (hMo G J) := by
  unfold p_X6_misplaced at h
  obtain ⟨G1, e2, h⟩ := jlE h
  refine JW.r hM 0 3 (pc2 := 5) (L2 := [some (.ref 0), none, none, none]) (st2 := []) (μ2 := (hMo (jup G 0 5 (0 : Int32)) J)) rfl trivial ?_
  rw [e2]
  refine JW.r hM 3 4 (pc2 := 9) (L2 := [some (.ref 0), some (.int (0 : Int32)), some (.int (0 : Int32)), none]) (st2 := []) (μ2 := (hMo G1 J)) rfl trivial ?_
  exact t_X6_misplaced_b9 hM hp N J N G1 (0 : Int32) (0 : Int32) h hq
theorem m_X6_misplaced (V : jV) (hV : V.1.stackTraces = false) (N : Nat) (G : Nat → Nat → Int32) (J : Nat → Nat → Int64) (v : Int32 × (Nat → Nat → Int32)) (h : p_X6_misplaced N G J = some v) : jMet V yX6_misplaced (jws yX6_misplaced cX6_misplaced 4 (some .int)) ⟨1, 0, 0, 22⟩ true 1 [.ref 0] (hMo G J) (fun o ν => o = some (.int v.1) ∧ ν = (hMo v.2 J)) (fun _ _ => False) := by
  refine jmk (tb := tbX6) (C := kX6_misplaced) hV rfl (by decide) tbX6_ok rfl kX6_misplaced_ok rfl ?_
  intro X hM _ hp _
  exact t_X6_misplaced hM hp N G J h ⟨rfl, rfl⟩
def p_X6_tray_b69 (N : Nat) : Nat → (Nat → Nat → Int32) → (Nat → Nat → Int64) → (Int32) → (Int32) → Option ((Nat → Nat → Int32) × (Nat → Nat → Int64))
  | 0, _, _, _, _ => none
  | n + 1, G, J, x1, x4 => if (40 : Int32) ≤ x4 then (some (G, J)) else (if jin (((40 : Int32) * x1) + x4) 160 = true then jlt (jupL J 14 (((40 : Int32) * x1) + x4).toNatClampNeg (0 : Int64)) fun J14 => (p_X6_tray_b69 N n) G J14 x1 (x4 + 1) else none)
def p_X6_tray_b41 (N : Nat) (G : Nat → Nat → Int32) (J : Nat → Nat → Int64) (x1 : Int32) (x2 : Int32) (x3 : Int32) (s0 : Int32) : Option ((Nat → Nat → Int32) × (Nat → Nat → Int64)) :=
  jlt (jup G 0 5 s0) fun G5 => if (G5 0 5) ≤ 0 then (if jin x1 4 = true then jlt (jup G5 12 x1.toNatClampNeg x2) fun G8 => if jin x1 4 = true then jlt (jup G8 13 x1.toNatClampNeg x3) fun G11 => p_X6_tray_b69 N N G11 J x1 (0 : Int32) else none else none) else (some (G5, J))
def p_X6_tray_b36 (N : Nat) (G : Nat → Nat → Int32) (J : Nat → Nat → Int64) (x1 : Int32) (x2 : Int32) (x3 : Int32) : Option ((Nat → Nat → Int32) × (Nat → Nat → Int64)) :=
  p_X6_tray_b41 N G J x1 x2 x3 (2 : Int32)
def p_X6_tray (N : Nat) (G : Nat → Nat → Int32) (J : Nat → Nat → Int64) (p0 : Int32) (p1 : Int32) (p2 : Int32) : Option ((Nat → Nat → Int32) × (Nat → Nat → Int64)) :=
  (p_X6_isTray N p0).bind (fun v2 => if v2 = 0 then (p_X6_tray_b41 N G J p0 p1 p2 (1 : Int32)) else ((p_X6_within N (p1.toInt64) (0 : Int64) (3 : Int64)).bind (fun v4 => if v4 = 0 then (p_X6_tray_b36 N G J p0 p1 p2) else ((p_X6_within N (p2.toInt64) (0 : Int64) (40 : Int64)).bind (fun v19 => if v19 = 0 then (p_X6_tray_b36 N G J p0 p1 p2) else (p_X6_tray_b41 N G J p0 p1 p2 (0 : Int32)))))))
set_option maxHeartbeats 4000000 in
set_option maxRecDepth 100000 in
theorem t_X6_tray_b69 {X : jX} {po : Option Value → jH → Prop} {px : String → jH → Prop} {sf : Bool} {B9 : Nat} (hM : jMX X kX6_tray RX6 tbX6 5 ⟨2, 0, 0, 45⟩ none 16) (hp : jPost X sf B9 po px) (N : Nat) {res : (Nat → Nat → Int32) × (Nat → Nat → Int64)} : ∀ (n : Nat) (G : Nat → Nat → Int32) (J : Nat → Nat → Int64) (x1 : Int32) (x4 : Int32) (h : p_X6_tray_b69 N n G J x1 x4 = some res) (hq : po none (hMo res.1 res.2)), JW X 0 0 69 [some (.ref 0), some (.int x1), none, none, some (.int x4)] [] (hMo G J) := by
  intro n
  induction n with
  | zero =>
    intro G J x1 x4 h hq
    cases (show (none : Option ((Nat → Nat → Int32) × (Nat → Nat → Int64))) = some res from h)
  | succ n ih69 =>
    intro G J x1 x4 h hq
    have ih69 := fun G J x1 x4 h9 => ih69 G J x1 x4 h9 hq
    rw [p_X6_tray_b69] at h
    refine JW.r hM 38 2 (pc2 := 73) (L2 := [some (.ref 0), some (.int x1), none, none, some (.int x4)]) (st2 := [.int (40 : Int32), .int x4]) (μ2 := (hMo G J)) rfl trivial ?_
    refine js_icge (t := 95) hM.1 (jat hM.2.1 40 rfl) rfl (fun hc16 => ?_) (fun hc16 => ?_)
    · have h := (if_pos hc16).symm.trans h
      obtain rfl := Option.some.inj h
      exact js_vret hM.1 hp hM.2.2.2.2.2.2.2.1 (by rw [hM.2.2.2.2.2.1]; exact Nat.le_of_ble_eq_true rfl) (by rw [hM.2.2.2.2.2.2.1]; exact Nat.le_of_ble_eq_true rfl) (jat hM.2.1 52 rfl) hq
    · have h := (if_neg hc16).symm.trans h
      obtain ⟨g13, h⟩ := jg h
      obtain ⟨J14, e15, h⟩ := jlE h
      refine JW.r hM 41 9 (pc2 := 89) (L2 := [some (.ref 0), some (.int x1), none, none, some (.int x4)]) (st2 := []) (μ2 := (hMo G (jupL J 14 (((40 : Int32) * x1) + x4).toNatClampNeg (0 : Int64)))) rfl ⟨g13, trivial⟩ ?_
      rw [e15]
      refine JW.r hM 50 2 (pc2 := 69) (L2 := [some (.ref 0), some (.int x1), none, none, some (.int (x4 + 1))]) (st2 := []) (μ2 := (hMo G J14)) rfl trivial ?_
      exact ih69 G J14 x1 (x4 + 1) h
set_option maxHeartbeats 4000000 in
set_option maxRecDepth 100000 in
theorem t_X6_tray_b41 {X : jX} {po : Option Value → jH → Prop} {px : String → jH → Prop} {sf : Bool} {B9 : Nat} (hM : jMX X kX6_tray RX6 tbX6 5 ⟨2, 0, 0, 45⟩ none 16) (hp : jPost X sf B9 po px) (N : Nat) {res : (Nat → Nat → Int32) × (Nat → Nat → Int64)} (G : Nat → Nat → Int32) (J : Nat → Nat → Int64) (x1 : Int32) (x2 : Int32) (x3 : Int32) (s0 : Int32) (h : p_X6_tray_b41 N G J x1 x2 x3 s0 = some res) (hq : po none (hMo res.1 res.2)) : JW X 0 0 41 [some (.ref 0), some (.int x1), some (.int x2), some (.int x3), none] [.int s0, .ref 0] (hMo G J) := by
  unfold p_X6_tray_b41 at h
  obtain ⟨G5, e6, h⟩ := jlE h
  refine JW.r hM 21 1 (pc2 := 44) (L2 := [some (.ref 0), some (.int x1), some (.int x2), some (.int x3), none]) (st2 := []) (μ2 := (hMo (jup G 0 5 s0) J)) rfl trivial ?_
  rw [e6]
  refine JW.r hM 22 2 (pc2 := 48) (L2 := [some (.ref 0), some (.int x1), some (.int x2), some (.int x3), none]) (st2 := [.int (G5 0 5)]) (μ2 := (hMo G5 J)) rfl trivial ?_
  refine js_ifle (t := 52) hM.1 (jat hM.2.1 24 rfl) rfl (fun hc17 => ?_) (fun hc17 => ?_)
  · have h := (if_pos hc17).symm.trans h
    obtain ⟨g7, h⟩ := jg h
    obtain ⟨G8, e9, h⟩ := jlE h
    refine JW.r hM 26 5 (pc2 := 59) (L2 := [some (.ref 0), some (.int x1), some (.int x2), some (.int x3), none]) (st2 := []) (μ2 := (hMo (jup G5 12 x1.toNatClampNeg x2) J)) rfl ⟨g7, trivial⟩ ?_
    rw [e9]
    obtain ⟨g10, h⟩ := jg h
    obtain ⟨G11, e12, h⟩ := jlE h
    refine JW.r hM 31 5 (pc2 := 66) (L2 := [some (.ref 0), some (.int x1), some (.int x2), some (.int x3), none]) (st2 := []) (μ2 := (hMo (jup G8 13 x1.toNatClampNeg x3) J)) rfl ⟨g10, trivial⟩ ?_
    rw [e12]
    refine JW.r hM 36 2 (pc2 := 69) (L2 := [some (.ref 0), some (.int x1), some (.int x2), some (.int x3), some (.int (0 : Int32))]) (st2 := []) (μ2 := (hMo G11 J)) rfl trivial ?_
    exact JW.mask [true, true, false, false, true] (t_X6_tray_b69 hM hp N N G11 J x1 (0 : Int32) h hq)
  · have h := (if_neg hc17).symm.trans h
    obtain rfl := Option.some.inj h
    exact js_vret hM.1 hp hM.2.2.2.2.2.2.2.1 (by rw [hM.2.2.2.2.2.1]; exact Nat.le_of_ble_eq_true rfl) (by rw [hM.2.2.2.2.2.2.1]; exact Nat.le_of_ble_eq_true rfl) (jat hM.2.1 25 rfl) hq
set_option maxHeartbeats 4000000 in
set_option maxRecDepth 100000 in
theorem t_X6_tray_b36 {X : jX} {po : Option Value → jH → Prop} {px : String → jH → Prop} {sf : Bool} {B9 : Nat} (hM : jMX X kX6_tray RX6 tbX6 5 ⟨2, 0, 0, 45⟩ none 16) (hp : jPost X sf B9 po px) (N : Nat) {res : (Nat → Nat → Int32) × (Nat → Nat → Int64)} (G : Nat → Nat → Int32) (J : Nat → Nat → Int64) (x1 : Int32) (x2 : Int32) (x3 : Int32) (h : p_X6_tray_b36 N G J x1 x2 x3 = some res) (hq : po none (hMo res.1 res.2)) : JW X 0 0 36 [some (.ref 0), some (.int x1), some (.int x2), some (.int x3), none] [.ref 0] (hMo G J) := by
  unfold p_X6_tray_b36 at h
  refine JW.r hM 18 2 (pc2 := 41) (L2 := [some (.ref 0), some (.int x1), some (.int x2), some (.int x3), none]) (st2 := [.int (2 : Int32), .ref 0]) (μ2 := (hMo G J)) rfl trivial ?_
  exact t_X6_tray_b41 hM hp N G J x1 x2 x3 (2 : Int32) h hq
set_option maxHeartbeats 4000000 in
set_option maxRecDepth 100000 in
theorem t_X6_tray {X : jX} {po : Option Value → jH → Prop} {px : String → jH → Prop} {sf : Bool} {B9 : Nat} (hM : jMX X kX6_tray RX6 tbX6 5 ⟨2, 0, 0, 45⟩ none 16) (hp : jPost X sf B9 po px) (N : Nat) (G : Nat → Nat → Int32) (J : Nat → Nat → Int64) (p0 : Int32) (p1 : Int32) (p2 : Int32) {res : (Nat → Nat → Int32) × (Nat → Nat → Int64)} (h : p_X6_tray N G J p0 p1 p2 = some res) (hq : po none (hMo res.1 res.2)) : JW X 0 0 0 [some (.ref 0), some (.int p0), some (.int p1), some (.int p2), none] [] (hMo G J) := by
  unfold p_X6_tray at h
  refine JW.r hM 0 2 (pc2 := 2) (L2 := [some (.ref 0), some (.int p0), some (.int p1), some (.int p2), none]) (st2 := [.int p0, .ref 0]) (μ2 := (hMo G J)) rfl trivial ?_
  obtain ⟨v2, hv1, h⟩ := jbd h
  refine JW.cS (v := some (.int v2)) hM (m_X6_isTray (jVX X) hM.1.2.2.2.2.2.2.2.2.2.1 N p0 v2 hv1) (sb_Mo_E_ G J) (bi_Mo_E_ G J) rfl rfl rfl kc_X6_257 rfl rfl rfl (jat hM.2.1 2 rfl) (st := [.ref 0]) rfl ?_
  show JW X 0 0 5 [some (.ref 0), some (.int p0), some (.int p1), some (.int p2), none] [.int v2, .ref 0] (hMo G J)
  refine js_ifne (t := 12) hM.1 (jat hM.2.1 3 rfl) rfl (fun hc22 => ?_) (fun hc22 => ?_)
  · have h := (if_neg hc22).symm.trans h
    refine JW.r hM 6 4 (pc2 := 18) (L2 := [some (.ref 0), some (.int p0), some (.int p1), some (.int p2), none]) (st2 := [.long (3 : Int64), .long (0 : Int64), .long (p1.toInt64), .ref 0]) (μ2 := (hMo G J)) rfl trivial ?_
    obtain ⟨v4, hv3, h⟩ := jbd h
    refine JW.cS (v := some (.int v4)) hM (m_X6_within (jVX X) hM.1.2.2.2.2.2.2.2.2.2.1 N (p1.toInt64) (0 : Int64) (3 : Int64) v4 hv3) (sb_Mo_E_ G J) (bi_Mo_E_ G J) rfl rfl rfl kc_X6_122 rfl rfl rfl (jat hM.2.1 10 rfl) (st := [.ref 0]) rfl ?_
    show JW X 0 0 21 [some (.ref 0), some (.int p0), some (.int p1), some (.int p2), none] [.int v4, .ref 0] (hMo G J)
    refine js_ifeq (t := 36) hM.1 (jat hM.2.1 11 rfl) rfl (fun hc21 => ?_) (fun hc21 => ?_)
    · have h := (if_pos hc21).symm.trans h
      exact t_X6_tray_b36 hM hp N G J p0 p1 p2 h hq
    · have h := (if_neg hc21).symm.trans h
      refine JW.r hM 12 4 (pc2 := 30) (L2 := [some (.ref 0), some (.int p0), some (.int p1), some (.int p2), none]) (st2 := [.long (40 : Int64), .long (0 : Int64), .long (p2.toInt64), .ref 0]) (μ2 := (hMo G J)) rfl trivial ?_
      obtain ⟨v19, hv18, h⟩ := jbd h
      refine JW.cS (v := some (.int v19)) hM (m_X6_within (jVX X) hM.1.2.2.2.2.2.2.2.2.2.1 N (p2.toInt64) (0 : Int64) (40 : Int64) v19 hv18) (sb_Mo_E_ G J) (bi_Mo_E_ G J) rfl rfl rfl kc_X6_122 rfl rfl rfl (jat hM.2.1 16 rfl) (st := [.ref 0]) rfl ?_
      show JW X 0 0 33 [some (.ref 0), some (.int p0), some (.int p1), some (.int p2), none] [.int v19, .ref 0] (hMo G J)
      refine js_ifne (t := 40) hM.1 (jat hM.2.1 17 rfl) rfl (fun hc20 => ?_) (fun hc20 => ?_)
      · have h := (if_neg hc20).symm.trans h
        refine JW.r hM 20 1 (pc2 := 41) (L2 := [some (.ref 0), some (.int p0), some (.int p1), some (.int p2), none]) (st2 := [.int (0 : Int32), .ref 0]) (μ2 := (hMo G J)) rfl trivial ?_
        exact t_X6_tray_b41 hM hp N G J p0 p1 p2 (0 : Int32) h hq
      · have h := (if_pos hc20).symm.trans h
        exact t_X6_tray_b36 hM hp N G J p0 p1 p2 h hq
  · have h := (if_pos hc22).symm.trans h
    refine JW.r hM 4 2 (pc2 := 41) (L2 := [some (.ref 0), some (.int p0), some (.int p1), some (.int p2), none]) (st2 := [.int (1 : Int32), .ref 0]) (μ2 := (hMo G J)) rfl trivial ?_
    exact t_X6_tray_b41 hM hp N G J p0 p1 p2 (1 : Int32) h hq
theorem m_X6_tray (V : jV) (hV : V.1.stackTraces = false) (N : Nat) (G : Nat → Nat → Int32) (J : Nat → Nat → Int64) (p0 : Int32) (p1 : Int32) (p2 : Int32) (v : (Nat → Nat → Int32) × (Nat → Nat → Int64)) (h : p_X6_tray N G J p0 p1 p2 = some v) : jMet V yX6_tray (jws yX6_tray cX6_tray 5 none) ⟨2, 0, 0, 45⟩ true 1 [.ref 0, .int p0, .int p1, .int p2] (hMo G J) (fun o ν => o = none ∧ ν = (hMo v.1 v.2)) (fun _ _ => False) := by
  refine jmk (tb := tbX6) (C := kX6_tray) hV rfl (by decide) tbX6_ok rfl kX6_tray_ok rfl ?_
  intro X hM _ hp _
  exact t_X6_tray hM hp N G J p0 p1 p2 h ⟨rfl, rfl⟩
def p_X6_cut (N : Nat) (G : Nat → Nat → Int32) (J : Nat → Nat → Int64) (p0 : Int32) (p1 : Int32) (p2 : Int64) : Option (Int64 × (Nat → Nat → Int64)) :=
  if jin p0 4 = true then if jin (((40 : Int32) * p0) + p1) 160 = true then jlt (jupL J 14 (((40 : Int32) * p0) + p1).toNatClampNeg ((p2 <<< (((64 : Int32) - ((8 : Int32) <<< ((G 12 p0.toNatClampNeg) &&& 31))).toInt64 &&& 63)) >>> (((64 : Int32) - ((8 : Int32) <<< ((G 12 p0.toNatClampNeg) &&& 31))).toInt64 &&& 63))) fun J3 => if jin (((40 : Int32) * p0) + p1) 160 = true then some ((J3 14 (((40 : Int32) * p0) + p1).toNatClampNeg), J3) else none else none else none
set_option maxHeartbeats 4000000 in
set_option maxRecDepth 100000 in
theorem t_X6_cut {X : jX} {po : Option Value → jH → Prop} {px : String → jH → Prop} {sf : Bool} {B9 : Nat} (hM : jMX X kX6_cut RX6 tbX6 6 ⟨0, 0, 0, 0⟩ (some .long) 16) (hp : jPost X sf B9 po px) (N : Nat) (G : Nat → Nat → Int32) (J : Nat → Nat → Int64) (p0 : Int32) (p1 : Int32) (p2 : Int64) {res : Int64 × (Nat → Nat → Int64)} (h : p_X6_cut N G J p0 p1 p2 = some res) (hq : po (some (.long res.1)) (hMo G res.2)) : JW X 0 0 0 [some (.ref 0), some (.int p0), some (.int p1), some (.long p2), none, none] [] (hMo G J) := by
  unfold p_X6_cut at h
  obtain ⟨g1, h⟩ := jg h
  obtain ⟨g2, h⟩ := jg h
  obtain ⟨J3, e4, h⟩ := jlE h
  refine JW.r hM 0 22 (pc2 := 32) (L2 := [some (.ref 0), some (.int p0), some (.int p1), some (.long p2), none, some (.int ((64 : Int32) - ((8 : Int32) <<< ((G 12 p0.toNatClampNeg) &&& 31))))]) (st2 := []) (μ2 := (hMo G (jupL J 14 (((40 : Int32) * p0) + p1).toNatClampNeg ((p2 <<< (((64 : Int32) - ((8 : Int32) <<< ((G 12 p0.toNatClampNeg) &&& 31))).toInt64 &&& 63)) >>> (((64 : Int32) - ((8 : Int32) <<< ((G 12 p0.toNatClampNeg) &&& 31))).toInt64 &&& 63))))) rfl ⟨g1, g2, trivial⟩ ?_
  rw [e4]
  obtain ⟨g5, h⟩ := jg h
  refine JW.r hM 22 8 (pc2 := 43) (L2 := [some (.ref 0), some (.int p0), some (.int p1), some (.long p2), none, some (.int ((64 : Int32) - ((8 : Int32) <<< ((G 12 p0.toNatClampNeg) &&& 31))))]) (st2 := [.long (J3 14 (((40 : Int32) * p0) + p1).toNatClampNeg)]) (μ2 := (hMo G J3)) rfl ⟨g5, trivial⟩ ?_
  obtain rfl := Option.some.inj h
  exact js_lret hM.1 hp hM.2.2.2.2.2.2.2.1 (by rw [hM.2.2.2.2.2.1]; exact Nat.le_of_ble_eq_true rfl) (by rw [hM.2.2.2.2.2.2.1]; exact Nat.le_of_ble_eq_true rfl) (jat hM.2.1 30 rfl) hq
theorem m_X6_cut (V : jV) (hV : V.1.stackTraces = false) (N : Nat) (G : Nat → Nat → Int32) (J : Nat → Nat → Int64) (p0 : Int32) (p1 : Int32) (p2 : Int64) (v : Int64 × (Nat → Nat → Int64)) (h : p_X6_cut N G J p0 p1 p2 = some v) : jMet V yX6_cut (jws yX6_cut cX6_cut 6 (some .long)) ⟨0, 0, 0, 0⟩ true 1 [.ref 0, .int p0, .int p1, .long p2] (hMo G J) (fun o ν => o = some (.long v.1) ∧ ν = (hMo G v.2)) (fun _ _ => False) := by
  refine jmk (tb := tbX6) (C := kX6_cut) hV rfl (by decide) tbX6_ok rfl kX6_cut_ok rfl ?_
  intro X hM _ hp _
  exact t_X6_cut hM hp N G J p0 p1 p2 h ⟨rfl, rfl⟩
def p_X6_write (N : Nat) (G : Nat → Nat → Int32) (J : Nat → Nat → Int64) (p0 : Int32) (p1 : Int32) (p2 : Int64) : Option (Int64 × (Nat → Nat → Int32) × (Nat → Nat → Int64)) :=
  (p_X6_trayFault N G J p0).bind (fun v2 => jlt (jup G 0 5 v2) fun G3 => if (G3 0 5) ≤ 0 then (if jin p0 4 = true then (p_X6_within N (p1.toInt64) (0 : Int64) (((G3 13 p0.toNatClampNeg) - (1 : Int32)).toInt64)).bind (fun v7 => if v7 = 0 then ((p_X6_fails N G3 J (3 : Int32)).bind (fun v9 => jlt v9.2 fun G10 => some ((v9.1.toInt64), G10, J))) else ((p_X6_cut N G3 J p0 p1 p2).bind (fun v13 => jlt v13.2 fun J14 => some (v13.1, G3, J14)))) else none) else (some ((0 : Int64), G3, J)))
set_option maxHeartbeats 4000000 in
set_option maxRecDepth 100000 in
theorem t_X6_write {X : jX} {po : Option Value → jH → Prop} {px : String → jH → Prop} {sf : Bool} {B9 : Nat} (hM : jMX X kX6_write RX6 tbX6 5 ⟨3, 0, 0, 66⟩ (some .long) 16) (hp : jPost X sf B9 po px) (N : Nat) (G : Nat → Nat → Int32) (J : Nat → Nat → Int64) (p0 : Int32) (p1 : Int32) (p2 : Int64) {res : Int64 × (Nat → Nat → Int32) × (Nat → Nat → Int64)} (h : p_X6_write N G J p0 p1 p2 = some res) (hq : po (some (.long res.1)) (hMo res.2.1 res.2.2)) : JW X 0 0 0 [some (.ref 0), some (.int p0), some (.int p1), some (.long p2), none] [] (hMo G J) := by
  unfold p_X6_write at h
  refine JW.r hM 0 3 (pc2 := 3) (L2 := [some (.ref 0), some (.int p0), some (.int p1), some (.long p2), none]) (st2 := [.int p0, .ref 0, .ref 0]) (μ2 := (hMo G J)) rfl trivial ?_
  obtain ⟨v2, hv1, h⟩ := jbd h
  refine JW.cV (v := some (.int v2)) hM (m_X6_trayFault (jVX X) hM.1.2.2.2.2.2.2.2.2.2.1 N G J p0 v2 hv1) (sb_Mo_Mo_0 G J) (bi_Mo_Mo_0 G J) rfl rfl rfl kc_X6_267 rfl rfl rfl rfl rfl (jat hM.2.1 3 rfl) (st := [.ref 0]) rfl ?_
  show JW X 0 0 6 [some (.ref 0), some (.int p0), some (.int p1), some (.long p2), none] [.int v2, .ref 0] (hMo G J)
  obtain ⟨G3, e4, h⟩ := jlE h
  refine JW.r hM 4 1 (pc2 := 9) (L2 := [some (.ref 0), some (.int p0), some (.int p1), some (.long p2), none]) (st2 := []) (μ2 := (hMo (jup G 0 5 v2) J)) rfl trivial ?_
  rw [e4]
  refine JW.r hM 5 2 (pc2 := 13) (L2 := [some (.ref 0), some (.int p0), some (.int p1), some (.long p2), none]) (st2 := [.int (G3 0 5)]) (μ2 := (hMo G3 J)) rfl trivial ?_
  refine js_ifle (t := 18) hM.1 (jat hM.2.1 7 rfl) rfl (fun hc17 => ?_) (fun hc17 => ?_)
  · have h := (if_pos hc17).symm.trans h
    obtain ⟨g5, h⟩ := jg h
    refine JW.r hM 10 10 (pc2 := 30) (L2 := [some (.ref 0), some (.int p0), some (.int p1), some (.long p2), none]) (st2 := [.long (((G3 13 p0.toNatClampNeg) - (1 : Int32)).toInt64), .long (0 : Int64), .long (p1.toInt64)]) (μ2 := (hMo G3 J)) rfl ⟨g5, trivial⟩ ?_
    obtain ⟨v7, hv6, h⟩ := jbd h
    refine JW.cS (v := some (.int v7)) hM (m_X6_within (jVX X) hM.1.2.2.2.2.2.2.2.2.2.1 N (p1.toInt64) (0 : Int64) (((G3 13 p0.toNatClampNeg) - (1 : Int32)).toInt64) v7 hv6) (sb_Mo_E_ G3 J) (bi_Mo_E_ G3 J) rfl rfl rfl kc_X6_122 rfl rfl rfl (jat hM.2.1 20 rfl) (st := []) rfl ?_
    show JW X 0 0 33 [some (.ref 0), some (.int p0), some (.int p1), some (.long p2), none] [.int v7] (hMo G3 J)
    refine js_ifeq (t := 46) hM.1 (jat hM.2.1 21 rfl) rfl (fun hc16 => ?_) (fun hc16 => ?_)
    · have h := (if_pos hc16).symm.trans h
      refine JW.r hM 28 2 (pc2 := 48) (L2 := [some (.ref 0), some (.int p0), some (.int p1), some (.long p2), none]) (st2 := [.int (3 : Int32), .ref 0]) (μ2 := (hMo G3 J)) rfl trivial ?_
      obtain ⟨v9, hv8, h⟩ := jbd h
      refine JW.cV (v := some (.int v9.1)) hM (m_X6_fails (jVX X) hM.1.2.2.2.2.2.2.2.2.2.1 N G3 J (3 : Int32) v9 hv8) (sb_Mo_Mo_0 G3 J) (bk_Mo_Mo_0 G3 J v9.2 J) rfl rfl rfl kc_X6_170 rfl rfl rfl rfl rfl (jat hM.2.1 30 rfl) (st := []) rfl ?_
      show JW X 0 0 51 [some (.ref 0), some (.int p0), some (.int p1), some (.long p2), none] [.int v9.1] (hMo v9.2 J)
      obtain ⟨G10, e11, h⟩ := jlE h
      rw [e11]
      refine JW.r hM 31 1 (pc2 := 52) (L2 := [some (.ref 0), some (.int p0), some (.int p1), some (.long p2), none]) (st2 := [.long (v9.1.toInt64)]) (μ2 := (hMo G10 J)) rfl trivial ?_
      obtain rfl := Option.some.inj h
      exact js_lret hM.1 hp hM.2.2.2.2.2.2.2.1 (by rw [hM.2.2.2.2.2.1]; exact Nat.le_of_ble_eq_true rfl) (by rw [hM.2.2.2.2.2.2.1]; exact Nat.le_of_ble_eq_true rfl) (jat hM.2.1 32 rfl) hq
    · have h := (if_neg hc16).symm.trans h
      refine JW.r hM 22 4 (pc2 := 40) (L2 := [some (.ref 0), some (.int p0), some (.int p1), some (.long p2), none]) (st2 := [.long p2, .int p1, .int p0, .ref 0]) (μ2 := (hMo G3 J)) rfl trivial ?_
      obtain ⟨v13, hv12, h⟩ := jbd h
      refine JW.cV (v := some (.long v13.1)) hM (m_X6_cut (jVX X) hM.1.2.2.2.2.2.2.2.2.2.1 N G3 J p0 p1 p2 v13 hv12) (sb_Mo_Mo_0 G3 J) (bk_Mo_Mo_0 G3 J G3 v13.2) rfl rfl rfl kc_X6_369 rfl rfl rfl rfl rfl (jat hM.2.1 26 rfl) (st := []) rfl ?_
      show JW X 0 0 43 [some (.ref 0), some (.int p0), some (.int p1), some (.long p2), none] [.long v13.1] (hMo G3 v13.2)
      obtain ⟨J14, e15, h⟩ := jlE h
      rw [e15]
      refine JW.r hM 27 1 (pc2 := 52) (L2 := [some (.ref 0), some (.int p0), some (.int p1), some (.long p2), none]) (st2 := [.long v13.1]) (μ2 := (hMo G3 J14)) rfl trivial ?_
      obtain rfl := Option.some.inj h
      exact js_lret hM.1 hp hM.2.2.2.2.2.2.2.1 (by rw [hM.2.2.2.2.2.1]; exact Nat.le_of_ble_eq_true rfl) (by rw [hM.2.2.2.2.2.2.1]; exact Nat.le_of_ble_eq_true rfl) (jat hM.2.1 32 rfl) hq
  · have h := (if_neg hc17).symm.trans h
    refine JW.r hM 8 1 (pc2 := 17) (L2 := [some (.ref 0), some (.int p0), some (.int p1), some (.long p2), none]) (st2 := [.long (0 : Int64)]) (μ2 := (hMo G3 J)) rfl trivial ?_
    obtain rfl := Option.some.inj h
    exact js_lret hM.1 hp hM.2.2.2.2.2.2.2.1 (by rw [hM.2.2.2.2.2.1]; exact Nat.le_of_ble_eq_true rfl) (by rw [hM.2.2.2.2.2.2.1]; exact Nat.le_of_ble_eq_true rfl) (jat hM.2.1 9 rfl) hq
theorem m_X6_write (V : jV) (hV : V.1.stackTraces = false) (N : Nat) (G : Nat → Nat → Int32) (J : Nat → Nat → Int64) (p0 : Int32) (p1 : Int32) (p2 : Int64) (v : Int64 × (Nat → Nat → Int32) × (Nat → Nat → Int64)) (h : p_X6_write N G J p0 p1 p2 = some v) : jMet V yX6_write (jws yX6_write cX6_write 5 (some .long)) ⟨3, 0, 0, 66⟩ true 1 [.ref 0, .int p0, .int p1, .long p2] (hMo G J) (fun o ν => o = some (.long v.1) ∧ ν = (hMo v.2.1 v.2.2)) (fun _ _ => False) := by
  refine jmk (tb := tbX6) (C := kX6_write) hV rfl (by decide) tbX6_ok rfl kX6_write_ok rfl ?_
  intro X hM _ hp _
  exact t_X6_write hM hp N G J p0 p1 p2 h ⟨rfl, rfl⟩
def p_X6_pour_b72 (N : Nat) (rv22 : (Nat → Nat → Int32) → (Nat → Nat → Int64) → Int32 → Int32 → Int32 → Option (Int32 × (Nat → Nat → Int32) × (Nat → Nat → Int64))) (G : Nat → Nat → Int32) (J : Nat → Nat → Int64) (x1 : Int32) (x2 : Int32) (x3 : Int32) : Option (Int32 × (Nat → Nat → Int32) × (Nat → Nat → Int64)) :=
  rv22 G J x1 x2 (x3 + 1)
def p_X6_pour_b22 (N : Nat) : Nat → (Nat → Nat → Int32) → (Nat → Nat → Int64) → (Int32) → (Int32) → (Int32) → Option (Int32 × (Nat → Nat → Int32) × (Nat → Nat → Int64))
  | 0, _, _, _, _, _ => none
  | n + 1, G, J, x1, x2, x3 => if (G 1 7) ≤ x3 then (some (x2, G, J)) else (if jin x1 4 = true then if (G 13 x1.toNatClampNeg) ≤ x2 then (some (x2, G, J)) else ((p_X6_of N G J x3 (4 : Int32)).bind (fun v7 => if v7 = 0 then (p_X6_pour_b72 N (p_X6_pour_b22 N n) G J x1 x2 x3) else ((p_X6_of N G J x3 (3 : Int32)).bind (fun v9 => (p_X6_cut N G J x1 x2 (v9.toInt64)).bind (fun v11 => jlt v11.2 fun J12 => p_X6_pour_b72 N (p_X6_pour_b22 N n) G J12 x1 (x2 + 1) x3))))) else none)
def p_X6_pour (N : Nat) (G : Nat → Nat → Int32) (J : Nat → Nat → Int64) (p0 : Int32) : Option (Int32 × (Nat → Nat → Int32) × (Nat → Nat → Int64)) :=
  (p_X6_trayFault N G J p0).bind (fun v2 => jlt (jup G 0 5 v2) fun G3 => if (G3 0 5) ≤ 0 then (p_X6_pour_b22 N N G3 J p0 (0 : Int32) (0 : Int32)) else (some ((0 : Int32), G3, J)))
set_option maxHeartbeats 4000000 in
set_option maxRecDepth 100000 in
theorem t_X6_pour_b72 {X : jX} {po : Option Value → jH → Prop} {px : String → jH → Prop} {sf : Bool} {B9 : Nat} (hM : jMX X kX6_pour RX6 tbX6 4 ⟨3, 0, 0, 66⟩ (some .int) 16) (hp : jPost X sf B9 po px) (N : Nat) (rv22 : (Nat → Nat → Int32) → (Nat → Nat → Int64) → Int32 → Int32 → Int32 → Option (Int32 × (Nat → Nat → Int32) × (Nat → Nat → Int64))) {res : Int32 × (Nat → Nat → Int32) × (Nat → Nat → Int64)} (ih22 : ∀ (G : Nat → Nat → Int32) (J : Nat → Nat → Int64) (x1 : Int32) (x2 : Int32) (x3 : Int32), rv22 G J x1 x2 x3 = some res → JW X 0 0 22 [some (.ref 0), some (.int x1), some (.int x2), some (.int x3)] [] (hMo G J)) (G : Nat → Nat → Int32) (J : Nat → Nat → Int64) (x1 : Int32) (x2 : Int32) (x3 : Int32) (h : p_X6_pour_b72 N rv22 G J x1 x2 x3 = some res) (hq : po (some (.int res.1)) (hMo res.2.1 res.2.2)) : JW X 0 0 72 [some (.ref 0), some (.int x1), some (.int x2), some (.int x3)] [] (hMo G J) := by
  unfold p_X6_pour_b72 at h
  refine JW.r hM 43 2 (pc2 := 22) (L2 := [some (.ref 0), some (.int x1), some (.int x2), some (.int (x3 + 1))]) (st2 := []) (μ2 := (hMo G J)) rfl trivial ?_
  exact ih22 G J x1 x2 (x3 + 1) h
set_option maxHeartbeats 4000000 in
set_option maxRecDepth 100000 in
theorem t_X6_pour_b22 {X : jX} {po : Option Value → jH → Prop} {px : String → jH → Prop} {sf : Bool} {B9 : Nat} (hM : jMX X kX6_pour RX6 tbX6 4 ⟨3, 0, 0, 66⟩ (some .int) 16) (hp : jPost X sf B9 po px) (N : Nat) {res : Int32 × (Nat → Nat → Int32) × (Nat → Nat → Int64)} : ∀ (n : Nat) (G : Nat → Nat → Int32) (J : Nat → Nat → Int64) (x1 : Int32) (x2 : Int32) (x3 : Int32) (h : p_X6_pour_b22 N n G J x1 x2 x3 = some res) (hq : po (some (.int res.1)) (hMo res.2.1 res.2.2)), JW X 0 0 22 [some (.ref 0), some (.int x1), some (.int x2), some (.int x3)] [] (hMo G J) := by
  intro n
  induction n with
  | zero =>
    intro G J x1 x2 x3 h hq
    cases (show (none : Option (Int32 × (Nat → Nat → Int32) × (Nat → Nat → Int64))) = some res from h)
  | succ n ih22 =>
    intro G J x1 x2 x3 h hq
    have ih22 := fun G J x1 x2 x3 h9 => ih22 G J x1 x2 x3 h9 hq
    rw [p_X6_pour_b22] at h
    refine JW.r hM 14 5 (pc2 := 30) (L2 := [some (.ref 0), some (.int x1), some (.int x2), some (.int x3)]) (st2 := [.int (G 1 7), .int x3]) (μ2 := (hMo G J)) rfl ⟨rfl, trivial⟩ ?_
    refine js_icge (t := 78) hM.1 (jat hM.2.1 19 rfl) rfl (fun hc16 => ?_) (fun hc16 => ?_)
    · have h := (if_pos hc16).symm.trans h
      refine JW.r hM 45 1 (pc2 := 79) (L2 := [some (.ref 0), some (.int x1), some (.int x2), some (.int x3)]) (st2 := [.int x2]) (μ2 := (hMo G J)) rfl trivial ?_
      obtain rfl := Option.some.inj h
      exact js_iret hM.1 hp hM.2.2.2.2.2.2.2.1 (by rw [hM.2.2.2.2.2.1]; exact Nat.le_of_ble_eq_true rfl) (by rw [hM.2.2.2.2.2.2.1]; exact Nat.le_of_ble_eq_true rfl) (jat hM.2.1 46 rfl) hq
    · have h := (if_neg hc16).symm.trans h
      obtain ⟨g5, h⟩ := jg h
      refine JW.r hM 20 5 (pc2 := 40) (L2 := [some (.ref 0), some (.int x1), some (.int x2), some (.int x3)]) (st2 := [.int (G 13 x1.toNatClampNeg), .int x2]) (μ2 := (hMo G J)) rfl ⟨g5, trivial⟩ ?_
      refine js_icge (t := 78) hM.1 (jat hM.2.1 25 rfl) rfl (fun hc15 => ?_) (fun hc15 => ?_)
      · have h := (if_pos hc15).symm.trans h
        refine JW.r hM 45 1 (pc2 := 79) (L2 := [some (.ref 0), some (.int x1), some (.int x2), some (.int x3)]) (st2 := [.int x2]) (μ2 := (hMo G J)) rfl trivial ?_
        obtain rfl := Option.some.inj h
        exact js_iret hM.1 hp hM.2.2.2.2.2.2.2.1 (by rw [hM.2.2.2.2.2.1]; exact Nat.le_of_ble_eq_true rfl) (by rw [hM.2.2.2.2.2.2.1]; exact Nat.le_of_ble_eq_true rfl) (jat hM.2.1 46 rfl) hq
      · have h := (if_neg hc15).symm.trans h
        refine JW.r hM 26 3 (pc2 := 46) (L2 := [some (.ref 0), some (.int x1), some (.int x2), some (.int x3)]) (st2 := [.int (4 : Int32), .int x3, .ref 0]) (μ2 := (hMo G J)) rfl trivial ?_
        obtain ⟨v7, hv6, h⟩ := jbd h
        refine JW.cV (v := some (.int v7)) hM (m_X6_of (jVX X) hM.1.2.2.2.2.2.2.2.2.2.1 N G J x3 (4 : Int32) v7 hv6) (sb_Mo_Mo_0 G J) (bi_Mo_Mo_0 G J) rfl rfl rfl kc_X6_208 rfl rfl rfl rfl rfl (jat hM.2.1 29 rfl) (st := []) rfl ?_
        show JW X 0 0 49 [some (.ref 0), some (.int x1), some (.int x2), some (.int x3)] [.int v7] (hMo G J)
        refine js_ifne (t := 55) hM.1 (jat hM.2.1 30 rfl) rfl (fun hc14 => ?_) (fun hc14 => ?_)
        · have h := (if_neg hc14).symm.trans h
          refine JW.r hM 32 6 (pc2 := 61) (L2 := [some (.ref 0), some (.int x1), some (.int x2), some (.int x3)]) (st2 := [.int (3 : Int32), .int x3, .ref 0, .int x2, .int x1, .ref 0]) (μ2 := (hMo G J)) rfl trivial ?_
          obtain ⟨v9, hv8, h⟩ := jbd h
          refine JW.cV (v := some (.int v9)) hM (m_X6_of (jVX X) hM.1.2.2.2.2.2.2.2.2.2.1 N G J x3 (3 : Int32) v9 hv8) (sb_Mo_Mo_0 G J) (bi_Mo_Mo_0 G J) rfl rfl rfl kc_X6_208 rfl rfl rfl rfl rfl (jat hM.2.1 38 rfl) (st := [.int x2, .int x1, .ref 0]) rfl ?_
          show JW X 0 0 64 [some (.ref 0), some (.int x1), some (.int x2), some (.int x3)] [.int v9, .int x2, .int x1, .ref 0] (hMo G J)
          refine JW.r hM 39 1 (pc2 := 65) (L2 := [some (.ref 0), some (.int x1), some (.int x2), some (.int x3)]) (st2 := [.long (v9.toInt64), .int x2, .int x1, .ref 0]) (μ2 := (hMo G J)) rfl trivial ?_
          obtain ⟨v11, hv10, h⟩ := jbd h
          refine JW.cV (v := some (.long v11.1)) hM (m_X6_cut (jVX X) hM.1.2.2.2.2.2.2.2.2.2.1 N G J x1 x2 (v9.toInt64) v11 hv10) (sb_Mo_Mo_0 G J) (bk_Mo_Mo_0 G J G v11.2) rfl rfl rfl kc_X6_369 rfl rfl rfl rfl rfl (jat hM.2.1 40 rfl) (st := []) rfl ?_
          show JW X 0 0 68 [some (.ref 0), some (.int x1), some (.int x2), some (.int x3)] [.long v11.1] (hMo G v11.2)
          obtain ⟨J12, e13, h⟩ := jlE h
          rw [e13]
          refine JW.r hM 41 2 (pc2 := 72) (L2 := [some (.ref 0), some (.int x1), some (.int (x2 + 1)), some (.int x3)]) (st2 := []) (μ2 := (hMo G J12)) rfl trivial ?_
          exact t_X6_pour_b72 hM hp N (p_X6_pour_b22 N n) ih22 G J12 x1 (x2 + 1) x3 h hq
        · have h := (if_pos hc14).symm.trans h
          refine JW.r hM 31 1 (pc2 := 72) (L2 := [some (.ref 0), some (.int x1), some (.int x2), some (.int x3)]) (st2 := []) (μ2 := (hMo G J)) rfl trivial ?_
          exact t_X6_pour_b72 hM hp N (p_X6_pour_b22 N n) ih22 G J x1 x2 x3 h hq
set_option maxHeartbeats 4000000 in
set_option maxRecDepth 100000 in
theorem t_X6_pour {X : jX} {po : Option Value → jH → Prop} {px : String → jH → Prop} {sf : Bool} {B9 : Nat} (hM : jMX X kX6_pour RX6 tbX6 4 ⟨3, 0, 0, 66⟩ (some .int) 16) (hp : jPost X sf B9 po px) (N : Nat) (G : Nat → Nat → Int32) (J : Nat → Nat → Int64) (p0 : Int32) {res : Int32 × (Nat → Nat → Int32) × (Nat → Nat → Int64)} (h : p_X6_pour N G J p0 = some res) (hq : po (some (.int res.1)) (hMo res.2.1 res.2.2)) : JW X 0 0 0 [some (.ref 0), some (.int p0), none, none] [] (hMo G J) := by
  unfold p_X6_pour at h
  refine JW.r hM 0 3 (pc2 := 3) (L2 := [some (.ref 0), some (.int p0), none, none]) (st2 := [.int p0, .ref 0, .ref 0]) (μ2 := (hMo G J)) rfl trivial ?_
  obtain ⟨v2, hv1, h⟩ := jbd h
  refine JW.cV (v := some (.int v2)) hM (m_X6_trayFault (jVX X) hM.1.2.2.2.2.2.2.2.2.2.1 N G J p0 v2 hv1) (sb_Mo_Mo_0 G J) (bi_Mo_Mo_0 G J) rfl rfl rfl kc_X6_267 rfl rfl rfl rfl rfl (jat hM.2.1 3 rfl) (st := [.ref 0]) rfl ?_
  show JW X 0 0 6 [some (.ref 0), some (.int p0), none, none] [.int v2, .ref 0] (hMo G J)
  obtain ⟨G3, e4, h⟩ := jlE h
  refine JW.r hM 4 1 (pc2 := 9) (L2 := [some (.ref 0), some (.int p0), none, none]) (st2 := []) (μ2 := (hMo (jup G 0 5 v2) J)) rfl trivial ?_
  rw [e4]
  refine JW.r hM 5 2 (pc2 := 13) (L2 := [some (.ref 0), some (.int p0), none, none]) (st2 := [.int (G3 0 5)]) (μ2 := (hMo G3 J)) rfl trivial ?_
  refine js_ifle (t := 18) hM.1 (jat hM.2.1 7 rfl) rfl (fun hc17 => ?_) (fun hc17 => ?_)
  · have h := (if_pos hc17).symm.trans h
    refine JW.r hM 10 4 (pc2 := 22) (L2 := [some (.ref 0), some (.int p0), some (.int (0 : Int32)), some (.int (0 : Int32))]) (st2 := []) (μ2 := (hMo G3 J)) rfl trivial ?_
    exact t_X6_pour_b22 hM hp N N G3 J p0 (0 : Int32) (0 : Int32) h hq
  · have h := (if_neg hc17).symm.trans h
    refine JW.r hM 8 1 (pc2 := 17) (L2 := [some (.ref 0), some (.int p0), none, none]) (st2 := [.int (0 : Int32)]) (μ2 := (hMo G3 J)) rfl trivial ?_
    obtain rfl := Option.some.inj h
    exact js_iret hM.1 hp hM.2.2.2.2.2.2.2.1 (by rw [hM.2.2.2.2.2.1]; exact Nat.le_of_ble_eq_true rfl) (by rw [hM.2.2.2.2.2.2.1]; exact Nat.le_of_ble_eq_true rfl) (jat hM.2.1 9 rfl) hq
theorem m_X6_pour (V : jV) (hV : V.1.stackTraces = false) (N : Nat) (G : Nat → Nat → Int32) (J : Nat → Nat → Int64) (p0 : Int32) (v : Int32 × (Nat → Nat → Int32) × (Nat → Nat → Int64)) (h : p_X6_pour N G J p0 = some v) : jMet V yX6_pour (jws yX6_pour cX6_pour 4 (some .int)) ⟨3, 0, 0, 66⟩ true 1 [.ref 0, .int p0] (hMo G J) (fun o ν => o = some (.int v.1) ∧ ν = (hMo v.2.1 v.2.2)) (fun _ _ => False) := by
  refine jmk (tb := tbX6) (C := kX6_pour) hV rfl (by decide) tbX6_ok rfl kX6_pour_ok rfl ?_
  intro X hM _ hp _
  exact t_X6_pour hM hp N G J p0 h ⟨rfl, rfl⟩
def p_X6_image_b38 (N : Nat) (J : Nat → Nat → Int64) : Nat → (Nat → Nat → Int32) → (Int32) → (Int32) → Option ((Nat → Nat → Int32))
  | 0, _, _, _ => none
  | n + 1, G, x1, x2 => if (264 : Int32) ≤ x2 then (some G) else (if jin x2 264 = true then if jin (((264 : Int32) * x1) + x2) 792 = true then jlt (jup G 4 (((264 : Int32) * x1) + x2).toNatClampNeg (G 1 x2.toNatClampNeg)) fun G10 => (p_X6_image_b38 N J n) G10 x1 (x2 + 1) else none else none)
def p_X6_image_b18 (N : Nat) (J : Nat → Nat → Int64) (G : Nat → Nat → Int32) (x1 : Int32) (s0 : Int32) : Option ((Nat → Nat → Int32)) :=
  jlt (jup G 0 5 s0) fun G3 => if (G3 0 5) ≤ 0 then (if jin x1 3 = true then jlt (jup G3 5 x1.toNatClampNeg (vp_nar .boolean (1 : Int32))) fun G6 => p_X6_image_b38 N J N G6 x1 (0 : Int32) else none) else (some G3)
def p_X6_image (N : Nat) (G : Nat → Nat → Int32) (J : Nat → Nat → Int64) (p0 : Int32) : Option ((Nat → Nat → Int32)) :=
  (p_X6_within N (p0.toInt64) (0 : Int64) (2 : Int64)).bind (fun v2 => if v2 = 0 then (p_X6_image_b18 N J G p0 (1 : Int32)) else (p_X6_image_b18 N J G p0 (0 : Int32)))
set_option maxHeartbeats 4000000 in
set_option maxRecDepth 100000 in
theorem t_X6_image_b38 {X : jX} {po : Option Value → jH → Prop} {px : String → jH → Prop} {sf : Bool} {B9 : Nat} (hM : jMX X kX6_image RX6 tbX6 3 ⟨1, 0, 0, 25⟩ none 16) (hp : jPost X sf B9 po px) (N : Nat) (J : Nat → Nat → Int64) {res : (Nat → Nat → Int32)} : ∀ (n : Nat) (G : Nat → Nat → Int32) (x1 : Int32) (x2 : Int32) (h : p_X6_image_b38 N J n G x1 x2 = some res) (hq : po none (hMo res J)), JW X 0 0 38 [some (.ref 0), some (.int x1), some (.int x2)] [] (hMo G J) := by
  intro n
  induction n with
  | zero =>
    intro G x1 x2 h hq
    cases (show (none : Option ((Nat → Nat → Int32))) = some res from h)
  | succ n ih38 =>
    intro G x1 x2 h hq
    have ih38 := fun G x1 x2 h9 => ih38 G x1 x2 h9 hq
    rw [p_X6_image_b38] at h
    refine JW.r hM 22 2 (pc2 := 42) (L2 := [some (.ref 0), some (.int x1), some (.int x2)]) (st2 := [.int (264 : Int32), .int x2]) (μ2 := (hMo G J)) rfl trivial ?_
    refine js_icge (t := 69) hM.1 (jat hM.2.1 24 rfl) rfl (fun hc12 => ?_) (fun hc12 => ?_)
    · have h := (if_pos hc12).symm.trans h
      obtain rfl := Option.some.inj h
      exact js_vret hM.1 hp hM.2.2.2.2.2.2.2.1 (by rw [hM.2.2.2.2.2.1]; exact Nat.le_of_ble_eq_true rfl) (by rw [hM.2.2.2.2.2.2.1]; exact Nat.le_of_ble_eq_true rfl) (jat hM.2.1 39 rfl) hq
    · have h := (if_neg hc12).symm.trans h
      obtain ⟨g8, h⟩ := jg h
      obtain ⟨g9, h⟩ := jg h
      obtain ⟨G10, e11, h⟩ := jlE h
      refine JW.r hM 25 12 (pc2 := 63) (L2 := [some (.ref 0), some (.int x1), some (.int x2)]) (st2 := []) (μ2 := (hMo (jup G 4 (((264 : Int32) * x1) + x2).toNatClampNeg (G 1 x2.toNatClampNeg)) J)) rfl ⟨g8, g9, trivial⟩ ?_
      rw [e11]
      refine JW.r hM 37 2 (pc2 := 38) (L2 := [some (.ref 0), some (.int x1), some (.int (x2 + 1))]) (st2 := []) (μ2 := (hMo G10 J)) rfl trivial ?_
      exact ih38 G10 x1 (x2 + 1) h
set_option maxHeartbeats 4000000 in
set_option maxRecDepth 100000 in
theorem t_X6_image_b18 {X : jX} {po : Option Value → jH → Prop} {px : String → jH → Prop} {sf : Bool} {B9 : Nat} (hM : jMX X kX6_image RX6 tbX6 3 ⟨1, 0, 0, 25⟩ none 16) (hp : jPost X sf B9 po px) (N : Nat) (J : Nat → Nat → Int64) {res : (Nat → Nat → Int32)} (G : Nat → Nat → Int32) (x1 : Int32) (s0 : Int32) (h : p_X6_image_b18 N J G x1 s0 = some res) (hq : po none (hMo res J)) : JW X 0 0 18 [some (.ref 0), some (.int x1), none] [.int s0, .ref 0] (hMo G J) := by
  unfold p_X6_image_b18 at h
  obtain ⟨G3, e4, h⟩ := jlE h
  refine JW.r hM 10 1 (pc2 := 21) (L2 := [some (.ref 0), some (.int x1), none]) (st2 := []) (μ2 := (hMo (jup G 0 5 s0) J)) rfl trivial ?_
  rw [e4]
  refine JW.r hM 11 2 (pc2 := 25) (L2 := [some (.ref 0), some (.int x1), none]) (st2 := [.int (G3 0 5)]) (μ2 := (hMo G3 J)) rfl trivial ?_
  refine js_ifle (t := 29) hM.1 (jat hM.2.1 13 rfl) rfl (fun hc13 => ?_) (fun hc13 => ?_)
  · have h := (if_pos hc13).symm.trans h
    obtain ⟨g5, h⟩ := jg h
    obtain ⟨G6, e7, h⟩ := jlE h
    refine JW.r hM 15 5 (pc2 := 36) (L2 := [some (.ref 0), some (.int x1), none]) (st2 := []) (μ2 := (hMo (jup G3 5 x1.toNatClampNeg (vp_nar .boolean (1 : Int32))) J)) rfl ⟨g5, trivial⟩ ?_
    rw [e7]
    refine JW.r hM 20 2 (pc2 := 38) (L2 := [some (.ref 0), some (.int x1), some (.int (0 : Int32))]) (st2 := []) (μ2 := (hMo G6 J)) rfl trivial ?_
    exact t_X6_image_b38 hM hp N J N G6 x1 (0 : Int32) h hq
  · have h := (if_neg hc13).symm.trans h
    obtain rfl := Option.some.inj h
    exact js_vret hM.1 hp hM.2.2.2.2.2.2.2.1 (by rw [hM.2.2.2.2.2.1]; exact Nat.le_of_ble_eq_true rfl) (by rw [hM.2.2.2.2.2.2.1]; exact Nat.le_of_ble_eq_true rfl) (jat hM.2.1 14 rfl) hq
set_option maxHeartbeats 4000000 in
set_option maxRecDepth 100000 in
theorem t_X6_image {X : jX} {po : Option Value → jH → Prop} {px : String → jH → Prop} {sf : Bool} {B9 : Nat} (hM : jMX X kX6_image RX6 tbX6 3 ⟨1, 0, 0, 25⟩ none 16) (hp : jPost X sf B9 po px) (N : Nat) (G : Nat → Nat → Int32) (J : Nat → Nat → Int64) (p0 : Int32) {res : (Nat → Nat → Int32)} (h : p_X6_image N G J p0 = some res) (hq : po none (hMo res J)) : JW X 0 0 0 [some (.ref 0), some (.int p0), none] [] (hMo G J) := by
  unfold p_X6_image at h
  refine JW.r hM 0 5 (pc2 := 7) (L2 := [some (.ref 0), some (.int p0), none]) (st2 := [.long (2 : Int64), .long (0 : Int64), .long (p0.toInt64), .ref 0]) (μ2 := (hMo G J)) rfl trivial ?_
  obtain ⟨v2, hv1, h⟩ := jbd h
  refine JW.cS (v := some (.int v2)) hM (m_X6_within (jVX X) hM.1.2.2.2.2.2.2.2.2.2.1 N (p0.toInt64) (0 : Int64) (2 : Int64) v2 hv1) (sb_Mo_E_ G J) (bi_Mo_E_ G J) rfl rfl rfl kc_X6_122 rfl rfl rfl (jat hM.2.1 5 rfl) (st := [.ref 0]) rfl ?_
  show JW X 0 0 10 [some (.ref 0), some (.int p0), none] [.int v2, .ref 0] (hMo G J)
  refine js_ifeq (t := 17) hM.1 (jat hM.2.1 6 rfl) rfl (fun hc14 => ?_) (fun hc14 => ?_)
  · have h := (if_pos hc14).symm.trans h
    refine JW.r hM 9 1 (pc2 := 18) (L2 := [some (.ref 0), some (.int p0), none]) (st2 := [.int (1 : Int32), .ref 0]) (μ2 := (hMo G J)) rfl trivial ?_
    exact t_X6_image_b18 hM hp N J G p0 (1 : Int32) h hq
  · have h := (if_neg hc14).symm.trans h
    refine JW.r hM 7 2 (pc2 := 18) (L2 := [some (.ref 0), some (.int p0), none]) (st2 := [.int (0 : Int32), .ref 0]) (μ2 := (hMo G J)) rfl trivial ?_
    exact t_X6_image_b18 hM hp N J G p0 (0 : Int32) h hq
theorem m_X6_image (V : jV) (hV : V.1.stackTraces = false) (N : Nat) (G : Nat → Nat → Int32) (J : Nat → Nat → Int64) (p0 : Int32) (v : (Nat → Nat → Int32)) (h : p_X6_image N G J p0 = some v) : jMet V yX6_image (jws yX6_image cX6_image 3 none) ⟨1, 0, 0, 25⟩ true 1 [.ref 0, .int p0] (hMo G J) (fun o ν => o = none ∧ ν = (hMo v J)) (fun _ _ => False) := by
  refine jmk (tb := tbX6) (C := kX6_image) hV rfl (by decide) tbX6_ok rfl kX6_image_ok rfl ?_
  intro X hM _ hp _
  exact t_X6_image hM hp N G J p0 h ⟨rfl, rfl⟩
def p_X6_restore_b44 (N : Nat) (J : Nat → Nat → Int64) : Nat → (Nat → Nat → Int32) → (Int32) → (Int32) → Option ((Nat → Nat → Int32))
  | 0, _, _, _ => none
  | n + 1, G, x1, x2 => if (264 : Int32) ≤ x2 then (some G) else (if jin (((264 : Int32) * x1) + x2) 792 = true then if jin x2 264 = true then jlt (jup G 1 x2.toNatClampNeg (G 4 (((264 : Int32) * x1) + x2).toNatClampNeg)) fun G8 => (p_X6_restore_b44 N J n) G8 x1 (x2 + 1) else none else none)
def p_X6_restore_b31 (N : Nat) (J : Nat → Nat → Int64) (G : Nat → Nat → Int32) (x1 : Int32) (s0 : Int32) : Option ((Nat → Nat → Int32)) :=
  jlt (jup G 0 5 s0) fun G4 => if (G4 0 5) ≤ 0 then (p_X6_restore_b44 N J N G4 x1 (0 : Int32)) else (some G4)
def p_X6_restore (N : Nat) (G : Nat → Nat → Int32) (J : Nat → Nat → Int64) (p0 : Int32) : Option ((Nat → Nat → Int32)) :=
  (p_X6_within N (p0.toInt64) (0 : Int64) (2 : Int64)).bind (fun v2 => if v2 = 0 then (p_X6_restore_b31 N J G p0 (1 : Int32)) else (if jin p0 3 = true then if (G 5 p0.toNatClampNeg) = 0 then (p_X6_restore_b31 N J G p0 (2 : Int32)) else (p_X6_restore_b31 N J G p0 (0 : Int32)) else none))
set_option maxHeartbeats 4000000 in
set_option maxRecDepth 100000 in
theorem t_X6_restore_b44 {X : jX} {po : Option Value → jH → Prop} {px : String → jH → Prop} {sf : Bool} {B9 : Nat} (hM : jMX X kX6_restore RX6 tbX6 3 ⟨1, 0, 0, 25⟩ none 16) (hp : jPost X sf B9 po px) (N : Nat) (J : Nat → Nat → Int64) {res : (Nat → Nat → Int32)} : ∀ (n : Nat) (G : Nat → Nat → Int32) (x1 : Int32) (x2 : Int32) (h : p_X6_restore_b44 N J n G x1 x2 = some res) (hq : po none (hMo res J)), JW X 0 0 44 [some (.ref 0), some (.int x1), some (.int x2)] [] (hMo G J) := by
  intro n
  induction n with
  | zero =>
    intro G x1 x2 h hq
    cases (show (none : Option ((Nat → Nat → Int32))) = some res from h)
  | succ n ih44 =>
    intro G x1 x2 h hq
    have ih44 := fun G x1 x2 h9 => ih44 G x1 x2 h9 hq
    rw [p_X6_restore_b44] at h
    refine JW.r hM 24 2 (pc2 := 48) (L2 := [some (.ref 0), some (.int x1), some (.int x2)]) (st2 := [.int (264 : Int32), .int x2]) (μ2 := (hMo G J)) rfl trivial ?_
    refine js_icge (t := 75) hM.1 (jat hM.2.1 26 rfl) rfl (fun hc10 => ?_) (fun hc10 => ?_)
    · have h := (if_pos hc10).symm.trans h
      obtain rfl := Option.some.inj h
      exact js_vret hM.1 hp hM.2.2.2.2.2.2.2.1 (by rw [hM.2.2.2.2.2.1]; exact Nat.le_of_ble_eq_true rfl) (by rw [hM.2.2.2.2.2.2.1]; exact Nat.le_of_ble_eq_true rfl) (jat hM.2.1 41 rfl) hq
    · have h := (if_neg hc10).symm.trans h
      obtain ⟨g6, h⟩ := jg h
      obtain ⟨g7, h⟩ := jg h
      obtain ⟨G8, e9, h⟩ := jlE h
      refine JW.r hM 27 12 (pc2 := 69) (L2 := [some (.ref 0), some (.int x1), some (.int x2)]) (st2 := []) (μ2 := (hMo (jup G 1 x2.toNatClampNeg (G 4 (((264 : Int32) * x1) + x2).toNatClampNeg)) J)) rfl ⟨g6, g7, trivial⟩ ?_
      rw [e9]
      refine JW.r hM 39 2 (pc2 := 44) (L2 := [some (.ref 0), some (.int x1), some (.int (x2 + 1))]) (st2 := []) (μ2 := (hMo G8 J)) rfl trivial ?_
      exact ih44 G8 x1 (x2 + 1) h
set_option maxHeartbeats 4000000 in
set_option maxRecDepth 100000 in
theorem t_X6_restore_b31 {X : jX} {po : Option Value → jH → Prop} {px : String → jH → Prop} {sf : Bool} {B9 : Nat} (hM : jMX X kX6_restore RX6 tbX6 3 ⟨1, 0, 0, 25⟩ none 16) (hp : jPost X sf B9 po px) (N : Nat) (J : Nat → Nat → Int64) {res : (Nat → Nat → Int32)} (G : Nat → Nat → Int32) (x1 : Int32) (s0 : Int32) (h : p_X6_restore_b31 N J G x1 s0 = some res) (hq : po none (hMo res J)) : JW X 0 0 31 [some (.ref 0), some (.int x1), none] [.int s0, .ref 0] (hMo G J) := by
  unfold p_X6_restore_b31 at h
  obtain ⟨G4, e5, h⟩ := jlE h
  refine JW.r hM 17 1 (pc2 := 34) (L2 := [some (.ref 0), some (.int x1), none]) (st2 := []) (μ2 := (hMo (jup G 0 5 s0) J)) rfl trivial ?_
  rw [e5]
  refine JW.r hM 18 2 (pc2 := 38) (L2 := [some (.ref 0), some (.int x1), none]) (st2 := [.int (G4 0 5)]) (μ2 := (hMo G4 J)) rfl trivial ?_
  refine js_ifle (t := 42) hM.1 (jat hM.2.1 20 rfl) rfl (fun hc11 => ?_) (fun hc11 => ?_)
  · have h := (if_pos hc11).symm.trans h
    refine JW.r hM 22 2 (pc2 := 44) (L2 := [some (.ref 0), some (.int x1), some (.int (0 : Int32))]) (st2 := []) (μ2 := (hMo G4 J)) rfl trivial ?_
    exact t_X6_restore_b44 hM hp N J N G4 x1 (0 : Int32) h hq
  · have h := (if_neg hc11).symm.trans h
    obtain rfl := Option.some.inj h
    exact js_vret hM.1 hp hM.2.2.2.2.2.2.2.1 (by rw [hM.2.2.2.2.2.1]; exact Nat.le_of_ble_eq_true rfl) (by rw [hM.2.2.2.2.2.2.1]; exact Nat.le_of_ble_eq_true rfl) (jat hM.2.1 21 rfl) hq
set_option maxHeartbeats 4000000 in
set_option maxRecDepth 100000 in
theorem t_X6_restore {X : jX} {po : Option Value → jH → Prop} {px : String → jH → Prop} {sf : Bool} {B9 : Nat} (hM : jMX X kX6_restore RX6 tbX6 3 ⟨1, 0, 0, 25⟩ none 16) (hp : jPost X sf B9 po px) (N : Nat) (G : Nat → Nat → Int32) (J : Nat → Nat → Int64) (p0 : Int32) {res : (Nat → Nat → Int32)} (h : p_X6_restore N G J p0 = some res) (hq : po none (hMo res J)) : JW X 0 0 0 [some (.ref 0), some (.int p0), none] [] (hMo G J) := by
  unfold p_X6_restore at h
  refine JW.r hM 0 5 (pc2 := 7) (L2 := [some (.ref 0), some (.int p0), none]) (st2 := [.long (2 : Int64), .long (0 : Int64), .long (p0.toInt64), .ref 0]) (μ2 := (hMo G J)) rfl trivial ?_
  obtain ⟨v2, hv1, h⟩ := jbd h
  refine JW.cS (v := some (.int v2)) hM (m_X6_within (jVX X) hM.1.2.2.2.2.2.2.2.2.2.1 N (p0.toInt64) (0 : Int64) (2 : Int64) v2 hv1) (sb_Mo_E_ G J) (bi_Mo_E_ G J) rfl rfl rfl kc_X6_122 rfl rfl rfl (jat hM.2.1 5 rfl) (st := [.ref 0]) rfl ?_
  show JW X 0 0 10 [some (.ref 0), some (.int p0), none] [.int v2, .ref 0] (hMo G J)
  refine js_ifne (t := 17) hM.1 (jat hM.2.1 6 rfl) rfl (fun hc13 => ?_) (fun hc13 => ?_)
  · have h := (if_neg hc13).symm.trans h
    obtain ⟨g3, h⟩ := jg h
    refine JW.r hM 9 4 (pc2 := 23) (L2 := [some (.ref 0), some (.int p0), none]) (st2 := [.int (G 5 p0.toNatClampNeg), .ref 0]) (μ2 := (hMo G J)) rfl ⟨g3, trivial⟩ ?_
    refine js_ifne (t := 30) hM.1 (jat hM.2.1 13 rfl) rfl (fun hc12 => ?_) (fun hc12 => ?_)
    · have h := (if_neg hc12).symm.trans h
      refine JW.r hM 16 1 (pc2 := 31) (L2 := [some (.ref 0), some (.int p0), none]) (st2 := [.int (0 : Int32), .ref 0]) (μ2 := (hMo G J)) rfl trivial ?_
      exact t_X6_restore_b31 hM hp N J G p0 (0 : Int32) h hq
    · have h := (if_pos hc12).symm.trans h
      refine JW.r hM 14 2 (pc2 := 31) (L2 := [some (.ref 0), some (.int p0), none]) (st2 := [.int (2 : Int32), .ref 0]) (μ2 := (hMo G J)) rfl trivial ?_
      exact t_X6_restore_b31 hM hp N J G p0 (2 : Int32) h hq
  · have h := (if_pos hc13).symm.trans h
    refine JW.r hM 7 2 (pc2 := 31) (L2 := [some (.ref 0), some (.int p0), none]) (st2 := [.int (1 : Int32), .ref 0]) (μ2 := (hMo G J)) rfl trivial ?_
    exact t_X6_restore_b31 hM hp N J G p0 (1 : Int32) h hq
theorem m_X6_restore (V : jV) (hV : V.1.stackTraces = false) (N : Nat) (G : Nat → Nat → Int32) (J : Nat → Nat → Int64) (p0 : Int32) (v : (Nat → Nat → Int32)) (h : p_X6_restore N G J p0 = some v) : jMet V yX6_restore (jws yX6_restore cX6_restore 3 none) ⟨1, 0, 0, 25⟩ true 1 [.ref 0, .int p0] (hMo G J) (fun o ν => o = none ∧ ν = (hMo v J)) (fun _ _ => False) := by
  refine jmk (tb := tbX6) (C := kX6_restore) hV rfl (by decide) tbX6_ok rfl kX6_restore_ok rfl ?_
  intro X hM _ hp _
  exact t_X6_restore hM hp N G J p0 h ⟨rfl, rfl⟩
def p_X6_count_b12 (N : Nat) (J : Nat → Nat → Int64) : Nat → (Nat → Nat → Int32) → (Int32) → (Int32) → (Int32) → (Int32) → Option (Int32 × (Nat → Nat → Int32))
  | 0, _, _, _, _, _ => none
  | n + 1, G, x1, x2, x3, x4 => if (G 1 1) ≤ x4 then (if x1.toInt = 0 then (some ((G 1 0), G)) else (if x1.toInt = 1 then (some ((G 1 1), G)) else (if x1.toInt = 2 then (some ((G 1 2), G)) else (if x1.toInt = 3 then (some ((G 1 7), G)) else (if x1.toInt = 4 then ((p_X6_standMany N G J).bind (fun v16 => some (v16, G))) else (if x1.toInt = 5 then (some ((G 1 6), G)) else (if x1.toInt = 6 then (some ((G 1 4), G)) else (if x1.toInt = 7 then (some ((G 1 5), G)) else (if x1.toInt = 8 then (some ((G 1 3), G)) else (if x1.toInt = 9 then (some (x2, G)) else (if x1.toInt = 10 then (some (x3, G)) else (if x1.toInt = 11 then (some ((G 0 7), G)) else (some ((-1 : Int32), G)))))))))))))) else (if jin ((8 : Int32) + x4) 264 = true then (p_X6_wealth N G J x4).bind (fun v19 => (p_X6_count_b12 N J n) G x1 (x2 + (G 1 ((8 : Int32) + x4).toNatClampNeg)) (x3 + v19) (x4 + 1)) else none)
def p_X6_count (N : Nat) (G : Nat → Nat → Int32) (J : Nat → Nat → Int64) (p0 : Int32) : Option (Int32 × (Nat → Nat → Int32)) :=
  jlt (jup G 0 5 (0 : Int32)) fun G1 => p_X6_count_b12 N J N G1 p0 (0 : Int32) (0 : Int32) (0 : Int32)
set_option maxHeartbeats 4000000 in
set_option maxRecDepth 100000 in
theorem t_X6_count_b12 {X : jX} {po : Option Value → jH → Prop} {px : String → jH → Prop} {sf : Bool} {B9 : Nat} (hM : jMX X kX6_count RX6 tbX6 5 ⟨2, 0, 0, 45⟩ (some .int) 16) (hp : jPost X sf B9 po px) (N : Nat) (J : Nat → Nat → Int64) {res : Int32 × (Nat → Nat → Int32)} : ∀ (n : Nat) (G : Nat → Nat → Int32) (x1 : Int32) (x2 : Int32) (x3 : Int32) (x4 : Int32) (h : p_X6_count_b12 N J n G x1 x2 x3 x4 = some res) (hq : po (some (.int res.1)) (hMo res.2 J)), JW X 0 0 12 [some (.ref 0), some (.int x1), some (.int x2), some (.int x3), some (.int x4)] [] (hMo G J) := by
  intro n
  induction n with
  | zero =>
    intro G x1 x2 x3 x4 h hq
    cases (show (none : Option (Int32 × (Nat → Nat → Int32))) = some res from h)
  | succ n ih12 =>
    intro G x1 x2 x3 x4 h hq
    have ih12 := fun G x1 x2 x3 x4 h9 => ih12 G x1 x2 x3 x4 h9 hq
    rw [p_X6_count_b12] at h
    refine JW.r hM 9 5 (pc2 := 20) (L2 := [some (.ref 0), some (.int x1), some (.int x2), some (.int x3), some (.int x4)]) (st2 := [.int (G 1 1), .int x4]) (μ2 := (hMo G J)) rfl ⟨rfl, trivial⟩ ?_
    refine js_icge (t := 51) hM.1 (jat hM.2.1 14 rfl) rfl (fun hc20 => ?_) (fun hc20 => ?_)
    · have h := (if_pos hc20).symm.trans h
      refine JW.r hM 32 1 (pc2 := 52) (L2 := [some (.ref 0), some (.int x1), some (.int x2), some (.int x3), some (.int x4)]) (st2 := [.int x1]) (μ2 := (hMo G J)) rfl trivial ?_
      refine js_tsw (t0 := 188) hM.1 (jat hM.2.1 33 rfl) (by decide) rfl (by decide) ⟨fun hc3 t ht => ?_, fun hc3 => ⟨fun hc4 t ht => ?_, fun hc4 => ⟨fun hc5 t ht => ?_, fun hc5 => ⟨fun hc6 t ht => ?_, fun hc6 => ⟨fun hc7 t ht => ?_, fun hc7 => ⟨fun hc8 t ht => ?_, fun hc8 => ⟨fun hc9 t ht => ?_, fun hc9 => ⟨fun hc10 t ht => ?_, fun hc10 => ⟨fun hc11 t ht => ?_, fun hc11 => ⟨fun hc12 t ht => ?_, fun hc12 => ⟨fun hc13 t ht => ?_, fun hc13 => ⟨fun hc14 t ht => ?_, fun hc14 => fun t ht => ?_⟩⟩⟩⟩⟩⟩⟩⟩⟩⟩⟩⟩
      · have h := (if_pos hc3).symm.trans h
        obtain rfl : t = 116 := by omega
        refine JW.r hM 34 4 (pc2 := 122) (L2 := [some (.ref 0), some (.int x1), some (.int x2), some (.int x3), some (.int x4)]) (st2 := [.int (G 1 0)]) (μ2 := (hMo G J)) rfl ⟨rfl, trivial⟩ ?_
        obtain rfl := Option.some.inj h
        exact js_iret hM.1 hp hM.2.2.2.2.2.2.2.1 (by rw [hM.2.2.2.2.2.1]; exact Nat.le_of_ble_eq_true rfl) (by rw [hM.2.2.2.2.2.2.1]; exact Nat.le_of_ble_eq_true rfl) (jat hM.2.1 38 rfl) hq
      · have h := (if_neg hc3).symm.trans h
        have h := (if_pos hc4).symm.trans h
        obtain rfl : t = 123 := by omega
        refine JW.r hM 39 4 (pc2 := 129) (L2 := [some (.ref 0), some (.int x1), some (.int x2), some (.int x3), some (.int x4)]) (st2 := [.int (G 1 1)]) (μ2 := (hMo G J)) rfl ⟨rfl, trivial⟩ ?_
        obtain rfl := Option.some.inj h
        exact js_iret hM.1 hp hM.2.2.2.2.2.2.2.1 (by rw [hM.2.2.2.2.2.1]; exact Nat.le_of_ble_eq_true rfl) (by rw [hM.2.2.2.2.2.2.1]; exact Nat.le_of_ble_eq_true rfl) (jat hM.2.1 43 rfl) hq
      · have h := (if_neg hc3).symm.trans h
        have h := (if_neg hc4).symm.trans h
        have h := (if_pos hc5).symm.trans h
        obtain rfl : t = 130 := by omega
        refine JW.r hM 44 4 (pc2 := 136) (L2 := [some (.ref 0), some (.int x1), some (.int x2), some (.int x3), some (.int x4)]) (st2 := [.int (G 1 2)]) (μ2 := (hMo G J)) rfl ⟨rfl, trivial⟩ ?_
        obtain rfl := Option.some.inj h
        exact js_iret hM.1 hp hM.2.2.2.2.2.2.2.1 (by rw [hM.2.2.2.2.2.1]; exact Nat.le_of_ble_eq_true rfl) (by rw [hM.2.2.2.2.2.2.1]; exact Nat.le_of_ble_eq_true rfl) (jat hM.2.1 48 rfl) hq
      · have h := (if_neg hc3).symm.trans h
        have h := (if_neg hc4).symm.trans h
        have h := (if_neg hc5).symm.trans h
        have h := (if_pos hc6).symm.trans h
        obtain rfl : t = 137 := by omega
        refine JW.r hM 49 4 (pc2 := 144) (L2 := [some (.ref 0), some (.int x1), some (.int x2), some (.int x3), some (.int x4)]) (st2 := [.int (G 1 7)]) (μ2 := (hMo G J)) rfl ⟨rfl, trivial⟩ ?_
        obtain rfl := Option.some.inj h
        exact js_iret hM.1 hp hM.2.2.2.2.2.2.2.1 (by rw [hM.2.2.2.2.2.1]; exact Nat.le_of_ble_eq_true rfl) (by rw [hM.2.2.2.2.2.2.1]; exact Nat.le_of_ble_eq_true rfl) (jat hM.2.1 53 rfl) hq
      · have h := (if_neg hc3).symm.trans h
        have h := (if_neg hc4).symm.trans h
        have h := (if_neg hc5).symm.trans h
        have h := (if_neg hc6).symm.trans h
        have h := (if_pos hc7).symm.trans h
        obtain rfl : t = 145 := by omega
        refine JW.r hM 54 1 (pc2 := 146) (L2 := [some (.ref 0), some (.int x1), some (.int x2), some (.int x3), some (.int x4)]) (st2 := [.ref 0]) (μ2 := (hMo G J)) rfl trivial ?_
        obtain ⟨v16, hv15, h⟩ := jbd h
        refine JW.cV (v := some (.int v16)) hM (m_X6_standMany (jVX X) hM.1.2.2.2.2.2.2.2.2.2.1 N G J v16 hv15) (sb_Mo_Mo_0 G J) (bi_Mo_Mo_0 G J) rfl rfl rfl kc_X6_215 rfl rfl rfl rfl rfl (jat hM.2.1 55 rfl) (st := []) rfl ?_
        show JW X 0 0 149 [some (.ref 0), some (.int x1), some (.int x2), some (.int x3), some (.int x4)] [.int v16] (hMo G J)
        obtain rfl := Option.some.inj h
        exact js_iret hM.1 hp hM.2.2.2.2.2.2.2.1 (by rw [hM.2.2.2.2.2.1]; exact Nat.le_of_ble_eq_true rfl) (by rw [hM.2.2.2.2.2.2.1]; exact Nat.le_of_ble_eq_true rfl) (jat hM.2.1 56 rfl) hq
      · have h := (if_neg hc3).symm.trans h
        have h := (if_neg hc4).symm.trans h
        have h := (if_neg hc5).symm.trans h
        have h := (if_neg hc6).symm.trans h
        have h := (if_neg hc7).symm.trans h
        have h := (if_pos hc8).symm.trans h
        obtain rfl : t = 150 := by omega
        refine JW.r hM 57 4 (pc2 := 157) (L2 := [some (.ref 0), some (.int x1), some (.int x2), some (.int x3), some (.int x4)]) (st2 := [.int (G 1 6)]) (μ2 := (hMo G J)) rfl ⟨rfl, trivial⟩ ?_
        obtain rfl := Option.some.inj h
        exact js_iret hM.1 hp hM.2.2.2.2.2.2.2.1 (by rw [hM.2.2.2.2.2.1]; exact Nat.le_of_ble_eq_true rfl) (by rw [hM.2.2.2.2.2.2.1]; exact Nat.le_of_ble_eq_true rfl) (jat hM.2.1 61 rfl) hq
      · have h := (if_neg hc3).symm.trans h
        have h := (if_neg hc4).symm.trans h
        have h := (if_neg hc5).symm.trans h
        have h := (if_neg hc6).symm.trans h
        have h := (if_neg hc7).symm.trans h
        have h := (if_neg hc8).symm.trans h
        have h := (if_pos hc9).symm.trans h
        obtain rfl : t = 158 := by omega
        refine JW.r hM 62 4 (pc2 := 164) (L2 := [some (.ref 0), some (.int x1), some (.int x2), some (.int x3), some (.int x4)]) (st2 := [.int (G 1 4)]) (μ2 := (hMo G J)) rfl ⟨rfl, trivial⟩ ?_
        obtain rfl := Option.some.inj h
        exact js_iret hM.1 hp hM.2.2.2.2.2.2.2.1 (by rw [hM.2.2.2.2.2.1]; exact Nat.le_of_ble_eq_true rfl) (by rw [hM.2.2.2.2.2.2.1]; exact Nat.le_of_ble_eq_true rfl) (jat hM.2.1 66 rfl) hq
      · have h := (if_neg hc3).symm.trans h
        have h := (if_neg hc4).symm.trans h
        have h := (if_neg hc5).symm.trans h
        have h := (if_neg hc6).symm.trans h
        have h := (if_neg hc7).symm.trans h
        have h := (if_neg hc8).symm.trans h
        have h := (if_neg hc9).symm.trans h
        have h := (if_pos hc10).symm.trans h
        obtain rfl : t = 165 := by omega
        refine JW.r hM 67 4 (pc2 := 171) (L2 := [some (.ref 0), some (.int x1), some (.int x2), some (.int x3), some (.int x4)]) (st2 := [.int (G 1 5)]) (μ2 := (hMo G J)) rfl ⟨rfl, trivial⟩ ?_
        obtain rfl := Option.some.inj h
        exact js_iret hM.1 hp hM.2.2.2.2.2.2.2.1 (by rw [hM.2.2.2.2.2.1]; exact Nat.le_of_ble_eq_true rfl) (by rw [hM.2.2.2.2.2.2.1]; exact Nat.le_of_ble_eq_true rfl) (jat hM.2.1 71 rfl) hq
      · have h := (if_neg hc3).symm.trans h
        have h := (if_neg hc4).symm.trans h
        have h := (if_neg hc5).symm.trans h
        have h := (if_neg hc6).symm.trans h
        have h := (if_neg hc7).symm.trans h
        have h := (if_neg hc8).symm.trans h
        have h := (if_neg hc9).symm.trans h
        have h := (if_neg hc10).symm.trans h
        have h := (if_pos hc11).symm.trans h
        obtain rfl : t = 172 := by omega
        refine JW.r hM 72 4 (pc2 := 178) (L2 := [some (.ref 0), some (.int x1), some (.int x2), some (.int x3), some (.int x4)]) (st2 := [.int (G 1 3)]) (μ2 := (hMo G J)) rfl ⟨rfl, trivial⟩ ?_
        obtain rfl := Option.some.inj h
        exact js_iret hM.1 hp hM.2.2.2.2.2.2.2.1 (by rw [hM.2.2.2.2.2.1]; exact Nat.le_of_ble_eq_true rfl) (by rw [hM.2.2.2.2.2.2.1]; exact Nat.le_of_ble_eq_true rfl) (jat hM.2.1 76 rfl) hq
      · have h := (if_neg hc3).symm.trans h
        have h := (if_neg hc4).symm.trans h
        have h := (if_neg hc5).symm.trans h
        have h := (if_neg hc6).symm.trans h
        have h := (if_neg hc7).symm.trans h
        have h := (if_neg hc8).symm.trans h
        have h := (if_neg hc9).symm.trans h
        have h := (if_neg hc10).symm.trans h
        have h := (if_neg hc11).symm.trans h
        have h := (if_pos hc12).symm.trans h
        obtain rfl : t = 179 := by omega
        refine JW.r hM 77 1 (pc2 := 180) (L2 := [some (.ref 0), some (.int x1), some (.int x2), some (.int x3), some (.int x4)]) (st2 := [.int x2]) (μ2 := (hMo G J)) rfl trivial ?_
        obtain rfl := Option.some.inj h
        exact js_iret hM.1 hp hM.2.2.2.2.2.2.2.1 (by rw [hM.2.2.2.2.2.1]; exact Nat.le_of_ble_eq_true rfl) (by rw [hM.2.2.2.2.2.2.1]; exact Nat.le_of_ble_eq_true rfl) (jat hM.2.1 78 rfl) hq
      · have h := (if_neg hc3).symm.trans h
        have h := (if_neg hc4).symm.trans h
        have h := (if_neg hc5).symm.trans h
        have h := (if_neg hc6).symm.trans h
        have h := (if_neg hc7).symm.trans h
        have h := (if_neg hc8).symm.trans h
        have h := (if_neg hc9).symm.trans h
        have h := (if_neg hc10).symm.trans h
        have h := (if_neg hc11).symm.trans h
        have h := (if_neg hc12).symm.trans h
        have h := (if_pos hc13).symm.trans h
        obtain rfl : t = 181 := by omega
        refine JW.r hM 79 1 (pc2 := 182) (L2 := [some (.ref 0), some (.int x1), some (.int x2), some (.int x3), some (.int x4)]) (st2 := [.int x3]) (μ2 := (hMo G J)) rfl trivial ?_
        obtain rfl := Option.some.inj h
        exact js_iret hM.1 hp hM.2.2.2.2.2.2.2.1 (by rw [hM.2.2.2.2.2.1]; exact Nat.le_of_ble_eq_true rfl) (by rw [hM.2.2.2.2.2.2.1]; exact Nat.le_of_ble_eq_true rfl) (jat hM.2.1 80 rfl) hq
      · have h := (if_neg hc3).symm.trans h
        have h := (if_neg hc4).symm.trans h
        have h := (if_neg hc5).symm.trans h
        have h := (if_neg hc6).symm.trans h
        have h := (if_neg hc7).symm.trans h
        have h := (if_neg hc8).symm.trans h
        have h := (if_neg hc9).symm.trans h
        have h := (if_neg hc10).symm.trans h
        have h := (if_neg hc11).symm.trans h
        have h := (if_neg hc12).symm.trans h
        have h := (if_neg hc13).symm.trans h
        have h := (if_pos hc14).symm.trans h
        obtain rfl : t = 183 := by omega
        refine JW.r hM 81 2 (pc2 := 187) (L2 := [some (.ref 0), some (.int x1), some (.int x2), some (.int x3), some (.int x4)]) (st2 := [.int (G 0 7)]) (μ2 := (hMo G J)) rfl trivial ?_
        obtain rfl := Option.some.inj h
        exact js_iret hM.1 hp hM.2.2.2.2.2.2.2.1 (by rw [hM.2.2.2.2.2.1]; exact Nat.le_of_ble_eq_true rfl) (by rw [hM.2.2.2.2.2.2.1]; exact Nat.le_of_ble_eq_true rfl) (jat hM.2.1 83 rfl) hq
      · have h := (if_neg hc3).symm.trans h
        have h := (if_neg hc4).symm.trans h
        have h := (if_neg hc5).symm.trans h
        have h := (if_neg hc6).symm.trans h
        have h := (if_neg hc7).symm.trans h
        have h := (if_neg hc8).symm.trans h
        have h := (if_neg hc9).symm.trans h
        have h := (if_neg hc10).symm.trans h
        have h := (if_neg hc11).symm.trans h
        have h := (if_neg hc12).symm.trans h
        have h := (if_neg hc13).symm.trans h
        have h := (if_neg hc14).symm.trans h
        obtain rfl : t = 188 := by omega
        refine JW.r hM 84 1 (pc2 := 189) (L2 := [some (.ref 0), some (.int x1), some (.int x2), some (.int x3), some (.int x4)]) (st2 := [.int (-1 : Int32)]) (μ2 := (hMo G J)) rfl trivial ?_
        obtain rfl := Option.some.inj h
        exact js_iret hM.1 hp hM.2.2.2.2.2.2.2.1 (by rw [hM.2.2.2.2.2.1]; exact Nat.le_of_ble_eq_true rfl) (by rw [hM.2.2.2.2.2.2.1]; exact Nat.le_of_ble_eq_true rfl) (jat hM.2.1 85 rfl) hq
    · have h := (if_neg hc20).symm.trans h
      obtain ⟨g17, h⟩ := jg h
      refine JW.r hM 15 12 (pc2 := 40) (L2 := [some (.ref 0), some (.int x1), some (.int (x2 + (G 1 ((8 : Int32) + x4).toNatClampNeg))), some (.int x3), some (.int x4)]) (st2 := [.int x4, .ref 0, .int x3]) (μ2 := (hMo G J)) rfl ⟨g17, trivial⟩ ?_
      obtain ⟨v19, hv18, h⟩ := jbd h
      refine JW.cV (v := some (.int v19)) hM (m_X6_wealth (jVX X) hM.1.2.2.2.2.2.2.2.2.2.1 N G J x4 v19 hv18) (sb_Mo_Mo_0 G J) (bi_Mo_Mo_0 G J) rfl rfl rfl kc_X6_191 rfl rfl rfl rfl rfl (jat hM.2.1 27 rfl) (st := [.int x3]) rfl ?_
      show JW X 0 0 43 [some (.ref 0), some (.int x1), some (.int (x2 + (G 1 ((8 : Int32) + x4).toNatClampNeg))), some (.int x3), some (.int x4)] [.int v19, .int x3] (hMo G J)
      refine JW.r hM 28 4 (pc2 := 12) (L2 := [some (.ref 0), some (.int x1), some (.int (x2 + (G 1 ((8 : Int32) + x4).toNatClampNeg))), some (.int (x3 + v19)), some (.int (x4 + 1))]) (st2 := []) (μ2 := (hMo G J)) rfl trivial ?_
      exact ih12 G x1 (x2 + (G 1 ((8 : Int32) + x4).toNatClampNeg)) (x3 + v19) (x4 + 1) h
set_option maxHeartbeats 4000000 in
set_option maxRecDepth 100000 in
theorem t_X6_count {X : jX} {po : Option Value → jH → Prop} {px : String → jH → Prop} {sf : Bool} {B9 : Nat} (hM : jMX X kX6_count RX6 tbX6 5 ⟨2, 0, 0, 45⟩ (some .int) 16) (hp : jPost X sf B9 po px) (N : Nat) (G : Nat → Nat → Int32) (J : Nat → Nat → Int64) (p0 : Int32) {res : Int32 × (Nat → Nat → Int32)} (h : p_X6_count N G J p0 = some res) (hq : po (some (.int res.1)) (hMo res.2 J)) : JW X 0 0 0 [some (.ref 0), some (.int p0), none, none, none] [] (hMo G J) := by
  unfold p_X6_count at h
  obtain ⟨G1, e2, h⟩ := jlE h
  refine JW.r hM 0 3 (pc2 := 5) (L2 := [some (.ref 0), some (.int p0), none, none, none]) (st2 := []) (μ2 := (hMo (jup G 0 5 (0 : Int32)) J)) rfl trivial ?_
  rw [e2]
  refine JW.r hM 3 6 (pc2 := 12) (L2 := [some (.ref 0), some (.int p0), some (.int (0 : Int32)), some (.int (0 : Int32)), some (.int (0 : Int32))]) (st2 := []) (μ2 := (hMo G1 J)) rfl trivial ?_
  exact t_X6_count_b12 hM hp N J N G1 p0 (0 : Int32) (0 : Int32) (0 : Int32) h hq
theorem m_X6_count (V : jV) (hV : V.1.stackTraces = false) (N : Nat) (G : Nat → Nat → Int32) (J : Nat → Nat → Int64) (p0 : Int32) (v : Int32 × (Nat → Nat → Int32)) (h : p_X6_count N G J p0 = some v) : jMet V yX6_count (jws yX6_count cX6_count 5 (some .int)) ⟨2, 0, 0, 45⟩ true 1 [.ref 0, .int p0] (hMo G J) (fun o ν => o = some (.int v.1) ∧ ν = (hMo v.2 J)) (fun _ _ => False) := by
  refine jmk (tb := tbX6) (C := kX6_count) hV rfl (by decide) tbX6_ok rfl kX6_count_ok rfl ?_
  intro X hM _ hp _
  exact t_X6_count hM hp N G J p0 h ⟨rfl, rfl⟩

/-! Draws(int), and TillTheBell.day: it makes an object of its own, which is forgotten -/
def gDr (x : Int32) : Nat → Nat → Int32 := fun _ _ => x
set_option maxHeartbeats 4000000 in
set_option maxRecDepth 100000 in
theorem m_X0_init (V : jV) (hV : V.1.stackTraces = false) (p0 : Int32) : jMet V yX0_init (jws yX0_init cX0_init 2 none) ⟨1, 0, 0, 20⟩ true 1 [.ref 0, .int p0] [.inr (.inr (.inl (0, [.int 0])))] (fun o ν => o = none ∧ ν = hDr (gDr p0)) (fun _ _ => False) := by
  refine jmk (tb := tbX0) (C := kX0_init) hV rfl (by decide) tbX0_ok rfl kX0_init_ok rfl ?_
  intro X hM _ hp _
  show JW X 0 0 0 [some (.ref 0), some (.int p0)] [] [.inr (.inr (.inl (0, [.int 0])))]
  refine JW.r hM 0 1 (pc2 := 1) (L2 := [some (.ref 0), some (.int p0)]) (st2 := [.ref 0]) (μ2 := [.inr (.inr (.inl (0, [.int 0])))]) rfl trivial ?_
  refine js_objInit hM.1 (by rw [hM.2.2.1]; exact oi_X0) (jat hM.2.1 1 rfl) (by rw [hM.2.2.2.2.1]; exact Nat.le_of_ble_eq_true rfl) (by rw [hM.2.2.2.2.1]; exact Nat.le_of_ble_eq_true rfl) ?_
  refine JW.r hM 2 3 (pc2 := 9) (L2 := [some (.ref 0), some (.int p0)]) (st2 := []) (μ2 := hDr (gDr p0)) rfl trivial ?_
  exact js_vret hM.1 hp hM.2.2.2.2.2.2.2.1 (by rw [hM.2.2.2.2.2.1]; exact Nat.le_of_ble_eq_true rfl) (by rw [hM.2.2.2.2.2.2.1]; exact Nat.le_of_ble_eq_true rfl) (jat hM.2.1 5 rfl) ⟨rfl, rfl⟩
def gDT (G : Nat → Nat → Int32) (x : Int32) : Nat → Nat → Int32 := fun k => if k < 1 then (fun _ => x) else G (1 + (k - 1))
def p_X5_day (N : Nat) (G : Nat → Nat → Int32) (J : Nat → Nat → Int64) (p0 : Int32) (p1 : Int32) : Option (Nat ⊕ (Int32 × (Nat → Nat → Int32))) :=
  if p1 < (1 : Int32) then some (.inl 3) else if p1 ≤ (40 : Int32) then (if (G 1 2) = 0 then some (.inr ((0 : Int32), G)) else ((p_X0_spend N (gDT G p0) p1).bind fun v => some (.inr (v.1, jpt G 1 9 (fun k => v.2 (1 + k)))))) else some (.inl 3)
set_option maxRecDepth 100000 in
theorem sb_day (G : Nat → Nat → Int32) (J : Nat → Nat → Int64) (x : Int32) : jsub [70, 1, 2, 3, 4, 5, 6, 7, 8, 9] (hDT (gDT G x)) (hX G J ++ [.inr (.inr (.inl (0, [.int x])))]) := rfl
set_option maxRecDepth 100000 in
theorem bk_day (G : Nat → Nat → Int32) (J : Nat → Nat → Int64) (x : Int32) (G2 : Nat → Nat → Int32) : jback [70, 1, 2, 3, 4, 5, 6, 7, 8, 9] (hDT G2) (hX G J ++ [.inr (.inr (.inl (0, [.int x])))]) = hX (jpt G 1 9 (fun k => G2 (1 + k))) J ++ [.inr (.inr (.inl (0, [.int (G2 0 0)])))] := (jback_eq rfl (Nat.le_of_ble_eq_true rfl)).trans rfl
set_option maxRecDepth 100000 in
theorem sb_dr (G : Nat → Nat → Int32) (J : Nat → Nat → Int64) : jsub [70] [.inr (.inr (.inl (0, [.int 0])))] (hX G J ++ [.inr (.inr (.inl (0, [.int 0])))]) := rfl
set_option maxRecDepth 100000 in
theorem bk_dr (G : Nat → Nat → Int32) (J : Nat → Nat → Int64) (x : Int32) : jback [70] (hDr (gDr x)) (hX G J ++ [.inr (.inr (.inl (0, [.int 0])))]) = hX G J ++ [.inr (.inr (.inl (0, [.int x])))] := (jback_eq rfl (Nat.le_of_ble_eq_true rfl)).trans rfl
set_option maxHeartbeats 400000 in
set_option maxRecDepth 100000 in
theorem t_X5_day_46 {X : jX} {po : Option Value → jH → Prop} {px : String → jH → Prop} {B9 : Nat} (hM : jMX X kX5_day RX5 tbX5 3 ⟨6, 1, 6, 141⟩ (some .int) 73) (hp : jPost X false B9 po px) (N : Nat) (G : Nat → Nat → Int32) (J : Nat → Nat → Int64) (p0 : Int32) (p1 : Int32) (v : Int32 × (Nat → Nat → Int32)) (hv : p_X0_spend N (gDT G p0) p1 = some v) (hq : po (some (.int v.1)) (hX (jpt G 1 9 (fun k => v.2 (1 + k))) J)) : JW X 1 1 41 [some (.ref 0), some (.int p0), some (.int p1)] [.ref 70] (hX G J ++ [.inr (.inr (.inl (0, [.int p0])))]) := by
  refine JW.r hM 20 3 (pc2 := 46) (L2 := [some (.ref 0), some (.int p0), some (.int p1)]) (st2 := [.int p1, .ref 1, .ref 70]) (μ2 := hX G J ++ [.inr (.inr (.inl (0, [.int p0])))]) rfl trivial ?_
  refine JW.cVi (r := v.1) (m := 71) (k2 := 1) (n2 := 1) (pc2 := 49) hM (m_X0_spend (jVX X) hM.1.2.2.2.2.2.2.2.2.2.1 N (gDT G p0) p1 v hv) (sb_day G J p0) (bk_day G J p0 v.2) rfl rfl rfl kc_X5_209 rfl rfl rfl rfl rfl (jat hM.2.1 23 rfl) (st := []) rfl rfl rfl rfl ?_
  refine JW.drop ?_
  exact js_iret (X := jof X) hM.1 hp.off hM.2.2.2.2.2.2.2.1 (by show 1 ≤ jmc X; rw [hM.2.2.2.2.2.1]; exact Nat.le_of_ble_eq_true rfl) (by show 1 ≤ jms X; rw [hM.2.2.2.2.2.2.1]; exact Nat.le_of_ble_eq_true rfl) (jat hM.2.1 24 rfl) hq
set_option maxHeartbeats 400000 in
set_option maxRecDepth 100000 in
theorem t_X5_day_33 {X : jX} {po : Option Value → jH → Prop} {px : String → jH → Prop} {B9 : Nat} (hM : jMX X kX5_day RX5 tbX5 3 ⟨6, 1, 6, 141⟩ (some .int) 73) (hp : jPost X false B9 po px) (N : Nat) (G : Nat → Nat → Int32) (J : Nat → Nat → Int64) (p0 : Int32) (p1 : Int32) (v : Int32 × (Nat → Nat → Int32)) (hv : p_X0_spend N (gDT G p0) p1 = some v) (hq : po (some (.int v.1)) (hX (jpt G 1 9 (fun k => v.2 (1 + k))) J)) : JW X 0 0 33 [some (.ref 0), some (.int p0), some (.int p1)] [] (hX G J) := by
  have hB := hM.2.2.2.2.2.2.2.2.1
  refine js_nw (m := 70) (k2 := 1) (n2 := 1) (pc2 := 36) (ci := 0) (C := RX0) (T := TX0) (N := 1) (fs := [.int 0]) hM.1 rfl rfl (by rw [hM.2.2.1]; exact nw_X5_205) tyX0_ok rfl rfl (Nat.lt_of_lt_of_le (by decide) hB) rfl rfl rfl (by rw [hM.2.2.2.2.2.1]; exact Nat.le_of_ble_eq_true rfl) (by rw [hM.2.2.2.2.2.2.1]; exact Nat.le_of_ble_eq_true rfl) (jat hM.2.1 16 rfl) rfl ?_
  refine JW.r hM 17 2 (pc2 := 38) (L2 := [some (.ref 0), some (.int p0), some (.int p1)]) (st2 := [.int p0, .ref 70, .ref 70]) (μ2 := hX G J ++ [.inr (.inr (.inl (0, [.int 0])))]) rfl trivial ?_
  refine JW.cI (e := [70]) (st := [.ref 70]) (na := 1) (m := 71) (k2 := 1) (n2 := 1) (pc2 := 41) hM.1 (m_X0_init (jVX X) hM.1.2.2.2.2.2.2.2.2.2.1 p0) ⟨sb_dr G J, rfl, fun i hi => by rw [List.mem_singleton.mp hi]; exact Nat.le_of_ble_eq_true rfl, Nat.le_trans (show 71 + 1 ≤ 73 from Nat.le_of_ble_eq_true rfl) hB, Nat.le_of_ble_eq_true rfl⟩ (Or.inl (by rw [hM.2.2.1]; exact ci_X5_207.1)) ci_X5_207.2.1 ci_X5_207.2.2.1 (by decide) rfl ci_X5_207.2.2.2 rfl (jrb_ok hM.2.2.2.2.1 rfl) rfl (jat hM.2.1 19 rfl) rfl rfl ⟨Nat.le_refl 1, Nat.lt_succ_self 1⟩ (bk_dr G J p0) rfl rfl rfl ?_
  exact t_X5_day_46 hM hp N G J p0 p1 v hv hq
set_option maxHeartbeats 400000 in
set_option maxRecDepth 100000 in
theorem t_X5_day {X : jX} {po : Option Value → jH → Prop} {px : String → jH → Prop} {B9 : Nat} (hM : jMX X kX5_day RX5 tbX5 3 ⟨6, 1, 6, 141⟩ (some .int) 73) (hp : jPost X false B9 po px) (N : Nat) (G : Nat → Nat → Int32) (J : Nat → Nat → Int64) (p0 : Int32) (p1 : Int32) {res : Nat ⊕ (Int32 × (Nat → Nat → Int32))} (h : p_X5_day N G J p0 p1 = some res) (hq : ∀ w, res = Sum.inr w → po (some (.int w.1)) (hX w.2 J)) (hx : ∀ c, res = Sum.inl c → px (jEn c) (hX G J)) : JW X 0 0 0 [some (.ref 0), some (.int p0), some (.int p1)] [] (hX G J) := by
  unfold p_X5_day at h
  have thr : res = .inl 3 → JW X 0 0 11 [some (.ref 0), some (.int p0), some (.int p1)] [] (hX G J) := by
    rintro rfl
    exact js_throw (ik := 56) (ic := 58) (names := ["java/lang/RuntimeException", "java/lang/Exception"]) hM.1 hp hM.2.2.2.2.2.2.2.2.2 (by decide) (by decide) (by rw [hM.2.2.1]; exact th_X5_56_58) (jat hM.2.1 6 rfl) (jat hM.2.1 7 rfl) (jat hM.2.1 8 rfl) (jat hM.2.1 9 rfl) (by rw [hM.2.2.2.2.1]; exact Nat.le_of_ble_eq_true rfl) (by rw [hM.2.2.2.2.1]; exact Nat.le_of_ble_eq_true rfl) (by rw [hM.2.2.2.2.2.1]; exact Nat.le_of_ble_eq_true rfl) (by rw [hM.2.2.2.2.2.2.1]; exact Nat.le_of_ble_eq_true rfl) (hx _ rfl)
  refine JW.r hM 0 2 (pc2 := 2) (L2 := [some (.ref 0), some (.int p0), some (.int p1)]) (st2 := [.int (1 : Int32), .int p1]) (μ2 := hX G J) rfl trivial ?_
  refine js_iclt (t := 11) hM.1 (jat hM.2.1 2 rfl) rfl (fun hc => ?_) (fun hc => ?_)
  · have h := (if_pos hc).symm.trans h
    exact thr (Option.some.inj h).symm
  have h := (if_neg hc).symm.trans h
  refine JW.r hM 3 2 (pc2 := 8) (L2 := [some (.ref 0), some (.int p0), some (.int p1)]) (st2 := [.int (40 : Int32), .int p1]) (μ2 := hX G J) rfl trivial ?_
  refine js_icle (t := 19) hM.1 (jat hM.2.1 5 rfl) rfl (fun hc2 => ?_) (fun hc2 => ?_)
  rotate_left
  · have h := (if_neg hc2).symm.trans h
    exact thr (Option.some.inj h).symm
  have h := (if_pos hc2).symm.trans h
  refine JW.r hM 10 3 (pc2 := 26) (L2 := [some (.ref 0), some (.int p0), some (.int p1)]) (st2 := [.int (G 1 2)]) (μ2 := hX G J) rfl trivial ?_
  refine js_ifne (t := 33) hM.1 (jat hM.2.1 13 rfl) rfl (fun hc3 => ?_) (fun hc3 => ?_)
  rotate_left
  · have h := (if_pos hc3).symm.trans h
    obtain rfl := Option.some.inj h
    refine JW.r hM 14 2 (pc2 := 49) (L2 := [some (.ref 0), some (.int p0), some (.int p1)]) (st2 := [.int (0 : Int32)]) (μ2 := hX G J) rfl trivial ?_
    exact js_iret hM.1 hp hM.2.2.2.2.2.2.2.1 (by rw [hM.2.2.2.2.2.1]; exact Nat.le_of_ble_eq_true rfl) (by rw [hM.2.2.2.2.2.2.1]; exact Nat.le_of_ble_eq_true rfl) (jat hM.2.1 24 rfl) (hq ((0 : Int32), G) rfl)
  have h := (if_neg hc3).symm.trans h
  obtain ⟨v, hv, h⟩ := jbd h
  obtain rfl := Option.some.inj h
  exact t_X5_day_33 hM hp N G J p0 p1 v hv (hq (v.1, jpt G 1 9 (fun k => v.2 (1 + k))) rfl)
theorem m_X5_day_r (V : jV) (hV : V.1.stackTraces = false) (N : Nat) (G : Nat → Nat → Int32) (J : Nat → Nat → Int64) (p0 : Int32) (p1 : Int32) (v : Int32 × (Nat → Nat → Int32)) (h : p_X5_day N G J p0 p1 = some (.inr v)) : jMet V yX5_day (jws yX5_day cX5_day 3 (some .int)) ⟨6, 1, 6, 141⟩ false 3 [.ref 0, .int p0, .int p1] (hX G J) (fun o ν => o = some (.int v.1) ∧ ν = hX v.2 J) (fun _ _ => False) := by
  refine jmk (tb := tbX5) (C := kX5_day) hV rfl (by decide) tbX5_ok rfl kX5_day_ok rfl ?_
  intro X hM _ hp _
  exact t_X5_day hM hp N G J p0 p1 h (fun w hw => by cases hw; exact ⟨rfl, rfl⟩) (fun c hc => by cases hc)
theorem m_X5_day_x (V : jV) (hV : V.1.stackTraces = false) (N : Nat) (G : Nat → Nat → Int32) (J : Nat → Nat → Int64) (p0 : Int32) (p1 : Int32) (c : Nat) (h : p_X5_day N G J p0 p1 = some (.inl c)) : jMet V yX5_day (jws yX5_day cX5_day 3 (some .int)) ⟨6, 1, 6, 141⟩ false 3 [.ref 0, .int p0, .int p1] (hX G J) (fun _ _ => False) (fun E ν => E = jEn c ∧ ν = hX G J) := by
  refine jmk (tb := tbX5) (C := kX5_day) hV rfl (by decide) tbX5_ok rfl kX5_day_ok rfl ?_
  intro X hM _ hp _
  exact t_X5_day hM hp N G J p0 p1 h (fun w hw => by cases hw) (fun c hc => by cases hc; exact ⟨rfl, rfl⟩)

def p_X0_draw (N : Nat) (G : Nat → Nat → Int32) (p0 : Int32) : Option (Int32 × (Nat → Nat → Int32)) :=
  jlt (jup G 0 0 (((1103515245 : Int32) * (G 0 0)) + (12345 : Int32))) fun G1 => if 0 < p0 then (if p0 = 0 then none else some ((((G1 0 0).toUInt32 >>> ((16 : Int32).toUInt32 &&& Int32.toUInt32 31)).toInt32 - ((G1 0 0).toUInt32 >>> ((16 : Int32).toUInt32 &&& Int32.toUInt32 31)).toInt32 / p0 * p0), G1)) else (some ((0 : Int32), G1))
set_option maxHeartbeats 4000000 in
set_option maxRecDepth 100000 in
theorem t_X0_draw {X : jX} {po : Option Value → jH → Prop} {px : String → jH → Prop} {sf : Bool} {B9 : Nat} (hM : jMX X kX0_draw RX0 tbX0 2 ⟨0, 0, 0, 0⟩ (some .int) 2) (hp : jPost X sf B9 po px) (N : Nat) (G : Nat → Nat → Int32) (p0 : Int32) {res : Int32 × (Nat → Nat → Int32)} (h : p_X0_draw N G p0 = some res) (hq : po (some (.int res.1)) (hDr res.2)) : JW X 0 0 0 [some (.ref 0), some (.int p0)] [] (hDr G) := by
  unfold p_X0_draw at h
  obtain ⟨G1, e2, h⟩ := jlE h
  refine JW.r hM 0 8 (pc2 := 15) (L2 := [some (.ref 0), some (.int p0)]) (st2 := []) (μ2 := (hDr (jup G 0 0 (((1103515245 : Int32) * (G 0 0)) + (12345 : Int32))))) rfl trivial ?_
  rw [e2]
  refine JW.r hM 8 1 (pc2 := 16) (L2 := [some (.ref 0), some (.int p0)]) (st2 := [.int p0]) (μ2 := (hDr G1)) rfl trivial ?_
  refine js_ifgt (t := 23) hM.1 (jat hM.2.1 9 rfl) rfl (fun hc4 => ?_) (fun hc4 => ?_)
  · have h := (if_pos hc4).symm.trans h
    obtain ⟨g3, h⟩ := jgn h
    refine JW.r hM 12 6 (pc2 := 32) (L2 := [some (.ref 0), some (.int p0)]) (st2 := [.int (((G1 0 0).toUInt32 >>> ((16 : Int32).toUInt32 &&& Int32.toUInt32 31)).toInt32 - ((G1 0 0).toUInt32 >>> ((16 : Int32).toUInt32 &&& Int32.toUInt32 31)).toInt32 / p0 * p0)]) (μ2 := (hDr G1)) rfl ⟨g3, trivial⟩ ?_
    cases h
    exact js_iret hM.1 hp hM.2.2.2.2.2.2.2.1 (by rw [hM.2.2.2.2.2.1]; exact Nat.le_of_ble_eq_true rfl) (by rw [hM.2.2.2.2.2.2.1]; exact Nat.le_of_ble_eq_true rfl) (jat hM.2.1 18 rfl) hq
  · have h := (if_neg hc4).symm.trans h
    refine JW.r hM 10 2 (pc2 := 32) (L2 := [some (.ref 0), some (.int p0)]) (st2 := [.int (0 : Int32)]) (μ2 := (hDr G1)) rfl trivial ?_
    cases h
    exact js_iret hM.1 hp hM.2.2.2.2.2.2.2.1 (by rw [hM.2.2.2.2.2.1]; exact Nat.le_of_ble_eq_true rfl) (by rw [hM.2.2.2.2.2.2.1]; exact Nat.le_of_ble_eq_true rfl) (jat hM.2.1 18 rfl) hq
theorem m_X0_draw (V : jV) (hV : V.1.stackTraces = false) (N : Nat) (G : Nat → Nat → Int32) (p0 : Int32) (v : Int32 × (Nat → Nat → Int32)) (h : p_X0_draw N G p0 = some v) : jMet V yX0_draw (jws yX0_draw cX0_draw 2 (some .int)) ⟨0, 0, 0, 0⟩ true 1 [.ref 0, .int p0] (hDr G) (fun o ν => o = some (.int v.1) ∧ ν = (hDr v.2)) (fun _ _ => False) := by
  refine jmk (tb := tbX0) (C := kX0_draw) hV rfl (by decide) tbX0_ok rfl kX0_draw_ok rfl ?_
  intro X hM _ hp _
  exact t_X0_draw hM hp N G p0 h ⟨rfl, rfl⟩
def p_X0_deals (N : Nat) (G : Nat → Nat → Int32) : Option (Int32 × (Nat → Nat → Int32)) :=
  (p_X0_draw N (jvw G 0) (G 1 2)).bind (fun v2 => jlt (jpt G 0 1 v2.2) fun G3 => (p_X0_draw N (jvw G3 0) (G3 1 1)).bind (fun v6 => jlt (jpt G3 0 1 v6.2) fun G7 => (p_X0_draw N (jvw G7 0) (100 : Int32)).bind (fun v10 => jlt (jpt G7 0 1 v10.2) fun G11 => (p_X3_whyNoDeed N (jvw G11 1) v2.1 v6.1 v10.1).bind (fun v14 => if v14 = 0 then ((p_X3_make N (jvw G11 1) v2.1 v6.1 v10.1).bind (fun v16 => jlt (jpt G11 1 9 v16.2) fun G17 => some ((1 : Int32), G17))) else (some ((0 : Int32), G11))))))
set_option maxHeartbeats 4000000 in
set_option maxRecDepth 100000 in
theorem t_X0_deals {X : jX} {po : Option Value → jH → Prop} {px : String → jH → Prop} {sf : Bool} {B9 : Nat} (hM : jMX X kX0_deals RX0 tbX0 5 ⟨2, 0, 0, 44⟩ (some .boolean) 11) (hp : jPost X sf B9 po px) (N : Nat) (G : Nat → Nat → Int32) {res : Int32 × (Nat → Nat → Int32)} (h : p_X0_deals N G = some res) (hq : po (some (.int res.1)) (hDT res.2)) : JW X 0 0 0 [some (.ref 0), some (.ref 1), none, none, none] [] (hDT G) := by
  unfold p_X0_deals at h
  refine JW.r hM 0 3 (pc2 := 5) (L2 := [some (.ref 0), some (.ref 1), none, none, none]) (st2 := [.int (G 1 2), .ref 0]) (μ2 := (hDT G)) rfl trivial ?_
  obtain ⟨v2, hv1, h⟩ := jbd h
  refine JW.cV (v := some (.int v2.1)) hM (m_X0_draw (jVX X) hM.1.2.2.2.2.2.2.2.2.2.1 N (jvw G 0) (G 1 2) v2 hv1) (sb_DT_Dr_0 G) (bk_DT_Dr_0 G v2.2) rfl rfl rfl kc_X0_14 rfl rfl rfl rfl rfl (jat hM.2.1 3 rfl) (st := []) rfl ?_
  show JW X 0 0 8 [some (.ref 0), some (.ref 1), none, none, none] [.int v2.1] (hDT (jpt G 0 1 v2.2))
  obtain ⟨G3, e4, h⟩ := jlE h
  rw [e4]
  refine JW.r hM 4 4 (pc2 := 14) (L2 := [some (.ref 0), some (.ref 1), some (.int v2.1), none, none]) (st2 := [.int (G3 1 1), .ref 0]) (μ2 := (hDT G3)) rfl trivial ?_
  obtain ⟨v6, hv5, h⟩ := jbd h
  refine JW.cV (v := some (.int v6.1)) hM (m_X0_draw (jVX X) hM.1.2.2.2.2.2.2.2.2.2.1 N (jvw G3 0) (G3 1 1) v6 hv5) (sb_DT_Dr_0 G3) (bk_DT_Dr_0 G3 v6.2) rfl rfl rfl kc_X0_14 rfl rfl rfl rfl rfl (jat hM.2.1 8 rfl) (st := []) rfl ?_
  show JW X 0 0 17 [some (.ref 0), some (.ref 1), some (.int v2.1), none, none] [.int v6.1] (hDT (jpt G3 0 1 v6.2))
  obtain ⟨G7, e8, h⟩ := jlE h
  rw [e8]
  refine JW.r hM 9 3 (pc2 := 21) (L2 := [some (.ref 0), some (.ref 1), some (.int v2.1), some (.int v6.1), none]) (st2 := [.int (100 : Int32), .ref 0]) (μ2 := (hDT G7)) rfl trivial ?_
  obtain ⟨v10, hv9, h⟩ := jbd h
  refine JW.cV (v := some (.int v10.1)) hM (m_X0_draw (jVX X) hM.1.2.2.2.2.2.2.2.2.2.1 N (jvw G7 0) (100 : Int32) v10 hv9) (sb_DT_Dr_0 G7) (bk_DT_Dr_0 G7 v10.2) rfl rfl rfl kc_X0_14 rfl rfl rfl rfl rfl (jat hM.2.1 12 rfl) (st := []) rfl ?_
  show JW X 0 0 24 [some (.ref 0), some (.ref 1), some (.int v2.1), some (.int v6.1), none] [.int v10.1] (hDT (jpt G7 0 1 v10.2))
  obtain ⟨G11, e12, h⟩ := jlE h
  rw [e12]
  refine JW.r hM 13 5 (pc2 := 31) (L2 := [some (.ref 0), some (.ref 1), some (.int v2.1), some (.int v6.1), some (.int v10.1)]) (st2 := [.int v10.1, .int v6.1, .int v2.1, .ref 1]) (μ2 := (hDT G11)) rfl trivial ?_
  obtain ⟨v14, hv13, h⟩ := jbd h
  refine JW.cV (v := some (.int v14)) hM (m_X3_whyNoDeed (jVX X) hM.1.2.2.2.2.2.2.2.2.2.1 N (jvw G11 1) v2.1 v6.1 v10.1 v14 hv13) (sb_DT_Town_1 G11) (bi_DT_Town_1 G11) rfl rfl rfl kc_X0_33 rfl rfl rfl rfl rfl (jat hM.2.1 18 rfl) (st := []) rfl ?_
  show JW X 0 0 34 [some (.ref 0), some (.ref 1), some (.int v2.1), some (.int v6.1), some (.int v10.1)] [.int v14] (hDT G11)
  refine js_ifeq (t := 39) hM.1 (jat hM.2.1 19 rfl) rfl (fun hc19 => ?_) (fun hc19 => ?_)
  · have h := (if_pos hc19).symm.trans h
    refine JW.r hM 22 4 (pc2 := 44) (L2 := [some (.ref 0), some (.ref 1), some (.int v2.1), some (.int v6.1), some (.int v10.1)]) (st2 := [.int v10.1, .int v6.1, .int v2.1, .ref 1]) (μ2 := (hDT G11)) rfl trivial ?_
    obtain ⟨v16, hv15, h⟩ := jbd h
    refine JW.cV (v := some (.int v16.1)) hM (m_X3_make (jVX X) hM.1.2.2.2.2.2.2.2.2.2.1 N (jvw G11 1) v2.1 v6.1 v10.1 v16 hv15) (sb_DT_Town_1 G11) (bk_DT_Town_1 G11 v16.2) rfl rfl rfl kc_X0_37 rfl rfl rfl rfl rfl (jat hM.2.1 26 rfl) (st := []) rfl ?_
    show JW X 0 0 47 [some (.ref 0), some (.ref 1), some (.int v2.1), some (.int v6.1), some (.int v10.1)] [.int v16.1] (hDT (jpt G11 1 9 v16.2))
    obtain ⟨G17, e18, h⟩ := jlE h
    rw [e18]
    refine JW.r hM 27 2 (pc2 := 49) (L2 := [some (.ref 0), some (.ref 1), some (.int v2.1), some (.int v6.1), some (.int v10.1)]) (st2 := [.int (1 : Int32)]) (μ2 := (hDT G17)) rfl trivial ?_
    cases h
    exact js_zret hM.1 hp hM.2.2.2.2.2.2.2.1 rfl (by rw [hM.2.2.2.2.2.1]; exact Nat.le_of_ble_eq_true rfl) (by rw [hM.2.2.2.2.2.2.1]; exact Nat.le_of_ble_eq_true rfl) (jat hM.2.1 29 rfl) hq
  · have h := (if_neg hc19).symm.trans h
    refine JW.r hM 20 1 (pc2 := 38) (L2 := [some (.ref 0), some (.ref 1), some (.int v2.1), some (.int v6.1), some (.int v10.1)]) (st2 := [.int (0 : Int32)]) (μ2 := (hDT G11)) rfl trivial ?_
    cases h
    exact js_zret hM.1 hp hM.2.2.2.2.2.2.2.1 rfl (by rw [hM.2.2.2.2.2.1]; exact Nat.le_of_ble_eq_true rfl) (by rw [hM.2.2.2.2.2.2.1]; exact Nat.le_of_ble_eq_true rfl) (jat hM.2.1 21 rfl) hq
theorem m_X0_deals (V : jV) (hV : V.1.stackTraces = false) (N : Nat) (G : Nat → Nat → Int32) (v : Int32 × (Nat → Nat → Int32)) (h : p_X0_deals N G = some v) : jMet V yX0_deals (jws yX0_deals cX0_deals 5 (some .boolean)) ⟨2, 0, 0, 44⟩ true 1 [.ref 0, .ref 1] (hDT G) (fun o ν => o = some (.int v.1) ∧ ν = (hDT v.2)) (fun _ _ => False) := by
  refine jmk (tb := tbX0) (C := kX0_deals) hV rfl (by decide) tbX0_ok rfl kX0_deals_ok rfl ?_
  intro X hM _ hp _
  exact t_X0_deals hM hp N G h ⟨rfl, rfl⟩
def p_X0_undoes (N : Nat) (G : Nat → Nat → Int32) : Option (Int32 × (Nat → Nat → Int32)) :=
  if (G 1 7) = 0 then (some ((0 : Int32), G)) else ((p_X0_draw N (jvw G 0) (G 1 7)).bind (fun v2 => jlt (jpt G 0 1 v2.2) fun G3 => (p_X0_draw N (jvw G3 0) (2 : Int32)).bind (fun v6 => jlt (jpt G3 0 1 v6.2) fun G7 => (p_X3_sideOf N (jvw G7 1) v2.1 v6.1).bind (fun v10 => (p_X3_whyNoUndoing N (jvw G7 1) v2.1 v10).bind (fun v12 => if v12 = 0 then ((p_X3_fell N (jvw G7 1) v2.1 v10).bind (fun v14 => jlt (jpt G7 1 9 v14.2) fun G15 => some ((1 : Int32), G15))) else (some ((0 : Int32), G7)))))))
set_option maxHeartbeats 4000000 in
set_option maxRecDepth 100000 in
theorem t_X0_undoes {X : jX} {po : Option Value → jH → Prop} {px : String → jH → Prop} {sf : Bool} {B9 : Nat} (hM : jMX X kX0_undoes RX0 tbX0 4 ⟨4, 0, 0, 94⟩ (some .boolean) 11) (hp : jPost X sf B9 po px) (N : Nat) (G : Nat → Nat → Int32) {res : Int32 × (Nat → Nat → Int32)} (h : p_X0_undoes N G = some res) (hq : po (some (.int res.1)) (hDT res.2)) : JW X 0 0 0 [some (.ref 0), some (.ref 1), none, none] [] (hDT G) := by
  unfold p_X0_undoes at h
  refine JW.r hM 0 2 (pc2 := 4) (L2 := [some (.ref 0), some (.ref 1), none, none]) (st2 := [.int (G 1 7)]) (μ2 := (hDT G)) rfl trivial ?_
  refine js_ifne (t := 9) hM.1 (jat hM.2.1 2 rfl) rfl (fun hc18 => ?_) (fun hc18 => ?_)
  · have h := (if_neg hc18).symm.trans h
    refine JW.r hM 5 3 (pc2 := 14) (L2 := [some (.ref 0), some (.ref 1), none, none]) (st2 := [.int (G 1 7), .ref 0]) (μ2 := (hDT G)) rfl trivial ?_
    obtain ⟨v2, hv1, h⟩ := jbd h
    refine JW.cV (v := some (.int v2.1)) hM (m_X0_draw (jVX X) hM.1.2.2.2.2.2.2.2.2.2.1 N (jvw G 0) (G 1 7) v2 hv1) (sb_DT_Dr_0 G) (bk_DT_Dr_0 G v2.2) rfl rfl rfl kc_X0_14 rfl rfl rfl rfl rfl (jat hM.2.1 8 rfl) (st := []) rfl ?_
    show JW X 0 0 17 [some (.ref 0), some (.ref 1), none, none] [.int v2.1] (hDT (jpt G 0 1 v2.2))
    obtain ⟨G3, e4, h⟩ := jlE h
    rw [e4]
    refine JW.r hM 9 5 (pc2 := 22) (L2 := [some (.ref 0), some (.ref 1), some (.int v2.1), none]) (st2 := [.int (2 : Int32), .ref 0, .int v2.1, .ref 1]) (μ2 := (hDT G3)) rfl trivial ?_
    obtain ⟨v6, hv5, h⟩ := jbd h
    refine JW.cV (v := some (.int v6.1)) hM (m_X0_draw (jVX X) hM.1.2.2.2.2.2.2.2.2.2.1 N (jvw G3 0) (2 : Int32) v6 hv5) (sb_DT_Dr_0 G3) (bk_DT_Dr_0 G3 v6.2) rfl rfl rfl kc_X0_14 rfl rfl rfl rfl rfl (jat hM.2.1 14 rfl) (st := [.int v2.1, .ref 1]) rfl ?_
    show JW X 0 0 25 [some (.ref 0), some (.ref 1), some (.int v2.1), none] [.int v6.1, .int v2.1, .ref 1] (hDT (jpt G3 0 1 v6.2))
    obtain ⟨G7, e8, h⟩ := jlE h
    rw [e8]
    obtain ⟨v10, hv9, h⟩ := jbd h
    refine JW.cV (v := some (.int v10)) hM (m_X3_sideOf (jVX X) hM.1.2.2.2.2.2.2.2.2.2.1 N (jvw G7 1) v2.1 v6.1 v10 hv9) (sb_DT_Town_1 G7) (bi_DT_Town_1 G7) rfl rfl rfl kc_X0_43 rfl rfl rfl rfl rfl (jat hM.2.1 15 rfl) (st := []) rfl ?_
    show JW X 0 0 28 [some (.ref 0), some (.ref 1), some (.int v2.1), none] [.int v10] (hDT G7)
    refine JW.r hM 16 4 (pc2 := 32) (L2 := [some (.ref 0), some (.ref 1), some (.int v2.1), some (.int v10)]) (st2 := [.int v10, .int v2.1, .ref 1]) (μ2 := (hDT G7)) rfl trivial ?_
    obtain ⟨v12, hv11, h⟩ := jbd h
    refine JW.cV (v := some (.int v12)) hM (m_X3_whyNoUndoing (jVX X) hM.1.2.2.2.2.2.2.2.2.2.1 N (jvw G7 1) v2.1 v10 v12 hv11) (sb_DT_Town_1 G7) (bi_DT_Town_1 G7) rfl rfl rfl kc_X0_47 rfl rfl rfl rfl rfl (jat hM.2.1 20 rfl) (st := []) rfl ?_
    show JW X 0 0 35 [some (.ref 0), some (.ref 1), some (.int v2.1), some (.int v10)] [.int v12] (hDT G7)
    refine js_ifeq (t := 40) hM.1 (jat hM.2.1 21 rfl) rfl (fun hc17 => ?_) (fun hc17 => ?_)
    · have h := (if_pos hc17).symm.trans h
      refine JW.r hM 24 3 (pc2 := 43) (L2 := [some (.ref 0), some (.ref 1), some (.int v2.1), some (.int v10)]) (st2 := [.int v10, .int v2.1, .ref 1]) (μ2 := (hDT G7)) rfl trivial ?_
      obtain ⟨v14, hv13, h⟩ := jbd h
      refine JW.cV (v := some (.int v14.1)) hM (m_X3_fell (jVX X) hM.1.2.2.2.2.2.2.2.2.2.1 N (jvw G7 1) v2.1 v10 v14 hv13) (sb_DT_Town_1 G7) (bk_DT_Town_1 G7 v14.2) rfl rfl rfl kc_X0_50 rfl rfl rfl rfl rfl (jat hM.2.1 27 rfl) (st := []) rfl ?_
      show JW X 0 0 46 [some (.ref 0), some (.ref 1), some (.int v2.1), some (.int v10)] [.int v14.1] (hDT (jpt G7 1 9 v14.2))
      obtain ⟨G15, e16, h⟩ := jlE h
      rw [e16]
      refine JW.r hM 28 2 (pc2 := 48) (L2 := [some (.ref 0), some (.ref 1), some (.int v2.1), some (.int v10)]) (st2 := [.int (1 : Int32)]) (μ2 := (hDT G15)) rfl trivial ?_
      cases h
      exact js_zret hM.1 hp hM.2.2.2.2.2.2.2.1 rfl (by rw [hM.2.2.2.2.2.1]; exact Nat.le_of_ble_eq_true rfl) (by rw [hM.2.2.2.2.2.2.1]; exact Nat.le_of_ble_eq_true rfl) (jat hM.2.1 30 rfl) hq
    · have h := (if_neg hc17).symm.trans h
      refine JW.r hM 22 1 (pc2 := 39) (L2 := [some (.ref 0), some (.ref 1), some (.int v2.1), some (.int v10)]) (st2 := [.int (0 : Int32)]) (μ2 := (hDT G7)) rfl trivial ?_
      cases h
      exact js_zret hM.1 hp hM.2.2.2.2.2.2.2.1 rfl (by rw [hM.2.2.2.2.2.1]; exact Nat.le_of_ble_eq_true rfl) (by rw [hM.2.2.2.2.2.2.1]; exact Nat.le_of_ble_eq_true rfl) (jat hM.2.1 23 rfl) hq
  · have h := (if_pos hc18).symm.trans h
    refine JW.r hM 3 1 (pc2 := 8) (L2 := [some (.ref 0), some (.ref 1), none, none]) (st2 := [.int (0 : Int32)]) (μ2 := (hDT G)) rfl trivial ?_
    cases h
    exact js_zret hM.1 hp hM.2.2.2.2.2.2.2.1 rfl (by rw [hM.2.2.2.2.2.1]; exact Nat.le_of_ble_eq_true rfl) (by rw [hM.2.2.2.2.2.2.1]; exact Nat.le_of_ble_eq_true rfl) (jat hM.2.1 4 rfl) hq
theorem m_X0_undoes (V : jV) (hV : V.1.stackTraces = false) (N : Nat) (G : Nat → Nat → Int32) (v : Int32 × (Nat → Nat → Int32)) (h : p_X0_undoes N G = some v) : jMet V yX0_undoes (jws yX0_undoes cX0_undoes 4 (some .boolean)) ⟨4, 0, 0, 94⟩ true 1 [.ref 0, .ref 1] (hDT G) (fun o ν => o = some (.int v.1) ∧ ν = (hDT v.2)) (fun _ _ => False) := by
  refine jmk (tb := tbX0) (C := kX0_undoes) hV rfl (by decide) tbX0_ok rfl kX0_undoes_ok rfl ?_
  intro X hM _ hp _
  exact t_X0_undoes hM hp N G h ⟨rfl, rfl⟩
def p_X0_spend_b42 (N : Nat) (rv5 : (Nat → Nat → Int32) → Int32 → Int32 → Int32 → Option (Int32 × (Nat → Nat → Int32))) (G : Nat → Nat → Int32) (x2 : Int32) (x3 : Int32) (x4 : Int32) : Option (Int32 × (Nat → Nat → Int32)) :=
  rv5 G x2 x3 (x4 + 1)
def p_X0_spend_b39 (N : Nat) (rv5 : (Nat → Nat → Int32) → Int32 → Int32 → Int32 → Option (Int32 × (Nat → Nat → Int32))) (G : Nat → Nat → Int32) (x2 : Int32) (x3 : Int32) (x4 : Int32) : Option (Int32 × (Nat → Nat → Int32)) :=
  p_X0_spend_b42 N rv5 G x2 (x3 + 1) x4
def p_X0_spend_b5 (N : Nat) : Nat → (Nat → Nat → Int32) → (Int32) → (Int32) → (Int32) → Option (Int32 × (Nat → Nat → Int32))
  | 0, _, _, _, _ => none
  | n + 1, G, x2, x3, x4 => if x2 ≤ x4 then (some (x3, G)) else ((p_X0_draw N (jvw G 0) (3 : Int32)).bind (fun v2 => jlt (jpt G 0 1 v2.2) fun G3 => if v2.1 = (2 : Int32) then ((p_X0_undoes N G3).bind (fun v11 => jlt v11.2 fun G12 => if v11.1 = 0 then (p_X0_spend_b42 N (p_X0_spend_b5 N n) G12 x2 x3 x4) else (p_X0_spend_b39 N (p_X0_spend_b5 N n) G12 x2 x3 x4))) else ((p_X0_deals N G3).bind (fun v6 => jlt v6.2 fun G7 => if v6.1 = 0 then (p_X0_spend_b42 N (p_X0_spend_b5 N n) G7 x2 x3 x4) else (p_X0_spend_b39 N (p_X0_spend_b5 N n) G7 x2 x3 x4)))))
def p_X0_spend (N : Nat) (G : Nat → Nat → Int32) (p0 : Int32) : Option (Int32 × (Nat → Nat → Int32)) :=
  p_X0_spend_b5 N N G p0 (0 : Int32) (0 : Int32)
set_option maxHeartbeats 4000000 in
set_option maxRecDepth 100000 in
theorem t_X0_spend_b42 {X : jX} {po : Option Value → jH → Prop} {px : String → jH → Prop} {sf : Bool} {B9 : Nat} (hM : jMX X kX0_spend RX0 tbX0 5 ⟨5, 0, 0, 117⟩ (some .int) 11) (hp : jPost X sf B9 po px) (N : Nat) (rv5 : (Nat → Nat → Int32) → Int32 → Int32 → Int32 → Option (Int32 × (Nat → Nat → Int32))) {res : Int32 × (Nat → Nat → Int32)} (ih5 : ∀ (G : Nat → Nat → Int32) (x2 : Int32) (x3 : Int32) (x4 : Int32), rv5 G x2 x3 x4 = some res → JW X 0 0 5 [some (.ref 0), some (.ref 1), some (.int x2), some (.int x3), some (.int x4)] [] (hDT G)) (G : Nat → Nat → Int32) (x2 : Int32) (x3 : Int32) (x4 : Int32) (h : p_X0_spend_b42 N rv5 G x2 x3 x4 = some res) (hq : po (some (.int res.1)) (hDT res.2)) : JW X 0 0 42 [some (.ref 0), some (.ref 1), some (.int x2), some (.int x3), some (.int x4)] [] (hDT G) := by
  unfold p_X0_spend_b42 at h
  refine JW.r hM 22 2 (pc2 := 5) (L2 := [some (.ref 0), some (.ref 1), some (.int x2), some (.int x3), some (.int (x4 + 1))]) (st2 := []) (μ2 := (hDT G)) rfl trivial ?_
  exact ih5 G x2 x3 (x4 + 1) h
set_option maxHeartbeats 4000000 in
set_option maxRecDepth 100000 in
theorem t_X0_spend_b39 {X : jX} {po : Option Value → jH → Prop} {px : String → jH → Prop} {sf : Bool} {B9 : Nat} (hM : jMX X kX0_spend RX0 tbX0 5 ⟨5, 0, 0, 117⟩ (some .int) 11) (hp : jPost X sf B9 po px) (N : Nat) (rv5 : (Nat → Nat → Int32) → Int32 → Int32 → Int32 → Option (Int32 × (Nat → Nat → Int32))) {res : Int32 × (Nat → Nat → Int32)} (ih5 : ∀ (G : Nat → Nat → Int32) (x2 : Int32) (x3 : Int32) (x4 : Int32), rv5 G x2 x3 x4 = some res → JW X 0 0 5 [some (.ref 0), some (.ref 1), some (.int x2), some (.int x3), some (.int x4)] [] (hDT G)) (G : Nat → Nat → Int32) (x2 : Int32) (x3 : Int32) (x4 : Int32) (h : p_X0_spend_b39 N rv5 G x2 x3 x4 = some res) (hq : po (some (.int res.1)) (hDT res.2)) : JW X 0 0 39 [some (.ref 0), some (.ref 1), some (.int x2), some (.int x3), some (.int x4)] [] (hDT G) := by
  unfold p_X0_spend_b39 at h
  refine JW.r hM 21 1 (pc2 := 42) (L2 := [some (.ref 0), some (.ref 1), some (.int x2), some (.int (x3 + 1)), some (.int x4)]) (st2 := []) (μ2 := (hDT G)) rfl trivial ?_
  exact t_X0_spend_b42 hM hp N rv5 ih5 G x2 (x3 + 1) x4 h hq
set_option maxHeartbeats 4000000 in
set_option maxRecDepth 100000 in
theorem t_X0_spend_b5 {X : jX} {po : Option Value → jH → Prop} {px : String → jH → Prop} {sf : Bool} {B9 : Nat} (hM : jMX X kX0_spend RX0 tbX0 5 ⟨5, 0, 0, 117⟩ (some .int) 11) (hp : jPost X sf B9 po px) (N : Nat) {res : Int32 × (Nat → Nat → Int32)} : ∀ (n : Nat) (G : Nat → Nat → Int32) (x2 : Int32) (x3 : Int32) (x4 : Int32) (h : p_X0_spend_b5 N n G x2 x3 x4 = some res) (hq : po (some (.int res.1)) (hDT res.2)), JW X 0 0 5 [some (.ref 0), some (.ref 1), some (.int x2), some (.int x3), some (.int x4)] [] (hDT G) := by
  intro n
  induction n with
  | zero =>
    intro G x2 x3 x4 h hq
    cases (show (none : Option (Int32 × (Nat → Nat → Int32))) = some res from h)
  | succ n ih5 =>
    intro G x2 x3 x4 h hq
    have ih5 := fun G x2 x3 x4 h9 => ih5 G x2 x3 x4 h9 hq
    rw [p_X0_spend_b5] at h
    refine JW.r hM 4 2 (pc2 := 8) (L2 := [some (.ref 0), some (.ref 1), some (.int x2), some (.int x3), some (.int x4)]) (st2 := [.int x2, .int x4]) (μ2 := (hDT G)) rfl trivial ?_
    refine js_icge (t := 48) hM.1 (jat hM.2.1 6 rfl) rfl (fun hc16 => ?_) (fun hc16 => ?_)
    · have h := (if_pos hc16).symm.trans h
      refine JW.r hM 24 1 (pc2 := 49) (L2 := [some (.ref 0), some (.ref 1), some (.int x2), some (.int x3), some (.int x4)]) (st2 := [.int x3]) (μ2 := (hDT G)) rfl trivial ?_
      cases h
      exact js_iret hM.1 hp hM.2.2.2.2.2.2.2.1 (by rw [hM.2.2.2.2.2.1]; exact Nat.le_of_ble_eq_true rfl) (by rw [hM.2.2.2.2.2.2.1]; exact Nat.le_of_ble_eq_true rfl) (jat hM.2.1 25 rfl) hq
    · have h := (if_neg hc16).symm.trans h
      refine JW.r hM 7 2 (pc2 := 13) (L2 := [some (.ref 0), some (.ref 1), some (.int x2), some (.int x3), some (.int x4)]) (st2 := [.int (3 : Int32), .ref 0]) (μ2 := (hDT G)) rfl trivial ?_
      obtain ⟨v2, hv1, h⟩ := jbd h
      refine JW.cV (v := some (.int v2.1)) hM (m_X0_draw (jVX X) hM.1.2.2.2.2.2.2.2.2.2.1 N (jvw G 0) (3 : Int32) v2 hv1) (sb_DT_Dr_0 G) (bk_DT_Dr_0 G v2.2) rfl rfl rfl kc_X0_14 rfl rfl rfl rfl rfl (jat hM.2.1 9 rfl) (st := []) rfl ?_
      show JW X 0 0 16 [some (.ref 0), some (.ref 1), some (.int x2), some (.int x3), some (.int x4)] [.int v2.1] (hDT (jpt G 0 1 v2.2))
      obtain ⟨G3, e4, h⟩ := jlE h
      rw [e4]
      refine JW.r hM 10 1 (pc2 := 17) (L2 := [some (.ref 0), some (.ref 1), some (.int x2), some (.int x3), some (.int x4)]) (st2 := [.int (2 : Int32), .int v2.1]) (μ2 := (hDT G3)) rfl trivial ?_
      refine js_icne (t := 31) hM.1 (jat hM.2.1 11 rfl) rfl (fun hc15 => ?_) (fun hc15 => ?_)
      · have h := (if_neg hc15).symm.trans h
        refine JW.r hM 17 2 (pc2 := 33) (L2 := [some (.ref 0), some (.ref 1), some (.int x2), some (.int x3), some (.int x4)]) (st2 := [.ref 1, .ref 0]) (μ2 := (hDT G3)) rfl trivial ?_
        obtain ⟨v6, hv5, h⟩ := jbd h
        refine JW.cV (v := some (.int v6.1)) hM (m_X0_deals (jVX X) hM.1.2.2.2.2.2.2.2.2.2.1 N G3 v6 hv5) (sb_DT_DT_0_1 G3) (bk_DT_DT_0_1 G3 v6.2) rfl rfl rfl kc_X0_22 rfl rfl rfl rfl rfl (jat hM.2.1 19 rfl) (st := []) rfl ?_
        show JW X 0 0 36 [some (.ref 0), some (.ref 1), some (.int x2), some (.int x3), some (.int x4)] [.int v6.1] (hDT v6.2)
        obtain ⟨G7, e8, h⟩ := jlE h
        rw [e8]
        refine js_ifeq (t := 42) hM.1 (jat hM.2.1 20 rfl) rfl (fun hc9 => ?_) (fun hc9 => ?_)
        · have h := (if_pos hc9).symm.trans h
          exact t_X0_spend_b42 hM hp N (p_X0_spend_b5 N n) ih5 G7 x2 x3 x4 h hq
        · have h := (if_neg hc9).symm.trans h
          exact t_X0_spend_b39 hM hp N (p_X0_spend_b5 N n) ih5 G7 x2 x3 x4 h hq
      · have h := (if_pos hc15).symm.trans h
        refine JW.r hM 12 2 (pc2 := 22) (L2 := [some (.ref 0), some (.ref 1), some (.int x2), some (.int x3), some (.int x4)]) (st2 := [.ref 1, .ref 0]) (μ2 := (hDT G3)) rfl trivial ?_
        obtain ⟨v11, hv10, h⟩ := jbd h
        refine JW.cV (v := some (.int v11.1)) hM (m_X0_undoes (jVX X) hM.1.2.2.2.2.2.2.2.2.2.1 N G3 v11 hv10) (sb_DT_DT_0_1 G3) (bk_DT_DT_0_1 G3 v11.2) rfl rfl rfl kc_X0_18 rfl rfl rfl rfl rfl (jat hM.2.1 14 rfl) (st := []) rfl ?_
        show JW X 0 0 25 [some (.ref 0), some (.ref 1), some (.int x2), some (.int x3), some (.int x4)] [.int v11.1] (hDT v11.2)
        obtain ⟨G12, e13, h⟩ := jlE h
        rw [e13]
        refine js_ifeq (t := 42) hM.1 (jat hM.2.1 15 rfl) rfl (fun hc14 => ?_) (fun hc14 => ?_)
        · have h := (if_pos hc14).symm.trans h
          exact t_X0_spend_b42 hM hp N (p_X0_spend_b5 N n) ih5 G12 x2 x3 x4 h hq
        · have h := (if_neg hc14).symm.trans h
          refine JW.r hM 16 1 (pc2 := 39) (L2 := [some (.ref 0), some (.ref 1), some (.int x2), some (.int x3), some (.int x4)]) (st2 := []) (μ2 := (hDT G12)) rfl trivial ?_
          exact t_X0_spend_b39 hM hp N (p_X0_spend_b5 N n) ih5 G12 x2 x3 x4 h hq
set_option maxHeartbeats 4000000 in
set_option maxRecDepth 100000 in
theorem t_X0_spend {X : jX} {po : Option Value → jH → Prop} {px : String → jH → Prop} {sf : Bool} {B9 : Nat} (hM : jMX X kX0_spend RX0 tbX0 5 ⟨5, 0, 0, 117⟩ (some .int) 11) (hp : jPost X sf B9 po px) (N : Nat) (G : Nat → Nat → Int32) (p0 : Int32) {res : Int32 × (Nat → Nat → Int32)} (h : p_X0_spend N G p0 = some res) (hq : po (some (.int res.1)) (hDT res.2)) : JW X 0 0 0 [some (.ref 0), some (.ref 1), some (.int p0), none, none] [] (hDT G) := by
  unfold p_X0_spend at h
  refine JW.r hM 0 4 (pc2 := 5) (L2 := [some (.ref 0), some (.ref 1), some (.int p0), some (.int (0 : Int32)), some (.int (0 : Int32))]) (st2 := []) (μ2 := (hDT G)) rfl trivial ?_
  exact t_X0_spend_b5 hM hp N N G p0 (0 : Int32) (0 : Int32) h hq
theorem m_X0_spend (V : jV) (hV : V.1.stackTraces = false) (N : Nat) (G : Nat → Nat → Int32) (p0 : Int32) (v : Int32 × (Nat → Nat → Int32)) (h : p_X0_spend N G p0 = some v) : jMet V yX0_spend (jws yX0_spend cX0_spend 5 (some .int)) ⟨5, 0, 0, 117⟩ true 1 [.ref 0, .ref 1, .int p0] (hDT G) (fun o ν => o = some (.int v.1) ∧ ν = (hDT v.2)) (fun _ _ => False) := by
  refine jmk (tb := tbX0) (C := kX0_spend) hV rfl (by decide) tbX0_ok rfl kX0_spend_ok rfl ?_
  intro X hM _ hp _
  exact t_X0_spend hM hp N G p0 h ⟨rfl, rfl⟩

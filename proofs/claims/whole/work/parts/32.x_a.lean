def p_X5_feed (N : Nat) (G : Nat → Nat → Int32) (J : Nat → Nat → Int64) (p0 : Int32) (p1 : Int32) (p2 : Int32) (p3 : Int32) (p4 : Int32) : Option (Int32 × (Nat → Nat → Int32)) :=
  if ((G 22 0) + (20 : Int32)) ≤ (900 : Int32) then ((p_X2_add N (jvw G 22) p0).bind (fun v2 => jlt (jpt G 22 2 v2) fun G3 => (p_X2_add N (jvw G3 22) p1).bind (fun v6 => jlt (jpt G3 22 2 v6) fun G7 => (p_X2_add N (jvw G7 22) p2).bind (fun v10 => jlt (jpt G7 22 2 v10) fun G11 => (p_X2_add N (jvw G11 22) p3).bind (fun v14 => jlt (jpt G11 22 2 v14) fun G15 => (p_X2_add N (jvw G15 22) p4).bind (fun v18 => jlt (jpt G15 22 2 v18) fun G19 => some ((G19 22 0), G19))))))) else (some ((-1 : Int32), G))
set_option maxHeartbeats 4000000 in
set_option maxRecDepth 100000 in
theorem t_X5_feed {X : jX} {po : Option Value → jH → Prop} {px : String → jH → Prop} {sf : Bool} {B9 : Nat} (hM : jMX X kX5_feed RX5 tbX5 6 ⟨1, 0, 0, 22⟩ (some .int) 71) (hp : jPost X sf B9 po px) (N : Nat) (G : Nat → Nat → Int32) (J : Nat → Nat → Int64) (p0 : Int32) (p1 : Int32) (p2 : Int32) (p3 : Int32) (p4 : Int32) {res : Int32 × (Nat → Nat → Int32)} (h : p_X5_feed N G J p0 p1 p2 p3 p4 = some res) (hq : po (some (.int res.1)) (hX res.2 J)) : JW X 0 0 0 [some (.ref 0), some (.int p0), some (.int p1), some (.int p2), some (.int p3), some (.int p4)] [] (hX G J) := by
  unfold p_X5_feed at h
  refine JW.r hM 0 6 (pc2 := 13) (L2 := [some (.ref 0), some (.int p0), some (.int p1), some (.int p2), some (.int p3), some (.int p4)]) (st2 := [.int (900 : Int32), .int ((G 22 0) + (20 : Int32))]) (μ2 := (hX G J)) rfl trivial ?_
  refine js_icle (t := 18) hM.1 (jat hM.2.1 6 rfl) rfl (fun hc21 => ?_) (fun hc21 => ?_)
  · have h := (if_pos hc21).symm.trans h
    refine JW.r hM 9 3 (pc2 := 23) (L2 := [some (.ref 0), some (.int p0), some (.int p1), some (.int p2), some (.int p3), some (.int p4)]) (st2 := [.int p0, .ref 22]) (μ2 := (hX G J)) rfl trivial ?_
    obtain ⟨v2, hv1, h⟩ := jbd h
    refine JW.cV (v := none) hM (m_X2_add (jVX X) hM.1.2.2.2.2.2.2.2.2.2.1 N (jvw G 22) p0 v2 hv1) (sb_X_Rd_22 G J) (bk_X_Rd_22 G J v2) rfl rfl rfl kc_X5_52 rfl rfl rfl rfl rfl (jat hM.2.1 12 rfl) (st := []) rfl ?_
    show JW X 0 0 26 [some (.ref 0), some (.int p0), some (.int p1), some (.int p2), some (.int p3), some (.int p4)] [] (hX (jpt G 22 2 v2) J)
    obtain ⟨G3, e4, h⟩ := jlE h
    rw [e4]
    refine JW.r hM 13 3 (pc2 := 31) (L2 := [some (.ref 0), some (.int p0), some (.int p1), some (.int p2), some (.int p3), some (.int p4)]) (st2 := [.int p1, .ref 22]) (μ2 := (hX G3 J)) rfl trivial ?_
    obtain ⟨v6, hv5, h⟩ := jbd h
    refine JW.cV (v := none) hM (m_X2_add (jVX X) hM.1.2.2.2.2.2.2.2.2.2.1 N (jvw G3 22) p1 v6 hv5) (sb_X_Rd_22 G3 J) (bk_X_Rd_22 G3 J v6) rfl rfl rfl kc_X5_52 rfl rfl rfl rfl rfl (jat hM.2.1 16 rfl) (st := []) rfl ?_
    show JW X 0 0 34 [some (.ref 0), some (.int p0), some (.int p1), some (.int p2), some (.int p3), some (.int p4)] [] (hX (jpt G3 22 2 v6) J)
    obtain ⟨G7, e8, h⟩ := jlE h
    rw [e8]
    refine JW.r hM 17 3 (pc2 := 39) (L2 := [some (.ref 0), some (.int p0), some (.int p1), some (.int p2), some (.int p3), some (.int p4)]) (st2 := [.int p2, .ref 22]) (μ2 := (hX G7 J)) rfl trivial ?_
    obtain ⟨v10, hv9, h⟩ := jbd h
    refine JW.cV (v := none) hM (m_X2_add (jVX X) hM.1.2.2.2.2.2.2.2.2.2.1 N (jvw G7 22) p2 v10 hv9) (sb_X_Rd_22 G7 J) (bk_X_Rd_22 G7 J v10) rfl rfl rfl kc_X5_52 rfl rfl rfl rfl rfl (jat hM.2.1 20 rfl) (st := []) rfl ?_
    show JW X 0 0 42 [some (.ref 0), some (.int p0), some (.int p1), some (.int p2), some (.int p3), some (.int p4)] [] (hX (jpt G7 22 2 v10) J)
    obtain ⟨G11, e12, h⟩ := jlE h
    rw [e12]
    refine JW.r hM 21 3 (pc2 := 48) (L2 := [some (.ref 0), some (.int p0), some (.int p1), some (.int p2), some (.int p3), some (.int p4)]) (st2 := [.int p3, .ref 22]) (μ2 := (hX G11 J)) rfl trivial ?_
    obtain ⟨v14, hv13, h⟩ := jbd h
    refine JW.cV (v := none) hM (m_X2_add (jVX X) hM.1.2.2.2.2.2.2.2.2.2.1 N (jvw G11 22) p3 v14 hv13) (sb_X_Rd_22 G11 J) (bk_X_Rd_22 G11 J v14) rfl rfl rfl kc_X5_52 rfl rfl rfl rfl rfl (jat hM.2.1 24 rfl) (st := []) rfl ?_
    show JW X 0 0 51 [some (.ref 0), some (.int p0), some (.int p1), some (.int p2), some (.int p3), some (.int p4)] [] (hX (jpt G11 22 2 v14) J)
    obtain ⟨G15, e16, h⟩ := jlE h
    rw [e16]
    refine JW.r hM 25 3 (pc2 := 57) (L2 := [some (.ref 0), some (.int p0), some (.int p1), some (.int p2), some (.int p3), some (.int p4)]) (st2 := [.int p4, .ref 22]) (μ2 := (hX G15 J)) rfl trivial ?_
    obtain ⟨v18, hv17, h⟩ := jbd h
    refine JW.cV (v := none) hM (m_X2_add (jVX X) hM.1.2.2.2.2.2.2.2.2.2.1 N (jvw G15 22) p4 v18 hv17) (sb_X_Rd_22 G15 J) (bk_X_Rd_22 G15 J v18) rfl rfl rfl kc_X5_52 rfl rfl rfl rfl rfl (jat hM.2.1 28 rfl) (st := []) rfl ?_
    show JW X 0 0 60 [some (.ref 0), some (.int p0), some (.int p1), some (.int p2), some (.int p3), some (.int p4)] [] (hX (jpt G15 22 2 v18) J)
    obtain ⟨G19, e20, h⟩ := jlE h
    rw [e20]
    refine JW.r hM 29 3 (pc2 := 67) (L2 := [some (.ref 0), some (.int p0), some (.int p1), some (.int p2), some (.int p3), some (.int p4)]) (st2 := [.int (G19 22 0)]) (μ2 := (hX G19 J)) rfl trivial ?_
    obtain rfl := Option.some.inj h
    exact js_iret hM.1 hp hM.2.2.2.2.2.2.2.1 (by rw [hM.2.2.2.2.2.1]; exact Nat.le_of_ble_eq_true rfl) (by rw [hM.2.2.2.2.2.2.1]; exact Nat.le_of_ble_eq_true rfl) (jat hM.2.1 32 rfl) hq
  · have h := (if_neg hc21).symm.trans h
    refine JW.r hM 7 1 (pc2 := 17) (L2 := [some (.ref 0), some (.int p0), some (.int p1), some (.int p2), some (.int p3), some (.int p4)]) (st2 := [.int (-1 : Int32)]) (μ2 := (hX G J)) rfl trivial ?_
    obtain rfl := Option.some.inj h
    exact js_iret hM.1 hp hM.2.2.2.2.2.2.2.1 (by rw [hM.2.2.2.2.2.1]; exact Nat.le_of_ble_eq_true rfl) (by rw [hM.2.2.2.2.2.2.1]; exact Nat.le_of_ble_eq_true rfl) (jat hM.2.1 8 rfl) hq
theorem m_X5_feed (V : jV) (hV : V.1.stackTraces = false) (N : Nat) (G : Nat → Nat → Int32) (J : Nat → Nat → Int64) (p0 : Int32) (p1 : Int32) (p2 : Int32) (p3 : Int32) (p4 : Int32) (v : Int32 × (Nat → Nat → Int32)) (h : p_X5_feed N G J p0 p1 p2 p3 p4 = some v) : jMet V yX5_feed (jws yX5_feed cX5_feed 6 (some .int)) ⟨1, 0, 0, 22⟩ true 1 [.ref 0, .int p0, .int p1, .int p2, .int p3, .int p4] (hX G J) (fun o ν => o = some (.int v.1) ∧ ν = (hX v.2 J)) (fun _ _ => False) := by
  refine jmk (tb := tbX5) (C := kX5_feed) hV rfl (by decide) tbX5_ok rfl kX5_feed_ok rfl ?_
  intro X hM _ hp _
  exact t_X5_feed hM hp N G J p0 p1 p2 p3 p4 h ⟨rfl, rfl⟩
def p_X5_town_b15 (N : Nat) (J : Nat → Nat → Int64) (G : Nat → Nat → Int32) : Option (Nat ⊕ (Int32 × (Nat → Nat → Int32))) :=
  some (.inl 3)
def p_X5_town (N : Nat) (G : Nat → Nat → Int32) (J : Nat → Nat → Int64) (p0 : Int32) : Option (Nat ⊕ (Int32 × (Nat → Nat → Int32))) :=
  if p0 < 0 then (p_X5_town_b15 N J G) else (if p0 ≤ (G 22 0) then ((p_X2_read N (jv2 G 22 2 10) p0).bind (fun v2 => jlt (jp2 G 22 2 10 9 v2.2) fun G3 => jlt (jup G3 22 0 (0 : Int32)) fun G5 => if v2.1 = 0 then (some (.inr (((-10 : Int32) - (G5 22 1)), G5))) else ((p_X3_copyFrom N (jv2 G5 1 9 10)).bind (fun v8 => jlt (jp2 G5 1 9 10 9 v8) fun G9 => some (.inr ((G9 1 0), G9)))))) else (p_X5_town_b15 N J G))
set_option maxHeartbeats 4000000 in
set_option maxRecDepth 100000 in
theorem t_X5_town_b15 {X : jX} {po : Option Value → jH → Prop} {px : String → jH → Prop} {sf : Bool} {B9 : Nat} (hM : jMX X kX5_town RX5 tbX5 3 ⟨7, 1, 6, 174⟩ (some .int) 71) (hp : jPost X sf B9 po px) (N : Nat) (J : Nat → Nat → Int64) {res : Nat ⊕ (Int32 × (Nat → Nat → Int32))} (G : Nat → Nat → Int32) (h : p_X5_town_b15 N J G = some res) (hq : ∀ w, res = Sum.inr w → po (some (.int w.1)) (hX w.2 J)) (hx : ∀ c, res = Sum.inl c → px (jEn c) (hX G J)) : JW X 0 0 15 [none, none, none] [] (hX G J) := by
  unfold p_X5_town_b15 at h
  obtain rfl := Option.some.inj h
  exact js_throw (ik := 56) (ic := 58) (names := ["java/lang/RuntimeException", "java/lang/Exception"]) hM.1 hp hM.2.2.2.2.2.2.2.2.2 (by decide) (by decide) (by rw [hM.2.2.1]; exact th_X5_56_58) (jat hM.2.1 7 rfl) (jat hM.2.1 8 rfl) (jat hM.2.1 9 rfl) (jat hM.2.1 10 rfl) (by rw [hM.2.2.2.2.1]; exact Nat.le_of_ble_eq_true rfl) (by rw [hM.2.2.2.2.1]; exact Nat.le_of_ble_eq_true rfl) (by rw [hM.2.2.2.2.2.1]; exact Nat.le_of_ble_eq_true rfl) (by rw [hM.2.2.2.2.2.2.1]; exact Nat.le_of_ble_eq_true rfl) (hx _ rfl)
set_option maxHeartbeats 4000000 in
set_option maxRecDepth 100000 in
theorem t_X5_town {X : jX} {po : Option Value → jH → Prop} {px : String → jH → Prop} {sf : Bool} {B9 : Nat} (hM : jMX X kX5_town RX5 tbX5 3 ⟨7, 1, 6, 174⟩ (some .int) 71) (hp : jPost X sf B9 po px) (N : Nat) (G : Nat → Nat → Int32) (J : Nat → Nat → Int64) (p0 : Int32) {res : Nat ⊕ (Int32 × (Nat → Nat → Int32))} (h : p_X5_town N G J p0 = some res) (hq : ∀ w, res = Sum.inr w → po (some (.int w.1)) (hX w.2 J)) (hx : ∀ c, res = Sum.inl c → px (jEn c) (hX G J)) : JW X 0 0 0 [some (.ref 0), some (.int p0), none] [] (hX G J) := by
  unfold p_X5_town at h
  refine JW.r hM 0 1 (pc2 := 1) (L2 := [some (.ref 0), some (.int p0), none]) (st2 := [.int p0]) (μ2 := (hX G J)) rfl trivial ?_
  refine js_iflt (t := 15) hM.1 (jat hM.2.1 1 rfl) rfl (fun hc13 => ?_) (fun hc13 => ?_)
  · have h := (if_pos hc13).symm.trans h
    exact JW.mask [false, false, false] (t_X5_town_b15 hM hp N J G h hq hx)
  · have h := (if_neg hc13).symm.trans h
    refine JW.r hM 2 4 (pc2 := 12) (L2 := [some (.ref 0), some (.int p0), none]) (st2 := [.int (G 22 0), .int p0]) (μ2 := (hX G J)) rfl trivial ?_
    refine js_icle (t := 23) hM.1 (jat hM.2.1 6 rfl) rfl (fun hc12 => ?_) (fun hc12 => ?_)
    · have h := (if_pos hc12).symm.trans h
      refine JW.r hM 11 5 (pc2 := 32) (L2 := [some (.ref 0), some (.int p0), none]) (st2 := [.ref 10, .int p0, .ref 22]) (μ2 := (hX G J)) rfl trivial ?_
      obtain ⟨v2, hv1, h⟩ := jbd h
      refine JW.cV (v := some (.int v2.1)) hM (m_X2_read (jVX X) hM.1.2.2.2.2.2.2.2.2.2.1 N (jv2 G 22 2 10) p0 v2 hv1) (sb_X_RT_22_10 G J) (bk_X_RT_22_10 G J v2.2) rfl rfl rfl kc_X5_59 rfl rfl rfl rfl rfl (jat hM.2.1 16 rfl) (st := []) rfl ?_
      show JW X 0 0 35 [some (.ref 0), some (.int p0), none] [.int v2.1] (hX (jp2 G 22 2 10 9 v2.2) J)
      obtain ⟨G3, e4, h⟩ := jlE h
      rw [e4]
      obtain ⟨G5, e6, h⟩ := jlE h
      refine JW.r hM 17 5 (pc2 := 44) (L2 := [some (.ref 0), some (.int p0), some (.int v2.1)]) (st2 := []) (μ2 := (hX (jup G3 22 0 (0 : Int32)) J)) rfl trivial ?_
      rw [e6]
      refine JW.r hM 22 1 (pc2 := 45) (L2 := [some (.ref 0), some (.int p0), some (.int v2.1)]) (st2 := [.int v2.1]) (μ2 := (hX G5 J)) rfl trivial ?_
      refine js_ifne (t := 59) hM.1 (jat hM.2.1 23 rfl) rfl (fun hc11 => ?_) (fun hc11 => ?_)
      · have h := (if_neg hc11).symm.trans h
        refine JW.r hM 30 4 (pc2 := 67) (L2 := [some (.ref 0), some (.int p0), some (.int v2.1)]) (st2 := [.ref 10, .ref 1]) (μ2 := (hX G5 J)) rfl trivial ?_
        obtain ⟨v8, hv7, h⟩ := jbd h
        refine JW.cV (v := none) hM (m_X3_copyFrom (jVX X) hM.1.2.2.2.2.2.2.2.2.2.1 N (jv2 G5 1 9 10) v8 hv7) (sb_X_T2_1_10 G5 J) (bk_X_T2_1_10 G5 J v8) rfl rfl rfl kc_X5_66 rfl rfl rfl rfl rfl (jat hM.2.1 34 rfl) (st := []) rfl ?_
        show JW X 0 0 70 [some (.ref 0), some (.int p0), some (.int v2.1)] [] (hX (jp2 G5 1 9 10 9 v8) J)
        obtain ⟨G9, e10, h⟩ := jlE h
        rw [e10]
        refine JW.r hM 35 3 (pc2 := 77) (L2 := [some (.ref 0), some (.int p0), some (.int v2.1)]) (st2 := [.int (G9 1 0)]) (μ2 := (hX G9 J)) rfl trivial ?_
        obtain rfl := Option.some.inj h
        exact js_iret hM.1 hp hM.2.2.2.2.2.2.2.1 (by rw [hM.2.2.2.2.2.1]; exact Nat.le_of_ble_eq_true rfl) (by rw [hM.2.2.2.2.2.2.1]; exact Nat.le_of_ble_eq_true rfl) (jat hM.2.1 38 rfl) (hq ((G9 1 0), G9) rfl)
      · have h := (if_pos hc11).symm.trans h
        refine JW.r hM 24 5 (pc2 := 58) (L2 := [some (.ref 0), some (.int p0), some (.int v2.1)]) (st2 := [.int ((-10 : Int32) - (G5 22 1))]) (μ2 := (hX G5 J)) rfl trivial ?_
        obtain rfl := Option.some.inj h
        exact js_iret hM.1 hp hM.2.2.2.2.2.2.2.1 (by rw [hM.2.2.2.2.2.1]; exact Nat.le_of_ble_eq_true rfl) (by rw [hM.2.2.2.2.2.2.1]; exact Nat.le_of_ble_eq_true rfl) (jat hM.2.1 29 rfl) (hq (((-10 : Int32) - (G5 22 1)), G5) rfl)
    · have h := (if_neg hc12).symm.trans h
      exact JW.mask [false, false, false] (t_X5_town_b15 hM hp N J G h hq hx)
theorem m_X5_town_r (V : jV) (hV : V.1.stackTraces = false) (N : Nat) (G : Nat → Nat → Int32) (J : Nat → Nat → Int64) (p0 : Int32) (v : (Int32 × (Nat → Nat → Int32))) (h : p_X5_town N G J p0 = some (.inr v)) : jMet V yX5_town (jws yX5_town cX5_town 3 (some .int)) ⟨7, 1, 6, 174⟩ true 1 [.ref 0, .int p0] (hX G J) (fun o ν => o = some (.int v.1) ∧ ν = (hX v.2 J)) (fun _ _ => False) := by
  refine jmk (tb := tbX5) (C := kX5_town) hV rfl (by decide) tbX5_ok rfl kX5_town_ok rfl ?_
  intro X hM _ hp _
  exact t_X5_town hM hp N G J p0 h (fun w hw => by cases hw; exact ⟨rfl, rfl⟩) (fun c hc => by cases hc)
theorem m_X5_town_x (V : jV) (hV : V.1.stackTraces = false) (N : Nat) (G : Nat → Nat → Int32) (J : Nat → Nat → Int64) (p0 : Int32) (c : Nat) (h : p_X5_town N G J p0 = some (.inl c)) : jMet V yX5_town (jws yX5_town cX5_town 3 (some .int)) ⟨7, 1, 6, 174⟩ true 1 [.ref 0, .int p0] (hX G J) (fun _ _ => False) (fun E ν => E = jEn c ∧ ν = (hX G J)) := by
  refine jmk (tb := tbX5) (C := kX5_town) hV rfl (by decide) tbX5_ok rfl kX5_town_ok rfl ?_
  intro X hM _ hp _
  exact t_X5_town hM hp N G J p0 h (fun w hw => by cases hw) (fun c hc => by cases hc; exact ⟨rfl, rfl⟩)
def p_X5_fault (N : Nat) (G : Nat → Nat → Int32) (J : Nat → Nat → Int64) (p0 : Int32) : Option (Int32) :=
  if p0 = 0 then (some (G 22 1)) else (if p0 = (1 : Int32) then (some (G 22 2)) else (some (-1 : Int32)))
set_option maxHeartbeats 4000000 in
set_option maxRecDepth 100000 in
theorem t_X5_fault {X : jX} {po : Option Value → jH → Prop} {px : String → jH → Prop} {sf : Bool} {B9 : Nat} (hM : jMX X kX5_fault RX5 tbX5 2 ⟨0, 0, 0, 0⟩ (some .int) 71) (hp : jPost X sf B9 po px) (N : Nat) (G : Nat → Nat → Int32) (J : Nat → Nat → Int64) (p0 : Int32) {res : Int32} (h : p_X5_fault N G J p0 = some res) (hq : po (some (.int res)) (hX G J)) : JW X 0 0 0 [some (.ref 0), some (.int p0)] [] (hX G J) := by
  unfold p_X5_fault at h
  refine JW.r hM 0 1 (pc2 := 1) (L2 := [some (.ref 0), some (.int p0)]) (st2 := [.int p0]) (μ2 := (hX G J)) rfl trivial ?_
  refine js_ifne (t := 12) hM.1 (jat hM.2.1 1 rfl) rfl (fun hc2 => ?_) (fun hc2 => ?_)
  · have h := (if_neg hc2).symm.trans h
    refine JW.r hM 6 2 (pc2 := 14) (L2 := [some (.ref 0), some (.int p0)]) (st2 := [.int (1 : Int32), .int p0]) (μ2 := (hX G J)) rfl trivial ?_
    refine js_icne (t := 27) hM.1 (jat hM.2.1 8 rfl) rfl (fun hc1 => ?_) (fun hc1 => ?_)
    · have h := (if_neg hc1).symm.trans h
      refine JW.r hM 13 1 (pc2 := 28) (L2 := [some (.ref 0), some (.int p0)]) (st2 := [.int (-1 : Int32)]) (μ2 := (hX G J)) rfl trivial ?_
      obtain rfl := Option.some.inj h
      exact js_iret hM.1 hp hM.2.2.2.2.2.2.2.1 (by rw [hM.2.2.2.2.2.1]; exact Nat.le_of_ble_eq_true rfl) (by rw [hM.2.2.2.2.2.2.1]; exact Nat.le_of_ble_eq_true rfl) (jat hM.2.1 14 rfl) hq
    · have h := (if_pos hc1).symm.trans h
      refine JW.r hM 9 4 (pc2 := 28) (L2 := [some (.ref 0), some (.int p0)]) (st2 := [.int (G 22 2)]) (μ2 := (hX G J)) rfl trivial ?_
      obtain rfl := Option.some.inj h
      exact js_iret hM.1 hp hM.2.2.2.2.2.2.2.1 (by rw [hM.2.2.2.2.2.1]; exact Nat.le_of_ble_eq_true rfl) (by rw [hM.2.2.2.2.2.2.1]; exact Nat.le_of_ble_eq_true rfl) (jat hM.2.1 14 rfl) hq
  · have h := (if_pos hc2).symm.trans h
    refine JW.r hM 2 3 (pc2 := 11) (L2 := [some (.ref 0), some (.int p0)]) (st2 := [.int (G 22 1)]) (μ2 := (hX G J)) rfl trivial ?_
    obtain rfl := Option.some.inj h
    exact js_iret hM.1 hp hM.2.2.2.2.2.2.2.1 (by rw [hM.2.2.2.2.2.1]; exact Nat.le_of_ble_eq_true rfl) (by rw [hM.2.2.2.2.2.2.1]; exact Nat.le_of_ble_eq_true rfl) (jat hM.2.1 5 rfl) hq
theorem m_X5_fault (V : jV) (hV : V.1.stackTraces = false) (N : Nat) (G : Nat → Nat → Int32) (J : Nat → Nat → Int64) (p0 : Int32) (v : Int32) (h : p_X5_fault N G J p0 = some v) : jMet V yX5_fault (jws yX5_fault cX5_fault 2 (some .int)) ⟨0, 0, 0, 0⟩ true 1 [.ref 0, .int p0] (hX G J) (fun o ν => o = some (.int v) ∧ ν = (hX G J)) (fun _ _ => False) := by
  refine jmk (tb := tbX5) (C := kX5_fault) hV rfl (by decide) tbX5_ok rfl kX5_fault_ok rfl ?_
  intro X hM _ hp _
  exact t_X5_fault hM hp N G J p0 h ⟨rfl, rfl⟩
def p_X5_needPerson (N : Nat) (G : Nat → Nat → Int32) (J : Nat → Nat → Int64) (p0 : Int32) : Option (Nat ⊕ (Unit)) :=
  (p_X3_hasPerson N (jvw G 1) p0).bind (fun v2 => if v2 = 0 then (some (.inl 1)) else (some (.inr ())))
set_option maxHeartbeats 4000000 in
set_option maxRecDepth 100000 in
theorem t_X5_needPerson {X : jX} {po : Option Value → jH → Prop} {px : String → jH → Prop} {sf : Bool} {B9 : Nat} (hM : jMX X kX5_needPerson RX5 tbX5 2 ⟨6, 1, 6, 89⟩ none 71) (hp : jPost X sf B9 po px) (N : Nat) (G : Nat → Nat → Int32) (J : Nat → Nat → Int64) (p0 : Int32) {res : Nat ⊕ (Unit)} (h : p_X5_needPerson N G J p0 = some res) (hq : ∀ w, res = Sum.inr w → po none (hX G J)) (hx : ∀ c, res = Sum.inl c → px (jEn c) (hX G J)) : JW X 0 0 0 [some (.ref 0), some (.int p0)] [] (hX G J) := by
  unfold p_X5_needPerson at h
  refine JW.r hM 0 3 (pc2 := 5) (L2 := [some (.ref 0), some (.int p0)]) (st2 := [.int p0, .ref 1]) (μ2 := (hX G J)) rfl trivial ?_
  obtain ⟨v2, hv1, h⟩ := jbd h
  refine JW.cV (v := some (.int v2)) hM (m_X3_hasPerson (jVX X) hM.1.2.2.2.2.2.2.2.2.2.1 N (jvw G 1) p0 v2 hv1) (sb_X_Town_1 G J) (bi_X_Town_1 G J) rfl rfl rfl kc_X5_268 rfl rfl rfl rfl rfl (jat hM.2.1 3 rfl) (st := []) rfl ?_
  show JW X 0 0 8 [some (.ref 0), some (.int p0)] [.int v2] (hX G J)
  refine js_ifne (t := 19) hM.1 (jat hM.2.1 4 rfl) rfl (fun hc3 => ?_) (fun hc3 => ?_)
  · have h := (if_neg hc3).symm.trans h
    obtain rfl := Option.some.inj h
    exact js_vret hM.1 hp hM.2.2.2.2.2.2.2.1 (by rw [hM.2.2.2.2.2.1]; exact Nat.le_of_ble_eq_true rfl) (by rw [hM.2.2.2.2.2.2.1]; exact Nat.le_of_ble_eq_true rfl) (jat hM.2.1 9 rfl) (hq () rfl)
  · have h := (if_pos hc3).symm.trans h
    obtain rfl := Option.some.inj h
    exact js_throw (ik := 300) (ic := 302) (names := ["java/lang/RuntimeException", "java/lang/Exception"]) hM.1 hp hM.2.2.2.2.2.2.2.2.2 (by decide) (by decide) (by rw [hM.2.2.1]; exact th_X5_300_302) (jat hM.2.1 5 rfl) (jat hM.2.1 6 rfl) (jat hM.2.1 7 rfl) (jat hM.2.1 8 rfl) (by rw [hM.2.2.2.2.1]; exact Nat.le_of_ble_eq_true rfl) (by rw [hM.2.2.2.2.1]; exact Nat.le_of_ble_eq_true rfl) (by rw [hM.2.2.2.2.2.1]; exact Nat.le_of_ble_eq_true rfl) (by rw [hM.2.2.2.2.2.2.1]; exact Nat.le_of_ble_eq_true rfl) (hx _ rfl)
theorem m_X5_needPerson_r (V : jV) (hV : V.1.stackTraces = false) (N : Nat) (G : Nat → Nat → Int32) (J : Nat → Nat → Int64) (p0 : Int32) (v : (Unit)) (h : p_X5_needPerson N G J p0 = some (.inr v)) : jMet V yX5_needPerson (jws yX5_needPerson cX5_needPerson 2 none) ⟨6, 1, 6, 89⟩ true 1 [.ref 0, .int p0] (hX G J) (fun o ν => o = none ∧ ν = (hX G J)) (fun _ _ => False) := by
  refine jmk (tb := tbX5) (C := kX5_needPerson) hV rfl (by decide) tbX5_ok rfl kX5_needPerson_ok rfl ?_
  intro X hM _ hp _
  exact t_X5_needPerson hM hp N G J p0 h (fun w hw => by cases hw; exact ⟨rfl, rfl⟩) (fun c hc => by cases hc)
theorem m_X5_needPerson_x (V : jV) (hV : V.1.stackTraces = false) (N : Nat) (G : Nat → Nat → Int32) (J : Nat → Nat → Int64) (p0 : Int32) (c : Nat) (h : p_X5_needPerson N G J p0 = some (.inl c)) : jMet V yX5_needPerson (jws yX5_needPerson cX5_needPerson 2 none) ⟨6, 1, 6, 89⟩ true 1 [.ref 0, .int p0] (hX G J) (fun _ _ => False) (fun E ν => E = jEn c ∧ ν = (hX G J)) := by
  refine jmk (tb := tbX5) (C := kX5_needPerson) hV rfl (by decide) tbX5_ok rfl kX5_needPerson_ok rfl ?_
  intro X hM _ hp _
  exact t_X5_needPerson hM hp N G J p0 h (fun w hw => by cases hw) (fun c hc => by cases hc; exact ⟨rfl, rfl⟩)
def p_X5_person (N : Nat) (G : Nat → Nat → Int32) (J : Nat → Nat → Int64) (p0 : Int32) (p1 : Int32) : Option (Nat ⊕ (Int32)) :=
  jbx (p_X5_needPerson N G J p0) (fun v2 => if p1.toInt = 0 then (if jin p0 6 = true then some (.inr (G 2 p0.toNatClampNeg)) else none) else (if p1.toInt = 1 then ((p_X3_wealth N (jvw G 1) p0).bind (fun v8 => some (.inr v8))) else (if p1.toInt = 2 then ((p_X3_held N (jvw G 1) p0).bind (fun v10 => some (.inr v10))) else (some (.inl 3)))))
set_option maxHeartbeats 4000000 in
set_option maxRecDepth 100000 in
theorem t_X5_person {X : jX} {po : Option Value → jH → Prop} {px : String → jH → Prop} {sf : Bool} {B9 : Nat} (hM : jMX X kX5_person RX5 tbX5 3 ⟨7, 2, 12, 110⟩ (some .int) 71) (hp : jPost X sf B9 po px) (N : Nat) (G : Nat → Nat → Int32) (J : Nat → Nat → Int64) (p0 : Int32) (p1 : Int32) {res : Nat ⊕ (Int32)} (h : p_X5_person N G J p0 p1 = some res) (hq : ∀ w, res = Sum.inr w → po (some (.int w)) (hX G J)) (hx : ∀ c, res = Sum.inl c → px (jEn c) (hX G J)) : JW X 0 0 0 [some (.ref 0), some (.int p0), some (.int p1)] [] (hX G J) := by
  unfold p_X5_person at h
  refine JW.r hM 0 2 (pc2 := 2) (L2 := [some (.ref 0), some (.int p0), some (.int p1)]) (st2 := [.int p0, .ref 0]) (μ2 := (hX G J)) rfl trivial ?_
  rcases jbxE h with h | h
  · obtain ⟨v2, hv1, h⟩ := h
    refine JW.cV (v := none) hM (m_X5_needPerson_r (jVX X) hM.1.2.2.2.2.2.2.2.2.2.1 N G J p0 v2 hv1) (sb_X_X_0 G J) (bi_X_X_0 G J) rfl rfl rfl kc_X5_76 rfl rfl rfl rfl rfl (jat hM.2.1 2 rfl) (st := []) rfl ?_
    show JW X 1 6 5 [some (.ref 0), some (.int p0), some (.int p1)] [] (hX G J)
    refine JW.r hM 3 1 (pc2 := 6) (L2 := [some (.ref 0), some (.int p0), some (.int p1)]) (st2 := [.int p1]) (μ2 := (hX G J)) rfl trivial ?_
    refine js_tsw (t0 := 60) hM.1 (jat hM.2.1 4 rfl) (by decide) rfl (by decide) ⟨fun hc3 t ht => ?_, fun hc3 => ⟨fun hc4 t ht => ?_, fun hc4 => ⟨fun hc5 t ht => ?_, fun hc5 => fun t ht => ?_⟩⟩⟩
    · have h := (if_pos hc3).symm.trans h
      obtain rfl : t = 32 := by omega
      obtain ⟨g6, h⟩ := jg h
      refine JW.r hM 5 5 (pc2 := 41) (L2 := [some (.ref 0), some (.int p0), some (.int p1)]) (st2 := [.int (G 2 p0.toNatClampNeg)]) (μ2 := (hX G J)) rfl ⟨g6, trivial⟩ ?_
      obtain rfl := Option.some.inj h
      exact js_iret hM.1 hp hM.2.2.2.2.2.2.2.1 (by rw [hM.2.2.2.2.2.1]; exact Nat.le_of_ble_eq_true rfl) (by rw [hM.2.2.2.2.2.2.1]; exact Nat.le_of_ble_eq_true rfl) (jat hM.2.1 10 rfl) (hq (G 2 p0.toNatClampNeg) rfl)
    · have h := (if_neg hc3).symm.trans h
      have h := (if_pos hc4).symm.trans h
      obtain rfl : t = 42 := by omega
      refine JW.r hM 11 3 (pc2 := 47) (L2 := [some (.ref 0), some (.int p0), some (.int p1)]) (st2 := [.int p0, .ref 1]) (μ2 := (hX G J)) rfl trivial ?_
      obtain ⟨v8, hv7, h⟩ := jbd h
      refine JW.cV (v := some (.int v8)) hM (m_X3_wealth (jVX X) hM.1.2.2.2.2.2.2.2.2.2.1 N (jvw G 1) p0 v8 hv7) (sb_X_Town_1 G J) (bi_X_Town_1 G J) rfl rfl rfl kc_X5_83 rfl rfl rfl rfl rfl (jat hM.2.1 14 rfl) (st := []) rfl ?_
      show JW X 1 6 50 [some (.ref 0), some (.int p0), some (.int p1)] [.int v8] (hX G J)
      obtain rfl := Option.some.inj h
      exact js_iret hM.1 hp hM.2.2.2.2.2.2.2.1 (by rw [hM.2.2.2.2.2.1]; exact Nat.le_of_ble_eq_true rfl) (by rw [hM.2.2.2.2.2.2.1]; exact Nat.le_of_ble_eq_true rfl) (jat hM.2.1 15 rfl) (hq v8 rfl)
    · have h := (if_neg hc3).symm.trans h
      have h := (if_neg hc4).symm.trans h
      have h := (if_pos hc5).symm.trans h
      obtain rfl : t = 51 := by omega
      refine JW.r hM 16 3 (pc2 := 56) (L2 := [some (.ref 0), some (.int p0), some (.int p1)]) (st2 := [.int p0, .ref 1]) (μ2 := (hX G J)) rfl trivial ?_
      obtain ⟨v10, hv9, h⟩ := jbd h
      refine JW.cV (v := some (.int v10)) hM (m_X3_held (jVX X) hM.1.2.2.2.2.2.2.2.2.2.1 N (jvw G 1) p0 v10 hv9) (sb_X_Town_1 G J) (bi_X_Town_1 G J) rfl rfl rfl kc_X5_87 rfl rfl rfl rfl rfl (jat hM.2.1 19 rfl) (st := []) rfl ?_
      show JW X 1 6 59 [some (.ref 0), some (.int p0), some (.int p1)] [.int v10] (hX G J)
      obtain rfl := Option.some.inj h
      exact js_iret hM.1 hp hM.2.2.2.2.2.2.2.1 (by rw [hM.2.2.2.2.2.1]; exact Nat.le_of_ble_eq_true rfl) (by rw [hM.2.2.2.2.2.2.1]; exact Nat.le_of_ble_eq_true rfl) (jat hM.2.1 20 rfl) (hq v10 rfl)
    · have h := (if_neg hc3).symm.trans h
      have h := (if_neg hc4).symm.trans h
      have h := (if_neg hc5).symm.trans h
      obtain rfl : t = 60 := by omega
      obtain rfl := Option.some.inj h
      exact js_throw (ik := 56) (ic := 58) (names := ["java/lang/RuntimeException", "java/lang/Exception"]) hM.1 hp hM.2.2.2.2.2.2.2.2.2 (by decide) (by decide) (by rw [hM.2.2.1]; exact th_X5_56_58) (jat hM.2.1 21 rfl) (jat hM.2.1 22 rfl) (jat hM.2.1 23 rfl) (jat hM.2.1 24 rfl) (by rw [hM.2.2.2.2.1]; exact Nat.le_of_ble_eq_true rfl) (by rw [hM.2.2.2.2.1]; exact Nat.le_of_ble_eq_true rfl) (by rw [hM.2.2.2.2.2.1]; exact Nat.le_of_ble_eq_true rfl) (by rw [hM.2.2.2.2.2.2.1]; exact Nat.le_of_ble_eq_true rfl) (hx _ rfl)
  · obtain ⟨c11, hv1, h⟩ := h
    subst h
    exact JW.xV hM hp (E := jEn c11) (m_X5_needPerson_x (jVX X) hM.1.2.2.2.2.2.2.2.2.2.1 N G J p0 c11 hv1) (sb_X_X_0 G J) (bi_X_X_0 G J) rfl rfl kc_X5_76 rfl rfl rfl rfl rfl (jat hM.2.1 2 rfl) (st := []) rfl (hx _ rfl)
theorem m_X5_person_r (V : jV) (hV : V.1.stackTraces = false) (N : Nat) (G : Nat → Nat → Int32) (J : Nat → Nat → Int64) (p0 : Int32) (p1 : Int32) (v : (Int32)) (h : p_X5_person N G J p0 p1 = some (.inr v)) : jMet V yX5_person (jws yX5_person cX5_person 3 (some .int)) ⟨7, 2, 12, 110⟩ true 1 [.ref 0, .int p0, .int p1] (hX G J) (fun o ν => o = some (.int v) ∧ ν = (hX G J)) (fun _ _ => False) := by
  refine jmk (tb := tbX5) (C := kX5_person) hV rfl (by decide) tbX5_ok rfl kX5_person_ok rfl ?_
  intro X hM _ hp _
  exact t_X5_person hM hp N G J p0 p1 h (fun w hw => by cases hw; exact ⟨rfl, rfl⟩) (fun c hc => by cases hc)
theorem m_X5_person_x (V : jV) (hV : V.1.stackTraces = false) (N : Nat) (G : Nat → Nat → Int32) (J : Nat → Nat → Int64) (p0 : Int32) (p1 : Int32) (c : Nat) (h : p_X5_person N G J p0 p1 = some (.inl c)) : jMet V yX5_person (jws yX5_person cX5_person 3 (some .int)) ⟨7, 2, 12, 110⟩ true 1 [.ref 0, .int p0, .int p1] (hX G J) (fun _ _ => False) (fun E ν => E = jEn c ∧ ν = (hX G J)) := by
  refine jmk (tb := tbX5) (C := kX5_person) hV rfl (by decide) tbX5_ok rfl kX5_person_ok rfl ?_
  intro X hM _ hp _
  exact t_X5_person hM hp N G J p0 p1 h (fun w hw => by cases hw) (fun c hc => by cases hc; exact ⟨rfl, rfl⟩)
def p_X5_needThing (N : Nat) (G : Nat → Nat → Int32) (J : Nat → Nat → Int64) (p0 : Int32) : Option (Nat ⊕ (Unit)) :=
  (p_X3_hasThing N (jvw G 1) p0).bind (fun v2 => if v2 = 0 then (some (.inl 1)) else (some (.inr ())))
set_option maxHeartbeats 4000000 in
set_option maxRecDepth 100000 in
theorem t_X5_needThing {X : jX} {po : Option Value → jH → Prop} {px : String → jH → Prop} {sf : Bool} {B9 : Nat} (hM : jMX X kX5_needThing RX5 tbX5 2 ⟨6, 1, 6, 89⟩ none 71) (hp : jPost X sf B9 po px) (N : Nat) (G : Nat → Nat → Int32) (J : Nat → Nat → Int64) (p0 : Int32) {res : Nat ⊕ (Unit)} (h : p_X5_needThing N G J p0 = some res) (hq : ∀ w, res = Sum.inr w → po none (hX G J)) (hx : ∀ c, res = Sum.inl c → px (jEn c) (hX G J)) : JW X 0 0 0 [some (.ref 0), some (.int p0)] [] (hX G J) := by
  unfold p_X5_needThing at h
  refine JW.r hM 0 3 (pc2 := 5) (L2 := [some (.ref 0), some (.int p0)]) (st2 := [.int p0, .ref 1]) (μ2 := (hX G J)) rfl trivial ?_
  obtain ⟨v2, hv1, h⟩ := jbd h
  refine JW.cV (v := some (.int v2)) hM (m_X3_hasThing (jVX X) hM.1.2.2.2.2.2.2.2.2.2.1 N (jvw G 1) p0 v2 hv1) (sb_X_Town_1 G J) (bi_X_Town_1 G J) rfl rfl rfl kc_X5_325 rfl rfl rfl rfl rfl (jat hM.2.1 3 rfl) (st := []) rfl ?_
  show JW X 0 0 8 [some (.ref 0), some (.int p0)] [.int v2] (hX G J)
  refine js_ifne (t := 19) hM.1 (jat hM.2.1 4 rfl) rfl (fun hc3 => ?_) (fun hc3 => ?_)
  · have h := (if_neg hc3).symm.trans h
    obtain rfl := Option.some.inj h
    exact js_vret hM.1 hp hM.2.2.2.2.2.2.2.1 (by rw [hM.2.2.2.2.2.1]; exact Nat.le_of_ble_eq_true rfl) (by rw [hM.2.2.2.2.2.2.1]; exact Nat.le_of_ble_eq_true rfl) (jat hM.2.1 9 rfl) (hq () rfl)
  · have h := (if_pos hc3).symm.trans h
    obtain rfl := Option.some.inj h
    exact js_throw (ik := 300) (ic := 302) (names := ["java/lang/RuntimeException", "java/lang/Exception"]) hM.1 hp hM.2.2.2.2.2.2.2.2.2 (by decide) (by decide) (by rw [hM.2.2.1]; exact th_X5_300_302) (jat hM.2.1 5 rfl) (jat hM.2.1 6 rfl) (jat hM.2.1 7 rfl) (jat hM.2.1 8 rfl) (by rw [hM.2.2.2.2.1]; exact Nat.le_of_ble_eq_true rfl) (by rw [hM.2.2.2.2.1]; exact Nat.le_of_ble_eq_true rfl) (by rw [hM.2.2.2.2.2.1]; exact Nat.le_of_ble_eq_true rfl) (by rw [hM.2.2.2.2.2.2.1]; exact Nat.le_of_ble_eq_true rfl) (hx _ rfl)
theorem m_X5_needThing_r (V : jV) (hV : V.1.stackTraces = false) (N : Nat) (G : Nat → Nat → Int32) (J : Nat → Nat → Int64) (p0 : Int32) (v : (Unit)) (h : p_X5_needThing N G J p0 = some (.inr v)) : jMet V yX5_needThing (jws yX5_needThing cX5_needThing 2 none) ⟨6, 1, 6, 89⟩ true 1 [.ref 0, .int p0] (hX G J) (fun o ν => o = none ∧ ν = (hX G J)) (fun _ _ => False) := by
  refine jmk (tb := tbX5) (C := kX5_needThing) hV rfl (by decide) tbX5_ok rfl kX5_needThing_ok rfl ?_
  intro X hM _ hp _
  exact t_X5_needThing hM hp N G J p0 h (fun w hw => by cases hw; exact ⟨rfl, rfl⟩) (fun c hc => by cases hc)
theorem m_X5_needThing_x (V : jV) (hV : V.1.stackTraces = false) (N : Nat) (G : Nat → Nat → Int32) (J : Nat → Nat → Int64) (p0 : Int32) (c : Nat) (h : p_X5_needThing N G J p0 = some (.inl c)) : jMet V yX5_needThing (jws yX5_needThing cX5_needThing 2 none) ⟨6, 1, 6, 89⟩ true 1 [.ref 0, .int p0] (hX G J) (fun _ _ => False) (fun E ν => E = jEn c ∧ ν = (hX G J)) := by
  refine jmk (tb := tbX5) (C := kX5_needThing) hV rfl (by decide) tbX5_ok rfl kX5_needThing_ok rfl ?_
  intro X hM _ hp _
  exact t_X5_needThing hM hp N G J p0 h (fun w hw => by cases hw) (fun c hc => by cases hc; exact ⟨rfl, rfl⟩)
def p_X5_worth (N : Nat) (G : Nat → Nat → Int32) (J : Nat → Nat → Int64) (p0 : Int32) (p1 : Int32) : Option (Nat ⊕ (Int32)) :=
  jbx (p_X5_needThing N G J p0) (fun v2 => jbx (p_X5_needPerson N G J p1) (fun v4 => (p_X3_worthTo N (jvw G 1) p0 p1).bind (fun v6 => some (.inr v6))))
set_option maxHeartbeats 4000000 in
set_option maxRecDepth 100000 in
theorem t_X5_worth {X : jX} {po : Option Value → jH → Prop} {px : String → jH → Prop} {sf : Bool} {B9 : Nat} (hM : jMX X kX5_worth RX5 tbX5 3 ⟨7, 2, 12, 110⟩ (some .int) 71) (hp : jPost X sf B9 po px) (N : Nat) (G : Nat → Nat → Int32) (J : Nat → Nat → Int64) (p0 : Int32) (p1 : Int32) {res : Nat ⊕ (Int32)} (h : p_X5_worth N G J p0 p1 = some res) (hq : ∀ w, res = Sum.inr w → po (some (.int w)) (hX G J)) (hx : ∀ c, res = Sum.inl c → px (jEn c) (hX G J)) : JW X 0 0 0 [some (.ref 0), some (.int p0), some (.int p1)] [] (hX G J) := by
  unfold p_X5_worth at h
  refine JW.r hM 0 2 (pc2 := 2) (L2 := [some (.ref 0), some (.int p0), some (.int p1)]) (st2 := [.int p0, .ref 0]) (μ2 := (hX G J)) rfl trivial ?_
  rcases jbxE h with h | h
  · obtain ⟨v2, hv1, h⟩ := h
    refine JW.cV (v := none) hM (m_X5_needThing_r (jVX X) hM.1.2.2.2.2.2.2.2.2.2.1 N G J p0 v2 hv1) (sb_X_X_0 G J) (bi_X_X_0 G J) rfl rfl rfl kc_X5_90 rfl rfl rfl rfl rfl (jat hM.2.1 2 rfl) (st := []) rfl ?_
    show JW X 1 6 5 [some (.ref 0), some (.int p0), some (.int p1)] [] (hX G J)
    refine JW.r hM 3 2 (pc2 := 7) (L2 := [some (.ref 0), some (.int p0), some (.int p1)]) (st2 := [.int p1, .ref 0]) (μ2 := (hX G J)) rfl trivial ?_
    rcases jbxE h with h | h
    · obtain ⟨v4, hv3, h⟩ := h
      refine JW.cV (v := none) hM (m_X5_needPerson_r (jVX X) hM.1.2.2.2.2.2.2.2.2.2.1 N G J p1 v4 hv3) (sb_X_X_0 G J) (bi_X_X_0 G J) rfl rfl rfl kc_X5_76 rfl rfl rfl rfl rfl (jat hM.2.1 5 rfl) (st := []) rfl ?_
      show JW X 2 12 10 [some (.ref 0), some (.int p0), some (.int p1)] [] (hX G J)
      refine JW.r hM 6 4 (pc2 := 16) (L2 := [some (.ref 0), some (.int p0), some (.int p1)]) (st2 := [.int p1, .int p0, .ref 1]) (μ2 := (hX G J)) rfl trivial ?_
      obtain ⟨v6, hv5, h⟩ := jbd h
      refine JW.cV (v := some (.int v6)) hM (m_X3_worthTo (jVX X) hM.1.2.2.2.2.2.2.2.2.2.1 N (jvw G 1) p0 p1 v6 hv5) (sb_X_Town_1 G J) (bi_X_Town_1 G J) rfl rfl rfl kc_X5_93 rfl rfl rfl rfl rfl (jat hM.2.1 10 rfl) (st := []) rfl ?_
      show JW X 2 12 19 [some (.ref 0), some (.int p0), some (.int p1)] [.int v6] (hX G J)
      obtain rfl := Option.some.inj h
      exact js_iret hM.1 hp hM.2.2.2.2.2.2.2.1 (by rw [hM.2.2.2.2.2.1]; exact Nat.le_of_ble_eq_true rfl) (by rw [hM.2.2.2.2.2.2.1]; exact Nat.le_of_ble_eq_true rfl) (jat hM.2.1 11 rfl) (hq v6 rfl)
    · obtain ⟨c7, hv3, h⟩ := h
      subst h
      exact JW.xV hM hp (E := jEn c7) (m_X5_needPerson_x (jVX X) hM.1.2.2.2.2.2.2.2.2.2.1 N G J p1 c7 hv3) (sb_X_X_0 G J) (bi_X_X_0 G J) rfl rfl kc_X5_76 rfl rfl rfl rfl rfl (jat hM.2.1 5 rfl) (st := []) rfl (hx _ rfl)
  · obtain ⟨c8, hv1, h⟩ := h
    subst h
    exact JW.xV hM hp (E := jEn c8) (m_X5_needThing_x (jVX X) hM.1.2.2.2.2.2.2.2.2.2.1 N G J p0 c8 hv1) (sb_X_X_0 G J) (bi_X_X_0 G J) rfl rfl kc_X5_90 rfl rfl rfl rfl rfl (jat hM.2.1 2 rfl) (st := []) rfl (hx _ rfl)
theorem m_X5_worth_r (V : jV) (hV : V.1.stackTraces = false) (N : Nat) (G : Nat → Nat → Int32) (J : Nat → Nat → Int64) (p0 : Int32) (p1 : Int32) (v : (Int32)) (h : p_X5_worth N G J p0 p1 = some (.inr v)) : jMet V yX5_worth (jws yX5_worth cX5_worth 3 (some .int)) ⟨7, 2, 12, 110⟩ true 1 [.ref 0, .int p0, .int p1] (hX G J) (fun o ν => o = some (.int v) ∧ ν = (hX G J)) (fun _ _ => False) := by
  refine jmk (tb := tbX5) (C := kX5_worth) hV rfl (by decide) tbX5_ok rfl kX5_worth_ok rfl ?_
  intro X hM _ hp _
  exact t_X5_worth hM hp N G J p0 p1 h (fun w hw => by cases hw; exact ⟨rfl, rfl⟩) (fun c hc => by cases hc)
theorem m_X5_worth_x (V : jV) (hV : V.1.stackTraces = false) (N : Nat) (G : Nat → Nat → Int32) (J : Nat → Nat → Int64) (p0 : Int32) (p1 : Int32) (c : Nat) (h : p_X5_worth N G J p0 p1 = some (.inl c)) : jMet V yX5_worth (jws yX5_worth cX5_worth 3 (some .int)) ⟨7, 2, 12, 110⟩ true 1 [.ref 0, .int p0, .int p1] (hX G J) (fun _ _ => False) (fun E ν => E = jEn c ∧ ν = (hX G J)) := by
  refine jmk (tb := tbX5) (C := kX5_worth) hV rfl (by decide) tbX5_ok rfl kX5_worth_ok rfl ?_
  intro X hM _ hp _
  exact t_X5_worth hM hp N G J p0 p1 h (fun w hw => by cases hw) (fun c hc => by cases hc; exact ⟨rfl, rfl⟩)
def p_X5_holder (N : Nat) (G : Nat → Nat → Int32) (J : Nat → Nat → Int64) (p0 : Int32) : Option (Nat ⊕ (Int32)) :=
  jbx (p_X5_needThing N G J p0) (fun v2 => if jin p0 10 = true then some (.inr (G 3 p0.toNatClampNeg)) else none)
set_option maxHeartbeats 4000000 in
set_option maxRecDepth 100000 in
theorem t_X5_holder {X : jX} {po : Option Value → jH → Prop} {px : String → jH → Prop} {sf : Bool} {B9 : Nat} (hM : jMX X kX5_holder RX5 tbX5 2 ⟨7, 1, 6, 110⟩ (some .int) 71) (hp : jPost X sf B9 po px) (N : Nat) (G : Nat → Nat → Int32) (J : Nat → Nat → Int64) (p0 : Int32) {res : Nat ⊕ (Int32)} (h : p_X5_holder N G J p0 = some res) (hq : ∀ w, res = Sum.inr w → po (some (.int w)) (hX G J)) (hx : ∀ c, res = Sum.inl c → px (jEn c) (hX G J)) : JW X 0 0 0 [some (.ref 0), some (.int p0)] [] (hX G J) := by
  unfold p_X5_holder at h
  refine JW.r hM 0 2 (pc2 := 2) (L2 := [some (.ref 0), some (.int p0)]) (st2 := [.int p0, .ref 0]) (μ2 := (hX G J)) rfl trivial ?_
  rcases jbxE h with h | h
  · obtain ⟨v2, hv1, h⟩ := h
    refine JW.cV (v := none) hM (m_X5_needThing_r (jVX X) hM.1.2.2.2.2.2.2.2.2.2.1 N G J p0 v2 hv1) (sb_X_X_0 G J) (bi_X_X_0 G J) rfl rfl rfl kc_X5_90 rfl rfl rfl rfl rfl (jat hM.2.1 2 rfl) (st := []) rfl ?_
    show JW X 1 6 5 [some (.ref 0), some (.int p0)] [] (hX G J)
    obtain ⟨g3, h⟩ := jg h
    refine JW.r hM 3 5 (pc2 := 14) (L2 := [some (.ref 0), some (.int p0)]) (st2 := [.int (G 3 p0.toNatClampNeg)]) (μ2 := (hX G J)) rfl ⟨g3, trivial⟩ ?_
    obtain rfl := Option.some.inj h
    exact js_iret hM.1 hp hM.2.2.2.2.2.2.2.1 (by rw [hM.2.2.2.2.2.1]; exact Nat.le_of_ble_eq_true rfl) (by rw [hM.2.2.2.2.2.2.1]; exact Nat.le_of_ble_eq_true rfl) (jat hM.2.1 8 rfl) (hq (G 3 p0.toNatClampNeg) rfl)
  · obtain ⟨c4, hv1, h⟩ := h
    subst h
    exact JW.xV hM hp (E := jEn c4) (m_X5_needThing_x (jVX X) hM.1.2.2.2.2.2.2.2.2.2.1 N G J p0 c4 hv1) (sb_X_X_0 G J) (bi_X_X_0 G J) rfl rfl kc_X5_90 rfl rfl rfl rfl rfl (jat hM.2.1 2 rfl) (st := []) rfl (hx _ rfl)
theorem m_X5_holder_r (V : jV) (hV : V.1.stackTraces = false) (N : Nat) (G : Nat → Nat → Int32) (J : Nat → Nat → Int64) (p0 : Int32) (v : (Int32)) (h : p_X5_holder N G J p0 = some (.inr v)) : jMet V yX5_holder (jws yX5_holder cX5_holder 2 (some .int)) ⟨7, 1, 6, 110⟩ true 1 [.ref 0, .int p0] (hX G J) (fun o ν => o = some (.int v) ∧ ν = (hX G J)) (fun _ _ => False) := by
  refine jmk (tb := tbX5) (C := kX5_holder) hV rfl (by decide) tbX5_ok rfl kX5_holder_ok rfl ?_
  intro X hM _ hp _
  exact t_X5_holder hM hp N G J p0 h (fun w hw => by cases hw; exact ⟨rfl, rfl⟩) (fun c hc => by cases hc)
theorem m_X5_holder_x (V : jV) (hV : V.1.stackTraces = false) (N : Nat) (G : Nat → Nat → Int32) (J : Nat → Nat → Int64) (p0 : Int32) (c : Nat) (h : p_X5_holder N G J p0 = some (.inl c)) : jMet V yX5_holder (jws yX5_holder cX5_holder 2 (some .int)) ⟨7, 1, 6, 110⟩ true 1 [.ref 0, .int p0] (hX G J) (fun _ _ => False) (fun E ν => E = jEn c ∧ ν = (hX G J)) := by
  refine jmk (tb := tbX5) (C := kX5_holder) hV rfl (by decide) tbX5_ok rfl kX5_holder_ok rfl ?_
  intro X hM _ hp _
  exact t_X5_holder hM hp N G J p0 h (fun w hw => by cases hw) (fun c hc => by cases hc; exact ⟨rfl, rfl⟩)
def p_X5_eat_b21 (N : Nat) (J : Nat → Nat → Int64) (G : Nat → Nat → Int32) (x1 : Int32) (s0 : Int32) : Option (Nat ⊕ (Int32 × (Nat → Nat → Int32))) :=
  jlt (jup G 1 3 ((G 1 3) ||| ((1 : Int32) <<< (x1 &&& 31)))) fun G5 => if jz s0 = true then some (.inr (s0, G5)) else none
def p_X5_eat (N : Nat) (G : Nat → Nat → Int32) (J : Nat → Nat → Int64) (p0 : Int32) : Option (Nat ⊕ (Int32 × (Nat → Nat → Int32))) :=
  jbx (p_X5_needThing N G J p0) (fun v2 => (p_X3_isEaten N (jvw G 1) p0).bind (fun v4 => if v4 = 0 then (p_X5_eat_b21 N J G p0 (1 : Int32)) else (p_X5_eat_b21 N J G p0 (0 : Int32))))
set_option maxHeartbeats 4000000 in
set_option maxRecDepth 100000 in
theorem t_X5_eat_b21 {X : jX} {po : Option Value → jH → Prop} {px : String → jH → Prop} {sf : Bool} {B9 : Nat} (hM : jMX X kX5_eat RX5 tbX5 3 ⟨7, 1, 6, 110⟩ (some .boolean) 71) (hp : jPost X sf B9 po px) (N : Nat) (J : Nat → Nat → Int64) {res : Nat ⊕ (Int32 × (Nat → Nat → Int32))} (G : Nat → Nat → Int32) (x1 : Int32) (s0 : Int32) (h : p_X5_eat_b21 N J G x1 s0 = some res) (hq : ∀ w, res = Sum.inr w → po (some (.int w.1)) (hX w.2 J)) : JW X 1 6 21 [some (.ref 0), some (.int x1), none] [.int s0] (hX G J) := by
  unfold p_X5_eat_b21 at h
  obtain ⟨G5, e6, h⟩ := jlE h
  refine JW.r hM 11 10 (pc2 := 37) (L2 := [some (.ref 0), some (.int x1), some (.int s0)]) (st2 := []) (μ2 := (hX (jup G 1 3 ((G 1 3) ||| ((1 : Int32) <<< (x1 &&& 31)))) J)) rfl trivial ?_
  rw [e6]
  refine JW.r hM 21 1 (pc2 := 38) (L2 := [some (.ref 0), some (.int x1), some (.int s0)]) (st2 := [.int s0]) (μ2 := (hX G5 J)) rfl trivial ?_
  obtain ⟨g7, h⟩ := jg h
  obtain rfl := Option.some.inj h
  exact js_zret hM.1 hp hM.2.2.2.2.2.2.2.1 g7 (by rw [hM.2.2.2.2.2.1]; exact Nat.le_of_ble_eq_true rfl) (by rw [hM.2.2.2.2.2.2.1]; exact Nat.le_of_ble_eq_true rfl) (jat hM.2.1 22 rfl) (hq (s0, G5) rfl)
set_option maxHeartbeats 4000000 in
set_option maxRecDepth 100000 in
theorem t_X5_eat {X : jX} {po : Option Value → jH → Prop} {px : String → jH → Prop} {sf : Bool} {B9 : Nat} (hM : jMX X kX5_eat RX5 tbX5 3 ⟨7, 1, 6, 110⟩ (some .boolean) 71) (hp : jPost X sf B9 po px) (N : Nat) (G : Nat → Nat → Int32) (J : Nat → Nat → Int64) (p0 : Int32) {res : Nat ⊕ (Int32 × (Nat → Nat → Int32))} (h : p_X5_eat N G J p0 = some res) (hq : ∀ w, res = Sum.inr w → po (some (.int w.1)) (hX w.2 J)) (hx : ∀ c, res = Sum.inl c → px (jEn c) (hX G J)) : JW X 0 0 0 [some (.ref 0), some (.int p0), none] [] (hX G J) := by
  unfold p_X5_eat at h
  refine JW.r hM 0 2 (pc2 := 2) (L2 := [some (.ref 0), some (.int p0), none]) (st2 := [.int p0, .ref 0]) (μ2 := (hX G J)) rfl trivial ?_
  rcases jbxE h with h | h
  · obtain ⟨v2, hv1, h⟩ := h
    refine JW.cV (v := none) hM (m_X5_needThing_r (jVX X) hM.1.2.2.2.2.2.2.2.2.2.1 N G J p0 v2 hv1) (sb_X_X_0 G J) (bi_X_X_0 G J) rfl rfl rfl kc_X5_90 rfl rfl rfl rfl rfl (jat hM.2.1 2 rfl) (st := []) rfl ?_
    show JW X 1 6 5 [some (.ref 0), some (.int p0), none] [] (hX G J)
    refine JW.r hM 3 3 (pc2 := 10) (L2 := [some (.ref 0), some (.int p0), none]) (st2 := [.int p0, .ref 1]) (μ2 := (hX G J)) rfl trivial ?_
    obtain ⟨v4, hv3, h⟩ := jbd h
    refine JW.cV (v := some (.int v4)) hM (m_X3_isEaten (jVX X) hM.1.2.2.2.2.2.2.2.2.2.1 N (jvw G 1) p0 v4 hv3) (sb_X_Town_1 G J) (bi_X_Town_1 G J) rfl rfl rfl kc_X5_100 rfl rfl rfl rfl rfl (jat hM.2.1 6 rfl) (st := []) rfl ?_
    show JW X 1 6 13 [some (.ref 0), some (.int p0), none] [.int v4] (hX G J)
    refine js_ifne (t := 20) hM.1 (jat hM.2.1 7 rfl) rfl (fun hc8 => ?_) (fun hc8 => ?_)
    · have h := (if_neg hc8).symm.trans h
      refine JW.r hM 10 1 (pc2 := 21) (L2 := [some (.ref 0), some (.int p0), none]) (st2 := [.int (0 : Int32)]) (μ2 := (hX G J)) rfl trivial ?_
      exact t_X5_eat_b21 hM hp N J G p0 (0 : Int32) h hq
    · have h := (if_pos hc8).symm.trans h
      refine JW.r hM 8 2 (pc2 := 21) (L2 := [some (.ref 0), some (.int p0), none]) (st2 := [.int (1 : Int32)]) (μ2 := (hX G J)) rfl trivial ?_
      exact t_X5_eat_b21 hM hp N J G p0 (1 : Int32) h hq
  · obtain ⟨c9, hv1, h⟩ := h
    subst h
    exact JW.xV hM hp (E := jEn c9) (m_X5_needThing_x (jVX X) hM.1.2.2.2.2.2.2.2.2.2.1 N G J p0 c9 hv1) (sb_X_X_0 G J) (bi_X_X_0 G J) rfl rfl kc_X5_90 rfl rfl rfl rfl rfl (jat hM.2.1 2 rfl) (st := []) rfl (hx _ rfl)
theorem m_X5_eat_r (V : jV) (hV : V.1.stackTraces = false) (N : Nat) (G : Nat → Nat → Int32) (J : Nat → Nat → Int64) (p0 : Int32) (v : (Int32 × (Nat → Nat → Int32))) (h : p_X5_eat N G J p0 = some (.inr v)) : jMet V yX5_eat (jws yX5_eat cX5_eat 3 (some .boolean)) ⟨7, 1, 6, 110⟩ true 1 [.ref 0, .int p0] (hX G J) (fun o ν => o = some (.int v.1) ∧ ν = (hX v.2 J)) (fun _ _ => False) := by
  refine jmk (tb := tbX5) (C := kX5_eat) hV rfl (by decide) tbX5_ok rfl kX5_eat_ok rfl ?_
  intro X hM _ hp _
  exact t_X5_eat hM hp N G J p0 h (fun w hw => by cases hw; exact ⟨rfl, rfl⟩) (fun c hc => by cases hc)
theorem m_X5_eat_x (V : jV) (hV : V.1.stackTraces = false) (N : Nat) (G : Nat → Nat → Int32) (J : Nat → Nat → Int64) (p0 : Int32) (c : Nat) (h : p_X5_eat N G J p0 = some (.inl c)) : jMet V yX5_eat (jws yX5_eat cX5_eat 3 (some .boolean)) ⟨7, 1, 6, 110⟩ true 1 [.ref 0, .int p0] (hX G J) (fun _ _ => False) (fun E ν => E = jEn c ∧ ν = (hX G J)) := by
  refine jmk (tb := tbX5) (C := kX5_eat) hV rfl (by decide) tbX5_ok rfl kX5_eat_ok rfl ?_
  intro X hM _ hp _
  exact t_X5_eat hM hp N G J p0 h (fun w hw => by cases hw) (fun c hc => by cases hc; exact ⟨rfl, rfl⟩)
def p_X5_pass_b11 (N : Nat) (J : Nat → Nat → Int64) (G : Nat → Nat → Int32) : Option (Nat ⊕ (Int32 × (Nat → Nat → Int32))) :=
  some (.inl 3)
def p_X5_pass (N : Nat) (G : Nat → Nat → Int32) (J : Nat → Nat → Int64) (p0 : Int32) : Option (Nat ⊕ (Int32 × (Nat → Nat → Int32))) :=
  if p0 < 0 then (p_X5_pass_b11 N J G) else (if p0 ≤ (999 : Int32) then (jlt (jup G 1 6 (if ((G 1 6) + p0) < (1000 : Int32) then ((G 1 6) + p0) else (1000 : Int32))) fun G1 => some (.inr ((G1 1 6), G1))) else (p_X5_pass_b11 N J G))
set_option maxHeartbeats 4000000 in
set_option maxRecDepth 100000 in
theorem t_X5_pass_b11 {X : jX} {po : Option Value → jH → Prop} {px : String → jH → Prop} {sf : Bool} {B9 : Nat} (hM : jMX X kX5_pass RX5 tbX5 2 ⟨6, 1, 6, 89⟩ (some .int) 71) (hp : jPost X sf B9 po px) (N : Nat) (J : Nat → Nat → Int64) {res : Nat ⊕ (Int32 × (Nat → Nat → Int32))} (G : Nat → Nat → Int32) (h : p_X5_pass_b11 N J G = some res) (hq : ∀ w, res = Sum.inr w → po (some (.int w.1)) (hX w.2 J)) (hx : ∀ c, res = Sum.inl c → px (jEn c) (hX G J)) : JW X 0 0 11 [none, none] [] (hX G J) := by
  unfold p_X5_pass_b11 at h
  obtain rfl := Option.some.inj h
  exact js_throw (ik := 56) (ic := 58) (names := ["java/lang/RuntimeException", "java/lang/Exception"]) hM.1 hp hM.2.2.2.2.2.2.2.2.2 (by decide) (by decide) (by rw [hM.2.2.1]; exact th_X5_56_58) (jat hM.2.1 5 rfl) (jat hM.2.1 6 rfl) (jat hM.2.1 7 rfl) (jat hM.2.1 8 rfl) (by rw [hM.2.2.2.2.1]; exact Nat.le_of_ble_eq_true rfl) (by rw [hM.2.2.2.2.1]; exact Nat.le_of_ble_eq_true rfl) (by rw [hM.2.2.2.2.2.1]; exact Nat.le_of_ble_eq_true rfl) (by rw [hM.2.2.2.2.2.2.1]; exact Nat.le_of_ble_eq_true rfl) (hx _ rfl)
set_option maxHeartbeats 4000000 in
set_option maxRecDepth 100000 in
theorem t_X5_pass {X : jX} {po : Option Value → jH → Prop} {px : String → jH → Prop} {sf : Bool} {B9 : Nat} (hM : jMX X kX5_pass RX5 tbX5 2 ⟨6, 1, 6, 89⟩ (some .int) 71) (hp : jPost X sf B9 po px) (N : Nat) (G : Nat → Nat → Int32) (J : Nat → Nat → Int64) (p0 : Int32) {res : Nat ⊕ (Int32 × (Nat → Nat → Int32))} (h : p_X5_pass N G J p0 = some res) (hq : ∀ w, res = Sum.inr w → po (some (.int w.1)) (hX w.2 J)) (hx : ∀ c, res = Sum.inl c → px (jEn c) (hX G J)) : JW X 0 0 0 [some (.ref 0), some (.int p0)] [] (hX G J) := by
  unfold p_X5_pass at h
  refine JW.r hM 0 1 (pc2 := 1) (L2 := [some (.ref 0), some (.int p0)]) (st2 := [.int p0]) (μ2 := (hX G J)) rfl trivial ?_
  refine js_iflt (t := 11) hM.1 (jat hM.2.1 1 rfl) rfl (fun hc4 => ?_) (fun hc4 => ?_)
  · have h := (if_pos hc4).symm.trans h
    exact JW.mask [false, false] (t_X5_pass_b11 hM hp N J G h hq hx)
  · have h := (if_neg hc4).symm.trans h
    refine JW.r hM 2 2 (pc2 := 8) (L2 := [some (.ref 0), some (.int p0)]) (st2 := [.int (999 : Int32), .int p0]) (μ2 := (hX G J)) rfl trivial ?_
    refine js_icle (t := 19) hM.1 (jat hM.2.1 4 rfl) rfl (fun hc3 => ?_) (fun hc3 => ?_)
    · have h := (if_pos hc3).symm.trans h
      refine JW.r hM 9 8 (pc2 := 35) (L2 := [some (.ref 0), some (.int p0)]) (st2 := [.int ((G 1 6) + p0), .int (1000 : Int32), .ref 1]) (μ2 := (hX G J)) rfl trivial ?_
      refine js_min hM.1 (by rw [hM.2.2.1]; exact mx_X5_110) (jat hM.2.1 17 rfl) (by rw [hM.2.2.2.2.1]; exact Nat.le_of_ble_eq_true rfl) (by rw [hM.2.2.2.2.1]; exact Nat.le_of_ble_eq_true rfl) (by rw [hM.2.2.2.2.1]; exact Nat.le_of_ble_eq_true rfl) (by rw [hM.2.2.2.2.1]; exact Nat.le_of_ble_eq_true rfl) ?_
      show JW X 0 0 38 [some (.ref 0), some (.int p0)] [.int (if ((G 1 6) + p0) < (1000 : Int32) then ((G 1 6) + p0) else (1000 : Int32)), .ref 1] (hX G J)
      obtain ⟨G1, e2, h⟩ := jlE h
      refine JW.r hM 18 1 (pc2 := 41) (L2 := [some (.ref 0), some (.int p0)]) (st2 := []) (μ2 := (hX (jup G 1 6 (if ((G 1 6) + p0) < (1000 : Int32) then ((G 1 6) + p0) else (1000 : Int32))) J)) rfl trivial ?_
      rw [e2]
      refine JW.r hM 19 3 (pc2 := 48) (L2 := [some (.ref 0), some (.int p0)]) (st2 := [.int (G1 1 6)]) (μ2 := (hX G1 J)) rfl trivial ?_
      obtain rfl := Option.some.inj h
      exact js_iret hM.1 hp hM.2.2.2.2.2.2.2.1 (by rw [hM.2.2.2.2.2.1]; exact Nat.le_of_ble_eq_true rfl) (by rw [hM.2.2.2.2.2.2.1]; exact Nat.le_of_ble_eq_true rfl) (jat hM.2.1 22 rfl) (hq ((G1 1 6), G1) rfl)
    · have h := (if_neg hc3).symm.trans h
      exact JW.mask [false, false] (t_X5_pass_b11 hM hp N J G h hq hx)
theorem m_X5_pass_r (V : jV) (hV : V.1.stackTraces = false) (N : Nat) (G : Nat → Nat → Int32) (J : Nat → Nat → Int64) (p0 : Int32) (v : (Int32 × (Nat → Nat → Int32))) (h : p_X5_pass N G J p0 = some (.inr v)) : jMet V yX5_pass (jws yX5_pass cX5_pass 2 (some .int)) ⟨6, 1, 6, 89⟩ true 1 [.ref 0, .int p0] (hX G J) (fun o ν => o = some (.int v.1) ∧ ν = (hX v.2 J)) (fun _ _ => False) := by
  refine jmk (tb := tbX5) (C := kX5_pass) hV rfl (by decide) tbX5_ok rfl kX5_pass_ok rfl ?_
  intro X hM _ hp _
  exact t_X5_pass hM hp N G J p0 h (fun w hw => by cases hw; exact ⟨rfl, rfl⟩) (fun c hc => by cases hc)
theorem m_X5_pass_x (V : jV) (hV : V.1.stackTraces = false) (N : Nat) (G : Nat → Nat → Int32) (J : Nat → Nat → Int64) (p0 : Int32) (c : Nat) (h : p_X5_pass N G J p0 = some (.inl c)) : jMet V yX5_pass (jws yX5_pass cX5_pass 2 (some .int)) ⟨6, 1, 6, 89⟩ true 1 [.ref 0, .int p0] (hX G J) (fun _ _ => False) (fun E ν => E = jEn c ∧ ν = (hX G J)) := by
  refine jmk (tb := tbX5) (C := kX5_pass) hV rfl (by decide) tbX5_ok rfl kX5_pass_ok rfl ?_
  intro X hM _ hp _
  exact t_X5_pass hM hp N G J p0 h (fun w hw => by cases hw) (fun c hc => by cases hc; exact ⟨rfl, rfl⟩)
def p_X5_morning (N : Nat) (G : Nat → Nat → Int32) (J : Nat → Nat → Int64) : Option (Nat ⊕ (Int32 × (Nat → Nat → Int32))) :=
  (p_X3_hasRung N (jvw G 1)).bind (fun v2 => if v2 = 0 then (some (.inl 2)) else ((p_J6_bitCount_0f7a4 N (G 1 8)).bind (fun v4 => jlt (jup G 1 6 (0 : Int32)) fun G5 => jlt (jup G5 1 7 (0 : Int32)) fun G7 => jlt (jup G7 1 8 (0 : Int32)) fun G9 => some (.inr (v4, G9)))))
set_option maxHeartbeats 4000000 in
set_option maxRecDepth 100000 in
theorem t_X5_morning {X : jX} {po : Option Value → jH → Prop} {px : String → jH → Prop} {sf : Bool} {B9 : Nat} (hM : jMX X kX5_morning RX5 tbX5 2 ⟨6, 1, 6, 89⟩ (some .int) 71) (hp : jPost X sf B9 po px) (N : Nat) (G : Nat → Nat → Int32) (J : Nat → Nat → Int64) {res : Nat ⊕ (Int32 × (Nat → Nat → Int32))} (h : p_X5_morning N G J = some res) (hq : ∀ w, res = Sum.inr w → po (some (.int w.1)) (hX w.2 J)) (hx : ∀ c, res = Sum.inl c → px (jEn c) (hX G J)) : JW X 0 0 0 [some (.ref 0), none] [] (hX G J) := by
  unfold p_X5_morning at h
  refine JW.r hM 0 2 (pc2 := 4) (L2 := [some (.ref 0), none]) (st2 := [.ref 1]) (μ2 := (hX G J)) rfl trivial ?_
  obtain ⟨v2, hv1, h⟩ := jbd h
  refine JW.cV (v := some (.int v2)) hM (m_X3_hasRung (jVX X) hM.1.2.2.2.2.2.2.2.2.2.1 N (jvw G 1) v2 hv1) (sb_X_Town_1 G J) (bi_X_Town_1 G J) rfl rfl rfl kc_X5_115 rfl rfl rfl rfl rfl (jat hM.2.1 2 rfl) (st := []) rfl ?_
  show JW X 0 0 7 [some (.ref 0), none] [.int v2] (hX G J)
  refine js_ifne (t := 18) hM.1 (jat hM.2.1 3 rfl) rfl (fun hc11 => ?_) (fun hc11 => ?_)
  · have h := (if_neg hc11).symm.trans h
    refine JW.r hM 8 3 (pc2 := 25) (L2 := [some (.ref 0), none]) (st2 := [.int (G 1 8)]) (μ2 := (hX G J)) rfl trivial ?_
    obtain ⟨v4, hv3, h⟩ := jbd h
    refine JW.cS (v := some (.int v4)) hM (m_J6_bitCount_0f7a4 (jVX X) hM.1.2.2.2.2.2.2.2.2.2.1 N (G 1 8) v4 hv3) (sb_X_E_ G J) (bi_X_E_ G J) rfl rfl rfl kc_X5_125 rfl rfl rfl (jat hM.2.1 11 rfl) (st := []) rfl ?_
    show JW X 0 0 28 [some (.ref 0), none] [.int v4] (hX G J)
    obtain ⟨G5, e6, h⟩ := jlE h
    refine JW.r hM 12 5 (pc2 := 37) (L2 := [some (.ref 0), some (.int v4)]) (st2 := []) (μ2 := (hX (jup G 1 6 (0 : Int32)) J)) rfl trivial ?_
    rw [e6]
    obtain ⟨G7, e8, h⟩ := jlE h
    refine JW.r hM 17 4 (pc2 := 45) (L2 := [some (.ref 0), some (.int v4)]) (st2 := []) (μ2 := (hX (jup G5 1 7 (0 : Int32)) J)) rfl trivial ?_
    rw [e8]
    obtain ⟨G9, e10, h⟩ := jlE h
    refine JW.r hM 21 4 (pc2 := 53) (L2 := [some (.ref 0), some (.int v4)]) (st2 := []) (μ2 := (hX (jup G7 1 8 (0 : Int32)) J)) rfl trivial ?_
    rw [e10]
    refine JW.r hM 25 1 (pc2 := 54) (L2 := [some (.ref 0), some (.int v4)]) (st2 := [.int v4]) (μ2 := (hX G9 J)) rfl trivial ?_
    obtain rfl := Option.some.inj h
    exact js_iret hM.1 hp hM.2.2.2.2.2.2.2.1 (by rw [hM.2.2.2.2.2.1]; exact Nat.le_of_ble_eq_true rfl) (by rw [hM.2.2.2.2.2.2.1]; exact Nat.le_of_ble_eq_true rfl) (jat hM.2.1 26 rfl) (hq (v4, G9) rfl)
  · have h := (if_pos hc11).symm.trans h
    obtain rfl := Option.some.inj h
    exact js_throw (ik := 119) (ic := 121) (names := ["java/lang/RuntimeException", "java/lang/Exception"]) hM.1 hp hM.2.2.2.2.2.2.2.2.2 (by decide) (by decide) (by rw [hM.2.2.1]; exact th_X5_119_121) (jat hM.2.1 4 rfl) (jat hM.2.1 5 rfl) (jat hM.2.1 6 rfl) (jat hM.2.1 7 rfl) (by rw [hM.2.2.2.2.1]; exact Nat.le_of_ble_eq_true rfl) (by rw [hM.2.2.2.2.1]; exact Nat.le_of_ble_eq_true rfl) (by rw [hM.2.2.2.2.2.1]; exact Nat.le_of_ble_eq_true rfl) (by rw [hM.2.2.2.2.2.2.1]; exact Nat.le_of_ble_eq_true rfl) (hx _ rfl)
theorem m_X5_morning_r (V : jV) (hV : V.1.stackTraces = false) (N : Nat) (G : Nat → Nat → Int32) (J : Nat → Nat → Int64) (v : (Int32 × (Nat → Nat → Int32))) (h : p_X5_morning N G J = some (.inr v)) : jMet V yX5_morning (jws yX5_morning cX5_morning 2 (some .int)) ⟨6, 1, 6, 89⟩ true 1 [.ref 0] (hX G J) (fun o ν => o = some (.int v.1) ∧ ν = (hX v.2 J)) (fun _ _ => False) := by
  refine jmk (tb := tbX5) (C := kX5_morning) hV rfl (by decide) tbX5_ok rfl kX5_morning_ok rfl ?_
  intro X hM _ hp _
  exact t_X5_morning hM hp N G J h (fun w hw => by cases hw; exact ⟨rfl, rfl⟩) (fun c hc => by cases hc)
theorem m_X5_morning_x (V : jV) (hV : V.1.stackTraces = false) (N : Nat) (G : Nat → Nat → Int32) (J : Nat → Nat → Int64) (c : Nat) (h : p_X5_morning N G J = some (.inl c)) : jMet V yX5_morning (jws yX5_morning cX5_morning 2 (some .int)) ⟨6, 1, 6, 89⟩ true 1 [.ref 0] (hX G J) (fun _ _ => False) (fun E ν => E = jEn c ∧ ν = (hX G J)) := by
  refine jmk (tb := tbX5) (C := kX5_morning) hV rfl (by decide) tbX5_ok rfl kX5_morning_ok rfl ?_
  intro X hM _ hp _
  exact t_X5_morning hM hp N G J h (fun w hw => by cases hw) (fun c hc => by cases hc; exact ⟨rfl, rfl⟩)
def p_X5_sell (N : Nat) (G : Nat → Nat → Int32) (J : Nat → Nat → Int64) (p0 : Int32) (p1 : Int32) (p2 : Int32) : Option (Int32 × (Nat → Nat → Int32)) :=
  (p_X3_whyNoDeed N (jvw G 1) p0 p1 p2).bind (fun v2 => if v2 = 0 then ((p_X3_make N (jvw G 1) p0 p1 p2).bind (fun v4 => jlt (jpt G 1 9 v4.2) fun G5 => some (v4.1, G5))) else (some (((-10 : Int32) - v2), G)))
set_option maxHeartbeats 4000000 in
set_option maxRecDepth 100000 in
theorem t_X5_sell {X : jX} {po : Option Value → jH → Prop} {px : String → jH → Prop} {sf : Bool} {B9 : Nat} (hM : jMX X kX5_sell RX5 tbX5 5 ⟨2, 0, 0, 44⟩ (some .int) 71) (hp : jPost X sf B9 po px) (N : Nat) (G : Nat → Nat → Int32) (J : Nat → Nat → Int64) (p0 : Int32) (p1 : Int32) (p2 : Int32) {res : Int32 × (Nat → Nat → Int32)} (h : p_X5_sell N G J p0 p1 p2 = some res) (hq : po (some (.int res.1)) (hX res.2 J)) : JW X 0 0 0 [some (.ref 0), some (.int p0), some (.int p1), some (.int p2), none] [] (hX G J) := by
  unfold p_X5_sell at h
  refine JW.r hM 0 5 (pc2 := 7) (L2 := [some (.ref 0), some (.int p0), some (.int p1), some (.int p2), none]) (st2 := [.int p2, .int p1, .int p0, .ref 1]) (μ2 := (hX G J)) rfl trivial ?_
  obtain ⟨v2, hv1, h⟩ := jbd h
  refine JW.cV (v := some (.int v2)) hM (m_X3_whyNoDeed (jVX X) hM.1.2.2.2.2.2.2.2.2.2.1 N (jvw G 1) p0 p1 p2 v2 hv1) (sb_X_Town_1 G J) (bi_X_Town_1 G J) rfl rfl rfl kc_X5_133 rfl rfl rfl rfl rfl (jat hM.2.1 5 rfl) (st := []) rfl ?_
  show JW X 0 0 10 [some (.ref 0), some (.int p0), some (.int p1), some (.int p2), none] [.int v2] (hX G J)
  refine JW.r hM 6 2 (pc2 := 14) (L2 := [some (.ref 0), some (.int p0), some (.int p1), some (.int p2), some (.int v2)]) (st2 := [.int v2]) (μ2 := (hX G J)) rfl trivial ?_
  refine js_ifne (t := 30) hM.1 (jat hM.2.1 8 rfl) rfl (fun hc7 => ?_) (fun hc7 => ?_)
  · have h := (if_neg hc7).symm.trans h
    refine JW.r hM 16 3 (pc2 := 35) (L2 := [some (.ref 0), some (.int p0), some (.int p1), some (.int p2), some (.int v2)]) (st2 := [.int ((-10 : Int32) - v2)]) (μ2 := (hX G J)) rfl trivial ?_
    obtain rfl := Option.some.inj h
    exact js_iret hM.1 hp hM.2.2.2.2.2.2.2.1 (by rw [hM.2.2.2.2.2.1]; exact Nat.le_of_ble_eq_true rfl) (by rw [hM.2.2.2.2.2.2.1]; exact Nat.le_of_ble_eq_true rfl) (jat hM.2.1 19 rfl) hq
  · have h := (if_pos hc7).symm.trans h
    refine JW.r hM 9 5 (pc2 := 24) (L2 := [some (.ref 0), some (.int p0), some (.int p1), some (.int p2), some (.int v2)]) (st2 := [.int p2, .int p1, .int p0, .ref 1]) (μ2 := (hX G J)) rfl trivial ?_
    obtain ⟨v4, hv3, h⟩ := jbd h
    refine JW.cV (v := some (.int v4.1)) hM (m_X3_make (jVX X) hM.1.2.2.2.2.2.2.2.2.2.1 N (jvw G 1) p0 p1 p2 v4 hv3) (sb_X_Town_1 G J) (bk_X_Town_1 G J v4.2) rfl rfl rfl kc_X5_137 rfl rfl rfl rfl rfl (jat hM.2.1 14 rfl) (st := []) rfl ?_
    show JW X 0 0 27 [some (.ref 0), some (.int p0), some (.int p1), some (.int p2), some (.int v2)] [.int v4.1] (hX (jpt G 1 9 v4.2) J)
    obtain ⟨G5, e6, h⟩ := jlE h
    rw [e6]
    refine JW.r hM 15 1 (pc2 := 35) (L2 := [some (.ref 0), some (.int p0), some (.int p1), some (.int p2), some (.int v2)]) (st2 := [.int v4.1]) (μ2 := (hX G5 J)) rfl trivial ?_
    obtain rfl := Option.some.inj h
    exact js_iret hM.1 hp hM.2.2.2.2.2.2.2.1 (by rw [hM.2.2.2.2.2.1]; exact Nat.le_of_ble_eq_true rfl) (by rw [hM.2.2.2.2.2.2.1]; exact Nat.le_of_ble_eq_true rfl) (jat hM.2.1 19 rfl) hq
theorem m_X5_sell (V : jV) (hV : V.1.stackTraces = false) (N : Nat) (G : Nat → Nat → Int32) (J : Nat → Nat → Int64) (p0 : Int32) (p1 : Int32) (p2 : Int32) (v : Int32 × (Nat → Nat → Int32)) (h : p_X5_sell N G J p0 p1 p2 = some v) : jMet V yX5_sell (jws yX5_sell cX5_sell 5 (some .int)) ⟨2, 0, 0, 44⟩ true 1 [.ref 0, .int p0, .int p1, .int p2] (hX G J) (fun o ν => o = some (.int v.1) ∧ ν = (hX v.2 J)) (fun _ _ => False) := by
  refine jmk (tb := tbX5) (C := kX5_sell) hV rfl (by decide) tbX5_ok rfl kX5_sell_ok rfl ?_
  intro X hM _ hp _
  exact t_X5_sell hM hp N G J p0 p1 p2 h ⟨rfl, rfl⟩
def p_X5_needDeed (N : Nat) (G : Nat → Nat → Int32) (J : Nat → Nat → Int64) (p0 : Int32) : Option (Nat ⊕ (Unit)) :=
  (p_X3_hasDeed N (jvw G 1) p0).bind (fun v2 => if v2 = 0 then (some (.inl 1)) else (some (.inr ())))
set_option maxHeartbeats 4000000 in
set_option maxRecDepth 100000 in
theorem t_X5_needDeed {X : jX} {po : Option Value → jH → Prop} {px : String → jH → Prop} {sf : Bool} {B9 : Nat} (hM : jMX X kX5_needDeed RX5 tbX5 2 ⟨6, 1, 6, 89⟩ none 71) (hp : jPost X sf B9 po px) (N : Nat) (G : Nat → Nat → Int32) (J : Nat → Nat → Int64) (p0 : Int32) {res : Nat ⊕ (Unit)} (h : p_X5_needDeed N G J p0 = some res) (hq : ∀ w, res = Sum.inr w → po none (hX G J)) (hx : ∀ c, res = Sum.inl c → px (jEn c) (hX G J)) : JW X 0 0 0 [some (.ref 0), some (.int p0)] [] (hX G J) := by
  unfold p_X5_needDeed at h
  refine JW.r hM 0 3 (pc2 := 5) (L2 := [some (.ref 0), some (.int p0)]) (st2 := [.int p0, .ref 1]) (μ2 := (hX G J)) rfl trivial ?_
  obtain ⟨v2, hv1, h⟩ := jbd h
  refine JW.cV (v := some (.int v2)) hM (m_X3_hasDeed (jVX X) hM.1.2.2.2.2.2.2.2.2.2.1 N (jvw G 1) p0 v2 hv1) (sb_X_Town_1 G J) (bi_X_Town_1 G J) rfl rfl rfl kc_X5_328 rfl rfl rfl rfl rfl (jat hM.2.1 3 rfl) (st := []) rfl ?_
  show JW X 0 0 8 [some (.ref 0), some (.int p0)] [.int v2] (hX G J)
  refine js_ifne (t := 19) hM.1 (jat hM.2.1 4 rfl) rfl (fun hc3 => ?_) (fun hc3 => ?_)
  · have h := (if_neg hc3).symm.trans h
    obtain rfl := Option.some.inj h
    exact js_vret hM.1 hp hM.2.2.2.2.2.2.2.1 (by rw [hM.2.2.2.2.2.1]; exact Nat.le_of_ble_eq_true rfl) (by rw [hM.2.2.2.2.2.2.1]; exact Nat.le_of_ble_eq_true rfl) (jat hM.2.1 9 rfl) (hq () rfl)
  · have h := (if_pos hc3).symm.trans h
    obtain rfl := Option.some.inj h
    exact js_throw (ik := 300) (ic := 302) (names := ["java/lang/RuntimeException", "java/lang/Exception"]) hM.1 hp hM.2.2.2.2.2.2.2.2.2 (by decide) (by decide) (by rw [hM.2.2.1]; exact th_X5_300_302) (jat hM.2.1 5 rfl) (jat hM.2.1 6 rfl) (jat hM.2.1 7 rfl) (jat hM.2.1 8 rfl) (by rw [hM.2.2.2.2.1]; exact Nat.le_of_ble_eq_true rfl) (by rw [hM.2.2.2.2.1]; exact Nat.le_of_ble_eq_true rfl) (by rw [hM.2.2.2.2.2.1]; exact Nat.le_of_ble_eq_true rfl) (by rw [hM.2.2.2.2.2.2.1]; exact Nat.le_of_ble_eq_true rfl) (hx _ rfl)
theorem m_X5_needDeed_r (V : jV) (hV : V.1.stackTraces = false) (N : Nat) (G : Nat → Nat → Int32) (J : Nat → Nat → Int64) (p0 : Int32) (v : (Unit)) (h : p_X5_needDeed N G J p0 = some (.inr v)) : jMet V yX5_needDeed (jws yX5_needDeed cX5_needDeed 2 none) ⟨6, 1, 6, 89⟩ true 1 [.ref 0, .int p0] (hX G J) (fun o ν => o = none ∧ ν = (hX G J)) (fun _ _ => False) := by
  refine jmk (tb := tbX5) (C := kX5_needDeed) hV rfl (by decide) tbX5_ok rfl kX5_needDeed_ok rfl ?_
  intro X hM _ hp _
  exact t_X5_needDeed hM hp N G J p0 h (fun w hw => by cases hw; exact ⟨rfl, rfl⟩) (fun c hc => by cases hc)
theorem m_X5_needDeed_x (V : jV) (hV : V.1.stackTraces = false) (N : Nat) (G : Nat → Nat → Int32) (J : Nat → Nat → Int64) (p0 : Int32) (c : Nat) (h : p_X5_needDeed N G J p0 = some (.inl c)) : jMet V yX5_needDeed (jws yX5_needDeed cX5_needDeed 2 none) ⟨6, 1, 6, 89⟩ true 1 [.ref 0, .int p0] (hX G J) (fun _ _ => False) (fun E ν => E = jEn c ∧ ν = (hX G J)) := by
  refine jmk (tb := tbX5) (C := kX5_needDeed) hV rfl (by decide) tbX5_ok rfl kX5_needDeed_ok rfl ?_
  intro X hM _ hp _
  exact t_X5_needDeed hM hp N G J p0 h (fun w hw => by cases hw) (fun c hc => by cases hc; exact ⟨rfl, rfl⟩)
def p_X5_deed (N : Nat) (G : Nat → Nat → Int32) (J : Nat → Nat → Int64) (p0 : Int32) (p1 : Int32) : Option (Nat ⊕ (Int32)) :=
  jbx (p_X5_needDeed N G J p0) (fun v2 => if p1.toInt = 0 then (if jin p0 30 = true then some (.inr (G 5 p0.toNatClampNeg)) else none) else (if p1.toInt = 1 then (if jin p0 30 = true then some (.inr (G 6 p0.toNatClampNeg)) else none) else (if p1.toInt = 2 then (if jin p0 30 = true then some (.inr (G 7 p0.toNatClampNeg)) else none) else (if p1.toInt = 3 then (if jin p0 30 = true then some (.inr (G 8 p0.toNatClampNeg)) else none) else (if p1.toInt = 4 then ((p_X3_stands N (jvw G 1) p0).bind (fun v16 => if v16 = 0 then (some (.inr (0 : Int32))) else (some (.inr (1 : Int32))))) else (if p1.toInt = 5 then (if jin p0 30 = true then some (.inr (G 9 p0.toNatClampNeg)) else none) else (if p1.toInt = 6 then ((p_X3_worthToGiver N (jvw G 1) p0).bind (fun v20 => some (.inr v20))) else (if p1.toInt = 7 then ((p_X3_worthToTaker N (jvw G 1) p0).bind (fun v22 => some (.inr v22))) else (some (.inl 3))))))))))
set_option maxHeartbeats 4000000 in
set_option maxRecDepth 100000 in
theorem t_X5_deed {X : jX} {po : Option Value → jH → Prop} {px : String → jH → Prop} {sf : Bool} {B9 : Nat} (hM : jMX X kX5_deed RX5 tbX5 3 ⟨7, 2, 12, 110⟩ (some .int) 71) (hp : jPost X sf B9 po px) (N : Nat) (G : Nat → Nat → Int32) (J : Nat → Nat → Int64) (p0 : Int32) (p1 : Int32) {res : Nat ⊕ (Int32)} (h : p_X5_deed N G J p0 p1 = some res) (hq : ∀ w, res = Sum.inr w → po (some (.int w)) (hX G J)) (hx : ∀ c, res = Sum.inl c → px (jEn c) (hX G J)) : JW X 0 0 0 [some (.ref 0), some (.int p0), some (.int p1)] [] (hX G J) := by
  unfold p_X5_deed at h
  refine JW.r hM 0 2 (pc2 := 2) (L2 := [some (.ref 0), some (.int p0), some (.int p1)]) (st2 := [.int p0, .ref 0]) (μ2 := (hX G J)) rfl trivial ?_
  rcases jbxE h with h | h
  · obtain ⟨v2, hv1, h⟩ := h
    refine JW.cV (v := none) hM (m_X5_needDeed_r (jVX X) hM.1.2.2.2.2.2.2.2.2.2.1 N G J p0 v2 hv1) (sb_X_X_0 G J) (bi_X_X_0 G J) rfl rfl rfl kc_X5_140 rfl rfl rfl rfl rfl (jat hM.2.1 2 rfl) (st := []) rfl ?_
    show JW X 1 6 5 [some (.ref 0), some (.int p0), some (.int p1)] [] (hX G J)
    refine JW.r hM 3 1 (pc2 := 6) (L2 := [some (.ref 0), some (.int p0), some (.int p1)]) (st2 := [.int p1]) (μ2 := (hX G J)) rfl trivial ?_
    refine js_tsw (t0 := 137) hM.1 (jat hM.2.1 4 rfl) (by decide) rfl (by decide) ⟨fun hc3 t ht => ?_, fun hc3 => ⟨fun hc4 t ht => ?_, fun hc4 => ⟨fun hc5 t ht => ?_, fun hc5 => ⟨fun hc6 t ht => ?_, fun hc6 => ⟨fun hc7 t ht => ?_, fun hc7 => ⟨fun hc8 t ht => ?_, fun hc8 => ⟨fun hc9 t ht => ?_, fun hc9 => ⟨fun hc10 t ht => ?_, fun hc10 => fun t ht => ?_⟩⟩⟩⟩⟩⟩⟩⟩
    · have h := (if_pos hc3).symm.trans h
      obtain rfl : t = 52 := by omega
      obtain ⟨g11, h⟩ := jg h
      refine JW.r hM 5 5 (pc2 := 61) (L2 := [some (.ref 0), some (.int p0), some (.int p1)]) (st2 := [.int (G 5 p0.toNatClampNeg)]) (μ2 := (hX G J)) rfl ⟨g11, trivial⟩ ?_
      obtain rfl := Option.some.inj h
      exact js_iret hM.1 hp hM.2.2.2.2.2.2.2.1 (by rw [hM.2.2.2.2.2.1]; exact Nat.le_of_ble_eq_true rfl) (by rw [hM.2.2.2.2.2.2.1]; exact Nat.le_of_ble_eq_true rfl) (jat hM.2.1 10 rfl) (hq (G 5 p0.toNatClampNeg) rfl)
    · have h := (if_neg hc3).symm.trans h
      have h := (if_pos hc4).symm.trans h
      obtain rfl : t = 62 := by omega
      obtain ⟨g12, h⟩ := jg h
      refine JW.r hM 11 5 (pc2 := 71) (L2 := [some (.ref 0), some (.int p0), some (.int p1)]) (st2 := [.int (G 6 p0.toNatClampNeg)]) (μ2 := (hX G J)) rfl ⟨g12, trivial⟩ ?_
      obtain rfl := Option.some.inj h
      exact js_iret hM.1 hp hM.2.2.2.2.2.2.2.1 (by rw [hM.2.2.2.2.2.1]; exact Nat.le_of_ble_eq_true rfl) (by rw [hM.2.2.2.2.2.2.1]; exact Nat.le_of_ble_eq_true rfl) (jat hM.2.1 16 rfl) (hq (G 6 p0.toNatClampNeg) rfl)
    · have h := (if_neg hc3).symm.trans h
      have h := (if_neg hc4).symm.trans h
      have h := (if_pos hc5).symm.trans h
      obtain rfl : t = 72 := by omega
      obtain ⟨g13, h⟩ := jg h
      refine JW.r hM 17 5 (pc2 := 81) (L2 := [some (.ref 0), some (.int p0), some (.int p1)]) (st2 := [.int (G 7 p0.toNatClampNeg)]) (μ2 := (hX G J)) rfl ⟨g13, trivial⟩ ?_
      obtain rfl := Option.some.inj h
      exact js_iret hM.1 hp hM.2.2.2.2.2.2.2.1 (by rw [hM.2.2.2.2.2.1]; exact Nat.le_of_ble_eq_true rfl) (by rw [hM.2.2.2.2.2.2.1]; exact Nat.le_of_ble_eq_true rfl) (jat hM.2.1 22 rfl) (hq (G 7 p0.toNatClampNeg) rfl)
    · have h := (if_neg hc3).symm.trans h
      have h := (if_neg hc4).symm.trans h
      have h := (if_neg hc5).symm.trans h
      have h := (if_pos hc6).symm.trans h
      obtain rfl : t = 82 := by omega
      obtain ⟨g14, h⟩ := jg h
      refine JW.r hM 23 5 (pc2 := 91) (L2 := [some (.ref 0), some (.int p0), some (.int p1)]) (st2 := [.int (G 8 p0.toNatClampNeg)]) (μ2 := (hX G J)) rfl ⟨g14, trivial⟩ ?_
      obtain rfl := Option.some.inj h
      exact js_iret hM.1 hp hM.2.2.2.2.2.2.2.1 (by rw [hM.2.2.2.2.2.1]; exact Nat.le_of_ble_eq_true rfl) (by rw [hM.2.2.2.2.2.2.1]; exact Nat.le_of_ble_eq_true rfl) (jat hM.2.1 28 rfl) (hq (G 8 p0.toNatClampNeg) rfl)
    · have h := (if_neg hc3).symm.trans h
      have h := (if_neg hc4).symm.trans h
      have h := (if_neg hc5).symm.trans h
      have h := (if_neg hc6).symm.trans h
      have h := (if_pos hc7).symm.trans h
      obtain rfl : t = 92 := by omega
      refine JW.r hM 29 3 (pc2 := 97) (L2 := [some (.ref 0), some (.int p0), some (.int p1)]) (st2 := [.int p0, .ref 1]) (μ2 := (hX G J)) rfl trivial ?_
      obtain ⟨v16, hv15, h⟩ := jbd h
      refine JW.cV (v := some (.int v16)) hM (m_X3_stands (jVX X) hM.1.2.2.2.2.2.2.2.2.2.1 N (jvw G 1) p0 v16 hv15) (sb_X_Town_1 G J) (bi_X_Town_1 G J) rfl rfl rfl kc_X5_155 rfl rfl rfl rfl rfl (jat hM.2.1 32 rfl) (st := []) rfl ?_
      show JW X 1 6 100 [some (.ref 0), some (.int p0), some (.int p1)] [.int v16] (hX G J)
      refine js_ifeq (t := 107) hM.1 (jat hM.2.1 33 rfl) rfl (fun hc17 => ?_) (fun hc17 => ?_)
      · have h := (if_pos hc17).symm.trans h
        refine JW.r hM 36 1 (pc2 := 108) (L2 := [some (.ref 0), some (.int p0), some (.int p1)]) (st2 := [.int (0 : Int32)]) (μ2 := (hX G J)) rfl trivial ?_
        obtain rfl := Option.some.inj h
        exact js_iret hM.1 hp hM.2.2.2.2.2.2.2.1 (by rw [hM.2.2.2.2.2.1]; exact Nat.le_of_ble_eq_true rfl) (by rw [hM.2.2.2.2.2.2.1]; exact Nat.le_of_ble_eq_true rfl) (jat hM.2.1 37 rfl) (hq (0 : Int32) rfl)
      · have h := (if_neg hc17).symm.trans h
        refine JW.r hM 34 2 (pc2 := 108) (L2 := [some (.ref 0), some (.int p0), some (.int p1)]) (st2 := [.int (1 : Int32)]) (μ2 := (hX G J)) rfl trivial ?_
        obtain rfl := Option.some.inj h
        exact js_iret hM.1 hp hM.2.2.2.2.2.2.2.1 (by rw [hM.2.2.2.2.2.1]; exact Nat.le_of_ble_eq_true rfl) (by rw [hM.2.2.2.2.2.2.1]; exact Nat.le_of_ble_eq_true rfl) (jat hM.2.1 37 rfl) (hq (1 : Int32) rfl)
    · have h := (if_neg hc3).symm.trans h
      have h := (if_neg hc4).symm.trans h
      have h := (if_neg hc5).symm.trans h
      have h := (if_neg hc6).symm.trans h
      have h := (if_neg hc7).symm.trans h
      have h := (if_pos hc8).symm.trans h
      obtain rfl : t = 109 := by omega
      obtain ⟨g18, h⟩ := jg h
      refine JW.r hM 38 5 (pc2 := 118) (L2 := [some (.ref 0), some (.int p0), some (.int p1)]) (st2 := [.int (G 9 p0.toNatClampNeg)]) (μ2 := (hX G J)) rfl ⟨g18, trivial⟩ ?_
      obtain rfl := Option.some.inj h
      exact js_iret hM.1 hp hM.2.2.2.2.2.2.2.1 (by rw [hM.2.2.2.2.2.1]; exact Nat.le_of_ble_eq_true rfl) (by rw [hM.2.2.2.2.2.2.1]; exact Nat.le_of_ble_eq_true rfl) (jat hM.2.1 43 rfl) (hq (G 9 p0.toNatClampNeg) rfl)
    · have h := (if_neg hc3).symm.trans h
      have h := (if_neg hc4).symm.trans h
      have h := (if_neg hc5).symm.trans h
      have h := (if_neg hc6).symm.trans h
      have h := (if_neg hc7).symm.trans h
      have h := (if_neg hc8).symm.trans h
      have h := (if_pos hc9).symm.trans h
      obtain rfl : t = 119 := by omega
      refine JW.r hM 44 3 (pc2 := 124) (L2 := [some (.ref 0), some (.int p0), some (.int p1)]) (st2 := [.int p0, .ref 1]) (μ2 := (hX G J)) rfl trivial ?_
      obtain ⟨v20, hv19, h⟩ := jbd h
      refine JW.cV (v := some (.int v20)) hM (m_X3_worthToGiver (jVX X) hM.1.2.2.2.2.2.2.2.2.2.1 N (jvw G 1) p0 v20 hv19) (sb_X_Town_1 G J) (bi_X_Town_1 G J) rfl rfl rfl kc_X5_161 rfl rfl rfl rfl rfl (jat hM.2.1 47 rfl) (st := []) rfl ?_
      show JW X 1 6 127 [some (.ref 0), some (.int p0), some (.int p1)] [.int v20] (hX G J)
      obtain rfl := Option.some.inj h
      exact js_iret hM.1 hp hM.2.2.2.2.2.2.2.1 (by rw [hM.2.2.2.2.2.1]; exact Nat.le_of_ble_eq_true rfl) (by rw [hM.2.2.2.2.2.2.1]; exact Nat.le_of_ble_eq_true rfl) (jat hM.2.1 48 rfl) (hq v20 rfl)
    · have h := (if_neg hc3).symm.trans h
      have h := (if_neg hc4).symm.trans h
      have h := (if_neg hc5).symm.trans h
      have h := (if_neg hc6).symm.trans h
      have h := (if_neg hc7).symm.trans h
      have h := (if_neg hc8).symm.trans h
      have h := (if_neg hc9).symm.trans h
      have h := (if_pos hc10).symm.trans h
      obtain rfl : t = 128 := by omega
      refine JW.r hM 49 3 (pc2 := 133) (L2 := [some (.ref 0), some (.int p0), some (.int p1)]) (st2 := [.int p0, .ref 1]) (μ2 := (hX G J)) rfl trivial ?_
      obtain ⟨v22, hv21, h⟩ := jbd h
      refine JW.cV (v := some (.int v22)) hM (m_X3_worthToTaker (jVX X) hM.1.2.2.2.2.2.2.2.2.2.1 N (jvw G 1) p0 v22 hv21) (sb_X_Town_1 G J) (bi_X_Town_1 G J) rfl rfl rfl kc_X5_164 rfl rfl rfl rfl rfl (jat hM.2.1 52 rfl) (st := []) rfl ?_
      show JW X 1 6 136 [some (.ref 0), some (.int p0), some (.int p1)] [.int v22] (hX G J)
      obtain rfl := Option.some.inj h
      exact js_iret hM.1 hp hM.2.2.2.2.2.2.2.1 (by rw [hM.2.2.2.2.2.1]; exact Nat.le_of_ble_eq_true rfl) (by rw [hM.2.2.2.2.2.2.1]; exact Nat.le_of_ble_eq_true rfl) (jat hM.2.1 53 rfl) (hq v22 rfl)
    · have h := (if_neg hc3).symm.trans h
      have h := (if_neg hc4).symm.trans h
      have h := (if_neg hc5).symm.trans h
      have h := (if_neg hc6).symm.trans h
      have h := (if_neg hc7).symm.trans h
      have h := (if_neg hc8).symm.trans h
      have h := (if_neg hc9).symm.trans h
      have h := (if_neg hc10).symm.trans h
      obtain rfl : t = 137 := by omega
      obtain rfl := Option.some.inj h
      exact js_throw (ik := 56) (ic := 58) (names := ["java/lang/RuntimeException", "java/lang/Exception"]) hM.1 hp hM.2.2.2.2.2.2.2.2.2 (by decide) (by decide) (by rw [hM.2.2.1]; exact th_X5_56_58) (jat hM.2.1 54 rfl) (jat hM.2.1 55 rfl) (jat hM.2.1 56 rfl) (jat hM.2.1 57 rfl) (by rw [hM.2.2.2.2.1]; exact Nat.le_of_ble_eq_true rfl) (by rw [hM.2.2.2.2.1]; exact Nat.le_of_ble_eq_true rfl) (by rw [hM.2.2.2.2.2.1]; exact Nat.le_of_ble_eq_true rfl) (by rw [hM.2.2.2.2.2.2.1]; exact Nat.le_of_ble_eq_true rfl) (hx _ rfl)
  · obtain ⟨c23, hv1, h⟩ := h
    subst h
    exact JW.xV hM hp (E := jEn c23) (m_X5_needDeed_x (jVX X) hM.1.2.2.2.2.2.2.2.2.2.1 N G J p0 c23 hv1) (sb_X_X_0 G J) (bi_X_X_0 G J) rfl rfl kc_X5_140 rfl rfl rfl rfl rfl (jat hM.2.1 2 rfl) (st := []) rfl (hx _ rfl)
theorem m_X5_deed_r (V : jV) (hV : V.1.stackTraces = false) (N : Nat) (G : Nat → Nat → Int32) (J : Nat → Nat → Int64) (p0 : Int32) (p1 : Int32) (v : (Int32)) (h : p_X5_deed N G J p0 p1 = some (.inr v)) : jMet V yX5_deed (jws yX5_deed cX5_deed 3 (some .int)) ⟨7, 2, 12, 110⟩ true 1 [.ref 0, .int p0, .int p1] (hX G J) (fun o ν => o = some (.int v) ∧ ν = (hX G J)) (fun _ _ => False) := by
  refine jmk (tb := tbX5) (C := kX5_deed) hV rfl (by decide) tbX5_ok rfl kX5_deed_ok rfl ?_
  intro X hM _ hp _
  exact t_X5_deed hM hp N G J p0 p1 h (fun w hw => by cases hw; exact ⟨rfl, rfl⟩) (fun c hc => by cases hc)
theorem m_X5_deed_x (V : jV) (hV : V.1.stackTraces = false) (N : Nat) (G : Nat → Nat → Int32) (J : Nat → Nat → Int64) (p0 : Int32) (p1 : Int32) (c : Nat) (h : p_X5_deed N G J p0 p1 = some (.inl c)) : jMet V yX5_deed (jws yX5_deed cX5_deed 3 (some .int)) ⟨7, 2, 12, 110⟩ true 1 [.ref 0, .int p0, .int p1] (hX G J) (fun _ _ => False) (fun E ν => E = jEn c ∧ ν = (hX G J)) := by
  refine jmk (tb := tbX5) (C := kX5_deed) hV rfl (by decide) tbX5_ok rfl kX5_deed_ok rfl ?_
  intro X hM _ hp _
  exact t_X5_deed hM hp N G J p0 p1 h (fun w hw => by cases hw) (fun c hc => by cases hc; exact ⟨rfl, rfl⟩)
def p_X5_may (N : Nat) (G : Nat → Nat → Int32) (J : Nat → Nat → Int64) (p0 : Int32) (p1 : Int32) : Option (Nat ⊕ (Int32)) :=
  jbx (p_X5_needPerson N G J p1) (fun v2 => (p_X3_whyNoUndoing N (jvw G 1) p0 p1).bind (fun v4 => some (.inr v4)))
set_option maxHeartbeats 4000000 in
set_option maxRecDepth 100000 in
theorem t_X5_may {X : jX} {po : Option Value → jH → Prop} {px : String → jH → Prop} {sf : Bool} {B9 : Nat} (hM : jMX X kX5_may RX5 tbX5 3 ⟨7, 1, 6, 110⟩ (some .int) 71) (hp : jPost X sf B9 po px) (N : Nat) (G : Nat → Nat → Int32) (J : Nat → Nat → Int64) (p0 : Int32) (p1 : Int32) {res : Nat ⊕ (Int32)} (h : p_X5_may N G J p0 p1 = some res) (hq : ∀ w, res = Sum.inr w → po (some (.int w)) (hX G J)) (hx : ∀ c, res = Sum.inl c → px (jEn c) (hX G J)) : JW X 0 0 0 [some (.ref 0), some (.int p0), some (.int p1)] [] (hX G J) := by
  unfold p_X5_may at h
  refine JW.r hM 0 2 (pc2 := 2) (L2 := [some (.ref 0), some (.int p0), some (.int p1)]) (st2 := [.int p1, .ref 0]) (μ2 := (hX G J)) rfl trivial ?_
  rcases jbxE h with h | h
  · obtain ⟨v2, hv1, h⟩ := h
    refine JW.cV (v := none) hM (m_X5_needPerson_r (jVX X) hM.1.2.2.2.2.2.2.2.2.2.1 N G J p1 v2 hv1) (sb_X_X_0 G J) (bi_X_X_0 G J) rfl rfl rfl kc_X5_76 rfl rfl rfl rfl rfl (jat hM.2.1 2 rfl) (st := []) rfl ?_
    show JW X 1 6 5 [some (.ref 0), some (.int p0), some (.int p1)] [] (hX G J)
    refine JW.r hM 3 4 (pc2 := 11) (L2 := [some (.ref 0), some (.int p0), some (.int p1)]) (st2 := [.int p1, .int p0, .ref 1]) (μ2 := (hX G J)) rfl trivial ?_
    obtain ⟨v4, hv3, h⟩ := jbd h
    refine JW.cV (v := some (.int v4)) hM (m_X3_whyNoUndoing (jVX X) hM.1.2.2.2.2.2.2.2.2.2.1 N (jvw G 1) p0 p1 v4 hv3) (sb_X_Town_1 G J) (bi_X_Town_1 G J) rfl rfl rfl kc_X5_167 rfl rfl rfl rfl rfl (jat hM.2.1 7 rfl) (st := []) rfl ?_
    show JW X 1 6 14 [some (.ref 0), some (.int p0), some (.int p1)] [.int v4] (hX G J)
    obtain rfl := Option.some.inj h
    exact js_iret hM.1 hp hM.2.2.2.2.2.2.2.1 (by rw [hM.2.2.2.2.2.1]; exact Nat.le_of_ble_eq_true rfl) (by rw [hM.2.2.2.2.2.2.1]; exact Nat.le_of_ble_eq_true rfl) (jat hM.2.1 8 rfl) (hq v4 rfl)
  · obtain ⟨c5, hv1, h⟩ := h
    subst h
    exact JW.xV hM hp (E := jEn c5) (m_X5_needPerson_x (jVX X) hM.1.2.2.2.2.2.2.2.2.2.1 N G J p1 c5 hv1) (sb_X_X_0 G J) (bi_X_X_0 G J) rfl rfl kc_X5_76 rfl rfl rfl rfl rfl (jat hM.2.1 2 rfl) (st := []) rfl (hx _ rfl)
theorem m_X5_may_r (V : jV) (hV : V.1.stackTraces = false) (N : Nat) (G : Nat → Nat → Int32) (J : Nat → Nat → Int64) (p0 : Int32) (p1 : Int32) (v : (Int32)) (h : p_X5_may N G J p0 p1 = some (.inr v)) : jMet V yX5_may (jws yX5_may cX5_may 3 (some .int)) ⟨7, 1, 6, 110⟩ true 1 [.ref 0, .int p0, .int p1] (hX G J) (fun o ν => o = some (.int v) ∧ ν = (hX G J)) (fun _ _ => False) := by
  refine jmk (tb := tbX5) (C := kX5_may) hV rfl (by decide) tbX5_ok rfl kX5_may_ok rfl ?_
  intro X hM _ hp _
  exact t_X5_may hM hp N G J p0 p1 h (fun w hw => by cases hw; exact ⟨rfl, rfl⟩) (fun c hc => by cases hc)
theorem m_X5_may_x (V : jV) (hV : V.1.stackTraces = false) (N : Nat) (G : Nat → Nat → Int32) (J : Nat → Nat → Int64) (p0 : Int32) (p1 : Int32) (c : Nat) (h : p_X5_may N G J p0 p1 = some (.inl c)) : jMet V yX5_may (jws yX5_may cX5_may 3 (some .int)) ⟨7, 1, 6, 110⟩ true 1 [.ref 0, .int p0, .int p1] (hX G J) (fun _ _ => False) (fun E ν => E = jEn c ∧ ν = (hX G J)) := by
  refine jmk (tb := tbX5) (C := kX5_may) hV rfl (by decide) tbX5_ok rfl kX5_may_ok rfl ?_
  intro X hM _ hp _
  exact t_X5_may hM hp N G J p0 p1 h (fun w hw => by cases hw) (fun c hc => by cases hc; exact ⟨rfl, rfl⟩)
def p_X5_undo (N : Nat) (G : Nat → Nat → Int32) (J : Nat → Nat → Int64) (p0 : Int32) (p1 : Int32) : Option (Nat ⊕ (Int32 × (Nat → Nat → Int32))) :=
  jbx (p_X5_needPerson N G J p1) (fun v2 => (p_X3_whyNoUndoing N (jvw G 1) p0 p1).bind (fun v4 => if v4 = 0 then ((p_X3_fell N (jvw G 1) p0 p1).bind (fun v6 => jlt (jpt G 1 9 v6.2) fun G7 => some (.inr (v6.1, G7)))) else (some (.inr (((-10 : Int32) - v4), G)))))
set_option maxHeartbeats 4000000 in
set_option maxRecDepth 100000 in
theorem t_X5_undo {X : jX} {po : Option Value → jH → Prop} {px : String → jH → Prop} {sf : Bool} {B9 : Nat} (hM : jMX X kX5_undo RX5 tbX5 4 ⟨7, 1, 6, 110⟩ (some .int) 71) (hp : jPost X sf B9 po px) (N : Nat) (G : Nat → Nat → Int32) (J : Nat → Nat → Int64) (p0 : Int32) (p1 : Int32) {res : Nat ⊕ (Int32 × (Nat → Nat → Int32))} (h : p_X5_undo N G J p0 p1 = some res) (hq : ∀ w, res = Sum.inr w → po (some (.int w.1)) (hX w.2 J)) (hx : ∀ c, res = Sum.inl c → px (jEn c) (hX G J)) : JW X 0 0 0 [some (.ref 0), some (.int p0), some (.int p1), none] [] (hX G J) := by
  unfold p_X5_undo at h
  refine JW.r hM 0 2 (pc2 := 2) (L2 := [some (.ref 0), some (.int p0), some (.int p1), none]) (st2 := [.int p1, .ref 0]) (μ2 := (hX G J)) rfl trivial ?_
  rcases jbxE h with h | h
  · obtain ⟨v2, hv1, h⟩ := h
    refine JW.cV (v := none) hM (m_X5_needPerson_r (jVX X) hM.1.2.2.2.2.2.2.2.2.2.1 N G J p1 v2 hv1) (sb_X_X_0 G J) (bi_X_X_0 G J) rfl rfl rfl kc_X5_76 rfl rfl rfl rfl rfl (jat hM.2.1 2 rfl) (st := []) rfl ?_
    show JW X 1 6 5 [some (.ref 0), some (.int p0), some (.int p1), none] [] (hX G J)
    refine JW.r hM 3 4 (pc2 := 11) (L2 := [some (.ref 0), some (.int p0), some (.int p1), none]) (st2 := [.int p1, .int p0, .ref 1]) (μ2 := (hX G J)) rfl trivial ?_
    obtain ⟨v4, hv3, h⟩ := jbd h
    refine JW.cV (v := some (.int v4)) hM (m_X3_whyNoUndoing (jVX X) hM.1.2.2.2.2.2.2.2.2.2.1 N (jvw G 1) p0 p1 v4 hv3) (sb_X_Town_1 G J) (bi_X_Town_1 G J) rfl rfl rfl kc_X5_167 rfl rfl rfl rfl rfl (jat hM.2.1 7 rfl) (st := []) rfl ?_
    show JW X 1 6 14 [some (.ref 0), some (.int p0), some (.int p1), none] [.int v4] (hX G J)
    refine JW.r hM 8 2 (pc2 := 16) (L2 := [some (.ref 0), some (.int p0), some (.int p1), some (.int v4)]) (st2 := [.int v4]) (μ2 := (hX G J)) rfl trivial ?_
    refine js_ifne (t := 31) hM.1 (jat hM.2.1 10 rfl) rfl (fun hc9 => ?_) (fun hc9 => ?_)
    · have h := (if_neg hc9).symm.trans h
      refine JW.r hM 17 3 (pc2 := 35) (L2 := [some (.ref 0), some (.int p0), some (.int p1), some (.int v4)]) (st2 := [.int ((-10 : Int32) - v4)]) (μ2 := (hX G J)) rfl trivial ?_
      obtain rfl := Option.some.inj h
      exact js_iret hM.1 hp hM.2.2.2.2.2.2.2.1 (by rw [hM.2.2.2.2.2.1]; exact Nat.le_of_ble_eq_true rfl) (by rw [hM.2.2.2.2.2.2.1]; exact Nat.le_of_ble_eq_true rfl) (jat hM.2.1 20 rfl) (hq (((-10 : Int32) - v4), G) rfl)
    · have h := (if_pos hc9).symm.trans h
      refine JW.r hM 11 4 (pc2 := 25) (L2 := [some (.ref 0), some (.int p0), some (.int p1), some (.int v4)]) (st2 := [.int p1, .int p0, .ref 1]) (μ2 := (hX G J)) rfl trivial ?_
      obtain ⟨v6, hv5, h⟩ := jbd h
      refine JW.cV (v := some (.int v6.1)) hM (m_X3_fell (jVX X) hM.1.2.2.2.2.2.2.2.2.2.1 N (jvw G 1) p0 p1 v6 hv5) (sb_X_Town_1 G J) (bk_X_Town_1 G J v6.2) rfl rfl rfl kc_X5_170 rfl rfl rfl rfl rfl (jat hM.2.1 15 rfl) (st := []) rfl ?_
      show JW X 1 6 28 [some (.ref 0), some (.int p0), some (.int p1), some (.int v4)] [.int v6.1] (hX (jpt G 1 9 v6.2) J)
      obtain ⟨G7, e8, h⟩ := jlE h
      rw [e8]
      refine JW.r hM 16 1 (pc2 := 35) (L2 := [some (.ref 0), some (.int p0), some (.int p1), some (.int v4)]) (st2 := [.int v6.1]) (μ2 := (hX G7 J)) rfl trivial ?_
      obtain rfl := Option.some.inj h
      exact js_iret hM.1 hp hM.2.2.2.2.2.2.2.1 (by rw [hM.2.2.2.2.2.1]; exact Nat.le_of_ble_eq_true rfl) (by rw [hM.2.2.2.2.2.2.1]; exact Nat.le_of_ble_eq_true rfl) (jat hM.2.1 20 rfl) (hq (v6.1, G7) rfl)
  · obtain ⟨c10, hv1, h⟩ := h
    subst h
    exact JW.xV hM hp (E := jEn c10) (m_X5_needPerson_x (jVX X) hM.1.2.2.2.2.2.2.2.2.2.1 N G J p1 c10 hv1) (sb_X_X_0 G J) (bi_X_X_0 G J) rfl rfl kc_X5_76 rfl rfl rfl rfl rfl (jat hM.2.1 2 rfl) (st := []) rfl (hx _ rfl)
theorem m_X5_undo_r (V : jV) (hV : V.1.stackTraces = false) (N : Nat) (G : Nat → Nat → Int32) (J : Nat → Nat → Int64) (p0 : Int32) (p1 : Int32) (v : (Int32 × (Nat → Nat → Int32))) (h : p_X5_undo N G J p0 p1 = some (.inr v)) : jMet V yX5_undo (jws yX5_undo cX5_undo 4 (some .int)) ⟨7, 1, 6, 110⟩ true 1 [.ref 0, .int p0, .int p1] (hX G J) (fun o ν => o = some (.int v.1) ∧ ν = (hX v.2 J)) (fun _ _ => False) := by
  refine jmk (tb := tbX5) (C := kX5_undo) hV rfl (by decide) tbX5_ok rfl kX5_undo_ok rfl ?_
  intro X hM _ hp _
  exact t_X5_undo hM hp N G J p0 p1 h (fun w hw => by cases hw; exact ⟨rfl, rfl⟩) (fun c hc => by cases hc)
theorem m_X5_undo_x (V : jV) (hV : V.1.stackTraces = false) (N : Nat) (G : Nat → Nat → Int32) (J : Nat → Nat → Int64) (p0 : Int32) (p1 : Int32) (c : Nat) (h : p_X5_undo N G J p0 p1 = some (.inl c)) : jMet V yX5_undo (jws yX5_undo cX5_undo 4 (some .int)) ⟨7, 1, 6, 110⟩ true 1 [.ref 0, .int p0, .int p1] (hX G J) (fun _ _ => False) (fun E ν => E = jEn c ∧ ν = (hX G J)) := by
  refine jmk (tb := tbX5) (C := kX5_undo) hV rfl (by decide) tbX5_ok rfl kX5_undo_ok rfl ?_
  intro X hM _ hp _
  exact t_X5_undo hM hp N G J p0 p1 h (fun w hw => by cases hw) (fun c hc => by cases hc; exact ⟨rfl, rfl⟩)
def p_X5_falls (N : Nat) (G : Nat → Nat → Int32) (J : Nat → Nat → Int64) (p0 : Int32) : Option (Nat ⊕ (Int32)) :=
  jbx (p_X5_needDeed N G J p0) (fun v2 => (p_X3_fallBits N (jvw G 1) p0).bind (fun v4 => some (.inr v4)))
set_option maxHeartbeats 4000000 in
set_option maxRecDepth 100000 in
theorem t_X5_falls {X : jX} {po : Option Value → jH → Prop} {px : String → jH → Prop} {sf : Bool} {B9 : Nat} (hM : jMX X kX5_falls RX5 tbX5 2 ⟨7, 1, 6, 110⟩ (some .int) 71) (hp : jPost X sf B9 po px) (N : Nat) (G : Nat → Nat → Int32) (J : Nat → Nat → Int64) (p0 : Int32) {res : Nat ⊕ (Int32)} (h : p_X5_falls N G J p0 = some res) (hq : ∀ w, res = Sum.inr w → po (some (.int w)) (hX G J)) (hx : ∀ c, res = Sum.inl c → px (jEn c) (hX G J)) : JW X 0 0 0 [some (.ref 0), some (.int p0)] [] (hX G J) := by
  unfold p_X5_falls at h
  refine JW.r hM 0 2 (pc2 := 2) (L2 := [some (.ref 0), some (.int p0)]) (st2 := [.int p0, .ref 0]) (μ2 := (hX G J)) rfl trivial ?_
  rcases jbxE h with h | h
  · obtain ⟨v2, hv1, h⟩ := h
    refine JW.cV (v := none) hM (m_X5_needDeed_r (jVX X) hM.1.2.2.2.2.2.2.2.2.2.1 N G J p0 v2 hv1) (sb_X_X_0 G J) (bi_X_X_0 G J) rfl rfl rfl kc_X5_140 rfl rfl rfl rfl rfl (jat hM.2.1 2 rfl) (st := []) rfl ?_
    show JW X 1 6 5 [some (.ref 0), some (.int p0)] [] (hX G J)
    refine JW.r hM 3 3 (pc2 := 10) (L2 := [some (.ref 0), some (.int p0)]) (st2 := [.int p0, .ref 1]) (μ2 := (hX G J)) rfl trivial ?_
    obtain ⟨v4, hv3, h⟩ := jbd h
    refine JW.cV (v := some (.int v4)) hM (m_X3_fallBits (jVX X) hM.1.2.2.2.2.2.2.2.2.2.1 N (jvw G 1) p0 v4 hv3) (sb_X_Town_1 G J) (bi_X_Town_1 G J) rfl rfl rfl kc_X5_173 rfl rfl rfl rfl rfl (jat hM.2.1 6 rfl) (st := []) rfl ?_
    show JW X 1 6 13 [some (.ref 0), some (.int p0)] [.int v4] (hX G J)
    obtain rfl := Option.some.inj h
    exact js_iret hM.1 hp hM.2.2.2.2.2.2.2.1 (by rw [hM.2.2.2.2.2.1]; exact Nat.le_of_ble_eq_true rfl) (by rw [hM.2.2.2.2.2.2.1]; exact Nat.le_of_ble_eq_true rfl) (jat hM.2.1 7 rfl) (hq v4 rfl)
  · obtain ⟨c5, hv1, h⟩ := h
    subst h
    exact JW.xV hM hp (E := jEn c5) (m_X5_needDeed_x (jVX X) hM.1.2.2.2.2.2.2.2.2.2.1 N G J p0 c5 hv1) (sb_X_X_0 G J) (bi_X_X_0 G J) rfl rfl kc_X5_140 rfl rfl rfl rfl rfl (jat hM.2.1 2 rfl) (st := []) rfl (hx _ rfl)
theorem m_X5_falls_r (V : jV) (hV : V.1.stackTraces = false) (N : Nat) (G : Nat → Nat → Int32) (J : Nat → Nat → Int64) (p0 : Int32) (v : (Int32)) (h : p_X5_falls N G J p0 = some (.inr v)) : jMet V yX5_falls (jws yX5_falls cX5_falls 2 (some .int)) ⟨7, 1, 6, 110⟩ true 1 [.ref 0, .int p0] (hX G J) (fun o ν => o = some (.int v) ∧ ν = (hX G J)) (fun _ _ => False) := by
  refine jmk (tb := tbX5) (C := kX5_falls) hV rfl (by decide) tbX5_ok rfl kX5_falls_ok rfl ?_
  intro X hM _ hp _
  exact t_X5_falls hM hp N G J p0 h (fun w hw => by cases hw; exact ⟨rfl, rfl⟩) (fun c hc => by cases hc)
theorem m_X5_falls_x (V : jV) (hV : V.1.stackTraces = false) (N : Nat) (G : Nat → Nat → Int32) (J : Nat → Nat → Int64) (p0 : Int32) (c : Nat) (h : p_X5_falls N G J p0 = some (.inl c)) : jMet V yX5_falls (jws yX5_falls cX5_falls 2 (some .int)) ⟨7, 1, 6, 110⟩ true 1 [.ref 0, .int p0] (hX G J) (fun _ _ => False) (fun E ν => E = jEn c ∧ ν = (hX G J)) := by
  refine jmk (tb := tbX5) (C := kX5_falls) hV rfl (by decide) tbX5_ok rfl kX5_falls_ok rfl ?_
  intro X hM _ hp _
  exact t_X5_falls hM hp N G J p0 h (fun w hw => by cases hw) (fun c hc => by cases hc; exact ⟨rfl, rfl⟩)
def p_X5_owes (N : Nat) (G : Nat → Nat → Int32) (J : Nat → Nat → Int64) (p0 : Int32) (p1 : Int32) (p2 : Int32) : Option (Nat ⊕ (Int32)) :=
  jbx (p_X5_needDeed N G J p0) (fun v2 => jbx (p_X5_needPerson N G J p1) (fun v4 => jbx (p_X5_needPerson N G J p2) (fun v6 => (p_X3_isOf N (jvw G 1) p0 p1).bind (fun v8 => if v8 = 0 then (some (.inr (0 : Int32))) else ((p_X3_owedTo N (jvw G 1) p0 p1 p2).bind (fun v10 => some (.inr v10)))))))
set_option maxHeartbeats 4000000 in
set_option maxRecDepth 100000 in
theorem t_X5_owes {X : jX} {po : Option Value → jH → Prop} {px : String → jH → Prop} {sf : Bool} {B9 : Nat} (hM : jMX X kX5_owes RX5 tbX5 4 ⟨7, 3, 18, 110⟩ (some .int) 71) (hp : jPost X sf B9 po px) (N : Nat) (G : Nat → Nat → Int32) (J : Nat → Nat → Int64) (p0 : Int32) (p1 : Int32) (p2 : Int32) {res : Nat ⊕ (Int32)} (h : p_X5_owes N G J p0 p1 p2 = some res) (hq : ∀ w, res = Sum.inr w → po (some (.int w)) (hX G J)) (hx : ∀ c, res = Sum.inl c → px (jEn c) (hX G J)) : JW X 0 0 0 [some (.ref 0), some (.int p0), some (.int p1), some (.int p2)] [] (hX G J) := by
  unfold p_X5_owes at h
  refine JW.r hM 0 2 (pc2 := 2) (L2 := [some (.ref 0), some (.int p0), some (.int p1), some (.int p2)]) (st2 := [.int p0, .ref 0]) (μ2 := (hX G J)) rfl trivial ?_
  rcases jbxE h with h | h
  · obtain ⟨v2, hv1, h⟩ := h
    refine JW.cV (v := none) hM (m_X5_needDeed_r (jVX X) hM.1.2.2.2.2.2.2.2.2.2.1 N G J p0 v2 hv1) (sb_X_X_0 G J) (bi_X_X_0 G J) rfl rfl rfl kc_X5_140 rfl rfl rfl rfl rfl (jat hM.2.1 2 rfl) (st := []) rfl ?_
    show JW X 1 6 5 [some (.ref 0), some (.int p0), some (.int p1), some (.int p2)] [] (hX G J)
    refine JW.r hM 3 2 (pc2 := 7) (L2 := [some (.ref 0), some (.int p0), some (.int p1), some (.int p2)]) (st2 := [.int p1, .ref 0]) (μ2 := (hX G J)) rfl trivial ?_
    rcases jbxE h with h | h
    · obtain ⟨v4, hv3, h⟩ := h
      refine JW.cV (v := none) hM (m_X5_needPerson_r (jVX X) hM.1.2.2.2.2.2.2.2.2.2.1 N G J p1 v4 hv3) (sb_X_X_0 G J) (bi_X_X_0 G J) rfl rfl rfl kc_X5_76 rfl rfl rfl rfl rfl (jat hM.2.1 5 rfl) (st := []) rfl ?_
      show JW X 2 12 10 [some (.ref 0), some (.int p0), some (.int p1), some (.int p2)] [] (hX G J)
      refine JW.r hM 6 2 (pc2 := 12) (L2 := [some (.ref 0), some (.int p0), some (.int p1), some (.int p2)]) (st2 := [.int p2, .ref 0]) (μ2 := (hX G J)) rfl trivial ?_
      rcases jbxE h with h | h
      · obtain ⟨v6, hv5, h⟩ := h
        refine JW.cV (v := none) hM (m_X5_needPerson_r (jVX X) hM.1.2.2.2.2.2.2.2.2.2.1 N G J p2 v6 hv5) (sb_X_X_0 G J) (bi_X_X_0 G J) rfl rfl rfl kc_X5_76 rfl rfl rfl rfl rfl (jat hM.2.1 8 rfl) (st := []) rfl ?_
        show JW X 3 18 15 [some (.ref 0), some (.int p0), some (.int p1), some (.int p2)] [] (hX G J)
        refine JW.r hM 9 4 (pc2 := 21) (L2 := [some (.ref 0), some (.int p0), some (.int p1), some (.int p2)]) (st2 := [.int p1, .int p0, .ref 1]) (μ2 := (hX G J)) rfl trivial ?_
        obtain ⟨v8, hv7, h⟩ := jbd h
        refine JW.cV (v := some (.int v8)) hM (m_X3_isOf (jVX X) hM.1.2.2.2.2.2.2.2.2.2.1 N (jvw G 1) p0 p1 v8 hv7) (sb_X_Town_1 G J) (bi_X_Town_1 G J) rfl rfl rfl kc_X5_176 rfl rfl rfl rfl rfl (jat hM.2.1 13 rfl) (st := []) rfl ?_
        show JW X 3 18 24 [some (.ref 0), some (.int p0), some (.int p1), some (.int p2)] [.int v8] (hX G J)
        refine js_ifeq (t := 40) hM.1 (jat hM.2.1 14 rfl) rfl (fun hc11 => ?_) (fun hc11 => ?_)
        · have h := (if_pos hc11).symm.trans h
          refine JW.r hM 22 1 (pc2 := 41) (L2 := [some (.ref 0), some (.int p0), some (.int p1), some (.int p2)]) (st2 := [.int (0 : Int32)]) (μ2 := (hX G J)) rfl trivial ?_
          obtain rfl := Option.some.inj h
          exact js_iret hM.1 hp hM.2.2.2.2.2.2.2.1 (by rw [hM.2.2.2.2.2.1]; exact Nat.le_of_ble_eq_true rfl) (by rw [hM.2.2.2.2.2.2.1]; exact Nat.le_of_ble_eq_true rfl) (jat hM.2.1 23 rfl) (hq (0 : Int32) rfl)
        · have h := (if_neg hc11).symm.trans h
          refine JW.r hM 15 5 (pc2 := 34) (L2 := [some (.ref 0), some (.int p0), some (.int p1), some (.int p2)]) (st2 := [.int p2, .int p1, .int p0, .ref 1]) (μ2 := (hX G J)) rfl trivial ?_
          obtain ⟨v10, hv9, h⟩ := jbd h
          refine JW.cV (v := some (.int v10)) hM (m_X3_owedTo (jVX X) hM.1.2.2.2.2.2.2.2.2.2.1 N (jvw G 1) p0 p1 p2 v10 hv9) (sb_X_Town_1 G J) (bi_X_Town_1 G J) rfl rfl rfl kc_X5_180 rfl rfl rfl rfl rfl (jat hM.2.1 20 rfl) (st := []) rfl ?_
          show JW X 3 18 37 [some (.ref 0), some (.int p0), some (.int p1), some (.int p2)] [.int v10] (hX G J)
          refine JW.r hM 21 1 (pc2 := 41) (L2 := [some (.ref 0), some (.int p0), some (.int p1), some (.int p2)]) (st2 := [.int v10]) (μ2 := (hX G J)) rfl trivial ?_
          obtain rfl := Option.some.inj h
          exact js_iret hM.1 hp hM.2.2.2.2.2.2.2.1 (by rw [hM.2.2.2.2.2.1]; exact Nat.le_of_ble_eq_true rfl) (by rw [hM.2.2.2.2.2.2.1]; exact Nat.le_of_ble_eq_true rfl) (jat hM.2.1 23 rfl) (hq v10 rfl)
      · obtain ⟨c12, hv5, h⟩ := h
        subst h
        exact JW.xV hM hp (E := jEn c12) (m_X5_needPerson_x (jVX X) hM.1.2.2.2.2.2.2.2.2.2.1 N G J p2 c12 hv5) (sb_X_X_0 G J) (bi_X_X_0 G J) rfl rfl kc_X5_76 rfl rfl rfl rfl rfl (jat hM.2.1 8 rfl) (st := []) rfl (hx _ rfl)
    · obtain ⟨c13, hv3, h⟩ := h
      subst h
      exact JW.xV hM hp (E := jEn c13) (m_X5_needPerson_x (jVX X) hM.1.2.2.2.2.2.2.2.2.2.1 N G J p1 c13 hv3) (sb_X_X_0 G J) (bi_X_X_0 G J) rfl rfl kc_X5_76 rfl rfl rfl rfl rfl (jat hM.2.1 5 rfl) (st := []) rfl (hx _ rfl)
  · obtain ⟨c14, hv1, h⟩ := h
    subst h
    exact JW.xV hM hp (E := jEn c14) (m_X5_needDeed_x (jVX X) hM.1.2.2.2.2.2.2.2.2.2.1 N G J p0 c14 hv1) (sb_X_X_0 G J) (bi_X_X_0 G J) rfl rfl kc_X5_140 rfl rfl rfl rfl rfl (jat hM.2.1 2 rfl) (st := []) rfl (hx _ rfl)
theorem m_X5_owes_r (V : jV) (hV : V.1.stackTraces = false) (N : Nat) (G : Nat → Nat → Int32) (J : Nat → Nat → Int64) (p0 : Int32) (p1 : Int32) (p2 : Int32) (v : (Int32)) (h : p_X5_owes N G J p0 p1 p2 = some (.inr v)) : jMet V yX5_owes (jws yX5_owes cX5_owes 4 (some .int)) ⟨7, 3, 18, 110⟩ true 1 [.ref 0, .int p0, .int p1, .int p2] (hX G J) (fun o ν => o = some (.int v) ∧ ν = (hX G J)) (fun _ _ => False) := by
  refine jmk (tb := tbX5) (C := kX5_owes) hV rfl (by decide) tbX5_ok rfl kX5_owes_ok rfl ?_
  intro X hM _ hp _
  exact t_X5_owes hM hp N G J p0 p1 p2 h (fun w hw => by cases hw; exact ⟨rfl, rfl⟩) (fun c hc => by cases hc)
theorem m_X5_owes_x (V : jV) (hV : V.1.stackTraces = false) (N : Nat) (G : Nat → Nat → Int32) (J : Nat → Nat → Int64) (p0 : Int32) (p1 : Int32) (p2 : Int32) (c : Nat) (h : p_X5_owes N G J p0 p1 p2 = some (.inl c)) : jMet V yX5_owes (jws yX5_owes cX5_owes 4 (some .int)) ⟨7, 3, 18, 110⟩ true 1 [.ref 0, .int p0, .int p1, .int p2] (hX G J) (fun _ _ => False) (fun E ν => E = jEn c ∧ ν = (hX G J)) := by
  refine jmk (tb := tbX5) (C := kX5_owes) hV rfl (by decide) tbX5_ok rfl kX5_owes_ok rfl ?_
  intro X hM _ hp _
  exact t_X5_owes hM hp N G J p0 p1 p2 h (fun w hw => by cases hw) (fun c hc => by cases hc; exact ⟨rfl, rfl⟩)
def p_X5_chain_b59 (N : Nat) (G : Nat → Nat → Int32) (J : Nat → Nat → Int64) (rv10 : Int32 → Int32 → Int32 → Int32 → Option (Nat ⊕ (Int32))) (x1 : Int32) (x2 : Int32) (x3 : Int32) (x4 : Int32) : Option (Nat ⊕ (Int32)) :=
  rv10 x1 x2 x3 (x4 + 1)
def p_X5_chain_b10 (N : Nat) (G : Nat → Nat → Int32) (J : Nat → Nat → Int64) : Nat → (Int32) → (Int32) → (Int32) → (Int32) → Option (Nat ⊕ (Int32))
  | 0, _, _, _, _ => none
  | n + 1, x1, x2, x3, x4 => if (G 1 7) ≤ x4 then (some (.inr (-1 : Int32))) else (if jin x4 30 = true then if (G 5 x4.toNatClampNeg) = x1 then ((p_X3_stands N (jvw G 1) x4).bind (fun v5 => if v5 = 0 then (p_X5_chain_b59 N G J (p_X5_chain_b10 N G J n) x1 x2 x3 x4) else (if x3 = x2 then (some (.inr x4)) else (p_X5_chain_b59 N G J (p_X5_chain_b10 N G J n) x1 x2 (x3 + 1) x4)))) else (p_X5_chain_b59 N G J (p_X5_chain_b10 N G J n) x1 x2 x3 x4) else none)
def p_X5_chain (N : Nat) (G : Nat → Nat → Int32) (J : Nat → Nat → Int64) (p0 : Int32) (p1 : Int32) : Option (Nat ⊕ (Int32)) :=
  jbx (p_X5_needThing N G J p0) (fun v2 => p_X5_chain_b10 N G J N p0 p1 (0 : Int32) (0 : Int32))
set_option maxHeartbeats 4000000 in
set_option maxRecDepth 100000 in
theorem t_X5_chain_b59 {X : jX} {po : Option Value → jH → Prop} {px : String → jH → Prop} {sf : Bool} {B9 : Nat} (hM : jMX X kX5_chain RX5 tbX5 5 ⟨7, 1, 6, 110⟩ (some .int) 71) (hp : jPost X sf B9 po px) (N : Nat) (G : Nat → Nat → Int32) (J : Nat → Nat → Int64) (rv10 : Int32 → Int32 → Int32 → Int32 → Option (Nat ⊕ (Int32))) {res : Nat ⊕ (Int32)} (ih10 : ∀ (x1 : Int32) (x2 : Int32) (x3 : Int32) (x4 : Int32), rv10 x1 x2 x3 x4 = some res → JW X 1 6 10 [some (.ref 0), some (.int x1), some (.int x2), some (.int x3), some (.int x4)] [] (hX G J)) (x1 : Int32) (x2 : Int32) (x3 : Int32) (x4 : Int32) (h : p_X5_chain_b59 N G J rv10 x1 x2 x3 x4 = some res) (hq : ∀ w, res = Sum.inr w → po (some (.int w)) (hX G J)) : JW X 1 6 59 [some (.ref 0), some (.int x1), some (.int x2), some (.int x3), some (.int x4)] [] (hX G J) := by
  unfold p_X5_chain_b59 at h
  refine JW.r hM 30 2 (pc2 := 10) (L2 := [some (.ref 0), some (.int x1), some (.int x2), some (.int x3), some (.int (x4 + 1))]) (st2 := []) (μ2 := (hX G J)) rfl trivial ?_
  exact ih10 x1 x2 x3 (x4 + 1) h
set_option maxHeartbeats 4000000 in
set_option maxRecDepth 100000 in
theorem t_X5_chain_b10 {X : jX} {po : Option Value → jH → Prop} {px : String → jH → Prop} {sf : Bool} {B9 : Nat} (hM : jMX X kX5_chain RX5 tbX5 5 ⟨7, 1, 6, 110⟩ (some .int) 71) (hp : jPost X sf B9 po px) (N : Nat) (G : Nat → Nat → Int32) (J : Nat → Nat → Int64) {res : Nat ⊕ (Int32)} : ∀ (n : Nat) (x1 : Int32) (x2 : Int32) (x3 : Int32) (x4 : Int32) (h : p_X5_chain_b10 N G J n x1 x2 x3 x4 = some res) (hq : ∀ w, res = Sum.inr w → po (some (.int w)) (hX G J)), JW X 1 6 10 [some (.ref 0), some (.int x1), some (.int x2), some (.int x3), some (.int x4)] [] (hX G J) := by
  intro n
  induction n with
  | zero =>
    intro x1 x2 x3 x4 h hq
    cases (show (none : Option (Nat ⊕ (Int32))) = some res from h)
  | succ n ih10 =>
    intro x1 x2 x3 x4 h hq
    have ih10 := fun x1 x2 x3 x4 h9 => ih10 x1 x2 x3 x4 h9 hq
    rw [p_X5_chain_b10] at h
    refine JW.r hM 7 4 (pc2 := 19) (L2 := [some (.ref 0), some (.int x1), some (.int x2), some (.int x3), some (.int x4)]) (st2 := [.int (G 1 7), .int x4]) (μ2 := (hX G J)) rfl trivial ?_
    refine js_icge (t := 65) hM.1 (jat hM.2.1 11 rfl) rfl (fun hc9 => ?_) (fun hc9 => ?_)
    · have h := (if_pos hc9).symm.trans h
      refine JW.r hM 32 1 (pc2 := 66) (L2 := [some (.ref 0), some (.int x1), some (.int x2), some (.int x3), some (.int x4)]) (st2 := [.int (-1 : Int32)]) (μ2 := (hX G J)) rfl trivial ?_
      obtain rfl := Option.some.inj h
      exact js_iret hM.1 hp hM.2.2.2.2.2.2.2.1 (by rw [hM.2.2.2.2.2.1]; exact Nat.le_of_ble_eq_true rfl) (by rw [hM.2.2.2.2.2.2.1]; exact Nat.le_of_ble_eq_true rfl) (jat hM.2.1 33 rfl) (hq (-1 : Int32) rfl)
    · have h := (if_neg hc9).symm.trans h
      obtain ⟨g3, h⟩ := jg h
      refine JW.r hM 12 6 (pc2 := 33) (L2 := [some (.ref 0), some (.int x1), some (.int x2), some (.int x3), some (.int x4)]) (st2 := [.int x1, .int (G 5 x4.toNatClampNeg)]) (μ2 := (hX G J)) rfl ⟨g3, trivial⟩ ?_
      refine js_icne (t := 59) hM.1 (jat hM.2.1 18 rfl) rfl (fun hc8 => ?_) (fun hc8 => ?_)
      · have h := (if_neg hc8).symm.trans h
        exact t_X5_chain_b59 hM hp N G J (p_X5_chain_b10 N G J n) ih10 x1 x2 x3 x4 h hq
      · have h := (if_pos hc8).symm.trans h
        refine JW.r hM 19 3 (pc2 := 42) (L2 := [some (.ref 0), some (.int x1), some (.int x2), some (.int x3), some (.int x4)]) (st2 := [.int x4, .ref 1]) (μ2 := (hX G J)) rfl trivial ?_
        obtain ⟨v5, hv4, h⟩ := jbd h
        refine JW.cV (v := some (.int v5)) hM (m_X3_stands (jVX X) hM.1.2.2.2.2.2.2.2.2.2.1 N (jvw G 1) x4 v5 hv4) (sb_X_Town_1 G J) (bi_X_Town_1 G J) rfl rfl rfl kc_X5_155 rfl rfl rfl rfl rfl (jat hM.2.1 22 rfl) (st := []) rfl ?_
        show JW X 1 6 45 [some (.ref 0), some (.int x1), some (.int x2), some (.int x3), some (.int x4)] [.int v5] (hX G J)
        refine js_ifeq (t := 59) hM.1 (jat hM.2.1 23 rfl) rfl (fun hc7 => ?_) (fun hc7 => ?_)
        · have h := (if_pos hc7).symm.trans h
          exact t_X5_chain_b59 hM hp N G J (p_X5_chain_b10 N G J n) ih10 x1 x2 x3 x4 h hq
        · have h := (if_neg hc7).symm.trans h
          refine JW.r hM 24 2 (pc2 := 50) (L2 := [some (.ref 0), some (.int x1), some (.int x2), some (.int x3), some (.int x4)]) (st2 := [.int x2, .int x3]) (μ2 := (hX G J)) rfl trivial ?_
          refine js_icne (t := 56) hM.1 (jat hM.2.1 26 rfl) rfl (fun hc6 => ?_) (fun hc6 => ?_)
          · have h := (if_neg hc6).symm.trans h
            refine JW.r hM 29 1 (pc2 := 59) (L2 := [some (.ref 0), some (.int x1), some (.int x2), some (.int (x3 + 1)), some (.int x4)]) (st2 := []) (μ2 := (hX G J)) rfl trivial ?_
            exact t_X5_chain_b59 hM hp N G J (p_X5_chain_b10 N G J n) ih10 x1 x2 (x3 + 1) x4 h hq
          · have h := (if_pos hc6).symm.trans h
            refine JW.r hM 27 1 (pc2 := 55) (L2 := [some (.ref 0), some (.int x1), some (.int x2), some (.int x3), some (.int x4)]) (st2 := [.int x4]) (μ2 := (hX G J)) rfl trivial ?_
            obtain rfl := Option.some.inj h
            exact js_iret hM.1 hp hM.2.2.2.2.2.2.2.1 (by rw [hM.2.2.2.2.2.1]; exact Nat.le_of_ble_eq_true rfl) (by rw [hM.2.2.2.2.2.2.1]; exact Nat.le_of_ble_eq_true rfl) (jat hM.2.1 28 rfl) (hq x4 rfl)
set_option maxHeartbeats 4000000 in
set_option maxRecDepth 100000 in
theorem t_X5_chain {X : jX} {po : Option Value → jH → Prop} {px : String → jH → Prop} {sf : Bool} {B9 : Nat} (hM : jMX X kX5_chain RX5 tbX5 5 ⟨7, 1, 6, 110⟩ (some .int) 71) (hp : jPost X sf B9 po px) (N : Nat) (G : Nat → Nat → Int32) (J : Nat → Nat → Int64) (p0 : Int32) (p1 : Int32) {res : Nat ⊕ (Int32)} (h : p_X5_chain N G J p0 p1 = some res) (hq : ∀ w, res = Sum.inr w → po (some (.int w)) (hX G J)) (hx : ∀ c, res = Sum.inl c → px (jEn c) (hX G J)) : JW X 0 0 0 [some (.ref 0), some (.int p0), some (.int p1), none, none] [] (hX G J) := by
  unfold p_X5_chain at h
  refine JW.r hM 0 2 (pc2 := 2) (L2 := [some (.ref 0), some (.int p0), some (.int p1), none, none]) (st2 := [.int p0, .ref 0]) (μ2 := (hX G J)) rfl trivial ?_
  rcases jbxE h with h | h
  · obtain ⟨v2, hv1, h⟩ := h
    refine JW.cV (v := none) hM (m_X5_needThing_r (jVX X) hM.1.2.2.2.2.2.2.2.2.2.1 N G J p0 v2 hv1) (sb_X_X_0 G J) (bi_X_X_0 G J) rfl rfl rfl kc_X5_90 rfl rfl rfl rfl rfl (jat hM.2.1 2 rfl) (st := []) rfl ?_
    show JW X 1 6 5 [some (.ref 0), some (.int p0), some (.int p1), none, none] [] (hX G J)
    refine JW.r hM 3 4 (pc2 := 10) (L2 := [some (.ref 0), some (.int p0), some (.int p1), some (.int (0 : Int32)), some (.int (0 : Int32))]) (st2 := []) (μ2 := (hX G J)) rfl trivial ?_
    exact t_X5_chain_b10 hM hp N G J N p0 p1 (0 : Int32) (0 : Int32) h hq
  · obtain ⟨c10, hv1, h⟩ := h
    subst h
    exact JW.xV hM hp (E := jEn c10) (m_X5_needThing_x (jVX X) hM.1.2.2.2.2.2.2.2.2.2.1 N G J p0 c10 hv1) (sb_X_X_0 G J) (bi_X_X_0 G J) rfl rfl kc_X5_90 rfl rfl rfl rfl rfl (jat hM.2.1 2 rfl) (st := []) rfl (hx _ rfl)
theorem m_X5_chain_r (V : jV) (hV : V.1.stackTraces = false) (N : Nat) (G : Nat → Nat → Int32) (J : Nat → Nat → Int64) (p0 : Int32) (p1 : Int32) (v : (Int32)) (h : p_X5_chain N G J p0 p1 = some (.inr v)) : jMet V yX5_chain (jws yX5_chain cX5_chain 5 (some .int)) ⟨7, 1, 6, 110⟩ true 1 [.ref 0, .int p0, .int p1] (hX G J) (fun o ν => o = some (.int v) ∧ ν = (hX G J)) (fun _ _ => False) := by
  refine jmk (tb := tbX5) (C := kX5_chain) hV rfl (by decide) tbX5_ok rfl kX5_chain_ok rfl ?_
  intro X hM _ hp _
  exact t_X5_chain hM hp N G J p0 p1 h (fun w hw => by cases hw; exact ⟨rfl, rfl⟩) (fun c hc => by cases hc)
theorem m_X5_chain_x (V : jV) (hV : V.1.stackTraces = false) (N : Nat) (G : Nat → Nat → Int32) (J : Nat → Nat → Int64) (p0 : Int32) (p1 : Int32) (c : Nat) (h : p_X5_chain N G J p0 p1 = some (.inl c)) : jMet V yX5_chain (jws yX5_chain cX5_chain 5 (some .int)) ⟨7, 1, 6, 110⟩ true 1 [.ref 0, .int p0, .int p1] (hX G J) (fun _ _ => False) (fun E ν => E = jEn c ∧ ν = (hX G J)) := by
  refine jmk (tb := tbX5) (C := kX5_chain) hV rfl (by decide) tbX5_ok rfl kX5_chain_ok rfl ?_
  intro X hM _ hp _
  exact t_X5_chain hM hp N G J p0 p1 h (fun w hw => by cases hw) (fun c hc => by cases hc; exact ⟨rfl, rfl⟩)
def p_X5_needTray_b9 (N : Nat) (G : Nat → Nat → Int32) (J : Nat → Nat → Int64) : Option (Nat ⊕ (Nat)) :=
  some (.inl 1)
def p_X5_needTray (N : Nat) (G : Nat → Nat → Int32) (J : Nat → Nat → Int64) (p0 : Int32) : Option (Nat ⊕ (Nat)) :=
  if p0 < 0 then (p_X5_needTray_b9 N G J) else (if p0 < (4 : Int32) then (if jin p0 4 = true then (if p0.toNatClampNeg = 0 then (if (G 62 0) = 0 then (if jin p0 4 = true then (if p0.toNatClampNeg = 0 then (some (.inr 62)) else (if p0.toNatClampNeg = 1 then (some (.inr 64)) else (if p0.toNatClampNeg = 2 then (some (.inr 66)) else (if p0.toNatClampNeg = 3 then (some (.inr 68)) else (none))))) else none) else (some (.inl 2))) else (if p0.toNatClampNeg = 1 then (if (G 64 0) = 0 then (if jin p0 4 = true then (if p0.toNatClampNeg = 0 then (some (.inr 62)) else (if p0.toNatClampNeg = 1 then (some (.inr 64)) else (if p0.toNatClampNeg = 2 then (some (.inr 66)) else (if p0.toNatClampNeg = 3 then (some (.inr 68)) else (none))))) else none) else (some (.inl 2))) else (if p0.toNatClampNeg = 2 then (if (G 66 0) = 0 then (if jin p0 4 = true then (if p0.toNatClampNeg = 0 then (some (.inr 62)) else (if p0.toNatClampNeg = 1 then (some (.inr 64)) else (if p0.toNatClampNeg = 2 then (some (.inr 66)) else (if p0.toNatClampNeg = 3 then (some (.inr 68)) else (none))))) else none) else (some (.inl 2))) else (if p0.toNatClampNeg = 3 then (if (G 68 0) = 0 then (if jin p0 4 = true then (if p0.toNatClampNeg = 0 then (some (.inr 62)) else (if p0.toNatClampNeg = 1 then (some (.inr 64)) else (if p0.toNatClampNeg = 2 then (some (.inr 66)) else (if p0.toNatClampNeg = 3 then (some (.inr 68)) else (none))))) else none) else (some (.inl 2))) else (none))))) else none) else (p_X5_needTray_b9 N G J))
set_option maxHeartbeats 4000000 in
set_option maxRecDepth 100000 in
theorem t_X5_needTray_b9 {X : jX} {po : Option Value → jH → Prop} {px : String → jH → Prop} {sf : Bool} {B9 : Nat} (hM : jMX X kX5_needTray RX5 tbX5 2 ⟨6, 1, 6, 89⟩ (some (.object "TillTheBell$Tray")) 71) (hp : jPost X sf B9 po px) (N : Nat) (G : Nat → Nat → Int32) (J : Nat → Nat → Int64) {res : Nat ⊕ (Nat)} (h : p_X5_needTray_b9 N G J = some res) (hq : ∀ w, res = Sum.inr w → po (some (.ref w)) (hX G J)) (hx : ∀ c, res = Sum.inl c → px (jEn c) (hX G J)) : JW X 0 0 9 [none, none] [] (hX G J) := by
  unfold p_X5_needTray_b9 at h
  obtain rfl := Option.some.inj h
  exact js_throw (ik := 300) (ic := 302) (names := ["java/lang/RuntimeException", "java/lang/Exception"]) hM.1 hp hM.2.2.2.2.2.2.2.2.2 (by decide) (by decide) (by rw [hM.2.2.1]; exact th_X5_300_302) (jat hM.2.1 5 rfl) (jat hM.2.1 6 rfl) (jat hM.2.1 7 rfl) (jat hM.2.1 8 rfl) (by rw [hM.2.2.2.2.1]; exact Nat.le_of_ble_eq_true rfl) (by rw [hM.2.2.2.2.1]; exact Nat.le_of_ble_eq_true rfl) (by rw [hM.2.2.2.2.2.1]; exact Nat.le_of_ble_eq_true rfl) (by rw [hM.2.2.2.2.2.2.1]; exact Nat.le_of_ble_eq_true rfl) (hx _ rfl)
set_option maxHeartbeats 4000000 in
set_option maxRecDepth 100000 in
theorem t_X5_needTray {X : jX} {po : Option Value → jH → Prop} {px : String → jH → Prop} {sf : Bool} {B9 : Nat} (hM : jMX X kX5_needTray RX5 tbX5 2 ⟨6, 1, 6, 89⟩ (some (.object "TillTheBell$Tray")) 71) (hp : jPost X sf B9 po px) (N : Nat) (G : Nat → Nat → Int32) (J : Nat → Nat → Int64) (p0 : Int32) {res : Nat ⊕ (Nat)} (h : p_X5_needTray N G J p0 = some res) (hq : ∀ w, res = Sum.inr w → po (some (.ref w)) (hX G J)) (hx : ∀ c, res = Sum.inl c → px (jEn c) (hX G J)) : JW X 0 0 0 [some (.ref 0), some (.int p0)] [] (hX G J) := by
  unfold p_X5_needTray at h
  refine JW.r hM 0 1 (pc2 := 1) (L2 := [some (.ref 0), some (.int p0)]) (st2 := [.int p0]) (μ2 := (hX G J)) rfl trivial ?_
  refine js_iflt (t := 9) hM.1 (jat hM.2.1 1 rfl) rfl (fun hc31 => ?_) (fun hc31 => ?_)
  · have h := (if_pos hc31).symm.trans h
    exact JW.mask [false, false] (t_X5_needTray_b9 hM hp N G J h hq hx)
  · have h := (if_neg hc31).symm.trans h
    refine JW.r hM 2 2 (pc2 := 6) (L2 := [some (.ref 0), some (.int p0)]) (st2 := [.int (4 : Int32), .int p0]) (μ2 := (hX G J)) rfl trivial ?_
    refine js_iclt (t := 17) hM.1 (jat hM.2.1 4 rfl) rfl (fun hc30 => ?_) (fun hc30 => ?_)
    · have h := (if_pos hc30).symm.trans h
      refine JW.r hM 9 3 (pc2 := 22) (L2 := [some (.ref 0), some (.int p0)]) (st2 := [.int p0, .ref 21]) (μ2 := (hX G J)) rfl trivial ?_
      obtain ⟨g1, h⟩ := jg h
      by_cases hc29 : p0.toNatClampNeg = 0
      · have h := (if_pos hc29).symm.trans h
        refine js_aald (t := 5) (r := 62) (rs := [some 62, some 64, some 66, some 68]) hM.1 (by decide) rfl g1 (by rw [hc29]; rfl) (jat hM.2.1 12 rfl) ?_
        show JW X 0 0 23 [some (.ref 0), some (.int p0)] [.ref 62] (hX G J)
        refine JW.r hM 13 1 (pc2 := 26) (L2 := [some (.ref 0), some (.int p0)]) (st2 := [.int (G 62 0)]) (μ2 := (hX G J)) rfl trivial ?_
        refine js_ifeq (t := 37) hM.1 (jat hM.2.1 14 rfl) rfl (fun hc7 => ?_) (fun hc7 => ?_)
        · have h := (if_pos hc7).symm.trans h
          refine JW.r hM 19 3 (pc2 := 42) (L2 := [some (.ref 0), some (.int p0)]) (st2 := [.int p0, .ref 21]) (μ2 := (hX G J)) rfl trivial ?_
          obtain ⟨g2, h⟩ := jg h
          by_cases hc6 : p0.toNatClampNeg = 0
          · have h := (if_pos hc6).symm.trans h
            refine js_aald (t := 5) (r := 62) (rs := [some 62, some 64, some 66, some 68]) hM.1 (by decide) rfl g2 (by rw [hc6]; rfl) (jat hM.2.1 22 rfl) ?_
            show JW X 0 0 43 [some (.ref 0), some (.int p0)] [.ref 62] (hX G J)
            obtain rfl := Option.some.inj h
            exact js_aret hM.1 hp hM.2.2.2.2.2.2.2.1 (by rw [hM.2.2.2.2.2.1]; exact Nat.le_of_ble_eq_true rfl) (by rw [hM.2.2.2.2.2.2.1]; exact Nat.le_of_ble_eq_true rfl) (jat hM.2.1 23 rfl) (hq 62 rfl)
          · have h := (if_neg hc6).symm.trans h
            by_cases hc5 : p0.toNatClampNeg = 1
            · have h := (if_pos hc5).symm.trans h
              refine js_aald (t := 5) (r := 64) (rs := [some 62, some 64, some 66, some 68]) hM.1 (by decide) rfl g2 (by rw [hc5]; rfl) (jat hM.2.1 22 rfl) ?_
              show JW X 0 0 43 [some (.ref 0), some (.int p0)] [.ref 64] (hX G J)
              obtain rfl := Option.some.inj h
              exact js_aret hM.1 hp hM.2.2.2.2.2.2.2.1 (by rw [hM.2.2.2.2.2.1]; exact Nat.le_of_ble_eq_true rfl) (by rw [hM.2.2.2.2.2.2.1]; exact Nat.le_of_ble_eq_true rfl) (jat hM.2.1 23 rfl) (hq 64 rfl)
            · have h := (if_neg hc5).symm.trans h
              by_cases hc4 : p0.toNatClampNeg = 2
              · have h := (if_pos hc4).symm.trans h
                refine js_aald (t := 5) (r := 66) (rs := [some 62, some 64, some 66, some 68]) hM.1 (by decide) rfl g2 (by rw [hc4]; rfl) (jat hM.2.1 22 rfl) ?_
                show JW X 0 0 43 [some (.ref 0), some (.int p0)] [.ref 66] (hX G J)
                obtain rfl := Option.some.inj h
                exact js_aret hM.1 hp hM.2.2.2.2.2.2.2.1 (by rw [hM.2.2.2.2.2.1]; exact Nat.le_of_ble_eq_true rfl) (by rw [hM.2.2.2.2.2.2.1]; exact Nat.le_of_ble_eq_true rfl) (jat hM.2.1 23 rfl) (hq 66 rfl)
              · have h := (if_neg hc4).symm.trans h
                by_cases hc3 : p0.toNatClampNeg = 3
                · have h := (if_pos hc3).symm.trans h
                  refine js_aald (t := 5) (r := 68) (rs := [some 62, some 64, some 66, some 68]) hM.1 (by decide) rfl g2 (by rw [hc3]; rfl) (jat hM.2.1 22 rfl) ?_
                  show JW X 0 0 43 [some (.ref 0), some (.int p0)] [.ref 68] (hX G J)
                  obtain rfl := Option.some.inj h
                  exact js_aret hM.1 hp hM.2.2.2.2.2.2.2.1 (by rw [hM.2.2.2.2.2.1]; exact Nat.le_of_ble_eq_true rfl) (by rw [hM.2.2.2.2.2.2.1]; exact Nat.le_of_ble_eq_true rfl) (jat hM.2.1 23 rfl) (hq 68 rfl)
                · have h := (if_neg hc3).symm.trans h
                  cases h
        · have h := (if_neg hc7).symm.trans h
          obtain rfl := Option.some.inj h
          exact js_throw (ik := 119) (ic := 121) (names := ["java/lang/RuntimeException", "java/lang/Exception"]) hM.1 hp hM.2.2.2.2.2.2.2.2.2 (by decide) (by decide) (by rw [hM.2.2.1]; exact th_X5_119_121) (jat hM.2.1 15 rfl) (jat hM.2.1 16 rfl) (jat hM.2.1 17 rfl) (jat hM.2.1 18 rfl) (by rw [hM.2.2.2.2.1]; exact Nat.le_of_ble_eq_true rfl) (by rw [hM.2.2.2.2.1]; exact Nat.le_of_ble_eq_true rfl) (by rw [hM.2.2.2.2.2.1]; exact Nat.le_of_ble_eq_true rfl) (by rw [hM.2.2.2.2.2.2.1]; exact Nat.le_of_ble_eq_true rfl) (hx _ rfl)
      · have h := (if_neg hc29).symm.trans h
        by_cases hc28 : p0.toNatClampNeg = 1
        · have h := (if_pos hc28).symm.trans h
          refine js_aald (t := 5) (r := 64) (rs := [some 62, some 64, some 66, some 68]) hM.1 (by decide) rfl g1 (by rw [hc28]; rfl) (jat hM.2.1 12 rfl) ?_
          show JW X 0 0 23 [some (.ref 0), some (.int p0)] [.ref 64] (hX G J)
          refine JW.r hM 13 1 (pc2 := 26) (L2 := [some (.ref 0), some (.int p0)]) (st2 := [.int (G 64 0)]) (μ2 := (hX G J)) rfl trivial ?_
          refine js_ifeq (t := 37) hM.1 (jat hM.2.1 14 rfl) rfl (fun hc13 => ?_) (fun hc13 => ?_)
          · have h := (if_pos hc13).symm.trans h
            refine JW.r hM 19 3 (pc2 := 42) (L2 := [some (.ref 0), some (.int p0)]) (st2 := [.int p0, .ref 21]) (μ2 := (hX G J)) rfl trivial ?_
            obtain ⟨g8, h⟩ := jg h
            by_cases hc12 : p0.toNatClampNeg = 0
            · have h := (if_pos hc12).symm.trans h
              refine js_aald (t := 5) (r := 62) (rs := [some 62, some 64, some 66, some 68]) hM.1 (by decide) rfl g8 (by rw [hc12]; rfl) (jat hM.2.1 22 rfl) ?_
              show JW X 0 0 43 [some (.ref 0), some (.int p0)] [.ref 62] (hX G J)
              obtain rfl := Option.some.inj h
              exact js_aret hM.1 hp hM.2.2.2.2.2.2.2.1 (by rw [hM.2.2.2.2.2.1]; exact Nat.le_of_ble_eq_true rfl) (by rw [hM.2.2.2.2.2.2.1]; exact Nat.le_of_ble_eq_true rfl) (jat hM.2.1 23 rfl) (hq 62 rfl)
            · have h := (if_neg hc12).symm.trans h
              by_cases hc11 : p0.toNatClampNeg = 1
              · have h := (if_pos hc11).symm.trans h
                refine js_aald (t := 5) (r := 64) (rs := [some 62, some 64, some 66, some 68]) hM.1 (by decide) rfl g8 (by rw [hc11]; rfl) (jat hM.2.1 22 rfl) ?_
                show JW X 0 0 43 [some (.ref 0), some (.int p0)] [.ref 64] (hX G J)
                obtain rfl := Option.some.inj h
                exact js_aret hM.1 hp hM.2.2.2.2.2.2.2.1 (by rw [hM.2.2.2.2.2.1]; exact Nat.le_of_ble_eq_true rfl) (by rw [hM.2.2.2.2.2.2.1]; exact Nat.le_of_ble_eq_true rfl) (jat hM.2.1 23 rfl) (hq 64 rfl)
              · have h := (if_neg hc11).symm.trans h
                by_cases hc10 : p0.toNatClampNeg = 2
                · have h := (if_pos hc10).symm.trans h
                  refine js_aald (t := 5) (r := 66) (rs := [some 62, some 64, some 66, some 68]) hM.1 (by decide) rfl g8 (by rw [hc10]; rfl) (jat hM.2.1 22 rfl) ?_
                  show JW X 0 0 43 [some (.ref 0), some (.int p0)] [.ref 66] (hX G J)
                  obtain rfl := Option.some.inj h
                  exact js_aret hM.1 hp hM.2.2.2.2.2.2.2.1 (by rw [hM.2.2.2.2.2.1]; exact Nat.le_of_ble_eq_true rfl) (by rw [hM.2.2.2.2.2.2.1]; exact Nat.le_of_ble_eq_true rfl) (jat hM.2.1 23 rfl) (hq 66 rfl)
                · have h := (if_neg hc10).symm.trans h
                  by_cases hc9 : p0.toNatClampNeg = 3
                  · have h := (if_pos hc9).symm.trans h
                    refine js_aald (t := 5) (r := 68) (rs := [some 62, some 64, some 66, some 68]) hM.1 (by decide) rfl g8 (by rw [hc9]; rfl) (jat hM.2.1 22 rfl) ?_
                    show JW X 0 0 43 [some (.ref 0), some (.int p0)] [.ref 68] (hX G J)
                    obtain rfl := Option.some.inj h
                    exact js_aret hM.1 hp hM.2.2.2.2.2.2.2.1 (by rw [hM.2.2.2.2.2.1]; exact Nat.le_of_ble_eq_true rfl) (by rw [hM.2.2.2.2.2.2.1]; exact Nat.le_of_ble_eq_true rfl) (jat hM.2.1 23 rfl) (hq 68 rfl)
                  · have h := (if_neg hc9).symm.trans h
                    cases h
          · have h := (if_neg hc13).symm.trans h
            obtain rfl := Option.some.inj h
            exact js_throw (ik := 119) (ic := 121) (names := ["java/lang/RuntimeException", "java/lang/Exception"]) hM.1 hp hM.2.2.2.2.2.2.2.2.2 (by decide) (by decide) (by rw [hM.2.2.1]; exact th_X5_119_121) (jat hM.2.1 15 rfl) (jat hM.2.1 16 rfl) (jat hM.2.1 17 rfl) (jat hM.2.1 18 rfl) (by rw [hM.2.2.2.2.1]; exact Nat.le_of_ble_eq_true rfl) (by rw [hM.2.2.2.2.1]; exact Nat.le_of_ble_eq_true rfl) (by rw [hM.2.2.2.2.2.1]; exact Nat.le_of_ble_eq_true rfl) (by rw [hM.2.2.2.2.2.2.1]; exact Nat.le_of_ble_eq_true rfl) (hx _ rfl)
        · have h := (if_neg hc28).symm.trans h
          by_cases hc27 : p0.toNatClampNeg = 2
          · have h := (if_pos hc27).symm.trans h
            refine js_aald (t := 5) (r := 66) (rs := [some 62, some 64, some 66, some 68]) hM.1 (by decide) rfl g1 (by rw [hc27]; rfl) (jat hM.2.1 12 rfl) ?_
            show JW X 0 0 23 [some (.ref 0), some (.int p0)] [.ref 66] (hX G J)
            refine JW.r hM 13 1 (pc2 := 26) (L2 := [some (.ref 0), some (.int p0)]) (st2 := [.int (G 66 0)]) (μ2 := (hX G J)) rfl trivial ?_
            refine js_ifeq (t := 37) hM.1 (jat hM.2.1 14 rfl) rfl (fun hc19 => ?_) (fun hc19 => ?_)
            · have h := (if_pos hc19).symm.trans h
              refine JW.r hM 19 3 (pc2 := 42) (L2 := [some (.ref 0), some (.int p0)]) (st2 := [.int p0, .ref 21]) (μ2 := (hX G J)) rfl trivial ?_
              obtain ⟨g14, h⟩ := jg h
              by_cases hc18 : p0.toNatClampNeg = 0
              · have h := (if_pos hc18).symm.trans h
                refine js_aald (t := 5) (r := 62) (rs := [some 62, some 64, some 66, some 68]) hM.1 (by decide) rfl g14 (by rw [hc18]; rfl) (jat hM.2.1 22 rfl) ?_
                show JW X 0 0 43 [some (.ref 0), some (.int p0)] [.ref 62] (hX G J)
                obtain rfl := Option.some.inj h
                exact js_aret hM.1 hp hM.2.2.2.2.2.2.2.1 (by rw [hM.2.2.2.2.2.1]; exact Nat.le_of_ble_eq_true rfl) (by rw [hM.2.2.2.2.2.2.1]; exact Nat.le_of_ble_eq_true rfl) (jat hM.2.1 23 rfl) (hq 62 rfl)
              · have h := (if_neg hc18).symm.trans h
                by_cases hc17 : p0.toNatClampNeg = 1
                · have h := (if_pos hc17).symm.trans h
                  refine js_aald (t := 5) (r := 64) (rs := [some 62, some 64, some 66, some 68]) hM.1 (by decide) rfl g14 (by rw [hc17]; rfl) (jat hM.2.1 22 rfl) ?_
                  show JW X 0 0 43 [some (.ref 0), some (.int p0)] [.ref 64] (hX G J)
                  obtain rfl := Option.some.inj h
                  exact js_aret hM.1 hp hM.2.2.2.2.2.2.2.1 (by rw [hM.2.2.2.2.2.1]; exact Nat.le_of_ble_eq_true rfl) (by rw [hM.2.2.2.2.2.2.1]; exact Nat.le_of_ble_eq_true rfl) (jat hM.2.1 23 rfl) (hq 64 rfl)
                · have h := (if_neg hc17).symm.trans h
                  by_cases hc16 : p0.toNatClampNeg = 2
                  · have h := (if_pos hc16).symm.trans h
                    refine js_aald (t := 5) (r := 66) (rs := [some 62, some 64, some 66, some 68]) hM.1 (by decide) rfl g14 (by rw [hc16]; rfl) (jat hM.2.1 22 rfl) ?_
                    show JW X 0 0 43 [some (.ref 0), some (.int p0)] [.ref 66] (hX G J)
                    obtain rfl := Option.some.inj h
                    exact js_aret hM.1 hp hM.2.2.2.2.2.2.2.1 (by rw [hM.2.2.2.2.2.1]; exact Nat.le_of_ble_eq_true rfl) (by rw [hM.2.2.2.2.2.2.1]; exact Nat.le_of_ble_eq_true rfl) (jat hM.2.1 23 rfl) (hq 66 rfl)
                  · have h := (if_neg hc16).symm.trans h
                    by_cases hc15 : p0.toNatClampNeg = 3
                    · have h := (if_pos hc15).symm.trans h
                      refine js_aald (t := 5) (r := 68) (rs := [some 62, some 64, some 66, some 68]) hM.1 (by decide) rfl g14 (by rw [hc15]; rfl) (jat hM.2.1 22 rfl) ?_
                      show JW X 0 0 43 [some (.ref 0), some (.int p0)] [.ref 68] (hX G J)
                      obtain rfl := Option.some.inj h
                      exact js_aret hM.1 hp hM.2.2.2.2.2.2.2.1 (by rw [hM.2.2.2.2.2.1]; exact Nat.le_of_ble_eq_true rfl) (by rw [hM.2.2.2.2.2.2.1]; exact Nat.le_of_ble_eq_true rfl) (jat hM.2.1 23 rfl) (hq 68 rfl)
                    · have h := (if_neg hc15).symm.trans h
                      cases h
            · have h := (if_neg hc19).symm.trans h
              obtain rfl := Option.some.inj h
              exact js_throw (ik := 119) (ic := 121) (names := ["java/lang/RuntimeException", "java/lang/Exception"]) hM.1 hp hM.2.2.2.2.2.2.2.2.2 (by decide) (by decide) (by rw [hM.2.2.1]; exact th_X5_119_121) (jat hM.2.1 15 rfl) (jat hM.2.1 16 rfl) (jat hM.2.1 17 rfl) (jat hM.2.1 18 rfl) (by rw [hM.2.2.2.2.1]; exact Nat.le_of_ble_eq_true rfl) (by rw [hM.2.2.2.2.1]; exact Nat.le_of_ble_eq_true rfl) (by rw [hM.2.2.2.2.2.1]; exact Nat.le_of_ble_eq_true rfl) (by rw [hM.2.2.2.2.2.2.1]; exact Nat.le_of_ble_eq_true rfl) (hx _ rfl)
          · have h := (if_neg hc27).symm.trans h
            by_cases hc26 : p0.toNatClampNeg = 3
            · have h := (if_pos hc26).symm.trans h
              refine js_aald (t := 5) (r := 68) (rs := [some 62, some 64, some 66, some 68]) hM.1 (by decide) rfl g1 (by rw [hc26]; rfl) (jat hM.2.1 12 rfl) ?_
              show JW X 0 0 23 [some (.ref 0), some (.int p0)] [.ref 68] (hX G J)
              refine JW.r hM 13 1 (pc2 := 26) (L2 := [some (.ref 0), some (.int p0)]) (st2 := [.int (G 68 0)]) (μ2 := (hX G J)) rfl trivial ?_
              refine js_ifeq (t := 37) hM.1 (jat hM.2.1 14 rfl) rfl (fun hc25 => ?_) (fun hc25 => ?_)
              · have h := (if_pos hc25).symm.trans h
                refine JW.r hM 19 3 (pc2 := 42) (L2 := [some (.ref 0), some (.int p0)]) (st2 := [.int p0, .ref 21]) (μ2 := (hX G J)) rfl trivial ?_
                obtain ⟨g20, h⟩ := jg h
                by_cases hc24 : p0.toNatClampNeg = 0
                · have h := (if_pos hc24).symm.trans h
                  refine js_aald (t := 5) (r := 62) (rs := [some 62, some 64, some 66, some 68]) hM.1 (by decide) rfl g20 (by rw [hc24]; rfl) (jat hM.2.1 22 rfl) ?_
                  show JW X 0 0 43 [some (.ref 0), some (.int p0)] [.ref 62] (hX G J)
                  obtain rfl := Option.some.inj h
                  exact js_aret hM.1 hp hM.2.2.2.2.2.2.2.1 (by rw [hM.2.2.2.2.2.1]; exact Nat.le_of_ble_eq_true rfl) (by rw [hM.2.2.2.2.2.2.1]; exact Nat.le_of_ble_eq_true rfl) (jat hM.2.1 23 rfl) (hq 62 rfl)
                · have h := (if_neg hc24).symm.trans h
                  by_cases hc23 : p0.toNatClampNeg = 1
                  · have h := (if_pos hc23).symm.trans h
                    refine js_aald (t := 5) (r := 64) (rs := [some 62, some 64, some 66, some 68]) hM.1 (by decide) rfl g20 (by rw [hc23]; rfl) (jat hM.2.1 22 rfl) ?_
                    show JW X 0 0 43 [some (.ref 0), some (.int p0)] [.ref 64] (hX G J)
                    obtain rfl := Option.some.inj h
                    exact js_aret hM.1 hp hM.2.2.2.2.2.2.2.1 (by rw [hM.2.2.2.2.2.1]; exact Nat.le_of_ble_eq_true rfl) (by rw [hM.2.2.2.2.2.2.1]; exact Nat.le_of_ble_eq_true rfl) (jat hM.2.1 23 rfl) (hq 64 rfl)
                  · have h := (if_neg hc23).symm.trans h
                    by_cases hc22 : p0.toNatClampNeg = 2
                    · have h := (if_pos hc22).symm.trans h
                      refine js_aald (t := 5) (r := 66) (rs := [some 62, some 64, some 66, some 68]) hM.1 (by decide) rfl g20 (by rw [hc22]; rfl) (jat hM.2.1 22 rfl) ?_
                      show JW X 0 0 43 [some (.ref 0), some (.int p0)] [.ref 66] (hX G J)
                      obtain rfl := Option.some.inj h
                      exact js_aret hM.1 hp hM.2.2.2.2.2.2.2.1 (by rw [hM.2.2.2.2.2.1]; exact Nat.le_of_ble_eq_true rfl) (by rw [hM.2.2.2.2.2.2.1]; exact Nat.le_of_ble_eq_true rfl) (jat hM.2.1 23 rfl) (hq 66 rfl)
                    · have h := (if_neg hc22).symm.trans h
                      by_cases hc21 : p0.toNatClampNeg = 3
                      · have h := (if_pos hc21).symm.trans h
                        refine js_aald (t := 5) (r := 68) (rs := [some 62, some 64, some 66, some 68]) hM.1 (by decide) rfl g20 (by rw [hc21]; rfl) (jat hM.2.1 22 rfl) ?_
                        show JW X 0 0 43 [some (.ref 0), some (.int p0)] [.ref 68] (hX G J)
                        obtain rfl := Option.some.inj h
                        exact js_aret hM.1 hp hM.2.2.2.2.2.2.2.1 (by rw [hM.2.2.2.2.2.1]; exact Nat.le_of_ble_eq_true rfl) (by rw [hM.2.2.2.2.2.2.1]; exact Nat.le_of_ble_eq_true rfl) (jat hM.2.1 23 rfl) (hq 68 rfl)
                      · have h := (if_neg hc21).symm.trans h
                        cases h
              · have h := (if_neg hc25).symm.trans h
                obtain rfl := Option.some.inj h
                exact js_throw (ik := 119) (ic := 121) (names := ["java/lang/RuntimeException", "java/lang/Exception"]) hM.1 hp hM.2.2.2.2.2.2.2.2.2 (by decide) (by decide) (by rw [hM.2.2.1]; exact th_X5_119_121) (jat hM.2.1 15 rfl) (jat hM.2.1 16 rfl) (jat hM.2.1 17 rfl) (jat hM.2.1 18 rfl) (by rw [hM.2.2.2.2.1]; exact Nat.le_of_ble_eq_true rfl) (by rw [hM.2.2.2.2.1]; exact Nat.le_of_ble_eq_true rfl) (by rw [hM.2.2.2.2.2.1]; exact Nat.le_of_ble_eq_true rfl) (by rw [hM.2.2.2.2.2.2.1]; exact Nat.le_of_ble_eq_true rfl) (hx _ rfl)
            · have h := (if_neg hc26).symm.trans h
              cases h
    · have h := (if_neg hc30).symm.trans h
      exact JW.mask [false, false] (t_X5_needTray_b9 hM hp N G J h hq hx)
theorem m_X5_needTray_r (V : jV) (hV : V.1.stackTraces = false) (N : Nat) (G : Nat → Nat → Int32) (J : Nat → Nat → Int64) (p0 : Int32) (v : (Nat)) (h : p_X5_needTray N G J p0 = some (.inr v)) : jMet V yX5_needTray (jws yX5_needTray cX5_needTray 2 (some (.object "TillTheBell$Tray"))) ⟨6, 1, 6, 89⟩ true 1 [.ref 0, .int p0] (hX G J) (fun o ν => o = some (.ref v) ∧ ν = (hX G J)) (fun _ _ => False) := by
  refine jmk (tb := tbX5) (C := kX5_needTray) hV rfl (by decide) tbX5_ok rfl kX5_needTray_ok rfl ?_
  intro X hM _ hp _
  exact t_X5_needTray hM hp N G J p0 h (fun w hw => by cases hw; exact ⟨rfl, rfl⟩) (fun c hc => by cases hc)
theorem m_X5_needTray_x (V : jV) (hV : V.1.stackTraces = false) (N : Nat) (G : Nat → Nat → Int32) (J : Nat → Nat → Int64) (p0 : Int32) (c : Nat) (h : p_X5_needTray N G J p0 = some (.inl c)) : jMet V yX5_needTray (jws yX5_needTray cX5_needTray 2 (some (.object "TillTheBell$Tray"))) ⟨6, 1, 6, 89⟩ true 1 [.ref 0, .int p0] (hX G J) (fun _ _ => False) (fun E ν => E = jEn c ∧ ν = (hX G J)) := by
  refine jmk (tb := tbX5) (C := kX5_needTray) hV rfl (by decide) tbX5_ok rfl kX5_needTray_ok rfl ?_
  intro X hM _ hp _
  exact t_X5_needTray hM hp N G J p0 h (fun w hw => by cases hw) (fun c hc => by cases hc; exact ⟨rfl, rfl⟩)
def p_X5_whyNoTold (N : Nat) (G : Nat → Nat → Int32) (p0 : Int64) : Option (Int32) :=
  if (lg_cmp p0 (0 : Int64)) < 0 then (some (1 : Int32)) else (if (lg_cmp (p0 >>> ((1 : Int32).toInt64 &&& 63)) ((G 0 7).toInt64)) < 0 then ((p_X3_sideOf N G ((p0 >>> ((1 : Int32).toInt64 &&& 63)).toInt32) ((p0 &&& (1 : Int64)).toInt32)).bind (fun v2 => (p_X3_whyNoUndoing N G ((p0 >>> ((1 : Int32).toInt64 &&& 63)).toInt32) v2).bind (fun v4 => some v4))) else (some (1 : Int32)))
set_option maxHeartbeats 4000000 in
set_option maxRecDepth 100000 in
theorem t_X5_whyNoTold {X : jX} {po : Option Value → jH → Prop} {px : String → jH → Prop} {sf : Bool} {B9 : Nat} (hM : jMX X kX5_whyNoTold RX5 tbX5 4 ⟨4, 0, 0, 90⟩ (some .int) 10) (hp : jPost X sf B9 po px) (N : Nat) (G : Nat → Nat → Int32) (p0 : Int64) {res : Int32} (h : p_X5_whyNoTold N G p0 = some res) (hq : po (some (.int res)) (hTown G)) : JW X 0 0 0 [some (.ref 0), some (.long p0), none, none] [] (hTown G) := by
  unfold p_X5_whyNoTold at h
  refine JW.r hM 0 3 (pc2 := 3) (L2 := [some (.ref 0), some (.long p0), none, none]) (st2 := [.int (lg_cmp p0 (0 : Int64))]) (μ2 := (hTown G)) rfl trivial ?_
  refine js_iflt (t := 18) hM.1 (jat hM.2.1 3 rfl) rfl (fun hc6 => ?_) (fun hc6 => ?_)
  · have h := (if_pos hc6).symm.trans h
    refine JW.r hM 12 1 (pc2 := 19) (L2 := [some (.ref 0), some (.long p0), none, none]) (st2 := [.int (1 : Int32)]) (μ2 := (hTown G)) rfl trivial ?_
    obtain rfl := Option.some.inj h
    exact js_iret hM.1 hp hM.2.2.2.2.2.2.2.1 (by rw [hM.2.2.2.2.2.1]; exact Nat.le_of_ble_eq_true rfl) (by rw [hM.2.2.2.2.2.2.1]; exact Nat.le_of_ble_eq_true rfl) (jat hM.2.1 13 rfl) hq
  · have h := (if_neg hc6).symm.trans h
    refine JW.r hM 4 7 (pc2 := 15) (L2 := [some (.ref 0), some (.long p0), none, none]) (st2 := [.int (lg_cmp (p0 >>> ((1 : Int32).toInt64 &&& 63)) ((G 0 7).toInt64))]) (μ2 := (hTown G)) rfl trivial ?_
    refine js_iflt (t := 20) hM.1 (jat hM.2.1 11 rfl) rfl (fun hc5 => ?_) (fun hc5 => ?_)
    · have h := (if_pos hc5).symm.trans h
      refine JW.r hM 14 13 (pc2 := 33) (L2 := [some (.ref 0), some (.long p0), none, some (.int ((p0 >>> ((1 : Int32).toInt64 &&& 63)).toInt32))]) (st2 := [.int ((p0 &&& (1 : Int64)).toInt32), .int ((p0 >>> ((1 : Int32).toInt64 &&& 63)).toInt32), .ref 0, .int ((p0 >>> ((1 : Int32).toInt64 &&& 63)).toInt32), .ref 0]) (μ2 := (hTown G)) rfl trivial ?_
      obtain ⟨v2, hv1, h⟩ := jbd h
      refine JW.cV (v := some (.int v2)) hM (m_X3_sideOf (jVX X) hM.1.2.2.2.2.2.2.2.2.2.1 N G ((p0 >>> ((1 : Int32).toInt64 &&& 63)).toInt32) ((p0 &&& (1 : Int64)).toInt32) v2 hv1) (sb_Town_Town_0 G) (bi_Town_Town_0 G) rfl rfl rfl kc_X5_235 rfl rfl rfl rfl rfl (jat hM.2.1 27 rfl) (st := [.int ((p0 >>> ((1 : Int32).toInt64 &&& 63)).toInt32), .ref 0]) rfl ?_
      show JW X 0 0 36 [some (.ref 0), some (.long p0), none, some (.int ((p0 >>> ((1 : Int32).toInt64 &&& 63)).toInt32))] [.int v2, .int ((p0 >>> ((1 : Int32).toInt64 &&& 63)).toInt32), .ref 0] (hTown G)
      obtain ⟨v4, hv3, h⟩ := jbd h
      refine JW.cV (v := some (.int v4)) hM (m_X3_whyNoUndoing (jVX X) hM.1.2.2.2.2.2.2.2.2.2.1 N G ((p0 >>> ((1 : Int32).toInt64 &&& 63)).toInt32) v2 v4 hv3) (sb_Town_Town_0 G) (bi_Town_Town_0 G) rfl rfl rfl kc_X5_167 rfl rfl rfl rfl rfl (jat hM.2.1 28 rfl) (st := []) rfl ?_
      show JW X 0 0 39 [some (.ref 0), some (.long p0), none, some (.int ((p0 >>> ((1 : Int32).toInt64 &&& 63)).toInt32))] [.int v4] (hTown G)
      obtain rfl := Option.some.inj h
      exact js_iret hM.1 hp hM.2.2.2.2.2.2.2.1 (by rw [hM.2.2.2.2.2.1]; exact Nat.le_of_ble_eq_true rfl) (by rw [hM.2.2.2.2.2.2.1]; exact Nat.le_of_ble_eq_true rfl) (jat hM.2.1 29 rfl) hq
    · have h := (if_neg hc5).symm.trans h
      refine JW.r hM 12 1 (pc2 := 19) (L2 := [some (.ref 0), some (.long p0), none, none]) (st2 := [.int (1 : Int32)]) (μ2 := (hTown G)) rfl trivial ?_
      obtain rfl := Option.some.inj h
      exact js_iret hM.1 hp hM.2.2.2.2.2.2.2.1 (by rw [hM.2.2.2.2.2.1]; exact Nat.le_of_ble_eq_true rfl) (by rw [hM.2.2.2.2.2.2.1]; exact Nat.le_of_ble_eq_true rfl) (jat hM.2.1 13 rfl) hq
theorem m_X5_whyNoTold (V : jV) (hV : V.1.stackTraces = false) (N : Nat) (G : Nat → Nat → Int32) (p0 : Int64) (v : Int32) (h : p_X5_whyNoTold N G p0 = some v) : jMet V yX5_whyNoTold (jws yX5_whyNoTold cX5_whyNoTold 4 (some .int)) ⟨4, 0, 0, 90⟩ true 1 [.ref 0, .long p0] (hTown G) (fun o ν => o = some (.int v) ∧ ν = (hTown G)) (fun _ _ => False) := by
  refine jmk (tb := tbX5) (C := kX5_whyNoTold) hV rfl (by decide) tbX5_ok rfl kX5_whyNoTold_ok rfl ?_
  intro X hM _ hp _
  exact t_X5_whyNoTold hM hp N G p0 h ⟨rfl, rfl⟩
def p_X5_doTold_b2 (N : Nat) (J : Nat → Nat → Int64) : Nat → (Nat → Nat → Int32) → (Int32) → Option (Int32 × (Nat → Nat → Int32))
  | 0, _, _ => none
  | n + 1, G, x2 => if (G 9 1) ≤ x2 then (some (x2, G)) else (if jin x2 40 = true then (p_X5_whyNoTold N (jvw G 0) (J 10 x2.toNatClampNeg)).bind (fun v3 => if v3 = 0 then (if jin x2 40 = true then if jin x2 40 = true then (p_X3_sideOf N (jvw G 0) (((J 10 x2.toNatClampNeg) >>> ((1 : Int32).toInt64 &&& 63)).toInt32) (((J 10 x2.toNatClampNeg) &&& (1 : Int64)).toInt32)).bind (fun v7 => (p_X3_fell N (jvw G 0) (((J 10 x2.toNatClampNeg) >>> ((1 : Int32).toInt64 &&& 63)).toInt32) v7).bind (fun v9 => jlt (jpt G 0 9 v9.2) fun G10 => (p_X5_doTold_b2 N J n) G10 (x2 + 1))) else none else none) else (some (x2, G))) else none)
def p_X5_doTold (N : Nat) (G : Nat → Nat → Int32) (J : Nat → Nat → Int64) : Option (Int32 × (Nat → Nat → Int32)) :=
  p_X5_doTold_b2 N J N G (0 : Int32)
set_option maxHeartbeats 4000000 in
set_option maxRecDepth 100000 in
theorem t_X5_doTold_b2 {X : jX} {po : Option Value → jH → Prop} {px : String → jH → Prop} {sf : Bool} {B9 : Nat} (hM : jMX X kX5_doTold RX5 tbX5 4 ⟨5, 0, 0, 113⟩ (some .int) 12) (hp : jPost X sf B9 po px) (N : Nat) (J : Nat → Nat → Int64) {res : Int32 × (Nat → Nat → Int32)} : ∀ (n : Nat) (G : Nat → Nat → Int32) (x2 : Int32) (h : p_X5_doTold_b2 N J n G x2 = some res) (hq : po (some (.int res.1)) (hTT res.2 J)), JW X 0 0 2 [some (.ref 0), some (.ref 9), some (.int x2), none] [] (hTT G J) := by
  intro n
  induction n with
  | zero =>
    intro G x2 h hq
    cases (show (none : Option (Int32 × (Nat → Nat → Int32))) = some res from h)
  | succ n ih2 =>
    intro G x2 h hq
    have ih2 := fun G x2 h9 => ih2 G x2 h9 hq
    rw [p_X5_doTold_b2] at h
    refine JW.r hM 2 3 (pc2 := 7) (L2 := [some (.ref 0), some (.ref 9), some (.int x2), none]) (st2 := [.int (G 9 1), .int x2]) (μ2 := (hTT G J)) rfl trivial ?_
    refine js_icge (t := 59) hM.1 (jat hM.2.1 5 rfl) rfl (fun hc13 => ?_) (fun hc13 => ?_)
    · have h := (if_pos hc13).symm.trans h
      refine JW.r hM 37 1 (pc2 := 60) (L2 := [some (.ref 0), some (.ref 9), some (.int x2), none]) (st2 := [.int x2]) (μ2 := (hTT G J)) rfl trivial ?_
      obtain rfl := Option.some.inj h
      exact js_iret hM.1 hp hM.2.2.2.2.2.2.2.1 (by rw [hM.2.2.2.2.2.1]; exact Nat.le_of_ble_eq_true rfl) (by rw [hM.2.2.2.2.2.2.1]; exact Nat.le_of_ble_eq_true rfl) (jat hM.2.1 38 rfl) hq
    · have h := (if_neg hc13).symm.trans h
      obtain ⟨g1, h⟩ := jg h
      refine JW.r hM 6 5 (pc2 := 17) (L2 := [some (.ref 0), some (.ref 9), some (.int x2), none]) (st2 := [.long (J 10 x2.toNatClampNeg), .ref 0]) (μ2 := (hTT G J)) rfl ⟨g1, trivial⟩ ?_
      obtain ⟨v3, hv2, h⟩ := jbd h
      refine JW.cS (v := some (.int v3)) hM (m_X5_whyNoTold (jVX X) hM.1.2.2.2.2.2.2.2.2.2.1 N (jvw G 0) (J 10 x2.toNatClampNeg) v3 hv2) (sb_TT_Town_0 G J) (bi_TT_Town_0 G J) rfl rfl rfl kc_X5_198 rfl rfl rfl (jat hM.2.1 11 rfl) (st := []) rfl ?_
      show JW X 0 0 20 [some (.ref 0), some (.ref 9), some (.int x2), none] [.int v3] (hTT G J)
      refine js_ifne (t := 59) hM.1 (jat hM.2.1 12 rfl) rfl (fun hc12 => ?_) (fun hc12 => ?_)
      · have h := (if_neg hc12).symm.trans h
        refine JW.r hM 37 1 (pc2 := 60) (L2 := [some (.ref 0), some (.ref 9), some (.int x2), none]) (st2 := [.int x2]) (μ2 := (hTT G J)) rfl trivial ?_
        obtain rfl := Option.some.inj h
        exact js_iret hM.1 hp hM.2.2.2.2.2.2.2.1 (by rw [hM.2.2.2.2.2.1]; exact Nat.le_of_ble_eq_true rfl) (by rw [hM.2.2.2.2.2.2.1]; exact Nat.le_of_ble_eq_true rfl) (jat hM.2.1 38 rfl) hq
      · have h := (if_pos hc12).symm.trans h
        obtain ⟨g4, h⟩ := jg h
        obtain ⟨g5, h⟩ := jg h
        refine JW.r hM 13 19 (pc2 := 46) (L2 := [some (.ref 0), some (.ref 9), some (.int x2), some (.int (((J 10 x2.toNatClampNeg) >>> ((1 : Int32).toInt64 &&& 63)).toInt32))]) (st2 := [.int (((J 10 x2.toNatClampNeg) &&& (1 : Int64)).toInt32), .int (((J 10 x2.toNatClampNeg) >>> ((1 : Int32).toInt64 &&& 63)).toInt32), .ref 0, .int (((J 10 x2.toNatClampNeg) >>> ((1 : Int32).toInt64 &&& 63)).toInt32), .ref 0]) (μ2 := (hTT G J)) rfl ⟨g4, g5, trivial⟩ ?_
        obtain ⟨v7, hv6, h⟩ := jbd h
        refine JW.cV (v := some (.int v7)) hM (m_X3_sideOf (jVX X) hM.1.2.2.2.2.2.2.2.2.2.1 N (jvw G 0) (((J 10 x2.toNatClampNeg) >>> ((1 : Int32).toInt64 &&& 63)).toInt32) (((J 10 x2.toNatClampNeg) &&& (1 : Int64)).toInt32) v7 hv6) (sb_TT_Town_0 G J) (bi_TT_Town_0 G J) rfl rfl rfl kc_X5_235 rfl rfl rfl rfl rfl (jat hM.2.1 32 rfl) (st := [.int (((J 10 x2.toNatClampNeg) >>> ((1 : Int32).toInt64 &&& 63)).toInt32), .ref 0]) rfl ?_
        show JW X 0 0 49 [some (.ref 0), some (.ref 9), some (.int x2), some (.int (((J 10 x2.toNatClampNeg) >>> ((1 : Int32).toInt64 &&& 63)).toInt32))] [.int v7, .int (((J 10 x2.toNatClampNeg) >>> ((1 : Int32).toInt64 &&& 63)).toInt32), .ref 0] (hTT G J)
        obtain ⟨v9, hv8, h⟩ := jbd h
        refine JW.cV (v := some (.int v9.1)) hM (m_X3_fell (jVX X) hM.1.2.2.2.2.2.2.2.2.2.1 N (jvw G 0) (((J 10 x2.toNatClampNeg) >>> ((1 : Int32).toInt64 &&& 63)).toInt32) v7 v9 hv8) (sb_TT_Town_0 G J) (bk_TT_Town_0 G J v9.2) rfl rfl rfl kc_X5_170 rfl rfl rfl rfl rfl (jat hM.2.1 33 rfl) (st := []) rfl ?_
        show JW X 0 0 52 [some (.ref 0), some (.ref 9), some (.int x2), some (.int (((J 10 x2.toNatClampNeg) >>> ((1 : Int32).toInt64 &&& 63)).toInt32))] [.int v9.1] (hTT (jpt G 0 9 v9.2) J)
        obtain ⟨G10, e11, h⟩ := jlE h
        rw [e11]
        refine JW.r hM 34 3 (pc2 := 2) (L2 := [some (.ref 0), some (.ref 9), some (.int (x2 + 1)), some (.int (((J 10 x2.toNatClampNeg) >>> ((1 : Int32).toInt64 &&& 63)).toInt32))]) (st2 := []) (μ2 := (hTT G10 J)) rfl trivial ?_
        exact JW.mask [true, true, true, false] (ih2 G10 (x2 + 1) h)
set_option maxHeartbeats 4000000 in
set_option maxRecDepth 100000 in
theorem t_X5_doTold {X : jX} {po : Option Value → jH → Prop} {px : String → jH → Prop} {sf : Bool} {B9 : Nat} (hM : jMX X kX5_doTold RX5 tbX5 4 ⟨5, 0, 0, 113⟩ (some .int) 12) (hp : jPost X sf B9 po px) (N : Nat) (G : Nat → Nat → Int32) (J : Nat → Nat → Int64) {res : Int32 × (Nat → Nat → Int32)} (h : p_X5_doTold N G J = some res) (hq : po (some (.int res.1)) (hTT res.2 J)) : JW X 0 0 0 [some (.ref 0), some (.ref 9), none, none] [] (hTT G J) := by
  unfold p_X5_doTold at h
  refine JW.r hM 0 2 (pc2 := 2) (L2 := [some (.ref 0), some (.ref 9), some (.int (0 : Int32)), none]) (st2 := []) (μ2 := (hTT G J)) rfl trivial ?_
  exact t_X5_doTold_b2 hM hp N J N G (0 : Int32) h hq
theorem m_X5_doTold (V : jV) (hV : V.1.stackTraces = false) (N : Nat) (G : Nat → Nat → Int32) (J : Nat → Nat → Int64) (v : Int32 × (Nat → Nat → Int32)) (h : p_X5_doTold N G J = some v) : jMet V yX5_doTold (jws yX5_doTold cX5_doTold 4 (some .int)) ⟨5, 0, 0, 113⟩ true 1 [.ref 0, .ref 9] (hTT G J) (fun o ν => o = some (.int v.1) ∧ ν = (hTT v.2 J)) (fun _ _ => False) := by
  refine jmk (tb := tbX5) (C := kX5_doTold) hV rfl (by decide) tbX5_ok rfl kX5_doTold_ok rfl ?_
  intro X hM _ hp _
  exact t_X5_doTold hM hp N G J h ⟨rfl, rfl⟩
def p_X5_judge_b15 (N : Nat) (J : Nat → Nat → Int64) (G : Nat → Nat → Int32) : Option (Nat ⊕ (Int32 × (Nat → Nat → Int32))) :=
  some (.inl 3)
def p_X5_judge (N : Nat) (G : Nat → Nat → Int32) (J : Nat → Nat → Int64) (p0 : Int32) (p1 : Int32) : Option (Nat ⊕ (Int32 × (Nat → Nat → Int32))) :=
  jbx (p_X5_needTray N G J p0) (fun v2 => if v2 = 62 then (if p1 < 0 then (p_X5_judge_b15 N J G) else (if p1 ≤ (2 : Int32) then ((p_X3_copyFrom N (jv2 G 10 9 1)).bind (fun v4 => jlt (jp2 G 10 9 1 9 v4) fun G5 => (p_X5_doTold N (jv2 G5 10 9 62) (jv2 J 10 9 62)).bind (fun v8 => jlt (jp2 G5 10 9 62 2 v8.2) fun G9 => if p1 = (2 : Int32) then ((p_J6_bitCount_0f7a4 N (G9 10 8)).bind (fun v18 => some (.inr (v18, G9)))) else (if v8.1 = (G9 62 1) then (if p1 = 0 then (some (.inr ((-1 : Int32), G9))) else (some (.inr ((0 : Int32), G9)))) else (if p1 = 0 then (some (.inr (v8.1, G9))) else (if jin v8.1 40 = true then (p_X5_whyNoTold N (jvw G9 10) (J 63 v8.1.toNatClampNeg)).bind (fun v13 => some (.inr (v13, G9))) else none)))))) else (p_X5_judge_b15 N J G))) else (if v2 = 64 then (if p1 < 0 then (p_X5_judge_b15 N J G) else (if p1 ≤ (2 : Int32) then ((p_X3_copyFrom N (jv2 G 10 9 1)).bind (fun v23 => jlt (jp2 G 10 9 1 9 v23) fun G24 => (p_X5_doTold N (jv2 G24 10 9 64) (jv2 J 10 9 64)).bind (fun v27 => jlt (jp2 G24 10 9 64 2 v27.2) fun G28 => if p1 = (2 : Int32) then ((p_J6_bitCount_0f7a4 N (G28 10 8)).bind (fun v37 => some (.inr (v37, G28)))) else (if v27.1 = (G28 64 1) then (if p1 = 0 then (some (.inr ((-1 : Int32), G28))) else (some (.inr ((0 : Int32), G28)))) else (if p1 = 0 then (some (.inr (v27.1, G28))) else (if jin v27.1 40 = true then (p_X5_whyNoTold N (jvw G28 10) (J 65 v27.1.toNatClampNeg)).bind (fun v32 => some (.inr (v32, G28))) else none)))))) else (p_X5_judge_b15 N J G))) else (if v2 = 66 then (if p1 < 0 then (p_X5_judge_b15 N J G) else (if p1 ≤ (2 : Int32) then ((p_X3_copyFrom N (jv2 G 10 9 1)).bind (fun v42 => jlt (jp2 G 10 9 1 9 v42) fun G43 => (p_X5_doTold N (jv2 G43 10 9 66) (jv2 J 10 9 66)).bind (fun v46 => jlt (jp2 G43 10 9 66 2 v46.2) fun G47 => if p1 = (2 : Int32) then ((p_J6_bitCount_0f7a4 N (G47 10 8)).bind (fun v56 => some (.inr (v56, G47)))) else (if v46.1 = (G47 66 1) then (if p1 = 0 then (some (.inr ((-1 : Int32), G47))) else (some (.inr ((0 : Int32), G47)))) else (if p1 = 0 then (some (.inr (v46.1, G47))) else (if jin v46.1 40 = true then (p_X5_whyNoTold N (jvw G47 10) (J 67 v46.1.toNatClampNeg)).bind (fun v51 => some (.inr (v51, G47))) else none)))))) else (p_X5_judge_b15 N J G))) else (if v2 = 68 then (if p1 < 0 then (p_X5_judge_b15 N J G) else (if p1 ≤ (2 : Int32) then ((p_X3_copyFrom N (jv2 G 10 9 1)).bind (fun v61 => jlt (jp2 G 10 9 1 9 v61) fun G62 => (p_X5_doTold N (jv2 G62 10 9 68) (jv2 J 10 9 68)).bind (fun v65 => jlt (jp2 G62 10 9 68 2 v65.2) fun G66 => if p1 = (2 : Int32) then ((p_J6_bitCount_0f7a4 N (G66 10 8)).bind (fun v75 => some (.inr (v75, G66)))) else (if v65.1 = (G66 68 1) then (if p1 = 0 then (some (.inr ((-1 : Int32), G66))) else (some (.inr ((0 : Int32), G66)))) else (if p1 = 0 then (some (.inr (v65.1, G66))) else (if jin v65.1 40 = true then (p_X5_whyNoTold N (jvw G66 10) (J 69 v65.1.toNatClampNeg)).bind (fun v70 => some (.inr (v70, G66))) else none)))))) else (p_X5_judge_b15 N J G))) else (none)))))
set_option maxHeartbeats 4000000 in
set_option maxRecDepth 100000 in
theorem t_X5_judge_b15 {X : jX} {po : Option Value → jH → Prop} {px : String → jH → Prop} {sf : Bool} {B9 : Nat} (hM : jMX X kX5_judge RX5 tbX5 5 ⟨7, 2, 12, 136⟩ (some .int) 71) (hp : jPost X sf B9 po px) (N : Nat) (J : Nat → Nat → Int64) {res : Nat ⊕ (Int32 × (Nat → Nat → Int32))} (G : Nat → Nat → Int32) (h : p_X5_judge_b15 N J G = some res) (hq : ∀ w, res = Sum.inr w → po (some (.int w.1)) (hX w.2 J)) (hx : ∀ c, res = Sum.inl c → px (jEn c) (hX G J)) : JW X 1 6 15 [none, none, none, none, none] [] (hX G J) := by
  unfold p_X5_judge_b15 at h
  obtain rfl := Option.some.inj h
  exact js_throw (ik := 56) (ic := 58) (names := ["java/lang/RuntimeException", "java/lang/Exception"]) hM.1 hp hM.2.2.2.2.2.2.2.2.2 (by decide) (by decide) (by rw [hM.2.2.1]; exact th_X5_56_58) (jat hM.2.1 9 rfl) (jat hM.2.1 10 rfl) (jat hM.2.1 11 rfl) (jat hM.2.1 12 rfl) (by rw [hM.2.2.2.2.1]; exact Nat.le_of_ble_eq_true rfl) (by rw [hM.2.2.2.2.1]; exact Nat.le_of_ble_eq_true rfl) (by rw [hM.2.2.2.2.2.1]; exact Nat.le_of_ble_eq_true rfl) (by rw [hM.2.2.2.2.2.2.1]; exact Nat.le_of_ble_eq_true rfl) (hx _ rfl)
set_option maxHeartbeats 4000000 in
set_option maxRecDepth 100000 in
theorem t_X5_judge {X : jX} {po : Option Value → jH → Prop} {px : String → jH → Prop} {sf : Bool} {B9 : Nat} (hM : jMX X kX5_judge RX5 tbX5 5 ⟨7, 2, 12, 136⟩ (some .int) 71) (hp : jPost X sf B9 po px) (N : Nat) (G : Nat → Nat → Int32) (J : Nat → Nat → Int64) (p0 : Int32) (p1 : Int32) {res : Nat ⊕ (Int32 × (Nat → Nat → Int32))} (h : p_X5_judge N G J p0 p1 = some res) (hq : ∀ w, res = Sum.inr w → po (some (.int w.1)) (hX w.2 J)) (hx : ∀ c, res = Sum.inl c → px (jEn c) (hX G J)) : JW X 0 0 0 [some (.ref 0), some (.int p0), some (.int p1), none, none] [] (hX G J) := by
  unfold p_X5_judge at h
  refine JW.r hM 0 2 (pc2 := 2) (L2 := [some (.ref 0), some (.int p0), some (.int p1), none, none]) (st2 := [.int p0, .ref 0]) (μ2 := (hX G J)) rfl trivial ?_
  rcases jbxE h with h | h
  · obtain ⟨v2, hv1, h⟩ := h
    refine JW.cV (v := some (.ref v2)) hM (m_X5_needTray_r (jVX X) hM.1.2.2.2.2.2.2.2.2.2.1 N G J p0 v2 hv1) (sb_X_X_0 G J) (bi_X_X_0 G J) rfl rfl rfl kc_X5_183 rfl rfl rfl rfl rfl (jat hM.2.1 2 rfl) (st := []) rfl ?_
    by_cases hc82 : v2 = 62
    · subst hc82
      have h := (if_pos rfl).symm.trans h
      show JW X 1 6 5 [some (.ref 0), some (.int p0), some (.int p1), none, none] [.ref 62] (hX G J)
      refine JW.r hM 3 2 (pc2 := 7) (L2 := [some (.ref 0), some (.int p0), some (.int p1), some (.ref 62), none]) (st2 := [.int p1]) (μ2 := (hX G J)) rfl trivial ?_
      refine js_iflt (t := 15) hM.1 (jat hM.2.1 5 rfl) rfl (fun hc21 => ?_) (fun hc21 => ?_)
      · have h := (if_pos hc21).symm.trans h
        exact JW.mask [false, false, false, false, false] (t_X5_judge_b15 hM hp N J G h hq hx)
      · have h := (if_neg hc21).symm.trans h
        refine JW.r hM 6 2 (pc2 := 12) (L2 := [some (.ref 0), some (.int p0), some (.int p1), some (.ref 62), none]) (st2 := [.int (2 : Int32), .int p1]) (μ2 := (hX G J)) rfl trivial ?_
        refine js_icle (t := 23) hM.1 (jat hM.2.1 8 rfl) rfl (fun hc20 => ?_) (fun hc20 => ?_)
        · have h := (if_pos hc20).symm.trans h
          refine JW.r hM 13 4 (pc2 := 31) (L2 := [some (.ref 0), some (.int p0), some (.int p1), some (.ref 62), none]) (st2 := [.ref 1, .ref 10]) (μ2 := (hX G J)) rfl trivial ?_
          obtain ⟨v4, hv3, h⟩ := jbd h
          refine JW.cV (v := none) hM (m_X3_copyFrom (jVX X) hM.1.2.2.2.2.2.2.2.2.2.1 N (jv2 G 10 9 1) v4 hv3) (sb_X_T2_10_1 G J) (bk_X_T2_10_1 G J v4) rfl rfl rfl kc_X5_66 rfl rfl rfl rfl rfl (jat hM.2.1 17 rfl) (st := []) rfl ?_
          show JW X 1 6 34 [some (.ref 0), some (.int p0), some (.int p1), some (.ref 62), none] [] (hX (jp2 G 10 9 1 9 v4) J)
          obtain ⟨G5, e6, h⟩ := jlE h
          rw [e6]
          refine JW.r hM 18 3 (pc2 := 39) (L2 := [some (.ref 0), some (.int p0), some (.int p1), some (.ref 62), none]) (st2 := [.ref 62, .ref 10]) (μ2 := (hX G5 J)) rfl trivial ?_
          obtain ⟨v8, hv7, h⟩ := jbd h
          refine JW.cS (v := some (.int v8.1)) hM (m_X5_doTold (jVX X) hM.1.2.2.2.2.2.2.2.2.2.1 N (jv2 G5 10 9 62) (jv2 J 10 9 62) v8 hv7) (sb_X_TT_10_62 G5 J) (bk_X_TT_10_62 G5 J v8.2 (jv2 J 10 9 62)) rfl rfl rfl kc_X5_187 rfl rfl rfl (jat hM.2.1 21 rfl) (st := []) rfl ?_
          show JW X 1 6 42 [some (.ref 0), some (.int p0), some (.int p1), some (.ref 62), none] [.int v8.1] (hX (jp2 G5 10 9 62 2 v8.2) J)
          obtain ⟨G9, e10, h⟩ := jlE h
          rw [e10]
          refine JW.r hM 22 3 (pc2 := 46) (L2 := [some (.ref 0), some (.int p0), some (.int p1), some (.ref 62), some (.int v8.1)]) (st2 := [.int (2 : Int32), .int p1]) (μ2 := (hX G9 J)) rfl trivial ?_
          refine js_icne (t := 60) hM.1 (jat hM.2.1 25 rfl) rfl (fun hc19 => ?_) (fun hc19 => ?_)
          · have h := (if_neg hc19).symm.trans h
            refine JW.r hM 31 3 (pc2 := 66) (L2 := [some (.ref 0), some (.int p0), some (.int p1), some (.ref 62), some (.int v8.1)]) (st2 := [.int (G9 62 1), .int v8.1]) (μ2 := (hX G9 J)) rfl trivial ?_
            refine js_icne (t := 79) hM.1 (jat hM.2.1 34 rfl) rfl (fun hc16 => ?_) (fun hc16 => ?_)
            · have h := (if_neg hc16).symm.trans h
              refine JW.r hM 41 1 (pc2 := 80) (L2 := [some (.ref 0), some (.int p0), some (.int p1), some (.ref 62), some (.int v8.1)]) (st2 := [.int p1]) (μ2 := (hX G9 J)) rfl trivial ?_
              refine js_ifne (t := 88) hM.1 (jat hM.2.1 42 rfl) rfl (fun hc14 => ?_) (fun hc14 => ?_)
              · have h := (if_neg hc14).symm.trans h
                obtain ⟨g11, h⟩ := jg h
                refine JW.r hM 45 6 (pc2 := 99) (L2 := [some (.ref 0), some (.int p0), some (.int p1), some (.ref 62), some (.int v8.1)]) (st2 := [.long (J 63 v8.1.toNatClampNeg), .ref 10]) (μ2 := (hX G9 J)) rfl ⟨g11, trivial⟩ ?_
                obtain ⟨v13, hv12, h⟩ := jbd h
                refine JW.cS (v := some (.int v13)) hM (m_X5_whyNoTold (jVX X) hM.1.2.2.2.2.2.2.2.2.2.1 N (jvw G9 10) (J 63 v8.1.toNatClampNeg) v13 hv12) (sb_X_Town_10 G9 J) (bi_X_Town_10 G9 J) rfl rfl rfl kc_X5_198 rfl rfl rfl (jat hM.2.1 51 rfl) (st := []) rfl ?_
                show JW X 1 6 102 [some (.ref 0), some (.int p0), some (.int p1), some (.ref 62), some (.int v8.1)] [.int v13] (hX G9 J)
                obtain rfl := Option.some.inj h
                exact js_iret hM.1 hp hM.2.2.2.2.2.2.2.1 (by rw [hM.2.2.2.2.2.1]; exact Nat.le_of_ble_eq_true rfl) (by rw [hM.2.2.2.2.2.2.1]; exact Nat.le_of_ble_eq_true rfl) (jat hM.2.1 52 rfl) (hq (v13, G9) rfl)
              · have h := (if_pos hc14).symm.trans h
                refine JW.r hM 43 2 (pc2 := 102) (L2 := [some (.ref 0), some (.int p0), some (.int p1), some (.ref 62), some (.int v8.1)]) (st2 := [.int v8.1]) (μ2 := (hX G9 J)) rfl trivial ?_
                obtain rfl := Option.some.inj h
                exact js_iret hM.1 hp hM.2.2.2.2.2.2.2.1 (by rw [hM.2.2.2.2.2.1]; exact Nat.le_of_ble_eq_true rfl) (by rw [hM.2.2.2.2.2.2.1]; exact Nat.le_of_ble_eq_true rfl) (jat hM.2.1 52 rfl) (hq (v8.1, G9) rfl)
            · have h := (if_pos hc16).symm.trans h
              refine JW.r hM 35 1 (pc2 := 70) (L2 := [some (.ref 0), some (.int p0), some (.int p1), some (.ref 62), some (.int v8.1)]) (st2 := [.int p1]) (μ2 := (hX G9 J)) rfl trivial ?_
              refine js_ifne (t := 77) hM.1 (jat hM.2.1 36 rfl) rfl (fun hc15 => ?_) (fun hc15 => ?_)
              · have h := (if_neg hc15).symm.trans h
                refine JW.r hM 39 1 (pc2 := 78) (L2 := [some (.ref 0), some (.int p0), some (.int p1), some (.ref 62), some (.int v8.1)]) (st2 := [.int (0 : Int32)]) (μ2 := (hX G9 J)) rfl trivial ?_
                obtain rfl := Option.some.inj h
                exact js_iret hM.1 hp hM.2.2.2.2.2.2.2.1 (by rw [hM.2.2.2.2.2.1]; exact Nat.le_of_ble_eq_true rfl) (by rw [hM.2.2.2.2.2.2.1]; exact Nat.le_of_ble_eq_true rfl) (jat hM.2.1 40 rfl) (hq ((0 : Int32), G9) rfl)
              · have h := (if_pos hc15).symm.trans h
                refine JW.r hM 37 2 (pc2 := 78) (L2 := [some (.ref 0), some (.int p0), some (.int p1), some (.ref 62), some (.int v8.1)]) (st2 := [.int (-1 : Int32)]) (μ2 := (hX G9 J)) rfl trivial ?_
                obtain rfl := Option.some.inj h
                exact js_iret hM.1 hp hM.2.2.2.2.2.2.2.1 (by rw [hM.2.2.2.2.2.1]; exact Nat.le_of_ble_eq_true rfl) (by rw [hM.2.2.2.2.2.2.1]; exact Nat.le_of_ble_eq_true rfl) (jat hM.2.1 40 rfl) (hq ((-1 : Int32), G9) rfl)
          · have h := (if_pos hc19).symm.trans h
            refine JW.r hM 26 3 (pc2 := 56) (L2 := [some (.ref 0), some (.int p0), some (.int p1), some (.ref 62), some (.int v8.1)]) (st2 := [.int (G9 10 8)]) (μ2 := (hX G9 J)) rfl trivial ?_
            obtain ⟨v18, hv17, h⟩ := jbd h
            refine JW.cS (v := some (.int v18)) hM (m_J6_bitCount_0f7a4 (jVX X) hM.1.2.2.2.2.2.2.2.2.2.1 N (G9 10 8) v18 hv17) (sb_X_E_ G9 J) (bi_X_E_ G9 J) rfl rfl rfl kc_X5_125 rfl rfl rfl (jat hM.2.1 29 rfl) (st := []) rfl ?_
            show JW X 1 6 59 [some (.ref 0), some (.int p0), some (.int p1), some (.ref 62), some (.int v8.1)] [.int v18] (hX G9 J)
            obtain rfl := Option.some.inj h
            exact js_iret hM.1 hp hM.2.2.2.2.2.2.2.1 (by rw [hM.2.2.2.2.2.1]; exact Nat.le_of_ble_eq_true rfl) (by rw [hM.2.2.2.2.2.2.1]; exact Nat.le_of_ble_eq_true rfl) (jat hM.2.1 30 rfl) (hq (v18, G9) rfl)
        · have h := (if_neg hc20).symm.trans h
          exact JW.mask [false, false, false, false, false] (t_X5_judge_b15 hM hp N J G h hq hx)
    · have h := (if_neg hc82).symm.trans h
      by_cases hc81 : v2 = 64
      · subst hc81
        have h := (if_pos rfl).symm.trans h
        show JW X 1 6 5 [some (.ref 0), some (.int p0), some (.int p1), none, none] [.ref 64] (hX G J)
        refine JW.r hM 3 2 (pc2 := 7) (L2 := [some (.ref 0), some (.int p0), some (.int p1), some (.ref 64), none]) (st2 := [.int p1]) (μ2 := (hX G J)) rfl trivial ?_
        refine js_iflt (t := 15) hM.1 (jat hM.2.1 5 rfl) rfl (fun hc40 => ?_) (fun hc40 => ?_)
        · have h := (if_pos hc40).symm.trans h
          exact JW.mask [false, false, false, false, false] (t_X5_judge_b15 hM hp N J G h hq hx)
        · have h := (if_neg hc40).symm.trans h
          refine JW.r hM 6 2 (pc2 := 12) (L2 := [some (.ref 0), some (.int p0), some (.int p1), some (.ref 64), none]) (st2 := [.int (2 : Int32), .int p1]) (μ2 := (hX G J)) rfl trivial ?_
          refine js_icle (t := 23) hM.1 (jat hM.2.1 8 rfl) rfl (fun hc39 => ?_) (fun hc39 => ?_)
          · have h := (if_pos hc39).symm.trans h
            refine JW.r hM 13 4 (pc2 := 31) (L2 := [some (.ref 0), some (.int p0), some (.int p1), some (.ref 64), none]) (st2 := [.ref 1, .ref 10]) (μ2 := (hX G J)) rfl trivial ?_
            obtain ⟨v23, hv22, h⟩ := jbd h
            refine JW.cV (v := none) hM (m_X3_copyFrom (jVX X) hM.1.2.2.2.2.2.2.2.2.2.1 N (jv2 G 10 9 1) v23 hv22) (sb_X_T2_10_1 G J) (bk_X_T2_10_1 G J v23) rfl rfl rfl kc_X5_66 rfl rfl rfl rfl rfl (jat hM.2.1 17 rfl) (st := []) rfl ?_
            show JW X 1 6 34 [some (.ref 0), some (.int p0), some (.int p1), some (.ref 64), none] [] (hX (jp2 G 10 9 1 9 v23) J)
            obtain ⟨G24, e25, h⟩ := jlE h
            rw [e25]
            refine JW.r hM 18 3 (pc2 := 39) (L2 := [some (.ref 0), some (.int p0), some (.int p1), some (.ref 64), none]) (st2 := [.ref 64, .ref 10]) (μ2 := (hX G24 J)) rfl trivial ?_
            obtain ⟨v27, hv26, h⟩ := jbd h
            refine JW.cS (v := some (.int v27.1)) hM (m_X5_doTold (jVX X) hM.1.2.2.2.2.2.2.2.2.2.1 N (jv2 G24 10 9 64) (jv2 J 10 9 64) v27 hv26) (sb_X_TT_10_64 G24 J) (bk_X_TT_10_64 G24 J v27.2 (jv2 J 10 9 64)) rfl rfl rfl kc_X5_187 rfl rfl rfl (jat hM.2.1 21 rfl) (st := []) rfl ?_
            show JW X 1 6 42 [some (.ref 0), some (.int p0), some (.int p1), some (.ref 64), none] [.int v27.1] (hX (jp2 G24 10 9 64 2 v27.2) J)
            obtain ⟨G28, e29, h⟩ := jlE h
            rw [e29]
            refine JW.r hM 22 3 (pc2 := 46) (L2 := [some (.ref 0), some (.int p0), some (.int p1), some (.ref 64), some (.int v27.1)]) (st2 := [.int (2 : Int32), .int p1]) (μ2 := (hX G28 J)) rfl trivial ?_
            refine js_icne (t := 60) hM.1 (jat hM.2.1 25 rfl) rfl (fun hc38 => ?_) (fun hc38 => ?_)
            · have h := (if_neg hc38).symm.trans h
              refine JW.r hM 31 3 (pc2 := 66) (L2 := [some (.ref 0), some (.int p0), some (.int p1), some (.ref 64), some (.int v27.1)]) (st2 := [.int (G28 64 1), .int v27.1]) (μ2 := (hX G28 J)) rfl trivial ?_
              refine js_icne (t := 79) hM.1 (jat hM.2.1 34 rfl) rfl (fun hc35 => ?_) (fun hc35 => ?_)
              · have h := (if_neg hc35).symm.trans h
                refine JW.r hM 41 1 (pc2 := 80) (L2 := [some (.ref 0), some (.int p0), some (.int p1), some (.ref 64), some (.int v27.1)]) (st2 := [.int p1]) (μ2 := (hX G28 J)) rfl trivial ?_
                refine js_ifne (t := 88) hM.1 (jat hM.2.1 42 rfl) rfl (fun hc33 => ?_) (fun hc33 => ?_)
                · have h := (if_neg hc33).symm.trans h
                  obtain ⟨g30, h⟩ := jg h
                  refine JW.r hM 45 6 (pc2 := 99) (L2 := [some (.ref 0), some (.int p0), some (.int p1), some (.ref 64), some (.int v27.1)]) (st2 := [.long (J 65 v27.1.toNatClampNeg), .ref 10]) (μ2 := (hX G28 J)) rfl ⟨g30, trivial⟩ ?_
                  obtain ⟨v32, hv31, h⟩ := jbd h
                  refine JW.cS (v := some (.int v32)) hM (m_X5_whyNoTold (jVX X) hM.1.2.2.2.2.2.2.2.2.2.1 N (jvw G28 10) (J 65 v27.1.toNatClampNeg) v32 hv31) (sb_X_Town_10 G28 J) (bi_X_Town_10 G28 J) rfl rfl rfl kc_X5_198 rfl rfl rfl (jat hM.2.1 51 rfl) (st := []) rfl ?_
                  show JW X 1 6 102 [some (.ref 0), some (.int p0), some (.int p1), some (.ref 64), some (.int v27.1)] [.int v32] (hX G28 J)
                  obtain rfl := Option.some.inj h
                  exact js_iret hM.1 hp hM.2.2.2.2.2.2.2.1 (by rw [hM.2.2.2.2.2.1]; exact Nat.le_of_ble_eq_true rfl) (by rw [hM.2.2.2.2.2.2.1]; exact Nat.le_of_ble_eq_true rfl) (jat hM.2.1 52 rfl) (hq (v32, G28) rfl)
                · have h := (if_pos hc33).symm.trans h
                  refine JW.r hM 43 2 (pc2 := 102) (L2 := [some (.ref 0), some (.int p0), some (.int p1), some (.ref 64), some (.int v27.1)]) (st2 := [.int v27.1]) (μ2 := (hX G28 J)) rfl trivial ?_
                  obtain rfl := Option.some.inj h
                  exact js_iret hM.1 hp hM.2.2.2.2.2.2.2.1 (by rw [hM.2.2.2.2.2.1]; exact Nat.le_of_ble_eq_true rfl) (by rw [hM.2.2.2.2.2.2.1]; exact Nat.le_of_ble_eq_true rfl) (jat hM.2.1 52 rfl) (hq (v27.1, G28) rfl)
              · have h := (if_pos hc35).symm.trans h
                refine JW.r hM 35 1 (pc2 := 70) (L2 := [some (.ref 0), some (.int p0), some (.int p1), some (.ref 64), some (.int v27.1)]) (st2 := [.int p1]) (μ2 := (hX G28 J)) rfl trivial ?_
                refine js_ifne (t := 77) hM.1 (jat hM.2.1 36 rfl) rfl (fun hc34 => ?_) (fun hc34 => ?_)
                · have h := (if_neg hc34).symm.trans h
                  refine JW.r hM 39 1 (pc2 := 78) (L2 := [some (.ref 0), some (.int p0), some (.int p1), some (.ref 64), some (.int v27.1)]) (st2 := [.int (0 : Int32)]) (μ2 := (hX G28 J)) rfl trivial ?_
                  obtain rfl := Option.some.inj h
                  exact js_iret hM.1 hp hM.2.2.2.2.2.2.2.1 (by rw [hM.2.2.2.2.2.1]; exact Nat.le_of_ble_eq_true rfl) (by rw [hM.2.2.2.2.2.2.1]; exact Nat.le_of_ble_eq_true rfl) (jat hM.2.1 40 rfl) (hq ((0 : Int32), G28) rfl)
                · have h := (if_pos hc34).symm.trans h
                  refine JW.r hM 37 2 (pc2 := 78) (L2 := [some (.ref 0), some (.int p0), some (.int p1), some (.ref 64), some (.int v27.1)]) (st2 := [.int (-1 : Int32)]) (μ2 := (hX G28 J)) rfl trivial ?_
                  obtain rfl := Option.some.inj h
                  exact js_iret hM.1 hp hM.2.2.2.2.2.2.2.1 (by rw [hM.2.2.2.2.2.1]; exact Nat.le_of_ble_eq_true rfl) (by rw [hM.2.2.2.2.2.2.1]; exact Nat.le_of_ble_eq_true rfl) (jat hM.2.1 40 rfl) (hq ((-1 : Int32), G28) rfl)
            · have h := (if_pos hc38).symm.trans h
              refine JW.r hM 26 3 (pc2 := 56) (L2 := [some (.ref 0), some (.int p0), some (.int p1), some (.ref 64), some (.int v27.1)]) (st2 := [.int (G28 10 8)]) (μ2 := (hX G28 J)) rfl trivial ?_
              obtain ⟨v37, hv36, h⟩ := jbd h
              refine JW.cS (v := some (.int v37)) hM (m_J6_bitCount_0f7a4 (jVX X) hM.1.2.2.2.2.2.2.2.2.2.1 N (G28 10 8) v37 hv36) (sb_X_E_ G28 J) (bi_X_E_ G28 J) rfl rfl rfl kc_X5_125 rfl rfl rfl (jat hM.2.1 29 rfl) (st := []) rfl ?_
              show JW X 1 6 59 [some (.ref 0), some (.int p0), some (.int p1), some (.ref 64), some (.int v27.1)] [.int v37] (hX G28 J)
              obtain rfl := Option.some.inj h
              exact js_iret hM.1 hp hM.2.2.2.2.2.2.2.1 (by rw [hM.2.2.2.2.2.1]; exact Nat.le_of_ble_eq_true rfl) (by rw [hM.2.2.2.2.2.2.1]; exact Nat.le_of_ble_eq_true rfl) (jat hM.2.1 30 rfl) (hq (v37, G28) rfl)
          · have h := (if_neg hc39).symm.trans h
            exact JW.mask [false, false, false, false, false] (t_X5_judge_b15 hM hp N J G h hq hx)
      · have h := (if_neg hc81).symm.trans h
        by_cases hc80 : v2 = 66
        · subst hc80
          have h := (if_pos rfl).symm.trans h
          show JW X 1 6 5 [some (.ref 0), some (.int p0), some (.int p1), none, none] [.ref 66] (hX G J)
          refine JW.r hM 3 2 (pc2 := 7) (L2 := [some (.ref 0), some (.int p0), some (.int p1), some (.ref 66), none]) (st2 := [.int p1]) (μ2 := (hX G J)) rfl trivial ?_
          refine js_iflt (t := 15) hM.1 (jat hM.2.1 5 rfl) rfl (fun hc59 => ?_) (fun hc59 => ?_)
          · have h := (if_pos hc59).symm.trans h
            exact JW.mask [false, false, false, false, false] (t_X5_judge_b15 hM hp N J G h hq hx)
          · have h := (if_neg hc59).symm.trans h
            refine JW.r hM 6 2 (pc2 := 12) (L2 := [some (.ref 0), some (.int p0), some (.int p1), some (.ref 66), none]) (st2 := [.int (2 : Int32), .int p1]) (μ2 := (hX G J)) rfl trivial ?_
            refine js_icle (t := 23) hM.1 (jat hM.2.1 8 rfl) rfl (fun hc58 => ?_) (fun hc58 => ?_)
            · have h := (if_pos hc58).symm.trans h
              refine JW.r hM 13 4 (pc2 := 31) (L2 := [some (.ref 0), some (.int p0), some (.int p1), some (.ref 66), none]) (st2 := [.ref 1, .ref 10]) (μ2 := (hX G J)) rfl trivial ?_
              obtain ⟨v42, hv41, h⟩ := jbd h
              refine JW.cV (v := none) hM (m_X3_copyFrom (jVX X) hM.1.2.2.2.2.2.2.2.2.2.1 N (jv2 G 10 9 1) v42 hv41) (sb_X_T2_10_1 G J) (bk_X_T2_10_1 G J v42) rfl rfl rfl kc_X5_66 rfl rfl rfl rfl rfl (jat hM.2.1 17 rfl) (st := []) rfl ?_
              show JW X 1 6 34 [some (.ref 0), some (.int p0), some (.int p1), some (.ref 66), none] [] (hX (jp2 G 10 9 1 9 v42) J)
              obtain ⟨G43, e44, h⟩ := jlE h
              rw [e44]
              refine JW.r hM 18 3 (pc2 := 39) (L2 := [some (.ref 0), some (.int p0), some (.int p1), some (.ref 66), none]) (st2 := [.ref 66, .ref 10]) (μ2 := (hX G43 J)) rfl trivial ?_
              obtain ⟨v46, hv45, h⟩ := jbd h
              refine JW.cS (v := some (.int v46.1)) hM (m_X5_doTold (jVX X) hM.1.2.2.2.2.2.2.2.2.2.1 N (jv2 G43 10 9 66) (jv2 J 10 9 66) v46 hv45) (sb_X_TT_10_66 G43 J) (bk_X_TT_10_66 G43 J v46.2 (jv2 J 10 9 66)) rfl rfl rfl kc_X5_187 rfl rfl rfl (jat hM.2.1 21 rfl) (st := []) rfl ?_
              show JW X 1 6 42 [some (.ref 0), some (.int p0), some (.int p1), some (.ref 66), none] [.int v46.1] (hX (jp2 G43 10 9 66 2 v46.2) J)
              obtain ⟨G47, e48, h⟩ := jlE h
              rw [e48]
              refine JW.r hM 22 3 (pc2 := 46) (L2 := [some (.ref 0), some (.int p0), some (.int p1), some (.ref 66), some (.int v46.1)]) (st2 := [.int (2 : Int32), .int p1]) (μ2 := (hX G47 J)) rfl trivial ?_
              refine js_icne (t := 60) hM.1 (jat hM.2.1 25 rfl) rfl (fun hc57 => ?_) (fun hc57 => ?_)
              · have h := (if_neg hc57).symm.trans h
                refine JW.r hM 31 3 (pc2 := 66) (L2 := [some (.ref 0), some (.int p0), some (.int p1), some (.ref 66), some (.int v46.1)]) (st2 := [.int (G47 66 1), .int v46.1]) (μ2 := (hX G47 J)) rfl trivial ?_
                refine js_icne (t := 79) hM.1 (jat hM.2.1 34 rfl) rfl (fun hc54 => ?_) (fun hc54 => ?_)
                · have h := (if_neg hc54).symm.trans h
                  refine JW.r hM 41 1 (pc2 := 80) (L2 := [some (.ref 0), some (.int p0), some (.int p1), some (.ref 66), some (.int v46.1)]) (st2 := [.int p1]) (μ2 := (hX G47 J)) rfl trivial ?_
                  refine js_ifne (t := 88) hM.1 (jat hM.2.1 42 rfl) rfl (fun hc52 => ?_) (fun hc52 => ?_)
                  · have h := (if_neg hc52).symm.trans h
                    obtain ⟨g49, h⟩ := jg h
                    refine JW.r hM 45 6 (pc2 := 99) (L2 := [some (.ref 0), some (.int p0), some (.int p1), some (.ref 66), some (.int v46.1)]) (st2 := [.long (J 67 v46.1.toNatClampNeg), .ref 10]) (μ2 := (hX G47 J)) rfl ⟨g49, trivial⟩ ?_
                    obtain ⟨v51, hv50, h⟩ := jbd h
                    refine JW.cS (v := some (.int v51)) hM (m_X5_whyNoTold (jVX X) hM.1.2.2.2.2.2.2.2.2.2.1 N (jvw G47 10) (J 67 v46.1.toNatClampNeg) v51 hv50) (sb_X_Town_10 G47 J) (bi_X_Town_10 G47 J) rfl rfl rfl kc_X5_198 rfl rfl rfl (jat hM.2.1 51 rfl) (st := []) rfl ?_
                    show JW X 1 6 102 [some (.ref 0), some (.int p0), some (.int p1), some (.ref 66), some (.int v46.1)] [.int v51] (hX G47 J)
                    obtain rfl := Option.some.inj h
                    exact js_iret hM.1 hp hM.2.2.2.2.2.2.2.1 (by rw [hM.2.2.2.2.2.1]; exact Nat.le_of_ble_eq_true rfl) (by rw [hM.2.2.2.2.2.2.1]; exact Nat.le_of_ble_eq_true rfl) (jat hM.2.1 52 rfl) (hq (v51, G47) rfl)
                  · have h := (if_pos hc52).symm.trans h
                    refine JW.r hM 43 2 (pc2 := 102) (L2 := [some (.ref 0), some (.int p0), some (.int p1), some (.ref 66), some (.int v46.1)]) (st2 := [.int v46.1]) (μ2 := (hX G47 J)) rfl trivial ?_
                    obtain rfl := Option.some.inj h
                    exact js_iret hM.1 hp hM.2.2.2.2.2.2.2.1 (by rw [hM.2.2.2.2.2.1]; exact Nat.le_of_ble_eq_true rfl) (by rw [hM.2.2.2.2.2.2.1]; exact Nat.le_of_ble_eq_true rfl) (jat hM.2.1 52 rfl) (hq (v46.1, G47) rfl)
                · have h := (if_pos hc54).symm.trans h
                  refine JW.r hM 35 1 (pc2 := 70) (L2 := [some (.ref 0), some (.int p0), some (.int p1), some (.ref 66), some (.int v46.1)]) (st2 := [.int p1]) (μ2 := (hX G47 J)) rfl trivial ?_
                  refine js_ifne (t := 77) hM.1 (jat hM.2.1 36 rfl) rfl (fun hc53 => ?_) (fun hc53 => ?_)
                  · have h := (if_neg hc53).symm.trans h
                    refine JW.r hM 39 1 (pc2 := 78) (L2 := [some (.ref 0), some (.int p0), some (.int p1), some (.ref 66), some (.int v46.1)]) (st2 := [.int (0 : Int32)]) (μ2 := (hX G47 J)) rfl trivial ?_
                    obtain rfl := Option.some.inj h
                    exact js_iret hM.1 hp hM.2.2.2.2.2.2.2.1 (by rw [hM.2.2.2.2.2.1]; exact Nat.le_of_ble_eq_true rfl) (by rw [hM.2.2.2.2.2.2.1]; exact Nat.le_of_ble_eq_true rfl) (jat hM.2.1 40 rfl) (hq ((0 : Int32), G47) rfl)
                  · have h := (if_pos hc53).symm.trans h
                    refine JW.r hM 37 2 (pc2 := 78) (L2 := [some (.ref 0), some (.int p0), some (.int p1), some (.ref 66), some (.int v46.1)]) (st2 := [.int (-1 : Int32)]) (μ2 := (hX G47 J)) rfl trivial ?_
                    obtain rfl := Option.some.inj h
                    exact js_iret hM.1 hp hM.2.2.2.2.2.2.2.1 (by rw [hM.2.2.2.2.2.1]; exact Nat.le_of_ble_eq_true rfl) (by rw [hM.2.2.2.2.2.2.1]; exact Nat.le_of_ble_eq_true rfl) (jat hM.2.1 40 rfl) (hq ((-1 : Int32), G47) rfl)
              · have h := (if_pos hc57).symm.trans h
                refine JW.r hM 26 3 (pc2 := 56) (L2 := [some (.ref 0), some (.int p0), some (.int p1), some (.ref 66), some (.int v46.1)]) (st2 := [.int (G47 10 8)]) (μ2 := (hX G47 J)) rfl trivial ?_
                obtain ⟨v56, hv55, h⟩ := jbd h
                refine JW.cS (v := some (.int v56)) hM (m_J6_bitCount_0f7a4 (jVX X) hM.1.2.2.2.2.2.2.2.2.2.1 N (G47 10 8) v56 hv55) (sb_X_E_ G47 J) (bi_X_E_ G47 J) rfl rfl rfl kc_X5_125 rfl rfl rfl (jat hM.2.1 29 rfl) (st := []) rfl ?_
                show JW X 1 6 59 [some (.ref 0), some (.int p0), some (.int p1), some (.ref 66), some (.int v46.1)] [.int v56] (hX G47 J)
                obtain rfl := Option.some.inj h
                exact js_iret hM.1 hp hM.2.2.2.2.2.2.2.1 (by rw [hM.2.2.2.2.2.1]; exact Nat.le_of_ble_eq_true rfl) (by rw [hM.2.2.2.2.2.2.1]; exact Nat.le_of_ble_eq_true rfl) (jat hM.2.1 30 rfl) (hq (v56, G47) rfl)
            · have h := (if_neg hc58).symm.trans h
              exact JW.mask [false, false, false, false, false] (t_X5_judge_b15 hM hp N J G h hq hx)
        · have h := (if_neg hc80).symm.trans h
          by_cases hc79 : v2 = 68
          · subst hc79
            have h := (if_pos rfl).symm.trans h
            show JW X 1 6 5 [some (.ref 0), some (.int p0), some (.int p1), none, none] [.ref 68] (hX G J)
            refine JW.r hM 3 2 (pc2 := 7) (L2 := [some (.ref 0), some (.int p0), some (.int p1), some (.ref 68), none]) (st2 := [.int p1]) (μ2 := (hX G J)) rfl trivial ?_
            refine js_iflt (t := 15) hM.1 (jat hM.2.1 5 rfl) rfl (fun hc78 => ?_) (fun hc78 => ?_)
            · have h := (if_pos hc78).symm.trans h
              exact JW.mask [false, false, false, false, false] (t_X5_judge_b15 hM hp N J G h hq hx)
            · have h := (if_neg hc78).symm.trans h
              refine JW.r hM 6 2 (pc2 := 12) (L2 := [some (.ref 0), some (.int p0), some (.int p1), some (.ref 68), none]) (st2 := [.int (2 : Int32), .int p1]) (μ2 := (hX G J)) rfl trivial ?_
              refine js_icle (t := 23) hM.1 (jat hM.2.1 8 rfl) rfl (fun hc77 => ?_) (fun hc77 => ?_)
              · have h := (if_pos hc77).symm.trans h
                refine JW.r hM 13 4 (pc2 := 31) (L2 := [some (.ref 0), some (.int p0), some (.int p1), some (.ref 68), none]) (st2 := [.ref 1, .ref 10]) (μ2 := (hX G J)) rfl trivial ?_
                obtain ⟨v61, hv60, h⟩ := jbd h
                refine JW.cV (v := none) hM (m_X3_copyFrom (jVX X) hM.1.2.2.2.2.2.2.2.2.2.1 N (jv2 G 10 9 1) v61 hv60) (sb_X_T2_10_1 G J) (bk_X_T2_10_1 G J v61) rfl rfl rfl kc_X5_66 rfl rfl rfl rfl rfl (jat hM.2.1 17 rfl) (st := []) rfl ?_
                show JW X 1 6 34 [some (.ref 0), some (.int p0), some (.int p1), some (.ref 68), none] [] (hX (jp2 G 10 9 1 9 v61) J)
                obtain ⟨G62, e63, h⟩ := jlE h
                rw [e63]
                refine JW.r hM 18 3 (pc2 := 39) (L2 := [some (.ref 0), some (.int p0), some (.int p1), some (.ref 68), none]) (st2 := [.ref 68, .ref 10]) (μ2 := (hX G62 J)) rfl trivial ?_
                obtain ⟨v65, hv64, h⟩ := jbd h
                refine JW.cS (v := some (.int v65.1)) hM (m_X5_doTold (jVX X) hM.1.2.2.2.2.2.2.2.2.2.1 N (jv2 G62 10 9 68) (jv2 J 10 9 68) v65 hv64) (sb_X_TT_10_68 G62 J) (bk_X_TT_10_68 G62 J v65.2 (jv2 J 10 9 68)) rfl rfl rfl kc_X5_187 rfl rfl rfl (jat hM.2.1 21 rfl) (st := []) rfl ?_
                show JW X 1 6 42 [some (.ref 0), some (.int p0), some (.int p1), some (.ref 68), none] [.int v65.1] (hX (jp2 G62 10 9 68 2 v65.2) J)
                obtain ⟨G66, e67, h⟩ := jlE h
                rw [e67]
                refine JW.r hM 22 3 (pc2 := 46) (L2 := [some (.ref 0), some (.int p0), some (.int p1), some (.ref 68), some (.int v65.1)]) (st2 := [.int (2 : Int32), .int p1]) (μ2 := (hX G66 J)) rfl trivial ?_
                refine js_icne (t := 60) hM.1 (jat hM.2.1 25 rfl) rfl (fun hc76 => ?_) (fun hc76 => ?_)
                · have h := (if_neg hc76).symm.trans h
                  refine JW.r hM 31 3 (pc2 := 66) (L2 := [some (.ref 0), some (.int p0), some (.int p1), some (.ref 68), some (.int v65.1)]) (st2 := [.int (G66 68 1), .int v65.1]) (μ2 := (hX G66 J)) rfl trivial ?_
                  refine js_icne (t := 79) hM.1 (jat hM.2.1 34 rfl) rfl (fun hc73 => ?_) (fun hc73 => ?_)
                  · have h := (if_neg hc73).symm.trans h
                    refine JW.r hM 41 1 (pc2 := 80) (L2 := [some (.ref 0), some (.int p0), some (.int p1), some (.ref 68), some (.int v65.1)]) (st2 := [.int p1]) (μ2 := (hX G66 J)) rfl trivial ?_
                    refine js_ifne (t := 88) hM.1 (jat hM.2.1 42 rfl) rfl (fun hc71 => ?_) (fun hc71 => ?_)
                    · have h := (if_neg hc71).symm.trans h
                      obtain ⟨g68, h⟩ := jg h
                      refine JW.r hM 45 6 (pc2 := 99) (L2 := [some (.ref 0), some (.int p0), some (.int p1), some (.ref 68), some (.int v65.1)]) (st2 := [.long (J 69 v65.1.toNatClampNeg), .ref 10]) (μ2 := (hX G66 J)) rfl ⟨g68, trivial⟩ ?_
                      obtain ⟨v70, hv69, h⟩ := jbd h
                      refine JW.cS (v := some (.int v70)) hM (m_X5_whyNoTold (jVX X) hM.1.2.2.2.2.2.2.2.2.2.1 N (jvw G66 10) (J 69 v65.1.toNatClampNeg) v70 hv69) (sb_X_Town_10 G66 J) (bi_X_Town_10 G66 J) rfl rfl rfl kc_X5_198 rfl rfl rfl (jat hM.2.1 51 rfl) (st := []) rfl ?_
                      show JW X 1 6 102 [some (.ref 0), some (.int p0), some (.int p1), some (.ref 68), some (.int v65.1)] [.int v70] (hX G66 J)
                      obtain rfl := Option.some.inj h
                      exact js_iret hM.1 hp hM.2.2.2.2.2.2.2.1 (by rw [hM.2.2.2.2.2.1]; exact Nat.le_of_ble_eq_true rfl) (by rw [hM.2.2.2.2.2.2.1]; exact Nat.le_of_ble_eq_true rfl) (jat hM.2.1 52 rfl) (hq (v70, G66) rfl)
                    · have h := (if_pos hc71).symm.trans h
                      refine JW.r hM 43 2 (pc2 := 102) (L2 := [some (.ref 0), some (.int p0), some (.int p1), some (.ref 68), some (.int v65.1)]) (st2 := [.int v65.1]) (μ2 := (hX G66 J)) rfl trivial ?_
                      obtain rfl := Option.some.inj h
                      exact js_iret hM.1 hp hM.2.2.2.2.2.2.2.1 (by rw [hM.2.2.2.2.2.1]; exact Nat.le_of_ble_eq_true rfl) (by rw [hM.2.2.2.2.2.2.1]; exact Nat.le_of_ble_eq_true rfl) (jat hM.2.1 52 rfl) (hq (v65.1, G66) rfl)
                  · have h := (if_pos hc73).symm.trans h
                    refine JW.r hM 35 1 (pc2 := 70) (L2 := [some (.ref 0), some (.int p0), some (.int p1), some (.ref 68), some (.int v65.1)]) (st2 := [.int p1]) (μ2 := (hX G66 J)) rfl trivial ?_
                    refine js_ifne (t := 77) hM.1 (jat hM.2.1 36 rfl) rfl (fun hc72 => ?_) (fun hc72 => ?_)
                    · have h := (if_neg hc72).symm.trans h
                      refine JW.r hM 39 1 (pc2 := 78) (L2 := [some (.ref 0), some (.int p0), some (.int p1), some (.ref 68), some (.int v65.1)]) (st2 := [.int (0 : Int32)]) (μ2 := (hX G66 J)) rfl trivial ?_
                      obtain rfl := Option.some.inj h
                      exact js_iret hM.1 hp hM.2.2.2.2.2.2.2.1 (by rw [hM.2.2.2.2.2.1]; exact Nat.le_of_ble_eq_true rfl) (by rw [hM.2.2.2.2.2.2.1]; exact Nat.le_of_ble_eq_true rfl) (jat hM.2.1 40 rfl) (hq ((0 : Int32), G66) rfl)
                    · have h := (if_pos hc72).symm.trans h
                      refine JW.r hM 37 2 (pc2 := 78) (L2 := [some (.ref 0), some (.int p0), some (.int p1), some (.ref 68), some (.int v65.1)]) (st2 := [.int (-1 : Int32)]) (μ2 := (hX G66 J)) rfl trivial ?_
                      obtain rfl := Option.some.inj h
                      exact js_iret hM.1 hp hM.2.2.2.2.2.2.2.1 (by rw [hM.2.2.2.2.2.1]; exact Nat.le_of_ble_eq_true rfl) (by rw [hM.2.2.2.2.2.2.1]; exact Nat.le_of_ble_eq_true rfl) (jat hM.2.1 40 rfl) (hq ((-1 : Int32), G66) rfl)
                · have h := (if_pos hc76).symm.trans h
                  refine JW.r hM 26 3 (pc2 := 56) (L2 := [some (.ref 0), some (.int p0), some (.int p1), some (.ref 68), some (.int v65.1)]) (st2 := [.int (G66 10 8)]) (μ2 := (hX G66 J)) rfl trivial ?_
                  obtain ⟨v75, hv74, h⟩ := jbd h
                  refine JW.cS (v := some (.int v75)) hM (m_J6_bitCount_0f7a4 (jVX X) hM.1.2.2.2.2.2.2.2.2.2.1 N (G66 10 8) v75 hv74) (sb_X_E_ G66 J) (bi_X_E_ G66 J) rfl rfl rfl kc_X5_125 rfl rfl rfl (jat hM.2.1 29 rfl) (st := []) rfl ?_
                  show JW X 1 6 59 [some (.ref 0), some (.int p0), some (.int p1), some (.ref 68), some (.int v65.1)] [.int v75] (hX G66 J)
                  obtain rfl := Option.some.inj h
                  exact js_iret hM.1 hp hM.2.2.2.2.2.2.2.1 (by rw [hM.2.2.2.2.2.1]; exact Nat.le_of_ble_eq_true rfl) (by rw [hM.2.2.2.2.2.2.1]; exact Nat.le_of_ble_eq_true rfl) (jat hM.2.1 30 rfl) (hq (v75, G66) rfl)
              · have h := (if_neg hc77).symm.trans h
                exact JW.mask [false, false, false, false, false] (t_X5_judge_b15 hM hp N J G h hq hx)
          · have h := (if_neg hc79).symm.trans h
            cases h
  · obtain ⟨c83, hv1, h⟩ := h
    subst h
    exact JW.xV hM hp (E := jEn c83) (m_X5_needTray_x (jVX X) hM.1.2.2.2.2.2.2.2.2.2.1 N G J p0 c83 hv1) (sb_X_X_0 G J) (bi_X_X_0 G J) rfl rfl kc_X5_183 rfl rfl rfl rfl rfl (jat hM.2.1 2 rfl) (st := []) rfl (hx _ rfl)
theorem m_X5_judge_r (V : jV) (hV : V.1.stackTraces = false) (N : Nat) (G : Nat → Nat → Int32) (J : Nat → Nat → Int64) (p0 : Int32) (p1 : Int32) (v : (Int32 × (Nat → Nat → Int32))) (h : p_X5_judge N G J p0 p1 = some (.inr v)) : jMet V yX5_judge (jws yX5_judge cX5_judge 5 (some .int)) ⟨7, 2, 12, 136⟩ true 1 [.ref 0, .int p0, .int p1] (hX G J) (fun o ν => o = some (.int v.1) ∧ ν = (hX v.2 J)) (fun _ _ => False) := by
  refine jmk (tb := tbX5) (C := kX5_judge) hV rfl (by decide) tbX5_ok rfl kX5_judge_ok rfl ?_
  intro X hM _ hp _
  exact t_X5_judge hM hp N G J p0 p1 h (fun w hw => by cases hw; exact ⟨rfl, rfl⟩) (fun c hc => by cases hc)
theorem m_X5_judge_x (V : jV) (hV : V.1.stackTraces = false) (N : Nat) (G : Nat → Nat → Int32) (J : Nat → Nat → Int64) (p0 : Int32) (p1 : Int32) (c : Nat) (h : p_X5_judge N G J p0 p1 = some (.inl c)) : jMet V yX5_judge (jws yX5_judge cX5_judge 5 (some .int)) ⟨7, 2, 12, 136⟩ true 1 [.ref 0, .int p0, .int p1] (hX G J) (fun _ _ => False) (fun E ν => E = jEn c ∧ ν = (hX G J)) := by
  refine jmk (tb := tbX5) (C := kX5_judge) hV rfl (by decide) tbX5_ok rfl kX5_judge_ok rfl ?_
  intro X hM _ hp _
  exact t_X5_judge hM hp N G J p0 p1 h (fun w hw => by cases hw) (fun c hc => by cases hc; exact ⟨rfl, rfl⟩)
def p_X5_perform (N : Nat) (G : Nat → Nat → Int32) (J : Nat → Nat → Int64) (p0 : Int32) : Option (Nat ⊕ (Int32 × (Nat → Nat → Int32))) :=
  jbx (p_X5_needTray N G J p0) (fun v2 => if v2 = 62 then ((p_X5_doTold N (jv2 G 1 9 62) (jv2 J 1 9 62)).bind (fun v4 => jlt (jp2 G 1 9 62 2 v4.2) fun G5 => some (.inr (v4.1, G5)))) else (if v2 = 64 then ((p_X5_doTold N (jv2 G 1 9 64) (jv2 J 1 9 64)).bind (fun v8 => jlt (jp2 G 1 9 64 2 v8.2) fun G9 => some (.inr (v8.1, G9)))) else (if v2 = 66 then ((p_X5_doTold N (jv2 G 1 9 66) (jv2 J 1 9 66)).bind (fun v12 => jlt (jp2 G 1 9 66 2 v12.2) fun G13 => some (.inr (v12.1, G13)))) else (if v2 = 68 then ((p_X5_doTold N (jv2 G 1 9 68) (jv2 J 1 9 68)).bind (fun v16 => jlt (jp2 G 1 9 68 2 v16.2) fun G17 => some (.inr (v16.1, G17)))) else (none)))))
set_option maxHeartbeats 4000000 in
set_option maxRecDepth 100000 in
theorem t_X5_perform {X : jX} {po : Option Value → jH → Prop} {px : String → jH → Prop} {sf : Bool} {B9 : Nat} (hM : jMX X kX5_perform RX5 tbX5 2 ⟨7, 1, 6, 136⟩ (some .int) 71) (hp : jPost X sf B9 po px) (N : Nat) (G : Nat → Nat → Int32) (J : Nat → Nat → Int64) (p0 : Int32) {res : Nat ⊕ (Int32 × (Nat → Nat → Int32))} (h : p_X5_perform N G J p0 = some res) (hq : ∀ w, res = Sum.inr w → po (some (.int w.1)) (hX w.2 J)) (hx : ∀ c, res = Sum.inl c → px (jEn c) (hX G J)) : JW X 0 0 0 [some (.ref 0), some (.int p0)] [] (hX G J) := by
  unfold p_X5_perform at h
  refine JW.r hM 0 4 (pc2 := 6) (L2 := [some (.ref 0), some (.int p0)]) (st2 := [.int p0, .ref 0, .ref 1]) (μ2 := (hX G J)) rfl trivial ?_
  rcases jbxE h with h | h
  · obtain ⟨v2, hv1, h⟩ := h
    refine JW.cV (v := some (.ref v2)) hM (m_X5_needTray_r (jVX X) hM.1.2.2.2.2.2.2.2.2.2.1 N G J p0 v2 hv1) (sb_X_X_0 G J) (bi_X_X_0 G J) rfl rfl rfl kc_X5_183 rfl rfl rfl rfl rfl (jat hM.2.1 4 rfl) (st := [.ref 1]) rfl ?_
    by_cases hc22 : v2 = 62
    · subst hc22
      have h := (if_pos rfl).symm.trans h
      show JW X 1 6 9 [some (.ref 0), some (.int p0)] [.ref 62, .ref 1] (hX G J)
      obtain ⟨v4, hv3, h⟩ := jbd h
      refine JW.cS (v := some (.int v4.1)) hM (m_X5_doTold (jVX X) hM.1.2.2.2.2.2.2.2.2.2.1 N (jv2 G 1 9 62) (jv2 J 1 9 62) v4 hv3) (sb_X_TT_1_62 G J) (bk_X_TT_1_62 G J v4.2 (jv2 J 1 9 62)) rfl rfl rfl kc_X5_187 rfl rfl rfl (jat hM.2.1 5 rfl) (st := []) rfl ?_
      show JW X 1 6 12 [some (.ref 0), some (.int p0)] [.int v4.1] (hX (jp2 G 1 9 62 2 v4.2) J)
      obtain ⟨G5, e6, h⟩ := jlE h
      rw [e6]
      obtain rfl := Option.some.inj h
      exact js_iret hM.1 hp hM.2.2.2.2.2.2.2.1 (by rw [hM.2.2.2.2.2.1]; exact Nat.le_of_ble_eq_true rfl) (by rw [hM.2.2.2.2.2.2.1]; exact Nat.le_of_ble_eq_true rfl) (jat hM.2.1 6 rfl) (hq (v4.1, G5) rfl)
    · have h := (if_neg hc22).symm.trans h
      by_cases hc21 : v2 = 64
      · subst hc21
        have h := (if_pos rfl).symm.trans h
        show JW X 1 6 9 [some (.ref 0), some (.int p0)] [.ref 64, .ref 1] (hX G J)
        obtain ⟨v8, hv7, h⟩ := jbd h
        refine JW.cS (v := some (.int v8.1)) hM (m_X5_doTold (jVX X) hM.1.2.2.2.2.2.2.2.2.2.1 N (jv2 G 1 9 64) (jv2 J 1 9 64) v8 hv7) (sb_X_TT_1_64 G J) (bk_X_TT_1_64 G J v8.2 (jv2 J 1 9 64)) rfl rfl rfl kc_X5_187 rfl rfl rfl (jat hM.2.1 5 rfl) (st := []) rfl ?_
        show JW X 1 6 12 [some (.ref 0), some (.int p0)] [.int v8.1] (hX (jp2 G 1 9 64 2 v8.2) J)
        obtain ⟨G9, e10, h⟩ := jlE h
        rw [e10]
        obtain rfl := Option.some.inj h
        exact js_iret hM.1 hp hM.2.2.2.2.2.2.2.1 (by rw [hM.2.2.2.2.2.1]; exact Nat.le_of_ble_eq_true rfl) (by rw [hM.2.2.2.2.2.2.1]; exact Nat.le_of_ble_eq_true rfl) (jat hM.2.1 6 rfl) (hq (v8.1, G9) rfl)
      · have h := (if_neg hc21).symm.trans h
        by_cases hc20 : v2 = 66
        · subst hc20
          have h := (if_pos rfl).symm.trans h
          show JW X 1 6 9 [some (.ref 0), some (.int p0)] [.ref 66, .ref 1] (hX G J)
          obtain ⟨v12, hv11, h⟩ := jbd h
          refine JW.cS (v := some (.int v12.1)) hM (m_X5_doTold (jVX X) hM.1.2.2.2.2.2.2.2.2.2.1 N (jv2 G 1 9 66) (jv2 J 1 9 66) v12 hv11) (sb_X_TT_1_66 G J) (bk_X_TT_1_66 G J v12.2 (jv2 J 1 9 66)) rfl rfl rfl kc_X5_187 rfl rfl rfl (jat hM.2.1 5 rfl) (st := []) rfl ?_
          show JW X 1 6 12 [some (.ref 0), some (.int p0)] [.int v12.1] (hX (jp2 G 1 9 66 2 v12.2) J)
          obtain ⟨G13, e14, h⟩ := jlE h
          rw [e14]
          obtain rfl := Option.some.inj h
          exact js_iret hM.1 hp hM.2.2.2.2.2.2.2.1 (by rw [hM.2.2.2.2.2.1]; exact Nat.le_of_ble_eq_true rfl) (by rw [hM.2.2.2.2.2.2.1]; exact Nat.le_of_ble_eq_true rfl) (jat hM.2.1 6 rfl) (hq (v12.1, G13) rfl)
        · have h := (if_neg hc20).symm.trans h
          by_cases hc19 : v2 = 68
          · subst hc19
            have h := (if_pos rfl).symm.trans h
            show JW X 1 6 9 [some (.ref 0), some (.int p0)] [.ref 68, .ref 1] (hX G J)
            obtain ⟨v16, hv15, h⟩ := jbd h
            refine JW.cS (v := some (.int v16.1)) hM (m_X5_doTold (jVX X) hM.1.2.2.2.2.2.2.2.2.2.1 N (jv2 G 1 9 68) (jv2 J 1 9 68) v16 hv15) (sb_X_TT_1_68 G J) (bk_X_TT_1_68 G J v16.2 (jv2 J 1 9 68)) rfl rfl rfl kc_X5_187 rfl rfl rfl (jat hM.2.1 5 rfl) (st := []) rfl ?_
            show JW X 1 6 12 [some (.ref 0), some (.int p0)] [.int v16.1] (hX (jp2 G 1 9 68 2 v16.2) J)
            obtain ⟨G17, e18, h⟩ := jlE h
            rw [e18]
            obtain rfl := Option.some.inj h
            exact js_iret hM.1 hp hM.2.2.2.2.2.2.2.1 (by rw [hM.2.2.2.2.2.1]; exact Nat.le_of_ble_eq_true rfl) (by rw [hM.2.2.2.2.2.2.1]; exact Nat.le_of_ble_eq_true rfl) (jat hM.2.1 6 rfl) (hq (v16.1, G17) rfl)
          · have h := (if_neg hc19).symm.trans h
            cases h
  · obtain ⟨c23, hv1, h⟩ := h
    subst h
    exact JW.xV hM hp (E := jEn c23) (m_X5_needTray_x (jVX X) hM.1.2.2.2.2.2.2.2.2.2.1 N G J p0 c23 hv1) (sb_X_X_0 G J) (bi_X_X_0 G J) rfl rfl kc_X5_183 rfl rfl rfl rfl rfl (jat hM.2.1 4 rfl) (st := [.ref 1]) rfl (hx _ rfl)
theorem m_X5_perform_r (V : jV) (hV : V.1.stackTraces = false) (N : Nat) (G : Nat → Nat → Int32) (J : Nat → Nat → Int64) (p0 : Int32) (v : (Int32 × (Nat → Nat → Int32))) (h : p_X5_perform N G J p0 = some (.inr v)) : jMet V yX5_perform (jws yX5_perform cX5_perform 2 (some .int)) ⟨7, 1, 6, 136⟩ true 1 [.ref 0, .int p0] (hX G J) (fun o ν => o = some (.int v.1) ∧ ν = (hX v.2 J)) (fun _ _ => False) := by
  refine jmk (tb := tbX5) (C := kX5_perform) hV rfl (by decide) tbX5_ok rfl kX5_perform_ok rfl ?_
  intro X hM _ hp _
  exact t_X5_perform hM hp N G J p0 h (fun w hw => by cases hw; exact ⟨rfl, rfl⟩) (fun c hc => by cases hc)
theorem m_X5_perform_x (V : jV) (hV : V.1.stackTraces = false) (N : Nat) (G : Nat → Nat → Int32) (J : Nat → Nat → Int64) (p0 : Int32) (c : Nat) (h : p_X5_perform N G J p0 = some (.inl c)) : jMet V yX5_perform (jws yX5_perform cX5_perform 2 (some .int)) ⟨7, 1, 6, 136⟩ true 1 [.ref 0, .int p0] (hX G J) (fun _ _ => False) (fun E ν => E = jEn c ∧ ν = (hX G J)) := by
  refine jmk (tb := tbX5) (C := kX5_perform) hV rfl (by decide) tbX5_ok rfl kX5_perform_ok rfl ?_
  intro X hM _ hp _
  exact t_X5_perform hM hp N G J p0 h (fun w hw => by cases hw) (fun c hc => by cases hc; exact ⟨rfl, rfl⟩)
def p_X5_open (N : Nat) (G : Nat → Nat → Int32) (J : Nat → Nat → Int64) : Option (Int32) :=
  (p_X3_openBits N (jvw G 1)).bind (fun v2 => some v2)
set_option maxHeartbeats 4000000 in
set_option maxRecDepth 100000 in
theorem t_X5_open {X : jX} {po : Option Value → jH → Prop} {px : String → jH → Prop} {sf : Bool} {B9 : Nat} (hM : jMX X kX5_open RX5 tbX5 1 ⟨3, 0, 0, 64⟩ (some .int) 71) (hp : jPost X sf B9 po px) (N : Nat) (G : Nat → Nat → Int32) (J : Nat → Nat → Int64) {res : Int32} (h : p_X5_open N G J = some res) (hq : po (some (.int res)) (hX G J)) : JW X 0 0 0 [some (.ref 0)] [] (hX G J) := by
  unfold p_X5_open at h
  refine JW.r hM 0 2 (pc2 := 4) (L2 := [some (.ref 0)]) (st2 := [.ref 1]) (μ2 := (hX G J)) rfl trivial ?_
  obtain ⟨v2, hv1, h⟩ := jbd h
  refine JW.cV (v := some (.int v2)) hM (m_X3_openBits (jVX X) hM.1.2.2.2.2.2.2.2.2.2.1 N (jvw G 1) v2 hv1) (sb_X_Town_1 G J) (bi_X_Town_1 G J) rfl rfl rfl kc_X5_213 rfl rfl rfl rfl rfl (jat hM.2.1 2 rfl) (st := []) rfl ?_
  show JW X 0 0 7 [some (.ref 0)] [.int v2] (hX G J)
  obtain rfl := Option.some.inj h
  exact js_iret hM.1 hp hM.2.2.2.2.2.2.2.1 (by rw [hM.2.2.2.2.2.1]; exact Nat.le_of_ble_eq_true rfl) (by rw [hM.2.2.2.2.2.2.1]; exact Nat.le_of_ble_eq_true rfl) (jat hM.2.1 3 rfl) hq
theorem m_X5_open (V : jV) (hV : V.1.stackTraces = false) (N : Nat) (G : Nat → Nat → Int32) (J : Nat → Nat → Int64) (v : Int32) (h : p_X5_open N G J = some v) : jMet V yX5_open (jws yX5_open cX5_open 1 (some .int)) ⟨3, 0, 0, 64⟩ true 1 [.ref 0] (hX G J) (fun o ν => o = some (.int v) ∧ ν = (hX G J)) (fun _ _ => False) := by
  refine jmk (tb := tbX5) (C := kX5_open) hV rfl (by decide) tbX5_ok rfl kX5_open_ok rfl ?_
  intro X hM _ hp _
  exact t_X5_open hM hp N G J h ⟨rfl, rfl⟩
def p_X5_gain (N : Nat) (G : Nat → Nat → Int32) (J : Nat → Nat → Int64) (p0 : Int32) (p1 : Int32) : Option (Nat ⊕ (Int32)) :=
  jbx (p_X5_needDeed N G J p0) (fun v2 => jbx (p_X5_needPerson N G J p1) (fun v4 => (p_X3_isOpen N (jvw G 1) p0).bind (fun v6 => if v6 = 0 then (some (.inr (-1 : Int32))) else ((p_X3_isOf N (jvw G 1) p0 p1).bind (fun v8 => if v8 = 0 then (some (.inr (-1 : Int32))) else ((p_X3_gainOf N (jvw G 1) p0 p1).bind (fun v10 => some (.inr v10))))))))
set_option maxHeartbeats 4000000 in
set_option maxRecDepth 100000 in
theorem t_X5_gain {X : jX} {po : Option Value → jH → Prop} {px : String → jH → Prop} {sf : Bool} {B9 : Nat} (hM : jMX X kX5_gain RX5 tbX5 3 ⟨7, 2, 12, 110⟩ (some .int) 71) (hp : jPost X sf B9 po px) (N : Nat) (G : Nat → Nat → Int32) (J : Nat → Nat → Int64) (p0 : Int32) (p1 : Int32) {res : Nat ⊕ (Int32)} (h : p_X5_gain N G J p0 p1 = some res) (hq : ∀ w, res = Sum.inr w → po (some (.int w)) (hX G J)) (hx : ∀ c, res = Sum.inl c → px (jEn c) (hX G J)) : JW X 0 0 0 [some (.ref 0), some (.int p0), some (.int p1)] [] (hX G J) := by
  unfold p_X5_gain at h
  refine JW.r hM 0 2 (pc2 := 2) (L2 := [some (.ref 0), some (.int p0), some (.int p1)]) (st2 := [.int p0, .ref 0]) (μ2 := (hX G J)) rfl trivial ?_
  rcases jbxE h with h | h
  · obtain ⟨v2, hv1, h⟩ := h
    refine JW.cV (v := none) hM (m_X5_needDeed_r (jVX X) hM.1.2.2.2.2.2.2.2.2.2.1 N G J p0 v2 hv1) (sb_X_X_0 G J) (bi_X_X_0 G J) rfl rfl rfl kc_X5_140 rfl rfl rfl rfl rfl (jat hM.2.1 2 rfl) (st := []) rfl ?_
    show JW X 1 6 5 [some (.ref 0), some (.int p0), some (.int p1)] [] (hX G J)
    refine JW.r hM 3 2 (pc2 := 7) (L2 := [some (.ref 0), some (.int p0), some (.int p1)]) (st2 := [.int p1, .ref 0]) (μ2 := (hX G J)) rfl trivial ?_
    rcases jbxE h with h | h
    · obtain ⟨v4, hv3, h⟩ := h
      refine JW.cV (v := none) hM (m_X5_needPerson_r (jVX X) hM.1.2.2.2.2.2.2.2.2.2.1 N G J p1 v4 hv3) (sb_X_X_0 G J) (bi_X_X_0 G J) rfl rfl rfl kc_X5_76 rfl rfl rfl rfl rfl (jat hM.2.1 5 rfl) (st := []) rfl ?_
      show JW X 2 12 10 [some (.ref 0), some (.int p0), some (.int p1)] [] (hX G J)
      refine JW.r hM 6 3 (pc2 := 15) (L2 := [some (.ref 0), some (.int p0), some (.int p1)]) (st2 := [.int p0, .ref 1]) (μ2 := (hX G J)) rfl trivial ?_
      obtain ⟨v6, hv5, h⟩ := jbd h
      refine JW.cV (v := some (.int v6)) hM (m_X3_isOpen (jVX X) hM.1.2.2.2.2.2.2.2.2.2.1 N (jvw G 1) p0 v6 hv5) (sb_X_Town_1 G J) (bi_X_Town_1 G J) rfl rfl rfl kc_X5_217 rfl rfl rfl rfl rfl (jat hM.2.1 9 rfl) (st := []) rfl ?_
      show JW X 2 12 18 [some (.ref 0), some (.int p0), some (.int p1)] [.int v6] (hX G J)
      refine js_ifeq (t := 45) hM.1 (jat hM.2.1 10 rfl) rfl (fun hc12 => ?_) (fun hc12 => ?_)
      · have h := (if_pos hc12).symm.trans h
        refine JW.r hM 23 1 (pc2 := 46) (L2 := [some (.ref 0), some (.int p0), some (.int p1)]) (st2 := [.int (-1 : Int32)]) (μ2 := (hX G J)) rfl trivial ?_
        obtain rfl := Option.some.inj h
        exact js_iret hM.1 hp hM.2.2.2.2.2.2.2.1 (by rw [hM.2.2.2.2.2.1]; exact Nat.le_of_ble_eq_true rfl) (by rw [hM.2.2.2.2.2.2.1]; exact Nat.le_of_ble_eq_true rfl) (jat hM.2.1 24 rfl) (hq (-1 : Int32) rfl)
      · have h := (if_neg hc12).symm.trans h
        refine JW.r hM 11 4 (pc2 := 27) (L2 := [some (.ref 0), some (.int p0), some (.int p1)]) (st2 := [.int p1, .int p0, .ref 1]) (μ2 := (hX G J)) rfl trivial ?_
        obtain ⟨v8, hv7, h⟩ := jbd h
        refine JW.cV (v := some (.int v8)) hM (m_X3_isOf (jVX X) hM.1.2.2.2.2.2.2.2.2.2.1 N (jvw G 1) p0 p1 v8 hv7) (sb_X_Town_1 G J) (bi_X_Town_1 G J) rfl rfl rfl kc_X5_176 rfl rfl rfl rfl rfl (jat hM.2.1 15 rfl) (st := []) rfl ?_
        show JW X 2 12 30 [some (.ref 0), some (.int p0), some (.int p1)] [.int v8] (hX G J)
        refine js_ifeq (t := 45) hM.1 (jat hM.2.1 16 rfl) rfl (fun hc11 => ?_) (fun hc11 => ?_)
        · have h := (if_pos hc11).symm.trans h
          refine JW.r hM 23 1 (pc2 := 46) (L2 := [some (.ref 0), some (.int p0), some (.int p1)]) (st2 := [.int (-1 : Int32)]) (μ2 := (hX G J)) rfl trivial ?_
          obtain rfl := Option.some.inj h
          exact js_iret hM.1 hp hM.2.2.2.2.2.2.2.1 (by rw [hM.2.2.2.2.2.1]; exact Nat.le_of_ble_eq_true rfl) (by rw [hM.2.2.2.2.2.2.1]; exact Nat.le_of_ble_eq_true rfl) (jat hM.2.1 24 rfl) (hq (-1 : Int32) rfl)
        · have h := (if_neg hc11).symm.trans h
          refine JW.r hM 17 4 (pc2 := 39) (L2 := [some (.ref 0), some (.int p0), some (.int p1)]) (st2 := [.int p1, .int p0, .ref 1]) (μ2 := (hX G J)) rfl trivial ?_
          obtain ⟨v10, hv9, h⟩ := jbd h
          refine JW.cV (v := some (.int v10)) hM (m_X3_gainOf (jVX X) hM.1.2.2.2.2.2.2.2.2.2.1 N (jvw G 1) p0 p1 v10 hv9) (sb_X_Town_1 G J) (bi_X_Town_1 G J) rfl rfl rfl kc_X5_220 rfl rfl rfl rfl rfl (jat hM.2.1 21 rfl) (st := []) rfl ?_
          show JW X 2 12 42 [some (.ref 0), some (.int p0), some (.int p1)] [.int v10] (hX G J)
          refine JW.r hM 22 1 (pc2 := 46) (L2 := [some (.ref 0), some (.int p0), some (.int p1)]) (st2 := [.int v10]) (μ2 := (hX G J)) rfl trivial ?_
          obtain rfl := Option.some.inj h
          exact js_iret hM.1 hp hM.2.2.2.2.2.2.2.1 (by rw [hM.2.2.2.2.2.1]; exact Nat.le_of_ble_eq_true rfl) (by rw [hM.2.2.2.2.2.2.1]; exact Nat.le_of_ble_eq_true rfl) (jat hM.2.1 24 rfl) (hq v10 rfl)
    · obtain ⟨c13, hv3, h⟩ := h
      subst h
      exact JW.xV hM hp (E := jEn c13) (m_X5_needPerson_x (jVX X) hM.1.2.2.2.2.2.2.2.2.2.1 N G J p1 c13 hv3) (sb_X_X_0 G J) (bi_X_X_0 G J) rfl rfl kc_X5_76 rfl rfl rfl rfl rfl (jat hM.2.1 5 rfl) (st := []) rfl (hx _ rfl)
  · obtain ⟨c14, hv1, h⟩ := h
    subst h
    exact JW.xV hM hp (E := jEn c14) (m_X5_needDeed_x (jVX X) hM.1.2.2.2.2.2.2.2.2.2.1 N G J p0 c14 hv1) (sb_X_X_0 G J) (bi_X_X_0 G J) rfl rfl kc_X5_140 rfl rfl rfl rfl rfl (jat hM.2.1 2 rfl) (st := []) rfl (hx _ rfl)
theorem m_X5_gain_r (V : jV) (hV : V.1.stackTraces = false) (N : Nat) (G : Nat → Nat → Int32) (J : Nat → Nat → Int64) (p0 : Int32) (p1 : Int32) (v : (Int32)) (h : p_X5_gain N G J p0 p1 = some (.inr v)) : jMet V yX5_gain (jws yX5_gain cX5_gain 3 (some .int)) ⟨7, 2, 12, 110⟩ true 1 [.ref 0, .int p0, .int p1] (hX G J) (fun o ν => o = some (.int v) ∧ ν = (hX G J)) (fun _ _ => False) := by
  refine jmk (tb := tbX5) (C := kX5_gain) hV rfl (by decide) tbX5_ok rfl kX5_gain_ok rfl ?_
  intro X hM _ hp _
  exact t_X5_gain hM hp N G J p0 p1 h (fun w hw => by cases hw; exact ⟨rfl, rfl⟩) (fun c hc => by cases hc)
theorem m_X5_gain_x (V : jV) (hV : V.1.stackTraces = false) (N : Nat) (G : Nat → Nat → Int32) (J : Nat → Nat → Int64) (p0 : Int32) (p1 : Int32) (c : Nat) (h : p_X5_gain N G J p0 p1 = some (.inl c)) : jMet V yX5_gain (jws yX5_gain cX5_gain 3 (some .int)) ⟨7, 2, 12, 110⟩ true 1 [.ref 0, .int p0, .int p1] (hX G J) (fun _ _ => False) (fun E ν => E = jEn c ∧ ν = (hX G J)) := by
  refine jmk (tb := tbX5) (C := kX5_gain) hV rfl (by decide) tbX5_ok rfl kX5_gain_ok rfl ?_
  intro X hM _ hp _
  exact t_X5_gain hM hp N G J p0 p1 h (fun w hw => by cases hw) (fun c hc => by cases hc; exact ⟨rfl, rfl⟩)
def p_X5_safe_b43 (N : Nat) (G : Nat → Nat → Int32) (J : Nat → Nat → Int64) (rv4 : Int32 → Int32 → Option (Int32)) (x1 : Int32) (x2 : Int32) : Option (Int32) :=
  rv4 x1 (x2 + 1)
def p_X5_safe_b4 (N : Nat) (G : Nat → Nat → Int32) (J : Nat → Nat → Int64) : Nat → (Int32) → (Int32) → Option (Int32)
  | 0, _, _ => none
  | n + 1, x1, x2 => if (G 1 7) ≤ x2 then (some x1) else ((p_X3_isOpen N (jvw G 1) x2).bind (fun v2 => if v2 = 0 then (p_X5_safe_b43 N G J (p_X5_safe_b4 N G J n) x1 x2) else ((p_X3_topGain N (jvw G 1) x2).bind (fun v4 => if 0 < v4 then (p_X5_safe_b43 N G J (p_X5_safe_b4 N G J n) x1 x2) else (p_X5_safe_b43 N G J (p_X5_safe_b4 N G J n) (x1 ||| ((1 : Int32) <<< (x2 &&& 31))) x2)))))
def p_X5_safe (N : Nat) (G : Nat → Nat → Int32) (J : Nat → Nat → Int64) : Option (Int32) :=
  p_X5_safe_b4 N G J N (0 : Int32) (0 : Int32)
set_option maxHeartbeats 4000000 in
set_option maxRecDepth 100000 in
theorem t_X5_safe_b43 {X : jX} {po : Option Value → jH → Prop} {px : String → jH → Prop} {sf : Bool} {B9 : Nat} (hM : jMX X kX5_safe RX5 tbX5 3 ⟨5, 0, 0, 114⟩ (some .int) 71) (hp : jPost X sf B9 po px) (N : Nat) (G : Nat → Nat → Int32) (J : Nat → Nat → Int64) (rv4 : Int32 → Int32 → Option (Int32)) {res : Int32} (ih4 : ∀ (x1 : Int32) (x2 : Int32), rv4 x1 x2 = some res → JW X 0 0 4 [some (.ref 0), some (.int x1), some (.int x2)] [] (hX G J)) (x1 : Int32) (x2 : Int32) (h : p_X5_safe_b43 N G J rv4 x1 x2 = some res) (hq : po (some (.int res)) (hX G J)) : JW X 0 0 43 [some (.ref 0), some (.int x1), some (.int x2)] [] (hX G J) := by
  unfold p_X5_safe_b43 at h
  refine JW.r hM 25 2 (pc2 := 4) (L2 := [some (.ref 0), some (.int x1), some (.int (x2 + 1))]) (st2 := []) (μ2 := (hX G J)) rfl trivial ?_
  exact ih4 x1 (x2 + 1) h
set_option maxHeartbeats 4000000 in
set_option maxRecDepth 100000 in
theorem t_X5_safe_b4 {X : jX} {po : Option Value → jH → Prop} {px : String → jH → Prop} {sf : Bool} {B9 : Nat} (hM : jMX X kX5_safe RX5 tbX5 3 ⟨5, 0, 0, 114⟩ (some .int) 71) (hp : jPost X sf B9 po px) (N : Nat) (G : Nat → Nat → Int32) (J : Nat → Nat → Int64) {res : Int32} : ∀ (n : Nat) (x1 : Int32) (x2 : Int32) (h : p_X5_safe_b4 N G J n x1 x2 = some res) (hq : po (some (.int res)) (hX G J)), JW X 0 0 4 [some (.ref 0), some (.int x1), some (.int x2)] [] (hX G J) := by
  intro n
  induction n with
  | zero =>
    intro x1 x2 h hq
    cases (show (none : Option (Int32)) = some res from h)
  | succ n ih4 =>
    intro x1 x2 h hq
    have ih4 := fun x1 x2 h9 => ih4 x1 x2 h9 hq
    rw [p_X5_safe_b4] at h
    refine JW.r hM 4 4 (pc2 := 12) (L2 := [some (.ref 0), some (.int x1), some (.int x2)]) (st2 := [.int (G 1 7), .int x2]) (μ2 := (hX G J)) rfl trivial ?_
    refine js_icge (t := 49) hM.1 (jat hM.2.1 8 rfl) rfl (fun hc7 => ?_) (fun hc7 => ?_)
    · have h := (if_pos hc7).symm.trans h
      refine JW.r hM 27 1 (pc2 := 50) (L2 := [some (.ref 0), some (.int x1), some (.int x2)]) (st2 := [.int x1]) (μ2 := (hX G J)) rfl trivial ?_
      obtain rfl := Option.some.inj h
      exact js_iret hM.1 hp hM.2.2.2.2.2.2.2.1 (by rw [hM.2.2.2.2.2.1]; exact Nat.le_of_ble_eq_true rfl) (by rw [hM.2.2.2.2.2.2.1]; exact Nat.le_of_ble_eq_true rfl) (jat hM.2.1 28 rfl) hq
    · have h := (if_neg hc7).symm.trans h
      refine JW.r hM 9 3 (pc2 := 20) (L2 := [some (.ref 0), some (.int x1), some (.int x2)]) (st2 := [.int x2, .ref 1]) (μ2 := (hX G J)) rfl trivial ?_
      obtain ⟨v2, hv1, h⟩ := jbd h
      refine JW.cV (v := some (.int v2)) hM (m_X3_isOpen (jVX X) hM.1.2.2.2.2.2.2.2.2.2.1 N (jvw G 1) x2 v2 hv1) (sb_X_Town_1 G J) (bi_X_Town_1 G J) rfl rfl rfl kc_X5_217 rfl rfl rfl rfl rfl (jat hM.2.1 12 rfl) (st := []) rfl ?_
      show JW X 0 0 23 [some (.ref 0), some (.int x1), some (.int x2)] [.int v2] (hX G J)
      refine js_ifeq (t := 43) hM.1 (jat hM.2.1 13 rfl) rfl (fun hc6 => ?_) (fun hc6 => ?_)
      · have h := (if_pos hc6).symm.trans h
        exact t_X5_safe_b43 hM hp N G J (p_X5_safe_b4 N G J n) ih4 x1 x2 h hq
      · have h := (if_neg hc6).symm.trans h
        refine JW.r hM 14 3 (pc2 := 31) (L2 := [some (.ref 0), some (.int x1), some (.int x2)]) (st2 := [.int x2, .ref 1]) (μ2 := (hX G J)) rfl trivial ?_
        obtain ⟨v4, hv3, h⟩ := jbd h
        refine JW.cV (v := some (.int v4)) hM (m_X3_topGain (jVX X) hM.1.2.2.2.2.2.2.2.2.2.1 N (jvw G 1) x2 v4 hv3) (sb_X_Town_1 G J) (bi_X_Town_1 G J) rfl rfl rfl kc_X5_223 rfl rfl rfl rfl rfl (jat hM.2.1 17 rfl) (st := []) rfl ?_
        show JW X 0 0 34 [some (.ref 0), some (.int x1), some (.int x2)] [.int v4] (hX G J)
        refine js_ifgt (t := 43) hM.1 (jat hM.2.1 18 rfl) rfl (fun hc5 => ?_) (fun hc5 => ?_)
        · have h := (if_pos hc5).symm.trans h
          exact t_X5_safe_b43 hM hp N G J (p_X5_safe_b4 N G J n) ih4 x1 x2 h hq
        · have h := (if_neg hc5).symm.trans h
          refine JW.r hM 19 6 (pc2 := 43) (L2 := [some (.ref 0), some (.int (x1 ||| ((1 : Int32) <<< (x2 &&& 31)))), some (.int x2)]) (st2 := []) (μ2 := (hX G J)) rfl trivial ?_
          exact t_X5_safe_b43 hM hp N G J (p_X5_safe_b4 N G J n) ih4 (x1 ||| ((1 : Int32) <<< (x2 &&& 31))) x2 h hq
set_option maxHeartbeats 4000000 in
set_option maxRecDepth 100000 in
theorem t_X5_safe {X : jX} {po : Option Value → jH → Prop} {px : String → jH → Prop} {sf : Bool} {B9 : Nat} (hM : jMX X kX5_safe RX5 tbX5 3 ⟨5, 0, 0, 114⟩ (some .int) 71) (hp : jPost X sf B9 po px) (N : Nat) (G : Nat → Nat → Int32) (J : Nat → Nat → Int64) {res : Int32} (h : p_X5_safe N G J = some res) (hq : po (some (.int res)) (hX G J)) : JW X 0 0 0 [some (.ref 0), none, none] [] (hX G J) := by
  unfold p_X5_safe at h
  refine JW.r hM 0 4 (pc2 := 4) (L2 := [some (.ref 0), some (.int (0 : Int32)), some (.int (0 : Int32))]) (st2 := []) (μ2 := (hX G J)) rfl trivial ?_
  exact t_X5_safe_b4 hM hp N G J N (0 : Int32) (0 : Int32) h hq
theorem m_X5_safe (V : jV) (hV : V.1.stackTraces = false) (N : Nat) (G : Nat → Nat → Int32) (J : Nat → Nat → Int64) (v : Int32) (h : p_X5_safe N G J = some v) : jMet V yX5_safe (jws yX5_safe cX5_safe 3 (some .int)) ⟨5, 0, 0, 114⟩ true 1 [.ref 0] (hX G J) (fun o ν => o = some (.int v) ∧ ν = (hX G J)) (fun _ _ => False) := by
  refine jmk (tb := tbX5) (C := kX5_safe) hV rfl (by decide) tbX5_ok rfl kX5_safe_ok rfl ?_
  intro X hM _ hp _
  exact t_X5_safe hM hp N G J h ⟨rfl, rfl⟩
def p_X5_pledge (N : Nat) (G : Nat → Nat → Int32) (J : Nat → Nat → Int64) (p0 : Int32) : Option (Nat ⊕ (Int32)) :=
  jbx (p_X5_needDeed N G J p0) (fun v2 => (p_X3_isOpen N (jvw G 1) p0).bind (fun v4 => if v4 = 0 then (some (.inr (0 : Int32))) else ((p_X3_topGain N (jvw G 1) p0).bind (fun v6 => some (.inr (if (0 : Int32) < v6 then v6 else (0 : Int32)))))))
set_option maxHeartbeats 4000000 in
set_option maxRecDepth 100000 in
theorem t_X5_pledge {X : jX} {po : Option Value → jH → Prop} {px : String → jH → Prop} {sf : Bool} {B9 : Nat} (hM : jMX X kX5_pledge RX5 tbX5 2 ⟨7, 1, 6, 114⟩ (some .int) 71) (hp : jPost X sf B9 po px) (N : Nat) (G : Nat → Nat → Int32) (J : Nat → Nat → Int64) (p0 : Int32) {res : Nat ⊕ (Int32)} (h : p_X5_pledge N G J p0 = some res) (hq : ∀ w, res = Sum.inr w → po (some (.int w)) (hX G J)) (hx : ∀ c, res = Sum.inl c → px (jEn c) (hX G J)) : JW X 0 0 0 [some (.ref 0), some (.int p0)] [] (hX G J) := by
  unfold p_X5_pledge at h
  refine JW.r hM 0 2 (pc2 := 2) (L2 := [some (.ref 0), some (.int p0)]) (st2 := [.int p0, .ref 0]) (μ2 := (hX G J)) rfl trivial ?_
  rcases jbxE h with h | h
  · obtain ⟨v2, hv1, h⟩ := h
    refine JW.cV (v := none) hM (m_X5_needDeed_r (jVX X) hM.1.2.2.2.2.2.2.2.2.2.1 N G J p0 v2 hv1) (sb_X_X_0 G J) (bi_X_X_0 G J) rfl rfl rfl kc_X5_140 rfl rfl rfl rfl rfl (jat hM.2.1 2 rfl) (st := []) rfl ?_
    show JW X 1 6 5 [some (.ref 0), some (.int p0)] [] (hX G J)
    refine JW.r hM 3 3 (pc2 := 10) (L2 := [some (.ref 0), some (.int p0)]) (st2 := [.int p0, .ref 1]) (μ2 := (hX G J)) rfl trivial ?_
    obtain ⟨v4, hv3, h⟩ := jbd h
    refine JW.cV (v := some (.int v4)) hM (m_X3_isOpen (jVX X) hM.1.2.2.2.2.2.2.2.2.2.1 N (jvw G 1) p0 v4 hv3) (sb_X_Town_1 G J) (bi_X_Town_1 G J) rfl rfl rfl kc_X5_217 rfl rfl rfl rfl rfl (jat hM.2.1 6 rfl) (st := []) rfl ?_
    show JW X 1 6 13 [some (.ref 0), some (.int p0)] [.int v4] (hX G J)
    refine js_ifeq (t := 31) hM.1 (jat hM.2.1 7 rfl) rfl (fun hc7 => ?_) (fun hc7 => ?_)
    · have h := (if_pos hc7).symm.trans h
      refine JW.r hM 15 1 (pc2 := 32) (L2 := [some (.ref 0), some (.int p0)]) (st2 := [.int (0 : Int32)]) (μ2 := (hX G J)) rfl trivial ?_
      obtain rfl := Option.some.inj h
      exact js_iret hM.1 hp hM.2.2.2.2.2.2.2.1 (by rw [hM.2.2.2.2.2.1]; exact Nat.le_of_ble_eq_true rfl) (by rw [hM.2.2.2.2.2.2.1]; exact Nat.le_of_ble_eq_true rfl) (jat hM.2.1 16 rfl) (hq (0 : Int32) rfl)
    · have h := (if_neg hc7).symm.trans h
      refine JW.r hM 8 4 (pc2 := 22) (L2 := [some (.ref 0), some (.int p0)]) (st2 := [.int p0, .ref 1, .int (0 : Int32)]) (μ2 := (hX G J)) rfl trivial ?_
      obtain ⟨v6, hv5, h⟩ := jbd h
      refine JW.cV (v := some (.int v6)) hM (m_X3_topGain (jVX X) hM.1.2.2.2.2.2.2.2.2.2.1 N (jvw G 1) p0 v6 hv5) (sb_X_Town_1 G J) (bi_X_Town_1 G J) rfl rfl rfl kc_X5_223 rfl rfl rfl rfl rfl (jat hM.2.1 12 rfl) (st := [.int (0 : Int32)]) rfl ?_
      show JW X 1 6 25 [some (.ref 0), some (.int p0)] [.int v6, .int (0 : Int32)] (hX G J)
      refine js_max hM.1 (by rw [hM.2.2.1]; exact mx_X5_226) (jat hM.2.1 13 rfl) (by rw [hM.2.2.2.2.1]; exact Nat.le_of_ble_eq_true rfl) (by rw [hM.2.2.2.2.1]; exact Nat.le_of_ble_eq_true rfl) (by rw [hM.2.2.2.2.1]; exact Nat.le_of_ble_eq_true rfl) (by rw [hM.2.2.2.2.1]; exact Nat.le_of_ble_eq_true rfl) ?_
      show JW X 1 6 28 [some (.ref 0), some (.int p0)] [.int (if (0 : Int32) < v6 then v6 else (0 : Int32))] (hX G J)
      refine JW.r hM 14 1 (pc2 := 32) (L2 := [some (.ref 0), some (.int p0)]) (st2 := [.int (if (0 : Int32) < v6 then v6 else (0 : Int32))]) (μ2 := (hX G J)) rfl trivial ?_
      obtain rfl := Option.some.inj h
      exact js_iret hM.1 hp hM.2.2.2.2.2.2.2.1 (by rw [hM.2.2.2.2.2.1]; exact Nat.le_of_ble_eq_true rfl) (by rw [hM.2.2.2.2.2.2.1]; exact Nat.le_of_ble_eq_true rfl) (jat hM.2.1 16 rfl) (hq (if (0 : Int32) < v6 then v6 else (0 : Int32)) rfl)
  · obtain ⟨c8, hv1, h⟩ := h
    subst h
    exact JW.xV hM hp (E := jEn c8) (m_X5_needDeed_x (jVX X) hM.1.2.2.2.2.2.2.2.2.2.1 N G J p0 c8 hv1) (sb_X_X_0 G J) (bi_X_X_0 G J) rfl rfl kc_X5_140 rfl rfl rfl rfl rfl (jat hM.2.1 2 rfl) (st := []) rfl (hx _ rfl)
theorem m_X5_pledge_r (V : jV) (hV : V.1.stackTraces = false) (N : Nat) (G : Nat → Nat → Int32) (J : Nat → Nat → Int64) (p0 : Int32) (v : (Int32)) (h : p_X5_pledge N G J p0 = some (.inr v)) : jMet V yX5_pledge (jws yX5_pledge cX5_pledge 2 (some .int)) ⟨7, 1, 6, 114⟩ true 1 [.ref 0, .int p0] (hX G J) (fun o ν => o = some (.int v) ∧ ν = (hX G J)) (fun _ _ => False) := by
  refine jmk (tb := tbX5) (C := kX5_pledge) hV rfl (by decide) tbX5_ok rfl kX5_pledge_ok rfl ?_
  intro X hM _ hp _
  exact t_X5_pledge hM hp N G J p0 h (fun w hw => by cases hw; exact ⟨rfl, rfl⟩) (fun c hc => by cases hc)
theorem m_X5_pledge_x (V : jV) (hV : V.1.stackTraces = false) (N : Nat) (G : Nat → Nat → Int32) (J : Nat → Nat → Int64) (p0 : Int32) (c : Nat) (h : p_X5_pledge N G J p0 = some (.inl c)) : jMet V yX5_pledge (jws yX5_pledge cX5_pledge 2 (some .int)) ⟨7, 1, 6, 114⟩ true 1 [.ref 0, .int p0] (hX G J) (fun _ _ => False) (fun E ν => E = jEn c ∧ ν = (hX G J)) := by
  refine jmk (tb := tbX5) (C := kX5_pledge) hV rfl (by decide) tbX5_ok rfl kX5_pledge_ok rfl ?_
  intro X hM _ hp _
  exact t_X5_pledge hM hp N G J p0 h (fun w hw => by cases hw) (fun c hc => by cases hc; exact ⟨rfl, rfl⟩)
def p_X5_temptedBit (N : Nat) (G : Nat → Nat → Int32) (J : Nat → Nat → Int64) (p0 : Int32) (p1 : Int32) : Option (Int32) :=
  (p_X3_gainOf N (jvw G 1) p0 p1).bind (fun v2 => if v2 ≤ 0 then (some (0 : Int32)) else (some ((1 : Int32) <<< (p1 &&& 31))))
set_option maxHeartbeats 4000000 in
set_option maxRecDepth 100000 in
theorem t_X5_temptedBit {X : jX} {po : Option Value → jH → Prop} {px : String → jH → Prop} {sf : Bool} {B9 : Nat} (hM : jMX X kX5_temptedBit RX5 tbX5 3 ⟨4, 0, 0, 93⟩ (some .int) 71) (hp : jPost X sf B9 po px) (N : Nat) (G : Nat → Nat → Int32) (J : Nat → Nat → Int64) (p0 : Int32) (p1 : Int32) {res : Int32} (h : p_X5_temptedBit N G J p0 p1 = some res) (hq : po (some (.int res)) (hX G J)) : JW X 0 0 0 [some (.ref 0), some (.int p0), some (.int p1)] [] (hX G J) := by
  unfold p_X5_temptedBit at h
  refine JW.r hM 0 4 (pc2 := 6) (L2 := [some (.ref 0), some (.int p0), some (.int p1)]) (st2 := [.int p1, .int p0, .ref 1]) (μ2 := (hX G J)) rfl trivial ?_
  obtain ⟨v2, hv1, h⟩ := jbd h
  refine JW.cV (v := some (.int v2)) hM (m_X3_gainOf (jVX X) hM.1.2.2.2.2.2.2.2.2.2.1 N (jvw G 1) p0 p1 v2 hv1) (sb_X_Town_1 G J) (bi_X_Town_1 G J) rfl rfl rfl kc_X5_220 rfl rfl rfl rfl rfl (jat hM.2.1 4 rfl) (st := []) rfl ?_
  show JW X 0 0 9 [some (.ref 0), some (.int p0), some (.int p1)] [.int v2] (hX G J)
  refine js_ifle (t := 18) hM.1 (jat hM.2.1 5 rfl) rfl (fun hc3 => ?_) (fun hc3 => ?_)
  · have h := (if_pos hc3).symm.trans h
    refine JW.r hM 10 1 (pc2 := 19) (L2 := [some (.ref 0), some (.int p0), some (.int p1)]) (st2 := [.int (0 : Int32)]) (μ2 := (hX G J)) rfl trivial ?_
    obtain rfl := Option.some.inj h
    exact js_iret hM.1 hp hM.2.2.2.2.2.2.2.1 (by rw [hM.2.2.2.2.2.1]; exact Nat.le_of_ble_eq_true rfl) (by rw [hM.2.2.2.2.2.2.1]; exact Nat.le_of_ble_eq_true rfl) (jat hM.2.1 11 rfl) hq
  · have h := (if_neg hc3).symm.trans h
    refine JW.r hM 6 4 (pc2 := 19) (L2 := [some (.ref 0), some (.int p0), some (.int p1)]) (st2 := [.int ((1 : Int32) <<< (p1 &&& 31))]) (μ2 := (hX G J)) rfl trivial ?_
    obtain rfl := Option.some.inj h
    exact js_iret hM.1 hp hM.2.2.2.2.2.2.2.1 (by rw [hM.2.2.2.2.2.1]; exact Nat.le_of_ble_eq_true rfl) (by rw [hM.2.2.2.2.2.2.1]; exact Nat.le_of_ble_eq_true rfl) (jat hM.2.1 11 rfl) hq
theorem m_X5_temptedBit (V : jV) (hV : V.1.stackTraces = false) (N : Nat) (G : Nat → Nat → Int32) (J : Nat → Nat → Int64) (p0 : Int32) (p1 : Int32) (v : Int32) (h : p_X5_temptedBit N G J p0 p1 = some v) : jMet V yX5_temptedBit (jws yX5_temptedBit cX5_temptedBit 3 (some .int)) ⟨4, 0, 0, 93⟩ true 1 [.ref 0, .int p0, .int p1] (hX G J) (fun o ν => o = some (.int v) ∧ ν = (hX G J)) (fun _ _ => False) := by
  refine jmk (tb := tbX5) (C := kX5_temptedBit) hV rfl (by decide) tbX5_ok rfl kX5_temptedBit_ok rfl ?_
  intro X hM _ hp _
  exact t_X5_temptedBit hM hp N G J p0 p1 h ⟨rfl, rfl⟩
def p_X5_tempted_b58 (N : Nat) (G : Nat → Nat → Int32) (J : Nat → Nat → Int64) (rv4 : Int32 → Int32 → Option (Int32)) (x1 : Int32) (x2 : Int32) : Option (Int32) :=
  rv4 x1 (x2 + 1)
def p_X5_tempted_b4 (N : Nat) (G : Nat → Nat → Int32) (J : Nat → Nat → Int64) : Nat → (Int32) → (Int32) → Option (Int32)
  | 0, _, _ => none
  | n + 1, x1, x2 => if (G 1 7) ≤ x2 then (some x1) else ((p_X3_isOpen N (jvw G 1) x2).bind (fun v2 => if v2 = 0 then (p_X5_tempted_b58 N G J (p_X5_tempted_b4 N G J n) x1 x2) else (if jin x2 30 = true then (p_X5_temptedBit N G J x2 (G 6 x2.toNatClampNeg)).bind (fun v5 => if jin x2 30 = true then (p_X5_temptedBit N G J x2 (G 7 x2.toNatClampNeg)).bind (fun v8 => p_X5_tempted_b58 N G J (p_X5_tempted_b4 N G J n) (x1 ||| (v5 ||| v8)) x2) else none) else none)))
def p_X5_tempted (N : Nat) (G : Nat → Nat → Int32) (J : Nat → Nat → Int64) : Option (Int32) :=
  p_X5_tempted_b4 N G J N (0 : Int32) (0 : Int32)
set_option maxHeartbeats 4000000 in
set_option maxRecDepth 100000 in
theorem t_X5_tempted_b58 {X : jX} {po : Option Value → jH → Prop} {px : String → jH → Prop} {sf : Bool} {B9 : Nat} (hM : jMX X kX5_tempted RX5 tbX5 3 ⟨5, 0, 0, 115⟩ (some .int) 71) (hp : jPost X sf B9 po px) (N : Nat) (G : Nat → Nat → Int32) (J : Nat → Nat → Int64) (rv4 : Int32 → Int32 → Option (Int32)) {res : Int32} (ih4 : ∀ (x1 : Int32) (x2 : Int32), rv4 x1 x2 = some res → JW X 0 0 4 [some (.ref 0), some (.int x1), some (.int x2)] [] (hX G J)) (x1 : Int32) (x2 : Int32) (h : p_X5_tempted_b58 N G J rv4 x1 x2 = some res) (hq : po (some (.int res)) (hX G J)) : JW X 0 0 58 [some (.ref 0), some (.int x1), some (.int x2)] [] (hX G J) := by
  unfold p_X5_tempted_b58 at h
  refine JW.r hM 34 2 (pc2 := 4) (L2 := [some (.ref 0), some (.int x1), some (.int (x2 + 1))]) (st2 := []) (μ2 := (hX G J)) rfl trivial ?_
  exact ih4 x1 (x2 + 1) h
set_option maxHeartbeats 4000000 in
set_option maxRecDepth 100000 in
theorem t_X5_tempted_b4 {X : jX} {po : Option Value → jH → Prop} {px : String → jH → Prop} {sf : Bool} {B9 : Nat} (hM : jMX X kX5_tempted RX5 tbX5 3 ⟨5, 0, 0, 115⟩ (some .int) 71) (hp : jPost X sf B9 po px) (N : Nat) (G : Nat → Nat → Int32) (J : Nat → Nat → Int64) {res : Int32} : ∀ (n : Nat) (x1 : Int32) (x2 : Int32) (h : p_X5_tempted_b4 N G J n x1 x2 = some res) (hq : po (some (.int res)) (hX G J)), JW X 0 0 4 [some (.ref 0), some (.int x1), some (.int x2)] [] (hX G J) := by
  intro n
  induction n with
  | zero =>
    intro x1 x2 h hq
    cases (show (none : Option (Int32)) = some res from h)
  | succ n ih4 =>
    intro x1 x2 h hq
    have ih4 := fun x1 x2 h9 => ih4 x1 x2 h9 hq
    rw [p_X5_tempted_b4] at h
    refine JW.r hM 4 4 (pc2 := 12) (L2 := [some (.ref 0), some (.int x1), some (.int x2)]) (st2 := [.int (G 1 7), .int x2]) (μ2 := (hX G J)) rfl trivial ?_
    refine js_icge (t := 64) hM.1 (jat hM.2.1 8 rfl) rfl (fun hc10 => ?_) (fun hc10 => ?_)
    · have h := (if_pos hc10).symm.trans h
      refine JW.r hM 36 1 (pc2 := 65) (L2 := [some (.ref 0), some (.int x1), some (.int x2)]) (st2 := [.int x1]) (μ2 := (hX G J)) rfl trivial ?_
      obtain rfl := Option.some.inj h
      exact js_iret hM.1 hp hM.2.2.2.2.2.2.2.1 (by rw [hM.2.2.2.2.2.1]; exact Nat.le_of_ble_eq_true rfl) (by rw [hM.2.2.2.2.2.2.1]; exact Nat.le_of_ble_eq_true rfl) (jat hM.2.1 37 rfl) hq
    · have h := (if_neg hc10).symm.trans h
      refine JW.r hM 9 3 (pc2 := 20) (L2 := [some (.ref 0), some (.int x1), some (.int x2)]) (st2 := [.int x2, .ref 1]) (μ2 := (hX G J)) rfl trivial ?_
      obtain ⟨v2, hv1, h⟩ := jbd h
      refine JW.cV (v := some (.int v2)) hM (m_X3_isOpen (jVX X) hM.1.2.2.2.2.2.2.2.2.2.1 N (jvw G 1) x2 v2 hv1) (sb_X_Town_1 G J) (bi_X_Town_1 G J) rfl rfl rfl kc_X5_217 rfl rfl rfl rfl rfl (jat hM.2.1 12 rfl) (st := []) rfl ?_
      show JW X 0 0 23 [some (.ref 0), some (.int x1), some (.int x2)] [.int v2] (hX G J)
      refine js_ifeq (t := 58) hM.1 (jat hM.2.1 13 rfl) rfl (fun hc9 => ?_) (fun hc9 => ?_)
      · have h := (if_pos hc9).symm.trans h
        exact t_X5_tempted_b58 hM hp N G J (p_X5_tempted_b4 N G J n) ih4 x1 x2 h hq
      · have h := (if_neg hc9).symm.trans h
        obtain ⟨g3, h⟩ := jg h
        refine JW.r hM 14 8 (pc2 := 38) (L2 := [some (.ref 0), some (.int x1), some (.int x2)]) (st2 := [.int (G 6 x2.toNatClampNeg), .int x2, .ref 0, .int x1]) (μ2 := (hX G J)) rfl ⟨g3, trivial⟩ ?_
        obtain ⟨v5, hv4, h⟩ := jbd h
        refine JW.cV (v := some (.int v5)) hM (m_X5_temptedBit (jVX X) hM.1.2.2.2.2.2.2.2.2.2.1 N G J x2 (G 6 x2.toNatClampNeg) v5 hv4) (sb_X_X_0 G J) (bi_X_X_0 G J) rfl rfl rfl kc_X5_229 rfl rfl rfl rfl rfl (jat hM.2.1 22 rfl) (st := [.int x1]) rfl ?_
        show JW X 0 0 41 [some (.ref 0), some (.int x1), some (.int x2)] [.int v5, .int x1] (hX G J)
        obtain ⟨g6, h⟩ := jg h
        refine JW.r hM 23 7 (pc2 := 52) (L2 := [some (.ref 0), some (.int x1), some (.int x2)]) (st2 := [.int (G 7 x2.toNatClampNeg), .int x2, .ref 0, .int v5, .int x1]) (μ2 := (hX G J)) rfl ⟨g6, trivial⟩ ?_
        obtain ⟨v8, hv7, h⟩ := jbd h
        refine JW.cV (v := some (.int v8)) hM (m_X5_temptedBit (jVX X) hM.1.2.2.2.2.2.2.2.2.2.1 N G J x2 (G 7 x2.toNatClampNeg) v8 hv7) (sb_X_X_0 G J) (bi_X_X_0 G J) rfl rfl rfl kc_X5_229 rfl rfl rfl rfl rfl (jat hM.2.1 30 rfl) (st := [.int v5, .int x1]) rfl ?_
        show JW X 0 0 55 [some (.ref 0), some (.int x1), some (.int x2)] [.int v8, .int v5, .int x1] (hX G J)
        refine JW.r hM 31 3 (pc2 := 58) (L2 := [some (.ref 0), some (.int (x1 ||| (v5 ||| v8))), some (.int x2)]) (st2 := []) (μ2 := (hX G J)) rfl trivial ?_
        exact t_X5_tempted_b58 hM hp N G J (p_X5_tempted_b4 N G J n) ih4 (x1 ||| (v5 ||| v8)) x2 h hq
set_option maxHeartbeats 4000000 in
set_option maxRecDepth 100000 in
theorem t_X5_tempted {X : jX} {po : Option Value → jH → Prop} {px : String → jH → Prop} {sf : Bool} {B9 : Nat} (hM : jMX X kX5_tempted RX5 tbX5 3 ⟨5, 0, 0, 115⟩ (some .int) 71) (hp : jPost X sf B9 po px) (N : Nat) (G : Nat → Nat → Int32) (J : Nat → Nat → Int64) {res : Int32} (h : p_X5_tempted N G J = some res) (hq : po (some (.int res)) (hX G J)) : JW X 0 0 0 [some (.ref 0), none, none] [] (hX G J) := by
  unfold p_X5_tempted at h
  refine JW.r hM 0 4 (pc2 := 4) (L2 := [some (.ref 0), some (.int (0 : Int32)), some (.int (0 : Int32))]) (st2 := []) (μ2 := (hX G J)) rfl trivial ?_
  exact t_X5_tempted_b4 hM hp N G J N (0 : Int32) (0 : Int32) h hq
theorem m_X5_tempted (V : jV) (hV : V.1.stackTraces = false) (N : Nat) (G : Nat → Nat → Int32) (J : Nat → Nat → Int64) (v : Int32) (h : p_X5_tempted N G J = some v) : jMet V yX5_tempted (jws yX5_tempted cX5_tempted 3 (some .int)) ⟨5, 0, 0, 115⟩ true 1 [.ref 0] (hX G J) (fun o ν => o = some (.int v) ∧ ν = (hX G J)) (fun _ _ => False) := by
  refine jmk (tb := tbX5) (C := kX5_tempted) hV rfl (by decide) tbX5_ok rfl kX5_tempted_ok rfl ?_
  intro X hM _ hp _
  exact t_X5_tempted hM hp N G J h ⟨rfl, rfl⟩
def p_X5_unravel_b4 (N : Nat) (J : Nat → Nat → Int64) : Nat → (Nat → Nat → Int32) → (Int32) → (Int32) → Option (Int32 × (Nat → Nat → Int32))
  | 0, _, _, _ => none
  | n + 1, G, x1, x2 => if (30 : Int32) ≤ x2 then (some (x1, G)) else ((p_X3_bestUndoing N (jvw G 1)).bind (fun v2 => if v2 = (-1 : Int32) then (some (x1, G)) else ((p_X3_sideOf N (jvw G 1) (v2 >>> ((1 : Int32) &&& 31)) (v2 &&& (1 : Int32))).bind (fun v4 => (p_X3_fell N (jvw G 1) (v2 >>> ((1 : Int32) &&& 31)) v4).bind (fun v6 => jlt (jpt G 1 9 v6.2) fun G7 => (p_X5_unravel_b4 N J n) G7 (x1 + 1) (x2 + 1))))))
def p_X5_unravel (N : Nat) (G : Nat → Nat → Int32) (J : Nat → Nat → Int64) : Option (Int32 × (Nat → Nat → Int32)) :=
  p_X5_unravel_b4 N J N G (0 : Int32) (0 : Int32)
set_option maxHeartbeats 4000000 in
set_option maxRecDepth 100000 in
theorem t_X5_unravel_b4 {X : jX} {po : Option Value → jH → Prop} {px : String → jH → Prop} {sf : Bool} {B9 : Nat} (hM : jMX X kX5_unravel RX5 tbX5 5 ⟨5, 0, 0, 119⟩ (some .int) 71) (hp : jPost X sf B9 po px) (N : Nat) (J : Nat → Nat → Int64) {res : Int32 × (Nat → Nat → Int32)} : ∀ (n : Nat) (G : Nat → Nat → Int32) (x1 : Int32) (x2 : Int32) (h : p_X5_unravel_b4 N J n G x1 x2 = some res) (hq : po (some (.int res.1)) (hX res.2 J)), JW X 0 0 4 [some (.ref 0), some (.int x1), some (.int x2), none, none] [] (hX G J) := by
  intro n
  induction n with
  | zero =>
    intro G x1 x2 h hq
    cases (show (none : Option (Int32 × (Nat → Nat → Int32))) = some res from h)
  | succ n ih4 =>
    intro G x1 x2 h hq
    have ih4 := fun G x1 x2 h9 => ih4 G x1 x2 h9 hq
    rw [p_X5_unravel_b4] at h
    refine JW.r hM 4 2 (pc2 := 7) (L2 := [some (.ref 0), some (.int x1), some (.int x2), none, none]) (st2 := [.int (30 : Int32), .int x2]) (μ2 := (hX G J)) rfl trivial ?_
    refine js_icge (t := 62) hM.1 (jat hM.2.1 6 rfl) rfl (fun hc10 => ?_) (fun hc10 => ?_)
    · have h := (if_pos hc10).symm.trans h
      refine JW.r hM 34 1 (pc2 := 63) (L2 := [some (.ref 0), some (.int x1), some (.int x2), none, none]) (st2 := [.int x1]) (μ2 := (hX G J)) rfl trivial ?_
      obtain rfl := Option.some.inj h
      exact js_iret hM.1 hp hM.2.2.2.2.2.2.2.1 (by rw [hM.2.2.2.2.2.1]; exact Nat.le_of_ble_eq_true rfl) (by rw [hM.2.2.2.2.2.2.1]; exact Nat.le_of_ble_eq_true rfl) (jat hM.2.1 35 rfl) hq
    · have h := (if_neg hc10).symm.trans h
      refine JW.r hM 7 2 (pc2 := 14) (L2 := [some (.ref 0), some (.int x1), some (.int x2), none, none]) (st2 := [.ref 1]) (μ2 := (hX G J)) rfl trivial ?_
      obtain ⟨v2, hv1, h⟩ := jbd h
      refine JW.cV (v := some (.int v2)) hM (m_X3_bestUndoing (jVX X) hM.1.2.2.2.2.2.2.2.2.2.1 N (jvw G 1) v2 hv1) (sb_X_Town_1 G J) (bi_X_Town_1 G J) rfl rfl rfl kc_X5_232 rfl rfl rfl rfl rfl (jat hM.2.1 9 rfl) (st := []) rfl ?_
      show JW X 0 0 17 [some (.ref 0), some (.int x1), some (.int x2), none, none] [.int v2] (hX G J)
      refine JW.r hM 10 3 (pc2 := 20) (L2 := [some (.ref 0), some (.int x1), some (.int x2), some (.int v2), none]) (st2 := [.int (-1 : Int32), .int v2]) (μ2 := (hX G J)) rfl trivial ?_
      refine js_icne (t := 26) hM.1 (jat hM.2.1 13 rfl) rfl (fun hc9 => ?_) (fun hc9 => ?_)
      · have h := (if_neg hc9).symm.trans h
        refine JW.r hM 15 13 (pc2 := 46) (L2 := [some (.ref 0), some (.int x1), some (.int x2), some (.int v2), some (.int (v2 >>> ((1 : Int32) &&& 31)))]) (st2 := [.int (v2 &&& (1 : Int32)), .int (v2 >>> ((1 : Int32) &&& 31)), .ref 1, .int (v2 >>> ((1 : Int32) &&& 31)), .ref 1]) (μ2 := (hX G J)) rfl trivial ?_
        obtain ⟨v4, hv3, h⟩ := jbd h
        refine JW.cV (v := some (.int v4)) hM (m_X3_sideOf (jVX X) hM.1.2.2.2.2.2.2.2.2.2.1 N (jvw G 1) (v2 >>> ((1 : Int32) &&& 31)) (v2 &&& (1 : Int32)) v4 hv3) (sb_X_Town_1 G J) (bi_X_Town_1 G J) rfl rfl rfl kc_X5_235 rfl rfl rfl rfl rfl (jat hM.2.1 28 rfl) (st := [.int (v2 >>> ((1 : Int32) &&& 31)), .ref 1]) rfl ?_
        show JW X 0 0 49 [some (.ref 0), some (.int x1), some (.int x2), some (.int v2), some (.int (v2 >>> ((1 : Int32) &&& 31)))] [.int v4, .int (v2 >>> ((1 : Int32) &&& 31)), .ref 1] (hX G J)
        obtain ⟨v6, hv5, h⟩ := jbd h
        refine JW.cV (v := some (.int v6.1)) hM (m_X3_fell (jVX X) hM.1.2.2.2.2.2.2.2.2.2.1 N (jvw G 1) (v2 >>> ((1 : Int32) &&& 31)) v4 v6 hv5) (sb_X_Town_1 G J) (bk_X_Town_1 G J v6.2) rfl rfl rfl kc_X5_170 rfl rfl rfl rfl rfl (jat hM.2.1 29 rfl) (st := []) rfl ?_
        show JW X 0 0 52 [some (.ref 0), some (.int x1), some (.int x2), some (.int v2), some (.int (v2 >>> ((1 : Int32) &&& 31)))] [.int v6.1] (hX (jpt G 1 9 v6.2) J)
        obtain ⟨G7, e8, h⟩ := jlE h
        rw [e8]
        refine JW.r hM 30 4 (pc2 := 4) (L2 := [some (.ref 0), some (.int (x1 + 1)), some (.int (x2 + 1)), some (.int v2), some (.int (v2 >>> ((1 : Int32) &&& 31)))]) (st2 := []) (μ2 := (hX G7 J)) rfl trivial ?_
        exact JW.mask [true, true, true, false, false] (ih4 G7 (x1 + 1) (x2 + 1) h)
      · have h := (if_pos hc9).symm.trans h
        refine JW.r hM 14 1 (pc2 := 62) (L2 := [some (.ref 0), some (.int x1), some (.int x2), some (.int v2), none]) (st2 := []) (μ2 := (hX G J)) rfl trivial ?_
        refine JW.r hM 34 1 (pc2 := 63) (L2 := [some (.ref 0), some (.int x1), some (.int x2), some (.int v2), none]) (st2 := [.int x1]) (μ2 := (hX G J)) rfl trivial ?_
        obtain rfl := Option.some.inj h
        exact js_iret hM.1 hp hM.2.2.2.2.2.2.2.1 (by rw [hM.2.2.2.2.2.1]; exact Nat.le_of_ble_eq_true rfl) (by rw [hM.2.2.2.2.2.2.1]; exact Nat.le_of_ble_eq_true rfl) (jat hM.2.1 35 rfl) hq
set_option maxHeartbeats 4000000 in
set_option maxRecDepth 100000 in
theorem t_X5_unravel {X : jX} {po : Option Value → jH → Prop} {px : String → jH → Prop} {sf : Bool} {B9 : Nat} (hM : jMX X kX5_unravel RX5 tbX5 5 ⟨5, 0, 0, 119⟩ (some .int) 71) (hp : jPost X sf B9 po px) (N : Nat) (G : Nat → Nat → Int32) (J : Nat → Nat → Int64) {res : Int32 × (Nat → Nat → Int32)} (h : p_X5_unravel N G J = some res) (hq : po (some (.int res.1)) (hX res.2 J)) : JW X 0 0 0 [some (.ref 0), none, none, none, none] [] (hX G J) := by
  unfold p_X5_unravel at h
  refine JW.r hM 0 4 (pc2 := 4) (L2 := [some (.ref 0), some (.int (0 : Int32)), some (.int (0 : Int32)), none, none]) (st2 := []) (μ2 := (hX G J)) rfl trivial ?_
  exact t_X5_unravel_b4 hM hp N J N G (0 : Int32) (0 : Int32) h hq
theorem m_X5_unravel (V : jV) (hV : V.1.stackTraces = false) (N : Nat) (G : Nat → Nat → Int32) (J : Nat → Nat → Int64) (v : Int32 × (Nat → Nat → Int32)) (h : p_X5_unravel N G J = some v) : jMet V yX5_unravel (jws yX5_unravel cX5_unravel 5 (some .int)) ⟨5, 0, 0, 119⟩ true 1 [.ref 0] (hX G J) (fun o ν => o = some (.int v.1) ∧ ν = (hX v.2 J)) (fun _ _ => False) := by
  refine jmk (tb := tbX5) (C := kX5_unravel) hV rfl (by decide) tbX5_ok rfl kX5_unravel_ok rfl ?_
  intro X hM _ hp _
  exact t_X5_unravel hM hp N G J h ⟨rfl, rfl⟩
def p_X5_debt_b98 (N : Nat) (G : Nat → Nat → Int32) (J : Nat → Nat → Int64) (rv30 : Int32 → Int32 → Int32 → Int32 → Int32 → Option (Nat ⊕ (Int32))) (x1 : Int32) (x2 : Int32) (x3 : Int32) (x4 : Int32) (x5 : Int32) : Option (Nat ⊕ (Int32)) :=
  rv30 x1 x2 x3 x4 (x5 + 1)
def p_X5_debt_b91 (N : Nat) (G : Nat → Nat → Int32) (J : Nat → Nat → Int64) (rv30 : Int32 → Int32 → Int32 → Int32 → Int32 → Option (Nat ⊕ (Int32))) (x1 : Int32) (x2 : Int32) (x5 : Int32) (x6 : Int32) : Option (Nat ⊕ (Int32)) :=
  p_X5_debt_b98 N G J rv30 x1 x2 x6 x5 x5
def p_X5_debt_b30 (N : Nat) (G : Nat → Nat → Int32) (J : Nat → Nat → Int64) : Nat → (Int32) → (Int32) → (Int32) → (Int32) → (Int32) → Option (Nat ⊕ (Int32))
  | 0, _, _, _, _, _ => none
  | n + 1, x1, x2, x3, x4, x5 => if (G 1 7) ≤ x5 then (if x2 = 0 then (some (.inr x3)) else (some (.inr x4))) else ((p_X3_isOpen N (jvw G 1) x5).bind (fun v5 => if v5 = 0 then (p_X5_debt_b98 N G J (p_X5_debt_b30 N G J n) x1 x2 x3 x4 x5) else ((p_X3_isOf N (jvw G 1) x5 x1).bind (fun v7 => if v7 = 0 then (p_X5_debt_b98 N G J (p_X5_debt_b30 N G J n) x1 x2 x3 x4 x5) else ((p_X3_owedToAll N (jvw G 1) x5 x1).bind (fun v9 => if x4 = (-1 : Int32) then (p_X5_debt_b91 N G J (p_X5_debt_b30 N G J n) x1 x2 x5 v9) else (if v9 ≤ x3 then (p_X5_debt_b98 N G J (p_X5_debt_b30 N G J n) x1 x2 x3 x4 x5) else (p_X5_debt_b91 N G J (p_X5_debt_b30 N G J n) x1 x2 x5 v9))))))))
def p_X5_debt_b22 (N : Nat) (G : Nat → Nat → Int32) (J : Nat → Nat → Int64) (x1 : Int32) (x2 : Int32) : Option (Nat ⊕ (Int32)) :=
  p_X5_debt_b30 N G J N x1 x2 (0 : Int32) (-1 : Int32) (0 : Int32)
def p_X5_debt (N : Nat) (G : Nat → Nat → Int32) (J : Nat → Nat → Int64) (p0 : Int32) (p1 : Int32) : Option (Nat ⊕ (Int32)) :=
  jbx (p_X5_needPerson N G J p0) (fun v2 => if p1 = 0 then (p_X5_debt_b22 N G J p0 p1) else (if p1 = (1 : Int32) then (p_X5_debt_b22 N G J p0 p1) else (some (.inl 3))))
set_option maxHeartbeats 4000000 in
set_option maxRecDepth 100000 in
theorem t_X5_debt_b98 {X : jX} {po : Option Value → jH → Prop} {px : String → jH → Prop} {sf : Bool} {B9 : Nat} (hM : jMX X kX5_debt RX5 tbX5 7 ⟨7, 2, 12, 110⟩ (some .int) 71) (hp : jPost X sf B9 po px) (N : Nat) (G : Nat → Nat → Int32) (J : Nat → Nat → Int64) (rv30 : Int32 → Int32 → Int32 → Int32 → Int32 → Option (Nat ⊕ (Int32))) {res : Nat ⊕ (Int32)} (ih30 : ∀ (x1 : Int32) (x2 : Int32) (x3 : Int32) (x4 : Int32) (x5 : Int32), rv30 x1 x2 x3 x4 x5 = some res → JW X 1 6 30 [some (.ref 0), some (.int x1), some (.int x2), some (.int x3), some (.int x4), some (.int x5), none] [] (hX G J)) (x1 : Int32) (x2 : Int32) (x3 : Int32) (x4 : Int32) (x5 : Int32) (h : p_X5_debt_b98 N G J rv30 x1 x2 x3 x4 x5 = some res) (hq : ∀ w, res = Sum.inr w → po (some (.int w)) (hX G J)) : JW X 1 6 98 [some (.ref 0), some (.int x1), some (.int x2), some (.int x3), some (.int x4), some (.int x5), none] [] (hX G J) := by
  unfold p_X5_debt_b98 at h
  refine JW.r hM 50 2 (pc2 := 30) (L2 := [some (.ref 0), some (.int x1), some (.int x2), some (.int x3), some (.int x4), some (.int (x5 + 1)), none]) (st2 := []) (μ2 := (hX G J)) rfl trivial ?_
  exact ih30 x1 x2 x3 x4 (x5 + 1) h
set_option maxHeartbeats 4000000 in
set_option maxRecDepth 100000 in
theorem t_X5_debt_b91 {X : jX} {po : Option Value → jH → Prop} {px : String → jH → Prop} {sf : Bool} {B9 : Nat} (hM : jMX X kX5_debt RX5 tbX5 7 ⟨7, 2, 12, 110⟩ (some .int) 71) (hp : jPost X sf B9 po px) (N : Nat) (G : Nat → Nat → Int32) (J : Nat → Nat → Int64) (rv30 : Int32 → Int32 → Int32 → Int32 → Int32 → Option (Nat ⊕ (Int32))) {res : Nat ⊕ (Int32)} (ih30 : ∀ (x1 : Int32) (x2 : Int32) (x3 : Int32) (x4 : Int32) (x5 : Int32), rv30 x1 x2 x3 x4 x5 = some res → JW X 1 6 30 [some (.ref 0), some (.int x1), some (.int x2), some (.int x3), some (.int x4), some (.int x5), none] [] (hX G J)) (x1 : Int32) (x2 : Int32) (x5 : Int32) (x6 : Int32) (h : p_X5_debt_b91 N G J rv30 x1 x2 x5 x6 = some res) (hq : ∀ w, res = Sum.inr w → po (some (.int w)) (hX G J)) : JW X 1 6 91 [some (.ref 0), some (.int x1), some (.int x2), none, none, some (.int x5), some (.int x6)] [] (hX G J) := by
  unfold p_X5_debt_b91 at h
  refine JW.r hM 46 4 (pc2 := 98) (L2 := [some (.ref 0), some (.int x1), some (.int x2), some (.int x6), some (.int x5), some (.int x5), some (.int x6)]) (st2 := []) (μ2 := (hX G J)) rfl trivial ?_
  exact JW.mask [true, true, true, true, true, true, false] (t_X5_debt_b98 hM hp N G J rv30 ih30 x1 x2 x6 x5 x5 h hq)
set_option maxHeartbeats 4000000 in
set_option maxRecDepth 100000 in
theorem t_X5_debt_b30 {X : jX} {po : Option Value → jH → Prop} {px : String → jH → Prop} {sf : Bool} {B9 : Nat} (hM : jMX X kX5_debt RX5 tbX5 7 ⟨7, 2, 12, 110⟩ (some .int) 71) (hp : jPost X sf B9 po px) (N : Nat) (G : Nat → Nat → Int32) (J : Nat → Nat → Int64) {res : Nat ⊕ (Int32)} : ∀ (n : Nat) (x1 : Int32) (x2 : Int32) (x3 : Int32) (x4 : Int32) (x5 : Int32) (h : p_X5_debt_b30 N G J n x1 x2 x3 x4 x5 = some res) (hq : ∀ w, res = Sum.inr w → po (some (.int w)) (hX G J)), JW X 1 6 30 [some (.ref 0), some (.int x1), some (.int x2), some (.int x3), some (.int x4), some (.int x5), none] [] (hX G J) := by
  intro n
  induction n with
  | zero =>
    intro x1 x2 x3 x4 x5 h hq
    cases (show (none : Option (Nat ⊕ (Int32))) = some res from h)
  | succ n ih30 =>
    intro x1 x2 x3 x4 x5 h hq
    have ih30 := fun x1 x2 x3 x4 x5 h9 => ih30 x1 x2 x3 x4 x5 h9 hq
    rw [p_X5_debt_b30] at h
    refine JW.r hM 18 4 (pc2 := 39) (L2 := [some (.ref 0), some (.int x1), some (.int x2), some (.int x3), some (.int x4), some (.int x5), none]) (st2 := [.int (G 1 7), .int x5]) (μ2 := (hX G J)) rfl trivial ?_
    refine js_icge (t := 104) hM.1 (jat hM.2.1 22 rfl) rfl (fun hc14 => ?_) (fun hc14 => ?_)
    · have h := (if_pos hc14).symm.trans h
      refine JW.r hM 52 1 (pc2 := 105) (L2 := [some (.ref 0), some (.int x1), some (.int x2), some (.int x3), some (.int x4), some (.int x5), none]) (st2 := [.int x2]) (μ2 := (hX G J)) rfl trivial ?_
      refine js_ifne (t := 112) hM.1 (jat hM.2.1 53 rfl) rfl (fun hc3 => ?_) (fun hc3 => ?_)
      · have h := (if_neg hc3).symm.trans h
        refine JW.r hM 56 1 (pc2 := 114) (L2 := [some (.ref 0), some (.int x1), some (.int x2), some (.int x3), some (.int x4), some (.int x5), none]) (st2 := [.int x4]) (μ2 := (hX G J)) rfl trivial ?_
        obtain rfl := Option.some.inj h
        exact js_iret hM.1 hp hM.2.2.2.2.2.2.2.1 (by rw [hM.2.2.2.2.2.1]; exact Nat.le_of_ble_eq_true rfl) (by rw [hM.2.2.2.2.2.2.1]; exact Nat.le_of_ble_eq_true rfl) (jat hM.2.1 57 rfl) (hq x4 rfl)
      · have h := (if_pos hc3).symm.trans h
        refine JW.r hM 54 2 (pc2 := 114) (L2 := [some (.ref 0), some (.int x1), some (.int x2), some (.int x3), some (.int x4), some (.int x5), none]) (st2 := [.int x3]) (μ2 := (hX G J)) rfl trivial ?_
        obtain rfl := Option.some.inj h
        exact js_iret hM.1 hp hM.2.2.2.2.2.2.2.1 (by rw [hM.2.2.2.2.2.1]; exact Nat.le_of_ble_eq_true rfl) (by rw [hM.2.2.2.2.2.2.1]; exact Nat.le_of_ble_eq_true rfl) (jat hM.2.1 57 rfl) (hq x3 rfl)
    · have h := (if_neg hc14).symm.trans h
      refine JW.r hM 23 3 (pc2 := 48) (L2 := [some (.ref 0), some (.int x1), some (.int x2), some (.int x3), some (.int x4), some (.int x5), none]) (st2 := [.int x5, .ref 1]) (μ2 := (hX G J)) rfl trivial ?_
      obtain ⟨v5, hv4, h⟩ := jbd h
      refine JW.cV (v := some (.int v5)) hM (m_X3_isOpen (jVX X) hM.1.2.2.2.2.2.2.2.2.2.1 N (jvw G 1) x5 v5 hv4) (sb_X_Town_1 G J) (bi_X_Town_1 G J) rfl rfl rfl kc_X5_217 rfl rfl rfl rfl rfl (jat hM.2.1 26 rfl) (st := []) rfl ?_
      show JW X 1 6 51 [some (.ref 0), some (.int x1), some (.int x2), some (.int x3), some (.int x4), some (.int x5), none] [.int v5] (hX G J)
      refine js_ifeq (t := 98) hM.1 (jat hM.2.1 27 rfl) rfl (fun hc13 => ?_) (fun hc13 => ?_)
      · have h := (if_pos hc13).symm.trans h
        exact t_X5_debt_b98 hM hp N G J (p_X5_debt_b30 N G J n) ih30 x1 x2 x3 x4 x5 h hq
      · have h := (if_neg hc13).symm.trans h
        refine JW.r hM 28 4 (pc2 := 61) (L2 := [some (.ref 0), some (.int x1), some (.int x2), some (.int x3), some (.int x4), some (.int x5), none]) (st2 := [.int x1, .int x5, .ref 1]) (μ2 := (hX G J)) rfl trivial ?_
        obtain ⟨v7, hv6, h⟩ := jbd h
        refine JW.cV (v := some (.int v7)) hM (m_X3_isOf (jVX X) hM.1.2.2.2.2.2.2.2.2.2.1 N (jvw G 1) x5 x1 v7 hv6) (sb_X_Town_1 G J) (bi_X_Town_1 G J) rfl rfl rfl kc_X5_176 rfl rfl rfl rfl rfl (jat hM.2.1 32 rfl) (st := []) rfl ?_
        show JW X 1 6 64 [some (.ref 0), some (.int x1), some (.int x2), some (.int x3), some (.int x4), some (.int x5), none] [.int v7] (hX G J)
        refine js_ifeq (t := 98) hM.1 (jat hM.2.1 33 rfl) rfl (fun hc12 => ?_) (fun hc12 => ?_)
        · have h := (if_pos hc12).symm.trans h
          exact t_X5_debt_b98 hM hp N G J (p_X5_debt_b30 N G J n) ih30 x1 x2 x3 x4 x5 h hq
        · have h := (if_neg hc12).symm.trans h
          refine JW.r hM 34 4 (pc2 := 74) (L2 := [some (.ref 0), some (.int x1), some (.int x2), some (.int x3), some (.int x4), some (.int x5), none]) (st2 := [.int x1, .int x5, .ref 1]) (μ2 := (hX G J)) rfl trivial ?_
          obtain ⟨v9, hv8, h⟩ := jbd h
          refine JW.cV (v := some (.int v9)) hM (m_X3_owedToAll (jVX X) hM.1.2.2.2.2.2.2.2.2.2.1 N (jvw G 1) x5 x1 v9 hv8) (sb_X_Town_1 G J) (bi_X_Town_1 G J) rfl rfl rfl kc_X5_238 rfl rfl rfl rfl rfl (jat hM.2.1 38 rfl) (st := []) rfl ?_
          show JW X 1 6 77 [some (.ref 0), some (.int x1), some (.int x2), some (.int x3), some (.int x4), some (.int x5), none] [.int v9] (hX G J)
          refine JW.r hM 39 3 (pc2 := 82) (L2 := [some (.ref 0), some (.int x1), some (.int x2), some (.int x3), some (.int x4), some (.int x5), some (.int v9)]) (st2 := [.int (-1 : Int32), .int x4]) (μ2 := (hX G J)) rfl trivial ?_
          refine js_iceq (t := 91) hM.1 (jat hM.2.1 42 rfl) rfl (fun hc11 => ?_) (fun hc11 => ?_)
          · have h := (if_pos hc11).symm.trans h
            exact JW.mask [true, true, true, false, false, true, true] (t_X5_debt_b91 hM hp N G J (p_X5_debt_b30 N G J n) ih30 x1 x2 x5 v9 h hq)
          · have h := (if_neg hc11).symm.trans h
            refine JW.r hM 43 2 (pc2 := 88) (L2 := [some (.ref 0), some (.int x1), some (.int x2), some (.int x3), some (.int x4), some (.int x5), some (.int v9)]) (st2 := [.int x3, .int v9]) (μ2 := (hX G J)) rfl trivial ?_
            refine js_icle (t := 98) hM.1 (jat hM.2.1 45 rfl) rfl (fun hc10 => ?_) (fun hc10 => ?_)
            · have h := (if_pos hc10).symm.trans h
              exact JW.mask [true, true, true, true, true, true, false] (t_X5_debt_b98 hM hp N G J (p_X5_debt_b30 N G J n) ih30 x1 x2 x3 x4 x5 h hq)
            · have h := (if_neg hc10).symm.trans h
              exact JW.mask [true, true, true, false, false, true, true] (t_X5_debt_b91 hM hp N G J (p_X5_debt_b30 N G J n) ih30 x1 x2 x5 v9 h hq)
set_option maxHeartbeats 4000000 in
set_option maxRecDepth 100000 in
theorem t_X5_debt_b22 {X : jX} {po : Option Value → jH → Prop} {px : String → jH → Prop} {sf : Bool} {B9 : Nat} (hM : jMX X kX5_debt RX5 tbX5 7 ⟨7, 2, 12, 110⟩ (some .int) 71) (hp : jPost X sf B9 po px) (N : Nat) (G : Nat → Nat → Int32) (J : Nat → Nat → Int64) {res : Nat ⊕ (Int32)} (x1 : Int32) (x2 : Int32) (h : p_X5_debt_b22 N G J x1 x2 = some res) (hq : ∀ w, res = Sum.inr w → po (some (.int w)) (hX G J)) : JW X 1 6 22 [some (.ref 0), some (.int x1), some (.int x2), none, none, none, none] [] (hX G J) := by
  unfold p_X5_debt_b22 at h
  refine JW.r hM 12 6 (pc2 := 30) (L2 := [some (.ref 0), some (.int x1), some (.int x2), some (.int (0 : Int32)), some (.int (-1 : Int32)), some (.int (0 : Int32)), none]) (st2 := []) (μ2 := (hX G J)) rfl trivial ?_
  exact t_X5_debt_b30 hM hp N G J N x1 x2 (0 : Int32) (-1 : Int32) (0 : Int32) h hq
set_option maxHeartbeats 4000000 in
set_option maxRecDepth 100000 in
theorem t_X5_debt {X : jX} {po : Option Value → jH → Prop} {px : String → jH → Prop} {sf : Bool} {B9 : Nat} (hM : jMX X kX5_debt RX5 tbX5 7 ⟨7, 2, 12, 110⟩ (some .int) 71) (hp : jPost X sf B9 po px) (N : Nat) (G : Nat → Nat → Int32) (J : Nat → Nat → Int64) (p0 : Int32) (p1 : Int32) {res : Nat ⊕ (Int32)} (h : p_X5_debt N G J p0 p1 = some res) (hq : ∀ w, res = Sum.inr w → po (some (.int w)) (hX G J)) (hx : ∀ c, res = Sum.inl c → px (jEn c) (hX G J)) : JW X 0 0 0 [some (.ref 0), some (.int p0), some (.int p1), none, none, none, none] [] (hX G J) := by
  unfold p_X5_debt at h
  refine JW.r hM 0 2 (pc2 := 2) (L2 := [some (.ref 0), some (.int p0), some (.int p1), none, none, none, none]) (st2 := [.int p0, .ref 0]) (μ2 := (hX G J)) rfl trivial ?_
  rcases jbxE h with h | h
  · obtain ⟨v2, hv1, h⟩ := h
    refine JW.cV (v := none) hM (m_X5_needPerson_r (jVX X) hM.1.2.2.2.2.2.2.2.2.2.1 N G J p0 v2 hv1) (sb_X_X_0 G J) (bi_X_X_0 G J) rfl rfl rfl kc_X5_76 rfl rfl rfl rfl rfl (jat hM.2.1 2 rfl) (st := []) rfl ?_
    show JW X 1 6 5 [some (.ref 0), some (.int p0), some (.int p1), none, none, none, none] [] (hX G J)
    refine JW.r hM 3 1 (pc2 := 6) (L2 := [some (.ref 0), some (.int p0), some (.int p1), none, none, none, none]) (st2 := [.int p1]) (μ2 := (hX G J)) rfl trivial ?_
    refine js_ifeq (t := 22) hM.1 (jat hM.2.1 4 rfl) rfl (fun hc16 => ?_) (fun hc16 => ?_)
    · have h := (if_pos hc16).symm.trans h
      exact t_X5_debt_b22 hM hp N G J p0 p1 h hq
    · have h := (if_neg hc16).symm.trans h
      refine JW.r hM 5 2 (pc2 := 11) (L2 := [some (.ref 0), some (.int p0), some (.int p1), none, none, none, none]) (st2 := [.int (1 : Int32), .int p1]) (μ2 := (hX G J)) rfl trivial ?_
      refine js_iceq (t := 22) hM.1 (jat hM.2.1 7 rfl) rfl (fun hc15 => ?_) (fun hc15 => ?_)
      · have h := (if_pos hc15).symm.trans h
        exact t_X5_debt_b22 hM hp N G J p0 p1 h hq
      · have h := (if_neg hc15).symm.trans h
        obtain rfl := Option.some.inj h
        exact js_throw (ik := 56) (ic := 58) (names := ["java/lang/RuntimeException", "java/lang/Exception"]) hM.1 hp hM.2.2.2.2.2.2.2.2.2 (by decide) (by decide) (by rw [hM.2.2.1]; exact th_X5_56_58) (jat hM.2.1 8 rfl) (jat hM.2.1 9 rfl) (jat hM.2.1 10 rfl) (jat hM.2.1 11 rfl) (by rw [hM.2.2.2.2.1]; exact Nat.le_of_ble_eq_true rfl) (by rw [hM.2.2.2.2.1]; exact Nat.le_of_ble_eq_true rfl) (by rw [hM.2.2.2.2.2.1]; exact Nat.le_of_ble_eq_true rfl) (by rw [hM.2.2.2.2.2.2.1]; exact Nat.le_of_ble_eq_true rfl) (hx _ rfl)
  · obtain ⟨c17, hv1, h⟩ := h
    subst h
    exact JW.xV hM hp (E := jEn c17) (m_X5_needPerson_x (jVX X) hM.1.2.2.2.2.2.2.2.2.2.1 N G J p0 c17 hv1) (sb_X_X_0 G J) (bi_X_X_0 G J) rfl rfl kc_X5_76 rfl rfl rfl rfl rfl (jat hM.2.1 2 rfl) (st := []) rfl (hx _ rfl)
theorem m_X5_debt_r (V : jV) (hV : V.1.stackTraces = false) (N : Nat) (G : Nat → Nat → Int32) (J : Nat → Nat → Int64) (p0 : Int32) (p1 : Int32) (v : (Int32)) (h : p_X5_debt N G J p0 p1 = some (.inr v)) : jMet V yX5_debt (jws yX5_debt cX5_debt 7 (some .int)) ⟨7, 2, 12, 110⟩ true 1 [.ref 0, .int p0, .int p1] (hX G J) (fun o ν => o = some (.int v) ∧ ν = (hX G J)) (fun _ _ => False) := by
  refine jmk (tb := tbX5) (C := kX5_debt) hV rfl (by decide) tbX5_ok rfl kX5_debt_ok rfl ?_
  intro X hM _ hp _
  exact t_X5_debt hM hp N G J p0 p1 h (fun w hw => by cases hw; exact ⟨rfl, rfl⟩) (fun c hc => by cases hc)
theorem m_X5_debt_x (V : jV) (hV : V.1.stackTraces = false) (N : Nat) (G : Nat → Nat → Int32) (J : Nat → Nat → Int64) (p0 : Int32) (p1 : Int32) (c : Nat) (h : p_X5_debt N G J p0 p1 = some (.inl c)) : jMet V yX5_debt (jws yX5_debt cX5_debt 7 (some .int)) ⟨7, 2, 12, 110⟩ true 1 [.ref 0, .int p0, .int p1] (hX G J) (fun _ _ => False) (fun E ν => E = jEn c ∧ ν = (hX G J)) := by
  refine jmk (tb := tbX5) (C := kX5_debt) hV rfl (by decide) tbX5_ok rfl kX5_debt_ok rfl ?_
  intro X hM _ hp _
  exact t_X5_debt hM hp N G J p0 p1 h (fun w hw => by cases hw) (fun c hc => by cases hc; exact ⟨rfl, rfl⟩)
def p_X5_safePrice_b91 (N : Nat) (G : Nat → Nat → Int32) (J : Nat → Nat → Int64) (rv54 : Int32 → Int32 → Int32 → Int32 → Int32 → Option (Nat ⊕ (Int32))) (x1 : Int32) (x2 : Int32) (x3 : Int32) (x4 : Int32) (x5 : Int32) : Option (Nat ⊕ (Int32)) :=
  rv54 x1 x2 x3 x4 (x5 + 1)
def p_X5_safePrice_b87 (N : Nat) (G : Nat → Nat → Int32) (J : Nat → Nat → Int64) (rv54 : Int32 → Int32 → Int32 → Int32 → Int32 → Option (Nat ⊕ (Int32))) (x1 : Int32) (x2 : Int32) (x3 : Int32) (x5 : Int32) : Option (Nat ⊕ (Int32)) :=
  p_X5_safePrice_b91 N G J rv54 x1 x2 x3 x5 x5
def p_X5_safePrice_b54 (N : Nat) (G : Nat → Nat → Int32) (J : Nat → Nat → Int64) : Nat → (Int32) → (Int32) → (Int32) → (Int32) → (Int32) → Option (Nat ⊕ (Int32))
  | 0, _, _, _, _, _ => none
  | n + 1, x1, x2, x3, x4, x5 => if (999 : Int32) < x5 then (some (.inr x4)) else ((p_X3_wouldBeSafe N (jvw G 1) x1 x2 x5).bind (fun v7 => if v7 = 0 then (p_X5_safePrice_b91 N G J (p_X5_safePrice_b54 N G J n) x1 x2 x3 x4 x5) else (if x3 = (1 : Int32) then (p_X5_safePrice_b87 N G J (p_X5_safePrice_b54 N G J n) x1 x2 x3 x5) else (if x4 = (-1 : Int32) then (p_X5_safePrice_b87 N G J (p_X5_safePrice_b54 N G J n) x1 x2 x3 x5) else (p_X5_safePrice_b91 N G J (p_X5_safePrice_b54 N G J n) x1 x2 x3 x4 x5)))))
def p_X5_safePrice_b48 (N : Nat) (G : Nat → Nat → Int32) (J : Nat → Nat → Int64) (x1 : Int32) (x2 : Int32) (x3 : Int32) : Option (Nat ⊕ (Int32)) :=
  p_X5_safePrice_b54 N G J N x1 x2 x3 (-1 : Int32) (0 : Int32)
def p_X5_safePrice (N : Nat) (G : Nat → Nat → Int32) (J : Nat → Nat → Int64) (p0 : Int32) (p1 : Int32) (p2 : Int32) : Option (Nat ⊕ (Int32)) :=
  jbx (p_X5_needThing N G J p0) (fun v2 => jbx (p_X5_needPerson N G J p1) (fun v4 => if jin p0 10 = true then if (G 3 p0.toNatClampNeg) = p1 then (some (.inl 2)) else (if p2 = 0 then (p_X5_safePrice_b48 N G J p0 p1 p2) else (if p2 = (1 : Int32) then (p_X5_safePrice_b48 N G J p0 p1 p2) else (some (.inl 3)))) else none))
set_option maxHeartbeats 4000000 in
set_option maxRecDepth 100000 in
theorem t_X5_safePrice_b91 {X : jX} {po : Option Value → jH → Prop} {px : String → jH → Prop} {sf : Bool} {B9 : Nat} (hM : jMX X kX5_safePrice RX5 tbX5 6 ⟨7, 3, 18, 110⟩ (some .int) 71) (hp : jPost X sf B9 po px) (N : Nat) (G : Nat → Nat → Int32) (J : Nat → Nat → Int64) (rv54 : Int32 → Int32 → Int32 → Int32 → Int32 → Option (Nat ⊕ (Int32))) {res : Nat ⊕ (Int32)} (ih54 : ∀ (x1 : Int32) (x2 : Int32) (x3 : Int32) (x4 : Int32) (x5 : Int32), rv54 x1 x2 x3 x4 x5 = some res → JW X 2 12 54 [some (.ref 0), some (.int x1), some (.int x2), some (.int x3), some (.int x4), some (.int x5)] [] (hX G J)) (x1 : Int32) (x2 : Int32) (x3 : Int32) (x4 : Int32) (x5 : Int32) (h : p_X5_safePrice_b91 N G J rv54 x1 x2 x3 x4 x5 = some res) (hq : ∀ w, res = Sum.inr w → po (some (.int w)) (hX G J)) : JW X 2 12 91 [some (.ref 0), some (.int x1), some (.int x2), some (.int x3), some (.int x4), some (.int x5)] [] (hX G J) := by
  unfold p_X5_safePrice_b91 at h
  refine JW.r hM 48 2 (pc2 := 54) (L2 := [some (.ref 0), some (.int x1), some (.int x2), some (.int x3), some (.int x4), some (.int (x5 + 1))]) (st2 := []) (μ2 := (hX G J)) rfl trivial ?_
  exact ih54 x1 x2 x3 x4 (x5 + 1) h
set_option maxHeartbeats 4000000 in
set_option maxRecDepth 100000 in
theorem t_X5_safePrice_b87 {X : jX} {po : Option Value → jH → Prop} {px : String → jH → Prop} {sf : Bool} {B9 : Nat} (hM : jMX X kX5_safePrice RX5 tbX5 6 ⟨7, 3, 18, 110⟩ (some .int) 71) (hp : jPost X sf B9 po px) (N : Nat) (G : Nat → Nat → Int32) (J : Nat → Nat → Int64) (rv54 : Int32 → Int32 → Int32 → Int32 → Int32 → Option (Nat ⊕ (Int32))) {res : Nat ⊕ (Int32)} (ih54 : ∀ (x1 : Int32) (x2 : Int32) (x3 : Int32) (x4 : Int32) (x5 : Int32), rv54 x1 x2 x3 x4 x5 = some res → JW X 2 12 54 [some (.ref 0), some (.int x1), some (.int x2), some (.int x3), some (.int x4), some (.int x5)] [] (hX G J)) (x1 : Int32) (x2 : Int32) (x3 : Int32) (x5 : Int32) (h : p_X5_safePrice_b87 N G J rv54 x1 x2 x3 x5 = some res) (hq : ∀ w, res = Sum.inr w → po (some (.int w)) (hX G J)) : JW X 2 12 87 [some (.ref 0), some (.int x1), some (.int x2), some (.int x3), none, some (.int x5)] [] (hX G J) := by
  unfold p_X5_safePrice_b87 at h
  refine JW.r hM 46 2 (pc2 := 91) (L2 := [some (.ref 0), some (.int x1), some (.int x2), some (.int x3), some (.int x5), some (.int x5)]) (st2 := []) (μ2 := (hX G J)) rfl trivial ?_
  exact t_X5_safePrice_b91 hM hp N G J rv54 ih54 x1 x2 x3 x5 x5 h hq
set_option maxHeartbeats 4000000 in
set_option maxRecDepth 100000 in
theorem t_X5_safePrice_b54 {X : jX} {po : Option Value → jH → Prop} {px : String → jH → Prop} {sf : Bool} {B9 : Nat} (hM : jMX X kX5_safePrice RX5 tbX5 6 ⟨7, 3, 18, 110⟩ (some .int) 71) (hp : jPost X sf B9 po px) (N : Nat) (G : Nat → Nat → Int32) (J : Nat → Nat → Int64) {res : Nat ⊕ (Int32)} : ∀ (n : Nat) (x1 : Int32) (x2 : Int32) (x3 : Int32) (x4 : Int32) (x5 : Int32) (h : p_X5_safePrice_b54 N G J n x1 x2 x3 x4 x5 = some res) (hq : ∀ w, res = Sum.inr w → po (some (.int w)) (hX G J)), JW X 2 12 54 [some (.ref 0), some (.int x1), some (.int x2), some (.int x3), some (.int x4), some (.int x5)] [] (hX G J) := by
  intro n
  induction n with
  | zero =>
    intro x1 x2 x3 x4 x5 h hq
    cases (show (none : Option (Nat ⊕ (Int32))) = some res from h)
  | succ n ih54 =>
    intro x1 x2 x3 x4 x5 h hq
    have ih54 := fun x1 x2 x3 x4 x5 h9 => ih54 x1 x2 x3 x4 x5 h9 hq
    rw [p_X5_safePrice_b54] at h
    refine JW.r hM 30 2 (pc2 := 59) (L2 := [some (.ref 0), some (.int x1), some (.int x2), some (.int x3), some (.int x4), some (.int x5)]) (st2 := [.int (999 : Int32), .int x5]) (μ2 := (hX G J)) rfl trivial ?_
    refine js_icgt (t := 97) hM.1 (jat hM.2.1 32 rfl) rfl (fun hc11 => ?_) (fun hc11 => ?_)
    · have h := (if_pos hc11).symm.trans h
      refine JW.r hM 50 1 (pc2 := 99) (L2 := [some (.ref 0), some (.int x1), some (.int x2), some (.int x3), some (.int x4), some (.int x5)]) (st2 := [.int x4]) (μ2 := (hX G J)) rfl trivial ?_
      obtain rfl := Option.some.inj h
      exact js_iret hM.1 hp hM.2.2.2.2.2.2.2.1 (by rw [hM.2.2.2.2.2.1]; exact Nat.le_of_ble_eq_true rfl) (by rw [hM.2.2.2.2.2.2.1]; exact Nat.le_of_ble_eq_true rfl) (jat hM.2.1 51 rfl) (hq x4 rfl)
    · have h := (if_neg hc11).symm.trans h
      refine JW.r hM 33 5 (pc2 := 70) (L2 := [some (.ref 0), some (.int x1), some (.int x2), some (.int x3), some (.int x4), some (.int x5)]) (st2 := [.int x5, .int x2, .int x1, .ref 1]) (μ2 := (hX G J)) rfl trivial ?_
      obtain ⟨v7, hv6, h⟩ := jbd h
      refine JW.cV (v := some (.int v7)) hM (m_X3_wouldBeSafe (jVX X) hM.1.2.2.2.2.2.2.2.2.2.1 N (jvw G 1) x1 x2 x5 v7 hv6) (sb_X_Town_1 G J) (bi_X_Town_1 G J) rfl rfl rfl kc_X5_241 rfl rfl rfl rfl rfl (jat hM.2.1 38 rfl) (st := []) rfl ?_
      show JW X 2 12 73 [some (.ref 0), some (.int x1), some (.int x2), some (.int x3), some (.int x4), some (.int x5)] [.int v7] (hX G J)
      refine js_ifeq (t := 91) hM.1 (jat hM.2.1 39 rfl) rfl (fun hc10 => ?_) (fun hc10 => ?_)
      · have h := (if_pos hc10).symm.trans h
        exact t_X5_safePrice_b91 hM hp N G J (p_X5_safePrice_b54 N G J n) ih54 x1 x2 x3 x4 x5 h hq
      · have h := (if_neg hc10).symm.trans h
        refine JW.r hM 40 2 (pc2 := 78) (L2 := [some (.ref 0), some (.int x1), some (.int x2), some (.int x3), some (.int x4), some (.int x5)]) (st2 := [.int (1 : Int32), .int x3]) (μ2 := (hX G J)) rfl trivial ?_
        refine js_iceq (t := 87) hM.1 (jat hM.2.1 42 rfl) rfl (fun hc9 => ?_) (fun hc9 => ?_)
        · have h := (if_pos hc9).symm.trans h
          exact JW.mask [true, true, true, true, false, true] (t_X5_safePrice_b87 hM hp N G J (p_X5_safePrice_b54 N G J n) ih54 x1 x2 x3 x5 h hq)
        · have h := (if_neg hc9).symm.trans h
          refine JW.r hM 43 2 (pc2 := 84) (L2 := [some (.ref 0), some (.int x1), some (.int x2), some (.int x3), some (.int x4), some (.int x5)]) (st2 := [.int (-1 : Int32), .int x4]) (μ2 := (hX G J)) rfl trivial ?_
          refine js_icne (t := 91) hM.1 (jat hM.2.1 45 rfl) rfl (fun hc8 => ?_) (fun hc8 => ?_)
          · have h := (if_neg hc8).symm.trans h
            exact t_X5_safePrice_b91 hM hp N G J (p_X5_safePrice_b54 N G J n) ih54 x1 x2 x3 x4 x5 h hq
          · have h := (if_pos hc8).symm.trans h
            exact JW.mask [true, true, true, true, false, true] (t_X5_safePrice_b87 hM hp N G J (p_X5_safePrice_b54 N G J n) ih54 x1 x2 x3 x5 h hq)
set_option maxHeartbeats 4000000 in
set_option maxRecDepth 100000 in
theorem t_X5_safePrice_b48 {X : jX} {po : Option Value → jH → Prop} {px : String → jH → Prop} {sf : Bool} {B9 : Nat} (hM : jMX X kX5_safePrice RX5 tbX5 6 ⟨7, 3, 18, 110⟩ (some .int) 71) (hp : jPost X sf B9 po px) (N : Nat) (G : Nat → Nat → Int32) (J : Nat → Nat → Int64) {res : Nat ⊕ (Int32)} (x1 : Int32) (x2 : Int32) (x3 : Int32) (h : p_X5_safePrice_b48 N G J x1 x2 x3 = some res) (hq : ∀ w, res = Sum.inr w → po (some (.int w)) (hX G J)) : JW X 2 12 48 [some (.ref 0), some (.int x1), some (.int x2), some (.int x3), none, none] [] (hX G J) := by
  unfold p_X5_safePrice_b48 at h
  refine JW.r hM 26 4 (pc2 := 54) (L2 := [some (.ref 0), some (.int x1), some (.int x2), some (.int x3), some (.int (-1 : Int32)), some (.int (0 : Int32))]) (st2 := []) (μ2 := (hX G J)) rfl trivial ?_
  exact t_X5_safePrice_b54 hM hp N G J N x1 x2 x3 (-1 : Int32) (0 : Int32) h hq
set_option maxHeartbeats 4000000 in
set_option maxRecDepth 100000 in
theorem t_X5_safePrice {X : jX} {po : Option Value → jH → Prop} {px : String → jH → Prop} {sf : Bool} {B9 : Nat} (hM : jMX X kX5_safePrice RX5 tbX5 6 ⟨7, 3, 18, 110⟩ (some .int) 71) (hp : jPost X sf B9 po px) (N : Nat) (G : Nat → Nat → Int32) (J : Nat → Nat → Int64) (p0 : Int32) (p1 : Int32) (p2 : Int32) {res : Nat ⊕ (Int32)} (h : p_X5_safePrice N G J p0 p1 p2 = some res) (hq : ∀ w, res = Sum.inr w → po (some (.int w)) (hX G J)) (hx : ∀ c, res = Sum.inl c → px (jEn c) (hX G J)) : JW X 0 0 0 [some (.ref 0), some (.int p0), some (.int p1), some (.int p2), none, none] [] (hX G J) := by
  unfold p_X5_safePrice at h
  refine JW.r hM 0 2 (pc2 := 2) (L2 := [some (.ref 0), some (.int p0), some (.int p1), some (.int p2), none, none]) (st2 := [.int p0, .ref 0]) (μ2 := (hX G J)) rfl trivial ?_
  rcases jbxE h with h | h
  · obtain ⟨v2, hv1, h⟩ := h
    refine JW.cV (v := none) hM (m_X5_needThing_r (jVX X) hM.1.2.2.2.2.2.2.2.2.2.1 N G J p0 v2 hv1) (sb_X_X_0 G J) (bi_X_X_0 G J) rfl rfl rfl kc_X5_90 rfl rfl rfl rfl rfl (jat hM.2.1 2 rfl) (st := []) rfl ?_
    show JW X 1 6 5 [some (.ref 0), some (.int p0), some (.int p1), some (.int p2), none, none] [] (hX G J)
    refine JW.r hM 3 2 (pc2 := 7) (L2 := [some (.ref 0), some (.int p0), some (.int p1), some (.int p2), none, none]) (st2 := [.int p1, .ref 0]) (μ2 := (hX G J)) rfl trivial ?_
    rcases jbxE h with h | h
    · obtain ⟨v4, hv3, h⟩ := h
      refine JW.cV (v := none) hM (m_X5_needPerson_r (jVX X) hM.1.2.2.2.2.2.2.2.2.2.1 N G J p1 v4 hv3) (sb_X_X_0 G J) (bi_X_X_0 G J) rfl rfl rfl kc_X5_76 rfl rfl rfl rfl rfl (jat hM.2.1 5 rfl) (st := []) rfl ?_
      show JW X 2 12 10 [some (.ref 0), some (.int p0), some (.int p1), some (.int p2), none, none] [] (hX G J)
      obtain ⟨g5, h⟩ := jg h
      refine JW.r hM 6 6 (pc2 := 20) (L2 := [some (.ref 0), some (.int p0), some (.int p1), some (.int p2), none, none]) (st2 := [.int p1, .int (G 3 p0.toNatClampNeg)]) (μ2 := (hX G J)) rfl ⟨g5, trivial⟩ ?_
      refine js_icne (t := 31) hM.1 (jat hM.2.1 12 rfl) rfl (fun hc14 => ?_) (fun hc14 => ?_)
      · have h := (if_neg hc14).symm.trans h
        refine JW.r hM 17 1 (pc2 := 32) (L2 := [some (.ref 0), some (.int p0), some (.int p1), some (.int p2), none, none]) (st2 := [.int p2]) (μ2 := (hX G J)) rfl trivial ?_
        refine js_ifeq (t := 48) hM.1 (jat hM.2.1 18 rfl) rfl (fun hc13 => ?_) (fun hc13 => ?_)
        · have h := (if_pos hc13).symm.trans h
          exact t_X5_safePrice_b48 hM hp N G J p0 p1 p2 h hq
        · have h := (if_neg hc13).symm.trans h
          refine JW.r hM 19 2 (pc2 := 37) (L2 := [some (.ref 0), some (.int p0), some (.int p1), some (.int p2), none, none]) (st2 := [.int (1 : Int32), .int p2]) (μ2 := (hX G J)) rfl trivial ?_
          refine js_iceq (t := 48) hM.1 (jat hM.2.1 21 rfl) rfl (fun hc12 => ?_) (fun hc12 => ?_)
          · have h := (if_pos hc12).symm.trans h
            exact t_X5_safePrice_b48 hM hp N G J p0 p1 p2 h hq
          · have h := (if_neg hc12).symm.trans h
            obtain rfl := Option.some.inj h
            exact js_throw (ik := 56) (ic := 58) (names := ["java/lang/RuntimeException", "java/lang/Exception"]) hM.1 hp hM.2.2.2.2.2.2.2.2.2 (by decide) (by decide) (by rw [hM.2.2.1]; exact th_X5_56_58) (jat hM.2.1 22 rfl) (jat hM.2.1 23 rfl) (jat hM.2.1 24 rfl) (jat hM.2.1 25 rfl) (by rw [hM.2.2.2.2.1]; exact Nat.le_of_ble_eq_true rfl) (by rw [hM.2.2.2.2.1]; exact Nat.le_of_ble_eq_true rfl) (by rw [hM.2.2.2.2.2.1]; exact Nat.le_of_ble_eq_true rfl) (by rw [hM.2.2.2.2.2.2.1]; exact Nat.le_of_ble_eq_true rfl) (hx _ rfl)
      · have h := (if_pos hc14).symm.trans h
        obtain rfl := Option.some.inj h
        exact js_throw (ik := 119) (ic := 121) (names := ["java/lang/RuntimeException", "java/lang/Exception"]) hM.1 hp hM.2.2.2.2.2.2.2.2.2 (by decide) (by decide) (by rw [hM.2.2.1]; exact th_X5_119_121) (jat hM.2.1 13 rfl) (jat hM.2.1 14 rfl) (jat hM.2.1 15 rfl) (jat hM.2.1 16 rfl) (by rw [hM.2.2.2.2.1]; exact Nat.le_of_ble_eq_true rfl) (by rw [hM.2.2.2.2.1]; exact Nat.le_of_ble_eq_true rfl) (by rw [hM.2.2.2.2.2.1]; exact Nat.le_of_ble_eq_true rfl) (by rw [hM.2.2.2.2.2.2.1]; exact Nat.le_of_ble_eq_true rfl) (hx _ rfl)
    · obtain ⟨c15, hv3, h⟩ := h
      subst h
      exact JW.xV hM hp (E := jEn c15) (m_X5_needPerson_x (jVX X) hM.1.2.2.2.2.2.2.2.2.2.1 N G J p1 c15 hv3) (sb_X_X_0 G J) (bi_X_X_0 G J) rfl rfl kc_X5_76 rfl rfl rfl rfl rfl (jat hM.2.1 5 rfl) (st := []) rfl (hx _ rfl)
  · obtain ⟨c16, hv1, h⟩ := h
    subst h
    exact JW.xV hM hp (E := jEn c16) (m_X5_needThing_x (jVX X) hM.1.2.2.2.2.2.2.2.2.2.1 N G J p0 c16 hv1) (sb_X_X_0 G J) (bi_X_X_0 G J) rfl rfl kc_X5_90 rfl rfl rfl rfl rfl (jat hM.2.1 2 rfl) (st := []) rfl (hx _ rfl)
theorem m_X5_safePrice_r (V : jV) (hV : V.1.stackTraces = false) (N : Nat) (G : Nat → Nat → Int32) (J : Nat → Nat → Int64) (p0 : Int32) (p1 : Int32) (p2 : Int32) (v : (Int32)) (h : p_X5_safePrice N G J p0 p1 p2 = some (.inr v)) : jMet V yX5_safePrice (jws yX5_safePrice cX5_safePrice 6 (some .int)) ⟨7, 3, 18, 110⟩ true 1 [.ref 0, .int p0, .int p1, .int p2] (hX G J) (fun o ν => o = some (.int v) ∧ ν = (hX G J)) (fun _ _ => False) := by
  refine jmk (tb := tbX5) (C := kX5_safePrice) hV rfl (by decide) tbX5_ok rfl kX5_safePrice_ok rfl ?_
  intro X hM _ hp _
  exact t_X5_safePrice hM hp N G J p0 p1 p2 h (fun w hw => by cases hw; exact ⟨rfl, rfl⟩) (fun c hc => by cases hc)
theorem m_X5_safePrice_x (V : jV) (hV : V.1.stackTraces = false) (N : Nat) (G : Nat → Nat → Int32) (J : Nat → Nat → Int64) (p0 : Int32) (p1 : Int32) (p2 : Int32) (c : Nat) (h : p_X5_safePrice N G J p0 p1 p2 = some (.inl c)) : jMet V yX5_safePrice (jws yX5_safePrice cX5_safePrice 6 (some .int)) ⟨7, 3, 18, 110⟩ true 1 [.ref 0, .int p0, .int p1, .int p2] (hX G J) (fun _ _ => False) (fun E ν => E = jEn c ∧ ν = (hX G J)) := by
  refine jmk (tb := tbX5) (C := kX5_safePrice) hV rfl (by decide) tbX5_ok rfl kX5_safePrice_ok rfl ?_
  intro X hM _ hp _
  exact t_X5_safePrice hM hp N G J p0 p1 p2 h (fun w hw => by cases hw) (fun c hc => by cases hc; exact ⟨rfl, rfl⟩)
def p_X5_longest_b38 (N : Nat) (G : Nat → Nat → Int32) (J : Nat → Nat → Int64) (rv6 : Int32 → Int32 → Int32 → Option (Int32)) (x1 : Int32) (x2 : Int32) (x3 : Int32) : Option (Int32) :=
  rv6 x1 x2 (x3 + 1)
def p_X5_longest_b6 (N : Nat) (G : Nat → Nat → Int32) (J : Nat → Nat → Int64) : Nat → (Int32) → (Int32) → (Int32) → Option (Int32)
  | 0, _, _, _ => none
  | n + 1, x1, x2, x3 => if (G 1 2) ≤ x3 then (some x2) else ((p_X3_chainLength N (jvw G 1) x3).bind (fun v2 => if v2 ≤ x1 then (p_X5_longest_b38 N G J (p_X5_longest_b6 N G J n) x1 x2 x3) else (p_X5_longest_b38 N G J (p_X5_longest_b6 N G J n) v2 x3 x3)))
def p_X5_longest (N : Nat) (G : Nat → Nat → Int32) (J : Nat → Nat → Int64) : Option (Int32) :=
  p_X5_longest_b6 N G J N (0 : Int32) (-1 : Int32) (0 : Int32)
set_option maxHeartbeats 4000000 in
set_option maxRecDepth 100000 in
theorem t_X5_longest_b38 {X : jX} {po : Option Value → jH → Prop} {px : String → jH → Prop} {sf : Bool} {B9 : Nat} (hM : jMX X kX5_longest RX5 tbX5 5 ⟨2, 0, 0, 44⟩ (some .int) 71) (hp : jPost X sf B9 po px) (N : Nat) (G : Nat → Nat → Int32) (J : Nat → Nat → Int64) (rv6 : Int32 → Int32 → Int32 → Option (Int32)) {res : Int32} (ih6 : ∀ (x1 : Int32) (x2 : Int32) (x3 : Int32), rv6 x1 x2 x3 = some res → JW X 0 0 6 [some (.ref 0), some (.int x1), some (.int x2), some (.int x3), none] [] (hX G J)) (x1 : Int32) (x2 : Int32) (x3 : Int32) (h : p_X5_longest_b38 N G J rv6 x1 x2 x3 = some res) (hq : po (some (.int res)) (hX G J)) : JW X 0 0 38 [some (.ref 0), some (.int x1), some (.int x2), some (.int x3), none] [] (hX G J) := by
  unfold p_X5_longest_b38 at h
  refine JW.r hM 23 2 (pc2 := 6) (L2 := [some (.ref 0), some (.int x1), some (.int x2), some (.int (x3 + 1)), none]) (st2 := []) (μ2 := (hX G J)) rfl trivial ?_
  exact ih6 x1 x2 (x3 + 1) h
set_option maxHeartbeats 4000000 in
set_option maxRecDepth 100000 in
theorem t_X5_longest_b6 {X : jX} {po : Option Value → jH → Prop} {px : String → jH → Prop} {sf : Bool} {B9 : Nat} (hM : jMX X kX5_longest RX5 tbX5 5 ⟨2, 0, 0, 44⟩ (some .int) 71) (hp : jPost X sf B9 po px) (N : Nat) (G : Nat → Nat → Int32) (J : Nat → Nat → Int64) {res : Int32} : ∀ (n : Nat) (x1 : Int32) (x2 : Int32) (x3 : Int32) (h : p_X5_longest_b6 N G J n x1 x2 x3 = some res) (hq : po (some (.int res)) (hX G J)), JW X 0 0 6 [some (.ref 0), some (.int x1), some (.int x2), some (.int x3), none] [] (hX G J) := by
  intro n
  induction n with
  | zero =>
    intro x1 x2 x3 h hq
    cases (show (none : Option (Int32)) = some res from h)
  | succ n ih6 =>
    intro x1 x2 x3 h hq
    have ih6 := fun x1 x2 x3 h9 => ih6 x1 x2 x3 h9 hq
    rw [p_X5_longest_b6] at h
    refine JW.r hM 6 4 (pc2 := 14) (L2 := [some (.ref 0), some (.int x1), some (.int x2), some (.int x3), none]) (st2 := [.int (G 1 2), .int x3]) (μ2 := (hX G J)) rfl trivial ?_
    refine js_icge (t := 44) hM.1 (jat hM.2.1 10 rfl) rfl (fun hc4 => ?_) (fun hc4 => ?_)
    · have h := (if_pos hc4).symm.trans h
      refine JW.r hM 25 1 (pc2 := 45) (L2 := [some (.ref 0), some (.int x1), some (.int x2), some (.int x3), none]) (st2 := [.int x2]) (μ2 := (hX G J)) rfl trivial ?_
      obtain rfl := Option.some.inj h
      exact js_iret hM.1 hp hM.2.2.2.2.2.2.2.1 (by rw [hM.2.2.2.2.2.1]; exact Nat.le_of_ble_eq_true rfl) (by rw [hM.2.2.2.2.2.2.1]; exact Nat.le_of_ble_eq_true rfl) (jat hM.2.1 26 rfl) hq
    · have h := (if_neg hc4).symm.trans h
      refine JW.r hM 11 3 (pc2 := 22) (L2 := [some (.ref 0), some (.int x1), some (.int x2), some (.int x3), none]) (st2 := [.int x3, .ref 1]) (μ2 := (hX G J)) rfl trivial ?_
      obtain ⟨v2, hv1, h⟩ := jbd h
      refine JW.cV (v := some (.int v2)) hM (m_X3_chainLength (jVX X) hM.1.2.2.2.2.2.2.2.2.2.1 N (jvw G 1) x3 v2 hv1) (sb_X_Town_1 G J) (bi_X_Town_1 G J) rfl rfl rfl kc_X5_245 rfl rfl rfl rfl rfl (jat hM.2.1 14 rfl) (st := []) rfl ?_
      show JW X 0 0 25 [some (.ref 0), some (.int x1), some (.int x2), some (.int x3), none] [.int v2] (hX G J)
      refine JW.r hM 15 3 (pc2 := 30) (L2 := [some (.ref 0), some (.int x1), some (.int x2), some (.int x3), some (.int v2)]) (st2 := [.int x1, .int v2]) (μ2 := (hX G J)) rfl trivial ?_
      refine js_icle (t := 38) hM.1 (jat hM.2.1 18 rfl) rfl (fun hc3 => ?_) (fun hc3 => ?_)
      · have h := (if_pos hc3).symm.trans h
        exact JW.mask [true, true, true, true, false] (t_X5_longest_b38 hM hp N G J (p_X5_longest_b6 N G J n) ih6 x1 x2 x3 h hq)
      · have h := (if_neg hc3).symm.trans h
        refine JW.r hM 19 4 (pc2 := 38) (L2 := [some (.ref 0), some (.int v2), some (.int x3), some (.int x3), some (.int v2)]) (st2 := []) (μ2 := (hX G J)) rfl trivial ?_
        exact JW.mask [true, true, true, true, false] (t_X5_longest_b38 hM hp N G J (p_X5_longest_b6 N G J n) ih6 v2 x3 x3 h hq)
set_option maxHeartbeats 4000000 in
set_option maxRecDepth 100000 in
theorem t_X5_longest {X : jX} {po : Option Value → jH → Prop} {px : String → jH → Prop} {sf : Bool} {B9 : Nat} (hM : jMX X kX5_longest RX5 tbX5 5 ⟨2, 0, 0, 44⟩ (some .int) 71) (hp : jPost X sf B9 po px) (N : Nat) (G : Nat → Nat → Int32) (J : Nat → Nat → Int64) {res : Int32} (h : p_X5_longest N G J = some res) (hq : po (some (.int res)) (hX G J)) : JW X 0 0 0 [some (.ref 0), none, none, none, none] [] (hX G J) := by
  unfold p_X5_longest at h
  refine JW.r hM 0 6 (pc2 := 6) (L2 := [some (.ref 0), some (.int (0 : Int32)), some (.int (-1 : Int32)), some (.int (0 : Int32)), none]) (st2 := []) (μ2 := (hX G J)) rfl trivial ?_
  exact t_X5_longest_b6 hM hp N G J N (0 : Int32) (-1 : Int32) (0 : Int32) h hq
theorem m_X5_longest (V : jV) (hV : V.1.stackTraces = false) (N : Nat) (G : Nat → Nat → Int32) (J : Nat → Nat → Int64) (v : Int32) (h : p_X5_longest N G J = some v) : jMet V yX5_longest (jws yX5_longest cX5_longest 5 (some .int)) ⟨2, 0, 0, 44⟩ true 1 [.ref 0] (hX G J) (fun o ν => o = some (.int v) ∧ ν = (hX G J)) (fun _ _ => False) := by
  refine jmk (tb := tbX5) (C := kX5_longest) hV rfl (by decide) tbX5_ok rfl kX5_longest_ok rfl ?_
  intro X hM _ hp _
  exact t_X5_longest hM hp N G J h ⟨rfl, rfl⟩
def p_X5_bidder_b77 (N : Nat) (G : Nat → Nat → Int32) (J : Nat → Nat → Int64) (rv12 : Int32 → Int32 → Int32 → Int32 → Option (Nat ⊕ (Int32))) (x1 : Int32) (x2 : Int32) (x3 : Int32) (x4 : Int32) : Option (Nat ⊕ (Int32)) :=
  rv12 x1 x2 x3 (x4 + 1)
def p_X5_bidder_b12 (N : Nat) (G : Nat → Nat → Int32) (J : Nat → Nat → Int64) : Nat → (Int32) → (Int32) → (Int32) → (Int32) → Option (Nat ⊕ (Int32))
  | 0, _, _, _, _ => none
  | n + 1, x1, x2, x3, x4 => if (G 1 1) ≤ x4 then (some (.inr x3)) else ((p_X3_worthTo N (jvw G 1) x1 x4).bind (fun v4 => if jin x1 10 = true then if x4 = (G 3 x1.toNatClampNeg) then (p_X5_bidder_b77 N G J (p_X5_bidder_b12 N G J n) x1 x2 x3 x4) else (if jin x4 6 = true then if (G 2 x4.toNatClampNeg) < v4 then (p_X5_bidder_b77 N G J (p_X5_bidder_b12 N G J n) x1 x2 x3 x4) else (if v4 ≤ x2 then (p_X5_bidder_b77 N G J (p_X5_bidder_b12 N G J n) x1 x2 x3 x4) else (p_X5_bidder_b77 N G J (p_X5_bidder_b12 N G J n) x1 v4 x4 x4)) else none) else none))
def p_X5_bidder (N : Nat) (G : Nat → Nat → Int32) (J : Nat → Nat → Int64) (p0 : Int32) : Option (Nat ⊕ (Int32)) :=
  jbx (p_X5_needThing N G J p0) (fun v2 => p_X5_bidder_b12 N G J N p0 (-1 : Int32) (-1 : Int32) (0 : Int32))
set_option maxHeartbeats 4000000 in
set_option maxRecDepth 100000 in
theorem t_X5_bidder_b77 {X : jX} {po : Option Value → jH → Prop} {px : String → jH → Prop} {sf : Bool} {B9 : Nat} (hM : jMX X kX5_bidder RX5 tbX5 6 ⟨7, 1, 6, 110⟩ (some .int) 71) (hp : jPost X sf B9 po px) (N : Nat) (G : Nat → Nat → Int32) (J : Nat → Nat → Int64) (rv12 : Int32 → Int32 → Int32 → Int32 → Option (Nat ⊕ (Int32))) {res : Nat ⊕ (Int32)} (ih12 : ∀ (x1 : Int32) (x2 : Int32) (x3 : Int32) (x4 : Int32), rv12 x1 x2 x3 x4 = some res → JW X 1 6 12 [some (.ref 0), some (.int x1), some (.int x2), some (.int x3), some (.int x4), none] [] (hX G J)) (x1 : Int32) (x2 : Int32) (x3 : Int32) (x4 : Int32) (h : p_X5_bidder_b77 N G J rv12 x1 x2 x3 x4 = some res) (hq : ∀ w, res = Sum.inr w → po (some (.int w)) (hX G J)) : JW X 1 6 77 [some (.ref 0), some (.int x1), some (.int x2), some (.int x3), some (.int x4), none] [] (hX G J) := by
  unfold p_X5_bidder_b77 at h
  refine JW.r hM 41 2 (pc2 := 12) (L2 := [some (.ref 0), some (.int x1), some (.int x2), some (.int x3), some (.int (x4 + 1)), none]) (st2 := []) (μ2 := (hX G J)) rfl trivial ?_
  exact ih12 x1 x2 x3 (x4 + 1) h
set_option maxHeartbeats 4000000 in
set_option maxRecDepth 100000 in
theorem t_X5_bidder_b12 {X : jX} {po : Option Value → jH → Prop} {px : String → jH → Prop} {sf : Bool} {B9 : Nat} (hM : jMX X kX5_bidder RX5 tbX5 6 ⟨7, 1, 6, 110⟩ (some .int) 71) (hp : jPost X sf B9 po px) (N : Nat) (G : Nat → Nat → Int32) (J : Nat → Nat → Int64) {res : Nat ⊕ (Int32)} : ∀ (n : Nat) (x1 : Int32) (x2 : Int32) (x3 : Int32) (x4 : Int32) (h : p_X5_bidder_b12 N G J n x1 x2 x3 x4 = some res) (hq : ∀ w, res = Sum.inr w → po (some (.int w)) (hX G J)), JW X 1 6 12 [some (.ref 0), some (.int x1), some (.int x2), some (.int x3), some (.int x4), none] [] (hX G J) := by
  intro n
  induction n with
  | zero =>
    intro x1 x2 x3 x4 h hq
    cases (show (none : Option (Nat ⊕ (Int32))) = some res from h)
  | succ n ih12 =>
    intro x1 x2 x3 x4 h hq
    have ih12 := fun x1 x2 x3 x4 h9 => ih12 x1 x2 x3 x4 h9 hq
    rw [p_X5_bidder_b12] at h
    refine JW.r hM 9 4 (pc2 := 21) (L2 := [some (.ref 0), some (.int x1), some (.int x2), some (.int x3), some (.int x4), none]) (st2 := [.int (G 1 1), .int x4]) (μ2 := (hX G J)) rfl trivial ?_
    refine js_icge (t := 83) hM.1 (jat hM.2.1 13 rfl) rfl (fun hc10 => ?_) (fun hc10 => ?_)
    · have h := (if_pos hc10).symm.trans h
      refine JW.r hM 43 1 (pc2 := 84) (L2 := [some (.ref 0), some (.int x1), some (.int x2), some (.int x3), some (.int x4), none]) (st2 := [.int x3]) (μ2 := (hX G J)) rfl trivial ?_
      obtain rfl := Option.some.inj h
      exact js_iret hM.1 hp hM.2.2.2.2.2.2.2.1 (by rw [hM.2.2.2.2.2.1]; exact Nat.le_of_ble_eq_true rfl) (by rw [hM.2.2.2.2.2.2.1]; exact Nat.le_of_ble_eq_true rfl) (jat hM.2.1 44 rfl) (hq x3 rfl)
    · have h := (if_neg hc10).symm.trans h
      refine JW.r hM 14 4 (pc2 := 31) (L2 := [some (.ref 0), some (.int x1), some (.int x2), some (.int x3), some (.int x4), none]) (st2 := [.int x4, .int x1, .ref 1]) (μ2 := (hX G J)) rfl trivial ?_
      obtain ⟨v4, hv3, h⟩ := jbd h
      refine JW.cV (v := some (.int v4)) hM (m_X3_worthTo (jVX X) hM.1.2.2.2.2.2.2.2.2.2.1 N (jvw G 1) x1 x4 v4 hv3) (sb_X_Town_1 G J) (bi_X_Town_1 G J) rfl rfl rfl kc_X5_93 rfl rfl rfl rfl rfl (jat hM.2.1 18 rfl) (st := []) rfl ?_
      show JW X 1 6 34 [some (.ref 0), some (.int x1), some (.int x2), some (.int x3), some (.int x4), none] [.int v4] (hX G J)
      obtain ⟨g5, h⟩ := jg h
      refine JW.r hM 19 7 (pc2 := 47) (L2 := [some (.ref 0), some (.int x1), some (.int x2), some (.int x3), some (.int x4), some (.int v4)]) (st2 := [.int (G 3 x1.toNatClampNeg), .int x4]) (μ2 := (hX G J)) rfl ⟨g5, trivial⟩ ?_
      refine js_iceq (t := 77) hM.1 (jat hM.2.1 26 rfl) rfl (fun hc9 => ?_) (fun hc9 => ?_)
      · have h := (if_pos hc9).symm.trans h
        exact JW.mask [true, true, true, true, true, false] (t_X5_bidder_b77 hM hp N G J (p_X5_bidder_b12 N G J n) ih12 x1 x2 x3 x4 h hq)
      · have h := (if_neg hc9).symm.trans h
        obtain ⟨g6, h⟩ := jg h
        refine JW.r hM 27 6 (pc2 := 62) (L2 := [some (.ref 0), some (.int x1), some (.int x2), some (.int x3), some (.int x4), some (.int v4)]) (st2 := [.int v4, .int (G 2 x4.toNatClampNeg)]) (μ2 := (hX G J)) rfl ⟨g6, trivial⟩ ?_
        refine js_iclt (t := 77) hM.1 (jat hM.2.1 33 rfl) rfl (fun hc8 => ?_) (fun hc8 => ?_)
        · have h := (if_pos hc8).symm.trans h
          exact JW.mask [true, true, true, true, true, false] (t_X5_bidder_b77 hM hp N G J (p_X5_bidder_b12 N G J n) ih12 x1 x2 x3 x4 h hq)
        · have h := (if_neg hc8).symm.trans h
          refine JW.r hM 34 2 (pc2 := 68) (L2 := [some (.ref 0), some (.int x1), some (.int x2), some (.int x3), some (.int x4), some (.int v4)]) (st2 := [.int x2, .int v4]) (μ2 := (hX G J)) rfl trivial ?_
          refine js_icle (t := 77) hM.1 (jat hM.2.1 36 rfl) rfl (fun hc7 => ?_) (fun hc7 => ?_)
          · have h := (if_pos hc7).symm.trans h
            exact JW.mask [true, true, true, true, true, false] (t_X5_bidder_b77 hM hp N G J (p_X5_bidder_b12 N G J n) ih12 x1 x2 x3 x4 h hq)
          · have h := (if_neg hc7).symm.trans h
            refine JW.r hM 37 4 (pc2 := 77) (L2 := [some (.ref 0), some (.int x1), some (.int v4), some (.int x4), some (.int x4), some (.int v4)]) (st2 := []) (μ2 := (hX G J)) rfl trivial ?_
            exact JW.mask [true, true, true, true, true, false] (t_X5_bidder_b77 hM hp N G J (p_X5_bidder_b12 N G J n) ih12 x1 v4 x4 x4 h hq)
set_option maxHeartbeats 4000000 in
set_option maxRecDepth 100000 in
theorem t_X5_bidder {X : jX} {po : Option Value → jH → Prop} {px : String → jH → Prop} {sf : Bool} {B9 : Nat} (hM : jMX X kX5_bidder RX5 tbX5 6 ⟨7, 1, 6, 110⟩ (some .int) 71) (hp : jPost X sf B9 po px) (N : Nat) (G : Nat → Nat → Int32) (J : Nat → Nat → Int64) (p0 : Int32) {res : Nat ⊕ (Int32)} (h : p_X5_bidder N G J p0 = some res) (hq : ∀ w, res = Sum.inr w → po (some (.int w)) (hX G J)) (hx : ∀ c, res = Sum.inl c → px (jEn c) (hX G J)) : JW X 0 0 0 [some (.ref 0), some (.int p0), none, none, none, none] [] (hX G J) := by
  unfold p_X5_bidder at h
  refine JW.r hM 0 2 (pc2 := 2) (L2 := [some (.ref 0), some (.int p0), none, none, none, none]) (st2 := [.int p0, .ref 0]) (μ2 := (hX G J)) rfl trivial ?_
  rcases jbxE h with h | h
  · obtain ⟨v2, hv1, h⟩ := h
    refine JW.cV (v := none) hM (m_X5_needThing_r (jVX X) hM.1.2.2.2.2.2.2.2.2.2.1 N G J p0 v2 hv1) (sb_X_X_0 G J) (bi_X_X_0 G J) rfl rfl rfl kc_X5_90 rfl rfl rfl rfl rfl (jat hM.2.1 2 rfl) (st := []) rfl ?_
    show JW X 1 6 5 [some (.ref 0), some (.int p0), none, none, none, none] [] (hX G J)
    refine JW.r hM 3 6 (pc2 := 12) (L2 := [some (.ref 0), some (.int p0), some (.int (-1 : Int32)), some (.int (-1 : Int32)), some (.int (0 : Int32)), none]) (st2 := []) (μ2 := (hX G J)) rfl trivial ?_
    exact t_X5_bidder_b12 hM hp N G J N p0 (-1 : Int32) (-1 : Int32) (0 : Int32) h hq
  · obtain ⟨c11, hv1, h⟩ := h
    subst h
    exact JW.xV hM hp (E := jEn c11) (m_X5_needThing_x (jVX X) hM.1.2.2.2.2.2.2.2.2.2.1 N G J p0 c11 hv1) (sb_X_X_0 G J) (bi_X_X_0 G J) rfl rfl kc_X5_90 rfl rfl rfl rfl rfl (jat hM.2.1 2 rfl) (st := []) rfl (hx _ rfl)
theorem m_X5_bidder_r (V : jV) (hV : V.1.stackTraces = false) (N : Nat) (G : Nat → Nat → Int32) (J : Nat → Nat → Int64) (p0 : Int32) (v : (Int32)) (h : p_X5_bidder N G J p0 = some (.inr v)) : jMet V yX5_bidder (jws yX5_bidder cX5_bidder 6 (some .int)) ⟨7, 1, 6, 110⟩ true 1 [.ref 0, .int p0] (hX G J) (fun o ν => o = some (.int v) ∧ ν = (hX G J)) (fun _ _ => False) := by
  refine jmk (tb := tbX5) (C := kX5_bidder) hV rfl (by decide) tbX5_ok rfl kX5_bidder_ok rfl ?_
  intro X hM _ hp _
  exact t_X5_bidder hM hp N G J p0 h (fun w hw => by cases hw; exact ⟨rfl, rfl⟩) (fun c hc => by cases hc)
theorem m_X5_bidder_x (V : jV) (hV : V.1.stackTraces = false) (N : Nat) (G : Nat → Nat → Int32) (J : Nat → Nat → Int64) (p0 : Int32) (c : Nat) (h : p_X5_bidder N G J p0 = some (.inl c)) : jMet V yX5_bidder (jws yX5_bidder cX5_bidder 6 (some .int)) ⟨7, 1, 6, 110⟩ true 1 [.ref 0, .int p0] (hX G J) (fun _ _ => False) (fun E ν => E = jEn c ∧ ν = (hX G J)) := by
  refine jmk (tb := tbX5) (C := kX5_bidder) hV rfl (by decide) tbX5_ok rfl kX5_bidder_ok rfl ?_
  intro X hM _ hp _
  exact t_X5_bidder hM hp N G J p0 h (fun w hw => by cases hw) (fun c hc => by cases hc; exact ⟨rfl, rfl⟩)
def p_X5_needRounds (N : Nat) (p0 : Int32) : Option (Nat ⊕ (Unit)) :=
  if p0 = (1 : Int32) then (some (.inr ())) else (if p0 = (2 : Int32) then (some (.inr ())) else (some (.inl 3)))
set_option maxHeartbeats 4000000 in
set_option maxRecDepth 100000 in
theorem t_X5_needRounds {X : jX} {po : Option Value → jH → Prop} {px : String → jH → Prop} {sf : Bool} {B9 : Nat} (hM : jMX X kX5_needRounds RX5 tbX5 1 ⟨6, 1, 6, 89⟩ none 1) (hp : jPost X sf B9 po px) (N : Nat) (p0 : Int32) {res : Nat ⊕ (Unit)} (h : p_X5_needRounds N p0 = some res) (hq : ∀ w, res = Sum.inr w → po none hE) (hx : ∀ c, res = Sum.inl c → px (jEn c) hE) : JW X 0 0 0 [some (.int p0)] [] hE := by
  unfold p_X5_needRounds at h
  refine JW.r hM 0 2 (pc2 := 2) (L2 := [some (.int p0)]) (st2 := [.int (1 : Int32), .int p0]) (μ2 := hE) rfl trivial ?_
  refine js_iceq (t := 18) hM.1 (jat hM.2.1 2 rfl) rfl (fun hc2 => ?_) (fun hc2 => ?_)
  · have h := (if_pos hc2).symm.trans h
    obtain rfl := Option.some.inj h
    exact js_vret hM.1 hp hM.2.2.2.2.2.2.2.1 (by rw [hM.2.2.2.2.2.1]; exact Nat.le_of_ble_eq_true rfl) (by rw [hM.2.2.2.2.2.2.1]; exact Nat.le_of_ble_eq_true rfl) (jat hM.2.1 10 rfl) (hq () rfl)
  · have h := (if_neg hc2).symm.trans h
    refine JW.r hM 3 2 (pc2 := 7) (L2 := [some (.int p0)]) (st2 := [.int (2 : Int32), .int p0]) (μ2 := hE) rfl trivial ?_
    refine js_iceq (t := 18) hM.1 (jat hM.2.1 5 rfl) rfl (fun hc1 => ?_) (fun hc1 => ?_)
    · have h := (if_pos hc1).symm.trans h
      obtain rfl := Option.some.inj h
      exact js_vret hM.1 hp hM.2.2.2.2.2.2.2.1 (by rw [hM.2.2.2.2.2.1]; exact Nat.le_of_ble_eq_true rfl) (by rw [hM.2.2.2.2.2.2.1]; exact Nat.le_of_ble_eq_true rfl) (jat hM.2.1 10 rfl) (hq () rfl)
    · have h := (if_neg hc1).symm.trans h
      obtain rfl := Option.some.inj h
      exact js_throw (ik := 56) (ic := 58) (names := ["java/lang/RuntimeException", "java/lang/Exception"]) hM.1 hp hM.2.2.2.2.2.2.2.2.2 (by decide) (by decide) (by rw [hM.2.2.1]; exact th_X5_56_58) (jat hM.2.1 6 rfl) (jat hM.2.1 7 rfl) (jat hM.2.1 8 rfl) (jat hM.2.1 9 rfl) (by rw [hM.2.2.2.2.1]; exact Nat.le_of_ble_eq_true rfl) (by rw [hM.2.2.2.2.1]; exact Nat.le_of_ble_eq_true rfl) (by rw [hM.2.2.2.2.2.1]; exact Nat.le_of_ble_eq_true rfl) (by rw [hM.2.2.2.2.2.2.1]; exact Nat.le_of_ble_eq_true rfl) (hx _ rfl)
theorem m_X5_needRounds_r (V : jV) (hV : V.1.stackTraces = false) (N : Nat) (p0 : Int32) (v : (Unit)) (h : p_X5_needRounds N p0 = some (.inr v)) : jMet V yX5_needRounds (jws yX5_needRounds cX5_needRounds 1 none) ⟨6, 1, 6, 89⟩ true 1 [.int p0] hE (fun o ν => o = none ∧ ν = hE) (fun _ _ => False) := by
  refine jmk (tb := tbX5) (C := kX5_needRounds) hV rfl (by decide) tbX5_ok rfl kX5_needRounds_ok rfl ?_
  intro X hM _ hp _
  exact t_X5_needRounds hM hp N p0 h (fun w hw => by cases hw; exact ⟨rfl, rfl⟩) (fun c hc => by cases hc)
theorem m_X5_needRounds_x (V : jV) (hV : V.1.stackTraces = false) (N : Nat) (p0 : Int32) (c : Nat) (h : p_X5_needRounds N p0 = some (.inl c)) : jMet V yX5_needRounds (jws yX5_needRounds cX5_needRounds 1 none) ⟨6, 1, 6, 89⟩ true 1 [.int p0] hE (fun _ _ => False) (fun E ν => E = jEn c ∧ ν = hE) := by
  refine jmk (tb := tbX5) (C := kX5_needRounds) hV rfl (by decide) tbX5_ok rfl kX5_needRounds_ok rfl ?_
  intro X hM _ hp _
  exact t_X5_needRounds hM hp N p0 h (fun w hw => by cases hw) (fun c hc => by cases hc; exact ⟨rfl, rfl⟩)
def p_X5_keeper_b108 (N : Nat) (rv61 : (Nat → Nat → Int32) → (Nat → Nat → Int64) → Int32 → Int32 → Int32 → Option (Nat ⊕ (Int32 × (Nat → Nat → Int32) × (Nat → Nat → Int64)))) (G : Nat → Nat → Int32) (J : Nat → Nat → Int64) (x1 : Int32) (x3 : Int32) (x4 : Int32) : Option (Nat ⊕ (Int32 × (Nat → Nat → Int32) × (Nat → Nat → Int64))) :=
  rv61 G J x1 x3 (x4 + 1)
def p_X5_keeper_b61 (N : Nat) : Nat → (Nat → Nat → Int32) → (Nat → Nat → Int64) → (Int32) → (Int32) → (Int32) → Option (Nat ⊕ (Int32 × (Nat → Nat → Int32) × (Nat → Nat → Int64)))
  | 0, _, _, _, _, _ => none
  | n + 1, G, J, x1, x3, x4 => if (G 1 7) ≤ x4 then (if jin x1 10 = true then some (.inr ((G 3 x1.toNatClampNeg), G, J)) else none) else (if jin x4 30 = true then if (G 5 x4.toNatClampNeg) = x1 then (if ((x3 >>> (x4 &&& 31)) &&& (1 : Int32)) = (1 : Int32) then (if jin x4 30 = true then some (.inr ((G 6 x4.toNatClampNeg), G, J)) else none) else (p_X5_keeper_b108 N (p_X5_keeper_b61 N n) G J x1 x3 x4)) else (p_X5_keeper_b108 N (p_X5_keeper_b61 N n) G J x1 x3 x4) else none)
def p_X5_keeper (N : Nat) (G : Nat → Nat → Int32) (J : Nat → Nat → Int64) (p0 : Int32) (p1 : Int32) : Option (Nat ⊕ (Int32 × (Nat → Nat → Int32) × (Nat → Nat → Int64))) :=
  jbx (p_X5_needThing N G J p0) (fun v2 => jbx (p_X5_needRounds N p1) (fun v4 => (p_X1_lay N (jv2 G 24 11 1) (jv2 J 24 11 1) p1 (0 : Int32)).bind (fun v6 => jlt (jp2 G 24 11 1 9 v6.2) fun G7 => if v6.1 = 0 then (some (.inr ((-100000 : Int32), G7, J))) else ((p_X1_play N (jv2 G7 24 11 1) (jv2 J 24 11 1)).bind (fun v10 => jlt (jp2 G7 24 11 1 9 v10.1) fun G11 => jlt (jp2 J 24 11 1 9 v10.2) fun J13 => p_X5_keeper_b61 N N G11 J13 p0 ((G11 1 8) &&& ((G11 24 0) ^^^ (-1 : Int32))) (0 : Int32))))))
set_option maxHeartbeats 4000000 in
set_option maxRecDepth 100000 in
theorem t_X5_keeper_b108 {X : jX} {po : Option Value → jH → Prop} {px : String → jH → Prop} {sf : Bool} {B9 : Nat} (hM : jMX X kX5_keeper RX5 tbX5 5 ⟨7, 2, 12, 117⟩ (some .int) 71) (hp : jPost X sf B9 po px) (N : Nat) (rv61 : (Nat → Nat → Int32) → (Nat → Nat → Int64) → Int32 → Int32 → Int32 → Option (Nat ⊕ (Int32 × (Nat → Nat → Int32) × (Nat → Nat → Int64)))) {res : Nat ⊕ (Int32 × (Nat → Nat → Int32) × (Nat → Nat → Int64))} (ih61 : ∀ (G : Nat → Nat → Int32) (J : Nat → Nat → Int64) (x1 : Int32) (x3 : Int32) (x4 : Int32), rv61 G J x1 x3 x4 = some res → JW X 2 12 61 [some (.ref 0), some (.int x1), none, some (.int x3), some (.int x4)] [] (hX G J)) (G : Nat → Nat → Int32) (J : Nat → Nat → Int64) (x1 : Int32) (x3 : Int32) (x4 : Int32) (h : p_X5_keeper_b108 N rv61 G J x1 x3 x4 = some res) (hq : ∀ w, res = Sum.inr w → po (some (.int w.1)) (hX w.2.1 w.2.2)) : JW X 2 12 108 [some (.ref 0), some (.int x1), none, some (.int x3), some (.int x4)] [] (hX G J) := by
  unfold p_X5_keeper_b108 at h
  refine JW.r hM 57 2 (pc2 := 61) (L2 := [some (.ref 0), some (.int x1), none, some (.int x3), some (.int (x4 + 1))]) (st2 := []) (μ2 := (hX G J)) rfl trivial ?_
  exact ih61 G J x1 x3 (x4 + 1) h
set_option maxHeartbeats 4000000 in
set_option maxRecDepth 100000 in
theorem t_X5_keeper_b61 {X : jX} {po : Option Value → jH → Prop} {px : String → jH → Prop} {sf : Bool} {B9 : Nat} (hM : jMX X kX5_keeper RX5 tbX5 5 ⟨7, 2, 12, 117⟩ (some .int) 71) (hp : jPost X sf B9 po px) (N : Nat) {res : Nat ⊕ (Int32 × (Nat → Nat → Int32) × (Nat → Nat → Int64))} : ∀ (n : Nat) (G : Nat → Nat → Int32) (J : Nat → Nat → Int64) (x1 : Int32) (x3 : Int32) (x4 : Int32) (h : p_X5_keeper_b61 N n G J x1 x3 x4 = some res) (hq : ∀ w, res = Sum.inr w → po (some (.int w.1)) (hX w.2.1 w.2.2)), JW X 2 12 61 [some (.ref 0), some (.int x1), none, some (.int x3), some (.int x4)] [] (hX G J) := by
  intro n
  induction n with
  | zero =>
    intro G J x1 x3 x4 h hq
    cases (show (none : Option (Nat ⊕ (Int32 × (Nat → Nat → Int32) × (Nat → Nat → Int64)))) = some res from h)
  | succ n ih61 =>
    intro G J x1 x3 x4 h hq
    have ih61 := fun G J x1 x3 x4 h9 => ih61 G J x1 x3 x4 h9 hq
    rw [p_X5_keeper_b61] at h
    refine JW.r hM 32 4 (pc2 := 70) (L2 := [some (.ref 0), some (.int x1), none, some (.int x3), some (.int x4)]) (st2 := [.int (G 1 7), .int x4]) (μ2 := (hX G J)) rfl trivial ?_
    refine js_icge (t := 114) hM.1 (jat hM.2.1 36 rfl) rfl (fun hc20 => ?_) (fun hc20 => ?_)
    · have h := (if_pos hc20).symm.trans h
      obtain ⟨g15, h⟩ := jg h
      refine JW.r hM 59 5 (pc2 := 123) (L2 := [some (.ref 0), some (.int x1), none, some (.int x3), some (.int x4)]) (st2 := [.int (G 3 x1.toNatClampNeg)]) (μ2 := (hX G J)) rfl ⟨g15, trivial⟩ ?_
      obtain rfl := Option.some.inj h
      exact js_iret hM.1 hp hM.2.2.2.2.2.2.2.1 (by rw [hM.2.2.2.2.2.1]; exact Nat.le_of_ble_eq_true rfl) (by rw [hM.2.2.2.2.2.2.1]; exact Nat.le_of_ble_eq_true rfl) (jat hM.2.1 64 rfl) (hq ((G 3 x1.toNatClampNeg), G, J) rfl)
    · have h := (if_neg hc20).symm.trans h
      obtain ⟨g16, h⟩ := jg h
      refine JW.r hM 37 6 (pc2 := 84) (L2 := [some (.ref 0), some (.int x1), none, some (.int x3), some (.int x4)]) (st2 := [.int x1, .int (G 5 x4.toNatClampNeg)]) (μ2 := (hX G J)) rfl ⟨g16, trivial⟩ ?_
      refine js_icne (t := 108) hM.1 (jat hM.2.1 43 rfl) rfl (fun hc19 => ?_) (fun hc19 => ?_)
      · have h := (if_neg hc19).symm.trans h
        exact t_X5_keeper_b108 hM hp N (p_X5_keeper_b61 N n) ih61 G J x1 x3 x4 h hq
      · have h := (if_pos hc19).symm.trans h
        refine JW.r hM 44 6 (pc2 := 94) (L2 := [some (.ref 0), some (.int x1), none, some (.int x3), some (.int x4)]) (st2 := [.int (1 : Int32), .int ((x3 >>> (x4 &&& 31)) &&& (1 : Int32))]) (μ2 := (hX G J)) rfl trivial ?_
        refine js_icne (t := 108) hM.1 (jat hM.2.1 50 rfl) rfl (fun hc18 => ?_) (fun hc18 => ?_)
        · have h := (if_neg hc18).symm.trans h
          exact t_X5_keeper_b108 hM hp N (p_X5_keeper_b61 N n) ih61 G J x1 x3 x4 h hq
        · have h := (if_pos hc18).symm.trans h
          obtain ⟨g17, h⟩ := jg h
          refine JW.r hM 51 5 (pc2 := 107) (L2 := [some (.ref 0), some (.int x1), none, some (.int x3), some (.int x4)]) (st2 := [.int (G 6 x4.toNatClampNeg)]) (μ2 := (hX G J)) rfl ⟨g17, trivial⟩ ?_
          obtain rfl := Option.some.inj h
          exact js_iret hM.1 hp hM.2.2.2.2.2.2.2.1 (by rw [hM.2.2.2.2.2.1]; exact Nat.le_of_ble_eq_true rfl) (by rw [hM.2.2.2.2.2.2.1]; exact Nat.le_of_ble_eq_true rfl) (jat hM.2.1 56 rfl) (hq ((G 6 x4.toNatClampNeg), G, J) rfl)
set_option maxHeartbeats 4000000 in
set_option maxRecDepth 100000 in
theorem t_X5_keeper {X : jX} {po : Option Value → jH → Prop} {px : String → jH → Prop} {sf : Bool} {B9 : Nat} (hM : jMX X kX5_keeper RX5 tbX5 5 ⟨7, 2, 12, 117⟩ (some .int) 71) (hp : jPost X sf B9 po px) (N : Nat) (G : Nat → Nat → Int32) (J : Nat → Nat → Int64) (p0 : Int32) (p1 : Int32) {res : Nat ⊕ (Int32 × (Nat → Nat → Int32) × (Nat → Nat → Int64))} (h : p_X5_keeper N G J p0 p1 = some res) (hq : ∀ w, res = Sum.inr w → po (some (.int w.1)) (hX w.2.1 w.2.2)) (hx : ∀ c, res = Sum.inl c → px (jEn c) (hX G J)) : JW X 0 0 0 [some (.ref 0), some (.int p0), some (.int p1), none, none] [] (hX G J) := by
  unfold p_X5_keeper at h
  refine JW.r hM 0 2 (pc2 := 2) (L2 := [some (.ref 0), some (.int p0), some (.int p1), none, none]) (st2 := [.int p0, .ref 0]) (μ2 := (hX G J)) rfl trivial ?_
  rcases jbxE h with h | h
  · obtain ⟨v2, hv1, h⟩ := h
    refine JW.cV (v := none) hM (m_X5_needThing_r (jVX X) hM.1.2.2.2.2.2.2.2.2.2.1 N G J p0 v2 hv1) (sb_X_X_0 G J) (bi_X_X_0 G J) rfl rfl rfl kc_X5_90 rfl rfl rfl rfl rfl (jat hM.2.1 2 rfl) (st := []) rfl ?_
    show JW X 1 6 5 [some (.ref 0), some (.int p0), some (.int p1), none, none] [] (hX G J)
    refine JW.r hM 3 1 (pc2 := 6) (L2 := [some (.ref 0), some (.int p0), some (.int p1), none, none]) (st2 := [.int p1]) (μ2 := (hX G J)) rfl trivial ?_
    rcases jbxE h with h | h
    · obtain ⟨v4, hv3, h⟩ := h
      refine JW.cS (v := none) hM (m_X5_needRounds_r (jVX X) hM.1.2.2.2.2.2.2.2.2.2.1 N p1 v4 hv3) (sb_X_E_ G J) (bi_X_E_ G J) rfl rfl rfl kc_X5_251 rfl rfl rfl (jat hM.2.1 4 rfl) (st := []) rfl ?_
      show JW X 2 12 9 [some (.ref 0), some (.int p0), some (.int p1), none, none] [] (hX G J)
      refine JW.r hM 5 6 (pc2 := 19) (L2 := [some (.ref 0), some (.int p0), some (.int p1), none, none]) (st2 := [.int (0 : Int32), .int p1, .ref 1, .ref 24]) (μ2 := (hX G J)) rfl trivial ?_
      obtain ⟨v6, hv5, h⟩ := jbd h
      refine JW.cV (v := some (.int v6.1)) hM (m_X1_lay (jVX X) hM.1.2.2.2.2.2.2.2.2.2.1 N (jv2 G 24 11 1) (jv2 J 24 11 1) p1 (0 : Int32) v6 hv5) (sb_X_ET_24_1 G J) (bk_X_ET_24_1 G J v6.2 (jv2 J 24 11 1)) rfl rfl rfl kc_X5_254 rfl rfl rfl rfl rfl (jat hM.2.1 11 rfl) (st := []) rfl ?_
      show JW X 2 12 22 [some (.ref 0), some (.int p0), some (.int p1), none, none] [.int v6.1] (hX (jp2 G 24 11 1 9 v6.2) J)
      obtain ⟨G7, e8, h⟩ := jlE h
      rw [e8]
      refine js_ifne (t := 29) hM.1 (jat hM.2.1 12 rfl) rfl (fun hc21 => ?_) (fun hc21 => ?_)
      · have h := (if_neg hc21).symm.trans h
        refine JW.r hM 15 4 (pc2 := 37) (L2 := [some (.ref 0), some (.int p0), some (.int p1), none, none]) (st2 := [.ref 1, .ref 24]) (μ2 := (hX G7 J)) rfl trivial ?_
        obtain ⟨v10, hv9, h⟩ := jbd h
        refine JW.cV (v := none) hM (m_X1_play (jVX X) hM.1.2.2.2.2.2.2.2.2.2.1 N (jv2 G7 24 11 1) (jv2 J 24 11 1) v10 hv9) (sb_X_ET_24_1 G7 J) (bk_X_ET_24_1 G7 J v10.1 v10.2) rfl rfl rfl kc_X5_259 rfl rfl rfl rfl rfl (jat hM.2.1 19 rfl) (st := []) rfl ?_
        show JW X 2 12 40 [some (.ref 0), some (.int p0), some (.int p1), none, none] [] (hX (jp2 G7 24 11 1 9 v10.1) (jp2 J 24 11 1 9 v10.2))
        obtain ⟨G11, e12, h⟩ := jlE h
        rw [e12]
        obtain ⟨J13, e14, h⟩ := jlE h
        rw [e14]
        refine JW.r hM 20 12 (pc2 := 61) (L2 := [some (.ref 0), some (.int p0), some (.int p1), some (.int ((G11 1 8) &&& ((G11 24 0) ^^^ (-1 : Int32)))), some (.int (0 : Int32))]) (st2 := []) (μ2 := (hX G11 J13)) rfl trivial ?_
        exact JW.mask [true, true, false, true, true] (t_X5_keeper_b61 hM hp N N G11 J13 p0 ((G11 1 8) &&& ((G11 24 0) ^^^ (-1 : Int32))) (0 : Int32) h hq)
      · have h := (if_pos hc21).symm.trans h
        refine JW.r hM 13 1 (pc2 := 28) (L2 := [some (.ref 0), some (.int p0), some (.int p1), none, none]) (st2 := [.int (-100000 : Int32)]) (μ2 := (hX G7 J)) rfl trivial ?_
        obtain rfl := Option.some.inj h
        exact js_iret hM.1 hp hM.2.2.2.2.2.2.2.1 (by rw [hM.2.2.2.2.2.1]; exact Nat.le_of_ble_eq_true rfl) (by rw [hM.2.2.2.2.2.2.1]; exact Nat.le_of_ble_eq_true rfl) (jat hM.2.1 14 rfl) (hq ((-100000 : Int32), G7, J) rfl)
    · obtain ⟨c22, hv3, h⟩ := h
      subst h
      exact JW.xS hM hp (E := jEn c22) (m_X5_needRounds_x (jVX X) hM.1.2.2.2.2.2.2.2.2.2.1 N p1 c22 hv3) (sb_X_E_ G J) (bi_X_E_ G J) rfl rfl kc_X5_251 rfl rfl rfl (jat hM.2.1 4 rfl) (st := []) rfl (hx _ rfl)
  · obtain ⟨c23, hv1, h⟩ := h
    subst h
    exact JW.xV hM hp (E := jEn c23) (m_X5_needThing_x (jVX X) hM.1.2.2.2.2.2.2.2.2.2.1 N G J p0 c23 hv1) (sb_X_X_0 G J) (bi_X_X_0 G J) rfl rfl kc_X5_90 rfl rfl rfl rfl rfl (jat hM.2.1 2 rfl) (st := []) rfl (hx _ rfl)
theorem m_X5_keeper_r (V : jV) (hV : V.1.stackTraces = false) (N : Nat) (G : Nat → Nat → Int32) (J : Nat → Nat → Int64) (p0 : Int32) (p1 : Int32) (v : (Int32 × (Nat → Nat → Int32) × (Nat → Nat → Int64))) (h : p_X5_keeper N G J p0 p1 = some (.inr v)) : jMet V yX5_keeper (jws yX5_keeper cX5_keeper 5 (some .int)) ⟨7, 2, 12, 117⟩ true 1 [.ref 0, .int p0, .int p1] (hX G J) (fun o ν => o = some (.int v.1) ∧ ν = (hX v.2.1 v.2.2)) (fun _ _ => False) := by
  refine jmk (tb := tbX5) (C := kX5_keeper) hV rfl (by decide) tbX5_ok rfl kX5_keeper_ok rfl ?_
  intro X hM _ hp _
  exact t_X5_keeper hM hp N G J p0 p1 h (fun w hw => by cases hw; exact ⟨rfl, rfl⟩) (fun c hc => by cases hc)
theorem m_X5_keeper_x (V : jV) (hV : V.1.stackTraces = false) (N : Nat) (G : Nat → Nat → Int32) (J : Nat → Nat → Int64) (p0 : Int32) (p1 : Int32) (c : Nat) (h : p_X5_keeper N G J p0 p1 = some (.inl c)) : jMet V yX5_keeper (jws yX5_keeper cX5_keeper 5 (some .int)) ⟨7, 2, 12, 117⟩ true 1 [.ref 0, .int p0, .int p1] (hX G J) (fun _ _ => False) (fun E ν => E = jEn c ∧ ν = (hX G J)) := by
  refine jmk (tb := tbX5) (C := kX5_keeper) hV rfl (by decide) tbX5_ok rfl kX5_keeper_ok rfl ?_
  intro X hM _ hp _
  exact t_X5_keeper hM hp N G J p0 p1 h (fun w hw => by cases hw) (fun c hc => by cases hc; exact ⟨rfl, rfl⟩)
def p_X5_leftIn_1 (N : Nat) (G : Nat → Nat → Int32) (J : Nat → Nat → Int64) (p0 : Int32) : Option (Int32 × (Nat → Nat → Int32) × (Nat → Nat → Int64)) :=
  (p_X1_lay N (jv2 G 24 11 1) (jv2 J 24 11 1) (1 : Int32) p0).bind (fun v2 => jlt (jp2 G 24 11 1 9 v2.2) fun G3 => if v2.1 = 0 then (some ((-100000 : Int32), G3, J)) else ((p_X1_play N (jv2 G3 24 11 1) (jv2 J 24 11 1)).bind (fun v6 => jlt (jp2 G3 24 11 1 9 v6.1) fun G7 => jlt (jp2 J 24 11 1 9 v6.2) fun J9 => some ((G7 24 0), G7, J9))))
set_option maxHeartbeats 4000000 in
set_option maxRecDepth 100000 in
theorem t_X5_leftIn_1 {X : jX} {po : Option Value → jH → Prop} {px : String → jH → Prop} {sf : Bool} {B9 : Nat} (hM : jMX X kX5_leftIn RX5 tbX5 3 ⟨5, 0, 0, 117⟩ (some .int) 71) (hp : jPost X sf B9 po px) (N : Nat) (G : Nat → Nat → Int32) (J : Nat → Nat → Int64) (p0 : Int32) {res : Int32 × (Nat → Nat → Int32) × (Nat → Nat → Int64)} (h : p_X5_leftIn_1 N G J p0 = some res) (hq : po (some (.int res.1)) (hX res.2.1 res.2.2)) : JW X 0 0 0 [some (.ref 0), some (.ref 1), some (.int p0)] [] (hX G J) := by
  unfold p_X5_leftIn_1 at h
  refine JW.r hM 0 5 (pc2 := 7) (L2 := [some (.ref 0), some (.ref 1), some (.int p0)]) (st2 := [.int p0, .int (1 : Int32), .ref 1, .ref 24]) (μ2 := (hX G J)) rfl trivial ?_
  obtain ⟨v2, hv1, h⟩ := jbd h
  refine JW.cV (v := some (.int v2.1)) hM (m_X1_lay (jVX X) hM.1.2.2.2.2.2.2.2.2.2.1 N (jv2 G 24 11 1) (jv2 J 24 11 1) (1 : Int32) p0 v2 hv1) (sb_X_ET_24_1 G J) (bk_X_ET_24_1 G J v2.2 (jv2 J 24 11 1)) rfl rfl rfl kc_X5_254 rfl rfl rfl rfl rfl (jat hM.2.1 5 rfl) (st := []) rfl ?_
  show JW X 0 0 10 [some (.ref 0), some (.ref 1), some (.int p0)] [.int v2.1] (hX (jp2 G 24 11 1 9 v2.2) J)
  obtain ⟨G3, e4, h⟩ := jlE h
  rw [e4]
  refine js_ifne (t := 17) hM.1 (jat hM.2.1 6 rfl) rfl (fun hc11 => ?_) (fun hc11 => ?_)
  · have h := (if_neg hc11).symm.trans h
    refine JW.r hM 9 3 (pc2 := 22) (L2 := [some (.ref 0), some (.ref 1), some (.int p0)]) (st2 := [.ref 1, .ref 24]) (μ2 := (hX G3 J)) rfl trivial ?_
    obtain ⟨v6, hv5, h⟩ := jbd h
    refine JW.cV (v := none) hM (m_X1_play (jVX X) hM.1.2.2.2.2.2.2.2.2.2.1 N (jv2 G3 24 11 1) (jv2 J 24 11 1) v6 hv5) (sb_X_ET_24_1 G3 J) (bk_X_ET_24_1 G3 J v6.1 v6.2) rfl rfl rfl kc_X5_259 rfl rfl rfl rfl rfl (jat hM.2.1 12 rfl) (st := []) rfl ?_
    show JW X 0 0 25 [some (.ref 0), some (.ref 1), some (.int p0)] [] (hX (jp2 G3 24 11 1 9 v6.1) (jp2 J 24 11 1 9 v6.2))
    obtain ⟨G7, e8, h⟩ := jlE h
    rw [e8]
    obtain ⟨J9, e10, h⟩ := jlE h
    rw [e10]
    refine JW.r hM 13 3 (pc2 := 32) (L2 := [some (.ref 0), some (.ref 1), some (.int p0)]) (st2 := [.int (G7 24 0)]) (μ2 := (hX G7 J9)) rfl trivial ?_
    obtain rfl := Option.some.inj h
    exact js_iret hM.1 hp hM.2.2.2.2.2.2.2.1 (by rw [hM.2.2.2.2.2.1]; exact Nat.le_of_ble_eq_true rfl) (by rw [hM.2.2.2.2.2.2.1]; exact Nat.le_of_ble_eq_true rfl) (jat hM.2.1 16 rfl) hq
  · have h := (if_pos hc11).symm.trans h
    refine JW.r hM 7 1 (pc2 := 16) (L2 := [some (.ref 0), some (.ref 1), some (.int p0)]) (st2 := [.int (-100000 : Int32)]) (μ2 := (hX G3 J)) rfl trivial ?_
    obtain rfl := Option.some.inj h
    exact js_iret hM.1 hp hM.2.2.2.2.2.2.2.1 (by rw [hM.2.2.2.2.2.1]; exact Nat.le_of_ble_eq_true rfl) (by rw [hM.2.2.2.2.2.2.1]; exact Nat.le_of_ble_eq_true rfl) (jat hM.2.1 8 rfl) hq
theorem m_X5_leftIn_1 (V : jV) (hV : V.1.stackTraces = false) (N : Nat) (G : Nat → Nat → Int32) (J : Nat → Nat → Int64) (p0 : Int32) (v : Int32 × (Nat → Nat → Int32) × (Nat → Nat → Int64)) (h : p_X5_leftIn_1 N G J p0 = some v) : jMet V yX5_leftIn (jws yX5_leftIn cX5_leftIn 3 (some .int)) ⟨5, 0, 0, 117⟩ true 1 [.ref 0, .ref 1, .int p0] (hX G J) (fun o ν => o = some (.int v.1) ∧ ν = (hX v.2.1 v.2.2)) (fun _ _ => False) := by
  refine jmk (tb := tbX5) (C := kX5_leftIn) hV rfl (by decide) tbX5_ok rfl kX5_leftIn_ok rfl ?_
  intro X hM _ hp _
  exact t_X5_leftIn_1 hM hp N G J p0 h ⟨rfl, rfl⟩
def p_X5_leftIn_10 (N : Nat) (G : Nat → Nat → Int32) (J : Nat → Nat → Int64) (p0 : Int32) : Option (Int32 × (Nat → Nat → Int32) × (Nat → Nat → Int64)) :=
  (p_X1_lay N (jv2 G 24 11 10) (jv2 J 24 11 10) (1 : Int32) p0).bind (fun v2 => jlt (jp2 G 24 11 10 9 v2.2) fun G3 => if v2.1 = 0 then (some ((-100000 : Int32), G3, J)) else ((p_X1_play N (jv2 G3 24 11 10) (jv2 J 24 11 10)).bind (fun v6 => jlt (jp2 G3 24 11 10 9 v6.1) fun G7 => jlt (jp2 J 24 11 10 9 v6.2) fun J9 => some ((G7 24 0), G7, J9))))
set_option maxHeartbeats 4000000 in
set_option maxRecDepth 100000 in
theorem t_X5_leftIn_10 {X : jX} {po : Option Value → jH → Prop} {px : String → jH → Prop} {sf : Bool} {B9 : Nat} (hM : jMX X kX5_leftIn RX5 tbX5 3 ⟨5, 0, 0, 117⟩ (some .int) 71) (hp : jPost X sf B9 po px) (N : Nat) (G : Nat → Nat → Int32) (J : Nat → Nat → Int64) (p0 : Int32) {res : Int32 × (Nat → Nat → Int32) × (Nat → Nat → Int64)} (h : p_X5_leftIn_10 N G J p0 = some res) (hq : po (some (.int res.1)) (hX res.2.1 res.2.2)) : JW X 0 0 0 [some (.ref 0), some (.ref 10), some (.int p0)] [] (hX G J) := by
  unfold p_X5_leftIn_10 at h
  refine JW.r hM 0 5 (pc2 := 7) (L2 := [some (.ref 0), some (.ref 10), some (.int p0)]) (st2 := [.int p0, .int (1 : Int32), .ref 10, .ref 24]) (μ2 := (hX G J)) rfl trivial ?_
  obtain ⟨v2, hv1, h⟩ := jbd h
  refine JW.cV (v := some (.int v2.1)) hM (m_X1_lay (jVX X) hM.1.2.2.2.2.2.2.2.2.2.1 N (jv2 G 24 11 10) (jv2 J 24 11 10) (1 : Int32) p0 v2 hv1) (sb_X_ET_24_10 G J) (bk_X_ET_24_10 G J v2.2 (jv2 J 24 11 10)) rfl rfl rfl kc_X5_254 rfl rfl rfl rfl rfl (jat hM.2.1 5 rfl) (st := []) rfl ?_
  show JW X 0 0 10 [some (.ref 0), some (.ref 10), some (.int p0)] [.int v2.1] (hX (jp2 G 24 11 10 9 v2.2) J)
  obtain ⟨G3, e4, h⟩ := jlE h
  rw [e4]
  refine js_ifne (t := 17) hM.1 (jat hM.2.1 6 rfl) rfl (fun hc11 => ?_) (fun hc11 => ?_)
  · have h := (if_neg hc11).symm.trans h
    refine JW.r hM 9 3 (pc2 := 22) (L2 := [some (.ref 0), some (.ref 10), some (.int p0)]) (st2 := [.ref 10, .ref 24]) (μ2 := (hX G3 J)) rfl trivial ?_
    obtain ⟨v6, hv5, h⟩ := jbd h
    refine JW.cV (v := none) hM (m_X1_play (jVX X) hM.1.2.2.2.2.2.2.2.2.2.1 N (jv2 G3 24 11 10) (jv2 J 24 11 10) v6 hv5) (sb_X_ET_24_10 G3 J) (bk_X_ET_24_10 G3 J v6.1 v6.2) rfl rfl rfl kc_X5_259 rfl rfl rfl rfl rfl (jat hM.2.1 12 rfl) (st := []) rfl ?_
    show JW X 0 0 25 [some (.ref 0), some (.ref 10), some (.int p0)] [] (hX (jp2 G3 24 11 10 9 v6.1) (jp2 J 24 11 10 9 v6.2))
    obtain ⟨G7, e8, h⟩ := jlE h
    rw [e8]
    obtain ⟨J9, e10, h⟩ := jlE h
    rw [e10]
    refine JW.r hM 13 3 (pc2 := 32) (L2 := [some (.ref 0), some (.ref 10), some (.int p0)]) (st2 := [.int (G7 24 0)]) (μ2 := (hX G7 J9)) rfl trivial ?_
    obtain rfl := Option.some.inj h
    exact js_iret hM.1 hp hM.2.2.2.2.2.2.2.1 (by rw [hM.2.2.2.2.2.1]; exact Nat.le_of_ble_eq_true rfl) (by rw [hM.2.2.2.2.2.2.1]; exact Nat.le_of_ble_eq_true rfl) (jat hM.2.1 16 rfl) hq
  · have h := (if_pos hc11).symm.trans h
    refine JW.r hM 7 1 (pc2 := 16) (L2 := [some (.ref 0), some (.ref 10), some (.int p0)]) (st2 := [.int (-100000 : Int32)]) (μ2 := (hX G3 J)) rfl trivial ?_
    obtain rfl := Option.some.inj h
    exact js_iret hM.1 hp hM.2.2.2.2.2.2.2.1 (by rw [hM.2.2.2.2.2.1]; exact Nat.le_of_ble_eq_true rfl) (by rw [hM.2.2.2.2.2.2.1]; exact Nat.le_of_ble_eq_true rfl) (jat hM.2.1 8 rfl) hq
theorem m_X5_leftIn_10 (V : jV) (hV : V.1.stackTraces = false) (N : Nat) (G : Nat → Nat → Int32) (J : Nat → Nat → Int64) (p0 : Int32) (v : Int32 × (Nat → Nat → Int32) × (Nat → Nat → Int64)) (h : p_X5_leftIn_10 N G J p0 = some v) : jMet V yX5_leftIn (jws yX5_leftIn cX5_leftIn 3 (some .int)) ⟨5, 0, 0, 117⟩ true 1 [.ref 0, .ref 10, .int p0] (hX G J) (fun o ν => o = some (.int v.1) ∧ ν = (hX v.2.1 v.2.2)) (fun _ _ => False) := by
  refine jmk (tb := tbX5) (C := kX5_leftIn) hV rfl (by decide) tbX5_ok rfl kX5_leftIn_ok rfl ?_
  intro X hM _ hp _
  exact t_X5_leftIn_10 hM hp N G J p0 h ⟨rfl, rfl⟩
def p_X5_endFrom (N : Nat) (G : Nat → Nat → Int32) (J : Nat → Nat → Int64) (p0 : Int32) : Option (Nat ⊕ (Int32 × (Nat → Nat → Int32) × (Nat → Nat → Int64))) :=
  jbx (p_X5_needPerson N G J p0) (fun v2 => (p_X5_leftIn_1 N G J p0).bind (fun v4 => jlt v4.2.1 fun G5 => jlt v4.2.2 fun J7 => some (.inr (v4.1, G5, J7))))
set_option maxHeartbeats 4000000 in
set_option maxRecDepth 100000 in
theorem t_X5_endFrom {X : jX} {po : Option Value → jH → Prop} {px : String → jH → Prop} {sf : Bool} {B9 : Nat} (hM : jMX X kX5_endFrom RX5 tbX5 2 ⟨7, 1, 6, 139⟩ (some .int) 71) (hp : jPost X sf B9 po px) (N : Nat) (G : Nat → Nat → Int32) (J : Nat → Nat → Int64) (p0 : Int32) {res : Nat ⊕ (Int32 × (Nat → Nat → Int32) × (Nat → Nat → Int64))} (h : p_X5_endFrom N G J p0 = some res) (hq : ∀ w, res = Sum.inr w → po (some (.int w.1)) (hX w.2.1 w.2.2)) (hx : ∀ c, res = Sum.inl c → px (jEn c) (hX G J)) : JW X 0 0 0 [some (.ref 0), some (.int p0)] [] (hX G J) := by
  unfold p_X5_endFrom at h
  refine JW.r hM 0 2 (pc2 := 2) (L2 := [some (.ref 0), some (.int p0)]) (st2 := [.int p0, .ref 0]) (μ2 := (hX G J)) rfl trivial ?_
  rcases jbxE h with h | h
  · obtain ⟨v2, hv1, h⟩ := h
    refine JW.cV (v := none) hM (m_X5_needPerson_r (jVX X) hM.1.2.2.2.2.2.2.2.2.2.1 N G J p0 v2 hv1) (sb_X_X_0 G J) (bi_X_X_0 G J) rfl rfl rfl kc_X5_76 rfl rfl rfl rfl rfl (jat hM.2.1 2 rfl) (st := []) rfl ?_
    show JW X 1 6 5 [some (.ref 0), some (.int p0)] [] (hX G J)
    refine JW.r hM 3 4 (pc2 := 11) (L2 := [some (.ref 0), some (.int p0)]) (st2 := [.int p0, .ref 1, .ref 0]) (μ2 := (hX G J)) rfl trivial ?_
    obtain ⟨v4, hv3, h⟩ := jbd h
    refine JW.cV (v := some (.int v4.1)) hM (m_X5_leftIn_1 (jVX X) hM.1.2.2.2.2.2.2.2.2.2.1 N G J p0 v4 hv3) (sb_X_X_0 G J) (bk_X_X_0 G J v4.2.1 v4.2.2) rfl rfl rfl kc_X5_265 rfl rfl rfl rfl rfl (jat hM.2.1 7 rfl) (st := []) rfl ?_
    show JW X 1 6 14 [some (.ref 0), some (.int p0)] [.int v4.1] (hX v4.2.1 v4.2.2)
    obtain ⟨G5, e6, h⟩ := jlE h
    rw [e6]
    obtain ⟨J7, e8, h⟩ := jlE h
    rw [e8]
    obtain rfl := Option.some.inj h
    exact js_iret hM.1 hp hM.2.2.2.2.2.2.2.1 (by rw [hM.2.2.2.2.2.1]; exact Nat.le_of_ble_eq_true rfl) (by rw [hM.2.2.2.2.2.2.1]; exact Nat.le_of_ble_eq_true rfl) (jat hM.2.1 8 rfl) (hq (v4.1, G5, J7) rfl)
  · obtain ⟨c9, hv1, h⟩ := h
    subst h
    exact JW.xV hM hp (E := jEn c9) (m_X5_needPerson_x (jVX X) hM.1.2.2.2.2.2.2.2.2.2.1 N G J p0 c9 hv1) (sb_X_X_0 G J) (bi_X_X_0 G J) rfl rfl kc_X5_76 rfl rfl rfl rfl rfl (jat hM.2.1 2 rfl) (st := []) rfl (hx _ rfl)
theorem m_X5_endFrom_r (V : jV) (hV : V.1.stackTraces = false) (N : Nat) (G : Nat → Nat → Int32) (J : Nat → Nat → Int64) (p0 : Int32) (v : (Int32 × (Nat → Nat → Int32) × (Nat → Nat → Int64))) (h : p_X5_endFrom N G J p0 = some (.inr v)) : jMet V yX5_endFrom (jws yX5_endFrom cX5_endFrom 2 (some .int)) ⟨7, 1, 6, 139⟩ true 1 [.ref 0, .int p0] (hX G J) (fun o ν => o = some (.int v.1) ∧ ν = (hX v.2.1 v.2.2)) (fun _ _ => False) := by
  refine jmk (tb := tbX5) (C := kX5_endFrom) hV rfl (by decide) tbX5_ok rfl kX5_endFrom_ok rfl ?_
  intro X hM _ hp _
  exact t_X5_endFrom hM hp N G J p0 h (fun w hw => by cases hw; exact ⟨rfl, rfl⟩) (fun c hc => by cases hc)
theorem m_X5_endFrom_x (V : jV) (hV : V.1.stackTraces = false) (N : Nat) (G : Nat → Nat → Int32) (J : Nat → Nat → Int64) (p0 : Int32) (c : Nat) (h : p_X5_endFrom N G J p0 = some (.inl c)) : jMet V yX5_endFrom (jws yX5_endFrom cX5_endFrom 2 (some .int)) ⟨7, 1, 6, 139⟩ true 1 [.ref 0, .int p0] (hX G J) (fun _ _ => False) (fun E ν => E = jEn c ∧ ν = (hX G J)) := by
  refine jmk (tb := tbX5) (C := kX5_endFrom) hV rfl (by decide) tbX5_ok rfl kX5_endFrom_ok rfl ?_
  intro X hM _ hp _
  exact t_X5_endFrom hM hp N G J p0 h (fun w hw => by cases hw) (fun c hc => by cases hc; exact ⟨rfl, rfl⟩)
def p_X5_end_b85 (N : Nat) (G : Nat → Nat → Int32) (J : Nat → Nat → Int64) (x1 : Int32) (x2 : Int32) (x3 : Int32) (x4 : Int32) : Option (Nat ⊕ (Int32 × (Nat → Nat → Int32) × (Nat → Nat → Int64))) :=
  (p_X1_lay N (jv2 G 24 11 1) (jv2 J 24 11 1) x1 (0 : Int32)).bind (fun v4 => jlt (jp2 G 24 11 1 9 v4.2) fun G5 => if v4.1 = 0 then (some (.inr ((-100000 : Int32), G5, J))) else ((p_X1_play N (jv2 G5 24 11 1) (jv2 J 24 11 1)).bind (fun v8 => jlt (jp2 G5 24 11 1 9 v8.1) fun G9 => jlt (jp2 J 24 11 1 9 v8.2) fun J11 => if x3 = 0 then (if x4 = 0 then (if x2 = 0 then (some (.inr ((G9 24 0), G9, J11))) else ((p_X1_undoings N (jvw G9 24) (jvw J11 24)).bind (fun v14 => some (.inr (v14, G9, J11))))) else ((p_X1_undoneIn N (jvw G9 24) (jvw J11 24) (x2 - (100 : Int32))).bind (fun v17 => some (.inr (v17, G9, J11))))) else ((p_X3_wealth N (jvw G9 1) (x2 - (10 : Int32))).bind (fun v20 => (p_X1_change N (jvw G9 24) (jvw J11 24) (x2 - (10 : Int32))).bind (fun v22 => some (.inr ((v20 + v22), G9, J11))))))))
def p_X5_end_b57 (N : Nat) (G : Nat → Nat → Int32) (J : Nat → Nat → Int64) (x1 : Int32) (x2 : Int32) (x3 : Int32) (s0 : Int32) : Option (Nat ⊕ (Int32 × (Nat → Nat → Int32) × (Nat → Nat → Int64))) :=
  if x2 = 0 then (p_X5_end_b85 N G J x1 x2 x3 s0) else (if x2 = (1 : Int32) then (p_X5_end_b85 N G J x1 x2 x3 s0) else (if x3 = 0 then (if s0 = 0 then (some (.inl 3)) else (p_X5_end_b85 N G J x1 x2 x3 s0)) else (p_X5_end_b85 N G J x1 x2 x3 s0)))
def p_X5_end_b56 (N : Nat) (G : Nat → Nat → Int32) (J : Nat → Nat → Int64) (x1 : Int32) (x2 : Int32) (x3 : Int32) : Option (Nat ⊕ (Int32 × (Nat → Nat → Int32) × (Nat → Nat → Int64))) :=
  p_X5_end_b57 N G J x1 x2 x3 (0 : Int32)
def p_X5_end_b29 (N : Nat) (G : Nat → Nat → Int32) (J : Nat → Nat → Int64) (x1 : Int32) (x2 : Int32) (s0 : Int32) : Option (Nat ⊕ (Int32 × (Nat → Nat → Int32) × (Nat → Nat → Int64))) :=
  if x2 < (100 : Int32) then (p_X5_end_b56 N G J x1 x2 s0) else (if (x1 * (G 1 1)) ≤ (x2 - (100 : Int32)) then (p_X5_end_b56 N G J x1 x2 s0) else (p_X5_end_b57 N G J x1 x2 s0 (1 : Int32)))
def p_X5_end_b28 (N : Nat) (G : Nat → Nat → Int32) (J : Nat → Nat → Int64) (x1 : Int32) (x2 : Int32) : Option (Nat ⊕ (Int32 × (Nat → Nat → Int32) × (Nat → Nat → Int64))) :=
  p_X5_end_b29 N G J x1 x2 (0 : Int32)
def p_X5_end (N : Nat) (G : Nat → Nat → Int32) (J : Nat → Nat → Int64) (p0 : Int32) (p1 : Int32) : Option (Nat ⊕ (Int32 × (Nat → Nat → Int32) × (Nat → Nat → Int64))) :=
  jbx (p_X5_needRounds N p0) (fun v2 => if p1 < (10 : Int32) then (p_X5_end_b28 N G J p0 p1) else ((p_X3_hasPerson N (jvw G 1) (p1 - (10 : Int32))).bind (fun v32 => if v32 = 0 then (p_X5_end_b28 N G J p0 p1) else (p_X5_end_b29 N G J p0 p1 (1 : Int32)))))
set_option maxHeartbeats 4000000 in
set_option maxRecDepth 100000 in
theorem t_X5_end_b85 {X : jX} {po : Option Value → jH → Prop} {px : String → jH → Prop} {sf : Bool} {B9 : Nat} (hM : jMX X kX5_end RX5 tbX5 5 ⟨7, 2, 12, 117⟩ (some .int) 71) (hp : jPost X sf B9 po px) (N : Nat) {res : Nat ⊕ (Int32 × (Nat → Nat → Int32) × (Nat → Nat → Int64))} (G : Nat → Nat → Int32) (J : Nat → Nat → Int64) (x1 : Int32) (x2 : Int32) (x3 : Int32) (x4 : Int32) (h : p_X5_end_b85 N G J x1 x2 x3 x4 = some res) (hq : ∀ w, res = Sum.inr w → po (some (.int w.1)) (hX w.2.1 w.2.2)) : JW X 1 6 85 [some (.ref 0), some (.int x1), some (.int x2), some (.int x3), some (.int x4)] [] (hX G J) := by
  unfold p_X5_end_b85 at h
  refine JW.r hM 45 6 (pc2 := 95) (L2 := [some (.ref 0), some (.int x1), some (.int x2), some (.int x3), some (.int x4)]) (st2 := [.int (0 : Int32), .int x1, .ref 1, .ref 24]) (μ2 := (hX G J)) rfl trivial ?_
  obtain ⟨v4, hv3, h⟩ := jbd h
  refine JW.cV (v := some (.int v4.1)) hM (m_X1_lay (jVX X) hM.1.2.2.2.2.2.2.2.2.2.1 N (jv2 G 24 11 1) (jv2 J 24 11 1) x1 (0 : Int32) v4 hv3) (sb_X_ET_24_1 G J) (bk_X_ET_24_1 G J v4.2 (jv2 J 24 11 1)) rfl rfl rfl kc_X5_254 rfl rfl rfl rfl rfl (jat hM.2.1 51 rfl) (st := []) rfl ?_
  show JW X 1 6 98 [some (.ref 0), some (.int x1), some (.int x2), some (.int x3), some (.int x4)] [.int v4.1] (hX (jp2 G 24 11 1 9 v4.2) J)
  obtain ⟨G5, e6, h⟩ := jlE h
  rw [e6]
  refine js_ifne (t := 105) hM.1 (jat hM.2.1 52 rfl) rfl (fun hc24 => ?_) (fun hc24 => ?_)
  · have h := (if_neg hc24).symm.trans h
    refine JW.r hM 55 4 (pc2 := 113) (L2 := [some (.ref 0), some (.int x1), some (.int x2), some (.int x3), some (.int x4)]) (st2 := [.ref 1, .ref 24]) (μ2 := (hX G5 J)) rfl trivial ?_
    obtain ⟨v8, hv7, h⟩ := jbd h
    refine JW.cV (v := none) hM (m_X1_play (jVX X) hM.1.2.2.2.2.2.2.2.2.2.1 N (jv2 G5 24 11 1) (jv2 J 24 11 1) v8 hv7) (sb_X_ET_24_1 G5 J) (bk_X_ET_24_1 G5 J v8.1 v8.2) rfl rfl rfl kc_X5_259 rfl rfl rfl rfl rfl (jat hM.2.1 59 rfl) (st := []) rfl ?_
    show JW X 1 6 116 [some (.ref 0), some (.int x1), some (.int x2), some (.int x3), some (.int x4)] [] (hX (jp2 G5 24 11 1 9 v8.1) (jp2 J 24 11 1 9 v8.2))
    obtain ⟨G9, e10, h⟩ := jlE h
    rw [e10]
    obtain ⟨J11, e12, h⟩ := jlE h
    rw [e12]
    refine JW.r hM 60 1 (pc2 := 117) (L2 := [some (.ref 0), some (.int x1), some (.int x2), some (.int x3), some (.int x4)]) (st2 := [.int x3]) (μ2 := (hX G9 J11)) rfl trivial ?_
    refine js_ifeq (t := 144) hM.1 (jat hM.2.1 61 rfl) rfl (fun hc23 => ?_) (fun hc23 => ?_)
    · have h := (if_pos hc23).symm.trans h
      refine JW.r hM 76 1 (pc2 := 146) (L2 := [some (.ref 0), some (.int x1), some (.int x2), some (.int x3), some (.int x4)]) (st2 := [.int x4]) (μ2 := (hX G9 J11)) rfl trivial ?_
      refine js_ifeq (t := 161) hM.1 (jat hM.2.1 77 rfl) rfl (fun hc18 => ?_) (fun hc18 => ?_)
      · have h := (if_pos hc18).symm.trans h
        refine JW.r hM 85 1 (pc2 := 162) (L2 := [some (.ref 0), some (.int x1), some (.int x2), some (.int x3), some (.int x4)]) (st2 := [.int x2]) (μ2 := (hX G9 J11)) rfl trivial ?_
        refine js_ifne (t := 175) hM.1 (jat hM.2.1 86 rfl) rfl (fun hc15 => ?_) (fun hc15 => ?_)
        · have h := (if_neg hc15).symm.trans h
          refine JW.r hM 91 2 (pc2 := 179) (L2 := [some (.ref 0), some (.int x1), some (.int x2), some (.int x3), some (.int x4)]) (st2 := [.ref 24]) (μ2 := (hX G9 J11)) rfl trivial ?_
          obtain ⟨v14, hv13, h⟩ := jbd h
          refine JW.cV (v := some (.int v14)) hM (m_X1_undoings (jVX X) hM.1.2.2.2.2.2.2.2.2.2.1 N (jvw G9 24) (jvw J11 24) v14 hv13) (sb_X_En_24 G9 J11) (bi_X_En_24 G9 J11) rfl rfl rfl kc_X5_277 rfl rfl rfl rfl rfl (jat hM.2.1 93 rfl) (st := []) rfl ?_
          show JW X 1 6 182 [some (.ref 0), some (.int x1), some (.int x2), some (.int x3), some (.int x4)] [.int v14] (hX G9 J11)
          obtain rfl := Option.some.inj h
          exact js_iret hM.1 hp hM.2.2.2.2.2.2.2.1 (by rw [hM.2.2.2.2.2.1]; exact Nat.le_of_ble_eq_true rfl) (by rw [hM.2.2.2.2.2.2.1]; exact Nat.le_of_ble_eq_true rfl) (jat hM.2.1 94 rfl) (hq (v14, G9, J11) rfl)
        · have h := (if_pos hc15).symm.trans h
          refine JW.r hM 87 4 (pc2 := 182) (L2 := [some (.ref 0), some (.int x1), some (.int x2), some (.int x3), some (.int x4)]) (st2 := [.int (G9 24 0)]) (μ2 := (hX G9 J11)) rfl trivial ?_
          obtain rfl := Option.some.inj h
          exact js_iret hM.1 hp hM.2.2.2.2.2.2.2.1 (by rw [hM.2.2.2.2.2.1]; exact Nat.le_of_ble_eq_true rfl) (by rw [hM.2.2.2.2.2.2.1]; exact Nat.le_of_ble_eq_true rfl) (jat hM.2.1 94 rfl) (hq ((G9 24 0), G9, J11) rfl)
      · have h := (if_neg hc18).symm.trans h
        refine JW.r hM 78 5 (pc2 := 157) (L2 := [some (.ref 0), some (.int x1), some (.int x2), some (.int x3), some (.int x4)]) (st2 := [.int (x2 - (100 : Int32)), .ref 24]) (μ2 := (hX G9 J11)) rfl trivial ?_
        obtain ⟨v17, hv16, h⟩ := jbd h
        refine JW.cV (v := some (.int v17)) hM (m_X1_undoneIn (jVX X) hM.1.2.2.2.2.2.2.2.2.2.1 N (jvw G9 24) (jvw J11 24) (x2 - (100 : Int32)) v17 hv16) (sb_X_En_24 G9 J11) (bi_X_En_24 G9 J11) rfl rfl rfl kc_X5_274 rfl rfl rfl rfl rfl (jat hM.2.1 83 rfl) (st := []) rfl ?_
        show JW X 1 6 160 [some (.ref 0), some (.int x1), some (.int x2), some (.int x3), some (.int x4)] [.int v17] (hX G9 J11)
        obtain rfl := Option.some.inj h
        exact js_iret hM.1 hp hM.2.2.2.2.2.2.2.1 (by rw [hM.2.2.2.2.2.1]; exact Nat.le_of_ble_eq_true rfl) (by rw [hM.2.2.2.2.2.2.1]; exact Nat.le_of_ble_eq_true rfl) (jat hM.2.1 84 rfl) (hq (v17, G9, J11) rfl)
    · have h := (if_neg hc23).symm.trans h
      refine JW.r hM 62 5 (pc2 := 128) (L2 := [some (.ref 0), some (.int x1), some (.int x2), some (.int x3), some (.int x4)]) (st2 := [.int (x2 - (10 : Int32)), .ref 1]) (μ2 := (hX G9 J11)) rfl trivial ?_
      obtain ⟨v20, hv19, h⟩ := jbd h
      refine JW.cV (v := some (.int v20)) hM (m_X3_wealth (jVX X) hM.1.2.2.2.2.2.2.2.2.2.1 N (jvw G9 1) (x2 - (10 : Int32)) v20 hv19) (sb_X_Town_1 G9 J11) (bi_X_Town_1 G9 J11) rfl rfl rfl kc_X5_83 rfl rfl rfl rfl rfl (jat hM.2.1 67 rfl) (st := []) rfl ?_
      show JW X 1 6 131 [some (.ref 0), some (.int x1), some (.int x2), some (.int x3), some (.int x4)] [.int v20] (hX G9 J11)
      refine JW.r hM 68 5 (pc2 := 139) (L2 := [some (.ref 0), some (.int x1), some (.int x2), some (.int x3), some (.int x4)]) (st2 := [.int (x2 - (10 : Int32)), .ref 24, .int v20]) (μ2 := (hX G9 J11)) rfl trivial ?_
      obtain ⟨v22, hv21, h⟩ := jbd h
      refine JW.cV (v := some (.int v22)) hM (m_X1_change (jVX X) hM.1.2.2.2.2.2.2.2.2.2.1 N (jvw G9 24) (jvw J11 24) (x2 - (10 : Int32)) v22 hv21) (sb_X_En_24 G9 J11) (bi_X_En_24 G9 J11) rfl rfl rfl kc_X5_271 rfl rfl rfl rfl rfl (jat hM.2.1 73 rfl) (st := [.int v20]) rfl ?_
      show JW X 1 6 142 [some (.ref 0), some (.int x1), some (.int x2), some (.int x3), some (.int x4)] [.int v22, .int v20] (hX G9 J11)
      refine JW.r hM 74 1 (pc2 := 143) (L2 := [some (.ref 0), some (.int x1), some (.int x2), some (.int x3), some (.int x4)]) (st2 := [.int (v20 + v22)]) (μ2 := (hX G9 J11)) rfl trivial ?_
      obtain rfl := Option.some.inj h
      exact js_iret hM.1 hp hM.2.2.2.2.2.2.2.1 (by rw [hM.2.2.2.2.2.1]; exact Nat.le_of_ble_eq_true rfl) (by rw [hM.2.2.2.2.2.2.1]; exact Nat.le_of_ble_eq_true rfl) (jat hM.2.1 75 rfl) (hq ((v20 + v22), G9, J11) rfl)
  · have h := (if_pos hc24).symm.trans h
    refine JW.r hM 53 1 (pc2 := 104) (L2 := [some (.ref 0), some (.int x1), some (.int x2), some (.int x3), some (.int x4)]) (st2 := [.int (-100000 : Int32)]) (μ2 := (hX G5 J)) rfl trivial ?_
    obtain rfl := Option.some.inj h
    exact js_iret hM.1 hp hM.2.2.2.2.2.2.2.1 (by rw [hM.2.2.2.2.2.1]; exact Nat.le_of_ble_eq_true rfl) (by rw [hM.2.2.2.2.2.2.1]; exact Nat.le_of_ble_eq_true rfl) (jat hM.2.1 54 rfl) (hq ((-100000 : Int32), G5, J) rfl)
set_option maxHeartbeats 4000000 in
set_option maxRecDepth 100000 in
theorem t_X5_end_b57 {X : jX} {po : Option Value → jH → Prop} {px : String → jH → Prop} {sf : Bool} {B9 : Nat} (hM : jMX X kX5_end RX5 tbX5 5 ⟨7, 2, 12, 117⟩ (some .int) 71) (hp : jPost X sf B9 po px) (N : Nat) {res : Nat ⊕ (Int32 × (Nat → Nat → Int32) × (Nat → Nat → Int64))} (G : Nat → Nat → Int32) (J : Nat → Nat → Int64) (x1 : Int32) (x2 : Int32) (x3 : Int32) (s0 : Int32) (h : p_X5_end_b57 N G J x1 x2 x3 s0 = some res) (hq : ∀ w, res = Sum.inr w → po (some (.int w.1)) (hX w.2.1 w.2.2)) (hx : ∀ c, res = Sum.inl c → px (jEn c) (hX G J)) : JW X 1 6 57 [some (.ref 0), some (.int x1), some (.int x2), some (.int x3), none] [.int s0] (hX G J) := by
  unfold p_X5_end_b57 at h
  refine JW.r hM 31 2 (pc2 := 60) (L2 := [some (.ref 0), some (.int x1), some (.int x2), some (.int x3), some (.int s0)]) (st2 := [.int x2]) (μ2 := (hX G J)) rfl trivial ?_
  refine js_ifeq (t := 85) hM.1 (jat hM.2.1 33 rfl) rfl (fun hc28 => ?_) (fun hc28 => ?_)
  · have h := (if_pos hc28).symm.trans h
    exact t_X5_end_b85 hM hp N G J x1 x2 x3 s0 h hq
  · have h := (if_neg hc28).symm.trans h
    refine JW.r hM 34 2 (pc2 := 65) (L2 := [some (.ref 0), some (.int x1), some (.int x2), some (.int x3), some (.int s0)]) (st2 := [.int (1 : Int32), .int x2]) (μ2 := (hX G J)) rfl trivial ?_
    refine js_iceq (t := 85) hM.1 (jat hM.2.1 36 rfl) rfl (fun hc27 => ?_) (fun hc27 => ?_)
    · have h := (if_pos hc27).symm.trans h
      exact t_X5_end_b85 hM hp N G J x1 x2 x3 s0 h hq
    · have h := (if_neg hc27).symm.trans h
      refine JW.r hM 37 1 (pc2 := 69) (L2 := [some (.ref 0), some (.int x1), some (.int x2), some (.int x3), some (.int s0)]) (st2 := [.int x3]) (μ2 := (hX G J)) rfl trivial ?_
      refine js_ifne (t := 85) hM.1 (jat hM.2.1 38 rfl) rfl (fun hc26 => ?_) (fun hc26 => ?_)
      · have h := (if_neg hc26).symm.trans h
        exact t_X5_end_b85 hM hp N G J x1 x2 x3 s0 h hq
      · have h := (if_pos hc26).symm.trans h
        refine JW.r hM 39 1 (pc2 := 74) (L2 := [some (.ref 0), some (.int x1), some (.int x2), some (.int x3), some (.int s0)]) (st2 := [.int s0]) (μ2 := (hX G J)) rfl trivial ?_
        refine js_ifne (t := 85) hM.1 (jat hM.2.1 40 rfl) rfl (fun hc25 => ?_) (fun hc25 => ?_)
        · have h := (if_neg hc25).symm.trans h
          exact t_X5_end_b85 hM hp N G J x1 x2 x3 s0 h hq
        · have h := (if_pos hc25).symm.trans h
          obtain rfl := Option.some.inj h
          exact js_throw (ik := 56) (ic := 58) (names := ["java/lang/RuntimeException", "java/lang/Exception"]) hM.1 hp hM.2.2.2.2.2.2.2.2.2 (by decide) (by decide) (by rw [hM.2.2.1]; exact th_X5_56_58) (jat hM.2.1 41 rfl) (jat hM.2.1 42 rfl) (jat hM.2.1 43 rfl) (jat hM.2.1 44 rfl) (by rw [hM.2.2.2.2.1]; exact Nat.le_of_ble_eq_true rfl) (by rw [hM.2.2.2.2.1]; exact Nat.le_of_ble_eq_true rfl) (by rw [hM.2.2.2.2.2.1]; exact Nat.le_of_ble_eq_true rfl) (by rw [hM.2.2.2.2.2.2.1]; exact Nat.le_of_ble_eq_true rfl) (hx _ rfl)
set_option maxHeartbeats 4000000 in
set_option maxRecDepth 100000 in
theorem t_X5_end_b56 {X : jX} {po : Option Value → jH → Prop} {px : String → jH → Prop} {sf : Bool} {B9 : Nat} (hM : jMX X kX5_end RX5 tbX5 5 ⟨7, 2, 12, 117⟩ (some .int) 71) (hp : jPost X sf B9 po px) (N : Nat) {res : Nat ⊕ (Int32 × (Nat → Nat → Int32) × (Nat → Nat → Int64))} (G : Nat → Nat → Int32) (J : Nat → Nat → Int64) (x1 : Int32) (x2 : Int32) (x3 : Int32) (h : p_X5_end_b56 N G J x1 x2 x3 = some res) (hq : ∀ w, res = Sum.inr w → po (some (.int w.1)) (hX w.2.1 w.2.2)) (hx : ∀ c, res = Sum.inl c → px (jEn c) (hX G J)) : JW X 1 6 56 [some (.ref 0), some (.int x1), some (.int x2), some (.int x3), none] [] (hX G J) := by
  unfold p_X5_end_b56 at h
  refine JW.r hM 30 1 (pc2 := 57) (L2 := [some (.ref 0), some (.int x1), some (.int x2), some (.int x3), none]) (st2 := [.int (0 : Int32)]) (μ2 := (hX G J)) rfl trivial ?_
  exact t_X5_end_b57 hM hp N G J x1 x2 x3 (0 : Int32) h hq hx
set_option maxHeartbeats 4000000 in
set_option maxRecDepth 100000 in
theorem t_X5_end_b29 {X : jX} {po : Option Value → jH → Prop} {px : String → jH → Prop} {sf : Bool} {B9 : Nat} (hM : jMX X kX5_end RX5 tbX5 5 ⟨7, 2, 12, 117⟩ (some .int) 71) (hp : jPost X sf B9 po px) (N : Nat) {res : Nat ⊕ (Int32 × (Nat → Nat → Int32) × (Nat → Nat → Int64))} (G : Nat → Nat → Int32) (J : Nat → Nat → Int64) (x1 : Int32) (x2 : Int32) (s0 : Int32) (h : p_X5_end_b29 N G J x1 x2 s0 = some res) (hq : ∀ w, res = Sum.inr w → po (some (.int w.1)) (hX w.2.1 w.2.2)) (hx : ∀ c, res = Sum.inl c → px (jEn c) (hX G J)) : JW X 1 6 29 [some (.ref 0), some (.int x1), some (.int x2), none, none] [.int s0] (hX G J) := by
  unfold p_X5_end_b29 at h
  refine JW.r hM 15 3 (pc2 := 33) (L2 := [some (.ref 0), some (.int x1), some (.int x2), some (.int s0), none]) (st2 := [.int (100 : Int32), .int x2]) (μ2 := (hX G J)) rfl trivial ?_
  refine js_iclt (t := 56) hM.1 (jat hM.2.1 18 rfl) rfl (fun hc30 => ?_) (fun hc30 => ?_)
  · have h := (if_pos hc30).symm.trans h
    exact t_X5_end_b56 hM hp N G J x1 x2 s0 h hq hx
  · have h := (if_neg hc30).symm.trans h
    refine JW.r hM 19 8 (pc2 := 49) (L2 := [some (.ref 0), some (.int x1), some (.int x2), some (.int s0), none]) (st2 := [.int (x1 * (G 1 1)), .int (x2 - (100 : Int32))]) (μ2 := (hX G J)) rfl trivial ?_
    refine js_icge (t := 56) hM.1 (jat hM.2.1 27 rfl) rfl (fun hc29 => ?_) (fun hc29 => ?_)
    · have h := (if_pos hc29).symm.trans h
      exact t_X5_end_b56 hM hp N G J x1 x2 s0 h hq hx
    · have h := (if_neg hc29).symm.trans h
      refine JW.r hM 28 2 (pc2 := 57) (L2 := [some (.ref 0), some (.int x1), some (.int x2), some (.int s0), none]) (st2 := [.int (1 : Int32)]) (μ2 := (hX G J)) rfl trivial ?_
      exact t_X5_end_b57 hM hp N G J x1 x2 s0 (1 : Int32) h hq hx
set_option maxHeartbeats 4000000 in
set_option maxRecDepth 100000 in
theorem t_X5_end_b28 {X : jX} {po : Option Value → jH → Prop} {px : String → jH → Prop} {sf : Bool} {B9 : Nat} (hM : jMX X kX5_end RX5 tbX5 5 ⟨7, 2, 12, 117⟩ (some .int) 71) (hp : jPost X sf B9 po px) (N : Nat) {res : Nat ⊕ (Int32 × (Nat → Nat → Int32) × (Nat → Nat → Int64))} (G : Nat → Nat → Int32) (J : Nat → Nat → Int64) (x1 : Int32) (x2 : Int32) (h : p_X5_end_b28 N G J x1 x2 = some res) (hq : ∀ w, res = Sum.inr w → po (some (.int w.1)) (hX w.2.1 w.2.2)) (hx : ∀ c, res = Sum.inl c → px (jEn c) (hX G J)) : JW X 1 6 28 [some (.ref 0), some (.int x1), some (.int x2), none, none] [] (hX G J) := by
  unfold p_X5_end_b28 at h
  refine JW.r hM 14 1 (pc2 := 29) (L2 := [some (.ref 0), some (.int x1), some (.int x2), none, none]) (st2 := [.int (0 : Int32)]) (μ2 := (hX G J)) rfl trivial ?_
  exact t_X5_end_b29 hM hp N G J x1 x2 (0 : Int32) h hq hx
set_option maxHeartbeats 4000000 in
set_option maxRecDepth 100000 in
theorem t_X5_end {X : jX} {po : Option Value → jH → Prop} {px : String → jH → Prop} {sf : Bool} {B9 : Nat} (hM : jMX X kX5_end RX5 tbX5 5 ⟨7, 2, 12, 117⟩ (some .int) 71) (hp : jPost X sf B9 po px) (N : Nat) (G : Nat → Nat → Int32) (J : Nat → Nat → Int64) (p0 : Int32) (p1 : Int32) {res : Nat ⊕ (Int32 × (Nat → Nat → Int32) × (Nat → Nat → Int64))} (h : p_X5_end N G J p0 p1 = some res) (hq : ∀ w, res = Sum.inr w → po (some (.int w.1)) (hX w.2.1 w.2.2)) (hx : ∀ c, res = Sum.inl c → px (jEn c) (hX G J)) : JW X 0 0 0 [some (.ref 0), some (.int p0), some (.int p1), none, none] [] (hX G J) := by
  unfold p_X5_end at h
  refine JW.r hM 0 1 (pc2 := 1) (L2 := [some (.ref 0), some (.int p0), some (.int p1), none, none]) (st2 := [.int p0]) (μ2 := (hX G J)) rfl trivial ?_
  rcases jbxE h with h | h
  · obtain ⟨v2, hv1, h⟩ := h
    refine JW.cS (v := none) hM (m_X5_needRounds_r (jVX X) hM.1.2.2.2.2.2.2.2.2.2.1 N p0 v2 hv1) (sb_X_E_ G J) (bi_X_E_ G J) rfl rfl rfl kc_X5_251 rfl rfl rfl (jat hM.2.1 1 rfl) (st := []) rfl ?_
    show JW X 1 6 4 [some (.ref 0), some (.int p0), some (.int p1), none, none] [] (hX G J)
    refine JW.r hM 2 2 (pc2 := 7) (L2 := [some (.ref 0), some (.int p0), some (.int p1), none, none]) (st2 := [.int (10 : Int32), .int p1]) (μ2 := (hX G J)) rfl trivial ?_
    refine js_iclt (t := 28) hM.1 (jat hM.2.1 4 rfl) rfl (fun hc34 => ?_) (fun hc34 => ?_)
    · have h := (if_pos hc34).symm.trans h
      exact t_X5_end_b28 hM hp N G J p0 p1 h hq hx
    · have h := (if_neg hc34).symm.trans h
      refine JW.r hM 5 5 (pc2 := 18) (L2 := [some (.ref 0), some (.int p0), some (.int p1), none, none]) (st2 := [.int (p1 - (10 : Int32)), .ref 1]) (μ2 := (hX G J)) rfl trivial ?_
      obtain ⟨v32, hv31, h⟩ := jbd h
      refine JW.cV (v := some (.int v32)) hM (m_X3_hasPerson (jVX X) hM.1.2.2.2.2.2.2.2.2.2.1 N (jvw G 1) (p1 - (10 : Int32)) v32 hv31) (sb_X_Town_1 G J) (bi_X_Town_1 G J) rfl rfl rfl kc_X5_268 rfl rfl rfl rfl rfl (jat hM.2.1 10 rfl) (st := []) rfl ?_
      show JW X 1 6 21 [some (.ref 0), some (.int p0), some (.int p1), none, none] [.int v32] (hX G J)
      refine js_ifeq (t := 28) hM.1 (jat hM.2.1 11 rfl) rfl (fun hc33 => ?_) (fun hc33 => ?_)
      · have h := (if_pos hc33).symm.trans h
        exact t_X5_end_b28 hM hp N G J p0 p1 h hq hx
      · have h := (if_neg hc33).symm.trans h
        refine JW.r hM 12 2 (pc2 := 29) (L2 := [some (.ref 0), some (.int p0), some (.int p1), none, none]) (st2 := [.int (1 : Int32)]) (μ2 := (hX G J)) rfl trivial ?_
        exact t_X5_end_b29 hM hp N G J p0 p1 (1 : Int32) h hq hx
  · obtain ⟨c35, hv1, h⟩ := h
    subst h
    exact JW.xS hM hp (E := jEn c35) (m_X5_needRounds_x (jVX X) hM.1.2.2.2.2.2.2.2.2.2.1 N p0 c35 hv1) (sb_X_E_ G J) (bi_X_E_ G J) rfl rfl kc_X5_251 rfl rfl rfl (jat hM.2.1 1 rfl) (st := []) rfl (hx _ rfl)
theorem m_X5_end_r (V : jV) (hV : V.1.stackTraces = false) (N : Nat) (G : Nat → Nat → Int32) (J : Nat → Nat → Int64) (p0 : Int32) (p1 : Int32) (v : (Int32 × (Nat → Nat → Int32) × (Nat → Nat → Int64))) (h : p_X5_end N G J p0 p1 = some (.inr v)) : jMet V yX5_end (jws yX5_end cX5_end 5 (some .int)) ⟨7, 2, 12, 117⟩ true 1 [.ref 0, .int p0, .int p1] (hX G J) (fun o ν => o = some (.int v.1) ∧ ν = (hX v.2.1 v.2.2)) (fun _ _ => False) := by
  refine jmk (tb := tbX5) (C := kX5_end) hV rfl (by decide) tbX5_ok rfl kX5_end_ok rfl ?_
  intro X hM _ hp _
  exact t_X5_end hM hp N G J p0 p1 h (fun w hw => by cases hw; exact ⟨rfl, rfl⟩) (fun c hc => by cases hc)
theorem m_X5_end_x (V : jV) (hV : V.1.stackTraces = false) (N : Nat) (G : Nat → Nat → Int32) (J : Nat → Nat → Int64) (p0 : Int32) (p1 : Int32) (c : Nat) (h : p_X5_end N G J p0 p1 = some (.inl c)) : jMet V yX5_end (jws yX5_end cX5_end 5 (some .int)) ⟨7, 2, 12, 117⟩ true 1 [.ref 0, .int p0, .int p1] (hX G J) (fun _ _ => False) (fun E ν => E = jEn c ∧ ν = (hX G J)) := by
  refine jmk (tb := tbX5) (C := kX5_end) hV rfl (by decide) tbX5_ok rfl kX5_end_ok rfl ?_
  intro X hM _ hp _
  exact t_X5_end hM hp N G J p0 p1 h (fun w hw => by cases hw) (fun c hc => by cases hc; exact ⟨rfl, rfl⟩)

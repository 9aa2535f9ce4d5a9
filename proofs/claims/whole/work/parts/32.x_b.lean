def p_X5_ringer (N : Nat) (G : Nat → Nat → Int32) (J : Nat → Nat → Int64) (p0 : Int32) : Option (Nat ⊕ (Int32 × (Nat → Nat → Int32) × (Nat → Nat → Int64))) :=
  jbx (p_X5_needPerson N G J p0) (fun v2 => (p_X1_lay N (jv2 G 24 11 1) (jv2 J 24 11 1) (1 : Int32) (0 : Int32)).bind (fun v4 => jlt (jp2 G 24 11 1 9 v4.2) fun G5 => if v4.1 = 0 then (some (.inr ((-100000 : Int32), G5, J))) else ((p_X1_play N (jv2 G5 24 11 1) (jv2 J 24 11 1)).bind (fun v8 => jlt (jp2 G5 24 11 1 9 v8.1) fun G9 => jlt (jp2 J 24 11 1 9 v8.2) fun J11 => (p_X1_change N (jvw G9 24) (jvw J11 24) p0).bind (fun v14 => some (.inr ((-v14), G9, J11)))))))
set_option maxHeartbeats 4000000 in
set_option maxRecDepth 100000 in
theorem t_X5_ringer {X : jX} {po : Option Value → jH → Prop} {px : String → jH → Prop} {sf : Bool} {B9 : Nat} (hM : jMX X kX5_ringer RX5 tbX5 2 ⟨7, 1, 6, 117⟩ (some .int) 71) (hp : jPost X sf B9 po px) (N : Nat) (G : Nat → Nat → Int32) (J : Nat → Nat → Int64) (p0 : Int32) {res : Nat ⊕ (Int32 × (Nat → Nat → Int32) × (Nat → Nat → Int64))} (h : p_X5_ringer N G J p0 = some res) (hq : ∀ w, res = Sum.inr w → po (some (.int w.1)) (hX w.2.1 w.2.2)) (hx : ∀ c, res = Sum.inl c → px (jEn c) (hX G J)) : JW X 0 0 0 [some (.ref 0), some (.int p0)] [] (hX G J) := by
  unfold p_X5_ringer at h
  refine JW.r hM 0 2 (pc2 := 2) (L2 := [some (.ref 0), some (.int p0)]) (st2 := [.int p0, .ref 0]) (μ2 := (hX G J)) rfl trivial ?_
  rcases jbxE h with h | h
  · obtain ⟨v2, hv1, h⟩ := h
    refine JW.cV (v := none) hM (m_X5_needPerson_r (jVX X) hM.1.2.2.2.2.2.2.2.2.2.1 N G J p0 v2 hv1) (sb_X_X_0 G J) (bi_X_X_0 G J) rfl rfl rfl kc_X5_76 rfl rfl rfl rfl rfl (jat hM.2.1 2 rfl) (st := []) rfl ?_
    show JW X 1 6 5 [some (.ref 0), some (.int p0)] [] (hX G J)
    refine JW.r hM 3 6 (pc2 := 15) (L2 := [some (.ref 0), some (.int p0)]) (st2 := [.int (0 : Int32), .int (1 : Int32), .ref 1, .ref 24]) (μ2 := (hX G J)) rfl trivial ?_
    obtain ⟨v4, hv3, h⟩ := jbd h
    refine JW.cV (v := some (.int v4.1)) hM (m_X1_lay (jVX X) hM.1.2.2.2.2.2.2.2.2.2.1 N (jv2 G 24 11 1) (jv2 J 24 11 1) (1 : Int32) (0 : Int32) v4 hv3) (sb_X_ET_24_1 G J) (bk_X_ET_24_1 G J v4.2 (jv2 J 24 11 1)) rfl rfl rfl kc_X5_254 rfl rfl rfl rfl rfl (jat hM.2.1 9 rfl) (st := []) rfl ?_
    show JW X 1 6 18 [some (.ref 0), some (.int p0)] [.int v4.1] (hX (jp2 G 24 11 1 9 v4.2) J)
    obtain ⟨G5, e6, h⟩ := jlE h
    rw [e6]
    refine js_ifne (t := 25) hM.1 (jat hM.2.1 10 rfl) rfl (fun hc15 => ?_) (fun hc15 => ?_)
    · have h := (if_neg hc15).symm.trans h
      refine JW.r hM 13 4 (pc2 := 33) (L2 := [some (.ref 0), some (.int p0)]) (st2 := [.ref 1, .ref 24]) (μ2 := (hX G5 J)) rfl trivial ?_
      obtain ⟨v8, hv7, h⟩ := jbd h
      refine JW.cV (v := none) hM (m_X1_play (jVX X) hM.1.2.2.2.2.2.2.2.2.2.1 N (jv2 G5 24 11 1) (jv2 J 24 11 1) v8 hv7) (sb_X_ET_24_1 G5 J) (bk_X_ET_24_1 G5 J v8.1 v8.2) rfl rfl rfl kc_X5_259 rfl rfl rfl rfl rfl (jat hM.2.1 17 rfl) (st := []) rfl ?_
      show JW X 1 6 36 [some (.ref 0), some (.int p0)] [] (hX (jp2 G5 24 11 1 9 v8.1) (jp2 J 24 11 1 9 v8.2))
      obtain ⟨G9, e10, h⟩ := jlE h
      rw [e10]
      obtain ⟨J11, e12, h⟩ := jlE h
      rw [e12]
      refine JW.r hM 18 3 (pc2 := 41) (L2 := [some (.ref 0), some (.int p0)]) (st2 := [.int p0, .ref 24]) (μ2 := (hX G9 J11)) rfl trivial ?_
      obtain ⟨v14, hv13, h⟩ := jbd h
      refine JW.cV (v := some (.int v14)) hM (m_X1_change (jVX X) hM.1.2.2.2.2.2.2.2.2.2.1 N (jvw G9 24) (jvw J11 24) p0 v14 hv13) (sb_X_En_24 G9 J11) (bi_X_En_24 G9 J11) rfl rfl rfl kc_X5_271 rfl rfl rfl rfl rfl (jat hM.2.1 21 rfl) (st := []) rfl ?_
      show JW X 1 6 44 [some (.ref 0), some (.int p0)] [.int v14] (hX G9 J11)
      refine JW.r hM 22 1 (pc2 := 45) (L2 := [some (.ref 0), some (.int p0)]) (st2 := [.int (-v14)]) (μ2 := (hX G9 J11)) rfl trivial ?_
      obtain rfl := Option.some.inj h
      exact js_iret hM.1 hp hM.2.2.2.2.2.2.2.1 (by rw [hM.2.2.2.2.2.1]; exact Nat.le_of_ble_eq_true rfl) (by rw [hM.2.2.2.2.2.2.1]; exact Nat.le_of_ble_eq_true rfl) (jat hM.2.1 23 rfl) (hq ((-v14), G9, J11) rfl)
    · have h := (if_pos hc15).symm.trans h
      refine JW.r hM 11 1 (pc2 := 24) (L2 := [some (.ref 0), some (.int p0)]) (st2 := [.int (-100000 : Int32)]) (μ2 := (hX G5 J)) rfl trivial ?_
      obtain rfl := Option.some.inj h
      exact js_iret hM.1 hp hM.2.2.2.2.2.2.2.1 (by rw [hM.2.2.2.2.2.1]; exact Nat.le_of_ble_eq_true rfl) (by rw [hM.2.2.2.2.2.2.1]; exact Nat.le_of_ble_eq_true rfl) (jat hM.2.1 12 rfl) (hq ((-100000 : Int32), G5, J) rfl)
  · obtain ⟨c16, hv1, h⟩ := h
    subst h
    exact JW.xV hM hp (E := jEn c16) (m_X5_needPerson_x (jVX X) hM.1.2.2.2.2.2.2.2.2.2.1 N G J p0 c16 hv1) (sb_X_X_0 G J) (bi_X_X_0 G J) rfl rfl kc_X5_76 rfl rfl rfl rfl rfl (jat hM.2.1 2 rfl) (st := []) rfl (hx _ rfl)
theorem m_X5_ringer_r (V : jV) (hV : V.1.stackTraces = false) (N : Nat) (G : Nat → Nat → Int32) (J : Nat → Nat → Int64) (p0 : Int32) (v : (Int32 × (Nat → Nat → Int32) × (Nat → Nat → Int64))) (h : p_X5_ringer N G J p0 = some (.inr v)) : jMet V yX5_ringer (jws yX5_ringer cX5_ringer 2 (some .int)) ⟨7, 1, 6, 117⟩ true 1 [.ref 0, .int p0] (hX G J) (fun o ν => o = some (.int v.1) ∧ ν = (hX v.2.1 v.2.2)) (fun _ _ => False) := by
  refine jmk (tb := tbX5) (C := kX5_ringer) hV rfl (by decide) tbX5_ok rfl kX5_ringer_ok rfl ?_
  intro X hM _ hp _
  exact t_X5_ringer hM hp N G J p0 h (fun w hw => by cases hw; exact ⟨rfl, rfl⟩) (fun c hc => by cases hc)
theorem m_X5_ringer_x (V : jV) (hV : V.1.stackTraces = false) (N : Nat) (G : Nat → Nat → Int32) (J : Nat → Nat → Int64) (p0 : Int32) (c : Nat) (h : p_X5_ringer N G J p0 = some (.inl c)) : jMet V yX5_ringer (jws yX5_ringer cX5_ringer 2 (some .int)) ⟨7, 1, 6, 117⟩ true 1 [.ref 0, .int p0] (hX G J) (fun _ _ => False) (fun E ν => E = jEn c ∧ ν = (hX G J)) := by
  refine jmk (tb := tbX5) (C := kX5_ringer) hV rfl (by decide) tbX5_ok rfl kX5_ringer_ok rfl ?_
  intro X hM _ hp _
  exact t_X5_ringer hM hp N G J p0 h (fun w hw => by cases hw) (fun c hc => by cases hc; exact ⟨rfl, rfl⟩)
def p_X5_news_b21 (N : Nat) (G : Nat → Nat → Int32) (J : Nat → Nat → Int64) : Option (Nat ⊕ (Int32 × (Nat → Nat → Int32) × (Nat → Nat → Int64))) :=
  some (.inl 3)
def p_X5_news (N : Nat) (G : Nat → Nat → Int32) (J : Nat → Nat → Int64) (p0 : Int32) (p1 : Int32) (p2 : Int32) : Option (Nat ⊕ (Int32 × (Nat → Nat → Int32) × (Nat → Nat → Int64))) :=
  jbx (p_X5_needThing N G J p0) (fun v2 => jbx (p_X5_needPerson N G J p1) (fun v4 => if p2 < 0 then (p_X5_news_b21 N G J) else (if p2 ≤ (999 : Int32) then ((p_X3_copyFrom N (jv2 G 10 9 1)).bind (fun v6 => jlt (jp2 G 10 9 1 9 v6) fun G7 => (p_X3_setWorth N (jvw G7 10) p0 p1 p2).bind (fun v10 => jlt (jpt G7 10 9 v10) fun G11 => (p_X5_leftIn_10 N G11 J (0 : Int32)).bind (fun v14 => jlt v14.2.1 fun G15 => jlt v14.2.2 fun J17 => some (.inr (v14.1, G15, J17)))))) else (p_X5_news_b21 N G J))))
set_option maxHeartbeats 4000000 in
set_option maxRecDepth 100000 in
theorem t_X5_news_b21 {X : jX} {po : Option Value → jH → Prop} {px : String → jH → Prop} {sf : Bool} {B9 : Nat} (hM : jMX X kX5_news RX5 tbX5 4 ⟨7, 3, 18, 139⟩ (some .int) 71) (hp : jPost X sf B9 po px) (N : Nat) {res : Nat ⊕ (Int32 × (Nat → Nat → Int32) × (Nat → Nat → Int64))} (G : Nat → Nat → Int32) (J : Nat → Nat → Int64) (h : p_X5_news_b21 N G J = some res) (hq : ∀ w, res = Sum.inr w → po (some (.int w.1)) (hX w.2.1 w.2.2)) (hx : ∀ c, res = Sum.inl c → px (jEn c) (hX G J)) : JW X 2 12 21 [none, none, none, none] [] (hX G J) := by
  unfold p_X5_news_b21 at h
  obtain rfl := Option.some.inj h
  exact js_throw (ik := 56) (ic := 58) (names := ["java/lang/RuntimeException", "java/lang/Exception"]) hM.1 hp hM.2.2.2.2.2.2.2.2.2 (by decide) (by decide) (by rw [hM.2.2.1]; exact th_X5_56_58) (jat hM.2.1 11 rfl) (jat hM.2.1 12 rfl) (jat hM.2.1 13 rfl) (jat hM.2.1 14 rfl) (by rw [hM.2.2.2.2.1]; exact Nat.le_of_ble_eq_true rfl) (by rw [hM.2.2.2.2.1]; exact Nat.le_of_ble_eq_true rfl) (by rw [hM.2.2.2.2.2.1]; exact Nat.le_of_ble_eq_true rfl) (by rw [hM.2.2.2.2.2.2.1]; exact Nat.le_of_ble_eq_true rfl) (hx _ rfl)
set_option maxHeartbeats 4000000 in
set_option maxRecDepth 100000 in
theorem t_X5_news {X : jX} {po : Option Value → jH → Prop} {px : String → jH → Prop} {sf : Bool} {B9 : Nat} (hM : jMX X kX5_news RX5 tbX5 4 ⟨7, 3, 18, 139⟩ (some .int) 71) (hp : jPost X sf B9 po px) (N : Nat) (G : Nat → Nat → Int32) (J : Nat → Nat → Int64) (p0 : Int32) (p1 : Int32) (p2 : Int32) {res : Nat ⊕ (Int32 × (Nat → Nat → Int32) × (Nat → Nat → Int64))} (h : p_X5_news N G J p0 p1 p2 = some res) (hq : ∀ w, res = Sum.inr w → po (some (.int w.1)) (hX w.2.1 w.2.2)) (hx : ∀ c, res = Sum.inl c → px (jEn c) (hX G J)) : JW X 0 0 0 [some (.ref 0), some (.int p0), some (.int p1), some (.int p2)] [] (hX G J) := by
  unfold p_X5_news at h
  refine JW.r hM 0 2 (pc2 := 2) (L2 := [some (.ref 0), some (.int p0), some (.int p1), some (.int p2)]) (st2 := [.int p0, .ref 0]) (μ2 := (hX G J)) rfl trivial ?_
  rcases jbxE h with h | h
  · obtain ⟨v2, hv1, h⟩ := h
    refine JW.cV (v := none) hM (m_X5_needThing_r (jVX X) hM.1.2.2.2.2.2.2.2.2.2.1 N G J p0 v2 hv1) (sb_X_X_0 G J) (bi_X_X_0 G J) rfl rfl rfl kc_X5_90 rfl rfl rfl rfl rfl (jat hM.2.1 2 rfl) (st := []) rfl ?_
    show JW X 1 6 5 [some (.ref 0), some (.int p0), some (.int p1), some (.int p2)] [] (hX G J)
    refine JW.r hM 3 2 (pc2 := 7) (L2 := [some (.ref 0), some (.int p0), some (.int p1), some (.int p2)]) (st2 := [.int p1, .ref 0]) (μ2 := (hX G J)) rfl trivial ?_
    rcases jbxE h with h | h
    · obtain ⟨v4, hv3, h⟩ := h
      refine JW.cV (v := none) hM (m_X5_needPerson_r (jVX X) hM.1.2.2.2.2.2.2.2.2.2.1 N G J p1 v4 hv3) (sb_X_X_0 G J) (bi_X_X_0 G J) rfl rfl rfl kc_X5_76 rfl rfl rfl rfl rfl (jat hM.2.1 5 rfl) (st := []) rfl ?_
      show JW X 2 12 10 [some (.ref 0), some (.int p0), some (.int p1), some (.int p2)] [] (hX G J)
      refine JW.r hM 6 1 (pc2 := 11) (L2 := [some (.ref 0), some (.int p0), some (.int p1), some (.int p2)]) (st2 := [.int p2]) (μ2 := (hX G J)) rfl trivial ?_
      refine js_iflt (t := 21) hM.1 (jat hM.2.1 7 rfl) rfl (fun hc20 => ?_) (fun hc20 => ?_)
      · have h := (if_pos hc20).symm.trans h
        exact JW.mask [false, false, false, false] (t_X5_news_b21 hM hp N G J h hq hx)
      · have h := (if_neg hc20).symm.trans h
        refine JW.r hM 8 2 (pc2 := 18) (L2 := [some (.ref 0), some (.int p0), some (.int p1), some (.int p2)]) (st2 := [.int (999 : Int32), .int p2]) (μ2 := (hX G J)) rfl trivial ?_
        refine js_icle (t := 29) hM.1 (jat hM.2.1 10 rfl) rfl (fun hc19 => ?_) (fun hc19 => ?_)
        · have h := (if_pos hc19).symm.trans h
          refine JW.r hM 15 4 (pc2 := 37) (L2 := [some (.ref 0), some (.int p0), some (.int p1), some (.int p2)]) (st2 := [.ref 1, .ref 10]) (μ2 := (hX G J)) rfl trivial ?_
          obtain ⟨v6, hv5, h⟩ := jbd h
          refine JW.cV (v := none) hM (m_X3_copyFrom (jVX X) hM.1.2.2.2.2.2.2.2.2.2.1 N (jv2 G 10 9 1) v6 hv5) (sb_X_T2_10_1 G J) (bk_X_T2_10_1 G J v6) rfl rfl rfl kc_X5_66 rfl rfl rfl rfl rfl (jat hM.2.1 19 rfl) (st := []) rfl ?_
          show JW X 2 12 40 [some (.ref 0), some (.int p0), some (.int p1), some (.int p2)] [] (hX (jp2 G 10 9 1 9 v6) J)
          obtain ⟨G7, e8, h⟩ := jlE h
          rw [e8]
          refine JW.r hM 20 5 (pc2 := 47) (L2 := [some (.ref 0), some (.int p0), some (.int p1), some (.int p2)]) (st2 := [.int p2, .int p1, .int p0, .ref 10]) (μ2 := (hX G7 J)) rfl trivial ?_
          obtain ⟨v10, hv9, h⟩ := jbd h
          refine JW.cV (v := none) hM (m_X3_setWorth (jVX X) hM.1.2.2.2.2.2.2.2.2.2.1 N (jvw G7 10) p0 p1 p2 v10 hv9) (sb_X_Town_10 G7 J) (bk_X_Town_10 G7 J v10) rfl rfl rfl kc_X5_280 rfl rfl rfl rfl rfl (jat hM.2.1 25 rfl) (st := []) rfl ?_
          show JW X 2 12 50 [some (.ref 0), some (.int p0), some (.int p1), some (.int p2)] [] (hX (jpt G7 10 9 v10) J)
          obtain ⟨G11, e12, h⟩ := jlE h
          rw [e12]
          refine JW.r hM 26 4 (pc2 := 56) (L2 := [some (.ref 0), some (.int p0), some (.int p1), some (.int p2)]) (st2 := [.int (0 : Int32), .ref 10, .ref 0]) (μ2 := (hX G11 J)) rfl trivial ?_
          obtain ⟨v14, hv13, h⟩ := jbd h
          refine JW.cV (v := some (.int v14.1)) hM (m_X5_leftIn_10 (jVX X) hM.1.2.2.2.2.2.2.2.2.2.1 N G11 J (0 : Int32) v14 hv13) (sb_X_X_0 G11 J) (bk_X_X_0 G11 J v14.2.1 v14.2.2) rfl rfl rfl kc_X5_265 rfl rfl rfl rfl rfl (jat hM.2.1 30 rfl) (st := []) rfl ?_
          show JW X 2 12 59 [some (.ref 0), some (.int p0), some (.int p1), some (.int p2)] [.int v14.1] (hX v14.2.1 v14.2.2)
          obtain ⟨G15, e16, h⟩ := jlE h
          rw [e16]
          obtain ⟨J17, e18, h⟩ := jlE h
          rw [e18]
          obtain rfl := Option.some.inj h
          exact js_iret hM.1 hp hM.2.2.2.2.2.2.2.1 (by rw [hM.2.2.2.2.2.1]; exact Nat.le_of_ble_eq_true rfl) (by rw [hM.2.2.2.2.2.2.1]; exact Nat.le_of_ble_eq_true rfl) (jat hM.2.1 31 rfl) (hq (v14.1, G15, J17) rfl)
        · have h := (if_neg hc19).symm.trans h
          exact JW.mask [false, false, false, false] (t_X5_news_b21 hM hp N G J h hq hx)
    · obtain ⟨c21, hv3, h⟩ := h
      subst h
      exact JW.xV hM hp (E := jEn c21) (m_X5_needPerson_x (jVX X) hM.1.2.2.2.2.2.2.2.2.2.1 N G J p1 c21 hv3) (sb_X_X_0 G J) (bi_X_X_0 G J) rfl rfl kc_X5_76 rfl rfl rfl rfl rfl (jat hM.2.1 5 rfl) (st := []) rfl (hx _ rfl)
  · obtain ⟨c22, hv1, h⟩ := h
    subst h
    exact JW.xV hM hp (E := jEn c22) (m_X5_needThing_x (jVX X) hM.1.2.2.2.2.2.2.2.2.2.1 N G J p0 c22 hv1) (sb_X_X_0 G J) (bi_X_X_0 G J) rfl rfl kc_X5_90 rfl rfl rfl rfl rfl (jat hM.2.1 2 rfl) (st := []) rfl (hx _ rfl)
theorem m_X5_news_r (V : jV) (hV : V.1.stackTraces = false) (N : Nat) (G : Nat → Nat → Int32) (J : Nat → Nat → Int64) (p0 : Int32) (p1 : Int32) (p2 : Int32) (v : (Int32 × (Nat → Nat → Int32) × (Nat → Nat → Int64))) (h : p_X5_news N G J p0 p1 p2 = some (.inr v)) : jMet V yX5_news (jws yX5_news cX5_news 4 (some .int)) ⟨7, 3, 18, 139⟩ true 1 [.ref 0, .int p0, .int p1, .int p2] (hX G J) (fun o ν => o = some (.int v.1) ∧ ν = (hX v.2.1 v.2.2)) (fun _ _ => False) := by
  refine jmk (tb := tbX5) (C := kX5_news) hV rfl (by decide) tbX5_ok rfl kX5_news_ok rfl ?_
  intro X hM _ hp _
  exact t_X5_news hM hp N G J p0 p1 p2 h (fun w hw => by cases hw; exact ⟨rfl, rfl⟩) (fun c hc => by cases hc)
theorem m_X5_news_x (V : jV) (hV : V.1.stackTraces = false) (N : Nat) (G : Nat → Nat → Int32) (J : Nat → Nat → Int64) (p0 : Int32) (p1 : Int32) (p2 : Int32) (c : Nat) (h : p_X5_news N G J p0 p1 p2 = some (.inl c)) : jMet V yX5_news (jws yX5_news cX5_news 4 (some .int)) ⟨7, 3, 18, 139⟩ true 1 [.ref 0, .int p0, .int p1, .int p2] (hX G J) (fun _ _ => False) (fun E ν => E = jEn c ∧ ν = (hX G J)) := by
  refine jmk (tb := tbX5) (C := kX5_news) hV rfl (by decide) tbX5_ok rfl kX5_news_ok rfl ?_
  intro X hM _ hp _
  exact t_X5_news hM hp N G J p0 p1 p2 h (fun w hw => by cases hw) (fun c hc => by cases hc; exact ⟨rfl, rfl⟩)
def p_X5_bestShare_b105 (N : Nat) (rv49 : (Nat → Nat → Int32) → (Nat → Nat → Int64) → Int32 → Int32 → Int32 → Int32 → Option (Int32 × (Nat → Nat → Int32) × (Nat → Nat → Int64))) (G : Nat → Nat → Int32) (J : Nat → Nat → Int64) (x1 : Int32) (x2 : Int32) (x3 : Int32) (x4 : Int32) : Option (Int32 × (Nat → Nat → Int32) × (Nat → Nat → Int64)) :=
  rv49 G J x1 x2 x3 (x4 + 1)
def p_X5_bestShare_b49 (N : Nat) : Nat → (Nat → Nat → Int32) → (Nat → Nat → Int64) → (Int32) → (Int32) → (Int32) → (Int32) → Option (Int32 × (Nat → Nat → Int32) × (Nat → Nat → Int64))
  | 0, _, _, _, _, _, _ => none
  | n + 1, G, J, x1, x2, x3, x4 => if (100 : Int32) < x4 then (some (x3, G, J)) else (if x1 ≤ x2 then (some (x3, G, J)) else (jlt (jup G 10 4 x4) fun G11 => (p_X1_play N (jv2 G11 24 11 10) (jv2 J 24 11 10)).bind (fun v14 => jlt (jp2 G11 24 11 10 9 v14.1) fun G15 => jlt (jp2 J 24 11 10 9 v14.2) fun J17 => (p_J6_bitCount_0f7a4 N (G15 24 0)).bind (fun v20 => if v20 ≤ x2 then (p_X5_bestShare_b105 N (p_X5_bestShare_b49 N n) G15 J17 x1 x2 x3 x4) else (p_X5_bestShare_b105 N (p_X5_bestShare_b49 N n) G15 J17 x1 v20 x4 x4)))))
def p_X5_bestShare (N : Nat) (G : Nat → Nat → Int32) (J : Nat → Nat → Int64) : Option (Int32 × (Nat → Nat → Int32) × (Nat → Nat → Int64)) :=
  (p_X1_lay N (jv2 G 24 11 1) (jv2 J 24 11 1) (1 : Int32) (0 : Int32)).bind (fun v2 => jlt (jp2 G 24 11 1 9 v2.2) fun G3 => if v2.1 = 0 then (some ((-100000 : Int32), G3, J)) else ((p_X3_copyFrom N (jv2 G3 10 9 1)).bind (fun v6 => jlt (jp2 G3 10 9 1 9 v6) fun G7 => (p_J6_bitCount_0f7a4 N (G7 1 8)).bind (fun v10 => p_X5_bestShare_b49 N N G7 J v10 (-1 : Int32) (0 : Int32) (0 : Int32)))))
set_option maxHeartbeats 4000000 in
set_option maxRecDepth 100000 in
theorem t_X5_bestShare_b105 {X : jX} {po : Option Value → jH → Prop} {px : String → jH → Prop} {sf : Bool} {B9 : Nat} (hM : jMX X kX5_bestShare RX5 tbX5 6 ⟨5, 0, 0, 117⟩ (some .int) 71) (hp : jPost X sf B9 po px) (N : Nat) (rv49 : (Nat → Nat → Int32) → (Nat → Nat → Int64) → Int32 → Int32 → Int32 → Int32 → Option (Int32 × (Nat → Nat → Int32) × (Nat → Nat → Int64))) {res : Int32 × (Nat → Nat → Int32) × (Nat → Nat → Int64)} (ih49 : ∀ (G : Nat → Nat → Int32) (J : Nat → Nat → Int64) (x1 : Int32) (x2 : Int32) (x3 : Int32) (x4 : Int32), rv49 G J x1 x2 x3 x4 = some res → JW X 0 0 49 [some (.ref 0), some (.int x1), some (.int x2), some (.int x3), some (.int x4), none] [] (hX G J)) (G : Nat → Nat → Int32) (J : Nat → Nat → Int64) (x1 : Int32) (x2 : Int32) (x3 : Int32) (x4 : Int32) (h : p_X5_bestShare_b105 N rv49 G J x1 x2 x3 x4 = some res) (hq : po (some (.int res.1)) (hX res.2.1 res.2.2)) : JW X 0 0 105 [some (.ref 0), some (.int x1), some (.int x2), some (.int x3), some (.int x4), none] [] (hX G J) := by
  unfold p_X5_bestShare_b105 at h
  refine JW.r hM 53 2 (pc2 := 49) (L2 := [some (.ref 0), some (.int x1), some (.int x2), some (.int x3), some (.int (x4 + 1)), none]) (st2 := []) (μ2 := (hX G J)) rfl trivial ?_
  exact ih49 G J x1 x2 x3 (x4 + 1) h
set_option maxHeartbeats 4000000 in
set_option maxRecDepth 100000 in
theorem t_X5_bestShare_b49 {X : jX} {po : Option Value → jH → Prop} {px : String → jH → Prop} {sf : Bool} {B9 : Nat} (hM : jMX X kX5_bestShare RX5 tbX5 6 ⟨5, 0, 0, 117⟩ (some .int) 71) (hp : jPost X sf B9 po px) (N : Nat) {res : Int32 × (Nat → Nat → Int32) × (Nat → Nat → Int64)} : ∀ (n : Nat) (G : Nat → Nat → Int32) (J : Nat → Nat → Int64) (x1 : Int32) (x2 : Int32) (x3 : Int32) (x4 : Int32) (h : p_X5_bestShare_b49 N n G J x1 x2 x3 x4 = some res) (hq : po (some (.int res.1)) (hX res.2.1 res.2.2)), JW X 0 0 49 [some (.ref 0), some (.int x1), some (.int x2), some (.int x3), some (.int x4), none] [] (hX G J) := by
  intro n
  induction n with
  | zero =>
    intro G J x1 x2 x3 x4 h hq
    cases (show (none : Option (Int32 × (Nat → Nat → Int32) × (Nat → Nat → Int64))) = some res from h)
  | succ n ih49 =>
    intro G J x1 x2 x3 x4 h hq
    have ih49 := fun G J x1 x2 x3 x4 h9 => ih49 G J x1 x2 x3 x4 h9 hq
    rw [p_X5_bestShare_b49] at h
    refine JW.r hM 26 2 (pc2 := 53) (L2 := [some (.ref 0), some (.int x1), some (.int x2), some (.int x3), some (.int x4), none]) (st2 := [.int (100 : Int32), .int x4]) (μ2 := (hX G J)) rfl trivial ?_
    refine js_icgt (t := 111) hM.1 (jat hM.2.1 28 rfl) rfl (fun hc23 => ?_) (fun hc23 => ?_)
    · have h := (if_pos hc23).symm.trans h
      refine JW.r hM 55 1 (pc2 := 112) (L2 := [some (.ref 0), some (.int x1), some (.int x2), some (.int x3), some (.int x4), none]) (st2 := [.int x3]) (μ2 := (hX G J)) rfl trivial ?_
      obtain rfl := Option.some.inj h
      exact js_iret hM.1 hp hM.2.2.2.2.2.2.2.1 (by rw [hM.2.2.2.2.2.1]; exact Nat.le_of_ble_eq_true rfl) (by rw [hM.2.2.2.2.2.2.1]; exact Nat.le_of_ble_eq_true rfl) (jat hM.2.1 56 rfl) hq
    · have h := (if_neg hc23).symm.trans h
      refine JW.r hM 29 2 (pc2 := 58) (L2 := [some (.ref 0), some (.int x1), some (.int x2), some (.int x3), some (.int x4), none]) (st2 := [.int x1, .int x2]) (μ2 := (hX G J)) rfl trivial ?_
      refine js_icge (t := 111) hM.1 (jat hM.2.1 31 rfl) rfl (fun hc22 => ?_) (fun hc22 => ?_)
      · have h := (if_pos hc22).symm.trans h
        refine JW.r hM 55 1 (pc2 := 112) (L2 := [some (.ref 0), some (.int x1), some (.int x2), some (.int x3), some (.int x4), none]) (st2 := [.int x3]) (μ2 := (hX G J)) rfl trivial ?_
        obtain rfl := Option.some.inj h
        exact js_iret hM.1 hp hM.2.2.2.2.2.2.2.1 (by rw [hM.2.2.2.2.2.1]; exact Nat.le_of_ble_eq_true rfl) (by rw [hM.2.2.2.2.2.2.1]; exact Nat.le_of_ble_eq_true rfl) (jat hM.2.1 56 rfl) hq
      · have h := (if_neg hc22).symm.trans h
        obtain ⟨G11, e12, h⟩ := jlE h
        refine JW.r hM 32 4 (pc2 := 70) (L2 := [some (.ref 0), some (.int x1), some (.int x2), some (.int x3), some (.int x4), none]) (st2 := []) (μ2 := (hX (jup G 10 4 x4) J)) rfl trivial ?_
        rw [e12]
        refine JW.r hM 36 4 (pc2 := 78) (L2 := [some (.ref 0), some (.int x1), some (.int x2), some (.int x3), some (.int x4), none]) (st2 := [.ref 10, .ref 24]) (μ2 := (hX G11 J)) rfl trivial ?_
        obtain ⟨v14, hv13, h⟩ := jbd h
        refine JW.cV (v := none) hM (m_X1_play (jVX X) hM.1.2.2.2.2.2.2.2.2.2.1 N (jv2 G11 24 11 10) (jv2 J 24 11 10) v14 hv13) (sb_X_ET_24_10 G11 J) (bk_X_ET_24_10 G11 J v14.1 v14.2) rfl rfl rfl kc_X5_259 rfl rfl rfl rfl rfl (jat hM.2.1 40 rfl) (st := []) rfl ?_
        show JW X 0 0 81 [some (.ref 0), some (.int x1), some (.int x2), some (.int x3), some (.int x4), none] [] (hX (jp2 G11 24 11 10 9 v14.1) (jp2 J 24 11 10 9 v14.2))
        obtain ⟨G15, e16, h⟩ := jlE h
        rw [e16]
        obtain ⟨J17, e18, h⟩ := jlE h
        rw [e18]
        refine JW.r hM 41 3 (pc2 := 88) (L2 := [some (.ref 0), some (.int x1), some (.int x2), some (.int x3), some (.int x4), none]) (st2 := [.int (G15 24 0)]) (μ2 := (hX G15 J17)) rfl trivial ?_
        obtain ⟨v20, hv19, h⟩ := jbd h
        refine JW.cS (v := some (.int v20)) hM (m_J6_bitCount_0f7a4 (jVX X) hM.1.2.2.2.2.2.2.2.2.2.1 N (G15 24 0) v20 hv19) (sb_X_E_ G15 J17) (bi_X_E_ G15 J17) rfl rfl rfl kc_X5_125 rfl rfl rfl (jat hM.2.1 44 rfl) (st := []) rfl ?_
        show JW X 0 0 91 [some (.ref 0), some (.int x1), some (.int x2), some (.int x3), some (.int x4), none] [.int v20] (hX G15 J17)
        refine JW.r hM 45 3 (pc2 := 96) (L2 := [some (.ref 0), some (.int x1), some (.int x2), some (.int x3), some (.int x4), some (.int v20)]) (st2 := [.int x2, .int v20]) (μ2 := (hX G15 J17)) rfl trivial ?_
        refine js_icle (t := 105) hM.1 (jat hM.2.1 48 rfl) rfl (fun hc21 => ?_) (fun hc21 => ?_)
        · have h := (if_pos hc21).symm.trans h
          exact JW.mask [true, true, true, true, true, false] (t_X5_bestShare_b105 hM hp N (p_X5_bestShare_b49 N n) ih49 G15 J17 x1 x2 x3 x4 h hq)
        · have h := (if_neg hc21).symm.trans h
          refine JW.r hM 49 4 (pc2 := 105) (L2 := [some (.ref 0), some (.int x1), some (.int v20), some (.int x4), some (.int x4), some (.int v20)]) (st2 := []) (μ2 := (hX G15 J17)) rfl trivial ?_
          exact JW.mask [true, true, true, true, true, false] (t_X5_bestShare_b105 hM hp N (p_X5_bestShare_b49 N n) ih49 G15 J17 x1 v20 x4 x4 h hq)
set_option maxHeartbeats 4000000 in
set_option maxRecDepth 100000 in
theorem t_X5_bestShare {X : jX} {po : Option Value → jH → Prop} {px : String → jH → Prop} {sf : Bool} {B9 : Nat} (hM : jMX X kX5_bestShare RX5 tbX5 6 ⟨5, 0, 0, 117⟩ (some .int) 71) (hp : jPost X sf B9 po px) (N : Nat) (G : Nat → Nat → Int32) (J : Nat → Nat → Int64) {res : Int32 × (Nat → Nat → Int32) × (Nat → Nat → Int64)} (h : p_X5_bestShare N G J = some res) (hq : po (some (.int res.1)) (hX res.2.1 res.2.2)) : JW X 0 0 0 [some (.ref 0), none, none, none, none, none] [] (hX G J) := by
  unfold p_X5_bestShare at h
  refine JW.r hM 0 6 (pc2 := 10) (L2 := [some (.ref 0), none, none, none, none, none]) (st2 := [.int (0 : Int32), .int (1 : Int32), .ref 1, .ref 24]) (μ2 := (hX G J)) rfl trivial ?_
  obtain ⟨v2, hv1, h⟩ := jbd h
  refine JW.cV (v := some (.int v2.1)) hM (m_X1_lay (jVX X) hM.1.2.2.2.2.2.2.2.2.2.1 N (jv2 G 24 11 1) (jv2 J 24 11 1) (1 : Int32) (0 : Int32) v2 hv1) (sb_X_ET_24_1 G J) (bk_X_ET_24_1 G J v2.2 (jv2 J 24 11 1)) rfl rfl rfl kc_X5_254 rfl rfl rfl rfl rfl (jat hM.2.1 6 rfl) (st := []) rfl ?_
  show JW X 0 0 13 [some (.ref 0), none, none, none, none, none] [.int v2.1] (hX (jp2 G 24 11 1 9 v2.2) J)
  obtain ⟨G3, e4, h⟩ := jlE h
  rw [e4]
  refine js_ifne (t := 20) hM.1 (jat hM.2.1 7 rfl) rfl (fun hc24 => ?_) (fun hc24 => ?_)
  · have h := (if_neg hc24).symm.trans h
    refine JW.r hM 10 4 (pc2 := 28) (L2 := [some (.ref 0), none, none, none, none, none]) (st2 := [.ref 1, .ref 10]) (μ2 := (hX G3 J)) rfl trivial ?_
    obtain ⟨v6, hv5, h⟩ := jbd h
    refine JW.cV (v := none) hM (m_X3_copyFrom (jVX X) hM.1.2.2.2.2.2.2.2.2.2.1 N (jv2 G3 10 9 1) v6 hv5) (sb_X_T2_10_1 G3 J) (bk_X_T2_10_1 G3 J v6) rfl rfl rfl kc_X5_66 rfl rfl rfl rfl rfl (jat hM.2.1 14 rfl) (st := []) rfl ?_
    show JW X 0 0 31 [some (.ref 0), none, none, none, none, none] [] (hX (jp2 G3 10 9 1 9 v6) J)
    obtain ⟨G7, e8, h⟩ := jlE h
    rw [e8]
    refine JW.r hM 15 3 (pc2 := 38) (L2 := [some (.ref 0), none, none, none, none, none]) (st2 := [.int (G7 1 8)]) (μ2 := (hX G7 J)) rfl trivial ?_
    obtain ⟨v10, hv9, h⟩ := jbd h
    refine JW.cS (v := some (.int v10)) hM (m_J6_bitCount_0f7a4 (jVX X) hM.1.2.2.2.2.2.2.2.2.2.1 N (G7 1 8) v10 hv9) (sb_X_E_ G7 J) (bi_X_E_ G7 J) rfl rfl rfl kc_X5_125 rfl rfl rfl (jat hM.2.1 18 rfl) (st := []) rfl ?_
    show JW X 0 0 41 [some (.ref 0), none, none, none, none, none] [.int v10] (hX G7 J)
    refine JW.r hM 19 7 (pc2 := 49) (L2 := [some (.ref 0), some (.int v10), some (.int (-1 : Int32)), some (.int (0 : Int32)), some (.int (0 : Int32)), none]) (st2 := []) (μ2 := (hX G7 J)) rfl trivial ?_
    exact t_X5_bestShare_b49 hM hp N N G7 J v10 (-1 : Int32) (0 : Int32) (0 : Int32) h hq
  · have h := (if_pos hc24).symm.trans h
    refine JW.r hM 8 1 (pc2 := 19) (L2 := [some (.ref 0), none, none, none, none, none]) (st2 := [.int (-100000 : Int32)]) (μ2 := (hX G3 J)) rfl trivial ?_
    obtain rfl := Option.some.inj h
    exact js_iret hM.1 hp hM.2.2.2.2.2.2.2.1 (by rw [hM.2.2.2.2.2.1]; exact Nat.le_of_ble_eq_true rfl) (by rw [hM.2.2.2.2.2.2.1]; exact Nat.le_of_ble_eq_true rfl) (jat hM.2.1 9 rfl) hq
theorem m_X5_bestShare (V : jV) (hV : V.1.stackTraces = false) (N : Nat) (G : Nat → Nat → Int32) (J : Nat → Nat → Int64) (v : Int32 × (Nat → Nat → Int32) × (Nat → Nat → Int64)) (h : p_X5_bestShare N G J = some v) : jMet V yX5_bestShare (jws yX5_bestShare cX5_bestShare 6 (some .int)) ⟨5, 0, 0, 117⟩ true 1 [.ref 0] (hX G J) (fun o ν => o = some (.int v.1) ∧ ν = (hX v.2.1 v.2.2)) (fun _ _ => False) := by
  refine jmk (tb := tbX5) (C := kX5_bestShare) hV rfl (by decide) tbX5_ok rfl kX5_bestShare_ok rfl ?_
  intro X hM _ hp _
  exact t_X5_bestShare hM hp N G J h ⟨rfl, rfl⟩
def p_X5_share_b10 (N : Nat) (J : Nat → Nat → Int64) (G : Nat → Nat → Int32) : Option (Nat ⊕ (Int32 × (Nat → Nat → Int32))) :=
  some (.inl 3)
def p_X5_share (N : Nat) (G : Nat → Nat → Int32) (J : Nat → Nat → Int64) (p0 : Int32) : Option (Nat ⊕ (Int32 × (Nat → Nat → Int32))) :=
  if p0 < 0 then (p_X5_share_b10 N J G) else (if p0 ≤ (100 : Int32) then (jlt (jup G 1 4 p0) fun G1 => some (.inr ((G 1 4), G1))) else (p_X5_share_b10 N J G))
set_option maxHeartbeats 4000000 in
set_option maxRecDepth 100000 in
theorem t_X5_share_b10 {X : jX} {po : Option Value → jH → Prop} {px : String → jH → Prop} {sf : Bool} {B9 : Nat} (hM : jMX X kX5_share RX5 tbX5 3 ⟨6, 1, 6, 89⟩ (some .int) 71) (hp : jPost X sf B9 po px) (N : Nat) (J : Nat → Nat → Int64) {res : Nat ⊕ (Int32 × (Nat → Nat → Int32))} (G : Nat → Nat → Int32) (h : p_X5_share_b10 N J G = some res) (hq : ∀ w, res = Sum.inr w → po (some (.int w.1)) (hX w.2 J)) (hx : ∀ c, res = Sum.inl c → px (jEn c) (hX G J)) : JW X 0 0 10 [none, none, none] [] (hX G J) := by
  unfold p_X5_share_b10 at h
  obtain rfl := Option.some.inj h
  exact js_throw (ik := 56) (ic := 58) (names := ["java/lang/RuntimeException", "java/lang/Exception"]) hM.1 hp hM.2.2.2.2.2.2.2.2.2 (by decide) (by decide) (by rw [hM.2.2.1]; exact th_X5_56_58) (jat hM.2.1 5 rfl) (jat hM.2.1 6 rfl) (jat hM.2.1 7 rfl) (jat hM.2.1 8 rfl) (by rw [hM.2.2.2.2.1]; exact Nat.le_of_ble_eq_true rfl) (by rw [hM.2.2.2.2.1]; exact Nat.le_of_ble_eq_true rfl) (by rw [hM.2.2.2.2.2.1]; exact Nat.le_of_ble_eq_true rfl) (by rw [hM.2.2.2.2.2.2.1]; exact Nat.le_of_ble_eq_true rfl) (hx _ rfl)
set_option maxHeartbeats 4000000 in
set_option maxRecDepth 100000 in
theorem t_X5_share {X : jX} {po : Option Value → jH → Prop} {px : String → jH → Prop} {sf : Bool} {B9 : Nat} (hM : jMX X kX5_share RX5 tbX5 3 ⟨6, 1, 6, 89⟩ (some .int) 71) (hp : jPost X sf B9 po px) (N : Nat) (G : Nat → Nat → Int32) (J : Nat → Nat → Int64) (p0 : Int32) {res : Nat ⊕ (Int32 × (Nat → Nat → Int32))} (h : p_X5_share N G J p0 = some res) (hq : ∀ w, res = Sum.inr w → po (some (.int w.1)) (hX w.2 J)) (hx : ∀ c, res = Sum.inl c → px (jEn c) (hX G J)) : JW X 0 0 0 [some (.ref 0), some (.int p0), none] [] (hX G J) := by
  unfold p_X5_share at h
  refine JW.r hM 0 1 (pc2 := 1) (L2 := [some (.ref 0), some (.int p0), none]) (st2 := [.int p0]) (μ2 := (hX G J)) rfl trivial ?_
  refine js_iflt (t := 10) hM.1 (jat hM.2.1 1 rfl) rfl (fun hc4 => ?_) (fun hc4 => ?_)
  · have h := (if_pos hc4).symm.trans h
    exact JW.mask [false, false, false] (t_X5_share_b10 hM hp N J G h hq hx)
  · have h := (if_neg hc4).symm.trans h
    refine JW.r hM 2 2 (pc2 := 7) (L2 := [some (.ref 0), some (.int p0), none]) (st2 := [.int (100 : Int32), .int p0]) (μ2 := (hX G J)) rfl trivial ?_
    refine js_icle (t := 18) hM.1 (jat hM.2.1 4 rfl) rfl (fun hc3 => ?_) (fun hc3 => ?_)
    · have h := (if_pos hc3).symm.trans h
      obtain ⟨G1, e2, h⟩ := jlE h
      refine JW.r hM 9 8 (pc2 := 34) (L2 := [some (.ref 0), some (.int p0), some (.int (G 1 4))]) (st2 := []) (μ2 := (hX (jup G 1 4 p0) J)) rfl trivial ?_
      rw [e2]
      refine JW.r hM 17 1 (pc2 := 35) (L2 := [some (.ref 0), some (.int p0), some (.int (G 1 4))]) (st2 := [.int (G 1 4)]) (μ2 := (hX G1 J)) rfl trivial ?_
      obtain rfl := Option.some.inj h
      exact js_iret hM.1 hp hM.2.2.2.2.2.2.2.1 (by rw [hM.2.2.2.2.2.1]; exact Nat.le_of_ble_eq_true rfl) (by rw [hM.2.2.2.2.2.2.1]; exact Nat.le_of_ble_eq_true rfl) (jat hM.2.1 18 rfl) (hq ((G 1 4), G1) rfl)
    · have h := (if_neg hc3).symm.trans h
      exact JW.mask [false, false, false] (t_X5_share_b10 hM hp N J G h hq hx)
theorem m_X5_share_r (V : jV) (hV : V.1.stackTraces = false) (N : Nat) (G : Nat → Nat → Int32) (J : Nat → Nat → Int64) (p0 : Int32) (v : (Int32 × (Nat → Nat → Int32))) (h : p_X5_share N G J p0 = some (.inr v)) : jMet V yX5_share (jws yX5_share cX5_share 3 (some .int)) ⟨6, 1, 6, 89⟩ true 1 [.ref 0, .int p0] (hX G J) (fun o ν => o = some (.int v.1) ∧ ν = (hX v.2 J)) (fun _ _ => False) := by
  refine jmk (tb := tbX5) (C := kX5_share) hV rfl (by decide) tbX5_ok rfl kX5_share_ok rfl ?_
  intro X hM _ hp _
  exact t_X5_share hM hp N G J p0 h (fun w hw => by cases hw; exact ⟨rfl, rfl⟩) (fun c hc => by cases hc)
theorem m_X5_share_x (V : jV) (hV : V.1.stackTraces = false) (N : Nat) (G : Nat → Nat → Int32) (J : Nat → Nat → Int64) (p0 : Int32) (c : Nat) (h : p_X5_share N G J p0 = some (.inl c)) : jMet V yX5_share (jws yX5_share cX5_share 3 (some .int)) ⟨6, 1, 6, 89⟩ true 1 [.ref 0, .int p0] (hX G J) (fun _ _ => False) (fun E ν => E = jEn c ∧ ν = (hX G J)) := by
  refine jmk (tb := tbX5) (C := kX5_share) hV rfl (by decide) tbX5_ok rfl kX5_share_ok rfl ?_
  intro X hM _ hp _
  exact t_X5_share hM hp N G J p0 h (fun w hw => by cases hw) (fun c hc => by cases hc; exact ⟨rfl, rfl⟩)
def p_X5_hope_b61 (N : Nat) (G : Nat → Nat → Int32) (J : Nat → Nat → Int64) : Option (Nat ⊕ (Int32)) :=
  some (.inl 3)
def p_X5_hope (N : Nat) (G : Nat → Nat → Int32) (J : Nat → Nat → Int64) (p0 : Int32) (p1 : Int32) (p2 : Int32) (p3 : Int32) : Option (Nat ⊕ (Int32)) :=
  jbx (p_X5_needDeed N G J p0) (fun v2 => jbx (p_X5_needTray N G J p1) (fun v4 => if v4 = 62 then ((p_X3_isOpen N (jvw G 1) p0).bind (fun v6 => if v6 = 0 then (some (.inl 2)) else (if p2 < (1 : Int32) then (p_X5_hope_b61 N G J) else (if (6 : Int32) < p2 then (p_X5_hope_b61 N G J) else (if p3 < 0 then (p_X5_hope_b61 N G J) else (if (2 : Int32) < p3 then (p_X5_hope_b61 N G J) else ((p_X4_isOffers N (jvw G 62) (jvw J 62)).bind (fun v8 => if v8 = 0 then (p_X5_hope_b61 N G J) else (if jin p0 30 = true then (p_X3_gainOf N (jvw G 1) p0 (G 6 p0.toNatClampNeg)).bind (fun v11 => if jin p0 30 = true then (p_X3_worthTo N (jvw G 1) (G 5 p0.toNatClampNeg) (G 6 p0.toNatClampNeg)).bind (fun v14 => (p_X4_hopeIn N (jvw G 62) (jvw J 62) ((v11.toInt64) - (v14.toInt64)) p2 p3).bind (fun v16 => some (.inr v16))) else none) else none))))))))) else (if v4 = 64 then ((p_X3_isOpen N (jvw G 1) p0).bind (fun v24 => if v24 = 0 then (some (.inl 2)) else (if p2 < (1 : Int32) then (p_X5_hope_b61 N G J) else (if (6 : Int32) < p2 then (p_X5_hope_b61 N G J) else (if p3 < 0 then (p_X5_hope_b61 N G J) else (if (2 : Int32) < p3 then (p_X5_hope_b61 N G J) else ((p_X4_isOffers N (jvw G 64) (jvw J 64)).bind (fun v26 => if v26 = 0 then (p_X5_hope_b61 N G J) else (if jin p0 30 = true then (p_X3_gainOf N (jvw G 1) p0 (G 6 p0.toNatClampNeg)).bind (fun v29 => if jin p0 30 = true then (p_X3_worthTo N (jvw G 1) (G 5 p0.toNatClampNeg) (G 6 p0.toNatClampNeg)).bind (fun v32 => (p_X4_hopeIn N (jvw G 64) (jvw J 64) ((v29.toInt64) - (v32.toInt64)) p2 p3).bind (fun v34 => some (.inr v34))) else none) else none))))))))) else (if v4 = 66 then ((p_X3_isOpen N (jvw G 1) p0).bind (fun v42 => if v42 = 0 then (some (.inl 2)) else (if p2 < (1 : Int32) then (p_X5_hope_b61 N G J) else (if (6 : Int32) < p2 then (p_X5_hope_b61 N G J) else (if p3 < 0 then (p_X5_hope_b61 N G J) else (if (2 : Int32) < p3 then (p_X5_hope_b61 N G J) else ((p_X4_isOffers N (jvw G 66) (jvw J 66)).bind (fun v44 => if v44 = 0 then (p_X5_hope_b61 N G J) else (if jin p0 30 = true then (p_X3_gainOf N (jvw G 1) p0 (G 6 p0.toNatClampNeg)).bind (fun v47 => if jin p0 30 = true then (p_X3_worthTo N (jvw G 1) (G 5 p0.toNatClampNeg) (G 6 p0.toNatClampNeg)).bind (fun v50 => (p_X4_hopeIn N (jvw G 66) (jvw J 66) ((v47.toInt64) - (v50.toInt64)) p2 p3).bind (fun v52 => some (.inr v52))) else none) else none))))))))) else (if v4 = 68 then ((p_X3_isOpen N (jvw G 1) p0).bind (fun v60 => if v60 = 0 then (some (.inl 2)) else (if p2 < (1 : Int32) then (p_X5_hope_b61 N G J) else (if (6 : Int32) < p2 then (p_X5_hope_b61 N G J) else (if p3 < 0 then (p_X5_hope_b61 N G J) else (if (2 : Int32) < p3 then (p_X5_hope_b61 N G J) else ((p_X4_isOffers N (jvw G 68) (jvw J 68)).bind (fun v62 => if v62 = 0 then (p_X5_hope_b61 N G J) else (if jin p0 30 = true then (p_X3_gainOf N (jvw G 1) p0 (G 6 p0.toNatClampNeg)).bind (fun v65 => if jin p0 30 = true then (p_X3_worthTo N (jvw G 1) (G 5 p0.toNatClampNeg) (G 6 p0.toNatClampNeg)).bind (fun v68 => (p_X4_hopeIn N (jvw G 68) (jvw J 68) ((v65.toInt64) - (v68.toInt64)) p2 p3).bind (fun v70 => some (.inr v70))) else none) else none))))))))) else (none))))))
set_option maxHeartbeats 4000000 in
set_option maxRecDepth 100000 in
theorem t_X5_hope_b61 {X : jX} {po : Option Value → jH → Prop} {px : String → jH → Prop} {sf : Bool} {B9 : Nat} (hM : jMX X kX5_hope RX5 tbX5 9 ⟨7, 3, 18, 110⟩ (some .int) 71) (hp : jPost X sf B9 po px) (N : Nat) (G : Nat → Nat → Int32) (J : Nat → Nat → Int64) {res : Nat ⊕ (Int32)} (h : p_X5_hope_b61 N G J = some res) (hq : ∀ w, res = Sum.inr w → po (some (.int w)) (hX G J)) (hx : ∀ c, res = Sum.inl c → px (jEn c) (hX G J)) : JW X 2 12 61 [none, none, none, none, none, none, none, none, none] [] (hX G J) := by
  unfold p_X5_hope_b61 at h
  obtain rfl := Option.some.inj h
  exact js_throw (ik := 56) (ic := 58) (names := ["java/lang/RuntimeException", "java/lang/Exception"]) hM.1 hp hM.2.2.2.2.2.2.2.2.2 (by decide) (by decide) (by rw [hM.2.2.1]; exact th_X5_56_58) (jat hM.2.1 30 rfl) (jat hM.2.1 31 rfl) (jat hM.2.1 32 rfl) (jat hM.2.1 33 rfl) (by rw [hM.2.2.2.2.1]; exact Nat.le_of_ble_eq_true rfl) (by rw [hM.2.2.2.2.1]; exact Nat.le_of_ble_eq_true rfl) (by rw [hM.2.2.2.2.2.1]; exact Nat.le_of_ble_eq_true rfl) (by rw [hM.2.2.2.2.2.2.1]; exact Nat.le_of_ble_eq_true rfl) (hx _ rfl)
set_option maxHeartbeats 4000000 in
set_option maxRecDepth 100000 in
theorem t_X5_hope {X : jX} {po : Option Value → jH → Prop} {px : String → jH → Prop} {sf : Bool} {B9 : Nat} (hM : jMX X kX5_hope RX5 tbX5 9 ⟨7, 3, 18, 110⟩ (some .int) 71) (hp : jPost X sf B9 po px) (N : Nat) (G : Nat → Nat → Int32) (J : Nat → Nat → Int64) (p0 : Int32) (p1 : Int32) (p2 : Int32) (p3 : Int32) {res : Nat ⊕ (Int32)} (h : p_X5_hope N G J p0 p1 p2 p3 = some res) (hq : ∀ w, res = Sum.inr w → po (some (.int w)) (hX G J)) (hx : ∀ c, res = Sum.inl c → px (jEn c) (hX G J)) : JW X 0 0 0 [some (.ref 0), some (.int p0), some (.int p1), some (.int p2), some (.int p3), none, none, none, none] [] (hX G J) := by
  unfold p_X5_hope at h
  refine JW.r hM 0 2 (pc2 := 2) (L2 := [some (.ref 0), some (.int p0), some (.int p1), some (.int p2), some (.int p3), none, none, none, none]) (st2 := [.int p0, .ref 0]) (μ2 := (hX G J)) rfl trivial ?_
  rcases jbxE h with h | h
  · obtain ⟨v2, hv1, h⟩ := h
    refine JW.cV (v := none) hM (m_X5_needDeed_r (jVX X) hM.1.2.2.2.2.2.2.2.2.2.1 N G J p0 v2 hv1) (sb_X_X_0 G J) (bi_X_X_0 G J) rfl rfl rfl kc_X5_140 rfl rfl rfl rfl rfl (jat hM.2.1 2 rfl) (st := []) rfl ?_
    show JW X 1 6 5 [some (.ref 0), some (.int p0), some (.int p1), some (.int p2), some (.int p3), none, none, none, none] [] (hX G J)
    refine JW.r hM 3 2 (pc2 := 7) (L2 := [some (.ref 0), some (.int p0), some (.int p1), some (.int p2), some (.int p3), none, none, none, none]) (st2 := [.int p1, .ref 0]) (μ2 := (hX G J)) rfl trivial ?_
    rcases jbxE h with h | h
    · obtain ⟨v4, hv3, h⟩ := h
      refine JW.cV (v := some (.ref v4)) hM (m_X5_needTray_r (jVX X) hM.1.2.2.2.2.2.2.2.2.2.1 N G J p1 v4 hv3) (sb_X_X_0 G J) (bi_X_X_0 G J) rfl rfl rfl kc_X5_183 rfl rfl rfl rfl rfl (jat hM.2.1 5 rfl) (st := []) rfl ?_
      by_cases hc80 : v4 = 62
      · subst hc80
        have h := (if_pos rfl).symm.trans h
        show JW X 2 12 10 [some (.ref 0), some (.int p0), some (.int p1), some (.int p2), some (.int p3), none, none, none, none] [.ref 62] (hX G J)
        refine JW.r hM 6 4 (pc2 := 17) (L2 := [some (.ref 0), some (.int p0), some (.int p1), some (.int p2), some (.int p3), some (.ref 62), none, none, none]) (st2 := [.int p0, .ref 1]) (μ2 := (hX G J)) rfl trivial ?_
        obtain ⟨v6, hv5, h⟩ := jbd h
        refine JW.cV (v := some (.int v6)) hM (m_X3_isOpen (jVX X) hM.1.2.2.2.2.2.2.2.2.2.1 N (jvw G 1) p0 v6 hv5) (sb_X_Town_1 G J) (bi_X_Town_1 G J) rfl rfl rfl kc_X5_217 rfl rfl rfl rfl rfl (jat hM.2.1 10 rfl) (st := []) rfl ?_
        show JW X 2 12 20 [some (.ref 0), some (.int p0), some (.int p1), some (.int p2), some (.int p3), some (.ref 62), none, none, none] [.int v6] (hX G J)
        refine js_ifne (t := 31) hM.1 (jat hM.2.1 11 rfl) rfl (fun hc22 => ?_) (fun hc22 => ?_)
        · have h := (if_neg hc22).symm.trans h
          refine JW.r hM 16 2 (pc2 := 33) (L2 := [some (.ref 0), some (.int p0), some (.int p1), some (.int p2), some (.int p3), some (.ref 62), none, none, none]) (st2 := [.int (1 : Int32), .int p2]) (μ2 := (hX G J)) rfl trivial ?_
          refine js_iclt (t := 61) hM.1 (jat hM.2.1 18 rfl) rfl (fun hc21 => ?_) (fun hc21 => ?_)
          · have h := (if_pos hc21).symm.trans h
            exact JW.mask [false, false, false, false, false, false, false, false, false] (t_X5_hope_b61 hM hp N G J h hq hx)
          · have h := (if_neg hc21).symm.trans h
            refine JW.r hM 19 2 (pc2 := 39) (L2 := [some (.ref 0), some (.int p0), some (.int p1), some (.int p2), some (.int p3), some (.ref 62), none, none, none]) (st2 := [.int (6 : Int32), .int p2]) (μ2 := (hX G J)) rfl trivial ?_
            refine js_icgt (t := 61) hM.1 (jat hM.2.1 21 rfl) rfl (fun hc20 => ?_) (fun hc20 => ?_)
            · have h := (if_pos hc20).symm.trans h
              exact JW.mask [false, false, false, false, false, false, false, false, false] (t_X5_hope_b61 hM hp N G J h hq hx)
            · have h := (if_neg hc20).symm.trans h
              refine JW.r hM 22 1 (pc2 := 44) (L2 := [some (.ref 0), some (.int p0), some (.int p1), some (.int p2), some (.int p3), some (.ref 62), none, none, none]) (st2 := [.int p3]) (μ2 := (hX G J)) rfl trivial ?_
              refine js_iflt (t := 61) hM.1 (jat hM.2.1 23 rfl) rfl (fun hc19 => ?_) (fun hc19 => ?_)
              · have h := (if_pos hc19).symm.trans h
                exact JW.mask [false, false, false, false, false, false, false, false, false] (t_X5_hope_b61 hM hp N G J h hq hx)
              · have h := (if_neg hc19).symm.trans h
                refine JW.r hM 24 2 (pc2 := 50) (L2 := [some (.ref 0), some (.int p0), some (.int p1), some (.int p2), some (.int p3), some (.ref 62), none, none, none]) (st2 := [.int (2 : Int32), .int p3]) (μ2 := (hX G J)) rfl trivial ?_
                refine js_icgt (t := 61) hM.1 (jat hM.2.1 26 rfl) rfl (fun hc18 => ?_) (fun hc18 => ?_)
                · have h := (if_pos hc18).symm.trans h
                  exact JW.mask [false, false, false, false, false, false, false, false, false] (t_X5_hope_b61 hM hp N G J h hq hx)
                · have h := (if_neg hc18).symm.trans h
                  refine JW.r hM 27 1 (pc2 := 55) (L2 := [some (.ref 0), some (.int p0), some (.int p1), some (.int p2), some (.int p3), some (.ref 62), none, none, none]) (st2 := [.ref 62]) (μ2 := (hX G J)) rfl trivial ?_
                  obtain ⟨v8, hv7, h⟩ := jbd h
                  refine JW.cV (v := some (.int v8)) hM (m_X4_isOffers (jVX X) hM.1.2.2.2.2.2.2.2.2.2.1 N (jvw G 62) (jvw J 62) v8 hv7) (sb_X_Tray_62 G J) (bi_X_Tray_62 G J) rfl rfl rfl kc_X5_287 rfl rfl rfl rfl rfl (jat hM.2.1 28 rfl) (st := []) rfl ?_
                  show JW X 2 12 58 [some (.ref 0), some (.int p0), some (.int p1), some (.int p2), some (.int p3), some (.ref 62), none, none, none] [.int v8] (hX G J)
                  refine js_ifne (t := 69) hM.1 (jat hM.2.1 29 rfl) rfl (fun hc17 => ?_) (fun hc17 => ?_)
                  · have h := (if_neg hc17).symm.trans h
                    obtain ⟨g9, h⟩ := jg h
                    refine JW.r hM 34 10 (pc2 := 87) (L2 := [some (.ref 0), some (.int p0), some (.int p1), some (.int p2), some (.int p3), some (.ref 62), some (.int (G 6 p0.toNatClampNeg)), none, none]) (st2 := [.int (G 6 p0.toNatClampNeg), .int p0, .ref 1]) (μ2 := (hX G J)) rfl ⟨g9, trivial⟩ ?_
                    obtain ⟨v11, hv10, h⟩ := jbd h
                    refine JW.cV (v := some (.int v11)) hM (m_X3_gainOf (jVX X) hM.1.2.2.2.2.2.2.2.2.2.1 N (jvw G 1) p0 (G 6 p0.toNatClampNeg) v11 hv10) (sb_X_Town_1 G J) (bi_X_Town_1 G J) rfl rfl rfl kc_X5_220 rfl rfl rfl rfl rfl (jat hM.2.1 44 rfl) (st := []) rfl ?_
                    show JW X 2 12 90 [some (.ref 0), some (.int p0), some (.int p1), some (.int p2), some (.int p3), some (.ref 62), some (.int (G 6 p0.toNatClampNeg)), none, none] [.int v11] (hX G J)
                    obtain ⟨g12, h⟩ := jg h
                    refine JW.r hM 45 9 (pc2 := 106) (L2 := [some (.ref 0), some (.int p0), some (.int p1), some (.int p2), some (.int p3), some (.ref 62), some (.int (G 6 p0.toNatClampNeg)), none, none]) (st2 := [.int (G 6 p0.toNatClampNeg), .int (G 5 p0.toNatClampNeg), .ref 1, .long (v11.toInt64)]) (μ2 := (hX G J)) rfl ⟨g12, trivial⟩ ?_
                    obtain ⟨v14, hv13, h⟩ := jbd h
                    refine JW.cV (v := some (.int v14)) hM (m_X3_worthTo (jVX X) hM.1.2.2.2.2.2.2.2.2.2.1 N (jvw G 1) (G 5 p0.toNatClampNeg) (G 6 p0.toNatClampNeg) v14 hv13) (sb_X_Town_1 G J) (bi_X_Town_1 G J) rfl rfl rfl kc_X5_93 rfl rfl rfl rfl rfl (jat hM.2.1 54 rfl) (st := [.long (v11.toInt64)]) rfl ?_
                    show JW X 2 12 109 [some (.ref 0), some (.int p0), some (.int p1), some (.int p2), some (.int p3), some (.ref 62), some (.int (G 6 p0.toNatClampNeg)), none, none] [.int v14, .long (v11.toInt64)] (hX G J)
                    refine JW.r hM 55 7 (pc2 := 120) (L2 := [some (.ref 0), some (.int p0), some (.int p1), some (.int p2), some (.int p3), some (.ref 62), some (.int (G 6 p0.toNatClampNeg)), some (.long ((v11.toInt64) - (v14.toInt64))), none]) (st2 := [.int p3, .int p2, .long ((v11.toInt64) - (v14.toInt64)), .ref 62]) (μ2 := (hX G J)) rfl trivial ?_
                    obtain ⟨v16, hv15, h⟩ := jbd h
                    refine JW.cV (v := some (.int v16)) hM (m_X4_hopeIn (jVX X) hM.1.2.2.2.2.2.2.2.2.2.1 N (jvw G 62) (jvw J 62) ((v11.toInt64) - (v14.toInt64)) p2 p3 v16 hv15) (sb_X_Tray_62 G J) (bi_X_Tray_62 G J) rfl rfl rfl kc_X5_290 rfl rfl rfl rfl rfl (jat hM.2.1 62 rfl) (st := []) rfl ?_
                    show JW X 2 12 123 [some (.ref 0), some (.int p0), some (.int p1), some (.int p2), some (.int p3), some (.ref 62), some (.int (G 6 p0.toNatClampNeg)), some (.long ((v11.toInt64) - (v14.toInt64))), none] [.int v16] (hX G J)
                    obtain rfl := Option.some.inj h
                    exact js_iret hM.1 hp hM.2.2.2.2.2.2.2.1 (by rw [hM.2.2.2.2.2.1]; exact Nat.le_of_ble_eq_true rfl) (by rw [hM.2.2.2.2.2.2.1]; exact Nat.le_of_ble_eq_true rfl) (jat hM.2.1 63 rfl) (hq v16 rfl)
                  · have h := (if_pos hc17).symm.trans h
                    exact JW.mask [false, false, false, false, false, false, false, false, false] (t_X5_hope_b61 hM hp N G J h hq hx)
        · have h := (if_pos hc22).symm.trans h
          obtain rfl := Option.some.inj h
          exact js_throw (ik := 119) (ic := 121) (names := ["java/lang/RuntimeException", "java/lang/Exception"]) hM.1 hp hM.2.2.2.2.2.2.2.2.2 (by decide) (by decide) (by rw [hM.2.2.1]; exact th_X5_119_121) (jat hM.2.1 12 rfl) (jat hM.2.1 13 rfl) (jat hM.2.1 14 rfl) (jat hM.2.1 15 rfl) (by rw [hM.2.2.2.2.1]; exact Nat.le_of_ble_eq_true rfl) (by rw [hM.2.2.2.2.1]; exact Nat.le_of_ble_eq_true rfl) (by rw [hM.2.2.2.2.2.1]; exact Nat.le_of_ble_eq_true rfl) (by rw [hM.2.2.2.2.2.2.1]; exact Nat.le_of_ble_eq_true rfl) (hx _ rfl)
      · have h := (if_neg hc80).symm.trans h
        by_cases hc79 : v4 = 64
        · subst hc79
          have h := (if_pos rfl).symm.trans h
          show JW X 2 12 10 [some (.ref 0), some (.int p0), some (.int p1), some (.int p2), some (.int p3), none, none, none, none] [.ref 64] (hX G J)
          refine JW.r hM 6 4 (pc2 := 17) (L2 := [some (.ref 0), some (.int p0), some (.int p1), some (.int p2), some (.int p3), some (.ref 64), none, none, none]) (st2 := [.int p0, .ref 1]) (μ2 := (hX G J)) rfl trivial ?_
          obtain ⟨v24, hv23, h⟩ := jbd h
          refine JW.cV (v := some (.int v24)) hM (m_X3_isOpen (jVX X) hM.1.2.2.2.2.2.2.2.2.2.1 N (jvw G 1) p0 v24 hv23) (sb_X_Town_1 G J) (bi_X_Town_1 G J) rfl rfl rfl kc_X5_217 rfl rfl rfl rfl rfl (jat hM.2.1 10 rfl) (st := []) rfl ?_
          show JW X 2 12 20 [some (.ref 0), some (.int p0), some (.int p1), some (.int p2), some (.int p3), some (.ref 64), none, none, none] [.int v24] (hX G J)
          refine js_ifne (t := 31) hM.1 (jat hM.2.1 11 rfl) rfl (fun hc40 => ?_) (fun hc40 => ?_)
          · have h := (if_neg hc40).symm.trans h
            refine JW.r hM 16 2 (pc2 := 33) (L2 := [some (.ref 0), some (.int p0), some (.int p1), some (.int p2), some (.int p3), some (.ref 64), none, none, none]) (st2 := [.int (1 : Int32), .int p2]) (μ2 := (hX G J)) rfl trivial ?_
            refine js_iclt (t := 61) hM.1 (jat hM.2.1 18 rfl) rfl (fun hc39 => ?_) (fun hc39 => ?_)
            · have h := (if_pos hc39).symm.trans h
              exact JW.mask [false, false, false, false, false, false, false, false, false] (t_X5_hope_b61 hM hp N G J h hq hx)
            · have h := (if_neg hc39).symm.trans h
              refine JW.r hM 19 2 (pc2 := 39) (L2 := [some (.ref 0), some (.int p0), some (.int p1), some (.int p2), some (.int p3), some (.ref 64), none, none, none]) (st2 := [.int (6 : Int32), .int p2]) (μ2 := (hX G J)) rfl trivial ?_
              refine js_icgt (t := 61) hM.1 (jat hM.2.1 21 rfl) rfl (fun hc38 => ?_) (fun hc38 => ?_)
              · have h := (if_pos hc38).symm.trans h
                exact JW.mask [false, false, false, false, false, false, false, false, false] (t_X5_hope_b61 hM hp N G J h hq hx)
              · have h := (if_neg hc38).symm.trans h
                refine JW.r hM 22 1 (pc2 := 44) (L2 := [some (.ref 0), some (.int p0), some (.int p1), some (.int p2), some (.int p3), some (.ref 64), none, none, none]) (st2 := [.int p3]) (μ2 := (hX G J)) rfl trivial ?_
                refine js_iflt (t := 61) hM.1 (jat hM.2.1 23 rfl) rfl (fun hc37 => ?_) (fun hc37 => ?_)
                · have h := (if_pos hc37).symm.trans h
                  exact JW.mask [false, false, false, false, false, false, false, false, false] (t_X5_hope_b61 hM hp N G J h hq hx)
                · have h := (if_neg hc37).symm.trans h
                  refine JW.r hM 24 2 (pc2 := 50) (L2 := [some (.ref 0), some (.int p0), some (.int p1), some (.int p2), some (.int p3), some (.ref 64), none, none, none]) (st2 := [.int (2 : Int32), .int p3]) (μ2 := (hX G J)) rfl trivial ?_
                  refine js_icgt (t := 61) hM.1 (jat hM.2.1 26 rfl) rfl (fun hc36 => ?_) (fun hc36 => ?_)
                  · have h := (if_pos hc36).symm.trans h
                    exact JW.mask [false, false, false, false, false, false, false, false, false] (t_X5_hope_b61 hM hp N G J h hq hx)
                  · have h := (if_neg hc36).symm.trans h
                    refine JW.r hM 27 1 (pc2 := 55) (L2 := [some (.ref 0), some (.int p0), some (.int p1), some (.int p2), some (.int p3), some (.ref 64), none, none, none]) (st2 := [.ref 64]) (μ2 := (hX G J)) rfl trivial ?_
                    obtain ⟨v26, hv25, h⟩ := jbd h
                    refine JW.cV (v := some (.int v26)) hM (m_X4_isOffers (jVX X) hM.1.2.2.2.2.2.2.2.2.2.1 N (jvw G 64) (jvw J 64) v26 hv25) (sb_X_Tray_64 G J) (bi_X_Tray_64 G J) rfl rfl rfl kc_X5_287 rfl rfl rfl rfl rfl (jat hM.2.1 28 rfl) (st := []) rfl ?_
                    show JW X 2 12 58 [some (.ref 0), some (.int p0), some (.int p1), some (.int p2), some (.int p3), some (.ref 64), none, none, none] [.int v26] (hX G J)
                    refine js_ifne (t := 69) hM.1 (jat hM.2.1 29 rfl) rfl (fun hc35 => ?_) (fun hc35 => ?_)
                    · have h := (if_neg hc35).symm.trans h
                      obtain ⟨g27, h⟩ := jg h
                      refine JW.r hM 34 10 (pc2 := 87) (L2 := [some (.ref 0), some (.int p0), some (.int p1), some (.int p2), some (.int p3), some (.ref 64), some (.int (G 6 p0.toNatClampNeg)), none, none]) (st2 := [.int (G 6 p0.toNatClampNeg), .int p0, .ref 1]) (μ2 := (hX G J)) rfl ⟨g27, trivial⟩ ?_
                      obtain ⟨v29, hv28, h⟩ := jbd h
                      refine JW.cV (v := some (.int v29)) hM (m_X3_gainOf (jVX X) hM.1.2.2.2.2.2.2.2.2.2.1 N (jvw G 1) p0 (G 6 p0.toNatClampNeg) v29 hv28) (sb_X_Town_1 G J) (bi_X_Town_1 G J) rfl rfl rfl kc_X5_220 rfl rfl rfl rfl rfl (jat hM.2.1 44 rfl) (st := []) rfl ?_
                      show JW X 2 12 90 [some (.ref 0), some (.int p0), some (.int p1), some (.int p2), some (.int p3), some (.ref 64), some (.int (G 6 p0.toNatClampNeg)), none, none] [.int v29] (hX G J)
                      obtain ⟨g30, h⟩ := jg h
                      refine JW.r hM 45 9 (pc2 := 106) (L2 := [some (.ref 0), some (.int p0), some (.int p1), some (.int p2), some (.int p3), some (.ref 64), some (.int (G 6 p0.toNatClampNeg)), none, none]) (st2 := [.int (G 6 p0.toNatClampNeg), .int (G 5 p0.toNatClampNeg), .ref 1, .long (v29.toInt64)]) (μ2 := (hX G J)) rfl ⟨g30, trivial⟩ ?_
                      obtain ⟨v32, hv31, h⟩ := jbd h
                      refine JW.cV (v := some (.int v32)) hM (m_X3_worthTo (jVX X) hM.1.2.2.2.2.2.2.2.2.2.1 N (jvw G 1) (G 5 p0.toNatClampNeg) (G 6 p0.toNatClampNeg) v32 hv31) (sb_X_Town_1 G J) (bi_X_Town_1 G J) rfl rfl rfl kc_X5_93 rfl rfl rfl rfl rfl (jat hM.2.1 54 rfl) (st := [.long (v29.toInt64)]) rfl ?_
                      show JW X 2 12 109 [some (.ref 0), some (.int p0), some (.int p1), some (.int p2), some (.int p3), some (.ref 64), some (.int (G 6 p0.toNatClampNeg)), none, none] [.int v32, .long (v29.toInt64)] (hX G J)
                      refine JW.r hM 55 7 (pc2 := 120) (L2 := [some (.ref 0), some (.int p0), some (.int p1), some (.int p2), some (.int p3), some (.ref 64), some (.int (G 6 p0.toNatClampNeg)), some (.long ((v29.toInt64) - (v32.toInt64))), none]) (st2 := [.int p3, .int p2, .long ((v29.toInt64) - (v32.toInt64)), .ref 64]) (μ2 := (hX G J)) rfl trivial ?_
                      obtain ⟨v34, hv33, h⟩ := jbd h
                      refine JW.cV (v := some (.int v34)) hM (m_X4_hopeIn (jVX X) hM.1.2.2.2.2.2.2.2.2.2.1 N (jvw G 64) (jvw J 64) ((v29.toInt64) - (v32.toInt64)) p2 p3 v34 hv33) (sb_X_Tray_64 G J) (bi_X_Tray_64 G J) rfl rfl rfl kc_X5_290 rfl rfl rfl rfl rfl (jat hM.2.1 62 rfl) (st := []) rfl ?_
                      show JW X 2 12 123 [some (.ref 0), some (.int p0), some (.int p1), some (.int p2), some (.int p3), some (.ref 64), some (.int (G 6 p0.toNatClampNeg)), some (.long ((v29.toInt64) - (v32.toInt64))), none] [.int v34] (hX G J)
                      obtain rfl := Option.some.inj h
                      exact js_iret hM.1 hp hM.2.2.2.2.2.2.2.1 (by rw [hM.2.2.2.2.2.1]; exact Nat.le_of_ble_eq_true rfl) (by rw [hM.2.2.2.2.2.2.1]; exact Nat.le_of_ble_eq_true rfl) (jat hM.2.1 63 rfl) (hq v34 rfl)
                    · have h := (if_pos hc35).symm.trans h
                      exact JW.mask [false, false, false, false, false, false, false, false, false] (t_X5_hope_b61 hM hp N G J h hq hx)
          · have h := (if_pos hc40).symm.trans h
            obtain rfl := Option.some.inj h
            exact js_throw (ik := 119) (ic := 121) (names := ["java/lang/RuntimeException", "java/lang/Exception"]) hM.1 hp hM.2.2.2.2.2.2.2.2.2 (by decide) (by decide) (by rw [hM.2.2.1]; exact th_X5_119_121) (jat hM.2.1 12 rfl) (jat hM.2.1 13 rfl) (jat hM.2.1 14 rfl) (jat hM.2.1 15 rfl) (by rw [hM.2.2.2.2.1]; exact Nat.le_of_ble_eq_true rfl) (by rw [hM.2.2.2.2.1]; exact Nat.le_of_ble_eq_true rfl) (by rw [hM.2.2.2.2.2.1]; exact Nat.le_of_ble_eq_true rfl) (by rw [hM.2.2.2.2.2.2.1]; exact Nat.le_of_ble_eq_true rfl) (hx _ rfl)
        · have h := (if_neg hc79).symm.trans h
          by_cases hc78 : v4 = 66
          · subst hc78
            have h := (if_pos rfl).symm.trans h
            show JW X 2 12 10 [some (.ref 0), some (.int p0), some (.int p1), some (.int p2), some (.int p3), none, none, none, none] [.ref 66] (hX G J)
            refine JW.r hM 6 4 (pc2 := 17) (L2 := [some (.ref 0), some (.int p0), some (.int p1), some (.int p2), some (.int p3), some (.ref 66), none, none, none]) (st2 := [.int p0, .ref 1]) (μ2 := (hX G J)) rfl trivial ?_
            obtain ⟨v42, hv41, h⟩ := jbd h
            refine JW.cV (v := some (.int v42)) hM (m_X3_isOpen (jVX X) hM.1.2.2.2.2.2.2.2.2.2.1 N (jvw G 1) p0 v42 hv41) (sb_X_Town_1 G J) (bi_X_Town_1 G J) rfl rfl rfl kc_X5_217 rfl rfl rfl rfl rfl (jat hM.2.1 10 rfl) (st := []) rfl ?_
            show JW X 2 12 20 [some (.ref 0), some (.int p0), some (.int p1), some (.int p2), some (.int p3), some (.ref 66), none, none, none] [.int v42] (hX G J)
            refine js_ifne (t := 31) hM.1 (jat hM.2.1 11 rfl) rfl (fun hc58 => ?_) (fun hc58 => ?_)
            · have h := (if_neg hc58).symm.trans h
              refine JW.r hM 16 2 (pc2 := 33) (L2 := [some (.ref 0), some (.int p0), some (.int p1), some (.int p2), some (.int p3), some (.ref 66), none, none, none]) (st2 := [.int (1 : Int32), .int p2]) (μ2 := (hX G J)) rfl trivial ?_
              refine js_iclt (t := 61) hM.1 (jat hM.2.1 18 rfl) rfl (fun hc57 => ?_) (fun hc57 => ?_)
              · have h := (if_pos hc57).symm.trans h
                exact JW.mask [false, false, false, false, false, false, false, false, false] (t_X5_hope_b61 hM hp N G J h hq hx)
              · have h := (if_neg hc57).symm.trans h
                refine JW.r hM 19 2 (pc2 := 39) (L2 := [some (.ref 0), some (.int p0), some (.int p1), some (.int p2), some (.int p3), some (.ref 66), none, none, none]) (st2 := [.int (6 : Int32), .int p2]) (μ2 := (hX G J)) rfl trivial ?_
                refine js_icgt (t := 61) hM.1 (jat hM.2.1 21 rfl) rfl (fun hc56 => ?_) (fun hc56 => ?_)
                · have h := (if_pos hc56).symm.trans h
                  exact JW.mask [false, false, false, false, false, false, false, false, false] (t_X5_hope_b61 hM hp N G J h hq hx)
                · have h := (if_neg hc56).symm.trans h
                  refine JW.r hM 22 1 (pc2 := 44) (L2 := [some (.ref 0), some (.int p0), some (.int p1), some (.int p2), some (.int p3), some (.ref 66), none, none, none]) (st2 := [.int p3]) (μ2 := (hX G J)) rfl trivial ?_
                  refine js_iflt (t := 61) hM.1 (jat hM.2.1 23 rfl) rfl (fun hc55 => ?_) (fun hc55 => ?_)
                  · have h := (if_pos hc55).symm.trans h
                    exact JW.mask [false, false, false, false, false, false, false, false, false] (t_X5_hope_b61 hM hp N G J h hq hx)
                  · have h := (if_neg hc55).symm.trans h
                    refine JW.r hM 24 2 (pc2 := 50) (L2 := [some (.ref 0), some (.int p0), some (.int p1), some (.int p2), some (.int p3), some (.ref 66), none, none, none]) (st2 := [.int (2 : Int32), .int p3]) (μ2 := (hX G J)) rfl trivial ?_
                    refine js_icgt (t := 61) hM.1 (jat hM.2.1 26 rfl) rfl (fun hc54 => ?_) (fun hc54 => ?_)
                    · have h := (if_pos hc54).symm.trans h
                      exact JW.mask [false, false, false, false, false, false, false, false, false] (t_X5_hope_b61 hM hp N G J h hq hx)
                    · have h := (if_neg hc54).symm.trans h
                      refine JW.r hM 27 1 (pc2 := 55) (L2 := [some (.ref 0), some (.int p0), some (.int p1), some (.int p2), some (.int p3), some (.ref 66), none, none, none]) (st2 := [.ref 66]) (μ2 := (hX G J)) rfl trivial ?_
                      obtain ⟨v44, hv43, h⟩ := jbd h
                      refine JW.cV (v := some (.int v44)) hM (m_X4_isOffers (jVX X) hM.1.2.2.2.2.2.2.2.2.2.1 N (jvw G 66) (jvw J 66) v44 hv43) (sb_X_Tray_66 G J) (bi_X_Tray_66 G J) rfl rfl rfl kc_X5_287 rfl rfl rfl rfl rfl (jat hM.2.1 28 rfl) (st := []) rfl ?_
                      show JW X 2 12 58 [some (.ref 0), some (.int p0), some (.int p1), some (.int p2), some (.int p3), some (.ref 66), none, none, none] [.int v44] (hX G J)
                      refine js_ifne (t := 69) hM.1 (jat hM.2.1 29 rfl) rfl (fun hc53 => ?_) (fun hc53 => ?_)
                      · have h := (if_neg hc53).symm.trans h
                        obtain ⟨g45, h⟩ := jg h
                        refine JW.r hM 34 10 (pc2 := 87) (L2 := [some (.ref 0), some (.int p0), some (.int p1), some (.int p2), some (.int p3), some (.ref 66), some (.int (G 6 p0.toNatClampNeg)), none, none]) (st2 := [.int (G 6 p0.toNatClampNeg), .int p0, .ref 1]) (μ2 := (hX G J)) rfl ⟨g45, trivial⟩ ?_
                        obtain ⟨v47, hv46, h⟩ := jbd h
                        refine JW.cV (v := some (.int v47)) hM (m_X3_gainOf (jVX X) hM.1.2.2.2.2.2.2.2.2.2.1 N (jvw G 1) p0 (G 6 p0.toNatClampNeg) v47 hv46) (sb_X_Town_1 G J) (bi_X_Town_1 G J) rfl rfl rfl kc_X5_220 rfl rfl rfl rfl rfl (jat hM.2.1 44 rfl) (st := []) rfl ?_
                        show JW X 2 12 90 [some (.ref 0), some (.int p0), some (.int p1), some (.int p2), some (.int p3), some (.ref 66), some (.int (G 6 p0.toNatClampNeg)), none, none] [.int v47] (hX G J)
                        obtain ⟨g48, h⟩ := jg h
                        refine JW.r hM 45 9 (pc2 := 106) (L2 := [some (.ref 0), some (.int p0), some (.int p1), some (.int p2), some (.int p3), some (.ref 66), some (.int (G 6 p0.toNatClampNeg)), none, none]) (st2 := [.int (G 6 p0.toNatClampNeg), .int (G 5 p0.toNatClampNeg), .ref 1, .long (v47.toInt64)]) (μ2 := (hX G J)) rfl ⟨g48, trivial⟩ ?_
                        obtain ⟨v50, hv49, h⟩ := jbd h
                        refine JW.cV (v := some (.int v50)) hM (m_X3_worthTo (jVX X) hM.1.2.2.2.2.2.2.2.2.2.1 N (jvw G 1) (G 5 p0.toNatClampNeg) (G 6 p0.toNatClampNeg) v50 hv49) (sb_X_Town_1 G J) (bi_X_Town_1 G J) rfl rfl rfl kc_X5_93 rfl rfl rfl rfl rfl (jat hM.2.1 54 rfl) (st := [.long (v47.toInt64)]) rfl ?_
                        show JW X 2 12 109 [some (.ref 0), some (.int p0), some (.int p1), some (.int p2), some (.int p3), some (.ref 66), some (.int (G 6 p0.toNatClampNeg)), none, none] [.int v50, .long (v47.toInt64)] (hX G J)
                        refine JW.r hM 55 7 (pc2 := 120) (L2 := [some (.ref 0), some (.int p0), some (.int p1), some (.int p2), some (.int p3), some (.ref 66), some (.int (G 6 p0.toNatClampNeg)), some (.long ((v47.toInt64) - (v50.toInt64))), none]) (st2 := [.int p3, .int p2, .long ((v47.toInt64) - (v50.toInt64)), .ref 66]) (μ2 := (hX G J)) rfl trivial ?_
                        obtain ⟨v52, hv51, h⟩ := jbd h
                        refine JW.cV (v := some (.int v52)) hM (m_X4_hopeIn (jVX X) hM.1.2.2.2.2.2.2.2.2.2.1 N (jvw G 66) (jvw J 66) ((v47.toInt64) - (v50.toInt64)) p2 p3 v52 hv51) (sb_X_Tray_66 G J) (bi_X_Tray_66 G J) rfl rfl rfl kc_X5_290 rfl rfl rfl rfl rfl (jat hM.2.1 62 rfl) (st := []) rfl ?_
                        show JW X 2 12 123 [some (.ref 0), some (.int p0), some (.int p1), some (.int p2), some (.int p3), some (.ref 66), some (.int (G 6 p0.toNatClampNeg)), some (.long ((v47.toInt64) - (v50.toInt64))), none] [.int v52] (hX G J)
                        obtain rfl := Option.some.inj h
                        exact js_iret hM.1 hp hM.2.2.2.2.2.2.2.1 (by rw [hM.2.2.2.2.2.1]; exact Nat.le_of_ble_eq_true rfl) (by rw [hM.2.2.2.2.2.2.1]; exact Nat.le_of_ble_eq_true rfl) (jat hM.2.1 63 rfl) (hq v52 rfl)
                      · have h := (if_pos hc53).symm.trans h
                        exact JW.mask [false, false, false, false, false, false, false, false, false] (t_X5_hope_b61 hM hp N G J h hq hx)
            · have h := (if_pos hc58).symm.trans h
              obtain rfl := Option.some.inj h
              exact js_throw (ik := 119) (ic := 121) (names := ["java/lang/RuntimeException", "java/lang/Exception"]) hM.1 hp hM.2.2.2.2.2.2.2.2.2 (by decide) (by decide) (by rw [hM.2.2.1]; exact th_X5_119_121) (jat hM.2.1 12 rfl) (jat hM.2.1 13 rfl) (jat hM.2.1 14 rfl) (jat hM.2.1 15 rfl) (by rw [hM.2.2.2.2.1]; exact Nat.le_of_ble_eq_true rfl) (by rw [hM.2.2.2.2.1]; exact Nat.le_of_ble_eq_true rfl) (by rw [hM.2.2.2.2.2.1]; exact Nat.le_of_ble_eq_true rfl) (by rw [hM.2.2.2.2.2.2.1]; exact Nat.le_of_ble_eq_true rfl) (hx _ rfl)
          · have h := (if_neg hc78).symm.trans h
            by_cases hc77 : v4 = 68
            · subst hc77
              have h := (if_pos rfl).symm.trans h
              show JW X 2 12 10 [some (.ref 0), some (.int p0), some (.int p1), some (.int p2), some (.int p3), none, none, none, none] [.ref 68] (hX G J)
              refine JW.r hM 6 4 (pc2 := 17) (L2 := [some (.ref 0), some (.int p0), some (.int p1), some (.int p2), some (.int p3), some (.ref 68), none, none, none]) (st2 := [.int p0, .ref 1]) (μ2 := (hX G J)) rfl trivial ?_
              obtain ⟨v60, hv59, h⟩ := jbd h
              refine JW.cV (v := some (.int v60)) hM (m_X3_isOpen (jVX X) hM.1.2.2.2.2.2.2.2.2.2.1 N (jvw G 1) p0 v60 hv59) (sb_X_Town_1 G J) (bi_X_Town_1 G J) rfl rfl rfl kc_X5_217 rfl rfl rfl rfl rfl (jat hM.2.1 10 rfl) (st := []) rfl ?_
              show JW X 2 12 20 [some (.ref 0), some (.int p0), some (.int p1), some (.int p2), some (.int p3), some (.ref 68), none, none, none] [.int v60] (hX G J)
              refine js_ifne (t := 31) hM.1 (jat hM.2.1 11 rfl) rfl (fun hc76 => ?_) (fun hc76 => ?_)
              · have h := (if_neg hc76).symm.trans h
                refine JW.r hM 16 2 (pc2 := 33) (L2 := [some (.ref 0), some (.int p0), some (.int p1), some (.int p2), some (.int p3), some (.ref 68), none, none, none]) (st2 := [.int (1 : Int32), .int p2]) (μ2 := (hX G J)) rfl trivial ?_
                refine js_iclt (t := 61) hM.1 (jat hM.2.1 18 rfl) rfl (fun hc75 => ?_) (fun hc75 => ?_)
                · have h := (if_pos hc75).symm.trans h
                  exact JW.mask [false, false, false, false, false, false, false, false, false] (t_X5_hope_b61 hM hp N G J h hq hx)
                · have h := (if_neg hc75).symm.trans h
                  refine JW.r hM 19 2 (pc2 := 39) (L2 := [some (.ref 0), some (.int p0), some (.int p1), some (.int p2), some (.int p3), some (.ref 68), none, none, none]) (st2 := [.int (6 : Int32), .int p2]) (μ2 := (hX G J)) rfl trivial ?_
                  refine js_icgt (t := 61) hM.1 (jat hM.2.1 21 rfl) rfl (fun hc74 => ?_) (fun hc74 => ?_)
                  · have h := (if_pos hc74).symm.trans h
                    exact JW.mask [false, false, false, false, false, false, false, false, false] (t_X5_hope_b61 hM hp N G J h hq hx)
                  · have h := (if_neg hc74).symm.trans h
                    refine JW.r hM 22 1 (pc2 := 44) (L2 := [some (.ref 0), some (.int p0), some (.int p1), some (.int p2), some (.int p3), some (.ref 68), none, none, none]) (st2 := [.int p3]) (μ2 := (hX G J)) rfl trivial ?_
                    refine js_iflt (t := 61) hM.1 (jat hM.2.1 23 rfl) rfl (fun hc73 => ?_) (fun hc73 => ?_)
                    · have h := (if_pos hc73).symm.trans h
                      exact JW.mask [false, false, false, false, false, false, false, false, false] (t_X5_hope_b61 hM hp N G J h hq hx)
                    · have h := (if_neg hc73).symm.trans h
                      refine JW.r hM 24 2 (pc2 := 50) (L2 := [some (.ref 0), some (.int p0), some (.int p1), some (.int p2), some (.int p3), some (.ref 68), none, none, none]) (st2 := [.int (2 : Int32), .int p3]) (μ2 := (hX G J)) rfl trivial ?_
                      refine js_icgt (t := 61) hM.1 (jat hM.2.1 26 rfl) rfl (fun hc72 => ?_) (fun hc72 => ?_)
                      · have h := (if_pos hc72).symm.trans h
                        exact JW.mask [false, false, false, false, false, false, false, false, false] (t_X5_hope_b61 hM hp N G J h hq hx)
                      · have h := (if_neg hc72).symm.trans h
                        refine JW.r hM 27 1 (pc2 := 55) (L2 := [some (.ref 0), some (.int p0), some (.int p1), some (.int p2), some (.int p3), some (.ref 68), none, none, none]) (st2 := [.ref 68]) (μ2 := (hX G J)) rfl trivial ?_
                        obtain ⟨v62, hv61, h⟩ := jbd h
                        refine JW.cV (v := some (.int v62)) hM (m_X4_isOffers (jVX X) hM.1.2.2.2.2.2.2.2.2.2.1 N (jvw G 68) (jvw J 68) v62 hv61) (sb_X_Tray_68 G J) (bi_X_Tray_68 G J) rfl rfl rfl kc_X5_287 rfl rfl rfl rfl rfl (jat hM.2.1 28 rfl) (st := []) rfl ?_
                        show JW X 2 12 58 [some (.ref 0), some (.int p0), some (.int p1), some (.int p2), some (.int p3), some (.ref 68), none, none, none] [.int v62] (hX G J)
                        refine js_ifne (t := 69) hM.1 (jat hM.2.1 29 rfl) rfl (fun hc71 => ?_) (fun hc71 => ?_)
                        · have h := (if_neg hc71).symm.trans h
                          obtain ⟨g63, h⟩ := jg h
                          refine JW.r hM 34 10 (pc2 := 87) (L2 := [some (.ref 0), some (.int p0), some (.int p1), some (.int p2), some (.int p3), some (.ref 68), some (.int (G 6 p0.toNatClampNeg)), none, none]) (st2 := [.int (G 6 p0.toNatClampNeg), .int p0, .ref 1]) (μ2 := (hX G J)) rfl ⟨g63, trivial⟩ ?_
                          obtain ⟨v65, hv64, h⟩ := jbd h
                          refine JW.cV (v := some (.int v65)) hM (m_X3_gainOf (jVX X) hM.1.2.2.2.2.2.2.2.2.2.1 N (jvw G 1) p0 (G 6 p0.toNatClampNeg) v65 hv64) (sb_X_Town_1 G J) (bi_X_Town_1 G J) rfl rfl rfl kc_X5_220 rfl rfl rfl rfl rfl (jat hM.2.1 44 rfl) (st := []) rfl ?_
                          show JW X 2 12 90 [some (.ref 0), some (.int p0), some (.int p1), some (.int p2), some (.int p3), some (.ref 68), some (.int (G 6 p0.toNatClampNeg)), none, none] [.int v65] (hX G J)
                          obtain ⟨g66, h⟩ := jg h
                          refine JW.r hM 45 9 (pc2 := 106) (L2 := [some (.ref 0), some (.int p0), some (.int p1), some (.int p2), some (.int p3), some (.ref 68), some (.int (G 6 p0.toNatClampNeg)), none, none]) (st2 := [.int (G 6 p0.toNatClampNeg), .int (G 5 p0.toNatClampNeg), .ref 1, .long (v65.toInt64)]) (μ2 := (hX G J)) rfl ⟨g66, trivial⟩ ?_
                          obtain ⟨v68, hv67, h⟩ := jbd h
                          refine JW.cV (v := some (.int v68)) hM (m_X3_worthTo (jVX X) hM.1.2.2.2.2.2.2.2.2.2.1 N (jvw G 1) (G 5 p0.toNatClampNeg) (G 6 p0.toNatClampNeg) v68 hv67) (sb_X_Town_1 G J) (bi_X_Town_1 G J) rfl rfl rfl kc_X5_93 rfl rfl rfl rfl rfl (jat hM.2.1 54 rfl) (st := [.long (v65.toInt64)]) rfl ?_
                          show JW X 2 12 109 [some (.ref 0), some (.int p0), some (.int p1), some (.int p2), some (.int p3), some (.ref 68), some (.int (G 6 p0.toNatClampNeg)), none, none] [.int v68, .long (v65.toInt64)] (hX G J)
                          refine JW.r hM 55 7 (pc2 := 120) (L2 := [some (.ref 0), some (.int p0), some (.int p1), some (.int p2), some (.int p3), some (.ref 68), some (.int (G 6 p0.toNatClampNeg)), some (.long ((v65.toInt64) - (v68.toInt64))), none]) (st2 := [.int p3, .int p2, .long ((v65.toInt64) - (v68.toInt64)), .ref 68]) (μ2 := (hX G J)) rfl trivial ?_
                          obtain ⟨v70, hv69, h⟩ := jbd h
                          refine JW.cV (v := some (.int v70)) hM (m_X4_hopeIn (jVX X) hM.1.2.2.2.2.2.2.2.2.2.1 N (jvw G 68) (jvw J 68) ((v65.toInt64) - (v68.toInt64)) p2 p3 v70 hv69) (sb_X_Tray_68 G J) (bi_X_Tray_68 G J) rfl rfl rfl kc_X5_290 rfl rfl rfl rfl rfl (jat hM.2.1 62 rfl) (st := []) rfl ?_
                          show JW X 2 12 123 [some (.ref 0), some (.int p0), some (.int p1), some (.int p2), some (.int p3), some (.ref 68), some (.int (G 6 p0.toNatClampNeg)), some (.long ((v65.toInt64) - (v68.toInt64))), none] [.int v70] (hX G J)
                          obtain rfl := Option.some.inj h
                          exact js_iret hM.1 hp hM.2.2.2.2.2.2.2.1 (by rw [hM.2.2.2.2.2.1]; exact Nat.le_of_ble_eq_true rfl) (by rw [hM.2.2.2.2.2.2.1]; exact Nat.le_of_ble_eq_true rfl) (jat hM.2.1 63 rfl) (hq v70 rfl)
                        · have h := (if_pos hc71).symm.trans h
                          exact JW.mask [false, false, false, false, false, false, false, false, false] (t_X5_hope_b61 hM hp N G J h hq hx)
              · have h := (if_pos hc76).symm.trans h
                obtain rfl := Option.some.inj h
                exact js_throw (ik := 119) (ic := 121) (names := ["java/lang/RuntimeException", "java/lang/Exception"]) hM.1 hp hM.2.2.2.2.2.2.2.2.2 (by decide) (by decide) (by rw [hM.2.2.1]; exact th_X5_119_121) (jat hM.2.1 12 rfl) (jat hM.2.1 13 rfl) (jat hM.2.1 14 rfl) (jat hM.2.1 15 rfl) (by rw [hM.2.2.2.2.1]; exact Nat.le_of_ble_eq_true rfl) (by rw [hM.2.2.2.2.1]; exact Nat.le_of_ble_eq_true rfl) (by rw [hM.2.2.2.2.2.1]; exact Nat.le_of_ble_eq_true rfl) (by rw [hM.2.2.2.2.2.2.1]; exact Nat.le_of_ble_eq_true rfl) (hx _ rfl)
            · have h := (if_neg hc77).symm.trans h
              cases h
    · obtain ⟨c81, hv3, h⟩ := h
      subst h
      exact JW.xV hM hp (E := jEn c81) (m_X5_needTray_x (jVX X) hM.1.2.2.2.2.2.2.2.2.2.1 N G J p1 c81 hv3) (sb_X_X_0 G J) (bi_X_X_0 G J) rfl rfl kc_X5_183 rfl rfl rfl rfl rfl (jat hM.2.1 5 rfl) (st := []) rfl (hx _ rfl)
  · obtain ⟨c82, hv1, h⟩ := h
    subst h
    exact JW.xV hM hp (E := jEn c82) (m_X5_needDeed_x (jVX X) hM.1.2.2.2.2.2.2.2.2.2.1 N G J p0 c82 hv1) (sb_X_X_0 G J) (bi_X_X_0 G J) rfl rfl kc_X5_140 rfl rfl rfl rfl rfl (jat hM.2.1 2 rfl) (st := []) rfl (hx _ rfl)
theorem m_X5_hope_r (V : jV) (hV : V.1.stackTraces = false) (N : Nat) (G : Nat → Nat → Int32) (J : Nat → Nat → Int64) (p0 : Int32) (p1 : Int32) (p2 : Int32) (p3 : Int32) (v : (Int32)) (h : p_X5_hope N G J p0 p1 p2 p3 = some (.inr v)) : jMet V yX5_hope (jws yX5_hope cX5_hope 9 (some .int)) ⟨7, 3, 18, 110⟩ true 1 [.ref 0, .int p0, .int p1, .int p2, .int p3] (hX G J) (fun o ν => o = some (.int v) ∧ ν = (hX G J)) (fun _ _ => False) := by
  refine jmk (tb := tbX5) (C := kX5_hope) hV rfl (by decide) tbX5_ok rfl kX5_hope_ok rfl ?_
  intro X hM _ hp _
  exact t_X5_hope hM hp N G J p0 p1 p2 p3 h (fun w hw => by cases hw; exact ⟨rfl, rfl⟩) (fun c hc => by cases hc)
theorem m_X5_hope_x (V : jV) (hV : V.1.stackTraces = false) (N : Nat) (G : Nat → Nat → Int32) (J : Nat → Nat → Int64) (p0 : Int32) (p1 : Int32) (p2 : Int32) (p3 : Int32) (c : Nat) (h : p_X5_hope N G J p0 p1 p2 p3 = some (.inl c)) : jMet V yX5_hope (jws yX5_hope cX5_hope 9 (some .int)) ⟨7, 3, 18, 110⟩ true 1 [.ref 0, .int p0, .int p1, .int p2, .int p3] (hX G J) (fun _ _ => False) (fun E ν => E = jEn c ∧ ν = (hX G J)) := by
  refine jmk (tb := tbX5) (C := kX5_hope) hV rfl (by decide) tbX5_ok rfl kX5_hope_ok rfl ?_
  intro X hM _ hp _
  exact t_X5_hope hM hp N G J p0 p1 p2 p3 h (fun w hw => by cases hw) (fun c hc => by cases hc; exact ⟨rfl, rfl⟩)
def p_X5_swaps_b74 (N : Nat) (G : Nat → Nat → Int32) (J : Nat → Nat → Int64) (rv4 : Int32 → Int32 → Int32 → Option (Int32)) (rv20 : Int32 → Int32 → Int32 → Int32 → Option (Int32)) (x1 : Int32) (x2 : Int32) (x3 : Int32) (x4 : Int32) : Option (Int32) :=
  rv20 x1 x2 x3 (x4 + 1)
def p_X5_swaps_b20 (N : Nat) (G : Nat → Nat → Int32) (J : Nat → Nat → Int64) (rv4 : Int32 → Int32 → Int32 → Option (Int32)) : Nat → (Int32) → (Int32) → (Int32) → (Int32) → Option (Int32)
  | 0, _, _, _, _ => none
  | n + 1, x1, x2, x3, x4 => if (G 1 2) ≤ x4 then (rv4 x1 x2 (x3 + 1)) else ((p_X3_wants N (jvw G 1) x3 x4).bind (fun v3 => if v3 = 0 then (p_X5_swaps_b74 N G J rv4 (p_X5_swaps_b20 N G J rv4 n) x1 x2 x3 x4) else ((p_X3_wants N (jvw G 1) x4 x3).bind (fun v5 => if v5 = 0 then (p_X5_swaps_b74 N G J rv4 (p_X5_swaps_b20 N G J rv4 n) x1 x2 x3 x4) else (if x2 = x1 then (some (((100 : Int32) * x3) + x4)) else (p_X5_swaps_b74 N G J rv4 (p_X5_swaps_b20 N G J rv4 n) x1 (x2 + 1) x3 x4))))))
def p_X5_swaps_b4 (N : Nat) (G : Nat → Nat → Int32) (J : Nat → Nat → Int64) : Nat → (Int32) → (Int32) → (Int32) → Option (Int32)
  | 0, _, _, _ => none
  | n + 1, x1, x2, x3 => if (G 1 2) ≤ x3 then (if x1 = (-1 : Int32) then (some x2) else (some (-1 : Int32))) else (p_X5_swaps_b20 N G J (p_X5_swaps_b4 N G J n) N x1 x2 x3 (x3 + (1 : Int32)))
def p_X5_swaps (N : Nat) (G : Nat → Nat → Int32) (J : Nat → Nat → Int64) (p0 : Int32) : Option (Int32) :=
  p_X5_swaps_b4 N G J N p0 (0 : Int32) (0 : Int32)
set_option maxHeartbeats 4000000 in
set_option maxRecDepth 100000 in
theorem t_X5_swaps_b74 {X : jX} {po : Option Value → jH → Prop} {px : String → jH → Prop} {sf : Bool} {B9 : Nat} (hM : jMX X kX5_swaps RX5 tbX5 5 ⟨2, 0, 0, 45⟩ (some .int) 71) (hp : jPost X sf B9 po px) (N : Nat) (G : Nat → Nat → Int32) (J : Nat → Nat → Int64) (rv4 : Int32 → Int32 → Int32 → Option (Int32)) (rv20 : Int32 → Int32 → Int32 → Int32 → Option (Int32)) {res : Int32} (ih4 : ∀ (x1 : Int32) (x2 : Int32) (x3 : Int32), rv4 x1 x2 x3 = some res → JW X 0 0 4 [some (.ref 0), some (.int x1), some (.int x2), some (.int x3), none] [] (hX G J)) (ih20 : ∀ (x1 : Int32) (x2 : Int32) (x3 : Int32) (x4 : Int32), rv20 x1 x2 x3 x4 = some res → JW X 0 0 20 [some (.ref 0), some (.int x1), some (.int x2), some (.int x3), some (.int x4)] [] (hX G J)) (x1 : Int32) (x2 : Int32) (x3 : Int32) (x4 : Int32) (h : p_X5_swaps_b74 N G J rv4 rv20 x1 x2 x3 x4 = some res) (hq : po (some (.int res)) (hX G J)) : JW X 0 0 74 [some (.ref 0), some (.int x1), some (.int x2), some (.int x3), some (.int x4)] [] (hX G J) := by
  unfold p_X5_swaps_b74 at h
  refine JW.r hM 40 2 (pc2 := 20) (L2 := [some (.ref 0), some (.int x1), some (.int x2), some (.int x3), some (.int (x4 + 1))]) (st2 := []) (μ2 := (hX G J)) rfl trivial ?_
  exact ih20 x1 x2 x3 (x4 + 1) h
set_option maxHeartbeats 4000000 in
set_option maxRecDepth 100000 in
theorem t_X5_swaps_b20 {X : jX} {po : Option Value → jH → Prop} {px : String → jH → Prop} {sf : Bool} {B9 : Nat} (hM : jMX X kX5_swaps RX5 tbX5 5 ⟨2, 0, 0, 45⟩ (some .int) 71) (hp : jPost X sf B9 po px) (N : Nat) (G : Nat → Nat → Int32) (J : Nat → Nat → Int64) (rv4 : Int32 → Int32 → Int32 → Option (Int32)) {res : Int32} (ih4 : ∀ (x1 : Int32) (x2 : Int32) (x3 : Int32), rv4 x1 x2 x3 = some res → JW X 0 0 4 [some (.ref 0), some (.int x1), some (.int x2), some (.int x3), none] [] (hX G J)) : ∀ (n : Nat) (x1 : Int32) (x2 : Int32) (x3 : Int32) (x4 : Int32) (h : p_X5_swaps_b20 N G J rv4 n x1 x2 x3 x4 = some res) (hq : po (some (.int res)) (hX G J)), JW X 0 0 20 [some (.ref 0), some (.int x1), some (.int x2), some (.int x3), some (.int x4)] [] (hX G J) := by
  intro n
  induction n with
  | zero =>
    intro x1 x2 x3 x4 h hq
    cases (show (none : Option (Int32)) = some res from h)
  | succ n ih20 =>
    intro x1 x2 x3 x4 h hq
    have ih20 := fun x1 x2 x3 x4 h9 => ih20 x1 x2 x3 x4 h9 hq
    rw [p_X5_swaps_b20] at h
    refine JW.r hM 13 4 (pc2 := 29) (L2 := [some (.ref 0), some (.int x1), some (.int x2), some (.int x3), some (.int x4)]) (st2 := [.int (G 1 2), .int x4]) (μ2 := (hX G J)) rfl trivial ?_
    refine js_icge (t := 80) hM.1 (jat hM.2.1 17 rfl) rfl (fun hc9 => ?_) (fun hc9 => ?_)
    · have h := (if_pos hc9).symm.trans h
      refine JW.r hM 42 2 (pc2 := 4) (L2 := [some (.ref 0), some (.int x1), some (.int x2), some (.int (x3 + 1)), some (.int x4)]) (st2 := []) (μ2 := (hX G J)) rfl trivial ?_
      exact JW.mask [true, true, true, true, false] (ih4 x1 x2 (x3 + 1) h)
    · have h := (if_neg hc9).symm.trans h
      refine JW.r hM 18 4 (pc2 := 39) (L2 := [some (.ref 0), some (.int x1), some (.int x2), some (.int x3), some (.int x4)]) (st2 := [.int x4, .int x3, .ref 1]) (μ2 := (hX G J)) rfl trivial ?_
      obtain ⟨v3, hv2, h⟩ := jbd h
      refine JW.cV (v := some (.int v3)) hM (m_X3_wants (jVX X) hM.1.2.2.2.2.2.2.2.2.2.1 N (jvw G 1) x3 x4 v3 hv2) (sb_X_Town_1 G J) (bi_X_Town_1 G J) rfl rfl rfl kc_X5_294 rfl rfl rfl rfl rfl (jat hM.2.1 22 rfl) (st := []) rfl ?_
      show JW X 0 0 42 [some (.ref 0), some (.int x1), some (.int x2), some (.int x3), some (.int x4)] [.int v3] (hX G J)
      refine js_ifeq (t := 74) hM.1 (jat hM.2.1 23 rfl) rfl (fun hc8 => ?_) (fun hc8 => ?_)
      · have h := (if_pos hc8).symm.trans h
        exact t_X5_swaps_b74 hM hp N G J rv4 (p_X5_swaps_b20 N G J rv4 n) ih4 ih20 x1 x2 x3 x4 h hq
      · have h := (if_neg hc8).symm.trans h
        refine JW.r hM 24 4 (pc2 := 52) (L2 := [some (.ref 0), some (.int x1), some (.int x2), some (.int x3), some (.int x4)]) (st2 := [.int x3, .int x4, .ref 1]) (μ2 := (hX G J)) rfl trivial ?_
        obtain ⟨v5, hv4, h⟩ := jbd h
        refine JW.cV (v := some (.int v5)) hM (m_X3_wants (jVX X) hM.1.2.2.2.2.2.2.2.2.2.1 N (jvw G 1) x4 x3 v5 hv4) (sb_X_Town_1 G J) (bi_X_Town_1 G J) rfl rfl rfl kc_X5_294 rfl rfl rfl rfl rfl (jat hM.2.1 28 rfl) (st := []) rfl ?_
        show JW X 0 0 55 [some (.ref 0), some (.int x1), some (.int x2), some (.int x3), some (.int x4)] [.int v5] (hX G J)
        refine js_ifeq (t := 74) hM.1 (jat hM.2.1 29 rfl) rfl (fun hc7 => ?_) (fun hc7 => ?_)
        · have h := (if_pos hc7).symm.trans h
          exact t_X5_swaps_b74 hM hp N G J rv4 (p_X5_swaps_b20 N G J rv4 n) ih4 ih20 x1 x2 x3 x4 h hq
        · have h := (if_neg hc7).symm.trans h
          refine JW.r hM 30 2 (pc2 := 60) (L2 := [some (.ref 0), some (.int x1), some (.int x2), some (.int x3), some (.int x4)]) (st2 := [.int x1, .int x2]) (μ2 := (hX G J)) rfl trivial ?_
          refine js_icne (t := 71) hM.1 (jat hM.2.1 32 rfl) rfl (fun hc6 => ?_) (fun hc6 => ?_)
          · have h := (if_neg hc6).symm.trans h
            refine JW.r hM 39 1 (pc2 := 74) (L2 := [some (.ref 0), some (.int x1), some (.int (x2 + 1)), some (.int x3), some (.int x4)]) (st2 := []) (μ2 := (hX G J)) rfl trivial ?_
            exact t_X5_swaps_b74 hM hp N G J rv4 (p_X5_swaps_b20 N G J rv4 n) ih4 ih20 x1 (x2 + 1) x3 x4 h hq
          · have h := (if_pos hc6).symm.trans h
            refine JW.r hM 33 5 (pc2 := 70) (L2 := [some (.ref 0), some (.int x1), some (.int x2), some (.int x3), some (.int x4)]) (st2 := [.int (((100 : Int32) * x3) + x4)]) (μ2 := (hX G J)) rfl trivial ?_
            obtain rfl := Option.some.inj h
            exact js_iret hM.1 hp hM.2.2.2.2.2.2.2.1 (by rw [hM.2.2.2.2.2.1]; exact Nat.le_of_ble_eq_true rfl) (by rw [hM.2.2.2.2.2.2.1]; exact Nat.le_of_ble_eq_true rfl) (jat hM.2.1 38 rfl) hq
set_option maxHeartbeats 4000000 in
set_option maxRecDepth 100000 in
theorem t_X5_swaps_b4 {X : jX} {po : Option Value → jH → Prop} {px : String → jH → Prop} {sf : Bool} {B9 : Nat} (hM : jMX X kX5_swaps RX5 tbX5 5 ⟨2, 0, 0, 45⟩ (some .int) 71) (hp : jPost X sf B9 po px) (N : Nat) (G : Nat → Nat → Int32) (J : Nat → Nat → Int64) {res : Int32} : ∀ (n : Nat) (x1 : Int32) (x2 : Int32) (x3 : Int32) (h : p_X5_swaps_b4 N G J n x1 x2 x3 = some res) (hq : po (some (.int res)) (hX G J)), JW X 0 0 4 [some (.ref 0), some (.int x1), some (.int x2), some (.int x3), none] [] (hX G J) := by
  intro n
  induction n with
  | zero =>
    intro x1 x2 x3 h hq
    cases (show (none : Option (Int32)) = some res from h)
  | succ n ih4 =>
    intro x1 x2 x3 h hq
    have ih4 := fun x1 x2 x3 h9 => ih4 x1 x2 x3 h9 hq
    rw [p_X5_swaps_b4] at h
    refine JW.r hM 4 4 (pc2 := 12) (L2 := [some (.ref 0), some (.int x1), some (.int x2), some (.int x3), none]) (st2 := [.int (G 1 2), .int x3]) (μ2 := (hX G J)) rfl trivial ?_
    refine js_icge (t := 86) hM.1 (jat hM.2.1 8 rfl) rfl (fun hc10 => ?_) (fun hc10 => ?_)
    · have h := (if_pos hc10).symm.trans h
      refine JW.r hM 44 2 (pc2 := 88) (L2 := [some (.ref 0), some (.int x1), some (.int x2), some (.int x3), none]) (st2 := [.int (-1 : Int32), .int x1]) (μ2 := (hX G J)) rfl trivial ?_
      refine js_icne (t := 95) hM.1 (jat hM.2.1 46 rfl) rfl (fun hc1 => ?_) (fun hc1 => ?_)
      · have h := (if_neg hc1).symm.trans h
        refine JW.r hM 49 1 (pc2 := 96) (L2 := [some (.ref 0), some (.int x1), some (.int x2), some (.int x3), none]) (st2 := [.int (-1 : Int32)]) (μ2 := (hX G J)) rfl trivial ?_
        obtain rfl := Option.some.inj h
        exact js_iret hM.1 hp hM.2.2.2.2.2.2.2.1 (by rw [hM.2.2.2.2.2.1]; exact Nat.le_of_ble_eq_true rfl) (by rw [hM.2.2.2.2.2.2.1]; exact Nat.le_of_ble_eq_true rfl) (jat hM.2.1 50 rfl) hq
      · have h := (if_pos hc1).symm.trans h
        refine JW.r hM 47 2 (pc2 := 96) (L2 := [some (.ref 0), some (.int x1), some (.int x2), some (.int x3), none]) (st2 := [.int x2]) (μ2 := (hX G J)) rfl trivial ?_
        obtain rfl := Option.some.inj h
        exact js_iret hM.1 hp hM.2.2.2.2.2.2.2.1 (by rw [hM.2.2.2.2.2.1]; exact Nat.le_of_ble_eq_true rfl) (by rw [hM.2.2.2.2.2.2.1]; exact Nat.le_of_ble_eq_true rfl) (jat hM.2.1 50 rfl) hq
    · have h := (if_neg hc10).symm.trans h
      refine JW.r hM 9 4 (pc2 := 20) (L2 := [some (.ref 0), some (.int x1), some (.int x2), some (.int x3), some (.int (x3 + (1 : Int32)))]) (st2 := []) (μ2 := (hX G J)) rfl trivial ?_
      exact t_X5_swaps_b20 hM hp N G J (p_X5_swaps_b4 N G J n) ih4 N x1 x2 x3 (x3 + (1 : Int32)) h hq
set_option maxHeartbeats 4000000 in
set_option maxRecDepth 100000 in
theorem t_X5_swaps {X : jX} {po : Option Value → jH → Prop} {px : String → jH → Prop} {sf : Bool} {B9 : Nat} (hM : jMX X kX5_swaps RX5 tbX5 5 ⟨2, 0, 0, 45⟩ (some .int) 71) (hp : jPost X sf B9 po px) (N : Nat) (G : Nat → Nat → Int32) (J : Nat → Nat → Int64) (p0 : Int32) {res : Int32} (h : p_X5_swaps N G J p0 = some res) (hq : po (some (.int res)) (hX G J)) : JW X 0 0 0 [some (.ref 0), some (.int p0), none, none, none] [] (hX G J) := by
  unfold p_X5_swaps at h
  refine JW.r hM 0 4 (pc2 := 4) (L2 := [some (.ref 0), some (.int p0), some (.int (0 : Int32)), some (.int (0 : Int32)), none]) (st2 := []) (μ2 := (hX G J)) rfl trivial ?_
  exact t_X5_swaps_b4 hM hp N G J N p0 (0 : Int32) (0 : Int32) h hq
theorem m_X5_swaps (V : jV) (hV : V.1.stackTraces = false) (N : Nat) (G : Nat → Nat → Int32) (J : Nat → Nat → Int64) (p0 : Int32) (v : Int32) (h : p_X5_swaps N G J p0 = some v) : jMet V yX5_swaps (jws yX5_swaps cX5_swaps 5 (some .int)) ⟨2, 0, 0, 45⟩ true 1 [.ref 0, .int p0] (hX G J) (fun o ν => o = some (.int v) ∧ ν = (hX G J)) (fun _ _ => False) := by
  refine jmk (tb := tbX5) (C := kX5_swaps) hV rfl (by decide) tbX5_ok rfl kX5_swaps_ok rfl ?_
  intro X hM _ hp _
  exact t_X5_swaps hM hp N G J p0 h ⟨rfl, rfl⟩
def p_X5_threes_b87 (N : Nat) (G : Nat → Nat → Int32) (J : Nat → Nat → Int64) (rv4 : Int32 → Int32 → Int32 → Option (Int32)) (rv20 : Int32 → Int32 → Int32 → Int32 → Option (Int32)) (rv37 : Int32 → Int32 → Int32 → Int32 → Int32 → Option (Int32)) (x1 : Int32) (x2 : Int32) (x3 : Int32) (x4 : Int32) (x5 : Int32) : Option (Int32) :=
  rv37 x1 x2 x3 x4 (x5 + 1)
def p_X5_threes_b37 (N : Nat) (G : Nat → Nat → Int32) (J : Nat → Nat → Int64) (rv4 : Int32 → Int32 → Int32 → Option (Int32)) (rv20 : Int32 → Int32 → Int32 → Int32 → Option (Int32)) : Nat → (Int32) → (Int32) → (Int32) → (Int32) → (Int32) → Option (Int32)
  | 0, _, _, _, _, _ => none
  | n + 1, x1, x2, x3, x4, x5 => if (G 1 2) ≤ x5 then (rv20 x1 x2 x3 (x4 + 1)) else ((p_X3_isRing N (jvw G 1) x3 x4 x5).bind (fun v3 => if v3 = 0 then (p_X5_threes_b87 N G J rv4 rv20 (p_X5_threes_b37 N G J rv4 rv20 n) x1 x2 x3 x4 x5) else (if x2 = x1 then (some ((((10000 : Int32) * x3) + ((100 : Int32) * x4)) + x5)) else (p_X5_threes_b87 N G J rv4 rv20 (p_X5_threes_b37 N G J rv4 rv20 n) x1 (x2 + 1) x3 x4 x5))))
def p_X5_threes_b20 (N : Nat) (G : Nat → Nat → Int32) (J : Nat → Nat → Int64) (rv4 : Int32 → Int32 → Int32 → Option (Int32)) : Nat → (Int32) → (Int32) → (Int32) → (Int32) → Option (Int32)
  | 0, _, _, _, _ => none
  | n + 1, x1, x2, x3, x4 => if (G 1 2) ≤ x4 then (rv4 x1 x2 (x3 + 1)) else (p_X5_threes_b37 N G J rv4 (p_X5_threes_b20 N G J rv4 n) N x1 x2 x3 x4 (x3 + (1 : Int32)))
def p_X5_threes_b4 (N : Nat) (G : Nat → Nat → Int32) (J : Nat → Nat → Int64) : Nat → (Int32) → (Int32) → (Int32) → Option (Int32)
  | 0, _, _, _ => none
  | n + 1, x1, x2, x3 => if (G 1 2) ≤ x3 then (if x1 = (-1 : Int32) then (some x2) else (some (-1 : Int32))) else (p_X5_threes_b20 N G J (p_X5_threes_b4 N G J n) N x1 x2 x3 (x3 + (1 : Int32)))
def p_X5_threes (N : Nat) (G : Nat → Nat → Int32) (J : Nat → Nat → Int64) (p0 : Int32) : Option (Int32) :=
  p_X5_threes_b4 N G J N p0 (0 : Int32) (0 : Int32)
set_option maxHeartbeats 4000000 in
set_option maxRecDepth 100000 in
theorem t_X5_threes_b87 {X : jX} {po : Option Value → jH → Prop} {px : String → jH → Prop} {sf : Bool} {B9 : Nat} (hM : jMX X kX5_threes RX5 tbX5 6 ⟨3, 0, 0, 68⟩ (some .int) 71) (hp : jPost X sf B9 po px) (N : Nat) (G : Nat → Nat → Int32) (J : Nat → Nat → Int64) (rv4 : Int32 → Int32 → Int32 → Option (Int32)) (rv20 : Int32 → Int32 → Int32 → Int32 → Option (Int32)) (rv37 : Int32 → Int32 → Int32 → Int32 → Int32 → Option (Int32)) {res : Int32} (ih4 : ∀ (x1 : Int32) (x2 : Int32) (x3 : Int32), rv4 x1 x2 x3 = some res → JW X 0 0 4 [some (.ref 0), some (.int x1), some (.int x2), some (.int x3), none, none] [] (hX G J)) (ih20 : ∀ (x1 : Int32) (x2 : Int32) (x3 : Int32) (x4 : Int32), rv20 x1 x2 x3 x4 = some res → JW X 0 0 20 [some (.ref 0), some (.int x1), some (.int x2), some (.int x3), some (.int x4), none] [] (hX G J)) (ih37 : ∀ (x1 : Int32) (x2 : Int32) (x3 : Int32) (x4 : Int32) (x5 : Int32), rv37 x1 x2 x3 x4 x5 = some res → JW X 0 0 37 [some (.ref 0), some (.int x1), some (.int x2), some (.int x3), some (.int x4), some (.int x5)] [] (hX G J)) (x1 : Int32) (x2 : Int32) (x3 : Int32) (x4 : Int32) (x5 : Int32) (h : p_X5_threes_b87 N G J rv4 rv20 rv37 x1 x2 x3 x4 x5 = some res) (hq : po (some (.int res)) (hX G J)) : JW X 0 0 87 [some (.ref 0), some (.int x1), some (.int x2), some (.int x3), some (.int x4), some (.int x5)] [] (hX G J) := by
  unfold p_X5_threes_b87 at h
  refine JW.r hM 48 2 (pc2 := 37) (L2 := [some (.ref 0), some (.int x1), some (.int x2), some (.int x3), some (.int x4), some (.int (x5 + 1))]) (st2 := []) (μ2 := (hX G J)) rfl trivial ?_
  exact ih37 x1 x2 x3 x4 (x5 + 1) h
set_option maxHeartbeats 4000000 in
set_option maxRecDepth 100000 in
theorem t_X5_threes_b37 {X : jX} {po : Option Value → jH → Prop} {px : String → jH → Prop} {sf : Bool} {B9 : Nat} (hM : jMX X kX5_threes RX5 tbX5 6 ⟨3, 0, 0, 68⟩ (some .int) 71) (hp : jPost X sf B9 po px) (N : Nat) (G : Nat → Nat → Int32) (J : Nat → Nat → Int64) (rv4 : Int32 → Int32 → Int32 → Option (Int32)) (rv20 : Int32 → Int32 → Int32 → Int32 → Option (Int32)) {res : Int32} (ih4 : ∀ (x1 : Int32) (x2 : Int32) (x3 : Int32), rv4 x1 x2 x3 = some res → JW X 0 0 4 [some (.ref 0), some (.int x1), some (.int x2), some (.int x3), none, none] [] (hX G J)) (ih20 : ∀ (x1 : Int32) (x2 : Int32) (x3 : Int32) (x4 : Int32), rv20 x1 x2 x3 x4 = some res → JW X 0 0 20 [some (.ref 0), some (.int x1), some (.int x2), some (.int x3), some (.int x4), none] [] (hX G J)) : ∀ (n : Nat) (x1 : Int32) (x2 : Int32) (x3 : Int32) (x4 : Int32) (x5 : Int32) (h : p_X5_threes_b37 N G J rv4 rv20 n x1 x2 x3 x4 x5 = some res) (hq : po (some (.int res)) (hX G J)), JW X 0 0 37 [some (.ref 0), some (.int x1), some (.int x2), some (.int x3), some (.int x4), some (.int x5)] [] (hX G J) := by
  intro n
  induction n with
  | zero =>
    intro x1 x2 x3 x4 x5 h hq
    cases (show (none : Option (Int32)) = some res from h)
  | succ n ih37 =>
    intro x1 x2 x3 x4 x5 h hq
    have ih37 := fun x1 x2 x3 x4 x5 h9 => ih37 x1 x2 x3 x4 x5 h9 hq
    rw [p_X5_threes_b37] at h
    refine JW.r hM 22 4 (pc2 := 46) (L2 := [some (.ref 0), some (.int x1), some (.int x2), some (.int x3), some (.int x4), some (.int x5)]) (st2 := [.int (G 1 2), .int x5]) (μ2 := (hX G J)) rfl trivial ?_
    refine js_icge (t := 93) hM.1 (jat hM.2.1 26 rfl) rfl (fun hc6 => ?_) (fun hc6 => ?_)
    · have h := (if_pos hc6).symm.trans h
      refine JW.r hM 50 2 (pc2 := 20) (L2 := [some (.ref 0), some (.int x1), some (.int x2), some (.int x3), some (.int (x4 + 1)), some (.int x5)]) (st2 := []) (μ2 := (hX G J)) rfl trivial ?_
      exact JW.mask [true, true, true, true, true, false] (ih20 x1 x2 x3 (x4 + 1) h)
    · have h := (if_neg hc6).symm.trans h
      refine JW.r hM 27 5 (pc2 := 58) (L2 := [some (.ref 0), some (.int x1), some (.int x2), some (.int x3), some (.int x4), some (.int x5)]) (st2 := [.int x5, .int x4, .int x3, .ref 1]) (μ2 := (hX G J)) rfl trivial ?_
      obtain ⟨v3, hv2, h⟩ := jbd h
      refine JW.cV (v := some (.int v3)) hM (m_X3_isRing (jVX X) hM.1.2.2.2.2.2.2.2.2.2.1 N (jvw G 1) x3 x4 x5 v3 hv2) (sb_X_Town_1 G J) (bi_X_Town_1 G J) rfl rfl rfl kc_X5_297 rfl rfl rfl rfl rfl (jat hM.2.1 32 rfl) (st := []) rfl ?_
      show JW X 0 0 61 [some (.ref 0), some (.int x1), some (.int x2), some (.int x3), some (.int x4), some (.int x5)] [.int v3] (hX G J)
      refine js_ifeq (t := 87) hM.1 (jat hM.2.1 33 rfl) rfl (fun hc5 => ?_) (fun hc5 => ?_)
      · have h := (if_pos hc5).symm.trans h
        exact t_X5_threes_b87 hM hp N G J rv4 rv20 (p_X5_threes_b37 N G J rv4 rv20 n) ih4 ih20 ih37 x1 x2 x3 x4 x5 h hq
      · have h := (if_neg hc5).symm.trans h
        refine JW.r hM 34 2 (pc2 := 66) (L2 := [some (.ref 0), some (.int x1), some (.int x2), some (.int x3), some (.int x4), some (.int x5)]) (st2 := [.int x1, .int x2]) (μ2 := (hX G J)) rfl trivial ?_
        refine js_icne (t := 84) hM.1 (jat hM.2.1 36 rfl) rfl (fun hc4 => ?_) (fun hc4 => ?_)
        · have h := (if_neg hc4).symm.trans h
          refine JW.r hM 47 1 (pc2 := 87) (L2 := [some (.ref 0), some (.int x1), some (.int (x2 + 1)), some (.int x3), some (.int x4), some (.int x5)]) (st2 := []) (μ2 := (hX G J)) rfl trivial ?_
          exact t_X5_threes_b87 hM hp N G J rv4 rv20 (p_X5_threes_b37 N G J rv4 rv20 n) ih4 ih20 ih37 x1 (x2 + 1) x3 x4 x5 h hq
        · have h := (if_pos hc4).symm.trans h
          refine JW.r hM 37 9 (pc2 := 83) (L2 := [some (.ref 0), some (.int x1), some (.int x2), some (.int x3), some (.int x4), some (.int x5)]) (st2 := [.int ((((10000 : Int32) * x3) + ((100 : Int32) * x4)) + x5)]) (μ2 := (hX G J)) rfl trivial ?_
          obtain rfl := Option.some.inj h
          exact js_iret hM.1 hp hM.2.2.2.2.2.2.2.1 (by rw [hM.2.2.2.2.2.1]; exact Nat.le_of_ble_eq_true rfl) (by rw [hM.2.2.2.2.2.2.1]; exact Nat.le_of_ble_eq_true rfl) (jat hM.2.1 46 rfl) hq
set_option maxHeartbeats 4000000 in
set_option maxRecDepth 100000 in
theorem t_X5_threes_b20 {X : jX} {po : Option Value → jH → Prop} {px : String → jH → Prop} {sf : Bool} {B9 : Nat} (hM : jMX X kX5_threes RX5 tbX5 6 ⟨3, 0, 0, 68⟩ (some .int) 71) (hp : jPost X sf B9 po px) (N : Nat) (G : Nat → Nat → Int32) (J : Nat → Nat → Int64) (rv4 : Int32 → Int32 → Int32 → Option (Int32)) {res : Int32} (ih4 : ∀ (x1 : Int32) (x2 : Int32) (x3 : Int32), rv4 x1 x2 x3 = some res → JW X 0 0 4 [some (.ref 0), some (.int x1), some (.int x2), some (.int x3), none, none] [] (hX G J)) : ∀ (n : Nat) (x1 : Int32) (x2 : Int32) (x3 : Int32) (x4 : Int32) (h : p_X5_threes_b20 N G J rv4 n x1 x2 x3 x4 = some res) (hq : po (some (.int res)) (hX G J)), JW X 0 0 20 [some (.ref 0), some (.int x1), some (.int x2), some (.int x3), some (.int x4), none] [] (hX G J) := by
  intro n
  induction n with
  | zero =>
    intro x1 x2 x3 x4 h hq
    cases (show (none : Option (Int32)) = some res from h)
  | succ n ih20 =>
    intro x1 x2 x3 x4 h hq
    have ih20 := fun x1 x2 x3 x4 h9 => ih20 x1 x2 x3 x4 h9 hq
    rw [p_X5_threes_b20] at h
    refine JW.r hM 13 4 (pc2 := 29) (L2 := [some (.ref 0), some (.int x1), some (.int x2), some (.int x3), some (.int x4), none]) (st2 := [.int (G 1 2), .int x4]) (μ2 := (hX G J)) rfl trivial ?_
    refine js_icge (t := 99) hM.1 (jat hM.2.1 17 rfl) rfl (fun hc7 => ?_) (fun hc7 => ?_)
    · have h := (if_pos hc7).symm.trans h
      refine JW.r hM 52 2 (pc2 := 4) (L2 := [some (.ref 0), some (.int x1), some (.int x2), some (.int (x3 + 1)), some (.int x4), none]) (st2 := []) (μ2 := (hX G J)) rfl trivial ?_
      exact JW.mask [true, true, true, true, false, false] (ih4 x1 x2 (x3 + 1) h)
    · have h := (if_neg hc7).symm.trans h
      refine JW.r hM 18 4 (pc2 := 37) (L2 := [some (.ref 0), some (.int x1), some (.int x2), some (.int x3), some (.int x4), some (.int (x3 + (1 : Int32)))]) (st2 := []) (μ2 := (hX G J)) rfl trivial ?_
      exact t_X5_threes_b37 hM hp N G J rv4 (p_X5_threes_b20 N G J rv4 n) ih4 ih20 N x1 x2 x3 x4 (x3 + (1 : Int32)) h hq
set_option maxHeartbeats 4000000 in
set_option maxRecDepth 100000 in
theorem t_X5_threes_b4 {X : jX} {po : Option Value → jH → Prop} {px : String → jH → Prop} {sf : Bool} {B9 : Nat} (hM : jMX X kX5_threes RX5 tbX5 6 ⟨3, 0, 0, 68⟩ (some .int) 71) (hp : jPost X sf B9 po px) (N : Nat) (G : Nat → Nat → Int32) (J : Nat → Nat → Int64) {res : Int32} : ∀ (n : Nat) (x1 : Int32) (x2 : Int32) (x3 : Int32) (h : p_X5_threes_b4 N G J n x1 x2 x3 = some res) (hq : po (some (.int res)) (hX G J)), JW X 0 0 4 [some (.ref 0), some (.int x1), some (.int x2), some (.int x3), none, none] [] (hX G J) := by
  intro n
  induction n with
  | zero =>
    intro x1 x2 x3 h hq
    cases (show (none : Option (Int32)) = some res from h)
  | succ n ih4 =>
    intro x1 x2 x3 h hq
    have ih4 := fun x1 x2 x3 h9 => ih4 x1 x2 x3 h9 hq
    rw [p_X5_threes_b4] at h
    refine JW.r hM 4 4 (pc2 := 12) (L2 := [some (.ref 0), some (.int x1), some (.int x2), some (.int x3), none, none]) (st2 := [.int (G 1 2), .int x3]) (μ2 := (hX G J)) rfl trivial ?_
    refine js_icge (t := 105) hM.1 (jat hM.2.1 8 rfl) rfl (fun hc8 => ?_) (fun hc8 => ?_)
    · have h := (if_pos hc8).symm.trans h
      refine JW.r hM 54 2 (pc2 := 107) (L2 := [some (.ref 0), some (.int x1), some (.int x2), some (.int x3), none, none]) (st2 := [.int (-1 : Int32), .int x1]) (μ2 := (hX G J)) rfl trivial ?_
      refine js_icne (t := 114) hM.1 (jat hM.2.1 56 rfl) rfl (fun hc1 => ?_) (fun hc1 => ?_)
      · have h := (if_neg hc1).symm.trans h
        refine JW.r hM 59 1 (pc2 := 115) (L2 := [some (.ref 0), some (.int x1), some (.int x2), some (.int x3), none, none]) (st2 := [.int (-1 : Int32)]) (μ2 := (hX G J)) rfl trivial ?_
        obtain rfl := Option.some.inj h
        exact js_iret hM.1 hp hM.2.2.2.2.2.2.2.1 (by rw [hM.2.2.2.2.2.1]; exact Nat.le_of_ble_eq_true rfl) (by rw [hM.2.2.2.2.2.2.1]; exact Nat.le_of_ble_eq_true rfl) (jat hM.2.1 60 rfl) hq
      · have h := (if_pos hc1).symm.trans h
        refine JW.r hM 57 2 (pc2 := 115) (L2 := [some (.ref 0), some (.int x1), some (.int x2), some (.int x3), none, none]) (st2 := [.int x2]) (μ2 := (hX G J)) rfl trivial ?_
        obtain rfl := Option.some.inj h
        exact js_iret hM.1 hp hM.2.2.2.2.2.2.2.1 (by rw [hM.2.2.2.2.2.1]; exact Nat.le_of_ble_eq_true rfl) (by rw [hM.2.2.2.2.2.2.1]; exact Nat.le_of_ble_eq_true rfl) (jat hM.2.1 60 rfl) hq
    · have h := (if_neg hc8).symm.trans h
      refine JW.r hM 9 4 (pc2 := 20) (L2 := [some (.ref 0), some (.int x1), some (.int x2), some (.int x3), some (.int (x3 + (1 : Int32))), none]) (st2 := []) (μ2 := (hX G J)) rfl trivial ?_
      exact t_X5_threes_b20 hM hp N G J (p_X5_threes_b4 N G J n) ih4 N x1 x2 x3 (x3 + (1 : Int32)) h hq
set_option maxHeartbeats 4000000 in
set_option maxRecDepth 100000 in
theorem t_X5_threes {X : jX} {po : Option Value → jH → Prop} {px : String → jH → Prop} {sf : Bool} {B9 : Nat} (hM : jMX X kX5_threes RX5 tbX5 6 ⟨3, 0, 0, 68⟩ (some .int) 71) (hp : jPost X sf B9 po px) (N : Nat) (G : Nat → Nat → Int32) (J : Nat → Nat → Int64) (p0 : Int32) {res : Int32} (h : p_X5_threes N G J p0 = some res) (hq : po (some (.int res)) (hX G J)) : JW X 0 0 0 [some (.ref 0), some (.int p0), none, none, none, none] [] (hX G J) := by
  unfold p_X5_threes at h
  refine JW.r hM 0 4 (pc2 := 4) (L2 := [some (.ref 0), some (.int p0), some (.int (0 : Int32)), some (.int (0 : Int32)), none, none]) (st2 := []) (μ2 := (hX G J)) rfl trivial ?_
  exact t_X5_threes_b4 hM hp N G J N p0 (0 : Int32) (0 : Int32) h hq
theorem m_X5_threes (V : jV) (hV : V.1.stackTraces = false) (N : Nat) (G : Nat → Nat → Int32) (J : Nat → Nat → Int64) (p0 : Int32) (v : Int32) (h : p_X5_threes N G J p0 = some v) : jMet V yX5_threes (jws yX5_threes cX5_threes 6 (some .int)) ⟨3, 0, 0, 68⟩ true 1 [.ref 0, .int p0] (hX G J) (fun o ν => o = some (.int v) ∧ ν = (hX G J)) (fun _ _ => False) := by
  refine jmk (tb := tbX5) (C := kX5_threes) hV rfl (by decide) tbX5_ok rfl kX5_threes_ok rfl ?_
  intro X hM _ hp _
  exact t_X5_threes hM hp N G J p0 h ⟨rfl, rfl⟩
def p_X5_misplaced_b68 (N : Nat) (G : Nat → Nat → Int32) (J : Nat → Nat → Int64) (rv4 : Int32 → Int32 → Option (Int32)) (rv36 : Int32 → Int32 → Int32 → Int32 → Option (Int32)) (x1 : Int32) (x2 : Int32) (x3 : Int32) (x4 : Int32) : Option (Int32) :=
  rv36 x1 x2 x3 (x4 + 1)
def p_X5_misplaced_b36 (N : Nat) (G : Nat → Nat → Int32) (J : Nat → Nat → Int64) (rv4 : Int32 → Int32 → Option (Int32)) : Nat → (Int32) → (Int32) → (Int32) → (Int32) → Option (Int32)
  | 0, _, _, _, _ => none
  | n + 1, x1, x2, x3, x4 => if (G 1 1) ≤ x4 then (rv4 x1 (x2 + 1)) else ((p_X3_worthTo N (jvw G 1) x2 x4).bind (fun v5 => if v5 ≤ x3 then (p_X5_misplaced_b68 N G J rv4 (p_X5_misplaced_b36 N G J rv4 n) x1 x2 x3 x4) else (p_X5_misplaced_b68 N G J rv4 (p_X5_misplaced_b36 N G J rv4 n) (x1 ||| ((1 : Int32) <<< (x2 &&& 31))) x2 x3 x4)))
def p_X5_misplaced_b4 (N : Nat) (G : Nat → Nat → Int32) (J : Nat → Nat → Int64) : Nat → (Int32) → (Int32) → Option (Int32)
  | 0, _, _ => none
  | n + 1, x1, x2 => if (G 1 2) ≤ x2 then (some x1) else (if jin x2 10 = true then (p_X3_worthTo N (jvw G 1) x2 (G 3 x2.toNatClampNeg)).bind (fun v3 => p_X5_misplaced_b36 N G J (p_X5_misplaced_b4 N G J n) N x1 x2 v3 (0 : Int32)) else none)
def p_X5_misplaced (N : Nat) (G : Nat → Nat → Int32) (J : Nat → Nat → Int64) : Option (Int32) :=
  p_X5_misplaced_b4 N G J N (0 : Int32) (0 : Int32)
set_option maxHeartbeats 4000000 in
set_option maxRecDepth 100000 in
theorem t_X5_misplaced_b68 {X : jX} {po : Option Value → jH → Prop} {px : String → jH → Prop} {sf : Bool} {B9 : Nat} (hM : jMX X kX5_misplaced RX5 tbX5 5 ⟨1, 0, 0, 22⟩ (some .int) 71) (hp : jPost X sf B9 po px) (N : Nat) (G : Nat → Nat → Int32) (J : Nat → Nat → Int64) (rv4 : Int32 → Int32 → Option (Int32)) (rv36 : Int32 → Int32 → Int32 → Int32 → Option (Int32)) {res : Int32} (ih4 : ∀ (x1 : Int32) (x2 : Int32), rv4 x1 x2 = some res → JW X 0 0 4 [some (.ref 0), some (.int x1), some (.int x2), none, none] [] (hX G J)) (ih36 : ∀ (x1 : Int32) (x2 : Int32) (x3 : Int32) (x4 : Int32), rv36 x1 x2 x3 x4 = some res → JW X 0 0 36 [some (.ref 0), some (.int x1), some (.int x2), some (.int x3), some (.int x4)] [] (hX G J)) (x1 : Int32) (x2 : Int32) (x3 : Int32) (x4 : Int32) (h : p_X5_misplaced_b68 N G J rv4 rv36 x1 x2 x3 x4 = some res) (hq : po (some (.int res)) (hX G J)) : JW X 0 0 68 [some (.ref 0), some (.int x1), some (.int x2), some (.int x3), some (.int x4)] [] (hX G J) := by
  unfold p_X5_misplaced_b68 at h
  refine JW.r hM 39 2 (pc2 := 36) (L2 := [some (.ref 0), some (.int x1), some (.int x2), some (.int x3), some (.int (x4 + 1))]) (st2 := []) (μ2 := (hX G J)) rfl trivial ?_
  exact ih36 x1 x2 x3 (x4 + 1) h
set_option maxHeartbeats 4000000 in
set_option maxRecDepth 100000 in
theorem t_X5_misplaced_b36 {X : jX} {po : Option Value → jH → Prop} {px : String → jH → Prop} {sf : Bool} {B9 : Nat} (hM : jMX X kX5_misplaced RX5 tbX5 5 ⟨1, 0, 0, 22⟩ (some .int) 71) (hp : jPost X sf B9 po px) (N : Nat) (G : Nat → Nat → Int32) (J : Nat → Nat → Int64) (rv4 : Int32 → Int32 → Option (Int32)) {res : Int32} (ih4 : ∀ (x1 : Int32) (x2 : Int32), rv4 x1 x2 = some res → JW X 0 0 4 [some (.ref 0), some (.int x1), some (.int x2), none, none] [] (hX G J)) : ∀ (n : Nat) (x1 : Int32) (x2 : Int32) (x3 : Int32) (x4 : Int32) (h : p_X5_misplaced_b36 N G J rv4 n x1 x2 x3 x4 = some res) (hq : po (some (.int res)) (hX G J)), JW X 0 0 36 [some (.ref 0), some (.int x1), some (.int x2), some (.int x3), some (.int x4)] [] (hX G J) := by
  intro n
  induction n with
  | zero =>
    intro x1 x2 x3 x4 h hq
    cases (show (none : Option (Int32)) = some res from h)
  | succ n ih36 =>
    intro x1 x2 x3 x4 h hq
    have ih36 := fun x1 x2 x3 x4 h9 => ih36 x1 x2 x3 x4 h9 hq
    rw [p_X5_misplaced_b36] at h
    refine JW.r hM 21 4 (pc2 := 45) (L2 := [some (.ref 0), some (.int x1), some (.int x2), some (.int x3), some (.int x4)]) (st2 := [.int (G 1 1), .int x4]) (μ2 := (hX G J)) rfl trivial ?_
    refine js_icge (t := 74) hM.1 (jat hM.2.1 25 rfl) rfl (fun hc7 => ?_) (fun hc7 => ?_)
    · have h := (if_pos hc7).symm.trans h
      refine JW.r hM 41 2 (pc2 := 4) (L2 := [some (.ref 0), some (.int x1), some (.int (x2 + 1)), some (.int x3), some (.int x4)]) (st2 := []) (μ2 := (hX G J)) rfl trivial ?_
      exact JW.mask [true, true, true, false, false] (ih4 x1 (x2 + 1) h)
    · have h := (if_neg hc7).symm.trans h
      refine JW.r hM 26 4 (pc2 := 55) (L2 := [some (.ref 0), some (.int x1), some (.int x2), some (.int x3), some (.int x4)]) (st2 := [.int x4, .int x2, .ref 1]) (μ2 := (hX G J)) rfl trivial ?_
      obtain ⟨v5, hv4, h⟩ := jbd h
      refine JW.cV (v := some (.int v5)) hM (m_X3_worthTo (jVX X) hM.1.2.2.2.2.2.2.2.2.2.1 N (jvw G 1) x2 x4 v5 hv4) (sb_X_Town_1 G J) (bi_X_Town_1 G J) rfl rfl rfl kc_X5_93 rfl rfl rfl rfl rfl (jat hM.2.1 30 rfl) (st := []) rfl ?_
      show JW X 0 0 58 [some (.ref 0), some (.int x1), some (.int x2), some (.int x3), some (.int x4)] [.int v5] (hX G J)
      refine JW.r hM 31 1 (pc2 := 59) (L2 := [some (.ref 0), some (.int x1), some (.int x2), some (.int x3), some (.int x4)]) (st2 := [.int x3, .int v5]) (μ2 := (hX G J)) rfl trivial ?_
      refine js_icle (t := 68) hM.1 (jat hM.2.1 32 rfl) rfl (fun hc6 => ?_) (fun hc6 => ?_)
      · have h := (if_pos hc6).symm.trans h
        exact t_X5_misplaced_b68 hM hp N G J rv4 (p_X5_misplaced_b36 N G J rv4 n) ih4 ih36 x1 x2 x3 x4 h hq
      · have h := (if_neg hc6).symm.trans h
        refine JW.r hM 33 6 (pc2 := 68) (L2 := [some (.ref 0), some (.int (x1 ||| ((1 : Int32) <<< (x2 &&& 31)))), some (.int x2), some (.int x3), some (.int x4)]) (st2 := []) (μ2 := (hX G J)) rfl trivial ?_
        exact t_X5_misplaced_b68 hM hp N G J rv4 (p_X5_misplaced_b36 N G J rv4 n) ih4 ih36 (x1 ||| ((1 : Int32) <<< (x2 &&& 31))) x2 x3 x4 h hq
set_option maxHeartbeats 4000000 in
set_option maxRecDepth 100000 in
theorem t_X5_misplaced_b4 {X : jX} {po : Option Value → jH → Prop} {px : String → jH → Prop} {sf : Bool} {B9 : Nat} (hM : jMX X kX5_misplaced RX5 tbX5 5 ⟨1, 0, 0, 22⟩ (some .int) 71) (hp : jPost X sf B9 po px) (N : Nat) (G : Nat → Nat → Int32) (J : Nat → Nat → Int64) {res : Int32} : ∀ (n : Nat) (x1 : Int32) (x2 : Int32) (h : p_X5_misplaced_b4 N G J n x1 x2 = some res) (hq : po (some (.int res)) (hX G J)), JW X 0 0 4 [some (.ref 0), some (.int x1), some (.int x2), none, none] [] (hX G J) := by
  intro n
  induction n with
  | zero =>
    intro x1 x2 h hq
    cases (show (none : Option (Int32)) = some res from h)
  | succ n ih4 =>
    intro x1 x2 h hq
    have ih4 := fun x1 x2 h9 => ih4 x1 x2 h9 hq
    rw [p_X5_misplaced_b4] at h
    refine JW.r hM 4 4 (pc2 := 12) (L2 := [some (.ref 0), some (.int x1), some (.int x2), none, none]) (st2 := [.int (G 1 2), .int x2]) (μ2 := (hX G J)) rfl trivial ?_
    refine js_icge (t := 80) hM.1 (jat hM.2.1 8 rfl) rfl (fun hc8 => ?_) (fun hc8 => ?_)
    · have h := (if_pos hc8).symm.trans h
      refine JW.r hM 43 1 (pc2 := 81) (L2 := [some (.ref 0), some (.int x1), some (.int x2), none, none]) (st2 := [.int x1]) (μ2 := (hX G J)) rfl trivial ?_
      obtain rfl := Option.some.inj h
      exact js_iret hM.1 hp hM.2.2.2.2.2.2.2.1 (by rw [hM.2.2.2.2.2.1]; exact Nat.le_of_ble_eq_true rfl) (by rw [hM.2.2.2.2.2.2.1]; exact Nat.le_of_ble_eq_true rfl) (jat hM.2.1 44 rfl) hq
    · have h := (if_neg hc8).symm.trans h
      obtain ⟨g1, h⟩ := jg h
      refine JW.r hM 9 8 (pc2 := 29) (L2 := [some (.ref 0), some (.int x1), some (.int x2), none, none]) (st2 := [.int (G 3 x2.toNatClampNeg), .int x2, .ref 1]) (μ2 := (hX G J)) rfl ⟨g1, trivial⟩ ?_
      obtain ⟨v3, hv2, h⟩ := jbd h
      refine JW.cV (v := some (.int v3)) hM (m_X3_worthTo (jVX X) hM.1.2.2.2.2.2.2.2.2.2.1 N (jvw G 1) x2 (G 3 x2.toNatClampNeg) v3 hv2) (sb_X_Town_1 G J) (bi_X_Town_1 G J) rfl rfl rfl kc_X5_93 rfl rfl rfl rfl rfl (jat hM.2.1 17 rfl) (st := []) rfl ?_
      show JW X 0 0 32 [some (.ref 0), some (.int x1), some (.int x2), none, none] [.int v3] (hX G J)
      refine JW.r hM 18 3 (pc2 := 36) (L2 := [some (.ref 0), some (.int x1), some (.int x2), some (.int v3), some (.int (0 : Int32))]) (st2 := []) (μ2 := (hX G J)) rfl trivial ?_
      exact t_X5_misplaced_b36 hM hp N G J (p_X5_misplaced_b4 N G J n) ih4 N x1 x2 v3 (0 : Int32) h hq
set_option maxHeartbeats 4000000 in
set_option maxRecDepth 100000 in
theorem t_X5_misplaced {X : jX} {po : Option Value → jH → Prop} {px : String → jH → Prop} {sf : Bool} {B9 : Nat} (hM : jMX X kX5_misplaced RX5 tbX5 5 ⟨1, 0, 0, 22⟩ (some .int) 71) (hp : jPost X sf B9 po px) (N : Nat) (G : Nat → Nat → Int32) (J : Nat → Nat → Int64) {res : Int32} (h : p_X5_misplaced N G J = some res) (hq : po (some (.int res)) (hX G J)) : JW X 0 0 0 [some (.ref 0), none, none, none, none] [] (hX G J) := by
  unfold p_X5_misplaced at h
  refine JW.r hM 0 4 (pc2 := 4) (L2 := [some (.ref 0), some (.int (0 : Int32)), some (.int (0 : Int32)), none, none]) (st2 := []) (μ2 := (hX G J)) rfl trivial ?_
  exact t_X5_misplaced_b4 hM hp N G J N (0 : Int32) (0 : Int32) h hq
theorem m_X5_misplaced (V : jV) (hV : V.1.stackTraces = false) (N : Nat) (G : Nat → Nat → Int32) (J : Nat → Nat → Int64) (v : Int32) (h : p_X5_misplaced N G J = some v) : jMet V yX5_misplaced (jws yX5_misplaced cX5_misplaced 5 (some .int)) ⟨1, 0, 0, 22⟩ true 1 [.ref 0] (hX G J) (fun o ν => o = some (.int v) ∧ ν = (hX G J)) (fun _ _ => False) := by
  refine jmk (tb := tbX5) (C := kX5_misplaced) hV rfl (by decide) tbX5_ok rfl kX5_misplaced_ok rfl ?_
  intro X hM _ hp _
  exact t_X5_misplaced hM hp N G J h ⟨rfl, rfl⟩
def p_X5_tray_b9 (N : Nat) (G : Nat → Nat → Int32) (J : Nat → Nat → Int64) : Option (Nat ⊕ ((Nat → Nat → Int32) × (Nat → Nat → Int64))) :=
  some (.inl 1)
def p_X5_tray_b36 (N : Nat) (G : Nat → Nat → Int32) (J : Nat → Nat → Int64) : Option (Nat ⊕ ((Nat → Nat → Int32) × (Nat → Nat → Int64))) :=
  some (.inl 3)
def p_X5_tray (N : Nat) (G : Nat → Nat → Int32) (J : Nat → Nat → Int64) (p0 : Int32) (p1 : Int32) (p2 : Int32) : Option (Nat ⊕ ((Nat → Nat → Int32) × (Nat → Nat → Int64))) :=
  if p0 < 0 then (p_X5_tray_b9 N G J) else (if p0 < (4 : Int32) then (if p1 < 0 then (p_X5_tray_b36 N G J) else (if (3 : Int32) < p1 then (p_X5_tray_b36 N G J) else (if p2 < 0 then (p_X5_tray_b36 N G J) else (if p2 ≤ (40 : Int32) then (if jin p0 4 = true then (if p0.toNatClampNeg = 0 then ((p_X4_lay N (jvw G 62) (jvw J 62) p1 p2).bind (fun v3 => jlt (jpt G 62 2 v3.1) fun G4 => jlt (jpt J 62 2 v3.2) fun J6 => some (.inr (G4, J6)))) else (if p0.toNatClampNeg = 1 then ((p_X4_lay N (jvw G 64) (jvw J 64) p1 p2).bind (fun v9 => jlt (jpt G 64 2 v9.1) fun G10 => jlt (jpt J 64 2 v9.2) fun J12 => some (.inr (G10, J12)))) else (if p0.toNatClampNeg = 2 then ((p_X4_lay N (jvw G 66) (jvw J 66) p1 p2).bind (fun v15 => jlt (jpt G 66 2 v15.1) fun G16 => jlt (jpt J 66 2 v15.2) fun J18 => some (.inr (G16, J18)))) else (if p0.toNatClampNeg = 3 then ((p_X4_lay N (jvw G 68) (jvw J 68) p1 p2).bind (fun v21 => jlt (jpt G 68 2 v21.1) fun G22 => jlt (jpt J 68 2 v21.2) fun J24 => some (.inr (G22, J24)))) else (none))))) else none) else (p_X5_tray_b36 N G J))))) else (p_X5_tray_b9 N G J))
set_option maxHeartbeats 4000000 in
set_option maxRecDepth 100000 in
theorem t_X5_tray_b9 {X : jX} {po : Option Value → jH → Prop} {px : String → jH → Prop} {sf : Bool} {B9 : Nat} (hM : jMX X kX5_tray RX5 tbX5 4 ⟨6, 1, 6, 89⟩ none 71) (hp : jPost X sf B9 po px) (N : Nat) {res : Nat ⊕ ((Nat → Nat → Int32) × (Nat → Nat → Int64))} (G : Nat → Nat → Int32) (J : Nat → Nat → Int64) (h : p_X5_tray_b9 N G J = some res) (hq : ∀ w, res = Sum.inr w → po none (hX w.1 w.2)) (hx : ∀ c, res = Sum.inl c → px (jEn c) (hX G J)) : JW X 0 0 9 [none, none, none, none] [] (hX G J) := by
  unfold p_X5_tray_b9 at h
  obtain rfl := Option.some.inj h
  exact js_throw (ik := 300) (ic := 302) (names := ["java/lang/RuntimeException", "java/lang/Exception"]) hM.1 hp hM.2.2.2.2.2.2.2.2.2 (by decide) (by decide) (by rw [hM.2.2.1]; exact th_X5_300_302) (jat hM.2.1 5 rfl) (jat hM.2.1 6 rfl) (jat hM.2.1 7 rfl) (jat hM.2.1 8 rfl) (by rw [hM.2.2.2.2.1]; exact Nat.le_of_ble_eq_true rfl) (by rw [hM.2.2.2.2.1]; exact Nat.le_of_ble_eq_true rfl) (by rw [hM.2.2.2.2.2.1]; exact Nat.le_of_ble_eq_true rfl) (by rw [hM.2.2.2.2.2.2.1]; exact Nat.le_of_ble_eq_true rfl) (hx _ rfl)
set_option maxHeartbeats 4000000 in
set_option maxRecDepth 100000 in
theorem t_X5_tray_b36 {X : jX} {po : Option Value → jH → Prop} {px : String → jH → Prop} {sf : Bool} {B9 : Nat} (hM : jMX X kX5_tray RX5 tbX5 4 ⟨6, 1, 6, 89⟩ none 71) (hp : jPost X sf B9 po px) (N : Nat) {res : Nat ⊕ ((Nat → Nat → Int32) × (Nat → Nat → Int64))} (G : Nat → Nat → Int32) (J : Nat → Nat → Int64) (h : p_X5_tray_b36 N G J = some res) (hq : ∀ w, res = Sum.inr w → po none (hX w.1 w.2)) (hx : ∀ c, res = Sum.inl c → px (jEn c) (hX G J)) : JW X 0 0 36 [none, none, none, none] [] (hX G J) := by
  unfold p_X5_tray_b36 at h
  obtain rfl := Option.some.inj h
  exact js_throw (ik := 56) (ic := 58) (names := ["java/lang/RuntimeException", "java/lang/Exception"]) hM.1 hp hM.2.2.2.2.2.2.2.2.2 (by decide) (by decide) (by rw [hM.2.2.1]; exact th_X5_56_58) (jat hM.2.1 19 rfl) (jat hM.2.1 20 rfl) (jat hM.2.1 21 rfl) (jat hM.2.1 22 rfl) (by rw [hM.2.2.2.2.1]; exact Nat.le_of_ble_eq_true rfl) (by rw [hM.2.2.2.2.1]; exact Nat.le_of_ble_eq_true rfl) (by rw [hM.2.2.2.2.2.1]; exact Nat.le_of_ble_eq_true rfl) (by rw [hM.2.2.2.2.2.2.1]; exact Nat.le_of_ble_eq_true rfl) (hx _ rfl)
set_option maxHeartbeats 4000000 in
set_option maxRecDepth 100000 in
theorem t_X5_tray {X : jX} {po : Option Value → jH → Prop} {px : String → jH → Prop} {sf : Bool} {B9 : Nat} (hM : jMX X kX5_tray RX5 tbX5 4 ⟨6, 1, 6, 89⟩ none 71) (hp : jPost X sf B9 po px) (N : Nat) (G : Nat → Nat → Int32) (J : Nat → Nat → Int64) (p0 : Int32) (p1 : Int32) (p2 : Int32) {res : Nat ⊕ ((Nat → Nat → Int32) × (Nat → Nat → Int64))} (h : p_X5_tray N G J p0 p1 p2 = some res) (hq : ∀ w, res = Sum.inr w → po none (hX w.1 w.2)) (hx : ∀ c, res = Sum.inl c → px (jEn c) (hX G J)) : JW X 0 0 0 [some (.ref 0), some (.int p0), some (.int p1), some (.int p2)] [] (hX G J) := by
  unfold p_X5_tray at h
  refine JW.r hM 0 1 (pc2 := 1) (L2 := [some (.ref 0), some (.int p0), some (.int p1), some (.int p2)]) (st2 := [.int p0]) (μ2 := (hX G J)) rfl trivial ?_
  refine js_iflt (t := 9) hM.1 (jat hM.2.1 1 rfl) rfl (fun hc35 => ?_) (fun hc35 => ?_)
  · have h := (if_pos hc35).symm.trans h
    exact JW.mask [false, false, false, false] (t_X5_tray_b9 hM hp N G J h hq hx)
  · have h := (if_neg hc35).symm.trans h
    refine JW.r hM 2 2 (pc2 := 6) (L2 := [some (.ref 0), some (.int p0), some (.int p1), some (.int p2)]) (st2 := [.int (4 : Int32), .int p0]) (μ2 := (hX G J)) rfl trivial ?_
    refine js_iclt (t := 17) hM.1 (jat hM.2.1 4 rfl) rfl (fun hc34 => ?_) (fun hc34 => ?_)
    · have h := (if_pos hc34).symm.trans h
      refine JW.r hM 9 1 (pc2 := 18) (L2 := [some (.ref 0), some (.int p0), some (.int p1), some (.int p2)]) (st2 := [.int p1]) (μ2 := (hX G J)) rfl trivial ?_
      refine js_iflt (t := 36) hM.1 (jat hM.2.1 10 rfl) rfl (fun hc33 => ?_) (fun hc33 => ?_)
      · have h := (if_pos hc33).symm.trans h
        exact JW.mask [false, false, false, false] (t_X5_tray_b36 hM hp N G J h hq hx)
      · have h := (if_neg hc33).symm.trans h
        refine JW.r hM 11 2 (pc2 := 23) (L2 := [some (.ref 0), some (.int p0), some (.int p1), some (.int p2)]) (st2 := [.int (3 : Int32), .int p1]) (μ2 := (hX G J)) rfl trivial ?_
        refine js_icgt (t := 36) hM.1 (jat hM.2.1 13 rfl) rfl (fun hc32 => ?_) (fun hc32 => ?_)
        · have h := (if_pos hc32).symm.trans h
          exact JW.mask [false, false, false, false] (t_X5_tray_b36 hM hp N G J h hq hx)
        · have h := (if_neg hc32).symm.trans h
          refine JW.r hM 14 1 (pc2 := 27) (L2 := [some (.ref 0), some (.int p0), some (.int p1), some (.int p2)]) (st2 := [.int p2]) (μ2 := (hX G J)) rfl trivial ?_
          refine js_iflt (t := 36) hM.1 (jat hM.2.1 15 rfl) rfl (fun hc31 => ?_) (fun hc31 => ?_)
          · have h := (if_pos hc31).symm.trans h
            exact JW.mask [false, false, false, false] (t_X5_tray_b36 hM hp N G J h hq hx)
          · have h := (if_neg hc31).symm.trans h
            refine JW.r hM 16 2 (pc2 := 33) (L2 := [some (.ref 0), some (.int p0), some (.int p1), some (.int p2)]) (st2 := [.int (40 : Int32), .int p2]) (μ2 := (hX G J)) rfl trivial ?_
            refine js_icle (t := 44) hM.1 (jat hM.2.1 18 rfl) rfl (fun hc30 => ?_) (fun hc30 => ?_)
            · have h := (if_pos hc30).symm.trans h
              refine JW.r hM 23 3 (pc2 := 49) (L2 := [some (.ref 0), some (.int p0), some (.int p1), some (.int p2)]) (st2 := [.int p0, .ref 21]) (μ2 := (hX G J)) rfl trivial ?_
              obtain ⟨g1, h⟩ := jg h
              by_cases hc29 : p0.toNatClampNeg = 0
              · have h := (if_pos hc29).symm.trans h
                refine js_aald (t := 5) (r := 62) (rs := [some 62, some 64, some 66, some 68]) hM.1 (by decide) rfl g1 (by rw [hc29]; rfl) (jat hM.2.1 26 rfl) ?_
                show JW X 0 0 50 [some (.ref 0), some (.int p0), some (.int p1), some (.int p2)] [.ref 62] (hX G J)
                refine JW.r hM 27 2 (pc2 := 52) (L2 := [some (.ref 0), some (.int p0), some (.int p1), some (.int p2)]) (st2 := [.int p2, .int p1, .ref 62]) (μ2 := (hX G J)) rfl trivial ?_
                obtain ⟨v3, hv2, h⟩ := jbd h
                refine JW.cV (v := none) hM (m_X4_lay (jVX X) hM.1.2.2.2.2.2.2.2.2.2.1 N (jvw G 62) (jvw J 62) p1 p2 v3 hv2) (sb_X_Tray_62 G J) (bk_X_Tray_62 G J v3.1 v3.2) rfl rfl rfl kc_X5_303 rfl rfl rfl rfl rfl (jat hM.2.1 29 rfl) (st := []) rfl ?_
                show JW X 0 0 55 [some (.ref 0), some (.int p0), some (.int p1), some (.int p2)] [] (hX (jpt G 62 2 v3.1) (jpt J 62 2 v3.2))
                obtain ⟨G4, e5, h⟩ := jlE h
                rw [e5]
                obtain ⟨J6, e7, h⟩ := jlE h
                rw [e7]
                obtain rfl := Option.some.inj h
                exact js_vret hM.1 hp hM.2.2.2.2.2.2.2.1 (by rw [hM.2.2.2.2.2.1]; exact Nat.le_of_ble_eq_true rfl) (by rw [hM.2.2.2.2.2.2.1]; exact Nat.le_of_ble_eq_true rfl) (jat hM.2.1 30 rfl) (hq (G4, J6) rfl)
              · have h := (if_neg hc29).symm.trans h
                by_cases hc28 : p0.toNatClampNeg = 1
                · have h := (if_pos hc28).symm.trans h
                  refine js_aald (t := 5) (r := 64) (rs := [some 62, some 64, some 66, some 68]) hM.1 (by decide) rfl g1 (by rw [hc28]; rfl) (jat hM.2.1 26 rfl) ?_
                  show JW X 0 0 50 [some (.ref 0), some (.int p0), some (.int p1), some (.int p2)] [.ref 64] (hX G J)
                  refine JW.r hM 27 2 (pc2 := 52) (L2 := [some (.ref 0), some (.int p0), some (.int p1), some (.int p2)]) (st2 := [.int p2, .int p1, .ref 64]) (μ2 := (hX G J)) rfl trivial ?_
                  obtain ⟨v9, hv8, h⟩ := jbd h
                  refine JW.cV (v := none) hM (m_X4_lay (jVX X) hM.1.2.2.2.2.2.2.2.2.2.1 N (jvw G 64) (jvw J 64) p1 p2 v9 hv8) (sb_X_Tray_64 G J) (bk_X_Tray_64 G J v9.1 v9.2) rfl rfl rfl kc_X5_303 rfl rfl rfl rfl rfl (jat hM.2.1 29 rfl) (st := []) rfl ?_
                  show JW X 0 0 55 [some (.ref 0), some (.int p0), some (.int p1), some (.int p2)] [] (hX (jpt G 64 2 v9.1) (jpt J 64 2 v9.2))
                  obtain ⟨G10, e11, h⟩ := jlE h
                  rw [e11]
                  obtain ⟨J12, e13, h⟩ := jlE h
                  rw [e13]
                  obtain rfl := Option.some.inj h
                  exact js_vret hM.1 hp hM.2.2.2.2.2.2.2.1 (by rw [hM.2.2.2.2.2.1]; exact Nat.le_of_ble_eq_true rfl) (by rw [hM.2.2.2.2.2.2.1]; exact Nat.le_of_ble_eq_true rfl) (jat hM.2.1 30 rfl) (hq (G10, J12) rfl)
                · have h := (if_neg hc28).symm.trans h
                  by_cases hc27 : p0.toNatClampNeg = 2
                  · have h := (if_pos hc27).symm.trans h
                    refine js_aald (t := 5) (r := 66) (rs := [some 62, some 64, some 66, some 68]) hM.1 (by decide) rfl g1 (by rw [hc27]; rfl) (jat hM.2.1 26 rfl) ?_
                    show JW X 0 0 50 [some (.ref 0), some (.int p0), some (.int p1), some (.int p2)] [.ref 66] (hX G J)
                    refine JW.r hM 27 2 (pc2 := 52) (L2 := [some (.ref 0), some (.int p0), some (.int p1), some (.int p2)]) (st2 := [.int p2, .int p1, .ref 66]) (μ2 := (hX G J)) rfl trivial ?_
                    obtain ⟨v15, hv14, h⟩ := jbd h
                    refine JW.cV (v := none) hM (m_X4_lay (jVX X) hM.1.2.2.2.2.2.2.2.2.2.1 N (jvw G 66) (jvw J 66) p1 p2 v15 hv14) (sb_X_Tray_66 G J) (bk_X_Tray_66 G J v15.1 v15.2) rfl rfl rfl kc_X5_303 rfl rfl rfl rfl rfl (jat hM.2.1 29 rfl) (st := []) rfl ?_
                    show JW X 0 0 55 [some (.ref 0), some (.int p0), some (.int p1), some (.int p2)] [] (hX (jpt G 66 2 v15.1) (jpt J 66 2 v15.2))
                    obtain ⟨G16, e17, h⟩ := jlE h
                    rw [e17]
                    obtain ⟨J18, e19, h⟩ := jlE h
                    rw [e19]
                    obtain rfl := Option.some.inj h
                    exact js_vret hM.1 hp hM.2.2.2.2.2.2.2.1 (by rw [hM.2.2.2.2.2.1]; exact Nat.le_of_ble_eq_true rfl) (by rw [hM.2.2.2.2.2.2.1]; exact Nat.le_of_ble_eq_true rfl) (jat hM.2.1 30 rfl) (hq (G16, J18) rfl)
                  · have h := (if_neg hc27).symm.trans h
                    by_cases hc26 : p0.toNatClampNeg = 3
                    · have h := (if_pos hc26).symm.trans h
                      refine js_aald (t := 5) (r := 68) (rs := [some 62, some 64, some 66, some 68]) hM.1 (by decide) rfl g1 (by rw [hc26]; rfl) (jat hM.2.1 26 rfl) ?_
                      show JW X 0 0 50 [some (.ref 0), some (.int p0), some (.int p1), some (.int p2)] [.ref 68] (hX G J)
                      refine JW.r hM 27 2 (pc2 := 52) (L2 := [some (.ref 0), some (.int p0), some (.int p1), some (.int p2)]) (st2 := [.int p2, .int p1, .ref 68]) (μ2 := (hX G J)) rfl trivial ?_
                      obtain ⟨v21, hv20, h⟩ := jbd h
                      refine JW.cV (v := none) hM (m_X4_lay (jVX X) hM.1.2.2.2.2.2.2.2.2.2.1 N (jvw G 68) (jvw J 68) p1 p2 v21 hv20) (sb_X_Tray_68 G J) (bk_X_Tray_68 G J v21.1 v21.2) rfl rfl rfl kc_X5_303 rfl rfl rfl rfl rfl (jat hM.2.1 29 rfl) (st := []) rfl ?_
                      show JW X 0 0 55 [some (.ref 0), some (.int p0), some (.int p1), some (.int p2)] [] (hX (jpt G 68 2 v21.1) (jpt J 68 2 v21.2))
                      obtain ⟨G22, e23, h⟩ := jlE h
                      rw [e23]
                      obtain ⟨J24, e25, h⟩ := jlE h
                      rw [e25]
                      obtain rfl := Option.some.inj h
                      exact js_vret hM.1 hp hM.2.2.2.2.2.2.2.1 (by rw [hM.2.2.2.2.2.1]; exact Nat.le_of_ble_eq_true rfl) (by rw [hM.2.2.2.2.2.2.1]; exact Nat.le_of_ble_eq_true rfl) (jat hM.2.1 30 rfl) (hq (G22, J24) rfl)
                    · have h := (if_neg hc26).symm.trans h
                      cases h
            · have h := (if_neg hc30).symm.trans h
              exact JW.mask [false, false, false, false] (t_X5_tray_b36 hM hp N G J h hq hx)
    · have h := (if_neg hc34).symm.trans h
      exact JW.mask [false, false, false, false] (t_X5_tray_b9 hM hp N G J h hq hx)
theorem m_X5_tray_r (V : jV) (hV : V.1.stackTraces = false) (N : Nat) (G : Nat → Nat → Int32) (J : Nat → Nat → Int64) (p0 : Int32) (p1 : Int32) (p2 : Int32) (v : ((Nat → Nat → Int32) × (Nat → Nat → Int64))) (h : p_X5_tray N G J p0 p1 p2 = some (.inr v)) : jMet V yX5_tray (jws yX5_tray cX5_tray 4 none) ⟨6, 1, 6, 89⟩ true 1 [.ref 0, .int p0, .int p1, .int p2] (hX G J) (fun o ν => o = none ∧ ν = (hX v.1 v.2)) (fun _ _ => False) := by
  refine jmk (tb := tbX5) (C := kX5_tray) hV rfl (by decide) tbX5_ok rfl kX5_tray_ok rfl ?_
  intro X hM _ hp _
  exact t_X5_tray hM hp N G J p0 p1 p2 h (fun w hw => by cases hw; exact ⟨rfl, rfl⟩) (fun c hc => by cases hc)
theorem m_X5_tray_x (V : jV) (hV : V.1.stackTraces = false) (N : Nat) (G : Nat → Nat → Int32) (J : Nat → Nat → Int64) (p0 : Int32) (p1 : Int32) (p2 : Int32) (c : Nat) (h : p_X5_tray N G J p0 p1 p2 = some (.inl c)) : jMet V yX5_tray (jws yX5_tray cX5_tray 4 none) ⟨6, 1, 6, 89⟩ true 1 [.ref 0, .int p0, .int p1, .int p2] (hX G J) (fun _ _ => False) (fun E ν => E = jEn c ∧ ν = (hX G J)) := by
  refine jmk (tb := tbX5) (C := kX5_tray) hV rfl (by decide) tbX5_ok rfl kX5_tray_ok rfl ?_
  intro X hM _ hp _
  exact t_X5_tray hM hp N G J p0 p1 p2 h (fun w hw => by cases hw) (fun c hc => by cases hc; exact ⟨rfl, rfl⟩)
def p_X5_write_b20 (N : Nat) (G : Nat → Nat → Int32) (J : Nat → Nat → Int64) : Option (Nat ⊕ (Int64 × (Nat → Nat → Int64))) :=
  some (.inl 4)
def p_X5_write (N : Nat) (G : Nat → Nat → Int32) (J : Nat → Nat → Int64) (p0 : Int32) (p1 : Int32) (p2 : Int64) : Option (Nat ⊕ (Int64 × (Nat → Nat → Int64))) :=
  jbx (p_X5_needTray N G J p0) (fun v2 => if v2 = 62 then (if p1 < 0 then (p_X5_write_b20 N G J) else (if p1 < (G 62 1) then ((p_X4_put N (jvw G 62) (jvw J 62) p1 p2).bind (fun v4 => jlt (jpt J 62 2 v4) fun J5 => if jin p1 40 = true then some (.inr ((J5 63 p1.toNatClampNeg), J5)) else none)) else (p_X5_write_b20 N G J))) else (if v2 = 64 then (if p1 < 0 then (p_X5_write_b20 N G J) else (if p1 < (G 64 1) then ((p_X4_put N (jvw G 64) (jvw J 64) p1 p2).bind (fun v11 => jlt (jpt J 64 2 v11) fun J12 => if jin p1 40 = true then some (.inr ((J12 65 p1.toNatClampNeg), J12)) else none)) else (p_X5_write_b20 N G J))) else (if v2 = 66 then (if p1 < 0 then (p_X5_write_b20 N G J) else (if p1 < (G 66 1) then ((p_X4_put N (jvw G 66) (jvw J 66) p1 p2).bind (fun v18 => jlt (jpt J 66 2 v18) fun J19 => if jin p1 40 = true then some (.inr ((J19 67 p1.toNatClampNeg), J19)) else none)) else (p_X5_write_b20 N G J))) else (if v2 = 68 then (if p1 < 0 then (p_X5_write_b20 N G J) else (if p1 < (G 68 1) then ((p_X4_put N (jvw G 68) (jvw J 68) p1 p2).bind (fun v25 => jlt (jpt J 68 2 v25) fun J26 => if jin p1 40 = true then some (.inr ((J26 69 p1.toNatClampNeg), J26)) else none)) else (p_X5_write_b20 N G J))) else (none)))))
set_option maxHeartbeats 4000000 in
set_option maxRecDepth 100000 in
theorem t_X5_write_b20 {X : jX} {po : Option Value → jH → Prop} {px : String → jH → Prop} {sf : Bool} {B9 : Nat} (hM : jMX X kX5_write RX5 tbX5 6 ⟨7, 2, 12, 110⟩ (some .long) 71) (hp : jPost X sf B9 po px) (N : Nat) (G : Nat → Nat → Int32) {res : Nat ⊕ (Int64 × (Nat → Nat → Int64))} (J : Nat → Nat → Int64) (h : p_X5_write_b20 N G J = some res) (hq : ∀ w, res = Sum.inr w → po (some (.long w.1)) (hX G w.2)) (hx : ∀ c, res = Sum.inl c → px (jEn c) (hX G J)) : JW X 1 6 20 [none, none, none, none, none, none] [] (hX G J) := by
  unfold p_X5_write_b20 at h
  obtain rfl := Option.some.inj h
  exact js_throw (ik := 306) (ic := 308) (names := ["java/lang/RuntimeException", "java/lang/Exception"]) hM.1 hp hM.2.2.2.2.2.2.2.2.2 (by decide) (by decide) (by rw [hM.2.2.1]; exact th_X5_306_308) (jat hM.2.1 10 rfl) (jat hM.2.1 11 rfl) (jat hM.2.1 12 rfl) (jat hM.2.1 13 rfl) (by rw [hM.2.2.2.2.1]; exact Nat.le_of_ble_eq_true rfl) (by rw [hM.2.2.2.2.1]; exact Nat.le_of_ble_eq_true rfl) (by rw [hM.2.2.2.2.2.1]; exact Nat.le_of_ble_eq_true rfl) (by rw [hM.2.2.2.2.2.2.1]; exact Nat.le_of_ble_eq_true rfl) (hx _ rfl)
set_option maxHeartbeats 4000000 in
set_option maxRecDepth 100000 in
theorem t_X5_write {X : jX} {po : Option Value → jH → Prop} {px : String → jH → Prop} {sf : Bool} {B9 : Nat} (hM : jMX X kX5_write RX5 tbX5 6 ⟨7, 2, 12, 110⟩ (some .long) 71) (hp : jPost X sf B9 po px) (N : Nat) (G : Nat → Nat → Int32) (J : Nat → Nat → Int64) (p0 : Int32) (p1 : Int32) (p2 : Int64) {res : Nat ⊕ (Int64 × (Nat → Nat → Int64))} (h : p_X5_write N G J p0 p1 p2 = some res) (hq : ∀ w, res = Sum.inr w → po (some (.long w.1)) (hX G w.2)) (hx : ∀ c, res = Sum.inl c → px (jEn c) (hX G J)) : JW X 0 0 0 [some (.ref 0), some (.int p0), some (.int p1), some (.long p2), none, none] [] (hX G J) := by
  unfold p_X5_write at h
  refine JW.r hM 0 2 (pc2 := 2) (L2 := [some (.ref 0), some (.int p0), some (.int p1), some (.long p2), none, none]) (st2 := [.int p0, .ref 0]) (μ2 := (hX G J)) rfl trivial ?_
  rcases jbxE h with h | h
  · obtain ⟨v2, hv1, h⟩ := h
    refine JW.cV (v := some (.ref v2)) hM (m_X5_needTray_r (jVX X) hM.1.2.2.2.2.2.2.2.2.2.1 N G J p0 v2 hv1) (sb_X_X_0 G J) (bi_X_X_0 G J) rfl rfl rfl kc_X5_183 rfl rfl rfl rfl rfl (jat hM.2.1 2 rfl) (st := []) rfl ?_
    by_cases hc34 : v2 = 62
    · subst hc34
      have h := (if_pos rfl).symm.trans h
      show JW X 1 6 5 [some (.ref 0), some (.int p0), some (.int p1), some (.long p2), none, none] [.ref 62] (hX G J)
      refine JW.r hM 3 2 (pc2 := 8) (L2 := [some (.ref 0), some (.int p0), some (.int p1), some (.long p2), none, some (.ref 62)]) (st2 := [.int p1]) (μ2 := (hX G J)) rfl trivial ?_
      refine js_iflt (t := 20) hM.1 (jat hM.2.1 5 rfl) rfl (fun hc9 => ?_) (fun hc9 => ?_)
      · have h := (if_pos hc9).symm.trans h
        exact JW.mask [false, false, false, false, false, false] (t_X5_write_b20 hM hp N G J h hq hx)
      · have h := (if_neg hc9).symm.trans h
        refine JW.r hM 6 3 (pc2 := 17) (L2 := [some (.ref 0), some (.int p0), some (.int p1), some (.long p2), none, some (.ref 62)]) (st2 := [.int (G 62 1), .int p1]) (μ2 := (hX G J)) rfl trivial ?_
        refine js_iclt (t := 28) hM.1 (jat hM.2.1 9 rfl) rfl (fun hc8 => ?_) (fun hc8 => ?_)
        · have h := (if_pos hc8).symm.trans h
          refine JW.r hM 14 3 (pc2 := 32) (L2 := [some (.ref 0), some (.int p0), some (.int p1), some (.long p2), none, some (.ref 62)]) (st2 := [.long p2, .int p1, .ref 62]) (μ2 := (hX G J)) rfl trivial ?_
          obtain ⟨v4, hv3, h⟩ := jbd h
          refine JW.cV (v := none) hM (m_X4_put (jVX X) hM.1.2.2.2.2.2.2.2.2.2.1 N (jvw G 62) (jvw J 62) p1 p2 v4 hv3) (sb_X_Tray_62 G J) (bk_X_Tray_62 G J (jvw G 62) v4) rfl rfl rfl kc_X5_309 rfl rfl rfl rfl rfl (jat hM.2.1 17 rfl) (st := []) rfl ?_
          show JW X 1 6 35 [some (.ref 0), some (.int p0), some (.int p1), some (.long p2), none, some (.ref 62)] [] (hX G (jpt J 62 2 v4))
          obtain ⟨J5, e6, h⟩ := jlE h
          rw [e6]
          obtain ⟨g7, h⟩ := jg h
          refine JW.r hM 18 4 (pc2 := 42) (L2 := [some (.ref 0), some (.int p0), some (.int p1), some (.long p2), none, some (.ref 62)]) (st2 := [.long (J5 63 p1.toNatClampNeg)]) (μ2 := (hX G J5)) rfl ⟨g7, trivial⟩ ?_
          obtain rfl := Option.some.inj h
          exact js_lret hM.1 hp hM.2.2.2.2.2.2.2.1 (by rw [hM.2.2.2.2.2.1]; exact Nat.le_of_ble_eq_true rfl) (by rw [hM.2.2.2.2.2.2.1]; exact Nat.le_of_ble_eq_true rfl) (jat hM.2.1 22 rfl) (hq ((J5 63 p1.toNatClampNeg), J5) rfl)
        · have h := (if_neg hc8).symm.trans h
          exact JW.mask [false, false, false, false, false, false] (t_X5_write_b20 hM hp N G J h hq hx)
    · have h := (if_neg hc34).symm.trans h
      by_cases hc33 : v2 = 64
      · subst hc33
        have h := (if_pos rfl).symm.trans h
        show JW X 1 6 5 [some (.ref 0), some (.int p0), some (.int p1), some (.long p2), none, none] [.ref 64] (hX G J)
        refine JW.r hM 3 2 (pc2 := 8) (L2 := [some (.ref 0), some (.int p0), some (.int p1), some (.long p2), none, some (.ref 64)]) (st2 := [.int p1]) (μ2 := (hX G J)) rfl trivial ?_
        refine js_iflt (t := 20) hM.1 (jat hM.2.1 5 rfl) rfl (fun hc16 => ?_) (fun hc16 => ?_)
        · have h := (if_pos hc16).symm.trans h
          exact JW.mask [false, false, false, false, false, false] (t_X5_write_b20 hM hp N G J h hq hx)
        · have h := (if_neg hc16).symm.trans h
          refine JW.r hM 6 3 (pc2 := 17) (L2 := [some (.ref 0), some (.int p0), some (.int p1), some (.long p2), none, some (.ref 64)]) (st2 := [.int (G 64 1), .int p1]) (μ2 := (hX G J)) rfl trivial ?_
          refine js_iclt (t := 28) hM.1 (jat hM.2.1 9 rfl) rfl (fun hc15 => ?_) (fun hc15 => ?_)
          · have h := (if_pos hc15).symm.trans h
            refine JW.r hM 14 3 (pc2 := 32) (L2 := [some (.ref 0), some (.int p0), some (.int p1), some (.long p2), none, some (.ref 64)]) (st2 := [.long p2, .int p1, .ref 64]) (μ2 := (hX G J)) rfl trivial ?_
            obtain ⟨v11, hv10, h⟩ := jbd h
            refine JW.cV (v := none) hM (m_X4_put (jVX X) hM.1.2.2.2.2.2.2.2.2.2.1 N (jvw G 64) (jvw J 64) p1 p2 v11 hv10) (sb_X_Tray_64 G J) (bk_X_Tray_64 G J (jvw G 64) v11) rfl rfl rfl kc_X5_309 rfl rfl rfl rfl rfl (jat hM.2.1 17 rfl) (st := []) rfl ?_
            show JW X 1 6 35 [some (.ref 0), some (.int p0), some (.int p1), some (.long p2), none, some (.ref 64)] [] (hX G (jpt J 64 2 v11))
            obtain ⟨J12, e13, h⟩ := jlE h
            rw [e13]
            obtain ⟨g14, h⟩ := jg h
            refine JW.r hM 18 4 (pc2 := 42) (L2 := [some (.ref 0), some (.int p0), some (.int p1), some (.long p2), none, some (.ref 64)]) (st2 := [.long (J12 65 p1.toNatClampNeg)]) (μ2 := (hX G J12)) rfl ⟨g14, trivial⟩ ?_
            obtain rfl := Option.some.inj h
            exact js_lret hM.1 hp hM.2.2.2.2.2.2.2.1 (by rw [hM.2.2.2.2.2.1]; exact Nat.le_of_ble_eq_true rfl) (by rw [hM.2.2.2.2.2.2.1]; exact Nat.le_of_ble_eq_true rfl) (jat hM.2.1 22 rfl) (hq ((J12 65 p1.toNatClampNeg), J12) rfl)
          · have h := (if_neg hc15).symm.trans h
            exact JW.mask [false, false, false, false, false, false] (t_X5_write_b20 hM hp N G J h hq hx)
      · have h := (if_neg hc33).symm.trans h
        by_cases hc32 : v2 = 66
        · subst hc32
          have h := (if_pos rfl).symm.trans h
          show JW X 1 6 5 [some (.ref 0), some (.int p0), some (.int p1), some (.long p2), none, none] [.ref 66] (hX G J)
          refine JW.r hM 3 2 (pc2 := 8) (L2 := [some (.ref 0), some (.int p0), some (.int p1), some (.long p2), none, some (.ref 66)]) (st2 := [.int p1]) (μ2 := (hX G J)) rfl trivial ?_
          refine js_iflt (t := 20) hM.1 (jat hM.2.1 5 rfl) rfl (fun hc23 => ?_) (fun hc23 => ?_)
          · have h := (if_pos hc23).symm.trans h
            exact JW.mask [false, false, false, false, false, false] (t_X5_write_b20 hM hp N G J h hq hx)
          · have h := (if_neg hc23).symm.trans h
            refine JW.r hM 6 3 (pc2 := 17) (L2 := [some (.ref 0), some (.int p0), some (.int p1), some (.long p2), none, some (.ref 66)]) (st2 := [.int (G 66 1), .int p1]) (μ2 := (hX G J)) rfl trivial ?_
            refine js_iclt (t := 28) hM.1 (jat hM.2.1 9 rfl) rfl (fun hc22 => ?_) (fun hc22 => ?_)
            · have h := (if_pos hc22).symm.trans h
              refine JW.r hM 14 3 (pc2 := 32) (L2 := [some (.ref 0), some (.int p0), some (.int p1), some (.long p2), none, some (.ref 66)]) (st2 := [.long p2, .int p1, .ref 66]) (μ2 := (hX G J)) rfl trivial ?_
              obtain ⟨v18, hv17, h⟩ := jbd h
              refine JW.cV (v := none) hM (m_X4_put (jVX X) hM.1.2.2.2.2.2.2.2.2.2.1 N (jvw G 66) (jvw J 66) p1 p2 v18 hv17) (sb_X_Tray_66 G J) (bk_X_Tray_66 G J (jvw G 66) v18) rfl rfl rfl kc_X5_309 rfl rfl rfl rfl rfl (jat hM.2.1 17 rfl) (st := []) rfl ?_
              show JW X 1 6 35 [some (.ref 0), some (.int p0), some (.int p1), some (.long p2), none, some (.ref 66)] [] (hX G (jpt J 66 2 v18))
              obtain ⟨J19, e20, h⟩ := jlE h
              rw [e20]
              obtain ⟨g21, h⟩ := jg h
              refine JW.r hM 18 4 (pc2 := 42) (L2 := [some (.ref 0), some (.int p0), some (.int p1), some (.long p2), none, some (.ref 66)]) (st2 := [.long (J19 67 p1.toNatClampNeg)]) (μ2 := (hX G J19)) rfl ⟨g21, trivial⟩ ?_
              obtain rfl := Option.some.inj h
              exact js_lret hM.1 hp hM.2.2.2.2.2.2.2.1 (by rw [hM.2.2.2.2.2.1]; exact Nat.le_of_ble_eq_true rfl) (by rw [hM.2.2.2.2.2.2.1]; exact Nat.le_of_ble_eq_true rfl) (jat hM.2.1 22 rfl) (hq ((J19 67 p1.toNatClampNeg), J19) rfl)
            · have h := (if_neg hc22).symm.trans h
              exact JW.mask [false, false, false, false, false, false] (t_X5_write_b20 hM hp N G J h hq hx)
        · have h := (if_neg hc32).symm.trans h
          by_cases hc31 : v2 = 68
          · subst hc31
            have h := (if_pos rfl).symm.trans h
            show JW X 1 6 5 [some (.ref 0), some (.int p0), some (.int p1), some (.long p2), none, none] [.ref 68] (hX G J)
            refine JW.r hM 3 2 (pc2 := 8) (L2 := [some (.ref 0), some (.int p0), some (.int p1), some (.long p2), none, some (.ref 68)]) (st2 := [.int p1]) (μ2 := (hX G J)) rfl trivial ?_
            refine js_iflt (t := 20) hM.1 (jat hM.2.1 5 rfl) rfl (fun hc30 => ?_) (fun hc30 => ?_)
            · have h := (if_pos hc30).symm.trans h
              exact JW.mask [false, false, false, false, false, false] (t_X5_write_b20 hM hp N G J h hq hx)
            · have h := (if_neg hc30).symm.trans h
              refine JW.r hM 6 3 (pc2 := 17) (L2 := [some (.ref 0), some (.int p0), some (.int p1), some (.long p2), none, some (.ref 68)]) (st2 := [.int (G 68 1), .int p1]) (μ2 := (hX G J)) rfl trivial ?_
              refine js_iclt (t := 28) hM.1 (jat hM.2.1 9 rfl) rfl (fun hc29 => ?_) (fun hc29 => ?_)
              · have h := (if_pos hc29).symm.trans h
                refine JW.r hM 14 3 (pc2 := 32) (L2 := [some (.ref 0), some (.int p0), some (.int p1), some (.long p2), none, some (.ref 68)]) (st2 := [.long p2, .int p1, .ref 68]) (μ2 := (hX G J)) rfl trivial ?_
                obtain ⟨v25, hv24, h⟩ := jbd h
                refine JW.cV (v := none) hM (m_X4_put (jVX X) hM.1.2.2.2.2.2.2.2.2.2.1 N (jvw G 68) (jvw J 68) p1 p2 v25 hv24) (sb_X_Tray_68 G J) (bk_X_Tray_68 G J (jvw G 68) v25) rfl rfl rfl kc_X5_309 rfl rfl rfl rfl rfl (jat hM.2.1 17 rfl) (st := []) rfl ?_
                show JW X 1 6 35 [some (.ref 0), some (.int p0), some (.int p1), some (.long p2), none, some (.ref 68)] [] (hX G (jpt J 68 2 v25))
                obtain ⟨J26, e27, h⟩ := jlE h
                rw [e27]
                obtain ⟨g28, h⟩ := jg h
                refine JW.r hM 18 4 (pc2 := 42) (L2 := [some (.ref 0), some (.int p0), some (.int p1), some (.long p2), none, some (.ref 68)]) (st2 := [.long (J26 69 p1.toNatClampNeg)]) (μ2 := (hX G J26)) rfl ⟨g28, trivial⟩ ?_
                obtain rfl := Option.some.inj h
                exact js_lret hM.1 hp hM.2.2.2.2.2.2.2.1 (by rw [hM.2.2.2.2.2.1]; exact Nat.le_of_ble_eq_true rfl) (by rw [hM.2.2.2.2.2.2.1]; exact Nat.le_of_ble_eq_true rfl) (jat hM.2.1 22 rfl) (hq ((J26 69 p1.toNatClampNeg), J26) rfl)
              · have h := (if_neg hc29).symm.trans h
                exact JW.mask [false, false, false, false, false, false] (t_X5_write_b20 hM hp N G J h hq hx)
          · have h := (if_neg hc31).symm.trans h
            cases h
  · obtain ⟨c35, hv1, h⟩ := h
    subst h
    exact JW.xV hM hp (E := jEn c35) (m_X5_needTray_x (jVX X) hM.1.2.2.2.2.2.2.2.2.2.1 N G J p0 c35 hv1) (sb_X_X_0 G J) (bi_X_X_0 G J) rfl rfl kc_X5_183 rfl rfl rfl rfl rfl (jat hM.2.1 2 rfl) (st := []) rfl (hx _ rfl)
theorem m_X5_write_r (V : jV) (hV : V.1.stackTraces = false) (N : Nat) (G : Nat → Nat → Int32) (J : Nat → Nat → Int64) (p0 : Int32) (p1 : Int32) (p2 : Int64) (v : (Int64 × (Nat → Nat → Int64))) (h : p_X5_write N G J p0 p1 p2 = some (.inr v)) : jMet V yX5_write (jws yX5_write cX5_write 6 (some .long)) ⟨7, 2, 12, 110⟩ true 1 [.ref 0, .int p0, .int p1, .long p2] (hX G J) (fun o ν => o = some (.long v.1) ∧ ν = (hX G v.2)) (fun _ _ => False) := by
  refine jmk (tb := tbX5) (C := kX5_write) hV rfl (by decide) tbX5_ok rfl kX5_write_ok rfl ?_
  intro X hM _ hp _
  exact t_X5_write hM hp N G J p0 p1 p2 h (fun w hw => by cases hw; exact ⟨rfl, rfl⟩) (fun c hc => by cases hc)
theorem m_X5_write_x (V : jV) (hV : V.1.stackTraces = false) (N : Nat) (G : Nat → Nat → Int32) (J : Nat → Nat → Int64) (p0 : Int32) (p1 : Int32) (p2 : Int64) (c : Nat) (h : p_X5_write N G J p0 p1 p2 = some (.inl c)) : jMet V yX5_write (jws yX5_write cX5_write 6 (some .long)) ⟨7, 2, 12, 110⟩ true 1 [.ref 0, .int p0, .int p1, .long p2] (hX G J) (fun _ _ => False) (fun E ν => E = jEn c ∧ ν = (hX G J)) := by
  refine jmk (tb := tbX5) (C := kX5_write) hV rfl (by decide) tbX5_ok rfl kX5_write_ok rfl ?_
  intro X hM _ hp _
  exact t_X5_write hM hp N G J p0 p1 p2 h (fun w hw => by cases hw) (fun c hc => by cases hc; exact ⟨rfl, rfl⟩)
def p_X5_pour_b62 (N : Nat) (G : Nat → Nat → Int32) (rv11 : (Nat → Nat → Int64) → Int32 → Int32 → Option (Nat ⊕ (Int32 × (Nat → Nat → Int64)))) (J : Nat → Nat → Int64) (x3 : Int32) (x4 : Int32) : Option (Nat ⊕ (Int32 × (Nat → Nat → Int64))) :=
  rv11 J x3 (x4 + 1)
def p_X5_pour_b11 (N : Nat) (G : Nat → Nat → Int32) : Nat → (Nat → Nat → Int64) → (Int32) → (Int32) → Option (Nat ⊕ (Int32 × (Nat → Nat → Int64)))
  | 0, _, _, _ => none
  | n + 1, J, x3, x4 => if (G 1 7) ≤ x4 then (some (.inr (x3, J))) else (if (G 62 1) ≤ x3 then (some (.inr (x3, J))) else ((p_X3_stands N (jvw G 1) x4).bind (fun v4 => if v4 = 0 then (p_X5_pour_b62 N G (p_X5_pour_b11 N G n) J x3 x4) else (if jin x4 30 = true then (p_X4_put N (jvw G 62) (jvw J 62) x3 ((G 8 x4.toNatClampNeg).toInt64)).bind (fun v7 => jlt (jpt J 62 2 v7) fun J8 => p_X5_pour_b62 N G (p_X5_pour_b11 N G n) J8 (x3 + 1) x4) else none))))
def p_X5_pour_b62a (N : Nat) (G : Nat → Nat → Int32) (rv11 : (Nat → Nat → Int64) → Int32 → Int32 → Option (Nat ⊕ (Int32 × (Nat → Nat → Int64)))) (J : Nat → Nat → Int64) (x3 : Int32) (x4 : Int32) : Option (Nat ⊕ (Int32 × (Nat → Nat → Int64))) :=
  rv11 J x3 (x4 + 1)
def p_X5_pour_b11a (N : Nat) (G : Nat → Nat → Int32) : Nat → (Nat → Nat → Int64) → (Int32) → (Int32) → Option (Nat ⊕ (Int32 × (Nat → Nat → Int64)))
  | 0, _, _, _ => none
  | n + 1, J, x3, x4 => if (G 1 7) ≤ x4 then (some (.inr (x3, J))) else (if (G 64 1) ≤ x3 then (some (.inr (x3, J))) else ((p_X3_stands N (jvw G 1) x4).bind (fun v14 => if v14 = 0 then (p_X5_pour_b62a N G (p_X5_pour_b11a N G n) J x3 x4) else (if jin x4 30 = true then (p_X4_put N (jvw G 64) (jvw J 64) x3 ((G 8 x4.toNatClampNeg).toInt64)).bind (fun v17 => jlt (jpt J 64 2 v17) fun J18 => p_X5_pour_b62a N G (p_X5_pour_b11a N G n) J18 (x3 + 1) x4) else none))))
def p_X5_pour_b62b (N : Nat) (G : Nat → Nat → Int32) (rv11 : (Nat → Nat → Int64) → Int32 → Int32 → Option (Nat ⊕ (Int32 × (Nat → Nat → Int64)))) (J : Nat → Nat → Int64) (x3 : Int32) (x4 : Int32) : Option (Nat ⊕ (Int32 × (Nat → Nat → Int64))) :=
  rv11 J x3 (x4 + 1)
def p_X5_pour_b11b (N : Nat) (G : Nat → Nat → Int32) : Nat → (Nat → Nat → Int64) → (Int32) → (Int32) → Option (Nat ⊕ (Int32 × (Nat → Nat → Int64)))
  | 0, _, _, _ => none
  | n + 1, J, x3, x4 => if (G 1 7) ≤ x4 then (some (.inr (x3, J))) else (if (G 66 1) ≤ x3 then (some (.inr (x3, J))) else ((p_X3_stands N (jvw G 1) x4).bind (fun v24 => if v24 = 0 then (p_X5_pour_b62b N G (p_X5_pour_b11b N G n) J x3 x4) else (if jin x4 30 = true then (p_X4_put N (jvw G 66) (jvw J 66) x3 ((G 8 x4.toNatClampNeg).toInt64)).bind (fun v27 => jlt (jpt J 66 2 v27) fun J28 => p_X5_pour_b62b N G (p_X5_pour_b11b N G n) J28 (x3 + 1) x4) else none))))
def p_X5_pour_b62c (N : Nat) (G : Nat → Nat → Int32) (rv11 : (Nat → Nat → Int64) → Int32 → Int32 → Option (Nat ⊕ (Int32 × (Nat → Nat → Int64)))) (J : Nat → Nat → Int64) (x3 : Int32) (x4 : Int32) : Option (Nat ⊕ (Int32 × (Nat → Nat → Int64))) :=
  rv11 J x3 (x4 + 1)
def p_X5_pour_b11c (N : Nat) (G : Nat → Nat → Int32) : Nat → (Nat → Nat → Int64) → (Int32) → (Int32) → Option (Nat ⊕ (Int32 × (Nat → Nat → Int64)))
  | 0, _, _, _ => none
  | n + 1, J, x3, x4 => if (G 1 7) ≤ x4 then (some (.inr (x3, J))) else (if (G 68 1) ≤ x3 then (some (.inr (x3, J))) else ((p_X3_stands N (jvw G 1) x4).bind (fun v34 => if v34 = 0 then (p_X5_pour_b62c N G (p_X5_pour_b11c N G n) J x3 x4) else (if jin x4 30 = true then (p_X4_put N (jvw G 68) (jvw J 68) x3 ((G 8 x4.toNatClampNeg).toInt64)).bind (fun v37 => jlt (jpt J 68 2 v37) fun J38 => p_X5_pour_b62c N G (p_X5_pour_b11c N G n) J38 (x3 + 1) x4) else none))))
def p_X5_pour (N : Nat) (G : Nat → Nat → Int32) (J : Nat → Nat → Int64) (p0 : Int32) : Option (Nat ⊕ (Int32 × (Nat → Nat → Int64))) :=
  jbx (p_X5_needTray N G J p0) (fun v2 => if v2 = 62 then (p_X5_pour_b11 N G N J (0 : Int32) (0 : Int32)) else (if v2 = 64 then (p_X5_pour_b11a N G N J (0 : Int32) (0 : Int32)) else (if v2 = 66 then (p_X5_pour_b11b N G N J (0 : Int32) (0 : Int32)) else (if v2 = 68 then (p_X5_pour_b11c N G N J (0 : Int32) (0 : Int32)) else (none)))))
set_option maxHeartbeats 4000000 in
set_option maxRecDepth 100000 in
theorem t_X5_pour_b62 {X : jX} {po : Option Value → jH → Prop} {px : String → jH → Prop} {sf : Bool} {B9 : Nat} (hM : jMX X kX5_pour RX5 tbX5 5 ⟨7, 1, 6, 110⟩ (some .int) 71) (hp : jPost X sf B9 po px) (N : Nat) (G : Nat → Nat → Int32) (rv11 : (Nat → Nat → Int64) → Int32 → Int32 → Option (Nat ⊕ (Int32 × (Nat → Nat → Int64)))) {res : Nat ⊕ (Int32 × (Nat → Nat → Int64))} (ih11 : ∀ (J : Nat → Nat → Int64) (x3 : Int32) (x4 : Int32), rv11 J x3 x4 = some res → JW X 1 6 11 [some (.ref 0), none, some (.ref 62), some (.int x3), some (.int x4)] [] (hX G J)) (J : Nat → Nat → Int64) (x3 : Int32) (x4 : Int32) (h : p_X5_pour_b62 N G rv11 J x3 x4 = some res) (hq : ∀ w, res = Sum.inr w → po (some (.int w.1)) (hX G w.2)) : JW X 1 6 62 [some (.ref 0), none, some (.ref 62), some (.int x3), some (.int x4)] [] (hX G J) := by
  unfold p_X5_pour_b62 at h
  refine JW.r hM 32 2 (pc2 := 11) (L2 := [some (.ref 0), none, some (.ref 62), some (.int x3), some (.int (x4 + 1))]) (st2 := []) (μ2 := (hX G J)) rfl trivial ?_
  exact ih11 J x3 (x4 + 1) h
set_option maxHeartbeats 4000000 in
set_option maxRecDepth 100000 in
theorem t_X5_pour_b11 {X : jX} {po : Option Value → jH → Prop} {px : String → jH → Prop} {sf : Bool} {B9 : Nat} (hM : jMX X kX5_pour RX5 tbX5 5 ⟨7, 1, 6, 110⟩ (some .int) 71) (hp : jPost X sf B9 po px) (N : Nat) (G : Nat → Nat → Int32) {res : Nat ⊕ (Int32 × (Nat → Nat → Int64))} : ∀ (n : Nat) (J : Nat → Nat → Int64) (x3 : Int32) (x4 : Int32) (h : p_X5_pour_b11 N G n J x3 x4 = some res) (hq : ∀ w, res = Sum.inr w → po (some (.int w.1)) (hX G w.2)), JW X 1 6 11 [some (.ref 0), none, some (.ref 62), some (.int x3), some (.int x4)] [] (hX G J) := by
  intro n
  induction n with
  | zero =>
    intro J x3 x4 h hq
    cases (show (none : Option (Nat ⊕ (Int32 × (Nat → Nat → Int64)))) = some res from h)
  | succ n ih11 =>
    intro J x3 x4 h hq
    have ih11 := fun J x3 x4 h9 => ih11 J x3 x4 h9 hq
    rw [p_X5_pour_b11] at h
    refine JW.r hM 8 4 (pc2 := 20) (L2 := [some (.ref 0), none, some (.ref 62), some (.int x3), some (.int x4)]) (st2 := [.int (G 1 7), .int x4]) (μ2 := (hX G J)) rfl trivial ?_
    refine js_icge (t := 68) hM.1 (jat hM.2.1 12 rfl) rfl (fun hc12 => ?_) (fun hc12 => ?_)
    · have h := (if_pos hc12).symm.trans h
      refine JW.r hM 34 1 (pc2 := 69) (L2 := [some (.ref 0), none, some (.ref 62), some (.int x3), some (.int x4)]) (st2 := [.int x3]) (μ2 := (hX G J)) rfl trivial ?_
      obtain rfl := Option.some.inj h
      exact js_iret hM.1 hp hM.2.2.2.2.2.2.2.1 (by rw [hM.2.2.2.2.2.1]; exact Nat.le_of_ble_eq_true rfl) (by rw [hM.2.2.2.2.2.2.1]; exact Nat.le_of_ble_eq_true rfl) (jat hM.2.1 35 rfl) (hq (x3, J) rfl)
    · have h := (if_neg hc12).symm.trans h
      refine JW.r hM 13 3 (pc2 := 28) (L2 := [some (.ref 0), none, some (.ref 62), some (.int x3), some (.int x4)]) (st2 := [.int (G 62 1), .int x3]) (μ2 := (hX G J)) rfl trivial ?_
      refine js_icge (t := 68) hM.1 (jat hM.2.1 16 rfl) rfl (fun hc11 => ?_) (fun hc11 => ?_)
      · have h := (if_pos hc11).symm.trans h
        refine JW.r hM 34 1 (pc2 := 69) (L2 := [some (.ref 0), none, some (.ref 62), some (.int x3), some (.int x4)]) (st2 := [.int x3]) (μ2 := (hX G J)) rfl trivial ?_
        obtain rfl := Option.some.inj h
        exact js_iret hM.1 hp hM.2.2.2.2.2.2.2.1 (by rw [hM.2.2.2.2.2.1]; exact Nat.le_of_ble_eq_true rfl) (by rw [hM.2.2.2.2.2.2.1]; exact Nat.le_of_ble_eq_true rfl) (jat hM.2.1 35 rfl) (hq (x3, J) rfl)
      · have h := (if_neg hc11).symm.trans h
        refine JW.r hM 17 3 (pc2 := 37) (L2 := [some (.ref 0), none, some (.ref 62), some (.int x3), some (.int x4)]) (st2 := [.int x4, .ref 1]) (μ2 := (hX G J)) rfl trivial ?_
        obtain ⟨v4, hv3, h⟩ := jbd h
        refine JW.cV (v := some (.int v4)) hM (m_X3_stands (jVX X) hM.1.2.2.2.2.2.2.2.2.2.1 N (jvw G 1) x4 v4 hv3) (sb_X_Town_1 G J) (bi_X_Town_1 G J) rfl rfl rfl kc_X5_155 rfl rfl rfl rfl rfl (jat hM.2.1 20 rfl) (st := []) rfl ?_
        show JW X 1 6 40 [some (.ref 0), none, some (.ref 62), some (.int x3), some (.int x4)] [.int v4] (hX G J)
        refine js_ifeq (t := 62) hM.1 (jat hM.2.1 21 rfl) rfl (fun hc10 => ?_) (fun hc10 => ?_)
        · have h := (if_pos hc10).symm.trans h
          exact t_X5_pour_b62 hM hp N G (p_X5_pour_b11 N G n) ih11 J x3 x4 h hq
        · have h := (if_neg hc10).symm.trans h
          obtain ⟨g5, h⟩ := jg h
          refine JW.r hM 22 8 (pc2 := 56) (L2 := [some (.ref 0), none, some (.ref 62), some (.int x3), some (.int x4)]) (st2 := [.long ((G 8 x4.toNatClampNeg).toInt64), .int x3, .ref 62]) (μ2 := (hX G J)) rfl ⟨g5, trivial⟩ ?_
          obtain ⟨v7, hv6, h⟩ := jbd h
          refine JW.cV (v := none) hM (m_X4_put (jVX X) hM.1.2.2.2.2.2.2.2.2.2.1 N (jvw G 62) (jvw J 62) x3 ((G 8 x4.toNatClampNeg).toInt64) v7 hv6) (sb_X_Tray_62 G J) (bk_X_Tray_62 G J (jvw G 62) v7) rfl rfl rfl kc_X5_309 rfl rfl rfl rfl rfl (jat hM.2.1 30 rfl) (st := []) rfl ?_
          show JW X 1 6 59 [some (.ref 0), none, some (.ref 62), some (.int x3), some (.int x4)] [] (hX G (jpt J 62 2 v7))
          obtain ⟨J8, e9, h⟩ := jlE h
          rw [e9]
          refine JW.r hM 31 1 (pc2 := 62) (L2 := [some (.ref 0), none, some (.ref 62), some (.int (x3 + 1)), some (.int x4)]) (st2 := []) (μ2 := (hX G J8)) rfl trivial ?_
          exact t_X5_pour_b62 hM hp N G (p_X5_pour_b11 N G n) ih11 J8 (x3 + 1) x4 h hq
set_option maxHeartbeats 4000000 in
set_option maxRecDepth 100000 in
theorem t_X5_pour_b62a {X : jX} {po : Option Value → jH → Prop} {px : String → jH → Prop} {sf : Bool} {B9 : Nat} (hM : jMX X kX5_pour RX5 tbX5 5 ⟨7, 1, 6, 110⟩ (some .int) 71) (hp : jPost X sf B9 po px) (N : Nat) (G : Nat → Nat → Int32) (rv11 : (Nat → Nat → Int64) → Int32 → Int32 → Option (Nat ⊕ (Int32 × (Nat → Nat → Int64)))) {res : Nat ⊕ (Int32 × (Nat → Nat → Int64))} (ih11 : ∀ (J : Nat → Nat → Int64) (x3 : Int32) (x4 : Int32), rv11 J x3 x4 = some res → JW X 1 6 11 [some (.ref 0), none, some (.ref 64), some (.int x3), some (.int x4)] [] (hX G J)) (J : Nat → Nat → Int64) (x3 : Int32) (x4 : Int32) (h : p_X5_pour_b62a N G rv11 J x3 x4 = some res) (hq : ∀ w, res = Sum.inr w → po (some (.int w.1)) (hX G w.2)) : JW X 1 6 62 [some (.ref 0), none, some (.ref 64), some (.int x3), some (.int x4)] [] (hX G J) := by
  unfold p_X5_pour_b62a at h
  refine JW.r hM 32 2 (pc2 := 11) (L2 := [some (.ref 0), none, some (.ref 64), some (.int x3), some (.int (x4 + 1))]) (st2 := []) (μ2 := (hX G J)) rfl trivial ?_
  exact ih11 J x3 (x4 + 1) h
set_option maxHeartbeats 4000000 in
set_option maxRecDepth 100000 in
theorem t_X5_pour_b11a {X : jX} {po : Option Value → jH → Prop} {px : String → jH → Prop} {sf : Bool} {B9 : Nat} (hM : jMX X kX5_pour RX5 tbX5 5 ⟨7, 1, 6, 110⟩ (some .int) 71) (hp : jPost X sf B9 po px) (N : Nat) (G : Nat → Nat → Int32) {res : Nat ⊕ (Int32 × (Nat → Nat → Int64))} : ∀ (n : Nat) (J : Nat → Nat → Int64) (x3 : Int32) (x4 : Int32) (h : p_X5_pour_b11a N G n J x3 x4 = some res) (hq : ∀ w, res = Sum.inr w → po (some (.int w.1)) (hX G w.2)), JW X 1 6 11 [some (.ref 0), none, some (.ref 64), some (.int x3), some (.int x4)] [] (hX G J) := by
  intro n
  induction n with
  | zero =>
    intro J x3 x4 h hq
    cases (show (none : Option (Nat ⊕ (Int32 × (Nat → Nat → Int64)))) = some res from h)
  | succ n ih11 =>
    intro J x3 x4 h hq
    have ih11 := fun J x3 x4 h9 => ih11 J x3 x4 h9 hq
    rw [p_X5_pour_b11a] at h
    refine JW.r hM 8 4 (pc2 := 20) (L2 := [some (.ref 0), none, some (.ref 64), some (.int x3), some (.int x4)]) (st2 := [.int (G 1 7), .int x4]) (μ2 := (hX G J)) rfl trivial ?_
    refine js_icge (t := 68) hM.1 (jat hM.2.1 12 rfl) rfl (fun hc22 => ?_) (fun hc22 => ?_)
    · have h := (if_pos hc22).symm.trans h
      refine JW.r hM 34 1 (pc2 := 69) (L2 := [some (.ref 0), none, some (.ref 64), some (.int x3), some (.int x4)]) (st2 := [.int x3]) (μ2 := (hX G J)) rfl trivial ?_
      obtain rfl := Option.some.inj h
      exact js_iret hM.1 hp hM.2.2.2.2.2.2.2.1 (by rw [hM.2.2.2.2.2.1]; exact Nat.le_of_ble_eq_true rfl) (by rw [hM.2.2.2.2.2.2.1]; exact Nat.le_of_ble_eq_true rfl) (jat hM.2.1 35 rfl) (hq (x3, J) rfl)
    · have h := (if_neg hc22).symm.trans h
      refine JW.r hM 13 3 (pc2 := 28) (L2 := [some (.ref 0), none, some (.ref 64), some (.int x3), some (.int x4)]) (st2 := [.int (G 64 1), .int x3]) (μ2 := (hX G J)) rfl trivial ?_
      refine js_icge (t := 68) hM.1 (jat hM.2.1 16 rfl) rfl (fun hc21 => ?_) (fun hc21 => ?_)
      · have h := (if_pos hc21).symm.trans h
        refine JW.r hM 34 1 (pc2 := 69) (L2 := [some (.ref 0), none, some (.ref 64), some (.int x3), some (.int x4)]) (st2 := [.int x3]) (μ2 := (hX G J)) rfl trivial ?_
        obtain rfl := Option.some.inj h
        exact js_iret hM.1 hp hM.2.2.2.2.2.2.2.1 (by rw [hM.2.2.2.2.2.1]; exact Nat.le_of_ble_eq_true rfl) (by rw [hM.2.2.2.2.2.2.1]; exact Nat.le_of_ble_eq_true rfl) (jat hM.2.1 35 rfl) (hq (x3, J) rfl)
      · have h := (if_neg hc21).symm.trans h
        refine JW.r hM 17 3 (pc2 := 37) (L2 := [some (.ref 0), none, some (.ref 64), some (.int x3), some (.int x4)]) (st2 := [.int x4, .ref 1]) (μ2 := (hX G J)) rfl trivial ?_
        obtain ⟨v14, hv13, h⟩ := jbd h
        refine JW.cV (v := some (.int v14)) hM (m_X3_stands (jVX X) hM.1.2.2.2.2.2.2.2.2.2.1 N (jvw G 1) x4 v14 hv13) (sb_X_Town_1 G J) (bi_X_Town_1 G J) rfl rfl rfl kc_X5_155 rfl rfl rfl rfl rfl (jat hM.2.1 20 rfl) (st := []) rfl ?_
        show JW X 1 6 40 [some (.ref 0), none, some (.ref 64), some (.int x3), some (.int x4)] [.int v14] (hX G J)
        refine js_ifeq (t := 62) hM.1 (jat hM.2.1 21 rfl) rfl (fun hc20 => ?_) (fun hc20 => ?_)
        · have h := (if_pos hc20).symm.trans h
          exact t_X5_pour_b62a hM hp N G (p_X5_pour_b11a N G n) ih11 J x3 x4 h hq
        · have h := (if_neg hc20).symm.trans h
          obtain ⟨g15, h⟩ := jg h
          refine JW.r hM 22 8 (pc2 := 56) (L2 := [some (.ref 0), none, some (.ref 64), some (.int x3), some (.int x4)]) (st2 := [.long ((G 8 x4.toNatClampNeg).toInt64), .int x3, .ref 64]) (μ2 := (hX G J)) rfl ⟨g15, trivial⟩ ?_
          obtain ⟨v17, hv16, h⟩ := jbd h
          refine JW.cV (v := none) hM (m_X4_put (jVX X) hM.1.2.2.2.2.2.2.2.2.2.1 N (jvw G 64) (jvw J 64) x3 ((G 8 x4.toNatClampNeg).toInt64) v17 hv16) (sb_X_Tray_64 G J) (bk_X_Tray_64 G J (jvw G 64) v17) rfl rfl rfl kc_X5_309 rfl rfl rfl rfl rfl (jat hM.2.1 30 rfl) (st := []) rfl ?_
          show JW X 1 6 59 [some (.ref 0), none, some (.ref 64), some (.int x3), some (.int x4)] [] (hX G (jpt J 64 2 v17))
          obtain ⟨J18, e19, h⟩ := jlE h
          rw [e19]
          refine JW.r hM 31 1 (pc2 := 62) (L2 := [some (.ref 0), none, some (.ref 64), some (.int (x3 + 1)), some (.int x4)]) (st2 := []) (μ2 := (hX G J18)) rfl trivial ?_
          exact t_X5_pour_b62a hM hp N G (p_X5_pour_b11a N G n) ih11 J18 (x3 + 1) x4 h hq
set_option maxHeartbeats 4000000 in
set_option maxRecDepth 100000 in
theorem t_X5_pour_b62b {X : jX} {po : Option Value → jH → Prop} {px : String → jH → Prop} {sf : Bool} {B9 : Nat} (hM : jMX X kX5_pour RX5 tbX5 5 ⟨7, 1, 6, 110⟩ (some .int) 71) (hp : jPost X sf B9 po px) (N : Nat) (G : Nat → Nat → Int32) (rv11 : (Nat → Nat → Int64) → Int32 → Int32 → Option (Nat ⊕ (Int32 × (Nat → Nat → Int64)))) {res : Nat ⊕ (Int32 × (Nat → Nat → Int64))} (ih11 : ∀ (J : Nat → Nat → Int64) (x3 : Int32) (x4 : Int32), rv11 J x3 x4 = some res → JW X 1 6 11 [some (.ref 0), none, some (.ref 66), some (.int x3), some (.int x4)] [] (hX G J)) (J : Nat → Nat → Int64) (x3 : Int32) (x4 : Int32) (h : p_X5_pour_b62b N G rv11 J x3 x4 = some res) (hq : ∀ w, res = Sum.inr w → po (some (.int w.1)) (hX G w.2)) : JW X 1 6 62 [some (.ref 0), none, some (.ref 66), some (.int x3), some (.int x4)] [] (hX G J) := by
  unfold p_X5_pour_b62b at h
  refine JW.r hM 32 2 (pc2 := 11) (L2 := [some (.ref 0), none, some (.ref 66), some (.int x3), some (.int (x4 + 1))]) (st2 := []) (μ2 := (hX G J)) rfl trivial ?_
  exact ih11 J x3 (x4 + 1) h
set_option maxHeartbeats 4000000 in
set_option maxRecDepth 100000 in
theorem t_X5_pour_b11b {X : jX} {po : Option Value → jH → Prop} {px : String → jH → Prop} {sf : Bool} {B9 : Nat} (hM : jMX X kX5_pour RX5 tbX5 5 ⟨7, 1, 6, 110⟩ (some .int) 71) (hp : jPost X sf B9 po px) (N : Nat) (G : Nat → Nat → Int32) {res : Nat ⊕ (Int32 × (Nat → Nat → Int64))} : ∀ (n : Nat) (J : Nat → Nat → Int64) (x3 : Int32) (x4 : Int32) (h : p_X5_pour_b11b N G n J x3 x4 = some res) (hq : ∀ w, res = Sum.inr w → po (some (.int w.1)) (hX G w.2)), JW X 1 6 11 [some (.ref 0), none, some (.ref 66), some (.int x3), some (.int x4)] [] (hX G J) := by
  intro n
  induction n with
  | zero =>
    intro J x3 x4 h hq
    cases (show (none : Option (Nat ⊕ (Int32 × (Nat → Nat → Int64)))) = some res from h)
  | succ n ih11 =>
    intro J x3 x4 h hq
    have ih11 := fun J x3 x4 h9 => ih11 J x3 x4 h9 hq
    rw [p_X5_pour_b11b] at h
    refine JW.r hM 8 4 (pc2 := 20) (L2 := [some (.ref 0), none, some (.ref 66), some (.int x3), some (.int x4)]) (st2 := [.int (G 1 7), .int x4]) (μ2 := (hX G J)) rfl trivial ?_
    refine js_icge (t := 68) hM.1 (jat hM.2.1 12 rfl) rfl (fun hc32 => ?_) (fun hc32 => ?_)
    · have h := (if_pos hc32).symm.trans h
      refine JW.r hM 34 1 (pc2 := 69) (L2 := [some (.ref 0), none, some (.ref 66), some (.int x3), some (.int x4)]) (st2 := [.int x3]) (μ2 := (hX G J)) rfl trivial ?_
      obtain rfl := Option.some.inj h
      exact js_iret hM.1 hp hM.2.2.2.2.2.2.2.1 (by rw [hM.2.2.2.2.2.1]; exact Nat.le_of_ble_eq_true rfl) (by rw [hM.2.2.2.2.2.2.1]; exact Nat.le_of_ble_eq_true rfl) (jat hM.2.1 35 rfl) (hq (x3, J) rfl)
    · have h := (if_neg hc32).symm.trans h
      refine JW.r hM 13 3 (pc2 := 28) (L2 := [some (.ref 0), none, some (.ref 66), some (.int x3), some (.int x4)]) (st2 := [.int (G 66 1), .int x3]) (μ2 := (hX G J)) rfl trivial ?_
      refine js_icge (t := 68) hM.1 (jat hM.2.1 16 rfl) rfl (fun hc31 => ?_) (fun hc31 => ?_)
      · have h := (if_pos hc31).symm.trans h
        refine JW.r hM 34 1 (pc2 := 69) (L2 := [some (.ref 0), none, some (.ref 66), some (.int x3), some (.int x4)]) (st2 := [.int x3]) (μ2 := (hX G J)) rfl trivial ?_
        obtain rfl := Option.some.inj h
        exact js_iret hM.1 hp hM.2.2.2.2.2.2.2.1 (by rw [hM.2.2.2.2.2.1]; exact Nat.le_of_ble_eq_true rfl) (by rw [hM.2.2.2.2.2.2.1]; exact Nat.le_of_ble_eq_true rfl) (jat hM.2.1 35 rfl) (hq (x3, J) rfl)
      · have h := (if_neg hc31).symm.trans h
        refine JW.r hM 17 3 (pc2 := 37) (L2 := [some (.ref 0), none, some (.ref 66), some (.int x3), some (.int x4)]) (st2 := [.int x4, .ref 1]) (μ2 := (hX G J)) rfl trivial ?_
        obtain ⟨v24, hv23, h⟩ := jbd h
        refine JW.cV (v := some (.int v24)) hM (m_X3_stands (jVX X) hM.1.2.2.2.2.2.2.2.2.2.1 N (jvw G 1) x4 v24 hv23) (sb_X_Town_1 G J) (bi_X_Town_1 G J) rfl rfl rfl kc_X5_155 rfl rfl rfl rfl rfl (jat hM.2.1 20 rfl) (st := []) rfl ?_
        show JW X 1 6 40 [some (.ref 0), none, some (.ref 66), some (.int x3), some (.int x4)] [.int v24] (hX G J)
        refine js_ifeq (t := 62) hM.1 (jat hM.2.1 21 rfl) rfl (fun hc30 => ?_) (fun hc30 => ?_)
        · have h := (if_pos hc30).symm.trans h
          exact t_X5_pour_b62b hM hp N G (p_X5_pour_b11b N G n) ih11 J x3 x4 h hq
        · have h := (if_neg hc30).symm.trans h
          obtain ⟨g25, h⟩ := jg h
          refine JW.r hM 22 8 (pc2 := 56) (L2 := [some (.ref 0), none, some (.ref 66), some (.int x3), some (.int x4)]) (st2 := [.long ((G 8 x4.toNatClampNeg).toInt64), .int x3, .ref 66]) (μ2 := (hX G J)) rfl ⟨g25, trivial⟩ ?_
          obtain ⟨v27, hv26, h⟩ := jbd h
          refine JW.cV (v := none) hM (m_X4_put (jVX X) hM.1.2.2.2.2.2.2.2.2.2.1 N (jvw G 66) (jvw J 66) x3 ((G 8 x4.toNatClampNeg).toInt64) v27 hv26) (sb_X_Tray_66 G J) (bk_X_Tray_66 G J (jvw G 66) v27) rfl rfl rfl kc_X5_309 rfl rfl rfl rfl rfl (jat hM.2.1 30 rfl) (st := []) rfl ?_
          show JW X 1 6 59 [some (.ref 0), none, some (.ref 66), some (.int x3), some (.int x4)] [] (hX G (jpt J 66 2 v27))
          obtain ⟨J28, e29, h⟩ := jlE h
          rw [e29]
          refine JW.r hM 31 1 (pc2 := 62) (L2 := [some (.ref 0), none, some (.ref 66), some (.int (x3 + 1)), some (.int x4)]) (st2 := []) (μ2 := (hX G J28)) rfl trivial ?_
          exact t_X5_pour_b62b hM hp N G (p_X5_pour_b11b N G n) ih11 J28 (x3 + 1) x4 h hq
set_option maxHeartbeats 4000000 in
set_option maxRecDepth 100000 in
theorem t_X5_pour_b62c {X : jX} {po : Option Value → jH → Prop} {px : String → jH → Prop} {sf : Bool} {B9 : Nat} (hM : jMX X kX5_pour RX5 tbX5 5 ⟨7, 1, 6, 110⟩ (some .int) 71) (hp : jPost X sf B9 po px) (N : Nat) (G : Nat → Nat → Int32) (rv11 : (Nat → Nat → Int64) → Int32 → Int32 → Option (Nat ⊕ (Int32 × (Nat → Nat → Int64)))) {res : Nat ⊕ (Int32 × (Nat → Nat → Int64))} (ih11 : ∀ (J : Nat → Nat → Int64) (x3 : Int32) (x4 : Int32), rv11 J x3 x4 = some res → JW X 1 6 11 [some (.ref 0), none, some (.ref 68), some (.int x3), some (.int x4)] [] (hX G J)) (J : Nat → Nat → Int64) (x3 : Int32) (x4 : Int32) (h : p_X5_pour_b62c N G rv11 J x3 x4 = some res) (hq : ∀ w, res = Sum.inr w → po (some (.int w.1)) (hX G w.2)) : JW X 1 6 62 [some (.ref 0), none, some (.ref 68), some (.int x3), some (.int x4)] [] (hX G J) := by
  unfold p_X5_pour_b62c at h
  refine JW.r hM 32 2 (pc2 := 11) (L2 := [some (.ref 0), none, some (.ref 68), some (.int x3), some (.int (x4 + 1))]) (st2 := []) (μ2 := (hX G J)) rfl trivial ?_
  exact ih11 J x3 (x4 + 1) h
set_option maxHeartbeats 4000000 in
set_option maxRecDepth 100000 in
theorem t_X5_pour_b11c {X : jX} {po : Option Value → jH → Prop} {px : String → jH → Prop} {sf : Bool} {B9 : Nat} (hM : jMX X kX5_pour RX5 tbX5 5 ⟨7, 1, 6, 110⟩ (some .int) 71) (hp : jPost X sf B9 po px) (N : Nat) (G : Nat → Nat → Int32) {res : Nat ⊕ (Int32 × (Nat → Nat → Int64))} : ∀ (n : Nat) (J : Nat → Nat → Int64) (x3 : Int32) (x4 : Int32) (h : p_X5_pour_b11c N G n J x3 x4 = some res) (hq : ∀ w, res = Sum.inr w → po (some (.int w.1)) (hX G w.2)), JW X 1 6 11 [some (.ref 0), none, some (.ref 68), some (.int x3), some (.int x4)] [] (hX G J) := by
  intro n
  induction n with
  | zero =>
    intro J x3 x4 h hq
    cases (show (none : Option (Nat ⊕ (Int32 × (Nat → Nat → Int64)))) = some res from h)
  | succ n ih11 =>
    intro J x3 x4 h hq
    have ih11 := fun J x3 x4 h9 => ih11 J x3 x4 h9 hq
    rw [p_X5_pour_b11c] at h
    refine JW.r hM 8 4 (pc2 := 20) (L2 := [some (.ref 0), none, some (.ref 68), some (.int x3), some (.int x4)]) (st2 := [.int (G 1 7), .int x4]) (μ2 := (hX G J)) rfl trivial ?_
    refine js_icge (t := 68) hM.1 (jat hM.2.1 12 rfl) rfl (fun hc42 => ?_) (fun hc42 => ?_)
    · have h := (if_pos hc42).symm.trans h
      refine JW.r hM 34 1 (pc2 := 69) (L2 := [some (.ref 0), none, some (.ref 68), some (.int x3), some (.int x4)]) (st2 := [.int x3]) (μ2 := (hX G J)) rfl trivial ?_
      obtain rfl := Option.some.inj h
      exact js_iret hM.1 hp hM.2.2.2.2.2.2.2.1 (by rw [hM.2.2.2.2.2.1]; exact Nat.le_of_ble_eq_true rfl) (by rw [hM.2.2.2.2.2.2.1]; exact Nat.le_of_ble_eq_true rfl) (jat hM.2.1 35 rfl) (hq (x3, J) rfl)
    · have h := (if_neg hc42).symm.trans h
      refine JW.r hM 13 3 (pc2 := 28) (L2 := [some (.ref 0), none, some (.ref 68), some (.int x3), some (.int x4)]) (st2 := [.int (G 68 1), .int x3]) (μ2 := (hX G J)) rfl trivial ?_
      refine js_icge (t := 68) hM.1 (jat hM.2.1 16 rfl) rfl (fun hc41 => ?_) (fun hc41 => ?_)
      · have h := (if_pos hc41).symm.trans h
        refine JW.r hM 34 1 (pc2 := 69) (L2 := [some (.ref 0), none, some (.ref 68), some (.int x3), some (.int x4)]) (st2 := [.int x3]) (μ2 := (hX G J)) rfl trivial ?_
        obtain rfl := Option.some.inj h
        exact js_iret hM.1 hp hM.2.2.2.2.2.2.2.1 (by rw [hM.2.2.2.2.2.1]; exact Nat.le_of_ble_eq_true rfl) (by rw [hM.2.2.2.2.2.2.1]; exact Nat.le_of_ble_eq_true rfl) (jat hM.2.1 35 rfl) (hq (x3, J) rfl)
      · have h := (if_neg hc41).symm.trans h
        refine JW.r hM 17 3 (pc2 := 37) (L2 := [some (.ref 0), none, some (.ref 68), some (.int x3), some (.int x4)]) (st2 := [.int x4, .ref 1]) (μ2 := (hX G J)) rfl trivial ?_
        obtain ⟨v34, hv33, h⟩ := jbd h
        refine JW.cV (v := some (.int v34)) hM (m_X3_stands (jVX X) hM.1.2.2.2.2.2.2.2.2.2.1 N (jvw G 1) x4 v34 hv33) (sb_X_Town_1 G J) (bi_X_Town_1 G J) rfl rfl rfl kc_X5_155 rfl rfl rfl rfl rfl (jat hM.2.1 20 rfl) (st := []) rfl ?_
        show JW X 1 6 40 [some (.ref 0), none, some (.ref 68), some (.int x3), some (.int x4)] [.int v34] (hX G J)
        refine js_ifeq (t := 62) hM.1 (jat hM.2.1 21 rfl) rfl (fun hc40 => ?_) (fun hc40 => ?_)
        · have h := (if_pos hc40).symm.trans h
          exact t_X5_pour_b62c hM hp N G (p_X5_pour_b11c N G n) ih11 J x3 x4 h hq
        · have h := (if_neg hc40).symm.trans h
          obtain ⟨g35, h⟩ := jg h
          refine JW.r hM 22 8 (pc2 := 56) (L2 := [some (.ref 0), none, some (.ref 68), some (.int x3), some (.int x4)]) (st2 := [.long ((G 8 x4.toNatClampNeg).toInt64), .int x3, .ref 68]) (μ2 := (hX G J)) rfl ⟨g35, trivial⟩ ?_
          obtain ⟨v37, hv36, h⟩ := jbd h
          refine JW.cV (v := none) hM (m_X4_put (jVX X) hM.1.2.2.2.2.2.2.2.2.2.1 N (jvw G 68) (jvw J 68) x3 ((G 8 x4.toNatClampNeg).toInt64) v37 hv36) (sb_X_Tray_68 G J) (bk_X_Tray_68 G J (jvw G 68) v37) rfl rfl rfl kc_X5_309 rfl rfl rfl rfl rfl (jat hM.2.1 30 rfl) (st := []) rfl ?_
          show JW X 1 6 59 [some (.ref 0), none, some (.ref 68), some (.int x3), some (.int x4)] [] (hX G (jpt J 68 2 v37))
          obtain ⟨J38, e39, h⟩ := jlE h
          rw [e39]
          refine JW.r hM 31 1 (pc2 := 62) (L2 := [some (.ref 0), none, some (.ref 68), some (.int (x3 + 1)), some (.int x4)]) (st2 := []) (μ2 := (hX G J38)) rfl trivial ?_
          exact t_X5_pour_b62c hM hp N G (p_X5_pour_b11c N G n) ih11 J38 (x3 + 1) x4 h hq
set_option maxHeartbeats 4000000 in
set_option maxRecDepth 100000 in
theorem t_X5_pour {X : jX} {po : Option Value → jH → Prop} {px : String → jH → Prop} {sf : Bool} {B9 : Nat} (hM : jMX X kX5_pour RX5 tbX5 5 ⟨7, 1, 6, 110⟩ (some .int) 71) (hp : jPost X sf B9 po px) (N : Nat) (G : Nat → Nat → Int32) (J : Nat → Nat → Int64) (p0 : Int32) {res : Nat ⊕ (Int32 × (Nat → Nat → Int64))} (h : p_X5_pour N G J p0 = some res) (hq : ∀ w, res = Sum.inr w → po (some (.int w.1)) (hX G w.2)) (hx : ∀ c, res = Sum.inl c → px (jEn c) (hX G J)) : JW X 0 0 0 [some (.ref 0), some (.int p0), none, none, none] [] (hX G J) := by
  unfold p_X5_pour at h
  refine JW.r hM 0 2 (pc2 := 2) (L2 := [some (.ref 0), some (.int p0), none, none, none]) (st2 := [.int p0, .ref 0]) (μ2 := (hX G J)) rfl trivial ?_
  rcases jbxE h with h | h
  · obtain ⟨v2, hv1, h⟩ := h
    refine JW.cV (v := some (.ref v2)) hM (m_X5_needTray_r (jVX X) hM.1.2.2.2.2.2.2.2.2.2.1 N G J p0 v2 hv1) (sb_X_X_0 G J) (bi_X_X_0 G J) rfl rfl rfl kc_X5_183 rfl rfl rfl rfl rfl (jat hM.2.1 2 rfl) (st := []) rfl ?_
    by_cases hc46 : v2 = 62
    · subst hc46
      have h := (if_pos rfl).symm.trans h
      show JW X 1 6 5 [some (.ref 0), some (.int p0), none, none, none] [.ref 62] (hX G J)
      refine JW.r hM 3 5 (pc2 := 11) (L2 := [some (.ref 0), some (.int p0), some (.ref 62), some (.int (0 : Int32)), some (.int (0 : Int32))]) (st2 := []) (μ2 := (hX G J)) rfl trivial ?_
      exact JW.mask [true, false, true, true, true] (t_X5_pour_b11 hM hp N G N J (0 : Int32) (0 : Int32) h hq)
    · have h := (if_neg hc46).symm.trans h
      by_cases hc45 : v2 = 64
      · subst hc45
        have h := (if_pos rfl).symm.trans h
        show JW X 1 6 5 [some (.ref 0), some (.int p0), none, none, none] [.ref 64] (hX G J)
        refine JW.r hM 3 5 (pc2 := 11) (L2 := [some (.ref 0), some (.int p0), some (.ref 64), some (.int (0 : Int32)), some (.int (0 : Int32))]) (st2 := []) (μ2 := (hX G J)) rfl trivial ?_
        exact JW.mask [true, false, true, true, true] (t_X5_pour_b11a hM hp N G N J (0 : Int32) (0 : Int32) h hq)
      · have h := (if_neg hc45).symm.trans h
        by_cases hc44 : v2 = 66
        · subst hc44
          have h := (if_pos rfl).symm.trans h
          show JW X 1 6 5 [some (.ref 0), some (.int p0), none, none, none] [.ref 66] (hX G J)
          refine JW.r hM 3 5 (pc2 := 11) (L2 := [some (.ref 0), some (.int p0), some (.ref 66), some (.int (0 : Int32)), some (.int (0 : Int32))]) (st2 := []) (μ2 := (hX G J)) rfl trivial ?_
          exact JW.mask [true, false, true, true, true] (t_X5_pour_b11b hM hp N G N J (0 : Int32) (0 : Int32) h hq)
        · have h := (if_neg hc44).symm.trans h
          by_cases hc43 : v2 = 68
          · subst hc43
            have h := (if_pos rfl).symm.trans h
            show JW X 1 6 5 [some (.ref 0), some (.int p0), none, none, none] [.ref 68] (hX G J)
            refine JW.r hM 3 5 (pc2 := 11) (L2 := [some (.ref 0), some (.int p0), some (.ref 68), some (.int (0 : Int32)), some (.int (0 : Int32))]) (st2 := []) (μ2 := (hX G J)) rfl trivial ?_
            exact JW.mask [true, false, true, true, true] (t_X5_pour_b11c hM hp N G N J (0 : Int32) (0 : Int32) h hq)
          · have h := (if_neg hc43).symm.trans h
            cases h
  · obtain ⟨c47, hv1, h⟩ := h
    subst h
    exact JW.xV hM hp (E := jEn c47) (m_X5_needTray_x (jVX X) hM.1.2.2.2.2.2.2.2.2.2.1 N G J p0 c47 hv1) (sb_X_X_0 G J) (bi_X_X_0 G J) rfl rfl kc_X5_183 rfl rfl rfl rfl rfl (jat hM.2.1 2 rfl) (st := []) rfl (hx _ rfl)
theorem m_X5_pour_r (V : jV) (hV : V.1.stackTraces = false) (N : Nat) (G : Nat → Nat → Int32) (J : Nat → Nat → Int64) (p0 : Int32) (v : (Int32 × (Nat → Nat → Int64))) (h : p_X5_pour N G J p0 = some (.inr v)) : jMet V yX5_pour (jws yX5_pour cX5_pour 5 (some .int)) ⟨7, 1, 6, 110⟩ true 1 [.ref 0, .int p0] (hX G J) (fun o ν => o = some (.int v.1) ∧ ν = (hX G v.2)) (fun _ _ => False) := by
  refine jmk (tb := tbX5) (C := kX5_pour) hV rfl (by decide) tbX5_ok rfl kX5_pour_ok rfl ?_
  intro X hM _ hp _
  exact t_X5_pour hM hp N G J p0 h (fun w hw => by cases hw; exact ⟨rfl, rfl⟩) (fun c hc => by cases hc)
theorem m_X5_pour_x (V : jV) (hV : V.1.stackTraces = false) (N : Nat) (G : Nat → Nat → Int32) (J : Nat → Nat → Int64) (p0 : Int32) (c : Nat) (h : p_X5_pour N G J p0 = some (.inl c)) : jMet V yX5_pour (jws yX5_pour cX5_pour 5 (some .int)) ⟨7, 1, 6, 110⟩ true 1 [.ref 0, .int p0] (hX G J) (fun _ _ => False) (fun E ν => E = jEn c ∧ ν = (hX G J)) := by
  refine jmk (tb := tbX5) (C := kX5_pour) hV rfl (by decide) tbX5_ok rfl kX5_pour_ok rfl ?_
  intro X hM _ hp _
  exact t_X5_pour hM hp N G J p0 h (fun w hw => by cases hw) (fun c hc => by cases hc; exact ⟨rfl, rfl⟩)
def p_X5_needImage_b9 (N : Nat) (G : Nat → Nat → Int32) (J : Nat → Nat → Int64) : Option (Nat ⊕ (Unit)) :=
  some (.inl 1)
def p_X5_needImage (N : Nat) (G : Nat → Nat → Int32) (J : Nat → Nat → Int64) (p0 : Int32) : Option (Nat ⊕ (Unit)) :=
  if p0 < 0 then (p_X5_needImage_b9 N G J) else (if p0 < (3 : Int32) then (some (.inr ())) else (p_X5_needImage_b9 N G J))
set_option maxHeartbeats 4000000 in
set_option maxRecDepth 100000 in
theorem t_X5_needImage_b9 {X : jX} {po : Option Value → jH → Prop} {px : String → jH → Prop} {sf : Bool} {B9 : Nat} (hM : jMX X kX5_needImage RX5 tbX5 2 ⟨6, 1, 6, 89⟩ none 71) (hp : jPost X sf B9 po px) (N : Nat) (G : Nat → Nat → Int32) (J : Nat → Nat → Int64) {res : Nat ⊕ (Unit)} (h : p_X5_needImage_b9 N G J = some res) (hq : ∀ w, res = Sum.inr w → po none (hX G J)) (hx : ∀ c, res = Sum.inl c → px (jEn c) (hX G J)) : JW X 0 0 9 [none, none] [] (hX G J) := by
  unfold p_X5_needImage_b9 at h
  obtain rfl := Option.some.inj h
  exact js_throw (ik := 300) (ic := 302) (names := ["java/lang/RuntimeException", "java/lang/Exception"]) hM.1 hp hM.2.2.2.2.2.2.2.2.2 (by decide) (by decide) (by rw [hM.2.2.1]; exact th_X5_300_302) (jat hM.2.1 5 rfl) (jat hM.2.1 6 rfl) (jat hM.2.1 7 rfl) (jat hM.2.1 8 rfl) (by rw [hM.2.2.2.2.1]; exact Nat.le_of_ble_eq_true rfl) (by rw [hM.2.2.2.2.1]; exact Nat.le_of_ble_eq_true rfl) (by rw [hM.2.2.2.2.2.1]; exact Nat.le_of_ble_eq_true rfl) (by rw [hM.2.2.2.2.2.2.1]; exact Nat.le_of_ble_eq_true rfl) (hx _ rfl)
set_option maxHeartbeats 4000000 in
set_option maxRecDepth 100000 in
theorem t_X5_needImage {X : jX} {po : Option Value → jH → Prop} {px : String → jH → Prop} {sf : Bool} {B9 : Nat} (hM : jMX X kX5_needImage RX5 tbX5 2 ⟨6, 1, 6, 89⟩ none 71) (hp : jPost X sf B9 po px) (N : Nat) (G : Nat → Nat → Int32) (J : Nat → Nat → Int64) (p0 : Int32) {res : Nat ⊕ (Unit)} (h : p_X5_needImage N G J p0 = some res) (hq : ∀ w, res = Sum.inr w → po none (hX G J)) (hx : ∀ c, res = Sum.inl c → px (jEn c) (hX G J)) : JW X 0 0 0 [some (.ref 0), some (.int p0)] [] (hX G J) := by
  unfold p_X5_needImage at h
  refine JW.r hM 0 1 (pc2 := 1) (L2 := [some (.ref 0), some (.int p0)]) (st2 := [.int p0]) (μ2 := (hX G J)) rfl trivial ?_
  refine js_iflt (t := 9) hM.1 (jat hM.2.1 1 rfl) rfl (fun hc2 => ?_) (fun hc2 => ?_)
  · have h := (if_pos hc2).symm.trans h
    exact JW.mask [false, false] (t_X5_needImage_b9 hM hp N G J h hq hx)
  · have h := (if_neg hc2).symm.trans h
    refine JW.r hM 2 2 (pc2 := 6) (L2 := [some (.ref 0), some (.int p0)]) (st2 := [.int (3 : Int32), .int p0]) (μ2 := (hX G J)) rfl trivial ?_
    refine js_iclt (t := 17) hM.1 (jat hM.2.1 4 rfl) rfl (fun hc1 => ?_) (fun hc1 => ?_)
    · have h := (if_pos hc1).symm.trans h
      obtain rfl := Option.some.inj h
      exact js_vret hM.1 hp hM.2.2.2.2.2.2.2.1 (by rw [hM.2.2.2.2.2.1]; exact Nat.le_of_ble_eq_true rfl) (by rw [hM.2.2.2.2.2.2.1]; exact Nat.le_of_ble_eq_true rfl) (jat hM.2.1 9 rfl) (hq () rfl)
    · have h := (if_neg hc1).symm.trans h
      exact JW.mask [false, false] (t_X5_needImage_b9 hM hp N G J h hq hx)
theorem m_X5_needImage_r (V : jV) (hV : V.1.stackTraces = false) (N : Nat) (G : Nat → Nat → Int32) (J : Nat → Nat → Int64) (p0 : Int32) (v : (Unit)) (h : p_X5_needImage N G J p0 = some (.inr v)) : jMet V yX5_needImage (jws yX5_needImage cX5_needImage 2 none) ⟨6, 1, 6, 89⟩ true 1 [.ref 0, .int p0] (hX G J) (fun o ν => o = none ∧ ν = (hX G J)) (fun _ _ => False) := by
  refine jmk (tb := tbX5) (C := kX5_needImage) hV rfl (by decide) tbX5_ok rfl kX5_needImage_ok rfl ?_
  intro X hM _ hp _
  exact t_X5_needImage hM hp N G J p0 h (fun w hw => by cases hw; exact ⟨rfl, rfl⟩) (fun c hc => by cases hc)
theorem m_X5_needImage_x (V : jV) (hV : V.1.stackTraces = false) (N : Nat) (G : Nat → Nat → Int32) (J : Nat → Nat → Int64) (p0 : Int32) (c : Nat) (h : p_X5_needImage N G J p0 = some (.inl c)) : jMet V yX5_needImage (jws yX5_needImage cX5_needImage 2 none) ⟨6, 1, 6, 89⟩ true 1 [.ref 0, .int p0] (hX G J) (fun _ _ => False) (fun E ν => E = jEn c ∧ ν = (hX G J)) := by
  refine jmk (tb := tbX5) (C := kX5_needImage) hV rfl (by decide) tbX5_ok rfl kX5_needImage_ok rfl ?_
  intro X hM _ hp _
  exact t_X5_needImage hM hp N G J p0 h (fun w hw => by cases hw) (fun c hc => by cases hc; exact ⟨rfl, rfl⟩)
def p_X5_image (N : Nat) (G : Nat → Nat → Int32) (J : Nat → Nat → Int64) (p0 : Int32) : Option (Nat ⊕ ((Nat → Nat → Int32))) :=
  jbx (p_X5_needImage N G J p0) (fun v2 => if jin p0 3 = true then (if p0.toNatClampNeg = 0 then ((p_X3_copyFrom N (jv2 G 35 9 1)).bind (fun v5 => jlt (jp2 G 35 9 1 9 v5) fun G6 => if jin p0 3 = true then jlt (jup G6 20 p0.toNatClampNeg (vp_nar .boolean (1 : Int32))) fun G9 => some (.inr G9) else none)) else (if p0.toNatClampNeg = 1 then ((p_X3_copyFrom N (jv2 G 44 9 1)).bind (fun v12 => jlt (jp2 G 44 9 1 9 v12) fun G13 => if jin p0 3 = true then jlt (jup G13 20 p0.toNatClampNeg (vp_nar .boolean (1 : Int32))) fun G16 => some (.inr G16) else none)) else (if p0.toNatClampNeg = 2 then ((p_X3_copyFrom N (jv2 G 53 9 1)).bind (fun v19 => jlt (jp2 G 53 9 1 9 v19) fun G20 => if jin p0 3 = true then jlt (jup G20 20 p0.toNatClampNeg (vp_nar .boolean (1 : Int32))) fun G23 => some (.inr G23) else none)) else (none)))) else none)
set_option maxHeartbeats 4000000 in
set_option maxRecDepth 100000 in
theorem t_X5_image {X : jX} {po : Option Value → jH → Prop} {px : String → jH → Prop} {sf : Bool} {B9 : Nat} (hM : jMX X kX5_image RX5 tbX5 2 ⟨7, 1, 6, 110⟩ none 71) (hp : jPost X sf B9 po px) (N : Nat) (G : Nat → Nat → Int32) (J : Nat → Nat → Int64) (p0 : Int32) {res : Nat ⊕ ((Nat → Nat → Int32))} (h : p_X5_image N G J p0 = some res) (hq : ∀ w, res = Sum.inr w → po none (hX w J)) (hx : ∀ c, res = Sum.inl c → px (jEn c) (hX G J)) : JW X 0 0 0 [some (.ref 0), some (.int p0)] [] (hX G J) := by
  unfold p_X5_image at h
  refine JW.r hM 0 2 (pc2 := 2) (L2 := [some (.ref 0), some (.int p0)]) (st2 := [.int p0, .ref 0]) (μ2 := (hX G J)) rfl trivial ?_
  rcases jbxE h with h | h
  · obtain ⟨v2, hv1, h⟩ := h
    refine JW.cV (v := none) hM (m_X5_needImage_r (jVX X) hM.1.2.2.2.2.2.2.2.2.2.1 N G J p0 v2 hv1) (sb_X_X_0 G J) (bi_X_X_0 G J) rfl rfl rfl kc_X5_313 rfl rfl rfl rfl rfl (jat hM.2.1 2 rfl) (st := []) rfl ?_
    show JW X 1 6 5 [some (.ref 0), some (.int p0)] [] (hX G J)
    refine JW.r hM 3 3 (pc2 := 10) (L2 := [some (.ref 0), some (.int p0)]) (st2 := [.int p0, .ref 19]) (μ2 := (hX G J)) rfl trivial ?_
    obtain ⟨g3, h⟩ := jg h
    by_cases hc27 : p0.toNatClampNeg = 0
    · have h := (if_pos hc27).symm.trans h
      refine js_aald (t := 4) (r := 35) (rs := [some 35, some 44, some 53]) hM.1 (by decide) rfl g3 (by rw [hc27]; rfl) (jat hM.2.1 6 rfl) ?_
      show JW X 1 6 11 [some (.ref 0), some (.int p0)] [.ref 35] (hX G J)
      refine JW.r hM 7 2 (pc2 := 15) (L2 := [some (.ref 0), some (.int p0)]) (st2 := [.ref 1, .ref 35]) (μ2 := (hX G J)) rfl trivial ?_
      obtain ⟨v5, hv4, h⟩ := jbd h
      refine JW.cV (v := none) hM (m_X3_copyFrom (jVX X) hM.1.2.2.2.2.2.2.2.2.2.1 N (jv2 G 35 9 1) v5 hv4) (sb_X_T2_35_1 G J) (bk_X_T2_35_1 G J v5) rfl rfl rfl kc_X5_66 rfl rfl rfl rfl rfl (jat hM.2.1 9 rfl) (st := []) rfl ?_
      show JW X 1 6 18 [some (.ref 0), some (.int p0)] [] (hX (jp2 G 35 9 1 9 v5) J)
      obtain ⟨G6, e7, h⟩ := jlE h
      rw [e7]
      obtain ⟨g8, h⟩ := jg h
      obtain ⟨G9, e10, h⟩ := jlE h
      refine JW.r hM 10 5 (pc2 := 25) (L2 := [some (.ref 0), some (.int p0)]) (st2 := []) (μ2 := (hX (jup G6 20 p0.toNatClampNeg (vp_nar .boolean (1 : Int32))) J)) rfl ⟨g8, trivial⟩ ?_
      rw [e10]
      obtain rfl := Option.some.inj h
      exact js_vret hM.1 hp hM.2.2.2.2.2.2.2.1 (by rw [hM.2.2.2.2.2.1]; exact Nat.le_of_ble_eq_true rfl) (by rw [hM.2.2.2.2.2.2.1]; exact Nat.le_of_ble_eq_true rfl) (jat hM.2.1 15 rfl) (hq G9 rfl)
    · have h := (if_neg hc27).symm.trans h
      by_cases hc26 : p0.toNatClampNeg = 1
      · have h := (if_pos hc26).symm.trans h
        refine js_aald (t := 4) (r := 44) (rs := [some 35, some 44, some 53]) hM.1 (by decide) rfl g3 (by rw [hc26]; rfl) (jat hM.2.1 6 rfl) ?_
        show JW X 1 6 11 [some (.ref 0), some (.int p0)] [.ref 44] (hX G J)
        refine JW.r hM 7 2 (pc2 := 15) (L2 := [some (.ref 0), some (.int p0)]) (st2 := [.ref 1, .ref 44]) (μ2 := (hX G J)) rfl trivial ?_
        obtain ⟨v12, hv11, h⟩ := jbd h
        refine JW.cV (v := none) hM (m_X3_copyFrom (jVX X) hM.1.2.2.2.2.2.2.2.2.2.1 N (jv2 G 44 9 1) v12 hv11) (sb_X_T2_44_1 G J) (bk_X_T2_44_1 G J v12) rfl rfl rfl kc_X5_66 rfl rfl rfl rfl rfl (jat hM.2.1 9 rfl) (st := []) rfl ?_
        show JW X 1 6 18 [some (.ref 0), some (.int p0)] [] (hX (jp2 G 44 9 1 9 v12) J)
        obtain ⟨G13, e14, h⟩ := jlE h
        rw [e14]
        obtain ⟨g15, h⟩ := jg h
        obtain ⟨G16, e17, h⟩ := jlE h
        refine JW.r hM 10 5 (pc2 := 25) (L2 := [some (.ref 0), some (.int p0)]) (st2 := []) (μ2 := (hX (jup G13 20 p0.toNatClampNeg (vp_nar .boolean (1 : Int32))) J)) rfl ⟨g15, trivial⟩ ?_
        rw [e17]
        obtain rfl := Option.some.inj h
        exact js_vret hM.1 hp hM.2.2.2.2.2.2.2.1 (by rw [hM.2.2.2.2.2.1]; exact Nat.le_of_ble_eq_true rfl) (by rw [hM.2.2.2.2.2.2.1]; exact Nat.le_of_ble_eq_true rfl) (jat hM.2.1 15 rfl) (hq G16 rfl)
      · have h := (if_neg hc26).symm.trans h
        by_cases hc25 : p0.toNatClampNeg = 2
        · have h := (if_pos hc25).symm.trans h
          refine js_aald (t := 4) (r := 53) (rs := [some 35, some 44, some 53]) hM.1 (by decide) rfl g3 (by rw [hc25]; rfl) (jat hM.2.1 6 rfl) ?_
          show JW X 1 6 11 [some (.ref 0), some (.int p0)] [.ref 53] (hX G J)
          refine JW.r hM 7 2 (pc2 := 15) (L2 := [some (.ref 0), some (.int p0)]) (st2 := [.ref 1, .ref 53]) (μ2 := (hX G J)) rfl trivial ?_
          obtain ⟨v19, hv18, h⟩ := jbd h
          refine JW.cV (v := none) hM (m_X3_copyFrom (jVX X) hM.1.2.2.2.2.2.2.2.2.2.1 N (jv2 G 53 9 1) v19 hv18) (sb_X_T2_53_1 G J) (bk_X_T2_53_1 G J v19) rfl rfl rfl kc_X5_66 rfl rfl rfl rfl rfl (jat hM.2.1 9 rfl) (st := []) rfl ?_
          show JW X 1 6 18 [some (.ref 0), some (.int p0)] [] (hX (jp2 G 53 9 1 9 v19) J)
          obtain ⟨G20, e21, h⟩ := jlE h
          rw [e21]
          obtain ⟨g22, h⟩ := jg h
          obtain ⟨G23, e24, h⟩ := jlE h
          refine JW.r hM 10 5 (pc2 := 25) (L2 := [some (.ref 0), some (.int p0)]) (st2 := []) (μ2 := (hX (jup G20 20 p0.toNatClampNeg (vp_nar .boolean (1 : Int32))) J)) rfl ⟨g22, trivial⟩ ?_
          rw [e24]
          obtain rfl := Option.some.inj h
          exact js_vret hM.1 hp hM.2.2.2.2.2.2.2.1 (by rw [hM.2.2.2.2.2.1]; exact Nat.le_of_ble_eq_true rfl) (by rw [hM.2.2.2.2.2.2.1]; exact Nat.le_of_ble_eq_true rfl) (jat hM.2.1 15 rfl) (hq G23 rfl)
        · have h := (if_neg hc25).symm.trans h
          cases h
  · obtain ⟨c28, hv1, h⟩ := h
    subst h
    exact JW.xV hM hp (E := jEn c28) (m_X5_needImage_x (jVX X) hM.1.2.2.2.2.2.2.2.2.2.1 N G J p0 c28 hv1) (sb_X_X_0 G J) (bi_X_X_0 G J) rfl rfl kc_X5_313 rfl rfl rfl rfl rfl (jat hM.2.1 2 rfl) (st := []) rfl (hx _ rfl)
theorem m_X5_image_r (V : jV) (hV : V.1.stackTraces = false) (N : Nat) (G : Nat → Nat → Int32) (J : Nat → Nat → Int64) (p0 : Int32) (v : ((Nat → Nat → Int32))) (h : p_X5_image N G J p0 = some (.inr v)) : jMet V yX5_image (jws yX5_image cX5_image 2 none) ⟨7, 1, 6, 110⟩ true 1 [.ref 0, .int p0] (hX G J) (fun o ν => o = none ∧ ν = (hX v J)) (fun _ _ => False) := by
  refine jmk (tb := tbX5) (C := kX5_image) hV rfl (by decide) tbX5_ok rfl kX5_image_ok rfl ?_
  intro X hM _ hp _
  exact t_X5_image hM hp N G J p0 h (fun w hw => by cases hw; exact ⟨rfl, rfl⟩) (fun c hc => by cases hc)
theorem m_X5_image_x (V : jV) (hV : V.1.stackTraces = false) (N : Nat) (G : Nat → Nat → Int32) (J : Nat → Nat → Int64) (p0 : Int32) (c : Nat) (h : p_X5_image N G J p0 = some (.inl c)) : jMet V yX5_image (jws yX5_image cX5_image 2 none) ⟨7, 1, 6, 110⟩ true 1 [.ref 0, .int p0] (hX G J) (fun _ _ => False) (fun E ν => E = jEn c ∧ ν = (hX G J)) := by
  refine jmk (tb := tbX5) (C := kX5_image) hV rfl (by decide) tbX5_ok rfl kX5_image_ok rfl ?_
  intro X hM _ hp _
  exact t_X5_image hM hp N G J p0 h (fun w hw => by cases hw) (fun c hc => by cases hc; exact ⟨rfl, rfl⟩)
def p_X5_restore (N : Nat) (G : Nat → Nat → Int32) (J : Nat → Nat → Int64) (p0 : Int32) : Option (Nat ⊕ ((Nat → Nat → Int32))) :=
  jbx (p_X5_needImage N G J p0) (fun v2 => if jin p0 3 = true then if (G 20 p0.toNatClampNeg) = 0 then (some (.inl 2)) else (if jin p0 3 = true then (if p0.toNatClampNeg = 0 then ((p_X3_copyFrom N (jv2 G 1 9 35)).bind (fun v6 => jlt (jp2 G 1 9 35 9 v6) fun G7 => some (.inr G7))) else (if p0.toNatClampNeg = 1 then ((p_X3_copyFrom N (jv2 G 1 9 44)).bind (fun v10 => jlt (jp2 G 1 9 44 9 v10) fun G11 => some (.inr G11))) else (if p0.toNatClampNeg = 2 then ((p_X3_copyFrom N (jv2 G 1 9 53)).bind (fun v14 => jlt (jp2 G 1 9 53 9 v14) fun G15 => some (.inr G15))) else (none)))) else none) else none)
set_option maxHeartbeats 4000000 in
set_option maxRecDepth 100000 in
theorem t_X5_restore {X : jX} {po : Option Value → jH → Prop} {px : String → jH → Prop} {sf : Bool} {B9 : Nat} (hM : jMX X kX5_restore RX5 tbX5 2 ⟨7, 2, 12, 110⟩ none 71) (hp : jPost X sf B9 po px) (N : Nat) (G : Nat → Nat → Int32) (J : Nat → Nat → Int64) (p0 : Int32) {res : Nat ⊕ ((Nat → Nat → Int32))} (h : p_X5_restore N G J p0 = some res) (hq : ∀ w, res = Sum.inr w → po none (hX w J)) (hx : ∀ c, res = Sum.inl c → px (jEn c) (hX G J)) : JW X 0 0 0 [some (.ref 0), some (.int p0)] [] (hX G J) := by
  unfold p_X5_restore at h
  refine JW.r hM 0 2 (pc2 := 2) (L2 := [some (.ref 0), some (.int p0)]) (st2 := [.int p0, .ref 0]) (μ2 := (hX G J)) rfl trivial ?_
  rcases jbxE h with h | h
  · obtain ⟨v2, hv1, h⟩ := h
    refine JW.cV (v := none) hM (m_X5_needImage_r (jVX X) hM.1.2.2.2.2.2.2.2.2.2.1 N G J p0 v2 hv1) (sb_X_X_0 G J) (bi_X_X_0 G J) rfl rfl rfl kc_X5_313 rfl rfl rfl rfl rfl (jat hM.2.1 2 rfl) (st := []) rfl ?_
    show JW X 1 6 5 [some (.ref 0), some (.int p0)] [] (hX G J)
    obtain ⟨g3, h⟩ := jg h
    refine JW.r hM 3 4 (pc2 := 11) (L2 := [some (.ref 0), some (.int p0)]) (st2 := [.int (G 20 p0.toNatClampNeg)]) (μ2 := (hX G J)) rfl ⟨g3, trivial⟩ ?_
    refine js_ifne (t := 22) hM.1 (jat hM.2.1 7 rfl) rfl (fun hc20 => ?_) (fun hc20 => ?_)
    · have h := (if_neg hc20).symm.trans h
      refine JW.r hM 12 5 (pc2 := 31) (L2 := [some (.ref 0), some (.int p0)]) (st2 := [.int p0, .ref 19, .ref 1]) (μ2 := (hX G J)) rfl trivial ?_
      obtain ⟨g4, h⟩ := jg h
      by_cases hc19 : p0.toNatClampNeg = 0
      · have h := (if_pos hc19).symm.trans h
        refine js_aald (t := 4) (r := 35) (rs := [some 35, some 44, some 53]) hM.1 (by decide) rfl g4 (by rw [hc19]; rfl) (jat hM.2.1 17 rfl) ?_
        show JW X 1 6 32 [some (.ref 0), some (.int p0)] [.ref 35, .ref 1] (hX G J)
        obtain ⟨v6, hv5, h⟩ := jbd h
        refine JW.cV (v := none) hM (m_X3_copyFrom (jVX X) hM.1.2.2.2.2.2.2.2.2.2.1 N (jv2 G 1 9 35) v6 hv5) (sb_X_T2_1_35 G J) (bk_X_T2_1_35 G J v6) rfl rfl rfl kc_X5_66 rfl rfl rfl rfl rfl (jat hM.2.1 18 rfl) (st := []) rfl ?_
        show JW X 1 6 35 [some (.ref 0), some (.int p0)] [] (hX (jp2 G 1 9 35 9 v6) J)
        obtain ⟨G7, e8, h⟩ := jlE h
        rw [e8]
        obtain rfl := Option.some.inj h
        exact js_vret hM.1 hp hM.2.2.2.2.2.2.2.1 (by rw [hM.2.2.2.2.2.1]; exact Nat.le_of_ble_eq_true rfl) (by rw [hM.2.2.2.2.2.2.1]; exact Nat.le_of_ble_eq_true rfl) (jat hM.2.1 19 rfl) (hq G7 rfl)
      · have h := (if_neg hc19).symm.trans h
        by_cases hc18 : p0.toNatClampNeg = 1
        · have h := (if_pos hc18).symm.trans h
          refine js_aald (t := 4) (r := 44) (rs := [some 35, some 44, some 53]) hM.1 (by decide) rfl g4 (by rw [hc18]; rfl) (jat hM.2.1 17 rfl) ?_
          show JW X 1 6 32 [some (.ref 0), some (.int p0)] [.ref 44, .ref 1] (hX G J)
          obtain ⟨v10, hv9, h⟩ := jbd h
          refine JW.cV (v := none) hM (m_X3_copyFrom (jVX X) hM.1.2.2.2.2.2.2.2.2.2.1 N (jv2 G 1 9 44) v10 hv9) (sb_X_T2_1_44 G J) (bk_X_T2_1_44 G J v10) rfl rfl rfl kc_X5_66 rfl rfl rfl rfl rfl (jat hM.2.1 18 rfl) (st := []) rfl ?_
          show JW X 1 6 35 [some (.ref 0), some (.int p0)] [] (hX (jp2 G 1 9 44 9 v10) J)
          obtain ⟨G11, e12, h⟩ := jlE h
          rw [e12]
          obtain rfl := Option.some.inj h
          exact js_vret hM.1 hp hM.2.2.2.2.2.2.2.1 (by rw [hM.2.2.2.2.2.1]; exact Nat.le_of_ble_eq_true rfl) (by rw [hM.2.2.2.2.2.2.1]; exact Nat.le_of_ble_eq_true rfl) (jat hM.2.1 19 rfl) (hq G11 rfl)
        · have h := (if_neg hc18).symm.trans h
          by_cases hc17 : p0.toNatClampNeg = 2
          · have h := (if_pos hc17).symm.trans h
            refine js_aald (t := 4) (r := 53) (rs := [some 35, some 44, some 53]) hM.1 (by decide) rfl g4 (by rw [hc17]; rfl) (jat hM.2.1 17 rfl) ?_
            show JW X 1 6 32 [some (.ref 0), some (.int p0)] [.ref 53, .ref 1] (hX G J)
            obtain ⟨v14, hv13, h⟩ := jbd h
            refine JW.cV (v := none) hM (m_X3_copyFrom (jVX X) hM.1.2.2.2.2.2.2.2.2.2.1 N (jv2 G 1 9 53) v14 hv13) (sb_X_T2_1_53 G J) (bk_X_T2_1_53 G J v14) rfl rfl rfl kc_X5_66 rfl rfl rfl rfl rfl (jat hM.2.1 18 rfl) (st := []) rfl ?_
            show JW X 1 6 35 [some (.ref 0), some (.int p0)] [] (hX (jp2 G 1 9 53 9 v14) J)
            obtain ⟨G15, e16, h⟩ := jlE h
            rw [e16]
            obtain rfl := Option.some.inj h
            exact js_vret hM.1 hp hM.2.2.2.2.2.2.2.1 (by rw [hM.2.2.2.2.2.1]; exact Nat.le_of_ble_eq_true rfl) (by rw [hM.2.2.2.2.2.2.1]; exact Nat.le_of_ble_eq_true rfl) (jat hM.2.1 19 rfl) (hq G15 rfl)
          · have h := (if_neg hc17).symm.trans h
            cases h
    · have h := (if_pos hc20).symm.trans h
      obtain rfl := Option.some.inj h
      exact js_throw (ik := 119) (ic := 121) (names := ["java/lang/RuntimeException", "java/lang/Exception"]) hM.1 hp hM.2.2.2.2.2.2.2.2.2 (by decide) (by decide) (by rw [hM.2.2.1]; exact th_X5_119_121) (jat hM.2.1 8 rfl) (jat hM.2.1 9 rfl) (jat hM.2.1 10 rfl) (jat hM.2.1 11 rfl) (by rw [hM.2.2.2.2.1]; exact Nat.le_of_ble_eq_true rfl) (by rw [hM.2.2.2.2.1]; exact Nat.le_of_ble_eq_true rfl) (by rw [hM.2.2.2.2.2.1]; exact Nat.le_of_ble_eq_true rfl) (by rw [hM.2.2.2.2.2.2.1]; exact Nat.le_of_ble_eq_true rfl) (hx _ rfl)
  · obtain ⟨c21, hv1, h⟩ := h
    subst h
    exact JW.xV hM hp (E := jEn c21) (m_X5_needImage_x (jVX X) hM.1.2.2.2.2.2.2.2.2.2.1 N G J p0 c21 hv1) (sb_X_X_0 G J) (bi_X_X_0 G J) rfl rfl kc_X5_313 rfl rfl rfl rfl rfl (jat hM.2.1 2 rfl) (st := []) rfl (hx _ rfl)
theorem m_X5_restore_r (V : jV) (hV : V.1.stackTraces = false) (N : Nat) (G : Nat → Nat → Int32) (J : Nat → Nat → Int64) (p0 : Int32) (v : ((Nat → Nat → Int32))) (h : p_X5_restore N G J p0 = some (.inr v)) : jMet V yX5_restore (jws yX5_restore cX5_restore 2 none) ⟨7, 2, 12, 110⟩ true 1 [.ref 0, .int p0] (hX G J) (fun o ν => o = none ∧ ν = (hX v J)) (fun _ _ => False) := by
  refine jmk (tb := tbX5) (C := kX5_restore) hV rfl (by decide) tbX5_ok rfl kX5_restore_ok rfl ?_
  intro X hM _ hp _
  exact t_X5_restore hM hp N G J p0 h (fun w hw => by cases hw; exact ⟨rfl, rfl⟩) (fun c hc => by cases hc)
theorem m_X5_restore_x (V : jV) (hV : V.1.stackTraces = false) (N : Nat) (G : Nat → Nat → Int32) (J : Nat → Nat → Int64) (p0 : Int32) (c : Nat) (h : p_X5_restore N G J p0 = some (.inl c)) : jMet V yX5_restore (jws yX5_restore cX5_restore 2 none) ⟨7, 2, 12, 110⟩ true 1 [.ref 0, .int p0] (hX G J) (fun _ _ => False) (fun E ν => E = jEn c ∧ ν = (hX G J)) := by
  refine jmk (tb := tbX5) (C := kX5_restore) hV rfl (by decide) tbX5_ok rfl kX5_restore_ok rfl ?_
  intro X hM _ hp _
  exact t_X5_restore hM hp N G J p0 h (fun w hw => by cases hw) (fun c hc => by cases hc; exact ⟨rfl, rfl⟩)
def p_X5_count (N : Nat) (G : Nat → Nat → Int32) (J : Nat → Nat → Int64) (p0 : Int32) : Option (Int32) :=
  if p0.toInt = 0 then (some (G 1 0)) else (if p0.toInt = 1 then (some (G 1 1)) else (if p0.toInt = 2 then (some (G 1 2)) else (if p0.toInt = 3 then (some (G 1 7)) else (if p0.toInt = 4 then ((p_J6_bitCount_0f7a4 N (G 1 8)).bind (fun v14 => some v14)) else (if p0.toInt = 5 then (some (G 1 6)) else (if p0.toInt = 6 then (some (G 1 4)) else (if p0.toInt = 7 then (some (G 1 5)) else (if p0.toInt = 8 then (some (G 1 3)) else (if p0.toInt = 9 then ((p_X3_coinsOfAll N (jvw G 1)).bind (fun v16 => some v16)) else (if p0.toInt = 10 then ((p_X3_wealthOfAll N (jvw G 1)).bind (fun v18 => some v18)) else (if p0.toInt = 11 then (some (G 22 0)) else (some (-1 : Int32)))))))))))))
set_option maxHeartbeats 4000000 in
set_option maxRecDepth 100000 in
theorem t_X5_count {X : jX} {po : Option Value → jH → Prop} {px : String → jH → Prop} {sf : Bool} {B9 : Nat} (hM : jMX X kX5_count RX5 tbX5 2 ⟨3, 0, 0, 67⟩ (some .int) 71) (hp : jPost X sf B9 po px) (N : Nat) (G : Nat → Nat → Int32) (J : Nat → Nat → Int64) (p0 : Int32) {res : Int32} (h : p_X5_count N G J p0 = some res) (hq : po (some (.int res)) (hX G J)) : JW X 0 0 0 [some (.ref 0), some (.int p0)] [] (hX G J) := by
  unfold p_X5_count at h
  refine JW.r hM 0 1 (pc2 := 1) (L2 := [some (.ref 0), some (.int p0)]) (st2 := [.int p0]) (μ2 := (hX G J)) rfl trivial ?_
  refine js_tsw (t0 := 163) hM.1 (jat hM.2.1 1 rfl) (by decide) rfl (by decide) ⟨fun hc1 t ht => ?_, fun hc1 => ⟨fun hc2 t ht => ?_, fun hc2 => ⟨fun hc3 t ht => ?_, fun hc3 => ⟨fun hc4 t ht => ?_, fun hc4 => ⟨fun hc5 t ht => ?_, fun hc5 => ⟨fun hc6 t ht => ?_, fun hc6 => ⟨fun hc7 t ht => ?_, fun hc7 => ⟨fun hc8 t ht => ?_, fun hc8 => ⟨fun hc9 t ht => ?_, fun hc9 => ⟨fun hc10 t ht => ?_, fun hc10 => ⟨fun hc11 t ht => ?_, fun hc11 => ⟨fun hc12 t ht => ?_, fun hc12 => fun t ht => ?_⟩⟩⟩⟩⟩⟩⟩⟩⟩⟩⟩⟩
  · have h := (if_pos hc1).symm.trans h
    obtain rfl : t = 64 := by omega
    refine JW.r hM 2 3 (pc2 := 71) (L2 := [some (.ref 0), some (.int p0)]) (st2 := [.int (G 1 0)]) (μ2 := (hX G J)) rfl trivial ?_
    obtain rfl := Option.some.inj h
    exact js_iret hM.1 hp hM.2.2.2.2.2.2.2.1 (by rw [hM.2.2.2.2.2.1]; exact Nat.le_of_ble_eq_true rfl) (by rw [hM.2.2.2.2.2.2.1]; exact Nat.le_of_ble_eq_true rfl) (jat hM.2.1 5 rfl) hq
  · have h := (if_neg hc1).symm.trans h
    have h := (if_pos hc2).symm.trans h
    obtain rfl : t = 72 := by omega
    refine JW.r hM 6 3 (pc2 := 79) (L2 := [some (.ref 0), some (.int p0)]) (st2 := [.int (G 1 1)]) (μ2 := (hX G J)) rfl trivial ?_
    obtain rfl := Option.some.inj h
    exact js_iret hM.1 hp hM.2.2.2.2.2.2.2.1 (by rw [hM.2.2.2.2.2.1]; exact Nat.le_of_ble_eq_true rfl) (by rw [hM.2.2.2.2.2.2.1]; exact Nat.le_of_ble_eq_true rfl) (jat hM.2.1 9 rfl) hq
  · have h := (if_neg hc1).symm.trans h
    have h := (if_neg hc2).symm.trans h
    have h := (if_pos hc3).symm.trans h
    obtain rfl : t = 80 := by omega
    refine JW.r hM 10 3 (pc2 := 87) (L2 := [some (.ref 0), some (.int p0)]) (st2 := [.int (G 1 2)]) (μ2 := (hX G J)) rfl trivial ?_
    obtain rfl := Option.some.inj h
    exact js_iret hM.1 hp hM.2.2.2.2.2.2.2.1 (by rw [hM.2.2.2.2.2.1]; exact Nat.le_of_ble_eq_true rfl) (by rw [hM.2.2.2.2.2.2.1]; exact Nat.le_of_ble_eq_true rfl) (jat hM.2.1 13 rfl) hq
  · have h := (if_neg hc1).symm.trans h
    have h := (if_neg hc2).symm.trans h
    have h := (if_neg hc3).symm.trans h
    have h := (if_pos hc4).symm.trans h
    obtain rfl : t = 88 := by omega
    refine JW.r hM 14 3 (pc2 := 95) (L2 := [some (.ref 0), some (.int p0)]) (st2 := [.int (G 1 7)]) (μ2 := (hX G J)) rfl trivial ?_
    obtain rfl := Option.some.inj h
    exact js_iret hM.1 hp hM.2.2.2.2.2.2.2.1 (by rw [hM.2.2.2.2.2.1]; exact Nat.le_of_ble_eq_true rfl) (by rw [hM.2.2.2.2.2.2.1]; exact Nat.le_of_ble_eq_true rfl) (jat hM.2.1 17 rfl) hq
  · have h := (if_neg hc1).symm.trans h
    have h := (if_neg hc2).symm.trans h
    have h := (if_neg hc3).symm.trans h
    have h := (if_neg hc4).symm.trans h
    have h := (if_pos hc5).symm.trans h
    obtain rfl : t = 96 := by omega
    refine JW.r hM 18 3 (pc2 := 103) (L2 := [some (.ref 0), some (.int p0)]) (st2 := [.int (G 1 8)]) (μ2 := (hX G J)) rfl trivial ?_
    obtain ⟨v14, hv13, h⟩ := jbd h
    refine JW.cS (v := some (.int v14)) hM (m_J6_bitCount_0f7a4 (jVX X) hM.1.2.2.2.2.2.2.2.2.2.1 N (G 1 8) v14 hv13) (sb_X_E_ G J) (bi_X_E_ G J) rfl rfl rfl kc_X5_125 rfl rfl rfl (jat hM.2.1 21 rfl) (st := []) rfl ?_
    show JW X 0 0 106 [some (.ref 0), some (.int p0)] [.int v14] (hX G J)
    obtain rfl := Option.some.inj h
    exact js_iret hM.1 hp hM.2.2.2.2.2.2.2.1 (by rw [hM.2.2.2.2.2.1]; exact Nat.le_of_ble_eq_true rfl) (by rw [hM.2.2.2.2.2.2.1]; exact Nat.le_of_ble_eq_true rfl) (jat hM.2.1 22 rfl) hq
  · have h := (if_neg hc1).symm.trans h
    have h := (if_neg hc2).symm.trans h
    have h := (if_neg hc3).symm.trans h
    have h := (if_neg hc4).symm.trans h
    have h := (if_neg hc5).symm.trans h
    have h := (if_pos hc6).symm.trans h
    obtain rfl : t = 107 := by omega
    refine JW.r hM 23 3 (pc2 := 114) (L2 := [some (.ref 0), some (.int p0)]) (st2 := [.int (G 1 6)]) (μ2 := (hX G J)) rfl trivial ?_
    obtain rfl := Option.some.inj h
    exact js_iret hM.1 hp hM.2.2.2.2.2.2.2.1 (by rw [hM.2.2.2.2.2.1]; exact Nat.le_of_ble_eq_true rfl) (by rw [hM.2.2.2.2.2.2.1]; exact Nat.le_of_ble_eq_true rfl) (jat hM.2.1 26 rfl) hq
  · have h := (if_neg hc1).symm.trans h
    have h := (if_neg hc2).symm.trans h
    have h := (if_neg hc3).symm.trans h
    have h := (if_neg hc4).symm.trans h
    have h := (if_neg hc5).symm.trans h
    have h := (if_neg hc6).symm.trans h
    have h := (if_pos hc7).symm.trans h
    obtain rfl : t = 115 := by omega
    refine JW.r hM 27 3 (pc2 := 122) (L2 := [some (.ref 0), some (.int p0)]) (st2 := [.int (G 1 4)]) (μ2 := (hX G J)) rfl trivial ?_
    obtain rfl := Option.some.inj h
    exact js_iret hM.1 hp hM.2.2.2.2.2.2.2.1 (by rw [hM.2.2.2.2.2.1]; exact Nat.le_of_ble_eq_true rfl) (by rw [hM.2.2.2.2.2.2.1]; exact Nat.le_of_ble_eq_true rfl) (jat hM.2.1 30 rfl) hq
  · have h := (if_neg hc1).symm.trans h
    have h := (if_neg hc2).symm.trans h
    have h := (if_neg hc3).symm.trans h
    have h := (if_neg hc4).symm.trans h
    have h := (if_neg hc5).symm.trans h
    have h := (if_neg hc6).symm.trans h
    have h := (if_neg hc7).symm.trans h
    have h := (if_pos hc8).symm.trans h
    obtain rfl : t = 123 := by omega
    refine JW.r hM 31 3 (pc2 := 130) (L2 := [some (.ref 0), some (.int p0)]) (st2 := [.int (G 1 5)]) (μ2 := (hX G J)) rfl trivial ?_
    obtain rfl := Option.some.inj h
    exact js_iret hM.1 hp hM.2.2.2.2.2.2.2.1 (by rw [hM.2.2.2.2.2.1]; exact Nat.le_of_ble_eq_true rfl) (by rw [hM.2.2.2.2.2.2.1]; exact Nat.le_of_ble_eq_true rfl) (jat hM.2.1 34 rfl) hq
  · have h := (if_neg hc1).symm.trans h
    have h := (if_neg hc2).symm.trans h
    have h := (if_neg hc3).symm.trans h
    have h := (if_neg hc4).symm.trans h
    have h := (if_neg hc5).symm.trans h
    have h := (if_neg hc6).symm.trans h
    have h := (if_neg hc7).symm.trans h
    have h := (if_neg hc8).symm.trans h
    have h := (if_pos hc9).symm.trans h
    obtain rfl : t = 131 := by omega
    refine JW.r hM 35 3 (pc2 := 138) (L2 := [some (.ref 0), some (.int p0)]) (st2 := [.int (G 1 3)]) (μ2 := (hX G J)) rfl trivial ?_
    obtain rfl := Option.some.inj h
    exact js_iret hM.1 hp hM.2.2.2.2.2.2.2.1 (by rw [hM.2.2.2.2.2.1]; exact Nat.le_of_ble_eq_true rfl) (by rw [hM.2.2.2.2.2.2.1]; exact Nat.le_of_ble_eq_true rfl) (jat hM.2.1 38 rfl) hq
  · have h := (if_neg hc1).symm.trans h
    have h := (if_neg hc2).symm.trans h
    have h := (if_neg hc3).symm.trans h
    have h := (if_neg hc4).symm.trans h
    have h := (if_neg hc5).symm.trans h
    have h := (if_neg hc6).symm.trans h
    have h := (if_neg hc7).symm.trans h
    have h := (if_neg hc8).symm.trans h
    have h := (if_neg hc9).symm.trans h
    have h := (if_pos hc10).symm.trans h
    obtain rfl : t = 139 := by omega
    refine JW.r hM 39 2 (pc2 := 143) (L2 := [some (.ref 0), some (.int p0)]) (st2 := [.ref 1]) (μ2 := (hX G J)) rfl trivial ?_
    obtain ⟨v16, hv15, h⟩ := jbd h
    refine JW.cV (v := some (.int v16)) hM (m_X3_coinsOfAll (jVX X) hM.1.2.2.2.2.2.2.2.2.2.1 N (jvw G 1) v16 hv15) (sb_X_Town_1 G J) (bi_X_Town_1 G J) rfl rfl rfl kc_X5_319 rfl rfl rfl rfl rfl (jat hM.2.1 41 rfl) (st := []) rfl ?_
    show JW X 0 0 146 [some (.ref 0), some (.int p0)] [.int v16] (hX G J)
    obtain rfl := Option.some.inj h
    exact js_iret hM.1 hp hM.2.2.2.2.2.2.2.1 (by rw [hM.2.2.2.2.2.1]; exact Nat.le_of_ble_eq_true rfl) (by rw [hM.2.2.2.2.2.2.1]; exact Nat.le_of_ble_eq_true rfl) (jat hM.2.1 42 rfl) hq
  · have h := (if_neg hc1).symm.trans h
    have h := (if_neg hc2).symm.trans h
    have h := (if_neg hc3).symm.trans h
    have h := (if_neg hc4).symm.trans h
    have h := (if_neg hc5).symm.trans h
    have h := (if_neg hc6).symm.trans h
    have h := (if_neg hc7).symm.trans h
    have h := (if_neg hc8).symm.trans h
    have h := (if_neg hc9).symm.trans h
    have h := (if_neg hc10).symm.trans h
    have h := (if_pos hc11).symm.trans h
    obtain rfl : t = 147 := by omega
    refine JW.r hM 43 2 (pc2 := 151) (L2 := [some (.ref 0), some (.int p0)]) (st2 := [.ref 1]) (μ2 := (hX G J)) rfl trivial ?_
    obtain ⟨v18, hv17, h⟩ := jbd h
    refine JW.cV (v := some (.int v18)) hM (m_X3_wealthOfAll (jVX X) hM.1.2.2.2.2.2.2.2.2.2.1 N (jvw G 1) v18 hv17) (sb_X_Town_1 G J) (bi_X_Town_1 G J) rfl rfl rfl kc_X5_322 rfl rfl rfl rfl rfl (jat hM.2.1 45 rfl) (st := []) rfl ?_
    show JW X 0 0 154 [some (.ref 0), some (.int p0)] [.int v18] (hX G J)
    obtain rfl := Option.some.inj h
    exact js_iret hM.1 hp hM.2.2.2.2.2.2.2.1 (by rw [hM.2.2.2.2.2.1]; exact Nat.le_of_ble_eq_true rfl) (by rw [hM.2.2.2.2.2.2.1]; exact Nat.le_of_ble_eq_true rfl) (jat hM.2.1 46 rfl) hq
  · have h := (if_neg hc1).symm.trans h
    have h := (if_neg hc2).symm.trans h
    have h := (if_neg hc3).symm.trans h
    have h := (if_neg hc4).symm.trans h
    have h := (if_neg hc5).symm.trans h
    have h := (if_neg hc6).symm.trans h
    have h := (if_neg hc7).symm.trans h
    have h := (if_neg hc8).symm.trans h
    have h := (if_neg hc9).symm.trans h
    have h := (if_neg hc10).symm.trans h
    have h := (if_neg hc11).symm.trans h
    have h := (if_pos hc12).symm.trans h
    obtain rfl : t = 155 := by omega
    refine JW.r hM 47 3 (pc2 := 162) (L2 := [some (.ref 0), some (.int p0)]) (st2 := [.int (G 22 0)]) (μ2 := (hX G J)) rfl trivial ?_
    obtain rfl := Option.some.inj h
    exact js_iret hM.1 hp hM.2.2.2.2.2.2.2.1 (by rw [hM.2.2.2.2.2.1]; exact Nat.le_of_ble_eq_true rfl) (by rw [hM.2.2.2.2.2.2.1]; exact Nat.le_of_ble_eq_true rfl) (jat hM.2.1 50 rfl) hq
  · have h := (if_neg hc1).symm.trans h
    have h := (if_neg hc2).symm.trans h
    have h := (if_neg hc3).symm.trans h
    have h := (if_neg hc4).symm.trans h
    have h := (if_neg hc5).symm.trans h
    have h := (if_neg hc6).symm.trans h
    have h := (if_neg hc7).symm.trans h
    have h := (if_neg hc8).symm.trans h
    have h := (if_neg hc9).symm.trans h
    have h := (if_neg hc10).symm.trans h
    have h := (if_neg hc11).symm.trans h
    have h := (if_neg hc12).symm.trans h
    obtain rfl : t = 163 := by omega
    refine JW.r hM 51 1 (pc2 := 164) (L2 := [some (.ref 0), some (.int p0)]) (st2 := [.int (-1 : Int32)]) (μ2 := (hX G J)) rfl trivial ?_
    obtain rfl := Option.some.inj h
    exact js_iret hM.1 hp hM.2.2.2.2.2.2.2.1 (by rw [hM.2.2.2.2.2.1]; exact Nat.le_of_ble_eq_true rfl) (by rw [hM.2.2.2.2.2.2.1]; exact Nat.le_of_ble_eq_true rfl) (jat hM.2.1 52 rfl) hq
theorem m_X5_count (V : jV) (hV : V.1.stackTraces = false) (N : Nat) (G : Nat → Nat → Int32) (J : Nat → Nat → Int64) (p0 : Int32) (v : Int32) (h : p_X5_count N G J p0 = some v) : jMet V yX5_count (jws yX5_count cX5_count 2 (some .int)) ⟨3, 0, 0, 67⟩ true 1 [.ref 0, .int p0] (hX G J) (fun o ν => o = some (.int v) ∧ ν = (hX G J)) (fun _ _ => False) := by
  refine jmk (tb := tbX5) (C := kX5_count) hV rfl (by decide) tbX5_ok rfl kX5_count_ok rfl ?_
  intro X hM _ hp _
  exact t_X5_count hM hp N G J p0 h ⟨rfl, rfl⟩

/-! images -/
def SA.setIm (s : SA) (q : Nat) (a : TA) : SA := SA.mk s.now (fun i => if i = q then some a else s.im i) s.tp s.ln s.wr s.pl s.tr
theorem SA.I.setIm {s : SA} {q : Nat} {a : TA} (I : s.I) (h : a.I) : (s.setIm q a).I := by
  refine ⟨I.now, ?_, I.ln, I.tp, I.tr⟩
  intro i b hb
  have hb2 : (if i = q then some a else s.im i) = some b := hb
  by_cases e : i = q
  · rw [if_pos e] at hb2
    cases hb2; exact h
  · rw [if_neg e] at hb2; exact I.im i b hb2
section images
variable {N : Nat} {G G2 : Nat → Nat → Int32} {J J2 : Nat → Nat → Int64} {a : TA} {s s2 : SA} {xs : Nat → Int32} {i : Int32}
theorem c_copyKeep {g : Nat → Nat → Int32} {P : (Nat → Nat → Int32) → Prop} (h : Ok (p_X3_copyFrom N g) P) : Ok (p_X3_copyFrom N g) (fun r => P r ∧ ∀ c, 9 ≤ c → r c = g c) := by
  obtain ⟨r, e, hr⟩ := h
  refine ⟨r, e, hr, ?_⟩
  intro c hc
  unfold p_X3_copyFrom at e
  simp only [jlt_eq] at e
  cases e
  simp (disch := omega) only [Option.bind_some, jlt_eq, ↓reduceIte, eq_self, jinT, zleT, zleF, zltT, zltF, zeq, zpos, zpos', zcl, zm6, z6, z84, z24, z14, z8, nI_add, zd0, zd1, zd2, zd3, zd4, zd5, bitI_e, bI0, bI1, jcp_n, jup_n]
/-- a town copied over another -/
theorem x_cpy {r t : Nat} (hrt : r + 9 ≤ t ∨ t + 9 ≤ r) (R : RC (jvw G t) a) (I : a.I) : Ok (p_X3_copyFrom N (jv2 G r 9 t)) (fun v => RC (jvw (jp2 G r 9 t 9 v) r) a ∧ ∀ c, (c < r ∨ r + 9 ≤ c) → jp2 G r 9 t 9 v c = G c) := by
  have R2 : RC (jvw (jv2 G r 9 t) 9) a := R.cg (fun c hc => by
    show jv2 G r 9 t (9 + c) = G (t + c)
    unfold jv2
    rw [if_neg (by omega), Nat.add_sub_cancel_left])
  refine (c_copyKeep (c_copyFrom R2 I)).c ?_
  intro v hv
  refine ⟨hv.1.cg (fun c hc => ?_), fun c hc => ?_⟩
  · show jp2 G r 9 t 9 v (r + c) = v c
    unfold jp2
    rw [jpt_o (by omega), jpt_i hc]
  · unfold jp2
    by_cases h : t ≤ c ∧ c < t + 9
    · obtain ⟨d, rfl⟩ : ∃ d, c = t + d := ⟨c - t, by omega⟩
      rw [jpt_i (by omega), hv.2 (9 + d) (by omega)]
      unfold jv2
      rw [if_neg (by omega), Nat.add_sub_cancel_left]
    · rw [jpt_o (by omega), jpt_o hc]
theorem nar1 : vp_nar .boolean 1 = 1 := by decide
theorem CX.setIm (X : CX G J s) {q : Nat} (hq : q < 3) (h : ∀ c, (c < 35 + 9 * q ∨ 35 + 9 * q + 9 ≤ c) → c ≠ 20 → G2 c = G c) (h20 : G2 20 = upd (G 20) q 1) (R : RC (jvw G2 (35 + 9 * q)) a) : CX G2 J (s.setIm q a) := by
  refine ⟨X.now.cg (fun c hc => h (1 + c) (by omega) (by omega)), ?_, ?_, ?_, ?_, ?_, ?_, ?_, ?_⟩
  · intro i hi
    show G2 20 i = bI (if i = q then some a else s.im i).isSome
    rw [h20, upd_i]
    by_cases e : i = q
    · rw [if_pos e, if_pos e]; rfl
    · rw [if_neg e, if_neg e]; exact X.imB i hi
  · intro i b hi hb
    have hb2 : (if i = q then some a else s.im i) = some b := hb
    by_cases e : i = q
    · subst e
      rw [if_pos rfl] at hb2
      cases hb2
      exact R
    · rw [if_neg e] at hb2
      exact (X.imR i b hi hb2).cg (fun c hc => h (35 + 9 * i + c) (by omega) (by omega))
  · rw [h 22 (by omega) (by omega)]; exact X.ln
  · rw [h 22 (by omega) (by omega)]; exact X.wr
  · rw [h 22 (by omega) (by omega)]; exact X.pl
  · rw [h 23 (by omega) (by omega)]; exact X.tp
  · intro i hi hn; rw [h (62 + 2 * i) (by omega) (by omega)]; exact X.trN i hi hn
  · intro i so m r hi hn; rw [h (62 + 2 * i) (by omega) (by omega)]; exact X.trS i so m r hi hn
theorem x_imgB (X : CX G J s) (I : s.I) {q r : Nat} (hq : q < 3) (hr : r = 35 + 9 * q) : Ok ((p_X3_copyFrom N (jv2 G r 9 1)).bind (fun v5 => jlt (jp2 G r 9 1 9 v5) fun G6 => if jin (nI q) 3 = true then jlt (jup G6 20 (nI q).toNatClampNeg (vp_nar .boolean (1 : Int32))) fun G9 => some (Sum.inr G9 : Nat ⊕ (Nat → Nat → Int32)) else none)) (fun o => ∃ G2, o = .inr G2 ∧ CX G2 J (s.setIm q s.now)) := by
  subst hr
  refine Ok.b (x_cpy (Or.inr (by omega)) X.now I.now) ?_
  rintro v ⟨v1, v2⟩
  rw [jlt_eq]
  generalize jp2 G (35 + 9 * q) 9 1 9 v = G6 at v1 v2 ⊢
  simp (disch := omega) only [Option.bind_some, jlt_eq, ↓reduceIte, eq_self, jinT, zleT, zleF, zltT, zltF, zeq, zpos, zpos', zcl, zm6, z6, z84, z24, z14, z8, nI_add, zd0, zd1, zd2, zd3, zd4, zd5, bitI_e, bI0, bI1]
  rw [nar1]
  refine Ok.s ⟨_, rfl, X.setIm hq ?_ ?_ ?_⟩
  · intro c hc c20; rw [jup_n _ _ c20, v2 c hc]
  · rw [jup_s, v2 20 (by omega)]
  · exact v1.cg (fun c hc => by
      show jup G6 20 q 1 (35 + 9 * q + c) = G6 (35 + 9 * q + c)
      rw [jup_n _ _ (by omega)])
theorem x_needI {q : Nat} (hq : q < 3) : p_X5_needImage N G J (nI q) = some (.inr ()) := by
  have e : (3 : Int32) = nI 3 := by decide
  unfold p_X5_needImage
  rw [e, if_neg (nI_pos (by omega)), if_pos (nI_lt hq (by omega))]
theorem x_needIf {x : Int32} (h : ¬ ∃ q, q < 3 ∧ x = nI q) : p_X5_needImage N G J x = some (.inl 1) := by
  have e : (3 : Int32) = nI 3 := by decide
  unfold p_X5_needImage p_X5_needImage_b9
  rcases z_cases x with hx | ⟨q, hq, rfl⟩
  · rw [if_pos hx]
  · rw [if_neg (nI_pos hq), e, if_neg (nI_nlt (Nat.le_of_not_lt (fun h2 => h ⟨q, h2, rfl⟩)) hq)]
theorem x_image (X : CX G J s) (I : s.I) {q : Nat} (hq : q < 3) : Ok (p_X5_image N G J (nI q)) (fun o => ∃ G2, o = .inr G2 ∧ CX G2 J (s.setIm q s.now)) := by
  unfold p_X5_image
  rw [x_needI hq, jbx_r, if_pos (jinT hq (by omega)), zcl (by omega)]
  rcases (by omega : q = 0 ∨ q = 1 ∨ q = 2) with h | h | h
  · subst h
    rw [if_pos rfl]
    exact x_imgB X I (q := 0) (by omega) rfl
  · subst h
    rw [if_neg (by decide), if_pos rfl]
    exact x_imgB X I (q := 1) (by omega) rfl
  · subst h
    rw [if_neg (by decide), if_neg (by decide), if_pos rfl]
    exact x_imgB X I (q := 2) (by omega) rfl
theorem z264 (q k : Nat) : (264 : Int32) * nI q + nI k = nI (264 * q + k) := by
  have e : (264 : Int32) = nI 264 := by decide
  rw [e, pk_mul, nI_add]
theorem m_img (hN : 2000 ≤ N) {q : Nat} (hq : q < 3) : Ok (p_X6_image_b38 N J N G (nI q) 0) (fun r => (∀ c, c ≠ 4 → r c = G c) ∧ (∀ k, k < 264 → r 4 (264 * q + k) = G 1 k) ∧ ∀ k, (k < 264 * q ∨ 264 * q + 264 ≤ k) → r 4 k = G 4 k) := by
  have e264 : (264 : Int32) = nI 264 := by decide
  refine Ok.l2 (fun n (g1 : Nat → Nat → Int32) x => p_X6_image_b38 N J n g1 (nI q) x) _ (fun j g1 x => ∃ k, k + j = 264 ∧ x = nI k ∧ (∀ c, c ≠ 4 → g1 c = G c) ∧ (∀ i, i < k → g1 4 (264 * q + i) = G 1 i) ∧ ∀ i, (i < 264 * q ∨ 264 * q + 264 ≤ i) → g1 4 i = G 4 i) ?_ N 264 G 0 (by omega) ⟨0, by omega, nI_0.symm, fun _ _ => rfl, fun i hi => absurd hi (Nat.not_lt_zero _), fun _ _ => rfl⟩
  intro j g1 x n hs ih
  obtain ⟨k, hk, hx, hg, hi, ho⟩ := hs
  subst hx
  rw [p_X6_image_b38, z264]
  by_cases h : k = 264
  · subst h
    rw [if_pos (by decide)]
    exact Ok.s ⟨hg, hi, ho⟩
  · rw [if_neg (by rw [e264]; exact nI_ge (by omega) (by omega))]
    simp (disch := omega) only [Option.bind_some, jlt_eq, ↓reduceIte, eq_self, jinT, zleT, zleF, zltT, zltF, zeq, zpos, zpos', zcl, zm6, z6, z84, z24, z14, z8, nI_add, zd0, zd1, zd2, zd3, zd4, zd5, bitI_e, bI0, bI1]
    refine ih _ _ (j - 1) (by omega) ⟨k + 1, by omega, rfl, ?_, ?_, ?_⟩
    · intro c hc
      rw [jup_n _ _ hc, hg c hc]
    · intro i h2
      rw [jup_s, upd_i]
      by_cases h3 : i = k
      · rw [if_pos (by omega), h3, hg 1 (by decide)]
      · rw [if_neg (by omega), hi i (by omega)]
    · intro i h2
      rw [jup_s, upd_n _ _ (by omega), ho i h2]
theorem m_rst (hN : 2000 ≤ N) {q : Nat} (hq : q < 3) : Ok (p_X6_restore_b44 N J N G (nI q) 0) (fun r => (∀ c, c ≠ 1 → r c = G c) ∧ ∀ k, k < 264 → r 1 k = G 4 (264 * q + k)) := by
  have e264 : (264 : Int32) = nI 264 := by decide
  refine Ok.l2 (fun n (g1 : Nat → Nat → Int32) x => p_X6_restore_b44 N J n g1 (nI q) x) _ (fun j g1 x => ∃ k, k + j = 264 ∧ x = nI k ∧ (∀ c, c ≠ 1 → g1 c = G c) ∧ ∀ i, i < k → g1 1 i = G 4 (264 * q + i)) ?_ N 264 G 0 (by omega) ⟨0, by omega, nI_0.symm, fun _ _ => rfl, fun i hi => absurd hi (Nat.not_lt_zero _)⟩
  intro j g1 x n hs ih
  obtain ⟨k, hk, hx, hg, hi⟩ := hs
  subst hx
  rw [p_X6_restore_b44, z264]
  by_cases h : k = 264
  · subst h
    rw [if_pos (by decide)]
    exact Ok.s ⟨hg, hi⟩
  · rw [if_neg (by rw [e264]; exact nI_ge (by omega) (by omega))]
    simp (disch := omega) only [Option.bind_some, jlt_eq, ↓reduceIte, eq_self, jinT, zleT, zleF, zltT, zltF, zeq, zpos, zpos', zcl, zm6, z6, z84, z24, z14, z8, nI_add, zd0, zd1, zd2, zd3, zd4, zd5, bitI_e, bI0, bI1]
    refine ih _ _ (j - 1) (by omega) ⟨k + 1, by omega, rfl, ?_, ?_⟩
    · intro c hc
      rw [jup_n _ _ hc, hg c hc]
    · intro i h2
      rw [jup_s, upd_i]
      by_cases h3 : i = k
      · rw [if_pos h3, h3, hg 4 (by decide)]
      · rw [if_neg h3, hi i (by omega)]
theorem k_I (hL : LR G J s) {o : Option (Nat ⊕ (Nat → Nat → Int32))} {cf : Nat → Option (Int32 × (Nat → Nat → Int32))} {m : (Nat → Nat → Int32) → Option (Nat → Nat → Int32)} (k : Int32) (s2 : SA) (hI : s2.I) (h : (∃ G1, o = some (.inr G1) ∧ k = 0 ∧ CX G1 (jvw (jv2 J 0 70 85) 0) s2) ∨ ∃ c, o = some (.inl c) ∧ cf c = some (k, jv2 G 0 70 85) ∧ s2 = s) (hm : ∀ g, CM g (jvw J 70) s → Ok (m g) (fun r => r 0 5 = k ∧ CM r (jvw J 70) s2)) : Ok ((jbh o (fun v1 => some ((0 : Int32), (jpt (jv2 G 0 70 85) 0 70 v1))) cf).bind (fun v1 => jlt (jp2 G 0 70 85 1 v1.2) fun G3 => (m (jvw G3 70)).bind (fun v5 => jlt (jpt G3 70 15 v5) fun G7 => (p_X6_thrown N (jvw G7 70) (jvw J 70)).bind (fun v9 => if v9 = v1.1 then (some (G7, J)) else (none))))) (fun r => ∃ s, LR r.1 r.2 s) := by
  obtain ⟨hX, hM, hI0⟩ := hL
  have go : ∀ G1, CX (jvw G1 0) (jvw (jv2 J 0 70 85) 0) s2 → Ok ((some (k, G1)).bind (fun v1 => jlt (jp2 G 0 70 85 1 v1.2) fun G3 => (m (jvw G3 70)).bind (fun v5 => jlt (jpt G3 70 15 v5) fun G7 => (p_X6_thrown N (jvw G7 70) (jvw J 70)).bind (fun v9 => if v9 = v1.1 then (some (G7, J)) else (none))))) (fun r => ∃ s, LR r.1 r.2 s) := by
    intro G1 h1
    rw [Option.bind_some, jlt_eq]
    have hX3 : CX (jvw (jp2 G 0 70 85 1 G1) 0) (jvw J 0) s2 := h1.cg (fun c hc => jp2_a (c := 0 + c) (by omega)) (fun c hc => (jv2_L (c := 0 + c) (by omega)).symm)
    have hM3 : CM (jvw (jp2 G 0 70 85 1 G1) 70) (jvw J 70) s := hM.cg (fun c hc => jp2_b (c := 70 + c) (by omega) (by omega)) rfl
    dsimp only
    generalize jp2 G 0 70 85 1 G1 = G3 at hX3 hM3 ⊢
    refine Ok.b (hm _ hM3) ?_
    rintro G5 ⟨g1, g2⟩
    have e : jvw (jpt G3 70 15 G5) 70 0 5 = k := by
      have : jvw (jpt G3 70 15 G5) 70 0 = G5 0 := jpt_i (c := 0) (by omega)
      rw [this]; exact g1
    rw [jlt_eq]
    unfold p_X6_thrown
    rw [Option.bind_some, if_pos e]
    exact Ok.s ⟨s2, LR.m hX3 hI g2 rfl⟩
  rcases h with ⟨G1, h1, h2, h3⟩ | ⟨c, h1, h3, h4⟩
  · rw [h1]
    subst h2
    exact go _ (h3.cg (fun c hc => jpt_i (b := 0) hc) (fun _ _ => rfl))
  · rw [h1]
    show Ok ((cf c).bind _) _
    rw [h3]
    subst h4
    exact go _ hX.w
theorem w_ix3 {q : Nat} (hq : q < 3) : p_X6_within N (nI q).toInt64 0 2 = some 1 := w_t (by rw [w_0, L2, w_n (by omega)]; omega)
theorem w_ix3f {x : Int32} (h : ¬ ∃ q, q < 3 ∧ x = nI q) : p_X6_within N x.toInt64 0 2 = some 0 := w_f (by
  rw [w_0, L2, Int32.toInt_toInt64]
  rintro ⟨h1, h2⟩
  exact h ⟨x.toInt.toNat, by omega, iiN (by omega) (by omega)⟩)
theorem case_43 (hN : 2000 ≤ N) (hL : LR G J s) : Ok (p_case_43 N xs G J i) (fun r => ∃ s, LR r.1 r.2 s) := by
  have X := hL.1.w
  unfold p_case_43 p_L_image
  generalize xs (i + 1).toNatClampNeg = x
  by_cases hx : ∃ q, q < 3 ∧ x = nI q
  · obtain ⟨q, hq, rfl⟩ := hx
    obtain ⟨o, e1, G1, e2, e3⟩ := x_image (N := N) X hL.2.2 hq
    refine k_I hL (m := fun g => p_X6_image N g (jvw J 70) (nI q)) 0 (s.setIm q s.now) (hL.2.2.setIm hL.2.2.now) (Or.inl ⟨G1, ?_, rfl, e3⟩) ?_
    · rw [e1, e2]
    · intro g M
      unfold p_X6_image p_X6_image_b18
      rw [w_ix3 hq, Option.bind_some, if_neg i10, jlt_eq, if_pos (by rw [e05]; decide), if_pos (jinT hq (by omega)), jlt_eq, zcl (by omega), nar1]
      refine (m_img hN hq).c ?_
      rintro r ⟨r1, r2, r3⟩
      have r0 : r 0 = jup g 0 5 0 0 := (r1 0 (by decide)).trans (jup_n _ _ (by decide))
      have r5 : r 5 = upd (g 5) q 1 := (r1 5 (by decide)).trans (by rw [jup_s, jup_n _ _ (by decide)])
      have rc : ∀ c, c ≠ 0 → c ≠ 4 → c ≠ 5 → r c = g c := fun c c0 c4 c5 => (r1 c c4).trans (by rw [jup_n _ _ c5, jup_n _ _ c0])
      have r4 : ∀ k, (k < 264 * q ∨ 264 * q + 264 ≤ k) → r 4 k = g 4 k := fun k hk => (r3 k hk).trans (by rw [jup_n _ _ (by decide), jup_n _ _ (by decide)])
      have r4i : ∀ k, k < 264 → r 4 (264 * q + k) = g 1 k := fun k hk => (r2 k hk).trans (by rw [jup_n _ _ (by decide), jup_n _ _ (by decide)])
      have I := hL.2.2
      refine ⟨by rw [r0, e05], ?_⟩
      refine ⟨by rw [rc 1 (by decide) (by decide) (by decide)]; exact M.now, ?_, ?_, ?_, ?_, ?_, ?_, ?_, ?_⟩
      · intro i hi
        show r 5 i = bI (if i = q then some s.now else s.im i).isSome
        rw [r5, upd_i]
        by_cases e : i = q
        · rw [if_pos e, if_pos e]; rfl
        · rw [if_neg e, if_neg e]; exact M.imB i hi
      · intro i b hi hb
        have hb2 : (if i = q then some s.now else s.im i) = some b := hb
        by_cases e : i = q
        · subst e
          rw [if_pos rfl] at hb2
          cases hb2
          exact M.now.cg I.now (fun k hk => r4i k hk)
        · rw [if_neg e] at hb2
          exact (M.imR i b hi hb2).cg (I.im i b hb2) (fun k hk => r4 _ (by omega))
      · rw [r0, jup_s, upd_n _ _ (by decide)]; exact M.ln
      · rw [r0, jup_s, upd_n _ _ (by decide)]; exact M.wr
      · rw [r0, jup_s, upd_n _ _ (by decide)]; exact M.pl
      · rw [rc 6 (by decide) (by decide) (by decide)]; exact M.tp
      · rw [rc 12 (by decide) (by decide) (by decide)]; exact M.trN
      · rw [rc 12 (by decide) (by decide) (by decide), rc 13 (by decide) (by decide) (by decide)]; exact M.trS
  · refine k_I hL (m := fun g => p_X6_image N g (jvw J 70) x) 1 s hL.2.2 (Or.inr ⟨1, ?_, rfl, rfl⟩) ?_
    · unfold p_X5_image
      rw [x_needIf hx, jbx_l]
    · intro g M
      unfold p_X6_image p_X6_image_b18
      rw [w_ix3f hx, Option.bind_some, if_pos rfl, jlt_eq, if_neg (by rw [e05]; decide)]
      exact Ok.s ⟨e05 1, M.k (thrR M.now 1) (KM.thr 1) rfl (SA.eta s)⟩
theorem x_rstB (X : CX G J s) {q r : Nat} (hq : q < 3) (hr : r = 35 + 9 * q) (hs : s.im q = some a) (I : a.I) : Ok ((p_X3_copyFrom N (jv2 G 1 9 r)).bind (fun v6 => jlt (jp2 G 1 9 r 9 v6) fun G7 => some (Sum.inr G7 : Nat ⊕ (Nat → Nat → Int32)))) (fun o => ∃ G2, o = .inr G2 ∧ CX G2 J (s.to a)) := by
  subst hr
  refine Ok.b (x_cpy (Or.inl (by omega)) (X.imR q a hq hs) I) ?_
  rintro v ⟨v1, v2⟩
  rw [jlt_eq]
  refine Ok.s ⟨_, rfl, X.k v1 ⟨fun i _ => by rw [v2 22 (by omega)], fun c hc => v2 c (by omega)⟩ (fun _ _ => rfl) rfl⟩
theorem case_44 (hN : 2000 ≤ N) (hL : LR G J s) : Ok (p_case_44 N xs G J i) (fun r => ∃ s, LR r.1 r.2 s) := by
  have X := hL.1.w
  unfold p_case_44 p_L_restore
  generalize xs (i + 1).toNatClampNeg = x
  by_cases hx : ∃ q, q < 3 ∧ x = nI q
  · obtain ⟨q, hq, rfl⟩ := hx
    have b20 : jvw (jv2 G 0 70 85) 0 20 q = bI (s.im q).isSome := X.imB q hq
    cases hs : s.im q with
    | none =>
      rw [hs] at b20
      refine k_I hL (m := fun g => p_X6_restore N g (jvw J 70) (nI q)) 2 s hL.2.2 (Or.inr ⟨2, ?_, rfl, rfl⟩) ?_
      · unfold p_X5_restore
        rw [x_needI hq, jbx_r, if_pos (jinT hq (by omega)), zcl (by omega), b20]
        rfl
      · intro g M
        have b5 : g 5 q = bI (s.im q).isSome := M.imB q hq
        rw [hs] at b5
        unfold p_X6_restore p_X6_restore_b31
        rw [w_ix3 hq, Option.bind_some, if_neg i10, if_pos (jinT hq (by omega)), zcl (by omega), b5, if_pos (by decide), jlt_eq, if_neg (by rw [e05]; decide)]
        exact Ok.s ⟨e05 2, M.k (thrR M.now 2) (KM.thr 2) rfl (SA.eta s)⟩
    | some a =>
      rw [hs] at b20
      have Ia := hL.2.2.im q a hs
      have key : Ok (p_X5_restore N (jvw (jv2 G 0 70 85) 0) (jvw (jv2 J 0 70 85) 0) (nI q)) (fun o => ∃ G2, o = .inr G2 ∧ CX G2 (jvw (jv2 J 0 70 85) 0) (s.to a)) := by
        unfold p_X5_restore
        rw [x_needI hq, jbx_r, if_pos (jinT hq (by omega)), zcl (by omega), b20, if_neg (show ¬ bI (some a).isSome = 0 from i10), if_pos (jinT hq (by omega))]
        rcases (by omega : q = 0 ∨ q = 1 ∨ q = 2) with h | h | h
        · subst h
          rw [if_pos rfl]
          exact x_rstB X (q := 0) (by omega) rfl hs Ia
        · subst h
          rw [if_neg (by decide), if_pos rfl]
          exact x_rstB X (q := 1) (by omega) rfl hs Ia
        · subst h
          rw [if_neg (by decide), if_neg (by decide), if_pos rfl]
          exact x_rstB X (q := 2) (by omega) rfl hs Ia
      obtain ⟨o, e1, G1, e2, e3⟩ := key
      refine k_I hL (m := fun g => p_X6_restore N g (jvw J 70) (nI q)) 0 (s.to a) (hL.2.2.to Ia) (Or.inl ⟨G1, ?_, rfl, e3⟩) ?_
      · rw [e1, e2]
      · intro g M
        have b5 : g 5 q = bI (s.im q).isSome := M.imB q hq
        rw [hs] at b5
        unfold p_X6_restore p_X6_restore_b31
        rw [w_ix3 hq, Option.bind_some, if_neg i10, if_pos (jinT hq (by omega)), zcl (by omega), b5, if_neg (show ¬ bI (some a).isSome = 0 from i10), jlt_eq, if_pos (by rw [e05]; decide)]
        refine (m_rst hN hq).c ?_
        rintro r ⟨r1, r2⟩
        refine ⟨by rw [r1 0 (by decide), e05], M.k ?_ ((KM.thr 0).trans (KM.of1 r1)) rfl rfl⟩
        exact (M.imR q a hq hs).cg Ia (fun k hk => (r2 k hk).trans (by rw [jup_n _ _ (by decide)]))
  · refine k_I hL (m := fun g => p_X6_restore N g (jvw J 70) x) 1 s hL.2.2 (Or.inr ⟨1, ?_, rfl, rfl⟩) ?_
    · unfold p_X5_restore
      rw [x_needIf hx, jbx_l]
    · intro g M
      unfold p_X6_restore p_X6_restore_b31
      rw [w_ix3f hx, Option.bind_some, if_pos rfl, jlt_eq, if_neg (by rw [e05]; decide)]
      exact Ok.s ⟨e05 1, M.k (thrR M.now 1) (KM.thr 1) rfl (SA.eta s)⟩
end images

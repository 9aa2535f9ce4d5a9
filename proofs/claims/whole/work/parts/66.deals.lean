/-! eat, sell, undo -/
section deals
variable {N : Nat} {G G2 : Nat → Nat → Int32} {J J2 : Nat → Nat → Int64} {a : TA} {s s2 : SA} {xs : Nat → Int32} {i : Int32}
theorem m_whyS (R : RM (G 1) a) (I : a.I) {t to : Nat} {x : Int32} (ht : t < a.nt) (hto : to < a.np) : p_X6_whyNoSale N G J (nI t) (nI to) x = some (a.whyS t to x) := by
  have h1 := I.nt
  have h2 := I.np
  have h3 := I.ho t ht
  have h4 := I.nd
  have e30 : (30 : Int32) = nI 30 := by decide
  have tx : x.toInt64.toInt = x.toInt := Int32.toInt_toInt64 x
  have L9999 : (9999 : Int64).toInt = 9999 := by decide
  have e0 : (x < 0) = (x.toInt < 0) := propext (Int32.lt_iff_toInt_lt.trans (by rfl))
  have e9 : (x ≤ 9999) = (x.toInt ≤ 9999) := propext (Int32.le_iff_toInt_le.trans (by rfl))
  unfold p_X6_whyNoSale TA.whyS
  rw [m_isTt R I ht, Option.bind_some, if_neg i10, m_isPt R I hto, Option.bind_some, if_neg i10]
  simp (disch := omega) only [Option.bind_some, jlt_eq, ↓reduceIte, eq_self, jinT, zleT, zleF, zltT, zltF, zeq, zpos, zpos', zcl, zm6, z6, z84, z24, z14, z8, nI_add, zd0, zd1, zd2, zd3, zd4, zd5, bitI_e, bI0, bI1, R.ho t ht, R.co to, m_hasRung R, m_isEaten R, R.nd, e30]
  by_cases h : a.ho t = to
  · rw [if_pos h, if_pos h]
  · rw [if_neg h, if_neg h]
    by_cases h5 : x < 0
    · rw [if_pos h5, w_f (by rw [w_0, tx]; rw [e0] at h5; omega)]; rfl
    · rw [if_neg h5]
      by_cases h6 : x ≤ 9999
      · rw [if_pos h6, w_t (by rw [w_0, L9999, tx]; rw [e0] at h5; rw [e9] at h6; omega), Option.bind_some, if_neg i10]
        by_cases h7 : x ≤ a.co to
        · rw [if_pos h7, if_pos h7]
          by_cases h8 : a.nd = 30
          · have h9 : ¬ a.nd < 30 := by omega
            cases a.rung <;> cases a.eat t <;> simp only [h8, Nat.lt_irrefl, Bool.false_eq_true, Bool.true_eq_false, ↓reduceIte]
          · have h9 : a.nd < 30 := by omega
            cases a.rung <;> cases a.eat t <;> simp only [h8, h9, Bool.false_eq_true, Bool.true_eq_false, ↓reduceIte]
        · rw [if_neg h7, if_neg h7]
      · rw [if_neg h6, w_f (by rw [w_0, L9999, tx]; rw [e9] at h6; omega)]; rfl
theorem m_whyS1 (R : RM (G 1) a) (I : a.I) {x y z : Int32} (h : ¬ ∃ t to : Nat, t < a.nt ∧ to < a.np ∧ x = nI t ∧ y = nI to) : p_X6_whyNoSale N G J x y z = some 1 := by
  unfold p_X6_whyNoSale
  by_cases hx : ∃ p, p < a.nt ∧ x = nI p
  · obtain ⟨t, ht, rfl⟩ := hx
    rw [m_isTt R I ht, Option.bind_some, if_neg i10, m_isPf R I (fun ⟨p, hp, e⟩ => h ⟨t, p, ht, hp, rfl, e⟩)]; rfl
  · rw [m_isTf R I hx]; rfl
theorem whyS0 {t to : Nat} {x : Int32} (h : a.whyS t to x = 0) : a.ho t ≠ to ∧ (0 ≤ x.toInt ∧ x.toInt ≤ 9999) ∧ a.nd < 30 := by
  have e0 : (x < 0) = (x.toInt < 0) := propext (Int32.lt_iff_toInt_lt.trans (by rfl))
  have e9 : (x ≤ 9999) = (x.toInt ≤ 9999) := propext (Int32.le_iff_toInt_le.trans (by rfl))
  unfold TA.whyS at h
  by_cases h1 : a.ho t = to
  · rw [if_pos h1] at h; exact absurd h (by decide)
  rw [if_neg h1] at h
  by_cases h2 : x < 0
  · rw [if_pos h2] at h; exact absurd h (by decide)
  rw [if_neg h2] at h
  by_cases h3 : x ≤ 9999
  · rw [if_pos h3] at h
    by_cases h4 : x ≤ a.co to
    · rw [if_pos h4] at h
      rw [e0] at h2
      rw [e9] at h3
      refine ⟨h1, ⟨by omega, h3⟩, ?_⟩
      cases hr : a.rung
      · cases he : a.eat t
        · rw [hr, he] at h
          by_cases h5 : a.nd < 30
          · exact h5
          · rw [if_neg h5] at h; exact absurd h (by decide)
        · rw [hr, he] at h; exact absurd (show (5 : Int32) = 0 from h) (by decide)
      · rw [hr] at h; exact absurd (show (4 : Int32) = 0 from h) (by decide)
    · rw [if_neg h4] at h; exact absurd h (by decide)
  · rw [if_neg h3] at h; exact absurd h (by decide)
theorem case_9 (hN : 2000 ≤ N) (hL : LR G J s) : Ok (p_case_9 N xs G J i) (fun r => ∃ s, LR r.1 r.2 s) := by
  have X := hL.1
  have R := X.now
  have I := hL.2.2.now
  unfold p_case_9
  generalize xs (i + 1).toNatClampNeg = x
  generalize xs (i + 2).toNatClampNeg = y
  generalize xs (i + 3).toNatClampNeg = z
  by_cases h : ∃ t to : Nat, t < s.now.nt ∧ to < s.now.np ∧ x = nI t ∧ y = nI to
  · obtain ⟨t, to, ht, hto, rfl, rfl⟩ := h
    by_cases hw : s.now.whyS t to z = 0
    · obtain ⟨w1, w2, w3⟩ := whyS0 hw
      refine k_N hL (m := fun g => p_X6_sell N g (jvw J 70) (nI t) (nI to) z) (nI s.now.nd) (s.to (s.now.make t to z)) (hL.2.2.to (I.make ht hto w1 w2 w3)) ?_ ?_
      · unfold p_X5_sell
        rw [c_whyS R I ht hto, Option.bind_some, if_pos hw]
        refine Ok.b (c_make R I ht hto w1 w3) ?_
        rintro ⟨v, g⟩ ⟨h1, h2⟩
        exact Ok.s ⟨h1, X.town h2⟩
      · intro g M
        unfold p_X6_sell
        rw [jlt_eq, m_whyS (thrR M.now 0) I ht hto, Option.bind_some, if_pos hw]
        refine Ok.b (m_sells (thrR M.now 0) I ht hto w1 w3) ?_
        rintro ⟨v, g2⟩ ⟨h1, h2, h3⟩
        exact Ok.s ⟨h1, M.k h2 ((KM.thr 0).trans (KM.of1 h3)) rfl rfl⟩
    · refine k_N hL (m := fun g => p_X6_sell N g (jvw J 70) (nI t) (nI to) z) (-10 - s.now.whyS t to z) s hL.2.2 ?_ ?_
      · unfold p_X5_sell
        rw [c_whyS R I ht hto, Option.bind_some, if_neg hw]
        exact Ok.s ⟨rfl, X⟩
      · intro g M
        unfold p_X6_sell
        rw [jlt_eq, m_whyS (thrR M.now 0) I ht hto, Option.bind_some, if_neg hw]
        exact Ok.s ⟨rfl, M.k (thrR M.now 0) (KM.thr 0) rfl (SA.eta s)⟩
  · refine k_N hL (m := fun g => p_X6_sell N g (jvw J 70) x y z) (-10 - 1) s hL.2.2 ?_ ?_
    · unfold p_X5_sell
      rw [c_whyS1 R I h, Option.bind_some, if_neg i10]
      exact Ok.s ⟨rfl, X⟩
    · intro g M
      unfold p_X6_sell
      rw [jlt_eq, m_whyS1 (thrR M.now 0) I h, Option.bind_some, if_neg i10]
      exact Ok.s ⟨rfl, M.k (thrR M.now 0) (KM.thr 0) rfl (SA.eta s)⟩
theorem whyU0 {d p : Nat} (h : a.whyU d p = 0) : a.st d = true := by
  unfold TA.whyU at h
  cases hs : a.st d
  · rw [hs] at h; exact absurd (show (2 : Int32) = 0 from h) (by decide)
  · rfl
theorem case_12 (hN : 2000 ≤ N) (hL : LR G J s) : Ok (p_case_12 N xs G J i) (fun r => ∃ s, LR r.1 r.2 s) := by
  have X := hL.1.w
  have R := X.now
  have I := hL.2.2.now
  unfold p_case_12 p_L_undo
  generalize xs (i + 1).toNatClampNeg = x
  generalize xs (i + 2).toNatClampNeg = y
  by_cases hy : ∃ p, p < s.now.np ∧ y = nI p
  · obtain ⟨p, hp, rfl⟩ := hy
    by_cases hx : ∃ p, p < s.now.nd ∧ x = nI p
    · obtain ⟨d, hd, rfl⟩ := hx
      by_cases hw : s.now.whyU d p = 0
      · have hst := whyU0 hw
        obtain ⟨⟨v, g⟩, e1, e2, e3, _⟩ := c_fell hN R I hd hp
        refine k_M hL (m := fun g j => p_X6_undo N g j (nI d) (nI p)) 0 (pop (s.now.fb d)) (s.to (s.now.fell d p)) (hL.2.2.to (I.fell hd hst)) (Or.inl ⟨jpt (jvw (jv2 G 0 70 85) 0) 1 9 g, ?_, rfl, X.town e3⟩) ?_
        · unfold p_X5_undo
          have e4 : v = pop (s.now.fb d) := e2
          rw [x_needP R I hp, jbx_r, c_whyU hN R I hd hp, Option.bind_some, if_pos hw, e1, Option.bind_some, ← e4]
          rfl
        · intro g j M
          unfold p_X6_undo p_X6_undo_b14
          rw [m_isPt M.now I hp, Option.bind_some, if_neg i10, jlt_eq, if_pos (by rw [e05]; decide)]
          refine Ok.b (m_whyNot hN (thrR M.now 0) I hd hp rfl) ?_
          rintro ⟨v, G3⟩ ⟨h1, h2, h3⟩
          have h4 : v = 0 := h1.trans hw
          rw [jlt_eq, if_pos h4]
          refine Ok.b (m_undoes hN h2 I hd hp hst) ?_
          rintro ⟨w, G4⟩ ⟨h5, h6, h7⟩
          refine Ok.s ⟨fun _ => h5, ?_, M.k h6 (((KM.thr 0).trans (KM.of13 h3)).trans (KM.of1 h7)) rfl rfl⟩
          have e6 : G4 0 = jup g 0 5 0 0 := (h7 0 (by decide)).trans (h3 0 (by decide) (by decide))
          show G4 0 5 = 0
          rw [e6, e05]
      · refine k_M hL (m := fun g j => p_X6_undo N g j (nI d) (nI p)) 0 (-10 - s.now.whyU d p) s hL.2.2 (Or.inl ⟨jvw (jv2 G 0 70 85) 0, ?_, rfl, X⟩) ?_
        · unfold p_X5_undo
          rw [x_needP R I hp, jbx_r, c_whyU hN R I hd hp, Option.bind_some, if_neg hw]
        · intro g j M
          unfold p_X6_undo p_X6_undo_b14
          rw [m_isPt M.now I hp, Option.bind_some, if_neg i10, jlt_eq, if_pos (by rw [e05]; decide)]
          refine Ok.b (m_whyNot hN (thrR M.now 0) I hd hp rfl) ?_
          rintro ⟨v, G3⟩ ⟨h1, h2, h3⟩
          have h4 : v = s.now.whyU d p := h1
          subst h4
          rw [jlt_eq, if_neg hw]
          have b := MB.g (k := 0) (v := -10 - s.now.whyU d p) (fun _ => rfl) h2 h3
          exact Ok.s ⟨b.1, b.2.1, M.k b.2.2.2 b.2.2.1 rfl (SA.eta s)⟩
    · refine k_M hL (m := fun g j => p_X6_undo N g j x (nI p)) 0 (-10 - 1) s hL.2.2 (Or.inl ⟨jvw (jv2 G 0 70 85) 0, ?_, rfl, X⟩) ?_
      · unfold p_X5_undo
        rw [x_needP R I hp, jbx_r]
        have : p_X3_whyNoUndoing N (jvw (jvw (jv2 G 0 70 85) 0) 1) x (nI p) = some 1 := by
          rcases z_cases x with hx2 | ⟨d, hd, rfl⟩
          · exact c_whyUN hx2
          · exact c_whyU1 R I (Nat.le_of_not_lt (fun h => hx ⟨d, h, rfl⟩)) hd
        rw [this, Option.bind_some, if_neg i10]
      · intro g j M
        unfold p_X6_undo p_X6_undo_b14
        rw [m_isPt M.now I hp, Option.bind_some, if_neg i10, jlt_eq, if_pos (by rw [e05]; decide)]
        unfold p_X6_whyNot
        rw [m_isDf (thrR M.now 0) I hx, Option.bind_some, if_pos rfl, Option.bind_some, jlt_eq, if_neg i10]
        have b := MB.o (k := 0) (v := -10 - 1) M.now (fun _ => rfl)
        exact Ok.s ⟨b.1, b.2.1, M.k b.2.2.2 b.2.2.1 rfl (SA.eta s)⟩
  · refine k_M hL (m := fun g j => p_X6_undo N g j x y) 1 0 s hL.2.2 (Or.inr ⟨1, ?_, by decide, rfl, rfl⟩) ?_
    · unfold p_X5_undo
      rw [x_needPf R I hy, jbx_l]
    · intro g j M
      unfold p_X6_undo p_X6_undo_b14
      rw [m_isPf M.now I hy, Option.bind_some, if_pos rfl, jlt_eq, if_neg (by rw [e05]; decide)]
      have b := MB.o (k := 1) (v := 0) (w := 0) M.now (fun h => absurd h i10)
      exact Ok.s ⟨b.1, b.2.1, M.k b.2.2.2 b.2.2.1 rfl (SA.eta s)⟩
/-- eaten once more changes nothing -/
theorem eat_again {t : Nat} (ht : t < 32) (h : a.eat t = true) : a.ea ||| bitI t = a.ea := by
  apply b_ext
  intro q hq
  rw [b_or, bt_bit ht hq]
  by_cases e : q = t
  · subst e
    have : bt a.ea q = true := h
    rw [this]; rfl
  · rw [decide_eq_false e, Bool.or_false]
theorem x_eat (R : RC (jvw G 1) a) (I : a.I) {t : Nat} (ht : t < a.nt) : p_X5_eat N G J (nI t) = some (.inr (bI (!a.eat t), jup G 1 3 (a.ea ||| bitI t))) := by
  have h1 := I.nt
  have e3 : G 1 3 = a.ea := R.ea
  unfold p_X5_eat p_X5_eat_b21
  rw [x_needT R I ht, jbx_r, c_isEaten R (by omega), Option.bind_some, e3, bitI_e]
  cases a.eat t <;> rfl
theorem CX.eat (X : CX G J s) {t : Nat} : CX (jup G 1 3 (s.now.ea ||| bitI t)) J (s.to (s.now.set5 (s.now.ea ||| bitI t) s.now.sh s.now.mi)) := by
  have R := X.now
  refine X.k ?_ (KX.up (by omega)) (fun _ _ => rfl) rfl
  rw [jvw_up 1 0]
  refine R.set5 ?_ ?_ ?_ ?_ ?_
  · rw [jup_s, upd_s]
  · rw [jup_s, upd_n _ _ (by decide)]; exact R.sh
  · rw [jup_s, upd_n _ _ (by decide)]; exact R.mi
  · intro k h3 _ _; rw [jup_s, upd_n _ _ h3]
  · intro c hc _; rw [jup_n _ _ (by omega)]
theorem m_eat (M : CM G J s) (I : s.I) {t : Nat} (ht : t < s.now.nt) : Ok (p_X6_eat N G J (nI t)) (fun r => r.1 = bI (!s.now.eat t) ∧ r.2 0 5 = 0 ∧ CM r.2 J (s.to (s.now.set5 (s.now.ea ||| bitI t) s.now.sh s.now.mi))) := by
  have h1 := I.now.nt
  unfold p_X6_eat p_X6_eat_b14
  have m3 : jup G 0 5 0 1 3 = s.now.ea := by rw [jup_n _ _ (by decide)]; exact M.now.ea
  rw [m_isTt M.now I.now ht, Option.bind_some, if_neg i10, jlt_eq, if_neg (by rw [e05]; decide), m_isEaten (thrR M.now 0) (by omega), Option.bind_some, m3, bitI_e]
  cases he : s.now.eat t
  · rw [bI_f, if_pos rfl, jlt_eq]
    refine Ok.s ⟨rfl, ?_, ?_⟩
    · dsimp only
      rw [jup_n _ _ (by decide), e05]
    · refine M.k ?_ ((KM.thr 0).trans (KM.of1 (fun c hc => jup_n _ _ hc))) rfl rfl
      dsimp only
      rw [jup_s, jup_n _ _ (by decide)]
      refine M.now.set5 ?_ ?_ ?_ ?_
      · rw [upd_s]
      · rw [upd_n _ _ (by decide)]; exact M.now.sh
      · rw [upd_n _ _ (by decide)]; exact M.now.mi
      · intro k h3 _ _; rw [upd_n _ _ h3]
  · rw [bI_t, if_neg i10]
    refine Ok.s ⟨rfl, e05 (G := G) 0, M.k ?_ (KM.thr 0) rfl rfl⟩
    rw [eat_again (by omega) he]
    exact thrR M.now 0
theorem case_6 (hN : 2000 ≤ N) (hL : LR G J s) : Ok (p_case_6 N xs G J i) (fun r => ∃ s, LR r.1 r.2 s) := by
  have X := hL.1.w
  have R := X.now
  have I := hL.2.2.now
  have hM := hL.2.1
  unfold p_case_6 p_L_eat
  generalize xs (i + 1).toNatClampNeg = x
  by_cases hx : ∃ p, p < s.now.nt ∧ x = nI p
  · obtain ⟨t, ht, rfl⟩ := hx
    have hI : (s.to (s.now.set5 (s.now.ea ||| bitI t) s.now.sh s.now.mi)).I := hL.2.2.to (I.set5 I.sh I.mi)
    rw [x_eat R I ht]
    have tail : ∀ w : Int64, (w = if s.now.eat t = true then 0 else 1) → Ok ((some ((0 : Int32), jpt (jv2 G 0 70 85) 0 70 (jup (jvw (jv2 G 0 70 85) 0) 1 3 (s.now.ea ||| bitI t)), jupL (jv2 J 0 70 85) 70 0 w)).bind (fun v1 => jlt (jp2 G 0 70 85 1 v1.2.1) fun G3 => jlt (jp2 J 0 70 85 1 v1.2.2) fun J5 => (p_X6_eat N (jvw G3 70) (jvw J5 70) (nI t)).bind (fun v7 => jlt (jpt G3 70 15 v7.2) fun G9 => (p_X6_thrown N (jvw G9 70) (jvw J5 70)).bind (fun v11 => if v11 = v1.1 then (if v1.1 = 0 then (if v7.1 = 0 then (if (lg_cmp (J5 85 0) (0 : Int64)) = 0 then (some (G9, J5)) else (none)) else (if (lg_cmp (J5 85 0) (1 : Int64)) = 0 then (some (G9, J5)) else (none))) else (some (G9, J5))) else (none))))) (fun r => ∃ s, LR r.1 r.2 s) := by
      intro w hw
      rw [Option.bind_some, jlt_eq, jlt_eq]
      dsimp only
      have hX3 : CX (jvw (jp2 G 0 70 85 1 (jpt (jv2 G 0 70 85) 0 70 (jup (jvw (jv2 G 0 70 85) 0) 1 3 (s.now.ea ||| bitI t)))) 0) (jvw (jp2 J 0 70 85 1 (jupL (jv2 J 0 70 85) 70 0 w)) 0) (s.to (s.now.set5 (s.now.ea ||| bitI t) s.now.sh s.now.mi)) := by
        refine (X.eat (t := t)).cg (fun c hc => ?_) (fun c hc => ?_)
        · exact (jp2_a (c := 0 + c) (by omega)).trans (jpt_i (b := 0) hc)
        · refine (jp2_a (c := 0 + c) (by omega)).trans ?_
          rw [jupL_n _ _ (by omega)]; rfl
      have hM3 : CM (jvw (jp2 G 0 70 85 1 (jpt (jv2 G 0 70 85) 0 70 (jup (jvw (jv2 G 0 70 85) 0) 1 3 (s.now.ea ||| bitI t)))) 70) (jvw (jp2 J 0 70 85 1 (jupL (jv2 J 0 70 85) 70 0 w)) 70) s := hM.cg (fun c hc => jp2_b (c := 70 + c) (by omega) (by omega)) (jp2_b (c := 84) (by omega) (by omega))
      have h85 : jp2 J 0 70 85 1 (jupL (jv2 J 0 70 85) 70 0 w) 85 0 = w := by
        rw [jp2_c, jupL_s]; exact pk_uLs
      generalize jp2 G 0 70 85 1 (jpt (jv2 G 0 70 85) 0 70 (jup (jvw (jv2 G 0 70 85) 0) 1 3 (s.now.ea ||| bitI t))) = G3 at hX3 hM3 ⊢
      generalize jp2 J 0 70 85 1 (jupL (jv2 J 0 70 85) 70 0 w) = J5 at hX3 hM3 h85 ⊢
      refine Ok.b (m_eat hM3 hL.2.2 ht) ?_
      rintro ⟨v, G5⟩ ⟨g1, g2, g3⟩
      have g4 : v = bI (!s.now.eat t) := g1
      subst g4
      have e : jvw (jpt G3 70 15 G5) 70 0 5 = 0 := by
        have : jvw (jpt G3 70 15 G5) 70 0 = G5 0 := jpt_i (c := 0) (by omega)
        rw [this]; exact g2
      rw [jlt_eq]
      unfold p_X6_thrown
      rw [Option.bind_some, if_pos e, if_pos rfl, h85, hw]
      have hR := LR.m hX3 hI g3 (J := J5) rfl
      cases s.now.eat t
      · exact Ok.s ⟨_, hR⟩
      · exact Ok.s ⟨_, hR⟩
    cases he : s.now.eat t
    · exact tail 1 (by rw [he]; rfl)
    · exact tail 0 (by rw [he]; rfl)
  · have e1 : p_X5_eat N (jvw (jv2 G 0 70 85) 0) (jvw (jv2 J 0 70 85) 0) x = some (.inl 1) := by
      unfold p_X5_eat
      rw [x_needTf R I hx, jbx_l]
    rw [e1]
    show Ok ((some ((1 : Int32), jv2 G 0 70 85, jv2 J 0 70 85)).bind _) _
    rw [Option.bind_some, jlt_eq, jlt_eq]
    dsimp only
    have hX3 : CX (jvw (jp2 G 0 70 85 1 (jv2 G 0 70 85)) 0) (jvw (jp2 J 0 70 85 1 (jv2 J 0 70 85)) 0) s := X.cg (fun c hc => jp2_a (c := 0 + c) (by omega)) (fun c hc => jp2_a (c := 0 + c) (by omega))
    have hM3 : CM (jvw (jp2 G 0 70 85 1 (jv2 G 0 70 85)) 70) (jvw (jp2 J 0 70 85 1 (jv2 J 0 70 85)) 70) s := hM.cg (fun c hc => jp2_b (c := 70 + c) (by omega) (by omega)) (jp2_b (c := 84) (by omega) (by omega))
    generalize jp2 G 0 70 85 1 (jv2 G 0 70 85) = G3 at hX3 hM3 ⊢
    generalize jp2 J 0 70 85 1 (jv2 J 0 70 85) = J5 at hX3 hM3 ⊢
    unfold p_X6_eat p_X6_eat_b14
    rw [m_isTf hM3.now I hx, Option.bind_some, if_pos rfl, jlt_eq, if_pos (by rw [e05]; decide), Option.bind_some, jlt_eq]
    dsimp only
    have e : jvw (jpt G3 70 15 (jup (jvw G3 70) 0 5 1)) 70 0 5 = 1 := by
      have : jvw (jpt G3 70 15 (jup (jvw G3 70) 0 5 1)) 70 0 = jup (jvw G3 70) 0 5 1 0 := jpt_i (c := 0) (by omega)
      rw [this, e05]
    unfold p_X6_thrown
    rw [Option.bind_some, if_pos e, if_neg i10]
    exact Ok.s ⟨s, LR.m hX3 hL.2.2 (hM3.k (J2 := jvw J5 70) (thrR hM3.now 1) (KM.thr 1) rfl (SA.eta s)) rfl⟩
end deals

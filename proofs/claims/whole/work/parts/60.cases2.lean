/-! the calls that only answer: more -/
section cases2
variable {N : Nat} {G : Nat → Nat → Int32} {J : Nat → Nat → Int64} {a : TA} {s : SA} {xs : Nat → Int32} {i : Int32}
theorem e05 (k : Int32) : jup G 0 5 k 0 5 = k := by rw [jup_s, upd_s]
theorem case_2 (hL : LR G J s) : Ok (p_case_2 N xs G J i) (fun r => ∃ s, LR r.1 r.2 s) := by
  have X := hL.1
  have M := hL.2.1
  unfold p_case_2 p_X5_fault p_X6_fault
  generalize xs (i + 1).toNatClampNeg = x
  have x1 : jvw G 0 22 1 = s.wr := X.wr
  have x2 : jvw G 0 22 2 = s.pl := X.pl
  have m1 : jup (jvw G 70) 0 5 0 0 15 = s.wr := by rw [jup_s, upd_n _ _ (by decide)]; exact M.wr
  have m2 : jup (jvw G 70) 0 5 0 0 16 = s.pl := by rw [jup_s, upd_n _ _ (by decide)]; exact M.pl
  have hM := M.k (J2 := jvw J 70) (thrR M.now 0) (KM.thr 0) rfl (SA.eta s)
  rw [jlt_eq, x1, x2, m1, m2]
  by_cases h0 : x = 0
  · rw [if_pos h0, if_pos h0]
    rw [Option.bind_some]; refine k_A (s2 := s) X hL.2.2 ?_; exact Ok.s ⟨rfl, hM⟩
  · rw [if_neg h0, if_neg h0]
    by_cases h1 : x = 1
    · rw [if_pos h1, if_pos h1]
      rw [Option.bind_some]; refine k_A (s2 := s) X hL.2.2 ?_; exact Ok.s ⟨rfl, hM⟩
    · rw [if_neg h1, if_neg h1]
      rw [Option.bind_some]; refine k_A (s2 := s) X hL.2.2 ?_; exact Ok.s ⟨rfl, hM⟩
theorem case_14 (hN : 2000 ≤ N) (hL : LR G J s) : Ok (p_case_14 N xs G J i) (fun r => ∃ s, LR r.1 r.2 s) := by
  have R := hL.1.w.now
  have M := hL.2.1.now
  have I := hL.2.2.now
  have h6 := I.np
  unfold p_case_14 p_L_owes
  generalize xs (i + 1).toNatClampNeg = x
  generalize xs (i + 2).toNatClampNeg = y
  generalize xs (i + 3).toNatClampNeg = z
  by_cases hx : ∃ p, p < s.now.nd ∧ x = nI p
  · obtain ⟨d, hd, rfl⟩ := hx
    by_cases hy : ∃ p, p < s.now.np ∧ y = nI p
    · obtain ⟨b, hb, rfl⟩ := hy
      by_cases hz : ∃ p, p < s.now.np ∧ z = nI p
      · obtain ⟨p, hp, rfl⟩ := hz
        cases ho : s.now.isOf d b
        · refine k_L hL 0 0 (Or.inl ⟨?_, rfl⟩) (fun J3 => ?_)
          · unfold p_X5_owes
            rw [x_needD R I hd, jbx_r, x_needP R I hb, jbx_r, x_needP R I hp, jbx_r, c_isOf R I hd (by omega), ho]; rfl
          · unfold p_X6_owes p_X6_owes_b31
            rw [m_isDt M I hd, Option.bind_some, if_neg i10, m_isPt M I hb, Option.bind_some, if_neg i10, m_isPt M I hp, Option.bind_some, if_neg i10, jlt_eq, if_pos (by rw [e05]; decide), m_isOf (thrR M 0) I hd (by omega), ho]
            exact Ok.s (MB.o M (fun _ => rfl))
        · refine k_L hL 0 (s.now.ow d b p) (Or.inl ⟨?_, rfl⟩) (fun J3 => ?_)
          · unfold p_X5_owes
            rw [x_needD R I hd, jbx_r, x_needP R I hb, jbx_r, x_needP R I hp, jbx_r, c_isOf R I hd (by omega), ho, Option.bind_some, bI_t, if_neg i10, c_owedTo hN R I hd (by omega) (by omega)]; rfl
          · unfold p_X6_owes p_X6_owes_b31
            rw [m_isDt M I hd, Option.bind_some, if_neg i10, m_isPt M I hb, Option.bind_some, if_neg i10, m_isPt M I hp, Option.bind_some, if_neg i10, jlt_eq, if_pos (by rw [e05]; decide), m_isOf (thrR M 0) I hd (by omega), ho, Option.bind_some, bI_t, if_neg i10, m_fallsOf hN (thrR M 0) I hd, Option.bind_some, m_pays hN (thrR M 0) I (by omega) (by omega), pays_fb I hd]
            exact Ok.s (MB.o M (fun _ => rfl))
      · refine k_L hL 1 0 (Or.inr ⟨1, ?_, by decide, rfl⟩) (fun J3 => ?_)
        · unfold p_X5_owes
          rw [x_needD R I hd, jbx_r, x_needP R I hb, jbx_r, x_needPf R I hz, jbx_l]
        · unfold p_X6_owes p_X6_owes_b30 p_X6_owes_b31
          rw [m_isDt M I hd, Option.bind_some, if_neg i10, m_isPt M I hb, Option.bind_some, if_neg i10, m_isPf M I hz, Option.bind_some, if_pos rfl, jlt_eq, if_neg (by rw [e05]; decide)]
          exact Ok.s (MB.o M (fun h => absurd h i10))
    · refine k_L hL 1 0 (Or.inr ⟨1, ?_, by decide, rfl⟩) (fun J3 => ?_)
      · unfold p_X5_owes
        rw [x_needD R I hd, jbx_r, x_needPf R I hy, jbx_l]
      · unfold p_X6_owes p_X6_owes_b30 p_X6_owes_b31
        rw [m_isDt M I hd, Option.bind_some, if_neg i10, m_isPf M I hy, Option.bind_some, if_pos rfl, jlt_eq, if_neg (by rw [e05]; decide)]
        exact Ok.s (MB.o M (fun h => absurd h i10))
  · refine k_L hL 1 0 (Or.inr ⟨1, ?_, by decide, rfl⟩) (fun J3 => ?_)
    · unfold p_X5_owes
      rw [x_needDf R I hx, jbx_l]
    · unfold p_X6_owes p_X6_owes_b30 p_X6_owes_b31
      rw [m_isDf M I hx, Option.bind_some, if_pos rfl, jlt_eq, if_neg (by rw [e05]; decide)]
      exact Ok.s (MB.o M (fun h => absurd h i10))
theorem opn_st {a : TA} {d : Nat} (h : a.opn d = true) : a.st d = true := by
  unfold TA.opn at h
  simp only [Bool.and_eq_true] at h
  exact h.2.1
theorem case_20 (hN : 2000 ≤ N) (hL : LR G J s) : Ok (p_case_20 N xs G J i) (fun r => ∃ s, LR r.1 r.2 s) := by
  have R := hL.1.w.now
  have M := hL.2.1.now
  have I := hL.2.2.now
  have h6 := I.np
  unfold p_case_20 p_L_gain
  generalize xs (i + 1).toNatClampNeg = x
  generalize xs (i + 2).toNatClampNeg = y
  by_cases hx : ∃ p, p < s.now.nd ∧ x = nI p
  · obtain ⟨d, hd, rfl⟩ := hx
    by_cases hy : ∃ p, p < s.now.np ∧ y = nI p
    · obtain ⟨b, hb, rfl⟩ := hy
      cases hop : s.now.opn d
      · refine k_L hL 0 (-1) (Or.inl ⟨?_, rfl⟩) (fun J3 => ?_)
        · unfold p_X5_gain
          rw [x_needD R I hd, jbx_r, x_needP R I hb, jbx_r, c_isOpen R I hd, hop]; rfl
        · unfold p_X6_gain p_X6_gain_b23
          rw [m_isDt M I hd, Option.bind_some, if_neg i10, m_isPt M I hb, Option.bind_some, if_neg i10, jlt_eq, if_pos (by rw [e05]; decide), m_isOpen (thrR M 0) I hd, hop]
          exact Ok.s (MB.o M (fun _ => rfl))
      cases ho : s.now.isOf d b
      · refine k_L hL 0 (-1) (Or.inl ⟨?_, rfl⟩) (fun J3 => ?_)
        · unfold p_X5_gain
          rw [x_needD R I hd, jbx_r, x_needP R I hb, jbx_r, c_isOpen R I hd, hop, Option.bind_some, bI_t, if_neg i10, c_isOf R I hd (by omega), ho]; rfl
        · unfold p_X6_gain p_X6_gain_b23
          rw [m_isDt M I hd, Option.bind_some, if_neg i10, m_isPt M I hb, Option.bind_some, if_neg i10, jlt_eq, if_pos (by rw [e05]; decide), m_isOpen (thrR M 0) I hd, hop, Option.bind_some, bI_t, if_neg i10, m_isOf (thrR M 0) I hd (by omega), ho]
          exact Ok.s (MB.o M (fun _ => rfl))
      · refine k_L hL 0 (s.now.gain d b) (Or.inl ⟨?_, rfl⟩) (fun J3 => ?_)
        · unfold p_X5_gain
          rw [x_needD R I hd, jbx_r, x_needP R I hb, jbx_r, c_isOpen R I hd, hop, Option.bind_some, bI_t, if_neg i10, c_isOf R I hd (by omega), ho, Option.bind_some, bI_t, if_neg i10, c_gainOf hN R I hd (by omega)]; rfl
        · unfold p_X6_gain p_X6_gain_b23
          rw [m_isDt M I hd, Option.bind_some, if_neg i10, m_isPt M I hb, Option.bind_some, if_neg i10, jlt_eq, if_pos (by rw [e05]; decide), m_isOpen (thrR M 0) I hd, hop, Option.bind_some, bI_t, if_neg i10, m_isOf (thrR M 0) I hd (by omega), ho, Option.bind_some, bI_t, if_neg i10]
          refine Ok.b (m_gainOf hN (thrR M 0) I hd hb (opn_st hop)) ?_
          rintro ⟨v, G3⟩ ⟨h1, h2, h3⟩
          exact Ok.s (MB.g (fun _ => h1) h2 h3)
    · refine k_L hL 1 0 (Or.inr ⟨1, ?_, by decide, rfl⟩) (fun J3 => ?_)
      · unfold p_X5_gain
        rw [x_needD R I hd, jbx_r, x_needPf R I hy, jbx_l]
      · unfold p_X6_gain p_X6_gain_b22 p_X6_gain_b23
        rw [m_isDt M I hd, Option.bind_some, if_neg i10, m_isPf M I hy, Option.bind_some, if_pos rfl, jlt_eq, if_neg (by rw [e05]; decide)]
        exact Ok.s (MB.o M (fun h => absurd h i10))
  · refine k_L hL 1 0 (Or.inr ⟨1, ?_, by decide, rfl⟩) (fun J3 => ?_)
    · unfold p_X5_gain
      rw [x_needDf R I hx, jbx_l]
    · unfold p_X6_gain p_X6_gain_b22 p_X6_gain_b23
      rw [m_isDf M I hx, Option.bind_some, if_pos rfl, jlt_eq, if_neg (by rw [e05]; decide)]
      exact Ok.s (MB.o M (fun h => absurd h i10))
theorem m_pledgeOf (hN : 2000 ≤ N) (R : RM (G 1) a) (I : a.I) {d : Nat} (hd : d < a.nd) (hst : a.st d = true) : Ok (p_X6_pledgeOf N G J (nI d)) (fun r => r.1 = mx (a.top d) ∧ RM (r.2 1) a ∧ ∀ c, c ≠ 1 → c ≠ 3 → r.2 c = G c) := by
  unfold p_X6_pledgeOf
  rw [m_of1 R I.nd hd, Option.bind_some]
  refine Ok.b (m_gainOf hN R I hd (I.gi d hd) hst) ?_
  rintro ⟨v, G3⟩ ⟨h1, h2, h3⟩
  rw [jlt_eq, m_of2 h2 I.nd hd, Option.bind_some]
  refine Ok.b (m_gainOf hN h2 I hd (I.ta d hd) hst) ?_
  rintro ⟨w, G4⟩ ⟨h4, h5, h6⟩
  refine Ok.s ⟨?_, h5, fun c c1 c3 => (h6 c c1 c3).trans (h3 c c1 c3)⟩
  have e1 : v = a.gain d (a.gi d) := h1
  have e2 : w = a.gain d (a.ta d) := h4
  subst e1 e2
  rfl
theorem case_22 (hN : 2000 ≤ N) (hL : LR G J s) : Ok (p_case_22 N xs G J i) (fun r => ∃ s, LR r.1 r.2 s) := by
  have R := hL.1.w.now
  have M := hL.2.1.now
  have I := hL.2.2.now
  unfold p_case_22 p_L_pledge
  generalize xs (i + 1).toNatClampNeg = x
  by_cases hx : ∃ p, p < s.now.nd ∧ x = nI p
  · obtain ⟨d, hd, rfl⟩ := hx
    cases hop : s.now.opn d
    · refine k_L hL 0 0 (Or.inl ⟨?_, rfl⟩) (fun J3 => ?_)
      · unfold p_X5_pledge
        rw [x_needD R I hd, jbx_r, c_isOpen R I hd, hop]; rfl
      · unfold p_X6_pledge
        rw [jlt_eq, m_isDt (thrR M 0) I hd, Option.bind_some, if_neg i10, m_isOpen (thrR M 0) I hd, hop]
        exact Ok.s (MB.o M (fun _ => rfl))
    · refine k_L hL 0 (mx (s.now.top d)) (Or.inl ⟨?_, rfl⟩) (fun J3 => ?_)
      · unfold p_X5_pledge
        rw [x_needD R I hd, jbx_r, c_isOpen R I hd, hop, Option.bind_some, bI_t, if_neg i10, c_topGain hN R I hd]; rfl
      · unfold p_X6_pledge
        rw [jlt_eq, m_isDt (thrR M 0) I hd, Option.bind_some, if_neg i10, m_isOpen (thrR M 0) I hd, hop, Option.bind_some, bI_t, if_neg i10]
        refine Ok.b (m_pledgeOf hN (thrR M 0) I hd (opn_st hop)) ?_
        rintro ⟨v, G3⟩ ⟨h1, h2, h3⟩
        exact Ok.s (MB.g (fun _ => h1) h2 h3)
  · refine k_L hL 1 0 (Or.inr ⟨1, ?_, by decide, rfl⟩) (fun J3 => ?_)
    · unfold p_X5_pledge
      rw [x_needDf R I hx, jbx_l]
    · unfold p_X6_pledge
      rw [jlt_eq, m_isDf (thrR M 0) I hx, Option.bind_some, if_pos rfl]
      exact Ok.s (MB.f M (fun h => absurd h i10))
def TA.chS (a : TA) (t : Nat) (x : Int32) : Int32 → Nat → Int32 ⊕ Int32 := fun f d => if a.th d = t ∧ a.st d = true then (if f = x then .inr (nI d) else .inl (f + 1)) else .inl f
def TA.chain (a : TA) (t : Nat) (x : Int32) : Int32 := ix (a.chS t x) (fun _ => -1) 0 a.nd 0
theorem x_chain (hN : 2000 ≤ N) (R : RC (jvw G 1) a) (I : a.I) {t : Nat} {x : Int32} (ht : t < a.nt) : p_X5_chain_b10 N G J N (nI t) x 0 0 = some (.inr (a.chain t x)) := by
  have h1 := I.nd
  have h2 := I.nt
  have e7 : G 1 7 = nI a.nd := R.nd
  unfold TA.chain
  refine lp_ix (L := fun n f j => p_X5_chain_b10 N G J n (nI t) x f j) (m := a.nd) (o := fun r => some (.inr r)) ?_ ?_ a.nd 0 N 0 (by omega) (by omega)
  · intro n f
    show p_X5_chain_b10 N G J (n + 1) (nI t) x f (nI a.nd) = _
    rw [p_X5_chain_b10, e7]
    simp (disch := omega) only [Option.bind_some, jlt_eq, ↓reduceIte, eq_self, jinT, zleT, zleF, zltT, zltF, zeq, zpos, zpos', zcl, zm6, z6, z84, z24, z14, z8, nI_add, zd0, zd1, zd2, zd3, zd4, zd5, bitI_e, bI0, bI1]
  · intro n f j hj
    have h3 := I.th j hj
    have e5 : G 5 j = nI (a.th j) := R.th j hj
    show p_X5_chain_b10 N G J (n + 1) (nI t) x f (nI j) = _
    rw [p_X5_chain_b10, e7]
    simp (disch := omega) only [Option.bind_some, jlt_eq, ↓reduceIte, eq_self, jinT, zleT, zleF, zltT, zltF, zeq, zpos, zpos', zcl, zm6, z6, z84, z24, z14, z8, nI_add, zd0, zd1, zd2, zd3, zd4, zd5, bitI_e, bI0, bI1, e5, c_stands R, p_X5_chain_b59]
    unfold TA.chS
    by_cases h4 : a.th j = t <;> cases h5 : a.st j <;> by_cases h6 : f = x <;> simp only [h4, h5, h6, Bool.true_eq_false, Bool.false_eq_true, and_false, and_true, false_and, and_self, ↓reduceIte]
theorem m_chain (hN : 2000 ≤ N) (R : RM (G 1) a) (I : a.I) {t : Nat} {x : Int32} (ht : t < a.nt) : p_X6_chain_b24 N J N G (nI t) x 0 = some (a.chain t x, G) := by
  have h1 := I.nd
  have h2 := I.nt
  unfold TA.chain
  have e : x = x - 0 := by grind
  rw [show p_X6_chain_b24 N J N G (nI t) x 0 = p_X6_chain_b24 N J N G (nI t) (x - 0) 0 by rw [← e]]
  refine lp_ix (L := fun n f j => p_X6_chain_b24 N J n G (nI t) (x - f) j) (m := a.nd) (o := fun r => some (r, G)) ?_ ?_ a.nd 0 N 0 (by omega) (by omega)
  · intro n f
    show p_X6_chain_b24 N J (n + 1) G (nI t) (x - f) (nI a.nd) = _
    rw [p_X6_chain_b24, R.nd]
    simp (disch := omega) only [Option.bind_some, jlt_eq, ↓reduceIte, eq_self, jinT, zleT, zleF, zltT, zltF, zeq, zpos, zpos', zcl, zm6, z6, z84, z24, z14, z8, nI_add, zd0, zd1, zd2, zd3, zd4, zd5, bitI_e, bI0, bI1]
  · intro n f j hj
    have h3 := I.th j hj
    show p_X6_chain_b24 N J (n + 1) G (nI t) (x - f) (nI j) = _
    rw [p_X6_chain_b24, R.nd]
    simp (disch := omega) only [Option.bind_some, jlt_eq, ↓reduceIte, eq_self, jinT, zleT, zleF, zltT, zltF, zeq, zpos, zpos', zcl, zm6, z6, z84, z24, z14, z8, nI_add, zd0, zd1, zd2, zd3, zd4, zd5, bitI_e, bI0, bI1, m_of0 R I.nd hj, m_of4 R I.nd hj, p_X6_chain_b70]
    unfold TA.chS
    have z1 : (x - f = 0) = (f = x) := propext ⟨fun h => by grind, fun h => by grind⟩
    have z2 : x - f + -1 = x - (f + 1) := by grind
    rw [z2]
    by_cases h4 : a.th j = t <;> cases h5 : a.st j <;> by_cases h6 : f = x <;> simp only [z1, h4, h5, h6, Int32.sub_self, Bool.true_eq_false, Bool.false_eq_true, and_false, and_true, false_and, and_self, ↓reduceIte]
theorem case_15 (hN : 2000 ≤ N) (hL : LR G J s) : Ok (p_case_15 N xs G J i) (fun r => ∃ s, LR r.1 r.2 s) := by
  have R := hL.1.w.now
  have M := hL.2.1.now
  have I := hL.2.2.now
  unfold p_case_15 p_L_chain
  generalize xs (i + 1).toNatClampNeg = x
  generalize xs (i + 2).toNatClampNeg = y
  by_cases hx : ∃ p, p < s.now.nt ∧ x = nI p
  · obtain ⟨t, ht, rfl⟩ := hx
    refine k_L hL 0 (s.now.chain t y) (Or.inl ⟨?_, rfl⟩) (fun J3 => ?_)
    · unfold p_X5_chain
      rw [x_needT R I ht, jbx_r, x_chain hN R I ht]
    · unfold p_X6_chain
      rw [jlt_eq, m_isTt (thrR M 0) I ht, Option.bind_some, if_neg i10, m_chain hN (thrR M 0) I ht]
      exact Ok.s (MB.o M (fun _ => rfl))
  · refine k_L hL 1 0 (Or.inr ⟨1, ?_, by decide, rfl⟩) (fun J3 => ?_)
    · unfold p_X5_chain
      rw [x_needTf R I hx, jbx_l]
    · unfold p_X6_chain
      rw [jlt_eq, m_isTf (thrR M 0) I hx, Option.bind_some, if_pos rfl]
      exact Ok.s (MB.f M (fun h => absurd h i10))
def TA.safe (a : TA) : Int32 := it (fun f d => if (a.opn d && !decide (0 < a.top d)) = true then f ||| bitI d else f) 0 a.nd 0
theorem x_safe (hN : 2000 ≤ N) (R : RC (jvw G 1) a) (I : a.I) : p_X5_safe N G J = some a.safe := by
  have h1 := I.nd
  have e7 : G 1 7 = nI a.nd := R.nd
  unfold p_X5_safe TA.safe
  refine lp_it (L := fun n f j => p_X5_safe_b4 N G J n f j) (m := a.nd) (fin := some) ?_ ?_ a.nd 0 N 0 (by omega) (by omega)
  · intro n f
    show p_X5_safe_b4 N G J (n + 1) f (nI a.nd) = _
    rw [p_X5_safe_b4, e7]
    simp (disch := omega) only [Option.bind_some, jlt_eq, ↓reduceIte, eq_self, jinT, zleT, zleF, zltT, zltF, zeq, zpos, zpos', zcl, zm6, z6, z84, z24, z14, z8, nI_add, zd0, zd1, zd2, zd3, zd4, zd5, bitI_e, bI0, bI1]
  · intro n f j hj
    show p_X5_safe_b4 N G J (n + 1) f (nI j) = p_X5_safe_b4 N G J n _ _
    rw [p_X5_safe_b4, e7]
    simp (disch := omega) only [Option.bind_some, jlt_eq, ↓reduceIte, eq_self, jinT, zleT, zleF, zltT, zltF, zeq, zpos, zpos', zcl, zm6, z6, z84, z24, z14, z8, nI_add, zd0, zd1, zd2, zd3, zd4, zd5, bitI_e, bI0, bI1, c_isOpen R I hj, c_topGain hN R I hj, p_X5_safe_b43]
    by_cases h : 0 < a.top j
    · rw [if_pos h, decide_eq_true h]
      cases a.opn j <;> rfl
    · rw [if_neg h, decide_eq_false h]
      cases a.opn j <;> rfl
theorem mx0 (x : Int32) : (mx x = 0) = ¬ (0 < x) := by
  unfold mx
  by_cases h : 0 < x
  · rw [if_pos h]
    refine propext ⟨fun e => ?_, fun e => absurd h e⟩
    rw [e] at h
    exact absurd h (by decide)
  · rw [if_neg h]
    exact propext ⟨fun _ => h, fun _ => rfl⟩
theorem m_safe (hN : 2000 ≤ N) (R : RM (G 1) a) (I : a.I) : Ok (p_X6_safe_b9 N J N G 0 0) (fun r => r.1 = a.safe ∧ RM (r.2 1) a ∧ ∀ c, c ≠ 1 → c ≠ 3 → r.2 c = G c) := by
  have h1 := I.nd
  have key : Ok (p_X6_safe_b9 N J N G 0 0) (fun r => (∀ q, q = a.safe → r.1 = q) ∧ RM (r.2 1) a ∧ ∀ c, c ≠ 1 → c ≠ 3 → r.2 c = G c) := by
    refine Ok.l3 (fun n (G1 : Nat → Nat → Int32) f x => p_X6_safe_b9 N J n G1 f x) _ (fun j G1 f x => ∃ k, k + j = a.nd ∧ x = nI k ∧ RM (G1 1) a ∧ (∀ c, c ≠ 1 → c ≠ 3 → G1 c = G c) ∧ it (fun f d => if (a.opn d && !decide (0 < a.top d)) = true then f ||| bitI d else f) k j f = a.safe) ?_ N a.nd G 0 0 (by omega) ⟨0, by omega, nI_0.symm, R, fun _ _ _ => rfl, rfl⟩
    intro j G1 f x n hs ih
    obtain ⟨k, hk, hx, R1, hc, hf⟩ := hs
    subst hx
    show Ok (p_X6_safe_b9 N J (n + 1) G1 f (nI k)) _
    rw [p_X6_safe_b9, R1.nd]
    by_cases h : k = a.nd
    · have hj : j = 0 := by omega
      subst hj h
      simp (disch := omega) only [Option.bind_some, jlt_eq, ↓reduceIte, eq_self, jinT, zleT, zleF, zltT, zltF, zeq, zpos, zpos', zcl, zm6, z6, z84, z24, z14, z8, nI_add, zd0, zd1, zd2, zd3, zd4, zd5, bitI_e, bI0, bI1]
      exact Ok.s ⟨fun q hq => by rw [hq, ← hf]; rfl, R1, hc⟩
    · have hk2 : k < a.nd := by omega
      obtain ⟨j2, rfl⟩ : ∃ j2, j = j2 + 1 := ⟨j - 1, by omega⟩
      rw [it_s] at hf
      rw [m_isOpen R1 I hk2]
      cases ho : a.opn k
      · rw [ho] at hf
        simp (disch := omega) only [Option.bind_some, jlt_eq, ↓reduceIte, eq_self, jinT, zleT, zleF, zltT, zltF, zeq, zpos, zpos', zcl, zm6, z6, z84, z24, z14, z8, nI_add, zd0, zd1, zd2, zd3, zd4, zd5, bitI_e, bI0, bI1, p_X6_safe_b43, p_X6_safe_b44]
        exact ih _ _ _ j2 (by omega) ⟨k + 1, by omega, rfl, R1, hc, by rw [Int32.or_zero]; exact hf⟩
      · rw [ho] at hf
        rw [Option.bind_some, bI_t, if_neg i10, if_neg (by rw [zleF (by omega) (by omega)]; exact id)]
        refine Ok.b (m_pledgeOf hN R1 I hk2 (opn_st ho)) ?_
        rintro ⟨v, G3⟩ ⟨g1, g2, g3⟩
        have g4 : v = mx (a.top k) := g1
        subst g4
        have hc3 : ∀ c, c ≠ 1 → c ≠ 3 → G3 c = G c := fun c c1 c3 => (g3 c c1 c3).trans (hc c c1 c3)
        rw [jlt_eq]
        by_cases h5 : 0 < a.top k
        · rw [decide_eq_true h5] at hf
          rw [if_neg (by rw [mx0]; exact fun e => e h5)]
          simp (disch := omega) only [Option.bind_some, jlt_eq, ↓reduceIte, eq_self, jinT, zleT, zleF, zltT, zltF, zeq, zpos, zpos', zcl, zm6, z6, z84, z24, z14, z8, nI_add, zd0, zd1, zd2, zd3, zd4, zd5, bitI_e, bI0, bI1, p_X6_safe_b43, p_X6_safe_b44]
          exact ih _ _ _ j2 (by omega) ⟨k + 1, by omega, rfl, g2, hc3, by rw [Int32.or_zero]; exact hf⟩
        · rw [decide_eq_false h5] at hf
          rw [if_pos (by rw [mx0]; exact h5)]
          simp (disch := omega) only [Option.bind_some, jlt_eq, ↓reduceIte, eq_self, jinT, zleT, zleF, zltT, zltF, zeq, zpos, zpos', zcl, zm6, z6, z84, z24, z14, z8, nI_add, zd0, zd1, zd2, zd3, zd4, zd5, bitI_e, bI0, bI1, p_X6_safe_b43, p_X6_safe_b44]
          exact ih _ _ _ j2 (by omega) ⟨k + 1, by omega, rfl, g2, hc3, hf⟩
  exact key.c (fun r hr => ⟨hr.1 _ rfl, hr.2⟩)
theorem case_21 (hN : 2000 ≤ N) (hL : LR G J s) : Ok (p_case_21 N xs G J i) (fun r => ∃ s, LR r.1 r.2 s) := by
  have R := hL.1.now
  have M := hL.2.1
  have I := hL.2.2.now
  unfold p_case_21 p_X6_safe
  rw [x_safe hN R I]
  refine k_A (s2 := s) hL.1 hL.2.2 ?_
  rw [jlt_eq]
  refine (m_safe hN (thrR M.now 0) I).c ?_
  rintro r ⟨h1, h2, h3⟩
  exact ⟨h1, M.k h2 ((KM.thr 0).trans (KM.of13 h3)) rfl (SA.eta s)⟩
end cases2

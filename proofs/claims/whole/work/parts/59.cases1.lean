/-! the calls that only answer: the first -/
theorem ii0 {y : Int32} (h : y.toInt = 0) : y = 0 := Int32.toInt_inj.mp (h.trans (by decide))
theorem ii1 {y : Int32} (h : y.toInt = 1) : y = 1 := Int32.toInt_inj.mp (h.trans (by decide))
theorem ii2 {y : Int32} (h : y.toInt = 2) : y = 2 := Int32.toInt_inj.mp (h.trans (by decide))
theorem iiN {y : Int32} {n : Nat} (hn : n < 2147483648) (h : y.toInt = n) : y = nI n := Int32.toInt_inj.mp (h.trans (nI_toInt hn).symm)
section cases1
variable {N : Nat} {G : Nat → Nat → Int32} {J : Nat → Nat → Int64} {a : TA} {s : SA} {xs : Nat → Int32} {i : Int32}
theorem x_needP (R : RC (jvw G 1) a) (I : a.I) {p : Nat} (hp : p < a.np) : p_X5_needPerson N G J (nI p) = some (.inr ()) := by
  have := I.np
  unfold p_X5_needPerson
  rw [c_hasPerson R I (by omega), decide_eq_true hp]
  rfl
theorem x_needT (R : RC (jvw G 1) a) (I : a.I) {p : Nat} (hp : p < a.nt) : p_X5_needThing N G J (nI p) = some (.inr ()) := by
  have := I.nt
  unfold p_X5_needThing
  rw [c_hasThing R I (by omega), decide_eq_true hp]
  rfl
theorem x_needD (R : RC (jvw G 1) a) (I : a.I) {p : Nat} (hp : p < a.nd) : p_X5_needDeed N G J (nI p) = some (.inr ()) := by
  have := I.nd
  unfold p_X5_needDeed
  rw [c_hasDeed R I (by omega), decide_eq_true hp]
  rfl
theorem x_needPf (R : RC (jvw G 1) a) (I : a.I) {x : Int32} (h : ¬ ∃ p, p < a.np ∧ x = nI p) : p_X5_needPerson N G J x = some (.inl 1) := by
  unfold p_X5_needPerson
  rcases z_cases x with hx | ⟨p, hp, rfl⟩
  · rw [c_hasPersonN hx]; rfl
  · rw [c_hasPerson R I hp, decide_eq_false (fun h2 => h ⟨p, h2, rfl⟩)]; rfl
theorem x_needTf (R : RC (jvw G 1) a) (I : a.I) {x : Int32} (h : ¬ ∃ p, p < a.nt ∧ x = nI p) : p_X5_needThing N G J x = some (.inl 1) := by
  unfold p_X5_needThing
  rcases z_cases x with hx | ⟨p, hp, rfl⟩
  · rw [c_hasThingN hx]; rfl
  · rw [c_hasThing R I hp, decide_eq_false (fun h2 => h ⟨p, h2, rfl⟩)]; rfl
theorem x_needDf (R : RC (jvw G 1) a) (I : a.I) {x : Int32} (h : ¬ ∃ p, p < a.nd ∧ x = nI p) : p_X5_needDeed N G J x = some (.inl 1) := by
  unfold p_X5_needDeed
  rcases z_cases x with hx | ⟨p, hp, rfl⟩
  · rw [c_hasDeedN hx]; rfl
  · rw [c_hasDeed R I hp, decide_eq_false (fun h2 => h ⟨p, h2, rfl⟩)]; rfl
theorem m_isPt (R : RM (G 1) a) (I : a.I) {p : Nat} (hp : p < a.np) : p_X6_isPerson N G J (nI p) = some 1 := by
  have := I.np
  rw [m_isPerson R I (by omega), decide_eq_true hp]; rfl
theorem m_isTt (R : RM (G 1) a) (I : a.I) {p : Nat} (hp : p < a.nt) : p_X6_isThing N G J (nI p) = some 1 := by
  have := I.nt
  rw [m_isThing R I (by omega), decide_eq_true hp]; rfl
theorem m_isDt (R : RM (G 1) a) (I : a.I) {p : Nat} (hp : p < a.nd) : p_X6_isDeed N G J (nI p).toInt64 = some 1 := by
  have := I.nd
  rw [m_isDeed R I (by omega), decide_eq_true hp]; rfl
theorem m_isPf (R : RM (G 1) a) (I : a.I) {x : Int32} (h : ¬ ∃ p, p < a.np ∧ x = nI p) : p_X6_isPerson N G J x = some 0 := by
  rcases z_cases x with hx | ⟨p, hp, rfl⟩
  · exact m_isPersonN R I hx
  · rw [m_isPerson R I hp, decide_eq_false (fun h2 => h ⟨p, h2, rfl⟩)]; rfl
theorem m_isTf (R : RM (G 1) a) (I : a.I) {x : Int32} (h : ¬ ∃ p, p < a.nt ∧ x = nI p) : p_X6_isThing N G J x = some 0 := by
  rcases z_cases x with hx | ⟨p, hp, rfl⟩
  · exact m_isThingN R I hx
  · rw [m_isThing R I hp, decide_eq_false (fun h2 => h ⟨p, h2, rfl⟩)]; rfl
theorem m_isDf (R : RM (G 1) a) (I : a.I) {x : Int32} (h : ¬ ∃ p, p < a.nd ∧ x = nI p) : p_X6_isDeed N G J x.toInt64 = some 0 := by
  rcases z_cases x with hx | ⟨p, hp, rfl⟩
  · exact m_isDeedN R I hx
  · rw [m_isDeed R I hp, decide_eq_false (fun h2 => h ⟨p, h2, rfl⟩)]; rfl
theorem i10 : ¬ ((1 : Int32) = 0) := by decide
theorem i20 : ¬ ((2 : Int32) = 0) := by decide
theorem i30 : ¬ ((3 : Int32) = 0) := by decide
theorem jbx_r {α β : Type} (v : α) (f : α → Option (Nat ⊕ β)) : jbx (some (.inr v)) f = f v := rfl
theorem jbx_l {α β : Type} (c : Nat) (f : α → Option (Nat ⊕ β)) : jbx (some (.inl c)) f = some (.inl c) := rfl
theorem w_t {x lo hi : Int64} (h : lo.toInt ≤ x.toInt ∧ x.toInt ≤ hi.toInt) : p_X6_within N x lo hi = some 1 := by
  rw [w_in, decide_eq_true h]; rfl
theorem w_f {x lo hi : Int64} (h : ¬ (lo.toInt ≤ x.toInt ∧ x.toInt ≤ hi.toInt)) : p_X6_within N x lo hi = some 0 := by
  rw [w_in, decide_eq_false h]; rfl
theorem L2 : (2 : Int64).toInt = 2 := by decide
theorem L7 : (7 : Int64).toInt = 7 := by decide
theorem case_3 (hN : 2000 ≤ N) (hL : LR G J s) : Ok (p_case_3 N xs G J i) (fun r => ∃ s, LR r.1 r.2 s) := by
  have R := hL.1.w.now
  have M := hL.2.1.now
  have I := hL.2.2.now
  have h6 := I.np
  unfold p_case_3 p_L_person
  generalize xs (i + 1).toNatClampNeg = x
  generalize xs (i + 2).toNatClampNeg = y
  by_cases hx : ∃ p, p < s.now.np ∧ x = nI p
  · obtain ⟨p, hp, rfl⟩ := hx
    have c0 : jvw (jv2 G 0 70 85) 0 2 p = s.now.co p := R.co p (by omega)
    have mc (x : Int32) : jup (jvw G 70) 0 5 x 1 (8 + p) = s.now.co p := by rw [jup_n _ _ (by decide)]; exact M.co p (by omega)
    have ty : y.toInt64.toInt = y.toInt := Int32.toInt_toInt64 y
    by_cases y0 : y.toInt = 0
    · refine k_L hL 0 (s.now.co p) (Or.inl ⟨?_, rfl⟩) (fun J3 => ?_)
      · unfold p_X5_person
        simp (disch := omega) only [Option.bind_some, jlt_eq, ↓reduceIte, eq_self, jinT, zleT, zleF, zltT, zltF, zeq, zpos, zpos', zcl, zm6, z6, z84, z24, z14, z8, nI_add, zd0, zd1, zd2, zd3, zd4, zd5, bitI_e, bI0, bI1, x_needP R I hp, jbx_r, y0, c0]
      · unfold p_X6_person
        rw [jlt_eq, m_isPt (thrR M 0) I hp, Option.bind_some, if_neg i10, w_t (by rw [w_0, L2, ty]; omega), Option.bind_some, if_neg i10, if_pos (ii0 y0)]
        simp (disch := omega) only [Option.bind_some, jlt_eq, ↓reduceIte, eq_self, jinT, zleT, zleF, zltT, zltF, zeq, zpos, zpos', zcl, zm6, z6, z84, z24, z14, z8, nI_add, zd0, zd1, zd2, zd3, zd4, zd5, bitI_e, bI0, bI1, mc]
        exact Ok.s (MB.o M (fun _ => rfl))
    by_cases y1 : y.toInt = 1
    · refine k_L hL 0 (s.now.wealth p) (Or.inl ⟨?_, rfl⟩) (fun J3 => ?_)
      · unfold p_X5_person
        rw [x_needP R I hp, jbx_r, if_neg y0, if_pos y1, c_wealth hN R I hp]; rfl
      · unfold p_X6_person
        rw [jlt_eq, m_isPt (thrR M 0) I hp, Option.bind_some, if_neg i10, w_t (by rw [w_0, L2, ty]; omega), Option.bind_some, if_neg i10, if_neg (fun h => y0 (by rw [h]; decide)), if_pos (ii1 y1), m_wealth hN (thrR M 0) I hp]
        exact Ok.s (MB.o M (fun _ => rfl))
    by_cases y2 : y.toInt = 2
    · refine k_L hL 0 (s.now.held p) (Or.inl ⟨?_, rfl⟩) (fun J3 => ?_)
      · unfold p_X5_person
        rw [x_needP R I hp, jbx_r, if_neg y0, if_neg y1, if_pos y2, c_held hN R I hp]; rfl
      · unfold p_X6_person
        rw [jlt_eq, m_isPt (thrR M 0) I hp, Option.bind_some, if_neg i10, w_t (by rw [w_0, L2, ty]; omega), Option.bind_some, if_neg i10, if_neg (fun h => y0 (by rw [h]; decide)), if_neg (fun h => y1 (by rw [h]; decide)), m_holds hN (thrR M 0) I hp]
        exact Ok.s (MB.o M (fun _ => rfl))
    · refine k_L hL 2 0 (Or.inr ⟨3, ?_, by decide, rfl⟩) (fun J3 => ?_)
      · unfold p_X5_person
        rw [x_needP R I hp, jbx_r, if_neg y0, if_neg y1, if_neg y2]
      · unfold p_X6_person
        rw [jlt_eq, m_isPt (thrR M 0) I hp, Option.bind_some, if_neg i10, w_f (by rw [w_0, L2, ty]; omega), Option.bind_some, if_pos rfl]
        exact Ok.s (MB.f M (fun h => absurd h i20))
  · refine k_L hL 1 0 (Or.inr ⟨1, ?_, by decide, rfl⟩) (fun J3 => ?_)
    · unfold p_X5_person
      rw [x_needPf R I hx, jbx_l]
    · unfold p_X6_person
      rw [jlt_eq, m_isPf (thrR M 0) I hx, Option.bind_some, if_pos rfl]
      exact Ok.s (MB.f M (fun h => absurd h i10))
theorem case_4 (hN : 2000 ≤ N) (hL : LR G J s) : Ok (p_case_4 N xs G J i) (fun r => ∃ s, LR r.1 r.2 s) := by
  have R := hL.1.w.now
  have M := hL.2.1.now
  have I := hL.2.2.now
  have h6 := I.np
  have h7 := I.nt
  unfold p_case_4 p_L_worth
  generalize xs (i + 1).toNatClampNeg = x
  generalize xs (i + 2).toNatClampNeg = y
  by_cases hx : ∃ p, p < s.now.nt ∧ x = nI p
  · obtain ⟨t, ht, rfl⟩ := hx
    by_cases hy : ∃ p, p < s.now.np ∧ y = nI p
    · obtain ⟨p, hp, rfl⟩ := hy
      refine k_L hL 0 (s.now.wo t p) (Or.inl ⟨?_, rfl⟩) (fun J3 => ?_)
      · unfold p_X5_worth
        rw [x_needT R I ht, jbx_r, x_needP R I hp, jbx_r, c_worthTo R (by omega) (by omega)]; rfl
      · unfold p_X6_worth
        rw [jlt_eq, m_isTt (thrR M 0) I ht, Option.bind_some, if_neg i10, m_isPt (thrR M 0) I hp, Option.bind_some, if_neg i10, m_worthTo (thrR M 0) (by omega) (by omega)]
        exact Ok.s (MB.o M (fun _ => rfl))
    · refine k_L hL 1 0 (Or.inr ⟨1, ?_, by decide, rfl⟩) (fun J3 => ?_)
      · unfold p_X5_worth
        rw [x_needT R I ht, jbx_r, x_needPf R I hy, jbx_l]
      · unfold p_X6_worth
        rw [jlt_eq, m_isTt (thrR M 0) I ht, Option.bind_some, if_neg i10, m_isPf (thrR M 0) I hy, Option.bind_some, if_pos rfl]
        exact Ok.s (MB.f M (fun h => absurd h i10))
  · refine k_L hL 1 0 (Or.inr ⟨1, ?_, by decide, rfl⟩) (fun J3 => ?_)
    · unfold p_X5_worth
      rw [x_needTf R I hx, jbx_l]
    · unfold p_X6_worth
      rw [jlt_eq, m_isTf (thrR M 0) I hx, Option.bind_some, if_pos rfl]
      exact Ok.s (MB.f M (fun h => absurd h i10))
theorem case_5 (hN : 2000 ≤ N) (hL : LR G J s) : Ok (p_case_5 N xs G J i) (fun r => ∃ s, LR r.1 r.2 s) := by
  have R := hL.1.w.now
  have M := hL.2.1.now
  have I := hL.2.2.now
  have h7 := I.nt
  unfold p_case_5 p_L_holder
  generalize xs (i + 1).toNatClampNeg = x
  by_cases hx : ∃ p, p < s.now.nt ∧ x = nI p
  · obtain ⟨t, ht, rfl⟩ := hx
    have c0 : jvw (jv2 G 0 70 85) 0 3 t = nI (s.now.ho t) := R.ho t ht
    have mc : jup (jvw G 70) 0 5 0 1 (14 + t) = nI (s.now.ho t) := by rw [jup_n _ _ (by decide)]; exact M.ho t ht
    refine k_L hL 0 (nI (s.now.ho t)) (Or.inl ⟨?_, rfl⟩) (fun J3 => ?_)
    · unfold p_X5_holder
      simp (disch := omega) only [Option.bind_some, jlt_eq, ↓reduceIte, eq_self, jinT, zleT, zleF, zltT, zltF, zeq, zpos, zpos', zcl, zm6, z6, z84, z24, z14, z8, nI_add, zd0, zd1, zd2, zd3, zd4, zd5, bitI_e, bI0, bI1, x_needT R I ht, jbx_r, c0]
    · unfold p_X6_holder
      rw [jlt_eq, m_isTt (thrR M 0) I ht, Option.bind_some, if_neg i10]
      simp (disch := omega) only [Option.bind_some, jlt_eq, ↓reduceIte, eq_self, jinT, zleT, zleF, zltT, zltF, zeq, zpos, zpos', zcl, zm6, z6, z84, z24, z14, z8, nI_add, zd0, zd1, zd2, zd3, zd4, zd5, bitI_e, bI0, bI1, mc]
      exact Ok.s (MB.o M (fun _ => rfl))
  · refine k_L hL 1 0 (Or.inr ⟨1, ?_, by decide, rfl⟩) (fun J3 => ?_)
    · unfold p_X5_holder
      rw [x_needTf R I hx, jbx_l]
    · unfold p_X6_holder
      rw [jlt_eq, m_isTf (thrR M 0) I hx, Option.bind_some, if_pos rfl]
      exact Ok.s (MB.f M (fun h => absurd h i10))
theorem case_11 (hN : 2000 ≤ N) (hL : LR G J s) : Ok (p_case_11 N xs G J i) (fun r => ∃ s, LR r.1 r.2 s) := by
  have R := hL.1.w.now
  have M := hL.2.1.now
  have I := hL.2.2.now
  have h6 := I.np
  have h7 := I.nd
  unfold p_case_11 p_L_may
  generalize xs (i + 1).toNatClampNeg = x
  generalize xs (i + 2).toNatClampNeg = y
  have e0 : ∀ k : Int32, jup (jvw G 70) 0 5 k 0 5 = k := fun k => by rw [jup_s, upd_s]
  by_cases hy : ∃ p, p < s.now.np ∧ y = nI p
  · obtain ⟨p, hp, rfl⟩ := hy
    by_cases hx : ∃ p, p < s.now.nd ∧ x = nI p
    · obtain ⟨d, hd, rfl⟩ := hx
      refine k_L hL 0 (s.now.whyU d p) (Or.inl ⟨?_, rfl⟩) (fun J3 => ?_)
      · unfold p_X5_may
        rw [x_needP R I hp, jbx_r, c_whyU hN R I hd hp]; rfl
      · unfold p_X6_may p_X6_may_b14
        rw [m_isPt M I hp, Option.bind_some, if_neg i10, jlt_eq, if_pos (by rw [e0]; decide)]
        refine Ok.b (m_whyNot hN (thrR M 0) I hd hp rfl) ?_
        rintro ⟨v, G3⟩ ⟨h1, h2, h3⟩
        exact Ok.s (MB.g (fun _ => h1) h2 h3)
    · refine k_L hL 0 1 (Or.inl ⟨?_, rfl⟩) (fun J3 => ?_)
      · unfold p_X5_may
        rw [x_needP R I hp, jbx_r]
        rcases z_cases x with hx2 | ⟨d, hd, rfl⟩
        · rw [c_whyUN hx2]; rfl
        · rw [c_whyU1 R I (Nat.le_of_not_lt (fun h => hx ⟨d, h, rfl⟩)) hd]; rfl
      · unfold p_X6_may p_X6_may_b14
        rw [m_isPt M I hp, Option.bind_some, if_neg i10, jlt_eq, if_pos (by rw [e0]; decide)]
        unfold p_X6_whyNot
        rw [m_isDf (thrR M 0) I hx, Option.bind_some, if_pos rfl]
        exact Ok.s (MB.o M (fun _ => rfl))
  · refine k_L hL 1 0 (Or.inr ⟨1, ?_, by decide, rfl⟩) (fun J3 => ?_)
    · unfold p_X5_may
      rw [x_needPf R I hy, jbx_l]
    · unfold p_X6_may p_X6_may_b14
      rw [m_isPf M I hy, Option.bind_some, if_pos rfl, jlt_eq, if_neg (by rw [e0]; decide)]
      exact Ok.s (MB.o M (fun h => absurd h i10))
theorem case_13 (hN : 2000 ≤ N) (hL : LR G J s) : Ok (p_case_13 N xs G J i) (fun r => ∃ s, LR r.1 r.2 s) := by
  have R := hL.1.w.now
  have M := hL.2.1.now
  have I := hL.2.2.now
  have h7 := I.nd
  unfold p_case_13 p_L_falls
  generalize xs (i + 1).toNatClampNeg = x
  by_cases hx : ∃ p, p < s.now.nd ∧ x = nI p
  · obtain ⟨d, hd, rfl⟩ := hx
    refine k_L hL 0 (s.now.fb d) (Or.inl ⟨?_, rfl⟩) (fun J3 => ?_)
    · unfold p_X5_falls
      rw [x_needD R I hd, jbx_r, c_fallBits hN R I hd]; rfl
    · unfold p_X6_falls
      rw [jlt_eq, m_isDt (thrR M 0) I hd, Option.bind_some, if_neg i10, m_fallsOf hN (thrR M 0) I hd]
      exact Ok.s (MB.o M (fun _ => rfl))
  · refine k_L hL 1 0 (Or.inr ⟨1, ?_, by decide, rfl⟩) (fun J3 => ?_)
    · unfold p_X5_falls
      rw [x_needDf R I hx, jbx_l]
    · unfold p_X6_falls
      rw [jlt_eq, m_isDf (thrR M 0) I hx, Option.bind_some, if_pos rfl]
      exact Ok.s (MB.f M (fun h => absurd h i10))
theorem case_19 (hN : 2000 ≤ N) (hL : LR G J s) : Ok (p_case_19 N xs G J i) (fun r => ∃ s, LR r.1 r.2 s) := by
  have R := hL.1.now
  have M := hL.2.1
  have I := hL.2.2.now
  unfold p_case_19 p_X5_open p_X6_open
  rw [c_openBits hN R I]
  refine k_A (s2 := s) hL.1 hL.2.2 ?_
  rw [jlt_eq, m_openSet hN (thrR M.now 0) I]
  exact Ok.s ⟨rfl, M.k (thrR M.now 0) (KM.thr 0) rfl (SA.eta s)⟩
end cases1

/-! the calls that only answer: the last of the plain -/
section cases4
variable {N : Nat} {G : Nat → Nat → Int32} {J : Nat → Nat → Int64} {a : TA} {s : SA} {xs : Nat → Int32} {i : Int32}
/-- misplaced -/
def TA.miI (a : TA) (t : Nat) : Int32 → Nat → Int32 := fun f p => if a.wo t p ≤ a.wo t (a.ho t) then f else f ||| bitI t
def TA.mis (a : TA) : Int32 := it (fun f t => it (a.miI t) 0 a.np f) 0 a.nt 0
theorem x_mis (hN : 2000 ≤ N) (R : RC (jvw G 1) a) (I : a.I) : p_X5_misplaced N G J = some a.mis := by
  have h1 := I.nt
  have h2 := I.np
  have e1 : G 1 1 = nI a.np := R.np
  have e2 : G 1 2 = nI a.nt := R.nt
  unfold p_X5_misplaced TA.mis
  refine lp_it (L := fun n f j => p_X5_misplaced_b4 N G J n f j) (m := a.nt) (fin := some) ?_ ?_ a.nt 0 N 0 (by omega) (by omega)
  · intro n f
    show p_X5_misplaced_b4 N G J (n + 1) f (nI a.nt) = _
    rw [p_X5_misplaced_b4, e2]
    simp (disch := omega) only [Option.bind_some, jlt_eq, ↓reduceIte, eq_self, jinT, zleT, zleF, zltT, zltF, zeq, zpos, zpos', zcl, zm6, z6, z84, z24, z14, z8, nI_add, zd0, zd1, zd2, zd3, zd4, zd5, bitI_e, bI0, bI1]
  · intro n f j hj
    have h3 := I.ho j hj
    have e3 : G 3 j = nI (a.ho j) := R.ho j hj
    show p_X5_misplaced_b4 N G J (n + 1) f (nI j) = p_X5_misplaced_b4 N G J n _ _
    rw [p_X5_misplaced_b4, e2]
    simp (disch := omega) only [Option.bind_some, jlt_eq, ↓reduceIte, eq_self, jinT, zleT, zleF, zltT, zltF, zeq, zpos, zpos', zcl, zm6, z6, z84, z24, z14, z8, nI_add, zd0, zd1, zd2, zd3, zd4, zd5, bitI_e, bI0, bI1, e3, c_worthTo R (show j < 10 by omega) (show a.ho j < 6 by omega)]
    refine lp_it (L := fun n2 f k => p_X5_misplaced_b36 N G J (p_X5_misplaced_b4 N G J n) n2 f (nI j) (a.wo j (a.ho j)) k) (m := a.np) (step := a.miI j) (fin := fun f => p_X5_misplaced_b4 N G J n f (nI (j + 1))) ?_ ?_ a.np 0 N f (by omega) (by omega)
    · intro n2 f
      show p_X5_misplaced_b36 N G J (p_X5_misplaced_b4 N G J n) (n2 + 1) f (nI j) (a.wo j (a.ho j)) (nI a.np) = _
      rw [p_X5_misplaced_b36, e1]
      simp (disch := omega) only [Option.bind_some, jlt_eq, ↓reduceIte, eq_self, jinT, zleT, zleF, zltT, zltF, zeq, zpos, zpos', zcl, zm6, z6, z84, z24, z14, z8, nI_add, zd0, zd1, zd2, zd3, zd4, zd5, bitI_e, bI0, bI1]
    · intro n2 f k hk
      show p_X5_misplaced_b36 N G J (p_X5_misplaced_b4 N G J n) (n2 + 1) f (nI j) (a.wo j (a.ho j)) (nI k) = p_X5_misplaced_b36 N G J (p_X5_misplaced_b4 N G J n) n2 _ (nI j) (a.wo j (a.ho j)) _
      rw [p_X5_misplaced_b36, e1]
      simp (disch := omega) only [Option.bind_some, jlt_eq, ↓reduceIte, eq_self, jinT, zleT, zleF, zltT, zltF, zeq, zpos, zpos', zcl, zm6, z6, z84, z24, z14, z8, nI_add, zd0, zd1, zd2, zd3, zd4, zd5, bitI_e, bI0, bI1, c_worthTo R (show j < 10 by omega) (show k < 6 by omega), p_X5_misplaced_b68]
      unfold TA.miI
      by_cases h : a.wo j k ≤ a.wo j (a.ho j)
      · rw [if_pos h, if_pos h]
      · rw [if_neg h, if_neg h]
theorem m_mis (hN : 2000 ≤ N) (R : RM (G 1) a) (I : a.I) : p_X6_misplaced_b9 N J N G 0 0 = some (a.mis, G) := by
  have h1 := I.nt
  have h2 := I.np
  unfold TA.mis
  refine lp_it (L := fun n f j => p_X6_misplaced_b9 N J n G f j) (m := a.nt) (fin := fun f => some (f, G)) ?_ ?_ a.nt 0 N 0 (by omega) (by omega)
  · intro n f
    show p_X6_misplaced_b9 N J (n + 1) G f (nI a.nt) = _
    rw [p_X6_misplaced_b9, R.nt]
    simp (disch := omega) only [Option.bind_some, jlt_eq, ↓reduceIte, eq_self, jinT, zleT, zleF, zltT, zltF, zeq, zpos, zpos', zcl, zm6, z6, z84, z24, z14, z8, nI_add, zd0, zd1, zd2, zd3, zd4, zd5, bitI_e, bI0, bI1]
  · intro n f j hj
    have h3 := I.ho j hj
    show p_X6_misplaced_b9 N J (n + 1) G f (nI j) = p_X6_misplaced_b9 N J n G _ _
    rw [p_X6_misplaced_b9, R.nt]
    simp (disch := omega) only [Option.bind_some, jlt_eq, ↓reduceIte, eq_self, jinT, zleT, zleF, zltT, zltF, zeq, zpos, zpos', zcl, zm6, z6, z84, z24, z14, z8, nI_add, zd0, zd1, zd2, zd3, zd4, zd5, bitI_e, bI0, bI1]
    refine lp_it (L := fun n2 f k => p_X6_misplaced_b21 N J (p_X6_misplaced_b9 N J n) n2 G f (nI j) k) (m := a.np) (step := a.miI j) (fin := fun f => p_X6_misplaced_b9 N J n G f (nI (j + 1))) ?_ ?_ a.np 0 N f (by omega) (by omega)
    · intro n2 f
      show p_X6_misplaced_b21 N J (p_X6_misplaced_b9 N J n) (n2 + 1) G f (nI j) (nI a.np) = _
      rw [p_X6_misplaced_b21, R.np]
      simp (disch := omega) only [Option.bind_some, jlt_eq, ↓reduceIte, eq_self, jinT, zleT, zleF, zltT, zltF, zeq, zpos, zpos', zcl, zm6, z6, z84, z24, z14, z8, nI_add, zd0, zd1, zd2, zd3, zd4, zd5, bitI_e, bI0, bI1]
    · intro n2 f k hk
      show p_X6_misplaced_b21 N J (p_X6_misplaced_b9 N J n) (n2 + 1) G f (nI j) (nI k) = p_X6_misplaced_b21 N J (p_X6_misplaced_b9 N J n) n2 G _ (nI j) _
      rw [p_X6_misplaced_b21, R.np]
      simp (disch := omega) only [Option.bind_some, jlt_eq, ↓reduceIte, eq_self, jinT, zleT, zleF, zltT, zltF, zeq, zpos, zpos', zcl, zm6, z6, z84, z24, z14, z8, nI_add, zd0, zd1, zd2, zd3, zd4, zd5, bitI_e, bI0, bI1, R.ho j hj, m_worthTo R (show j < 10 by omega) (show k < 6 by omega), m_worthTo R (show j < 10 by omega) (show a.ho j < 6 by omega), p_X6_misplaced_b62]
      unfold TA.miI
      by_cases h : a.wo j k ≤ a.wo j (a.ho j)
      · rw [if_pos h, if_pos h, Int32.or_zero]
      · rw [if_neg h, if_neg h]
theorem case_39 (hN : 2000 ≤ N) (hL : LR G J s) : Ok (p_case_39 N xs G J i) (fun r => ∃ s, LR r.1 r.2 s) := by
  have R := hL.1.now
  have M := hL.2.1
  have I := hL.2.2.now
  unfold p_case_39 p_X6_misplaced
  rw [x_mis hN R I]
  refine k_A (s2 := s) hL.1 hL.2.2 ?_
  rw [jlt_eq, m_mis hN (thrR M.now 0) I]
  exact Ok.s ⟨rfl, M.k (thrR M.now 0) (KM.thr 0) rfl (SA.eta s)⟩
/-- debt -/
def TA.deS (a : TA) (p : Nat) : Int32 × Int32 → Nat → Int32 × Int32 := fun f d => if a.opn d = true ∧ a.isOf d p = true then (if f.2 = -1 then (a.owA d p, nI d) else if a.owA d p ≤ f.1 then f else (a.owA d p, nI d)) else f
def TA.debt (a : TA) (p : Nat) (x : Int32) : Int32 := (fun f : Int32 × Int32 => if x = 0 then f.1 else f.2) (it (a.deS p) 0 a.nd (0, -1))
theorem x_debt (hN : 2000 ≤ N) (R : RC (jvw G 1) a) (I : a.I) {p : Nat} {x : Int32} (hp : p < a.np) : p_X5_debt_b22 N G J (nI p) x = some (.inr (a.debt p x)) := by
  have h1 := I.nd
  have h2 := I.np
  have e7 : G 1 7 = nI a.nd := R.nd
  unfold p_X5_debt_b22 TA.debt
  refine lp_it (L := fun n (f : Int32 × Int32) j => p_X5_debt_b30 N G J n (nI p) x f.1 f.2 j) (m := a.nd) (fin := fun f => some (.inr (if x = 0 then f.1 else f.2))) ?_ ?_ a.nd 0 N (0, -1) (by omega) (by omega)
  · intro n f
    show p_X5_debt_b30 N G J (n + 1) (nI p) x f.1 f.2 (nI a.nd) = _
    rw [p_X5_debt_b30, e7]
    simp (disch := omega) only [Option.bind_some, jlt_eq, ↓reduceIte, eq_self, jinT, zleT, zleF, zltT, zltF, zeq, zpos, zpos', zcl, zm6, z6, z84, z24, z14, z8, nI_add, zd0, zd1, zd2, zd3, zd4, zd5, bitI_e, bI0, bI1]
    by_cases h : x = 0
    · rw [if_pos h, if_pos h]
    · rw [if_neg h, if_neg h]
  · intro n f j hj
    show p_X5_debt_b30 N G J (n + 1) (nI p) x f.1 f.2 (nI j) = p_X5_debt_b30 N G J n (nI p) x _ _ _
    rw [p_X5_debt_b30, e7]
    simp (disch := omega) only [Option.bind_some, jlt_eq, ↓reduceIte, eq_self, jinT, zleT, zleF, zltT, zltF, zeq, zpos, zpos', zcl, zm6, z6, z84, z24, z14, z8, nI_add, zd0, zd1, zd2, zd3, zd4, zd5, bitI_e, bI0, bI1, c_isOpen R I hj, c_isOf R I hj, c_owedToAll hN R I hj, p_X5_debt_b98, p_X5_debt_b91]
    unfold TA.deS
    by_cases h3 : f.2 = -1 <;> by_cases h4 : a.owA j p ≤ f.1 <;> cases a.opn j <;> cases a.isOf j p <;> simp only [h3, h4, Bool.true_eq_false, Bool.false_eq_true, and_self, and_true, and_false, false_and, ↓reduceIte]
theorem m_debt (hN : 2000 ≤ N) (R : RM (G 1) a) (I : a.I) {p : Nat} {x : Int32} (hp : p < a.np) : p_X6_debt_b48 N J N G (nI p) x 0 (-1) 0 = some (a.debt p x, G) := by
  have h1 := I.nd
  have h2 := I.np
  unfold TA.debt
  refine lp_it (L := fun n (f : Int32 × Int32) j => p_X6_debt_b48 N J n G (nI p) x f.1 f.2 j) (m := a.nd) (fin := fun f => some ((if x = 0 then f.1 else f.2), G)) ?_ ?_ a.nd 0 N (0, -1) (by omega) (by omega)
  · intro n f
    show p_X6_debt_b48 N J (n + 1) G (nI p) x f.1 f.2 (nI a.nd) = _
    rw [p_X6_debt_b48, R.nd]
    simp (disch := omega) only [Option.bind_some, jlt_eq, ↓reduceIte, eq_self, jinT, zleT, zleF, zltT, zltF, zeq, zpos, zpos', zcl, zm6, z6, z84, z24, z14, z8, nI_add, zd0, zd1, zd2, zd3, zd4, zd5, bitI_e, bI0, bI1]
    by_cases h : x = 0
    · rw [if_pos h, if_pos h]
    · rw [if_neg h, if_neg h]
  · intro n f j hj
    show p_X6_debt_b48 N J (n + 1) G (nI p) x f.1 f.2 (nI j) = p_X6_debt_b48 N J n G (nI p) x _ _ _
    rw [p_X6_debt_b48, R.nd]
    have inner : p_X6_debt_b88 N J (p_X6_debt_b48 N J n) N G (nI p) x f.1 f.2 (nI j) 0 0 = (fun v => if f.2 = -1 then p_X6_debt_b48 N J n G (nI p) x v (nI j) (nI (j + 1)) else if f.1 < v then p_X6_debt_b48 N J n G (nI p) x v (nI j) (nI (j + 1)) else p_X6_debt_b48 N J n G (nI p) x f.1 f.2 (nI (j + 1))) (a.owA j p) := by
      rw [← ow_sum I hj hp]
      unfold sm
      refine lp_it (L := fun n2 v k => p_X6_debt_b88 N J (p_X6_debt_b48 N J n) n2 G (nI p) x f.1 f.2 (nI j) v k) (m := a.np) (fin := fun v => if f.2 = -1 then p_X6_debt_b48 N J n G (nI p) x v (nI j) (nI (j + 1)) else if f.1 < v then p_X6_debt_b48 N J n G (nI p) x v (nI j) (nI (j + 1)) else p_X6_debt_b48 N J n G (nI p) x f.1 f.2 (nI (j + 1))) ?_ ?_ a.np 0 N 0 (by omega) (by omega)
      · intro n2 v
        show p_X6_debt_b88 N J (p_X6_debt_b48 N J n) (n2 + 1) G (nI p) x f.1 f.2 (nI j) v (nI a.np) = _
        rw [p_X6_debt_b88, R.np]
        simp (disch := omega) only [Option.bind_some, jlt_eq, ↓reduceIte, eq_self, jinT, zleT, zleF, zltT, zltF, zeq, zpos, zpos', zcl, zm6, z6, z84, z24, z14, z8, nI_add, zd0, zd1, zd2, zd3, zd4, zd5, bitI_e, bI0, bI1, p_X6_debt_b138, p_X6_debt_b145]
      · intro n2 v k hk
        show p_X6_debt_b88 N J (p_X6_debt_b48 N J n) (n2 + 1) G (nI p) x f.1 f.2 (nI j) v (nI k) = p_X6_debt_b88 N J (p_X6_debt_b48 N J n) n2 G (nI p) x f.1 f.2 (nI j) _ _
        rw [p_X6_debt_b88, R.np]
        simp (disch := omega) only [Option.bind_some, jlt_eq, ↓reduceIte, eq_self, jinT, zleT, zleF, zltT, zltF, zeq, zpos, zpos', zcl, zm6, z6, z84, z24, z14, z8, nI_add, zd0, zd1, zd2, zd3, zd4, zd5, bitI_e, bI0, bI1, m_fallsOf hN R I hj, m_pays hN R I, pays_fb I hj]
    simp (disch := omega) only [Option.bind_some, jlt_eq, ↓reduceIte, eq_self, jinT, zleT, zleF, zltT, zltF, zeq, zpos, zpos', zcl, zm6, z6, z84, z24, z14, z8, nI_add, zd0, zd1, zd2, zd3, zd4, zd5, bitI_e, bI0, bI1, m_isOpen R I hj, m_isOf R I hj, p_X6_debt_b145, inner]
    unfold TA.deS
    by_cases h3 : f.2 = -1 <;> by_cases h4 : a.owA j p ≤ f.1 <;> cases a.opn j <;> cases a.isOf j p <;> simp only [i_le_lt, h3, h4, Bool.true_eq_false, Bool.false_eq_true, and_self, and_true, and_false, false_and, not_true_eq_false, not_false_eq_true, ↓reduceIte]
theorem L1 : (1 : Int64).toInt = 1 := by decide
theorem case_25 (hN : 2000 ≤ N) (hL : LR G J s) : Ok (p_case_25 N xs G J i) (fun r => ∃ s, LR r.1 r.2 s) := by
  have R := hL.1.w.now
  have M := hL.2.1.now
  have I := hL.2.2.now
  unfold p_case_25 p_L_debt
  generalize xs (i + 1).toNatClampNeg = x
  generalize xs (i + 2).toNatClampNeg = y
  have ty : y.toInt64.toInt = y.toInt := Int32.toInt_toInt64 y
  by_cases hx : ∃ p, p < s.now.np ∧ x = nI p
  · obtain ⟨p, hp, rfl⟩ := hx
    by_cases hy : y = 0 ∨ y = 1
    · refine k_L hL 0 (s.now.debt p y) (Or.inl ⟨?_, rfl⟩) (fun J3 => ?_)
      · unfold p_X5_debt
        rw [x_needP R I hp, jbx_r, x_debt hN R I hp]
        rcases hy with h | h <;> subst h <;> rfl
      · unfold p_X6_debt p_X6_debt_b28
        rw [m_isPt M I hp, Option.bind_some, if_neg i10, w_t (by rcases hy with h | h <;> subst h <;> decide), Option.bind_some, if_neg i10, jlt_eq, if_pos (by rw [e05]; decide), m_debt hN (thrR M 0) I hp]
        exact Ok.s (MB.o M (fun _ => rfl))
    · have y0 : ¬ y = 0 := fun h => hy (Or.inl h)
      have y1 : ¬ y = 1 := fun h => hy (Or.inr h)
      refine k_L hL 2 0 (Or.inr ⟨3, ?_, by decide, rfl⟩) (fun J3 => ?_)
      · unfold p_X5_debt
        rw [x_needP R I hp, jbx_r, if_neg y0, if_neg y1]
      · unfold p_X6_debt p_X6_debt_b28
        rw [m_isPt M I hp, Option.bind_some, if_neg i10, w_f (by rw [w_0, L1, ty]; exact fun h => hy (by
          rcases (by omega : y.toInt = 0 ∨ y.toInt = 1) with h | h
          · exact Or.inl (ii0 h)
          · exact Or.inr (ii1 h))), Option.bind_some, if_pos rfl, jlt_eq, if_neg (by rw [e05]; decide)]
        exact Ok.s (MB.o M (fun h => absurd h i20))
  · refine k_L hL 1 0 (Or.inr ⟨1, ?_, by decide, rfl⟩) (fun J3 => ?_)
    · unfold p_X5_debt
      rw [x_needPf R I hx, jbx_l]
    · unfold p_X6_debt p_X6_debt_b28
      rw [m_isPf M I hx, Option.bind_some, if_pos rfl, jlt_eq, if_neg (by rw [e05]; decide)]
      exact Ok.s (MB.o M (fun h => absurd h i10))
/-- bidder -/
def TA.biS (a : TA) (t : Nat) : Option Nat → Nat → Option Nat := fun f p => if a.ho t = p then f else if a.wo t p ≤ a.co p then (match f with
  | none => some p
  | some q => if a.wo t p ≤ a.wo t q then some q else some p) else f
def TA.bi1 (a : TA) (t : Nat) : Option Nat → Int32
  | none => -1
  | some q => a.wo t q
def bi2 : Option Nat → Int32
  | none => -1
  | some q => nI q
def TA.bidder (a : TA) (t : Nat) : Int32 := bi2 (it (a.biS t) 0 a.np none)
theorem x_bidder (hN : 2000 ≤ N) (R : RC (jvw G 1) a) (I : a.I) {t : Nat} (ht : t < a.nt) : p_X5_bidder_b12 N G J N (nI t) (-1) (-1) 0 = some (.inr (a.bidder t)) := by
  have h1 := I.nt
  have h2 := I.np
  have h3 := I.ho t ht
  have e1 : G 1 1 = nI a.np := R.np
  have e3 : G 3 t = nI (a.ho t) := R.ho t ht
  unfold TA.bidder
  refine lp_it (L := fun n (f : Option Nat) j => p_X5_bidder_b12 N G J n (nI t) (a.bi1 t f) (bi2 f) j) (m := a.np) (fin := fun f => some (.inr (bi2 f))) ?_ ?_ a.np 0 N none (by omega) (by omega)
  · intro n f
    show p_X5_bidder_b12 N G J (n + 1) (nI t) (a.bi1 t f) (bi2 f) (nI a.np) = _
    rw [p_X5_bidder_b12, e1]
    simp (disch := omega) only [Option.bind_some, jlt_eq, ↓reduceIte, eq_self, jinT, zleT, zleF, zltT, zltF, zeq, zpos, zpos', zcl, zm6, z6, z84, z24, z14, z8, nI_add, zd0, zd1, zd2, zd3, zd4, zd5, bitI_e, bI0, bI1]
  · intro n f j hj
    have e2 : G 2 j = a.co j := R.co j (by omega)
    show p_X5_bidder_b12 N G J (n + 1) (nI t) (a.bi1 t f) (bi2 f) (nI j) = p_X5_bidder_b12 N G J n (nI t) (a.bi1 t _) (bi2 _) _
    rw [p_X5_bidder_b12, e1]
    simp (disch := omega) only [Option.bind_some, jlt_eq, ↓reduceIte, eq_self, jinT, zleT, zleF, zltT, zltF, zeq, zpos, zpos', zcl, zm6, z6, z84, z24, z14, z8, nI_add, zd0, zd1, zd2, zd3, zd4, zd5, bitI_e, bI0, bI1, e3, e2, c_worthTo R (show t < 10 by omega) (show j < 6 by omega), p_X5_bidder_b77]
    unfold TA.biS
    have s2 : (j = a.ho t) = (a.ho t = j) := propext ⟨Eq.symm, Eq.symm⟩
    have wp := I.wo t j (by omega) (by omega)
    simp only [s2, i_le_lt]
    by_cases h4 : a.ho t = j
    · simp only [h4, ↓reduceIte]
    · by_cases h5 : a.wo t j ≤ a.co j
      · cases f with
        | none =>
          have h6 : ¬ a.wo t j ≤ -1 := by
            rw [Int32.le_iff_toInt_le]
            have : (-1 : Int32).toInt = -1 := by decide
            omega
          simp only [h4, h5, h6, not_true_eq_false, ↓reduceIte, TA.bi1, bi2]
        | some q =>
          by_cases h6 : a.wo t j ≤ a.wo t q <;> simp only [h4, h5, h6, not_true_eq_false, ↓reduceIte, TA.bi1, bi2]
      · simp only [h4, h5, not_false_eq_true, ↓reduceIte]
theorem bi_lt {a : TA} {t : Nat} : ∀ (k j : Nat) (f : Option Nat), (∀ q, f = some q → q < j + k) → ∀ q, it (a.biS t) j k f = some q → q < j + k
  | 0, j, f, h, q, hq => h q hq
  | k + 1, j, f, h, q, hq => by
    have := bi_lt k (j + 1) (a.biS t f j) (fun q2 h2 => by
      unfold TA.biS at h2
      by_cases h4 : a.ho t = j
      · rw [if_pos h4] at h2; have := h q2 h2; omega
      · rw [if_neg h4] at h2
        by_cases h5 : a.wo t j ≤ a.co j
        · rw [if_pos h5] at h2
          cases f with
          | none => cases h2; omega
          | some r =>
            simp only at h2
            by_cases h6 : a.wo t j ≤ a.wo t r
            · rw [if_pos h6] at h2; have := h q2 h2; omega
            · rw [if_neg h6] at h2; cases h2; omega
        · rw [if_neg h5] at h2; have := h q2 h2; omega) q hq
    omega
theorem m_bidder (hN : 2000 ≤ N) (R : RM (G 1) a) (I : a.I) {t : Nat} (ht : t < a.nt) : p_X6_bidder_b23 N J N G (nI t) (-1) 0 = some (a.bidder t, G) := by
  have h1 := I.nt
  have h2 := I.np
  have h3 := I.ho t ht
  have key : ∀ (k j n : Nat) (f : Option Nat), j + k = a.np → k < n → (∀ q, f = some q → q < j) → p_X6_bidder_b23 N J n G (nI t) (bi2 f) (nI j) = some (bi2 (it (a.biS t) j k f), G) := by
    intro k
    induction k with
    | zero =>
      intro j n f hj hn hq
      obtain ⟨m, rfl⟩ : ∃ m, n = m + 1 := ⟨n - 1, by omega⟩
      rw [p_X6_bidder_b23, R.np]
      simp (disch := omega) only [Option.bind_some, jlt_eq, ↓reduceIte, eq_self, jinT, zleT, zleF, zltT, zltF, zeq, zpos, zpos', zcl, zm6, z6, z84, z24, z14, z8, nI_add, zd0, zd1, zd2, zd3, zd4, zd5, bitI_e, bI0, bI1]
      rfl
    | succ k ih =>
      intro j n f hj hn hq
      obtain ⟨m, rfl⟩ : ∃ m, n = m + 1 := ⟨n - 1, by omega⟩
      rw [it_s, ← ih (j + 1) m (a.biS t f j) (by omega) (by omega) (fun q h => by
        have := bi_lt (a := a) (t := t) 1 j f (fun q h => by have := hq q h; omega) q h
        exact this)]
      rw [p_X6_bidder_b23, R.np]
      simp (disch := omega) only [Option.bind_some, jlt_eq, ↓reduceIte, eq_self, jinT, zleT, zleF, zltT, zltF, zeq, zpos, zpos', zcl, zm6, z6, z84, z24, z14, z8, nI_add, zd0, zd1, zd2, zd3, zd4, zd5, bitI_e, bI0, bI1, R.ho t ht, R.co j, m_worthTo R (show t < 10 by omega) (show j < 6 by omega), p_X6_bidder_b89, p_X6_bidder_b87]
      unfold TA.biS
      by_cases h4 : a.ho t = j
      · simp only [h4, ↓reduceIte]
      · by_cases h5 : a.wo t j ≤ a.co j
        · cases f with
          | none => simp only [h4, h5, ↓reduceIte, bi2]
          | some q =>
            have hq2 := hq q rfl
            have h7 : ¬ nI q = -1 := fun e => by
              have : (nI q).toInt = (-1 : Int32).toInt := by rw [e]
              rw [nI_toInt (by omega)] at this
              exact absurd this (by have : (-1 : Int32).toInt = -1 := by decide
                                    omega)
            have h8 := m_worthTo (N := N) (J := J) R (show t < 10 by omega) (show q < 6 by omega)
            by_cases h6 : a.wo t j ≤ a.wo t q <;> simp only [h4, h5, h6, h7, h8, Option.bind_some, ↓reduceIte, bi2]
        · simp only [h4, h5, ↓reduceIte]
  exact key a.np 0 N none (by omega) (by omega) (fun q h => by cases h)
theorem case_28 (hN : 2000 ≤ N) (hL : LR G J s) : Ok (p_case_28 N xs G J i) (fun r => ∃ s, LR r.1 r.2 s) := by
  have R := hL.1.w.now
  have M := hL.2.1.now
  have I := hL.2.2.now
  unfold p_case_28 p_L_bidder
  generalize xs (i + 1).toNatClampNeg = x
  by_cases hx : ∃ p, p < s.now.nt ∧ x = nI p
  · obtain ⟨t, ht, rfl⟩ := hx
    refine k_L hL 0 (s.now.bidder t) (Or.inl ⟨?_, rfl⟩) (fun J3 => ?_)
    · unfold p_X5_bidder
      rw [x_needT R I ht, jbx_r, x_bidder hN R I ht]
    · unfold p_X6_bidder
      rw [jlt_eq, m_isTt (thrR M 0) I ht, Option.bind_some, if_neg i10, m_bidder hN (thrR M 0) I ht]
      exact Ok.s (MB.o M (fun _ => rfl))
  · refine k_L hL 1 0 (Or.inr ⟨1, ?_, by decide, rfl⟩) (fun J3 => ?_)
    · unfold p_X5_bidder
      rw [x_needTf R I hx, jbx_l]
    · unfold p_X6_bidder
      rw [jlt_eq, m_isTf (thrR M 0) I hx, Option.bind_some, if_pos rfl]
      exact Ok.s (MB.f M (fun h => absurd h i10))
end cases4

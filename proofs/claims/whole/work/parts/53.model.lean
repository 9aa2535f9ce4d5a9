/-! the reference's rows over a town -/
def RM (T : Nat → Int32) (a : TA) : Prop := (T 0 = a.li) ∧ (T 1 = nI a.np) ∧ (T 2 = nI a.nt) ∧ (T 3 = a.ea) ∧ (T 4 = a.sh) ∧ (T 5 = a.be) ∧ (T 6 = a.mi) ∧ (T 7 = nI a.nd) ∧ (∀ p, p < 6 → T (8 + p) = a.co p) ∧ (∀ t, t < a.nt → T (14 + t) = nI (a.ho t)) ∧ (∀ t p, t < 10 → p < 6 → T (24 + 6 * t + p) = a.wo t p) ∧ (∀ d, d < a.nd → T (84 + 6 * d) = nI (a.th d)) ∧ (∀ d, d < a.nd → T (84 + 6 * d + 1) = nI (a.gi d)) ∧ (∀ d, d < a.nd → T (84 + 6 * d + 2) = nI (a.ta d)) ∧ (∀ d, d < a.nd → T (84 + 6 * d + 3) = a.pr d) ∧ (∀ d, d < a.nd → T (84 + 6 * d + 4) = bI (a.st d)) ∧ (∀ d, d < a.nd → T (84 + 6 * d + 5) = a.wh d)
theorem RM.li {T : Nat → Int32} {a : TA} (R : RM T a) : T 0 = a.li := R.1
theorem RM.np {T : Nat → Int32} {a : TA} (R : RM T a) : T 1 = nI a.np := R.2.1
theorem RM.nt {T : Nat → Int32} {a : TA} (R : RM T a) : T 2 = nI a.nt := R.2.2.1
theorem RM.ea {T : Nat → Int32} {a : TA} (R : RM T a) : T 3 = a.ea := R.2.2.2.1
theorem RM.sh {T : Nat → Int32} {a : TA} (R : RM T a) : T 4 = a.sh := R.2.2.2.2.1
theorem RM.be {T : Nat → Int32} {a : TA} (R : RM T a) : T 5 = a.be := R.2.2.2.2.2.1
theorem RM.mi {T : Nat → Int32} {a : TA} (R : RM T a) : T 6 = a.mi := R.2.2.2.2.2.2.1
theorem RM.nd {T : Nat → Int32} {a : TA} (R : RM T a) : T 7 = nI a.nd := R.2.2.2.2.2.2.2.1
theorem RM.co {T : Nat → Int32} {a : TA} (R : RM T a) : ∀ p, p < 6 → T (8 + p) = a.co p := R.2.2.2.2.2.2.2.2.1
theorem RM.ho {T : Nat → Int32} {a : TA} (R : RM T a) : ∀ t, t < a.nt → T (14 + t) = nI (a.ho t) := R.2.2.2.2.2.2.2.2.2.1
theorem RM.wo {T : Nat → Int32} {a : TA} (R : RM T a) : ∀ t p, t < 10 → p < 6 → T (24 + 6 * t + p) = a.wo t p := R.2.2.2.2.2.2.2.2.2.2.1
theorem RM.th {T : Nat → Int32} {a : TA} (R : RM T a) : ∀ d, d < a.nd → T (84 + 6 * d) = nI (a.th d) := R.2.2.2.2.2.2.2.2.2.2.2.1
theorem RM.gi {T : Nat → Int32} {a : TA} (R : RM T a) : ∀ d, d < a.nd → T (84 + 6 * d + 1) = nI (a.gi d) := R.2.2.2.2.2.2.2.2.2.2.2.2.1
theorem RM.ta {T : Nat → Int32} {a : TA} (R : RM T a) : ∀ d, d < a.nd → T (84 + 6 * d + 2) = nI (a.ta d) := R.2.2.2.2.2.2.2.2.2.2.2.2.2.1
theorem RM.pr {T : Nat → Int32} {a : TA} (R : RM T a) : ∀ d, d < a.nd → T (84 + 6 * d + 3) = a.pr d := R.2.2.2.2.2.2.2.2.2.2.2.2.2.2.1
theorem RM.st {T : Nat → Int32} {a : TA} (R : RM T a) : ∀ d, d < a.nd → T (84 + 6 * d + 4) = bI (a.st d) := R.2.2.2.2.2.2.2.2.2.2.2.2.2.2.2.1
theorem RM.wh {T : Nat → Int32} {a : TA} (R : RM T a) : ∀ d, d < a.nd → T (84 + 6 * d + 5) = a.wh d := R.2.2.2.2.2.2.2.2.2.2.2.2.2.2.2.2
theorem jz_b (b : Bool) : jz (bI b) = true := by cases b <;> decide
theorem w_in (N : Nat) (x lo hi : Int64) : p_X6_within N x lo hi = some (bI (decide (lo.toInt ≤ x.toInt ∧ x.toInt ≤ hi.toInt))) := by
  unfold p_X6_within
  have h1 : (lg_cmp x lo < 0) ↔ x.toInt < lo.toInt := (lg_cmp_lt x lo).trans Int64.lt_iff_toInt_lt
  have h2 : (0 < lg_cmp x hi) ↔ hi.toInt < x.toInt := (lg_cmp_gt x hi).trans Int64.lt_iff_toInt_lt
  by_cases h3 : x.toInt < lo.toInt
  · rw [if_pos (h1.mpr h3), decide_eq_false (by omega)]; rfl
  · rw [if_neg (fun h => h3 (h1.mp h))]
    by_cases h4 : hi.toInt < x.toInt
    · rw [if_pos (h2.mpr h4), decide_eq_false (by omega)]; rfl
    · rw [if_neg (fun h => h4 (h2.mp h)), decide_eq_true (by omega)]; rfl
theorem w_hi {n : Nat} (hn : n < 1000000) : ((nI n - 1).toInt64).toInt = (n : Int) - 1 := by
  have h : (1 : Int32) = nI 1 := by decide
  rw [Int32.toInt_toInt64, h, pk_sub_toInt (by omega) (by omega)]
  rfl
theorem w_0 : (0 : Int64).toInt = 0 := by decide
theorem w_ix (N : Nat) (x : Int64) {n : Nat} (hn : n < 1000000) : p_X6_within N x 0 ((nI n - 1).toInt64) = some (bI (decide (0 ≤ x.toInt ∧ x.toInt < n))) := by
  rw [w_in, w_hi hn, w_0]
  congr 2
  apply decide_eq_decide.mpr
  omega
theorem w_n {p : Nat} (hp : p < 2147483648) : ((nI p).toInt64).toInt = (p : Int) := by
  rw [Int32.toInt_toInt64, nI_toInt hp]
theorem w_ixn (N : Nat) {p n : Nat} (hp : p < 2147483648) (hn : n < 1000000) : p_X6_within N (nI p).toInt64 0 ((nI n - 1).toInt64) = some (bI (decide (p < n))) := by
  rw [w_ix N _ hn, w_n hp]
  congr 2
  apply decide_eq_decide.mpr
  omega
theorem w_neg {x : Int32} (h : x < 0) : x.toInt64.toInt < 0 := by
  rw [Int32.toInt_toInt64]
  exact Int32.lt_iff_toInt_lt.mp h
theorem w_ixN (N : Nat) {x : Int32} {n : Nat} (h : x < 0) (hn : n < 1000000) : p_X6_within N x.toInt64 0 ((nI n - 1).toInt64) = some 0 := by
  have := w_neg h
  rw [w_ix N _ hn, decide_eq_false (by omega)]
  rfl
section model
variable {N : Nat} {G : Nat → Nat → Int32} {J : Nat → Nat → Int64} {a : TA}
theorem m_isPerson (R : RM (G 1) a) (I : a.I) {p : Nat} (hp : p < 2147483648) : p_X6_isPerson N G J (nI p) = some (bI (decide (p < a.np))) := by
  have := I.np
  unfold p_X6_isPerson
  rw [R.np, w_ixn N hp (by omega)]
  simp (disch := omega) only [Option.bind_some, jlt_eq, ↓reduceIte, eq_self, jinT, zleT, zleF, zltT, zltF, zeq, zpos, zpos', zcl, zm6, z6, z84, z24, z14, z8, nI_add, zd0, zd1, zd2, zd3, zd4, zd5, bitI_e, bI0, bI1, jz_b]
theorem m_isPersonN (R : RM (G 1) a) (I : a.I) {x : Int32} (h : x < 0) : p_X6_isPerson N G J x = some 0 := by
  have := I.np
  unfold p_X6_isPerson
  rw [R.np, w_ixN N h (by omega)]
  rfl
theorem m_isThing (R : RM (G 1) a) (I : a.I) {p : Nat} (hp : p < 2147483648) : p_X6_isThing N G J (nI p) = some (bI (decide (p < a.nt))) := by
  have := I.nt
  unfold p_X6_isThing
  rw [R.nt, w_ixn N hp (by omega)]
  simp (disch := omega) only [Option.bind_some, jlt_eq, ↓reduceIte, eq_self, jinT, zleT, zleF, zltT, zltF, zeq, zpos, zpos', zcl, zm6, z6, z84, z24, z14, z8, nI_add, zd0, zd1, zd2, zd3, zd4, zd5, bitI_e, bI0, bI1, jz_b]
theorem m_isThingN (R : RM (G 1) a) (I : a.I) {x : Int32} (h : x < 0) : p_X6_isThing N G J x = some 0 := by
  have := I.nt
  unfold p_X6_isThing
  rw [R.nt, w_ixN N h (by omega)]
  rfl
theorem m_isDeedL (R : RM (G 1) a) (I : a.I) (x : Int64) : p_X6_isDeed N G J x = some (bI (decide (0 ≤ x.toInt ∧ x.toInt < a.nd))) := by
  have := I.nd
  unfold p_X6_isDeed
  rw [R.nd, w_ix N x (by omega)]
  simp (disch := omega) only [Option.bind_some, jlt_eq, ↓reduceIte, eq_self, jinT, zleT, zleF, zltT, zltF, zeq, zpos, zpos', zcl, zm6, z6, z84, z24, z14, z8, nI_add, zd0, zd1, zd2, zd3, zd4, zd5, bitI_e, bI0, bI1, jz_b]
theorem m_isDeed (R : RM (G 1) a) (I : a.I) {p : Nat} (hp : p < 2147483648) : p_X6_isDeed N G J (nI p).toInt64 = some (bI (decide (p < a.nd))) := by
  have := I.nd
  unfold p_X6_isDeed
  rw [R.nd, w_ixn N hp (by omega)]
  simp (disch := omega) only [Option.bind_some, jlt_eq, ↓reduceIte, eq_self, jinT, zleT, zleF, zltT, zltF, zeq, zpos, zpos', zcl, zm6, z6, z84, z24, z14, z8, nI_add, zd0, zd1, zd2, zd3, zd4, zd5, bitI_e, bI0, bI1, jz_b]
theorem m_isDeedN (R : RM (G 1) a) (I : a.I) {x : Int32} (h : x < 0) : p_X6_isDeed N G J x.toInt64 = some 0 := by
  have := I.nd
  unfold p_X6_isDeed
  rw [R.nd, w_ixN N h (by omega)]
  rfl
theorem m_of0 (R : RM (G 1) a) (h1 : a.nd ≤ 30) {d : Nat} (hd : d < a.nd) : p_X6_of N G J (nI d) 0 = some (nI (a.th d)) := by
  unfold p_X6_of
  simp (disch := omega) only [Option.bind_some, jlt_eq, ↓reduceIte, eq_self, jinT, zleT, zleF, zltT, zltF, zeq, zpos, zpos', zcl, zm6, z6, z84, z24, z14, z8, nI_add, zd0, zd1, zd2, zd3, zd4, zd5, bitI_e, bI0, bI1, R.th d hd]
theorem m_of1 (R : RM (G 1) a) (h1 : a.nd ≤ 30) {d : Nat} (hd : d < a.nd) : p_X6_of N G J (nI d) 1 = some (nI (a.gi d)) := by
  unfold p_X6_of
  simp (disch := omega) only [Option.bind_some, jlt_eq, ↓reduceIte, eq_self, jinT, zleT, zleF, zltT, zltF, zeq, zpos, zpos', zcl, zm6, z6, z84, z24, z14, z8, nI_add, zd0, zd1, zd2, zd3, zd4, zd5, bitI_e, bI0, bI1, R.gi d hd]
theorem m_of2 (R : RM (G 1) a) (h1 : a.nd ≤ 30) {d : Nat} (hd : d < a.nd) : p_X6_of N G J (nI d) 2 = some (nI (a.ta d)) := by
  unfold p_X6_of
  simp (disch := omega) only [Option.bind_some, jlt_eq, ↓reduceIte, eq_self, jinT, zleT, zleF, zltT, zltF, zeq, zpos, zpos', zcl, zm6, z6, z84, z24, z14, z8, nI_add, zd0, zd1, zd2, zd3, zd4, zd5, bitI_e, bI0, bI1, R.ta d hd]
theorem m_of3 (R : RM (G 1) a) (h1 : a.nd ≤ 30) {d : Nat} (hd : d < a.nd) : p_X6_of N G J (nI d) 3 = some (a.pr d) := by
  unfold p_X6_of
  simp (disch := omega) only [Option.bind_some, jlt_eq, ↓reduceIte, eq_self, jinT, zleT, zleF, zltT, zltF, zeq, zpos, zpos', zcl, zm6, z6, z84, z24, z14, z8, nI_add, zd0, zd1, zd2, zd3, zd4, zd5, bitI_e, bI0, bI1, R.pr d hd]
theorem m_of4 (R : RM (G 1) a) (h1 : a.nd ≤ 30) {d : Nat} (hd : d < a.nd) : p_X6_of N G J (nI d) 4 = some (bI (a.st d)) := by
  unfold p_X6_of
  simp (disch := omega) only [Option.bind_some, jlt_eq, ↓reduceIte, eq_self, jinT, zleT, zleF, zltT, zltF, zeq, zpos, zpos', zcl, zm6, z6, z84, z24, z14, z8, nI_add, zd0, zd1, zd2, zd3, zd4, zd5, bitI_e, bI0, bI1, R.st d hd]
theorem m_of5 (R : RM (G 1) a) (h1 : a.nd ≤ 30) {d : Nat} (hd : d < a.nd) : p_X6_of N G J (nI d) 5 = some (a.wh d) := by
  unfold p_X6_of
  simp (disch := omega) only [Option.bind_some, jlt_eq, ↓reduceIte, eq_self, jinT, zleT, zleF, zltT, zltF, zeq, zpos, zpos', zcl, zm6, z6, z84, z24, z14, z8, nI_add, zd0, zd1, zd2, zd3, zd4, zd5, bitI_e, bI0, bI1, R.wh d hd]
theorem m_worthTo (R : RM (G 1) a) {t p : Nat} (ht : t < 10) (hp : p < 6) : p_X6_worthTo N G J (nI t) (nI p) = some (a.wo t p) := by
  unfold p_X6_worthTo
  simp (disch := omega) only [Option.bind_some, jlt_eq, ↓reduceIte, eq_self, jinT, zleT, zleF, zltT, zltF, zeq, zpos, zpos', zcl, zm6, z6, z84, z24, z14, z8, nI_add, zd0, zd1, zd2, zd3, zd4, zd5, bitI_e, bI0, bI1, R.wo t p ht hp]
theorem m_isEaten (R : RM (G 1) a) {t : Nat} (ht : t < 32) : p_X6_isEaten N G J (nI t) = some (bI (a.eat t)) := by
  unfold p_X6_isEaten
  rw [bt_test _ ht, R.ea, TA.eat]
  generalize bt a.ea t = b
  cases b <;> rfl
theorem m_hasRung (R : RM (G 1) a) : p_X6_hasRung N G J = some (bI a.rung) := by
  unfold p_X6_hasRung TA.rung
  rw [R.mi, R.be]
  by_cases h : a.mi < a.be
  · rw [if_pos h, decide_eq_true h]; rfl
  · rw [if_neg h, decide_eq_false h]; rfl
theorem m_isOf (R : RM (G 1) a) (I : a.I) {d p : Nat} (hd : d < a.nd) (hp : p < 2147483648) : p_X6_isOf N G J (nI d) (nI p) = some (bI (a.isOf d p)) := by
  have h1 := I.nd
  have h2 := I.gi d hd
  have h3 := I.ta d hd
  have h4 := I.np
  unfold p_X6_isOf TA.isOf
  simp (disch := omega) only [Option.bind_some, jlt_eq, ↓reduceIte, eq_self, jinT, zleT, zleF, zltT, zltF, zeq, zpos, zpos', zcl, zm6, z6, z84, z24, z14, z8, nI_add, zd0, zd1, zd2, zd3, zd4, zd5, bitI_e, bI0, bI1, m_of1 R I.nd hd, m_of2 R I.nd hd]
  by_cases h : a.gi d = p
  · rw [if_pos h, decide_eq_true h]; rfl
  · rw [if_neg h, decide_eq_false h]
    by_cases h : a.ta d = p
    · rw [if_pos h, decide_eq_true h]; rfl
    · rw [if_neg h, decide_eq_false h]; rfl
theorem m_isOpen (R : RM (G 1) a) (I : a.I) {d : Nat} (hd : d < a.nd) : p_X6_isOpen N G J (nI d) = some (bI (a.opn d)) := by
  have h1 := I.nd
  have h2 := I.th d hd
  have h3 := I.nt
  unfold p_X6_isOpen
  simp (disch := omega) only [Option.bind_some, jlt_eq, ↓reduceIte, eq_self, jinT, zleT, zleF, zltT, zltF, zeq, zpos, zpos', zcl, zm6, z6, z84, z24, z14, z8, nI_add, zd0, zd1, zd2, zd3, zd4, zd5, bitI_e, bI0, bI1, m_hasRung R, m_of4 R I.nd hd, m_of0 R I.nd hd, m_isEaten R]
  unfold TA.opn
  cases a.rung <;> cases a.st d <;> cases a.eat (a.th d) <;> rfl
theorem m_openSet (hN : 2000 ≤ N) (R : RM (G 1) a) (I : a.I) : p_X6_openSet N G J = some a.opens := by
  have h1 := I.nd
  unfold p_X6_openSet TA.opens
  refine lp_it (L := fun n s i => p_X6_openSet_b4 N G J n s i) (m := a.nd) (fin := some) ?_ ?_ a.nd 0 N 0 (by omega) (by omega)
  · intro n s
    show p_X6_openSet_b4 N G J (n + 1) s (nI a.nd) = _
    rw [p_X6_openSet_b4, R.nd]
    simp (disch := omega) only [Option.bind_some, jlt_eq, ↓reduceIte, eq_self, jinT, zleT, zleF, zltT, zltF, zeq, zpos, zpos', zcl, zm6, z6, z84, z24, z14, z8, nI_add, zd0, zd1, zd2, zd3, zd4, zd5, bitI_e, bI0, bI1]
  · intro n s j hj
    show p_X6_openSet_b4 N G J (n + 1) s (nI j) = p_X6_openSet_b4 N G J n _ _
    rw [p_X6_openSet_b4, R.nd]
    simp (disch := omega) only [Option.bind_some, jlt_eq, ↓reduceIte, eq_self, jinT, zleT, zleF, zltT, zltF, zeq, zpos, zpos', zcl, zm6, z6, z84, z24, z14, z8, nI_add, zd0, zd1, zd2, zd3, zd4, zd5, bitI_e, bI0, bI1, m_isOpen R I hj, p_X6_openSet_b31]
    cases a.opn j
    · simp only [Bool.false_eq_true, ↓reduceIte, Int32.or_zero]
    · simp only [Bool.true_eq_false, ↓reduceIte]
theorem m_holds (hN : 2000 ≤ N) (R : RM (G 1) a) (I : a.I) {p : Nat} (hp : p < a.np) : p_X6_holds N G J (nI p) = some (a.held p) := by
  have h1 := I.nt
  have h2 := I.np
  unfold p_X6_holds TA.held sm
  refine lp_it (L := fun n s i => p_X6_holds_b4 N G J n (nI p) s i) (m := a.nt) (fin := some) ?_ ?_ a.nt 0 N 0 (by omega) (by omega)
  · intro n s
    show p_X6_holds_b4 N G J (n + 1) (nI p) s (nI a.nt) = _
    rw [p_X6_holds_b4, R.nt]
    simp (disch := omega) only [Option.bind_some, jlt_eq, ↓reduceIte, eq_self, jinT, zleT, zleF, zltT, zltF, zeq, zpos, zpos', zcl, zm6, z6, z84, z24, z14, z8, nI_add, zd0, zd1, zd2, zd3, zd4, zd5, bitI_e, bI0, bI1]
  · intro n s j hj
    have h3 := I.ho j hj
    show p_X6_holds_b4 N G J (n + 1) (nI p) s (nI j) = p_X6_holds_b4 N G J n (nI p) _ _
    rw [p_X6_holds_b4, R.nt]
    simp (disch := omega) only [Option.bind_some, jlt_eq, ↓reduceIte, eq_self, jinT, zleT, zleF, zltT, zltF, zeq, zpos, zpos', zcl, zm6, z6, z84, z24, z14, z8, nI_add, zd0, zd1, zd2, zd3, zd4, zd5, bitI_e, bI0, bI1, R.ho j hj, p_X6_holds_b33]
    by_cases h : a.ho j = p
    · rw [if_pos h, if_pos h]
    · rw [if_neg h, if_neg h]
theorem m_wealth (hN : 2000 ≤ N) (R : RM (G 1) a) (I : a.I) {p : Nat} (hp : p < a.np) : p_X6_wealth N G J (nI p) = some (a.wealth p) := by
  have h1 := I.nt
  have h2 := I.np
  unfold p_X6_wealth TA.wealth
  simp (disch := omega) only [Option.bind_some, jlt_eq, ↓reduceIte, eq_self, jinT, zleT, zleF, zltT, zltF, zeq, zpos, zpos', zcl, zm6, z6, z84, z24, z14, z8, nI_add, zd0, zd1, zd2, zd3, zd4, zd5, bitI_e, bI0, bI1, R.co p (by omega)]
  rw [← it_add]
  refine lp_it (L := fun n s i => p_X6_wealth_b12 N G J n (nI p) s i) (m := a.nt) (fin := some) ?_ ?_ a.nt 0 N _ (by omega) (by omega)
  · intro n s
    show p_X6_wealth_b12 N G J (n + 1) (nI p) s (nI a.nt) = _
    rw [p_X6_wealth_b12, R.nt]
    simp (disch := omega) only [Option.bind_some, jlt_eq, ↓reduceIte, eq_self, jinT, zleT, zleF, zltT, zltF, zeq, zpos, zpos', zcl, zm6, z6, z84, z24, z14, z8, nI_add, zd0, zd1, zd2, zd3, zd4, zd5, bitI_e, bI0, bI1]
  · intro n s j hj
    have h3 := I.ho j hj
    show p_X6_wealth_b12 N G J (n + 1) (nI p) s (nI j) = p_X6_wealth_b12 N G J n (nI p) _ _
    rw [p_X6_wealth_b12, R.nt]
    simp (disch := omega) only [Option.bind_some, jlt_eq, ↓reduceIte, eq_self, jinT, zleT, zleF, zltT, zltF, zeq, zpos, zpos', zcl, zm6, z6, z84, z24, z14, z8, nI_add, zd0, zd1, zd2, zd3, zd4, zd5, bitI_e, bI0, bI1, R.ho j hj, p_X6_wealth_b46, m_worthTo R (show j < 10 by omega) (show p < 6 by omega)]
    by_cases h : a.ho j = p
    · rw [if_pos h, if_pos h]
    · rw [if_neg h, if_neg h]
def TA.stands (a : TA) : Int32 := sm (fun d => bI (a.st d)) 0 a.nd
theorem m_standMany (hN : 2000 ≤ N) (R : RM (G 1) a) (I : a.I) : p_X6_standMany N G J = some a.stands := by
  have h1 := I.nd
  unfold p_X6_standMany TA.stands sm
  refine lp_it (L := fun n s i => p_X6_standMany_b4 N G J n s i) (m := a.nd) (fin := some) ?_ ?_ a.nd 0 N _ (by omega) (by omega)
  · intro n s
    show p_X6_standMany_b4 N G J (n + 1) s (nI a.nd) = _
    rw [p_X6_standMany_b4, R.nd]
    simp (disch := omega) only [Option.bind_some, jlt_eq, ↓reduceIte, eq_self, jinT, zleT, zleF, zltT, zltF, zeq, zpos, zpos', zcl, zm6, z6, z84, z24, z14, z8, nI_add, zd0, zd1, zd2, zd3, zd4, zd5, bitI_e, bI0, bI1]
  · intro n s j hj
    show p_X6_standMany_b4 N G J (n + 1) s (nI j) = p_X6_standMany_b4 N G J n _ _
    rw [p_X6_standMany_b4, R.nd]
    simp (disch := omega) only [Option.bind_some, jlt_eq, ↓reduceIte, eq_self, jinT, zleT, zleF, zltT, zltF, zeq, zpos, zpos', zcl, zm6, z6, z84, z24, z14, z8, nI_add, zd0, zd1, zd2, zd3, zd4, zd5, bitI_e, bI0, bI1, m_of4 R I.nd hj]
theorem m_worthOf1 (R : RM (G 1) a) (I : a.I) {d : Nat} (hd : d < a.nd) : p_X6_worthOf N G J (nI d) 1 = some (a.wg d) := by
  have h1 := I.nd
  have h2 := I.th d hd
  have h3 := I.gi d hd
  have h4 := I.np
  have h5 := I.nt
  have h6 : ¬ ((1 : Int32) = 0) := by decide
  unfold p_X6_worthOf TA.wg mx
  simp (disch := omega) only [Option.bind_some, jlt_eq, ↓reduceIte, eq_self, jinT, zleT, zleF, zltT, zltF, zeq, zpos, zpos', zcl, zm6, z6, z84, z24, z14, z8, nI_add, zd0, zd1, zd2, zd3, zd4, zd5, bitI_e, bI0, bI1, h6, m_of0 R I.nd hd, m_of1 R I.nd hd, m_of3 R I.nd hd, p_X6_worthOf_b53, m_worthTo R (show a.th d < 10 by omega) (show a.gi d < 6 by omega)]
theorem m_worthOf0 (R : RM (G 1) a) (I : a.I) {d : Nat} (hd : d < a.nd) : p_X6_worthOf N G J (nI d) 0 = some (a.wt d) := by
  have h1 := I.nd
  have h2 := I.th d hd
  have h3 := I.ta d hd
  have h4 := I.np
  have h5 := I.nt
  unfold p_X6_worthOf TA.wt mx
  simp (disch := omega) only [Option.bind_some, jlt_eq, ↓reduceIte, eq_self, jinT, zleT, zleF, zltT, zltF, zeq, zpos, zpos', zcl, zm6, z6, z84, z24, z14, z8, nI_add, zd0, zd1, zd2, zd3, zd4, zd5, bitI_e, bI0, bI1, m_of0 R I.nd hd, m_of2 R I.nd hd, m_of3 R I.nd hd, p_X6_worthOf_b53, m_worthTo R (show a.th d < 10 by omega) (show a.ta d < 6 by omega)]
theorem m_fallsOf (hN : 2000 ≤ N) (R : RM (G 1) a) (I : a.I) {d : Nat} (hd : d < a.nd) : p_X6_fallsOf N G J (nI d) = some (a.fb d) := by
  have h1 := I.nd
  have h2 := I.nt
  have h3 := I.th d hd
  unfold p_X6_fallsOf
  cases e : a.st d
  · have e2 : a.fb d = 0 := by
      unfold TA.fb
      rw [it_congr (g := fun s _ => s) _ _ _ (fun s i _ _ => by simp [TA.fw, e])]
      generalize a.nd - d = k
      generalize d = j
      induction k generalizing j with
      | zero => rfl
      | succ k ih => exact ih (j + 1)
    obtain ⟨m, hm⟩ : ∃ m, N = m + 1 := ⟨N - 1, by omega⟩
    rw [hm, p_X6_fallsOf_b4, R.nd, ← hm, m_of4 R I.nd hd, e2, e]
    simp (disch := omega) only [Option.bind_some, jlt_eq, ↓reduceIte, eq_self, jinT, zleT, zleF, zltT, zltF, zeq, zpos, zpos', zcl, zm6, z6, z84, z24, z14, z8, nI_add, zd0, zd1, zd2, zd3, zd4, zd5, bitI_e, bI0, bI1, Bool.false_eq_true]
  · unfold TA.fb
    refine lp_itd (L := fun n s i => p_X6_fallsOf_b4 N G J n (nI d) s i) (m := a.nd) (d := d) (fin := some) ?_ ?_ (a.nd - d) d N 0 (by omega) (by omega) (by omega)
    · intro n s
      show p_X6_fallsOf_b4 N G J (n + 1) (nI d) s (nI a.nd) = _
      rw [p_X6_fallsOf_b4, R.nd]
      simp (disch := omega) only [Option.bind_some, jlt_eq, ↓reduceIte, eq_self, jinT, zleT, zleF, zltT, zltF, zeq, zpos, zpos', zcl, zm6, z6, z84, z24, z14, z8, nI_add, zd0, zd1, zd2, zd3, zd4, zd5, bitI_e, bI0, bI1]
    · intro n s j hdj hj
      have h4 := I.th j hj
      show p_X6_fallsOf_b4 N G J (n + 1) (nI d) s (nI j) = p_X6_fallsOf_b4 N G J n (nI d) _ _
      rw [p_X6_fallsOf_b4, R.nd]
      simp (disch := omega) only [Option.bind_some, jlt_eq, ↓reduceIte, eq_self, jinT, zleT, zleF, zltT, zltF, zeq, zpos, zpos', zcl, zm6, z6, z84, z24, z14, z8, nI_add, zd0, zd1, zd2, zd3, zd4, zd5, bitI_e, bI0, bI1, m_of4 R I.nd hd, m_of4 R I.nd hj, m_of0 R I.nd hd, m_of0 R I.nd hj, p_X6_fallsOf_b58, p_X6_fallsOf_b57, e]
      unfold TA.fw
      rw [decide_eq_true hdj, e]
      by_cases h5 : a.th j = a.th d
      · rw [if_pos h5, decide_eq_true h5]
        cases a.st j
        · simp only [Bool.false_eq_true, ↓reduceIte, Int32.or_zero, Bool.and_true, Bool.and_false]
        · simp only [↓reduceIte, Bool.and_true]
      · rw [if_neg h5, decide_eq_false h5]
        simp only [Bool.false_eq_true, ↓reduceIte, Int32.or_zero, Bool.and_false]
/-- what falls, as the bits say it -/
theorem fb_bit (I : TA.I a) {d f : Nat} (hd : d < a.nd) (hf : f < 32) : bt (a.fb d) f = (decide (f < a.nd) && a.fw d f) := by
  have h1 := I.nd
  unfold TA.fb
  rw [it_bits _ _ _ _ _ hf (by omega), b_0, Bool.false_or]
  by_cases h : d ≤ f
  · rw [decide_eq_true h, Bool.true_and, show d + (a.nd - d) = a.nd by omega]
  · have e : a.fw d f = false := by unfold TA.fw; rw [decide_eq_false h]; rfl
    rw [e, Bool.and_false, Bool.and_false]
/-- what is paid for a set of deeds -/
def TA.pays (a : TA) (S : Int32) (b to : Nat) : Int32 := if to = b then 0 else sm (fun f => if bt S f = true then a.owf to f else 0) 0 a.nd
theorem m_pays (hN : 2000 ≤ N) (R : RM (G 1) a) (I : a.I) {S : Int32} {b p : Nat} (hb : b < 6) (hp : p < 6) : p_X6_pays N G J S (nI b) (nI p) = some (a.pays S b p) := by
  have h1 := I.nd
  have h2 := I.np
  unfold p_X6_pays TA.pays sm
  by_cases e : p = b
  · rw [if_pos e]
    obtain ⟨m, hm⟩ : ∃ m, N = m + 1 := ⟨N - 1, by omega⟩
    rw [hm, p_X6_pays_b6, R.nd]
    by_cases h0 : a.nd = 0
    · simp (disch := omega) only [Option.bind_some, jlt_eq, ↓reduceIte, eq_self, jinT, zleT, zleF, zltT, zltF, zeq, zpos, zpos', zcl, zm6, z6, z84, z24, z14, z8, nI_add, zd0, zd1, zd2, zd3, zd4, zd5, bitI_e, bI0, bI1, h0]
      rfl
    · rw [show ((0 : Int32)) = nI 0 from nI_0.symm]
      simp (disch := omega) only [Option.bind_some, jlt_eq, ↓reduceIte, eq_self, jinT, zleT, zleF, zltT, zltF, zeq, zpos, zpos', zcl, zm6, z6, z84, z24, z14, z8, nI_add, zd0, zd1, zd2, zd3, zd4, zd5, bitI_e, bI0, bI1, e]
  · rw [if_neg e]
    refine lp_it (L := fun n s i => p_X6_pays_b6 N G J n S (nI b) (nI p) s i) (m := a.nd) (fin := some) ?_ ?_ a.nd 0 N 0 (by omega) (by omega)
    · intro n s
      show p_X6_pays_b6 N G J (n + 1) S (nI b) (nI p) s (nI a.nd) = _
      rw [p_X6_pays_b6, R.nd]
      simp (disch := omega) only [Option.bind_some, jlt_eq, ↓reduceIte, eq_self, jinT, zleT, zleF, zltT, zltF, zeq, zpos, zpos', zcl, zm6, z6, z84, z24, z14, z8, nI_add, zd0, zd1, zd2, zd3, zd4, zd5, bitI_e, bI0, bI1]
    · intro n s j hj
      have h3 := I.gi j hj
      have h4 := I.ta j hj
      show p_X6_pays_b6 N G J (n + 1) S (nI b) (nI p) s (nI j) = p_X6_pays_b6 N G J n S (nI b) (nI p) _ _
      rw [p_X6_pays_b6, R.nd, bt_test S (show j < 32 by omega)]
      simp (disch := omega) only [Option.bind_some, jlt_eq, ↓reduceIte, eq_self, jinT, zleT, zleF, zltT, zltF, zeq, zpos, zpos', zcl, zm6, z6, z84, z24, z14, z8, nI_add, zd0, zd1, zd2, zd3, zd4, zd5, bitI_e, bI0, bI1, e, p_X6_pays_b109, p_X6_pays_b106, p_X6_pays_b69, m_of1 R I.nd hj, m_of2 R I.nd hj, m_worthOf1 R I hj, m_worthOf0 R I hj, R.sh]
      unfold TA.owf TA.cut
      cases bt S j
      · simp only [Bool.false_eq_true, ↓reduceIte, Int32.add_zero]
      · by_cases h5 : a.ta j = p <;> by_cases h6 : a.gi j = p <;> simp only [h5, h6, ↓reduceIte, Bool.true_eq_false, Int32.add_assoc, Int32.add_zero, Int32.zero_add]
/-- the payments of a fall -/
theorem pays_fb (I : TA.I a) {d b p : Nat} (hd : d < a.nd) : a.pays (a.fb d) b p = a.ow d b p := by
  have h1 := I.nd
  unfold TA.pays TA.ow
  by_cases e : p = b
  · rw [if_pos e, if_pos e]
  · have e3 : sm (fun f => if bt (a.fb d) f = true then a.owf p f else 0) 0 a.nd = sm (fun f => if bt (a.fb d) f = true then a.owf p f else 0) 0 (d + (a.nd - d)) := by
      congr 1; omega
    rw [if_neg e, if_neg e, e3, sm_app, sm_zero d 0, Int32.zero_add, Nat.zero_add]
    · apply sm_congr
      intro i h2 h3
      rw [fb_bit I hd (by omega), decide_eq_true (show i < a.nd by omega), Bool.true_and]
    · intro i h2 h3
      rw [fb_bit I hd (by omega)]
      have e : a.fw d i = false := by unfold TA.fw; rw [decide_eq_false (by omega)]; rfl
      rw [e, Bool.and_false]
      rfl
end model

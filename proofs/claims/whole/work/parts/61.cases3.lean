/-! the calls that only answer: the rest -/
section cases3
variable {N : Nat} {G : Nat → Nat → Int32} {J : Nat → Nat → Int64} {a : TA} {s : SA} {xs : Nat → Int32} {i : Int32}
/-- longest -/
def TA.loS (a : TA) : Int32 × Int32 → Nat → Int32 × Int32 := fun f t => if a.chl t ≤ f.1 then f else (a.chl t, nI t)
def TA.longest (a : TA) : Int32 := (it a.loS 0 a.nt ((0 : Int32), (-1 : Int32))).2
theorem x_longest (hN : 2000 ≤ N) (R : RC (jvw G 1) a) (I : a.I) : p_X5_longest N G J = some a.longest := by
  have h1 := I.nt
  have e2 : G 1 2 = nI a.nt := R.nt
  unfold p_X5_longest TA.longest
  refine lp_it (L := fun n (f : Int32 × Int32) j => p_X5_longest_b6 N G J n f.1 f.2 j) (m := a.nt) (fin := fun f => some f.2) ?_ ?_ a.nt 0 N (0, -1) (by omega) (by omega)
  · intro n f
    show p_X5_longest_b6 N G J (n + 1) f.1 f.2 (nI a.nt) = _
    rw [p_X5_longest_b6, e2]
    simp (disch := omega) only [Option.bind_some, jlt_eq, ↓reduceIte, eq_self, jinT, zleT, zleF, zltT, zltF, zeq, zpos, zpos', zcl, zm6, z6, z84, z24, z14, z8, nI_add, zd0, zd1, zd2, zd3, zd4, zd5, bitI_e, bI0, bI1]
  · intro n f j hj
    show p_X5_longest_b6 N G J (n + 1) f.1 f.2 (nI j) = p_X5_longest_b6 N G J n _ _ _
    rw [p_X5_longest_b6, e2]
    simp (disch := omega) only [Option.bind_some, jlt_eq, ↓reduceIte, eq_self, jinT, zleT, zleF, zltT, zltF, zeq, zpos, zpos', zcl, zm6, z6, z84, z24, z14, z8, nI_add, zd0, zd1, zd2, zd3, zd4, zd5, bitI_e, bI0, bI1, c_chainLength hN R I hj, p_X5_longest_b38]
    unfold TA.loS
    by_cases h : a.chl j ≤ f.1
    · rw [if_pos h, if_pos h]
    · rw [if_neg h, if_neg h]
theorem i_le_lt {x y : Int32} : (x < y) = ¬ (y ≤ x) := by
  refine propext ?_
  rw [Int32.lt_iff_toInt_lt, Int32.le_iff_toInt_le]
  omega
theorem m_longest (hN : 2000 ≤ N) (R : RM (G 1) a) (I : a.I) : p_X6_longest_b11 N J N G (-1) 0 0 = some (a.longest, G) := by
  have h1 := I.nt
  have h2 := I.nd
  unfold TA.longest
  refine lp_it (L := fun n (f : Int32 × Int32) j => p_X6_longest_b11 N J n G f.2 f.1 j) (m := a.nt) (fin := fun f => some (f.2, G)) ?_ ?_ a.nt 0 N (0, -1) (by omega) (by omega)
  · intro n f
    show p_X6_longest_b11 N J (n + 1) G f.2 f.1 (nI a.nt) = _
    rw [p_X6_longest_b11, R.nt]
    simp (disch := omega) only [Option.bind_some, jlt_eq, ↓reduceIte, eq_self, jinT, zleT, zleF, zltT, zltF, zeq, zpos, zpos', zcl, zm6, z6, z84, z24, z14, z8, nI_add, zd0, zd1, zd2, zd3, zd4, zd5, bitI_e, bI0, bI1]
  · intro n f j hj
    show p_X6_longest_b11 N J (n + 1) G f.2 f.1 (nI j) = p_X6_longest_b11 N J n G _ _ _
    rw [p_X6_longest_b11, R.nt]
    simp (disch := omega) only [Option.bind_some, jlt_eq, ↓reduceIte, eq_self, jinT, zleT, zleF, zltT, zltF, zeq, zpos, zpos', zcl, zm6, z6, z84, z24, z14, z8, nI_add, zd0, zd1, zd2, zd3, zd4, zd5, bitI_e, bI0, bI1]
    have inner : p_X6_longest_b27 N J (p_X6_longest_b11 N J n) N G f.2 f.1 (nI j) 0 0 = (fun v => if f.1 < v then p_X6_longest_b11 N J n G (nI j) v (nI (j + 1)) else p_X6_longest_b11 N J n G f.2 f.1 (nI (j + 1))) (a.chl j) := by
      unfold TA.chl sm
      refine lp_it (L := fun n2 v k => p_X6_longest_b27 N J (p_X6_longest_b11 N J n) n2 G f.2 f.1 (nI j) v k) (m := a.nd) (fin := fun v => if f.1 < v then p_X6_longest_b11 N J n G (nI j) v (nI (j + 1)) else p_X6_longest_b11 N J n G f.2 f.1 (nI (j + 1))) ?_ ?_ a.nd 0 N 0 (by omega) (by omega)
      · intro n2 v
        show p_X6_longest_b27 N J (p_X6_longest_b11 N J n) (n2 + 1) G f.2 f.1 (nI j) v (nI a.nd) = _
        rw [p_X6_longest_b27, R.nd]
        simp (disch := omega) only [Option.bind_some, jlt_eq, ↓reduceIte, eq_self, jinT, zleT, zleF, zltT, zltF, zeq, zpos, zpos', zcl, zm6, z6, z84, z24, z14, z8, nI_add, zd0, zd1, zd2, zd3, zd4, zd5, bitI_e, bI0, bI1, p_X6_longest_b86]
      · intro n2 v k hk
        have h3 := I.th k hk
        show p_X6_longest_b27 N J (p_X6_longest_b11 N J n) (n2 + 1) G f.2 f.1 (nI j) v (nI k) = p_X6_longest_b27 N J (p_X6_longest_b11 N J n) n2 G f.2 f.1 (nI j) _ _
        rw [p_X6_longest_b27, R.nd]
        simp (disch := omega) only [Option.bind_some, jlt_eq, ↓reduceIte, eq_self, jinT, zleT, zleF, zltT, zltF, zeq, zpos, zpos', zcl, zm6, z6, z84, z24, z14, z8, nI_add, zd0, zd1, zd2, zd3, zd4, zd5, bitI_e, bI0, bI1, m_of0 R I.nd hk, m_of4 R I.nd hk, p_X6_longest_b63]
        by_cases h : a.th k = j
        · rw [if_pos h, if_pos h]
        · rw [if_neg h, if_neg h]
    rw [inner]
    unfold TA.loS
    dsimp only
    by_cases h : a.chl j ≤ f.1
    · rw [if_pos h, if_neg (by rw [i_le_lt]; exact fun e => e h)]
    · rw [if_neg h, if_pos (by rw [i_le_lt]; exact h)]
theorem case_27 (hN : 2000 ≤ N) (hL : LR G J s) : Ok (p_case_27 N xs G J i) (fun r => ∃ s, LR r.1 r.2 s) := by
  have R := hL.1.now
  have M := hL.2.1
  have I := hL.2.2.now
  unfold p_case_27 p_X6_longest
  rw [x_longest hN R I]
  refine k_A (s2 := s) hL.1 hL.2.2 ?_
  rw [jlt_eq, m_longest hN (thrR M.now 0) I]
  exact Ok.s ⟨rfl, M.k (thrR M.now 0) (KM.thr 0) rfl (SA.eta s)⟩
/-- swaps -/
def TA.swI (a : TA) (x : Int32) (i : Nat) : Int32 → Nat → Int32 ⊕ (Int32 ⊕ Int32) := fun f j => if (a.wants i j && a.wants j i) = true then (if f = x then .inr (.inr (100 * nI i + nI j)) else .inl (f + 1)) else .inl f
def TA.swO (a : TA) (x : Int32) : Int32 → Nat → Int32 ⊕ Int32 := fun f i => ix (a.swI x i) .inl (i + 1) (a.nt - (i + 1)) f
def TA.swaps (a : TA) (x : Int32) : Int32 := ix (a.swO x) (fun f => if x = -1 then f else -1) 0 a.nt 0
theorem x_swaps (hN : 2000 ≤ N) (R : RC (jvw G 1) a) (I : a.I) {x : Int32} : p_X5_swaps N G J x = some (a.swaps x) := by
  have h1 := I.nt
  have e2 : G 1 2 = nI a.nt := R.nt
  unfold p_X5_swaps TA.swaps
  refine lp_ix (L := fun n f j => p_X5_swaps_b4 N G J n x f j) (m := a.nt) (o := some) ?_ ?_ a.nt 0 N 0 (by omega) (by omega)
  · intro n f
    show p_X5_swaps_b4 N G J (n + 1) x f (nI a.nt) = _
    rw [p_X5_swaps_b4, e2]
    simp (disch := omega) only [Option.bind_some, jlt_eq, ↓reduceIte, eq_self, jinT, zleT, zleF, zltT, zltF, zeq, zpos, zpos', zcl, zm6, z6, z84, z24, z14, z8, nI_add, zd0, zd1, zd2, zd3, zd4, zd5, bitI_e, bI0, bI1]
    by_cases h : x = -1
    · rw [if_pos h, if_pos h]
    · rw [if_neg h, if_neg h]
  · intro n f j hj
    show p_X5_swaps_b4 N G J (n + 1) x f (nI j) = _
    rw [p_X5_swaps_b4, e2]
    simp (disch := omega) only [Option.bind_some, jlt_eq, ↓reduceIte, eq_self, jinT, zleT, zleF, zltT, zltF, zeq, zpos, zpos', zcl, zm6, z6, z84, z24, z14, z8, nI_add, zd0, zd1, zd2, zd3, zd4, zd5, bitI_e, bI0, bI1]
    refine Eq.trans (b := match a.swO x f j with
      | .inl f2 => p_X5_swaps_b4 N G J n x f2 (nI (j + 1))
      | .inr v => some v) ?_ (by cases a.swO x f j <;> rfl)
    unfold TA.swO
    refine lp_ix (L := fun n2 f k => p_X5_swaps_b20 N G J (p_X5_swaps_b4 N G J n) n2 x f (nI j) k) (m := a.nt) (step := a.swI x j) (fin := .inl) (o := fun r => match r with
      | .inl f2 => p_X5_swaps_b4 N G J n x f2 (nI (j + 1))
      | .inr v => some v) ?_ ?_ (a.nt - (j + 1)) (j + 1) N f (by omega) (by omega)
    · intro n2 f
      show p_X5_swaps_b20 N G J (p_X5_swaps_b4 N G J n) (n2 + 1) x f (nI j) (nI a.nt) = _
      rw [p_X5_swaps_b20, e2]
      simp (disch := omega) only [Option.bind_some, jlt_eq, ↓reduceIte, eq_self, jinT, zleT, zleF, zltT, zltF, zeq, zpos, zpos', zcl, zm6, z6, z84, z24, z14, z8, nI_add, zd0, zd1, zd2, zd3, zd4, zd5, bitI_e, bI0, bI1]
    · intro n2 f k hk
      show p_X5_swaps_b20 N G J (p_X5_swaps_b4 N G J n) (n2 + 1) x f (nI j) (nI k) = _
      rw [p_X5_swaps_b20, e2]
      simp (disch := omega) only [Option.bind_some, jlt_eq, ↓reduceIte, eq_self, jinT, zleT, zleF, zltT, zltF, zeq, zpos, zpos', zcl, zm6, z6, z84, z24, z14, z8, nI_add, zd0, zd1, zd2, zd3, zd4, zd5, bitI_e, bI0, bI1, c_wants R I hj hk, c_wants R I hk hj, p_X5_swaps_b74]
      unfold TA.swI
      by_cases h6 : f = x <;> cases a.wants j k <;> cases a.wants k j <;> simp only [h6, Bool.true_eq_false, Bool.false_eq_true, Bool.and_true, Bool.and_false, ↓reduceIte]
def TA.rather (a : TA) (i j : Nat) : Bool := !decide (a.wo j (a.ho i) ≤ a.wo i (a.ho i))
theorem m_rather (R : RM (G 1) a) (I : a.I) {i j : Nat} (hi : i < a.nt) (hj : j < a.nt) : p_X6_rather N G J (nI i) (nI j) = some (bI (a.rather i j)) := by
  have h1 := I.nt
  have h2 := I.np
  have h3 := I.ho i hi
  unfold p_X6_rather TA.rather
  simp (disch := omega) only [Option.bind_some, jlt_eq, ↓reduceIte, eq_self, jinT, zleT, zleF, zltT, zltF, zeq, zpos, zpos', zcl, zm6, z6, z84, z24, z14, z8, nI_add, zd0, zd1, zd2, zd3, zd4, zd5, bitI_e, bI0, bI1, R.ho i hi, m_worthTo R (show j < 10 by omega) (show a.ho i < 6 by omega), m_worthTo R (show i < 10 by omega) (show a.ho i < 6 by omega)]
  by_cases h5 : a.wo j (a.ho i) ≤ a.wo i (a.ho i)
  · rw [if_pos h5, decide_eq_true h5]; rfl
  · rw [if_neg h5, decide_eq_false h5]; rfl
theorem m_isHeld (R : RM (G 1) a) {t : Nat} (ht : t < 32) : p_X6_isHeld N G J (nI t) = some (bI (!a.eat t)) := by
  unfold p_X6_isHeld
  rw [m_isEaten R ht]
  cases a.eat t <;> rfl
theorem wants_e (a : TA) (i j : Nat) : a.wants i j = (!decide (a.ho i = a.ho j) && (!a.eat i && (!a.eat j && a.rather i j))) := rfl
theorem m_swaps (hN : 2000 ≤ N) (R : RM (G 1) a) (I : a.I) {x : Int32} : p_X6_swaps_b9 N J N G x 0 0 = some (a.swaps x, G) := by
  have h1 := I.nt
  have h9 := I.np
  unfold TA.swaps
  refine lp_ix (L := fun n f j => p_X6_swaps_b9 N J n G x f j) (m := a.nt) (o := fun r => some (r, G)) ?_ ?_ a.nt 0 N 0 (by omega) (by omega)
  · intro n f
    show p_X6_swaps_b9 N J (n + 1) G x f (nI a.nt) = _
    rw [p_X6_swaps_b9, R.nt]
    simp (disch := omega) only [Option.bind_some, jlt_eq, ↓reduceIte, eq_self, jinT, zleT, zleF, zltT, zltF, zeq, zpos, zpos', zcl, zm6, z6, z84, z24, z14, z8, nI_add, zd0, zd1, zd2, zd3, zd4, zd5, bitI_e, bI0, bI1]
    by_cases h : x = -1
    · rw [if_pos h, if_pos h]
    · rw [if_neg h, if_neg h]
  · intro n f j hj
    show p_X6_swaps_b9 N J (n + 1) G x f (nI j) = _
    rw [p_X6_swaps_b9, R.nt]
    simp (disch := omega) only [Option.bind_some, jlt_eq, ↓reduceIte, eq_self, jinT, zleT, zleF, zltT, zltF, zeq, zpos, zpos', zcl, zm6, z6, z84, z24, z14, z8, nI_add, zd0, zd1, zd2, zd3, zd4, zd5, bitI_e, bI0, bI1]
    refine Eq.trans (b := match a.swO x f j with
      | .inl f2 => p_X6_swaps_b9 N J n G x f2 (nI (j + 1))
      | .inr v => some (v, G)) ?_ (by cases a.swO x f j <;> rfl)
    unfold TA.swO
    refine lp_ix (L := fun n2 f k => p_X6_swaps_b24 N J (p_X6_swaps_b9 N J n) n2 G x f (nI j) k) (m := a.nt) (step := a.swI x j) (fin := .inl) (o := fun r => match r with
      | .inl f2 => p_X6_swaps_b9 N J n G x f2 (nI (j + 1))
      | .inr v => some (v, G)) ?_ ?_ (a.nt - (j + 1)) (j + 1) N f (by omega) (by omega)
    · intro n2 f
      show p_X6_swaps_b24 N J (p_X6_swaps_b9 N J n) (n2 + 1) G x f (nI j) (nI a.nt) = _
      rw [p_X6_swaps_b24, R.nt]
      simp (disch := omega) only [Option.bind_some, jlt_eq, ↓reduceIte, eq_self, jinT, zleT, zleF, zltT, zltF, zeq, zpos, zpos', zcl, zm6, z6, z84, z24, z14, z8, nI_add, zd0, zd1, zd2, zd3, zd4, zd5, bitI_e, bI0, bI1]
    · intro n2 f k hk
      have h3 := I.ho j hj
      have h4 := I.ho k hk
      show p_X6_swaps_b24 N J (p_X6_swaps_b9 N J n) (n2 + 1) G x f (nI j) (nI k) = _
      rw [p_X6_swaps_b24, R.nt]
      simp (disch := omega) only [Option.bind_some, jlt_eq, ↓reduceIte, eq_self, jinT, zleT, zleF, zltT, zltF, zeq, zpos, zpos', zcl, zm6, z6, z84, z24, z14, z8, nI_add, zd0, zd1, zd2, zd3, zd4, zd5, bitI_e, bI0, bI1, m_isHeld R, R.ho j hj, R.ho k hk, m_rather R I hj hk, m_rather R I hk hj, p_X6_swaps_b113]
      unfold TA.swI
      rw [wants_e, wants_e]
      have s2 : (a.ho k = a.ho j) = (a.ho j = a.ho k) := propext ⟨Eq.symm, Eq.symm⟩
      simp only [s2]
      by_cases h5 : a.ho j = a.ho k <;> by_cases h6 : f = x <;> cases a.eat j <;> cases a.eat k <;> cases a.rather j k <;> cases a.rather k j <;> simp only [h5, h6, decide_true, decide_false, Bool.not_true, Bool.not_false, Bool.true_eq_false, Bool.false_eq_true, Bool.and_true, Bool.and_false, Bool.true_and, Bool.false_and, ↓reduceIte]
theorem case_37 (hN : 2000 ≤ N) (hL : LR G J s) : Ok (p_case_37 N xs G J i) (fun r => ∃ s, LR r.1 r.2 s) := by
  have R := hL.1.now
  have M := hL.2.1
  have I := hL.2.2.now
  unfold p_case_37 p_X6_swaps
  rw [x_swaps hN R I]
  refine k_A (s2 := s) hL.1 hL.2.2 ?_
  rw [jlt_eq, m_swaps hN (thrR M.now 0) I]
  exact Ok.s ⟨rfl, M.k (thrR M.now 0) (KM.thr 0) rfl (SA.eta s)⟩
/-- threes -/
def TA.ring (a : TA) (i j l : Nat) : Bool := a.wants i j && (a.wants j l && a.wants l i)
def TA.thI (a : TA) (x : Int32) (i j : Nat) : Int32 → Nat → Int32 ⊕ (Int32 ⊕ Int32) := fun f l => if a.ring i j l = true then (if f = x then .inr (.inr (10000 * nI i + 100 * nI j + nI l)) else .inl (f + 1)) else .inl f
def TA.thM (a : TA) (x : Int32) (i : Nat) : Int32 → Nat → Int32 ⊕ (Int32 ⊕ Int32) := fun f j => match ix (a.thI x i j) .inl (i + 1) (a.nt - (i + 1)) f with
  | .inl f2 => .inl f2
  | .inr v => .inr (.inr v)
def TA.thO (a : TA) (x : Int32) : Int32 → Nat → Int32 ⊕ Int32 := fun f i => ix (a.thM x i) .inl (i + 1) (a.nt - (i + 1)) f
def TA.threes (a : TA) (x : Int32) : Int32 := ix (a.thO x) (fun f => if x = -1 then f else -1) 0 a.nt 0
theorem x_threes (hN : 2000 ≤ N) (R : RC (jvw G 1) a) (I : a.I) {x : Int32} : p_X5_threes N G J x = some (a.threes x) := by
  have h1 := I.nt
  have e2 : G 1 2 = nI a.nt := R.nt
  unfold p_X5_threes TA.threes
  refine lp_ix (L := fun n f j => p_X5_threes_b4 N G J n x f j) (m := a.nt) (o := some) ?_ ?_ a.nt 0 N 0 (by omega) (by omega)
  · intro n f
    show p_X5_threes_b4 N G J (n + 1) x f (nI a.nt) = _
    rw [p_X5_threes_b4, e2]
    simp (disch := omega) only [Option.bind_some, jlt_eq, ↓reduceIte, eq_self, jinT, zleT, zleF, zltT, zltF, zeq, zpos, zpos', zcl, zm6, z6, z84, z24, z14, z8, nI_add, zd0, zd1, zd2, zd3, zd4, zd5, bitI_e, bI0, bI1]
    by_cases h : x = -1
    · rw [if_pos h, if_pos h]
    · rw [if_neg h, if_neg h]
  · intro n f j hj
    show p_X5_threes_b4 N G J (n + 1) x f (nI j) = _
    rw [p_X5_threes_b4, e2]
    simp (disch := omega) only [Option.bind_some, jlt_eq, ↓reduceIte, eq_self, jinT, zleT, zleF, zltT, zltF, zeq, zpos, zpos', zcl, zm6, z6, z84, z24, z14, z8, nI_add, zd0, zd1, zd2, zd3, zd4, zd5, bitI_e, bI0, bI1]
    refine Eq.trans (b := match a.thO x f j with
      | .inl f2 => p_X5_threes_b4 N G J n x f2 (nI (j + 1))
      | .inr v => some v) ?_ (by cases a.thO x f j <;> rfl)
    unfold TA.thO
    refine lp_ix (L := fun n2 f k => p_X5_threes_b20 N G J (p_X5_threes_b4 N G J n) n2 x f (nI j) k) (m := a.nt) (step := a.thM x j) (fin := .inl) (o := fun r => match r with
      | .inl f2 => p_X5_threes_b4 N G J n x f2 (nI (j + 1))
      | .inr v => some v) ?_ ?_ (a.nt - (j + 1)) (j + 1) N f (by omega) (by omega)
    · intro n2 f
      show p_X5_threes_b20 N G J (p_X5_threes_b4 N G J n) (n2 + 1) x f (nI j) (nI a.nt) = _
      rw [p_X5_threes_b20, e2]
      simp (disch := omega) only [Option.bind_some, jlt_eq, ↓reduceIte, eq_self, jinT, zleT, zleF, zltT, zltF, zeq, zpos, zpos', zcl, zm6, z6, z84, z24, z14, z8, nI_add, zd0, zd1, zd2, zd3, zd4, zd5, bitI_e, bI0, bI1]
    · intro n2 f k hk
      show p_X5_threes_b20 N G J (p_X5_threes_b4 N G J n) (n2 + 1) x f (nI j) (nI k) = _
      rw [p_X5_threes_b20, e2]
      simp (disch := omega) only [Option.bind_some, jlt_eq, ↓reduceIte, eq_self, jinT, zleT, zleF, zltT, zltF, zeq, zpos, zpos', zcl, zm6, z6, z84, z24, z14, z8, nI_add, zd0, zd1, zd2, zd3, zd4, zd5, bitI_e, bI0, bI1]
      have inner : p_X5_threes_b37 N G J (p_X5_threes_b4 N G J n) (p_X5_threes_b20 N G J (p_X5_threes_b4 N G J n) n2) N x f (nI j) (nI k) (nI (j + 1)) = (fun r => match r with
        | .inl f2 => p_X5_threes_b20 N G J (p_X5_threes_b4 N G J n) n2 x f2 (nI j) (nI (k + 1))
        | .inr v => some v) (ix (a.thI x j k) .inl (j + 1) (a.nt - (j + 1)) f) := by
        refine lp_ix (L := fun n3 f l => p_X5_threes_b37 N G J (p_X5_threes_b4 N G J n) (p_X5_threes_b20 N G J (p_X5_threes_b4 N G J n) n2) n3 x f (nI j) (nI k) l) (m := a.nt) (step := a.thI x j k) (fin := .inl) (o := fun r => match r with
          | .inl f2 => p_X5_threes_b20 N G J (p_X5_threes_b4 N G J n) n2 x f2 (nI j) (nI (k + 1))
          | .inr v => some v) ?_ ?_ (a.nt - (j + 1)) (j + 1) N f (by omega) (by omega)
        · intro n3 f
          show p_X5_threes_b37 N G J (p_X5_threes_b4 N G J n) (p_X5_threes_b20 N G J (p_X5_threes_b4 N G J n) n2) (n3 + 1) x f (nI j) (nI k) (nI a.nt) = _
          rw [p_X5_threes_b37, e2]
          simp (disch := omega) only [Option.bind_some, jlt_eq, ↓reduceIte, eq_self, jinT, zleT, zleF, zltT, zltF, zeq, zpos, zpos', zcl, zm6, z6, z84, z24, z14, z8, nI_add, zd0, zd1, zd2, zd3, zd4, zd5, bitI_e, bI0, bI1]
        · intro n3 f l hl
          show p_X5_threes_b37 N G J (p_X5_threes_b4 N G J n) (p_X5_threes_b20 N G J (p_X5_threes_b4 N G J n) n2) (n3 + 1) x f (nI j) (nI k) (nI l) = _
          rw [p_X5_threes_b37, e2]
          simp (disch := omega) only [Option.bind_some, jlt_eq, ↓reduceIte, eq_self, jinT, zleT, zleF, zltT, zltF, zeq, zpos, zpos', zcl, zm6, z6, z84, z24, z14, z8, nI_add, zd0, zd1, zd2, zd3, zd4, zd5, bitI_e, bI0, bI1, c_isRing R I hj hk hl, p_X5_threes_b87]
          unfold TA.thI TA.ring
          by_cases h6 : f = x <;> cases (a.wants j k && (a.wants k l && a.wants l j)) <;> simp only [h6, Bool.true_eq_false, Bool.false_eq_true, ↓reduceIte]
      rw [inner]
      unfold TA.thM
      cases ix (a.thI x j k) .inl (j + 1) (a.nt - (j + 1)) f <;> rfl
theorem m_isThree (R : RM (G 1) a) (I : a.I) {i j l : Nat} (hi : i < a.nt) (hj : j < a.nt) (hl : l < a.nt) : p_X6_isThree N G J (nI i) (nI j) (nI l) = some (bI (a.ring i j l)) := by
  have h1 := I.nt
  have h2 := I.np
  have h3 := I.ho i hi
  have h4 := I.ho j hj
  have h5 := I.ho l hl
  unfold p_X6_isThree TA.ring
  simp (disch := omega) only [Option.bind_some, jlt_eq, ↓reduceIte, eq_self, jinT, zleT, zleF, zltT, zltF, zeq, zpos, zpos', zcl, zm6, z6, z84, z24, z14, z8, nI_add, zd0, zd1, zd2, zd3, zd4, zd5, bitI_e, bI0, bI1, m_isHeld R, R.ho i hi, R.ho j hj, R.ho l hl, m_rather R I hi hj, m_rather R I hj hl, m_rather R I hl hi]
  rw [wants_e, wants_e, wants_e]
  have s2 : (a.ho l = a.ho i) = (a.ho i = a.ho l) := propext ⟨Eq.symm, Eq.symm⟩
  simp only [s2]
  by_cases e1 : a.ho i = a.ho j
  · rw [if_pos e1, decide_eq_true e1]; rfl
  · rw [if_neg e1, decide_eq_false e1]
    by_cases e2 : a.ho j = a.ho l
    · rw [if_pos e2, decide_eq_true e2]; simp only [Bool.not_true, Bool.false_and, Bool.and_false]; rfl
    · rw [if_neg e2, decide_eq_false e2]
      by_cases e3 : a.ho i = a.ho l
      · rw [if_pos e3, decide_eq_true e3]; simp only [Bool.not_true, Bool.false_and, Bool.and_false]; rfl
      · rw [if_neg e3, decide_eq_false e3]
        cases a.eat i <;> cases a.eat j <;> cases a.eat l <;> cases a.rather i j <;> cases a.rather j l <;> cases a.rather l i <;> rfl
theorem m_threes (hN : 2000 ≤ N) (R : RM (G 1) a) (I : a.I) {x : Int32} : p_X6_threes_b9 N J N G x 0 0 = some (a.threes x, G) := by
  have h1 := I.nt
  unfold TA.threes
  refine lp_ix (L := fun n f j => p_X6_threes_b9 N J n G x f j) (m := a.nt) (o := fun r => some (r, G)) ?_ ?_ a.nt 0 N 0 (by omega) (by omega)
  · intro n f
    show p_X6_threes_b9 N J (n + 1) G x f (nI a.nt) = _
    rw [p_X6_threes_b9, R.nt]
    simp (disch := omega) only [Option.bind_some, jlt_eq, ↓reduceIte, eq_self, jinT, zleT, zleF, zltT, zltF, zeq, zpos, zpos', zcl, zm6, z6, z84, z24, z14, z8, nI_add, zd0, zd1, zd2, zd3, zd4, zd5, bitI_e, bI0, bI1]
    by_cases h : x = -1
    · rw [if_pos h, if_pos h]
    · rw [if_neg h, if_neg h]
  · intro n f j hj
    show p_X6_threes_b9 N J (n + 1) G x f (nI j) = _
    rw [p_X6_threes_b9, R.nt]
    simp (disch := omega) only [Option.bind_some, jlt_eq, ↓reduceIte, eq_self, jinT, zleT, zleF, zltT, zltF, zeq, zpos, zpos', zcl, zm6, z6, z84, z24, z14, z8, nI_add, zd0, zd1, zd2, zd3, zd4, zd5, bitI_e, bI0, bI1]
    refine Eq.trans (b := match a.thO x f j with
      | .inl f2 => p_X6_threes_b9 N J n G x f2 (nI (j + 1))
      | .inr v => some (v, G)) ?_ (by cases a.thO x f j <;> rfl)
    unfold TA.thO
    refine lp_ix (L := fun n2 f k => p_X6_threes_b24 N J (p_X6_threes_b9 N J n) n2 G x f (nI j) k) (m := a.nt) (step := a.thM x j) (fin := .inl) (o := fun r => match r with
      | .inl f2 => p_X6_threes_b9 N J n G x f2 (nI (j + 1))
      | .inr v => some (v, G)) ?_ ?_ (a.nt - (j + 1)) (j + 1) N f (by omega) (by omega)
    · intro n2 f
      show p_X6_threes_b24 N J (p_X6_threes_b9 N J n) (n2 + 1) G x f (nI j) (nI a.nt) = _
      rw [p_X6_threes_b24, R.nt]
      simp (disch := omega) only [Option.bind_some, jlt_eq, ↓reduceIte, eq_self, jinT, zleT, zleF, zltT, zltF, zeq, zpos, zpos', zcl, zm6, z6, z84, z24, z14, z8, nI_add, zd0, zd1, zd2, zd3, zd4, zd5, bitI_e, bI0, bI1]
    · intro n2 f k hk
      show p_X6_threes_b24 N J (p_X6_threes_b9 N J n) (n2 + 1) G x f (nI j) (nI k) = _
      rw [p_X6_threes_b24, R.nt]
      simp (disch := omega) only [Option.bind_some, jlt_eq, ↓reduceIte, eq_self, jinT, zleT, zleF, zltT, zltF, zeq, zpos, zpos', zcl, zm6, z6, z84, z24, z14, z8, nI_add, zd0, zd1, zd2, zd3, zd4, zd5, bitI_e, bI0, bI1]
      have inner : p_X6_threes_b40 N J (p_X6_threes_b9 N J n) (p_X6_threes_b24 N J (p_X6_threes_b9 N J n) n2) N G x f (nI j) (nI k) (nI (j + 1)) = (fun r => match r with
        | .inl f2 => p_X6_threes_b24 N J (p_X6_threes_b9 N J n) n2 G x f2 (nI j) (nI (k + 1))
        | .inr v => some (v, G)) (ix (a.thI x j k) .inl (j + 1) (a.nt - (j + 1)) f) := by
        refine lp_ix (L := fun n3 f l => p_X6_threes_b40 N J (p_X6_threes_b9 N J n) (p_X6_threes_b24 N J (p_X6_threes_b9 N J n) n2) n3 G x f (nI j) (nI k) l) (m := a.nt) (step := a.thI x j k) (fin := .inl) (o := fun r => match r with
          | .inl f2 => p_X6_threes_b24 N J (p_X6_threes_b9 N J n) n2 G x f2 (nI j) (nI (k + 1))
          | .inr v => some (v, G)) ?_ ?_ (a.nt - (j + 1)) (j + 1) N f (by omega) (by omega)
        · intro n3 f
          show p_X6_threes_b40 N J (p_X6_threes_b9 N J n) (p_X6_threes_b24 N J (p_X6_threes_b9 N J n) n2) (n3 + 1) G x f (nI j) (nI k) (nI a.nt) = _
          rw [p_X6_threes_b40, R.nt]
          simp (disch := omega) only [Option.bind_some, jlt_eq, ↓reduceIte, eq_self, jinT, zleT, zleF, zltT, zltF, zeq, zpos, zpos', zcl, zm6, z6, z84, z24, z14, z8, nI_add, zd0, zd1, zd2, zd3, zd4, zd5, bitI_e, bI0, bI1]
        · intro n3 f l hl
          show p_X6_threes_b40 N J (p_X6_threes_b9 N J n) (p_X6_threes_b24 N J (p_X6_threes_b9 N J n) n2) (n3 + 1) G x f (nI j) (nI k) (nI l) = _
          rw [p_X6_threes_b40, R.nt]
          simp (disch := omega) only [Option.bind_some, jlt_eq, ↓reduceIte, eq_self, jinT, zleT, zleF, zltT, zltF, zeq, zpos, zpos', zcl, zm6, z6, z84, z24, z14, z8, nI_add, zd0, zd1, zd2, zd3, zd4, zd5, bitI_e, bI0, bI1, m_isThree R I hj hk hl, p_X6_threes_b89]
          unfold TA.thI
          by_cases h6 : f = x <;> cases a.ring j k l <;> simp only [h6, Bool.true_eq_false, Bool.false_eq_true, ↓reduceIte]
      rw [inner]
      unfold TA.thM
      cases ix (a.thI x j k) .inl (j + 1) (a.nt - (j + 1)) f <;> rfl
theorem case_38 (hN : 2000 ≤ N) (hL : LR G J s) : Ok (p_case_38 N xs G J i) (fun r => ∃ s, LR r.1 r.2 s) := by
  have R := hL.1.now
  have M := hL.2.1
  have I := hL.2.2.now
  unfold p_case_38 p_X6_threes
  rw [x_threes hN R I]
  refine k_A (s2 := s) hL.1 hL.2.2 ?_
  rw [jlt_eq, m_threes hN (thrR M.now 0) I]
  exact Ok.s ⟨rfl, M.k (thrR M.now 0) (KM.thr 0) rfl (SA.eta s)⟩
end cases3

/-! the class's Town: sums over what falls -/
theorem i_sub_assoc (x y z : Int32) : x + y - z = x + (y - z) := by
  rw [Int32.sub_eq_add_neg, Int32.sub_eq_add_neg, Int32.add_assoc]
section town2
variable {N : Nat} {g : Nat → Nat → Int32} {a : TA}
theorem c_fallBits (hN : 2000 ≤ N) (R : RC g a) (I : a.I) {d : Nat} (hd : d < a.nd) : p_X3_fallBits N g (nI d) = some (a.fb d) := by
  have h1 := I.nd
  unfold p_X3_fallBits TA.fb
  refine lp_itd (L := fun n s i => p_X3_fallBits_b4 N g n (nI d) s i) (m := a.nd) (d := d) (fin := some) ?_ ?_ (a.nd - d) d N 0 (by omega) (by omega) (by omega)
  · intro n s
    show p_X3_fallBits_b4 N g (n + 1) (nI d) s (nI a.nd) = _
    rw [p_X3_fallBits_b4, R.nd]
    simp (disch := omega) only [Option.bind_some, jlt_eq, ↓reduceIte, eq_self, jinT, zleT, zleF, zltT, zltF, zeq, zpos, zpos', zcl, zm6, z6, z84, z24, z14, z8, nI_add, zd0, zd1, zd2, zd3, zd4, zd5, bitI_e, bI0, bI1]
  · intro n s j hdj hj
    show p_X3_fallBits_b4 N g (n + 1) (nI d) s (nI j) = p_X3_fallBits_b4 N g n (nI d) _ _
    rw [p_X3_fallBits_b4, R.nd]
    simp (disch := omega) only [Option.bind_some, jlt_eq, ↓reduceIte, eq_self, jinT, zleT, zleF, zltT, zltF, zeq, zpos, zpos', zcl, zm6, z6, z84, z24, z14, z8, nI_add, zd0, zd1, zd2, zd3, zd4, zd5, bitI_e, bI0, bI1, c_fallsWith R I hd hj, p_X3_fallBits_b27]
    cases a.fw d j <;> rfl
theorem c_priceChange (hN : 2000 ≤ N) (R : RC g a) (I : a.I) {d p : Nat} (hd : d < a.nd) (hp : p < 6) : p_X3_priceChange N g (nI d) (nI p) = some (a.pc d p) := by
  have h1 := I.nd
  have h2 := I.np
  unfold p_X3_priceChange TA.pc sm
  refine lp_itd (L := fun n s i => p_X3_priceChange_b5 N g n (nI d) (nI p) s i) (m := a.nd) (d := d) (fin := some) ?_ ?_ (a.nd - d) d N 0 (by omega) (by omega) (by omega)
  · intro n s
    show p_X3_priceChange_b5 N g (n + 1) (nI d) (nI p) s (nI a.nd) = _
    rw [p_X3_priceChange_b5, R.nd]
    simp (disch := omega) only [Option.bind_some, jlt_eq, ↓reduceIte, eq_self, jinT, zleT, zleF, zltT, zltF, zeq, zpos, zpos', zcl, zm6, z6, z84, z24, z14, z8, nI_add, zd0, zd1, zd2, zd3, zd4, zd5, bitI_e, bI0, bI1]
  · intro n s j hdj hj
    have h3 := I.gi j hj
    have h4 := I.ta j hj
    show p_X3_priceChange_b5 N g (n + 1) (nI d) (nI p) s (nI j) = p_X3_priceChange_b5 N g n (nI d) (nI p) _ _
    rw [p_X3_priceChange_b5, R.nd]
    simp (disch := omega) only [Option.bind_some, jlt_eq, ↓reduceIte, eq_self, jinT, zleT, zleF, zltT, zltF, zeq, zpos, zpos', zcl, zm6, z6, z84, z24, z14, z8, nI_add, zd0, zd1, zd2, zd3, zd4, zd5, bitI_e, bI0, bI1, c_fallsWith R I hd hj, p_X3_priceChange_b74, p_X3_priceChange_b72, p_X3_priceChange_b47, R.gi j hj, R.ta j hj, R.pr j hj]
    unfold TA.pcf
    cases a.fw d j
    · simp only [Bool.false_eq_true, ↓reduceIte, Int32.add_zero]
    · by_cases h5 : a.ta j = p <;> by_cases h6 : a.gi j = p <;> simp only [h5, h6, ↓reduceIte, Bool.true_eq_false, i_sub_assoc]
theorem c_owedToAll (hN : 2000 ≤ N) (R : RC g a) (I : a.I) {d p : Nat} (hd : d < a.nd) (hp : p < 6) : p_X3_owedToAll N g (nI d) (nI p) = some (a.owA d p) := by
  have h1 := I.nd
  have h2 := I.np
  unfold p_X3_owedToAll TA.owA sm
  refine lp_itd (L := fun n s i => p_X3_owedToAll_b5 N g n (nI d) (nI p) s i) (m := a.nd) (d := d) (fin := some) ?_ ?_ (a.nd - d) d N 0 (by omega) (by omega) (by omega)
  · intro n s
    show p_X3_owedToAll_b5 N g (n + 1) (nI d) (nI p) s (nI a.nd) = _
    rw [p_X3_owedToAll_b5, R.nd]
    simp (disch := omega) only [Option.bind_some, jlt_eq, ↓reduceIte, eq_self, jinT, zleT, zleF, zltT, zltF, zeq, zpos, zpos', zcl, zm6, z6, z84, z24, z14, z8, nI_add, zd0, zd1, zd2, zd3, zd4, zd5, bitI_e, bI0, bI1]
  · intro n s j hdj hj
    have h3 := I.gi j hj
    have h4 := I.ta j hj
    show p_X3_owedToAll_b5 N g (n + 1) (nI d) (nI p) s (nI j) = p_X3_owedToAll_b5 N g n (nI d) (nI p) _ _
    rw [p_X3_owedToAll_b5, R.nd]
    simp (disch := omega) only [Option.bind_some, jlt_eq, ↓reduceIte, eq_self, jinT, zleT, zleF, zltT, zltF, zeq, zpos, zpos', zcl, zm6, z6, z84, z24, z14, z8, nI_add, zd0, zd1, zd2, zd3, zd4, zd5, bitI_e, bI0, bI1, c_fallsWith R I hd hj, p_X3_owedToAll_b80, p_X3_owedToAll_b78, p_X3_owedToAll_b50, R.gi j hj, R.ta j hj, R.pr j hj, c_worthToGiver R I hj, c_worthToTaker R I hj, c_cut R]
    unfold TA.oaf
    cases a.fw d j
    · simp only [Bool.false_eq_true, ↓reduceIte, Int32.add_zero]
    · by_cases h5 : a.ta j = p <;> by_cases h6 : a.gi j = p <;> simp only [h5, h6, ↓reduceIte, Bool.true_eq_false, Int32.add_assoc, Int32.add_zero, Int32.zero_add]
theorem c_owedTo (hN : 2000 ≤ N) (R : RC g a) (I : a.I) {d b p : Nat} (hd : d < a.nd) (hb : b < 6) (hp : p < 6) : p_X3_owedTo N g (nI d) (nI b) (nI p) = some (a.ow d b p) := by
  have h1 := I.nd
  have h2 := I.np
  unfold p_X3_owedTo TA.ow sm
  by_cases e : p = b
  · rw [if_pos e]
    obtain ⟨m, hm⟩ : ∃ m, N = m + 1 := ⟨N - 1, by omega⟩
    rw [hm, p_X3_owedTo_b6, R.nd]
    simp (disch := omega) only [Option.bind_some, jlt_eq, ↓reduceIte, eq_self, jinT, zleT, zleF, zltT, zltF, zeq, zpos, zpos', zcl, zm6, z6, z84, z24, z14, z8, nI_add, zd0, zd1, zd2, zd3, zd4, zd5, bitI_e, bI0, bI1, e]
  · rw [if_neg e]
    refine lp_itd (L := fun n s i => p_X3_owedTo_b6 N g n (nI d) (nI b) (nI p) s i) (m := a.nd) (d := d) (fin := some) ?_ ?_ (a.nd - d) d N 0 (by omega) (by omega) (by omega)
    · intro n s
      show p_X3_owedTo_b6 N g (n + 1) (nI d) (nI b) (nI p) s (nI a.nd) = _
      rw [p_X3_owedTo_b6, R.nd]
      simp (disch := omega) only [Option.bind_some, jlt_eq, ↓reduceIte, eq_self, jinT, zleT, zleF, zltT, zltF, zeq, zpos, zpos', zcl, zm6, z6, z84, z24, z14, z8, nI_add, zd0, zd1, zd2, zd3, zd4, zd5, bitI_e, bI0, bI1]
    · intro n s j hdj hj
      have h3 := I.gi j hj
      have h4 := I.ta j hj
      show p_X3_owedTo_b6 N g (n + 1) (nI d) (nI b) (nI p) s (nI j) = p_X3_owedTo_b6 N g n (nI d) (nI b) (nI p) _ _
      rw [p_X3_owedTo_b6, R.nd]
      simp (disch := omega) only [Option.bind_some, jlt_eq, ↓reduceIte, eq_self, jinT, zleT, zleF, zltT, zltF, zeq, zpos, zpos', zcl, zm6, z6, z84, z24, z14, z8, nI_add, zd0, zd1, zd2, zd3, zd4, zd5, bitI_e, bI0, bI1, e, c_fallsWith R I hd hj, p_X3_owedTo_b90, p_X3_owedTo_b87, p_X3_owedTo_b57, R.gi j hj, R.ta j hj, R.pr j hj, c_worthToGiver R I hj, c_worthToTaker R I hj, c_cut R]
      unfold TA.owf
      cases a.fw d j
      · simp only [Bool.false_eq_true, ↓reduceIte, Int32.add_zero]
      · by_cases h5 : a.ta j = p <;> by_cases h6 : a.gi j = p <;> simp only [h5, h6, ↓reduceIte, Bool.true_eq_false, Int32.add_assoc, Int32.add_zero, Int32.zero_add]
theorem c_partOfUndoer (R : RC g a) (I : a.I) {f p : Nat} (hf : f < a.nd) (hp : p < 6) : p_X3_partOfUndoer N g (nI f) (nI p) = some (a.pu f p) := by
  have h1 := I.nd
  have h2 := I.np
  have h3 := I.gi f hf
  have h4 := I.ta f hf
  have h5 := I.th f hf
  have h6 := I.nt
  unfold p_X3_partOfUndoer TA.pu
  simp (disch := omega) only [Option.bind_some, jlt_eq, ↓reduceIte, eq_self, jinT, zleT, zleF, zltT, zltF, zeq, zpos, zpos', zcl, zm6, z6, z84, z24, z14, z8, nI_add, zd0, zd1, zd2, zd3, zd4, zd5, bitI_e, bI0, bI1, p_X3_partOfUndoer_b43, R.gi f hf, R.ta f hf, R.pr f hf, R.th f hf, c_worthToGiver R I hf, c_worthToTaker R I hf, c_cut R, c_worthTo R (show a.th f < 10 by omega) hp]
  by_cases h5 : a.ta f = p <;> by_cases h6 : a.gi f = p <;> simp only [h5, h6, ↓reduceIte]
theorem c_partOfOther (R : RC g a) (I : a.I) {f p : Nat} (hf : f < a.nd) (hp : p < 6) : p_X3_partOfOther N g (nI f) (nI p) = some (a.po f p) := by
  have h1 := I.nd
  have h2 := I.np
  have h3 := I.gi f hf
  have h4 := I.ta f hf
  have h5 := I.th f hf
  have h6 := I.nt
  unfold p_X3_partOfOther TA.po
  simp (disch := omega) only [Option.bind_some, jlt_eq, ↓reduceIte, eq_self, jinT, zleT, zleF, zltT, zltF, zeq, zpos, zpos', zcl, zm6, z6, z84, z24, z14, z8, nI_add, zd0, zd1, zd2, zd3, zd4, zd5, bitI_e, bI0, bI1, p_X3_partOfOther_b44, R.gi f hf, R.ta f hf, R.pr f hf, R.th f hf, c_worthToGiver R I hf, c_worthToTaker R I hf, c_cut R, c_worthTo R (show a.th f < 10 by omega) hp]
  by_cases h5 : a.ta f = p <;> by_cases h6 : a.gi f = p <;> simp only [h5, h6, ↓reduceIte]
theorem c_gainOf (hN : 2000 ≤ N) (R : RC g a) (I : a.I) {d p : Nat} (hd : d < a.nd) (hp : p < 6) : p_X3_gainOf N g (nI d) (nI p) = some (a.gain d p) := by
  have h1 := I.nd
  unfold p_X3_gainOf TA.gain sm
  refine lp_itd (L := fun n s i => p_X3_gainOf_b5 N g n (nI d) (nI p) s i) (m := a.nd) (d := d) (fin := some) ?_ ?_ (a.nd - d) d N 0 (by omega) (by omega) (by omega)
  · intro n s
    show p_X3_gainOf_b5 N g (n + 1) (nI d) (nI p) s (nI a.nd) = _
    rw [p_X3_gainOf_b5, R.nd]
    simp (disch := omega) only [Option.bind_some, jlt_eq, ↓reduceIte, eq_self, jinT, zleT, zleF, zltT, zltF, zeq, zpos, zpos', zcl, zm6, z6, z84, z24, z14, z8, nI_add, zd0, zd1, zd2, zd3, zd4, zd5, bitI_e, bI0, bI1]
  · intro n s j hdj hj
    show p_X3_gainOf_b5 N g (n + 1) (nI d) (nI p) s (nI j) = p_X3_gainOf_b5 N g n (nI d) (nI p) _ _
    rw [p_X3_gainOf_b5, R.nd]
    simp (disch := omega) only [Option.bind_some, jlt_eq, ↓reduceIte, eq_self, jinT, zleT, zleF, zltT, zltF, zeq, zpos, zpos', zcl, zm6, z6, z84, z24, z14, z8, nI_add, zd0, zd1, zd2, zd3, zd4, zd5, bitI_e, bI0, bI1, c_fallsWith R I hd hj, p_X3_gainOf_b34, c_partOfUndoer R I hj hp]
    cases a.fw d j
    · simp only [Bool.false_eq_true, ↓reduceIte, Int32.add_zero]
    · simp only [Bool.true_eq_false, ↓reduceIte]
theorem c_whyU (hN : 2000 ≤ N) (R : RC g a) (I : a.I) {d p : Nat} (hd : d < a.nd) (hp : p < a.np) : p_X3_whyNoUndoing N g (nI d) (nI p) = some (a.whyU d p) := by
  have h1 := I.nd
  have h2 := I.np
  have h3 := I.th d hd
  have h4 := I.nt
  unfold p_X3_whyNoUndoing TA.whyU
  simp (disch := omega) only [Option.bind_some, jlt_eq, ↓reduceIte, eq_self, jinT, zleT, zleF, zltT, zltF, zeq, zpos, zpos', zcl, zm6, z6, z84, z24, z14, z8, nI_add, zd0, zd1, zd2, zd3, zd4, zd5, bitI_e, bI0, bI1, c_hasDeed R I, c_stands R, c_isOf R I hd, c_hasRung R, R.th d hd, c_isEaten R, R.co p, c_priceChange hN R I hd, c_owedToAll hN R I hd, decide_eq_true hd]
  cases a.st d <;> cases a.isOf d p <;> cases a.rung <;> cases a.eat (a.th d) <;> simp only [Bool.true_eq_false, Bool.false_eq_true, ↓reduceIte, reduceCtorEq]
  by_cases h : 0 ≤ a.co p + a.pc d p - a.owA d p
  · rw [if_pos h, if_pos h]
  · rw [if_neg h, if_neg h]
theorem c_whyU1 (R : RC g a) (I : a.I) {d : Nat} {y : Int32} (hd : a.nd ≤ d) (hd2 : d < 2147483648) : p_X3_whyNoUndoing N g (nI d) y = some 1 := by
  have h1 := I.nd
  unfold p_X3_whyNoUndoing
  simp (disch := omega) only [Option.bind_some, jlt_eq, ↓reduceIte, eq_self, jinT, zleT, zleF, zltT, zltF, zeq, zpos, zpos', zcl, zm6, z6, z84, z24, z14, z8, nI_add, zd0, zd1, zd2, zd3, zd4, zd5, bitI_e, bI0, bI1, c_hasDeed R I, decide_eq_false (show ¬ d < a.nd by omega)]
theorem c_whyUN {x y : Int32} (h : x < 0) : p_X3_whyNoUndoing N g x y = some 1 := by
  unfold p_X3_whyNoUndoing
  simp (disch := omega) only [Option.bind_some, jlt_eq, ↓reduceIte, eq_self, jinT, zleT, zleF, zltT, zltF, zeq, zpos, zpos', zcl, zm6, z6, z84, z24, z14, z8, nI_add, zd0, zd1, zd2, zd3, zd4, zd5, bitI_e, bI0, bI1, c_hasDeedN h]
def TA.top (a : TA) (d : Nat) : Int32 := if a.gain d (a.gi d) < a.gain d (a.ta d) then a.gain d (a.ta d) else a.gain d (a.gi d)
theorem c_topGain (hN : 2000 ≤ N) (R : RC g a) (I : a.I) {d : Nat} (hd : d < a.nd) : p_X3_topGain N g (nI d) = some (a.top d) := by
  have h1 := I.nd
  have h2 := I.np
  have h3 := I.gi d hd
  have h4 := I.ta d hd
  unfold p_X3_topGain TA.top
  simp (disch := omega) only [Option.bind_some, jlt_eq, ↓reduceIte, eq_self, jinT, zleT, zleF, zltT, zltF, zeq, zpos, zpos', zcl, zm6, z6, z84, z24, z14, z8, nI_add, zd0, zd1, zd2, zd3, zd4, zd5, bitI_e, bI0, bI1, R.gi d hd, R.ta d hd, c_gainOf hN R I hd]
def TA.safeP (a : TA) (t to : Nat) (x : Int32) : Bool := !decide (0 < a.wo t (a.ho t) - x - a.cut (mx (a.wo t to - x))) && !decide (0 < x - a.wo t to - a.cut (mx (x - a.wo t (a.ho t))))
theorem c_wouldBeSafe (R : RC g a) (I : a.I) {t to : Nat} {x : Int32} (ht : t < a.nt) (hto : to < a.np) : p_X3_wouldBeSafe N g (nI t) (nI to) x = some (bI (a.safeP t to x)) := by
  have h1 := I.nt
  have h2 := I.np
  have h3 := I.ho t ht
  unfold p_X3_wouldBeSafe TA.safeP mx
  simp (disch := omega) only [Option.bind_some, jlt_eq, ↓reduceIte, eq_self, jinT, zleT, zleF, zltT, zltF, zeq, zpos, zpos', zcl, zm6, z6, z84, z24, z14, z8, nI_add, zd0, zd1, zd2, zd3, zd4, zd5, bitI_e, bI0, bI1, R.ho t ht, c_worthTo R (show t < 10 by omega) (show a.ho t < 6 by omega), c_worthTo R (show t < 10 by omega) (show to < 6 by omega), c_cut R]
  by_cases h4 : 0 < a.wo t (a.ho t) - x - a.cut (if 0 < a.wo t to - x then a.wo t to - x else 0)
  · rw [if_pos h4, decide_eq_true h4]; rfl
  · rw [if_neg h4, decide_eq_false h4]
    by_cases h5 : 0 < x - a.wo t to - a.cut (if 0 < x - a.wo t (a.ho t) then x - a.wo t (a.ho t) else 0)
    · rw [if_pos h5, decide_eq_true h5]; rfl
    · rw [if_neg h5, decide_eq_false h5]; rfl
def TA.chl (a : TA) (t : Nat) : Int32 := sm (fun d => if a.th d = t then bI (a.st d) else 0) 0 a.nd
theorem c_chainLength (hN : 2000 ≤ N) (R : RC g a) (I : a.I) {t : Nat} (ht : t < a.nt) : p_X3_chainLength N g (nI t) = some (a.chl t) := by
  have h1 := I.nd
  have h2 := I.nt
  unfold p_X3_chainLength TA.chl sm
  refine lp_it (L := fun n s i => p_X3_chainLength_b4 N g n (nI t) s i) (m := a.nd) (fin := some) ?_ ?_ a.nd 0 N 0 (by omega) (by omega)
  · intro n s
    show p_X3_chainLength_b4 N g (n + 1) (nI t) s (nI a.nd) = _
    rw [p_X3_chainLength_b4, R.nd]
    simp (disch := omega) only [Option.bind_some, jlt_eq, ↓reduceIte, eq_self, jinT, zleT, zleF, zltT, zltF, zeq, zpos, zpos', zcl, zm6, z6, z84, z24, z14, z8, nI_add, zd0, zd1, zd2, zd3, zd4, zd5, bitI_e, bI0, bI1]
  · intro n s j hj
    have h3 := I.th j hj
    show p_X3_chainLength_b4 N g (n + 1) (nI t) s (nI j) = p_X3_chainLength_b4 N g n (nI t) _ _
    rw [p_X3_chainLength_b4, R.nd]
    simp (disch := omega) only [Option.bind_some, jlt_eq, ↓reduceIte, eq_self, jinT, zleT, zleF, zltT, zltF, zeq, zpos, zpos', zcl, zm6, z6, z84, z24, z14, z8, nI_add, zd0, zd1, zd2, zd3, zd4, zd5, bitI_e, bI0, bI1, R.th j hj, c_stands R, p_X3_chainLength_b33]
    by_cases h : a.th j = t
    · rw [if_pos h, if_pos h]
      cases a.st j
      · rw [bI_f, Int32.add_zero]; rfl
      · rfl
    · rw [if_neg h, if_neg h, Int32.add_zero]
def TA.wants (a : TA) (i j : Nat) : Bool := !decide (a.ho i = a.ho j) && (!a.eat i && (!a.eat j && !decide (a.wo j (a.ho i) ≤ a.wo i (a.ho i))))
theorem c_wants (R : RC g a) (I : a.I) {i j : Nat} (hi : i < a.nt) (hj : j < a.nt) : p_X3_wants N g (nI i) (nI j) = some (bI (a.wants i j)) := by
  have h1 := I.nt
  have h2 := I.np
  have h3 := I.ho i hi
  have h4 := I.ho j hj
  unfold p_X3_wants TA.wants
  simp (disch := omega) only [Option.bind_some, jlt_eq, ↓reduceIte, eq_self, jinT, zleT, zleF, zltT, zltF, zeq, zpos, zpos', zcl, zm6, z6, z84, z24, z14, z8, nI_add, zd0, zd1, zd2, zd3, zd4, zd5, bitI_e, bI0, bI1, R.ho i hi, R.ho j hj, c_isEaten R, c_worthTo R (show j < 10 by omega) (show a.ho i < 6 by omega), c_worthTo R (show i < 10 by omega) (show a.ho i < 6 by omega)]
  by_cases h : a.ho i = a.ho j
  · rw [if_pos h, decide_eq_true h]; rfl
  · rw [if_neg h, decide_eq_false h]
    by_cases h5 : a.wo j (a.ho i) ≤ a.wo i (a.ho i)
    · rw [if_pos h5, decide_eq_true h5]
      cases a.eat i <;> cases a.eat j <;> rfl
    · rw [if_neg h5, decide_eq_false h5]
      cases a.eat i <;> cases a.eat j <;> rfl
theorem c_isRing (R : RC g a) (I : a.I) {i j l : Nat} (hi : i < a.nt) (hj : j < a.nt) (hl : l < a.nt) : p_X3_isRing N g (nI i) (nI j) (nI l) = some (bI (a.wants i j && (a.wants j l && a.wants l i))) := by
  unfold p_X3_isRing
  simp (disch := omega) only [Option.bind_some, jlt_eq, ↓reduceIte, eq_self, jinT, zleT, zleF, zltT, zltF, zeq, zpos, zpos', zcl, zm6, z6, z84, z24, z14, z8, nI_add, zd0, zd1, zd2, zd3, zd4, zd5, bitI_e, bI0, bI1, c_wants R I hi hj, c_wants R I hj hl, c_wants R I hl hi]
  cases a.wants i j <;> cases a.wants j l <;> cases a.wants l i <;> rfl
def TA.whyS (a : TA) (t to : Nat) (x : Int32) : Int32 := if a.ho t = to then 1 else if x < 0 then 2 else if x ≤ 9999 then (if x ≤ a.co to then (if a.rung = true then 4 else if a.eat t = true then 5 else if a.nd < 30 then 0 else 6) else 3) else 2
theorem c_whyS (R : RC g a) (I : a.I) {t to : Nat} {x : Int32} (ht : t < a.nt) (hto : to < a.np) : p_X3_whyNoDeed N g (nI t) (nI to) x = some (a.whyS t to x) := by
  have h1 := I.nt
  have h2 := I.np
  have h3 := I.ho t ht
  have h4 := I.nd
  have e30 : (30 : Int32) = nI 30 := by decide
  unfold p_X3_whyNoDeed TA.whyS
  simp (disch := omega) only [Option.bind_some, jlt_eq, ↓reduceIte, eq_self, jinT, zleT, zleF, zltT, zltF, zeq, zpos, zpos', zcl, zm6, z6, z84, z24, z14, z8, nI_add, zd0, zd1, zd2, zd3, zd4, zd5, bitI_e, bI0, bI1, c_hasThing R I, c_hasPerson R I, decide_eq_true ht, decide_eq_true hto, R.ho t ht, R.co to, c_hasRung R, c_isEaten R, R.nd, e30, reduceCtorEq]
  by_cases h : a.ho t = to
  · rw [if_pos h, if_pos h]
  · rw [if_neg h, if_neg h]
    by_cases h5 : x < 0
    · rw [if_pos h5, if_pos h5]
    · rw [if_neg h5, if_neg h5]
      by_cases h6 : x ≤ 9999
      · rw [if_pos h6, if_pos h6]
        by_cases h7 : x ≤ a.co to
        · rw [if_pos h7, if_pos h7]
          by_cases h8 : a.nd < 30
          · cases a.rung <;> cases a.eat t <;> simp (disch := omega) only [Option.bind_some, jlt_eq, ↓reduceIte, eq_self, jinT, zleT, zleF, zltT, zltF, zeq, zpos, zpos', zcl, zm6, z6, z84, z24, z14, z8, nI_add, zd0, zd1, zd2, zd3, zd4, zd5, bitI_e, bI0, bI1, reduceCtorEq, h8]
          · cases a.rung <;> cases a.eat t <;> simp (disch := omega) only [Option.bind_some, jlt_eq, ↓reduceIte, eq_self, jinT, zleT, zleF, zltT, zltF, zeq, zpos, zpos', zcl, zm6, z6, z84, z24, z14, z8, nI_add, zd0, zd1, zd2, zd3, zd4, zd5, bitI_e, bI0, bI1, reduceCtorEq, h8]
        · rw [if_neg h7, if_neg h7]
      · rw [if_neg h6, if_neg h6]
theorem c_whyS1 (R : RC g a) (I : a.I) {x y z : Int32} (h : ¬ ∃ t to : Nat, t < a.nt ∧ to < a.np ∧ x = nI t ∧ y = nI to) : p_X3_whyNoDeed N g x y z = some 1 := by
  have h1 := I.nt
  have h2 := I.np
  unfold p_X3_whyNoDeed
  rcases z_cases x with hx | ⟨t, ht, rfl⟩
  · rw [c_hasThingN hx, Option.bind_some, if_pos rfl]
  · rw [c_hasThing R I ht, Option.bind_some]
    by_cases h5 : t < a.nt
    · rw [decide_eq_true h5, bI_t, if_neg (by decide)]
      rcases z_cases y with hy | ⟨to, hto, rfl⟩
      · rw [c_hasPersonN hy, Option.bind_some, if_pos rfl]
      · rw [c_hasPerson R I hto, Option.bind_some]
        by_cases h6 : to < a.np
        · exact absurd ⟨t, to, h5, h6, rfl, rfl⟩ h
        · rw [decide_eq_false h6, bI_f, if_pos rfl]
    · rw [decide_eq_false h5, bI_f, if_pos rfl]
end town2

/-! deed, tempted, safePrice, count -/
section cases5
variable {N : Nat} {G : Nat → Nat → Int32} {J : Nat → Nat → Int64} {a : TA} {s : SA} {xs : Nat → Int32} {i : Int32}
def TA.deed (a : TA) (d : Nat) (w : Nat) : Int32 := if w = 0 then nI (a.th d) else if w = 1 then nI (a.gi d) else if w = 2 then nI (a.ta d) else if w = 3 then a.pr d else if w = 4 then bI (a.st d) else if w = 5 then a.wh d else if w = 6 then a.wg d else a.wt d
theorem x_deed (R : RC (jvw G 1) a) (I : a.I) {d w : Nat} (hd : d < a.nd) (hw : w < 8) : p_X5_deed N G J (nI d) (nI w) = some (.inr (a.deed d w)) := by
  have h1 := I.nd
  have e5 : G 5 d = nI (a.th d) := R.th d hd
  have e6 : G 6 d = nI (a.gi d) := R.gi d hd
  have e7 : G 7 d = nI (a.ta d) := R.ta d hd
  have e8 : G 8 d = a.pr d := R.pr d hd
  have e9 : G 9 d = a.wh d := R.wh d hd
  have hw2 : (nI w).toInt = (w : Int) := nI_toInt (by omega)
  unfold p_X5_deed TA.deed
  rw [x_needD R I hd, jbx_r, hw2]
  rcases (by omega : w = 0 ∨ w = 1 ∨ w = 2 ∨ w = 3 ∨ w = 4 ∨ w = 5 ∨ w = 6 ∨ w = 7) with h | h | h | h | h | h | h | h <;> subst h
  · simp (disch := omega) only [Option.bind_some, jlt_eq, ↓reduceIte, eq_self, jinT, zleT, zleF, zltT, zltF, zeq, zpos, zpos', zcl, zm6, z6, z84, z24, z14, z8, nI_add, zd0, zd1, zd2, zd3, zd4, zd5, bitI_e, bI0, bI1, e5]; rfl
  · simp (disch := omega) only [Option.bind_some, jlt_eq, ↓reduceIte, eq_self, jinT, zleT, zleF, zltT, zltF, zeq, zpos, zpos', zcl, zm6, z6, z84, z24, z14, z8, nI_add, zd0, zd1, zd2, zd3, zd4, zd5, bitI_e, bI0, bI1, e6]; rfl
  · simp (disch := omega) only [Option.bind_some, jlt_eq, ↓reduceIte, eq_self, jinT, zleT, zleF, zltT, zltF, zeq, zpos, zpos', zcl, zm6, z6, z84, z24, z14, z8, nI_add, zd0, zd1, zd2, zd3, zd4, zd5, bitI_e, bI0, bI1, e7]; rfl
  · simp (disch := omega) only [Option.bind_some, jlt_eq, ↓reduceIte, eq_self, jinT, zleT, zleF, zltT, zltF, zeq, zpos, zpos', zcl, zm6, z6, z84, z24, z14, z8, nI_add, zd0, zd1, zd2, zd3, zd4, zd5, bitI_e, bI0, bI1, e8]; rfl
  · rw [c_stands R (by omega)]
    cases a.st d <;> rfl
  · simp (disch := omega) only [Option.bind_some, jlt_eq, ↓reduceIte, eq_self, jinT, zleT, zleF, zltT, zltF, zeq, zpos, zpos', zcl, zm6, z6, z84, z24, z14, z8, nI_add, zd0, zd1, zd2, zd3, zd4, zd5, bitI_e, bI0, bI1, e9]; rfl
  · rw [c_worthToGiver R I hd]; rfl
  · rw [c_worthToTaker R I hd]; rfl
theorem m_deed (R : RM (G 1) a) (I : a.I) {d w : Nat} (hd : d < a.nd) (hw : w < 8) : p_X6_deed N G J (nI d) (nI w) = some (a.deed d w, jup G 0 5 0) := by
  have R1 := thrR R 0
  unfold p_X6_deed TA.deed
  rw [jlt_eq, m_isDt R1 I hd, Option.bind_some, if_neg i10, w_t (by rw [w_0, L7, w_n (by omega)]; omega), Option.bind_some, if_neg i10]
  rcases (by omega : w = 0 ∨ w = 1 ∨ w = 2 ∨ w = 3 ∨ w = 4 ∨ w = 5 ∨ w = 6 ∨ w = 7) with h | h | h | h | h | h | h | h <;> subst h
  · rw [if_neg (by decide)]
    show (p_X6_of N (jup G 0 5 0) J (nI d) 0).bind _ = _
    rw [m_of0 R1 I.nd hd]; rfl
  · rw [if_neg (by decide)]
    show (p_X6_of N (jup G 0 5 0) J (nI d) 1).bind _ = _
    rw [m_of1 R1 I.nd hd]; rfl
  · rw [if_neg (by decide)]
    show (p_X6_of N (jup G 0 5 0) J (nI d) 2).bind _ = _
    rw [m_of2 R1 I.nd hd]; rfl
  · rw [if_neg (by decide)]
    show (p_X6_of N (jup G 0 5 0) J (nI d) 3).bind _ = _
    rw [m_of3 R1 I.nd hd]; rfl
  · rw [if_neg (by decide)]
    show (p_X6_of N (jup G 0 5 0) J (nI d) 4).bind _ = _
    rw [m_of4 R1 I.nd hd]; rfl
  · rw [if_neg (by decide)]
    show (p_X6_of N (jup G 0 5 0) J (nI d) 5).bind _ = _
    rw [m_of5 R1 I.nd hd]; rfl
  · rw [if_pos (by decide), if_pos (by decide), p_X6_deed_b66, m_worthOf1 R1 I hd]; rfl
  · rw [if_pos (by decide), if_neg (by decide), p_X6_deed_b66, m_worthOf0 R1 I hd]; rfl
theorem case_10 (hN : 2000 ≤ N) (hL : LR G J s) : Ok (p_case_10 N xs G J i) (fun r => ∃ s, LR r.1 r.2 s) := by
  have R := hL.1.w.now
  have M := hL.2.1.now
  have I := hL.2.2.now
  unfold p_case_10 p_L_deed
  generalize xs (i + 1).toNatClampNeg = x
  generalize xs (i + 2).toNatClampNeg = y
  have ty : y.toInt64.toInt = y.toInt := Int32.toInt_toInt64 y
  by_cases hx : ∃ p, p < s.now.nd ∧ x = nI p
  · obtain ⟨d, hd, rfl⟩ := hx
    by_cases hy : 0 ≤ y.toInt ∧ y.toInt ≤ 7
    · obtain ⟨w, hw, rfl⟩ : ∃ w : Nat, w < 8 ∧ y = nI w := ⟨y.toInt.toNat, by omega, iiN (by omega) (by omega)⟩
      refine k_L hL 0 (s.now.deed d w) (Or.inl ⟨?_, rfl⟩) (fun J3 => ?_)
      · exact x_deed R I hd hw
      · rw [m_deed M I hd hw]
        exact Ok.s (MB.o M (fun _ => rfl))
    · refine k_L hL 2 0 (Or.inr ⟨3, ?_, by decide, rfl⟩) (fun J3 => ?_)
      · unfold p_X5_deed
        rw [x_needD R I hd, jbx_r, if_neg (by omega), if_neg (by omega), if_neg (by omega), if_neg (by omega), if_neg (by omega), if_neg (by omega), if_neg (by omega), if_neg (by omega)]
      · unfold p_X6_deed
        rw [jlt_eq, m_isDt (thrR M 0) I hd, Option.bind_some, if_neg i10, w_f (by rw [w_0, L7, ty]; exact hy), Option.bind_some, if_pos rfl]
        exact Ok.s (MB.f M (fun h => absurd h i20))
  · refine k_L hL 1 0 (Or.inr ⟨1, ?_, by decide, rfl⟩) (fun J3 => ?_)
    · unfold p_X5_deed
      rw [x_needDf R I hx, jbx_l]
    · unfold p_X6_deed
      rw [jlt_eq, m_isDf (thrR M 0) I hx, Option.bind_some, if_pos rfl]
      exact Ok.s (MB.f M (fun h => absurd h i10))
/-- some of them -/
def anyN (f : Nat → Bool) : Nat → Nat → Bool
  | _, 0 => false
  | j, k + 1 => f j || anyN f (j + 1) k
theorem anyN_congr {f g : Nat → Bool} : ∀ (k j : Nat), (∀ i, j ≤ i → i < j + k → f i = g i) → anyN f j k = anyN g j k
  | 0, _, _ => rfl
  | k + 1, j, h => by
    rw [anyN, anyN, h j (by omega) (by omega), anyN_congr k (j + 1) (fun i h1 h2 => h i (by omega) (by omega))]
theorem anyN_false {f : Nat → Bool} : ∀ (k j : Nat), (∀ i, j ≤ i → i < j + k → f i = false) → anyN f j k = false
  | 0, _, _ => rfl
  | k + 1, j, h => by
    rw [anyN, h j (by omega) (by omega), anyN_false k (j + 1) (fun i h1 h2 => h i (by omega) (by omega))]; rfl
def TA.tem (a : TA) (d p : Nat) : Bool := a.opn d && (a.isOf d p && !decide (a.gain d p ≤ 0))
def TA.tb (a : TA) (d p : Nat) : Int32 := if a.gain d p ≤ 0 then 0 else bitI p
def TA.tempted (a : TA) : Int32 := it (fun f d => if a.opn d = true then f ||| (a.tb d (a.gi d) ||| a.tb d (a.ta d)) else f) 0 a.nd 0
theorem bt_tb (a : TA) (d : Nat) {p q : Nat} (hp : p < 32) (hq : q < 32) : bt (a.tb d p) q = (decide (q = p) && !decide (a.gain d p ≤ 0)) := by
  unfold TA.tb
  by_cases h : a.gain d p ≤ 0
  · rw [if_pos h, b_0, decide_eq_true h, Bool.not_true, Bool.and_false]
  · rw [if_neg h, bt_bit hp hq, decide_eq_false h, Bool.not_false, Bool.and_true]
theorem tempted_bits (I : a.I) {q : Nat} (hq : q < 32) : ∀ (k j : Nat) (f : Int32), j + k ≤ a.nd → bt (it (fun f d => if a.opn d = true then f ||| (a.tb d (a.gi d) ||| a.tb d (a.ta d)) else f) j k f) q = (bt f q || anyN (fun d => a.tem d q) j k)
  | 0, j, f, _ => by rw [it_0, anyN, Bool.or_false]
  | k + 1, j, f, h => by
    have h1 := I.gi j (by omega)
    have h2 := I.ta j (by omega)
    have h3 := I.np
    rw [it_s, tempted_bits I hq k (j + 1) _ (by omega), anyN, ← Bool.or_assoc]
    congr 1
    unfold TA.tem TA.isOf
    cases a.opn j
    · simp only [Bool.false_eq_true, ↓reduceIte, Bool.false_and, Bool.or_false]
    · simp only [↓reduceIte, Bool.true_and]
      rw [b_or, b_or, bt_tb a j (by omega) hq, bt_tb a j (by omega) hq]
      congr 1
      by_cases h4 : q = a.gi j
      · subst h4
        by_cases h5 : a.gi j = a.ta j
        · exact absurd h5 (I.gt j (by omega))
        · have h6 : ¬ a.ta j = a.gi j := fun e => h5 e.symm
          simp only [h5, h6, decide_true, decide_false, Bool.true_and, Bool.false_and, Bool.or_false, Bool.or_true]
      · by_cases h5 : q = a.ta j
        · subst h5
          have h6 : ¬ a.gi j = a.ta j := fun e => h4 e.symm
          simp only [h4, h6, decide_true, decide_false, Bool.true_and, Bool.false_and, Bool.false_or]
        · have h6 : ¬ a.gi j = q := fun e => h4 e.symm
          have h7 : ¬ a.ta j = q := fun e => h5 e.symm
          simp only [h4, h5, h6, h7, decide_false, Bool.false_and, Bool.or_self]
theorem x_tempted (hN : 2000 ≤ N) (R : RC (jvw G 1) a) (I : a.I) : p_X5_tempted N G J = some a.tempted := by
  have h1 := I.nd
  have h2 := I.np
  have e7 : G 1 7 = nI a.nd := R.nd
  unfold p_X5_tempted TA.tempted
  refine lp_it (L := fun n f j => p_X5_tempted_b4 N G J n f j) (m := a.nd) (fin := some) ?_ ?_ a.nd 0 N 0 (by omega) (by omega)
  · intro n f
    show p_X5_tempted_b4 N G J (n + 1) f (nI a.nd) = _
    rw [p_X5_tempted_b4, e7]
    simp (disch := omega) only [Option.bind_some, jlt_eq, ↓reduceIte, eq_self, jinT, zleT, zleF, zltT, zltF, zeq, zpos, zpos', zcl, zm6, z6, z84, z24, z14, z8, nI_add, zd0, zd1, zd2, zd3, zd4, zd5, bitI_e, bI0, bI1]
  · intro n f j hj
    have h3 := I.gi j hj
    have h4 := I.ta j hj
    have e5 : G 6 j = nI (a.gi j) := R.gi j hj
    have e6 : G 7 j = nI (a.ta j) := R.ta j hj
    have b : ∀ p, p < 6 → p_X5_temptedBit N G J (nI j) (nI p) = some (a.tb j p) := by
      intro p hp
      unfold p_X5_temptedBit TA.tb
      rw [c_gainOf hN R I hj hp, Option.bind_some]
      by_cases h : a.gain j p ≤ 0
      · rw [if_pos h, if_pos h]
      · rw [if_neg h, if_neg h]; rfl
    show p_X5_tempted_b4 N G J (n + 1) f (nI j) = p_X5_tempted_b4 N G J n _ _
    rw [p_X5_tempted_b4, e7]
    simp (disch := omega) only [Option.bind_some, jlt_eq, ↓reduceIte, eq_self, jinT, zleT, zleF, zltT, zltF, zeq, zpos, zpos', zcl, zm6, z6, z84, z24, z14, z8, nI_add, zd0, zd1, zd2, zd3, zd4, zd5, bitI_e, bI0, bI1, c_isOpen R I hj, e5, e6, b, p_X5_tempted_b58]
    cases a.opn j <;> simp only [Bool.false_eq_true, Bool.true_eq_false, ↓reduceIte]
theorem m_isTempted (hN : 2000 ≤ N) (R : RM (G 1) a) (I : a.I) {d p : Nat} (hd : d < a.nd) (hp : p < a.np) : Ok (p_X6_isTempted N G J (nI d) (nI p)) (fun r => r.1 = bI (a.tem d p) ∧ RM (r.2 1) a ∧ ∀ c, c ≠ 1 → c ≠ 3 → r.2 c = G c) := by
  have h6 := I.np
  unfold p_X6_isTempted TA.tem
  rw [m_isOpen R I hd, Option.bind_some]
  cases ho : a.opn d
  · exact Ok.s ⟨rfl, R, fun _ _ _ => rfl⟩
  · rw [bI_t, if_neg i10, m_isOf R I hd (by omega), Option.bind_some]
    cases a.isOf d p
    · exact Ok.s ⟨rfl, R, fun _ _ _ => rfl⟩
    · rw [bI_t, if_neg i10]
      refine Ok.b (m_gainOf hN R I hd hp (opn_st ho)) ?_
      rintro ⟨v, G3⟩ ⟨h1, h2, h3⟩
      have e : v = a.gain d p := h1
      subst e
      rw [jlt_eq]
      by_cases h : a.gain d p ≤ 0
      · rw [if_pos h, decide_eq_true h]; exact Ok.s ⟨rfl, h2, h3⟩
      · rw [if_neg h, decide_eq_false h]; exact Ok.s ⟨rfl, h2, h3⟩
def TA.tempM (a : TA) : Int32 := it (fun f p => it (fun f d => f ||| (if a.tem d p = true then bitI p else 0)) 0 a.nd f) 0 a.np 0
theorem tempM_in {a : TA} {p q : Nat} (hp : p < 32) (hq : q < 32) : ∀ (k j : Nat) (f : Int32), bt (it (fun f d => f ||| (if a.tem d p = true then bitI p else 0)) j k f) q = (bt f q || (decide (q = p) && anyN (fun d => a.tem d p) j k))
  | 0, j, f => by rw [it_0, anyN, Bool.and_false, Bool.or_false]
  | k + 1, j, f => by
    rw [it_s, tempM_in hp hq k (j + 1), anyN, b_or]
    cases a.tem j p
    · simp only [Bool.false_eq_true, ↓reduceIte, b_0, Bool.or_false, Bool.false_or]
    · simp only [↓reduceIte, bt_bit hp hq, Bool.true_or, Bool.and_true]
      cases bt f q <;> cases decide (q = p) <;> simp
theorem tempM_bits {a : TA} {q : Nat} (hq : q < 32) : ∀ (k j : Nat) (f : Int32), j + k ≤ 32 → bt (it (fun f p => it (fun f d => f ||| (if a.tem d p = true then bitI p else 0)) 0 a.nd f) j k f) q = (bt f q || (decide (j ≤ q) && decide (q < j + k) && anyN (fun d => a.tem d q) 0 a.nd))
  | 0, j, f, _ => by
    have h : (decide (j ≤ q) && decide (q < j + 0)) = false := by
      by_cases h : j ≤ q
      · rw [decide_eq_false (by omega : ¬ q < j + 0), Bool.and_false]
      · rw [decide_eq_false h, Bool.false_and]
    rw [it_0, h, Bool.false_and, Bool.or_false]
  | k + 1, j, f, hk => by
    rw [it_s, tempM_bits hq k (j + 1) _ (by omega), tempM_in (by omega) hq, Bool.or_assoc]
    congr 1
    rcases Nat.lt_trichotomy q j with h | h | h
    · simp [show ¬ q = j by omega, show ¬ j + 1 ≤ q by omega, show ¬ j ≤ q by omega]
    · subst h; simp
    · simp [show ¬ q = j by omega, show j + 1 ≤ q by omega, show j ≤ q by omega, show (q < j + 1 + k) = (q < j + (k + 1)) by rw [Nat.add_assoc, Nat.add_comm 1 k]]
theorem tempM_eq (I : a.I) : a.tempM = a.tempted := by
  have h2 := I.np
  apply b_ext
  intro q hq
  unfold TA.tempM TA.tempted
  rw [tempM_bits hq _ _ _ (by omega), tempted_bits I hq _ _ _ (by omega), b_0, Bool.false_or, Bool.false_or]
  by_cases h : q < a.np
  · rw [decide_eq_true (Nat.zero_le q), decide_eq_true (show q < 0 + a.np by omega)]; rfl
  · rw [decide_eq_false (show ¬ q < 0 + a.np by omega), Bool.and_false, Bool.false_and]
    refine (anyN_false _ _ (fun d _ hd => ?_)).symm
    have h3 := I.gi d (by omega)
    have h4 := I.ta d (by omega)
    unfold TA.tem TA.isOf
    rw [decide_eq_false (by omega), decide_eq_false (by omega)]
    simp
theorem m_tempted (hN : 2000 ≤ N) (R : RM (G 1) a) (I : a.I) : Ok (p_X6_tempted_b9 N J N G 0 0) (fun r => r.1 = a.tempted ∧ RM (r.2 1) a ∧ ∀ c, c ≠ 1 → c ≠ 3 → r.2 c = G c) := by
  have h1 := I.nd
  have h2 := I.np
  rw [← tempM_eq I]
  refine Ok.l3 (fun n (G1 : Nat → Nat → Int32) f x => p_X6_tempted_b9 N J n G1 f x) _ (fun j G1 f x => ∃ k, k + j = a.np ∧ x = nI k ∧ RM (G1 1) a ∧ (∀ c, c ≠ 1 → c ≠ 3 → G1 c = G c) ∧ it (fun f p => it (fun f d => f ||| (if a.tem d p = true then bitI p else 0)) 0 a.nd f) k j f = a.tempM) ?_ N a.np G 0 0 (by omega) ⟨0, by omega, nI_0.symm, R, fun _ _ _ => rfl, rfl⟩
  intro j G1 f x n hs ih
  obtain ⟨k, hk, hx, R1, hc, hf⟩ := hs
  subst hx
  show Ok (p_X6_tempted_b9 N J (n + 1) G1 f (nI k)) _
  rw [p_X6_tempted_b9, R1.np]
  by_cases h : k = a.np
  · have hj : j = 0 := by omega
    subst hj h
    simp (disch := omega) only [Option.bind_some, jlt_eq, ↓reduceIte, eq_self, jinT, zleT, zleF, zltT, zltF, zeq, zpos, zpos', zcl, zm6, z6, z84, z24, z14, z8, nI_add, zd0, zd1, zd2, zd3, zd4, zd5, bitI_e, bI0, bI1]
    exact Ok.s ⟨hf, R1, hc⟩
  · obtain ⟨j2, rfl⟩ : ∃ j2, j = j2 + 1 := ⟨j - 1, by omega⟩
    rw [it_s] at hf
    simp (disch := omega) only [Option.bind_some, jlt_eq, ↓reduceIte, eq_self, jinT, zleT, zleF, zltT, zltF, zeq, zpos, zpos', zcl, zm6, z6, z84, z24, z14, z8, nI_add, zd0, zd1, zd2, zd3, zd4, zd5, bitI_e, bI0, bI1]
    refine Ok.l3 (fun n2 (G2 : Nat → Nat → Int32) f2 x => p_X6_tempted_b21 N J (p_X6_tempted_b9 N J n) n2 G2 f2 (nI k) x) _ (fun j3 G2 f2 x => ∃ d, d + j3 = a.nd ∧ x = nI d ∧ RM (G2 1) a ∧ (∀ c, c ≠ 1 → c ≠ 3 → G2 c = G c) ∧ it (fun f d => f ||| (if a.tem d k = true then bitI k else 0)) d j3 f2 = it (fun f d => f ||| (if a.tem d k = true then bitI k else 0)) 0 a.nd f) ?_ N a.nd G1 f 0 (by omega) ⟨0, by omega, nI_0.symm, R1, hc, rfl⟩
    intro j3 G2 f2 x n2 hs2 ih2
    obtain ⟨d, hd, hx, R2, hc2, hf2⟩ := hs2
    subst hx
    show Ok (p_X6_tempted_b21 N J (p_X6_tempted_b9 N J n) (n2 + 1) G2 f2 (nI k) (nI d)) _
    rw [p_X6_tempted_b21, R2.nd]
    by_cases h4 : d = a.nd
    · have hj : j3 = 0 := by omega
      subst hj h4
      simp (disch := omega) only [Option.bind_some, jlt_eq, ↓reduceIte, eq_self, jinT, zleT, zleF, zltT, zltF, zeq, zpos, zpos', zcl, zm6, z6, z84, z24, z14, z8, nI_add, zd0, zd1, zd2, zd3, zd4, zd5, bitI_e, bI0, bI1]
      refine ih _ _ _ j2 (by omega) ⟨k + 1, by omega, rfl, R2, hc2, ?_⟩
      rw [← hf, ← hf2]; rfl
    · obtain ⟨j4, rfl⟩ : ∃ j4, j3 = j4 + 1 := ⟨j3 - 1, by omega⟩
      rw [it_s] at hf2
      rw [if_neg (by rw [zleF (by omega) (by omega)]; exact id)]
      refine Ok.b (m_isTempted hN R2 I (show d < a.nd by omega) (show k < a.np by omega)) ?_
      rintro ⟨v, G3⟩ ⟨g1, g2, g3⟩
      have g4 : v = bI (a.tem d k) := g1
      subst g4
      have hc3 : ∀ c, c ≠ 1 → c ≠ 3 → G3 c = G c := fun c c1 c3 => (g3 c c1 c3).trans (hc2 c c1 c3)
      rw [jlt_eq]
      cases h5 : a.tem d k
      · rw [h5] at hf2
        simp (disch := omega) only [Option.bind_some, jlt_eq, ↓reduceIte, eq_self, jinT, zleT, zleF, zltT, zltF, zeq, zpos, zpos', zcl, zm6, z6, z84, z24, z14, z8, nI_add, zd0, zd1, zd2, zd3, zd4, zd5, bitI_e, bI0, bI1, p_X6_tempted_b49]
        exact ih2 _ _ _ j4 (by omega) ⟨d + 1, by omega, rfl, g2, hc3, hf2⟩
      · rw [h5] at hf2
        simp (disch := omega) only [Option.bind_some, jlt_eq, ↓reduceIte, eq_self, jinT, zleT, zleF, zltT, zltF, zeq, zpos, zpos', zcl, zm6, z6, z84, z24, z14, z8, nI_add, zd0, zd1, zd2, zd3, zd4, zd5, bitI_e, bI0, bI1, p_X6_tempted_b49, Bool.true_eq_false]
        exact ih2 _ _ _ j4 (by omega) ⟨d + 1, by omega, rfl, g2, hc3, hf2⟩
theorem case_23 (hN : 2000 ≤ N) (hL : LR G J s) : Ok (p_case_23 N xs G J i) (fun r => ∃ s, LR r.1 r.2 s) := by
  have R := hL.1.now
  have M := hL.2.1
  have I := hL.2.2.now
  unfold p_case_23 p_X6_tempted
  rw [x_tempted hN R I]
  refine k_A (s2 := s) hL.1 hL.2.2 ?_
  rw [jlt_eq]
  refine (m_tempted hN (thrR M.now 0) I).c ?_
  rintro r ⟨h1, h2, h3⟩
  exact ⟨h1, M.k h2 ((KM.thr 0).trans (KM.of13 h3)) rfl (SA.eta s)⟩
end cases5

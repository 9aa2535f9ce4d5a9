/-! hope -/
section hope
variable {N : Nat} {G G2 : Nat → Nat → Int32} {J J2 : Nat → Nat → Int64} {a : TA} {s s2 : SA} {xs : Nat → Int32} {i : Int32}
theorem ad32 {x y : Int32} {A B : Int} (hx : -A ≤ x.toInt ∧ x.toInt ≤ A) (hy : -B ≤ y.toInt ∧ y.toInt ≤ B) (h : A + B < 2147483648) : (x + y).toInt = x.toInt + y.toInt := by
  rw [Int32.toInt_add]
  exact Int.bmod_eq_of_le (by omega) (by omega)
theorem sb32 {x y : Int32} {A B : Int} (hx : -A ≤ x.toInt ∧ x.toInt ≤ A) (hy : -B ≤ y.toInt ∧ y.toInt ≤ B) (h : A + B < 2147483648) : (x - y).toInt = x.toInt - y.toInt := by
  rw [Int32.toInt_sub]
  exact Int.bmod_eq_of_le (by omega) (by omega)
theorem sm_bd {f : Nat → Int32} {B : Nat} : ∀ (k j : Nat), (∀ i, j ≤ i → i < j + k → -(B : Int) ≤ (f i).toInt ∧ (f i).toInt ≤ B) → (k + 1) * B < 2147483648 → -((k * B : Nat) : Int) ≤ (sm f j k).toInt ∧ (sm f j k).toInt ≤ ((k * B : Nat) : Int)
  | 0, j, _, _ => by
    rw [sm_0]
    have : (0 : Int32).toInt = 0 := by decide
    omega
  | k + 1, j, h, hb => by
    rw [sm_e]
    have hb2 : (k + 1 + 1) * B = (k + 1) * B + B := Nat.succ_mul _ _
    have hb3 : (k + 1) * B = k * B + B := Nat.succ_mul _ _
    have ih := sm_bd k j (fun i h1 h2 => h i h1 (by omega)) (by omega)
    have hf := h (j + k) (by omega) (by omega)
    rw [ad32 (A := ((k * B : Nat) : Int)) (B := (B : Int)) ih hf (by omega)]
    omega
theorem mx_bd {x : Int32} {A : Int} (hA : 0 ≤ A) (h : x.toInt ≤ A) : 0 ≤ (mx x).toInt ∧ (mx x).toInt ≤ A := by
  unfold mx
  have z : (0 : Int32).toInt = 0 := by decide
  by_cases e : 0 < x
  · rw [if_pos e]
    have := Int32.lt_iff_toInt_lt.mp e
    omega
  · rw [if_neg e]
    omega
theorem cut_bd (I : a.I) {x : Int32} (h : 0 ≤ x.toInt ∧ x.toInt ≤ 9999) : 0 ≤ (a.cut x).toInt ∧ (a.cut x).toInt ≤ 9999 := by
  have hs := I.sh
  have z : (100 : Int32).toInt = 100 := by decide
  have hp : 0 ≤ a.sh.toInt * x.toInt := Int.mul_nonneg hs.1 h.1
  have hq : a.sh.toInt * x.toInt ≤ 100 * x.toInt := Int.mul_le_mul_of_nonneg_right hs.2 h.1
  have hm : (a.sh * x).toInt = a.sh.toInt * x.toInt := by
    rw [Int32.toInt_mul]
    exact Int.bmod_eq_of_le (by omega) (by omega)
  unfold TA.cut
  rw [Int32.toInt_div, hm, z]
  have e : (a.sh.toInt * x.toInt).tdiv 100 = (a.sh.toInt * x.toInt) / 100 := Int.tdiv_eq_ediv_of_nonneg hp
  rw [e]
  rw [Int.bmod_eq_of_le (by omega) (by omega)]
  omega
theorem pu_bd (I : a.I) {f p : Nat} (hf : f < a.nd) (hp : p < a.np) : -20000 ≤ (a.pu f p).toInt ∧ (a.pu f p).toInt ≤ 20000 := by
  have h1 := I.pr f hf
  have h2 := I.th f hf
  have h3 := I.nt
  have h4 := I.np
  have h5 := I.gi f hf
  have h6 := I.ta f hf
  have wp := I.wo (a.th f) p (by omega) (by omega)
  have wg := I.wo (a.th f) (a.gi f) (by omega) (by omega)
  have wt := I.wo (a.th f) (a.ta f) (by omega) (by omega)
  have d1 : (a.wo (a.th f) p - a.pr f).toInt = (a.wo (a.th f) p).toInt - (a.pr f).toInt := sb32 (A := 999) (B := 9999) (by omega) (by omega) (by omega)
  have d2 : (a.pr f - a.wo (a.th f) p).toInt = (a.pr f).toInt - (a.wo (a.th f) p).toInt := sb32 (A := 9999) (B := 999) (by omega) (by omega) (by omega)
  have d3 : (a.pr f - a.wo (a.th f) (a.gi f)).toInt = (a.pr f).toInt - (a.wo (a.th f) (a.gi f)).toInt := sb32 (A := 9999) (B := 999) (by omega) (by omega) (by omega)
  have d4 : (a.wo (a.th f) (a.ta f) - a.pr f).toInt = (a.wo (a.th f) (a.ta f)).toInt - (a.pr f).toInt := sb32 (A := 999) (B := 9999) (by omega) (by omega) (by omega)
  have g1 := cut_bd I (x := a.wg f) (mx_bd (A := 9999) (by omega) (by omega))
  have g2 := cut_bd I (x := a.wt f) (mx_bd (A := 9999) (by omega) (by omega))
  have ng : ∀ y : Int32, 0 ≤ y.toInt ∧ y.toInt ≤ 9999 → -9999 ≤ (-y).toInt ∧ (-y).toInt ≤ 0 := by
    intro y hy
    rw [Int32.toInt_neg, Int.bmod_eq_of_le (by omega) (by omega)]
    omega
  have n1 := ng _ g1
  have n2 := ng _ g2
  unfold TA.pu
  have A1 : -10000 ≤ (if a.gi f = p then a.wo (a.th f) p - a.pr f else -(a.cut (a.wg f))).toInt ∧ (if a.gi f = p then a.wo (a.th f) p - a.pr f else -(a.cut (a.wg f))).toInt ≤ 10000 := by
    split <;> omega
  have A2 : -10000 ≤ (if a.ta f = p then a.pr f - a.wo (a.th f) p else -(a.cut (a.wt f))).toInt ∧ (if a.ta f = p then a.pr f - a.wo (a.th f) p else -(a.cut (a.wt f))).toInt ≤ 10000 := by
    split <;> omega
  rw [ad32 (A := 10000) (B := 10000) A1 A2 (by omega)]
  omega
theorem gain_bd (I : a.I) {d p : Nat} (hd : d < a.nd) (hp : p < a.np) : -600000 ≤ (a.gain d p).toInt ∧ (a.gain d p).toInt ≤ 600000 := by
  have h1 := I.nd
  unfold TA.gain
  have := sm_bd (f := fun f => if a.fw d f = true then a.pu f p else 0) (B := 20000) (a.nd - d) d (fun i h2 h3 => by
    have z : (0 : Int32).toInt = 0 := by decide
    split
    · exact pu_bd I (by omega) hp
    · omega) (by omega)
  omega
/-- one round of offers -/
def hA (r : Nat → Int64) (w P h : Int64) : Int64 → Nat → Int64 := fun u i => u + (if (r i + w) * P < h then h else (r i + w) * P)
theorem x_ahead (hN : 2000 ≤ N) {m : Nat} {r : Nat → Int64} {w P h : Int64} (h1 : G 0 1 = nI m) (hm : m ≤ 40) (hr : ∀ k, k < 40 → J 1 k = r k) : p_X4_hopeAhead N G J w P h = some (it (hA r w P h) 0 m 0) := by
  unfold p_X4_hopeAhead
  refine lp_it (L := fun n u j => p_X4_hopeAhead_b6 N G J n w P h u j) (m := m) (fin := some) ?_ ?_ m 0 N 0 (by omega) (by omega)
  · intro n u
    show p_X4_hopeAhead_b6 N G J (n + 1) w P h u (nI m) = _
    rw [p_X4_hopeAhead_b6, h1, if_pos (nI_le (Nat.le_refl _) (by omega))]
  · intro n u j hj
    show p_X4_hopeAhead_b6 N G J (n + 1) w P h u (nI j) = p_X4_hopeAhead_b6 N G J n w P h _ _
    rw [p_X4_hopeAhead_b6, h1, if_neg (nI_ge (by omega) (by omega)), if_pos (jinT (by omega) (by omega)), zcl (by omega), hr j (by omega), nI_1]
    rfl
def hT (r : Nat → Int64) (w P h : Int64) : Int32 → Nat → Int32 := fun l i => if (r i + w) * P < h then l else if l = -1 then (r i).toInt32 else if l.toInt64 ≤ r i then l else (r i).toInt32
theorem x_least (hN : 2000 ≤ N) {m : Nat} {r : Nat → Int64} {w P h : Int64} (h1 : G 0 1 = nI m) (hm : m ≤ 40) (hr : ∀ k, k < 40 → J 1 k = r k) : p_X4_leastTaken N G J w P h = some (it (hT r w P h) 0 m (-1)) := by
  unfold p_X4_leastTaken
  refine lp_it (L := fun n l j => p_X4_leastTaken_b6 N G J n w P h l j) (m := m) (fin := some) ?_ ?_ m 0 N (-1) (by omega) (by omega)
  · intro n l
    show p_X4_leastTaken_b6 N G J (n + 1) w P h l (nI m) = _
    rw [p_X4_leastTaken_b6, h1, if_pos (nI_le (Nat.le_refl _) (by omega))]
  · intro n l j hj
    show p_X4_leastTaken_b6 N G J (n + 1) w P h l (nI j) = p_X4_leastTaken_b6 N G J n w P h _ _
    rw [p_X4_leastTaken_b6, h1, if_neg (nI_ge (by omega) (by omega)), if_pos (jinT (by omega) (by omega)), zcl (by omega), hr j (by omega)]
    unfold p_X4_leastTaken_b52 p_X4_leastTaken_b62 hT
    have c1 : (lg_cmp ((r j + w) * P) h < 0) = ((r j + w) * P < h) := propext (lg_cmp_lt _ _)
    have c2 : (0 ≤ lg_cmp (r j) l.toInt64) = (l.toInt64 ≤ r j) := propext (lg_cmp_ge _ _)
    simp only [c1, c2]
    by_cases e1 : (r j + w) * P < h
    · rw [if_pos e1, if_pos e1, nI_1]
    · rw [if_neg e1, if_neg e1]
      rw [if_pos (jinT (show j < 40 by omega) (by omega)), if_pos (jinT (show j < 40 by omega) (by omega))]
      by_cases e2 : l = -1
      · rw [if_pos e2, if_pos e2, zcl (by omega), hr j (by omega), nI_1]
      · rw [if_neg e2, if_neg e2]
        by_cases e3 : l.toInt64 ≤ r j
        · rw [if_pos e3, if_pos e3, nI_1]
        · rw [if_neg e3, if_neg e3, zcl (by omega), hr j (by omega), nI_1]
/-- how the hopes grow -/
def hH (r : Nat → Int64) (m : Nat) (w : Int64) : Nat → Int64 × Int64
  | 0 => (1, 0)
  | k + 1 => ((hH r m w k).1 * (nI m).toInt64, it (hA r w (hH r m w k).1 (hH r m w k).2) 0 m 0)
theorem pw_le {m k : Nat} (hm : m ≤ 6) (hk : k ≤ 6) : m ^ k ≤ 46656 := Nat.le_trans (Nat.pow_le_pow_left hm k) (Nat.le_trans (Nat.pow_le_pow_right (by omega) hk) (by decide))
theorem hA_bd {r : Nat → Int64} {w P h : Int64} {Q : Int} {m : Nat} (hm : m ≤ 6) (hP : P.toInt = Q) (hQ : 1 ≤ Q ∧ Q ≤ 46656) (hh : 0 ≤ h.toInt ∧ h.toInt ≤ 620000 * Q) (hr : ∀ i, i < m → -620000 ≤ (r i + w).toInt ∧ (r i + w).toInt ≤ 620000) : ∀ j, j ≤ m → 0 ≤ (it (hA r w P h) 0 j 0).toInt ∧ (it (hA r w P h) 0 j 0).toInt ≤ j * (620000 * Q)
  | 0, _ => by
    rw [it_0]
    have : (0 : Int64).toInt = 0 := by decide
    omega
  | j + 1, hj => by
    have ih := hA_bd hm hP hQ hh hr j (by omega)
    have hx := hr j (by omega)
    rw [it_e, Nat.zero_add]
    generalize it (hA r w P h) 0 j 0 = u at ih ⊢
    unfold hA
    have b1 : (r j + w).toInt * Q ≤ 620000 * Q := Int.mul_le_mul_of_nonneg_right hx.2 (by omega)
    have b2 : -620000 * Q ≤ (r j + w).toInt * Q := Int.mul_le_mul_of_nonneg_right hx.1 (by omega)
    have hmul : ((r j + w) * P).toInt = (r j + w).toInt * Q := by
      rw [Int64.toInt_mul, hP]
      exact Int.bmod_eq_of_le (by omega) (by omega)
    have hj6 : (j : Int) ≤ 6 := by omega
    have hjQ : (j : Int) * (620000 * Q) ≤ 6 * (620000 * Q) := Int.mul_le_mul_of_nonneg_right hj6 (by omega)
    have e1 : ((j + 1 : Nat) : Int) * (620000 * Q) = (j : Int) * (620000 * Q) + 620000 * Q := by
      rw [Int.natCast_add]
      show ((j : Int) + 1) * (620000 * Q) = _
      rw [Int.add_mul, Int.one_mul]
    have add : ∀ z : Int64, 0 ≤ z.toInt → z.toInt ≤ 620000 * Q → 0 ≤ (u + z).toInt ∧ (u + z).toInt ≤ ((j + 1 : Nat) : Int) * (620000 * Q) := by
      intro z z1 z2
      have : (u + z).toInt = u.toInt + z.toInt := by
        rw [Int64.toInt_add]
        exact Int.bmod_eq_of_le (by omega) (by omega)
      rw [this, e1]
      omega
    by_cases c : (r j + w) * P < h
    · rw [if_pos c]; exact add h hh.1 hh.2
    · rw [if_neg c]
      have c2 : h.toInt ≤ ((r j + w) * P).toInt := by
        have : ¬ ((r j + w) * P).toInt < h.toInt := fun e => c (Int64.lt_iff_toInt_lt.mpr e)
        omega
      exact add _ (by omega) (by omega)
theorem hH_bd {r : Nat → Int64} {w : Int64} {m : Nat} (hm : m ≤ 6) (h1 : 1 ≤ m) (hr : ∀ i, i < m → -620000 ≤ (r i + w).toInt ∧ (r i + w).toInt ≤ 620000) : ∀ k, k ≤ 6 → (hH r m w k).1.toInt = ((m ^ k : Nat) : Int) ∧ 0 ≤ (hH r m w k).2.toInt ∧ (hH r m w k).2.toInt ≤ 620000 * ((m ^ k : Nat) : Int)
  | 0, _ => by
    have a : (1 : Int64).toInt = 1 := by decide
    have b : (0 : Int64).toInt = 0 := by decide
    refine ⟨a, ?_, ?_⟩
    · show 0 ≤ (0 : Int64).toInt
      omega
    · show (0 : Int64).toInt ≤ _
      rw [b]; simp
  | k + 1, hk => by
    obtain ⟨i1, i2, i3⟩ := hH_bd hm h1 hr k (by omega)
    have hp := pw_le hm (show k ≤ 6 by omega)
    have hp1 : 1 ≤ m ^ k := Nat.one_le_pow _ _ (by omega)
    have hp2 := pw_le hm hk
    have e : (m ^ (k + 1) : Nat) = m ^ k * m := Nat.pow_succ m k
    have hb := hA_bd hm i1 (by omega) ⟨i2, i3⟩ hr m (Nat.le_refl _)
    refine ⟨?_, hb.1, ?_⟩
    · show ((hH r m w k).1 * (nI m).toInt64).toInt = _
      rw [Int64.toInt_mul, i1, w_n (by omega), ← Int.natCast_mul, ← e]
      exact Int.bmod_eq_of_le (by omega) (by omega)
    · show (it (hA r w (hH r m w k).1 (hH r m w k).2) 0 m 0).toInt ≤ _
      refine Int.le_trans hb.2 ?_
      rw [e, Int.natCast_mul]
      have : (m : Int) * (620000 * ((m ^ k : Nat) : Int)) = 620000 * (((m ^ k : Nat) : Int) * (m : Int)) := by
        rw [Int.mul_left_comm, Int.mul_comm (m : Int)]
      omega
def hF (r : Nat → Int64) (m n : Nat) (w : Int64) (x : Int32) : Int32 := if x = 2 then it (hT r w (hH r m w (n - 1)).1 (hH r m w (n - 1)).2) 0 m (-1) else if x = 0 then ((hH r m w n).2 / (hH r m w n).1).toInt32 else ((hH r m w n).2 - (hH r m w n).2 / (hH r m w n).1 * (hH r m w n).1).toInt32
theorem hH_ne {r : Nat → Int64} {w : Int64} {m n : Nat} (hm : m ≤ 6) (h1 : 1 ≤ m) (hn : n ≤ 6) (hr : ∀ i, i < m → -620000 ≤ (r i + w).toInt ∧ (r i + w).toInt ≤ 620000) : 0 < (hH r m w n).1.toInt ∧ ¬ (hH r m w n).1 = 0 := by
  obtain ⟨i1, _, _⟩ := hH_bd hm h1 hr n hn
  have hp1 : 1 ≤ m ^ n := Nat.one_le_pow _ _ (by omega)
  refine ⟨by omega, fun e => ?_⟩
  rw [e] at i1
  have : (0 : Int64).toInt = 0 := by decide
  omega
theorem x_hopeIn (hN : 2000 ≤ N) {m n : Nat} {r : Nat → Int64} {w : Int64} {x : Int32} (h1 : G 0 1 = nI m) (hm : m ≤ 6) (hm1 : 1 ≤ m) (hr : ∀ k, k < 40 → J 1 k = r k) (hn : n ≤ 6) (hn1 : 1 ≤ n) (hb : ∀ i, i < m → -620000 ≤ (r i + w).toInt ∧ (r i + w).toInt ≤ 620000) : p_X4_hopeIn N G J w (nI n) x = some (hF r m n w x) := by
  have key : ∀ k j f, j + k = n → 1 ≤ j → k < f → p_X4_hopeIn_b9 N G J f w (nI n) x (hH r m w (j - 1)).1 (hH r m w (j - 1)).2 (nI j) = some (hF r m n w x) := by
    intro k
    induction k with
    | zero =>
      intro j f hj hj1 hf
      obtain ⟨q, rfl⟩ : ∃ q, f = q + 1 := ⟨f - 1, by omega⟩
      have e : j = n := by omega
      subst e
      rw [p_X4_hopeIn_b9, if_pos (nI_le (Nat.le_refl _) (by omega))]
      unfold hF
      by_cases x2 : x = 2
      · rw [if_pos x2, if_pos x2, x_least hN h1 (by omega) hr]; rfl
      · obtain ⟨n1, n2⟩ := hH_ne hm hm1 hn hb
        have e1 : (hH r m w (j - 1)).1 * (nI m).toInt64 = (hH r m w j).1 := by
          conv => rhs; rw [show j = (j - 1) + 1 by omega]
          rfl
        have e2 : it (hA r w (hH r m w (j - 1)).1 (hH r m w (j - 1)).2) 0 m 0 = (hH r m w j).2 := by
          conv => rhs; rw [show j = (j - 1) + 1 by omega]
          rfl
        have c : 0 < lg_cmp (hH r m w j).1 0 := (lg_cmp_gt _ _).mpr (Int64.lt_iff_toInt_lt.mpr n1)
        rw [if_neg x2, if_neg x2, x_ahead hN h1 (by omega) hr, Option.bind_some, h1, e1, e2, if_pos c]
        by_cases x0 : x = 0
        · rw [if_pos x0, if_pos x0, if_neg n2]
        · rw [if_neg x0, if_neg x0, if_neg n2]
    | succ k ih =>
      intro j f hj hj1 hf
      obtain ⟨q, rfl⟩ : ∃ q, f = q + 1 := ⟨f - 1, by omega⟩
      rw [p_X4_hopeIn_b9, if_neg (nI_ge (by omega) (by omega)), x_ahead hN h1 (by omega) hr, Option.bind_some, h1, nI_1]
      have := ih (j + 1) q (by omega) (by omega) (by omega)
      rw [show j + 1 - 1 = (j - 1) + 1 by omega] at this
      exact this
  exact key (n - 1) 1 N (by omega) (by omega) (by omega)
end hope

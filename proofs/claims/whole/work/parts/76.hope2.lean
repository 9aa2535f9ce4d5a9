/-! hope in the reference -/
section hope2
variable {N : Nat} {G G2 : Nat → Nat → Int32} {J J2 : Nat → Nat → Int64} {a : TA} {s s2 : SA} {xs : Nat → Int32} {i : Int32}
/-- one round: hopes and the least taken -/
theorem m_round (hN : 2000 ≤ N) {q m : Nat} {r : Nat → Int64} {w P h : Int64} {b y z n : Int32} {rv : (Nat → Nat → Int32) → Int32 → Int32 → Int32 → Int32 → Int32 → Int64 → Int64 → Int32 → Int32 → Option (Int32 × (Nat → Nat → Int32))} (hq : q < 4) (hm : m ≤ 6) (hr : ∀ k, k < 40 → J 14 (40 * q + k) = r k) (hw : ∀ i, i < m → ((r i).toInt32 + b).toInt64 = r i + w) (h32 : ∀ i, i < m → (r i).toInt32.toInt64 = r i) (hh : 0 ≤ h.toInt) : p_X6_hope_b219 N J rv N G (nI q) y z (nI m) b h P (-1) n 0 0 = rv G (nI q) y z (nI m) b (it (hA r w P h) 0 m 0) (P * (nI m).toInt64) (it (hT r w P h) 0 m (-1)) (n + 1) := by
  have key := lp_it (L := fun f (u : Int64 × Int32) j => p_X6_hope_b219 N J rv f G (nI q) y z (nI m) b h P u.2 n u.1 j) (m := m) (step := fun u i => (hA r w P h u.1 i, hT r w P h u.2 i)) (fin := fun u => rv G (nI q) y z (nI m) b u.1 (P * (nI m).toInt64) u.2 (n + 1)) ?_ ?_ m 0 N (0, -1) (by omega) (by omega)
  · have sp : ∀ (k j : Nat) (u : Int64 × Int32), it (fun (u : Int64 × Int32) i => (hA r w P h u.1 i, hT r w P h u.2 i)) j k u = (it (hA r w P h) j k u.1, it (hT r w P h) j k u.2) := by
      intro k
      induction k with
      | zero => intro j u; rfl
      | succ k ih => intro j u; rw [it_s, it_s, it_s, ih]
    rw [sp] at key
    exact key
  · intro f u
    show p_X6_hope_b219 N J rv (f + 1) G (nI q) y z (nI m) b h P u.2 n u.1 (nI m) = _
    rw [p_X6_hope_b219, if_pos (nI_le (Nat.le_refl _) (by omega))]
  · intro f u j hj
    show p_X6_hope_b219 N J rv (f + 1) G (nI q) y z (nI m) b h P u.2 n u.1 (nI j) = p_X6_hope_b219 N J rv f G (nI q) y z (nI m) b h P (hT r w P h u.2 j) n (hA r w P h u.1 j) (nI (j + 1))
    rw [p_X6_hope_b219, if_neg (nI_ge (by omega) (by omega)), z40, if_pos (jinT (by omega) (by omega)), zcl (by omega), hr j (by omega), hw j hj]
    have c1 : (lg_cmp ((r j + w) * P) h < 0) = ((r j + w) * P < h) := propext (lg_cmp_lt _ _)
    have c2 : (lg_cmp ((r j + w) * P) 0 < 0) = ((r j + w) * P < 0) := propext (lg_cmp_lt _ _)
    have t3 : (r j).toInt32.toInt = (r j).toInt := by
      have := Int32.toInt_toInt64 (r j).toInt32
      rw [h32 j hj] at this
      exact this.symm
    have c3 : (u.2 ≤ (r j).toInt32) = (u.2.toInt64 ≤ r j) := propext (by rw [Int32.le_iff_toInt_le, Int64.le_iff_toInt_le, Int32.toInt_toInt64, t3])
    unfold p_X6_hope_b271 p_X6_hope_b272 p_X6_hope_b288 p_X6_hope_b309 p_X6_hope_b313 hA hT
    simp only [c1, c2, c3, nI_1, i10, ↓reduceIte]
    by_cases e1 : (r j + w) * P < h
    · simp only [e1, ↓reduceIte]
    · have e2 : ¬ (r j + w) * P < 0 := fun e => e1 (by
        rw [Int64.lt_iff_toInt_lt] at e ⊢
        have : (0 : Int64).toInt = 0 := by decide
        omega)
      by_cases e3 : u.2 = -1
      · simp only [e1, e2, e3, ↓reduceIte]
      · by_cases e4 : u.2.toInt64 ≤ r j <;> simp only [e1, e2, e3, e4, ↓reduceIte]
theorem m_rounds (hN : 2000 ≤ N) {q m n : Nat} {r : Nat → Int64} {w : Int64} {b x : Int32} (hq : q < 4) (hm : m ≤ 6) (hm1 : 1 ≤ m) (hn : n ≤ 6) (hn1 : 1 ≤ n) (hr : ∀ k, k < 40 → J 14 (40 * q + k) = r k) (hw : ∀ i, i < m → ((r i).toInt32 + b).toInt64 = r i + w) (h32 : ∀ i, i < m → (r i).toInt32.toInt64 = r i) (hb : ∀ i, i < m → -620000 ≤ (r i + w).toInt ∧ (r i + w).toInt ≤ 620000) (hx : x = 0 ∨ x = 1 ∨ x = 2) : p_X6_hope_b204 N J N G (nI q) (nI n) x (nI m) b 0 1 (-1) 1 = some (hF r m n w x, G) := by
  have key : ∀ k j f l, j + k = n → k + 1 < f → (k = 0 → l = it (hT r w (hH r m w (n - 1)).1 (hH r m w (n - 1)).2) 0 m (-1)) → p_X6_hope_b204 N J f G (nI q) (nI n) x (nI m) b (hH r m w j).2 (hH r m w j).1 l (nI (j + 1)) = some (hF r m n w x, G) := by
    intro k
    induction k with
    | zero =>
      intro j f l hj hf hl
      obtain ⟨p, rfl⟩ : ∃ p, f = p + 1 := ⟨f - 1, by omega⟩
      have e : j = n := by omega
      subst e
      obtain ⟨n1, n2⟩ := hH_ne hm hm1 hn hb
      have i02 : ¬ (0 : Int32) = 2 := by decide
      have i12 : ¬ (1 : Int32) = 2 := by decide
      have i21 : ¬ (2 : Int32) = 1 := by decide
      rw [p_X6_hope_b204, if_pos (nI_lt (by omega) (by omega)), hl rfl]
      unfold hF
      rcases hx with e | e | e <;> subst e
      · rw [if_pos rfl, if_neg n2, if_neg i02, if_pos rfl]
      · rw [if_neg i10, if_pos rfl, if_neg n2, if_neg i12, if_neg i10]
      · rw [if_neg i20, if_neg i21, if_pos rfl]
    | succ k ih =>
      intro j f l hj hf hl
      obtain ⟨p, rfl⟩ : ∃ p, f = p + 1 := ⟨f - 1, by omega⟩
      obtain ⟨_, b2, _⟩ := hH_bd hm hm1 hb j (by omega)
      rw [p_X6_hope_b204, if_neg (nI_nlt (by omega) (by omega)), m_round hN hq hm hr hw h32 b2, nI_1]
      exact ih (j + 1) p _ (by omega) (by omega) (fun hk => by rw [show n - 1 = j by omega])
  have := key n 0 N (-1) (by omega) (by omega) (fun h => by omega)
  exact this
def okR (r : Nat → Int64) : Nat → Nat → Bool
  | _, 0 => true
  | j, k + 1 => decide (0 ≤ (r j).toInt ∧ (r j).toInt ≤ 9999) && okR r (j + 1) k
theorem okR_i {r : Nat → Int64} : ∀ (k j : Nat), okR r j k = true → ∀ i, j ≤ i → i < j + k → 0 ≤ (r i).toInt ∧ (r i).toInt ≤ 9999
  | 0, j, _, i, h1, h2 => absurd h2 (by omega)
  | k + 1, j, h, i, h1, h2 => by
    rw [okR, Bool.and_eq_true, decide_eq_true_eq] at h
    by_cases e : i = j
    · subst e; exact h.1
    · exact okR_i k (j + 1) h.2 i (by omega) (by omega)
def offs (r : Nat → Int64) (m : Nat) : Bool := decide (1 ≤ m) && (decide (m ≤ 6) && okR r 0 m)
theorem L9999 : (9999 : Int64).toInt = 9999 := by decide
theorem x_offers (hN : 2000 ≤ N) {m : Nat} {r : Nat → Int64} (h1 : G 0 1 = nI m) (hm : m ≤ 40) (hr : ∀ k, k < 40 → J 1 k = r k) : p_X4_isOffers N G J = some (bI (offs r m)) := by
  have e1 : (1 : Int32) = nI 1 := by decide
  have e6 : (6 : Int32) = nI 6 := by decide
  have key : ∀ k j f, j + k = m → k < f → p_X4_isOffers_b21 N G J f (nI j) = some (bI (okR r j k)) := by
    intro k
    induction k with
    | zero =>
      intro j f hj hf
      obtain ⟨p, rfl⟩ : ∃ p, f = p + 1 := ⟨f - 1, by omega⟩
      rw [p_X4_isOffers_b21, h1, if_pos (nI_le (by omega) (by omega))]; rfl
    | succ k ih =>
      intro j f hj hf
      obtain ⟨p, rfl⟩ : ∃ p, f = p + 1 := ⟨f - 1, by omega⟩
      rw [p_X4_isOffers_b21, h1, if_neg (nI_ge (by omega) (by omega)), if_pos (jinT (by omega) (by omega)), if_pos (jinT (by omega) (by omega)), zcl (by omega), hr j (by omega), okR, nI_1, ih (j + 1) p (by omega) (by omega)]
      have c1 : (lg_cmp (r j) 0 < 0) ↔ (r j).toInt < 0 := (lg_cmp_lt _ _).trans (Int64.lt_iff_toInt_lt.trans (by rfl))
      have c2 : (lg_cmp (r j) 9999 ≤ 0) ↔ (r j).toInt ≤ 9999 := (lg_cmp_le _ _).trans (Int64.le_iff_toInt_le.trans (by rfl))
      by_cases a1 : (r j).toInt < 0
      · rw [if_pos (c1.mpr a1), decide_eq_false (by omega)]; rfl
      · rw [if_neg (fun e => a1 (c1.mp e))]
        by_cases a2 : (r j).toInt ≤ 9999
        · rw [if_pos (c2.mpr a2), decide_eq_true (by omega), Bool.true_and]
        · rw [if_neg (fun e => a2 (c2.mp e)), decide_eq_false (by omega)]; rfl
  unfold p_X4_isOffers offs
  rw [h1, e1, e6]
  by_cases a1 : 1 ≤ m
  · rw [if_neg (nI_nlt a1 (by omega)), decide_eq_true a1, Bool.true_and]
    by_cases a2 : m ≤ 6
    · rw [if_pos (nI_le a2 (by omega)), decide_eq_true a2, Bool.true_and]
      exact key m 0 N (by omega) (by omega)
    · rw [if_neg (nI_ge (by omega) (by omega)), decide_eq_false a2]; rfl
  · rw [if_pos (nI_lt (by omega) (by omega)), decide_eq_false a1]; rfl
theorem m_offers (hN : 2000 ≤ N) {q m : Nat} {r : Nat → Int64} {d y z : Int32} (hq : q < 4) (hm : m ≤ 40) (hr : ∀ k, k < 40 → J 14 (40 * q + k) = r k) : ∀ (k j f : Nat), j + k = m → k < f → p_X6_hope_b112 N J f G d (nI q) y z (nI m) 1 (nI j) = p_X6_hope_b151 N J G d (nI q) y z (nI m) (bI (okR r j k))
  | 0, j, f, hj, hf => by
    obtain ⟨p, rfl⟩ : ∃ p, f = p + 1 := ⟨f - 1, by omega⟩
    rw [p_X6_hope_b112, if_pos (nI_le (by omega) (by omega))]; rfl
  | k + 1, j, f, hj, hf => by
    obtain ⟨p, rfl⟩ : ∃ p, f = p + 1 := ⟨f - 1, by omega⟩
    rw [p_X6_hope_b112, if_neg (nI_ge (by omega) (by omega)), if_neg i10, z40, if_pos (jinT (by omega) (by omega)), zcl (by omega), hr j (by omega), w_in, w_0, L9999, Option.bind_some, okR, nI_1]
    by_cases c : 0 ≤ (r j).toInt ∧ (r j).toInt ≤ 9999
    · rw [decide_eq_true c, Bool.true_and]
      exact m_offers hN hq hm hr k (j + 1) p (by omega) (by omega)
    · rw [decide_eq_false c, Bool.false_and, bI_f]
      obtain ⟨p2, rfl⟩ : ∃ p2, p = p2 + 1 := ⟨p - 1, by omega⟩
      rw [p_X6_hope_b112, if_pos rfl, ite_self]
end hope2

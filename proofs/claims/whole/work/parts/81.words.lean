/-! words and numbers -/
def wch (w i : Nat) : Nat := ([[112, 101, 111, 112, 108, 101], [99, 111, 105, 110, 115], [116, 104, 105, 110, 103], [119, 111, 114, 116, 104], [115, 104, 97, 114, 101], [98, 101, 108, 108], [101, 97, 116, 101, 110]].getD w []).getD i 0
def wln (w : Nat) : Nat := [6, 5, 5, 5, 5, 4, 5].getD w 0
theorem jch_w : ∀ w, w < 7 → ∀ i, i < wln w → jch w (nI i) = nI (wch w i) ∧ 97 ≤ wch w i ∧ wch w i ≤ 122 := by decide +kernel
theorem sb_c : ∀ c, c < 123 → ∀ t, t < 256 → (sb t = nI c ↔ t = c) := by decide +kernel
def aw (tp : Nat → Nat) (b w : Nat) : Nat → Nat → Bool
  | _, 0 => true
  | j, m + 1 => decide (tp (b + j) = wch w j) && aw tp b w (j + 1) m
def isW (tp : Nat → Nat) (t : Nat × Nat × Nat × Nat) (w : Nat) : Bool := decide (t.1 = 1) && (decide (t.2.2.1 - t.2.1 = wln w) && aw tp t.2.1 w 0 (wln w))
/-- a token that lies on the tape -/
def tkOk (lim : Nat) (t : Nat × Nat × Nat × Nat) : Prop := t.2.1 ≤ t.2.2.1 ∧ t.2.2.1 ≤ lim ∧ t.1 ≤ 4 ∧ t.2.2.2 < 10000
theorem dval_lt {tp : Nat → Nat} {b : Nat} : ∀ (n : Nat), (∀ i, i < n → 48 ≤ tp (b + i) ∧ tp (b + i) ≤ 57) → dval tp b n < 10 ^ n
  | 0, _ => by rw [dval]; decide
  | n + 1, h => by
    have := dval_lt n (fun i hi => h i (by omega))
    have h2 := h n (by omega)
    rw [dval, Nat.pow_succ]
    omega
theorem tok_ok (tp : Nat → Nat) (htp : ∀ k, tp k < 256) {lim k : Nat} (hk : k ≤ lim) : tkOk lim (tok tp lim k) ∧ k ≤ (tok tp lim k).2.1 ∧ (¬ (tok tp lim k).1 = 0 → k < (tok tp lim k).2.2.1) := by
  unfold tok
  dsimp only
  have hb := rn_le (fun i => spc (tp i)) (lim - k) k
  generalize rn (fun i => spc (tp i)) (lim - k) k = b at hb ⊢
  by_cases h1 : lim ≤ b
  · rw [if_pos h1]
    exact ⟨⟨Nat.le_refl _, by show b ≤ lim; omega, (show 0 ≤ 4 by decide), (show 0 < 10000 by decide)⟩, hb.1, fun h => absurd rfl h⟩
  · rw [if_neg h1]
    cases h2 : ltr (tp b)
    · rw [if_neg (by decide : ¬ false = true)]
      cases h3 : dig (tp b)
      · rw [if_neg (by decide : ¬ false = true)]
        refine ⟨⟨by show b ≤ b + 1; omega, by show b + 1 ≤ lim; omega, ?_, by show 0 < 10000; decide⟩, hb.1, fun _ => by show k < b + 1; omega⟩
        show (if tp b = 59 then 3 else 4) ≤ 4
        split <;> omega
      · rw [if_pos (rfl : true = true)]
        have hr := rn_le (fun i => dig (tp i)) (lim - b) b
        have hp := rn_pos (p := fun i => dig (tp i)) (m := lim - b) (k := b) h3 (by omega)
        have hi := rn_in (fun i => dig (tp i)) (lim - b) b
        generalize rn (fun i => dig (tp i)) (lim - b) b = e at hr hp hi ⊢
        refine ⟨⟨by show b ≤ e; omega, by show e ≤ lim; omega, ?_, ?_⟩, hb.1, fun _ => by show k < e; omega⟩
        · show (if e - b ≤ 4 then 2 else 4) ≤ 4
          split <;> omega
        · show dval tp b (min (e - b) 4) < 10000
          have hd := dval_lt (tp := tp) (b := b) (min (e - b) 4) (fun i h => dig_59 _ (htp _) (hi (b + i) (by omega) (by omega)))
          have h4 : min (e - b) 4 ≤ 4 := Nat.min_le_right _ _
          exact Nat.lt_of_lt_of_le hd (Nat.le_trans (Nat.pow_le_pow_right (by omega) h4) (by decide))
    · rw [if_pos (rfl : true = true)]
      have hr := rn_le (fun i => ltr (tp i)) (lim - b) b
      have hp := rn_pos (p := fun i => ltr (tp i)) (m := lim - b) (k := b) h2 (by omega)
      exact ⟨⟨hr.1, by show rn _ _ _ ≤ lim; omega, (show 1 ≤ 4 by decide), (show 0 < 10000 by decide)⟩, hb.1, fun _ => by show k < rn _ _ _; omega⟩
section words
variable {N : Nat} {G G2 : Nat → Nat → Int32} {J J2 : Nat → Nat → Int64} {tp : Nat → Nat} {lim : Nat} {t : Nat × Nat × Nat × Nat}
theorem ck_w (k : Nat) (hk : k ≤ 4) : (ck k = 2) = (k = 1) := by
  rcases (by omega : k = 0 ∨ k = 1 ∨ k = 2 ∨ k = 3 ∨ k = 4) with h | h | h | h | h <;> subst h <;> exact propext (by decide)
theorem ck_n (k : Nat) (hk : k ≤ 4) : (ck k = 3) = (k = 2) := by
  rcases (by omega : k = 0 ∨ k = 1 ∨ k = 2 ∨ k = 3 ∨ k = 4) with h | h | h | h | h <;> subst h <;> exact propext (by decide)
theorem ck_s (k : Nat) (hk : k ≤ 4) : (ck k = 4) = (k = 3) := by
  rcases (by omega : k = 0 ∨ k = 1 ∨ k = 2 ∨ k = 3 ∨ k = 4) with h | h | h | h | h <;> subst h <;> exact propext (by decide)
theorem ck_b (k : Nat) (hk : k ≤ 4) : (ck k = 0) = (k = 4) := by
  rcases (by omega : k = 0 ∨ k = 1 ∨ k = 2 ∨ k = 3 ∨ k = 4) with h | h | h | h | h <;> subst h <;> exact propext (by decide)
theorem ck_e (k : Nat) (hk : k ≤ 4) : (ck k = 1) = (k = 0) := by
  rcases (by omega : k = 0 ∨ k = 1 ∨ k = 2 ∨ k = 3 ∨ k = 4) with h | h | h | h | h <;> subst h <;> exact propext (by decide)
theorem c_isW0 (hN : 2000 ≤ N) (hlim : lim ≤ 900) (htp : ∀ k, tp k < 256) (hk : tkOk lim t) (T : TC G tp lim t) : p_X2_isWord_0 N G = some (bI (isW tp t 0)) := by
  obtain ⟨h4, ht, h5, h6, h7, _⟩ := T
  obtain ⟨k1, k2, k3, _⟩ := hk
  have el : (6 : Int32) = nI 6 := by decide
  have key : ∀ (m j n : Nat), j + m = 6 → m < n → t.2.2.1 - t.2.1 = 6 → p_X2_isWord_0_b28 N G n (nI j) = some (bI (aw tp t.2.1 0 j m)) := by
    intro m
    induction m with
    | zero =>
      intro j n hj hn hlen
      obtain ⟨q, rfl⟩ : ∃ q, n = q + 1 := ⟨n - 1, by omega⟩
      rw [p_X2_isWord_0_b28, el, if_pos (nI_le (by omega) (by omega))]; rfl
    | succ m ih =>
      intro j n hj hn hlen
      obtain ⟨q, rfl⟩ : ∃ q, n = q + 1 := ⟨n - 1, by omega⟩
      obtain ⟨c1, c2, c3⟩ := jch_w 0 (by omega) j (show j < 6 by omega)
      rw [p_X2_isWord_0_b28, el, if_neg (nI_ge (by omega) (by omega)), h6, nI_add, if_pos (jinT (by omega) (by omega)), if_pos (jinT (by omega) (by omega)), zcl (by omega), ht _ (by omega), c1, aw]
      have sc := sb_c (wch 0 j) (by omega) (tp (t.2.1 + j)) (htp _)
      by_cases e : tp (t.2.1 + j) = wch 0 j
      · rw [if_pos (sc.mpr e), decide_eq_true e, Bool.true_and, nI_1]
        exact ih (j + 1) q (by omega) (by omega) hlen
      · rw [if_neg (fun x => e (sc.mp x)), decide_eq_false e]; rfl
  unfold p_X2_isWord_0 isW
  rw [h5, h6, h7, pk_sub k1, el]
  by_cases a1 : t.1 = 1
  · rw [if_pos (by rw [ck_w _ k3]; exact a1), decide_eq_true a1, Bool.true_and]
    by_cases a2 : t.2.2.1 - t.2.1 = 6
    · rw [if_pos (by rw [a2]), decide_eq_true (show t.2.2.1 - t.2.1 = wln 0 from a2), Bool.true_and]
      exact key 6 0 N (by omega) (by omega) a2
    · rw [if_neg (fun x => a2 ((nI_eq (by omega) (by omega)).mp x)), decide_eq_false (show ¬ t.2.2.1 - t.2.1 = wln 0 from a2)]; rfl
  · rw [if_neg (by rw [ck_w _ k3]; exact a1), decide_eq_false a1]; rfl
theorem m_isW0 (hN : 2000 ≤ N) (hlim : lim ≤ 900) (htp : ∀ k, tp k < 256) (hk : tkOk lim t) (T : TM G tp lim t) (h13 : G 0 13 = 0) : p_X6_isWord_0 N G J = some (bI (isW tp t 0)) := by
  obtain ⟨h8, ht, h11, h10, h9, _⟩ := T
  obtain ⟨k1, k2, k3, _⟩ := hk
  have el : (6 : Int32) = nI 6 := by decide
  have e1 : (1 : Int32) = nI 1 := by decide
  have zero : ∀ n x, 0 < n → p_X6_isWord_0_b39 N G J n 0 x = some 0 := by
    intro n x hn
    obtain ⟨q, rfl⟩ : ∃ q, n = q + 1 := ⟨n - 1, by omega⟩
    rw [p_X6_isWord_0_b39, if_pos rfl]; rfl
  have key : ∀ (m j n : Nat), j + m = 6 → m + 1 < n → t.2.2.1 - t.2.1 = 6 → p_X6_isWord_0_b39 N G J n 1 (nI j) = some (bI (aw tp t.2.1 0 j m)) := by
    intro m
    induction m with
    | zero =>
      intro j n hj hn hlen
      obtain ⟨q, rfl⟩ : ∃ q, n = q + 1 := ⟨n - 1, by omega⟩
      rw [p_X6_isWord_0_b39, if_neg i10, el, if_pos (nI_le (by omega) (by omega))]; rfl
    | succ m ih =>
      intro j n hj hn hlen
      obtain ⟨q, rfl⟩ : ∃ q, n = q + 1 := ⟨n - 1, by omega⟩
      obtain ⟨c1, c2, c3⟩ := jch_w 0 (by omega) j (show j < 6 by omega)
      have t256 := htp (t.2.1 + j)
      rw [p_X6_isWord_0_b39, if_neg i10, el, if_neg (nI_ge (by omega) (by omega)), h10, nI_add, if_pos (jinT (by omega) (by omega)), if_pos (jinT (by omega) (by omega)), zcl (by omega), ht _ (by omega), c1, aw]
      unfold p_X6_isWord_0_b75
      by_cases e : tp (t.2.1 + j) = wch 0 j
      · rw [if_pos (by rw [e]), decide_eq_true e, Bool.true_and, nI_1]
        exact ih (j + 1) q (by omega) (by omega) hlen
      · rw [if_neg (fun x => e ((nI_eq (by omega) (by omega)).mp x)), decide_eq_false e, zero q _ (by omega)]; rfl
  unfold p_X6_isWord_0 p_X6_isWord_0_b35 p_X6_isWord_0_b36 isW
  rw [if_pos h13, h11, h10, h9, pk_sub k1, el]
  by_cases a1 : t.1 = 1
  · rw [if_pos (by rw [a1]; rfl), decide_eq_true a1, Bool.true_and]
    by_cases a2 : t.2.2.1 - t.2.1 = 6
    · rw [if_pos (by rw [a2]), decide_eq_true (show t.2.2.1 - t.2.1 = wln 0 from a2), Bool.true_and]
      exact key 6 0 N (by omega) (by omega) a2
    · rw [if_neg (fun x => a2 ((nI_eq (by omega) (by omega)).mp x)), decide_eq_false (show ¬ t.2.2.1 - t.2.1 = wln 0 from a2), zero N _ (by omega)]; rfl
  · rw [if_neg (fun x => a1 (by rw [e1] at x; exact (nI_eq (by omega) (by omega)).mp x)), decide_eq_false a1, zero N _ (by omega)]; rfl
theorem c_isW1 (hN : 2000 ≤ N) (hlim : lim ≤ 900) (htp : ∀ k, tp k < 256) (hk : tkOk lim t) (T : TC G tp lim t) : p_X2_isWord_1 N G = some (bI (isW tp t 1)) := by
  obtain ⟨h4, ht, h5, h6, h7, _⟩ := T
  obtain ⟨k1, k2, k3, _⟩ := hk
  have el : (5 : Int32) = nI 5 := by decide
  have key : ∀ (m j n : Nat), j + m = 5 → m < n → t.2.2.1 - t.2.1 = 5 → p_X2_isWord_1_b28 N G n (nI j) = some (bI (aw tp t.2.1 1 j m)) := by
    intro m
    induction m with
    | zero =>
      intro j n hj hn hlen
      obtain ⟨q, rfl⟩ : ∃ q, n = q + 1 := ⟨n - 1, by omega⟩
      rw [p_X2_isWord_1_b28, el, if_pos (nI_le (by omega) (by omega))]; rfl
    | succ m ih =>
      intro j n hj hn hlen
      obtain ⟨q, rfl⟩ : ∃ q, n = q + 1 := ⟨n - 1, by omega⟩
      obtain ⟨c1, c2, c3⟩ := jch_w 1 (by omega) j (show j < 5 by omega)
      rw [p_X2_isWord_1_b28, el, if_neg (nI_ge (by omega) (by omega)), h6, nI_add, if_pos (jinT (by omega) (by omega)), if_pos (jinT (by omega) (by omega)), zcl (by omega), ht _ (by omega), c1, aw]
      have sc := sb_c (wch 1 j) (by omega) (tp (t.2.1 + j)) (htp _)
      by_cases e : tp (t.2.1 + j) = wch 1 j
      · rw [if_pos (sc.mpr e), decide_eq_true e, Bool.true_and, nI_1]
        exact ih (j + 1) q (by omega) (by omega) hlen
      · rw [if_neg (fun x => e (sc.mp x)), decide_eq_false e]; rfl
  unfold p_X2_isWord_1 isW
  rw [h5, h6, h7, pk_sub k1, el]
  by_cases a1 : t.1 = 1
  · rw [if_pos (by rw [ck_w _ k3]; exact a1), decide_eq_true a1, Bool.true_and]
    by_cases a2 : t.2.2.1 - t.2.1 = 5
    · rw [if_pos (by rw [a2]), decide_eq_true (show t.2.2.1 - t.2.1 = wln 1 from a2), Bool.true_and]
      exact key 5 0 N (by omega) (by omega) a2
    · rw [if_neg (fun x => a2 ((nI_eq (by omega) (by omega)).mp x)), decide_eq_false (show ¬ t.2.2.1 - t.2.1 = wln 1 from a2)]; rfl
  · rw [if_neg (by rw [ck_w _ k3]; exact a1), decide_eq_false a1]; rfl
theorem m_isW1 (hN : 2000 ≤ N) (hlim : lim ≤ 900) (htp : ∀ k, tp k < 256) (hk : tkOk lim t) (T : TM G tp lim t) (h13 : G 0 13 = 0) : p_X6_isWord_1 N G J = some (bI (isW tp t 1)) := by
  obtain ⟨h8, ht, h11, h10, h9, _⟩ := T
  obtain ⟨k1, k2, k3, _⟩ := hk
  have el : (5 : Int32) = nI 5 := by decide
  have e1 : (1 : Int32) = nI 1 := by decide
  have zero : ∀ n x, 0 < n → p_X6_isWord_1_b39 N G J n 0 x = some 0 := by
    intro n x hn
    obtain ⟨q, rfl⟩ : ∃ q, n = q + 1 := ⟨n - 1, by omega⟩
    rw [p_X6_isWord_1_b39, if_pos rfl]; rfl
  have key : ∀ (m j n : Nat), j + m = 5 → m + 1 < n → t.2.2.1 - t.2.1 = 5 → p_X6_isWord_1_b39 N G J n 1 (nI j) = some (bI (aw tp t.2.1 1 j m)) := by
    intro m
    induction m with
    | zero =>
      intro j n hj hn hlen
      obtain ⟨q, rfl⟩ : ∃ q, n = q + 1 := ⟨n - 1, by omega⟩
      rw [p_X6_isWord_1_b39, if_neg i10, el, if_pos (nI_le (by omega) (by omega))]; rfl
    | succ m ih =>
      intro j n hj hn hlen
      obtain ⟨q, rfl⟩ : ∃ q, n = q + 1 := ⟨n - 1, by omega⟩
      obtain ⟨c1, c2, c3⟩ := jch_w 1 (by omega) j (show j < 5 by omega)
      have t256 := htp (t.2.1 + j)
      rw [p_X6_isWord_1_b39, if_neg i10, el, if_neg (nI_ge (by omega) (by omega)), h10, nI_add, if_pos (jinT (by omega) (by omega)), if_pos (jinT (by omega) (by omega)), zcl (by omega), ht _ (by omega), c1, aw]
      unfold p_X6_isWord_1_b75
      by_cases e : tp (t.2.1 + j) = wch 1 j
      · rw [if_pos (by rw [e]), decide_eq_true e, Bool.true_and, nI_1]
        exact ih (j + 1) q (by omega) (by omega) hlen
      · rw [if_neg (fun x => e ((nI_eq (by omega) (by omega)).mp x)), decide_eq_false e, zero q _ (by omega)]; rfl
  unfold p_X6_isWord_1 p_X6_isWord_1_b35 p_X6_isWord_1_b36 isW
  rw [if_pos h13, h11, h10, h9, pk_sub k1, el]
  by_cases a1 : t.1 = 1
  · rw [if_pos (by rw [a1]; rfl), decide_eq_true a1, Bool.true_and]
    by_cases a2 : t.2.2.1 - t.2.1 = 5
    · rw [if_pos (by rw [a2]), decide_eq_true (show t.2.2.1 - t.2.1 = wln 1 from a2), Bool.true_and]
      exact key 5 0 N (by omega) (by omega) a2
    · rw [if_neg (fun x => a2 ((nI_eq (by omega) (by omega)).mp x)), decide_eq_false (show ¬ t.2.2.1 - t.2.1 = wln 1 from a2), zero N _ (by omega)]; rfl
  · rw [if_neg (fun x => a1 (by rw [e1] at x; exact (nI_eq (by omega) (by omega)).mp x)), decide_eq_false a1, zero N _ (by omega)]; rfl
theorem c_isW2 (hN : 2000 ≤ N) (hlim : lim ≤ 900) (htp : ∀ k, tp k < 256) (hk : tkOk lim t) (T : TC G tp lim t) : p_X2_isWord_2 N G = some (bI (isW tp t 2)) := by
  obtain ⟨h4, ht, h5, h6, h7, _⟩ := T
  obtain ⟨k1, k2, k3, _⟩ := hk
  have el : (5 : Int32) = nI 5 := by decide
  have key : ∀ (m j n : Nat), j + m = 5 → m < n → t.2.2.1 - t.2.1 = 5 → p_X2_isWord_2_b28 N G n (nI j) = some (bI (aw tp t.2.1 2 j m)) := by
    intro m
    induction m with
    | zero =>
      intro j n hj hn hlen
      obtain ⟨q, rfl⟩ : ∃ q, n = q + 1 := ⟨n - 1, by omega⟩
      rw [p_X2_isWord_2_b28, el, if_pos (nI_le (by omega) (by omega))]; rfl
    | succ m ih =>
      intro j n hj hn hlen
      obtain ⟨q, rfl⟩ : ∃ q, n = q + 1 := ⟨n - 1, by omega⟩
      obtain ⟨c1, c2, c3⟩ := jch_w 2 (by omega) j (show j < 5 by omega)
      rw [p_X2_isWord_2_b28, el, if_neg (nI_ge (by omega) (by omega)), h6, nI_add, if_pos (jinT (by omega) (by omega)), if_pos (jinT (by omega) (by omega)), zcl (by omega), ht _ (by omega), c1, aw]
      have sc := sb_c (wch 2 j) (by omega) (tp (t.2.1 + j)) (htp _)
      by_cases e : tp (t.2.1 + j) = wch 2 j
      · rw [if_pos (sc.mpr e), decide_eq_true e, Bool.true_and, nI_1]
        exact ih (j + 1) q (by omega) (by omega) hlen
      · rw [if_neg (fun x => e (sc.mp x)), decide_eq_false e]; rfl
  unfold p_X2_isWord_2 isW
  rw [h5, h6, h7, pk_sub k1, el]
  by_cases a1 : t.1 = 1
  · rw [if_pos (by rw [ck_w _ k3]; exact a1), decide_eq_true a1, Bool.true_and]
    by_cases a2 : t.2.2.1 - t.2.1 = 5
    · rw [if_pos (by rw [a2]), decide_eq_true (show t.2.2.1 - t.2.1 = wln 2 from a2), Bool.true_and]
      exact key 5 0 N (by omega) (by omega) a2
    · rw [if_neg (fun x => a2 ((nI_eq (by omega) (by omega)).mp x)), decide_eq_false (show ¬ t.2.2.1 - t.2.1 = wln 2 from a2)]; rfl
  · rw [if_neg (by rw [ck_w _ k3]; exact a1), decide_eq_false a1]; rfl
theorem m_isW2 (hN : 2000 ≤ N) (hlim : lim ≤ 900) (htp : ∀ k, tp k < 256) (hk : tkOk lim t) (T : TM G tp lim t) (h13 : G 0 13 = 0) : p_X6_isWord_2 N G J = some (bI (isW tp t 2)) := by
  obtain ⟨h8, ht, h11, h10, h9, _⟩ := T
  obtain ⟨k1, k2, k3, _⟩ := hk
  have el : (5 : Int32) = nI 5 := by decide
  have e1 : (1 : Int32) = nI 1 := by decide
  have zero : ∀ n x, 0 < n → p_X6_isWord_2_b39 N G J n 0 x = some 0 := by
    intro n x hn
    obtain ⟨q, rfl⟩ : ∃ q, n = q + 1 := ⟨n - 1, by omega⟩
    rw [p_X6_isWord_2_b39, if_pos rfl]; rfl
  have key : ∀ (m j n : Nat), j + m = 5 → m + 1 < n → t.2.2.1 - t.2.1 = 5 → p_X6_isWord_2_b39 N G J n 1 (nI j) = some (bI (aw tp t.2.1 2 j m)) := by
    intro m
    induction m with
    | zero =>
      intro j n hj hn hlen
      obtain ⟨q, rfl⟩ : ∃ q, n = q + 1 := ⟨n - 1, by omega⟩
      rw [p_X6_isWord_2_b39, if_neg i10, el, if_pos (nI_le (by omega) (by omega))]; rfl
    | succ m ih =>
      intro j n hj hn hlen
      obtain ⟨q, rfl⟩ : ∃ q, n = q + 1 := ⟨n - 1, by omega⟩
      obtain ⟨c1, c2, c3⟩ := jch_w 2 (by omega) j (show j < 5 by omega)
      have t256 := htp (t.2.1 + j)
      rw [p_X6_isWord_2_b39, if_neg i10, el, if_neg (nI_ge (by omega) (by omega)), h10, nI_add, if_pos (jinT (by omega) (by omega)), if_pos (jinT (by omega) (by omega)), zcl (by omega), ht _ (by omega), c1, aw]
      unfold p_X6_isWord_2_b75
      by_cases e : tp (t.2.1 + j) = wch 2 j
      · rw [if_pos (by rw [e]), decide_eq_true e, Bool.true_and, nI_1]
        exact ih (j + 1) q (by omega) (by omega) hlen
      · rw [if_neg (fun x => e ((nI_eq (by omega) (by omega)).mp x)), decide_eq_false e, zero q _ (by omega)]; rfl
  unfold p_X6_isWord_2 p_X6_isWord_2_b35 p_X6_isWord_2_b36 isW
  rw [if_pos h13, h11, h10, h9, pk_sub k1, el]
  by_cases a1 : t.1 = 1
  · rw [if_pos (by rw [a1]; rfl), decide_eq_true a1, Bool.true_and]
    by_cases a2 : t.2.2.1 - t.2.1 = 5
    · rw [if_pos (by rw [a2]), decide_eq_true (show t.2.2.1 - t.2.1 = wln 2 from a2), Bool.true_and]
      exact key 5 0 N (by omega) (by omega) a2
    · rw [if_neg (fun x => a2 ((nI_eq (by omega) (by omega)).mp x)), decide_eq_false (show ¬ t.2.2.1 - t.2.1 = wln 2 from a2), zero N _ (by omega)]; rfl
  · rw [if_neg (fun x => a1 (by rw [e1] at x; exact (nI_eq (by omega) (by omega)).mp x)), decide_eq_false a1, zero N _ (by omega)]; rfl
theorem c_isW3 (hN : 2000 ≤ N) (hlim : lim ≤ 900) (htp : ∀ k, tp k < 256) (hk : tkOk lim t) (T : TC G tp lim t) : p_X2_isWord_3 N G = some (bI (isW tp t 3)) := by
  obtain ⟨h4, ht, h5, h6, h7, _⟩ := T
  obtain ⟨k1, k2, k3, _⟩ := hk
  have el : (5 : Int32) = nI 5 := by decide
  have key : ∀ (m j n : Nat), j + m = 5 → m < n → t.2.2.1 - t.2.1 = 5 → p_X2_isWord_3_b28 N G n (nI j) = some (bI (aw tp t.2.1 3 j m)) := by
    intro m
    induction m with
    | zero =>
      intro j n hj hn hlen
      obtain ⟨q, rfl⟩ : ∃ q, n = q + 1 := ⟨n - 1, by omega⟩
      rw [p_X2_isWord_3_b28, el, if_pos (nI_le (by omega) (by omega))]; rfl
    | succ m ih =>
      intro j n hj hn hlen
      obtain ⟨q, rfl⟩ : ∃ q, n = q + 1 := ⟨n - 1, by omega⟩
      obtain ⟨c1, c2, c3⟩ := jch_w 3 (by omega) j (show j < 5 by omega)
      rw [p_X2_isWord_3_b28, el, if_neg (nI_ge (by omega) (by omega)), h6, nI_add, if_pos (jinT (by omega) (by omega)), if_pos (jinT (by omega) (by omega)), zcl (by omega), ht _ (by omega), c1, aw]
      have sc := sb_c (wch 3 j) (by omega) (tp (t.2.1 + j)) (htp _)
      by_cases e : tp (t.2.1 + j) = wch 3 j
      · rw [if_pos (sc.mpr e), decide_eq_true e, Bool.true_and, nI_1]
        exact ih (j + 1) q (by omega) (by omega) hlen
      · rw [if_neg (fun x => e (sc.mp x)), decide_eq_false e]; rfl
  unfold p_X2_isWord_3 isW
  rw [h5, h6, h7, pk_sub k1, el]
  by_cases a1 : t.1 = 1
  · rw [if_pos (by rw [ck_w _ k3]; exact a1), decide_eq_true a1, Bool.true_and]
    by_cases a2 : t.2.2.1 - t.2.1 = 5
    · rw [if_pos (by rw [a2]), decide_eq_true (show t.2.2.1 - t.2.1 = wln 3 from a2), Bool.true_and]
      exact key 5 0 N (by omega) (by omega) a2
    · rw [if_neg (fun x => a2 ((nI_eq (by omega) (by omega)).mp x)), decide_eq_false (show ¬ t.2.2.1 - t.2.1 = wln 3 from a2)]; rfl
  · rw [if_neg (by rw [ck_w _ k3]; exact a1), decide_eq_false a1]; rfl
theorem m_isW3 (hN : 2000 ≤ N) (hlim : lim ≤ 900) (htp : ∀ k, tp k < 256) (hk : tkOk lim t) (T : TM G tp lim t) (h13 : G 0 13 = 0) : p_X6_isWord_3 N G J = some (bI (isW tp t 3)) := by
  obtain ⟨h8, ht, h11, h10, h9, _⟩ := T
  obtain ⟨k1, k2, k3, _⟩ := hk
  have el : (5 : Int32) = nI 5 := by decide
  have e1 : (1 : Int32) = nI 1 := by decide
  have zero : ∀ n x, 0 < n → p_X6_isWord_3_b39 N G J n 0 x = some 0 := by
    intro n x hn
    obtain ⟨q, rfl⟩ : ∃ q, n = q + 1 := ⟨n - 1, by omega⟩
    rw [p_X6_isWord_3_b39, if_pos rfl]; rfl
  have key : ∀ (m j n : Nat), j + m = 5 → m + 1 < n → t.2.2.1 - t.2.1 = 5 → p_X6_isWord_3_b39 N G J n 1 (nI j) = some (bI (aw tp t.2.1 3 j m)) := by
    intro m
    induction m with
    | zero =>
      intro j n hj hn hlen
      obtain ⟨q, rfl⟩ : ∃ q, n = q + 1 := ⟨n - 1, by omega⟩
      rw [p_X6_isWord_3_b39, if_neg i10, el, if_pos (nI_le (by omega) (by omega))]; rfl
    | succ m ih =>
      intro j n hj hn hlen
      obtain ⟨q, rfl⟩ : ∃ q, n = q + 1 := ⟨n - 1, by omega⟩
      obtain ⟨c1, c2, c3⟩ := jch_w 3 (by omega) j (show j < 5 by omega)
      have t256 := htp (t.2.1 + j)
      rw [p_X6_isWord_3_b39, if_neg i10, el, if_neg (nI_ge (by omega) (by omega)), h10, nI_add, if_pos (jinT (by omega) (by omega)), if_pos (jinT (by omega) (by omega)), zcl (by omega), ht _ (by omega), c1, aw]
      unfold p_X6_isWord_3_b75
      by_cases e : tp (t.2.1 + j) = wch 3 j
      · rw [if_pos (by rw [e]), decide_eq_true e, Bool.true_and, nI_1]
        exact ih (j + 1) q (by omega) (by omega) hlen
      · rw [if_neg (fun x => e ((nI_eq (by omega) (by omega)).mp x)), decide_eq_false e, zero q _ (by omega)]; rfl
  unfold p_X6_isWord_3 p_X6_isWord_3_b35 p_X6_isWord_3_b36 isW
  rw [if_pos h13, h11, h10, h9, pk_sub k1, el]
  by_cases a1 : t.1 = 1
  · rw [if_pos (by rw [a1]; rfl), decide_eq_true a1, Bool.true_and]
    by_cases a2 : t.2.2.1 - t.2.1 = 5
    · rw [if_pos (by rw [a2]), decide_eq_true (show t.2.2.1 - t.2.1 = wln 3 from a2), Bool.true_and]
      exact key 5 0 N (by omega) (by omega) a2
    · rw [if_neg (fun x => a2 ((nI_eq (by omega) (by omega)).mp x)), decide_eq_false (show ¬ t.2.2.1 - t.2.1 = wln 3 from a2), zero N _ (by omega)]; rfl
  · rw [if_neg (fun x => a1 (by rw [e1] at x; exact (nI_eq (by omega) (by omega)).mp x)), decide_eq_false a1, zero N _ (by omega)]; rfl
theorem c_isW4 (hN : 2000 ≤ N) (hlim : lim ≤ 900) (htp : ∀ k, tp k < 256) (hk : tkOk lim t) (T : TC G tp lim t) : p_X2_isWord_4 N G = some (bI (isW tp t 4)) := by
  obtain ⟨h4, ht, h5, h6, h7, _⟩ := T
  obtain ⟨k1, k2, k3, _⟩ := hk
  have el : (5 : Int32) = nI 5 := by decide
  have key : ∀ (m j n : Nat), j + m = 5 → m < n → t.2.2.1 - t.2.1 = 5 → p_X2_isWord_4_b28 N G n (nI j) = some (bI (aw tp t.2.1 4 j m)) := by
    intro m
    induction m with
    | zero =>
      intro j n hj hn hlen
      obtain ⟨q, rfl⟩ : ∃ q, n = q + 1 := ⟨n - 1, by omega⟩
      rw [p_X2_isWord_4_b28, el, if_pos (nI_le (by omega) (by omega))]; rfl
    | succ m ih =>
      intro j n hj hn hlen
      obtain ⟨q, rfl⟩ : ∃ q, n = q + 1 := ⟨n - 1, by omega⟩
      obtain ⟨c1, c2, c3⟩ := jch_w 4 (by omega) j (show j < 5 by omega)
      rw [p_X2_isWord_4_b28, el, if_neg (nI_ge (by omega) (by omega)), h6, nI_add, if_pos (jinT (by omega) (by omega)), if_pos (jinT (by omega) (by omega)), zcl (by omega), ht _ (by omega), c1, aw]
      have sc := sb_c (wch 4 j) (by omega) (tp (t.2.1 + j)) (htp _)
      by_cases e : tp (t.2.1 + j) = wch 4 j
      · rw [if_pos (sc.mpr e), decide_eq_true e, Bool.true_and, nI_1]
        exact ih (j + 1) q (by omega) (by omega) hlen
      · rw [if_neg (fun x => e (sc.mp x)), decide_eq_false e]; rfl
  unfold p_X2_isWord_4 isW
  rw [h5, h6, h7, pk_sub k1, el]
  by_cases a1 : t.1 = 1
  · rw [if_pos (by rw [ck_w _ k3]; exact a1), decide_eq_true a1, Bool.true_and]
    by_cases a2 : t.2.2.1 - t.2.1 = 5
    · rw [if_pos (by rw [a2]), decide_eq_true (show t.2.2.1 - t.2.1 = wln 4 from a2), Bool.true_and]
      exact key 5 0 N (by omega) (by omega) a2
    · rw [if_neg (fun x => a2 ((nI_eq (by omega) (by omega)).mp x)), decide_eq_false (show ¬ t.2.2.1 - t.2.1 = wln 4 from a2)]; rfl
  · rw [if_neg (by rw [ck_w _ k3]; exact a1), decide_eq_false a1]; rfl
theorem m_isW4 (hN : 2000 ≤ N) (hlim : lim ≤ 900) (htp : ∀ k, tp k < 256) (hk : tkOk lim t) (T : TM G tp lim t) (h13 : G 0 13 = 0) : p_X6_isWord_4 N G J = some (bI (isW tp t 4)) := by
  obtain ⟨h8, ht, h11, h10, h9, _⟩ := T
  obtain ⟨k1, k2, k3, _⟩ := hk
  have el : (5 : Int32) = nI 5 := by decide
  have e1 : (1 : Int32) = nI 1 := by decide
  have zero : ∀ n x, 0 < n → p_X6_isWord_4_b39 N G J n 0 x = some 0 := by
    intro n x hn
    obtain ⟨q, rfl⟩ : ∃ q, n = q + 1 := ⟨n - 1, by omega⟩
    rw [p_X6_isWord_4_b39, if_pos rfl]; rfl
  have key : ∀ (m j n : Nat), j + m = 5 → m + 1 < n → t.2.2.1 - t.2.1 = 5 → p_X6_isWord_4_b39 N G J n 1 (nI j) = some (bI (aw tp t.2.1 4 j m)) := by
    intro m
    induction m with
    | zero =>
      intro j n hj hn hlen
      obtain ⟨q, rfl⟩ : ∃ q, n = q + 1 := ⟨n - 1, by omega⟩
      rw [p_X6_isWord_4_b39, if_neg i10, el, if_pos (nI_le (by omega) (by omega))]; rfl
    | succ m ih =>
      intro j n hj hn hlen
      obtain ⟨q, rfl⟩ : ∃ q, n = q + 1 := ⟨n - 1, by omega⟩
      obtain ⟨c1, c2, c3⟩ := jch_w 4 (by omega) j (show j < 5 by omega)
      have t256 := htp (t.2.1 + j)
      rw [p_X6_isWord_4_b39, if_neg i10, el, if_neg (nI_ge (by omega) (by omega)), h10, nI_add, if_pos (jinT (by omega) (by omega)), if_pos (jinT (by omega) (by omega)), zcl (by omega), ht _ (by omega), c1, aw]
      unfold p_X6_isWord_4_b75
      by_cases e : tp (t.2.1 + j) = wch 4 j
      · rw [if_pos (by rw [e]), decide_eq_true e, Bool.true_and, nI_1]
        exact ih (j + 1) q (by omega) (by omega) hlen
      · rw [if_neg (fun x => e ((nI_eq (by omega) (by omega)).mp x)), decide_eq_false e, zero q _ (by omega)]; rfl
  unfold p_X6_isWord_4 p_X6_isWord_4_b35 p_X6_isWord_4_b36 isW
  rw [if_pos h13, h11, h10, h9, pk_sub k1, el]
  by_cases a1 : t.1 = 1
  · rw [if_pos (by rw [a1]; rfl), decide_eq_true a1, Bool.true_and]
    by_cases a2 : t.2.2.1 - t.2.1 = 5
    · rw [if_pos (by rw [a2]), decide_eq_true (show t.2.2.1 - t.2.1 = wln 4 from a2), Bool.true_and]
      exact key 5 0 N (by omega) (by omega) a2
    · rw [if_neg (fun x => a2 ((nI_eq (by omega) (by omega)).mp x)), decide_eq_false (show ¬ t.2.2.1 - t.2.1 = wln 4 from a2), zero N _ (by omega)]; rfl
  · rw [if_neg (fun x => a1 (by rw [e1] at x; exact (nI_eq (by omega) (by omega)).mp x)), decide_eq_false a1, zero N _ (by omega)]; rfl
theorem c_isW5 (hN : 2000 ≤ N) (hlim : lim ≤ 900) (htp : ∀ k, tp k < 256) (hk : tkOk lim t) (T : TC G tp lim t) : p_X2_isWord_5 N G = some (bI (isW tp t 5)) := by
  obtain ⟨h4, ht, h5, h6, h7, _⟩ := T
  obtain ⟨k1, k2, k3, _⟩ := hk
  have el : (4 : Int32) = nI 4 := by decide
  have key : ∀ (m j n : Nat), j + m = 4 → m < n → t.2.2.1 - t.2.1 = 4 → p_X2_isWord_5_b28 N G n (nI j) = some (bI (aw tp t.2.1 5 j m)) := by
    intro m
    induction m with
    | zero =>
      intro j n hj hn hlen
      obtain ⟨q, rfl⟩ : ∃ q, n = q + 1 := ⟨n - 1, by omega⟩
      rw [p_X2_isWord_5_b28, el, if_pos (nI_le (by omega) (by omega))]; rfl
    | succ m ih =>
      intro j n hj hn hlen
      obtain ⟨q, rfl⟩ : ∃ q, n = q + 1 := ⟨n - 1, by omega⟩
      obtain ⟨c1, c2, c3⟩ := jch_w 5 (by omega) j (show j < 4 by omega)
      rw [p_X2_isWord_5_b28, el, if_neg (nI_ge (by omega) (by omega)), h6, nI_add, if_pos (jinT (by omega) (by omega)), if_pos (jinT (by omega) (by omega)), zcl (by omega), ht _ (by omega), c1, aw]
      have sc := sb_c (wch 5 j) (by omega) (tp (t.2.1 + j)) (htp _)
      by_cases e : tp (t.2.1 + j) = wch 5 j
      · rw [if_pos (sc.mpr e), decide_eq_true e, Bool.true_and, nI_1]
        exact ih (j + 1) q (by omega) (by omega) hlen
      · rw [if_neg (fun x => e (sc.mp x)), decide_eq_false e]; rfl
  unfold p_X2_isWord_5 isW
  rw [h5, h6, h7, pk_sub k1, el]
  by_cases a1 : t.1 = 1
  · rw [if_pos (by rw [ck_w _ k3]; exact a1), decide_eq_true a1, Bool.true_and]
    by_cases a2 : t.2.2.1 - t.2.1 = 4
    · rw [if_pos (by rw [a2]), decide_eq_true (show t.2.2.1 - t.2.1 = wln 5 from a2), Bool.true_and]
      exact key 4 0 N (by omega) (by omega) a2
    · rw [if_neg (fun x => a2 ((nI_eq (by omega) (by omega)).mp x)), decide_eq_false (show ¬ t.2.2.1 - t.2.1 = wln 5 from a2)]; rfl
  · rw [if_neg (by rw [ck_w _ k3]; exact a1), decide_eq_false a1]; rfl
theorem m_isW5 (hN : 2000 ≤ N) (hlim : lim ≤ 900) (htp : ∀ k, tp k < 256) (hk : tkOk lim t) (T : TM G tp lim t) (h13 : G 0 13 = 0) : p_X6_isWord_5 N G J = some (bI (isW tp t 5)) := by
  obtain ⟨h8, ht, h11, h10, h9, _⟩ := T
  obtain ⟨k1, k2, k3, _⟩ := hk
  have el : (4 : Int32) = nI 4 := by decide
  have e1 : (1 : Int32) = nI 1 := by decide
  have zero : ∀ n x, 0 < n → p_X6_isWord_5_b39 N G J n 0 x = some 0 := by
    intro n x hn
    obtain ⟨q, rfl⟩ : ∃ q, n = q + 1 := ⟨n - 1, by omega⟩
    rw [p_X6_isWord_5_b39, if_pos rfl]; rfl
  have key : ∀ (m j n : Nat), j + m = 4 → m + 1 < n → t.2.2.1 - t.2.1 = 4 → p_X6_isWord_5_b39 N G J n 1 (nI j) = some (bI (aw tp t.2.1 5 j m)) := by
    intro m
    induction m with
    | zero =>
      intro j n hj hn hlen
      obtain ⟨q, rfl⟩ : ∃ q, n = q + 1 := ⟨n - 1, by omega⟩
      rw [p_X6_isWord_5_b39, if_neg i10, el, if_pos (nI_le (by omega) (by omega))]; rfl
    | succ m ih =>
      intro j n hj hn hlen
      obtain ⟨q, rfl⟩ : ∃ q, n = q + 1 := ⟨n - 1, by omega⟩
      obtain ⟨c1, c2, c3⟩ := jch_w 5 (by omega) j (show j < 4 by omega)
      have t256 := htp (t.2.1 + j)
      rw [p_X6_isWord_5_b39, if_neg i10, el, if_neg (nI_ge (by omega) (by omega)), h10, nI_add, if_pos (jinT (by omega) (by omega)), if_pos (jinT (by omega) (by omega)), zcl (by omega), ht _ (by omega), c1, aw]
      unfold p_X6_isWord_5_b75
      by_cases e : tp (t.2.1 + j) = wch 5 j
      · rw [if_pos (by rw [e]), decide_eq_true e, Bool.true_and, nI_1]
        exact ih (j + 1) q (by omega) (by omega) hlen
      · rw [if_neg (fun x => e ((nI_eq (by omega) (by omega)).mp x)), decide_eq_false e, zero q _ (by omega)]; rfl
  unfold p_X6_isWord_5 p_X6_isWord_5_b35 p_X6_isWord_5_b36 isW
  rw [if_pos h13, h11, h10, h9, pk_sub k1, el]
  by_cases a1 : t.1 = 1
  · rw [if_pos (by rw [a1]; rfl), decide_eq_true a1, Bool.true_and]
    by_cases a2 : t.2.2.1 - t.2.1 = 4
    · rw [if_pos (by rw [a2]), decide_eq_true (show t.2.2.1 - t.2.1 = wln 5 from a2), Bool.true_and]
      exact key 4 0 N (by omega) (by omega) a2
    · rw [if_neg (fun x => a2 ((nI_eq (by omega) (by omega)).mp x)), decide_eq_false (show ¬ t.2.2.1 - t.2.1 = wln 5 from a2), zero N _ (by omega)]; rfl
  · rw [if_neg (fun x => a1 (by rw [e1] at x; exact (nI_eq (by omega) (by omega)).mp x)), decide_eq_false a1, zero N _ (by omega)]; rfl
theorem c_isW6 (hN : 2000 ≤ N) (hlim : lim ≤ 900) (htp : ∀ k, tp k < 256) (hk : tkOk lim t) (T : TC G tp lim t) : p_X2_isWord_6 N G = some (bI (isW tp t 6)) := by
  obtain ⟨h4, ht, h5, h6, h7, _⟩ := T
  obtain ⟨k1, k2, k3, _⟩ := hk
  have el : (5 : Int32) = nI 5 := by decide
  have key : ∀ (m j n : Nat), j + m = 5 → m < n → t.2.2.1 - t.2.1 = 5 → p_X2_isWord_6_b28 N G n (nI j) = some (bI (aw tp t.2.1 6 j m)) := by
    intro m
    induction m with
    | zero =>
      intro j n hj hn hlen
      obtain ⟨q, rfl⟩ : ∃ q, n = q + 1 := ⟨n - 1, by omega⟩
      rw [p_X2_isWord_6_b28, el, if_pos (nI_le (by omega) (by omega))]; rfl
    | succ m ih =>
      intro j n hj hn hlen
      obtain ⟨q, rfl⟩ : ∃ q, n = q + 1 := ⟨n - 1, by omega⟩
      obtain ⟨c1, c2, c3⟩ := jch_w 6 (by omega) j (show j < 5 by omega)
      rw [p_X2_isWord_6_b28, el, if_neg (nI_ge (by omega) (by omega)), h6, nI_add, if_pos (jinT (by omega) (by omega)), if_pos (jinT (by omega) (by omega)), zcl (by omega), ht _ (by omega), c1, aw]
      have sc := sb_c (wch 6 j) (by omega) (tp (t.2.1 + j)) (htp _)
      by_cases e : tp (t.2.1 + j) = wch 6 j
      · rw [if_pos (sc.mpr e), decide_eq_true e, Bool.true_and, nI_1]
        exact ih (j + 1) q (by omega) (by omega) hlen
      · rw [if_neg (fun x => e (sc.mp x)), decide_eq_false e]; rfl
  unfold p_X2_isWord_6 isW
  rw [h5, h6, h7, pk_sub k1, el]
  by_cases a1 : t.1 = 1
  · rw [if_pos (by rw [ck_w _ k3]; exact a1), decide_eq_true a1, Bool.true_and]
    by_cases a2 : t.2.2.1 - t.2.1 = 5
    · rw [if_pos (by rw [a2]), decide_eq_true (show t.2.2.1 - t.2.1 = wln 6 from a2), Bool.true_and]
      exact key 5 0 N (by omega) (by omega) a2
    · rw [if_neg (fun x => a2 ((nI_eq (by omega) (by omega)).mp x)), decide_eq_false (show ¬ t.2.2.1 - t.2.1 = wln 6 from a2)]; rfl
  · rw [if_neg (by rw [ck_w _ k3]; exact a1), decide_eq_false a1]; rfl
theorem m_isW6 (hN : 2000 ≤ N) (hlim : lim ≤ 900) (htp : ∀ k, tp k < 256) (hk : tkOk lim t) (T : TM G tp lim t) (h13 : G 0 13 = 0) : p_X6_isWord_6 N G J = some (bI (isW tp t 6)) := by
  obtain ⟨h8, ht, h11, h10, h9, _⟩ := T
  obtain ⟨k1, k2, k3, _⟩ := hk
  have el : (5 : Int32) = nI 5 := by decide
  have e1 : (1 : Int32) = nI 1 := by decide
  have zero : ∀ n x, 0 < n → p_X6_isWord_6_b39 N G J n 0 x = some 0 := by
    intro n x hn
    obtain ⟨q, rfl⟩ : ∃ q, n = q + 1 := ⟨n - 1, by omega⟩
    rw [p_X6_isWord_6_b39, if_pos rfl]; rfl
  have key : ∀ (m j n : Nat), j + m = 5 → m + 1 < n → t.2.2.1 - t.2.1 = 5 → p_X6_isWord_6_b39 N G J n 1 (nI j) = some (bI (aw tp t.2.1 6 j m)) := by
    intro m
    induction m with
    | zero =>
      intro j n hj hn hlen
      obtain ⟨q, rfl⟩ : ∃ q, n = q + 1 := ⟨n - 1, by omega⟩
      rw [p_X6_isWord_6_b39, if_neg i10, el, if_pos (nI_le (by omega) (by omega))]; rfl
    | succ m ih =>
      intro j n hj hn hlen
      obtain ⟨q, rfl⟩ : ∃ q, n = q + 1 := ⟨n - 1, by omega⟩
      obtain ⟨c1, c2, c3⟩ := jch_w 6 (by omega) j (show j < 5 by omega)
      have t256 := htp (t.2.1 + j)
      rw [p_X6_isWord_6_b39, if_neg i10, el, if_neg (nI_ge (by omega) (by omega)), h10, nI_add, if_pos (jinT (by omega) (by omega)), if_pos (jinT (by omega) (by omega)), zcl (by omega), ht _ (by omega), c1, aw]
      unfold p_X6_isWord_6_b75
      by_cases e : tp (t.2.1 + j) = wch 6 j
      · rw [if_pos (by rw [e]), decide_eq_true e, Bool.true_and, nI_1]
        exact ih (j + 1) q (by omega) (by omega) hlen
      · rw [if_neg (fun x => e ((nI_eq (by omega) (by omega)).mp x)), decide_eq_false e, zero q _ (by omega)]; rfl
  unfold p_X6_isWord_6 p_X6_isWord_6_b35 p_X6_isWord_6_b36 isW
  rw [if_pos h13, h11, h10, h9, pk_sub k1, el]
  by_cases a1 : t.1 = 1
  · rw [if_pos (by rw [a1]; rfl), decide_eq_true a1, Bool.true_and]
    by_cases a2 : t.2.2.1 - t.2.1 = 5
    · rw [if_pos (by rw [a2]), decide_eq_true (show t.2.2.1 - t.2.1 = wln 6 from a2), Bool.true_and]
      exact key 5 0 N (by omega) (by omega) a2
    · rw [if_neg (fun x => a2 ((nI_eq (by omega) (by omega)).mp x)), decide_eq_false (show ¬ t.2.2.1 - t.2.1 = wln 6 from a2), zero N _ (by omega)]; rfl
  · rw [if_neg (fun x => a1 (by rw [e1] at x; exact (nI_eq (by omega) (by omega)).mp x)), decide_eq_false a1, zero N _ (by omega)]; rfl
end words

/-! the start -/
def a0 : TA := TA.mk 0 0 0 0 50 720 0 0 (fun _ => 0) (fun _ => 0) (fun _ _ => 0) (fun _ => 0) (fun _ => 0) (fun _ => 0) (fun _ => 0) (fun _ => 0) (fun _ => false)
def sA0 : SA := SA.mk a0 (fun _ => none) (fun _ => 0) 0 0 (-1) (fun _ => none)
theorem a0_I : a0.I := ⟨Nat.zero_le _, Nat.zero_le _, Nat.zero_le _, fun _ h => absurd h (Nat.not_lt_zero _), fun _ h => absurd h (Nat.not_lt_zero _), fun _ h => absurd h (Nat.not_lt_zero _), fun _ h => absurd h (Nat.not_lt_zero _), fun _ h => absurd h (Nat.not_lt_zero _), fun _ h => absurd h (Nat.not_lt_zero _), fun _ _ _ _ => (show 0 ≤ (0 : Int32).toInt ∧ (0 : Int32).toInt ≤ 999 by decide), (show 0 ≤ (50 : Int32).toInt ∧ (50 : Int32).toInt ≤ 100 by decide), (show 0 ≤ (0 : Int32).toInt ∧ (0 : Int32).toInt ≤ 1000 by decide), fun _ h => absurd (show false = true from h) (by decide), fun _ h => absurd h (Nat.not_lt_zero _)⟩
theorem sA0_I : sA0.I := ⟨a0_I, fun _ _ h => absurd (show (none : Option TA) = some _ from h) (by intro e; cases e), Nat.zero_le _, fun _ => (show 0 < 256 by decide), fun _ _ _ _ h => absurd (show (none : Option (Nat × Nat × (Nat → Int64))) = some _ from h) (by intro e; cases e)⟩
/-- a town's own numbers at first -/
def gTown : Nat → Int32 := fun i => if i = 4 then 50 else if i = 5 then 720 else 0
def gLaw (v : Nat → Int32) : Nat → Nat → Int32 := fun c => if c = 1 then gTown else if c = 10 then gTown else if c = 35 then gTown else if c = 44 then gTown else if c = 53 then gTown else if c = 22 then (fun i => if i = 2 then -1 else 0) else if c = 62 then (fun i => if i = 0 then 1 else 0) else if c = 64 then (fun i => if i = 0 then 1 else 0) else if c = 66 then (fun i => if i = 0 then 1 else 0) else if c = 68 then (fun i => if i = 0 then 1 else 0) else if c = 70 then (fun i => if i = 16 then -1 else 0) else if c = 71 then v else if c = 82 then (upd (upd (upd (upd (fun _ => 0) 0 (-1 : Int32)) 1 (-1 : Int32)) 2 (-1 : Int32)) 3 (-1 : Int32)) else fun _ => 0
theorem gTown_RC {g : Nat → Nat → Int32} (h0 : g 0 = gTown) (h1 : g 1 = fun _ => 0) (h3 : g 3 = fun _ => 0) : RC g a0 := by
  refine ⟨by rw [h0]; rfl, by rw [h0]; rfl, by rw [h0]; rfl, by rw [h0]; rfl, by rw [h0]; rfl, by rw [h0]; rfl, by rw [h0]; rfl, by rw [h0]; rfl, ?_, by rw [h1]; exact fun _ _ => rfl, fun _ h => absurd h (Nat.not_lt_zero _), by rw [h3]; exact fun _ _ _ _ => rfl, fun _ h => absurd h (Nat.not_lt_zero _), fun _ h => absurd h (Nat.not_lt_zero _), fun _ h => absurd h (Nat.not_lt_zero _), fun _ h => absurd h (Nat.not_lt_zero _), fun _ h => absurd h (Nat.not_lt_zero _)⟩
  intro d _
  rw [h0]
  exact b_0 d
theorem begins_ok {N : Nat} (hN : 2000 ≤ N) : ∃ v, p_X6_begins N (fun _ _ => 0) = some v ∧ ∀ k, v 0 k = gTown k := by
  have key : ∀ (k n j : Nat) (G : Nat → Nat → Int32), j + k = 264 → k < n → (∀ i, G 0 i = 0) → ∃ v, p_X6_begins_b2 N n G (nI j) = some v ∧ ∀ k, v 0 k = gTown k := by
    intro k
    induction k with
    | zero =>
      intro n j G hj hn hG
      match n, hn with
      | n + 1, _ =>
        refine ⟨jup (jup G 0 4 50) 0 5 720, ?_, ?_⟩
        · unfold p_X6_begins_b2
          rw [show (264 : Int32) = nI 264 by decide, if_pos (nI_le (by omega) (by omega))]
          rfl
        · intro i
          rw [jup_s, jup_s, upd_i, upd_i]
          unfold gTown
          by_cases c5 : i = 5
          · rw [if_pos c5, if_neg (by omega), if_pos c5]
          · rw [if_neg c5, if_neg c5, hG]
    | succ k ih =>
      intro n j G hj hn hG
      match n, hn with
      | n + 1, hn =>
        unfold p_X6_begins_b2
        rw [show (264 : Int32) = nI 264 by decide, if_neg (nI_ge (by omega) (by omega)), if_pos (jinT (by omega) (by omega)), zcl (by omega), jlt_eq, nI_1]
        refine ih n (j + 1) _ (by omega) (by omega) ?_
        intro i
        rw [jup_s, upd_i]
        split
        · rfl
        · exact hG i
  exact key 264 N 0 _ (by omega) (by omega) (fun _ => rfl)
theorem start_LR {v : Nat → Int32} (hv : ∀ k, v k = gTown k) : LR (gLaw v) (fun _ _ => 0) sA0 := by
  refine ⟨⟨gTown_RC rfl rfl rfl, ?_, ?_, rfl, rfl, rfl, ?_, ?_, ?_⟩, ⟨?_, ?_, ?_, rfl, rfl, rfl, ?_, ?_, ?_⟩, sA0_I⟩
  · intro i _; rfl
  · intro i a _ h; exact absurd (show (none : Option TA) = some a from h) (by intro e; cases e)
  · intro k hk; exact absurd hk (Nat.not_lt_zero _)
  · intro i hi _
    rcases (by omega : i = 0 ∨ i = 1 ∨ i = 2 ∨ i = 3) with h | h | h | h <;> subst h <;> rfl
  · intro i so m r _ h; exact absurd (show (none : Option (Nat × Nat × (Nat → Int64))) = some _ from h) (by intro e; cases e)
  · have e : jvw (gLaw v) 70 1 = v := rfl
    rw [e]
    refine ⟨(hv 0).trans rfl, (hv 1).trans rfl, (hv 2).trans rfl, (hv 3).trans rfl, (hv 4).trans rfl, (hv 5).trans rfl, (hv 6).trans rfl, (hv 7).trans rfl, ?_, fun _ h => absurd h (Nat.not_lt_zero _), ?_, fun _ h => absurd h (Nat.not_lt_zero _), fun _ h => absurd h (Nat.not_lt_zero _), fun _ h => absurd h (Nat.not_lt_zero _), fun _ h => absurd h (Nat.not_lt_zero _), fun _ h => absurd h (Nat.not_lt_zero _), fun _ h => absurd h (Nat.not_lt_zero _)⟩
    · intro p _
      rw [hv]
      unfold gTown
      rw [if_neg (by omega), if_neg (by omega)]
      rfl
    · intro t p _ _
      rw [hv]
      unfold gTown
      rw [if_neg (by omega), if_neg (by omega)]
      rfl
  · intro i _; rfl
  · intro i a _ h; exact absurd (show (none : Option TA) = some a from h) (by intro e; cases e)
  · intro k hk; exact absurd hk (Nat.not_lt_zero _)
  · intro i hi _
    rcases (by omega : i = 0 ∨ i = 1 ∨ i = 2 ∨ i = 3) with h | h | h | h <;> subst h <;> rfl
  · intro i so m r _ h; exact absurd (show (none : Option (Nat × Nat × (Nat → Int64))) = some _ from h) (by intro e; cases e)
/-- every script: the answers are alike -/
theorem all_ok {Ln : Nat} (hln : Ln ≤ 3072) (xs : Nat → Int32) {v : Nat → Int32} (hv : ∀ k, v k = gTown k) : ∃ res, p_loop 2000 Ln xs 600 (gLaw v) (fun _ _ => 0) 0 = some res := by
  have := loop_ok (N := 2000) (xs := xs) (Nat.le_refl _) hln 600 0 (gLaw v) (fun _ _ => 0) sA0 (Nat.zero_le _) (by omega) (start_LR hv) (by decide)
  rw [Nat.mul_zero, nI_0] at this
  exact this

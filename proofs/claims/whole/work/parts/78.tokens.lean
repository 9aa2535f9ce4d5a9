/-! tokens: how both read the tape -/
def sb (t : Nat) : Int32 := (nI t).toInt8.toInt32
def ltr (t : Nat) : Bool := decide (97 ≤ t ∧ t ≤ 122)
def dig (t : Nat) : Bool := decide (48 ≤ t ∧ t ≤ 57)
def spc (t : Nat) : Bool := decide (t = 10 ∨ t = 32)
theorem sb_l : ∀ t, t < 256 → ((sb t < 97) = false ∧ (122 < sb t) = false ↔ ltr t = true) := by decide +kernel
theorem sb_d : ∀ t, t < 256 → ((sb t < 48) = false ∧ (57 < sb t) = false ↔ dig t = true) := by decide +kernel
theorem sb_10 : ∀ t, t < 256 → (sb t = 10 ↔ t = 10) := by decide +kernel
theorem sb_32 : ∀ t, t < 256 → (sb t = 32 ↔ t = 32) := by decide +kernel
theorem sb_59 : ∀ t, t < 256 → (sb t = 59 ↔ t = 59) := by decide +kernel
theorem sb_dv : ∀ t, t < 256 → dig t = true → sb t = nI t := by decide +kernel
theorem nb_l : ∀ t, t < 256 → (¬ nI t < 97 ∧ ¬ 122 < nI t ↔ ltr t = true) := by decide +kernel
theorem nb_d : ∀ t, t < 256 → (¬ nI t < 48 ∧ ¬ 57 < nI t ↔ dig t = true) := by decide +kernel
/-- as far as p holds, at most m more -/
def rn (p : Nat → Bool) : Nat → Nat → Nat
  | 0, k => k
  | m + 1, k => if p k = true then rn p m (k + 1) else k
theorem rn_le (p : Nat → Bool) : ∀ (m k : Nat), k ≤ rn p m k ∧ rn p m k ≤ k + m
  | 0, k => ⟨Nat.le_refl _, Nat.le_refl _⟩
  | m + 1, k => by
    rw [rn]
    have := rn_le p m (k + 1)
    split <;> omega
theorem rn_in (p : Nat → Bool) : ∀ (m k i : Nat), k ≤ i → i < rn p m k → p i = true
  | 0, k, i, h1, h2 => absurd h2 (by show ¬ i < k; omega)
  | m + 1, k, i, h1, h2 => by
    rw [rn] at h2
    by_cases e : p k = true
    · rw [if_pos e] at h2
      by_cases e2 : i = k
      · rw [e2]; exact e
      · exact rn_in p m (k + 1) i (by omega) h2
    · rw [if_neg e] at h2; omega
theorem rn_0 {p : Nat → Bool} {m k : Nat} (h : p k = false) : rn p m k = k := by
  cases m with
  | zero => rfl
  | succ m => rw [rn, if_neg (by rw [h]; decide)]
theorem rn_pos {p : Nat → Bool} {m k : Nat} (h : p k = true) (hm : 0 < m) : k < rn p m k := by
  obtain ⟨q, rfl⟩ : ∃ q, m = q + 1 := ⟨m - 1, by omega⟩
  rw [rn, if_pos h]
  have := rn_le p q (k + 1)
  omega
def dval (tp : Nat → Nat) (b : Nat) : Nat → Nat
  | 0 => 0
  | n + 1 => 10 * dval tp b n + (tp (b + n) - 48)
/-- a token: its kind (0 end, 1 word, 2 number, 3 stop, 4 bad), begin, end, value -/
def tok (tp : Nat → Nat) (lim k : Nat) : Nat × Nat × Nat × Nat :=
  let b := rn (fun i => spc (tp i)) (lim - k) k
  if lim ≤ b then (0, b, b, 0)
  else if ltr (tp b) = true then (1, b, rn (fun i => ltr (tp i)) (lim - b) b, 0)
  else if dig (tp b) = true then (if rn (fun i => dig (tp i)) (lim - b) b - b ≤ 4 then 2 else 4, b, rn (fun i => dig (tp i)) (lim - b) b, dval tp b (min (rn (fun i => dig (tp i)) (lim - b) b - b) 4))
  else (if tp b = 59 then 3 else 4, b, b + 1, 0)
def ck (k : Nat) : Int32 := if k = 0 then 1 else if k = 1 then 2 else if k = 2 then 3 else if k = 3 then 4 else 0
/-- the class's Reader (2 cells) with the tape below lim, at a token -/
def TC (g : Nat → Nat → Int32) (tp : Nat → Nat) (lim : Nat) (t : Nat × Nat × Nat × Nat) : Prop := g 0 4 = nI lim ∧ (∀ k, k < lim → g 1 k = sb (tp k)) ∧ g 0 5 = ck t.1 ∧ g 0 6 = nI t.2.1 ∧ g 0 7 = nI t.2.2.1 ∧ (t.1 = 2 → g 0 8 = nI t.2.2.2)
section tokens
variable {N : Nat} {G G2 : Nat → Nat → Int32} {J J2 : Nat → Nat → Int64} {tp : Nat → Nat} {lim : Nat}
theorem c_run (hlim : lim ≤ 900) {p : Nat → Bool} {lo hi : Int32} (hp : ∀ k, k < lim → ((sb (tp k) < lo) = False ∧ (hi < sb (tp k)) = False) ∨ ((sb (tp k) < lo ∨ hi < sb (tp k)) ∧ p k = false)) (hp2 : ∀ k, k < lim → (sb (tp k) < lo) = False → (hi < sb (tp k)) = False → p k = true) : ∀ (m k n : Nat) (g : Nat → Nat → Int32), k + m = lim → m < n → g 0 4 = nI lim → (∀ k, k < lim → g 1 k = sb (tp k)) → g 0 7 = nI k → Ok (p_X2_takeRun_b0 N n g lo hi) (fun r => r.1 = (if (nI (rn p m k) : Int32) ≤ g 0 6 then 0 else 1) ∧ r.2 0 7 = nI (rn p m k) ∧ (∀ i, i ≠ 7 → r.2 0 i = g 0 i) ∧ ∀ c, c ≠ 0 → r.2 c = g c)
  | 0, k, n, g, hk, hn, h4, ht, h7 => by
    obtain ⟨q, rfl⟩ : ∃ q, n = q + 1 := ⟨n - 1, by omega⟩
    have e : k = lim := by omega
    subst e
    rw [p_X2_takeRun_b0, h4, h7, if_pos (nI_le (Nat.le_refl _) (by omega)), p_X2_takeRun_b50, h7]
    by_cases c : nI k ≤ g 0 6
    · rw [if_pos c]; exact Ok.s ⟨by show (0 : Int32) = _; rw [rn, if_pos c], h7, fun _ _ => rfl, fun _ _ => rfl⟩
    · rw [if_neg c]; exact Ok.s ⟨by show (1 : Int32) = _; rw [rn, if_neg c], h7, fun _ _ => rfl, fun _ _ => rfl⟩
  | m + 1, k, n, g, hk, hn, h4, ht, h7 => by
    obtain ⟨q, rfl⟩ : ∃ q, n = q + 1 := ⟨n - 1, by omega⟩
    have stop : p k = false → Ok (p_X2_takeRun_b50 N g) (fun r => r.1 = (if (nI (rn p (m + 1) k) : Int32) ≤ g 0 6 then 0 else 1) ∧ r.2 0 7 = nI (rn p (m + 1) k) ∧ (∀ i, i ≠ 7 → r.2 0 i = g 0 i) ∧ ∀ c, c ≠ 0 → r.2 c = g c) := by
      intro hf
      rw [rn_0 hf, p_X2_takeRun_b50, h7]
      by_cases c : nI k ≤ g 0 6
      · rw [if_pos c, if_pos c]; exact Ok.s ⟨rfl, h7, fun _ _ => rfl, fun _ _ => rfl⟩
      · rw [if_neg c, if_neg c]; exact Ok.s ⟨rfl, h7, fun _ _ => rfl, fun _ _ => rfl⟩
    rw [p_X2_takeRun_b0, h4, h7, if_neg (nI_ge (by omega) (by omega)), if_pos (jinT (by omega) (by omega)), if_pos (jinT (by omega) (by omega)), zcl (by omega), ht k (by omega)]
    rcases hp k (by omega) with ⟨h1, h2⟩ | ⟨h1, h2⟩
    · have hpk := hp2 k (by omega) h1 h2
      rw [if_neg (by rw [h1]; exact id), if_neg (by rw [h2]; exact id), jlt_eq, nI_1, rn, if_pos hpk]
      refine (c_run hlim hp hp2 m (k + 1) q (jup g 0 7 (nI (k + 1))) (by omega) (by omega) (by rw [jup_s, upd_n _ _ (by decide)]; exact h4) (by rw [jup_n _ _ (by decide)]; exact ht) (by rw [jup_s, upd_s])).c ?_
      rintro ⟨v, r⟩ ⟨r1, r2, r3, r4⟩
      have e6 : jup g 0 7 (nI (k + 1)) 0 6 = g 0 6 := by rw [jup_s, upd_n _ _ (by decide)]
      rw [e6] at r1
      exact ⟨r1, r2, fun i hi => (r3 i hi).trans (by rw [jup_s, upd_n _ _ hi]), fun c hc => (r4 c hc).trans (jup_n _ _ hc)⟩
    · rcases h1 with h1 | h1
      · rw [if_pos h1]; exact stop h2
      · by_cases h3 : sb (tp k) < lo
        · rw [if_pos h3]; exact stop h2
        · rw [if_neg h3, if_pos h1]; exact stop h2
end tokens

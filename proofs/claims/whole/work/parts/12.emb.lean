/-! the world behind a call, cell by cell -/
def jfi : List Nat → Nat → Nat → Option Nat
  | [], _, _ => none
  | a :: e, i, k => if a = i then some k else jfi e i (k + 1)
def jb1 (ρ : Nat → Nat) (e : List Nat) (ν : jH) (i : Nat) (c : jc) : jc := match jfi e i 0 with
  | some k => (match ν[k]? with
    | some d => jrc ρ d
    | none => c)
  | none => c
def jbm (ρ : Nat → Nat) (e : List Nat) (ν : jH) : Nat → jH → jH
  | _, [] => []
  | i, c :: l => jb1 ρ e ν i c :: jbm ρ e ν (i + 1) l
def jbk2 (e : List Nat) (ν μ : jH) : jH := jbm (jrn e μ.length) e ν 0 μ ++ (ν.drop e.length).map (jrc (jrn e μ.length))
theorem jfi_some : ∀ (e : List Nat) (i k j : Nat), jfi e i k = some j → k ≤ j ∧ e[j - k]? = some i
  | [], i, k, j, h => by cases h
  | a :: e, i, k, j, h => by
    simp only [jfi] at h
    split at h
    · next ha => cases h; subst ha; simp
    · obtain ⟨h1, h2⟩ := jfi_some e i (k + 1) j h
      refine ⟨by omega, ?_⟩
      rw [show j - k = (j - (k + 1)) + 1 by omega, List.getElem?_cons_succ]
      exact h2
theorem jfi_none : ∀ (e : List Nat) (i k : Nat), jfi e i k = none → i ∉ e
  | [], i, k, _ => by simp
  | a :: e, i, k, h => by
    simp only [jfi] at h
    split at h
    · cases h
    · next ha =>
      have := jfi_none e i (k + 1) h
      simp only [List.mem_cons, not_or]
      exact ⟨fun z => ha z.symm, this⟩
theorem jbm_get (ρ : Nat → Nat) (e : List Nat) (ν : jH) : ∀ (μ : jH) (i k : Nat), (jbm ρ e ν i μ)[k]? = (μ[k]?).map (jb1 ρ e ν (i + k))
  | [], i, k => by simp [jbm]
  | c :: l, i, 0 => by simp [jbm]
  | c :: l, i, k + 1 => by
    simp only [jbm, List.getElem?_cons_succ]
    rw [jbm_get ρ e ν l (i + 1) k, show i + 1 + k = i + (k + 1) by omega]
theorem jback_eq {e : List Nat} {ν μ : jH} (hn : va_nd e = true) (hl : e.length ≤ ν.length) : jback e ν μ = jbk2 e ν μ := by
  unfold jback jbk2
  congr 1
  apply List.ext_getElem?
  intro k
  rw [jbm_get, Nat.zero_add]
  cases hk : μ[k]? with
  | none =>
    have : μ.length ≤ k := List.getElem?_eq_none_iff.mp hk
    rw [List.getElem?_eq_none (by rw [jput_len]; exact this)]
    rfl
  | some c =>
    have hlt : k < μ.length := (List.getElem?_eq_some_iff.mp hk).1
    simp only [Option.map_some, jb1]
    cases hf : jfi e k 0 with
    | none =>
      rw [jput_out _ _ _ _ _ (jfi_none e k 0 hf)]
      exact hk
    | some j =>
      obtain ⟨-, h2⟩ := jfi_some e k 0 j hf
      rw [Nat.sub_zero] at h2
      have hj : j < ν.length := Nat.lt_of_lt_of_le (List.getElem?_eq_some_iff.mp h2).1 hl
      rw [jput_in _ e ν μ j k ν[j] hn h2 (List.getElem?_eq_getElem hj) hlt]
      dsimp only
      rw [List.getElem?_eq_getElem hj]

/-! calls: the callee's world is a part of the caller's -/
abbrev jV : Type := Launch × va_G × (Nat → ClassId) × (Nat → Nat)
def jVX (X : jX) : jV := (jl X, jD X, jcA X, jv X)
def jPc (V : jV) (ad : Nat → Nat) (As : List Value) (μ : jH) (sz : Nat) : Array Value → State → Prop :=
  va_Pc (As.map (jre ad)) (fun U => U.heap.size = sz ∧ va_P V.2.1 vwCl (jpl ad V.2.2.1 μ) U.heap ∧ va_D (fun _ => True) (jpl ad V.2.2.1 μ) ∧ va_K V.2.1 vwCl (jty V.2.2.1) U ∧ jE ad V.2.2.2 (va_A (jpl ad V.2.2.1 μ) sz) U U.heap)
/-- a method's contract: from the world μ, with arguments As, it comes to an answer and a world with po, or to an exception with px; bu: one more than it makes -/
def jMet (V : jV) (y : MethodName) (ws : List Cond) (rm : Room) (sf : Bool) (bu : Nat) (As : List Value) (μ : jH) (po : Option Value → jH → Prop) (px : String → jH → Prop) : Prop :=
  ∀ (ad : Nat → Nat) (sz : Nat), jfut ad μ.length sz (μ.length + bu) →
    vx_Met V.1 y ws rm (jPc V ad As μ sz) (jQc V.2.1 V.2.2.1 ad (va_A (jpl ad V.2.2.1 μ) sz) sf (μ.length + bu) po) (jXC V.2.1 V.2.2.1 ad (va_A (jpl ad V.2.2.1 μ) sz) px) rm.cells rm.slots (va_A (jpl ad V.2.2.1 μ) sz)
/-- the callee's numbers in the caller's -/
def jrn (e : List Nat) (m j : Nat) : Nat := if j < e.length then e.getD j 0 else if j < 1000000 then m + (j - e.length) else j
def jsub (e : List Nat) (ν μ : jH) : Prop := e.map (fun i => μ[i]?) = ν.map (fun c => some (jrc (jrn e μ.length) c))
def jput (ρ : Nat → Nat) : List Nat → jH → jH → jH
  | i :: e, c :: ν, μ => (jput ρ e ν μ).set i (jrc ρ c)
  | _, _, μ => μ
def jback (e : List Nat) (ν μ : jH) : jH := jput (jrn e μ.length) e ν μ ++ (ν.drop e.length).map (jrc (jrn e μ.length))
theorem jput_len (ρ : Nat → Nat) : ∀ (e : List Nat) (ν μ : jH), (jput ρ e ν μ).length = μ.length
  | [], ν, μ => by simp [jput]
  | i :: e, [], μ => by simp [jput]
  | i :: e, c :: ν, μ => by simp [jput, jput_len ρ e ν μ]
theorem jput_in (ρ : Nat → Nat) : ∀ (e : List Nat) (ν μ : jH) (k i : Nat) (c : jc), va_nd e = true → e[k]? = some i → ν[k]? = some c → i < μ.length → (jput ρ e ν μ)[i]? = some (jrc ρ c)
  | [], ν, μ, k, i, c, _, h, _, _ => by simp at h
  | j :: e, [], μ, k, i, c, _, _, h, _ => by simp at h
  | j :: e, d :: ν, μ, k, i, c, hn, h1, h2, h3 => by
    simp only [va_nd, Bool.and_eq_true, decide_eq_true_eq] at hn
    cases k with
    | zero =>
      simp only [List.getElem?_cons_zero, Option.some.injEq] at h1 h2
      subst h1; subst h2
      simp only [jput]
      rw [List.getElem?_set_self (by rw [jput_len]; exact h3)]
    | succ k =>
      simp only [List.getElem?_cons_succ] at h1 h2
      have hne : j ≠ i := fun z => hn.1 (by rw [z]; exact List.mem_of_getElem? h1)
      simp only [jput]
      rw [List.getElem?_set_ne hne]
      exact jput_in ρ e ν μ k i c hn.2 h1 h2 h3
theorem jput_out (ρ : Nat → Nat) : ∀ (e : List Nat) (ν μ : jH) (i : Nat), i ∉ e → (jput ρ e ν μ)[i]? = μ[i]?
  | [], ν, μ, i, _ => by simp [jput]
  | j :: e, [], μ, i, _ => by simp [jput]
  | j :: e, d :: ν, μ, i, h => by
    simp only [List.mem_cons, not_or] at h
    simp only [jput]
    rw [List.getElem?_set_ne (fun z => h.1 z.symm)]
    exact jput_out ρ e ν μ i h.2
theorem jsub_len {e : List Nat} {ν μ : jH} (h : jsub e ν μ) : e.length = ν.length := by
  have := congrArg List.length h
  simpa using this
theorem jsub_at {e : List Nat} {ν μ : jH} (h : jsub e ν μ) {k i : Nat} (hk : e[k]? = some i) : ∃ c, ν[k]? = some c ∧ μ[i]? = some (jrc (jrn e μ.length) c) := by
  have h1 := congrArg (fun l => l[k]?) h
  simp only [List.getElem?_map, hk, Option.map_some] at h1
  cases hc : ν[k]? with
  | none => simp [hc] at h1
  | some c =>
    simp only [hc, Option.map_some, Option.some.injEq] at h1
    exact ⟨c, rfl, h1⟩
section JC7
variable {X : jX} {k n pc : Nat} {L : List (Option Value)} {st : List Value} {μ ν : jH} {e : List Nat}
/-- the callee's addresses -/
def jac (X : jX) (e : List Nat) (m : Nat) : Nat → Nat := fun j => jad X (jrn e m j)
theorem jac_pl (hs : jsub e ν μ) : e.map (fun i => (jpl (jad X) (jcA X) μ)[i]?) = (jpl (jac X e μ.length) (jcA X) ν).map some := by
  apply List.ext_getElem?
  intro i
  rw [List.getElem?_map, List.getElem?_map, jpl_get]
  cases he : e[i]? with
  | none =>
    have hl := jsub_len hs
    have h0 : ν[i]? = none := List.getElem?_eq_none (by rw [← hl]; exact List.getElem?_eq_none_iff.mp he)
    simp [h0]
  | some j =>
    obtain ⟨c, h1, h2⟩ := jsub_at hs he
    have hi : i < e.length := (List.getElem?_eq_some_iff.mp he).1
    have hj : jrn e μ.length i = j := by
      simp only [jrn, hi, if_true, List.getD_eq_getElem?_getD, he, Option.getD_some]
    simp only [Option.map_some, h1, jpl_get, h2, jac, hj, jrE_jrc]
    rfl
theorem jac_P {H : Heap} {locs : List Loc} (hH : jHP X μ H locs) (hs : jsub e ν μ) : va_P (jD X) vwCl (jpl (jac X e μ.length) (jcA X) ν) H := by
  refine hH.1.sub e ?_
  have h := jac_pl (X := X) hs
  apply List.ext_getElem?
  intro i
  have h9 : (e.map (fun i => (jpl (jad X) (jcA X) μ)[i]?)).filterMap id = ((jpl (jac X e μ.length) (jcA X) ν).map some).filterMap id := by rw [h]
  rw [List.filterMap_map, List.filterMap_map] at h9
  have e2 : (id ∘ some : (Nat × va_E) → Option (Nat × va_E)) = some := rfl
  rw [e2, List.filterMap_some] at h9
  have e3 : (id ∘ fun i : Nat => (jpl (jad X) (jcA X) μ)[i]?) = fun i : Nat => (jpl (jad X) (jcA X) μ)[i]? := rfl
  rw [e3] at h9
  rw [h9]
theorem jac_D {H : Heap} {locs : List Loc} (hH : jHP X μ H locs) (hs : jsub e ν μ) (hn : va_nd e = true) : va_D (jA X) (jpl (jac X e μ.length) (jcA X) ν) := hH.2.1.sub e hn (jac_pl hs)
theorem jac_free {H : Heap} {locs : List Loc} (hX : jOK X) (hH : jHP X μ H locs) (hs : jsub e ν μ) : ∀ q, va_A (jpl (jac X e μ.length) (jcA X) ν) H.size q → jA X q := va_free hH.2.1 hH.2.2.1 hX.2.2.2.2.2.2.1 e (jac_pl hs)
theorem jac_fut {H : Heap} {locs : List Loc} (hH : jHP X μ H locs) (hs : jsub e ν μ) {bu : Nat} (hb : μ.length + bu ≤ jal X) (hb6 : e.length + bu ≤ 1000000) : jfut (jac X e μ.length) ν.length H.size (ν.length + bu) := by
  intro j h1 h2
  have hl := jsub_len hs
  have h3 : ¬ j < e.length := by omega
  have h4 : j < 1000000 := by omega
  simp only [jac, jrn, h3, if_false, h4, if_true]
  rw [hH.2.2.2 _ (by omega) (by omega)]
  omega
/-- the caller's world behind a call -/
theorem jac_back {H H1 : Heap} {locs locs1 : List Loc} {ν2 : jH} {bu : Nat} {sf : Bool} (hX : jOK X) (hH : jHP X μ H locs) (hs : jsub e ν μ) (hn : va_nd e = true) (hb : μ.length + bu ≤ jal X) (hb6 : e.length + bu ≤ 1000000) (hν1 : ν.length ≤ ν2.length) (hν2 : ν2.length < ν.length + bu) (hei : ∀ i ∈ e, i < μ.length)
    (hk : ∀ q : Nat, q < H.size → ¬ va_A (jpl (jac X e μ.length) (jcA X) ν) H.size q → H1[q]? = H[q]?) (hP1 : va_P (jD X) vwCl (jpl (jac X e μ.length) (jcA X) ν2) H1) (hD1 : va_D (va_A (jpl (jac X e μ.length) (jcA X) ν) H.size) (jpl (jac X e μ.length) (jcA X) ν2)) (hS1 : va_S (jA X) (js X).heap H1 locs1) (hf : sf = true → jfut (jac X e μ.length) ν2.length H1.size (ν.length + bu)) :
    va_P (jD X) vwCl (jpl (jad X) (jcA X) (jback e ν2 μ)) H1 ∧ va_D (jA X) (jpl (jad X) (jcA X) (jback e ν2 μ)) ∧ (sf = true → jfut (jad X) (jback e ν2 μ).length H1.size (jal X)) := by
  have hl := jsub_len hs
  have hlb : (jback e ν2 μ).length = μ.length + (ν2.length - e.length) := by simp [jback, jput_len]
  -- each cell of the new world: the callee's, or an old one that is not the callee's
  have key : ∀ (i : Nat) (c : jc), (jback e ν2 μ)[i]? = some c → (∃ (j : Nat) (d : jc), ν2[j]? = some d ∧ jrn e μ.length j = i ∧ c = jrc (jrn e μ.length) d) ∨ (i < μ.length ∧ i ∉ e ∧ μ[i]? = some c) := by
    intro i c h
    by_cases hi : i < μ.length
    · rw [jback, List.getElem?_append_left (by rw [jput_len]; exact hi)] at h
      by_cases hm : i ∈ e
      · obtain ⟨j, hj⟩ := List.getElem?_of_mem hm
        have hje : j < e.length := (List.getElem?_eq_some_iff.mp hj).1
        have hj2 : j < ν2.length := by omega
        have h9 := jput_in (jrn e μ.length) e ν2 μ j i ν2[j] hn hj (List.getElem?_eq_getElem hj2) hi
        rw [h9] at h
        refine Or.inl ⟨j, ν2[j], List.getElem?_eq_getElem hj2, ?_, (Option.some.inj h).symm⟩
        simp only [jrn, hje, if_true, List.getD_eq_getElem?_getD, hj, Option.getD_some]
      · rw [jput_out _ _ _ _ _ hm] at h
        exact Or.inr ⟨hi, hm, h⟩
    · rw [jback, List.getElem?_append_right (by rw [jput_len]; omega), jput_len, List.getElem?_map, List.getElem?_drop] at h
      cases hd : ν2[e.length + (i - μ.length)]? with
      | none => simp [hd] at h
      | some d =>
        simp only [hd, Option.map_some, Option.some.injEq] at h
        have := (List.getElem?_eq_some_iff.mp hd).1
        refine Or.inl ⟨_, d, hd, ?_, h.symm⟩
        simp only [jrn]
        rw [if_neg (by omega), if_pos (by omega)]
        omega
  refine ⟨fun i q hq => ?_, ⟨fun i j p q hp hq hpq => ?_, fun i q hq => ?_⟩, fun z j h1 h2 => ?_⟩
  · rw [jpl_get] at hq
    cases hc : (jback e ν2 μ)[i]? with
    | none => simp [hc] at hq
    | some c =>
      simp only [hc, Option.map_some, Option.some.injEq] at hq
      subst hq
      rcases key i c hc with ⟨j, d, h1, h2, h3⟩ | ⟨h1, h2, h3⟩
      · have h9 := hP1 j _ (jpl_at h1)
        rw [h3, jrE_jrc, ← h2]
        exact h9
      · have h9 := jpl_at (ad := jad X) (cA := jcA X) h3
        refine (hH.1 i _ h9).kept (hk _ ((hH.1 i _ h9).lt) ?_)
        rintro (⟨j, d, hj⟩ | hj)
        · have hj2 : (e.map (fun i => (jpl (jad X) (jcA X) μ)[i]?))[j]? = some (some (jad X i, d)) := by rw [jac_pl hs, List.getElem?_map, hj]; rfl
          rw [List.getElem?_map] at hj2
          cases he : e[j]? with
          | none => simp [he] at hj2
          | some t =>
            simp only [he, Option.map_some, Option.some.injEq] at hj2
            have := hH.2.1.1 i t _ _ h9 hj2 rfl
            exact h2 (by rw [this]; exact List.mem_of_getElem? he)
        · have h8 : jad X i < H.size := (hH.1 i _ h9).lt
          exact absurd h8 (Nat.not_lt.mpr hj)
  · -- addresses apart
    rw [jpl_get] at hp hq
    cases hc : (jback e ν2 μ)[i]? with
    | none => simp [hc] at hp
    | some c =>
      cases hc2 : (jback e ν2 μ)[j]? with
      | none => simp [hc2] at hq
      | some c2 =>
        simp only [hc, hc2, Option.map_some, Option.some.injEq] at hp hq
        subst hp; subst hq
        dsimp only at hpq
        have inA : ∀ (a b : Nat) (d c2 : jc), ν2[a]? = some d → jrn e μ.length a = b → va_A (jpl (jac X e μ.length) (jcA X) ν) H.size (jad X b) := by
          intro a b d c2 ha hb
          have := hD1.2 a _ (jpl_at (ad := jac X e μ.length) (cA := jcA X) ha)
          rw [← hb]
          exact this
        have old : ∀ (a : Nat) (d : jc), a ∉ e → μ[a]? = some d → ¬ va_A (jpl (jac X e μ.length) (jcA X) ν) H.size (jad X a) := by
          intro a d hne ha
          have h9 := jpl_at (ad := jad X) (cA := jcA X) ha
          rintro (⟨t, x, ht⟩ | ht)
          · have hj2 : (e.map (fun i => (jpl (jad X) (jcA X) μ)[i]?))[t]? = some (some (jad X a, x)) := by rw [jac_pl hs, List.getElem?_map, ht]; rfl
            rw [List.getElem?_map] at hj2
            cases he : e[t]? with
            | none => simp [he] at hj2
            | some u =>
              simp only [he, Option.map_some, Option.some.injEq] at hj2
              have := hH.2.1.1 a u _ _ h9 hj2 rfl
              exact hne (by rw [this]; exact List.mem_of_getElem? he)
          · have h8 : jad X a < H.size := (hH.1 a _ h9).lt
            exact absurd h8 (Nat.not_lt.mpr ht)
        rcases key i c hc with ⟨a, d, h1, h2, h3⟩ | ⟨h1, h2, h3⟩ <;> rcases key j c2 hc2 with ⟨a2, d2, g1, g2, g3⟩ | ⟨g1, g2, g3⟩
        · have h9 := hD1.1 a a2 _ _ (jpl_at (ad := jac X e μ.length) (cA := jcA X) h1) (jpl_at (ad := jac X e μ.length) (cA := jcA X) g1) (by simp only [jac, h2, g2]; exact hpq)
          rw [← h2, ← g2, h9]
        · exact absurd (by rw [← hpq]; exact inA a i d c h1 h2) (old j c2 g2 g3)
        · exact absurd (by rw [hpq]; exact inA a2 j d2 c2 g1 g2) (old i c h2 h3)
        · exact hH.2.1.1 i j _ _ (jpl_at h3) (jpl_at g3) hpq
  · rw [jpl_get] at hq
    cases hc : (jback e ν2 μ)[i]? with
    | none => simp [hc] at hq
    | some c =>
      simp only [hc, Option.map_some, Option.some.injEq] at hq
      subst hq
      rcases key i c hc with ⟨a, d, h1, h2, h3⟩ | ⟨h1, h2, h3⟩
      · have h9 := hD1.2 a _ (jpl_at (ad := jac X e μ.length) (cA := jcA X) h1)
        have h8 := jac_free hX hH hs _ h9
        simp only [jac, h2] at h8
        exact h8
      · exact hH.2.1.2 i _ (jpl_at h3)
  · have h9 := hf z ν2.length (Nat.le_refl _) hν2
    rw [hlb] at h1 ⊢
    have h8 : jac X e μ.length ν2.length = jad X (μ.length + (ν2.length - e.length)) := by
      simp only [jac, jrn]
      rw [if_neg (by omega), if_pos (by omega)]
    rw [h8, hH.2.2.2 _ (by omega) (by omega)] at h9
    rw [hH.2.2.2 j (by omega) h2]
    omega
end JC7

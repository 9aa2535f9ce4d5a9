/-! numbers taken -/
/-- a number from lo on and below hx, or what is wrong and where -/
def numT (tp : Nat → Nat) (lim lo hx : Nat) (t : Nat × Nat × Nat × Nat) : (Nat × Nat) ⊕ (Nat × (Nat × Nat × Nat × Nat)) := if t.1 = 2 then (if lo ≤ t.2.2.2 ∧ t.2.2.2 < hx then .inr (t.2.2.2, tok tp lim t.2.2.1) else .inl (3, t.2.1)) else .inl (if t.1 = 4 then 1 else 2, t.2.1)
section takes
variable {N : Nat} {G G2 : Nat → Nat → Int32} {J J2 : Nat → Nat → Int64} {tp : Nat → Nat} {lim : Nat} {t : Nat × Nat × Nat × Nat}
theorem hi_le {v hx : Nat} (hv : v < 100000) (hh : hx < 100000) : (nI v ≤ nI hx - 1) = (v < hx) := by
  refine propext ?_
  have e1 : (1 : Int32) = nI 1 := by decide
  rw [Int32.le_iff_toInt_le, e1, pk_sub_toInt (by omega) (by omega), nI_toInt (by omega)]
  omega
/-- the class's Reader after a fault -/
def FC (g r : Nat → Nat → Int32) (c p : Nat) : Prop := r 0 1 = nI c ∧ r 0 2 = nI p ∧ (∀ i, i ≠ 1 → i ≠ 2 → r 0 i = g 0 i) ∧ ∀ q, q ≠ 0 → r q = g q
theorem c_fails {k : Nat} {x : Int32} (T : TC G tp lim t) (hk : tkOk lim t) (hx : x = nI k) : Ok (p_X2_fails N G x) (fun r => r.1 = 0 ∧ FC G r.2 (if t.1 = 4 then 1 else k) t.2.1) := by
  obtain ⟨h4, ht, h5, h6, h7, _⟩ := T
  obtain ⟨k1, k2, k3, _⟩ := hk
  subst hx
  have fin : ∀ c : Nat, Ok (p_X2_fails_b13 N G (nI c)) (fun r => r.1 = 0 ∧ FC G r.2 c t.2.1) := by
    intro c
    unfold p_X2_fails_b13
    have z : jup G 0 1 (nI c) 0 6 = nI t.2.1 := by rw [jup_s, upd_n _ _ (by decide)]; exact h6
    rw [jlt_eq, z, jlt_eq]
    refine Ok.s ⟨rfl, ?_, ?_, ?_, ?_⟩
    · dsimp only; rw [jup_s, upd_n _ _ (by decide), jup_s, upd_s]
    · dsimp only; rw [jup_s, upd_s]
    · intro i h1 h2; dsimp only; rw [jup_s, upd_n _ _ h2, jup_s, upd_n _ _ h1]
    · intro q hq; exact (jup_n _ _ hq).trans (jup_n _ _ hq)
  unfold p_X2_fails
  rw [h5]
  by_cases c : t.1 = 4
  · rw [if_pos (by rw [ck_b _ k3]; exact c), if_pos c]; exact fin 1
  · rw [if_neg (by rw [ck_b _ k3]; exact c), if_neg c]; exact fin k
theorem jz0 : jz 0 = true := by decide
theorem c_takes (hN : 2000 ≤ N) (hlim : lim ≤ 900) (htp : ∀ k, tp k < 256) {lo hx : Nat} {x y : Int32} (T : TC G tp lim t) (hk : tkOk lim t) (hx1 : x = nI lo) (hy : y = nI hx - 1) (hl : lo < 100000) (hh : hx < 100000) : Ok (p_X2_takes N G x y) (fun r => match numT tp lim lo hx t with
    | .inl (c, p) => r.1 = 0 ∧ FC G r.2 c p
    | .inr (v, t2) => r.1 = 1 ∧ TC r.2 tp lim t2 ∧ r.2 0 9 = nI v ∧ (∀ i, i ≠ 5 → i ≠ 6 → i ≠ 7 → i ≠ 8 → i ≠ 9 → r.2 0 i = G 0 i) ∧ ∀ q, q ≠ 0 → r.2 q = G q) := by
  subst hx1 hy
  have T0 := T
  obtain ⟨h4, ht, h5, h6, h7, h8⟩ := T
  obtain ⟨k1, k2, k3, k4⟩ := hk
  unfold p_X2_takes numT
  rw [h5]
  by_cases a1 : t.1 = 2
  · rw [if_pos (by rw [ck_n _ k3]; exact a1), if_pos a1, h8 a1]
    have e4 : ¬ t.1 = 4 := by omega
    have bad : Ok (p_X2_takes_b30 N G) (fun r => r.1 = 0 ∧ FC G r.2 3 t.2.1) := by
      unfold p_X2_takes_b30
      refine Ok.b (c_fails (k := 3) T0 ⟨k1, k2, k3, k4⟩ (by decide)) ?_
      rintro ⟨u, G3⟩ ⟨u1, u2⟩
      have u3 : u = 0 := u1
      subst u3
      rw [if_neg e4] at u2
      rw [jlt_eq, if_pos jz0]
      exact Ok.s ⟨rfl, u2⟩
    by_cases c1 : lo ≤ t.2.2.2
    · rw [if_neg (nI_nlt c1 (by omega))]
      by_cases c2 : t.2.2.2 < hx
      · rw [if_pos (by rw [hi_le (by omega) hh]; exact c2), if_pos ⟨c1, c2⟩, jlt_eq]
        refine Ok.b (c_next hN hlim htp (g := jup G 0 9 (nI t.2.2.2)) (k := t.2.2.1) k2 (by rw [jup_s, upd_n _ _ (by decide)]; exact h4) (by rw [jup_n _ _ (by decide)]; exact ht) (by rw [jup_s, upd_n _ _ (by decide)]; exact h7)) ?_
        rintro G10 ⟨r1, r2, r3⟩
        refine Ok.s ⟨rfl, r1, ?_, ?_, ?_⟩
        · exact (r2 9 (by decide) (by decide) (by decide) (by decide)).trans (by rw [jup_s, upd_s])
        · intro i a b c d e; exact (r2 i a b c d).trans (by rw [jup_s, upd_n _ _ e])
        · intro q hq; exact (r3 q hq).trans (jup_n _ _ hq)
      · rw [if_neg (by rw [hi_le (by omega) hh]; exact c2), if_neg (fun h => c2 h.2)]; exact bad
    · rw [if_pos (nI_lt (by omega) (by omega)), if_neg (fun h => c1 h.1)]; exact bad
  · rw [if_neg (by rw [ck_n _ k3]; exact a1), if_neg a1]
    refine Ok.b (c_fails (k := 2) T0 ⟨k1, k2, k3, k4⟩ (by decide)) ?_
    rintro ⟨u, G3⟩ ⟨u1, u2⟩
    have u3 : u = 0 := u1
    subst u3
    rw [jlt_eq, if_pos jz0]
    exact Ok.s ⟨rfl, u2⟩
/-- the reference after a fault -/
def FM (g r : Nat → Nat → Int32) (c p : Nat) : Prop := r 0 13 = nI c ∧ r 0 14 = nI p ∧ (∀ i, i ≠ 13 → i ≠ 14 → r 0 i = g 0 i) ∧ ∀ q, q ≠ 0 → r q = g q
theorem m_blames {k : Nat} {x : Int32} (T : TM G tp lim t) (hk : tkOk lim t) (h13 : G 0 13 = 0) (hx : x = nI k) : Ok (p_X6_blames N G J x) (fun r => FM G r (if t.1 = 4 then 1 else k) t.2.1) := by
  obtain ⟨h8, ht, h11, h10, h9, _⟩ := T
  obtain ⟨k1, k2, k3, _⟩ := hk
  subst hx
  have fin : ∀ c : Nat, Ok (p_X6_blames_b22 N J G (nI c)) (fun r => FM G r c t.2.1) := by
    intro c
    unfold p_X6_blames_b22
    have z : jup G 0 13 (nI c) 0 10 = nI t.2.1 := by rw [jup_s, upd_n _ _ (by decide)]; exact h10
    rw [jlt_eq, z, jlt_eq]
    refine Ok.s ⟨?_, ?_, ?_, ?_⟩
    · rw [jup_s, upd_n _ _ (by decide), jup_s, upd_s]
    · rw [jup_s, upd_s]
    · intro i h1 h2; rw [jup_s, upd_n _ _ h2, jup_s, upd_n _ _ h1]
    · intro q hq; exact (jup_n _ _ hq).trans (jup_n _ _ hq)
  have e4 : (4 : Int32) = nI 4 := by decide
  unfold p_X6_blames
  rw [if_pos h13, h11, e4]
  by_cases c : t.1 = 4
  · rw [if_pos (by rw [c]), if_pos c]; exact fin 1
  · rw [if_neg (fun h => c ((nI_eq (by omega) (by omega)).mp h)), if_neg c]; exact fin k
theorem m_blamesB {x : Int32} (h13 : ¬ G 0 13 = 0) : p_X6_blames N G J x = some G := by
  unfold p_X6_blames
  rw [if_neg h13]
theorem m_numberB {x y : Int32} (h13 : ¬ G 0 13 = 0) : p_X6_number N G J x y = some (x, G) := by
  have f : p_X6_number_b36 N J G x = some (x, G) := by
    unfold p_X6_number_b36 p_X6_number_b52
    rw [if_neg h13, if_neg h13]
  unfold p_X6_number
  by_cases c : G 0 11 = 2
  · rw [if_pos c, w_in, Option.bind_some]
    by_cases e : bI (decide (x.toInt64.toInt ≤ (G 0 12).toInt64.toInt ∧ (G 0 12).toInt64.toInt ≤ y.toInt64.toInt)) = 0
    · rw [if_pos e, m_blamesB h13, Option.bind_some, jlt_eq, if_neg h13, p_X6_number_b52, if_neg h13]
    · rw [if_neg e]; exact f
  · rw [if_neg c, m_blamesB h13, Option.bind_some, jlt_eq]; exact f
theorem m_number (hN : 2000 ≤ N) (hlim : lim ≤ 900) (htp : ∀ k, tp k < 256) {lo hx : Nat} {x y : Int32} (T : TM G tp lim t) (hk : tkOk lim t) (h13 : G 0 13 = 0) (hx1 : x = nI lo) (hy : y = nI hx - 1) (hl : lo < 100000) (hh : hx < 100000) : Ok (p_X6_number N G J x y) (fun r => match numT tp lim lo hx t with
    | .inl (c, p) => FM G r.2 c p
    | .inr (v, t2) => r.1 = nI v ∧ TM r.2 tp lim t2 ∧ r.2 0 13 = 0 ∧ KR G r.2) := by
  subst hx1 hy
  have T0 := T
  obtain ⟨h8, ht, h11, h10, h9, h12⟩ := T
  obtain ⟨k1, k2, k3, k4⟩ := hk
  have e2 : (2 : Int32) = nI 2 := by decide
  have ne : ∀ c p, 0 < c → c < 10 → ∀ r, FM G r c p → ¬ r 0 13 = 0 := by
    intro c p h1 h2 r hr e
    rw [hr.1] at e
    exact nI_ne0 h1 (by omega) e
  unfold p_X6_number numT
  rw [h11, e2]
  by_cases a1 : t.1 = 2
  · rw [if_pos (by rw [a1]), if_pos a1, h12 a1, w_in, Option.bind_some, w_n (by omega), w_n (by omega), w_hi (by omega)]
    have e4 : ¬ t.1 = 4 := by omega
    by_cases c : lo ≤ t.2.2.2 ∧ t.2.2.2 < hx
    · rw [decide_eq_true (by omega), bI_t, if_neg i10, if_pos c]
      unfold p_X6_number_b36
      rw [if_pos h13]
      refine Ok.b (m_reads hN hlim htp (g := G) (k := t.2.2.1) k2 h8 ht h9) ?_
      rintro G6 ⟨r1, r2⟩
      have z : G6 0 13 = 0 := (r2.1 13 (by decide) (by decide) (by decide) (by decide)).trans h13
      rw [jlt_eq, if_pos z, h12 a1]
      exact Ok.s ⟨rfl, r1, z, r2⟩
    · rw [decide_eq_false (by omega), bI_f, if_pos rfl, if_neg c]
      refine Ok.b (m_blames (k := 3) T0 ⟨k1, k2, k3, k4⟩ h13 (by decide)) ?_
      intro G12 hF
      rw [if_neg e4] at hF
      have hn := ne 3 _ (by decide) (by decide) G12 hF
      rw [jlt_eq, if_neg hn, p_X6_number_b52, if_neg hn]
      exact Ok.s hF
  · rw [if_neg (fun h => a1 ((nI_eq (by omega) (by omega)).mp h)), if_neg a1]
    refine Ok.b (m_blames (k := 2) T0 ⟨k1, k2, k3, k4⟩ h13 (by decide)) ?_
    intro G12 hF
    have hn : ¬ G12 0 13 = 0 := by
      by_cases c : t.1 = 4
      · rw [if_pos c] at hF; exact ne 1 _ (by decide) (by decide) G12 hF
      · rw [if_neg c] at hF; exact ne 2 _ (by decide) (by decide) G12 hF
    rw [jlt_eq, p_X6_number_b36, if_neg hn, p_X6_number_b52, if_neg hn]
    exact Ok.s hF
end takes

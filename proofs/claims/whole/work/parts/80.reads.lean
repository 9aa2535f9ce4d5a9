/-! the reference's reads -/
/-- the reference at a token: size, tape, token -/
def TM (G : Nat → Nat → Int32) (tp : Nat → Nat) (lim : Nat) (t : Nat × Nat × Nat × Nat) : Prop := G 0 8 = nI lim ∧ (∀ k, k < lim → G 6 k = nI (tp k)) ∧ G 0 11 = nI t.1 ∧ G 0 10 = nI t.2.1 ∧ G 0 9 = nI t.2.2.1 ∧ (t.1 = 2 → G 0 12 = nI t.2.2.2)
def KR (g r : Nat → Nat → Int32) : Prop := (∀ i, i ≠ 9 → i ≠ 10 → i ≠ 11 → i ≠ 12 → r 0 i = g 0 i) ∧ ∀ c, c ≠ 0 → r c = g c
section reads
variable {N : Nat} {G G2 : Nat → Nat → Int32} {J J2 : Nat → Nat → Int64} {tp : Nat → Nat} {lim : Nat}
theorem m_isL {t : Nat} (h : t < 256) : p_X6_isLetter N (nI t) = some (bI (ltr t)) := by
  unfold p_X6_isLetter
  have c := nb_l t h
  cases e : ltr t
  · rw [e] at c
    by_cases c1 : nI t < 97
    · rw [if_pos c1]; rfl
    · rw [if_neg c1]
      by_cases c2 : 122 < nI t
      · rw [if_pos c2]; rfl
      · exact absurd (c.mp ⟨c1, c2⟩) (by decide)
  · obtain ⟨c1, c2⟩ := c.mpr e
    rw [if_neg c1, if_neg c2]; rfl
theorem m_isD {t : Nat} (h : t < 256) : p_X6_isDigit N (nI t) = some (bI (dig t)) := by
  unfold p_X6_isDigit
  have c := nb_d t h
  cases e : dig t
  · rw [e] at c
    by_cases c1 : nI t < 48
    · rw [if_pos c1]; rfl
    · rw [if_neg c1]
      by_cases c2 : 57 < nI t
      · rw [if_pos c2]; rfl
      · exact absurd (c.mp ⟨c1, c2⟩) (by decide)
  · obtain ⟨c1, c2⟩ := c.mpr e
    rw [if_neg c1, if_neg c2]; rfl
theorem m_see (hlim : lim ≤ 900) {k : Nat} (hk : k ≤ lim) (h8 : G 0 8 = nI lim) (ht : ∀ k, k < lim → G 6 k = nI (tp k)) : p_X6_see N G J (nI k) = some (nI (if k < lim then tp k else 0)) := by
  unfold p_X6_see
  rw [h8]
  by_cases c : k < lim
  · rw [if_neg (nI_ge c (by omega)), if_pos (jinT (by omega) (by omega)), zcl (by omega), ht k c, if_pos c]
  · rw [if_pos (nI_le (by omega) (by omega)), if_neg c]; rfl
/-- letters -/
theorem m_word (hlim : lim ≤ 900) (htp : ∀ k, tp k < 256) {g : Nat → Nat → Int32} {P : (Nat → Nat → Int32) → Prop} : ∀ (m k n : Nat) (g1 : Nat → Nat → Int32), k + m = lim → m < n → g1 0 8 = nI lim → (∀ k, k < lim → g1 6 k = nI (tp k)) → g1 0 9 = nI k → (∀ i, i ≠ 9 → g1 0 i = g 0 i) → (∀ c, c ≠ 0 → g1 c = g c) → (∀ r : Nat → Nat → Int32, r 0 11 = 1 → r 0 9 = nI (rn (fun i => ltr (tp i)) m k) → (∀ i, i ≠ 9 → i ≠ 11 → r 0 i = g 0 i) → (∀ c, c ≠ 0 → r c = g c) → P r) → Ok (p_X6_reads_b94 N J n g1) P := by
  intro m
  induction m with
  | zero =>
    intro k n g1 hk hn h8 ht h9 hi hc hP
    obtain ⟨q, rfl⟩ : ∃ q, n = q + 1 := ⟨n - 1, by omega⟩
    rw [p_X6_reads_b94, h9, m_see hlim (by omega) h8 ht, Option.bind_some, if_neg (by omega), m_isL (by omega), Option.bind_some, if_pos (by decide), jlt_eq]
    refine Ok.s (hP _ (by rw [jup_s, upd_s]) (by rw [jup_s, upd_n _ _ (by decide)]; exact h9) (fun i h1 h2 => by rw [jup_s, upd_n _ _ h2]; exact hi i h1) (fun c h => (jup_n _ _ h).trans (hc c h)))
  | succ m ih =>
    intro k n g1 hk hn h8 ht h9 hi hc hP
    obtain ⟨q, rfl⟩ : ∃ q, n = q + 1 := ⟨n - 1, by omega⟩
    rw [p_X6_reads_b94, h9, m_see hlim (by omega) h8 ht, Option.bind_some, if_pos (by omega), m_isL (htp k), Option.bind_some]
    rw [rn] at hP
    cases e : ltr (tp k)
    · rw [e] at hP
      rw [bI_f, if_pos rfl, jlt_eq]
      refine Ok.s (hP _ (by rw [jup_s, upd_s]) (by rw [jup_s, upd_n _ _ (by decide)]; exact h9) (fun i h1 h2 => by rw [jup_s, upd_n _ _ h2]; exact hi i h1) (fun c h => (jup_n _ _ h).trans (hc c h)))
    · rw [e] at hP
      rw [bI_t, if_neg i10, jlt_eq, nI_1]
      exact ih (k + 1) q _ (by omega) (by omega) (by rw [jup_s, upd_n _ _ (by decide)]; exact h8) (by rw [jup_n _ _ (by decide)]; exact ht) (by rw [jup_s, upd_s]) (fun i h => by rw [jup_s, upd_n _ _ h]; exact hi i h) (fun c h => (jup_n _ _ h).trans (hc c h)) hP
/-- digits -/
theorem m_digs (hlim : lim ≤ 900) (htp : ∀ k, tp k < 256) {g : Nat → Nat → Int32} {b : Nat} {P : (Nat → Nat → Int32) → Prop} : ∀ (m k n : Nat) (g1 : Nat → Nat → Int32), b ≤ k → k + m = lim → m < n → g1 0 8 = nI lim → (∀ k, k < lim → g1 6 k = nI (tp k)) → g1 0 9 = nI k → g1 0 10 = nI b → g1 0 12 = nI (dval tp b (min (k - b) 4)) → (∀ i, i ≠ 9 → i ≠ 12 → g1 0 i = g 0 i) → (∀ c, c ≠ 0 → g1 c = g c) → (∀ r : Nat → Nat → Int32, r 0 11 = nI (if rn (fun i => dig (tp i)) m k - b ≤ 4 then 2 else 4) → r 0 9 = nI (rn (fun i => dig (tp i)) m k) → r 0 12 = nI (dval tp b (min (rn (fun i => dig (tp i)) m k - b) 4)) → (∀ i, i ≠ 9 → i ≠ 11 → i ≠ 12 → r 0 i = g 0 i) → (∀ c, c ≠ 0 → r c = g c) → P r) → Ok (p_X6_reads_b141 N J n g1) P := by
  have e4 : (4 : Int32) = nI 4 := by decide
  have e10 : (10 : Int32) = nI 10 := by decide
  have e48 : (48 : Int32) = nI 48 := by decide
  intro m
  induction m with
  | zero =>
    intro k n g1 hbk hk hn h8 ht h9 h10 h12 hi hc hP
    obtain ⟨q, rfl⟩ : ∃ q, n = q + 1 := ⟨n - 1, by omega⟩
    rw [p_X6_reads_b141, h9, m_see hlim (by omega) h8 ht, Option.bind_some, if_neg (by omega), m_isD (by omega), Option.bind_some, if_pos (by decide), h10, pk_sub hbk, e4]
    rw [rn] at hP
    by_cases c : k - b ≤ 4
    · rw [if_pos c] at hP
      rw [if_pos (nI_le c (by omega)), jlt_eq]
      exact Ok.s (hP _ (by rw [jup_s, upd_s]; rfl) (by rw [jup_s, upd_n _ _ (by decide)]; exact h9) (by rw [jup_s, upd_n _ _ (by decide)]; exact h12) (fun i h1 h2 h3 => by rw [jup_s, upd_n _ _ h2]; exact hi i h1 h3) (fun c h => (jup_n _ _ h).trans (hc c h)))
    · rw [if_neg c] at hP
      rw [if_neg (nI_ge (by omega) (by omega)), jlt_eq]
      exact Ok.s (hP _ (by rw [jup_s, upd_s]) (by rw [jup_s, upd_n _ _ (by decide)]; exact h9) (by rw [jup_s, upd_n _ _ (by decide)]; exact h12) (fun i h1 h2 h3 => by rw [jup_s, upd_n _ _ h2]; exact hi i h1 h3) (fun c h => (jup_n _ _ h).trans (hc c h)))
  | succ m ih =>
    intro k n g1 hbk hk hn h8 ht h9 h10 h12 hi hc hP
    obtain ⟨q, rfl⟩ : ∃ q, n = q + 1 := ⟨n - 1, by omega⟩
    rw [p_X6_reads_b141, h9, m_see hlim (by omega) h8 ht, Option.bind_some, if_pos (by omega), m_isD (htp k), Option.bind_some, h10, pk_sub hbk, e4]
    rw [rn] at hP
    cases e : dig (tp k)
    · rw [e] at hP
      rw [bI_f, if_pos rfl]
      rw [if_neg (by decide : ¬ false = true)] at hP
      by_cases c : k - b ≤ 4
      · rw [if_pos c] at hP
        rw [if_pos (nI_le c (by omega)), jlt_eq]
        exact Ok.s (hP _ (by rw [jup_s, upd_s]; rfl) (by rw [jup_s, upd_n _ _ (by decide)]; exact h9) (by rw [jup_s, upd_n _ _ (by decide)]; exact h12) (fun i h1 h2 h3 => by rw [jup_s, upd_n _ _ h2]; exact hi i h1 h3) (fun c h => (jup_n _ _ h).trans (hc c h)))
      · rw [if_neg c] at hP
        rw [if_neg (nI_ge (by omega) (by omega)), jlt_eq]
        exact Ok.s (hP _ (by rw [jup_s, upd_s]) (by rw [jup_s, upd_n _ _ (by decide)]; exact h9) (by rw [jup_s, upd_n _ _ (by decide)]; exact h12) (fun i h1 h2 h3 => by rw [jup_s, upd_n _ _ h2]; exact hi i h1 h3) (fun c h => (jup_n _ _ h).trans (hc c h)))
    · rw [e] at hP
      rw [if_pos (rfl : true = true)] at hP
      have h48 := dig_59 _ (htp k) e
      rw [bI_t, if_neg i10, h12]
      have go : ∀ v : Int32, v = nI (dval tp b (min (k + 1 - b) 4)) → Ok (p_X6_reads_b196 N J (p_X6_reads_b141 N J q) g1 v) P := by
        intro v hv
        subst hv
        unfold p_X6_reads_b196
        have z9 : jup g1 0 12 (nI (dval tp b (min (k + 1 - b) 4))) 0 9 = nI k := by rw [jup_s, upd_n _ _ (by decide)]; exact h9
        rw [jlt_eq, jlt_eq, z9, nI_1]
        refine ih (k + 1) q _ (by omega) (by omega) (by omega) ?_ ?_ ?_ ?_ ?_ ?_ ?_ hP
        · rw [jup_s, upd_n _ _ (by decide), jup_s, upd_n _ _ (by decide)]; exact h8
        · rw [jup_n _ _ (by decide), jup_n _ _ (by decide)]; exact ht
        · rw [jup_s, upd_s]
        · rw [jup_s, upd_n _ _ (by decide), jup_s, upd_n _ _ (by decide)]; exact h10
        · rw [jup_s, upd_n _ _ (by decide), jup_s, upd_s]
        · intro i h1 h2; rw [jup_s, upd_n _ _ h1, jup_s, upd_n _ _ h2]; exact hi i h1 h2
        · intro c h; exact ((jup_n _ _ h).trans (jup_n _ _ h)).trans (hc c h)
      by_cases c : 4 ≤ k - b
      · rw [if_pos (nI_le c (by omega))]
        exact go _ (by rw [show min (k - b) 4 = 4 by omega, show min (k + 1 - b) 4 = 4 by omega])
      · rw [if_neg (nI_ge (by omega) (by omega)), if_pos (jinT (by omega) (by omega)), zcl (by omega), ht k (by omega), e10, e48, pk_mul, nI_add, pk_sub (by omega)]
        refine go _ ?_
        rw [show min (k - b) 4 = k - b by omega, show min (k + 1 - b) 4 = (k - b) + 1 by omega, dval, show b + (k - b) = k by omega]
        congr 1; omega
theorem m_reads52 (hN : 2000 ≤ N) (hlim : lim ≤ 900) (htp : ∀ k, tp k < 256) {g : Nat → Nat → Int32} {b k : Nat} (hb : b = rn (fun i => spc (tp i)) (lim - k) k) (hbl : b ≤ lim) (h8 : g 0 8 = nI lim) (ht : ∀ k, k < lim → g 6 k = nI (tp k)) (h9 : g 0 9 = nI b) : Ok (p_X6_reads_b52 N J g) (fun r => TM r tp lim (tok tp lim k) ∧ KR g r) := by
  unfold p_X6_reads_b52
  have q8 : jup g 0 10 (g 0 9) 0 8 = nI lim := by rw [jup_s, upd_n _ _ (by decide)]; exact h8
  have q9 : jup g 0 10 (g 0 9) 0 9 = nI b := by rw [jup_s, upd_n _ _ (by decide)]; exact h9
  have q10 : jup g 0 10 (g 0 9) 0 10 = nI b := by rw [jup_s, upd_s]; exact h9
  have qt : ∀ k, k < lim → jup g 0 10 (g 0 9) 6 k = nI (tp k) := by rw [jup_n _ _ (by decide)]; exact ht
  have qk : KR g (jup g 0 10 (g 0 9)) := ⟨fun i _ h10 _ _ => by rw [jup_s, upd_n _ _ h10], fun c hc => jup_n _ _ hc⟩
  rw [jlt_eq]
  generalize jup g 0 10 (g 0 9) = G1 at q8 q9 q10 qt qk ⊢
  rw [q9, q8]
  unfold tok
  dsimp only
  rw [← hb]
  by_cases hend : lim ≤ b
  · rw [if_pos hend, if_neg (nI_nlt hend (by omega)), jlt_eq]
    refine Ok.s ⟨⟨?_, ?_, ?_, ?_, ?_, fun h => absurd (show 0 = 2 from h) (by decide)⟩, ?_⟩
    · rw [jup_s, upd_n _ _ (by decide)]; exact q8
    · rw [jup_n _ _ (by decide)]; exact qt
    · rw [jup_s, upd_s]; rfl
    · rw [jup_s, upd_n _ _ (by decide)]; exact q10
    · rw [jup_s, upd_n _ _ (by decide)]; exact q9
    · exact ⟨fun i a1 a2 a3 a4 => (by rw [jup_s, upd_n _ _ a3] : _ = G1 0 i).trans (qk.1 i a1 a2 a3 a4), fun c hc => (jup_n _ _ hc).trans (qk.2 c hc)⟩
  · rw [if_neg hend, if_pos (nI_lt (by omega) (by omega)), if_pos (jinT (by omega) (by omega)), zcl (by omega), qt b (by omega), m_isL (htp b), Option.bind_some]
    cases hl : ltr (tp b)
    · rw [bI_f, if_pos rfl, if_neg (by decide : ¬ false = true), m_isD (htp b), Option.bind_some]
      cases hd : dig (tp b)
      · rw [bI_f, if_pos rfl, if_neg (by decide : ¬ false = true)]
        have fin : ∀ (c : Int32) (kd : Nat), c = nI kd → kd ≠ 2 → Ok (p_X6_reads_b249 N J G1 c) (fun r => TM r tp lim (kd, b, b + 1, 0) ∧ KR g r) := by
          intro c kd hc hk
          unfold p_X6_reads_b249
          have z9 : jup G1 0 11 c 0 9 = nI b := by rw [jup_s, upd_n _ _ (by decide)]; exact q9
          rw [jlt_eq, jlt_eq, z9, nI_1]
          refine Ok.s ⟨⟨?_, ?_, ?_, ?_, ?_, fun h => absurd h hk⟩, ?_⟩
          · rw [jup_s, upd_n _ _ (by decide), jup_s, upd_n _ _ (by decide)]; exact q8
          · rw [jup_n _ _ (by decide), jup_n _ _ (by decide)]; exact qt
          · rw [jup_s, upd_n _ _ (by decide), jup_s, upd_s]; exact hc
          · rw [jup_s, upd_n _ _ (by decide), jup_s, upd_n _ _ (by decide)]; exact q10
          · rw [jup_s, upd_s]
          · exact ⟨fun i a1 a2 a3 a4 => (by rw [jup_s, upd_n _ _ a1, jup_s, upd_n _ _ a3] : _ = G1 0 i).trans (qk.1 i a1 a2 a3 a4), fun c hc => ((jup_n _ _ hc).trans (jup_n _ _ hc)).trans (qk.2 c hc)⟩
        have e59 : (59 : Int32) = nI 59 := by decide
        have t256 := htp b
        by_cases h59 : tp b = 59
        · rw [if_pos (by rw [h59]; decide), if_pos h59]; exact fin 3 3 (by decide) (by decide)
        · rw [if_neg (fun e => h59 (by rw [e59] at e; exact (nI_eq (by omega) (by omega)).mp e)), if_neg h59]; exact fin 4 4 (by decide) (by decide)
      · rw [bI_t, if_neg i10, if_pos (rfl : true = true), jlt_eq]
        refine m_digs hlim htp (g := G1) (b := b) (lim - b) b N _ (Nat.le_refl _) (by omega) (by omega) ?_ ?_ ?_ ?_ ?_ ?_ ?_ ?_
        · rw [jup_s, upd_n _ _ (by decide)]; exact q8
        · rw [jup_n _ _ (by decide)]; exact qt
        · rw [jup_s, upd_n _ _ (by decide)]; exact q9
        · rw [jup_s, upd_n _ _ (by decide)]; exact q10
        · rw [jup_s, upd_s, Nat.sub_self]; rfl
        · intro i _ h12; rw [jup_s, upd_n _ _ h12]
        · intro c h; exact jup_n _ _ h
        · intro r r11 r9 r12 ri rc
          refine ⟨⟨?_, ?_, r11, ?_, r9, fun _ => r12⟩, ?_⟩
          · rw [ri 8 (by decide) (by decide) (by decide)]; exact q8
          · rw [rc 6 (by decide)]; exact qt
          · rw [ri 10 (by decide) (by decide) (by decide)]; exact q10
          · exact ⟨fun i a1 a2 a3 a4 => (ri i a1 a3 a4).trans (qk.1 i a1 a2 a3 a4), fun c hc => (rc c hc).trans (qk.2 c hc)⟩
    · rw [bI_t, if_neg i10, if_pos (rfl : true = true)]
      refine m_word hlim htp (g := G1) (lim - b) b N G1 (by omega) (by omega) q8 qt q9 (fun _ _ => rfl) (fun _ _ => rfl) ?_
      intro r r11 r9 ri rc
      refine ⟨⟨?_, ?_, ?_, ?_, r9, fun h => absurd (show 1 = 2 from h) (by decide)⟩, ?_⟩
      · rw [ri 8 (by decide) (by decide)]; exact q8
      · rw [rc 6 (by decide)]; exact qt
      · rw [r11]; rfl
      · rw [ri 10 (by decide) (by decide)]; exact q10
      · exact ⟨fun i a1 a2 a3 a4 => (ri i a1 a3).trans (qk.1 i a1 a2 a3 a4), fun c hc => (rc c hc).trans (qk.2 c hc)⟩
theorem m_reads (hN : 2000 ≤ N) (hlim : lim ≤ 900) (htp : ∀ k, tp k < 256) {g : Nat → Nat → Int32} {k : Nat} (hk : k ≤ lim) (h8 : g 0 8 = nI lim) (ht : ∀ k, k < lim → g 6 k = nI (tp k)) (h9 : g 0 9 = nI k) : Ok (p_X6_reads N g J) (fun r => TM r tp lim (tok tp lim k) ∧ KR g r) := by
  have e32 : (32 : Int32) = nI 32 := by decide
  have e10 : (10 : Int32) = nI 10 := by decide
  have key : ∀ (m j n : Nat) (g1 : Nat → Nat → Int32), j + m = lim → m < n → rn (fun i => spc (tp i)) m j = rn (fun i => spc (tp i)) (lim - k) k → g1 0 9 = nI j → (∀ i, i ≠ 9 → g1 0 i = g 0 i) → (∀ c, c ≠ 0 → g1 c = g c) → Ok (p_X6_reads_b0 N J n g1) (fun r => TM r tp lim (tok tp lim k) ∧ KR g r) := by
    intro m
    induction m with
    | zero =>
      intro j n g1 hj hn hr h9 hi hc
      obtain ⟨q, rfl⟩ : ∃ q, n = q + 1 := ⟨n - 1, by omega⟩
      have a8 : g1 0 8 = nI lim := (hi 8 (by decide)).trans h8
      have at1 : ∀ k, k < lim → g1 6 k = nI (tp k) := by rw [hc 6 (by decide)]; exact ht
      rw [p_X6_reads_b0, a8, h9, if_pos (nI_le (by omega) (by omega))]
      refine (m_reads52 hN hlim htp (b := j) hr (by omega) a8 at1 h9).c ?_
      rintro r ⟨r1, r2, r3⟩
      exact ⟨r1, fun i a1 a2 a3 a4 => (r2 i a1 a2 a3 a4).trans (hi i a1), fun c h => (r3 c h).trans (hc c h)⟩
    | succ m ih =>
      intro j n g1 hj hn hr h9 hi hc
      obtain ⟨q, rfl⟩ : ∃ q, n = q + 1 := ⟨n - 1, by omega⟩
      have a8 : g1 0 8 = nI lim := (hi 8 (by decide)).trans h8
      have at1 : ∀ k, k < lim → g1 6 k = nI (tp k) := by rw [hc 6 (by decide)]; exact ht
      rw [p_X6_reads_b0, a8, h9, if_neg (nI_ge (by omega) (by omega)), if_pos (jinT (by omega) (by omega)), if_pos (jinT (by omega) (by omega)), zcl (by omega), at1 j (by omega)]
      have t256 := htp j
      have go : spc (tp j) = true → Ok (p_X6_reads_b39 N J (p_X6_reads_b0 N J q) g1) (fun r => TM r tp lim (tok tp lim k) ∧ KR g r) := by
        intro hs
        unfold p_X6_reads_b39
        rw [jlt_eq, h9, nI_1]
        rw [rn, if_pos hs] at hr
        exact ih (j + 1) q _ (by omega) (by omega) hr (by rw [jup_s, upd_s]) (fun i h => by rw [jup_s, upd_n _ _ h]; exact hi i h) (fun c h => (jup_n _ _ h).trans (hc c h))
      by_cases c2 : tp j = 32
      · rw [if_pos (by rw [c2]; decide)]; exact go (by unfold spc; rw [decide_eq_true (Or.inr c2)])
      · rw [if_neg (fun e => c2 (by rw [e32] at e; exact (nI_eq (by omega) (by omega)).mp e))]
        by_cases c1 : tp j = 10
        · rw [if_pos (by rw [c1]; decide)]; exact go (by unfold spc; rw [decide_eq_true (Or.inl c1)])
        · rw [if_neg (fun e => c1 (by rw [e10] at e; exact (nI_eq (by omega) (by omega)).mp e))]
          have hs : spc (tp j) = false := by unfold spc; exact decide_eq_false (fun h => h.elim c1 c2)
          rw [rn_0 (p := fun i => spc (tp i)) (k := j) hs] at hr
          refine (m_reads52 hN hlim htp (b := j) hr (by omega) a8 at1 h9).c ?_
          rintro r ⟨r1, r2, r3⟩
          exact ⟨r1, fun i a1 a2 a3 a4 => (r2 i a1 a2 a3 a4).trans (hi i a1), fun c h => (r3 c h).trans (hc c h)⟩
  unfold p_X6_reads
  exact key (lim - k) k N g (by omega) (by omega) rfl h9 (fun _ _ => rfl) (fun _ _ => rfl)
end reads

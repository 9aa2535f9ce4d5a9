/-! the next token, in the class and in the reference -/
section next
variable {N : Nat} {G G2 : Nat → Nat → Int32} {J J2 : Nat → Nat → Int64} {tp : Nat → Nat} {lim : Nat}
theorem sc_l : ∀ t, t < 256 → (¬ sb t < 97 ∧ ¬ 122 < sb t ↔ ltr t = true) := by decide +kernel
theorem sc_d : ∀ t, t < 256 → (¬ sb t < 48 ∧ ¬ 57 < sb t ↔ dig t = true) := by decide +kernel
theorem dig_ltr : ∀ t, t < 256 → dig t = true → ltr t = false := by decide +kernel
theorem dig_59 : ∀ t, t < 256 → dig t = true → 48 ≤ t ∧ t ≤ 57 := by decide +kernel
theorem run_hp {p : Nat → Bool} {lo hi : Int32} (h : ∀ k, k < lim → (¬ sb (tp k) < lo ∧ ¬ hi < sb (tp k) ↔ p k = true)) : (∀ k, k < lim → ((sb (tp k) < lo) = False ∧ (hi < sb (tp k)) = False) ∨ ((sb (tp k) < lo ∨ hi < sb (tp k)) ∧ p k = false)) ∧ (∀ k, k < lim → (sb (tp k) < lo) = False → (hi < sb (tp k)) = False → p k = true) := by
  refine ⟨fun k hk => ?_, fun k hk h1 h2 => (h k hk).mp ⟨by rw [h1]; exact id, by rw [h2]; exact id⟩⟩
  by_cases c1 : sb (tp k) < lo
  · refine Or.inr ⟨Or.inl c1, ?_⟩
    cases e : p k
    · rfl
    · exact absurd c1 ((h k hk).mpr e).1
  · by_cases c2 : hi < sb (tp k)
    · refine Or.inr ⟨Or.inr c2, ?_⟩
      cases e : p k
      · rfl
      · exact absurd c2 ((h k hk).mpr e).2
    · exact Or.inl ⟨eq_false c1, eq_false c2⟩
theorem c_val (hN : 2000 ≤ N) {b e : Nat} (he : e ≤ 900) (hbe : b ≤ e) (htp : ∀ k, tp k < 256) (h6 : G 0 6 = nI b) (h7 : G 0 7 = nI e) (ht : ∀ k, k < e → G 1 k = sb (tp k)) (hd : ∀ k, b ≤ k → k < e → dig (tp k) = true) : p_X2_valueOfRun N G = some (nI (dval tp b (min (e - b) 4))) := by
  have e4 : (4 : Int32) = nI 4 := by decide
  have e10 : (10 : Int32) = nI 10 := by decide
  have e48 : (48 : Int32) = nI 48 := by decide
  have key : ∀ (m j n : Nat), j + m = min (e - b) 4 → m < n → p_X2_valueOfRun_b7 N G n (nI (dval tp b j)) (nI (b + j)) = some (nI (dval tp b (min (e - b) 4))) := by
    intro m
    induction m with
    | zero =>
      intro j n hj hn
      obtain ⟨q, rfl⟩ : ∃ q, n = q + 1 := ⟨n - 1, by omega⟩
      have ej : j = min (e - b) 4 := by omega
      rw [p_X2_valueOfRun_b7, h7, h6, e4, nI_add]
      by_cases c : e ≤ b + j
      · rw [if_pos (nI_le c (by omega)), ej]
      · rw [if_neg (nI_ge (by omega) (by omega)), if_pos (nI_le (by omega) (by omega)), ej]
    | succ m ih =>
      intro j n hj hn
      obtain ⟨q, rfl⟩ : ∃ q, n = q + 1 := ⟨n - 1, by omega⟩
      have hdg := hd (b + j) (by omega) (by omega)
      have h48 := dig_59 _ (htp (b + j)) hdg
      rw [p_X2_valueOfRun_b7, h7, h6, e4, nI_add, if_neg (nI_ge (by omega) (by omega)), if_neg (nI_ge (by omega) (by omega)), if_pos (jinT (by omega) (by omega)), zcl (by omega), ht _ (by omega), sb_dv _ (htp (b + j)) hdg, e10, e48, pk_mul, nI_add, pk_sub (by omega), nI_1]
      have ev : dval tp b j * 10 + tp (b + j) - 48 = dval tp b (j + 1) := by
        rw [dval]; omega
      rw [ev]
      exact ih (j + 1) q (by omega) (by omega)
  unfold p_X2_valueOfRun
  rw [h6]
  exact key (min (e - b) 4) 0 N (by omega) (by omega)
/-- what next leaves as it is -/
def KN (g r : Nat → Nat → Int32) : Prop := (∀ i, i ≠ 5 → i ≠ 6 → i ≠ 7 → i ≠ 8 → r 0 i = g 0 i) ∧ ∀ c, c ≠ 0 → r c = g c
theorem c_next60 (hN : 2000 ≤ N) (hlim : lim ≤ 900) (htp : ∀ k, tp k < 256) {g : Nat → Nat → Int32} {b k : Nat} (hb : b = rn (fun i => spc (tp i)) (lim - k) k) (hbl : b ≤ lim) (h4 : g 0 4 = nI lim) (ht : ∀ k, k < lim → g 1 k = sb (tp k)) (h6 : g 0 6 = nI b) : Ok (p_X2_next_b60 N g) (fun r => TC r tp lim (tok tp lim k) ∧ KN g r) := by
  have L := run_hp (tp := tp) (lim := lim) (p := fun i => ltr (tp i)) (lo := 97) (hi := 122) (fun k hk => sc_l _ (htp k))
  have D := run_hp (tp := tp) (lim := lim) (p := fun i => dig (tp i)) (lo := 48) (hi := 57) (fun k hk => sc_d _ (htp k))
  unfold p_X2_next_b60
  have q6 : jup g 0 7 (g 0 6) 0 6 = nI b := by rw [jup_s, upd_n _ _ (by decide)]; exact h6
  have q4 : jup g 0 7 (g 0 6) 0 4 = nI lim := by rw [jup_s, upd_n _ _ (by decide)]; exact h4
  have q7 : jup g 0 7 (g 0 6) 0 7 = nI b := by rw [jup_s, upd_s]; exact h6
  have qt : ∀ k, k < lim → jup g 0 7 (g 0 6) 1 k = sb (tp k) := by rw [jup_n _ _ (by decide)]; exact ht
  have qk : KN g (jup g 0 7 (g 0 6)) := ⟨fun i _ _ h7 _ => by rw [jup_s, upd_n _ _ h7], fun c hc => jup_n _ _ hc⟩
  rw [jlt_eq]
  generalize jup g 0 7 (g 0 6) = G3 at q6 q4 q7 qt qk ⊢
  rw [q6, q4]
  unfold tok
  dsimp only
  rw [← hb]
  by_cases hend : lim ≤ b
  · rw [if_pos hend, if_neg (nI_nlt hend (by omega)), jlt_eq]
    refine Ok.s ⟨⟨?_, ?_, ?_, ?_, ?_, fun h => absurd (show 0 = 2 from h) (by decide)⟩, ?_⟩
    · rw [jup_s, upd_n _ _ (by decide)]; exact q4
    · rw [jup_n _ _ (by decide)]; exact qt
    · rw [jup_s, upd_s]; rfl
    · rw [jup_s, upd_n _ _ (by decide)]; exact q6
    · rw [jup_s, upd_n _ _ (by decide)]; exact q7
    · exact ⟨fun i h5 h6 h7 h8 => (by rw [jup_s, upd_n _ _ h5] : _ = G3 0 i).trans (qk.1 i h5 h6 h7 h8), fun c hc => (jup_n _ _ hc).trans (qk.2 c hc)⟩
  · rw [if_neg hend, if_pos (nI_lt (by omega) (by omega))]
    unfold p_X2_takeRun
    refine Ok.b (c_run hlim L.1 L.2 (lim - b) b N G3 (by omega) (by omega) q4 qt q7) ?_
    rintro ⟨v, G7⟩ ⟨v1, v2, v3, v4⟩
    dsimp only at v1 v2 v3 v4 ⊢
    rw [q6] at v1
    have hle := rn_le (fun i => ltr (tp i)) (lim - b) b
    have k7 : KN g G7 := ⟨fun i h5 h6 h7 h8 => (v3 i h7).trans (qk.1 i h5 h6 h7 h8), fun c hc => (v4 c hc).trans (qk.2 c hc)⟩
    rw [jlt_eq]
    cases hl : ltr (tp b)
    · have er : rn (fun i => ltr (tp i)) (lim - b) b = b := rn_0 hl
      rw [er] at v1 v2
      rw [if_pos (nI_le (Nat.le_refl _) (by omega))] at v1
      rw [v1, if_pos rfl, if_neg (by decide : ¬ false = true)]
      have w4 : G7 0 4 = nI lim := (v3 4 (by decide)).trans q4
      have w6 : G7 0 6 = nI b := (v3 6 (by decide)).trans q6
      have wt : ∀ k, k < lim → G7 1 k = sb (tp k) := by rw [v4 1 (by decide)]; exact qt
      refine Ok.b (c_run hlim D.1 D.2 (lim - b) b N G7 (by omega) (by omega) w4 wt v2) ?_
      rintro ⟨u, G11⟩ ⟨u1, u2, u3, u4⟩
      dsimp only at u1 u2 u3 u4 ⊢
      rw [w6] at u1
      have hle2 := rn_le (fun i => dig (tp i)) (lim - b) b
      have k11 : KN g G11 := ⟨fun i h5 h6 h7 h8 => (u3 i h7).trans (k7.1 i h5 h6 h7 h8), fun c hc => (u4 c hc).trans (k7.2 c hc)⟩
      have x4 : G11 0 4 = nI lim := (u3 4 (by decide)).trans w4
      have x6 : G11 0 6 = nI b := (u3 6 (by decide)).trans w6
      have xt : ∀ k, k < lim → G11 1 k = sb (tp k) := by rw [u4 1 (by decide)]; exact wt
      rw [jlt_eq]
      cases hd : dig (tp b)
      · have er2 : rn (fun i => dig (tp i)) (lim - b) b = b := rn_0 hd
        rw [er2] at u1 u2
        rw [if_pos (nI_le (Nat.le_refl _) (by omega))] at u1
        rw [u1, if_pos rfl, if_neg (by decide : ¬ false = true), x6, if_pos (jinT (by omega) (by omega)), zcl (by omega), xt b (by omega)]
        have fin : ∀ (c : Int32) (kd : Nat), c = ck kd → kd ≠ 2 → Ok (p_X2_next_b170 N G11 c) (fun r => TC r tp lim (kd, b, b + 1, 0) ∧ KN g r) := by
          intro c kd hc hk
          unfold p_X2_next_b170
          rw [jlt_eq, jlt_eq]
          have z6 : jup G11 0 5 c 0 6 = nI b := by rw [jup_s, upd_n _ _ (by decide)]; exact x6
          rw [z6, nI_1]
          refine Ok.s ⟨⟨?_, ?_, ?_, ?_, ?_, fun h => absurd h hk⟩, ?_⟩
          · rw [jup_s, upd_n _ _ (by decide), jup_s, upd_n _ _ (by decide)]; exact x4
          · rw [jup_n _ _ (by decide), jup_n _ _ (by decide)]; exact xt
          · rw [jup_s, upd_n _ _ (by decide), jup_s, upd_s]; exact hc
          · rw [jup_s, upd_n _ _ (by decide)]; exact z6
          · rw [jup_s, upd_s]
          · exact ⟨fun i h5 h6 h7 h8 => (by rw [jup_s, upd_n _ _ h7, jup_s, upd_n _ _ h5] : _ = G11 0 i).trans (k11.1 i h5 h6 h7 h8), fun c hc => ((jup_n _ _ hc).trans (jup_n _ _ hc)).trans (k11.2 c hc)⟩
        by_cases h59 : tp b = 59
        · rw [if_pos ((sb_59 _ (htp b)).mpr h59), if_pos h59]; exact fin 4 3 rfl (by decide)
        · rw [if_neg (fun e => h59 ((sb_59 _ (htp b)).mp e)), if_neg h59]; exact fin 0 4 rfl (by decide)
      · have hgt : b < rn (fun i => dig (tp i)) (lim - b) b := rn_pos hd (by omega)
        rw [if_neg (nI_ge hgt (by omega))] at u1
        rw [u1, if_neg i10, if_pos (rfl : true = true), u2, x6, pk_sub (by omega)]
        have e4 : (4 : Int32) = nI 4 := by decide
        have hdg : ∀ k, b ≤ k → k < rn (fun i => dig (tp i)) (lim - b) b → dig (tp k) = true := fun k h1 h2 => rn_in (fun i => dig (tp i)) (lim - b) b k h1 h2
        have fin : ∀ (c : Int32) (kd : Nat), c = ck kd → Ok (p_X2_next_b136 N G11 c) (fun r => TC r tp lim (kd, b, rn (fun i => dig (tp i)) (lim - b) b, dval tp b (min (rn (fun i => dig (tp i)) (lim - b) b - b) 4)) ∧ KN g r) := by
          intro c kd hc
          unfold p_X2_next_b136
          rw [jlt_eq]
          have z6 : jup G11 0 5 c 0 6 = nI b := by rw [jup_s, upd_n _ _ (by decide)]; exact x6
          have z7 : jup G11 0 5 c 0 7 = nI (rn (fun i => dig (tp i)) (lim - b) b) := by rw [jup_s, upd_n _ _ (by decide)]; exact u2
          have zt : ∀ k, k < rn (fun i => dig (tp i)) (lim - b) b → jup G11 0 5 c 1 k = sb (tp k) := fun k hk => by rw [jup_n _ _ (by decide)]; exact xt k (by omega)
          rw [c_val hN (by omega) (by omega) htp z6 z7 zt hdg, Option.bind_some, jlt_eq]
          refine Ok.s ⟨⟨?_, ?_, ?_, ?_, ?_, fun _ => ?_⟩, ?_⟩
          · rw [jup_s, upd_n _ _ (by decide), jup_s, upd_n _ _ (by decide)]; exact x4
          · rw [jup_n _ _ (by decide), jup_n _ _ (by decide)]; exact xt
          · rw [jup_s, upd_n _ _ (by decide), jup_s, upd_s]; exact hc
          · rw [jup_s, upd_n _ _ (by decide)]; exact z6
          · rw [jup_s, upd_n _ _ (by decide)]; exact z7
          · rw [jup_s, upd_s]
          · exact ⟨fun i h5 h6 h7 h8 => (by rw [jup_s, upd_n _ _ h8, jup_s, upd_n _ _ h5] : _ = G11 0 i).trans (k11.1 i h5 h6 h7 h8), fun c hc => ((jup_n _ _ hc).trans (jup_n _ _ hc)).trans (k11.2 c hc)⟩
        by_cases hlen : rn (fun i => dig (tp i)) (lim - b) b - b ≤ 4
        · rw [if_pos hlen, if_pos (by rw [e4]; exact nI_le hlen (by omega))]; exact fin 3 2 rfl
        · rw [if_neg hlen, if_neg (by rw [e4]; exact nI_ge (by omega) (by omega))]; exact fin 0 4 rfl
    · have hgt : b < rn (fun i => ltr (tp i)) (lim - b) b := rn_pos hl (by omega)
      rw [if_neg (nI_ge hgt (by omega))] at v1
      rw [v1, if_neg i10, if_pos (rfl : true = true), jlt_eq]
      refine Ok.s ⟨⟨?_, ?_, ?_, ?_, ?_, fun h => absurd (show 1 = 2 from h) (by decide)⟩, ?_⟩
      · rw [jup_s, upd_n _ _ (by decide), v3 4 (by decide)]; exact q4
      · rw [jup_n _ _ (by decide), v4 1 (by decide)]; exact qt
      · rw [jup_s, upd_s]; rfl
      · rw [jup_s, upd_n _ _ (by decide), v3 6 (by decide)]; exact q6
      · rw [jup_s, upd_n _ _ (by decide)]; exact v2
      · exact ⟨fun i h5 h6 h7 h8 => (by rw [jup_s, upd_n _ _ h5] : _ = G7 0 i).trans (k7.1 i h5 h6 h7 h8), fun c hc => (jup_n _ _ hc).trans (k7.2 c hc)⟩
theorem c_next (hN : 2000 ≤ N) (hlim : lim ≤ 900) (htp : ∀ k, tp k < 256) {g : Nat → Nat → Int32} {k : Nat} (hk : k ≤ lim) (h4 : g 0 4 = nI lim) (ht : ∀ k, k < lim → g 1 k = sb (tp k)) (h7 : g 0 7 = nI k) : Ok (p_X2_next N g) (fun r => TC r tp lim (tok tp lim k) ∧ KN g r) := by
  have key : ∀ (m j n : Nat) (g1 : Nat → Nat → Int32), j + m = lim → m < n → rn (fun i => spc (tp i)) m j = rn (fun i => spc (tp i)) (lim - k) k → g1 0 6 = nI j → (∀ i, i ≠ 6 → g1 0 i = g 0 i) → (∀ c, c ≠ 0 → g1 c = g c) → Ok (p_X2_next_b8 N n g1) (fun r => TC r tp lim (tok tp lim k) ∧ KN g r) := by
    intro m
    induction m with
    | zero =>
      intro j n g1 hj hn hr h6 hi hc
      obtain ⟨q, rfl⟩ : ∃ q, n = q + 1 := ⟨n - 1, by omega⟩
      have a4 : g1 0 4 = nI lim := (hi 4 (by decide)).trans h4
      have at1 : ∀ k, k < lim → g1 1 k = sb (tp k) := by rw [hc 1 (by decide)]; exact ht
      rw [p_X2_next_b8, a4, h6, if_pos (nI_le (by omega) (by omega))]
      refine (c_next60 hN hlim htp (b := j) hr (by omega) a4 at1 h6).c ?_
      rintro r ⟨r1, r2, r3⟩
      exact ⟨r1, fun i h5 h6 h7 h8 => (r2 i h5 h6 h7 h8).trans (hi i h6), fun c h => (r3 c h).trans (hc c h)⟩
    | succ m ih =>
      intro j n g1 hj hn hr h6 hi hc
      obtain ⟨q, rfl⟩ : ∃ q, n = q + 1 := ⟨n - 1, by omega⟩
      have a4 : g1 0 4 = nI lim := (hi 4 (by decide)).trans h4
      have at1 : ∀ k, k < lim → g1 1 k = sb (tp k) := by rw [hc 1 (by decide)]; exact ht
      rw [p_X2_next_b8, a4, h6, if_neg (nI_ge (by omega) (by omega)), if_pos (jinT (by omega) (by omega)), if_pos (jinT (by omega) (by omega)), zcl (by omega), at1 j (by omega)]
      have go : spc (tp j) = true → Ok (p_X2_next_b47 N (p_X2_next_b8 N q) g1) (fun r => TC r tp lim (tok tp lim k) ∧ KN g r) := by
        intro hs
        unfold p_X2_next_b47
        rw [jlt_eq, h6, nI_1]
        rw [rn, if_pos hs] at hr
        exact ih (j + 1) q _ (by omega) (by omega) hr (by rw [jup_s, upd_s]) (fun i h => by rw [jup_s, upd_n _ _ h]; exact hi i h) (fun c h => (jup_n _ _ h).trans (hc c h))
      have b10 := sb_10 _ (htp j)
      have b32 := sb_32 _ (htp j)
      by_cases c1 : tp j = 10
      · rw [if_pos (b10.mpr c1)]; exact go (by unfold spc; rw [decide_eq_true (Or.inl c1)])
      · rw [if_neg (fun e => c1 (b10.mp e))]
        by_cases c2 : tp j = 32
        · rw [if_pos (b32.mpr c2)]; exact go (by unfold spc; rw [decide_eq_true (Or.inr c2)])
        · rw [if_neg (fun e => c2 (b32.mp e))]
          have hs : spc (tp j) = false := by unfold spc; exact decide_eq_false (fun h => h.elim c1 c2)
          rw [rn_0 (p := fun i => spc (tp i)) (k := j) hs] at hr
          refine (c_next60 hN hlim htp (b := j) hr (by omega) a4 at1 h6).c ?_
          rintro r ⟨r1, r2, r3⟩
          exact ⟨r1, fun i h5 h6 h7 h8 => (r2 i h5 h6 h7 h8).trans (hi i h6), fun c h => (r3 c h).trans (hc c h)⟩
  unfold p_X2_next
  rw [jlt_eq, h7]
  exact key (lim - k) k N _ (by omega) (by omega) rfl (by rw [jup_s, upd_s]) (fun i h => by rw [jup_s, upd_n _ _ h]) (fun c h => jup_n _ _ h)
end next

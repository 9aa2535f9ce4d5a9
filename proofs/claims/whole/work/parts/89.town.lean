/-! a town told -/
def L0 : LA := LA.mk 0 0 0 0 50 720 (fun _ => 0) (fun _ => 0) (fun _ _ => 0)
theorem L0.i : L0.I := ⟨Nat.zero_le _, Nat.zero_le _, fun _ h => absurd h (Nat.not_lt_zero _), fun _ _ _ _ => (show 0 ≤ (0 : Int32).toInt ∧ (0 : Int32).toInt ≤ 999 by decide), (show 0 ≤ (50 : Int32).toInt ∧ (50 : Int32).toInt ≤ 100 by decide)⟩
section town
variable {N : Nat} {G G2 A : Nat → Nat → Int32} {J : Nat → Nat → Int64} {tp : Nat → Nat} {lim : Nat} {t : Nat × Nat × Nat × Nat} {l : LA} {s : SA} {xs : Nat → Int32} {i : Int32}
theorem m_rdL (hN : 2000 ≤ N) (hlim : lim ≤ 900) (htp : ∀ k, tp k < 256) {P : Int32 × (Nat → Nat → Int32) → Prop} : ∀ (m n j : Nat) (G : Nat → Nat → Int32) (t : Nat × Nat × Nat × Nat) (l : LA), l.I → j + m = 901 → m + 1 < n → (¬ t.1 = 0 → j < t.2.2.1) → tkOk lim t → TM G tp lim t → G 0 13 = 0 → KP A G → DB (G 2) l → (∀ r, KP A r → (match rdL tp lim m t l with
    | .inl (c, p) => r 0 13 = nI c ∧ r 0 14 = nI p ∧ ¬ r 0 13 = 0
    | .inr l2 => r 0 13 = 0 ∧ DB (r 2) l2 ∧ l2.I) → Ok (p_X6_town_b77 N J r) P) → Ok (p_X6_town_b56 N J n G) P := by
  intro m
  induction m with
  | zero =>
    intro n j G t l I hj hn ht hk T h13 K D hF
    have k2 := hk.2.1
    have a : t.1 = 0 := by
      by_cases a : t.1 = 0
      · exact a
      · have := ht a; omega
    have t11 : G 0 11 = nI t.1 := T.2.2.1
    match n, hn with
    | n + 1, hn =>
      unfold p_X6_town_b56
      rw [if_pos h13, t11, a, if_pos nI_0]
      exact hF G K ⟨h13, D, I⟩
  | succ m ih =>
    intro n j G t l I hj hn ht hk T h13 K D hF
    have k3 := hk.2.2.1
    have t11 : G 0 11 = nI t.1 := T.2.2.1
    match n, hn with
    | n + 1, hn =>
      unfold p_X6_town_b56
      unfold rdL at hF
      rw [if_pos h13, t11]
      by_cases a : t.1 = 0
      · rw [if_pos a] at hF
        rw [a, if_pos nI_0]
        exact hF G K ⟨h13, D, I⟩
      · rw [if_neg a] at hF
        rw [if_neg (nI_ne0 (by omega) (by omega))]
        refine Ok.b (m_line hN hlim htp I hk T h13 K D) ?_
        rintro G37 ⟨K2, h2⟩
        have gl := go_L htp I hk
        rw [jlt_eq]
        cases hl : lnR tp lim t l with
        | inl e =>
          obtain ⟨c, p⟩ := e
          rw [hl] at h2 gl hF
          have v3 : ¬ G37 0 13 = 0 := nI_bad gl.1 gl.2.1 h2.1
          match n, hn with
          | n + 1, hn =>
            unfold p_X6_town_b56
            rw [if_neg v3]
            exact hF G37 K2 ⟨h2.1, h2.2, v3⟩
        | inr e =>
          obtain ⟨t2, l2⟩ := e
          rw [hl] at h2 gl hF
          exact ih n (j + 1) G37 t2 l2 gl.2.2 (by omega) (by omega) (fun h => by have := gl.2.1 h; have := ht a; omega) gl.1 h2.2.1 h2.1 K2 h2.2.2 hF
theorem m_begins (hN : 2000 ≤ N) (g : Nat → Nat → Int32) : Ok (p_X6_begins N g) (fun r => DB (r 0) L0) := by
  unfold p_X6_begins
  have e264 : (264 : Int32) = nI 264 := by decide
  refine Ok.l2 (fun n (g1 : Nat → Nat → Int32) x => p_X6_begins_b2 N n g1 x) _ (fun j g1 x => ∃ k, k + j = 264 ∧ x = nI k ∧ ∀ i, i < k → g1 0 i = 0) ?_ N 264 g 0 (by omega) ⟨0, by omega, nI_0.symm, fun i hi => absurd hi (Nat.not_lt_zero _)⟩
  intro j g1 x n hs ih
  obtain ⟨k, hk, hx, hq⟩ := hs
  subst hx
  rw [p_X6_begins_b2, e264]
  by_cases h : k = 264
  · subst h
    simp (disch := omega) only [Option.bind_some, jlt_eq, ↓reduceIte, eq_self, jinT, zleT, zleF, zltT, zltF, zeq, zpos, zpos', zcl, zm6, z6, z84, z24, z14, z8, nI_add, zd0, zd1, zd2, zd3, zd4, zd5, bitI_e, bI0, bI1]
    have e : ∀ i, i < 264 → i ≠ 4 → i ≠ 5 → jup (jup g1 0 4 50) 0 5 720 0 i = 0 := by
      intro i hi h4 h5
      rw [jup_s, upd_n _ _ h5, jup_s, upd_n _ _ h4]
      exact hq i hi
    refine Ok.s ⟨e 0 (by decide) (by decide) (by decide), (e 1 (by decide) (by decide) (by decide)).trans nI_0.symm, (e 2 (by decide) (by decide) (by decide)).trans nI_0.symm, e 3 (by decide) (by decide) (by decide), ?_, ?_, e 6 (by decide) (by decide) (by decide), e 7 (by decide) (by decide) (by decide), fun p hp => e _ (by omega) (by omega) (by omega), fun t h => absurd h (Nat.not_lt_zero _), fun t p ht hp => e _ (by omega) (by omega) (by omega)⟩
    · rw [jup_s, upd_n _ _ (by decide), jup_s, upd_s]; rfl
    · rw [jup_s, upd_s]; rfl
  · simp (disch := omega) only [Option.bind_some, jlt_eq, ↓reduceIte, eq_self, jinT, zleT, zleF, zltT, zltF, zeq, zpos, zpos', zcl, zm6, z6, z84, z24, z14, z8, nI_add, zd0, zd1, zd2, zd3, zd4, zd5, bitI_e, bI0, bI1]
    refine ih _ _ (j - 1) (by omega) ⟨k + 1, by omega, rfl, ?_⟩
    intro i hi
    rw [jup_s, upd_i]
    by_cases h2 : i = k
    · rw [if_pos h2]
    · rw [if_neg h2, hq i (by omega)]
theorem c_f6 (hN : 2000 ≤ N) (g : Nat → Nat → Int32) : Ok (p_J7_fill_53178_F6 N g 0) (fun r => ∀ k, k < 6 → r 0 k = 0) := by
  unfold p_J7_fill_53178_F6
  have e6 : Int32.ofNat 6 = nI 6 := by decide
  rw [e6]
  refine Ok.l2 (fun n (g1 : Nat → Nat → Int32) x => p_J7_fill_53178_F6_b5 N n g1 0 x (nI 6)) _ (fun j g1 x => ∃ k, k + j = 6 ∧ x = nI k ∧ ∀ i, i < k → g1 0 i = 0) ?_ N 6 g 0 (by omega) ⟨0, by omega, nI_0.symm, fun i hi => absurd hi (Nat.not_lt_zero _)⟩
  intro j g1 x n hs ih
  obtain ⟨k, hk, hx, hq⟩ := hs
  subst hx
  rw [p_J7_fill_53178_F6_b5]
  by_cases h : k = 6
  · subst h
    simp (disch := omega) only [Option.bind_some, jlt_eq, ↓reduceIte, eq_self, jinT, zleT, zleF, zltT, zltF, zeq, zpos, zpos', zcl, zm6, z6, z84, z24, z14, z8, nI_add, zd0, zd1, zd2, zd3, zd4, zd5, bitI_e, bI0, bI1]
    exact Ok.s hq
  · simp (disch := omega) only [Option.bind_some, jlt_eq, ↓reduceIte, eq_self, jinT, zleT, zleF, zltT, zltF, zeq, zpos, zpos', zcl, zm6, z6, z84, z24, z14, z8, nI_add, zd0, zd1, zd2, zd3, zd4, zd5, bitI_e, bI0, bI1]
    refine ih _ _ (j - 1) (by omega) ⟨k + 1, by omega, rfl, ?_⟩
    intro i hi
    rw [jup_s, upd_i]
    by_cases h2 : i = k
    · rw [if_pos h2]
    · rw [if_neg h2, hq i (by omega)]
theorem c_f60 (hN : 2000 ≤ N) (g : Nat → Nat → Int32) : Ok (p_J7_fill_53178_F60 N g 0) (fun r => ∀ k, k < 60 → r 0 k = 0) := by
  unfold p_J7_fill_53178_F60
  have e6 : Int32.ofNat 60 = nI 60 := by decide
  rw [e6]
  refine Ok.l2 (fun n (g1 : Nat → Nat → Int32) x => p_J7_fill_53178_F60_b5 N n g1 0 x (nI 60)) _ (fun j g1 x => ∃ k, k + j = 60 ∧ x = nI k ∧ ∀ i, i < k → g1 0 i = 0) ?_ N 60 g 0 (by omega) ⟨0, by omega, nI_0.symm, fun i hi => absurd hi (Nat.not_lt_zero _)⟩
  intro j g1 x n hs ih
  obtain ⟨k, hk, hx, hq⟩ := hs
  subst hx
  rw [p_J7_fill_53178_F60_b5]
  by_cases h : k = 60
  · subst h
    simp (disch := omega) only [Option.bind_some, jlt_eq, ↓reduceIte, eq_self, jinT, zleT, zleF, zltT, zltF, zeq, zpos, zpos', zcl, zm6, z6, z84, z24, z14, z8, nI_add, zd0, zd1, zd2, zd3, zd4, zd5, bitI_e, bI0, bI1]
    exact Ok.s hq
  · simp (disch := omega) only [Option.bind_some, jlt_eq, ↓reduceIte, eq_self, jinT, zleT, zleF, zltT, zltF, zeq, zpos, zpos', zcl, zm6, z6, z84, z24, z14, z8, nI_add, zd0, zd1, zd2, zd3, zd4, zd5, bitI_e, bI0, bI1]
    refine ih _ _ (j - 1) (by omega) ⟨k + 1, by omega, rfl, ?_⟩
    intro i hi
    rw [jup_s, upd_i]
    by_cases h2 : i = k
    · rw [if_pos h2]
    · rw [if_neg h2, hq i (by omega)]
theorem c_clear (hN : 2000 ≤ N) (g : Nat → Nat → Int32) : Ok (p_X3_clear N g) (fun r => CB r L0) := by
  unfold p_X3_clear
  simp only [jlt_eq]
  refine Ok.b (c_f6 hN _) ?_
  intro v20 h20
  refine Ok.b (c_f60 hN _) ?_
  intro v24 h24
  have o (c i : Nat) (h : c ≠ 1) (h3 : c ≠ 3) (G17 : Nat → Nat → Int32) : jpt (jpt G17 1 1 v20) 3 1 v24 c i = G17 c i := by
    rw [jpt_o (by omega), jpt_o (by omega)]
  refine Ok.s ⟨?_, ?_, ?_, ?_, ?_, ?_, ?_, ?_, ?_, ?_, ?_, ?_⟩
  · rw [o 0 _ (by decide) (by decide)]; simp (disch := omega) only [Option.bind_some, jlt_eq, ↓reduceIte, eq_self, jinT, zleT, zleF, zltT, zltF, zeq, zpos, zpos', zcl, zm6, z6, z84, z24, z14, z8, nI_add, zd0, zd1, zd2, zd3, zd4, zd5, bitI_e, bI0, bI1, jup_s, upd_n, upd_s]; rfl
  · rw [o 0 _ (by decide) (by decide)]; simp (disch := omega) only [Option.bind_some, jlt_eq, ↓reduceIte, eq_self, jinT, zleT, zleF, zltT, zltF, zeq, zpos, zpos', zcl, zm6, z6, z84, z24, z14, z8, nI_add, zd0, zd1, zd2, zd3, zd4, zd5, bitI_e, bI0, bI1, jup_s, upd_n, upd_s]; rfl
  · rw [o 0 _ (by decide) (by decide)]; simp (disch := omega) only [Option.bind_some, jlt_eq, ↓reduceIte, eq_self, jinT, zleT, zleF, zltT, zltF, zeq, zpos, zpos', zcl, zm6, z6, z84, z24, z14, z8, nI_add, zd0, zd1, zd2, zd3, zd4, zd5, bitI_e, bI0, bI1, jup_s, upd_n, upd_s]; rfl
  · rw [o 0 _ (by decide) (by decide)]; simp (disch := omega) only [Option.bind_some, jlt_eq, ↓reduceIte, eq_self, jinT, zleT, zleF, zltT, zltF, zeq, zpos, zpos', zcl, zm6, z6, z84, z24, z14, z8, nI_add, zd0, zd1, zd2, zd3, zd4, zd5, bitI_e, bI0, bI1, jup_s, upd_n, upd_s]; rfl
  · rw [o 0 _ (by decide) (by decide)]; simp (disch := omega) only [Option.bind_some, jlt_eq, ↓reduceIte, eq_self, jinT, zleT, zleF, zltT, zltF, zeq, zpos, zpos', zcl, zm6, z6, z84, z24, z14, z8, nI_add, zd0, zd1, zd2, zd3, zd4, zd5, bitI_e, bI0, bI1, jup_s, upd_n, upd_s]; rfl
  · rw [o 0 _ (by decide) (by decide)]; simp (disch := omega) only [Option.bind_some, jlt_eq, ↓reduceIte, eq_self, jinT, zleT, zleF, zltT, zltF, zeq, zpos, zpos', zcl, zm6, z6, z84, z24, z14, z8, nI_add, zd0, zd1, zd2, zd3, zd4, zd5, bitI_e, bI0, bI1, jup_s, upd_n, upd_s]; rfl
  · rw [o 0 _ (by decide) (by decide)]; simp (disch := omega) only [Option.bind_some, jlt_eq, ↓reduceIte, eq_self, jinT, zleT, zleF, zltT, zltF, zeq, zpos, zpos', zcl, zm6, z6, z84, z24, z14, z8, nI_add, zd0, zd1, zd2, zd3, zd4, zd5, bitI_e, bI0, bI1, jup_s, upd_n, upd_s]
  · rw [o 0 _ (by decide) (by decide)]; simp (disch := omega) only [Option.bind_some, jlt_eq, ↓reduceIte, eq_self, jinT, zleT, zleF, zltT, zltF, zeq, zpos, zpos', zcl, zm6, z6, z84, z24, z14, z8, nI_add, zd0, zd1, zd2, zd3, zd4, zd5, bitI_e, bI0, bI1, jup_s, upd_n, upd_s]
  · rw [o 0 _ (by decide) (by decide)]; simp (disch := omega) only [Option.bind_some, jlt_eq, ↓reduceIte, eq_self, jinT, zleT, zleF, zltT, zltF, zeq, zpos, zpos', zcl, zm6, z6, z84, z24, z14, z8, nI_add, zd0, zd1, zd2, zd3, zd4, zd5, bitI_e, bI0, bI1, jup_s, upd_n, upd_s]
  · intro p hp
    rw [jpt_o (by omega)]
    exact (congrFun (jpt_i (b := 1) (n := 1) (c := 0) (by omega)) p).trans (h20 p hp)
  · intro t h; exact absurd h (Nat.not_lt_zero _)
  · intro t p ht hp
    exact (congrFun (jpt_i (b := 3) (n := 1) (c := 0) (by omega)) _).trans (h24 _ (by omega))
theorem c_read (hN : 2000 ≤ N) (hlim : lim ≤ 900) (htp : ∀ k, tp k < 256) (ht : ∀ k, k < lim → G 1 k = sb (tp k)) : Ok (p_X2_read N G (nI lim)) (fun r => match rdL tp lim 901 (tok tp lim 0) L0 with
    | .inl (c, p) => r.1 = 0 ∧ r.2 0 1 = nI c ∧ r.2 0 2 = nI p ∧ 0 < c ∧ c < 10 ∧ p ≤ lim
    | .inr l2 => r.1 = 1 ∧ CB (jvw r.2 2) l2 ∧ r.2 0 1 = 0 ∧ r.2 0 2 = -1 ∧ l2.I) := by
  unfold p_X2_read
  simp only [jlt_eq]
  refine Ok.b (c_clear hN _) ?_
  intro v10 C
  have a4 : jup (jup (jup (jup G 0 4 (nI lim)) 0 7 0) 0 1 0) 0 2 (-1) 0 4 = nI lim := by simp (disch := omega) only [Option.bind_some, jlt_eq, ↓reduceIte, eq_self, jinT, zleT, zleF, zltT, zltF, zeq, zpos, zpos', zcl, zm6, z6, z84, z24, z14, z8, nI_add, zd0, zd1, zd2, zd3, zd4, zd5, bitI_e, bI0, bI1, jup_s, upd_n, upd_s]
  have a7 : jup (jup (jup (jup G 0 4 (nI lim)) 0 7 0) 0 1 0) 0 2 (-1) 0 7 = nI 0 := by simp (disch := omega) only [Option.bind_some, jlt_eq, ↓reduceIte, eq_self, jinT, zleT, zleF, zltT, zltF, zeq, zpos, zpos', zcl, zm6, z6, z84, z24, z14, z8, nI_add, zd0, zd1, zd2, zd3, zd4, zd5, bitI_e, bI0, bI1, jup_s, upd_n, upd_s]; exact nI_0.symm
  have a1 : jup (jup (jup (jup G 0 4 (nI lim)) 0 7 0) 0 1 0) 0 2 (-1) 0 1 = 0 := by simp (disch := omega) only [Option.bind_some, jlt_eq, ↓reduceIte, eq_self, jinT, zleT, zleF, zltT, zltF, zeq, zpos, zpos', zcl, zm6, z6, z84, z24, z14, z8, nI_add, zd0, zd1, zd2, zd3, zd4, zd5, bitI_e, bI0, bI1, jup_s, upd_n, upd_s]
  have a2 : jup (jup (jup (jup G 0 4 (nI lim)) 0 7 0) 0 1 0) 0 2 (-1) 0 2 = -1 := by simp (disch := omega) only [Option.bind_some, jlt_eq, ↓reduceIte, eq_self, jinT, zleT, zleF, zltT, zltF, zeq, zpos, zpos', zcl, zm6, z6, z84, z24, z14, z8, nI_add, zd0, zd1, zd2, zd3, zd4, zd5, bitI_e, bI0, bI1, jup_s, upd_n, upd_s]
  have at1 : jup (jup (jup (jup G 0 4 (nI lim)) 0 7 0) 0 1 0) 0 2 (-1) 1 = G 1 := by simp (disch := omega) only [Option.bind_some, jlt_eq, ↓reduceIte, eq_self, jinT, zleT, zleF, zltT, zltF, zeq, zpos, zpos', zcl, zm6, z6, z84, z24, z14, z8, nI_add, zd0, zd1, zd2, zd3, zd4, zd5, bitI_e, bI0, bI1, jup_n]
  generalize jup (jup (jup (jup G 0 4 (nI lim)) 0 7 0) 0 1 0) 0 2 (-1) = G7 at a4 a7 a1 a2 at1 ⊢
  have e0 : jpt G7 2 9 v10 0 = G7 0 := jpt_o (by omega)
  have e1 : jpt G7 2 9 v10 1 = G7 1 := jpt_o (by omega)
  have C2 : CB (jvw (jpt G7 2 9 v10) 2) L0 := C.cg (fun c hc => jvw_pt (by omega))
  generalize jpt G7 2 9 v10 = G11 at e0 e1 C2 ⊢
  refine Ok.b (c_next hN hlim htp (g := jvw G11 0) (k := 0) (Nat.zero_le _) ((congrFun e0 4).trans a4) (fun k hk => (congrFun (e1.trans at1) k).trans (ht k hk)) ((congrFun e0 7).trans a7)) ?_
  rintro v14 ⟨h1, h2⟩
  have d0 : jpt G11 0 2 v14 0 = v14 0 := jpt_i (b := 0) (c := 0) (by omega)
  have d1 : jpt G11 0 2 v14 1 = v14 1 := jpt_i (b := 0) (c := 1) (by omega)
  have o := tok_ok tp htp (lim := lim) (k := 0) (Nat.zero_le _)
  exact c_rdL hN hlim htp (A := fun _ i => if i = 1 then 0 else -1) 901 N 0 _ (tok tp lim 0) L0 L0.i (by omega) (by omega) o.2.2 (h1.cg d0 d1) o.1 (C2.cg (fun c hc => jpt_o (G := G11) (G2 := v14) (b := 0) (n := 2) (c := 2 + c) (by omega))) ((congrFun d0 1).trans ((h2.1 1 (by decide) (by decide) (by decide) (by decide)).trans ((congrFun e0 1).trans a1))) ((congrFun d0 2).trans ((h2.1 2 (by decide) (by decide) (by decide) (by decide)).trans ((congrFun e0 2).trans a2)))
def SA.rdd (s : SA) (a : TA) (wr pl : Int32) : SA := SA.mk a s.im s.tp 0 wr pl s.tr
theorem SA.I.rdd {a : TA} {wr pl : Int32} (I : s.I) (h : a.I) : (s.rdd a wr pl).I := ⟨h, I.im, Nat.zero_le _, I.tp, I.tr⟩
def SA.tol (s : SA) (lim : Nat) : SA := match rdL s.tp lim 901 (tok s.tp lim 0) L0 with
  | .inl (c, p) => s.rdd s.now (nI c) (nI p)
  | .inr l => s.rdd l.ta 0 (-1)
def SA.tov (s : SA) (lim : Nat) : Int32 := match rdL s.tp lim 901 (tok s.tp lim 0) L0 with
  | .inl (c, _) => -10 - nI c
  | .inr l => l.li
theorem CX.rdd {a : TA} {wr pl : Int32} (X : CX G J s) (h : ∀ c, 20 ≤ c → c ≠ 22 → c ≠ 23 → G2 c = G c) (R : RC (jvw G2 1) a) (h0 : G2 22 0 = 0) (h1 : G2 22 1 = wr) (h2 : G2 22 2 = pl) : CX G2 J (s.rdd a wr pl) := by
  refine ⟨R, ?_, ?_, h0.trans nI_0.symm, h1, h2, fun k hk => absurd hk (Nat.not_lt_zero _), ?_, ?_⟩
  · intro i hi; rw [h 20 (by omega) (by omega) (by omega)]; exact X.imB i hi
  · intro i b hi hb; exact (X.imR i b hi hb).cg (fun c hc => h _ (by omega) (by omega) (by omega))
  · intro i hi hn; rw [h _ (by omega) (by omega) (by omega)]; exact X.trN i hi hn
  · intro i so m r hi hs; rw [h (62 + 2 * i) (by omega) (by omega) (by omega)]; exact X.trS i so m r hi hs
theorem x_town (hN : 2000 ≤ N) (X : CX G J s) (I : s.I) {k : Nat} (hk : k ≤ s.ln) : Ok (p_X5_town N G J (nI k)) (fun o => ∃ G2, o = .inr (s.tov k, G2) ∧ CX G2 J (s.tol k)) := by
  have hln := I.ln
  have c0 : G 22 0 = nI s.ln := X.ln
  unfold p_X5_town
  rw [if_neg (nI_pos (by omega)), c0, if_pos (nI_le hk (by omega))]
  have t1 : ∀ q, q < k → jv2 G 22 2 10 1 q = sb (s.tp q) := by
    intro q hq
    have e : jv2 G 22 2 10 1 = G 23 := jv2_lo (c := 1) (by omega)
    rw [e]; exact X.tp q (by omega)
  refine Ok.b (c_read hN (by omega) I.tp t1) ?_
  rintro ⟨u, g⟩ h
  unfold SA.tol SA.tov
  have p22 : jp2 G 22 2 10 9 g 22 = g 0 := by unfold jp2; rw [jpt_o (by omega)]; exact jpt_i (b := 22) (c := 0) (by omega)
  have p10 : ∀ c, c < 9 → jp2 G 22 2 10 9 g (10 + c) = g (2 + c) := by
    intro c hc
    unfold jp2
    rw [jpt_i hc]
  have po : ∀ c, c < 10 ∨ 19 ≤ c → c ≠ 22 → c ≠ 23 → jp2 G 22 2 10 9 g c = G c := by
    intro c h1 h2 h3
    unfold jp2
    rw [jpt_o (by omega), jpt_o (by omega)]
  rw [jlt_eq, jlt_eq]
  cases hr : rdL s.tp k 901 (tok s.tp k 0) L0 with
  | inl e =>
    obtain ⟨c, p⟩ := e
    rw [hr] at h
    obtain ⟨h1, h2, h3, _⟩ := h
    have h1' : u = 0 := h1
    rw [if_pos h1']
    have e1 : jup (jp2 G 22 2 10 9 g) 22 0 0 22 1 = nI c := by rw [jup_s, upd_n _ _ (by decide), p22]; exact h2
    have e2 : jup (jp2 G 22 2 10 9 g) 22 0 0 22 2 = nI p := by rw [jup_s, upd_n _ _ (by decide), p22]; exact h3
    dsimp only
    rw [e1]
    refine Ok.s ⟨_, rfl, ?_⟩
    refine X.rdd ?_ (X.now.cg ?_) (by rw [jup_s, upd_s]) e1 e2
    · intro c h1 h2 h3; rw [jup_n _ _ h2]; exact po c (by omega) h2 h3
    · intro c hc
      show jup (jp2 G 22 2 10 9 g) 22 0 0 (1 + c) = G (1 + c)
      rw [jup_n _ _ (by omega)]; exact po _ (by omega) (by omega) (by omega)
  | inr l =>
    rw [hr] at h
    obtain ⟨h1, C, h2, h3, Il⟩ := h
    have h1' : u = 1 := h1
    rw [if_neg (show ¬ u = 0 by rw [h1']; decide)]
    dsimp only at C h2 h3 ⊢
    have e1 : jup (jp2 G 22 2 10 9 g) 22 0 0 22 1 = 0 := by rw [jup_s, upd_n _ _ (by decide), p22]; exact h2
    have e2 : jup (jp2 G 22 2 10 9 g) 22 0 0 22 2 = -1 := by rw [jup_s, upd_n _ _ (by decide), p22]; exact h3
    have e0 : jup (jp2 G 22 2 10 9 g) 22 0 0 22 0 = 0 := by rw [jup_s, upd_s]
    have eo : ∀ c, c < 10 ∨ 19 ≤ c → c ≠ 22 → c ≠ 23 → jup (jp2 G 22 2 10 9 g) 22 0 0 c = G c := by
      intro c h1 h2 h3; rw [jup_n _ _ h2]; exact po c (by omega) h2 h3
    have R : RC (jvw (jup (jp2 G 22 2 10 9 g) 22 0 0) 10) l.ta := C.rc.cg (fun c hc => by
      show jup (jp2 G 22 2 10 9 g) 22 0 0 (10 + c) = g (2 + c)
      rw [jup_n _ _ (by omega)]; exact p10 c hc)
    generalize jup (jp2 G 22 2 10 9 g) 22 0 0 = G5 at e1 e2 e0 eo R ⊢
    refine Ok.b (x_cpy (r := 1) (t := 10) (by omega) R Il.ta) ?_
    rintro v ⟨v1, v2⟩
    rw [jlt_eq]
    have eli : jp2 G5 1 9 10 9 v 1 0 = l.li := v1.li
    rw [eli]
    refine Ok.s ⟨_, rfl, ?_⟩
    refine X.rdd ?_ v1 ?_ ?_ ?_
    · intro c h1 h2 h3; rw [v2 c (by omega)]; exact eo c (by omega) h2 h3
    · rw [v2 22 (by omega)]; exact e0
    · rw [v2 22 (by omega)]; exact e1
    · rw [v2 22 (by omega)]; exact e2
theorem CM.rdd {a : TA} {wr pl : Int32} (M : CM G J s) (h : ∀ c, 3 ≤ c → G2 c = G c) (R : RM (G2 1) a) (h0 : G2 0 7 = 0) (h1 : G2 0 15 = wr) (h2 : G2 0 16 = pl) : CM G2 J (s.rdd a wr pl) := by
  refine ⟨R, ?_, ?_, h0.trans nI_0.symm, h1, h2, fun k hk => absurd hk (Nat.not_lt_zero _), ?_, ?_⟩
  · rw [h 5 (by omega)]; exact M.imB
  · intro i b hi hb; rw [h 4 (by omega)]; exact M.imR i b hi hb
  · rw [h 12 (by omega)]; exact M.trN
  · rw [h 12 (by omega), h 13 (by omega)]; exact M.trS
theorem m_town (hN : 2000 ≤ N) (M : CM G J s) (I : s.I) {k : Nat} (hk : k ≤ s.ln) : Ok (p_X6_town N G J (nI k)) (fun r => r.1 = s.tov k ∧ r.2 0 5 = 0 ∧ CM r.2 J (s.tol k)) := by
  have hln := I.ln
  have o := tok_ok s.tp I.tp (lim := k) (k := 0) (Nat.zero_le _)
  unfold p_X6_town
  have c7 : jup G 0 5 0 0 7 = nI s.ln := by rw [jup_s, upd_n _ _ (by decide)]; exact M.ln
  rw [jlt_eq, c7, w_t (by rw [w_0, w_n (by omega), w_n (by omega)]; omega), Option.bind_some, if_neg i10]
  simp only [jlt_eq]
  have a5 : jup (jup (jup (jup (jup G 0 5 0) 0 8 (nI k)) 0 7 0) 0 9 0) 0 13 0 0 5 = 0 := by simp (disch := omega) only [Option.bind_some, jlt_eq, ↓reduceIte, eq_self, jinT, zleT, zleF, zltT, zltF, zeq, zpos, zpos', zcl, zm6, z6, z84, z24, z14, z8, nI_add, zd0, zd1, zd2, zd3, zd4, zd5, bitI_e, bI0, bI1, jup_s, upd_n, upd_s]
  have a8 : jup (jup (jup (jup (jup G 0 5 0) 0 8 (nI k)) 0 7 0) 0 9 0) 0 13 0 0 8 = nI k := by simp (disch := omega) only [Option.bind_some, jlt_eq, ↓reduceIte, eq_self, jinT, zleT, zleF, zltT, zltF, zeq, zpos, zpos', zcl, zm6, z6, z84, z24, z14, z8, nI_add, zd0, zd1, zd2, zd3, zd4, zd5, bitI_e, bI0, bI1, jup_s, upd_n, upd_s]
  have a7 : jup (jup (jup (jup (jup G 0 5 0) 0 8 (nI k)) 0 7 0) 0 9 0) 0 13 0 0 7 = 0 := by simp (disch := omega) only [Option.bind_some, jlt_eq, ↓reduceIte, eq_self, jinT, zleT, zleF, zltT, zltF, zeq, zpos, zpos', zcl, zm6, z6, z84, z24, z14, z8, nI_add, zd0, zd1, zd2, zd3, zd4, zd5, bitI_e, bI0, bI1, jup_s, upd_n, upd_s]
  have a9 : jup (jup (jup (jup (jup G 0 5 0) 0 8 (nI k)) 0 7 0) 0 9 0) 0 13 0 0 9 = nI 0 := by simp (disch := omega) only [Option.bind_some, jlt_eq, ↓reduceIte, eq_self, jinT, zleT, zleF, zltT, zltF, zeq, zpos, zpos', zcl, zm6, z6, z84, z24, z14, z8, nI_add, zd0, zd1, zd2, zd3, zd4, zd5, bitI_e, bI0, bI1, jup_s, upd_n, upd_s]; exact nI_0.symm
  have a13 : jup (jup (jup (jup (jup G 0 5 0) 0 8 (nI k)) 0 7 0) 0 9 0) 0 13 0 0 13 = 0 := by simp (disch := omega) only [Option.bind_some, jlt_eq, ↓reduceIte, eq_self, jinT, zleT, zleF, zltT, zltF, zeq, zpos, zpos', zcl, zm6, z6, z84, z24, z14, z8, nI_add, zd0, zd1, zd2, zd3, zd4, zd5, bitI_e, bI0, bI1, jup_s, upd_n, upd_s]
  have ac : ∀ c, c ≠ 0 → jup (jup (jup (jup (jup G 0 5 0) 0 8 (nI k)) 0 7 0) 0 9 0) 0 13 0 c = G c := by intro c hc; simp (disch := omega) only [Option.bind_some, jlt_eq, ↓reduceIte, eq_self, jinT, zleT, zleF, zltT, zltF, zeq, zpos, zpos', zcl, zm6, z6, z84, z24, z14, z8, nI_add, zd0, zd1, zd2, zd3, zd4, zd5, bitI_e, bI0, bI1, jup_n]
  generalize jup (jup (jup (jup (jup G 0 5 0) 0 8 (nI k)) 0 7 0) 0 9 0) 0 13 0 = G11 at a5 a8 a7 a9 a13 ac ⊢
  refine Ok.b (m_begins hN _) ?_
  intro v14 D
  have e0 : jpt G11 2 1 v14 0 = G11 0 := jpt_o (by omega)
  have e6 : jpt G11 2 1 v14 6 = G 6 := (jpt_o (by omega)).trans (ac 6 (by decide))
  have K0 : KP G11 (jpt G11 2 1 v14) := ⟨fun i _ => congrFun e0 i, fun c h0 h2 => jpt_o (by omega)⟩
  have D0 : DB (jpt G11 2 1 v14 2) L0 := by rw [show jpt G11 2 1 v14 2 = v14 0 from jpt_i (b := 2) (c := 0) (by omega)]; exact D
  generalize jpt G11 2 1 v14 = G15 at e0 e6 K0 D0 ⊢
  refine Ok.b (m_reads hN (by omega : k ≤ 900) I.tp (g := G15) (k := 0) (Nat.zero_le _) ((congrFun e0 8).trans a8) (fun q hq => (congrFun e6 q).trans (M.tp q (by omega))) ((congrFun e0 9).trans a9)) ?_
  rintro G19 ⟨r1, r2⟩
  have z : G19 0 13 = 0 := (r2.1 13 (by decide) (by decide) (by decide) (by decide)).trans ((congrFun e0 13).trans a13)
  have D1 : DB (G19 2) L0 := by rw [r2.2 2 (by decide)]; exact D0
  have eq : (if G19 0 13 = 0 then (if G19 0 11 = 0 then p_X6_town_b77 N J G19 else (p_X6_readLine N G19 J).bind (fun v32 => p_X6_town_b56 N J N v32)) else p_X6_town_b77 N J G19) = p_X6_town_b56 N J (N + 1) G19 := by
    rw [p_X6_town_b56]
    rfl
  rw [eq]
  refine m_rdL hN (by omega : k ≤ 900) I.tp (A := G11) 901 (N + 1) 0 G19 (tok s.tp k 0) L0 L0.i (by omega) (by omega) o.2.2 o.1 r1 z (K0.kr r2) D1 ?_
  intro r K hr
  have ra : ∀ c, 3 ≤ c → r c = G c := fun c hc => (K.2 c (by omega) (by omega)).trans (ac c (by omega))
  have r7 : r 0 7 = 0 := (K.1 7 (by omega)).trans a7
  have r5 : r 0 5 = 0 := (K.1 5 (by omega)).trans a5
  have rr1 : r 1 = G 1 := (K.2 1 (by omega) (by omega)).trans (ac 1 (by omega))
  unfold SA.tol SA.tov p_X6_town_b77 p_X6_town_b101
  simp only [jlt_eq]
  cases he : rdL s.tp k 901 (tok s.tp k 0) L0 with
  | inl e =>
    obtain ⟨c, p⟩ := e
    rw [he] at hr
    obtain ⟨h1, h2, h3⟩ := hr
    have b13 : jup r 0 15 (r 0 13) 0 13 = nI c := by rw [jup_s, upd_n _ _ (by decide)]; exact h1
    have b14 : jup r 0 15 (r 0 13) 0 14 = nI p := by rw [jup_s, upd_n _ _ (by decide)]; exact h2
    have c13 : jup (jup r 0 15 (r 0 13)) 0 16 (nI p) 0 13 = nI c := by rw [jup_s, upd_n _ _ (by decide)]; exact b13
    rw [if_neg (by rw [b13, ← h1]; exact h3), b14, if_neg (by rw [c13, ← h1]; exact h3), c13]
    refine Ok.s ⟨rfl, ?_, ?_⟩
    · simp (disch := omega) only [Option.bind_some, jlt_eq, ↓reduceIte, eq_self, jinT, zleT, zleF, zltT, zltF, zeq, zpos, zpos', zcl, zm6, z6, z84, z24, z14, z8, nI_add, zd0, zd1, zd2, zd3, zd4, zd5, bitI_e, bI0, bI1, jup_s, upd_n]; exact r5
    · refine M.rdd ?_ ?_ ?_ ?_ ?_
      · intro c hc; simp (disch := omega) only [Option.bind_some, jlt_eq, ↓reduceIte, eq_self, jinT, zleT, zleF, zltT, zltF, zeq, zpos, zpos', zcl, zm6, z6, z84, z24, z14, z8, nI_add, zd0, zd1, zd2, zd3, zd4, zd5, bitI_e, bI0, bI1, jup_n]; exact ra c hc
      · simp (disch := omega) only [Option.bind_some, jlt_eq, ↓reduceIte, eq_self, jinT, zleT, zleF, zltT, zltF, zeq, zpos, zpos', zcl, zm6, z6, z84, z24, z14, z8, nI_add, zd0, zd1, zd2, zd3, zd4, zd5, bitI_e, bI0, bI1, jup_n]; rw [rr1]; exact M.now
      · simp (disch := omega) only [Option.bind_some, jlt_eq, ↓reduceIte, eq_self, jinT, zleT, zleF, zltT, zltF, zeq, zpos, zpos', zcl, zm6, z6, z84, z24, z14, z8, nI_add, zd0, zd1, zd2, zd3, zd4, zd5, bitI_e, bI0, bI1, jup_s, upd_n]; exact r7
      · simp (disch := omega) only [Option.bind_some, jlt_eq, ↓reduceIte, eq_self, jinT, zleT, zleF, zltT, zltF, zeq, zpos, zpos', zcl, zm6, z6, z84, z24, z14, z8, nI_add, zd0, zd1, zd2, zd3, zd4, zd5, bitI_e, bI0, bI1, jup_s, upd_n, upd_s]; exact h1
      · simp (disch := omega) only [Option.bind_some, jlt_eq, ↓reduceIte, eq_self, jinT, zleT, zleF, zltT, zltF, zeq, zpos, zpos', zcl, zm6, z6, z84, z24, z14, z8, nI_add, zd0, zd1, zd2, zd3, zd4, zd5, bitI_e, bI0, bI1, jup_s, upd_s]
  | inr l =>
    rw [he] at hr
    obtain ⟨h1, D2, Il⟩ := hr
    have b13 : jup r 0 15 (r 0 13) 0 13 = 0 := by rw [jup_s, upd_n _ _ (by decide)]; exact h1
    have c13 : jup (jup r 0 15 (r 0 13)) 0 16 (-1) 0 13 = 0 := by rw [jup_s, upd_n _ _ (by decide)]; exact b13
    rw [if_pos b13, if_pos c13]
    have q0 : jup (jup r 0 15 (r 0 13)) 0 16 (-1) 0 15 = 0 := by simp (disch := omega) only [Option.bind_some, jlt_eq, ↓reduceIte, eq_self, jinT, zleT, zleF, zltT, zltF, zeq, zpos, zpos', zcl, zm6, z6, z84, z24, z14, z8, nI_add, zd0, zd1, zd2, zd3, zd4, zd5, bitI_e, bI0, bI1, jup_s, upd_n, upd_s]; exact h1
    have q1 : jup (jup r 0 15 (r 0 13)) 0 16 (-1) 0 16 = -1 := by simp (disch := omega) only [Option.bind_some, jlt_eq, ↓reduceIte, eq_self, jinT, zleT, zleF, zltT, zltF, zeq, zpos, zpos', zcl, zm6, z6, z84, z24, z14, z8, nI_add, zd0, zd1, zd2, zd3, zd4, zd5, bitI_e, bI0, bI1, jup_s, upd_s]
    have q7 : jup (jup r 0 15 (r 0 13)) 0 16 (-1) 0 7 = 0 := by simp (disch := omega) only [Option.bind_some, jlt_eq, ↓reduceIte, eq_self, jinT, zleT, zleF, zltT, zltF, zeq, zpos, zpos', zcl, zm6, z6, z84, z24, z14, z8, nI_add, zd0, zd1, zd2, zd3, zd4, zd5, bitI_e, bI0, bI1, jup_s, upd_n]; exact r7
    have q5 : jup (jup r 0 15 (r 0 13)) 0 16 (-1) 0 5 = 0 := by simp (disch := omega) only [Option.bind_some, jlt_eq, ↓reduceIte, eq_self, jinT, zleT, zleF, zltT, zltF, zeq, zpos, zpos', zcl, zm6, z6, z84, z24, z14, z8, nI_add, zd0, zd1, zd2, zd3, zd4, zd5, bitI_e, bI0, bI1, jup_s, upd_n]; exact r5
    have qc : ∀ c, c ≠ 0 → jup (jup r 0 15 (r 0 13)) 0 16 (-1) c = r c := by intro c hc; simp (disch := omega) only [Option.bind_some, jlt_eq, ↓reduceIte, eq_self, jinT, zleT, zleF, zltT, zltF, zeq, zpos, zpos', zcl, zm6, z6, z84, z24, z14, z8, nI_add, zd0, zd1, zd2, zd3, zd4, zd5, bitI_e, bI0, bI1, jup_n]
    generalize jup (jup r 0 15 (r 0 13)) 0 16 (-1) = G23 at q0 q1 q7 q5 qc ⊢
    refine m_cp hN (r := 2) (t := 1) (by decide) ?_
    intro v v1 v2
    have R : RM (jp2 G23 2 1 1 1 v 1) l.ta := D2.rm.cg Il.ta (fun k hk => by rw [v2 k hk, qc 2 (by decide)])
    rw [show jp2 G23 2 1 1 1 v 1 0 = l.li from R.li]
    refine Ok.s ⟨rfl, ?_, M.rdd ?_ R ?_ ?_ ?_⟩
    · dsimp only; rw [v1 0 (by decide)]; exact q5
    · intro c hc; dsimp only; rw [v1 c (by omega), qc c (by omega)]; exact ra c hc
    · dsimp only; rw [v1 0 (by decide)]; exact q7
    · dsimp only; rw [v1 0 (by decide)]; exact q0
    · dsimp only; rw [v1 0 (by decide)]; exact q1
theorem tolI2 (I : s.I) {k : Nat} (hN : 2000 ≤ N) (X : CX G J s) (hk : k ≤ s.ln) : (s.tol k).I := by
  have hln := I.ln
  have t1 : ∀ q, q < k → jv2 G 22 2 10 1 q = sb (s.tp q) := by
    intro q hq
    have e : jv2 G 22 2 10 1 = G 23 := jv2_lo (c := 1) (by omega)
    rw [e]; exact X.tp q (by omega)
  obtain ⟨r, _, h⟩ := c_read (lim := k) hN (by omega) I.tp t1
  unfold SA.tol
  cases he : rdL s.tp k 901 (tok s.tp k 0) L0 with
  | inl e => exact I.rdd I.now
  | inr l =>
    rw [he] at h
    exact I.rdd h.2.2.2.2.ta
theorem case_1 (hN : 2000 ≤ N) (hL : LR G J s) : Ok (p_case_1 N xs G J i) (fun r => ∃ s, LR r.1 r.2 s) := by
  have X := hL.1.w
  have I := hL.2.2
  have hln := I.ln
  unfold p_case_1 p_L_town
  generalize xs (i + 1).toNatClampNeg = x
  by_cases hx : ∃ k, k ≤ s.ln ∧ x = nI k
  · obtain ⟨k, hk, rfl⟩ := hx
    obtain ⟨o, f1, G1, f2, f3⟩ := x_town hN X I hk
    refine k_M hL (m := fun g j => p_X6_town N g j (nI k)) 0 (s.tov k) (s.tol k) (tolI2 I hN X hk) (Or.inl ⟨G1, ?_, rfl, f3⟩) ?_
    · rw [f1, f2]
    · intro g j M
      refine (m_town hN M I hk).c ?_
      rintro o ⟨o1, o2, o3⟩
      exact ⟨fun _ => o1, o2, o3⟩
  · have tx : x.toInt64.toInt = x.toInt := Int32.toInt_toInt64 x
    have hx2 : ¬ (0 ≤ x.toInt ∧ x.toInt ≤ s.ln) := by
      intro h
      refine hx ⟨x.toInt.toNat, by omega, ?_⟩
      rw [← Int32.toInt_inj, nI_toInt (by omega)]; omega
    refine k_M hL (m := fun g j => p_X6_town N g j x) 1 0 s hL.2.2 (Or.inr ⟨3, ?_, by decide, rfl, rfl⟩) ?_
    · unfold p_X5_town p_X5_town_b15
      have c0 : jvw (jv2 G 0 70 85) 0 22 0 = nI s.ln := X.ln
      rw [c0]
      by_cases a : x < 0
      · rw [if_pos a]
      · rw [if_neg a, if_neg]
        rw [Int32.le_iff_toInt_le, nI_toInt (by omega)]
        rw [Int32.lt_iff_toInt_lt] at a
        have : (0 : Int32).toInt = 0 := by decide
        omega
    · intro g j M
      unfold p_X6_town p_X6_fails
      have c7 : jup g 0 5 0 0 7 = nI s.ln := by rw [jup_s, upd_n _ _ (by decide)]; exact M.ln
      rw [jlt_eq, c7, w_f (by rw [w_0, w_n (by omega), tx]; exact hx2), Option.bind_some, if_pos rfl, jlt_eq, Option.bind_some, jlt_eq]
      have b := MB.f (k := 1) (v := 0) (w := 0) (x := 0) M.now (fun h => absurd h i10)
      exact Ok.s ⟨b.1, b.2.1, M.k b.2.2.2 b.2.2.1 rfl (SA.eta s)⟩
end town

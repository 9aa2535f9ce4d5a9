/-! days by draws -/
def drN (x : Int32) : Int32 := (1103515245 * x) + 12345
def drV (x : Int32) (m : Nat) : Nat := (x.toBitVec.toNat / 65536) % m
theorem dr_v (x : Int32) {m : Nat} (h0 : 0 < m) (hm : m < 2147483648) : (x.toUInt32 >>> ((16 : Int32).toUInt32 &&& Int32.toUInt32 31)).toInt32 - (x.toUInt32 >>> ((16 : Int32).toUInt32 &&& Int32.toUInt32 31)).toInt32 / nI m * nI m = nI (drV x m) := by
  have hn : x.toBitVec.toNat < 4294967296 := x.toBitVec.isLt
  have e : (x.toUInt32 >>> ((16 : Int32).toUInt32 &&& Int32.toUInt32 31)).toInt32 = nI (x.toBitVec.toNat / 65536) := by
    have := pk_ushrN hn 16 16 s_16
    rw [← x_nI x] at this
    exact this
  rw [e, pk_rem (by omega) h0 hm]
  rfl
theorem drV_lt (x : Int32) {m : Nat} (h : 0 < m) : drV x m < m := Nat.mod_lt _ h
def TA.dealt (a : TA) (δ : Int32 → Int32) (x : Int32) : Bool × Int32 × TA := if a.whyS (drV (δ x) a.nt) (drV (δ (δ x)) a.np) (nI (drV (δ (δ (δ x))) 100)) = 0 then (true, δ (δ (δ x)), a.make (drV (δ x) a.nt) (drV (δ (δ x)) a.np) (nI (drV (δ (δ (δ x))) 100))) else (false, δ (δ (δ x)), a)
def TA.dby (a : TA) (δ : Int32 → Int32) (x : Int32) : Nat := if drV (δ (δ x)) 2 = 0 then a.gi (drV (δ x) a.nd) else a.ta (drV (δ x) a.nd)
def TA.undid (a : TA) (δ : Int32 → Int32) (x : Int32) : Bool × Int32 × TA := if a.nd = 0 then (false, x, a) else if a.whyU (drV (δ x) a.nd) (a.dby δ x) = 0 then (true, δ (δ x), a.fell (drV (δ x) a.nd) (a.dby δ x)) else (false, δ (δ x), a)
def TA.dayS (a : TA) (δ : Int32 → Int32) (x : Int32) : Bool × Int32 × TA := if drV (δ x) 3 = 2 then a.undid δ (δ x) else a.dealt δ (δ x)
def TA.days (δ : Int32 → Int32) : Nat → Int32 → Int32 → TA → Int32 × TA
  | 0, _, c, a => (c, a)
  | k + 1, x, c, a => TA.days δ k (a.dayS δ x).2.1 (if (a.dayS δ x).1 = true then c + 1 else c) (a.dayS δ x).2.2
section day
variable {δ : Int32 → Int32} {N : Nat} {G G2 : Nat → Nat → Int32} {J J2 : Nat → Nat → Int64} {a : TA} {s s2 : SA} {xs : Nat → Int32} {i : Int32}
theorem dby_lt (I : a.I) (x : Int32) (h : 0 < a.nd) : a.dby δ x < a.np := by
  have := drV_lt (δ x) h
  unfold TA.dby
  split
  · exact I.gi _ this
  · exact I.ta _ this
theorem dayS_I (I : a.I) (x : Int32) (ht : 0 < a.nt) (hp : 0 < a.np) : (a.dayS δ x).2.2.I ∧ (a.dayS δ x).2.2.nt = a.nt ∧ (a.dayS δ x).2.2.np = a.np := by
  unfold TA.dayS
  split
  · unfold TA.undid
    by_cases h0 : a.nd = 0
    · rw [if_pos h0]; exact ⟨I, rfl, rfl⟩
    · rw [if_neg h0]
      have hd := drV_lt (δ (δ x)) (m := a.nd) (by omega)
      by_cases hw : a.whyU (drV (δ (δ x)) a.nd) (a.dby δ (δ x)) = 0
      · rw [if_pos hw]
        exact ⟨I.fell hd (whyU0 hw), fell_nt _ _ _, fell_np _ _ _⟩
      · rw [if_neg hw]; exact ⟨I, rfl, rfl⟩
  · unfold TA.dealt
    by_cases hw : a.whyS (drV (δ (δ x)) a.nt) (drV (δ (δ (δ x))) a.np) (nI (drV (δ (δ (δ (δ x)))) 100)) = 0
    · rw [if_pos hw]
      obtain ⟨w1, w2, w3⟩ := whyS0 hw
      exact ⟨I.make (drV_lt _ ht) (drV_lt _ hp) w1 w2 w3, rfl, rfl⟩
    · rw [if_neg hw]; exact ⟨I, rfl, rfl⟩
theorem days_I : ∀ (k : Nat) (x c : Int32) (a : TA), a.I → 0 < a.nt → 0 < a.np → (TA.days δ k x c a).2.I
  | 0, _, _, _, I, _, _ => I
  | k + 1, x, c, a, I, ht, hp => by
    obtain ⟨h1, h2, h3⟩ := dayS_I I x ht hp
    rw [TA.days]
    exact days_I k _ _ _ h1 (by rw [h2]; exact ht) (by rw [h3]; exact hp)
theorem c_draw {x : Int32} {m : Nat} (hx : G 0 0 = x) (h0 : 0 < m) (hm : m < 2147483648) : p_X0_draw N (jvw G 0) (nI m) = some (nI (drV (drN x) m), jup (jvw G 0) 0 0 (drN x)) := by
  have e : jvw G 0 0 0 = x := hx
  have e2 : jup (jvw G 0) 0 0 (1103515245 * x + 12345) 0 0 = drN x := by rw [jup_s, upd_s]; rfl
  unfold p_X0_draw
  rw [jlt_eq, e, if_pos (show (0 : Int32) < nI m by rw [← nI_0]; exact nI_lt h0 hm), if_neg (nI_ne0 h0 hm), e2, dr_v _ h0 hm]
  rfl
theorem drG0 (x : Int32) : jpt G 0 1 (jup (jvw G 0) 0 0 x) 0 0 = x := by
  have : jpt G 0 1 (jup (jvw G 0) 0 0 x) 0 = jup (jvw G 0) 0 0 x 0 := jpt_i (b := 0) (c := 0) (by omega)
  rw [this, jup_s, upd_s]
theorem drGc {x : Int32} {c : Nat} (h : 1 ≤ c) : jpt G 0 1 (jup (jvw G 0) 0 0 x) c = G c := jpt_o (by omega)
theorem drGR {x : Int32} (R : RC (jvw G 1) a) : RC (jvw (jpt G 0 1 (jup (jvw G 0) 0 0 x)) 1) a := R.cg (fun c _ => drGc (by omega))
theorem c_deals (Hc : ∀ (G : Nat → Nat → Int32) (x : Int32) (m : Nat), G 0 0 = x → 0 < m → m < 2147483648 → p_X0_draw N (jvw G 0) (nI m) = some (nI (drV (δ x) m), jup (jvw G 0) 0 0 (δ x))) (R : RC (jvw G 1) a) (I : a.I) {x : Int32} (hx : G 0 0 = x) (ht : 0 < a.nt) (hp : 0 < a.np) : Ok (p_X0_deals N G) (fun r => r.1 = bI (a.dealt δ x).1 ∧ r.2 0 0 = (a.dealt δ x).2.1 ∧ RC (jvw r.2 1) (a.dealt δ x).2.2) := by
  have h1 := I.nt
  have h2 := I.np
  have e2 : G 1 2 = nI a.nt := R.nt
  have e100 : (100 : Int32) = nI 100 := by decide
  unfold p_X0_deals TA.dealt
  rw [e2, Hc _ _ _ hx ht (by omega), Option.bind_some, jlt_eq]
  dsimp only
  have A0 := drG0 (G := G) (δ x)
  have A1 := drGR (x := δ x) R
  generalize jpt G 0 1 (jup (jvw G 0) 0 0 (δ x)) = G3 at A0 A1 ⊢
  have e1 : G3 1 1 = nI a.np := A1.np
  rw [e1, Hc _ _ _ A0 hp (by omega), Option.bind_some, jlt_eq]
  dsimp only
  have B0 := drG0 (G := G3) (δ (δ x))
  have B1 := drGR (x := δ (δ x)) A1
  generalize jpt G3 0 1 (jup (jvw G3 0) 0 0 (δ (δ x))) = G7 at B0 B1 ⊢
  rw [e100, Hc _ _ _ B0 (by omega) (by omega), Option.bind_some, jlt_eq]
  dsimp only
  have C0 := drG0 (G := G7) (δ (δ (δ x)))
  have C1 := drGR (x := δ (δ (δ x))) B1
  generalize jpt G7 0 1 (jup (jvw G7 0) 0 0 (δ (δ (δ x)))) = G11 at C0 C1 ⊢
  have t1 := drV_lt (δ x) ht
  have t2 := drV_lt (δ (δ x)) hp
  rw [c_whyS C1 I t1 t2, Option.bind_some]
  by_cases hw : a.whyS (drV (δ x) a.nt) (drV (δ (δ x)) a.np) (nI (drV (δ (δ (δ x))) 100)) = 0
  · obtain ⟨w1, w2, w3⟩ := whyS0 hw
    rw [if_pos hw, if_pos hw]
    refine Ok.b (c_make C1 I t1 t2 w1 w3) ?_
    rintro ⟨v, g⟩ ⟨_, g2⟩
    exact Ok.s ⟨rfl, C0, g2.cg (fun c hc => jvw_pt hc)⟩
  · rw [if_neg hw, if_neg hw]
    exact Ok.s ⟨rfl, C0, C1⟩
theorem c_undoes (Hc : ∀ (G : Nat → Nat → Int32) (x : Int32) (m : Nat), G 0 0 = x → 0 < m → m < 2147483648 → p_X0_draw N (jvw G 0) (nI m) = some (nI (drV (δ x) m), jup (jvw G 0) 0 0 (δ x))) (hN : 2000 ≤ N) (R : RC (jvw G 1) a) (I : a.I) {x : Int32} (hx : G 0 0 = x) : Ok (p_X0_undoes N G) (fun r => r.1 = bI (a.undid δ x).1 ∧ r.2 0 0 = (a.undid δ x).2.1 ∧ RC (jvw r.2 1) (a.undid δ x).2.2) := by
  have h1 := I.nd
  have e7 : G 1 7 = nI a.nd := R.nd
  have ez : (2 : Int32) = nI 2 := by decide
  unfold p_X0_undoes TA.undid
  rw [e7]
  by_cases h0 : a.nd = 0
  · rw [if_pos h0, if_pos (by rw [h0]; decide)]
    exact Ok.s ⟨rfl, hx, R⟩
  · rw [if_neg h0, if_neg (nI_ne0 (by omega) (by omega)), Hc _ _ _ hx (by omega) (by omega), Option.bind_some, jlt_eq]
    dsimp only
    have A0 := drG0 (G := G) (δ x)
    have A1 := drGR (x := δ x) R
    generalize jpt G 0 1 (jup (jvw G 0) 0 0 (δ x)) = G3 at A0 A1 ⊢
    rw [ez, Hc _ _ _ A0 (by omega) (by omega), Option.bind_some, jlt_eq]
    dsimp only
    have B0 := drG0 (G := G3) (δ (δ x))
    have B1 := drGR (x := δ (δ x)) A1
    generalize jpt G3 0 1 (jup (jvw G3 0) 0 0 (δ (δ x))) = G7 at B0 B1 ⊢
    have hd := drV_lt (δ x) (m := a.nd) (by omega)
    have hp := dby_lt (δ := δ) I x (by omega)
    have hs : p_X3_sideOf N (jvw G7 1) (nI (drV (δ x) a.nd)) (nI (drV (δ (δ x)) 2)) = some (nI (a.dby δ x)) := by
      have := drV_lt (δ (δ x)) (m := 2) (by omega)
      unfold TA.dby
      rcases (by omega : drV (δ (δ x)) 2 = 0 ∨ drV (δ (δ x)) 2 = 1) with e | e
      · rw [e, if_pos rfl]; exact c_side0 B1 I hd
      · rw [e, if_neg (by decide)]; exact c_side1 B1 I hd
    rw [hs, Option.bind_some, c_whyU hN B1 I hd hp, Option.bind_some]
    by_cases hw : a.whyU (drV (δ x) a.nd) (a.dby δ x) = 0
    · rw [if_pos hw, if_pos hw]
      refine Ok.b (c_fell hN B1 I hd hp) ?_
      rintro ⟨v, g⟩ ⟨_, g2, _⟩
      exact Ok.s ⟨rfl, B0, g2.cg (fun c hc => jvw_pt hc)⟩
    · rw [if_neg hw, if_neg hw]
      exact Ok.s ⟨rfl, B0, B1⟩
theorem c_spend (Hc : ∀ (G : Nat → Nat → Int32) (x : Int32) (m : Nat), G 0 0 = x → 0 < m → m < 2147483648 → p_X0_draw N (jvw G 0) (nI m) = some (nI (drV (δ x) m), jup (jvw G 0) 0 0 (δ x))) (hN : 2000 ≤ N) {T : Nat} (hT : T ≤ 40) : ∀ (k j n : Nat) (G : Nat → Nat → Int32) (x c : Int32) (a : TA), a.I → 0 < a.nt → 0 < a.np → RC (jvw G 1) a → G 0 0 = x → j + k = T → k < n → Ok (p_X0_spend_b5 N n G (nI T) c (nI j)) (fun r => r.1 = (TA.days δ k x c a).1 ∧ RC (jvw r.2 1) (TA.days δ k x c a).2)
  | 0, j, n, G, x, c, a, I, ht, hp, R, hx, hj, hn => by
    obtain ⟨q, rfl⟩ : ∃ q, n = q + 1 := ⟨n - 1, by omega⟩
    have e : j = T := by omega
    subst e
    rw [p_X0_spend_b5, if_pos (nI_le (Nat.le_refl _) (by omega))]
    exact Ok.s ⟨rfl, R⟩
  | k + 1, j, n, G, x, c, a, I, ht, hp, R, hx, hj, hn => by
    obtain ⟨q, rfl⟩ : ∃ q, n = q + 1 := ⟨n - 1, by omega⟩
    have ez : (3 : Int32) = nI 3 := by decide
    have ez2 : (2 : Int32) = nI 2 := by decide
    rw [p_X0_spend_b5, if_neg (nI_ge (by omega) (by omega)), ez, Hc _ _ _ hx (by omega) (by omega), Option.bind_some, jlt_eq]
    dsimp only
    have A0 := drG0 (G := G) (δ x)
    have A1 := drGR (x := δ x) R
    generalize jpt G 0 1 (jup (jvw G 0) 0 0 (δ x)) = G3 at A0 A1 ⊢
    obtain ⟨i1, i2, i3⟩ := dayS_I I x ht hp
    have hv := drV_lt (δ x) (m := 3) (by omega)
    have next : ∀ (b : Bool) (G5 : Nat → Nat → Int32), b = (a.dayS δ x).1 → G5 0 0 = (a.dayS δ x).2.1 → RC (jvw G5 1) (a.dayS δ x).2.2 → Ok (if bI b = 0 then p_X0_spend_b42 N (p_X0_spend_b5 N q) G5 (nI T) c (nI j) else p_X0_spend_b39 N (p_X0_spend_b5 N q) G5 (nI T) c (nI j)) (fun r => r.1 = (TA.days δ (k + 1) x c a).1 ∧ RC (jvw r.2 1) (TA.days δ (k + 1) x c a).2) := by
      intro b G5 hb h5 R5
      have rec0 := fun c => c_spend Hc hN hT k (j + 1) q G5 (a.dayS δ x).2.1 c (a.dayS δ x).2.2 i1 (by rw [i2]; exact ht) (by rw [i3]; exact hp) R5 h5 (by omega) (by omega)
      rw [TA.days, ← hb]
      cases b
      · rw [bI_f, if_pos rfl, p_X0_spend_b42, nI_1]
        exact rec0 c
      · rw [bI_t, if_neg i10, p_X0_spend_b39, p_X0_spend_b42, nI_1]
        exact rec0 (c + 1)
    by_cases h3 : drV (δ x) 3 = 2
    · rw [h3, if_pos (by decide)]
      have e : a.dayS δ x = a.undid δ (δ x) := by unfold TA.dayS; rw [if_pos h3]
      refine Ok.b (c_undoes Hc hN A1 I A0) ?_
      rintro ⟨v, G5⟩ ⟨v1, v2, v3⟩
      have v4 : v = bI (a.undid δ (δ x)).1 := v1
      subst v4
      rw [jlt_eq]
      exact next _ G5 (by rw [e]) (by rw [e]; exact v2) (by rw [e]; exact v3)
    · rw [if_neg (fun h => h3 (by
        rw [ez2] at h
        exact (nI_eq (by omega) (by omega)).mp h))]
      have e : a.dayS δ x = a.dealt δ (δ x) := by unfold TA.dayS; rw [if_neg h3]
      refine Ok.b (c_deals Hc A1 I A0 ht hp) ?_
      rintro ⟨v, G5⟩ ⟨v1, v2, v3⟩
      have v4 : v = bI (a.dealt δ (δ x)).1 := v1
      subst v4
      rw [jlt_eq]
      exact next _ G5 (by rw [e]) (by rw [e]; exact v2) (by rw [e]; exact v3)
/-- the reference -/
def KD (G G2 : Nat → Nat → Int32) : Prop := (∀ i, i ≠ 18 → G2 0 i = G 0 i) ∧ ∀ c, c ≠ 0 → c ≠ 1 → c ≠ 3 → G2 c = G c
theorem KD.refl : KD G G := ⟨fun _ _ => rfl, fun _ _ _ _ => rfl⟩
theorem KD.trans {G3 : Nat → Nat → Int32} (h : KD G G2) (h2 : KD G2 G3) : KD G G3 := ⟨fun i hi => (h2.1 i hi).trans (h.1 i hi), fun c h0 h1 h3 => (h2.2 c h0 h1 h3).trans (h.2 c h0 h1 h3)⟩
theorem KD.of13 (h : ∀ c, c ≠ 1 → c ≠ 3 → G2 c = G c) : KD G G2 := ⟨fun i _ => by rw [h 0 (by decide) (by decide)], fun c _ h1 h3 => h c h1 h3⟩
theorem KD.dr (x : Int32) : KD G (jup G 0 18 x) := ⟨fun i hi => by rw [jup_s, upd_n _ _ hi], fun c h0 _ _ => jup_n _ _ h0⟩
theorem KD.km (h : KD G G2) : KM G G2 := ⟨fun i hi => h.1 i (by omega), fun c hc => h.2 c (by omega) (by omega) (by omega)⟩
theorem m_draw {x : Int32} {m : Nat} (hx : G 0 18 = x) (h0 : 0 < m) (hm : m < 2147483648) : p_X6_draw N G J (nI m) = some (nI (drV (drN x) m), jup G 0 18 (drN x)) := by
  have e2 : jup G 0 18 (1103515245 * x + 12345) 0 18 = drN x := by rw [jup_s, upd_s]; rfl
  unfold p_X6_draw
  rw [jlt_eq, hx, if_neg (nI_ne0 h0 hm), e2, dr_v _ h0 hm]
  rfl
theorem drM (x : Int32) : jup G 0 18 x 0 18 = x := by rw [jup_s, upd_s]
theorem drR {x : Int32} (R : RM (G 1) a) : RM (jup G 0 18 x 1) a := by rw [jup_n _ _ (by decide)]; exact R
theorem m_drawn (Hm : ∀ (G : Nat → Nat → Int32) (x : Int32) (m : Nat), G 0 18 = x → 0 < m → m < 2147483648 → p_X6_draw N G J (nI m) = some (nI (drV (δ x) m), jup G 0 18 (δ x))) (hN : 2000 ≤ N) (R : RM (G 1) a) (I : a.I) {x : Int32} (hx : G 0 18 = x) (ht : 0 < a.nt) (hp : 0 < a.np) : Ok (p_X6_drawn N G J) (fun r => r.1 = bI (a.dayS δ x).1 ∧ r.2 0 18 = (a.dayS δ x).2.1 ∧ RM (r.2 1) (a.dayS δ x).2.2 ∧ KD G r.2) := by
  have h1 := I.nt
  have h2 := I.np
  have h7 := I.nd
  have ez3 : (3 : Int32) = nI 3 := by decide
  have ez2 : (2 : Int32) = nI 2 := by decide
  have ez100 : (100 : Int32) = nI 100 := by decide
  have hv := drV_lt (δ x) (m := 3) (by omega)
  unfold p_X6_drawn
  rw [ez3, Hm _ _ _ hx (by omega) (by omega), Option.bind_some, jlt_eq]
  dsimp only
  have A0 := drM (G := G) (δ x)
  have A1 := drR (x := δ x) R
  have A2 := KD.dr (G := G) (δ x)
  generalize jup G 0 18 (δ x) = G3 at A0 A1 A2 ⊢
  by_cases h3 : drV (δ x) 3 = 2
  · have e : a.dayS δ x = a.undid δ (δ x) := by unfold TA.dayS; rw [if_pos h3]
    rw [e, h3, if_pos (by decide)]
    unfold TA.undid
    by_cases h0 : a.nd = 0
    · rw [if_pos h0, if_pos (by rw [A1.nd, h0]; decide)]
      exact Ok.s ⟨rfl, A0, A1, A2⟩
    · rw [if_neg h0, if_neg (by rw [A1.nd]; exact nI_ne0 (by omega) (by omega)), A1.nd, Hm _ _ _ A0 (by omega) (by omega), Option.bind_some, jlt_eq]
      dsimp only
      have B0 := drM (G := G3) (δ (δ x))
      have B1 := drR (x := δ (δ x)) A1
      have B2 := A2.trans (KD.dr (δ (δ x)))
      generalize jup G3 0 18 (δ (δ x)) = G7 at B0 B1 B2 ⊢
      rw [ez2, Hm _ _ _ B0 (by omega) (by omega), Option.bind_some, jlt_eq]
      dsimp only
      have C0 := drM (G := G7) (δ (δ (δ x)))
      have C1 := drR (x := δ (δ (δ x))) B1
      have C2 := B2.trans (KD.dr (δ (δ (δ x))))
      generalize jup G7 0 18 (δ (δ (δ x))) = G11 at C0 C1 C2 ⊢
      have hd := drV_lt (δ (δ x)) (m := a.nd) (by omega)
      have hb := dby_lt (δ := δ) I (δ x) (by omega)
      have go : ∀ y, p_X6_of N G11 J (nI (drV (δ (δ x)) a.nd)) y = some (nI (a.dby δ (δ x))) → Ok (p_X6_drawn_b99 N J G11 (nI (drV (δ (δ x)) a.nd)) y (nI (drV (δ (δ x)) a.nd))) (fun r => r.1 = bI (if a.whyU (drV (δ (δ x)) a.nd) (a.dby δ (δ x)) = 0 then (true, δ (δ (δ x)), a.fell (drV (δ (δ x)) a.nd) (a.dby δ (δ x))) else (false, δ (δ (δ x)), a)).1 ∧ r.2 0 18 = (if a.whyU (drV (δ (δ x)) a.nd) (a.dby δ (δ x)) = 0 then (true, δ (δ (δ x)), a.fell (drV (δ (δ x)) a.nd) (a.dby δ (δ x))) else (false, δ (δ (δ x)), a)).2.1 ∧ RM (r.2 1) (if a.whyU (drV (δ (δ x)) a.nd) (a.dby δ (δ x)) = 0 then (true, δ (δ (δ x)), a.fell (drV (δ (δ x)) a.nd) (a.dby δ (δ x))) else (false, δ (δ (δ x)), a)).2.2 ∧ KD G r.2) := by
        intro y hy
        unfold p_X6_drawn_b99
        rw [hy, Option.bind_some]
        refine Ok.b (m_whyNot hN C1 I hd hb rfl) ?_
        rintro ⟨v, G12⟩ ⟨v1, v2, v3⟩
        have v4 : v = a.whyU (drV (δ (δ x)) a.nd) (a.dby δ (δ x)) := v1
        subst v4
        rw [jlt_eq]
        have D0 : G12 0 18 = δ (δ (δ x)) := by rw [show G12 0 = G11 0 from v3 0 (by decide) (by decide)]; exact C0
        by_cases hw : a.whyU (drV (δ (δ x)) a.nd) (a.dby δ (δ x)) = 0
        · rw [if_pos hw, if_pos hw]
          refine Ok.b (m_undoes hN v2 I hd hb (whyU0 hw)) ?_
          rintro ⟨w, G13⟩ ⟨_, w2, w3⟩
          refine Ok.s ⟨rfl, ?_, w2, (C2.trans (KD.of13 v3)).trans (KD.of13 (fun c c1 _ => w3 c c1))⟩
          show G13 0 18 = _
          rw [show G13 0 = G12 0 from w3 0 (by decide)]; exact D0
        · rw [if_neg hw, if_neg hw]
          exact Ok.s ⟨rfl, D0, v2, C2.trans (KD.of13 v3)⟩
      have hlt := drV_lt (δ (δ (δ x))) (m := 2) (by omega)
      rcases (by omega : drV (δ (δ (δ x))) 2 = 0 ∨ drV (δ (δ (δ x))) 2 = 1) with e0 | e0
      · rw [e0, if_pos (by decide)]
        refine go 1 ?_
        rw [m_of1 C1 I.nd hd]
        unfold TA.dby
        rw [if_pos e0]
      · rw [e0, if_neg (by decide)]
        refine go (nI 2) ?_
        show p_X6_of N G11 J _ 2 = _
        rw [m_of2 C1 I.nd hd]
        unfold TA.dby
        rw [if_neg (by omega)]
  · have e : a.dayS δ x = a.dealt δ (δ x) := by unfold TA.dayS; rw [if_neg h3]
    rw [e, if_neg (by rw [ez2]; exact nI_ge (by omega) (by omega)), A1.nt]
    unfold TA.dealt
    rw [Hm _ _ _ A0 ht (by omega), Option.bind_some, jlt_eq]
    dsimp only
    have B0 := drM (G := G3) (δ (δ x))
    have B1 := drR (x := δ (δ x)) A1
    have B2 := A2.trans (KD.dr (δ (δ x)))
    generalize jup G3 0 18 (δ (δ x)) = G7 at B0 B1 B2 ⊢
    rw [B1.np, Hm _ _ _ B0 hp (by omega), Option.bind_some, jlt_eq]
    dsimp only
    have C0 := drM (G := G7) (δ (δ (δ x)))
    have C1 := drR (x := δ (δ (δ x))) B1
    have C2 := B2.trans (KD.dr (δ (δ (δ x))))
    generalize jup G7 0 18 (δ (δ (δ x))) = G11 at C0 C1 C2 ⊢
    rw [ez100, Hm _ _ _ C0 (by omega) (by omega), Option.bind_some, jlt_eq]
    dsimp only
    have D0 := drM (G := G11) (δ (δ (δ (δ x))))
    have D1 := drR (x := δ (δ (δ (δ x)))) C1
    have D2 := C2.trans (KD.dr (δ (δ (δ (δ x)))))
    generalize jup G11 0 18 (δ (δ (δ (δ x)))) = G15 at D0 D1 D2 ⊢
    have t1 := drV_lt (δ (δ x)) ht
    have t2 := drV_lt (δ (δ (δ x))) hp
    rw [m_whyS D1 I t1 t2, Option.bind_some]
    by_cases hw : a.whyS (drV (δ (δ x)) a.nt) (drV (δ (δ (δ x))) a.np) (nI (drV (δ (δ (δ (δ x)))) 100)) = 0
    · obtain ⟨w1, w2, w3⟩ := whyS0 hw
      rw [if_pos hw, if_pos hw]
      refine Ok.b (m_sells D1 I t1 t2 w1 w3) ?_
      rintro ⟨v, g⟩ ⟨_, g2, g3⟩
      refine Ok.s ⟨rfl, ?_, g2, D2.trans (KD.of13 (fun c c1 _ => g3 c c1))⟩
      show g 0 18 = _
      rw [show g 0 = G15 0 from g3 0 (by decide)]; exact D0
    · rw [if_neg hw, if_neg hw]
      exact Ok.s ⟨rfl, D0, D1, D2⟩
theorem m_day (Hm : ∀ (G : Nat → Nat → Int32) (x : Int32) (m : Nat), G 0 18 = x → 0 < m → m < 2147483648 → p_X6_draw N G J (nI m) = some (nI (drV (δ x) m), jup G 0 18 (δ x))) (hN : 2000 ≤ N) {T : Nat} (hT : T ≤ 40) : ∀ (k j n : Nat) (G : Nat → Nat → Int32) (x c : Int32) (a : TA), a.I → 0 < a.nt → 0 < a.np → RM (G 1) a → G 0 18 = x → j + k = T → k < n → Ok (p_X6_day_b33 N J n G (nI T) c (nI j)) (fun r => r.1 = (TA.days δ k x c a).1 ∧ RM (r.2 1) (TA.days δ k x c a).2 ∧ KD G r.2)
  | 0, j, n, G, x, c, a, I, ht, hp, R, hx, hj, hn => by
    obtain ⟨q, rfl⟩ : ∃ q, n = q + 1 := ⟨n - 1, by omega⟩
    have e : j = T := by omega
    subst e
    rw [p_X6_day_b33, if_pos (nI_le (Nat.le_refl _) (by omega))]
    exact Ok.s ⟨rfl, R, KD.refl⟩
  | k + 1, j, n, G, x, c, a, I, ht, hp, R, hx, hj, hn => by
    obtain ⟨q, rfl⟩ : ∃ q, n = q + 1 := ⟨n - 1, by omega⟩
    have h1 := I.nt
    rw [p_X6_day_b33, if_neg (nI_ge (by omega) (by omega)), R.nt, if_neg (nI_nle ht (by omega))]
    obtain ⟨i1, i2, i3⟩ := dayS_I I x ht hp
    refine Ok.b (m_drawn Hm hN R I hx ht hp) ?_
    rintro ⟨v, G5⟩ ⟨v1, v2, v3, v4⟩
    have v5 : v = bI (a.dayS δ x).1 := v1
    subst v5
    have rec0 := fun c => m_day Hm hN hT k (j + 1) q G5 (a.dayS δ x).2.1 c (a.dayS δ x).2.2 i1 (by rw [i2]; exact ht) (by rw [i3]; exact hp) v3 v2 (by omega) (by omega)
    rw [jlt_eq, TA.days]
    dsimp only
    cases (a.dayS δ x).1
    · rw [bI_f, if_pos rfl, p_X6_day_b61, nI_1, Int32.add_zero]
      exact (rec0 c).c (fun r hr => ⟨hr.1, hr.2.1, v4.trans hr.2.2⟩)
    · rw [bI_t, if_neg i10, p_X6_day_b61, nI_1]
      exact (rec0 (c + 1)).c (fun r hr => ⟨hr.1, hr.2.1, v4.trans hr.2.2⟩)
theorem L40 : (40 : Int64).toInt = 40 := by decide
theorem case_18 (hN : 2000 ≤ N) (hL : LR G J s) : Ok (p_case_18 N xs G J i) (fun r => ∃ s, LR r.1 r.2 s) := by
  have X := hL.1.w
  have R := X.now
  have I := hL.2.2.now
  have h1 := I.nt
  unfold p_case_18 p_L_day
  generalize xs (i + 1).toNatClampNeg = x
  generalize xs (i + 2).toNatClampNeg = y
  have ty : y.toInt64.toInt = y.toInt := Int32.toInt_toInt64 y
  have e1 : (y < 1) = (y.toInt < 1) := propext (Int32.lt_iff_toInt_lt.trans (by rfl))
  have e40 : (y ≤ 40) = (y.toInt ≤ 40) := propext (Int32.le_iff_toInt_le.trans (by rfl))
  have e2 : jvw (jv2 G 0 70 85) 0 1 2 = nI s.now.nt := R.nt
  by_cases hy : 1 ≤ y.toInt ∧ y.toInt ≤ 40
  · obtain ⟨T, hT, rfl⟩ : ∃ T : Nat, T ≤ 40 ∧ y = nI T := ⟨y.toInt.toNat, by omega, iiN (by omega) (by omega)⟩
    by_cases h0 : s.now.nt = 0
    · refine k_M hL (m := fun g j => p_X6_day N g j x (nI T)) 0 0 s hL.2.2 (Or.inl ⟨jvw (jv2 G 0 70 85) 0, ?_, rfl, X⟩) ?_
      · unfold p_X5_day
        rw [if_neg (by rw [e1]; omega), if_pos (by rw [e40]; omega), e2, if_pos (by rw [h0]; decide)]
      · intro g j M
        unfold p_X6_day
        rw [jlt_eq, w_t (by rw [L1, L40, ty]; exact hy), Option.bind_some, if_neg i10, jlt_eq]
        obtain ⟨q, hq⟩ : ∃ q, N = q + 1 := ⟨N - 1, by omega⟩
        have z : ∀ g2, RM (g2 1) s.now → p_X6_day_b33 N j N g2 (nI T) 0 0 = some (0, g2) := by
          intro g2 R2
          rw [hq, p_X6_day_b33, R2.nt, h0]
          rw [if_pos (show nI 0 ≤ 0 by decide), ite_self]
        rw [z _ (by rw [jup_n _ _ (by decide)]; exact thrR M.now 0)]
        have K : KM g (jup (jup g 0 5 0) 0 18 x) := (KM.thr 0).trans (KD.dr x).km
        refine Ok.s ⟨fun _ => rfl, ?_, M.k (by show RM (jup (jup g 0 5 0) 0 18 x 1) _; rw [jup_n _ _ (by decide)]; exact thrR M.now 0) K rfl (SA.eta s)⟩
        show jup (jup g 0 5 0) 0 18 x 0 5 = 0
        rw [jup_s, upd_n _ _ (by decide), e05]
    · have ht : 0 < s.now.nt := by omega
      have hp : 0 < s.now.np := Nat.lt_of_le_of_lt (Nat.zero_le _) (I.ho 0 ht)
      have hg : RC (jvw (gDT (jvw (jv2 G 0 70 85) 0) x) 1) s.now := R.cg (fun c _ => by
        show gDT (jvw (jv2 G 0 70 85) 0) x (1 + c) = jvw (jv2 G 0 70 85) 0 (1 + c)
        unfold gDT
        rw [if_neg (by omega), Nat.add_sub_cancel_left])
      obtain ⟨⟨v, g⟩, r1, r2, r3⟩ := c_spend (δ := drN) (fun _ _ _ h1 h2 h3 => c_draw h1 h2 h3) hN hT T 0 N (gDT (jvw (jv2 G 0 70 85) 0) x) x 0 s.now I ht hp hg rfl (by omega) (by omega)
      have r4 : v = (TA.days drN T x 0 s.now).1 := r2
      refine k_M hL (m := fun g j => p_X6_day N g j x (nI T)) 0 (TA.days drN T x 0 s.now).1 (s.to (TA.days drN T x 0 s.now).2) (hL.2.2.to (days_I (δ := drN) T x 0 _ I ht hp)) (Or.inl ⟨jpt (jvw (jv2 G 0 70 85) 0) 1 9 (fun k => g (1 + k)), ?_, rfl, X.town r3⟩) ?_
      · unfold p_X5_day p_X0_spend
        rw [if_neg (by rw [e1]; omega), if_pos (by rw [e40]; omega), e2, if_neg (nI_ne0 ht (by omega))]
        have r1' : p_X0_spend_b5 N N (gDT (jvw (jv2 G 0 70 85) 0) x) (nI T) 0 0 = some (v, g) := r1
        rw [r1', ← r4]
        rfl
      · intro g j M
        unfold p_X6_day
        rw [jlt_eq, w_t (by rw [L1, L40, ty]; exact hy), Option.bind_some, if_neg i10, jlt_eq]
        refine (m_day (δ := drN) (fun _ _ _ h1 h2 h3 => m_draw h1 h2 h3) hN hT T 0 N (jup (jup g 0 5 0) 0 18 x) x 0 s.now I ht hp (by rw [jup_n _ _ (by decide)]; exact thrR M.now 0) (drM x) (by omega) (by omega)).c ?_
        rintro ⟨w, G5⟩ ⟨w1, w2, w3⟩
        refine ⟨fun _ => w1, ?_, M.k w2 (((KM.thr 0).trans (KD.dr x).km).trans w3.km) rfl rfl⟩
        show G5 0 5 = 0
        rw [show G5 0 5 = _ from w3.1 5 (by decide), jup_s, upd_n _ _ (by decide), e05]
  · refine k_M hL (m := fun g j => p_X6_day N g j x y) 1 0 s hL.2.2 (Or.inr ⟨3, ?_, by decide, rfl, rfl⟩) ?_
    · unfold p_X5_day
      by_cases h : y < 1
      · rw [if_pos h]
      · rw [if_neg h, if_neg (by rw [e40]; rw [e1] at h; omega)]
    · intro g j M
      unfold p_X6_day
      rw [jlt_eq, w_f (by rw [L1, L40, ty]; exact hy), Option.bind_some, if_pos rfl]
      have b := MB.f (k := 1) (v := 0) (w := 0) (x := 0) M.now (fun h => absurd h i10)
      exact Ok.s ⟨b.1, b.2.1, M.k b.2.2.2 b.2.2.1 rfl (SA.eta s)⟩
end day

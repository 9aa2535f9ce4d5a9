/-! the class reads a text -/
section cread2
variable {N : Nat} {G G2 : Nat → Nat → Int32} {tp : Nat → Nat} {lim : Nat} {t : Nat × Nat × Nat × Nat} {l : LA}
theorem PC.jz {A : Nat → Nat → Int32} {e : (Nat × Nat) ⊕ ((Nat × Nat × Nat × Nat) × LA)} {r : Int32 × (Nat → Nat → Int32)} (h : PC tp lim A e r) : jz r.1 = true := by
  cases e with
  | inl e => have h1 : r.1 = 0 := h.1; rw [h1]; decide
  | inr e => have h1 : r.1 = 1 := h.1; rw [h1]; decide
theorem c_rdN (hN : 2000 ≤ N) (hlim : lim ≤ 900) (htp : ∀ k, tp k < 256) (I : l.I) (T : TC (jvw G 0) tp lim t) (hk : tkOk lim t) (C : CB (jvw G 2) l) {k : Nat} (hk7 : k < 7) (h0 : k = 0 → l.nt = 0) (h2 : k = 2 → l.nt < 10) : Ok (p_X2_readNumbers N G (nI k)) (PC tp lim G (rdN tp lim t l k)) := by
  unfold p_X2_readNumbers
  rw [nI_toInt (by omega)]
  have fin : ∀ {e : (Nat × Nat) ⊕ ((Nat × Nat × Nat × Nat) × LA)} {o : Option (Int32 × (Nat → Nat → Int32))}, Ok o (PC tp lim G e) → Ok (o.bind (fun v => jlt v.2 fun G9 => if jz v.1 = true then some (v.1, G9) else none)) (PC tp lim G e) := by
    intro e o h
    refine Ok.b h ?_
    rintro ⟨u, g⟩ h2
    rw [jlt_eq, if_pos h2.jz]
    exact Ok.s h2
  match k, hk7, h0, h2 with
  | 0, _, h0, _ => exact fin (c_rd0 hN hlim htp (h0 rfl) T hk C)
  | 1, _, _, _ => exact fin (c_rd1 hN hlim htp I T hk C)
  | 2, _, _, h2 => exact fin (c_rd2 hN hlim htp I (h2 rfl) T hk C)
  | 3, _, _, _ => exact fin (c_rd3 hN hlim htp I T hk C)
  | 4, _, _, _ => exact fin (c_rd4 hN hlim htp T hk C)
  | 5, _, _, _ => exact fin (c_rd5 hN hlim htp T hk C)
  | 6, _, _, _ => exact fin (c_rd6 hN hlim htp I T hk C)
  | k + 7, h, _, _ => exact absurd h (by omega)
theorem bI_f0 {b : Bool} (h : ¬ b = true) : bI b = 0 := by
  rw [Bool.eq_false_iff.mpr h]; decide
theorem bI_t1 {b : Bool} (h : b = true) : ¬ bI b = 0 := by
  rw [h]; decide
def kx (k : Nat) : Int32 := if k = 7 then -1 else nI k
theorem c_kind (hN : 2000 ≤ N) (hlim : lim ≤ 900) (htp : ∀ k, tp k < 256) (hk : tkOk lim t) (T : TC G tp lim t) : p_X2_kindOfLine N G = some (kx (kd tp t)) := by
  unfold p_X2_kindOfLine kd
  rw [c_isW0 hN hlim htp hk T, Option.bind_some]
  by_cases a0 : isW tp t 0 = true
  · rw [if_neg (bI_t1 a0), if_pos a0]; decide
  · rw [if_pos (bI_f0 a0), if_neg a0, c_isW1 hN hlim htp hk T, Option.bind_some]
    by_cases a1 : isW tp t 1 = true
    · rw [if_neg (bI_t1 a1), if_pos a1]; decide
    · rw [if_pos (bI_f0 a1), if_neg a1, c_isW2 hN hlim htp hk T, Option.bind_some]
      by_cases a2 : isW tp t 2 = true
      · rw [if_neg (bI_t1 a2), if_pos a2]; decide
      · rw [if_pos (bI_f0 a2), if_neg a2, c_isW3 hN hlim htp hk T, Option.bind_some]
        by_cases a3 : isW tp t 3 = true
        · rw [if_neg (bI_t1 a3), if_pos a3]; decide
        · rw [if_pos (bI_f0 a3), if_neg a3, c_isW4 hN hlim htp hk T, Option.bind_some]
          by_cases a4 : isW tp t 4 = true
          · rw [if_neg (bI_t1 a4), if_pos a4]; decide
          · rw [if_pos (bI_f0 a4), if_neg a4, c_isW5 hN hlim htp hk T, Option.bind_some]
            by_cases a5 : isW tp t 5 = true
            · rw [if_neg (bI_t1 a5), if_pos a5]; decide
            · rw [if_pos (bI_f0 a5), if_neg a5, c_isW6 hN hlim htp hk T, Option.bind_some]
              by_cases a6 : isW tp t 6 = true
              · rw [if_neg (bI_t1 a6), if_pos a6]; decide
              · rw [if_pos (bI_f0 a6), if_neg a6]; decide
theorem kx_0 : ∀ k, k < 8 → (kx k = 0 ↔ k = 0) ∧ (kx k = 2 ↔ k = 2) ∧ (kx k = -1 ↔ k = 7) := by decide
theorem c_begins (hN : 2000 ≤ N) (hlim : lim ≤ 900) (htp : ∀ k, tp k < 256) (I : l.I) (T : TC (jvw G 0) tp lim t) (hk : tkOk lim t) (C : CB (jvw G 2) l) {k : Nat} (hk7 : k ≤ 7) : Ok (p_X2_begins N G (kx k)) (fun r => match bgR l t k with
    | some (c, p) => r.1 = 0 ∧ r.2 0 1 = nI c ∧ r.2 0 2 = nI p
    | none => r.1 = 1 ∧ TC (jvw r.2 0) tp lim (tok tp lim t.2.2.1) ∧ (∀ c, 2 ≤ c → r.2 c = G c) ∧ r.2 0 1 = G 0 1 ∧ r.2 0 2 = G 0 2) := by
  have hnp := I.np
  have hnt := I.nt
  have c1 : G 2 1 = nI l.np := C.np
  have c2 : G 2 2 = nI l.nt := C.nt
  obtain ⟨x0, x2, x7⟩ := kx_0 k (by omega)
  have b16 : Ok (p_X2_begins_b16 N G) (fun r => r.1 = 0 ∧ r.2 0 1 = nI (if t.1 = 4 then 1 else 2) ∧ r.2 0 2 = nI t.2.1) := by
    unfold p_X2_begins_b16
    refine c_failK (k := 2) T hk (by decide) ?_
    intro v v1 v2 v3
    rw [jlt_eq, v1, if_pos jz0]
    exact Ok.s ⟨rfl, v2, v3⟩
  have b47 : Ok (p_X2_begins_b47 N G) (fun r => r.1 = 0 ∧ r.2 0 1 = nI (if t.1 = 4 then 1 else 4) ∧ r.2 0 2 = nI t.2.1) := by
    unfold p_X2_begins_b47
    refine c_failK (k := 4) T hk (by decide) ?_
    intro v v1 v2 v3
    rw [jlt_eq, v1, if_pos jz0]
    exact Ok.s ⟨rfl, v2, v3⟩
  have b53 : Ok (p_X2_begins_b53 N G) (fun r => r.1 = 1 ∧ TC (jvw r.2 0) tp lim (tok tp lim t.2.2.1) ∧ (∀ c, 2 ≤ c → r.2 c = G c) ∧ r.2 0 1 = G 0 1 ∧ r.2 0 2 = G 0 2) := by
    unfold p_X2_begins_b53
    refine c_nextK hN hlim htp T hk ?_
    intro v v1 v2 v3 v4
    rw [jlt_eq]
    exact Ok.s ⟨rfl, v1, v4, v2, v3⟩
  have z1 : nI l.np = 0 ↔ l.np = 0 := by
    rw [show (0 : Int32) = nI 0 from nI_0.symm]; exact nI_eq (by omega) (by omega)
  have z2 : nI l.nt = 10 ↔ l.nt = 10 := by
    rw [show (10 : Int32) = nI 10 by decide]; exact nI_eq (by omega) (by omega)
  have z3 : 0 < nI l.np ↔ 0 < l.np := by
    rw [show (0 : Int32) = nI 0 from nI_0.symm]
    by_cases e : 0 < l.np
    · exact ⟨fun _ => e, fun _ => nI_lt e (by omega)⟩
    · exact ⟨fun h => absurd h (nI_nlt (by omega) (by omega)), fun h => absurd h e⟩
  have b33 : ¬ (k = 7 ∨ (k ≠ 0 ∧ l.np = 0)) → ¬ (k = 0 ∧ 0 < l.np) → Ok (p_X2_begins_b33 N G (kx k)) (fun r => match bgR l t k with
    | some (c, p) => r.1 = 0 ∧ r.2 0 1 = nI c ∧ r.2 0 2 = nI p
    | none => r.1 = 1 ∧ TC (jvw r.2 0) tp lim (tok tp lim t.2.2.1) ∧ (∀ c, 2 ≤ c → r.2 c = G c) ∧ r.2 0 1 = G 0 1 ∧ r.2 0 2 = G 0 2) := by
    intro h1 h2
    unfold p_X2_begins_b33 bgR
    rw [if_neg h1, c2]
    by_cases a : k = 2
    · rw [if_pos (x2.mpr a)]
      by_cases b : l.nt = 10
      · rw [if_pos (z2.mpr b), if_pos (Or.inr ⟨a, b⟩)]; exact b47
      · rw [if_neg (fun h => b (z2.mp h)), if_neg (by omega)]; exact b53
    · rw [if_neg (fun h => a (x2.mp h)), if_neg (by omega)]; exact b53
  have b22 : ¬ (k = 7 ∨ (k ≠ 0 ∧ l.np = 0)) → Ok (p_X2_begins_b22 N G (kx k)) (fun r => match bgR l t k with
    | some (c, p) => r.1 = 0 ∧ r.2 0 1 = nI c ∧ r.2 0 2 = nI p
    | none => r.1 = 1 ∧ TC (jvw r.2 0) tp lim (tok tp lim t.2.2.1) ∧ (∀ c, 2 ≤ c → r.2 c = G c) ∧ r.2 0 1 = G 0 1 ∧ r.2 0 2 = G 0 2) := by
    intro h1
    unfold p_X2_begins_b22
    rw [c1]
    by_cases a : k = 0
    · rw [if_pos (x0.mpr a)]
      by_cases b : 0 < l.np
      · rw [if_pos (z3.mpr b), bgR, if_neg h1, if_pos (Or.inl ⟨a, b⟩)]; exact b47
      · rw [if_neg (fun h => b (z3.mp h))]; exact b33 h1 (by omega)
    · rw [if_neg (fun h => a (x0.mp h))]; exact b33 h1 (by omega)
  unfold p_X2_begins
  rw [c1]
  by_cases a : k = 7
  · rw [if_pos (x7.mpr a), bgR, if_pos (Or.inl a)]; exact b16
  · rw [if_neg (fun h => a (x7.mp h))]
    by_cases b : k = 0
    · rw [if_pos (x0.mpr b)]; exact b22 (by omega)
    · rw [if_neg (fun h => b (x0.mp h))]
      by_cases c : l.np = 0
      · rw [if_pos (z1.mpr c), bgR, if_pos (Or.inr ⟨b, c⟩)]; exact b16
      · rw [if_neg (fun h => c (z1.mp h))]; exact b22 (by omega)
theorem c_closes (hN : 2000 ≤ N) (hlim : lim ≤ 900) (htp : ∀ k, tp k < 256) (T : TC G tp lim t) (hk : tkOk lim t) : Ok (p_X2_closes N G) (fun r => if t.1 = 3 then r.1 = 1 ∧ TC r.2 tp lim (tok tp lim t.2.2.1) ∧ KN G r.2 else r.1 = 0 ∧ FC G r.2 (if t.1 = 4 then 1 else 2) t.2.1) := by
  have t5 : G 0 5 = ck t.1 := T.2.2.1
  unfold p_X2_closes
  rw [t5]
  by_cases a : t.1 = 3
  · rw [if_pos (by rw [ck_s _ hk.2.2.1]; exact a)]
    refine Ok.b (c_next hN hlim htp hk.2.1 T.1 T.2.1 T.2.2.2.2.1) ?_
    rintro g ⟨h1, h2⟩
    rw [jlt_eq]
    refine Ok.s ?_
    rw [if_pos a]
    exact ⟨rfl, h1, h2⟩
  · rw [if_neg (by rw [ck_s _ hk.2.2.1]; exact a)]
    refine Ok.b (c_fails (k := 2) T hk (by decide)) ?_
    rintro ⟨u, g⟩ ⟨h1, h2⟩
    have h3 : u = 0 := h1
    subst h3
    rw [jlt_eq, if_pos jz0]
    refine Ok.s ?_
    rw [if_neg a]
    exact ⟨rfl, h2⟩
theorem c_rdL (hN : 2000 ≤ N) (hlim : lim ≤ 900) (htp : ∀ k, tp k < 256) {A : Nat → Nat → Int32} : ∀ (m n j : Nat) (G : Nat → Nat → Int32) (t : Nat × Nat × Nat × Nat) (l : LA), l.I → j + m = 901 → m < n → (¬ t.1 = 0 → j < t.2.2.1) → TC (jvw G 0) tp lim t → tkOk lim t → CB (jvw G 2) l → G 0 1 = A 0 1 → G 0 2 = A 0 2 → Ok (p_X2_read_b30 N n G (nI j)) (fun r => match rdL tp lim m t l with
    | .inl (c, p) => r.1 = 0 ∧ r.2 0 1 = nI c ∧ r.2 0 2 = nI p ∧ 0 < c ∧ c < 10 ∧ p ≤ lim
    | .inr l2 => r.1 = 1 ∧ CB (jvw r.2 2) l2 ∧ r.2 0 1 = A 0 1 ∧ r.2 0 2 = A 0 2 ∧ l2.I) := by
  intro m
  induction m with
  | zero =>
    intro n j G t l I hj hn ht T hk C a1 a2
    match n, hn with
    | n + 1, _ =>
      unfold p_X2_read_b30
      rw [show (900 : Int32) = nI 900 by decide, if_pos (nI_le (by omega) (by omega))]
      exact Ok.s ⟨rfl, C, a1, a2, I⟩
  | succ m ih =>
    intro n j G t l I hj hn ht T hk C a1 a2
    have k2 := hk.2.1
    match n, hn with
    | n + 1, hn =>
      unfold p_X2_read_b30 rdL
      have t5 : G 0 5 = ck t.1 := T.2.2.1
      by_cases a : t.1 = 0
      · rw [if_pos a]
        have f : Ok (some ((1 : Int32), G)) (fun r => r.1 = 1 ∧ CB (jvw r.2 2) l ∧ r.2 0 1 = A 0 1 ∧ r.2 0 2 = A 0 2 ∧ l.I) := Ok.s ⟨rfl, C, a1, a2, I⟩
        by_cases b : (900 : Int32) ≤ nI j
        · rw [if_pos b]; exact f
        · rw [if_neg b, t5, if_pos (by rw [ck_e _ hk.2.2.1]; exact a)]; exact f
      · rw [if_neg a, show (900 : Int32) = nI 900 by decide, if_neg (nI_ge (by have := ht a; omega) (by omega)), t5, if_neg (by rw [ck_e _ hk.2.2.1]; exact a), c_kind hN hlim htp hk T, Option.bind_some]
        have gl := go_L htp I hk
        refine Ok.b (c_begins hN hlim htp I T hk C kd_le) ?_
        rintro ⟨u, g⟩ h
        cases hb : bgR l t (kd tp t) with
        | some e =>
          obtain ⟨c, p⟩ := e
          rw [hb] at h
          have eL : lnR tp lim t l = .inl (c, p) := by unfold lnR; rw [hb]
          have h1 : u = 0 := h.1
          rw [eL] at gl ⊢
          rw [jlt_eq, if_pos h1]
          exact Ok.s ⟨rfl, h.2.1, h.2.2, gl⟩
        | none =>
          rw [hb] at h
          obtain ⟨h1, T2, g2, b1, b2⟩ := h
          have h1' : u = 1 := h1
          obtain ⟨q1, q2, q3, q4, q5⟩ := bg_none I kd_le hb
          have ek : kx (kd tp t) = nI (kd tp t) := by unfold kx; rw [if_neg (by omega)]
          have o := tok_ok tp htp hk.2.1
          rw [jlt_eq, if_neg (show ¬ u = 0 by rw [h1']; decide), ek]
          dsimp only at T2 g2 b1 b2 ⊢
          have C2 : CB (jvw g 2) l := C.cg (fun c _ => g2 (2 + c) (by omega))
          refine Ok.b (c_rdN hN hlim htp I T2 o.1 C2 q1 q2 q3) ?_
          rintro ⟨u2, g3⟩ h2
          have gn := go_N htp I o.1 q2 q3
          cases hr : rdN tp lim (tok tp lim t.2.2.1) l (kd tp t) with
          | inl e =>
            obtain ⟨c, p⟩ := e
            rw [hr] at h2
            have eL : lnR tp lim t l = .inl (c, p) := by unfold lnR; rw [hb]; dsimp only; rw [hr]
            have h3 : u2 = 0 := h2.1
            rw [eL] at gl ⊢
            rw [jlt_eq, if_pos h3]
            exact Ok.s ⟨rfl, h2.2.1, h2.2.2, gl⟩
          | inr e =>
            obtain ⟨t2, l2⟩ := e
            rw [hr] at h2 gn
            obtain ⟨h3, T3, C3, d1, d2⟩ := h2
            have h3' : u2 = 1 := h3
            have eL : lnR tp lim t l = clR tp lim t2 l2 := by unfold lnR; rw [hb]; dsimp only; rw [hr]
            rw [jlt_eq, if_neg (show ¬ u2 = 0 by rw [h3']; decide)]
            dsimp only at T3 C3 d1 d2 ⊢
            refine Ok.b (c_closes hN hlim htp T3 gn.1) ?_
            rintro ⟨u4, g5⟩ h5
            rw [eL] at gl ⊢
            unfold clR at gl ⊢
            have e0 : jpt g3 0 2 g5 0 = g5 0 := jpt_i (b := 0) (c := 0) (by omega)
            have e1 : jpt g3 0 2 g5 1 = g5 1 := jpt_i (b := 0) (c := 1) (by omega)
            by_cases d : t2.1 = 3
            · rw [if_pos d] at h5 gl ⊢
              obtain ⟨h6, T5, K5⟩ := h5
              have h6' : u4 = 1 := h6
              dsimp only at T5 K5 gl ⊢
              rw [jlt_eq, if_neg (show ¬ u4 = 0 by rw [h6']; decide), jlt_eq, nI_1]
              have c0 : jpt g3 0 2 g5 2 0 = l2.li := (congrFun (jpt_o (G := g3) (G2 := g5) (b := 0) (n := 2) (c := 2) (by omega)) 0).trans C3.li
              rw [c0]
              have C6 : CB (jvw (jup (jpt g3 0 2 g5) 2 0 (l2.li + 1)) 2) l2.sLi := by
                rw [jvw_up 2 0]
                exact (C3.cg (g2 := jvw (jpt g3 0 2 g5) 2) (fun c _ => jpt_o (G := g3) (G2 := g5) (b := 0) (n := 2) (c := 2 + c) (by omega))).slot (Or.inl rfl) rfl
              exact ih n (j + 1) _ (tok tp lim t2.2.2.1) l2.sLi gl.2.2 (by omega) (by omega) (fun h => by have := gl.2.1 h; have := ht a; omega) (TC.up (T5.cg e0 e1) (by decide)) gl.1 C6 (by rw [jup_n _ _ (by decide)]; exact (congrFun e0 1).trans ((K5.1 1 (by decide) (by decide) (by decide) (by decide)).trans (d1.trans (b1.trans a1)))) (by rw [jup_n _ _ (by decide)]; exact (congrFun e0 2).trans ((K5.1 2 (by decide) (by decide) (by decide) (by decide)).trans (d2.trans (b2.trans a2))))
            · rw [if_neg d] at h5 gl ⊢
              obtain ⟨h6, F5⟩ := h5
              have h6' : u4 = 0 := h6
              rw [jlt_eq, if_pos h6']
              exact Ok.s ⟨rfl, (congrFun e0 1).trans F5.1, (congrFun e0 2).trans F5.2.1, gl⟩
end cread2

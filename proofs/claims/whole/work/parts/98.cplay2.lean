/-! the class: the ending played -/
section cplay2
variable {N : Nat} {G G2 A : Nat → Nat → Int32} {J J2 B : Nat → Nat → Int64} {a : TA}
theorem jvw_0 {α : Type} (G : Nat → α) : jvw G 0 = G := by
  funext c
  unfold jvw
  rw [Nat.zero_add]
theorem jpt_id {α : Type} {G r : Nat → α} (h : ∀ c, 11 ≤ c → r c = G c) : jpt G 0 11 r = r := by
  funext c
  by_cases e : c < 11
  · have := jpt_i (G := G) (G2 := r) (b := 0) (n := 11) (c := c) e
    rw [Nat.zero_add] at this
    exact this
  · rw [jpt_o (by omega)]; exact (h c (by omega)).symm
theorem CE.cg {f T : Nat} (c : CE G a f T) (h0 : ∀ s, s ≠ 0 → G2 0 s = G 0 s) (h : ∀ x, 1 ≤ x → x ≤ 8 → x ≠ 5 → x ≠ 6 → x ≠ 7 → G2 x = G x) : CE G2 a f T := by
  have h1 := h 1 (by omega) (by omega) (by omega) (by omega) (by omega)
  have h2 := h 2 (by omega) (by omega) (by omega) (by omega) (by omega)
  have h3 := h 3 (by omega) (by omega) (by omega) (by omega) (by omega)
  have h4 := h 4 (by omega) (by omega) (by omega) (by omega) (by omega)
  have h8 := h 8 (by omega) (by omega) (by omega) (by omega) (by omega)
  have L := c.ly
  exact ⟨⟨by rw [h0 4 (by decide)]; exact L.mm, by rw [h1]; exact L.dd, by rw [h2]; exact L.wi, by rw [h4]; exact L.mn, by rw [h3]; exact L.mi⟩, by rw [h0 1 (by decide)]; exact c.np, by rw [h0 2 (by decide)]; exact c.ff, by rw [h0 3 (by decide)]; exact c.tt, ⟨by rw [h8]; exact c.re.r0, by rw [h8]; exact c.re.rc, by rw [h8]; exact c.re.rn⟩, c.mx, c.tm, c.fl, c.n0⟩
theorem c_weigh (hN : 2000 ≤ N) (R : RC (jvw A 11) a) (I : a.I) {f T : Nat} (C : CE A a f T) : Ok (p_X1_weigh N A J) (fun r => (∀ c, c ≠ 5 → c ≠ 6 → r c = A c) ∧ CP r a f T) := by
  have hm := C.mx
  have hnp := I.np
  have hnd := I.nd
  unfold p_X1_weigh
  rw [show (0 : Int32) = nI 0 from nI_0.symm]
  have in1 : ∀ {rv : (Nat → Nat → Int32) → Int32 → Option (Nat → Nat → Int32)} {P : (Nat → Nat → Int32) → Prop} {p : Nat}, p < a.np → (∀ r, (∀ c, c ≠ 5 → c ≠ 6 → r c = A c) → (∀ x i, x < p + 1 → i < a.dM → r 5 (x * 10 + i) = a.pu (a.dN i) x) → (∀ x i, x < p + 1 → i < a.dM → r 6 (x * 10 + i) = a.po (a.dN i) x) → Ok (rv r (nI p + 1)) P) → ∀ (k n j : Nat) (G : Nat → Nat → Int32), j + k = a.dM → k < n → (∀ c, c ≠ 5 → c ≠ 6 → G c = A c) → (∀ x i, (x < p ∨ (x = p ∧ i < j)) → i < a.dM → G 5 (x * 10 + i) = a.pu (a.dN i) x) → (∀ x i, (x < p ∨ (x = p ∧ i < j)) → i < a.dM → G 6 (x * 10 + i) = a.po (a.dN i) x) → Ok (p_X1_weigh_b12 N J rv n G (nI p) (nI j)) P := by
    intro rv P p hp hP k
    induction k with
    | zero =>
      intro n j G hj hn F h5 h6
      have g4 : G 0 4 = nI a.dM := by rw [F 0 (by decide) (by decide)]; exact C.ly.mm
      match n, hn with
      | n + 1, _ =>
        unfold p_X1_weigh_b12
        rw [g4, if_pos (nI_le (by omega) (by omega))]
        exact hP G F (fun x i h1 h2 => h5 x i (by omega) h2) (fun x i h1 h2 => h6 x i (by omega) h2)
    | succ k ih =>
      intro n j G hj hn F h5 h6
      have g4 : G 0 4 = nI a.dM := by rw [F 0 (by decide) (by decide)]; exact C.ly.mm
      have g1 : G 1 j = nI (a.dN j) := by rw [F 1 (by decide) (by decide)]; exact C.ly.dd j (by omega)
      have hd := dN_nd (a := a) (i := j) (by omega)
      have RG : RC (jvw G 11) a := R.cg (fun x hx => F (11 + x) (by omega) (by omega))
      match n, hn with
      | n + 1, hn =>
        unfold p_X1_weigh_b12
        rw [g4, if_neg (nI_ge (by omega) (by omega)), if_pos (jinT (by omega) (by omega)), zcl (by omega), g1, c_partOfUndoer RG I hd (by omega), Option.bind_some, z10, if_pos (jinT (by omega) (by omega)), zcl (by omega), jlt_eq, if_pos (jinT (by omega) (by omega))]
        have g1' : jup G 5 (p * 10 + j) (a.pu (a.dN j) p) 1 j = nI (a.dN j) := by rw [jup_n _ _ (by decide)]; exact g1
        have RG2 : RC (jvw (jup G 5 (p * 10 + j) (a.pu (a.dN j) p)) 11) a := RG.cg (fun x hx => jup_n (c2 := 11 + x) _ _ (by omega))
        rw [g1', c_partOfOther RG2 I hd (by omega), Option.bind_some, if_pos (jinT (by omega) (by omega)), jlt_eq, nI_1]
        refine ih n (j + 1) _ (by omega) (by omega) ?_ ?_ ?_
        · intro c e5 e6; rw [jup_n _ _ e6, jup_n _ _ e5]; exact F c e5 e6
        · intro x i h1 h2
          rw [jup_n _ _ (by decide), jup_s, upd_i]
          by_cases e : x = p ∧ i = j
          · rw [if_pos (by rw [e.1, e.2]), e.1, e.2]
          · rw [if_neg (by omega)]; exact h5 x i (by omega) h2
        · intro x i h1 h2
          rw [jup_s, upd_i]
          by_cases e : x = p ∧ i = j
          · rw [if_pos (by rw [e.1, e.2]), e.1, e.2]
          · rw [if_neg (by omega), jup_n _ _ (by decide)]; exact h6 x i (by omega) h2
  have key : ∀ (k n p : Nat) (G : Nat → Nat → Int32), p + k = a.np → k < n → (∀ c, c ≠ 5 → c ≠ 6 → G c = A c) → (∀ x i, x < p → i < a.dM → G 5 (x * 10 + i) = a.pu (a.dN i) x) → (∀ x i, x < p → i < a.dM → G 6 (x * 10 + i) = a.po (a.dN i) x) → Ok (p_X1_weigh_b2 N J n G (nI p)) (fun r => (∀ c, c ≠ 5 → c ≠ 6 → r c = A c) ∧ CP r a f T) := by
    intro k
    induction k with
    | zero =>
      intro n p G hp hn F h5 h6
      have g1 : G 0 1 = nI a.np := by rw [F 0 (by decide) (by decide)]; exact C.np
      match n, hn with
      | n + 1, _ =>
        unfold p_X1_weigh_b2
        rw [g1, if_pos (nI_le (by omega) (by omega))]
        exact Ok.s ⟨F, C.cg (fun s _ => by rw [F 0 (by decide) (by decide)]) (fun x _ _ e5 e6 _ => F x e5 e6), fun p i h1 h2 => h5 p i (by omega) h2, fun p i h1 h2 => h6 p i (by omega) h2, hnp⟩
    | succ k ih =>
      intro n p G hp hn F h5 h6
      have g1 : G 0 1 = nI a.np := by rw [F 0 (by decide) (by decide)]; exact C.np
      match n, hn with
      | n + 1, hn =>
        unfold p_X1_weigh_b2
        rw [g1, if_neg (nI_ge (by omega) (by omega)), show (0 : Int32) = nI 0 from nI_0.symm]
        refine in1 (p := p) (by omega) ?_ a.dM N 0 G (by omega) (by omega) F (fun x i h1 h2 => h5 x i (by omega) h2) (fun x i h1 h2 => h6 x i (by omega) h2)
        intro r r1 r2 r3
        rw [nI_1]
        exact ih n (p + 1) r (by omega) (by omega) r1 r2 r3
  exact key a.np N 0 A (by omega) (by omega) (fun _ _ _ => rfl) (fun x i h => absurd h (Nat.not_lt_zero _)) (fun x i h => absurd h (Nat.not_lt_zero _))
theorem c_forget (hN : 2000 ≤ N) {S : Nat} (hS : S < 1024) (hnp : a.np ≤ 6) (h1 : A 0 1 = nI a.np) : Ok (p_X1_forget N A J (nI S)) (fun r => F7 A r.1 S ∧ (¬ A 8 S = 0 → ∀ p, p < a.np → r.1 7 (S * 6 + p) = 0) ∧ (∀ c, c ≠ 9 → r.2 c = J c) ∧ (∀ k, k ≠ S → r.2 9 k = J 9 k) ∧ r.2 9 S = 0) := by
  unfold p_X1_forget
  rw [if_pos (jinT hS (by omega)), zcl (by omega), jlt_eq, show (0 : Int32) = nI 0 from nI_0.symm]
  have e1 : ∀ c, c ≠ 9 → jupL J 9 S 0 c = J c := fun c hc => jupL_n _ _ hc
  have e2 : ∀ k, k ≠ S → jupL J 9 S 0 9 k = J 9 k := by intro k hk; rw [jupL_s]; unfold vp_updL; rw [if_neg hk]
  have e3 : jupL J 9 S 0 9 S = 0 := by rw [jupL_s]; unfold vp_updL; rw [if_pos rfl]
  generalize jupL J 9 S 0 = J2 at e1 e2 e3
  have key : ∀ (k n p : Nat) (G : Nat → Nat → Int32), p + k = a.np → k < n → F7 A G S → (∀ x, x < p → G 7 (S * 6 + x) = 0) → Ok (p_X1_forget_b9 N n G J2 (nI S) (nI p)) (fun r => F7 A r.1 S ∧ (¬ A 8 S = 0 → ∀ p, p < a.np → r.1 7 (S * 6 + p) = 0) ∧ (∀ c, c ≠ 9 → r.2 c = J c) ∧ (∀ k, k ≠ S → r.2 9 k = J 9 k) ∧ r.2 9 S = 0) := by
    intro k
    induction k with
    | zero =>
      intro n p G hp hn F Z
      have g1 : G 0 1 = nI a.np := by rw [F.1 0 (by decide)]; exact h1
      match n, hn with
      | n + 1, _ =>
        unfold p_X1_forget_b9
        rw [g1, if_pos (nI_le (by omega) (by omega))]
        exact Ok.s ⟨F, fun _ x hx => Z x (by omega), e1, e2, e3⟩
    | succ k ih =>
      intro n p G hp hn F Z
      have g1 : G 0 1 = nI a.np := by rw [F.1 0 (by decide)]; exact h1
      have g8 : G 8 = A 8 := F.1 8 (by decide)
      match n, hn with
      | n + 1, hn =>
        unfold p_X1_forget_b9
        rw [g1, if_neg (nI_ge (by omega) (by omega)), if_pos (jinT hS (by omega)), zcl (by omega), g8]
        by_cases c : A 8 S = 0
        · rw [if_pos c]
          exact Ok.s ⟨F, fun h => absurd c h, e1, e2, e3⟩
        · rw [if_neg c, zm6, if_pos (jinT (by omega) (by omega)), zcl (by omega), jlt_eq, nI_1]
          refine ih n (p + 1) _ (by omega) (by omega) ⟨?_, ?_⟩ ?_
          · intro c hc; rw [jup_n _ _ hc]; exact F.1 c hc
          · intro k hk; rw [jup_s, upd_n _ _ (by omega)]; exact F.2 k hk
          · intro x hx
            rw [jup_s, upd_i]
            by_cases c : x = p
            · rw [if_pos (by rw [c])]
            · rw [if_neg (by omega)]; exact Z x (by omega)
  exact key a.np N 0 A (by omega) (by omega) ⟨fun _ _ => rfl, fun _ _ => rfl⟩ (fun x hx => absurd hx (Nat.not_lt_zero _))
theorem b_nz {x : Int32} {i : Nat} (h : bt x i = true) : ¬ x = 0 := by
  intro e
  rw [e, b_0] at h
  cases h
/-- walking through what was chosen -/
theorem wk_re {f T : Nat} (C : CE A a f T) : ∀ t, t ≤ T → bt (A 8 (a.wk f T t)) t = true
  | 0, _ => C.re.r0
  | t + 1, ht => by
    have ih := wk_re C t (by omega)
    have w := wk_ok C.mx f T t
    obtain ⟨h1, h2⟩ := C.re.rn t _ (by omega) w.1 ih
    show bt (A 8 (a.wst (a.wk f T t) (a.chs f T t (a.wk f T t)))) (t + 1) = true
    have cb := chs_ok (a := a) f T t (a.wk f T t)
    unfold TA.wst
    by_cases c : a.chs f T t (a.wk f T t) = 0
    · rw [if_pos c]; exact h1
    · rw [if_neg c]
      exact h2 _ (by omega) (cb.2 c) (sel_of _ _ _ _ c)
theorem stI_eq (I : a.I) (R : RC (jvw A 11) a) : A 11 8 = a.stI := by
  have hnd := I.nd
  apply b_ext
  intro i hi
  unfold TA.stI
  rw [it_bits _ _ _ _ _ hi (by omega), b_0, Bool.false_or, decide_eq_true (Nat.zero_le i), Bool.true_and]
  have e : bt (A 11 8) i = a.st i := R.st i hi
  rw [e]
  cases h : a.st i
  · rw [Bool.and_false]
  · have := I.st i h
    rw [decide_eq_true (show i < 0 + a.nd by omega)]; rfl
theorem c_walk (hN : 2000 ≤ N) (I : a.I) (R : RC (jvw A 11) a) {f T : Nat} (C : CE A a f T) (hJ : ∀ t S, t < T → S < 2 ^ a.dM → bt (A 8 S) t = true → NB (J 9 S) t (a.chs f T t S)) : Ok (p_X1_walk N A J) (fun r => (∀ c, c ≠ 0 → c ≠ 10 → r c = A c) ∧ (∀ s, s ≠ 0 → r 0 s = A 0 s) ∧ r 0 0 = a.lef (a.wk f T T) ∧ ∀ t, t < T → r 10 t = a.dx (a.chs f T t (a.wk f T t))) := by
  have hm := C.mx
  have hT := C.tm
  have hnd := I.nd
  have p0 := Nat.two_pow_pos a.dM
  unfold p_X1_walk p_X1_whole
  rw [jvw_0, C.ly.mm, bitI_e, bit_pow _ hm, Option.bind_some]
  have e : nI (2 ^ a.dM) - 1 = nI (a.wk f T 0) := by
    rw [show 2 ^ a.dM = (2 ^ a.dM - 1) + 1 by omega, nI_p1]; rfl
  rw [e, show (0 : Int32) = nI 0 from nI_0.symm]
  have fin : ∀ (k n i : Nat) (G : Nat → Nat → Int32), i + k = a.dM → k < n → (∀ c, c ≠ 0 → c ≠ 10 → G c = A c) → (∀ s, s ≠ 0 → G 0 s = A 0 s) → G 0 0 = it (fun s i => if (a.wk f T T).testBit i = true then s else s &&& (bitI (a.dN i) ^^^ (-1))) 0 i a.stI → (∀ t, t < T → G 10 t = a.dx (a.chs f T t (a.wk f T t))) → Ok (p_X1_walk_b93 N J n G (nI (a.wk f T T)) (nI i)) (fun r => (∀ c, c ≠ 0 → c ≠ 10 → r c = A c) ∧ (∀ s, s ≠ 0 → r 0 s = A 0 s) ∧ r 0 0 = a.lef (a.wk f T T) ∧ ∀ t, t < T → r 10 t = a.dx (a.chs f T t (a.wk f T t))) := by
    intro k
    induction k with
    | zero =>
      intro n i G hi hn F F0 h0 h10
      have g4 : G 0 4 = nI a.dM := by rw [F0 4 (by decide)]; exact C.ly.mm
      match n, hn with
      | n + 1, _ =>
        unfold p_X1_walk_b93
        rw [g4, if_pos (nI_le (by omega) (by omega))]
        have ei : i = a.dM := by omega
        rw [ei] at h0
        exact Ok.s ⟨F, F0, h0, h10⟩
    | succ k ih =>
      intro n i G hi hn F F0 h0 h10
      have g4 : G 0 4 = nI a.dM := by rw [F0 4 (by decide)]; exact C.ly.mm
      have g1 : G 1 i = nI (a.dN i) := by rw [F 1 (by decide) (by decide)]; exact C.ly.dd i (by omega)
      match n, hn with
      | n + 1, hn =>
        unfold p_X1_walk_b93 p_X1_walk_b128
        rw [g4, if_neg (nI_ge (by omega) (by omega)), bt_tS (by omega)]
        cases hb : (a.wk f T T).testBit i
        · rw [if_pos (by decide), if_pos (jinT (by omega) (by omega)), zcl (by omega), g1, bitI_e, jlt_eq, nI_1]
          refine ih n (i + 1) _ (by omega) (by omega) ?_ ?_ ?_ ?_
          · intro c e0 e10; rw [jup_n _ _ e0]; exact F c e0 e10
          · intro s hs; rw [jup_s, upd_n _ _ hs]; exact F0 s hs
          · rw [jup_s, upd_s, it_e, Nat.zero_add, hb, if_neg (by decide), h0]
          · rw [jup_n _ _ (by decide)]; exact h10
        · rw [if_neg (by decide), nI_1]
          refine ih n (i + 1) G (by omega) (by omega) F F0 ?_ h10
          rw [it_e, Nat.zero_add, hb, if_pos rfl]; exact h0
  have key : ∀ (k n t : Nat) (G : Nat → Nat → Int32), t + k = T → k < n → (∀ c, c ≠ 10 → G c = A c) → (∀ x, x < t → G 10 x = a.dx (a.chs f T x (a.wk f T x))) → Ok (p_X1_walk_b7 N J n G (nI (a.wk f T t)) (nI t)) (fun r => (∀ c, c ≠ 0 → c ≠ 10 → r c = A c) ∧ (∀ s, s ≠ 0 → r 0 s = A 0 s) ∧ r 0 0 = a.lef (a.wk f T T) ∧ ∀ t, t < T → r 10 t = a.dx (a.chs f T t (a.wk f T t))) := by
    intro k
    induction k with
    | zero =>
      intro n t G ht hn F h10
      have g3 : G 0 3 = nI T := by rw [F 0 (by decide)]; exact C.tt
      have g8 : G 11 8 = a.stI := by rw [F 11 (by decide)]; exact stI_eq I R
      have et : t = T := by omega
      match n, hn with
      | n + 1, _ =>
        unfold p_X1_walk_b7
        rw [g3, if_pos (nI_le (by omega) (by omega)), g8, jlt_eq, show (0 : Int32) = nI 0 from nI_0.symm, et]
        refine fin a.dM N 0 _ (by omega) (by omega) ?_ ?_ ?_ ?_
        · intro c e0 e10; rw [jup_n _ _ e0]; exact F c e10
        · intro s hs; rw [jup_s, upd_n _ _ hs, F 0 (by decide)]
        · rw [jup_s, upd_s]; rfl
        · intro x hx; rw [jup_n _ _ (by decide)]; exact h10 x (by omega)
    | succ k ih =>
      intro n t G ht hn F h10
      have g3 : G 0 3 = nI T := by rw [F 0 (by decide)]; exact C.tt
      obtain ⟨w1, w2⟩ := wk_ok hm f T t
      have w4 := lt_1024 hm w1
      have cb := chs_ok (a := a) f T t (a.wk f T t)
      have nb := hJ t _ (by omega) w1 (wk_re C t (by omega))
      have es : a.wk f T (t + 1) = a.wst (a.wk f T t) (a.chs f T t (a.wk f T t)) := rfl
      have ih2 := fun G => ih n (t + 1) G (by omega)
      rw [es] at ih2
      unfold TA.wst at ih2
      match n, hn with
      | n + 1, hn =>
        have ih2 := fun G => ih n (t + 1) G (by omega) (by omega)
        rw [es] at ih2
        unfold TA.wst at ih2
        unfold p_X1_walk_b7
        rw [g3, if_neg (nI_ge (by omega) (by omega)), if_pos (jinT (by omega) (by omega)), zcl (by omega), nib_rd (by omega) (by omega) nb]
        unfold p_X1_walk_b55 p_X1_walk_b76
        have wr : ∀ v, v = a.dx (a.chs f T t (a.wk f T t)) → (∀ c, c ≠ 10 → jup G 10 t v c = A c) ∧ ∀ x, x < t + 1 → jup G 10 t v 10 x = a.dx (a.chs f T x (a.wk f T x)) := by
          intro v hv
          refine ⟨fun c hc => by rw [jup_n _ _ hc]; exact F c hc, ?_⟩
          intro x hx
          rw [jup_s, upd_i]
          by_cases e : x = t
          · rw [if_pos e, hv, e]
          · rw [if_neg e]; exact h10 x (by omega)
        by_cases c : a.chs f T t (a.wk f T t) = 0
        · have d1 : a.dx (a.chs f T t (a.wk f T t)) = -1 := if_pos c
          rw [if_pos c] at ih2
          rw [c, show nI 0 - 1 = -1 by decide, if_neg (by decide), if_pos (jinT (by omega) (by omega)), zcl (by omega), jlt_eq, if_neg (by decide), nI_1]
          obtain ⟨q1, q2⟩ := wr (-1) d1.symm
          exact ih2 _ q1 q2
        · have d1 : a.dx (a.chs f T t (a.wk f T t)) = nI (a.dN (a.chs f T t (a.wk f T t) - 1)) := if_neg c
          rw [if_neg c] at ih2
          have e1 : nI (a.chs f T t (a.wk f T t)) - 1 = nI (a.chs f T t (a.wk f T t) - 1) := by
            rw [show a.chs f T t (a.wk f T t) = (a.chs f T t (a.wk f T t) - 1) + 1 by omega, nI_p1]; rfl
          have g1 : G 1 (a.chs f T t (a.wk f T t) - 1) = nI (a.dN (a.chs f T t (a.wk f T t) - 1)) := by rw [F 1 (by decide)]; exact C.ly.dd _ (by omega)
          rw [e1, if_pos (nI_pos' (by omega)), if_pos (jinT (by omega) (by omega)), zcl (by omega), zcl (a := a.chs f T t (a.wk f T t) - 1) (by omega), g1, if_pos (jinT (by omega) (by omega)), jlt_eq, if_pos (nI_pos' (by omega)), if_pos (jinT (by omega) (by omega)), jup_n _ _ (by decide), F 2 (by decide), C.ly.w (by omega) hm, rs_nI hm w1 (by omega) (wI_hx hm w1 (by omega)), nI_1]
          obtain ⟨q1, q2⟩ := wr _ d1.symm
          exact ih2 _ q1 q2
  exact key T N 0 A (by omega) (by omega) (fun _ _ => rfl) (fun x hx => absurd hx (Nat.not_lt_zero _))
def PA (G : Nat → Nat → Int32) (J : Nat → Nat → Int64) (a : TA) (f T u : Nat) : Prop := (∀ S, S < 2 ^ a.dM → bt (G 8 S) u = true → ∀ p, p < a.np → G 7 (S * 6 + p) = a.vl f T (T - u) S p) ∧ (∀ S t, S < 2 ^ a.dM → t < u → NB (J 9 S) t 0) ∧ (∀ S t, S < 2 ^ a.dM → u ≤ t → t < T → bt (G 8 S) t = true → NB (J 9 S) t (a.chs f T t S))
theorem PA.ah {G : Nat → Nat → Int32} {J : Nat → Nat → Int64} {a : TA} {f T u : Nat} (R : PA G J a f T u) : ∀ S, S < 2 ^ a.dM → bt (G 8 S) u = true → ∀ p, p < a.np → G 7 (S * 6 + p) = a.vl f T (T - u) S p := R.1
theorem PA.cz {G : Nat → Nat → Int32} {J : Nat → Nat → Int64} {a : TA} {f T u : Nat} (R : PA G J a f T u) : ∀ S t, S < 2 ^ a.dM → t < u → NB (J 9 S) t 0 := R.2.1
theorem PA.cc {G : Nat → Nat → Int32} {J : Nat → Nat → Int64} {a : TA} {f T u : Nat} (R : PA G J a f T u) : ∀ S t, S < 2 ^ a.dM → u ≤ t → t < T → bt (G 8 S) t = true → NB (J 9 S) t (a.chs f T t S) := R.2.2
theorem c_p49 (hN : 2000 ≤ N) {f T t : Nat} {w : Int32} (C : CP A a f T) (ht : t < T) (PQ : PA A B a f T (t + 1)) {rv : (Nat → Nat → Int32) → (Nat → Nat → Int64) → Int32 → Int32 → Option ((Nat → Nat → Int32) × (Nat → Nat → Int64))} {P : (Nat → Nat → Int32) × (Nat → Nat → Int64) → Prop} (hP : ∀ r j, (∀ c, c ≠ 7 → r c = A c) → (∀ c, c ≠ 9 → j c = B c) → PA r j a f T t → Ok (rv r j w (nI t + (-1))) P) : ∀ (v n : Nat) (G : Nat → Nat → Int32) (J : Nat → Nat → Int64), v ≤ 2 ^ a.dM → v < n → (∀ c, c ≠ 7 → G c = A c) → (∀ c, c ≠ 9 → J c = B c) → (∀ S, S < v → (∀ p, G 7 (S * 6 + p) = A 7 (S * 6 + p) ∨ 6 ≤ p) ∧ J 9 S = B 9 S) → (∀ S, v ≤ S → S < 2 ^ a.dM → bt (A 8 S) t = true → ∀ p, p < a.np → G 7 (S * 6 + p) = a.vl f T (T - t) S p) → (∀ S, v ≤ S → S < 2 ^ a.dM → bt (A 8 S) t = true → NB (J 9 S) t (a.chs f T t S)) → (∀ S t2 w, S < 2 ^ a.dM → t2 < 12 → t2 ≠ t → NB (B 9 S) t2 w → NB (J 9 S) t2 w) → Ok (p_X1_play_b49 N rv n G J w (nI t) (nI ((f + t) % a.np)) (nI v - 1)) P := by
  have hm := C.ce.mx
  have hT := C.ce.tm
  have hnp := C.sx
  have hpw : 2 ^ a.dM ≤ 1024 := show 2 ^ a.dM ≤ 2 ^ 10 from Nat.pow_le_pow_right (by omega) hm
  intro v
  induction v with
  | zero =>
    intro n G J hv hn F FJ _ h7 hc ho
    match n, hn with
    | n + 1, _ =>
      unfold p_X1_play_b49
      rw [nI_0, if_pos (by decide)]
      have g8 : G 8 = A 8 := F 8 (by decide)
      refine hP G J F FJ ⟨?_, ?_, ?_⟩
      · intro S hS h p hp
        rw [g8] at h
        exact h7 S (Nat.zero_le _) hS h p hp
      · intro S t2 hS h2
        exact ho S t2 0 hS (by omega) (by omega) (PQ.cz S t2 hS (by omega))
      · intro S t2 hS h2 h3 h
        rw [g8] at h
        by_cases e : t2 = t
        · rw [e] at h ⊢; exact hc S (Nat.zero_le _) hS h
        · exact ho S t2 _ hS (by omega) e (PQ.cc S t2 hS (by omega) h3 h)
  | succ v ih =>
    intro n G J hv hn F FJ hlo h7 hc ho
    have g8 : G 8 = A 8 := F 8 (by decide)
    have CG : CP G a f T := C.cg (fun c _ hc => F c hc)
    match n, hn with
    | n + 1, hn =>
      unfold p_X1_play_b49
      rw [nI_p1, if_neg (nI_pos (by omega)), if_pos (jinT (by omega) (by omega)), zcl (by omega), bt_test _ (by omega), g8]
      cases hb : bt (A 8 v) t
      · rw [if_neg (by decide)]
        unfold p_X1_play_b78
        rw [nI_m1]
        refine ih n G J (by omega) (by omega) F FJ (fun S hS => hlo S (by omega)) ?_ ?_ ho
        · intro S h1 h2 h3
          by_cases e : S = v
          · rw [e, hb] at h3; cases h3
          · exact h7 S (by omega) h2 h3
        · intro S h1 h2 h3
          by_cases e : S = v
          · rw [e, hb] at h3; cases h3
          · exact hc S (by omega) h2 h3
      · rw [if_pos (by decide), jvw_0, jvw_0]
        obtain ⟨re1, re2⟩ := C.ce.re.rn t v ht (by omega) hb
        have lo7 : ∀ S, S < v + 1 → ∀ p, p < a.np → G 7 (S * 6 + p) = A 7 (S * 6 + p) := by
          intro S hS p hp
          rcases (hlo S hS).1 p with h | h
          · exact h
          · omega
        refine Ok.b (c_choose hN CG ht rfl (by omega) ?_ ?_ ?_) ?_
        · intro p hp
          rw [lo7 v (by omega) p hp]
          exact PQ.ah v (by omega) re1 p hp
        · intro i hi h1 h2 p hp
          have lt := rs_lt hm (show v < 2 ^ a.dM by omega) hi h1
          rw [lo7 _ (by omega) p hp]
          exact PQ.ah _ (by omega) (re2 i hi h1 h2) p hp
        · rw [(hlo v (by omega)).2]; exact PQ.cz v t (by omega) (by omega)
        · rintro ⟨r, j⟩ ⟨s1, s2, s3, s4, s5, s6⟩
          dsimp only at s1 s2 s3 s4 s5 s6 ⊢
          rw [jpt_id (fun c hc => s1.1 c (by omega)), jpt_id (fun c hc => s3 c (by omega)), jlt_eq, jlt_eq, nI_m1]
          refine ih n r j (by omega) (by omega) ?_ ?_ ?_ ?_ ?_ ?_
          · intro c hc; rw [s1.1 c hc]; exact F c hc
          · intro c hc; rw [s3 c hc]; exact FJ c hc
          · intro S hS
            refine ⟨?_, ?_⟩
            · intro p
              by_cases e : 6 ≤ p
              · exact Or.inr e
              · left
                rw [s1.2 _ (by omega)]
                rcases (hlo S (by omega)).1 p with h | h
                · exact h
                · omega
            · rw [s4 S (by omega)]; exact (hlo S (by omega)).2
          · intro S h1 h2 h3 p hp
            by_cases e : S = v
            · rw [e]; exact s2 p hp
            · rw [s1.2 _ (by omega)]; exact h7 S (by omega) h2 h3 p hp
          · intro S h1 h2 h3
            by_cases e : S = v
            · rw [e]; exact s5
            · rw [s4 S e]; exact hc S (by omega) h2 h3
          · intro S t2 x h1 h2 h3 h4
            by_cases e : S = v
            · rw [e]
              refine s6 t2 x h2 h3 ?_
              rw [e] at h4
              rw [(hlo v (by omega)).2]; exact h4
            · rw [s4 S e]; exact ho S t2 x h1 h2 h3 h4
end cplay2

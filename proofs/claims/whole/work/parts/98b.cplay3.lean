/-! the class: the ending played, all turns -/
section cplay3
variable {N : Nat} {G G2 A : Nat → Nat → Int32} {J J2 B : Nat → Nat → Int64} {a : TA}
/-- what is there when it has been played -/
def CR (r : Nat → Nat → Int32) (j : Nat → Nat → Int64) (A : Nat → Nat → Int32) (B : Nat → Nat → Int64) (a : TA) (f T : Nat) : Prop := (∀ c, c ≠ 0 → c ≠ 7 → c ≠ 10 → r c = A c) ∧ (∀ s, s ≠ 0 → r 0 s = A 0 s) ∧ (∀ c, c ≠ 9 → j c = B c) ∧ (r 0 0 = a.lef (a.wk f T T)) ∧ (∀ t, t < T → r 10 t = a.dx (a.chs f T t (a.wk f T t))) ∧ (∀ p, p < a.np → r 7 ((2 ^ a.dM - 1) * 6 + p) = a.vl f T T (2 ^ a.dM - 1) p)
theorem CR.k1 {r : Nat → Nat → Int32} {j : Nat → Nat → Int64} {A : Nat → Nat → Int32} {B : Nat → Nat → Int64} {a : TA} {f T : Nat} (R : CR r j A B a f T) : ∀ c, c ≠ 0 → c ≠ 7 → c ≠ 10 → r c = A c := R.1
theorem CR.k2 {r : Nat → Nat → Int32} {j : Nat → Nat → Int64} {A : Nat → Nat → Int32} {B : Nat → Nat → Int64} {a : TA} {f T : Nat} (R : CR r j A B a f T) : ∀ s, s ≠ 0 → r 0 s = A 0 s := R.2.1
theorem CR.k3 {r : Nat → Nat → Int32} {j : Nat → Nat → Int64} {A : Nat → Nat → Int32} {B : Nat → Nat → Int64} {a : TA} {f T : Nat} (R : CR r j A B a f T) : ∀ c, c ≠ 9 → j c = B c := R.2.2.1
theorem CR.lf {r : Nat → Nat → Int32} {j : Nat → Nat → Int64} {A : Nat → Nat → Int32} {B : Nat → Nat → Int64} {a : TA} {f T : Nat} (R : CR r j A B a f T) : r 0 0 = a.lef (a.wk f T T) := R.2.2.2.1
theorem CR.ch {r : Nat → Nat → Int32} {j : Nat → Nat → Int64} {A : Nat → Nat → Int32} {B : Nat → Nat → Int64} {a : TA} {f T : Nat} (R : CR r j A B a f T) : ∀ t, t < T → r 10 t = a.dx (a.chs f T t (a.wk f T t)) := R.2.2.2.2.1
theorem CR.ah {r : Nat → Nat → Int32} {j : Nat → Nat → Int64} {A : Nat → Nat → Int32} {B : Nat → Nat → Int64} {a : TA} {f T : Nat} (R : CR r j A B a f T) : ∀ p, p < a.np → r 7 ((2 ^ a.dM - 1) * 6 + p) = a.vl f T T (2 ^ a.dM - 1) p := R.2.2.2.2.2
theorem nI_w (m : Nat) : nI (2 ^ m) - 1 = nI (2 ^ m - 1) := by
  have := Nat.two_pow_pos m
  rw [show 2 ^ m = (2 ^ m - 1) + 1 by omega, nI_p1]
  rfl
theorem c_p35 (hN : 2000 ≤ N) (I : a.I) (R : RC (jvw A 11) a) {f T : Nat} (C : CP A a f T) : ∀ (u n : Nat) (G : Nat → Nat → Int32) (J : Nat → Nat → Int64), u ≤ T → u < n → (∀ c, c ≠ 7 → G c = A c) → (∀ c, c ≠ 9 → J c = B c) → PA G J a f T u → Ok (p_X1_play_b35 N n G J (nI (2 ^ a.dM - 1)) (nI u - 1)) (fun r => CR r.1 r.2 A B a f T) := by
  have hm := C.ce.mx
  have hT := C.ce.tm
  have hnp := C.sx
  have hpw : 2 ^ a.dM ≤ 1024 := show 2 ^ a.dM ≤ 2 ^ 10 from Nat.pow_le_pow_right (by omega) hm
  intro u
  induction u with
  | zero =>
    intro n G J hu hn F FJ PQ
    have CG : CP G a f T := C.cg (fun c _ hc => F c hc)
    have RG : RC (jvw G 11) a := R.cg (fun x hx => F (11 + x) (by omega))
    match n, hn with
    | n + 1, _ =>
      unfold p_X1_play_b35
      rw [nI_0, if_pos (by decide)]
      refine Ok.b (c_walk (J := J) hN I RG CG.ce (fun t S h1 h2 h3 => PQ.cc S t h2 (Nat.zero_le _) h1 h3)) ?_
      rintro r ⟨r1, r2, r3, r4⟩
      rw [jlt_eq]
      refine Ok.s ⟨?_, ?_, FJ, r3, r4, ?_⟩
      · intro c h0 h7 h10
        dsimp only
        rw [r1 c h0 h10]; exact F c h7
      · intro s hs
        dsimp only
        rw [r2 s hs, F 0 (by decide)]
      · intro p hp
        dsimp only
        rw [r1 7 (by decide) (by decide)]
        exact PQ.ah _ full_lt CG.ce.re.r0 p hp
  | succ u ih =>
    intro n G J hu hn F FJ PQ
    have CG : CP G a f T := C.cg (fun c _ hc => F c hc)
    have h0 := CG.ce.n0 (by omega)
    match n, hn with
    | n + 1, hn =>
      unfold p_X1_play_b35
      rw [nI_p1, if_neg (nI_pos (by omega)), jvw_0, jvw_0, c_person CG.ce.np CG.ce.ff CG.ce.fl (by omega) hnp h0, Option.bind_some]
      have key := c_p49 (N := N) (A := G) (B := J) (w := nI (2 ^ a.dM - 1)) hN CG (show u < T by omega) PQ (rv := p_X1_play_b35 N n) (P := fun r => CR r.1 r.2 A B a f T) ?_ (2 ^ a.dM) N G J (Nat.le_refl _) (by omega) (fun _ _ => rfl) (fun _ _ => rfl) (fun S hS => ⟨fun p => Or.inl rfl, rfl⟩) (fun S h1 h2 => absurd h2 (by omega)) (fun S h1 h2 => absurd h2 (by omega)) (fun _ _ _ _ _ _ h => h)
      · rw [nI_w] at key
        exact key
      · intro r j r1 j1 P1
        rw [nI_m1]
        exact ih n r j (by omega) (by omega) (fun c hc => (r1 c hc).trans (F c hc)) (fun c hc => (j1 c hc).trans (FJ c hc)) P1
theorem c_p12 (hN : 2000 ≤ N) (I : a.I) (R : RC (jvw A 11) a) {f T : Nat} (C : CP A a f T) : ∀ (k n x : Nat) (G : Nat → Nat → Int32) (J : Nat → Nat → Int64), x + k = 2 ^ a.dM → k < n → (∀ c, c ≠ 7 → G c = A c) → (∀ c, c ≠ 9 → J c = B c) → (∀ S, S < x → ¬ A 8 S = 0 → ∀ p, p < a.np → G 7 (S * 6 + p) = 0) → (∀ S, S < x → J 9 S = 0) → Ok (p_X1_play_b12 N n G J (nI (2 ^ a.dM - 1)) (nI x)) (fun r => CR r.1 r.2 A B a f T) := by
  have hm := C.ce.mx
  have hT := C.ce.tm
  have hnp := C.sx
  have hpw : 2 ^ a.dM ≤ 1024 := show 2 ^ a.dM ≤ 2 ^ 10 from Nat.pow_le_pow_right (by omega) hm
  have p0 := Nat.two_pow_pos a.dM
  intro k
  induction k with
  | zero =>
    intro n x G J hx hn F FJ h7 h9
    have g3 : G 0 3 = nI T := by rw [F 0 (by decide)]; exact C.ce.tt
    have g8 : G 8 = A 8 := F 8 (by decide)
    match n, hn with
    | n + 1, _ =>
      unfold p_X1_play_b12
      rw [if_pos (nI_lt (by omega) (by omega)), g3]
      refine c_p35 hN I R C T N G J (Nat.le_refl _) (by omega) F FJ ⟨?_, ?_, ?_⟩
      · intro S hS hb p hp
        rw [g8] at hb
        rw [Nat.sub_self, h7 S (by omega) (b_nz hb) p hp]
        rfl
      · intro S t hS ht
        rw [h9 S (by omega)]; exact nib_0 t
      · intro S t hS h1 h2
        exact absurd h2 (by omega)
  | succ k ih =>
    intro n x G J hx hn F FJ h7 h9
    have g1 : G 0 1 = nI a.np := by rw [F 0 (by decide)]; exact C.ce.np
    have g8 : G 8 = A 8 := F 8 (by decide)
    match n, hn with
    | n + 1, hn =>
      unfold p_X1_play_b12
      rw [if_neg (nI_nlt (by omega) (by omega)), jvw_0, jvw_0]
      refine Ok.b (c_forget (J := J) hN (show x < 1024 by omega) hnp g1) ?_
      rintro ⟨r, j⟩ ⟨s1, s2, s3, s4, s5⟩
      dsimp only at s1 s2 s3 s4 s5 ⊢
      rw [jpt_id (fun c hc => s1.1 c (by omega)), jpt_id (fun c hc => s3 c (by omega)), jlt_eq, jlt_eq, nI_1]
      refine ih n (x + 1) r j (by omega) (by omega) (fun c hc => (s1.1 c hc).trans (F c hc)) (fun c hc => (s3 c hc).trans (FJ c hc)) ?_ ?_
      · intro S hS hz p hp
        by_cases e : S = x
        · rw [e] at hz ⊢
          exact s2 (by rw [g8]; exact hz) p hp
        · rw [s1.2 _ (by omega)]; exact h7 S (by omega) hz p hp
      · intro S hS
        by_cases e : S = x
        · rw [e]; exact s5
        · rw [s4 S e]; exact h9 S (by omega)
/-- played -/
def CY (r : Nat → Nat → Int32) (j : Nat → Nat → Int64) (A : Nat → Nat → Int32) (B : Nat → Nat → Int64) (a : TA) (f T : Nat) : Prop := (∀ c, 11 ≤ c → r c = A c) ∧ (∀ c, c ≠ 9 → j c = B c) ∧ (CE r a f T) ∧ (r 0 0 = a.lef (a.wk f T T)) ∧ (∀ t, t < T → r 10 t = a.dx (a.chs f T t (a.wk f T t))) ∧ (∀ p, p < a.np → r 7 ((2 ^ a.dM - 1) * 6 + p) = a.vl f T T (2 ^ a.dM - 1) p)
theorem CY.k1 {r : Nat → Nat → Int32} {j : Nat → Nat → Int64} {A : Nat → Nat → Int32} {B : Nat → Nat → Int64} {a : TA} {f T : Nat} (R : CY r j A B a f T) : ∀ c, 11 ≤ c → r c = A c := R.1
theorem CY.k3 {r : Nat → Nat → Int32} {j : Nat → Nat → Int64} {A : Nat → Nat → Int32} {B : Nat → Nat → Int64} {a : TA} {f T : Nat} (R : CY r j A B a f T) : ∀ c, c ≠ 9 → j c = B c := R.2.1
theorem CY.ce {r : Nat → Nat → Int32} {j : Nat → Nat → Int64} {A : Nat → Nat → Int32} {B : Nat → Nat → Int64} {a : TA} {f T : Nat} (R : CY r j A B a f T) : CE r a f T := R.2.2.1
theorem CY.lf {r : Nat → Nat → Int32} {j : Nat → Nat → Int64} {A : Nat → Nat → Int32} {B : Nat → Nat → Int64} {a : TA} {f T : Nat} (R : CY r j A B a f T) : r 0 0 = a.lef (a.wk f T T) := R.2.2.2.1
theorem CY.ch {r : Nat → Nat → Int32} {j : Nat → Nat → Int64} {A : Nat → Nat → Int32} {B : Nat → Nat → Int64} {a : TA} {f T : Nat} (R : CY r j A B a f T) : ∀ t, t < T → r 10 t = a.dx (a.chs f T t (a.wk f T t)) := R.2.2.2.2.1
theorem CY.ah {r : Nat → Nat → Int32} {j : Nat → Nat → Int64} {A : Nat → Nat → Int32} {B : Nat → Nat → Int64} {a : TA} {f T : Nat} (R : CY r j A B a f T) : ∀ p, p < a.np → r 7 ((2 ^ a.dM - 1) * 6 + p) = a.vl f T T (2 ^ a.dM - 1) p := R.2.2.2.2.2
theorem c_play (hN : 2000 ≤ N) (I : a.I) (R : RC (jvw A 11) a) {f T : Nat} (C : CE A a f T) : Ok (p_X1_play N A B) (fun r => CY r.1 r.2 A B a f T) := by
  have hm := C.mx
  have hpw : 2 ^ a.dM ≤ 1024 := show 2 ^ a.dM ≤ 2 ^ 10 from Nat.pow_le_pow_right (by omega) hm
  unfold p_X1_play p_X1_whole
  rw [jvw_0, C.ly.mm, bitI_e, bit_pow _ hm, Option.bind_some, nI_w]
  refine Ok.b (c_weigh hN R I C) ?_
  rintro r ⟨r1, r2⟩
  rw [jlt_eq, show (0 : Int32) = nI 0 from nI_0.symm]
  have R2 : RC (jvw r 11) a := R.cg (fun x hx => r1 (11 + x) (by omega) (by omega))
  refine (c_p12 (B := B) hN I R2 r2 (2 ^ a.dM) N 0 r B (by omega) (by omega) (fun _ _ => rfl) (fun _ _ => rfl) (fun S h => absurd h (Nat.not_lt_zero _)) (fun S h => absurd h (Nat.not_lt_zero _))).c ?_
  rintro ⟨g, j⟩ Y
  dsimp only at Y ⊢
  refine ⟨?_, Y.k3, ?_, Y.lf, Y.ch, Y.ah⟩
  · intro c hc
    rw [Y.k1 c (by omega) (by omega) (by omega)]; exact r1 c (by omega) (by omega)
  · exact r2.ce.cg Y.k2 (fun x h1 h8 _ _ h7 => Y.k1 x (by omega) h7 (by omega))
end cplay3

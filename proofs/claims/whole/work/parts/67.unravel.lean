/-! unravel -/
def TA.sd (a : TA) (k : Nat) : Nat := if k % 2 = 0 then a.gi (k / 2) else a.ta (k / 2)
def TA.unS (a : TA) : Int32 × Option Nat → Nat → Int32 × Option Nat := fun f k => if a.gain (k / 2) (a.sd k) ≤ f.1 then f else if a.whyU (k / 2) (a.sd k) = 0 then (a.gain (k / 2) (a.sd k), some k) else f
def TA.best (a : TA) : Option Nat := (it a.unS 0 (2 * a.nd) ((0 : Int32), none)).2
def oI (f : Nat → Nat) : Option Nat → Int32
  | none => -1
  | some k => nI (f k)
section unravel
variable {N : Nat} {G G2 : Nat → Nat → Int32} {J J2 : Nat → Nat → Int64} {a : TA} {s s2 : SA} {xs : Nat → Int32} {i : Int32}
theorem z_half {k : Nat} (h : k < 1000) : nI k >>> ((1 : Int32) &&& 31) = nI (k / 2) := pk_shrN (by omega) _ 1 (by decide)
theorem z_odd {k : Nat} (h : k < 1000) : nI k &&& (1 : Int32) = nI (k % 2) := pk_andN (by omega) 1 (by decide)
theorem c_side (R : RC G a) (I : a.I) {k : Nat} (hk : k / 2 < a.nd) : p_X3_sideOf N G (nI (k / 2)) (nI (k % 2)) = some (nI (a.sd k)) := by
  unfold TA.sd
  rcases Nat.mod_two_eq_zero_or_one k with h | h
  · rw [h, if_pos rfl]; exact c_side0 R I hk
  · rw [h, if_neg (by decide)]; exact c_side1 R I hk
theorem sd_lt (I : a.I) {k : Nat} (hk : k / 2 < a.nd) : a.sd k < a.np := by
  unfold TA.sd
  split
  · exact I.gi _ hk
  · exact I.ta _ hk
theorem c_best (hN : 2000 ≤ N) (R : RC G a) (I : a.I) : p_X3_bestUndoing N G = some (oI id a.best) := by
  have h1 := I.nd
  have h2 := I.np
  have e2 : (2 : Int32) * nI a.nd = nI (2 * a.nd) := by
    have e : (2 : Int32) = nI 2 := by decide
    rw [e, pk_mul]
  unfold p_X3_bestUndoing TA.best
  refine lp_it (L := fun n (f : Int32 × Option Nat) j => p_X3_bestUndoing_b6 N G n f.1 (oI id f.2) j) (m := 2 * a.nd) (fin := fun f => some (oI id f.2)) ?_ ?_ (2 * a.nd) 0 N (0, none) (by omega) (by omega)
  · intro n f
    show p_X3_bestUndoing_b6 N G (n + 1) f.1 (oI id f.2) (nI (2 * a.nd)) = _
    rw [p_X3_bestUndoing_b6, R.nd, e2]
    simp (disch := omega) only [Option.bind_some, jlt_eq, ↓reduceIte, eq_self, jinT, zleT, zleF, zltT, zltF, zeq, zpos, zpos', zcl, zm6, z6, z84, z24, z14, z8, nI_add, zd0, zd1, zd2, zd3, zd4, zd5, bitI_e, bI0, bI1]
  · intro n f j hj
    have h3 := sd_lt I (k := j) (by omega)
    show p_X3_bestUndoing_b6 N G (n + 1) f.1 (oI id f.2) (nI j) = p_X3_bestUndoing_b6 N G n _ (oI id _) _
    rw [p_X3_bestUndoing_b6, R.nd, e2, z_half (by omega), z_odd (by omega), c_side R I (by omega)]
    simp (disch := omega) only [Option.bind_some, jlt_eq, ↓reduceIte, eq_self, jinT, zleT, zleF, zltT, zltF, zeq, zpos, zpos', zcl, zm6, z6, z84, z24, z14, z8, nI_add, zd0, zd1, zd2, zd3, zd4, zd5, bitI_e, bI0, bI1, c_gainOf hN R I (show j / 2 < a.nd by omega), c_whyU hN R I (show j / 2 < a.nd by omega) h3, p_X3_bestUndoing_b64]
    unfold TA.unS
    by_cases h4 : a.gain (j / 2) (a.sd j) ≤ f.1
    · rw [if_pos h4, if_pos h4]
    · rw [if_neg h4, if_neg h4]
      by_cases h5 : a.whyU (j / 2) (a.sd j) = 0
      · rw [if_pos h5, if_pos h5]; rfl
      · rw [if_neg h5, if_neg h5]
theorem whyU_opn {d p : Nat} (h : a.whyU d p = 0) : a.opn d = true ∧ a.isOf d p = true := by
  unfold TA.whyU at h
  unfold TA.opn
  cases hs : a.st d
  · rw [hs] at h; exact absurd (show (2 : Int32) = 0 from h) (by decide)
  cases ho : a.isOf d p
  · rw [hs, ho] at h; exact absurd (show (3 : Int32) = 0 from h) (by decide)
  cases hr : a.rung
  · cases he : a.eat (a.th d)
    · exact ⟨rfl, rfl⟩
    · rw [hs, ho, hr, he] at h; exact absurd (show (5 : Int32) = 0 from h) (by decide)
  · rw [hs, ho, hr] at h; exact absurd (show (4 : Int32) = 0 from h) (by decide)
/-- one side of one deed, in the reference -/
theorem m_unr1 (hN : 2000 ≤ N) {rv7 : (Nat → Nat → Int32) → Int32 → Option (Int32 × (Nat → Nat → Int32))} {rv17 : (Nat → Nat → Int32) → Int32 → Int32 → Int32 → Int32 → Int32 → Option (Int32 × (Nat → Nat → Int32))} (R : RM (G 1) a) (I : a.I) {k n : Nat} {x y : Int32} {f : Int32 × Option Nat} (hk : k / 2 < a.nd) (hy : y = nI (k % 2 + 1)) (hf : 0 ≤ f.1) {P : Int32 × (Nat → Nat → Int32) → Prop} (h : ∀ G2, RM (G2 1) a → (∀ c, c ≠ 1 → c ≠ 3 → G2 c = G c) → Ok (p_X6_unravel_b32 N J rv7 rv17 n G2 x (oI (fun k => k / 2) (a.unS f k).2) (oI a.sd (a.unS f k).2) (a.unS f k).1 (nI (k / 2)) (nI (k % 2 + 1 + 1))) P) : Ok (p_X6_unravel_b32 N J rv7 rv17 (n + 1) G x (oI (fun k => k / 2) f.2) (oI a.sd f.2) f.1 (nI (k / 2)) y) P := by
  have h1 := I.nd
  have h2 := I.np
  have h3 := sd_lt I hk
  subst hy
  have eo : p_X6_of N G J (nI (k / 2)) (nI (k % 2 + 1)) = some (nI (a.sd k)) := by
    unfold TA.sd
    rcases Nat.mod_two_eq_zero_or_one k with e | e
    · rw [e, if_pos rfl]; exact m_of1 R I.nd hk
    · rw [e, if_neg (by decide)]; exact m_of2 R I.nd hk
  have e2 : ¬ (2 : Int32) < nI (k % 2 + 1) := by
    have e : (2 : Int32) = nI 2 := by decide
    rw [e, zltF (by omega) (by omega)]
    exact id
  rw [p_X6_unravel_b32, if_neg e2, eo, Option.bind_some]
  refine Ok.b (m_isTempted hN R I hk h3) ?_
  rintro ⟨v, G3⟩ ⟨g1, g2, g3⟩
  have g4 : v = bI (a.tem (k / 2) (a.sd k)) := g1
  subst g4
  rw [jlt_eq]
  unfold TA.unS at h
  cases ht : a.tem (k / 2) (a.sd k)
  · simp (disch := omega) only [Option.bind_some, jlt_eq, ↓reduceIte, eq_self, jinT, zleT, zleF, zltT, zltF, zeq, zpos, zpos', zcl, zm6, z6, z84, z24, z14, z8, nI_add, zd0, zd1, zd2, zd3, zd4, zd5, bitI_e, bI0, bI1, p_X6_unravel_b103]
    have e : (if a.gain (k / 2) (a.sd k) ≤ f.1 then f else if a.whyU (k / 2) (a.sd k) = 0 then (a.gain (k / 2) (a.sd k), some k) else f) = f := by
      by_cases h4 : a.gain (k / 2) (a.sd k) ≤ f.1
      · rw [if_pos h4]
      · rw [if_neg h4, if_neg]
        intro h5
        obtain ⟨o1, o2⟩ := whyU_opn h5
        unfold TA.tem at ht
        rw [o1, o2, Bool.true_and, Bool.true_and, Bool.not_eq_false', decide_eq_true_eq] at ht
        rw [Int32.le_iff_toInt_le] at h4 ht hf
        have : (0 : Int32).toInt = 0 := by decide
        omega
    rw [e] at h
    exact h G3 g2 g3
  · rw [bI_t, if_neg i10]
    refine Ok.b (m_whyNot hN g2 I hk h3 rfl) ?_
    rintro ⟨w, G4⟩ ⟨k1, k2, k3⟩
    have k4 : w = a.whyU (k / 2) (a.sd k) := k1
    subst k4
    have c4 : ∀ c, c ≠ 1 → c ≠ 3 → G4 c = G c := fun c c1 c3 => (k3 c c1 c3).trans (g3 c c1 c3)
    rw [jlt_eq]
    by_cases h5 : a.whyU (k / 2) (a.sd k) = 0
    · rw [if_pos h5]
      have hst := opn_st (whyU_opn h5).1
      refine Ok.b (m_gainOf hN k2 I hk h3 hst) ?_
      rintro ⟨w, G5⟩ ⟨l1, l2, l3⟩
      have l4 : w = a.gain (k / 2) (a.sd k) := l1
      subst l4
      have c5 : ∀ c, c ≠ 1 → c ≠ 3 → G5 c = G c := fun c c1 c3 => (l3 c c1 c3).trans (c4 c c1 c3)
      rw [jlt_eq]
      by_cases h6 : a.gain (k / 2) (a.sd k) ≤ f.1
      · rw [if_pos h6] at h
        rw [if_neg (by rw [i_le_lt]; exact fun e => e h6)]
        simp (disch := omega) only [Option.bind_some, jlt_eq, ↓reduceIte, eq_self, jinT, zleT, zleF, zltT, zltF, zeq, zpos, zpos', zcl, zm6, z6, z84, z24, z14, z8, nI_add, zd0, zd1, zd2, zd3, zd4, zd5, bitI_e, bI0, bI1, p_X6_unravel_b103]
        exact h G5 l2 c5
      · rw [if_neg h6, if_pos h5] at h
        rw [if_pos (by rw [i_le_lt]; exact h6)]
        refine Ok.b (m_gainOf hN l2 I hk h3 hst) ?_
        rintro ⟨w, G6⟩ ⟨q1, q2, q3⟩
        have q4 : w = a.gain (k / 2) (a.sd k) := q1
        subst q4
        simp (disch := omega) only [Option.bind_some, jlt_eq, ↓reduceIte, eq_self, jinT, zleT, zleF, zltT, zltF, zeq, zpos, zpos', zcl, zm6, z6, z84, z24, z14, z8, nI_add, zd0, zd1, zd2, zd3, zd4, zd5, bitI_e, bI0, bI1, p_X6_unravel_b103]
        exact h G6 q2 (fun c c1 c3 => (q3 c c1 c3).trans (c5 c c1 c3))
    · rw [if_neg h5]
      have e : (if a.gain (k / 2) (a.sd k) ≤ f.1 then f else if a.whyU (k / 2) (a.sd k) = 0 then (a.gain (k / 2) (a.sd k), some k) else f) = f := by
        rw [if_neg h5, ite_self]
      rw [e] at h
      simp (disch := omega) only [Option.bind_some, jlt_eq, ↓reduceIte, eq_self, jinT, zleT, zleF, zltT, zltF, zeq, zpos, zpos', zcl, zm6, z6, z84, z24, z14, z8, nI_add, zd0, zd1, zd2, zd3, zd4, zd5, bitI_e, bI0, bI1, p_X6_unravel_b103]
      exact h G4 k2 c4
theorem unS_pos {f : Int32 × Option Nat} {k : Nat} (h : 0 ≤ f.1) : 0 ≤ (a.unS f k).1 := by
  unfold TA.unS
  split
  · exact h
  · split
    · next h1 _ =>
      rw [Int32.le_iff_toInt_le] at h h1 ⊢
      show (0 : Int32).toInt ≤ (a.gain (k / 2) (a.sd k)).toInt
      omega
    · exact h
/-- all deeds looked at, in the reference -/
theorem m_best (hN : 2000 ≤ N) {rv7 : (Nat → Nat → Int32) → Int32 → Option (Int32 × (Nat → Nat → Int32))} (R : RM (G 1) a) (I : a.I) {x : Int32} {P : Int32 × (Nat → Nat → Int32) → Prop} (h : ∀ G2, RM (G2 1) a → (∀ c, c ≠ 1 → c ≠ 3 → G2 c = G c) → Ok (if oI (fun k => k / 2) a.best = (-1) then (some (x, G2)) else ((p_X6_undoes N G2 J (oI (fun k => k / 2) a.best) (oI a.sd a.best)).bind (fun v4 => jlt v4.2 fun G5 => rv7 G5 (x + 1)))) P) : Ok (p_X6_unravel_b17 N J rv7 N G x (-1) (-1) 0 0) P := by
  have h1 := I.nd
  have key : ∀ (j d n : Nat) (G1 : Nat → Nat → Int32) (f : Int32 × Option Nat), d + j = a.nd → j < n → RM (G1 1) a → (∀ c, c ≠ 1 → c ≠ 3 → G1 c = G c) → 0 ≤ f.1 → it a.unS (2 * d) (2 * j) f = it a.unS 0 (2 * a.nd) ((0 : Int32), none) → Ok (p_X6_unravel_b17 N J rv7 n G1 x (oI (fun k => k / 2) f.2) (oI a.sd f.2) f.1 (nI d)) P := by
    intro j
    induction j with
    | zero =>
      intro d n G1 f hd hn R1 hc hf hi
      obtain ⟨m, rfl⟩ : ∃ m, n = m + 1 := ⟨n - 1, by omega⟩
      have e : d = a.nd := by omega
      subst e
      rw [p_X6_unravel_b17, R1.nd, if_pos (nI_le (Nat.le_refl _) (by omega))]
      have e : f.2 = a.best := by
        have : f = it a.unS 0 (2 * a.nd) ((0 : Int32), none) := hi
        rw [this]; rfl
      rw [e]
      exact h G1 R1 hc
    | succ j ih =>
      intro d n G1 f hd hn R1 hc hf hi
      obtain ⟨m, rfl⟩ : ∃ m, n = m + 1 := ⟨n - 1, by omega⟩
      obtain ⟨M, hM⟩ : ∃ M, N = M + 1 + 1 + 1 := ⟨N - 3, by omega⟩
      rw [p_X6_unravel_b17, R1.nd, if_neg (nI_ge (by omega) (by omega))]
      have b : ∀ G2 f2, p_X6_unravel_b32 N J rv7 (p_X6_unravel_b17 N J rv7 m) N G2 x (oI (fun k => k / 2) f2) (oI a.sd f2) = p_X6_unravel_b32 N J rv7 (p_X6_unravel_b17 N J rv7 m) (M + 1 + 1 + 1) G2 x (oI (fun k => k / 2) f2) (oI a.sd f2) := fun G2 f2 => by rw [← hM]
      rw [b]
      have hd1 : 2 * d / 2 = d := by omega
      have hd2 : (2 * d + 1) / 2 = d := by omega
      have s1 := m_unr1 (J := J) hN (rv7 := rv7) (rv17 := p_X6_unravel_b17 N J rv7 m) R1 I (k := 2 * d) (n := M + 1 + 1) (x := x) (y := 1) (f := f) (by omega) (by rw [show 2 * d % 2 + 1 = 1 by omega]; decide) hf (P := P)
      rw [hd1] at s1
      refine s1 ?_
      intro G2 R2 c2
      have s2 := m_unr1 (J := J) hN (rv7 := rv7) (rv17 := p_X6_unravel_b17 N J rv7 m) R2 I (k := 2 * d + 1) (n := M + 1) (x := x) (y := nI (2 * d % 2 + 1 + 1)) (f := a.unS f (2 * d)) (by omega) (by congr 1; omega) (unS_pos hf) (P := P)
      rw [hd2] at s2
      refine s2 ?_
      intro G3 R3 c3
      have e3 : (2 : Int32) < nI ((2 * d + 1) % 2 + 1 + 1) := by
        have e : (2 : Int32) = nI 2 := by decide
        rw [e]
        exact nI_lt (by omega) (by omega)
      rw [p_X6_unravel_b32, if_pos e3, zd1]
      refine ih (d + 1) m G3 _ (by omega) (by omega) R3 (fun c h4 h5 => ((c3 c h4 h5).trans (c2 c h4 h5)).trans (hc c h4 h5)) (unS_pos (unS_pos hf)) ?_
      rw [← hi, show 2 * (j + 1) = 2 * j + 1 + 1 by omega, it_s, it_s, show 2 * (d + 1) = 2 * d + 1 + 1 by omega]
  exact key a.nd 0 N G ((0 : Int32), none) (by omega) (by omega) R (fun _ _ _ => rfl) (by decide) rfl
theorem best_some {k : Nat} (h : a.best = some k) : k < 2 * a.nd ∧ a.whyU (k / 2) (a.sd k) = 0 := by
  have key : ∀ (n j : Nat) (f : Int32 × Option Nat), (∀ q, f.2 = some q → q < j + n ∧ a.whyU (q / 2) (a.sd q) = 0) → ∀ q, (it a.unS j n f).2 = some q → q < j + n ∧ a.whyU (q / 2) (a.sd q) = 0 := by
    intro n
    induction n with
    | zero => intro j f hf q hq; exact hf q hq
    | succ n ih =>
      intro j f hf q hq
      rw [it_s] at hq
      have := ih (j + 1) (a.unS f j) (fun q2 h2 => by
        unfold TA.unS at h2
        by_cases h4 : a.gain (j / 2) (a.sd j) ≤ f.1
        · rw [if_pos h4] at h2; have := hf q2 h2; exact ⟨by omega, this.2⟩
        · rw [if_neg h4] at h2
          by_cases h5 : a.whyU (j / 2) (a.sd j) = 0
          · rw [if_pos h5] at h2
            cases h2
            exact ⟨by omega, h5⟩
          · rw [if_neg h5] at h2; have := hf q2 h2; exact ⟨by omega, this.2⟩) q hq
      exact ⟨by omega, this.2⟩
  have := key (2 * a.nd) 0 (0, none) (fun q h => by cases h) k h
  exact ⟨by omega, this.2⟩
theorem cN_lt {f g : Nat → Bool} {d : Nat} : ∀ (k j : Nat), (∀ i, f i = true → g i = true) → j ≤ d → d < j + k → f d = false → g d = true → cN f j k < cN g j k
  | 0, j, _, h1, h2, _, _ => absurd h2 (by omega)
  | k + 1, j, h, h1, h2, h3, h4 => by
    have le : ∀ (k j : Nat), cN f j k ≤ cN g j k := by
      intro k
      induction k with
      | zero => intro j; exact Nat.le_refl _
      | succ k ih =>
        intro j
        rw [cN, cN]
        have := ih (j + 1)
        by_cases e : f j = true
        · rw [if_pos e, if_pos (h j e)]; omega
        · rw [if_neg e]; omega
    rw [cN, cN]
    by_cases e : j = d
    · subst e
      have := le k (j + 1)
      rw [if_neg (by rw [h3]; decide), if_pos h4]; omega
    · have := cN_lt k (j + 1) h (by omega) (by omega) h3 h4
      by_cases e2 : f j = true
      · rw [if_pos e2, if_pos (h j e2)]; omega
      · rw [if_neg e2]; omega
def TA.unr : Nat → TA → Int32 → Int32 × TA
  | 0, a, c => (c, a)
  | m + 1, a, c => match a.best with
    | none => (c, a)
    | some k => TA.unr m (a.fell (k / 2) (a.sd k)) (c + 1)
theorem unr_I : ∀ (m : Nat) (a : TA) (c : Int32), a.I → (TA.unr m a c).2.I
  | 0, _, _, I => I
  | m + 1, a, c, I => by
    rw [TA.unr]
    cases h : a.best with
    | none => exact I
    | some k =>
      have hb := best_some h
      exact unr_I m _ _ (I.fell (by omega) (whyU0 hb.2))
theorem fell_cN (I : a.I) {d p : Nat} (hd : d < a.nd) (hst : a.st d = true) : cN (a.fell d p).st 0 a.nd < cN a.st 0 a.nd := by
  have e : (a.fell d p).st = _ := s3_st a _ _ _
  rw [e]
  refine cN_lt (d := d) _ _ ?_ (Nat.zero_le _) (by omega) ?_ hst
  · intro i hi
    rw [Bool.and_eq_true] at hi
    exact hi.1
  · have : a.fw d d = true := by
      unfold TA.fw
      rw [decide_eq_true (Nat.le_refl _), hst, decide_eq_true rfl]; rfl
    rw [this, Bool.not_true, Bool.and_false]
theorem oI_m1 {k : Nat} {f : Nat → Nat} (h : f k < 2147483648) : ¬ oI f (some k) = -1 := fun e => by
  have : (nI (f k)).toInt = (-1 : Int32).toInt := congrArg Int32.toInt e
  rw [nI_toInt h] at this
  have e2 : (-1 : Int32).toInt = -1 := by decide
  omega
theorem x_unravel (hN : 2000 ≤ N) : ∀ (m : Nat) (a : TA) (c : Int32) (G : Nat → Nat → Int32) (n : Nat), a.I → RC (jvw G 1) a → m ≤ 30 → m < n → Ok (p_X5_unravel_b4 N J n G c (nI (30 - m))) (fun r => r.1 = (TA.unr m a c).1 ∧ RC (jvw r.2 1) (TA.unr m a c).2 ∧ KX G r.2)
  | 0, a, c, G, n, I, R, _, hn => by
    obtain ⟨q, rfl⟩ : ∃ q, n = q + 1 := ⟨n - 1, by omega⟩
    rw [p_X5_unravel_b4, if_pos (by decide)]
    exact Ok.s ⟨rfl, R, fun _ _ => rfl, fun _ _ => rfl⟩
  | m + 1, a, c, G, n, I, R, hm, hn => by
    obtain ⟨q, rfl⟩ : ∃ q, n = q + 1 := ⟨n - 1, by omega⟩
    have h1 := I.nd
    have e30 : (30 : Int32) = nI 30 := by decide
    rw [p_X5_unravel_b4, if_neg (by rw [e30]; exact nI_ge (by omega) (by omega)), c_best hN R I, Option.bind_some, TA.unr]
    cases hb : a.best with
    | none => exact Ok.s ⟨rfl, R, fun _ _ => rfl, fun _ _ => rfl⟩
    | some k =>
      obtain ⟨b1, b2⟩ := best_some hb
      have hd : k / 2 < a.nd := by omega
      rw [if_neg (oI_m1 (f := id) (show k < 2147483648 by omega))]
      rw [show oI id (some k) = nI k from rfl, z_half (by omega), z_odd (by omega), c_side R I hd, Option.bind_some]
      refine Ok.b (c_fell hN R I hd (sd_lt I hd)) ?_
      rintro ⟨v, g⟩ ⟨_, f2, _⟩
      rw [jlt_eq, show nI (30 - (m + 1)) + 1 = nI (30 - m) by rw [nI_1]; congr 1; omega]
      refine (x_unravel hN m _ (c + 1) (jpt G 1 9 g) q (I.fell hd (whyU0 b2)) (f2.cg (fun c hc => jvw_pt hc)) (by omega) (by omega)).c ?_
      rintro r ⟨r1, r2, r3⟩
      exact ⟨r1, r2, (KX.pt (by omega)).trans r3⟩
theorem m_unravel (hN : 2000 ≤ N) : ∀ (m : Nat) (a : TA) (c : Int32) (G : Nat → Nat → Int32) (n : Nat), a.I → RM (G 1) a → cN a.st 0 a.nd ≤ m → m < n → Ok (p_X6_unravel_b7 N J n G c) (fun r => r.1 = (TA.unr m a c).1 ∧ RM (r.2 1) (TA.unr m a c).2 ∧ ∀ c, c ≠ 1 → c ≠ 3 → r.2 c = G c) := by
  intro m
  induction m with
  | zero =>
    intro a c G n I R hm hn
    obtain ⟨q, rfl⟩ : ∃ q, n = q + 1 := ⟨n - 1, by omega⟩
    rw [p_X6_unravel_b7]
    refine m_best hN R I ?_
    intro G2 R2 c2
    have hb : a.best = none := by
      cases hb : a.best with
      | none => rfl
      | some k =>
        obtain ⟨b1, b2⟩ := best_some hb
        have := fell_cN I (d := k / 2) (p := 0) (by omega) (whyU0 b2)
        omega
    rw [hb]
    show Ok (if (-1 : Int32) = -1 then _ else _) _
    rw [if_pos rfl]
    exact Ok.s ⟨rfl, R2, c2⟩
  | succ m ih =>
    intro a c G n I R hm hn
    obtain ⟨q, rfl⟩ : ∃ q, n = q + 1 := ⟨n - 1, by omega⟩
    have h1 := I.nd
    rw [p_X6_unravel_b7]
    refine m_best hN R I ?_
    intro G2 R2 c2
    rw [TA.unr]
    cases hb : a.best with
    | none =>
      show Ok (if (-1 : Int32) = -1 then _ else _) _
      rw [if_pos rfl]
      exact Ok.s ⟨rfl, R2, c2⟩
    | some k =>
      obtain ⟨b1, b2⟩ := best_some hb
      have hd : k / 2 < a.nd := by omega
      have hst := whyU0 b2
      rw [if_neg (oI_m1 (f := fun k => k / 2) (show k / 2 < 2147483648 by omega))]
      refine Ok.b (m_undoes hN R2 I hd (sd_lt I hd) hst) ?_
      rintro ⟨v, G3⟩ ⟨_, f2, f3⟩
      rw [jlt_eq]
      have := fell_cN I (d := k / 2) (p := a.sd k) hd hst
      refine (ih _ (c + 1) G3 q (I.fell hd hst) f2 (by rw [fell_nd]; omega) (by omega)).c ?_
      rintro r ⟨r1, r2, r3⟩
      exact ⟨r1, r2, fun c c1 c3 => ((r3 c c1 c3).trans (f3 c c1)).trans (c2 c c1 c3)⟩
theorem case_24 (hN : 2000 ≤ N) (hL : LR G J s) : Ok (p_case_24 N xs G J i) (fun r => ∃ s, LR r.1 r.2 s) := by
  have X := hL.1
  have I := hL.2.2.now
  have h1 := I.nd
  unfold p_case_24
  refine k_N hL (m := fun g => p_X6_unravel N g (jvw J 70)) (TA.unr 30 s.now 0).1 (s.to (TA.unr 30 s.now 0).2) (hL.2.2.to (unr_I 30 _ _ I)) ?_ ?_
  · unfold p_X5_unravel
    refine (x_unravel hN 30 s.now 0 _ N I X.now (by omega) (by omega)).c ?_
    rintro r ⟨r1, r2, r3⟩
    exact ⟨r1, X.k r2 r3 (fun _ _ => rfl) rfl⟩
  · intro g M
    unfold p_X6_unravel
    rw [jlt_eq]
    have := cN_le s.now.st s.now.nd 0
    refine (m_unravel hN 30 s.now 0 _ N I (thrR M.now 0) (by omega) (by omega)).c ?_
    rintro r ⟨r1, r2, r3⟩
    exact ⟨r1, M.k r2 ((KM.thr 0).trans (KM.of13 r3)) rfl rfl⟩
end unravel

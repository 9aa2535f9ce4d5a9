/-! the reference: the ending laid -/
theorem bit_pow : ∀ m, m ≤ 10 → bitI m = nI (2 ^ m) := by decide
theorem nI_p1 (u : Nat) : nI (u + 1) - 1 = nI u := by
  rw [← nI_1]; grind
theorem nI_m1 (u : Nat) : nI u + (-1) = nI u - 1 := by grind
def TA.stI (a : TA) : Int32 := it (fun s d => if a.st d = true then s ||| bitI d else s) 0 a.nd 0
def TA.lef (a : TA) (S : Nat) : Int32 := it (fun s i => if S.testBit i = true then s else s &&& (bitI (a.dN i) ^^^ (-1))) 0 a.dM a.stI
def TA.dx (a : TA) (b : Nat) : Int32 := if b = 0 then -1 else nI (a.dN (b - 1))
def ML (G : Nat → Nat → Int32) (a : TA) (f T : Nat) : Prop := (MD G a) ∧ (G 0 24 = nI T) ∧ (∀ t S, t ≤ T → S < 2 ^ a.dM → a.cl S → LY a f T G t S) ∧ (∀ t S, t < T → S < 2 ^ a.dM → a.cl S → G 10 (t * 1024 + S) = cx (a.chs f T t S)) ∧ (T ≤ 12)
theorem ML.md {G : Nat → Nat → Int32} {a : TA} {f T : Nat} (R : ML G a f T) : MD G a := R.1
theorem ML.tt {G : Nat → Nat → Int32} {a : TA} {f T : Nat} (R : ML G a f T) : G 0 24 = nI T := R.2.1
theorem ML.ly {G : Nat → Nat → Int32} {a : TA} {f T : Nat} (R : ML G a f T) : ∀ t S, t ≤ T → S < 2 ^ a.dM → a.cl S → LY a f T G t S := R.2.2.1
theorem ML.ch {G : Nat → Nat → Int32} {a : TA} {f T : Nat} (R : ML G a f T) : ∀ t S, t < T → S < 2 ^ a.dM → a.cl S → G 10 (t * 1024 + S) = cx (a.chs f T t S) := R.2.2.2.1
theorem ML.tm {G : Nat → Nat → Int32} {a : TA} {f T : Nat} (R : ML G a f T) : T ≤ 12 := R.2.2.2.2
section mfrom
variable {N : Nat} {G G2 A : Nat → Nat → Int32} {J : Nat → Nat → Int64} {a : TA}
def FX (A r : Nat → Nat → Int32) : Prop := (∀ c, c ≠ 0 → (c < 8 ∨ 12 ≤ c) → r c = A c) ∧ ∀ i, i < 23 ∨ 26 ≤ i → r 0 i = A 0 i
theorem se_out {t S t2 S2 p : Nat} (h : t2 ≠ t ∨ S2 ≠ S) (hS : S < 1024) (hS2 : S2 < 1024) (hp : p < 6) : se t2 S2 p < se t S 0 ∨ se t S 6 ≤ se t2 S2 p := by
  unfold se
  rcases Nat.lt_trichotomy (t2 * 1024 + S2) (t * 1024 + S) with c | c | c
  · left; omega
  · exfalso; omega
  · right; omega
theorem m_b148 (hN : 2000 ≤ N) (M : MD A a) {f T t : Nat} (ht : t < T) (hT : T ≤ 12) (hf : f < 6) (h25 : A 0 25 = nI f) (hnp0 : 0 < a.np) (hl : ∀ t2 S, t < t2 → t2 ≤ T → S < 2 ^ a.dM → a.cl S → LY a f T A t2 S) (hc : ∀ t2 S, t < t2 → t2 < T → S < 2 ^ a.dM → a.cl S → A 10 (t2 * 1024 + S) = cx (a.chs f T t2 S)) {rv : (Nat → Nat → Int32) → Int32 → Option (Int32 × (Nat → Nat → Int32))} {P : Int32 × (Nat → Nat → Int32) → Prop} (hP : ∀ r, (∀ c, c ≠ 9 → c ≠ 10 → c ≠ 11 → r c = A c) → (∀ t2 S, t ≤ t2 → t2 ≤ T → S < 2 ^ a.dM → a.cl S → LY a f T r t2 S) → (∀ t2 S, t ≤ t2 → t2 < T → S < 2 ^ a.dM → a.cl S → r 10 (t2 * 1024 + S) = cx (a.chs f T t2 S)) → Ok (rv r (nI t + (-1))) P) : ∀ (k n x : Nat) (G : Nat → Nat → Int32), x + k = 2 ^ a.dM → k < n → (∀ c, c ≠ 9 → c ≠ 10 → c ≠ 11 → G c = A c) → (∀ t2 S, (t < t2 ∨ (t = t2 ∧ S < x)) → t2 ≤ T → S < 2 ^ a.dM → a.cl S → LY a f T G t2 S) → (∀ t2 S, (t < t2 ∨ (t = t2 ∧ S < x)) → t2 < T → S < 2 ^ a.dM → a.cl S → G 10 (t2 * 1024 + S) = cx (a.chs f T t2 S)) → Ok (p_X6_laysFrom_b148 N J rv n G (nI t) (nI x)) P := by
  have hm := M.mx
  have hnp := M.i.np
  have hpw : 2 ^ a.dM ≤ 1024 := show 2 ^ a.dM ≤ 2 ^ 10 from Nat.pow_le_pow_right (by omega) hm
  intro k
  induction k with
  | zero =>
    intro n x G hx hn F L C
    have c23 : G 0 23 = nI a.dM := by rw [F 0 (by decide) (by decide) (by decide)]; exact M.mm
    match n, hn with
    | n + 1, _ =>
      unfold p_X6_laysFrom_b148
      rw [c23, bitI_e, bit_pow _ hm, if_pos (nI_le (by omega) (by omega))]
      exact hP G F (fun t2 S h1 h2 h3 h4 => L t2 S (by omega) h2 h3 h4) (fun t2 S h1 h2 h3 h4 => C t2 S (by omega) h2 h3 h4)
  | succ k ih =>
    intro n x G hx hn F L C
    have MG : MD G a := M.cg (F 1 (by decide) (by decide) (by decide)) (by rw [F 0 (by decide) (by decide) (by decide)]) (F 8 (by decide) (by decide) (by decide))
    have g25 : G 0 25 = nI f := by rw [F 0 (by decide) (by decide) (by decide)]; exact h25
    have c23 := MG.mm
    match n, hn with
    | n + 1, hn =>
      unfold p_X6_laysFrom_b148
      rw [c23, bitI_e, bit_pow _ hm, if_neg (nI_ge (by omega) (by omega))]
      refine Ok.b (m_turn hN MG ht hT hf g25 hnp0 (by omega)) ?_
      rintro r ⟨r1, r2⟩
      rw [jlt_eq, nI_1]
      refine ih n (x + 1) r (by omega) (by omega) ?_ ?_ ?_
      · intro c h9 h10 h11; rw [r1.1 c h9 h10 h11]; exact F c h9 h10 h11
      · intro t2 S h1 h2 h3 h4
        by_cases e : t2 = t ∧ S = x
        · obtain ⟨e1, e2⟩ := e
          subst e1 e2
          exact (r2 h4 (fun S2 g1 g2 => L _ S2 (by omega) (by omega) g1 g2)).1
        · intro p hp
          rw [r1.2.1 _ (se_out (by omega) (by omega) (by omega) (by omega))]
          exact L t2 S (by omega) h2 h3 h4 p hp
      · intro t2 S h1 h2 h3 h4
        by_cases e : t2 = t ∧ S = x
        · obtain ⟨e1, e2⟩ := e
          subst e1 e2
          exact (r2 h4 (fun S2 g1 g2 => L _ S2 (by omega) (by omega) g1 g2)).2
        · rw [r1.2.2 _ (by omega)]
          exact C t2 S (by omega) h2 h3 h4
theorem m_b141 (hN : 2000 ≤ N) (M : MD A a) {f T : Nat} (hT : T ≤ 12) (hf : f < 6) (h25 : A 0 25 = nI f) (h24 : A 0 24 = nI T) (hnp0 : 0 < T → 0 < a.np) : ∀ (u n : Nat) (G : Nat → Nat → Int32), u ≤ T → u < n → (∀ c, c ≠ 9 → c ≠ 10 → c ≠ 11 → G c = A c) → (∀ t2 S, u ≤ t2 → t2 ≤ T → S < 2 ^ a.dM → a.cl S → LY a f T G t2 S) → (∀ t2 S, u ≤ t2 → t2 < T → S < 2 ^ a.dM → a.cl S → G 10 (t2 * 1024 + S) = cx (a.chs f T t2 S)) → Ok (p_X6_laysFrom_b141 N J n G (nI u - 1)) (fun r => r.1 = 1 ∧ (∀ c, c ≠ 9 → c ≠ 10 → c ≠ 11 → r.2 c = A c) ∧ ML r.2 a f T) := by
  have hm := M.mx
  have hpw : 2 ^ a.dM ≤ 1024 := show 2 ^ a.dM ≤ 2 ^ 10 from Nat.pow_le_pow_right (by omega) hm
  intro u
  induction u with
  | zero =>
    intro n G hu hn F L C
    match n, hn with
    | n + 1, _ =>
      unfold p_X6_laysFrom_b141
      rw [nI_0, if_pos (by decide)]
      refine Ok.s ⟨rfl, F, ?_, ?_, ?_, ?_, hT⟩
      · dsimp only; exact M.cg (F 1 (by decide) (by decide) (by decide)) (by rw [F 0 (by decide) (by decide) (by decide)]) (F 8 (by decide) (by decide) (by decide))
      · dsimp only; rw [F 0 (by decide) (by decide) (by decide)]; exact h24
      · intro t S h1 h2 h3; exact L t S (Nat.zero_le _) h1 h2 h3
      · intro t S h1 h2 h3; exact C t S (Nat.zero_le _) h1 h2 h3
  | succ u ih =>
    intro n G hu hn F L C
    have MG : MD G a := M.cg (F 1 (by decide) (by decide) (by decide)) (by rw [F 0 (by decide) (by decide) (by decide)]) (F 8 (by decide) (by decide) (by decide))
    have g25 : G 0 25 = nI f := by rw [F 0 (by decide) (by decide) (by decide)]; exact h25
    match n, hn with
    | n + 1, hn =>
      unfold p_X6_laysFrom_b141
      rw [nI_p1, if_neg (nI_pos (by omega))]
      refine m_b148 hN MG (t := u) (by omega) hT hf g25 (hnp0 (by omega)) (fun t2 S h1 h2 h3 h4 => L t2 S (by omega) h2 h3 h4) (fun t2 S h1 h2 h3 h4 => C t2 S (by omega) h2 h3 h4) ?_ (2 ^ a.dM) N 0 G (by omega) (by omega) (fun _ _ _ _ => rfl) (fun t2 S h1 h2 h3 h4 => L t2 S (by omega) h2 h3 h4) (fun t2 S h1 h2 h3 h4 => C t2 S (by omega) h2 h3 h4)
      intro r r1 r2 r3
      rw [nI_m1]
      exact ih n r (by omega) (by omega) (fun c h9 h10 h11 => (r1 c h9 h10 h11).trans (F c h9 h10 h11)) r2 r3
theorem m_b98 {T x : Nat} (hT : T ≤ 12) (hx : x < 1024) {rv : (Nat → Nat → Int32) → Int32 → Option (Int32 × (Nat → Nat → Int32))} {P : Int32 × (Nat → Nat → Int32) → Prop} (h24 : A 0 24 = nI T) (hP : ∀ r, (∀ c, c ≠ 9 → r c = A c) → (∀ k, (k < se T x 0 ∨ se T x 6 ≤ k) → r 9 k = A 9 k) → (∀ p, p < 6 → r 9 (se T x p) = 0) → Ok (rv r (nI x + 1)) P) : ∀ (k n j : Nat) (G : Nat → Nat → Int32), j + k = 6 → k < n → (∀ c, c ≠ 9 → G c = A c) → (∀ k, (k < se T x 0 ∨ se T x 6 ≤ k) → G 9 k = A 9 k) → (∀ p, p < j → G 9 (se T x p) = 0) → Ok (p_X6_laysFrom_b98 N J rv n G (nI x) (nI j)) P := by
  intro k
  induction k with
  | zero =>
    intro n j G hj hn F O Z
    match n, hn with
    | n + 1, _ =>
      unfold p_X6_laysFrom_b98
      rw [show (6 : Int32) = nI 6 by decide, if_pos (nI_le (by omega) (by omega))]
      exact hP G F O (fun p hp => Z p (by omega))
  | succ k ih =>
    intro n j G hj hn F O Z
    have s1 := se_lt (t := T) (S := x) (p := j) (by omega) hx (by omega)
    match n, hn with
    | n + 1, hn =>
      unfold p_X6_laysFrom_b98
      rw [show (6 : Int32) = nI 6 by decide, if_neg (nI_ge (by omega) (by omega)), F 0 (by decide), h24, m_seat, Option.bind_some, if_pos (jinT s1 (by omega)), zcl (by omega), jlt_eq, nI_1]
      refine ih n (j + 1) _ (by omega) (by omega) ?_ ?_ ?_
      · intro c hc; rw [jup_n _ _ hc]; exact F c hc
      · intro k hk; rw [jup_s, upd_n _ _ (by unfold se at *; omega)]; exact O k hk
      · intro p hp
        rw [jup_s, upd_i]
        by_cases c : p = j
        · rw [if_pos (by rw [c])]
        · rw [if_neg (by unfold se; omega)]; exact Z p (by omega)
theorem m_b85 (hN : 2000 ≤ N) (M : MD A a) {f T : Nat} (hT : T ≤ 12) (hf : f < 6) (h25 : A 0 25 = nI f) (h24 : A 0 24 = nI T) (hnp0 : 0 < T → 0 < a.np) : ∀ (k n x : Nat) (G : Nat → Nat → Int32), x + k = 2 ^ a.dM → k < n → (∀ c, c ≠ 9 → G c = A c) → (∀ S p, S < x → p < 6 → G 9 (se T S p) = 0) → Ok (p_X6_laysFrom_b85 N J n G (nI x)) (fun r => r.1 = 1 ∧ (∀ c, c ≠ 9 → c ≠ 10 → c ≠ 11 → r.2 c = A c) ∧ ML r.2 a f T) := by
  have hm := M.mx
  have hnp := M.i.np
  have hpw : 2 ^ a.dM ≤ 1024 := show 2 ^ a.dM ≤ 2 ^ 10 from Nat.pow_le_pow_right (by omega) hm
  intro k
  induction k with
  | zero =>
    intro n x G hx hn F Z
    have c23 : G 0 23 = nI a.dM := by rw [F 0 (by decide)]; exact M.mm
    have c24 : G 0 24 = nI T := by rw [F 0 (by decide)]; exact h24
    match n, hn with
    | n + 1, _ =>
      unfold p_X6_laysFrom_b85
      rw [c23, bitI_e, bit_pow _ hm, if_pos (nI_le (by omega) (by omega)), c24]
      refine m_b141 hN M hT hf h25 h24 hnp0 T N G (Nat.le_refl _) (by omega) (fun c h _ _ => F c h) ?_ (fun t2 S h1 h2 => by omega)
      intro t2 S h1 h2 h3 h4 p hp
      have e : t2 = T := by omega
      rw [e, Z S p (by omega) (by omega), Nat.sub_self]
      rfl
  | succ k ih =>
    intro n x G hx hn F Z
    have c23 : G 0 23 = nI a.dM := by rw [F 0 (by decide)]; exact M.mm
    have c24 : G 0 24 = nI T := by rw [F 0 (by decide)]; exact h24
    match n, hn with
    | n + 1, hn =>
      unfold p_X6_laysFrom_b85
      rw [c23, bitI_e, bit_pow _ hm, if_neg (nI_ge (by omega) (by omega))]
      refine m_b98 (A := G) hT (by omega) c24 ?_ 6 N 0 G (by omega) (by omega) (fun _ _ => rfl) (fun _ _ => rfl) (fun p hp => absurd hp (Nat.not_lt_zero _))
      intro r r1 r2 r3
      rw [nI_1]
      refine ih n (x + 1) r (by omega) (by omega) (fun c hc => (r1 c hc).trans (F c hc)) ?_
      intro S p hS hp
      by_cases e : S = x
      · rw [e]; exact r3 p hp
      · rw [r2 _ (se_out (Or.inr e) (by omega) (by omega) hp)]; exact Z S p (by omega) hp
theorem m_b12 (hN : 2000 ≤ N) (R : RM (A 1) a) (I : a.I) {f r : Nat} (hr : r ≤ 2) (hf : f < 6) (h25 : A 0 25 = nI f) : ∀ (k n d : Nat) (G : Nat → Nat → Int32), d + k = a.nd → k < n → (∀ c, c ≠ 0 → c ≠ 8 → G c = A c) → (∀ i, i ≠ 23 → G 0 i = A 0 i) → G 0 23 = nI (a.dl d).2 → (a.dl d).2 ≤ 10 → (∀ i, i < (a.dl d).2 → G 8 i = nI ((a.dl d).1 i)) → Ok (p_X6_laysFrom_b12 N J n G (nI r) (nI d)) (fun o => FX A o.2 ∧ if a.dM ≤ 10 then o.1 = 1 ∧ ML o.2 a f (r * a.np) else o.1 = 0) := by
  have hnd := I.nd
  have hnp := I.np
  intro k
  induction k with
  | zero =>
    intro n d G hd hn F F0 c23 hle hD
    have c1 : G 1 1 = nI a.np := by rw [F 1 (by decide) (by decide)]; exact R.np
    have c7 : G 1 7 = nI a.nd := by rw [F 1 (by decide) (by decide)]; exact R.nd
    have ed : d = a.nd := by omega
    rw [ed] at c23 hle hD
    have hT : r * a.np ≤ 12 := Nat.le_trans (Nat.mul_le_mul hr hnp) (by decide)
    match n, hn with
    | n + 1, _ =>
      unfold p_X6_laysFrom_b12
      rw [c7, if_pos (nI_le (by omega) (by omega)), c1, pk_mul, jlt_eq]
      have MA : MD (jup G 0 24 (nI (r * a.np))) a := by
        refine ⟨?_, I, ?_, ?_, hle⟩
        · rw [jup_n _ _ (by decide), F 1 (by decide) (by decide)]; exact R
        · rw [jup_s, upd_n _ _ (by decide)]; exact c23
        · rw [jup_n _ _ (by decide)]; exact hD
      refine (m_b85 hN MA (f := f) (T := r * a.np) hT hf ?_ ?_ ?_ (2 ^ a.dM) N 0 _ (by omega) ?_ (fun _ _ => rfl) (fun S p h => absurd h (Nat.not_lt_zero _))).c ?_
      · rw [jup_s, upd_n _ _ (by decide), F0 25 (by decide)]; exact h25
      · rw [jup_s, upd_s]
      · intro h
        rcases Nat.eq_zero_or_pos a.np with c | c
        · rw [c] at h; omega
        · exact c
      · have : 2 ^ a.dM ≤ 2 ^ 10 := Nat.pow_le_pow_right (by omega) hle
        omega
      · rintro o ⟨o1, o2, o3⟩
        refine ⟨⟨?_, ?_⟩, ?_⟩
        · intro c h0 h1
          rw [o2 c (by omega) (by omega) (by omega), jup_n _ _ h0]; exact F c h0 (by omega)
        · intro i hi
          rw [o2 0 (by decide) (by decide) (by decide), jup_s, upd_n _ _ (by omega)]; exact F0 i (by omega)
        · rw [if_pos (show a.dM ≤ 10 from hle)]; exact ⟨o1, o3⟩
  | succ k ih =>
    intro n d G hd hn F F0 c23 hle hD
    have c7 : G 1 7 = nI a.nd := by rw [F 1 (by decide) (by decide)]; exact R.nd
    have RG : RM (G 1) a := by rw [F 1 (by decide) (by decide)]; exact R
    match n, hn with
    | n + 1, hn =>
      unfold p_X6_laysFrom_b12
      rw [c7, if_neg (nI_ge (by omega) (by omega)), m_isOpen RG I (by omega), Option.bind_some]
      have es := dl_s a d
      cases ho : a.opn d
      · rw [if_pos (by decide)]
        unfold p_X6_laysFrom_b65
        rw [nI_1]
        rw [ho, if_neg (by decide)] at es
        exact ih n (d + 1) G (by omega) (by omega) F F0 (by rw [es]; exact c23) (by rw [es]; exact hle) (by rw [es]; exact hD)
      · rw [if_neg (by decide), c23, show (10 : Int32) = nI 10 by decide]
        rw [ho, if_pos rfl] at es
        have e2 : (a.dl (d + 1)).2 = (a.dl d).2 + 1 := by rw [es]
        by_cases c : (a.dl d).2 = 10
        · rw [if_pos (by rw [c])]
          have le := (dl_le a (k := d + 1) (a.nd - (d + 1))).1
          rw [show d + 1 + (a.nd - (d + 1)) = a.nd by omega] at le
          refine Ok.s ⟨⟨fun c h0 h1 => F c h0 (by omega), fun i hi => F0 i (by omega)⟩, ?_⟩
          have le2 : (a.dl (d + 1)).2 ≤ a.dM := le
          rw [if_neg (show ¬ a.dM ≤ 10 by omega)]
        · rw [if_neg (fun h => c ((nI_eq (by omega) (by omega)).mp h)), if_pos (jinT (by omega) (by omega)), zcl (by omega), jlt_eq]
          have g23 : jup G 8 (a.dl d).2 (nI d) 0 23 = nI (a.dl d).2 := by rw [jup_n _ _ (by decide)]; exact c23
          rw [g23, nI_1, jlt_eq]
          unfold p_X6_laysFrom_b65
          rw [nI_1]
          refine ih n (d + 1) _ (by omega) (by omega) ?_ ?_ ?_ (by omega) ?_
          · intro c h0 h8; rw [jup_n _ _ h0, jup_n _ _ h8]; exact F c h0 h8
          · intro i hi; rw [jup_s, upd_n _ _ hi, jup_n _ _ (by decide)]; exact F0 i hi
          · rw [jup_s, upd_s, e2]
          · intro i hi
            rw [e2] at hi
            rw [jup_n _ _ (by decide), jup_s, upd_i, es]
            dsimp only
            by_cases c2 : i = (a.dl d).2
            · rw [if_pos c2, if_pos c2]
            · rw [if_neg c2, if_neg c2]; exact hD i (by omega)
theorem m_from (hN : 2000 ≤ N) (R : RM (G 1) a) (I : a.I) {f r : Nat} (hr : r ≤ 2) (hf : f < 6) : Ok (p_X6_laysFrom N G J (nI r) (nI f)) (fun o => FX G o.2 ∧ if a.dM ≤ 10 then o.1 = 1 ∧ ML o.2 a f (r * a.np) else o.1 = 0) := by
  have hnd := I.nd
  unfold p_X6_laysFrom
  rw [jlt_eq, jlt_eq]
  refine (m_b12 hN (A := jup G 0 25 (nI f)) (by rw [jup_n _ _ (by decide)]; exact R) I hr hf (by rw [jup_s, upd_s]) a.nd N 0 _ (by omega) (by omega) ?_ ?_ ?_ (Nat.zero_le _) (fun i hi => absurd hi (Nat.not_lt_zero _))).c ?_
  · intro c h0 _; rw [jup_n _ _ h0]
  · intro i hi; rw [jup_s, upd_n _ _ hi]
  · rw [jup_s, upd_s]; exact nI_0.symm
  · rintro o ⟨⟨o1, o2⟩, o3⟩
    refine ⟨⟨?_, ?_⟩, o3⟩
    · intro c h0 h1; rw [o1 c h0 h1, jup_n _ _ h0]
    · intro i hi; rw [o2 i hi, jup_s, upd_n _ _ (by omega)]
theorem m_end (hN : 2000 ≤ N) (R : RM (G 1) a) (I : a.I) {r : Nat} (hr : r ≤ 2) : Ok (p_X6_laysEnd N G J (nI r)) (fun o => FX G o.2 ∧ if a.dM ≤ 10 then o.1 = 1 ∧ ML o.2 a 0 (r * a.np) else o.1 = 0) := by
  unfold p_X6_laysEnd
  rw [show (0 : Int32) = nI 0 from nI_0.symm]
  refine Ok.b (m_from hN R I hr (by decide)) ?_
  rintro ⟨u, g⟩ ⟨h1, h2⟩
  rw [jlt_eq]
  dsimp only at h2 ⊢
  have hz : jz u = true := by
    by_cases c : a.dM ≤ 10
    · rw [if_pos c] at h2; rw [h2.1]; decide
    · rw [if_neg c] at h2; rw [h2]; decide
  rw [if_pos hz]
  exact Ok.s ⟨h1, h2⟩
/-! reading what was laid -/
theorem cx_m1 {b : Nat} (hb : b ≤ 10) : cx b = -1 ↔ b = 0 := by
  unfold cx
  by_cases c : b = 0
  · rw [if_pos c]; exact ⟨fun _ => c, fun _ => rfl⟩
  · rw [if_neg c]
    refine ⟨fun h => ?_, fun h => absurd h c⟩
    exfalso
    have h2 := congrArg Int32.toInt h
    rw [nI_toInt (by omega), show (-1 : Int32).toInt = -1 by decide] at h2
    omega
theorem m_setB {f T : Nat} (hN : 2000 ≤ N) (L : ML G a f T) : ∀ {t : Nat}, t ≤ T → p_X6_setBehind N G J (nI t) = some (nI (a.wk f T t)) := by
  intro t ht
  have M := L.md
  have hm := M.mx
  have hT := L.tm
  unfold p_X6_setBehind p_X6_full
  rw [M.mm, bitI_e, bit_pow _ hm, Option.bind_some]
  have e : nI (2 ^ a.dM) - 1 = nI (a.wk f T 0) := by
    have := Nat.two_pow_pos a.dM
    rw [show 2 ^ a.dM = (2 ^ a.dM - 1) + 1 by omega, nI_p1]
    rfl
  rw [e, show (0 : Int32) = nI 0 from nI_0.symm]
  have key : ∀ (k n u : Nat), u + k = t → k < n → p_X6_setBehind_b7 N G J n (nI t) (nI (a.wk f T u)) (nI u) = some (nI (a.wk f T t)) := by
    intro k
    induction k with
    | zero =>
      intro n u hu hn
      match n, hn with
      | n + 1, _ =>
        unfold p_X6_setBehind_b7
        rw [if_pos (nI_le (by omega) (by omega)), show u = t by omega]
    | succ k ih =>
      intro n u hu hn
      obtain ⟨w1, w2⟩ := wk_ok hm f T u
      have w4 := lt_1024 hm w1
      have cb := chs_ok (a := a) f T u (a.wk f T u)
      match n, hn with
      | n + 1, hn =>
        unfold p_X6_setBehind_b7 p_X6_setBehind_b44
        rw [if_neg (nI_ge (by omega) (by omega)), z1024, if_pos (jinT (by omega) (by omega)), zcl (by omega), L.ch u _ (by omega) w1 w2, nI_1]
        have cm := cx_m1 (b := a.chs f T u (a.wk f T u)) (by omega)
        have es : a.wk f T (u + 1) = a.wst (a.wk f T u) (a.chs f T u (a.wk f T u)) := rfl
        have ih2 := ih n (u + 1) (by omega) (by omega)
        rw [es] at ih2
        unfold TA.wst at ih2
        by_cases c : a.chs f T u (a.wk f T u) = 0
        · rw [if_pos (cm.mpr c)]
          rw [if_pos c] at ih2
          exact ih2
        · rw [if_neg (fun h => c (cm.mp h))]
          rw [if_neg c] at ih2
          unfold cx
          rw [if_neg c, m_fallIn hN M (by omega), Option.bind_some, rs_nI hm w1 (by omega) (fw_hx hm w1 (by omega))]
          exact ih2
  exact key t N 0 (by omega) (by omega)
theorem m_standIn {f T : Nat} (hN : 2000 ≤ N) (L : ML G a f T) : p_X6_standIn N G J = some (a.lef (a.wk f T T)) := by
  have M := L.md
  have hm := M.mx
  have hT := L.tm
  have I := M.i
  have hnd := I.nd
  have c7 : G 1 7 = nI a.nd := M.m.nd
  have p2 : ∀ s, p_X6_standIn_b43 N G J N s (nI (a.wk f T T)) (nI 0) = some (it (fun s i => if (a.wk f T T).testBit i = true then s else s &&& (bitI (a.dN i) ^^^ (-1))) 0 a.dM s) := by
    intro s
    refine lp_it (L := fun n s x => p_X6_standIn_b43 N G J n s (nI (a.wk f T T)) x) (m := a.dM) (fin := some) ?_ ?_ a.dM 0 N s (by omega) (by omega)
    · intro n s
      show p_X6_standIn_b43 N G J (n + 1) s (nI (a.wk f T T)) (nI a.dM) = _
      rw [p_X6_standIn_b43, M.mm, if_pos (nI_le (by omega) (by omega))]
    · intro n s j hj
      show p_X6_standIn_b43 N G J (n + 1) s (nI (a.wk f T T)) (nI j) = p_X6_standIn_b43 N G J n _ (nI (a.wk f T T)) _
      rw [p_X6_standIn_b43, M.mm, if_neg (nI_ge (by omega) (by omega)), bt_tS (by omega)]
      unfold p_X6_standIn_b75
      cases hb : (a.wk f T T).testBit j
      · rw [if_neg (by decide), if_pos (jinT (by omega) (by omega)), zcl (by omega), M.dd j hj, bitI_e, nI_1, if_neg (by decide)]
      · rw [if_pos (by decide), if_pos rfl, nI_1, Int32.and_neg_one]
  unfold p_X6_standIn TA.lef TA.stI
  rw [show (0 : Int32) = nI 0 from nI_0.symm]
  refine lp_it (L := fun n s x => p_X6_standIn_b4 N G J n s x) (m := a.nd) (fin := fun s => some (it (fun s i => if (a.wk f T T).testBit i = true then s else s &&& (bitI (a.dN i) ^^^ (-1))) 0 a.dM s)) ?_ ?_ a.nd 0 N (nI 0) (by omega) (by omega)
  · intro n s
    show p_X6_standIn_b4 N G J (n + 1) s (nI a.nd) = _
    rw [p_X6_standIn_b4, c7, if_pos (nI_le (by omega) (by omega)), L.tt, m_setB hN L (Nat.le_refl _), Option.bind_some, show (0 : Int32) = nI 0 from nI_0.symm]
    exact p2 s
  · intro n s j hj
    show p_X6_standIn_b4 N G J (n + 1) s (nI j) = p_X6_standIn_b4 N G J n _ _
    rw [p_X6_standIn_b4, c7, if_neg (nI_ge (by omega) (by omega)), m_of4 M.m I.nd hj, Option.bind_some, nI_1]
    cases a.st j
    · have z : bI false <<< (nI j &&& 31) = 0 := by
        apply b_ext
        intro i hi
        rw [b_shl _ (by omega) _ hi, show bI false = 0 from rfl, b_0, Bool.and_false]
        exact (b_0 _).symm
      rw [z, Int32.or_zero, if_neg (by decide)]
    · rw [show bI true <<< (nI j &&& 31) = bitI j from rfl, if_pos rfl]
theorem m_chosen {f T : Nat} (hN : 2000 ≤ N) (L : ML G a f T) {t : Nat} (ht : t < T) : p_X6_chosen N G J (nI t) = some (a.dx (a.chs f T t (a.wk f T t))) := by
  have M := L.md
  have hm := M.mx
  have hT := L.tm
  obtain ⟨w1, w2⟩ := wk_ok hm f T t
  have w4 := lt_1024 hm w1
  have cb := chs_ok (a := a) f T t (a.wk f T t)
  unfold p_X6_chosen
  rw [m_setB hN L (by omega), Option.bind_some, z1024, if_pos (jinT (by omega) (by omega)), zcl (by omega), L.ch t _ ht w1 w2]
  have cm := cx_m1 (b := a.chs f T t (a.wk f T t)) (by omega)
  unfold TA.dx
  by_cases c : a.chs f T t (a.wk f T t) = 0
  · rw [if_pos (cm.mpr c), if_pos c]
  · rw [if_neg (fun h => c (cm.mp h)), if_neg c]
    unfold cx
    rw [if_neg c, if_pos (jinT (by omega) (by omega)), zcl (by omega), M.dd _ (by omega)]
theorem m_wealthIn {f T : Nat} (hN : 2000 ≤ N) (L : ML G a f T) {p : Nat} (hp : p < a.np) : p_X6_wealthIn N G J (nI p) = some (a.wealth p + a.vl f T T (2 ^ a.dM - 1) p) := by
  have M := L.md
  have hm := M.mx
  have hnp := M.i.np
  have hpw : 2 ^ a.dM ≤ 1024 := show 2 ^ a.dM ≤ 2 ^ 10 from Nat.pow_le_pow_right (by omega) hm
  have p0 := Nat.two_pow_pos a.dM
  have s1 := se_lt (t := 0) (S := 2 ^ a.dM - 1) (p := p) (by omega) (by omega) (by omega)
  unfold p_X6_wealthIn p_X6_full
  rw [m_wealth hN M.m M.i hp, Option.bind_some, M.mm, bitI_e, bit_pow _ hm, Option.bind_some]
  have e : nI (2 ^ a.dM) - 1 = nI (2 ^ a.dM - 1) := by
    rw [show 2 ^ a.dM = (2 ^ a.dM - 1) + 1 by omega, nI_p1]
    rfl
  rw [e, show (0 : Int32) = nI 0 from nI_0.symm, m_seat, Option.bind_some, if_pos (jinT s1 (by omega)), zcl (by omega), L.ly 0 _ (Nat.zero_le _) full_lt full_cl p hp, Nat.sub_zero]
end mfrom

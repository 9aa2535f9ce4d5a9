/-! the class: the sets that can be reached -/
def RE (g : Nat → Nat → Int32) (a : TA) (f T : Nat) : Prop := (bt (g 8 (2 ^ a.dM - 1)) 0 = true) ∧ (∀ t S, t ≤ T → S < 2 ^ a.dM → bt (g 8 S) t = true → a.cl S) ∧ (∀ t S, t < T → S < 2 ^ a.dM → bt (g 8 S) t = true → bt (g 8 S) (t + 1) = true ∧ ∀ i, i < a.dM → S.testBit i = true → a.isOf (a.dN i) ((f + t) % a.np) = true → bt (g 8 (a.rs S i)) (t + 1) = true)
theorem RE.r0 {g : Nat → Nat → Int32} {a : TA} {f T : Nat} (R : RE g a f T) : bt (g 8 (2 ^ a.dM - 1)) 0 = true := R.1
theorem RE.rc {g : Nat → Nat → Int32} {a : TA} {f T : Nat} (R : RE g a f T) : ∀ t S, t ≤ T → S < 2 ^ a.dM → bt (g 8 S) t = true → a.cl S := R.2.1
theorem RE.rn {g : Nat → Nat → Int32} {a : TA} {f T : Nat} (R : RE g a f T) : ∀ t S, t < T → S < 2 ^ a.dM → bt (g 8 S) t = true → bt (g 8 S) (t + 1) = true ∧ ∀ i, i < a.dM → S.testBit i = true → a.isOf (a.dN i) ((f + t) % a.np) = true → bt (g 8 (a.rs S i)) (t + 1) = true := R.2.2
def RX (a : TA) (A r : Nat → Nat → Int32) (t : Nat) : Prop := (∀ c, c ≠ 8 → r c = A c) ∧ (∀ S u, u < 32 → u ≠ t + 1 → bt (r 8 S) u = bt (A 8 S) u) ∧ (∀ S, bt (A 8 S) (t + 1) = true → bt (r 8 S) (t + 1) = true) ∧ ∀ S, S < 2 ^ a.dM → bt (r 8 S) (t + 1) = true → bt (A 8 S) (t + 1) = true ∨ a.cl S
section creach
variable {N : Nat} {G G2 A : Nat → Nat → Int32} {J : Nat → Nat → Int64} {a : TA}
theorem RX.refl {t : Nat} : RX a A A t := ⟨fun _ _ => rfl, fun _ _ _ _ => rfl, fun _ h => h, fun _ _ h => Or.inl h⟩
theorem RX.trans {t : Nat} (h : RX a A G t) (h2 : RX a G G2 t) : RX a A G2 t := ⟨fun c hc => (h2.1 c hc).trans (h.1 c hc), fun S u h1 h3 => (h2.2.1 S u h1 h3).trans (h.2.1 S u h1 h3), fun S h1 => h2.2.2.1 S (h.2.2.1 S h1), fun S h1 h3 => (h2.2.2.2 S h1 h3).elim (h.2.2.2 S h1) Or.inr⟩
theorem RX.set {t S : Nat} (ht : t < 31) (hc : a.cl S) : RX a G (jup G 8 S (G 8 S ||| bitI (t + 1))) t ∧ bt (jup G 8 S (G 8 S ||| bitI (t + 1)) 8 S) (t + 1) = true := by
  refine ⟨⟨fun c h => jup_n _ _ h, ?_, ?_, ?_⟩, ?_⟩
  · intro S2 u hu h1
    rw [jup_s, upd_i]
    by_cases e : S2 = S
    · rw [if_pos e, e, b_or, bt_bit (by omega) hu, decide_eq_false h1, Bool.or_false]
    · rw [if_neg e]
  · intro S2 h
    rw [jup_s, upd_i]
    by_cases e : S2 = S
    · rw [if_pos e, b_or, ← e, h, Bool.true_or]
    · rw [if_neg e]; exact h
  · intro S2 _ h
    by_cases e : S2 = S
    · rw [e]; exact Or.inr hc
    · rw [jup_s, upd_i, if_neg e] at h; exact Or.inl h
  · rw [jup_s, upd_s, b_or, bt_bit (by omega) (by omega), decide_eq_true rfl, Bool.or_true]
theorem CL.cg {c : Nat} (L : CL G a c) (h : ∀ x, x < 5 → G2 x = G x) : CL G2 a c := ⟨by rw [h 0 (by omega)]; exact L.mm, by rw [h 1 (by omega)]; exact L.dd, by rw [h 2 (by omega)]; exact L.wi, by rw [h 4 (by omega)]; exact L.mn, by rw [h 3 (by omega)]; exact L.mi⟩
theorem CL.w (L : CL G a a.dM) {i : Nat} (hi : i < a.dM) (hm : a.dM ≤ 10) : G 2 i = a.wI i := by
  apply b_ext
  intro j hj
  rw [L.wi i j hi hj, wI_bit hm (by omega) hj]
theorem c_rf (hm : a.dM ≤ 10) (hnp : a.np ≤ 6) (L : CL A a a.dM) {t S q : Nat} (ht : t < 31) (hS : S < 2 ^ a.dM) (hq : q < a.np) (hc : a.cl S) : ∀ (k n i : Nat) (G : Nat → Nat → Int32), i + k = a.dM → a.cnt q a.dM < n + a.cnt q i → RX a A G t → (∀ x, x < i → S.testBit x = true → a.isOf (a.dN x) q = true → bt (G 8 (a.rs S x)) (t + 1) = true) → Ok (p_X1_reachFrom_b21 N J n G (nI S) (nI q) (bitI (t + 1)) (nI (a.cnt q i))) (fun r => RX a G r t ∧ ∀ x, x < a.dM → S.testBit x = true → a.isOf (a.dN x) q = true → bt (r 8 (a.rs S x)) (t + 1) = true) := by
  have hS4 := lt_1024 hm hS
  intro k
  induction k with
  | zero =>
    intro n i G hi hn F h
    have LG : CL G a a.dM := L.cg (fun x hx => F.1 x (by omega))
    have ei : i = a.dM := by omega
    rw [ei] at hn h
    have cl := cnt_le (a := a) q a.dM
    match n, hn with
    | n + 1, _ =>
      unfold p_X1_reachFrom_b21
      rw [if_pos (jinT (by omega) (by omega)), zcl (by omega), LG.mn q hq, ei, if_pos (nI_le (Nat.le_refl _) (by omega))]
      exact Ok.s ⟨RX.refl, h⟩
    | 0, hn => exact absurd hn (by omega)
  | succ k ih =>
    intro n i G hi hn F h
    have LG : CL G a a.dM := L.cg (fun x hx => F.1 x (by omega))
    have cl := cnt_le (a := a) q a.dM
    have cli := cnt_le (a := a) q i
    have es : a.cnt q (i + 1) = a.cnt q i + if a.isOf (a.dN i) q = true then 1 else 0 := rfl
    cases ho : a.isOf (a.dN i) q
    · rw [ho, if_neg (by decide)] at es
      have es2 : a.cnt q i = a.cnt q (i + 1) := es.symm
      rw [es2]
      refine ih n (i + 1) G (by omega) (by omega) F ?_
      intro x hx h1 h2
      by_cases e : x = i
      · rw [e, ho] at h2; cases h2
      · exact h x (by omega) h1 h2
    · rw [ho, if_pos rfl] at es
      have lt := cnt_lt ho a.dM (by omega)
      match n, hn with
      | 0, hn => exact absurd hn (by omega)
      | n + 1, hn =>
        unfold p_X1_reachFrom_b21
        rw [if_pos (jinT (by omega) (by omega)), zcl (by omega), LG.mn q hq, if_neg (nI_ge lt (by omega)), z10, if_pos (jinT (by omega) (by omega)), zcl (by omega), LG.mi q i hq (by omega) ho, bt_tS (by omega)]
        unfold p_X1_reachFrom_b77
        have hr2 := rs_2 (i := i) hS
        have hr4 := lt_1024 hm hr2
        cases hb : S.testBit i
        · rw [if_neg (by decide), nI_1, ← es]
          refine ih n (i + 1) G (by omega) (by omega) F ?_
          intro x hx h1 h2
          by_cases e : x = i
          · rw [e, hb] at h1; cases h1
          · exact h x (by omega) h1 h2
        · rw [if_pos (by decide), if_pos (jinT (by omega) (by omega)), zcl (by omega), LG.w (by omega) hm, rs_nI hm hS (by omega) (wI_hx hm hS (by omega)), if_pos (jinT hr4 (by omega)), if_pos (jinT hr4 (by omega)), zcl (by omega), jlt_eq, nI_1, ← es]
          obtain ⟨s1, s2⟩ := RX.set (G := G) (t := t) ht (rs_cl hm hS (by omega : i < a.dM) hc)
          refine (ih n (i + 1) _ (by omega) (by omega) (F.trans s1) ?_).c ?_
          · intro x hx h1 h2
            by_cases e : x = i
            · rw [e]; exact s2
            · exact s1.2.2.1 _ (h x (by omega) h1 h2)
          · rintro r ⟨r1, r2⟩
            exact ⟨s1.trans r1, r2⟩
theorem c_from (hN : 2000 ≤ N) (hm : a.dM ≤ 10) (hnp : a.np ≤ 6) (L : CL G a a.dM) {t S q : Nat} (ht : t < 31) (hS : S < 2 ^ a.dM) (hq : q < a.np) (hc : a.cl S) : Ok (p_X1_reachFrom N G J (nI S) (nI t) (nI q)) (fun r => RX a G r t ∧ bt (r 8 S) (t + 1) = true ∧ ∀ x, x < a.dM → S.testBit x = true → a.isOf (a.dN x) q = true → bt (r 8 (a.rs S x)) (t + 1) = true) := by
  have hS4 := lt_1024 hm hS
  have cl := cnt_le (a := a) q a.dM
  unfold p_X1_reachFrom
  rw [if_pos (jinT hS4 (by omega)), if_pos (jinT hS4 (by omega)), zcl (by omega), nI_1, bitI_e, jlt_eq, show (0 : Int32) = nI (a.cnt q 0) from nI_0.symm]
  obtain ⟨s1, s2⟩ := RX.set (G := G) (t := t) ht hc
  refine (c_rf hm hnp (A := G) L ht hS hq hc a.dM N 0 _ (by omega) (by show _ < N + 0; omega) s1 (fun x hx => absurd hx (Nat.not_lt_zero _))).c ?_
  rintro r ⟨r1, r2⟩
  exact ⟨s1.trans r1, r1.2.2.1 _ s2, r2⟩
def RT (a : TA) (g : Nat → Nat → Int32) (f t S : Nat) : Prop := bt (g 8 S) t = true → bt (g 8 S) (t + 1) = true ∧ ∀ i, i < a.dM → S.testBit i = true → a.isOf (a.dN i) ((f + t) % a.np) = true → bt (g 8 (a.rs S i)) (t + 1) = true
theorem c_r51 (hN : 2000 ≤ N) (hm : a.dM ≤ 10) (hnp : a.np ≤ 6) (L : CL A a a.dM) {f t q : Nat} {w : Int32} (ht : t < 12) (hq : q < a.np) (hqe : q = (f + t) % a.np) (hcl : ∀ S, S < 2 ^ a.dM → bt (A 8 S) t = true → a.cl S) {rv : (Nat → Nat → Int32) → Int32 → Int32 → Option (Nat → Nat → Int32)} {P : (Nat → Nat → Int32) → Prop} (hP : ∀ r, RX a A r t → (∀ S, S < 2 ^ a.dM → RT a r f t S) → Ok (rv r w (nI t + 1)) P) : ∀ (u n : Nat) (G : Nat → Nat → Int32), u ≤ 2 ^ a.dM → u < n → RX a A G t → (∀ S, u ≤ S → S < 2 ^ a.dM → RT a G f t S) → Ok (p_X1_reach_b51 N J rv n G w (nI t) (nI q) (nI u - 1)) P := by
  have hpw : 2 ^ a.dM ≤ 1024 := show 2 ^ a.dM ≤ 2 ^ 10 from Nat.pow_le_pow_right (by omega) hm
  intro u
  induction u with
  | zero =>
    intro n G hu hn F h
    match n, hn with
    | n + 1, _ =>
      unfold p_X1_reach_b51
      rw [nI_0, if_pos (by decide)]
      exact hP G F (fun S hS => h S (Nat.zero_le _) hS)
  | succ u ih =>
    intro n G hu hn F h
    have LG : CL G a a.dM := L.cg (fun x hx => F.1 x (by omega))
    match n, hn with
    | n + 1, hn =>
      unfold p_X1_reach_b51
      rw [nI_p1, if_neg (nI_pos (by omega)), if_pos (jinT (by omega) (by omega)), zcl (by omega), bt_test _ (by omega)]
      have e := F.2.1 u t (by omega) (by omega)
      cases hb : bt (G 8 u) t
      · rw [if_neg (by decide)]
        unfold p_X1_reach_b79
        rw [nI_m1]
        refine ih n G (by omega) (by omega) F ?_
        intro S h1 h2
        by_cases c : S = u
        · intro h3; rw [c, hb] at h3; cases h3
        · exact h S (by omega) h2
      · rw [if_pos (by decide)]
        refine Ok.b (c_from hN hm hnp LG (by omega) (by omega) hq (hcl u (by omega) (by rw [← e]; exact hb))) ?_
        rintro r ⟨r1, r2, r3⟩
        rw [jlt_eq, nI_m1]
        refine ih n r (by omega) (by omega) (F.trans r1) ?_
        intro S h1 h2
        by_cases c : S = u
        · intro _
          rw [c]
          exact ⟨r2, fun i hi hb2 ho => r3 i hi hb2 (by rw [hqe]; exact ho)⟩
        · intro h3
          rw [r1.2.1 S t (by omega) (by omega)] at h3
          obtain ⟨g1, g2⟩ := h S (by omega) h2 h3
          exact ⟨r1.2.2.1 _ g1, fun i hi hb2 ho => r1.2.2.1 _ (g2 i hi hb2 ho)⟩
theorem c_person {f t : Nat} (h1 : G 0 1 = nI a.np) (h2 : G 0 2 = nI f) (hf : f < 6) (ht : t < 12) (hnp : a.np ≤ 6) (h0 : 0 < a.np) : p_X1_personIn N G J (nI t) = some (nI ((f + t) % a.np)) := by
  unfold p_X1_personIn
  rw [h1, h2, if_pos (by rw [show (0 : Int32) = nI 0 from nI_0.symm]; exact nI_lt h0 (by omega)), if_neg (nI_ne0 h0 (by omega)), nI_add, mod_n _ (by omega) _ (by omega) h0]
theorem c_r34 (hN : 2000 ≤ N) (hm : a.dM ≤ 10) (hnp : a.np ≤ 6) {f T : Nat} (hT : T ≤ 12) (hf : f < 6) (h0 : 0 < T → 0 < a.np) (L : CL A a a.dM) (a1 : A 0 1 = nI a.np) (a2 : A 0 2 = nI f) (a3 : A 0 3 = nI T) : ∀ (k n t : Nat) (G : Nat → Nat → Int32), t + k = T → k < n → (∀ c, c ≠ 8 → G c = A c) → bt (G 8 (2 ^ a.dM - 1)) 0 = true → (∀ u S, u < 32 → S < 2 ^ a.dM → bt (G 8 S) u = true → a.cl S) → (∀ u S, u < t → S < 2 ^ a.dM → RT a G f u S) → Ok (p_X1_reach_b34 N J n G (nI (2 ^ a.dM - 1)) (nI t)) (fun r => (∀ c, c ≠ 8 → r c = A c) ∧ RE r a f T) := by
  have hpw : 2 ^ a.dM ≤ 1024 := show 2 ^ a.dM ≤ 2 ^ 10 from Nat.pow_le_pow_right (by omega) hm
  have p0 := Nat.two_pow_pos a.dM
  intro k
  induction k with
  | zero =>
    intro n t G hk hn F r0 rc rt
    have g3 : G 0 3 = nI T := by rw [F 0 (by decide)]; exact a3
    match n, hn with
    | n + 1, _ =>
      unfold p_X1_reach_b34
      rw [g3, if_pos (nI_le (by omega) (by omega))]
      exact Ok.s ⟨F, r0, fun t2 S h1 h2 h3 => rc t2 S (by omega) h2 h3, fun t2 S h1 h2 h3 => rt t2 S (by omega) h2 h3⟩
  | succ k ih =>
    intro n t G hk hn F r0 rc rt
    have g3 : G 0 3 = nI T := by rw [F 0 (by decide)]; exact a3
    have g1 : G 0 1 = nI a.np := by rw [F 0 (by decide)]; exact a1
    have g2 : G 0 2 = nI f := by rw [F 0 (by decide)]; exact a2
    have LG : CL G a a.dM := L.cg (fun x hx => F x (by omega))
    have hnp0 := h0 (by omega)
    match n, hn with
    | n + 1, hn =>
      unfold p_X1_reach_b34
      rw [g3, if_neg (nI_ge (by omega) (by omega)), c_person g1 g2 hf (by omega) hnp hnp0, Option.bind_some]
      have e : nI (2 ^ a.dM - 1) = nI (2 ^ a.dM) - 1 := by
        rw [show 2 ^ a.dM = (2 ^ a.dM - 1) + 1 by omega, nI_p1]; rfl
      have key := c_r51 (J := J) (a := a) hN hm hnp (A := G) LG (f := f) (t := t) (q := (f + t) % a.np) (w := nI (2 ^ a.dM - 1)) (by omega) (Nat.mod_lt _ hnp0) rfl (fun S h1 h2 => rc t S (by omega) h1 h2) (rv := p_X1_reach_b34 N J n) (P := fun r => (∀ c, c ≠ 8 → r c = A c) ∧ RE r a f T) ?_ (2 ^ a.dM) N G (Nat.le_refl _) (by omega) RX.refl (fun S h1 h2 => absurd h1 (by omega))
      · rw [← e] at key; exact key
      · intro r r1 r2
        rw [nI_1]
        refine ih n (t + 1) r (by omega) (by omega) (fun c hc => (r1.1 c hc).trans (F c hc)) ?_ ?_ ?_
        · rw [r1.2.1 _ 0 (by omega) (by omega)]; exact r0
        · intro u S hu hS h
          by_cases c : u = t + 1
          · subst c
            rcases r1.2.2.2 S hS h with h | h
            · exact rc _ S hu hS h
            · exact h
          · rw [r1.2.1 S u hu c] at h; exact rc u S hu hS h
        · intro u S hu hS h
          by_cases c : u = t
          · rw [c] at h ⊢; exact r2 S hS h
          · rw [r1.2.1 S u (by omega) (by omega)] at h
            obtain ⟨g1, g2⟩ := rt u S (by omega) hS h
            refine ⟨?_, ?_⟩
            · rw [r1.2.1 S (u + 1) (by omega) (by omega)]; exact g1
            · intro i hi hb ho
              rw [r1.2.1 _ (u + 1) (by omega) (by omega)]; exact g2 i hi hb ho
theorem c_reach (hN : 2000 ≤ N) (hm : a.dM ≤ 10) (hnp : a.np ≤ 6) {f T : Nat} (hT : T ≤ 12) (hf : f < 6) (h0 : 0 < T → 0 < a.np) (L : CL A a a.dM) (a1 : A 0 1 = nI a.np) (a2 : A 0 2 = nI f) (a3 : A 0 3 = nI T) : Ok (p_X1_reach N A J) (fun r => (∀ c, c ≠ 8 → r c = A c) ∧ RE r a f T) := by
  have hpw : 2 ^ a.dM ≤ 1024 := show 2 ^ a.dM ≤ 2 ^ 10 from Nat.pow_le_pow_right (by omega) hm
  have p0 := Nat.two_pow_pos a.dM
  have e : nI (2 ^ a.dM - 1) = nI (2 ^ a.dM) - 1 := by
    rw [show 2 ^ a.dM = (2 ^ a.dM - 1) + 1 by omega, nI_p1]; rfl
  unfold p_X1_reach p_X1_whole
  rw [L.mm, bitI_e, bit_pow _ hm, Option.bind_some, ← e, show (0 : Int32) = nI 0 from nI_0.symm]
  have key : ∀ (k n x : Nat) (G : Nat → Nat → Int32), x + k = 2 ^ a.dM - 1 → k < n → (∀ c, c ≠ 8 → G c = A c) → (∀ S, S < x → G 8 S = 0) → Ok (p_X1_reach_b7 N J n G (nI (2 ^ a.dM - 1)) (nI x)) (fun r => (∀ c, c ≠ 8 → r c = A c) ∧ RE r a f T) := by
    intro k
    induction k with
    | zero =>
      intro n x G hx hn F Z
      match n, hn with
      | n + 1, _ =>
        unfold p_X1_reach_b7
        rw [if_pos (nI_le (by omega) (by omega)), if_pos (jinT (by omega) (by omega)), zcl (by omega), jlt_eq, show (0 : Int32) = nI 0 from nI_0.symm]
        refine c_r34 hN hm hnp hT hf h0 L a1 a2 a3 T N 0 _ (by omega) (by omega) (fun c hc => by rw [jup_n _ _ hc]; exact F c hc) ?_ ?_ (fun u S h => absurd h (Nat.not_lt_zero _))
        · rw [jup_s, upd_s]; decide
        · intro u S hu hS h
          by_cases c : S = 2 ^ a.dM - 1
          · rw [c]; exact full_cl
          · rw [jup_s, upd_n _ _ c, Z S (by omega), b_0] at h; cases h
    | succ k ih =>
      intro n x G hx hn F Z
      match n, hn with
      | n + 1, hn =>
        unfold p_X1_reach_b7
        rw [if_neg (nI_ge (by omega) (by omega)), if_pos (jinT (by omega) (by omega)), zcl (by omega), jlt_eq, nI_1]
        refine ih n (x + 1) _ (by omega) (by omega) (fun c hc => by rw [jup_n _ _ hc]; exact F c hc) ?_
        intro S hS
        rw [jup_s, upd_i]
        by_cases c : S = x
        · rw [if_pos c]
        · rw [if_neg c]; exact Z S (by omega)
  exact key (2 ^ a.dM - 1) N 0 A (by omega) (by omega) (fun _ _ => rfl) (fun S h => absurd h (Nat.not_lt_zero _))
def CE (g : Nat → Nat → Int32) (a : TA) (f T : Nat) : Prop := (CL g a a.dM) ∧ (g 0 1 = nI a.np) ∧ (g 0 2 = nI f) ∧ (g 0 3 = nI T) ∧ (RE g a f T) ∧ (a.dM ≤ 10) ∧ (T ≤ 12) ∧ (f < 6) ∧ (0 < T → 0 < a.np)
theorem CE.ly {g : Nat → Nat → Int32} {a : TA} {f T : Nat} (R : CE g a f T) : CL g a a.dM := R.1
theorem CE.np {g : Nat → Nat → Int32} {a : TA} {f T : Nat} (R : CE g a f T) : g 0 1 = nI a.np := R.2.1
theorem CE.ff {g : Nat → Nat → Int32} {a : TA} {f T : Nat} (R : CE g a f T) : g 0 2 = nI f := R.2.2.1
theorem CE.tt {g : Nat → Nat → Int32} {a : TA} {f T : Nat} (R : CE g a f T) : g 0 3 = nI T := R.2.2.2.1
theorem CE.re {g : Nat → Nat → Int32} {a : TA} {f T : Nat} (R : CE g a f T) : RE g a f T := R.2.2.2.2.1
theorem CE.mx {g : Nat → Nat → Int32} {a : TA} {f T : Nat} (R : CE g a f T) : a.dM ≤ 10 := R.2.2.2.2.2.1
theorem CE.tm {g : Nat → Nat → Int32} {a : TA} {f T : Nat} (R : CE g a f T) : T ≤ 12 := R.2.2.2.2.2.2.1
theorem CE.fl {g : Nat → Nat → Int32} {a : TA} {f T : Nat} (R : CE g a f T) : f < 6 := R.2.2.2.2.2.2.2.1
theorem CE.n0 {g : Nat → Nat → Int32} {a : TA} {f T : Nat} (R : CE g a f T) : 0 < T → 0 < a.np := R.2.2.2.2.2.2.2.2
theorem c_lay (hN : 2000 ≤ N) (R : RC (jvw G 11) a) (I : a.I) {r f : Nat} (hr : r ≤ 2) (hf : f < 6) : Ok (p_X1_lay N G J (nI r) (nI f)) (fun o => (∀ x, 11 ≤ x → o.2 x = G x) ∧ if a.dM ≤ 10 then o.1 = 1 ∧ CE o.2 a f (r * a.np) else o.1 = 0) := by
  have hnp := I.np
  have hnd := I.nd
  have hT : r * a.np ≤ 12 := Nat.le_trans (Nat.mul_le_mul hr hnp) (by decide)
  have g111 : G 11 1 = nI a.np := R.np
  have hdm : a.dM ≤ 30 := by
    have e : a.dM = cN a.opn 0 a.nd := dl_cN a a.nd
    have := cN_le a.opn a.nd 0
    omega
  unfold p_X1_lay
  rw [c_openBits hN R I, Option.bind_some, x_bitCount, Option.bind_some, pop_opens I, show (10 : Int32) = nI 10 by decide]
  by_cases c : a.dM ≤ 10
  · rw [if_pos (nI_le c (by omega)), g111]
    simp only [jlt_eq]
    have e31 : jup (jup G 0 1 (nI a.np)) 0 2 (nI f) 0 1 = nI a.np := by simp (disch := omega) only [Option.bind_some, jlt_eq, ↓reduceIte, eq_self, jinT, zleT, zleF, zltT, zltF, zeq, zpos, zpos', zcl, zm6, z6, z84, z24, z14, z8, nI_add, zd0, zd1, zd2, zd3, zd4, zd5, bitI_e, bI0, bI1, jup_s, upd_n, upd_s]
    rw [e31, pk_mul]
    have f1 : jup (jup (jup (jup G 0 1 (nI a.np)) 0 2 (nI f)) 0 3 (nI (r * a.np))) 0 4 0 0 1 = nI a.np := by simp (disch := omega) only [Option.bind_some, jlt_eq, ↓reduceIte, eq_self, jinT, zleT, zleF, zltT, zltF, zeq, zpos, zpos', zcl, zm6, z6, z84, z24, z14, z8, nI_add, zd0, zd1, zd2, zd3, zd4, zd5, bitI_e, bI0, bI1, jup_s, upd_n, upd_s]
    have f2 : jup (jup (jup (jup G 0 1 (nI a.np)) 0 2 (nI f)) 0 3 (nI (r * a.np))) 0 4 0 0 2 = nI f := by simp (disch := omega) only [Option.bind_some, jlt_eq, ↓reduceIte, eq_self, jinT, zleT, zleF, zltT, zltF, zeq, zpos, zpos', zcl, zm6, z6, z84, z24, z14, z8, nI_add, zd0, zd1, zd2, zd3, zd4, zd5, bitI_e, bI0, bI1, jup_s, upd_n, upd_s]
    have f3 : jup (jup (jup (jup G 0 1 (nI a.np)) 0 2 (nI f)) 0 3 (nI (r * a.np))) 0 4 0 0 3 = nI (r * a.np) := by simp (disch := omega) only [Option.bind_some, jlt_eq, ↓reduceIte, eq_self, jinT, zleT, zleF, zltT, zltF, zeq, zpos, zpos', zcl, zm6, z6, z84, z24, z14, z8, nI_add, zd0, zd1, zd2, zd3, zd4, zd5, bitI_e, bI0, bI1, jup_s, upd_n, upd_s]
    have f4 : jup (jup (jup (jup G 0 1 (nI a.np)) 0 2 (nI f)) 0 3 (nI (r * a.np))) 0 4 0 0 4 = 0 := by simp (disch := omega) only [Option.bind_some, jlt_eq, ↓reduceIte, eq_self, jinT, zleT, zleF, zltT, zltF, zeq, zpos, zpos', zcl, zm6, z6, z84, z24, z14, z8, nI_add, zd0, zd1, zd2, zd3, zd4, zd5, bitI_e, bI0, bI1, jup_s, upd_s]
    have fo : ∀ x, x ≠ 0 → jup (jup (jup (jup G 0 1 (nI a.np)) 0 2 (nI f)) 0 3 (nI (r * a.np))) 0 4 0 x = G x := by intro x hx; simp (disch := omega) only [Option.bind_some, jlt_eq, ↓reduceIte, eq_self, jinT, zleT, zleF, zltT, zltF, zeq, zpos, zpos', zcl, zm6, z6, z84, z24, z14, z8, nI_add, zd0, zd1, zd2, zd3, zd4, zd5, bitI_e, bI0, bI1, jup_n]
    generalize jup (jup (jup (jup G 0 1 (nI a.np)) 0 2 (nI f)) 0 3 (nI (r * a.np))) 0 4 0 = G11 at f1 f2 f3 f4 fo ⊢
    refine Ok.b (c_f6 hN _) ?_
    intro v14 h14
    have p4 : ∀ p, p < 6 → jpt G11 4 1 v14 4 p = 0 := fun p hp => (congrFun (jpt_i (b := 4) (n := 1) (c := 0) (by omega)) p).trans (h14 p hp)
    have po : ∀ x, x ≠ 4 → jpt G11 4 1 v14 x = G11 x := fun x hx => jpt_o (by omega)
    generalize jpt G11 4 1 v14 = G15 at p4 po ⊢
    have R15 : RC (jvw G15 11) a := R.cg (fun x hx => (po (11 + x) (by omega)).trans (fo (11 + x) (by omega)))
    rw [show (0 : Int32) = nI 0 from nI_0.symm]
    refine c_lay57 hN I c (A := G15) ?_ R15 a.nd N 0 G15 (by omega) (by omega) (fun _ _ => rfl) (fun _ _ => rfl) ?_
    · intro r2 r1 r0 L
      unfold p_X1_lay_b99
      have b1 : r2 0 1 = nI a.np := by rw [r0 1 (by decide), po 0 (by decide)]; exact f1
      have b2 : r2 0 2 = nI f := by rw [r0 2 (by decide), po 0 (by decide)]; exact f2
      have b3 : r2 0 3 = nI (r * a.np) := by rw [r0 3 (by decide), po 0 (by decide)]; exact f3
      have h0 : 0 < r * a.np → 0 < a.np := by
        intro h
        rcases Nat.eq_zero_or_pos a.np with c | c
        · rw [c] at h; omega
        · exact c
      refine Ok.b (c_reach (A := jvw r2 0) hN c hnp (f := f) (T := r * a.np) hT hf h0 (L.cg (fun x _ => jvw0 x)) (by rw [jvw0]; exact b1) (by rw [jvw0]; exact b2) (by rw [jvw0]; exact b3)) ?_
      rintro v18 ⟨v1, v2⟩
      rw [jlt_eq]
      have j8 : jpt r2 0 11 v18 8 = v18 8 := jpt11 (by omega)
      have jo : ∀ x, x ≠ 8 → jpt r2 0 11 v18 x = r2 x := by
        intro x hx
        by_cases e : x < 11
        · rw [jpt11 e, v1 x hx, jvw0]
        · rw [jpt11o (by omega)]
      refine Ok.s ⟨?_, ?_⟩
      · intro x hx
        dsimp only
        rw [jo x (by omega), r1 x hx, po x (by omega), fo x (by omega)]
      · rw [if_pos c]
        refine ⟨rfl, L.cg (fun x hx => jo x (by omega)), ?_, ?_, ?_, ?_, c, hT, hf, h0⟩
        · dsimp only; rw [jo 0 (by decide)]; exact b1
        · dsimp only; rw [jo 0 (by decide)]; exact b2
        · dsimp only; rw [jo 0 (by decide)]; exact b3
        · exact ⟨by dsimp only; rw [j8]; exact v2.r0, by dsimp only; rw [j8]; exact v2.rc, by dsimp only; rw [j8]; exact v2.rn⟩
    · refine ⟨?_, fun i hi => absurd hi (Nat.not_lt_zero _), fun i j hi => absurd hi (Nat.not_lt_zero _), ?_, fun p i _ hi => absurd hi (Nat.not_lt_zero _)⟩
      · rw [po 0 (by decide), f4]; exact nI_0.symm
      · intro p hp; rw [p4 p (by omega)]; exact nI_0.symm
  · rw [if_neg (nI_ge (by omega) (by omega))]
    refine Ok.s ⟨fun _ _ => rfl, ?_⟩
    rw [if_neg c]
end creach

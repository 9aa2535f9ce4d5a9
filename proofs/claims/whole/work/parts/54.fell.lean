/-! undoing, here and there -/
theorem Ok.l2 {σ τ R : Type} (L : Nat → σ → τ → Option R) (P : R → Prop) (I : Nat → σ → τ → Prop) (h : ∀ j s t n, I j s t → (∀ s2 t2 j2, j2 < j → I j2 s2 t2 → Ok (L n s2 t2) P) → Ok (L (n + 1) s t) P) (n j : Nat) (s : σ) (t : τ) (hn : j < n) (hi : I j s t) : Ok (L n s t) P :=
  Ok.l (fun n (x : σ × τ) => L n x.1 x.2) P (fun j x => I j x.1 x.2) (fun j x n hi ih => h j x.1 x.2 n hi (fun s2 t2 j2 hj hi2 => ih (s2, t2) j2 hj hi2)) n j (s, t) hn hi
theorem Ok.l3 {σ τ υ R : Type} (L : Nat → σ → τ → υ → Option R) (P : R → Prop) (I : Nat → σ → τ → υ → Prop) (h : ∀ j s t u n, I j s t u → (∀ s2 t2 u2 j2, j2 < j → I j2 s2 t2 u2 → Ok (L n s2 t2 u2) P) → Ok (L (n + 1) s t u) P) (n j : Nat) (s : σ) (t : τ) (u : υ) (hn : j < n) (hi : I j s t u) : Ok (L n s t u) P :=
  Ok.l (fun n (x : σ × τ × υ) => L n x.1 x.2.1 x.2.2) P (fun j x => I j x.1 x.2.1 x.2.2) (fun j x n hi ih => h j x.1 x.2.1 x.2.2 n hi (fun s2 t2 u2 j2 hj hi2 => ih (s2, t2, u2) j2 hj hi2)) n j (s, t, u) hn hi
def TA.set3 (a : TA) (c : Nat → Int32) (h : Nat → Nat) (s : Nat → Bool) : TA := TA.mk a.li a.np a.nt a.ea a.sh a.be a.mi a.nd c h a.wo a.th a.gi a.ta a.pr a.wh s
def TA.fell (a : TA) (d b : Nat) : TA := a.set3 (fun p => a.co p + (a.pc d p + a.ow d b p) - (if p = b then a.owA d b else 0)) (fun t => if t = a.th d then a.gi d else a.ho t) (fun f => a.st f && !a.fw d f)
def TA.withCo (a : TA) (c : Nat → Int32) : TA := a.set3 c a.ho a.st
section set3
variable (a : TA) (c : Nat → Int32) (h : Nat → Nat) (s : Nat → Bool)
theorem s3_np : (a.set3 c h s).np = a.np := rfl
theorem s3_nt : (a.set3 c h s).nt = a.nt := rfl
theorem s3_nd : (a.set3 c h s).nd = a.nd := rfl
theorem s3_co : (a.set3 c h s).co = c := rfl
theorem s3_ho : (a.set3 c h s).ho = h := rfl
theorem s3_st : (a.set3 c h s).st = s := rfl
theorem s3_th : (a.set3 c h s).th = a.th := rfl
theorem s3_gi : (a.set3 c h s).gi = a.gi := rfl
theorem s3_ta : (a.set3 c h s).ta = a.ta := rfl
theorem s3_wealth (p : Nat) : (a.set3 c h s).wealth p = c p + sm (fun t => if h t = p then a.wo t p else 0) 0 a.nt := rfl
theorem co_np : (a.withCo c).np = a.np := rfl
theorem co_nd : (a.withCo c).nd = a.nd := rfl
theorem co_ow (d b p : Nat) : (a.withCo c).ow d b p = a.ow d b p := rfl
theorem co_pc (d p : Nat) : (a.withCo c).pc d p = a.pc d p := rfl
theorem co_pays (S : Int32) (b p : Nat) : (a.withCo c).pays S b p = a.pays S b p := rfl
theorem fell_np (d b : Nat) : (a.fell d b).np = a.np := s3_np a _ _ _
theorem fell_nt (d b : Nat) : (a.fell d b).nt = a.nt := s3_nt a _ _ _
theorem fell_nd (d b : Nat) : (a.fell d b).nd = a.nd := s3_nd a _ _ _
end set3
theorem TA.I.set3 {a : TA} {c : Nat → Int32} {h : Nat → Nat} {s : Nat → Bool} (I : a.I) (hh : ∀ t, t < a.nt → h t < a.np) (hs : ∀ d, s d = true → d < a.nd) (hc : ∀ d, d < a.nd → s d = true → a.ta d = nxf s a.th a.gi (h (a.th d)) (a.th d) (d + 1) (a.nd - (d + 1))) : (a.set3 c h s).I := ⟨I.np, I.nt, I.nd, hh, I.th, I.gi, I.ta, I.gt, I.pr, I.wo, I.sh, I.mi, hs, hc⟩
theorem TA.I.withCo {a : TA} (I : a.I) (c : Nat → Int32) : (a.withCo c).I := I.set3 I.ho I.st I.ch
theorem RC.set3 {g g2 : Nat → Nat → Int32} {a : TA} {c : Nat → Int32} {h : Nat → Nat} {s : Nat → Bool} (R : RC g a) (h0 : ∀ k, k < 8 → g2 0 k = g 0 k) (hs : ∀ d, d < 32 → bt (g2 0 8) d = s d) (hc : ∀ p, p < 6 → g2 1 p = c p) (hh : ∀ t, t < a.nt → g2 2 t = nI (h t)) (h9 : ∀ k, 3 ≤ k → k < 9 → g2 k = g k) : RC g2 (a.set3 c h s) := by
  have h3 := h9 3 (by omega) (by omega)
  have h4 := h9 4 (by omega) (by omega)
  have h5 := h9 5 (by omega) (by omega)
  have h6 := h9 6 (by omega) (by omega)
  have h7 := h9 7 (by omega) (by omega)
  have h8 := h9 8 (by omega) (by omega)
  exact ⟨(h0 0 (by omega)).trans R.li, (h0 1 (by omega)).trans R.np, (h0 2 (by omega)).trans R.nt, (h0 3 (by omega)).trans R.ea, (h0 4 (by omega)).trans R.sh, (h0 5 (by omega)).trans R.be, (h0 6 (by omega)).trans R.mi, (h0 7 (by omega)).trans R.nd, hs, hc, hh, by rw [h3]; exact R.wo, by rw [h4]; exact R.th, by rw [h5]; exact R.gi, by rw [h6]; exact R.ta, by rw [h7]; exact R.pr, by rw [h8]; exact R.wh⟩
theorem RC.withCo {g g2 : Nat → Nat → Int32} {a : TA} {c : Nat → Int32} (R : RC g a) (h : ∀ k, k ≠ 1 → g2 k = g k) (hc : ∀ p, p < 6 → g2 1 p = c p) : RC g2 (a.withCo c) :=
  R.set3 (fun k _ => by rw [h 0 (by omega)]) (fun d hd => by rw [h 0 (by omega)]; exact R.st d hd) hc (fun t ht => by rw [h 2 (by omega)]; exact R.ho t ht) (fun k h1 _ => h k (by omega))
/-- the coins after k people -/
def TA.coK (a : TA) (d b k : Nat) : Nat → Int32 := fun q => a.co q + (if q < k then a.pc d q + a.ow d b q else 0) - (if q = b then sm (a.ow d b) 0 k else 0)
theorem ow_self (a : TA) (d b : Nat) : a.ow d b b = 0 := if_pos rfl
theorem coK_step (a : TA) (d b k q : Nat) : upd (upd (a.coK d b k) k (a.coK d b k k + (a.pc d k + a.ow d b k))) b (upd (a.coK d b k) k (a.coK d b k k + (a.pc d k + a.ow d b k)) b - a.ow d b k) q = a.coK d b (k + 1) q := by
  simp only [upd_i, TA.coK, sm_e, Nat.zero_add]
  have h1 : ¬ k < k := by omega
  have h2 : k < k + 1 := by omega
  by_cases h3 : q = b
  · subst h3
    by_cases h4 : q = k
    · subst h4
      simp only [↓reduceIte, h1, h2, ow_self]
      grind
    · have h5 : (q < k + 1) = (q < k) := propext (by omega)
      simp only [↓reduceIte, h4, h5]
      grind
  · by_cases h4 : q = k
    · subst h4
      simp only [↓reduceIte, h1, h2, h3]
      grind
    · have h5 : (q < k + 1) = (q < k) := propext (by omega)
      simp only [↓reduceIte, h3, h4, h5]
/-- each is paid once: the sum over the people is the whole -/
theorem ow_sum {a : TA} (I : a.I) {d b : Nat} (hd : d < a.nd) (hb : b < a.np) : sm (a.ow d b) 0 a.np = a.owA d b := by
  have key : ∀ (k j : Nat), j + k ≤ a.nd → sm (fun p => if p = b then 0 else sm (fun f => if a.fw d f = true then a.owf p f else 0) j k) 0 a.np = sm (fun f => if a.fw d f = true then a.oaf b f else 0) j k := by
    intro k
    induction k with
    | zero => intro j _; rw [sm_0]; exact sm_zero _ _ (fun i _ _ => by simp only [sm_0, ite_self])
    | succ k ih =>
      intro j hj
      rw [sm_s, ← ih (j + 1) (by omega)]
      have e : sm (fun p => if p = b then 0 else (if a.fw d j = true then a.owf p j else 0)) 0 a.np = (if a.fw d j = true then a.oaf b j else 0) := by
        cases a.fw d j
        · exact sm_zero _ _ (fun i _ _ => by simp only [Bool.false_eq_true, ↓reduceIte, ite_self])
        · simp only [↓reduceIte]
          unfold TA.owf TA.oaf
          have e1 : sm (fun p => if p = a.gi j then (if a.gi j = b then 0 else a.cut (a.wg j)) else 0) 0 a.np = (if a.gi j = b then 0 else a.cut (a.wg j)) := sm_one _ _ _ (Nat.zero_le _) (by have := I.gi j (by omega); omega)
          have e2 : sm (fun p => if p = a.ta j then (if a.ta j = b then 0 else a.cut (a.wt j)) else 0) 0 a.np = (if a.ta j = b then 0 else a.cut (a.wt j)) := sm_one _ _ _ (Nat.zero_le _) (by have := I.ta j (by omega); omega)
          rw [← e1, ← e2, ← sm_plus]
          apply sm_congr
          intro p _ _
          generalize a.gi j = q
          generalize a.ta j = r
          have s2 : (p = q) = (q = p) := propext ⟨Eq.symm, Eq.symm⟩
          have s3 : (p = r) = (r = p) := propext ⟨Eq.symm, Eq.symm⟩
          simp only [s2, s3]
          by_cases h1 : p = b
          · subst h1
            by_cases h2 : q = p <;> by_cases h3 : r = p <;> simp only [h2, h3, ↓reduceIte, Int32.add_zero, Int32.zero_add]
          · by_cases h2 : q = p <;> by_cases h3 : r = p <;> simp only [h1, h2, h3, ↓reduceIte, Int32.add_zero, Int32.zero_add]
      rw [← e, ← sm_plus]
      apply sm_congr
      intro p _ _
      by_cases h1 : p = b
      · simp only [h1, ↓reduceIte, Int32.add_zero]
      · simp only [h1, ↓reduceIte, sm_s]
  exact key (a.nd - d) d (by omega)
section fell
variable {N : Nat} {g : Nat → Nat → Int32} {a : TA}
theorem c_fell (hN : 2000 ≤ N) (R : RC g a) (I : a.I) {d b : Nat} (hd : d < a.nd) (hb : b < a.np) : Ok (p_X3_fell N g (nI d) (nI b)) (fun r => r.1 = pop (a.fb d) ∧ RC r.2 (a.fell d b) ∧ ∀ c, 9 ≤ c → r.2 c = g c) := by
  have h1 := I.nd
  have h2 := I.np
  have h3 := I.th d hd
  have h4 := I.nt
  have h5 := I.gi d hd
  unfold p_X3_fell
  rw [c_fallBits hN R I hd, Option.bind_some]
  refine Ok.l2 (fun n (g1 : Nat → Nat → Int32) x => p_X3_fell_b9 N n g1 (nI d) (nI b) (a.fb d) x) _ (fun j g1 x => ∃ k, k + j = a.np ∧ x = nI k ∧ (∀ c, c ≠ 1 → g1 c = g c) ∧ ∀ q, q < 6 → g1 1 q = a.coK d b k q) ?_ N a.np g 0 (by omega) ⟨0, by omega, nI_0.symm, fun _ _ => rfl, ?_⟩
  · intro j g1 x n hs ih
    obtain ⟨k, hk, hx, hg, hq⟩ := hs
    subst hx
    have R2 : RC g1 (a.withCo (a.coK d b k)) := R.withCo hg hq
    have I2 := I.withCo (a.coK d b k)
    rw [p_X3_fell_b9]
    have e1 : g1 0 1 = nI a.np := by rw [hg 0 (by decide)]; exact R.np
    have e4 : g1 4 d = nI (a.th d) := by rw [hg 4 (by decide)]; exact R.th d hd
    have e5 : g1 5 d = nI (a.gi d) := by rw [hg 5 (by decide)]; exact R.gi d hd
    by_cases h : k = a.np
    · subst h
      simp (disch := omega) only [Option.bind_some, jlt_eq, ↓reduceIte, eq_self, jinT, zleT, zleF, zltT, zltF, zeq, zpos, zpos', zcl, zm6, z6, z84, z24, z14, z8, nI_add, zd0, zd1, zd2, zd3, zd4, zd5, bitI_e, bI0, bI1, e1, e4, e5, x_bitCount]
      refine Ok.s ⟨rfl, ?_, ?_⟩
      · dsimp only
        have e0 : ∀ x y : Nat, jup (jup g1 2 (a.th d) (nI (a.gi d))) 0 8 (jup g1 2 (a.th d) (nI (a.gi d)) 0 8 &&& (a.fb d ^^^ -1)) 0 y = if y = 8 then g1 0 8 &&& (a.fb d ^^^ -1) else g1 0 y := by
          intro _ y
          rw [jup_s, jup_n _ _ (by decide), upd_i]
        have n2 : ∀ y, jup (jup g1 2 (a.th d) (nI (a.gi d))) 0 8 (jup g1 2 (a.th d) (nI (a.gi d)) 0 8 &&& (a.fb d ^^^ -1)) 2 y = if y = a.th d then nI (a.gi d) else g1 2 y := by
          intro y
          rw [jup_n _ _ (by decide), jup_s, upd_i]
        have nn : ∀ c, c ≠ 0 → c ≠ 2 → jup (jup g1 2 (a.th d) (nI (a.gi d))) 0 8 (jup g1 2 (a.th d) (nI (a.gi d)) 0 8 &&& (a.fb d ^^^ -1)) c = g1 c := by
          intro c c0 c2
          rw [jup_n _ _ c0, jup_n _ _ c2]
        refine RC.set3 R ?_ ?_ ?_ ?_ ?_
        · intro y hy
          rw [e0 0 y, if_neg (by omega), hg 0 (by decide)]
        · intro f hf
          rw [e0 0 8, if_pos rfl, b_and, bt_not _ hf, hg 0 (by decide), R.st f hf, fb_bit I hd hf]
          by_cases h6 : f < a.nd
          · rw [decide_eq_true h6, Bool.true_and]
          · have : a.st f = false := by
              cases h7 : a.st f
              · rfl
              · exact absurd (I.st f h7) h6
            rw [this, Bool.false_and, Bool.false_and]
        · intro p hp
          rw [nn 1 (by decide) (by decide), hq p hp]
          unfold TA.coK
          rw [ow_sum I hd hb]
          by_cases h6 : p < a.np
          · rw [if_pos h6]
          · rw [if_neg h6]
            have z1 : a.pc d p = 0 := sm_zero _ _ (fun i h7 h8 => by
              have h9 := I.gi i (by omega)
              have h10 := I.ta i (by omega)
              unfold TA.pcf
              rw [if_neg (show ¬ a.ta i = p by omega), if_neg (show ¬ a.gi i = p by omega)]
              exact ite_self _)
            have z2 : a.ow d b p = 0 := by
              unfold TA.ow
              rw [sm_zero _ _ (fun i h7 h8 => by
                have h9 := I.gi i (by omega)
                have h10 := I.ta i (by omega)
                unfold TA.owf
                rw [if_neg (show ¬ a.gi i = p by omega), if_neg (show ¬ a.ta i = p by omega)]
                exact ite_self _)]
              exact ite_self _
            rw [z1, z2, Int32.add_zero, Int32.zero_add, Int32.add_zero]
        · intro t ht
          rw [n2 t]
          by_cases h6 : t = a.th d
          · rw [if_pos h6, if_pos h6]
          · rw [if_neg h6, if_neg h6, hg 2 (by decide)]; exact R.ho t ht
        · intro c h6 h7
          rw [nn c (by omega) (by omega), hg c (by omega)]
      · intro c hc
        dsimp only
        rw [jup_n _ _ (by omega), jup_n _ _ (by omega), hg c (by omega)]
    · have q1 : p_X3_owedTo N g1 (nI d) (nI b) (nI k) = some (a.ow d b k) := (c_owedTo hN R2 I2 (d := d) (b := b) (p := k) (by rw [co_nd]; exact hd) (by omega) (by omega)).trans (congrArg some (co_ow _ _ _ _ _))
      have q2 : p_X3_priceChange N g1 (nI d) (nI k) = some (a.pc d k) := (c_priceChange hN R2 I2 (d := d) (p := k) (by rw [co_nd]; exact hd) (by omega)).trans (congrArg some (co_pc _ _ _ _))
      simp (disch := omega) only [Option.bind_some, jlt_eq, ↓reduceIte, eq_self, jinT, zleT, zleF, zltT, zltF, zeq, zpos, zpos', zcl, zm6, z6, z84, z24, z14, z8, nI_add, zd0, zd1, zd2, zd3, zd4, zd5, bitI_e, bI0, bI1, e1, q1, q2]
      refine ih _ _ (j - 1) (by omega) ⟨k + 1, by omega, rfl, ?_, ?_⟩
      · intro c hc
        rw [jup_n _ _ hc, jup_n _ _ hc, hg c hc]
      · intro q hq6
        rw [jup_s, jup_s, ← coK_step]
        simp only [upd_i, hq k (show k < 6 by omega), hq b (show b < 6 by omega), hq q hq6]
  · intro q hq
    rw [R.co q hq]
    unfold TA.coK
    rw [if_neg (Nat.not_lt_zero q), sm_0, ite_self, Int32.add_zero, Int32.sub_zero]
end fell

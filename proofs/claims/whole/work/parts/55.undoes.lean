/-! undoing in the reference -/
theorem RM.upd3 {T T2 : Nat → Int32} {a : TA} {c : Nat → Int32} {h : Nat → Nat} {s : Nat → Bool} (R : RM T a) (hT : ∀ i, i < 8 ∨ (24 ≤ i ∧ i < 84) ∨ (84 ≤ i ∧ (i - 84) % 6 ≠ 4) → T2 i = T i) (hc : ∀ p, p < 6 → T2 (8 + p) = c p) (hh : ∀ t, t < a.nt → T2 (14 + t) = nI (h t)) (hs : ∀ d, d < a.nd → T2 (84 + 6 * d + 4) = bI (s d)) : RM T2 (a.set3 c h s) :=
  ⟨(hT 0 (by omega)).trans R.li, (hT 1 (by omega)).trans R.np, (hT 2 (by omega)).trans R.nt, (hT 3 (by omega)).trans R.ea, (hT 4 (by omega)).trans R.sh, (hT 5 (by omega)).trans R.be, (hT 6 (by omega)).trans R.mi, (hT 7 (by omega)).trans R.nd, hc, hh, fun t p ht hp => (hT _ (by omega)).trans (R.wo t p ht hp), fun d hd => (hT _ (by omega)).trans (R.th d hd), fun d hd => (hT _ (by omega)).trans (R.gi d hd), fun d hd => (hT _ (by omega)).trans (R.ta d hd), fun d hd => (hT _ (by omega)).trans (R.pr d hd), hs, fun d hd => (hT _ (by omega)).trans (R.wh d hd)⟩
section rm3
variable {T T2 : Nat → Int32} {a : TA} {c c0 : Nat → Int32} {h h0 : Nat → Nat} {s s0 : Nat → Bool}
theorem RM.np3 (R : RM T (a.set3 c h s)) : T 1 = nI a.np := R.np
theorem RM.nd3 (R : RM T (a.set3 c h s)) : T 7 = nI a.nd := R.nd
theorem RM.co3 (R : RM T (a.set3 c h s)) {p : Nat} (hp : p < 6) : T (8 + p) = c p := R.co p hp
theorem RM.ho3 (R : RM T (a.set3 c h s)) {t : Nat} (ht : t < a.nt) : T (14 + t) = nI (h t) := R.ho t ht
theorem RM.st3 (R : RM T (a.set3 c h s)) {d : Nat} (hd : d < a.nd) : T (84 + 6 * d + 4) = bI (s d) := R.st d hd
theorem RM.th3 (R : RM T (a.set3 c h s)) {d : Nat} (hd : d < a.nd) : T (84 + 6 * d) = nI (a.th d) := R.th d hd
theorem RM.gi3 (R : RM T (a.set3 c h s)) {d : Nat} (hd : d < a.nd) : T (84 + 6 * d + 1) = nI (a.gi d) := R.gi d hd
theorem RM.ta3 (R : RM T (a.set3 c h s)) {d : Nat} (hd : d < a.nd) : T (84 + 6 * d + 2) = nI (a.ta d) := R.ta d hd
theorem RM.pr3 (R : RM T (a.set3 c h s)) {d : Nat} (hd : d < a.nd) : T (84 + 6 * d + 3) = a.pr d := R.pr d hd
theorem RM.re3 (R : RM T (a.set3 c0 h0 s0)) (hT : ∀ i, i < 8 ∨ (24 ≤ i ∧ i < 84) ∨ (84 ≤ i ∧ (i - 84) % 6 ≠ 4) → T2 i = T i) (hc : ∀ p, p < 6 → T2 (8 + p) = c p) (hh : ∀ t, t < a.nt → T2 (14 + t) = nI (h t)) (hs : ∀ d, d < a.nd → T2 (84 + 6 * d + 4) = bI (s d)) : RM T2 (a.set3 c h s) := RM.upd3 (a := a.set3 c0 h0 s0) R hT hc hh hs
theorem RM.of3 (R : RM T a) (hc : ∀ p, p < 6 → a.co p = c p) (hh : ∀ t, t < a.nt → a.ho t = h t) (hs : ∀ d, d < a.nd → a.st d = s d) : RM T (a.set3 c h s) := R.upd3 (fun _ _ => rfl) (fun p hp => (R.co p hp).trans (hc p hp)) (fun t ht => (R.ho t ht).trans (congrArg nI (hh t ht))) (fun d hd => (R.st d hd).trans (congrArg bI (hs d hd)))
end rm3
theorem RM.withCo {T T2 : Nat → Int32} {a : TA} {c : Nat → Int32} (R : RM T a) (hT : ∀ i, i < 8 ∨ 14 ≤ i → T2 i = T i) (hc : ∀ p, p < 6 → T2 (8 + p) = c p) : RM T2 (a.withCo c) :=
  R.upd3 (fun i hi => hT i (by omega)) hc (fun t ht => (hT _ (by omega)).trans (R.ho t ht)) (fun d hd => (hT _ (by omega)).trans (R.st d hd))
def TA.coP (a : TA) (d b k : Nat) : Nat → Int32 := fun q => a.co q + (if q < k then a.ow d b q else 0) - (if q = b then sm (a.ow d b) 0 k else 0)
theorem coP_step (a : TA) (d b k q : Nat) : upd (upd (a.coP d b k) k (a.coP d b k k + a.ow d b k)) b (upd (a.coP d b k) k (a.coP d b k k + a.ow d b k) b - a.ow d b k) q = a.coP d b (k + 1) q := by
  simp only [upd_i, TA.coP, sm_e, Nat.zero_add]
  have h1 : ¬ k < k := by omega
  have h2 : k < k + 1 := by omega
  by_cases h3 : q = b
  · subst h3
    by_cases h4 : q = k
    · subst h4
      simp only [↓reduceIte, h1, h2, ow_self]
      grind
    · have h5 : (q < k + 1) = (q < k) := propext (by omega)
      simp only [↓reduceIte, h4, h5]
      grind
  · by_cases h4 : q = k
    · subst h4
      simp only [↓reduceIte, h1, h2, h3]
      grind
    · have h5 : (q < k + 1) = (q < k) := propext (by omega)
      simp only [↓reduceIte, h3, h4, h5]
def TA.unK (a : TA) (S : Int32) (c1 : Nat → Int32) (k : Nat) : TA := a.set3 (fun q => c1 q + sm (fun f => if bt S f = true then a.pcf q f else 0) k (a.nd - k)) (fun t => nxf (bt S) a.th a.gi (a.ho t) t k (a.nd - k)) (fun f => a.st f && !(decide (k ≤ f) && bt S f))
section undoes
variable {N : Nat} {G : Nat → Nat → Int32} {J : Nat → Nat → Int64} {a : TA}
theorem m_undo2 (hN : 2000 ≤ N) (I : a.I) {S : Int32} {c1 : Nat → Int32} {P : Int32 × (Nat → Nat → Int32) → Prop} (hP : ∀ G2, (∀ c, c ≠ 1 → G2 c = G c) → RM (G2 1) (a.unK S c1 0) → P (sm (fun f => bI (bt S f)) 0 a.nd, G2)) (hG : RM (G 1) (a.unK S c1 a.nd)) : Ok (p_X6_undoes_b79 N J N G S 0 (nI a.nd - 1)) P := by
  have h1 := I.nd
  have h2 := I.np
  have h4 := I.nt
  refine Ok.l3 (fun n (G1 : Nat → Nat → Int32) x y => p_X6_undoes_b79 N J n G1 S x y) _ (fun j G1 x y => j ≤ a.nd ∧ y = nI j - 1 ∧ x = sm (fun f => bI (bt S f)) j (a.nd - j) ∧ (∀ c, c ≠ 1 → G1 c = G c) ∧ RM (G1 1) (a.unK S c1 j)) ?_ N a.nd G 0 _ (by omega) ⟨Nat.le_refl _, rfl, by rw [Nat.sub_self, sm_0], fun _ _ => rfl, hG⟩
  intro j G1 x y n hs ih
  obtain ⟨hj, hy, hx, hc, R⟩ := hs
  subst hy
  rw [p_X6_undoes_b79]
  cases j with
  | zero =>
    rw [if_pos (by decide)]
    rw [hx]
    exact Ok.s (hP G1 hc R)
  | succ k =>
    have hk : k < a.nd := by omega
    have e1 : G1 1 (84 + 6 * k) = nI (a.th k) := R.th3 hk
    have e2 : G1 1 (84 + 6 * k + 1) = nI (a.gi k) := R.gi3 hk
    have e3 : G1 1 (84 + 6 * k + 2) = nI (a.ta k) := R.ta3 hk
    have e4 : G1 1 (84 + 6 * k + 3) = a.pr k := R.pr3 hk
    have h5 := I.th k hk
    have h6 := I.gi k hk
    have h7 := I.ta k hk
    have em : nI k + (-1) = nI k - 1 := (Int32.sub_eq_add_neg _ _).symm
    have ek : a.nd - k = (a.nd - (k + 1)) + 1 := by omega
    rw [nI_pred, if_neg (nI_pos (by omega)), bt_test S (show k < 32 by omega)]
    have ihk := fun s2 t2 u2 => ih s2 t2 u2 k (by omega)
    cases hb : bt S k
    · rw [bI_f, if_pos rfl, p_X6_undoes_b187, em]
      refine ihk G1 x _ ⟨by omega, rfl, ?_, hc, ?_⟩
      · rw [hx, ek, sm_s, hb, bI_f, Int32.zero_add]
      · show RM (G1 1) (a.unK S c1 k)
        have e : a.unK S c1 k = a.unK S c1 (k + 1) := by
          unfold TA.unK
          rw [ek]
          congr 1
          · funext q; rw [sm_s, hb]; simp only [Bool.false_eq_true, ↓reduceIte, Int32.zero_add]
          · funext t; rw [nxf, hb]; simp only [Bool.false_eq_true, false_and, ↓reduceIte]
          · funext f
            by_cases h8 : f = k
            · subst h8; rw [hb]; simp
            · have : decide (k ≤ f) = decide (k + 1 ≤ f) := decide_eq_decide.mpr (by omega)
              rw [this]
        rw [e]; exact R
    · rw [bI_t, if_neg (by decide)]
      simp (disch := omega) only [Option.bind_some, jlt_eq, ↓reduceIte, eq_self, jinT, zleT, zleF, zltT, zltF, zeq, zpos, zpos', zcl, zm6, z6, z84, z24, z14, z8, nI_add, zd0, zd1, zd2, zd3, zd4, zd5, bitI_e, bI0, bI1, p_X6_of, p_X6_undoes_b187, em, jup_s, upd_s, upd_n, e1, e2, e3, e4]
      refine ihk _ _ _ ⟨by omega, rfl, ?_, ?_, ?_⟩
      · rw [hx, ek, sm_s, hb, bI_t, Int32.add_comm]
      · intro c hc1
        rw [jup_n _ _ hc1, jup_n _ _ hc1, jup_n _ _ hc1, jup_n _ _ hc1, hc c hc1]
      · simp only [jup_s]
        have hgt := I.gt k hk
        refine RM.re3 R ?_ ?_ ?_ ?_
        · intro i hi
          simp (disch := omega) only [Option.bind_some, jlt_eq, ↓reduceIte, eq_self, jinT, zleT, zleF, zltT, zltF, zeq, zpos, zpos', zcl, zm6, z6, z84, z24, z14, z8, nI_add, zd0, zd1, zd2, zd3, zd4, zd5, bitI_e, bI0, bI1, upd_n]
        · intro q hq
          have eq : G1 1 (8 + q) = c1 q + sm (fun f => if bt S f = true then a.pcf q f else 0) (k + 1) (a.nd - (k + 1)) := R.co3 hq
          rw [ek, sm_s, hb]
          generalize sm (fun f => if bt S f = true then a.pcf q f else 0) (k + 1) (a.nd - (k + 1)) = Z at eq ⊢
          have n1 : ¬ 8 + q = 84 + 6 * k + 4 := by omega
          have n2 : ¬ 8 + q = 14 + a.th k := by omega
          have t1 : (8 + q = 8 + a.ta k) = (q = a.ta k) := propext (by omega)
          have t2 : (8 + q = 8 + a.gi k) = (q = a.gi k) := propext (by omega)
          have t3 : (8 + a.ta k = 8 + a.gi k) = False := eq_false (by omega)
          have n3 : ¬ 8 + a.ta k = 14 + a.th k := by omega
          have n4 : ¬ 8 + a.ta k = 84 + 6 * k + 4 := by omega
          have n5 : ¬ 8 + a.gi k = 14 + a.th k := by omega
          have n6 : ¬ 8 + a.gi k = 84 + 6 * k + 4 := by omega
          simp only [upd_i, n1, n2, n3, n4, n5, n6, t1, t2, t3, ↓reduceIte, TA.pcf]
          by_cases h8 : q = a.ta k
          · have h9 : ¬ a.gi k = q := by omega
            have h10 : a.ta k = q := h8.symm
            have h11 : G1 1 (8 + a.ta k) = G1 1 (8 + q) := by rw [h10]
            simp only [h8, ↓reduceIte]
            rw [h11, eq, if_neg (show ¬ a.gi k = a.ta k by omega), h10]
            grind
          · rw [if_neg h8, if_neg (show ¬ a.ta k = q by omega)]
            by_cases h9 : q = a.gi k
            · have h10 : a.gi k = q := h9.symm
              have h11 : G1 1 (8 + a.gi k) = G1 1 (8 + q) := by rw [h10]
              rw [if_pos h9, if_pos h10, h11, eq]
              grind
            · rw [if_neg h9, if_neg (show ¬ a.gi k = q by omega), eq]
              grind
        · intro t ht
          have eq : G1 1 (14 + t) = nI (nxf (bt S) a.th a.gi (a.ho t) t (k + 1) (a.nd - (k + 1))) := R.ho3 ht
          rw [ek, nxf, hb]
          have n1 : ¬ 14 + t = 84 + 6 * k + 4 := by omega
          have n2 : ¬ 14 + t = 8 + a.ta k := by omega
          have n3 : ¬ 14 + t = 8 + a.gi k := by omega
          have t1 : (14 + t = 14 + a.th k) = (t = a.th k) := propext (by omega)
          simp only [upd_i, n1, n2, n3, t1, ↓reduceIte]
          by_cases h8 : t = a.th k
          · rw [if_pos h8, if_pos ⟨trivial, h8.symm⟩]
          · rw [if_neg h8, if_neg (fun h => h8 h.2.symm), eq]
        · intro f hf
          have eq : G1 1 (84 + 6 * f + 4) = bI (a.st f && !(decide (k + 1 ≤ f) && bt S f)) := R.st3 hf
          have n1 : ¬ 84 + 6 * f + 4 = 8 + a.ta k := by omega
          have n2 : ¬ 84 + 6 * f + 4 = 8 + a.gi k := by omega
          have n3 : ¬ 84 + 6 * f + 4 = 14 + a.th k := by omega
          have t1 : (84 + 6 * f + 4 = 84 + 6 * k + 4) = (f = k) := propext (by omega)
          simp only [upd_i, n1, n2, n3, t1, ↓reduceIte]
          by_cases h8 : f = k
          · subst h8
            rw [if_pos rfl, hb, decide_eq_true (Nat.le_refl _)]
            cases a.st f <;> rfl
          · rw [if_neg h8, eq, show decide (k + 1 ≤ f) = decide (k ≤ f) from decide_eq_decide.mpr (by omega)]
/-- the first that falls is the one undone -/
theorem nxf_fb (I : a.I) {d t : Nat} (hd : d < a.nd) (hst : a.st d = true) : nxf (bt (a.fb d)) a.th a.gi (a.ho t) t 0 a.nd = if t = a.th d then a.gi d else a.ho t := by
  have h1 := I.nd
  have key : ∀ k j, j + k = a.nd → nxf (bt (a.fb d)) a.th a.gi (a.ho t) t j k = if t = a.th d ∧ j ≤ d then a.gi d else (if t = a.th d then nxf (bt (a.fb d)) a.th a.gi (a.ho t) t j k else a.ho t) := by
    intro k
    induction k with
    | zero => intro j hj; rw [nxf, if_neg (by omega), ite_self]
    | succ k ih =>
      intro j hj
      have fb := fb_bit I hd (show j < 32 by omega)
      rw [decide_eq_true (show j < a.nd by omega), Bool.true_and] at fb
      by_cases ht : t = a.th d
      · by_cases hjd : j ≤ d
        · rw [if_pos ⟨ht, hjd⟩, nxf]
          by_cases e : j = d
          · subst e
            rw [if_pos ⟨by rw [fb]; simp [TA.fw, hst], ht.symm⟩]
          · have : bt (a.fb d) j = false := by rw [fb, TA.fw, decide_eq_false (by omega)]; rfl
            rw [if_neg (by rw [this]; simp), ih (j + 1) (by omega), if_pos ⟨ht, by omega⟩]
        · rw [if_neg (fun h => hjd h.2), if_pos ht]
      · rw [if_neg (fun h => ht h.1), if_neg ht, nxf]
        have : ¬ (bt (a.fb d) j = true ∧ a.th j = t) := by
          rintro ⟨h2, h3⟩
          rw [fb, TA.fw] at h2
          simp only [Bool.and_eq_true, decide_eq_true_eq] at h2
          omega
        rw [if_neg this, ih (j + 1) (by omega), if_neg (fun h => ht h.1), if_neg ht]
  rw [key a.nd 0 (by omega)]
  by_cases ht : t = a.th d
  · rw [if_pos ⟨ht, by omega⟩, if_pos ht]
  · rw [if_neg (fun h => ht h.1), if_neg ht, if_neg ht]
/-- the reference's undoing gives the town that the class's gives -/
theorem unK_fell (I : a.I) {d b : Nat} (hd : d < a.nd) (hb : b < a.np) (hst : a.st d = true) {T : Nat → Int32} (R : RM T (a.unK (a.fb d) (a.coP d b a.np) 0)) : RM T (a.fell d b) := by
  have h1 := I.nd
  refine RM.re3 R (fun _ _ => rfl) ?_ ?_ ?_
  · intro p hp
    rw [R.co3 hp]
    have e : sm (fun f => if bt (a.fb d) f = true then a.pcf p f else 0) 0 (a.nd - 0) = a.pc d p := by
      rw [show a.nd - 0 = d + (a.nd - d) by omega, sm_app, sm_zero d 0, Int32.zero_add, Nat.zero_add]
      · apply sm_congr
        intro i h2 h3
        rw [fb_bit I hd (by omega), decide_eq_true (show i < a.nd by omega), Bool.true_and]
      · intro i h2 h3
        rw [fb_bit I hd (by omega)]
        have e : a.fw d i = false := by unfold TA.fw; rw [decide_eq_false (by omega)]; rfl
        rw [e, Bool.and_false]
        rfl
    rw [e]
    unfold TA.coP
    rw [ow_sum I hd hb]
    by_cases h6 : p < a.np
    · rw [if_pos h6]
      grind
    · rw [if_neg h6]
      have z2 : a.ow d b p = 0 := by
        unfold TA.ow
        rw [sm_zero _ _ (fun i h7 h8 => by
          have h9 := I.gi i (by omega)
          have h10 := I.ta i (by omega)
          unfold TA.owf
          rw [if_neg (show ¬ a.gi i = p by omega), if_neg (show ¬ a.ta i = p by omega)]
          exact ite_self _)]
        exact ite_self _
      rw [z2]
      grind
  · intro t ht
    rw [R.ho3 ht, Nat.sub_zero, nxf_fb I hd hst]
  · intro f hf
    rw [R.st3 hf, fb_bit I hd (by omega), decide_eq_true hf, decide_eq_true (Nat.zero_le f), Bool.true_and, Bool.true_and]
/-- the sum of the bits of what falls -/
theorem pop_fb (I : a.I) {d : Nat} (hd : d < a.nd) : sm (fun f => bI (bt (a.fb d) f)) 0 a.nd = pop (a.fb d) := by
  have h1 := I.nd
  unfold pop
  rw [show (32 : Nat) = a.nd + (32 - a.nd) by omega, sm_app, Nat.zero_add, sm_zero (32 - a.nd) a.nd, Int32.add_zero]
  intro i h2 h3
  rw [fb_bit I hd (by omega), decide_eq_false (by omega)]
  rfl
theorem m_undoes (hN : 2000 ≤ N) (R : RM (G 1) a) (I : a.I) {d b : Nat} (hd : d < a.nd) (hb : b < a.np) (hst : a.st d = true) : Ok (p_X6_undoes N G J (nI d) (nI b)) (fun r => r.1 = pop (a.fb d) ∧ RM (r.2 1) (a.fell d b) ∧ ∀ c, c ≠ 1 → r.2 c = G c) := by
  have h1 := I.nd
  have h2 := I.np
  unfold p_X6_undoes
  rw [m_fallsOf hN R I hd, Option.bind_some]
  refine Ok.l2 (fun n (G1 : Nat → Nat → Int32) x => p_X6_undoes_b12 N J n G1 (nI b) (a.fb d) 0 x) _ (fun j G1 x => ∃ k, k + j = a.np ∧ x = nI k ∧ (∀ c, c ≠ 1 → G1 c = G c) ∧ RM (G1 1) (a.withCo (a.coP d b k))) ?_ N a.np G 0 (by omega) ⟨0, by omega, nI_0.symm, fun _ _ => rfl, ?_⟩
  · intro j G1 x n hs ih
    obtain ⟨k, hk, hx, hg, R2⟩ := hs
    subst hx
    have I2 := I.withCo (a.coP d b k)
    rw [p_X6_undoes_b12]
    have e1 : G1 1 1 = nI a.np := R2.np3
    have e7 : G1 1 7 = nI a.nd := R2.nd3
    by_cases h : k = a.np
    · subst h
      simp (disch := omega) only [Option.bind_some, jlt_eq, ↓reduceIte, eq_self, jinT, zleT, zleF, zltT, zltF, zeq, zpos, zpos', zcl, zm6, z6, z84, z24, z14, z8, nI_add, zd0, zd1, zd2, zd3, zd4, zd5, bitI_e, bI0, bI1, e1, e7]
      refine m_undo2 hN I (c1 := a.coP d b a.np) ?_ ?_
      · intro G2 hG2 R3
        exact ⟨pop_fb I hd, unK_fell I hd hb hst R3, fun c hc => (hG2 c hc).trans (hg c hc)⟩
      · refine RM.re3 R2 (fun _ _ => rfl) ?_ ?_ ?_
        · intro p hp
          rw [R2.co3 hp, Nat.sub_self, sm_0, Int32.add_zero]
        · intro t ht
          rw [R2.ho3 ht, Nat.sub_self, nxf]
        · intro f hf
          rw [R2.st3 hf, decide_eq_false (by omega), Bool.false_and, Bool.not_false, Bool.and_true]
    · have q1 : p_X6_pays N G1 J (a.fb d) (nI b) (nI k) = some (a.ow d b k) := (m_pays hN R2 I2 (S := a.fb d) (b := b) (p := k) (by omega) (by omega)).trans (congrArg some ((co_pays _ _ _ _ _).trans (pays_fb I hd)))
      simp (disch := omega) only [Option.bind_some, jlt_eq, ↓reduceIte, eq_self, jinT, zleT, zleF, zltT, zltF, zeq, zpos, zpos', zcl, zm6, z6, z84, z24, z14, z8, nI_add, zd0, zd1, zd2, zd3, zd4, zd5, bitI_e, bI0, bI1, e1, q1]
      refine ih _ _ (j - 1) (by omega) ⟨k + 1, by omega, rfl, ?_, ?_⟩
      · intro c hc
        rw [jup_n _ _ hc, jup_n _ _ hc, hg c hc]
      · simp only [jup_s]
        refine RM.re3 R2 ?_ ?_ ?_ ?_
        · intro i hi
          simp (disch := omega) only [Option.bind_some, jlt_eq, ↓reduceIte, eq_self, jinT, zleT, zleF, zltT, zltF, zeq, zpos, zpos', zcl, zm6, z6, z84, z24, z14, z8, nI_add, zd0, zd1, zd2, zd3, zd4, zd5, bitI_e, bI0, bI1, upd_n]
        · intro q hq
          have c1 : G1 1 (8 + k) = a.coP d b k k := R2.co3 (by omega)
          have c2 : G1 1 (8 + b) = a.coP d b k b := R2.co3 (by omega)
          have c3 : G1 1 (8 + q) = a.coP d b k q := R2.co3 hq
          have t1 : (8 + q = 8 + b) = (q = b) := propext (by omega)
          have t2 : (8 + q = 8 + k) = (q = k) := propext (by omega)
          have t3 : (8 + b = 8 + k) = (b = k) := propext (by omega)
          rw [← coP_step]
          simp only [upd_i, t1, t2, t3, c1, c2, c3]
        · intro t ht
          simp (disch := omega) only [Option.bind_some, jlt_eq, ↓reduceIte, eq_self, jinT, zleT, zleF, zltT, zltF, zeq, zpos, zpos', zcl, zm6, z6, z84, z24, z14, z8, nI_add, zd0, zd1, zd2, zd3, zd4, zd5, bitI_e, bI0, bI1, upd_n]
          exact R2.ho3 ht
        · intro f hf
          simp (disch := omega) only [Option.bind_some, jlt_eq, ↓reduceIte, eq_self, jinT, zleT, zleF, zltT, zltF, zeq, zpos, zpos', zcl, zm6, z6, z84, z24, z14, z8, nI_add, zd0, zd1, zd2, zd3, zd4, zd5, bitI_e, bI0, bI1, upd_n]
          exact R2.st3 hf
  · refine RM.withCo R (fun _ _ => rfl) ?_
    intro q hq
    rw [R.co q hq]
    unfold TA.coP
    rw [if_neg (Nat.not_lt_zero q), sm_0, ite_self, Int32.add_zero, Int32.sub_zero]
end undoes

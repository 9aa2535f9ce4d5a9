/-! what an undoing leaves, and what it brings -/
theorem nxf_congr {st st2 : Nat → Bool} {th gi : Nat → Nat} {h t : Nat} : ∀ (k j : Nat), (∀ i, j ≤ i → i < j + k → th i = t → st i = st2 i) → nxf st th gi h t j k = nxf st2 th gi h t j k
  | 0, _, _ => rfl
  | k + 1, j, hh => by
    rw [nxf, nxf, nxf_congr k (j + 1) (fun i h1 h2 => hh i (by omega) (by omega))]
    by_cases h1 : th j = t
    · rw [hh j (by omega) (by omega) h1]
    · rw [if_neg (fun h => h1 h.2), if_neg (fun h => h1 h.2)]
theorem nxf_none {st : Nat → Bool} {th gi : Nat → Nat} {h t : Nat} : ∀ (k j : Nat), (∀ i, j ≤ i → i < j + k → th i = t → st i = false) → nxf st th gi h t j k = h
  | 0, _, _ => rfl
  | k + 1, j, hh => by
    rw [nxf, nxf_none k (j + 1) (fun i h1 h2 => hh i (by omega) (by omega))]
    by_cases h1 : th j = t
    · rw [hh j (by omega) (by omega) h1]; simp
    · rw [if_neg (fun h => h1 h.2)]
theorem nxf_cut {st st2 : Nat → Bool} {th gi : Nat → Nat} {h t d : Nat} (hst : st d = true) (hth : th d = t) (h2 : ∀ i, i < d → th i = t → st2 i = st i) (h3 : ∀ i, d ≤ i → th i = t → st2 i = false) : ∀ (k j : Nat), j ≤ d → d < j + k → nxf st2 th gi (gi d) t j k = nxf st th gi h t j k
  | 0, j, h4, h5 => absurd h5 (by omega)
  | k + 1, j, h4, h5 => by
    rw [nxf, nxf]
    by_cases e : j = d
    · subst e
      rw [h3 j (Nat.le_refl _) hth, if_neg (by simp), if_pos ⟨hst, hth⟩]
      exact nxf_none k (j + 1) (fun i h6 _ h7 => h3 i (by omega) h7)
    · rw [nxf_cut hst hth h2 h3 k (j + 1) (by omega) (by omega)]
      by_cases h6 : th j = t
      · rw [h2 j (by omega) h6]
      · rw [if_neg (fun h => h6 h.2), if_neg (fun h => h6 h.2)]
theorem TA.I.fell {a : TA} (I : a.I) {d b : Nat} (hd : d < a.nd) (hst : a.st d = true) : (a.fell d b).I := by
  refine I.set3 ?_ ?_ ?_
  · intro t ht
    split
    · exact I.gi d hd
    · exact I.ho t ht
  · intro f hf
    rw [Bool.and_eq_true] at hf
    exact I.st f hf.1
  · intro f hf hs2
    rw [Bool.and_eq_true, Bool.not_eq_true'] at hs2
    rw [I.ch f hf hs2.1, TA.nx]
    by_cases h : a.th f = a.th d
    · rw [if_pos h]
      have hfd : f < d := by
        rcases Nat.lt_or_ge f d with h1 | h1
        · exact h1
        · have : a.fw d f = true := by
            unfold TA.fw
            rw [decide_eq_true h1, hst, hs2.1, decide_eq_true h]; rfl
          rw [this] at hs2
          exact absurd hs2.2 (by decide)
      refine (nxf_cut hst h.symm ?_ ?_ _ _ (by omega) (by omega)).symm
      · intro i hi h1
        have : a.fw d i = false := by unfold TA.fw; rw [decide_eq_false (by omega)]; rfl
        rw [this, Bool.not_false, Bool.and_true]
      · intro i hi h1
        have : a.fw d i = a.st i := by
          unfold TA.fw
          rw [decide_eq_true hi, hst, decide_eq_true (h1.trans h), Bool.and_true, Bool.true_and, Bool.true_and]
        rw [this]
        cases a.st i <;> rfl
    · rw [if_neg h]
      apply nxf_congr
      intro i _ _ h1
      have : a.fw d i = false := by
        unfold TA.fw
        rw [decide_eq_false (fun h2 => h (h1.symm.trans h2)), Bool.and_false]
      rw [this, Bool.not_false, Bool.and_true]
/-- the thing goes back step by step -/
theorem tele {a : TA} (I : a.I) {d p : Nat} (hd : d < a.nd) (hst : a.st d = true) (w : Int32) : ∀ (k j : Nat), d ≤ j → j + k = a.nd → sm (fun f => if a.fw d f = true then (if a.gi f = p then w else 0) - (if a.ta f = p then w else 0) else 0) j k = (if a.nx (a.th d) j k = p then w else 0) - (if a.ho (a.th d) = p then w else 0)
  | 0, j, _, _ => by
    rw [sm_0, TA.nx, nxf]
    exact (Int32.sub_self _).symm
  | k + 1, j, h1, h2 => by
    rw [sm_s, tele I hd hst w k (j + 1) (by omega) (by omega)]
    show _ = (if nxf a.st a.th a.gi (a.ho (a.th d)) (a.th d) j (k + 1) = p then w else 0) - _
    rw [nxf]
    by_cases h3 : a.st j = true ∧ a.th j = a.th d
    · have e : a.fw d j = true := by
        unfold TA.fw
        rw [decide_eq_true h1, hst, h3.1, decide_eq_true h3.2]; rfl
      have c := I.ch j (by omega) h3.1
      rw [h3.2, show a.nd - (j + 1) = k by omega] at c
      rw [if_pos e, if_pos h3, c]
      grind
    · have e : a.fw d j = false := by
        unfold TA.fw
        rw [decide_eq_true h1, hst, Bool.true_and, Bool.true_and]
        cases h4 : a.st j
        · rfl
        · rw [Bool.true_and]; exact decide_eq_false (fun h5 => h3 ⟨h4, h5⟩)
      rw [if_neg (by rw [e]; decide), if_neg h3, Int32.zero_add]
      rfl
theorem pu_split (a : TA) (f p : Nat) : a.pu f p = (a.pcf p f - a.oaf p f) + ((if a.gi f = p then a.wo (a.th f) p else 0) - (if a.ta f = p then a.wo (a.th f) p else 0)) := by
  unfold TA.pu TA.pcf TA.oaf
  by_cases h1 : a.gi f = p <;> by_cases h2 : a.ta f = p <;> simp only [h1, h2, ↓reduceIte] <;> grind
theorem sm_sub (f g : Nat → Int32) : ∀ (k j : Nat), sm (fun i => f i - g i) j k = sm f j k - sm g j k
  | 0, _ => by rw [sm_0, sm_0, sm_0]; decide
  | k + 1, j => by
    rw [sm_s, sm_s, sm_s, sm_sub f g k (j + 1)]
    grind
theorem gain_eq {a : TA} (I : a.I) {d p : Nat} (hd : d < a.nd) (hst : a.st d = true) : a.gain d p = a.pc d p - a.owA d p + ((if a.gi d = p then a.wo (a.th d) p else 0) - (if a.ho (a.th d) = p then a.wo (a.th d) p else 0)) := by
  have t := tele I (p := p) hd hst (a.wo (a.th d) p) (a.nd - d) d (Nat.le_refl _) (by omega)
  have e1 : a.nx (a.th d) d (a.nd - d) = a.gi d := by
    rw [show a.nd - d = (a.nd - d - 1) + 1 by omega, TA.nx, nxf, if_pos ⟨hst, rfl⟩]
  rw [e1] at t
  rw [← t]
  unfold TA.gain TA.pc TA.owA
  rw [← sm_sub, ← sm_plus]
  apply sm_congr
  intro i h1 h2
  cases h3 : a.fw d i
  · simp only [Bool.false_eq_true, ↓reduceIte]; decide
  · simp only [↓reduceIte]
    rw [pu_split]
    unfold TA.fw at h3
    simp only [Bool.and_eq_true, decide_eq_true_eq] at h3
    rw [h3.2]
theorem sm_repl (f : Nat → Int32) (v : Int32) {q : Nat} : ∀ (k j : Nat), j ≤ q → q < j + k → sm (fun i => if i = q then v else f i) j k = sm f j k - f q + v
  | 0, j, h1, h2 => absurd h2 (by omega)
  | k + 1, j, h1, h2 => by
    rw [sm_s, sm_s]
    by_cases h : j = q
    · subst h
      rw [if_pos rfl, sm_congr (g := f) k (j + 1) (fun i h3 h4 => if_neg (by omega))]
      grind
    · rw [if_neg h, sm_repl f v k (j + 1) (by omega) (by omega)]
      grind
theorem gain_wealth {a : TA} (I : a.I) {d p : Nat} (hd : d < a.nd) (hst : a.st d = true) : (a.fell d p).wealth p - a.wealth p = a.gain d p := by
  have h1 := I.th d hd
  rw [gain_eq I hd hst]
  have e0 : (a.fell d p).wealth p = _ := s3_wealth a _ _ _ p
  have e1 : sm (fun t => if (if t = a.th d then a.gi d else a.ho t) = p then a.wo t p else 0) 0 a.nt = sm (fun t => if a.ho t = p then a.wo t p else 0) 0 a.nt - (if a.ho (a.th d) = p then a.wo (a.th d) p else 0) + (if a.gi d = p then a.wo (a.th d) p else 0) := by
    rw [← sm_repl (fun t => if a.ho t = p then a.wo t p else 0) (if a.gi d = p then a.wo (a.th d) p else 0) a.nt 0 (Nat.zero_le _) (by omega)]
    apply sm_congr
    intro t _ _
    by_cases h2 : t = a.th d
    · rw [if_pos h2, if_pos h2, h2]
    · rw [if_neg h2, if_neg h2]
  rw [e0, e1, if_pos rfl, ow_self]
  unfold TA.wealth
  grind
section whynot
variable {N : Nat} {G : Nat → Nat → Int32} {J : Nat → Nat → Int64} {a : TA}
theorem RM.cg {T T2 : Nat → Int32} (R : RM T a) (I : a.I) (h : ∀ k, k < 264 → T2 k = T k) : RM T2 a := by
  have h1 := I.nd
  have h2 := I.nt
  exact ⟨(h 0 (by omega)).trans R.li, (h 1 (by omega)).trans R.np, (h 2 (by omega)).trans R.nt, (h 3 (by omega)).trans R.ea, (h 4 (by omega)).trans R.sh, (h 5 (by omega)).trans R.be, (h 6 (by omega)).trans R.mi, (h 7 (by omega)).trans R.nd, fun p hp => (h _ (by omega)).trans (R.co p hp), fun t ht => (h _ (by omega)).trans (R.ho t ht), fun t p ht hp => (h _ (by omega)).trans (R.wo t p ht hp), fun d hd => (h _ (by omega)).trans (R.th d hd), fun d hd => (h _ (by omega)).trans (R.gi d hd), fun d hd => (h _ (by omega)).trans (R.ta d hd), fun d hd => (h _ (by omega)).trans (R.pr d hd), fun d hd => (h _ (by omega)).trans (R.st d hd), fun d hd => (h _ (by omega)).trans (R.wh d hd)⟩
theorem m_copies (hN : 2000 ≤ N) (g : Nat → Nat → Int32) : Ok (p_X6_copies N g) (fun r => (∀ c, c ≠ 1 → r c = g c) ∧ ∀ k, k < 264 → r 1 k = g 0 k) := by
  unfold p_X6_copies
  have e264 : (264 : Int32) = nI 264 := by decide
  refine Ok.l2 (fun n (g1 : Nat → Nat → Int32) x => p_X6_copies_b2 N n g1 x) _ (fun j g1 x => ∃ k, k + j = 264 ∧ x = nI k ∧ (∀ c, c ≠ 1 → g1 c = g c) ∧ ∀ i, i < k → g1 1 i = g 0 i) ?_ N 264 g 0 (by omega) ⟨0, by omega, nI_0.symm, fun _ _ => rfl, fun i hi => absurd hi (Nat.not_lt_zero _)⟩
  intro j g1 x n hs ih
  obtain ⟨k, hk, hx, hg, hq⟩ := hs
  subst hx
  rw [p_X6_copies_b2, e264]
  by_cases h : k = 264
  · subst h
    simp (disch := omega) only [Option.bind_some, jlt_eq, ↓reduceIte, eq_self, jinT, zleT, zleF, zltT, zltF, zeq, zpos, zpos', zcl, zm6, z6, z84, z24, z14, z8, nI_add, zd0, zd1, zd2, zd3, zd4, zd5, bitI_e, bI0, bI1]
    exact Ok.s ⟨hg, hq⟩
  · simp (disch := omega) only [Option.bind_some, jlt_eq, ↓reduceIte, eq_self, jinT, zleT, zleF, zltT, zltF, zeq, zpos, zpos', zcl, zm6, z6, z84, z24, z14, z8, nI_add, zd0, zd1, zd2, zd3, zd4, zd5, bitI_e, bI0, bI1]
    refine ih _ _ (j - 1) (by omega) ⟨k + 1, by omega, rfl, ?_, ?_⟩
    · intro c hc
      rw [jup_n _ _ hc, hg c hc]
    · intro i hi
      rw [jup_s, upd_i]
      by_cases h2 : i = k
      · rw [if_pos h2, h2, hg 0 (by decide)]
      · rw [if_neg h2, hq i (by omega)]
theorem m_cp (hN : 2000 ≤ N) {β : Type} {r t : Nat} (hrt : r ≠ t) {F : (Nat → Nat → Int32) → Option β} {P : β → Prop} (h : ∀ v, (∀ c, c ≠ t → jp2 G r 1 t 1 v c = G c) → (∀ k, k < 264 → jp2 G r 1 t 1 v t k = G r k) → Ok (F v) P) : Ok ((p_X6_copies N (jv2 G r 1 t)).bind F) P := by
  refine Ok.b (m_copies hN (jv2 G r 1 t)) ?_
  intro v hv
  have e0 : jv2 G r 1 t 0 = G r := by unfold jv2; rw [if_pos (by decide)]; rfl
  have v0 : v 0 = G r := (hv.1 0 (by decide)).trans e0
  apply h
  · intro c hc
    unfold jp2 jpt
    by_cases h1 : r ≤ c ∧ c < r + 1
    · have : c = r := by omega
      subst this
      rw [if_neg (by omega), if_pos h1, Nat.sub_self, v0]
    · rw [if_neg (by omega), if_neg h1]
  · intro k hk
    unfold jp2 jpt
    rw [if_pos (by omega), Nat.sub_self]
    show v 1 k = _
    rw [hv.2 k hk, e0]
theorem co_fell_self (a : TA) (d p : Nat) : a.co p + (a.pc d p + a.ow d p p) - (if p = p then a.owA d p else 0) = a.co p + a.pc d p - a.owA d p := by
  rw [if_pos rfl, ow_self, Int32.add_zero]
theorem m_whyNot (hN : 2000 ≤ N) (R : RM (G 1) a) (I : a.I) {d p : Nat} (hd : d < a.nd) (hp : p < a.np) {x : Int64} (hx : x = (nI d).toInt64) : Ok (p_X6_whyNot N G J x (nI p)) (fun r => r.1 = a.whyU d p ∧ RM (r.2 1) a ∧ ∀ c, c ≠ 1 → c ≠ 3 → r.2 c = G c) := by
  have h1 := I.nd
  have h2 := I.np
  have h3 := I.th d hd
  have h4 := I.nt
  have e0 : x.toInt32 = nI d := by rw [hx, nI_l (by omega), lN_i]
  have e1 : p_X6_isDeed N G J x = some (bI true) := by rw [hx, m_isDeed R I (by omega), decide_eq_true hd]
  unfold p_X6_whyNot
  rw [e0, e1, m_of4 R I.nd hd, m_isOf R I hd (by omega), m_hasRung R, m_of0 R I.nd hd]
  simp only [Option.bind_some]
  rw [m_isEaten R (by omega)]
  unfold TA.whyU
  cases hst : a.st d
  · exact Ok.s ⟨rfl, R, fun _ _ _ => rfl⟩
  cases hof : a.isOf d p
  · exact Ok.s ⟨rfl, R, fun _ _ _ => rfl⟩
  cases hru : a.rung
  · cases he : a.eat (a.th d)
    · simp only [Bool.false_eq_true, ↓reduceIte, bI0, Option.bind_some, Bool.true_eq_false]
      refine m_cp hN (r := 1) (t := 3) (by decide) ?_
      intro v2 hg hk
      simp only [jlt_eq]
      generalize jp2 G 1 1 3 1 v2 = G2 at hg hk ⊢
      have R2 : RM (G2 1) a := by rw [hg 1 (by decide)]; exact R
      refine Ok.b (m_undoes hN R2 I hd hp hst) ?_
      rintro ⟨v, G3⟩ ⟨_, R3, hc⟩
      have c1 : G3 1 (8 + p) = a.co p + a.pc d p - a.owA d p := (R3.co3 (show p < 6 by omega)).trans (co_fell_self a d p)
      simp (disch := omega) only [Option.bind_some, jlt_eq, ↓reduceIte, eq_self, jinT, zleT, zleF, zltT, zltF, zeq, zpos, zpos', zcl, zm6, z6, z84, z24, z14, z8, nI_add, zd0, zd1, zd2, zd3, zd4, zd5, bitI_e, bI0, bI1, c1]
      refine m_cp hN (r := 3) (t := 1) (by decide) ?_
      intro v4 hg4 hk4
      generalize jp2 G3 3 1 1 1 v4 = G4 at hg4 hk4 ⊢
      have R4 : RM (G4 1) a := R.cg I (fun k hk' => by
        exact ((hk4 k hk').trans (congrFun (hc 3 (by decide)) k)).trans (hk k hk'))
      have o : ∀ c, c ≠ 1 → c ≠ 3 → G4 c = G c := fun c h1 h3 => ((hg4 c h1).trans (hc c h1)).trans (hg c h3)
      by_cases h : 0 ≤ a.co p + a.pc d p - a.owA d p
      · rw [if_pos h, if_pos h]; exact Ok.s ⟨rfl, R4, o⟩
      · rw [if_neg h, if_neg h]; exact Ok.s ⟨rfl, R4, o⟩
    · exact Ok.s ⟨rfl, R, fun _ _ _ => rfl⟩
  · exact Ok.s ⟨rfl, R, fun _ _ _ => rfl⟩
theorem m_gainOf (hN : 2000 ≤ N) (R : RM (G 1) a) (I : a.I) {d p : Nat} (hd : d < a.nd) (hp : p < a.np) (hst : a.st d = true) : Ok (p_X6_gainOf N G J (nI d) (nI p)) (fun r => r.1 = a.gain d p ∧ RM (r.2 1) a ∧ ∀ c, c ≠ 1 → c ≠ 3 → r.2 c = G c) := by
  unfold p_X6_gainOf
  refine m_cp hN (r := 1) (t := 3) (by decide) ?_
  intro v2 hg hk
  simp only [jlt_eq]
  generalize jp2 G 1 1 3 1 v2 = G2 at hg hk ⊢
  have R2 : RM (G2 1) a := by rw [hg 1 (by decide)]; exact R
  rw [m_wealth hN R2 I hp, Option.bind_some]
  refine Ok.b (m_undoes hN R2 I hd hp hst) ?_
  rintro ⟨v, G3⟩ ⟨_, R3, hc⟩
  try simp only [jlt_eq]
  have w : p_X6_wealth N G3 J (nI p) = some ((a.fell d p).wealth p) := m_wealth hN R3 (I.fell hd hst) (by rw [fell_np]; exact hp)
  rw [w, Option.bind_some]
  refine m_cp hN (r := 3) (t := 1) (by decide) ?_
  intro v4 hg4 hk4
  generalize jp2 G3 3 1 1 1 v4 = G4 at hg4 hk4 ⊢
  refine Ok.s ⟨gain_wealth I hd hst, R.cg I (fun k hk' => ((hk4 k hk').trans (congrFun (hc 3 (by decide)) k)).trans (hk k hk')), fun c h1 h3 => ((hg4 c h1).trans (hc c h1)).trans (hg c h3)⟩
end whynot

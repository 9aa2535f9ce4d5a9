/-! perform, judge -/
section told
variable {N : Nat} {G G2 : Nat → Nat → Int32} {J J2 : Nat → Nat → Int64} {a : TA} {s s2 : SA} {xs : Nat → Int32} {i : Int32}
theorem jv2_lo {α : Type} {G : Nat → α} {r u t c : Nat} (h : c < u) : jv2 G r u t c = G (r + c) := by unfold jv2; rw [if_pos h]
theorem jv2_hi {α : Type} {G : Nat → α} {r u t c : Nat} : jv2 G r u t (u + c) = G (t + c) := by unfold jv2; rw [if_neg (by omega), Nat.add_sub_cancel_left]
/-- told undoings on the town at r, from the tray at t -/
theorem x_doT (hN : 2000 ≤ N) {r0 t m : Nat} {r : Nat → Int64} (hrt : r0 + 9 ≤ t) (R : RC (jvw G r0) a) (I : a.I) (hm : m ≤ 40) (h1 : G t 1 = nI m) (hr : ∀ k, k < 40 → J (t + 1) k = r k) : Ok (p_X5_doTold N (jv2 G r0 9 t) (jv2 J r0 9 t)) (fun o => o.1 = nI (TA.tol m r m 0 a).1 ∧ RC (jvw (jp2 G r0 9 t 2 o.2) r0) (TA.tol m r m 0 a).2 ∧ ∀ c, (c < r0 ∨ r0 + 9 ≤ c) → jp2 G r0 9 t 2 o.2 c = G c) := by
  unfold p_X5_doTold
  have R2 : RC (jv2 G r0 9 t) a := R.cg (fun c hc => jv2_lo hc)
  have e9 : jv2 G r0 9 t 9 1 = nI m := by
    have : jv2 G r0 9 t (9 + 0) = G (t + 0) := jv2_hi
    show jv2 G r0 9 t (9 + 0) 1 = _
    rw [this]; exact h1
  have e10 : ∀ k, k < 40 → jv2 J r0 9 t 10 k = r k := fun k hk => by
    have : jv2 J r0 9 t (9 + 1) = J (t + 1) := jv2_hi
    show jv2 J r0 9 t (9 + 1) k = _
    rw [this]; exact hr k hk
  refine (x_tol hN hm e10 m 0 N (jv2 G r0 9 t) a I R2 e9 (by omega) (by omega)).c ?_
  rintro ⟨w, g⟩ ⟨o1, o2, o3⟩
  refine ⟨o1, o2.cg (fun c hc => ?_), fun c hc => ?_⟩
  · show jp2 G r0 9 t 2 g (r0 + c) = g c
    unfold jp2
    rw [jpt_o (by omega), jpt_i hc]
  · show jp2 G r0 9 t 2 g c = G c
    unfold jp2
    by_cases h : t ≤ c ∧ c < t + 2
    · obtain ⟨d, rfl⟩ : ∃ d, c = t + d := ⟨c - t, by omega⟩
      rw [jpt_i (by omega), show g (9 + d) = _ from o3 (9 + d) (by omega)]
      exact jv2_hi
    · rw [jpt_o (by omega), jpt_o hc]
theorem x_perf (hN : 2000 ≤ N) (X : CX G J s) (I : s.I) {q so m : Nat} {r : Nat → Int64} (hq : q < 4) (hs : s.tr q = some (so, m, r)) : Ok (p_X5_perform N G J (nI q)) (fun o => ∃ G2, o = .inr (nI (TA.tol m r m 0 s.now).1, G2) ∧ CX G2 J (s.to (TA.tol m r m 0 s.now).2)) := by
  obtain ⟨_, t1, _, t3⟩ := X.trS q so m r hq hs
  have hm := (I.tr q so m r hs).2
  have key : ∀ t, t = 62 + 2 * q → Ok ((p_X5_doTold N (jv2 G 1 9 t) (jv2 J 1 9 t)).bind (fun v4 => jlt (jp2 G 1 9 t 2 v4.2) fun G5 => some (Sum.inr (v4.1, G5) : Nat ⊕ (Int32 × (Nat → Nat → Int32))))) (fun o => ∃ G2, o = .inr (nI (TA.tol m r m 0 s.now).1, G2) ∧ CX G2 J (s.to (TA.tol m r m 0 s.now).2)) := by
    intro t ht
    subst ht
    refine Ok.b (x_doT hN (by omega) X.now I.now hm t1 t3) ?_
    rintro ⟨w, g⟩ ⟨o1, o2, o3⟩
    have o4 : w = nI (TA.tol m r m 0 s.now).1 := o1
    subst o4
    exact Ok.s ⟨_, rfl, X.k o2 ⟨fun i _ => by rw [o3 22 (by omega)], fun c hc => o3 c (by omega)⟩ (fun _ _ => rfl) rfl⟩
  unfold p_X5_perform
  rw [x_trS X hq hs, jbx_r]
  rcases (by omega : q = 0 ∨ q = 1 ∨ q = 2 ∨ q = 3) with h | h | h | h <;> subst h
  · rw [if_pos rfl]; exact key 62 rfl
  · rw [if_neg (by decide), if_pos rfl]; exact key 64 rfl
  · rw [if_neg (by decide), if_neg (by decide), if_pos rfl]; exact key 66 rfl
  · rw [if_neg (by decide), if_neg (by decide), if_neg (by decide), if_pos rfl]; exact key 68 rfl
theorem case_17 (hN : 2000 ≤ N) (hL : LR G J s) : Ok (p_case_17 N xs G J i) (fun r => ∃ s, LR r.1 r.2 s) := by
  have X := hL.1.w
  unfold p_case_17 p_L_perform
  generalize xs (i + 1).toNatClampNeg = x
  by_cases hx : ∃ q, q < 4 ∧ x = nI q
  · obtain ⟨q, hq, rfl⟩ := hx
    cases hs : s.tr q with
    | none =>
      refine k_M hL (m := fun g j => p_X6_perform N g j (nI q)) 2 0 s hL.2.2 (Or.inr ⟨2, ?_, by decide, rfl, rfl⟩) ?_
      · unfold p_X5_perform
        rw [x_trN X hq hs, jbx_l]
      · intro g j M
        unfold p_X6_perform
        rw [m_trN M hq hs, Option.bind_some, jlt_eq, if_neg (by rw [e05]; decide)]
        have b := MB.o (k := 2) (v := 0) (w := 0) M.now (fun h => absurd h i20)
        exact Ok.s ⟨b.1, b.2.1, M.k b.2.2.2 b.2.2.1 rfl (SA.eta s)⟩
    | some z =>
      obtain ⟨so, m, r⟩ := z
      have hm := (hL.2.2.tr q so m r hs).2
      obtain ⟨o, e1, G1, e2, e3⟩ := x_perf hN X hL.2.2 hq hs
      refine k_M hL (m := fun g j => p_X6_perform N g j (nI q)) 0 (nI (TA.tol m r m 0 s.now).1) (s.to (TA.tol m r m 0 s.now).2) (hL.2.2.to (tol_I m 0 _ hL.2.2.now)) (Or.inl ⟨G1, ?_, rfl, e3⟩) ?_
      · rw [e1, e2]
      · intro g j M
        obtain ⟨_, t1, t3⟩ := M.trS q so m r hq hs
        unfold p_X6_perform p_X6_goesBy
        rw [m_trS M hL.2.2 hq hs, Option.bind_some, jlt_eq, if_pos (by rw [e05]; decide)]
        refine Ok.b (m_tol hN hq hm t3 m 0 N (jup g 0 5 0) s.now hL.2.2.now (thrR M.now 0) (by rw [jup_n _ _ (by decide)]; exact t1) (by omega) (by omega)) ?_
        rintro ⟨w, g2⟩ ⟨o1, o2, o3⟩
        refine Ok.s ⟨fun _ => o1, ?_, M.k o2 ((KM.thr 0).trans (KM.of13 o3)) rfl rfl⟩
        show g2 0 5 = 0
        rw [show g2 0 = _ from o3 0 (by decide) (by decide), e05]
  · refine k_M hL (m := fun g j => p_X6_perform N g j x) 1 0 s hL.2.2 (Or.inr ⟨1, ?_, by decide, rfl, rfl⟩) ?_
    · unfold p_X5_perform
      rw [x_trF hx, jbx_l]
    · intro g j M
      unfold p_X6_perform
      rw [m_trF hx, Option.bind_some, jlt_eq, if_neg (by rw [e05]; decide)]
      have b := MB.o (k := 1) (v := 0) (w := 0) M.now (fun h => absurd h i10)
      exact Ok.s ⟨b.1, b.2.1, M.k b.2.2.2 b.2.2.1 rfl (SA.eta s)⟩
/-- judge -/
def TA.jud (a : TA) (m : Nat) (r : Nat → Int64) (x : Int32) : Int32 := if x = 2 then (TA.tol m r m 0 a).2.stands else if (TA.tol m r m 0 a).1 = m then (if x = 0 then -1 else 0) else (if x = 0 then nI (TA.tol m r m 0 a).1 else (TA.tol m r m 0 a).2.whyT (r (TA.tol m r m 0 a).1))
theorem tol_le {m : Nat} {r : Nat → Int64} {a : TA} : (TA.tol m r m 0 a).1 ≤ m := by
  rcases tol_end (m := m) (r := r) m 0 a (by omega) with h | h
  · omega
  · omega
theorem x_judB (hN : 2000 ≤ N) (X : CX G J s) (I : s.I) {q so m t : Nat} {r : Nat → Int64} {x : Int32} (hq : q < 4) (hs : s.tr q = some (so, m, r)) (ht : t = 62 + 2 * q) : Ok ((p_X3_copyFrom N (jv2 G 10 9 1)).bind (fun v4 => jlt (jp2 G 10 9 1 9 v4) fun G5 => (p_X5_doTold N (jv2 G5 10 9 t) (jv2 J 10 9 t)).bind (fun v8 => jlt (jp2 G5 10 9 t 2 v8.2) fun G9 => if x = (2 : Int32) then ((p_J6_bitCount_0f7a4 N (G9 10 8)).bind (fun v18 => some (Sum.inr (v18, G9) : Nat ⊕ (Int32 × (Nat → Nat → Int32))))) else (if v8.1 = (G9 t 1) then (if x = 0 then (some (.inr ((-1 : Int32), G9))) else (some (.inr ((0 : Int32), G9)))) else (if x = 0 then (some (.inr (v8.1, G9))) else (if jin v8.1 40 = true then (p_X5_whyNoTold N (jvw G9 10) (J (t + 1) v8.1.toNatClampNeg)).bind (fun v13 => some (.inr (v13, G9))) else none)))))) (fun o => ∃ G2, o = .inr (s.now.jud m r x, G2) ∧ CX G2 J s) := by
  subst ht
  obtain ⟨_, t1, _, t3⟩ := X.trS q so m r hq hs
  have hm := (I.tr q so m r hs).2
  refine Ok.b (x_cpy (G := G) (r := 10) (t := 1) (Or.inr (by omega)) X.now I.now) ?_
  rintro v ⟨v1, v2⟩
  rw [jlt_eq]
  generalize jp2 G 10 9 1 9 v = G5 at v1 v2 ⊢
  refine Ok.b (x_doT hN (by omega) v1 I.now hm (by rw [v2 _ (by omega)]; exact t1) t3) ?_
  rintro ⟨w, g⟩ ⟨o1, o2, o3⟩
  have o4 : w = nI (TA.tol m r m 0 s.now).1 := o1
  subst o4
  rw [jlt_eq]
  dsimp only at o2 o3 ⊢
  generalize jp2 G5 10 9 (62 + 2 * q) 2 g = G9 at o2 o3 ⊢
  have gk : ∀ c, (c < 10 ∨ 19 ≤ c) → G9 c = G c := fun c hc => (o3 c (by omega)).trans (v2 c (by omega))
  have hX : CX G9 J s := X.k (X.now.cg (fun c hc => gk (1 + c) (by omega))) ⟨fun i _ => by rw [gk 22 (by omega)], fun c hc => gk c (by omega)⟩ (fun _ _ => rfl) (SA.eta s)
  have It := tol_I (m := m) (r := r) m 0 _ I.now
  have hle := tol_le (m := m) (r := r) (a := s.now)
  have g1 : G9 (62 + 2 * q) 1 = nI m := by rw [gk _ (by omega)]; exact t1
  unfold TA.jud
  by_cases x2 : x = 2
  · have e8 : pop (G9 10 8) = (TA.tol m r m 0 s.now).2.stands := pop_st (G := jvw G9 10) o2 It
    rw [if_pos x2, if_pos x2, x_bitCount, e8]
    exact Ok.s ⟨G9, rfl, hX⟩
  · rw [if_neg x2, if_neg x2, g1]
    by_cases hd : (TA.tol m r m 0 s.now).1 = m
    · rw [if_pos (by rw [hd]), if_pos hd]
      by_cases x0 : x = 0
      · rw [if_pos x0, if_pos x0]; exact Ok.s ⟨G9, rfl, hX⟩
      · rw [if_neg x0, if_neg x0]; exact Ok.s ⟨G9, rfl, hX⟩
    · rw [if_neg (fun e => hd ((nI_eq (by omega) (by omega)).mp e)), if_neg hd]
      by_cases x0 : x = 0
      · rw [if_pos x0, if_pos x0]; exact Ok.s ⟨G9, rfl, hX⟩
      · rw [if_neg x0, if_neg x0, if_pos (jinT (by omega) (by omega)), zcl (by omega), t3 _ (by omega), x_whyT hN o2 It]
        exact Ok.s ⟨G9, rfl, hX⟩
theorem x_jud (hN : 2000 ≤ N) (X : CX G J s) (I : s.I) {q so m : Nat} {r : Nat → Int64} {x : Int32} (hq : q < 4) (hs : s.tr q = some (so, m, r)) (h0 : ¬ x < 0) (h2 : x ≤ 2) : Ok (p_X5_judge N G J (nI q) x) (fun o => ∃ G2, o = .inr (s.now.jud m r x, G2) ∧ CX G2 J s) := by
  unfold p_X5_judge
  rw [x_trS X hq hs, jbx_r]
  rcases (by omega : q = 0 ∨ q = 1 ∨ q = 2 ∨ q = 3) with h | h | h | h <;> subst h
  · rw [if_pos rfl, if_neg h0, if_pos h2]; exact x_judB hN X I (q := 0) hq hs rfl
  · rw [if_neg (by decide), if_pos rfl, if_neg h0, if_pos h2]; exact x_judB hN X I (q := 1) hq hs rfl
  · rw [if_neg (by decide), if_neg (by decide), if_pos rfl, if_neg h0, if_pos h2]; exact x_judB hN X I (q := 2) hq hs rfl
  · rw [if_neg (by decide), if_neg (by decide), if_neg (by decide), if_pos rfl, if_neg h0, if_pos h2]; exact x_judB hN X I (q := 3) hq hs rfl
theorem m_cp7 (hN : 2000 ≤ N) {β : Type} {F : (Nat → Nat → Int32) → Option β} {P : β → Prop} {r t : Nat} (hrt : r ≠ t) (h : ∀ v, (∀ c, c ≠ t → jp2 G r 1 t 1 v c = G c) → (∀ k, k < 264 → jp2 G r 1 t 1 v t k = G r k) → Ok (F v) P) : Ok ((p_X6_copies N (jv2 G r 1 t)).bind F) P := m_cp hN hrt h
theorem m_jud (hN : 2000 ≤ N) (M : CM G J s) (I : s.I) (h5 : G 0 5 = 0) {q so m : Nat} {r : Nat → Int64} {x : Int32} (hq : q < 4) (hs : s.tr q = some (so, m, r)) (hx : x = 0 ∨ x = 1 ∨ x = 2) : Ok (p_X6_judge_b33 N J G (nI q) x) (fun o => o.1 = s.now.jud m r x ∧ o.2 0 5 = 0 ∧ CM o.2 J s) := by
  obtain ⟨_, t1, t3⟩ := M.trS q so m r hq hs
  have hm := (I.tr q so m r hs).2
  have It := tol_I (m := m) (r := r) m 0 _ I.now
  have hle := tol_le (m := m) (r := r) (a := s.now)
  unfold p_X6_judge_b33 p_X6_goesBy
  rw [if_pos (by rw [h5]; decide)]
  refine m_cp hN (r := 1) (t := 7) (by decide) ?_
  intro v hg hk
  rw [jlt_eq]
  generalize jp2 G 1 1 7 1 v = G7 at hg hk ⊢
  refine Ok.b (m_tol hN hq hm t3 m 0 N G7 s.now I.now (by rw [hg 1 (by decide)]; exact M.now) (by rw [hg 13 (by decide)]; exact t1) (by omega) (by omega)) ?_
  rintro ⟨w, G11⟩ ⟨o1, o2, o3⟩
  have o4 : w = nI (TA.tol m r m 0 s.now).1 := o1
  subst o4
  dsimp only at o2 o3 ⊢
  have k7 : ∀ c, c ≠ 1 → c ≠ 3 → c ≠ 7 → G11 c = G c := fun c c1 c3 c7 => (o3 c c1 c3).trans (hg c c7)
  have k77 : ∀ k, k < 264 → G11 7 k = G 1 k := fun k hk' => (congrFun (o3 7 (by decide) (by decide)) k).trans (hk k hk')
  have g13 : G11 13 q = nI m := by rw [k7 13 (by decide) (by decide) (by decide)]; exact t1
  rw [jlt_eq, if_pos (jinT hq (by omega)), zcl (by omega), g13]
  -- the end: told is put back
  have fin : ∀ G17 : Nat → Nat → Int32, (∀ c, c ≠ 1 → c ≠ 3 → c ≠ 7 → G17 c = G c) → (∀ k, k < 264 → G17 7 k = G 1 k) → ∀ v22 : Nat → Nat → Int32, (∀ c, c ≠ 1 → jp2 G17 7 1 1 1 v22 c = G17 c) → (∀ k, k < 264 → jp2 G17 7 1 1 1 v22 1 k = G17 7 k) → jp2 G17 7 1 1 1 v22 0 5 = 0 ∧ CM (jp2 G17 7 1 1 1 v22) J s := by
    intro G17 k17 k177 v22 w1 w2
    generalize jp2 G17 7 1 1 1 v22 = G23 at w1 w2 ⊢
    have kc : ∀ c, c ≠ 1 → c ≠ 3 → c ≠ 7 → G23 c = G c := fun c c1 c3 c7 => (w1 c c1).trans (k17 c c1 c3 c7)
    refine ⟨by rw [kc 0 (by decide) (by decide) (by decide)]; exact h5, M.k (M.now.cg I.now (fun k hk' => (w2 k hk').trans (k177 k hk'))) ⟨fun i _ => by rw [kc 0 (by decide) (by decide) (by decide)], fun c hc => kc c (by omega) (by omega) (by omega)⟩ rfl (SA.eta s)⟩
  have i12 : ¬ (1 : Int32) = 2 := by decide
  have i02 : ¬ (0 : Int32) = 2 := by decide
  have i21 : ¬ (2 : Int32) = 1 := by decide
  unfold TA.jud
  by_cases hd : (TA.tol m r m 0 s.now).1 = m
  · rw [if_pos (by rw [hd]), if_pos hd]
    unfold p_X6_judge_b88
    rw [m_standMany hN o2 It, Option.bind_some]
    refine m_cp hN (r := 7) (t := 1) (by decide) ?_
    intro v22 w1 w2
    obtain ⟨f1, f2⟩ := fin G11 k7 k77 v22 w1 w2
    rw [jlt_eq]
    rcases hx with hx | hx | hx <;> subst hx
    · rw [if_pos rfl, if_pos rfl, if_neg i02, if_pos rfl]; exact Ok.s ⟨rfl, f1, f2⟩
    · rw [if_neg i10, if_pos rfl, if_neg i12, if_neg i10]; exact Ok.s ⟨rfl, f1, f2⟩
    · rw [if_neg i20, if_neg i21, if_pos rfl]; exact Ok.s ⟨rfl, f1, f2⟩
  · have hne : (TA.tol m r m 0 s.now).2.whyT (r (TA.tol m r m 0 s.now).1) ≠ 0 := by
      rcases tol_end (m := m) (r := r) m 0 s.now (by omega) with h | h
      · exact absurd h hd
      · exact h.2
    rw [if_neg (fun e => hd ((nI_eq (by omega) (by omega)).mp e)), if_neg hd, z40, if_pos (jinT (by omega) (by omega)), zcl (by omega), t3 _ (by omega)]
    refine Ok.b (m_whyT hN o2 It _) ?_
    rintro ⟨u, G17⟩ ⟨u1, u2, u3⟩
    have u4 : u = (TA.tol m r m 0 s.now).2.whyT (r (TA.tol m r m 0 s.now).1) := u1
    subst u4
    dsimp only at u2 u3 ⊢
    rw [jlt_eq, m_standMany hN u2 It, Option.bind_some]
    refine m_cp hN (r := 7) (t := 1) (by decide) ?_
    intro v22 w1 w2
    obtain ⟨f1, f2⟩ := fin G17 (fun c c1 c3 c7 => (u3 c c1 c3).trans (k7 c c1 c3 c7)) (fun k hk' => (congrFun (u3 7 (by decide) (by decide)) k).trans (k77 k hk')) v22 w1 w2
    rw [jlt_eq]
    rcases hx with hx | hx | hx <;> subst hx
    · rw [if_pos rfl, if_neg hne, if_neg i02, if_pos rfl]; exact Ok.s ⟨rfl, f1, f2⟩
    · rw [if_neg i10, if_pos rfl, if_neg i12, if_neg i10]; exact Ok.s ⟨rfl, f1, f2⟩
    · rw [if_neg i20, if_neg i21, if_pos rfl]; exact Ok.s ⟨rfl, f1, f2⟩
theorem case_16 (hN : 2000 ≤ N) (hL : LR G J s) : Ok (p_case_16 N xs G J i) (fun r => ∃ s, LR r.1 r.2 s) := by
  have X := hL.1.w
  unfold p_case_16 p_L_judge
  generalize xs (i + 1).toNatClampNeg = x
  generalize xs (i + 2).toNatClampNeg = y
  have ty : y.toInt64.toInt = y.toInt := Int32.toInt_toInt64 y
  have e0 : (y < 0) = (y.toInt < 0) := propext (Int32.lt_iff_toInt_lt.trans (by rfl))
  have e2 : (y ≤ 2) = (y.toInt ≤ 2) := propext (Int32.le_iff_toInt_le.trans (by rfl))
  by_cases hx : ∃ q, q < 4 ∧ x = nI q
  · obtain ⟨q, hq, rfl⟩ := hx
    cases hs : s.tr q with
    | none =>
      refine k_M hL (m := fun g j => p_X6_judge N g j (nI q) y) 2 0 s hL.2.2 (Or.inr ⟨2, ?_, by decide, rfl, rfl⟩) ?_
      · unfold p_X5_judge
        rw [x_trN X hq hs, jbx_l]
      · intro g j M
        unfold p_X6_judge p_X6_judge_b33
        rw [m_trN M hq hs, Option.bind_some, jlt_eq, if_neg (by rw [e05]; decide), if_neg (by rw [e05]; decide)]
        have b := MB.o (k := 2) (v := 0) (w := 0) M.now (fun h => absurd h i20)
        exact Ok.s ⟨b.1, b.2.1, M.k b.2.2.2 b.2.2.1 rfl (SA.eta s)⟩
    | some z =>
      obtain ⟨so, m, r⟩ := z
      by_cases hy : 0 ≤ y.toInt ∧ y.toInt ≤ 2
      · obtain ⟨o, f1, G1, f2, f3⟩ := x_jud hN X hL.2.2 (x := y) hq hs (by rw [e0]; omega) (by rw [e2]; omega)
        refine k_M hL (m := fun g j => p_X6_judge N g j (nI q) y) 0 (s.now.jud m r y) s hL.2.2 (Or.inl ⟨G1, ?_, rfl, f3⟩) ?_
        · rw [f1, f2]
        · intro g j M
          unfold p_X6_judge
          rw [m_trS M hL.2.2 hq hs, Option.bind_some, jlt_eq, if_pos (by rw [e05]), w_t (by rw [w_0, L2, ty]; exact hy), Option.bind_some, if_neg i10]
          have hy3 : y = 0 ∨ y = 1 ∨ y = 2 := by
            rcases (by omega : y.toInt = 0 ∨ y.toInt = 1 ∨ y.toInt = 2) with h | h | h
            · exact Or.inl (ii0 h)
            · exact Or.inr (Or.inl (ii1 h))
            · exact Or.inr (Or.inr (ii2 h))
          refine (m_jud hN (M.k (J2 := j) (thrR M.now 0) (KM.thr 0) rfl (SA.eta s)) hL.2.2 (e05 0) hq hs hy3).c ?_
          rintro o ⟨o1, o2, o3⟩
          exact ⟨fun _ => o1, o2, o3⟩
      · refine k_M hL (m := fun g j => p_X6_judge N g j (nI q) y) 3 0 s hL.2.2 (Or.inr ⟨3, ?_, by decide, rfl, rfl⟩) ?_
        · unfold p_X5_judge p_X5_judge_b15
          rw [x_trS X hq hs, jbx_r]
          have b : ∀ α : Type, ∀ u w : α, (if y < 0 then u else if y ≤ 2 then w else u) = u := by
            intro α u w
            by_cases h : y < 0
            · rw [if_pos h]
            · rw [if_neg h, if_neg (by rw [e2]; rw [e0] at h; omega)]
          rcases (by omega : q = 0 ∨ q = 1 ∨ q = 2 ∨ q = 3) with h | h | h | h <;> subst h
          · rw [if_pos rfl, b]
          · rw [if_neg (by decide), if_pos rfl, b]
          · rw [if_neg (by decide), if_neg (by decide), if_pos rfl, b]
          · rw [if_neg (by decide), if_neg (by decide), if_neg (by decide), if_pos rfl, b]
        · intro g j M
          unfold p_X6_judge p_X6_judge_b33
          rw [m_trS M hL.2.2 hq hs, Option.bind_some, jlt_eq, if_pos (by rw [e05]), w_f (by rw [w_0, L2, ty]; exact hy), Option.bind_some, if_pos rfl, jlt_eq, if_neg (by rw [e05]; decide)]
          have b := MB.f (k := 3) (v := 0) (w := 0) (x := 0) M.now (fun h => absurd h i30)
          exact Ok.s ⟨b.1, b.2.1, M.k b.2.2.2 b.2.2.1 rfl (SA.eta s)⟩
  · refine k_M hL (m := fun g j => p_X6_judge N g j x y) 1 0 s hL.2.2 (Or.inr ⟨1, ?_, by decide, rfl, rfl⟩) ?_
    · unfold p_X5_judge
      rw [x_trF hx, jbx_l]
    · intro g j M
      unfold p_X6_judge p_X6_judge_b33
      rw [m_trF hx, Option.bind_some, jlt_eq, if_neg (by rw [e05]; decide), if_neg (by rw [e05]; decide)]
      have b := MB.o (k := 1) (v := 0) (w := 0) M.now (fun h => absurd h i10)
      exact Ok.s ⟨b.1, b.2.1, M.k b.2.2.2 b.2.2.1 rfl (SA.eta s)⟩
end told

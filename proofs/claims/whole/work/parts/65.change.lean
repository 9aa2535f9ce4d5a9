/-! calls that change the town -/
def SA.to (s : SA) (a : TA) : SA := SA.mk a s.im s.tp s.ln s.wr s.pl s.tr
theorem SA.I.to {s : SA} {a : TA} (I : s.I) (h : a.I) : (s.to a).I := ⟨h, I.im, I.ln, I.tp, I.tr⟩
def TA.set5 (a : TA) (ea sh mi : Int32) : TA := TA.mk a.li a.np a.nt ea sh a.be mi a.nd a.co a.ho a.wo a.th a.gi a.ta a.pr a.wh a.st
theorem TA.I.set5 {a : TA} {ea sh mi : Int32} (I : a.I) (h1 : 0 ≤ sh.toInt ∧ sh.toInt ≤ 100) (h2 : 0 ≤ mi.toInt ∧ mi.toInt ≤ 1000) : (a.set5 ea sh mi).I := ⟨I.np, I.nt, I.nd, I.ho, I.th, I.gi, I.ta, I.gt, I.pr, I.wo, h1, h2, I.st, I.ch⟩
def TA.morn (a : TA) : TA := TA.mk a.li a.np a.nt a.ea a.sh a.be 0 0 a.co a.ho a.wo a.th a.gi a.ta a.pr a.wh (fun _ => false)
theorem TA.I.morn {a : TA} (I : a.I) : a.morn.I := ⟨I.np, I.nt, Nat.zero_le _, I.ho, fun _ h => absurd h (Nat.not_lt_zero _), fun _ h => absurd h (Nat.not_lt_zero _), fun _ h => absurd h (Nat.not_lt_zero _), fun _ h => absurd h (Nat.not_lt_zero _), fun _ h => absurd h (Nat.not_lt_zero _), I.wo, I.sh, (show 0 ≤ (0 : Int32).toInt ∧ (0 : Int32).toInt ≤ 1000 by decide), fun _ h => absurd (show false = true from h) (by decide), fun _ h => absurd h (Nat.not_lt_zero _)⟩
section change
variable {N : Nat} {G G2 : Nat → Nat → Int32} {J J2 : Nat → Nat → Int64} {a : TA} {s s2 : SA} {xs : Nat → Int32} {i : Int32}
theorem RC.set5 {g g2 : Nat → Nat → Int32} {ea sh mi : Int32} (R : RC g a) (h3 : g2 0 3 = ea) (h4 : g2 0 4 = sh) (h6 : g2 0 6 = mi) (h0 : ∀ k, k ≠ 3 → k ≠ 4 → k ≠ 6 → g2 0 k = g 0 k) (hc : ∀ c, 1 ≤ c → c < 9 → g2 c = g c) : RC g2 (a.set5 ea sh mi) := by
  have k1 := hc 1 (by omega) (by omega)
  have k2 := hc 2 (by omega) (by omega)
  have k3 := hc 3 (by omega) (by omega)
  have k4 := hc 4 (by omega) (by omega)
  have k5 := hc 5 (by omega) (by omega)
  have k6 := hc 6 (by omega) (by omega)
  have k7 := hc 7 (by omega) (by omega)
  have k8 := hc 8 (by omega) (by omega)
  exact ⟨(h0 0 (by omega) (by omega) (by omega)).trans R.li, (h0 1 (by omega) (by omega) (by omega)).trans R.np, (h0 2 (by omega) (by omega) (by omega)).trans R.nt, h3, h4, (h0 5 (by omega) (by omega) (by omega)).trans R.be, h6, (h0 7 (by omega) (by omega) (by omega)).trans R.nd, by rw [h0 8 (by omega) (by omega) (by omega)]; exact R.st, by rw [k1]; exact R.co, by rw [k2]; exact R.ho, by rw [k3]; exact R.wo, by rw [k4]; exact R.th, by rw [k5]; exact R.gi, by rw [k6]; exact R.ta, by rw [k7]; exact R.pr, by rw [k8]; exact R.wh⟩
theorem RM.set5 {T T2 : Nat → Int32} {ea sh mi : Int32} (R : RM T a) (h3 : T2 3 = ea) (h4 : T2 4 = sh) (h6 : T2 6 = mi) (h : ∀ k, k ≠ 3 → k ≠ 4 → k ≠ 6 → T2 k = T k) : RM T2 (a.set5 ea sh mi) :=
  ⟨(h 0 (by omega) (by omega) (by omega)).trans R.li, (h 1 (by omega) (by omega) (by omega)).trans R.np, (h 2 (by omega) (by omega) (by omega)).trans R.nt, h3, h4, (h 5 (by omega) (by omega) (by omega)).trans R.be, h6, (h 7 (by omega) (by omega) (by omega)).trans R.nd, fun p hp => (h _ (by omega) (by omega) (by omega)).trans (R.co p hp), fun t ht => (h _ (by omega) (by omega) (by omega)).trans (R.ho t ht), fun t p ht hp => (h _ (by omega) (by omega) (by omega)).trans (R.wo t p ht hp), fun d hd => (h _ (by omega) (by omega) (by omega)).trans (R.th d hd), fun d hd => (h _ (by omega) (by omega) (by omega)).trans (R.gi d hd), fun d hd => (h _ (by omega) (by omega) (by omega)).trans (R.ta d hd), fun d hd => (h _ (by omega) (by omega) (by omega)).trans (R.pr d hd), fun d hd => (h _ (by omega) (by omega) (by omega)).trans (R.st d hd), fun d hd => (h _ (by omega) (by omega) (by omega)).trans (R.wh d hd)⟩
theorem jp2_a {α : Type} {G G1 : Nat → α} {c : Nat} (h : c < 70) : jp2 G 0 70 85 1 G1 c = G1 c := by
  unfold jp2
  rw [jpt_o (by omega), show c = 0 + c by omega, jpt_i h, Nat.zero_add]
theorem jp2_b {α : Type} {G G1 : Nat → α} {c : Nat} (h : 70 ≤ c) (h2 : c ≠ 85) : jp2 G 0 70 85 1 G1 c = G c := by
  unfold jp2
  rw [jpt_o (by omega), jpt_o (by omega)]
theorem jp2_c {α : Type} {G G1 : Nat → α} : jp2 G 0 70 85 1 G1 85 = G1 70 := by
  unfold jp2
  exact jpt_i (b := 85) (c := 0) (by omega)
/-- a call that may throw, of a class that it changes -/
theorem k_M (hL : LR G J s) {o : Option (Nat ⊕ (Int32 × (Nat → Nat → Int32)))} {cf : Nat → Option (Int32 × (Nat → Nat → Int32) × (Nat → Nat → Int64))} {m : (Nat → Nat → Int32) → (Nat → Nat → Int64) → Option (Int32 × (Nat → Nat → Int32))} (k v : Int32) (s2 : SA) (hI : s2.I) (h : (∃ G1, o = some (.inr (v, G1)) ∧ k = 0 ∧ CX G1 (jvw (jv2 J 0 70 85) 0) s2) ∨ ∃ c, o = some (.inl c) ∧ k ≠ 0 ∧ cf c = some (k, jv2 G 0 70 85, jv2 J 0 70 85) ∧ s2 = s) (hm : ∀ g j, CM g j s → Ok (m g j) (fun r => (k = 0 → r.1 = v) ∧ r.2 0 5 = k ∧ CM r.2 j s2)) : Ok ((jbh o (fun v1 => jlt (jupL (jv2 J 0 70 85) 70 0 (v1.1.toInt64)) fun J1 => some ((0 : Int32), (jpt (jv2 G 0 70 85) 0 70 v1.2), J1)) cf).bind (fun v1 => jlt (jp2 G 0 70 85 1 v1.2.1) fun G3 => jlt (jp2 J 0 70 85 1 v1.2.2) fun J5 => (m (jvw G3 70) (jvw J5 70)).bind (fun v7 => jlt (jpt G3 70 15 v7.2) fun G9 => (p_X6_thrown N (jvw G9 70) (jvw J5 70)).bind (fun v11 => if v11 = v1.1 then (if v1.1 = 0 then (if (lg_cmp (J5 85 0) (v7.1.toInt64)) = 0 then (some (G9, J5)) else (none)) else (some (G9, J5))) else (none))))) (fun r => ∃ s, LR r.1 r.2 s) := by
  obtain ⟨hX, hM, hI0⟩ := hL
  have go : ∀ G1 J1, CX (jvw G1 0) (jvw J1 0) s2 → (k = 0 → J1 70 0 = v.toInt64) → Ok ((some (k, G1, J1)).bind (fun v1 => jlt (jp2 G 0 70 85 1 v1.2.1) fun G3 => jlt (jp2 J 0 70 85 1 v1.2.2) fun J5 => (m (jvw G3 70) (jvw J5 70)).bind (fun v7 => jlt (jpt G3 70 15 v7.2) fun G9 => (p_X6_thrown N (jvw G9 70) (jvw J5 70)).bind (fun v11 => if v11 = v1.1 then (if v1.1 = 0 then (if (lg_cmp (J5 85 0) (v7.1.toInt64)) = 0 then (some (G9, J5)) else (none)) else (some (G9, J5))) else (none))))) (fun r => ∃ s, LR r.1 r.2 s) := by
    intro G1 J1 h1 h2
    rw [Option.bind_some, jlt_eq, jlt_eq]
    refine k_B (s2 := s2) (v := v) (h1.cg (fun c hc => ?_) (fun c hc => ?_)) hI (fun h4 => ?_) ?_
    · exact (jp2_a (c := 0 + c) (by omega))
    · exact (jp2_a (c := 0 + c) (by omega))
    · rw [jp2_c]; exact h2 h4
    · exact hm _ _ (hM.cg (fun c hc => jp2_b (c := 70 + c) (by omega) (by omega)) (jp2_b (c := 84) (by omega) (by omega)))
  rcases h with ⟨G1, h1, h2, h3⟩ | ⟨c, h1, h2, h3, h4⟩
  · rw [h1]
    subst h2
    refine go (jpt (jv2 G 0 70 85) 0 70 G1) (jupL (jv2 J 0 70 85) 70 0 v.toInt64) (h3.cg (fun c hc => ?_) (fun c hc => ?_)) ?_
    · exact jpt_i (b := 0) hc
    · show jupL _ 70 0 _ (0 + c) = jv2 J 0 70 85 (0 + c)
      rw [jupL_n _ _ (by omega)]
    · intro _
      rw [jupL_s]; exact pk_uLs
  · rw [h1]
    show Ok ((cf c).bind _) _
    rw [h3]
    subst h4
    exact go _ _ hX.w (fun h5 => absurd h5 h2)
/-- the class's call, with no throw -/
theorem k_N (hL : LR G J s) {o : Option (Int32 × (Nat → Nat → Int32))} {m : (Nat → Nat → Int32) → Option (Int32 × (Nat → Nat → Int32))} (v : Int32) (s2 : SA) (hI : s2.I) (h : Ok o (fun r => r.1 = v ∧ CX r.2 (jvw J 0) s2)) (hm : ∀ g, CM g (jvw J 70) s → Ok (m g) (fun r => r.1 = v ∧ CM r.2 (jvw J 70) s2)) : Ok (o.bind (fun v1 => jlt (jpt G 0 70 v1.2) fun G3 => (m (jvw G3 70)).bind (fun v5 => jlt (jpt G3 70 15 v5.2) fun G7 => if v1.1 = v5.1 then (some (G7, J)) else (none)))) (fun r => ∃ s, LR r.1 r.2 s) := by
  obtain ⟨hX, hM, hI0⟩ := hL
  refine Ok.b h ?_
  rintro ⟨w, G1⟩ ⟨h1, h2⟩
  have h3 : w = v := h1
  subst h3
  rw [jlt_eq]
  refine k_A (s2 := s2) (h2.cg (fun c hc => ?_) (fun _ _ => rfl)) hI ?_
  · exact jpt_i (b := 0) hc
  · exact hm _ (hM.cg (fun c hc => jpt_o (by omega)) rfl)
theorem jvw_up (b c k : Nat) (v : Int32) : jvw (jup G (b + c) k v) b = jup (jvw G b) c k v := by
  funext d
  show jup G (b + c) k v (b + d) = _
  by_cases h : d = c
  · subst h
    rw [jup_s, jup_s]; rfl
  · rw [jup_n _ _ (by omega), jup_n _ _ h]; rfl
theorem KX.up {c k : Nat} {v : Int32} (h : c < 20) : KX G (jup G c k v) := ⟨fun i _ => by rw [jup_n _ _ (by omega)], fun d hd => jup_n _ _ (by omega)⟩
theorem KX.trans {G3 : Nat → Nat → Int32} (h : KX G G2) (h2 : KX G2 G3) : KX G G3 := ⟨fun i hi => (h2.1 i hi).trans (h.1 i hi), fun c hc => (h2.2 c hc).trans (h.2 c hc)⟩
theorem KX.pt {b n : Nat} {g : Nat → Nat → Int32} (h : b + n ≤ 20) : KX G (jpt G b n g) := ⟨fun i _ => by rw [jpt_o (by omega)], fun d hd => jpt_o (by omega)⟩
theorem jvw_pt {b n c : Nat} {g : Nat → Nat → Int32} (h : c < n) : jvw (jpt G b n g) b c = g c := jpt_i h
/-- the town now, set anew -/
theorem CX.town (X : CX G J s) {g : Nat → Nat → Int32} (R : RC g a) : CX (jpt G 1 9 g) J (s.to a) := X.k (R.cg (fun c hc => jvw_pt hc)) (KX.pt (by omega)) (fun _ _ => rfl) rfl
theorem L999 : (999 : Int64).toInt = 999 := by decide
theorem L100 : (100 : Int64).toInt = 100 := by decide
theorem case_7 (hN : 2000 ≤ N) (hL : LR G J s) : Ok (p_case_7 N xs G J i) (fun r => ∃ s, LR r.1 r.2 s) := by
  have X := hL.1.w
  have R := X.now
  have I := hL.2.2.now
  unfold p_case_7 p_L_pass
  generalize xs (i + 1).toNatClampNeg = x
  have tx : x.toInt64.toInt = x.toInt := Int32.toInt_toInt64 x
  have e0 : (x < 0) = (x.toInt < 0) := propext (Int32.lt_iff_toInt_lt.trans (by rfl))
  have e9 : (x ≤ 999) = (x.toInt ≤ 999) := propext (Int32.le_iff_toInt_le.trans (by rfl))
  by_cases hx : 0 ≤ x.toInt ∧ x.toInt ≤ 999
  · have c6 : jvw (jv2 G 0 70 85) 0 1 6 = s.now.mi := R.mi
    have hI : (s.now.set5 s.now.ea s.now.sh (if s.now.mi + x < 1000 then s.now.mi + x else 1000)).I := by
      refine I.set5 I.sh ?_
      have hm := I.mi
      have hs : (s.now.mi + x).toInt = s.now.mi.toInt + x.toInt := by
        rw [Int32.toInt_add]
        exact Int.bmod_eq_of_le (by omega) (by omega)
      split
      · next h =>
        have h2 := Int32.lt_iff_toInt_lt.mp h
        have h3 : (1000 : Int32).toInt = 1000 := by decide
        omega
      · decide
    refine k_M hL (m := fun g j => p_X6_pass N g j x) 0 (if s.now.mi + x < 1000 then s.now.mi + x else 1000) (s.to _) (hL.2.2.to hI) (Or.inl ⟨jup (jvw (jv2 G 0 70 85) 0) 1 6 (if s.now.mi + x < 1000 then s.now.mi + x else 1000), ?_, rfl, ?_⟩) ?_
    · unfold p_X5_pass
      rw [if_neg (by rw [e0]; omega), if_pos (by rw [e9]; omega), c6, jlt_eq, jup_s, upd_s]
    · refine X.k ?_ (KX.up (by omega)) (fun _ _ => rfl) rfl
      rw [jvw_up 1 0]
      refine R.set5 ?_ ?_ ?_ ?_ ?_
      · rw [jup_s, upd_n _ _ (by decide)]; exact R.ea
      · rw [jup_s, upd_n _ _ (by decide)]; exact R.sh
      · rw [jup_s, upd_s]
      · intro k _ _ h6; rw [jup_s, upd_n _ _ h6]
      · intro c hc _; rw [jup_n _ _ (by omega)]
    · intro g j M
      unfold p_X6_pass
      have m6 : jup g 0 5 0 1 6 = s.now.mi := by rw [jup_n _ _ (by decide)]; exact M.now.mi
      rw [jlt_eq, w_t (by rw [w_0, L999, tx]; exact hx), Option.bind_some, if_neg i10, m6, jlt_eq]
      refine Ok.s ⟨fun _ => ?_, ?_, ?_⟩
      · dsimp only
        rw [jup_s, upd_s]
      · dsimp only
        rw [jup_n _ _ (by decide), e05]
      · refine M.k ?_ ((KM.thr 0).trans (KM.of1 (fun c hc => jup_n _ _ hc))) rfl rfl
        dsimp only
        rw [jup_s, jup_n _ _ (by decide)]
        refine M.now.set5 ?_ ?_ ?_ ?_
        · rw [upd_n _ _ (by decide)]; exact M.now.ea
        · rw [upd_n _ _ (by decide)]; exact M.now.sh
        · rw [upd_s]
        · intro k _ _ h6; rw [upd_n _ _ h6]
  · refine k_M hL (m := fun g j => p_X6_pass N g j x) 1 0 s hL.2.2 (Or.inr ⟨3, ?_, by decide, rfl, rfl⟩) ?_
    · unfold p_X5_pass p_X5_pass_b11
      by_cases h : x < 0
      · rw [if_pos h]
      · rw [if_neg h, if_neg (by rw [e9]; rw [e0] at h; omega)]
    · intro g j M
      unfold p_X6_pass
      rw [jlt_eq, w_f (by rw [w_0, L999, tx]; exact hx), Option.bind_some, if_pos rfl]
      have b := MB.f (k := 1) (v := 0) (w := 0) (x := 0) M.now (fun h => absurd h i10)
      exact Ok.s ⟨b.1, b.2.1, M.k b.2.2.2 b.2.2.1 rfl (SA.eta s)⟩
theorem case_35 (hN : 2000 ≤ N) (hL : LR G J s) : Ok (p_case_35 N xs G J i) (fun r => ∃ s, LR r.1 r.2 s) := by
  have X := hL.1.w
  have R := X.now
  have I := hL.2.2.now
  unfold p_case_35 p_L_share
  generalize xs (i + 1).toNatClampNeg = x
  have tx : x.toInt64.toInt = x.toInt := Int32.toInt_toInt64 x
  have e0 : (x < 0) = (x.toInt < 0) := propext (Int32.lt_iff_toInt_lt.trans (by rfl))
  have e9 : (x ≤ 100) = (x.toInt ≤ 100) := propext (Int32.le_iff_toInt_le.trans (by rfl))
  by_cases hx : 0 ≤ x.toInt ∧ x.toInt ≤ 100
  · have c4 : jvw (jv2 G 0 70 85) 0 1 4 = s.now.sh := R.sh
    refine k_M hL (m := fun g j => p_X6_share N g j x) 0 s.now.sh (s.to (s.now.set5 s.now.ea x s.now.mi)) (hL.2.2.to (I.set5 hx I.mi)) (Or.inl ⟨jup (jvw (jv2 G 0 70 85) 0) 1 4 x, ?_, rfl, ?_⟩) ?_
    · unfold p_X5_share
      rw [if_neg (by rw [e0]; omega), if_pos (by rw [e9]; omega), c4, jlt_eq]
    · refine X.k ?_ (KX.up (by omega)) (fun _ _ => rfl) rfl
      rw [jvw_up 1 0]
      refine R.set5 ?_ ?_ ?_ ?_ ?_
      · rw [jup_s, upd_n _ _ (by decide)]; exact R.ea
      · rw [jup_s, upd_s]
      · rw [jup_s, upd_n _ _ (by decide)]; exact R.mi
      · intro k _ h4 _; rw [jup_s, upd_n _ _ h4]
      · intro c hc _; rw [jup_n _ _ (by omega)]
    · intro g j M
      unfold p_X6_share
      have m4 : jup g 0 5 0 1 4 = s.now.sh := by rw [jup_n _ _ (by decide)]; exact M.now.sh
      rw [jlt_eq, w_t (by rw [w_0, L100, tx]; exact hx), Option.bind_some, if_neg i10, m4, jlt_eq]
      refine Ok.s ⟨fun _ => rfl, ?_, ?_⟩
      · dsimp only
        rw [jup_n _ _ (by decide), e05]
      · refine M.k ?_ ((KM.thr 0).trans (KM.of1 (fun c hc => jup_n _ _ hc))) rfl rfl
        dsimp only
        rw [jup_s, jup_n _ _ (by decide)]
        refine M.now.set5 ?_ ?_ ?_ ?_
        · rw [upd_n _ _ (by decide)]; exact M.now.ea
        · rw [upd_s]
        · rw [upd_n _ _ (by decide)]; exact M.now.mi
        · intro k _ h4 _; rw [upd_n _ _ h4]
  · refine k_M hL (m := fun g j => p_X6_share N g j x) 1 0 s hL.2.2 (Or.inr ⟨3, ?_, by decide, rfl, rfl⟩) ?_
    · unfold p_X5_share p_X5_share_b10
      by_cases h : x < 0
      · rw [if_pos h]
      · rw [if_neg h, if_neg (by rw [e9]; rw [e0] at h; omega)]
    · intro g j M
      unfold p_X6_share
      rw [jlt_eq, w_f (by rw [w_0, L100, tx]; exact hx), Option.bind_some, if_pos rfl]
      have b := MB.f (k := 1) (v := 0) (w := 0) (x := 0) M.now (fun h => absurd h i10)
      exact Ok.s ⟨b.1, b.2.1, M.k b.2.2.2 b.2.2.1 rfl (SA.eta s)⟩
theorem case_8 (hN : 2000 ≤ N) (hL : LR G J s) : Ok (p_case_8 N xs G J i) (fun r => ∃ s, LR r.1 r.2 s) := by
  have X := hL.1.w
  have R := X.now
  have I := hL.2.2.now
  unfold p_case_8 p_L_morning
  cases hr : s.now.rung
  · refine k_M hL (m := fun g j => p_X6_morning N g j) 1 0 s hL.2.2 (Or.inr ⟨2, ?_, by decide, rfl, rfl⟩) ?_
    · unfold p_X5_morning
      rw [c_hasRung R, hr]; rfl
    · intro g j M
      unfold p_X6_morning
      rw [jlt_eq, m_hasRung (thrR M.now 0), hr, Option.bind_some, bI_f, if_pos rfl]
      have b := MB.f (k := 1) (v := 0) (w := 0) (x := 0) M.now (fun h => absurd h i10)
      exact Ok.s ⟨b.1, b.2.1, M.k b.2.2.2 b.2.2.1 rfl (SA.eta s)⟩
  · have e8 : pop (jvw (jv2 G 0 70 85) 0 1 8) = s.now.stands := pop_st (G := jvw (jvw (jv2 G 0 70 85) 0) 1) R I
    refine k_M hL (m := fun g j => p_X6_morning N g j) 0 s.now.stands (s.to s.now.morn) (hL.2.2.to I.morn) (Or.inl ⟨jup (jup (jup (jvw (jv2 G 0 70 85) 0) 1 6 0) 1 7 0) 1 8 0, ?_, rfl, ?_⟩) ?_
    · unfold p_X5_morning
      rw [c_hasRung R, hr, Option.bind_some, bI_t, if_neg i10, x_bitCount, e8]
      rfl
    · refine X.k ?_ (((KX.up (by omega)).trans (KX.up (by omega))).trans (KX.up (by omega))) (fun _ _ => rfl) rfl
      rw [jvw_up 1 0, jvw_up 1 0, jvw_up 1 0]
      refine ⟨?_, ?_, ?_, ?_, ?_, ?_, ?_, ?_, ?_, ?_, ?_, ?_, ?_, ?_, ?_, ?_, ?_⟩
      · simp (disch := omega) only [Option.bind_some, jlt_eq, ↓reduceIte, eq_self, jinT, zleT, zleF, zltT, zltF, zeq, zpos, zpos', zcl, zm6, z6, z84, z24, z14, z8, nI_add, zd0, zd1, zd2, zd3, zd4, zd5, bitI_e, bI0, bI1, jup_s, upd_n]; exact R.li
      · simp (disch := omega) only [Option.bind_some, jlt_eq, ↓reduceIte, eq_self, jinT, zleT, zleF, zltT, zltF, zeq, zpos, zpos', zcl, zm6, z6, z84, z24, z14, z8, nI_add, zd0, zd1, zd2, zd3, zd4, zd5, bitI_e, bI0, bI1, jup_s, upd_n]; exact R.np
      · simp (disch := omega) only [Option.bind_some, jlt_eq, ↓reduceIte, eq_self, jinT, zleT, zleF, zltT, zltF, zeq, zpos, zpos', zcl, zm6, z6, z84, z24, z14, z8, nI_add, zd0, zd1, zd2, zd3, zd4, zd5, bitI_e, bI0, bI1, jup_s, upd_n]; exact R.nt
      · simp (disch := omega) only [Option.bind_some, jlt_eq, ↓reduceIte, eq_self, jinT, zleT, zleF, zltT, zltF, zeq, zpos, zpos', zcl, zm6, z6, z84, z24, z14, z8, nI_add, zd0, zd1, zd2, zd3, zd4, zd5, bitI_e, bI0, bI1, jup_s, upd_n]; exact R.ea
      · simp (disch := omega) only [Option.bind_some, jlt_eq, ↓reduceIte, eq_self, jinT, zleT, zleF, zltT, zltF, zeq, zpos, zpos', zcl, zm6, z6, z84, z24, z14, z8, nI_add, zd0, zd1, zd2, zd3, zd4, zd5, bitI_e, bI0, bI1, jup_s, upd_n]; exact R.sh
      · simp (disch := omega) only [Option.bind_some, jlt_eq, ↓reduceIte, eq_self, jinT, zleT, zleF, zltT, zltF, zeq, zpos, zpos', zcl, zm6, z6, z84, z24, z14, z8, nI_add, zd0, zd1, zd2, zd3, zd4, zd5, bitI_e, bI0, bI1, jup_s, upd_n]; exact R.be
      · simp (disch := omega) only [Option.bind_some, jlt_eq, ↓reduceIte, eq_self, jinT, zleT, zleF, zltT, zltF, zeq, zpos, zpos', zcl, zm6, z6, z84, z24, z14, z8, nI_add, zd0, zd1, zd2, zd3, zd4, zd5, bitI_e, bI0, bI1, jup_s, upd_n, upd_s]; rfl
      · simp (disch := omega) only [Option.bind_some, jlt_eq, ↓reduceIte, eq_self, jinT, zleT, zleF, zltT, zltF, zeq, zpos, zpos', zcl, zm6, z6, z84, z24, z14, z8, nI_add, zd0, zd1, zd2, zd3, zd4, zd5, bitI_e, bI0, bI1, jup_s, upd_n, upd_s]; rfl
      · intro d hd; rw [jup_s, upd_s, b_0]; rfl
      · simp (disch := omega) only [Option.bind_some, jlt_eq, ↓reduceIte, eq_self, jinT, zleT, zleF, zltT, zltF, zeq, zpos, zpos', zcl, zm6, z6, z84, z24, z14, z8, nI_add, zd0, zd1, zd2, zd3, zd4, zd5, bitI_e, bI0, bI1, jup_n]; exact R.co
      · simp (disch := omega) only [Option.bind_some, jlt_eq, ↓reduceIte, eq_self, jinT, zleT, zleF, zltT, zltF, zeq, zpos, zpos', zcl, zm6, z6, z84, z24, z14, z8, nI_add, zd0, zd1, zd2, zd3, zd4, zd5, bitI_e, bI0, bI1, jup_n]; exact R.ho
      · simp (disch := omega) only [Option.bind_some, jlt_eq, ↓reduceIte, eq_self, jinT, zleT, zleF, zltT, zltF, zeq, zpos, zpos', zcl, zm6, z6, z84, z24, z14, z8, nI_add, zd0, zd1, zd2, zd3, zd4, zd5, bitI_e, bI0, bI1, jup_n]; exact R.wo
      · exact fun _ h => absurd h (Nat.not_lt_zero _)
      · exact fun _ h => absurd h (Nat.not_lt_zero _)
      · exact fun _ h => absurd h (Nat.not_lt_zero _)
      · exact fun _ h => absurd h (Nat.not_lt_zero _)
      · exact fun _ h => absurd h (Nat.not_lt_zero _)
    · intro g j M
      unfold p_X6_morning
      rw [jlt_eq, m_hasRung (thrR M.now 0), hr, Option.bind_some, bI_t, if_neg i10, m_standMany hN (thrR M.now 0) I, Option.bind_some, jlt_eq, jlt_eq]
      refine Ok.s ⟨fun _ => rfl, ?_, ?_⟩
      · show jup (jup (jup g 0 5 0) 1 6 0) 1 7 0 0 5 = _
        rw [jup_n _ _ (by decide), jup_n _ _ (by decide), e05]
      · refine M.k ?_ ((KM.thr 0).trans (KM.of1 (fun c hc => (jup_n _ _ hc).trans (jup_n _ _ hc)))) rfl rfl
        show RM (jup (jup (jup g 0 5 0) 1 6 0) 1 7 0 1) _
        rw [jup_s, jup_s, jup_n _ _ (by decide)]
        have T := M.now
        refine ⟨?_, ?_, ?_, ?_, ?_, ?_, ?_, ?_, ?_, ?_, ?_, ?_, ?_, ?_, ?_, ?_, ?_⟩
        · simp (disch := omega) only [Option.bind_some, jlt_eq, ↓reduceIte, eq_self, jinT, zleT, zleF, zltT, zltF, zeq, zpos, zpos', zcl, zm6, z6, z84, z24, z14, z8, nI_add, zd0, zd1, zd2, zd3, zd4, zd5, bitI_e, bI0, bI1, upd_n]; exact T.li
        · simp (disch := omega) only [Option.bind_some, jlt_eq, ↓reduceIte, eq_self, jinT, zleT, zleF, zltT, zltF, zeq, zpos, zpos', zcl, zm6, z6, z84, z24, z14, z8, nI_add, zd0, zd1, zd2, zd3, zd4, zd5, bitI_e, bI0, bI1, upd_n]; exact T.np
        · simp (disch := omega) only [Option.bind_some, jlt_eq, ↓reduceIte, eq_self, jinT, zleT, zleF, zltT, zltF, zeq, zpos, zpos', zcl, zm6, z6, z84, z24, z14, z8, nI_add, zd0, zd1, zd2, zd3, zd4, zd5, bitI_e, bI0, bI1, upd_n]; exact T.nt
        · simp (disch := omega) only [Option.bind_some, jlt_eq, ↓reduceIte, eq_self, jinT, zleT, zleF, zltT, zltF, zeq, zpos, zpos', zcl, zm6, z6, z84, z24, z14, z8, nI_add, zd0, zd1, zd2, zd3, zd4, zd5, bitI_e, bI0, bI1, upd_n]; exact T.ea
        · simp (disch := omega) only [Option.bind_some, jlt_eq, ↓reduceIte, eq_self, jinT, zleT, zleF, zltT, zltF, zeq, zpos, zpos', zcl, zm6, z6, z84, z24, z14, z8, nI_add, zd0, zd1, zd2, zd3, zd4, zd5, bitI_e, bI0, bI1, upd_n]; exact T.sh
        · simp (disch := omega) only [Option.bind_some, jlt_eq, ↓reduceIte, eq_self, jinT, zleT, zleF, zltT, zltF, zeq, zpos, zpos', zcl, zm6, z6, z84, z24, z14, z8, nI_add, zd0, zd1, zd2, zd3, zd4, zd5, bitI_e, bI0, bI1, upd_n]; exact T.be
        · simp (disch := omega) only [Option.bind_some, jlt_eq, ↓reduceIte, eq_self, jinT, zleT, zleF, zltT, zltF, zeq, zpos, zpos', zcl, zm6, z6, z84, z24, z14, z8, nI_add, zd0, zd1, zd2, zd3, zd4, zd5, bitI_e, bI0, bI1, upd_n, upd_s]; rfl
        · simp (disch := omega) only [Option.bind_some, jlt_eq, ↓reduceIte, eq_self, jinT, zleT, zleF, zltT, zltF, zeq, zpos, zpos', zcl, zm6, z6, z84, z24, z14, z8, nI_add, zd0, zd1, zd2, zd3, zd4, zd5, bitI_e, bI0, bI1, upd_s]; rfl
        · intro p hp; simp (disch := omega) only [Option.bind_some, jlt_eq, ↓reduceIte, eq_self, jinT, zleT, zleF, zltT, zltF, zeq, zpos, zpos', zcl, zm6, z6, z84, z24, z14, z8, nI_add, zd0, zd1, zd2, zd3, zd4, zd5, bitI_e, bI0, bI1, upd_n]; exact T.co p hp
        · intro t ht; simp (disch := omega) only [Option.bind_some, jlt_eq, ↓reduceIte, eq_self, jinT, zleT, zleF, zltT, zltF, zeq, zpos, zpos', zcl, zm6, z6, z84, z24, z14, z8, nI_add, zd0, zd1, zd2, zd3, zd4, zd5, bitI_e, bI0, bI1, upd_n]; exact T.ho t ht
        · intro t p ht hp; simp (disch := omega) only [Option.bind_some, jlt_eq, ↓reduceIte, eq_self, jinT, zleT, zleF, zltT, zltF, zeq, zpos, zpos', zcl, zm6, z6, z84, z24, z14, z8, nI_add, zd0, zd1, zd2, zd3, zd4, zd5, bitI_e, bI0, bI1, upd_n]; exact T.wo t p ht hp
        · exact fun _ h => absurd h (Nat.not_lt_zero _)
        · exact fun _ h => absurd h (Nat.not_lt_zero _)
        · exact fun _ h => absurd h (Nat.not_lt_zero _)
        · exact fun _ h => absurd h (Nat.not_lt_zero _)
        · exact fun _ h => absurd h (Nat.not_lt_zero _)
        · exact fun _ h => absurd h (Nat.not_lt_zero _)
end change

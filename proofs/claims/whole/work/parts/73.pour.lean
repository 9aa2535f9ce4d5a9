/-! tray, pour -/
section pour
variable {N : Nat} {G G2 : Nat → Nat → Int32} {J J2 : Nat → Nat → Int64} {a : TA} {s s2 : SA} {xs : Nat → Int32} {i : Int32}
theorem k_T (hL : LR G J s) {o : Option (Nat ⊕ ((Nat → Nat → Int32) × (Nat → Nat → Int64)))} {cf : Nat → Option (Int32 × (Nat → Nat → Int32) × (Nat → Nat → Int64))} {m : (Nat → Nat → Int32) → (Nat → Nat → Int64) → Option ((Nat → Nat → Int32) × (Nat → Nat → Int64))} (k : Int32) (s2 : SA) (hI : s2.I) (h : (∃ G1 J1, o = some (.inr (G1, J1)) ∧ k = 0 ∧ CX G1 J1 s2) ∨ ∃ c, o = some (.inl c) ∧ cf c = some (k, jv2 G 0 70 85, jv2 J 0 70 85) ∧ s2 = s) (hm : ∀ g j, CM g j s → Ok (m g j) (fun r => r.1 0 5 = k ∧ CM r.1 r.2 s2)) : Ok ((jbh o (fun v1 => some ((0 : Int32), (jpt (jv2 G 0 70 85) 0 70 v1.1), (jpt (jv2 J 0 70 85) 0 70 v1.2))) cf).bind (fun v1 => jlt (jp2 G 0 70 85 1 v1.2.1) fun G3 => jlt (jp2 J 0 70 85 1 v1.2.2) fun J5 => (m (jvw G3 70) (jvw J5 70)).bind (fun v7 => jlt (jpt G3 70 15 v7.1) fun G9 => jlt (jpt J5 70 15 v7.2) fun J11 => (p_X6_thrown N (jvw G9 70) (jvw J11 70)).bind (fun v13 => if v13 = v1.1 then (some (G9, J11)) else (none))))) (fun r => ∃ s, LR r.1 r.2 s) := by
  obtain ⟨hX, hM, hI0⟩ := hL
  have go : ∀ G1 J1, CX (jvw G1 0) (jvw J1 0) s2 → Ok ((some (k, G1, J1)).bind (fun v1 => jlt (jp2 G 0 70 85 1 v1.2.1) fun G3 => jlt (jp2 J 0 70 85 1 v1.2.2) fun J5 => (m (jvw G3 70) (jvw J5 70)).bind (fun v7 => jlt (jpt G3 70 15 v7.1) fun G9 => jlt (jpt J5 70 15 v7.2) fun J11 => (p_X6_thrown N (jvw G9 70) (jvw J11 70)).bind (fun v13 => if v13 = v1.1 then (some (G9, J11)) else (none))))) (fun r => ∃ s, LR r.1 r.2 s) := by
    intro G1 J1 h1
    rw [Option.bind_some, jlt_eq, jlt_eq]
    dsimp only
    have hX3 : CX (jvw (jp2 G 0 70 85 1 G1) 0) (jvw (jp2 J 0 70 85 1 J1) 0) s2 := h1.cg (fun c hc => jp2_a (c := 0 + c) (by omega)) (fun c hc => jp2_a (c := 0 + c) (by omega))
    have hM3 : CM (jvw (jp2 G 0 70 85 1 G1) 70) (jvw (jp2 J 0 70 85 1 J1) 70) s := hM.cg (fun c hc => jp2_b (c := 70 + c) (by omega) (by omega)) (jp2_b (c := 84) (by omega) (by omega))
    generalize jp2 G 0 70 85 1 G1 = G3 at hX3 hM3 ⊢
    generalize jp2 J 0 70 85 1 J1 = J3 at hX3 hM3 ⊢
    refine Ok.b (hm _ _ hM3) ?_
    rintro ⟨G5, J5⟩ ⟨g1, g2⟩
    dsimp only at g1 g2 ⊢
    have e : jvw (jpt G3 70 15 G5) 70 0 5 = k := by
      have : jvw (jpt G3 70 15 G5) 70 0 = G5 0 := jpt_i (c := 0) (by omega)
      rw [this]; exact g1
    rw [jlt_eq, jlt_eq]
    unfold p_X6_thrown
    rw [Option.bind_some, if_pos e]
    exact Ok.s ⟨s2, LR.m2 hX3 hI g2⟩
  rcases h with ⟨G1, J1, h1, h2, h3⟩ | ⟨c, h1, h3, h4⟩
  · rw [h1]
    subst h2
    exact go _ _ (h3.cg (fun c hc => jpt_i (b := 0) hc) (fun c hc => jpt_i (b := 0) hc))
  · rw [h1]
    show Ok ((cf c).bind _) _
    rw [h3]
    subst h4
    exact go _ _ hX.w
theorem x_fill (hN : 2000 ≤ N) : Ok (p_J7_fill_d0a16 N J 0) (fun r => ∀ k, k < 40 → r 0 k = 0) := by
  unfold p_J7_fill_d0a16
  refine Ok.l2 (fun n (j1 : Nat → Nat → Int64) x => p_J7_fill_d0a16_b6 N n j1 0 x (Int32.ofNat 40)) _ (fun j j1 x => ∃ k, k + j = 40 ∧ x = nI k ∧ ∀ i, i < k → j1 0 i = 0) ?_ N 40 J 0 (by omega) ⟨0, by omega, nI_0.symm, fun i hi => absurd hi (Nat.not_lt_zero _)⟩
  intro j j1 x n hs ih
  obtain ⟨k, hk, hx, hi⟩ := hs
  subst hx
  rw [p_J7_fill_d0a16_b6]
  by_cases h : k = 40
  · subst h
    rw [if_pos (by decide)]
    exact Ok.s hi
  · rw [if_neg (show ¬ Int32.ofNat 40 ≤ nI k from nI_ge (a := k) (b := 40) (by omega) (by omega)), if_pos (jinT (by omega) (by omega)), jlt_eq, zcl (by omega), nI_1]
    refine ih _ _ (j - 1) (by omega) ⟨k + 1, by omega, rfl, ?_⟩
    intro i h2
    rw [jupL_s, updL_i]
    by_cases h3 : i = k
    · rw [if_pos h3]
    · rw [if_neg h3, hi i (by omega)]
theorem x_layB (hN : 2000 ≤ N) (X : CX G J s) {q t so m : Nat} (hq : q < 4) (ht : t = 62 + 2 * q) : Ok ((p_X4_lay N (jvw G t) (jvw J t) (nI so) (nI m)).bind (fun v3 => jlt (jpt G t 2 v3.1) fun G4 => jlt (jpt J t 2 v3.2) fun J6 => some (Sum.inr (G4, J6) : Nat ⊕ ((Nat → Nat → Int32) × (Nat → Nat → Int64))))) (fun o => ∃ G1 J1, o = .inr (G1, J1) ∧ CX G1 J1 (s.setTr q so m (fun _ => 0))) := by
  subst ht
  unfold p_X4_lay
  simp only [jlt_eq]
  have key := x_fill (J := jvw (jvw J (62 + 2 * q)) 1) hN
  obtain ⟨v8, e, h8⟩ := key
  rw [e, Option.bind_some, Option.bind_some]
  refine Ok.s ⟨_, _, rfl, ?_⟩
  dsimp only
  have g : jpt G (62 + 2 * q) 2 (jup (jup (jup (jvw G (62 + 2 * q)) 0 0 0) 0 3 (nI so)) 0 1 (nI m)) (62 + 2 * q) = upd (upd (upd (G (62 + 2 * q)) 0 0) 3 (nI so)) 1 (nI m) := by
    have := jpt_i (G := G) (G2 := jup (jup (jup (jvw G (62 + 2 * q)) 0 0 0) 0 3 (nI so)) 0 1 (nI m)) (b := 62 + 2 * q) (n := 2) (c := 0) (by omega)
    rw [Nat.add_zero] at this
    rw [this, jup_s, jup_s, jup_s]; rfl
  have j : jpt J (62 + 2 * q) 2 (jpt (jvw J (62 + 2 * q)) 1 1 v8) (62 + 2 * q + 1) = v8 0 := by
    rw [jpt_i (by omega)]
    exact jpt_i (b := 1) (c := 0) (by omega)
  refine X.setTr hq (fun c h1 h2 => jpt_o (by omega)) (fun c h1 h2 => ?_) ?_ ?_ ?_ ?_
  · by_cases e : c = 62 + 2 * q
    · subst e
      have := jpt_i (G := J) (G2 := jpt (jvw J (62 + 2 * q)) 1 1 v8) (b := 62 + 2 * q) (n := 2) (c := 0) (by omega)
      rw [Nat.add_zero] at this
      rw [this, jpt_o (by omega)]; rfl
    · exact jpt_o (by omega)
  · rw [g, upd_n _ _ (by decide), upd_n _ _ (by decide), upd_s]
  · rw [g, upd_s]
  · rw [g, upd_n _ _ (by decide), upd_s]
  · intro k hk
    rw [j]; exact h8 k hk
theorem m_fillT (hN : 2000 ≤ N) {q : Nat} (hq : q < 4) : Ok (p_X6_tray_b69 N N G J (nI q) 0) (fun r => r.1 = G ∧ (∀ k, k < 40 → r.2 14 (40 * q + k) = 0) ∧ ∀ k, (k < 40 * q ∨ 40 * q + 40 ≤ k) → r.2 14 k = J 14 k) := by
  have e40 : (40 : Int32) = nI 40 := by decide
  refine Ok.l2 (fun n (j1 : Nat → Nat → Int64) x => p_X6_tray_b69 N n G j1 (nI q) x) _ (fun j j1 x => ∃ k, k + j = 40 ∧ x = nI k ∧ (∀ i, i < k → j1 14 (40 * q + i) = 0) ∧ ∀ i, (i < 40 * q ∨ 40 * q + 40 ≤ i) → j1 14 i = J 14 i) ?_ N 40 J 0 (by omega) ⟨0, by omega, nI_0.symm, fun i hi => absurd hi (Nat.not_lt_zero _), fun _ _ => rfl⟩
  intro j j1 x n hs ih
  obtain ⟨k, hk, hx, hi, ho⟩ := hs
  subst hx
  rw [p_X6_tray_b69, z40]
  by_cases h : k = 40
  · subst h
    rw [if_pos (by decide)]
    exact Ok.s ⟨rfl, hi, ho⟩
  · rw [if_neg (by rw [e40]; exact nI_ge (by omega) (by omega)), if_pos (jinT (by omega) (by omega)), jlt_eq, zcl (by omega), nI_1]
    refine ih _ _ (j - 1) (by omega) ⟨k + 1, by omega, rfl, ?_, ?_⟩
    · intro i h2
      rw [jupL_s, updL_i]
      by_cases h3 : i = k
      · rw [if_pos (by omega)]
      · rw [if_neg (by omega), hi i (by omega)]
    · intro i h2
      rw [jupL_s, updL_i, if_neg (by omega), ho i h2]
theorem m_trayOk (hN : 2000 ≤ N) (M : CM G J s) {q so m : Nat} (hq : q < 4) : Ok (p_X6_tray_b41 N G J (nI q) (nI so) (nI m) 0) (fun r => r.1 0 5 = 0 ∧ CM r.1 r.2 (s.setTr q so m (fun _ => 0))) := by
  unfold p_X6_tray_b41
  rw [jlt_eq, if_pos (by rw [e05]; decide), if_pos (jinT hq (by omega)), jlt_eq, if_pos (jinT hq (by omega)), jlt_eq, zcl (by omega)]
  refine (m_fillT hN hq).c ?_
  rintro ⟨g, j⟩ ⟨g1, g2, g3⟩
  have g4 : g = jup (jup (jup G 0 5 0) 12 q (nI so)) 13 q (nI m) := g1
  subst g4
  dsimp only at g2 g3 ⊢
  refine ⟨?_, M.setTr hq ?_ ?_ ?_ ?_ ?_ ?_ ?_ g3 g2⟩
  · rw [jup_n _ _ (by decide), jup_n _ _ (by decide), e05]
  · rw [jup_n _ _ (by decide), jup_n _ _ (by decide)]; exact thrR M.now 0
  · intro i hi
    rw [jup_n _ _ (by decide), jup_n _ _ (by decide), jup_s, upd_n _ _ (by omega)]
  · intro c hc
    rw [jup_n _ _ (by omega), jup_n _ _ (by omega), jup_n _ _ (by omega)]
  · intro i hi
    rw [jup_n _ _ (by decide), jup_s, upd_n _ _ hi, jup_n _ _ (by decide)]
  · intro i hi
    rw [jup_s, upd_n _ _ hi, jup_n _ _ (by decide), jup_n _ _ (by decide)]
  · rw [jup_n _ _ (by decide), jup_s, upd_s]
  · rw [jup_s, upd_s]
theorem case_40 (hN : 2000 ≤ N) (hL : LR G J s) : Ok (p_case_40 N xs G J i) (fun r => ∃ s, LR r.1 r.2 s) := by
  have X := hL.1.w
  unfold p_case_40 p_L_tray
  generalize xs (i + 1).toNatClampNeg = x
  generalize xs (i + 2).toNatClampNeg = y
  generalize xs (i + 3).toNatClampNeg = z
  have ty : y.toInt64.toInt = y.toInt := Int32.toInt_toInt64 y
  have tz : z.toInt64.toInt = z.toInt := Int32.toInt_toInt64 z
  have y0 : (y < 0) = (y.toInt < 0) := propext (Int32.lt_iff_toInt_lt.trans (by rfl))
  have y3 : (3 < y) = (3 < y.toInt) := propext (Int32.lt_iff_toInt_lt.trans (by rfl))
  have z0 : (z < 0) = (z.toInt < 0) := propext (Int32.lt_iff_toInt_lt.trans (by rfl))
  have z4 : (z ≤ 40) = (z.toInt ≤ 40) := propext (Int32.le_iff_toInt_le.trans (by rfl))
  have e4 : (4 : Int32) = nI 4 := by decide
  by_cases hx : ∃ q, q < 4 ∧ x = nI q
  · obtain ⟨q, hq, rfl⟩ := hx
    by_cases hy : (0 ≤ y.toInt ∧ y.toInt ≤ 3) ∧ (0 ≤ z.toInt ∧ z.toInt ≤ 40)
    · obtain ⟨so, hso, rfl⟩ : ∃ w : Nat, w < 4 ∧ y = nI w := ⟨y.toInt.toNat, by omega, iiN (by omega) (by omega)⟩
      obtain ⟨m, hm, rfl⟩ : ∃ w : Nat, w ≤ 40 ∧ z = nI w := ⟨z.toInt.toNat, by omega, iiN (by omega) (by omega)⟩
      have key : Ok (p_X5_tray N (jvw (jv2 G 0 70 85) 0) (jvw (jv2 J 0 70 85) 0) (nI q) (nI so) (nI m)) (fun o => ∃ G1 J1, o = .inr (G1, J1) ∧ CX G1 J1 (s.setTr q so m (fun _ => 0))) := by
        unfold p_X5_tray
        rw [if_neg (nI_pos (by omega)), e4, if_pos (nI_lt hq (by omega)), if_neg (by rw [y0]; omega), if_neg (by rw [y3]; omega), if_neg (by rw [z0]; omega), if_pos (by rw [z4]; omega), if_pos (jinT hq (by omega)), zcl (by omega)]
        rcases (by omega : q = 0 ∨ q = 1 ∨ q = 2 ∨ q = 3) with h | h | h | h <;> subst h
        · rw [if_pos rfl]; exact x_layB hN X (q := 0) hq rfl
        · rw [if_neg (by decide), if_pos rfl]; exact x_layB hN X (q := 1) hq rfl
        · rw [if_neg (by decide), if_neg (by decide), if_pos rfl]; exact x_layB hN X (q := 2) hq rfl
        · rw [if_neg (by decide), if_neg (by decide), if_neg (by decide), if_pos rfl]; exact x_layB hN X (q := 3) hq rfl
      obtain ⟨o, f1, G1, J1, f2, f3⟩ := key
      refine k_T hL (m := fun g j => p_X6_tray N g j (nI q) (nI so) (nI m)) 0 (s.setTr q so m (fun _ => 0)) (hL.2.2.setTr hso hm) (Or.inl ⟨G1, J1, ?_, rfl, f3⟩) ?_
      · rw [f1, f2]
      · intro g j M
        unfold p_X6_tray
        rw [m_isTray hq, Option.bind_some, if_neg i10, w_t (by rw [w_0, L3, ty]; omega), Option.bind_some, if_neg i10, w_t (by rw [w_0, L40, tz]; omega), Option.bind_some, if_neg i10]
        exact m_trayOk hN M hq
    · refine k_T hL (m := fun g j => p_X6_tray N g j (nI q) y z) 2 s hL.2.2 (Or.inr ⟨3, ?_, rfl, rfl⟩) ?_
      · unfold p_X5_tray p_X5_tray_b36
        rw [if_neg (nI_pos (by omega)), e4, if_pos (nI_lt hq (by omega))]
        by_cases h1 : y < 0
        · rw [if_pos h1]
        · rw [if_neg h1]
          by_cases h2 : 3 < y
          · rw [if_pos h2]
          · rw [if_neg h2]
            by_cases h3 : z < 0
            · rw [if_pos h3]
            · rw [if_neg h3, if_neg (by rw [z4]; rw [y0] at h1; rw [y3] at h2; rw [z0] at h3; omega)]
      · intro g j M
        have fin : Ok (p_X6_tray_b41 N g j (nI q) y z 2) (fun r => r.1 0 5 = 2 ∧ CM r.1 r.2 s) := by
          unfold p_X6_tray_b41
          rw [jlt_eq, if_neg (by rw [e05]; decide)]
          exact Ok.s ⟨e05 (G := g) 2, M.thr 2⟩
        unfold p_X6_tray p_X6_tray_b36
        rw [m_isTray hq, Option.bind_some, if_neg i10]
        by_cases h1 : 0 ≤ y.toInt ∧ y.toInt ≤ 3
        · rw [w_t (by rw [w_0, L3, ty]; exact h1), Option.bind_some, if_neg i10, w_f (by rw [w_0, L40, tz]; exact fun h => hy ⟨h1, h⟩), Option.bind_some, if_pos rfl]
          exact fin
        · rw [w_f (by rw [w_0, L3, ty]; exact h1), Option.bind_some, if_pos rfl]
          exact fin
  · refine k_T hL (m := fun g j => p_X6_tray N g j x y z) 1 s hL.2.2 (Or.inr ⟨1, ?_, rfl, rfl⟩) ?_
    · unfold p_X5_tray p_X5_tray_b9
      rcases z_cases x with h | ⟨q, hq, rfl⟩
      · rw [if_pos h]
      · rw [if_neg (nI_pos hq), e4, if_neg (nI_nlt (Nat.le_of_not_lt (fun h => hx ⟨q, h, rfl⟩)) hq)]
    · intro g j M
      unfold p_X6_tray p_X6_tray_b41
      rw [m_isTrayF hx, Option.bind_some, if_pos rfl, jlt_eq, if_neg (by rw [e05]; decide)]
      exact Ok.s ⟨e05 (G := g) 1, M.thr 1⟩
/-- pour -/
def TA.pou (a : TA) (so m : Nat) : Nat → Nat → Nat → (Nat → Int64) → Nat × (Nat → Int64)
  | 0, _, k, r => (k, r)
  | n + 1, d, k, r => if m ≤ k then (k, r) else if a.st d = true then TA.pou a so m n (d + 1) (k + 1) (vp_updL r k (cutS so (a.pr d).toInt64)) else TA.pou a so m n (d + 1) k r
theorem setTr2 (s : SA) (q so m : Nat) (r r2 : Nat → Int64) : (s.setTr q so m r).setTr q so m r2 = s.setTr q so m r2 := by
  unfold SA.setTr
  congr 1
  funext i
  show (if i = q then some (so, m, r2) else (if i = q then some (so, m, r) else s.tr i)) = _
  by_cases e : i = q
  · rw [if_pos e, if_pos e]
  · rw [if_neg e, if_neg e, if_neg e]
theorem setTrS (s : SA) (q so m : Nat) (r : Nat → Int64) : (s.setTr q so m r).tr q = some (so, m, r) := if_pos rfl
theorem setTr_id {q so m : Nat} {r : Nat → Int64} (h : s.tr q = some (so, m, r)) : s.setTr q so m r = s := by
  have : (fun i => if i = q then some (so, m, r) else s.tr i) = s.tr := by
    funext i
    by_cases e : i = q
    · rw [if_pos e, e, h]
    · rw [if_neg e]
  unfold SA.setTr
  rw [this]
  rfl
theorem x_pour62 {so m : Nat} (I : s.I) (hso : so < 4) (hm : m ≤ 40) : ∀ (n d k f : Nat) (r : Nat → Int64) (J : Nat → Nat → Int64), CX G J (s.setTr 0 so m r) → d + n = s.now.nd → k ≤ d → n < f → Ok (p_X5_pour_b11 N G f J (nI k) (nI d)) (fun o => ∃ J2, o = .inr (nI (s.now.pou so m n d k r).1, J2) ∧ CX G J2 (s.setTr 0 so m (s.now.pou so m n d k r).2))
  | 0, d, k, f, r, J, X, hd, hkd, hf => by
    obtain ⟨p, rfl⟩ : ∃ p, f = p + 1 := ⟨f - 1, by omega⟩
    have h1 := I.now.nd
    have e7 : G 1 7 = nI s.now.nd := X.now.nd
    rw [p_X5_pour_b11, e7, if_pos (nI_le (by omega) (by omega))]
    exact Ok.s ⟨J, rfl, X⟩
  | n + 1, d, k, f, r, J, X, hd, hkd, hf => by
    obtain ⟨p, rfl⟩ : ∃ p, f = p + 1 := ⟨f - 1, by omega⟩
    have h1 := I.now.nd
    have e7 : G 1 7 = nI s.now.nd := X.now.nd
    obtain ⟨t0, t1, t3, t4⟩ := X.trS 0 so m r (by omega) (setTrS s 0 so m r)
    have t1' : G 62 1 = nI m := t1
    have e8 : G 8 d = s.now.pr d := X.now.pr d (by show d < s.now.nd; omega)
    have est : p_X3_stands N (jvw G 1) (nI d) = some (bI (s.now.st d)) := c_stands X.now (by omega)
    rw [p_X5_pour_b11, e7, if_neg (nI_ge (by omega) (by omega)), t1', est, Option.bind_some, TA.pou]
    by_cases hk : m ≤ k
    · rw [if_pos hk, if_pos (nI_le hk (by omega))]
      exact Ok.s ⟨J, rfl, X⟩
    · rw [if_neg hk, if_neg (nI_ge (by omega) (by omega))]
      cases hst : s.now.st d
      · rw [bI_f, if_pos rfl, p_X5_pour_b62, nI_1, if_neg (by decide)]
        exact x_pour62 I hso hm n (d + 1) k p r J X (by omega) (by omega) (by omega)
      · rw [bI_t, if_neg i10, if_pos (jinT (by omega) (by omega)), zcl (by omega), e8, x_put (q := 0) (show G 62 3 = nI so from t3) hso (by omega), Option.bind_some, jlt_eq, p_X5_pour_b62, nI_1, nI_1, if_pos rfl]
        have X2 := X.wr1 (I.setTr hso hm) (q := 0) (p := k) (v := cutS so (s.now.pr d).toInt64) (by omega) (setTrS s 0 so m r)
        rw [setTr2] at X2
        exact x_pour62 I hso hm n (d + 1) (k + 1) p _ _ X2 (by omega) (by omega) (by omega)
theorem x_pour64 {so m : Nat} (I : s.I) (hso : so < 4) (hm : m ≤ 40) : ∀ (n d k f : Nat) (r : Nat → Int64) (J : Nat → Nat → Int64), CX G J (s.setTr 1 so m r) → d + n = s.now.nd → k ≤ d → n < f → Ok (p_X5_pour_b11a N G f J (nI k) (nI d)) (fun o => ∃ J2, o = .inr (nI (s.now.pou so m n d k r).1, J2) ∧ CX G J2 (s.setTr 1 so m (s.now.pou so m n d k r).2))
  | 0, d, k, f, r, J, X, hd, hkd, hf => by
    obtain ⟨p, rfl⟩ : ∃ p, f = p + 1 := ⟨f - 1, by omega⟩
    have h1 := I.now.nd
    have e7 : G 1 7 = nI s.now.nd := X.now.nd
    rw [p_X5_pour_b11a, e7, if_pos (nI_le (by omega) (by omega))]
    exact Ok.s ⟨J, rfl, X⟩
  | n + 1, d, k, f, r, J, X, hd, hkd, hf => by
    obtain ⟨p, rfl⟩ : ∃ p, f = p + 1 := ⟨f - 1, by omega⟩
    have h1 := I.now.nd
    have e7 : G 1 7 = nI s.now.nd := X.now.nd
    obtain ⟨t0, t1, t3, t4⟩ := X.trS 1 so m r (by omega) (setTrS s 1 so m r)
    have t1' : G 64 1 = nI m := t1
    have e8 : G 8 d = s.now.pr d := X.now.pr d (by show d < s.now.nd; omega)
    have est : p_X3_stands N (jvw G 1) (nI d) = some (bI (s.now.st d)) := c_stands X.now (by omega)
    rw [p_X5_pour_b11a, e7, if_neg (nI_ge (by omega) (by omega)), t1', est, Option.bind_some, TA.pou]
    by_cases hk : m ≤ k
    · rw [if_pos hk, if_pos (nI_le hk (by omega))]
      exact Ok.s ⟨J, rfl, X⟩
    · rw [if_neg hk, if_neg (nI_ge (by omega) (by omega))]
      cases hst : s.now.st d
      · rw [bI_f, if_pos rfl, p_X5_pour_b62a, nI_1, if_neg (by decide)]
        exact x_pour64 I hso hm n (d + 1) k p r J X (by omega) (by omega) (by omega)
      · rw [bI_t, if_neg i10, if_pos (jinT (by omega) (by omega)), zcl (by omega), e8, x_put (q := 1) (show G 64 3 = nI so from t3) hso (by omega), Option.bind_some, jlt_eq, p_X5_pour_b62a, nI_1, nI_1, if_pos rfl]
        have X2 := X.wr1 (I.setTr hso hm) (q := 1) (p := k) (v := cutS so (s.now.pr d).toInt64) (by omega) (setTrS s 1 so m r)
        rw [setTr2] at X2
        exact x_pour64 I hso hm n (d + 1) (k + 1) p _ _ X2 (by omega) (by omega) (by omega)
theorem x_pour66 {so m : Nat} (I : s.I) (hso : so < 4) (hm : m ≤ 40) : ∀ (n d k f : Nat) (r : Nat → Int64) (J : Nat → Nat → Int64), CX G J (s.setTr 2 so m r) → d + n = s.now.nd → k ≤ d → n < f → Ok (p_X5_pour_b11b N G f J (nI k) (nI d)) (fun o => ∃ J2, o = .inr (nI (s.now.pou so m n d k r).1, J2) ∧ CX G J2 (s.setTr 2 so m (s.now.pou so m n d k r).2))
  | 0, d, k, f, r, J, X, hd, hkd, hf => by
    obtain ⟨p, rfl⟩ : ∃ p, f = p + 1 := ⟨f - 1, by omega⟩
    have h1 := I.now.nd
    have e7 : G 1 7 = nI s.now.nd := X.now.nd
    rw [p_X5_pour_b11b, e7, if_pos (nI_le (by omega) (by omega))]
    exact Ok.s ⟨J, rfl, X⟩
  | n + 1, d, k, f, r, J, X, hd, hkd, hf => by
    obtain ⟨p, rfl⟩ : ∃ p, f = p + 1 := ⟨f - 1, by omega⟩
    have h1 := I.now.nd
    have e7 : G 1 7 = nI s.now.nd := X.now.nd
    obtain ⟨t0, t1, t3, t4⟩ := X.trS 2 so m r (by omega) (setTrS s 2 so m r)
    have t1' : G 66 1 = nI m := t1
    have e8 : G 8 d = s.now.pr d := X.now.pr d (by show d < s.now.nd; omega)
    have est : p_X3_stands N (jvw G 1) (nI d) = some (bI (s.now.st d)) := c_stands X.now (by omega)
    rw [p_X5_pour_b11b, e7, if_neg (nI_ge (by omega) (by omega)), t1', est, Option.bind_some, TA.pou]
    by_cases hk : m ≤ k
    · rw [if_pos hk, if_pos (nI_le hk (by omega))]
      exact Ok.s ⟨J, rfl, X⟩
    · rw [if_neg hk, if_neg (nI_ge (by omega) (by omega))]
      cases hst : s.now.st d
      · rw [bI_f, if_pos rfl, p_X5_pour_b62b, nI_1, if_neg (by decide)]
        exact x_pour66 I hso hm n (d + 1) k p r J X (by omega) (by omega) (by omega)
      · rw [bI_t, if_neg i10, if_pos (jinT (by omega) (by omega)), zcl (by omega), e8, x_put (q := 2) (show G 66 3 = nI so from t3) hso (by omega), Option.bind_some, jlt_eq, p_X5_pour_b62b, nI_1, nI_1, if_pos rfl]
        have X2 := X.wr1 (I.setTr hso hm) (q := 2) (p := k) (v := cutS so (s.now.pr d).toInt64) (by omega) (setTrS s 2 so m r)
        rw [setTr2] at X2
        exact x_pour66 I hso hm n (d + 1) (k + 1) p _ _ X2 (by omega) (by omega) (by omega)
theorem x_pour68 {so m : Nat} (I : s.I) (hso : so < 4) (hm : m ≤ 40) : ∀ (n d k f : Nat) (r : Nat → Int64) (J : Nat → Nat → Int64), CX G J (s.setTr 3 so m r) → d + n = s.now.nd → k ≤ d → n < f → Ok (p_X5_pour_b11c N G f J (nI k) (nI d)) (fun o => ∃ J2, o = .inr (nI (s.now.pou so m n d k r).1, J2) ∧ CX G J2 (s.setTr 3 so m (s.now.pou so m n d k r).2))
  | 0, d, k, f, r, J, X, hd, hkd, hf => by
    obtain ⟨p, rfl⟩ : ∃ p, f = p + 1 := ⟨f - 1, by omega⟩
    have h1 := I.now.nd
    have e7 : G 1 7 = nI s.now.nd := X.now.nd
    rw [p_X5_pour_b11c, e7, if_pos (nI_le (by omega) (by omega))]
    exact Ok.s ⟨J, rfl, X⟩
  | n + 1, d, k, f, r, J, X, hd, hkd, hf => by
    obtain ⟨p, rfl⟩ : ∃ p, f = p + 1 := ⟨f - 1, by omega⟩
    have h1 := I.now.nd
    have e7 : G 1 7 = nI s.now.nd := X.now.nd
    obtain ⟨t0, t1, t3, t4⟩ := X.trS 3 so m r (by omega) (setTrS s 3 so m r)
    have t1' : G 68 1 = nI m := t1
    have e8 : G 8 d = s.now.pr d := X.now.pr d (by show d < s.now.nd; omega)
    have est : p_X3_stands N (jvw G 1) (nI d) = some (bI (s.now.st d)) := c_stands X.now (by omega)
    rw [p_X5_pour_b11c, e7, if_neg (nI_ge (by omega) (by omega)), t1', est, Option.bind_some, TA.pou]
    by_cases hk : m ≤ k
    · rw [if_pos hk, if_pos (nI_le hk (by omega))]
      exact Ok.s ⟨J, rfl, X⟩
    · rw [if_neg hk, if_neg (nI_ge (by omega) (by omega))]
      cases hst : s.now.st d
      · rw [bI_f, if_pos rfl, p_X5_pour_b62c, nI_1, if_neg (by decide)]
        exact x_pour68 I hso hm n (d + 1) k p r J X (by omega) (by omega) (by omega)
      · rw [bI_t, if_neg i10, if_pos (jinT (by omega) (by omega)), zcl (by omega), e8, x_put (q := 3) (show G 68 3 = nI so from t3) hso (by omega), Option.bind_some, jlt_eq, p_X5_pour_b62c, nI_1, nI_1, if_pos rfl]
        have X2 := X.wr1 (I.setTr hso hm) (q := 3) (p := k) (v := cutS so (s.now.pr d).toInt64) (by omega) (setTrS s 3 so m r)
        rw [setTr2] at X2
        exact x_pour68 I hso hm n (d + 1) (k + 1) p _ _ X2 (by omega) (by omega) (by omega)
theorem m_pour {q so m : Nat} (hq : q < 4) (I : s.I) (hso : so < 4) (hm : m ≤ 40) : ∀ (n d k f : Nat) (r : Nat → Int64) (J : Nat → Nat → Int64), CM G J (s.setTr q so m r) → d + n = s.now.nd → k ≤ d → n < f → Ok (p_X6_pour_b22 N f G J (nI q) (nI k) (nI d)) (fun o => o.1 = nI (s.now.pou so m n d k r).1 ∧ o.2.1 = G ∧ CM G o.2.2 (s.setTr q so m (s.now.pou so m n d k r).2))
  | 0, d, k, f, r, J, M, hd, hkd, hf => by
    obtain ⟨p, rfl⟩ : ∃ p, f = p + 1 := ⟨f - 1, by omega⟩
    have h1 := I.now.nd
    have e7 : G 1 7 = nI s.now.nd := M.now.nd
    rw [p_X6_pour_b22, e7, if_pos (nI_le (by omega) (by omega))]
    exact Ok.s ⟨rfl, rfl, M⟩
  | n + 1, d, k, f, r, J, M, hd, hkd, hf => by
    obtain ⟨p, rfl⟩ : ∃ p, f = p + 1 := ⟨f - 1, by omega⟩
    have h1 := I.now.nd
    have e7 : G 1 7 = nI s.now.nd := M.now.nd
    obtain ⟨t1, t2, t3⟩ := M.trS q so m r hq (setTrS s q so m r)
    have R : RM (G 1) s.now := M.now
    rw [p_X6_pour_b22, e7, if_neg (nI_ge (by omega) (by omega)), if_pos (jinT hq (by omega)), zcl (by omega), t2, TA.pou]
    by_cases hk : m ≤ k
    · rw [if_pos hk, if_pos (nI_le hk (by omega))]
      exact Ok.s ⟨rfl, rfl, M⟩
    · rw [if_neg hk, if_neg (nI_ge (by omega) (by omega)), m_of4 R I.now.nd (show d < s.now.nd by omega), Option.bind_some]
      cases hst : s.now.st d
      · rw [bI_f, if_pos rfl, p_X6_pour_b72, nI_1, if_neg (by decide)]
        exact m_pour hq I hso hm n (d + 1) k p r J M (by omega) (by omega) (by omega)
      · rw [bI_t, if_neg i10, m_of3 R I.now.nd (show d < s.now.nd by omega), Option.bind_some, m_cut (m := m) (r := r) M (I.setTr hso hm) hq (by omega) t1 hso, Option.bind_some, jlt_eq, p_X6_pour_b72, nI_1, nI_1, if_pos rfl]
        have M2 := M.wr1 (v := cutS so (s.now.pr d).toInt64) hq (show k < 40 by omega) (setTrS s q so m r)
        rw [setTr2] at M2
        exact m_pour hq I hso hm n (d + 1) (k + 1) p _ _ M2 (by omega) (by omega) (by omega)
theorem case_42 (hN : 2000 ≤ N) (hL : LR G J s) : Ok (p_case_42 N xs G J i) (fun r => ∃ s, LR r.1 r.2 s) := by
  have X := hL.1.w
  have I := hL.2.2
  have h1 := I.now.nd
  unfold p_case_42 p_L_pour
  generalize xs (i + 1).toNatClampNeg = x
  by_cases hx : ∃ q, q < 4 ∧ x = nI q
  · obtain ⟨q, hq, rfl⟩ := hx
    cases hs : s.tr q with
    | none =>
      refine k_W (fun z : Int32 => z.toInt64) hL (m := fun j => p_X6_pour N (jvw G 70) j (nI q)) 2 0 s hL.2.2 (Or.inr ⟨2, ?_, by decide, rfl, rfl⟩) ?_
      · unfold p_X5_pour
        rw [x_trN X hq hs, jbx_l]
      · intro j M
        unfold p_X6_pour
        rw [m_trN M hq hs, Option.bind_some, jlt_eq, if_neg (by rw [e05]; decide)]
        exact Ok.s ⟨fun h => absurd h i20, e05 (G := jvw G 70) 2, M.thr 2⟩
    | some z =>
      obtain ⟨so, m, r⟩ := z
      obtain ⟨hso, hm⟩ := I.tr q so m r hs
      have Xq : CX (jvw (jv2 G 0 70 85) 0) (jvw (jv2 J 0 70 85) 0) (s.setTr q so m r) := by rw [setTr_id hs]; exact X
      have key : Ok (p_X5_pour N (jvw (jv2 G 0 70 85) 0) (jvw (jv2 J 0 70 85) 0) (nI q)) (fun o => ∃ J2, o = .inr (nI (s.now.pou so m s.now.nd 0 0 r).1, J2) ∧ CX (jvw (jv2 G 0 70 85) 0) J2 (s.setTr q so m (s.now.pou so m s.now.nd 0 0 r).2)) := by
        unfold p_X5_pour
        rw [x_trS X hq hs, jbx_r]
        rcases (by omega : q = 0 ∨ q = 1 ∨ q = 2 ∨ q = 3) with h | h | h | h <;> subst h
        · rw [if_pos rfl]; exact x_pour62 I hso hm s.now.nd 0 0 N r _ Xq (by omega) (by omega) (by omega)
        · rw [if_neg (by decide), if_pos rfl]; exact x_pour64 I hso hm s.now.nd 0 0 N r _ Xq (by omega) (by omega) (by omega)
        · rw [if_neg (by decide), if_neg (by decide), if_pos rfl]; exact x_pour66 I hso hm s.now.nd 0 0 N r _ Xq (by omega) (by omega) (by omega)
        · rw [if_neg (by decide), if_neg (by decide), if_neg (by decide), if_pos rfl]; exact x_pour68 I hso hm s.now.nd 0 0 N r _ Xq (by omega) (by omega) (by omega)
      obtain ⟨o, f1, J1, f2, f3⟩ := key
      refine k_W (fun z : Int32 => z.toInt64) hL (m := fun j => p_X6_pour N (jvw G 70) j (nI q)) 0 (nI (s.now.pou so m s.now.nd 0 0 r).1) (s.setTr q so m (s.now.pou so m s.now.nd 0 0 r).2) (I.setTr hso hm) (Or.inl ⟨J1, ?_, rfl, f3⟩) ?_
      · rw [f1, f2]
      · intro j M
        unfold p_X6_pour
        rw [m_trS M I hq hs, Option.bind_some, jlt_eq, if_pos (by rw [e05]; decide)]
        have Mq : CM (jup (jvw G 70) 0 5 0) j (s.setTr q so m r) := by rw [setTr_id hs]; exact M.thr 0
        refine (m_pour hq I hso hm s.now.nd 0 0 N r j Mq (by omega) (by omega) (by omega)).c ?_
        rintro ⟨w, g, j2⟩ ⟨o1, o2, o3⟩
        have o4 : g = jup (jvw G 70) 0 5 0 := o2
        subst o4
        exact ⟨fun _ => o1, e05 (G := jvw G 70) 0, o3⟩
  · refine k_W (fun z : Int32 => z.toInt64) hL (m := fun j => p_X6_pour N (jvw G 70) j x) 1 0 s hL.2.2 (Or.inr ⟨1, ?_, by decide, rfl, rfl⟩) ?_
    · unfold p_X5_pour
      rw [x_trF hx, jbx_l]
    · intro j M
      unfold p_X6_pour
      rw [m_trF hx, Option.bind_some, jlt_eq, if_neg (by rw [e05]; decide)]
      exact Ok.s ⟨fun h => absurd h i10, e05 (G := jvw G 70) 1, M.thr 1⟩
end pour

/-! trays -/
def SA.setTr (s : SA) (q so m : Nat) (r : Nat → Int64) : SA := SA.mk s.now s.im s.tp s.ln s.wr s.pl (fun i => if i = q then some (so, m, r) else s.tr i)
theorem SA.I.setTr {s : SA} {q so m : Nat} {r : Nat → Int64} (I : s.I) (h1 : so < 4) (h2 : m ≤ 40) : (s.setTr q so m r).I := by
  refine ⟨I.now, I.im, I.ln, I.tp, ?_⟩
  intro i so2 m2 r2 hb
  have hb2 : (if i = q then some (so, m, r) else s.tr i) = some (so2, m2, r2) := hb
  by_cases e : i = q
  · rw [if_pos e] at hb2
    cases hb2; exact ⟨h1, h2⟩
  · rw [if_neg e] at hb2; exact I.tr i so2 m2 r2 hb2
section trays
variable {N : Nat} {G G2 : Nat → Nat → Int32} {J J2 : Nat → Nat → Int64} {a : TA} {s s2 : SA} {xs : Nat → Int32} {i : Int32}
theorem x_trS (X : CX G J s) {q so m : Nat} {r : Nat → Int64} (hq : q < 4) (hs : s.tr q = some (so, m, r)) : p_X5_needTray N G J (nI q) = some (.inr (62 + 2 * q)) := by
  have e := (X.trS q so m r hq hs).1
  have e4 : (4 : Int32) = nI 4 := by decide
  unfold p_X5_needTray
  rw [if_neg (nI_pos (by omega)), e4, if_pos (nI_lt hq (by omega)), if_pos (jinT hq (by omega)), if_pos (jinT hq (by omega)), zcl (by omega)]
  rcases (by omega : q = 0 ∨ q = 1 ∨ q = 2 ∨ q = 3) with h | h | h | h <;> subst h
  · rw [if_pos rfl, if_pos (show G 62 0 = 0 from e), if_pos rfl]
  · rw [if_neg (by decide), if_pos rfl, if_pos (show G 64 0 = 0 from e), if_neg (by decide), if_pos rfl]
  · rw [if_neg (by decide), if_neg (by decide), if_pos rfl, if_pos (show G 66 0 = 0 from e), if_neg (by decide), if_neg (by decide), if_pos rfl]
  · rw [if_neg (by decide), if_neg (by decide), if_neg (by decide), if_pos rfl, if_pos (show G 68 0 = 0 from e), if_neg (by decide), if_neg (by decide), if_neg (by decide), if_pos rfl]
theorem x_trN (X : CX G J s) {q : Nat} (hq : q < 4) (hs : s.tr q = none) : p_X5_needTray N G J (nI q) = some (.inl 2) := by
  have e := X.trN q hq hs
  have e4 : (4 : Int32) = nI 4 := by decide
  have c : ∀ x : Int32, x = 1 → ¬ x = 0 := fun x h => by rw [h]; decide
  unfold p_X5_needTray
  rw [if_neg (nI_pos (by omega)), e4, if_pos (nI_lt hq (by omega)), if_pos (jinT hq (by omega)), zcl (by omega)]
  rcases (by omega : q = 0 ∨ q = 1 ∨ q = 2 ∨ q = 3) with h | h | h | h <;> subst h
  · rw [if_pos rfl, if_neg (c _ (show G 62 0 = 1 from e))]
  · rw [if_neg (by decide), if_pos rfl, if_neg (c _ (show G 64 0 = 1 from e))]
  · rw [if_neg (by decide), if_neg (by decide), if_pos rfl, if_neg (c _ (show G 66 0 = 1 from e))]
  · rw [if_neg (by decide), if_neg (by decide), if_neg (by decide), if_pos rfl, if_neg (c _ (show G 68 0 = 1 from e))]
theorem x_trF {x : Int32} (h : ¬ ∃ q, q < 4 ∧ x = nI q) : p_X5_needTray N G J x = some (.inl 1) := by
  have e4 : (4 : Int32) = nI 4 := by decide
  unfold p_X5_needTray p_X5_needTray_b9
  rcases z_cases x with hx | ⟨q, hq, rfl⟩
  · rw [if_pos hx]
  · rw [if_neg (nI_pos hq), e4, if_neg (nI_nlt (Nat.le_of_not_lt (fun h2 => h ⟨q, h2, rfl⟩)) hq)]
theorem L3 : (3 : Int64).toInt = 3 := by decide
theorem m_isTray {q : Nat} (hq : q < 4) : p_X6_isTray N (nI q) = some 1 := by
  unfold p_X6_isTray
  rw [w_t (by rw [w_0, L3, w_n (by omega)]; omega)]
  rfl
theorem m_isTrayF {x : Int32} (h : ¬ ∃ q, q < 4 ∧ x = nI q) : p_X6_isTray N x = some 0 := by
  unfold p_X6_isTray
  rw [w_f (by
    rw [w_0, L3, Int32.toInt_toInt64]
    rintro ⟨h1, h2⟩
    exact h ⟨x.toInt.toNat, by omega, iiN (by omega) (by omega)⟩)]
  rfl
theorem so_m1 {so : Nat} (h : so < 4) : ¬ nI so = -1 := fun e => by
  have : (nI so).toInt = (-1 : Int32).toInt := congrArg Int32.toInt e
  rw [nI_toInt (by omega)] at this
  have e2 : (-1 : Int32).toInt = -1 := by decide
  omega
theorem m_trS (M : CM G J s) (I : s.I) {q so m : Nat} {r : Nat → Int64} (hq : q < 4) (hs : s.tr q = some (so, m, r)) : p_X6_trayFault N G J (nI q) = some 0 := by
  have e := (M.trS q so m r hq hs).1
  have h4 := (I.tr q so m r hs).1
  unfold p_X6_trayFault
  rw [m_isTray hq, Option.bind_some, if_neg i10, if_pos (jinT hq (by omega)), zcl (by omega), e, if_neg (so_m1 h4)]
theorem m_trN (M : CM G J s) {q : Nat} (hq : q < 4) (hs : s.tr q = none) : p_X6_trayFault N G J (nI q) = some 2 := by
  have e := M.trN q hq hs
  unfold p_X6_trayFault
  rw [m_isTray hq, Option.bind_some, if_neg i10, if_pos (jinT hq (by omega)), zcl (by omega), e, if_pos rfl]
theorem m_trF {x : Int32} (h : ¬ ∃ q, q < 4 ∧ x = nI q) : p_X6_trayFault N G J x = some 1 := by
  unfold p_X6_trayFault
  rw [m_isTrayF h, Option.bind_some, if_pos rfl]
/-- what an undoing told as a number says -/
def tK (v : Int64) : Nat := v.toInt.toNat
def TA.whyT (a : TA) (v : Int64) : Int32 := if v.toInt < 0 then 1 else if a.nd ≤ tK v / 2 then 1 else a.whyU (tK v / 2) (a.sd (tK v))
theorem tK_l {v : Int64} (h : ¬ v.toInt < 0) : v = lN (tK v) := by
  apply Int64.toInt_inj.mp
  unfold tK
  have := Int64.toInt_lt v
  rw [pk_lT (by omega)]
  omega
theorem tK_lt (v : Int64) : tK v < 9223372036854775808 := by
  unfold tK
  have := Int64.toInt_lt v
  omega
theorem l_half {k : Nat} (h : k < 9223372036854775808) : lN k >>> ((1 : Int32).toInt64 &&& 63) = lN (k / 2) := by
  apply Int64.toBitVec_inj.mp
  rw [Int64.toBitVec_shiftRight]
  have e : (((1 : Int32).toInt64 &&& 63).toBitVec.smod 64) = 1#64 := by decide
  rw [e]
  show (BitVec.ofNat 64 k).sshiftRight' 1#64 = BitVec.ofNat 64 (k / 2)
  apply BitVec.eq_of_toInt_eq
  rw [BitVec.toInt_sshiftRight', BitVec.toInt_ofNat', BitVec.toInt_ofNat']
  rw [Int.bmod_eq_of_le (by omega) (by omega), Int.bmod_eq_of_le (by omega) (by omega)]
  show (k : Int) >>> 1 = _
  rw [Int.shiftRight_eq_div_pow]
  omega
theorem l_half2 {k : Nat} (h : k < 9223372036854775808) : lN k / 2 = lN (k / 2) := by
  have e : (2 : Int64) = lN 2 := by decide
  rw [e]
  exact pk_lDiv h (by omega) (by omega)
theorem l_odd {k : Nat} : lN k &&& (1 : Int64) = lN (k % 2) := by
  apply Int64.toBitVec_inj.mp
  rw [Int64.toBitVec_and]
  show BitVec.ofNat 64 k &&& BitVec.ofNat 64 1 = BitVec.ofNat 64 (k % 2)
  apply BitVec.eq_of_getLsbD_eq
  intro i hi
  simp only [BitVec.getLsbD_and, BitVec.getLsbD_ofNat, hi, decide_true, Bool.true_and]
  rw [← Nat.testBit_and, Nat.and_one_is_mod]
theorem x_whyT (hN : 2000 ≤ N) (R : RC G a) (I : a.I) (v : Int64) : p_X5_whyNoTold N G v = some (a.whyT v) := by
  have h1 := I.nd
  unfold p_X5_whyNoTold TA.whyT
  have c0 : (lg_cmp v 0 < 0) ↔ v.toInt < 0 := (lg_cmp_lt v 0).trans (Int64.lt_iff_toInt_lt.trans (by rfl))
  by_cases h : v.toInt < 0
  · rw [if_pos (c0.mpr h), if_pos h]
  · rw [if_neg (fun e => h (c0.mp e)), if_neg h]
    have hv := tK_l h
    have hl := tK_lt v
    generalize tK v = k at hv hl
    subst hv
    rw [l_half hl, l_odd, R.nd]
    have cd : (lg_cmp (lN (k / 2)) (nI a.nd).toInt64 < 0) ↔ k / 2 < a.nd := (lg_cmp_lt _ _).trans (by rw [nI_l (by omega)]; exact pk_lLT (by omega) (by omega))
    by_cases h2 : a.nd ≤ k / 2
    · rw [if_neg (fun e => by have := cd.mp e; omega), if_pos h2]
    · have hd : k / 2 < a.nd := by omega
      rw [if_pos (cd.mpr hd), if_neg h2, lN_i, lN_i, c_side R I hd, Option.bind_some, c_whyU hN R I hd (sd_lt I hd), Option.bind_some]
theorem m_byTold (R : RM (G 1) a) (I : a.I) {k : Nat} (hd : k / 2 < a.nd) : p_X6_byTold N G J (nI k) = some (nI (a.sd k)) := by
  have h1 := I.nd
  have e2 : (2 : Int32) = nI 2 := by decide
  unfold p_X6_byTold p_X6_byTold_b15 TA.sd
  have er : nI k - nI k / 2 * 2 = nI (k % 2) := by rw [e2]; exact pk_rem (by omega) (by omega) (by omega)
  have ed : nI k / 2 = nI (k / 2) := by rw [e2]; exact pk_div (by omega) (by omega) (by omega)
  rw [er, ed]
  rcases Nat.mod_two_eq_zero_or_one k with h | h
  · rw [h, if_pos (by decide), if_pos rfl, m_of1 R I.nd hd]; rfl
  · rw [h, if_neg (by decide), if_neg (by decide), m_of2 R I.nd hd]; rfl
theorem m_whyT (hN : 2000 ≤ N) (R : RM (G 1) a) (I : a.I) (v : Int64) : Ok (p_X6_whyTold N G J v) (fun r => r.1 = a.whyT v ∧ RM (r.2 1) a ∧ ∀ c, c ≠ 1 → c ≠ 3 → r.2 c = G c) := by
  have h1 := I.nd
  unfold p_X6_whyTold TA.whyT
  have c0 : (lg_cmp v 0 < 0) ↔ v.toInt < 0 := (lg_cmp_lt v 0).trans (Int64.lt_iff_toInt_lt.trans (by rfl))
  by_cases h : v.toInt < 0
  · rw [if_pos (c0.mpr h), if_pos h]
    exact Ok.s ⟨rfl, R, fun _ _ _ => rfl⟩
  · rw [if_neg (fun e => h (c0.mp e)), if_neg h]
    have hv := tK_l h
    have hl := tK_lt v
    generalize tK v = k at hv hl ⊢
    subst hv
    rw [l_half2 hl, m_isDeedL R I, pk_lT (by omega)]
    by_cases h2 : a.nd ≤ k / 2
    · rw [decide_eq_false (by omega), if_pos h2]
      exact Ok.s ⟨rfl, R, fun _ _ _ => rfl⟩
    · have hd : k / 2 < a.nd := by omega
      rw [decide_eq_true (by omega), if_neg h2, Option.bind_some, bI_t, if_neg i10, lN_i, m_byTold R I hd, Option.bind_some]
      refine Ok.b (m_whyNot hN R I hd (sd_lt I hd) (nI_l (by omega)).symm) ?_
      rintro ⟨w, G3⟩ hw
      exact Ok.s hw
theorem whyT0 {v : Int64} (h : a.whyT v = 0) : v = lN (tK v) ∧ tK v / 2 < a.nd ∧ a.whyU (tK v / 2) (a.sd (tK v)) = 0 := by
  unfold TA.whyT at h
  by_cases h1 : v.toInt < 0
  · rw [if_pos h1] at h; exact absurd h (by decide)
  · rw [if_neg h1] at h
    by_cases h2 : a.nd ≤ tK v / 2
    · rw [if_pos h2] at h; exact absurd h (by decide)
    · rw [if_neg h2] at h
      exact ⟨tK_l h1, by omega, h⟩
/-- told undoings done one by one -/
def TA.tol (m : Nat) (r : Nat → Int64) : Nat → Nat → TA → Nat × TA
  | 0, k, a => (k, a)
  | n + 1, k, a => if a.whyT (r k) = 0 then TA.tol m r n (k + 1) (a.fell (tK (r k) / 2) (a.sd (tK (r k)))) else (k, a)
theorem tol_I {m : Nat} {r : Nat → Int64} : ∀ (n k : Nat) (a : TA), a.I → (TA.tol m r n k a).2.I
  | 0, _, _, I => I
  | n + 1, k, a, I => by
    rw [TA.tol]
    by_cases h : a.whyT (r k) = 0
    · rw [if_pos h]
      obtain ⟨_, h2, h3⟩ := whyT0 h
      exact tol_I n _ _ (I.fell h2 (whyU0 h3))
    · rw [if_neg h]; exact I
theorem tol_end {m : Nat} {r : Nat → Int64} : ∀ (n k : Nat) (a : TA), k + n = m → (TA.tol m r n k a).1 = m ∨ ((TA.tol m r n k a).1 < m ∧ (TA.tol m r n k a).2.whyT (r (TA.tol m r n k a).1) ≠ 0)
  | 0, k, a, h => Or.inl (by rw [TA.tol]; show k = m; omega)
  | n + 1, k, a, h => by
    rw [TA.tol]
    by_cases h1 : a.whyT (r k) = 0
    · rw [if_pos h1]; exact tol_end n (k + 1) _ (by omega)
    · rw [if_neg h1]; exact Or.inr ⟨by show k < m; omega, h1⟩
theorem x_tol (hN : 2000 ≤ N) {m : Nat} {r : Nat → Int64} (hm : m ≤ 40) (hr : ∀ k, k < 40 → J 10 k = r k) : ∀ (n k f : Nat) (G : Nat → Nat → Int32) (a : TA), a.I → RC G a → G 9 1 = nI m → k + n = m → n < f → Ok (p_X5_doTold_b2 N J f G (nI k)) (fun o => o.1 = nI (TA.tol m r n k a).1 ∧ RC o.2 (TA.tol m r n k a).2 ∧ ∀ c, 9 ≤ c → o.2 c = G c)
  | 0, k, f, G, a, I, R, h9, hk, hf => by
    obtain ⟨q, rfl⟩ : ∃ q, f = q + 1 := ⟨f - 1, by omega⟩
    have e : k = m := by omega
    subst e
    rw [p_X5_doTold_b2, h9, if_pos (nI_le (Nat.le_refl _) (by omega))]
    exact Ok.s ⟨rfl, R, fun _ _ => rfl⟩
  | n + 1, k, f, G, a, I, R, h9, hk, hf => by
    obtain ⟨q, rfl⟩ : ∃ q, f = q + 1 := ⟨f - 1, by omega⟩
    have R0 : RC (jvw G 0) a := R.cg (fun c _ => by show G (0 + c) = G c; rw [Nat.zero_add])
    have h1 := I.nd
    rw [p_X5_doTold_b2, h9, if_neg (nI_ge (by omega) (by omega)), if_pos (jinT (by omega) (by omega)), zcl (by omega), hr k (by omega), x_whyT hN R0 I, Option.bind_some, TA.tol]
    by_cases h : a.whyT (r k) = 0
    · obtain ⟨v1, v2, v3⟩ := whyT0 h
      have hl := tK_lt (r k)
      rw [if_pos h, if_pos h, if_pos (jinT (by omega) (by omega)), if_pos (jinT (by omega) (by omega))]
      have s1 : ((r k) >>> ((1 : Int32).toInt64 &&& 63)).toInt32 = nI (tK (r k) / 2) := by
        rw [v1, l_half hl, lN_i, ← v1]
      have s2 : ((r k) &&& (1 : Int64)).toInt32 = nI (tK (r k) % 2) := by
        rw [v1, l_odd, lN_i, ← v1]
      rw [s1, s2, c_side R0 I v2, Option.bind_some]
      refine Ok.b (c_fell hN R0 I v2 (sd_lt I v2)) ?_
      rintro ⟨w, g⟩ ⟨_, g2, g3⟩
      rw [jlt_eq, nI_1]
      have gk : ∀ c, 9 ≤ c → jpt G 0 9 g c = G c := fun c hc => jpt_o (by omega)
      refine (x_tol hN hm hr n (k + 1) q (jpt G 0 9 g) _ (I.fell v2 (whyU0 v3)) (g2.cg (fun c hc => by
        have := jpt_i (G := G) (G2 := g) (b := 0) hc
        rw [Nat.zero_add] at this
        exact this)) (by rw [gk 9 (by omega)]; exact h9) (by omega) (by omega)).c ?_
      rintro o ⟨o1, o2, o3⟩
      exact ⟨o1, o2, fun c hc => (o3 c hc).trans (gk c hc)⟩
    · rw [if_neg h, if_neg h]
      exact Ok.s ⟨rfl, R, fun _ _ => rfl⟩
theorem z40 (q k : Nat) : (40 : Int32) * nI q + nI k = nI (40 * q + k) := by
  have e : (40 : Int32) = nI 40 := by decide
  rw [e, pk_mul, nI_add]
theorem m_tol (hN : 2000 ≤ N) {q m : Nat} {r : Nat → Int64} (hq : q < 4) (hm : m ≤ 40) (hr : ∀ k, k < 40 → J 14 (40 * q + k) = r k) : ∀ (n k f : Nat) (G : Nat → Nat → Int32) (a : TA), a.I → RM (G 1) a → G 13 q = nI m → k + n = m → n < f → Ok (p_X6_goesBy_b2 N J f G (nI q) (nI k)) (fun o => o.1 = nI (TA.tol m r n k a).1 ∧ RM (o.2 1) (TA.tol m r n k a).2 ∧ ∀ c, c ≠ 1 → c ≠ 3 → o.2 c = G c)
  | 0, k, f, G, a, I, R, h9, hk, hf => by
    obtain ⟨p, rfl⟩ : ∃ p, f = p + 1 := ⟨f - 1, by omega⟩
    have e : k = m := by omega
    subst e
    rw [p_X6_goesBy_b2, if_pos (jinT hq (by omega)), zcl (by omega), h9, if_pos (nI_le (Nat.le_refl _) (by omega))]
    exact Ok.s ⟨rfl, R, fun _ _ _ => rfl⟩
  | n + 1, k, f, G, a, I, R, h9, hk, hf => by
    obtain ⟨p, rfl⟩ : ∃ p, f = p + 1 := ⟨f - 1, by omega⟩
    rw [p_X6_goesBy_b2, if_pos (jinT hq (by omega)), zcl (by omega), h9, if_neg (nI_ge (by omega) (by omega)), z40, if_pos (jinT (by omega) (by omega)), zcl (by omega), hr k (by omega), TA.tol]
    refine Ok.b (m_whyT hN R I (r k)) ?_
    rintro ⟨w, G5⟩ ⟨w1, w2, w3⟩
    have w4 : w = a.whyT (r k) := w1
    subst w4
    rw [jlt_eq]
    dsimp only
    by_cases h : a.whyT (r k) = 0
    · obtain ⟨v1, v2, v3⟩ := whyT0 h
      have h1 := I.nd
      have e32 : (r k).toInt32 = nI (tK (r k)) := by rw [v1, lN_i, ← v1]
      have e2 : nI (tK (r k)) / 2 = nI (tK (r k) / 2) := by
        have e2 : (2 : Int32) = nI 2 := by decide
        rw [e2]; exact pk_div (by omega) (by omega) (by omega)
      rw [if_pos h, if_pos h, if_pos (jinT (by omega) (by omega)), e32, m_byTold w2 I v2, Option.bind_some, e2]
      refine Ok.b (m_undoes hN w2 I v2 (sd_lt I v2) (whyU0 v3)) ?_
      rintro ⟨u, g⟩ ⟨_, g2, g3⟩
      rw [jlt_eq, nI_1]
      refine (m_tol hN hq hm hr n (k + 1) p g _ (I.fell v2 (whyU0 v3)) g2 (by
        rw [show g 13 = G5 13 from g3 13 (by decide), show G5 13 = G 13 from w3 13 (by decide) (by decide)]; exact h9) (by omega) (by omega)).c ?_
      rintro o ⟨o1, o2, o3⟩
      exact ⟨o1, o2, fun c c1 c3 => ((o3 c c1 c3).trans (g3 c c1)).trans (w3 c c1 c3)⟩
    · rw [if_neg h, if_neg h]
      exact Ok.s ⟨rfl, w2, w3⟩
end trays

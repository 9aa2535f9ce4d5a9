/-! tray, write, pour -/
def cutS (so : Nat) (v : Int64) : Int64 := if so = 0 then ((v.toInt32).toInt8.toInt32).toInt64 else if so = 1 then ((v.toInt32).toInt16.toInt32).toInt64 else if so = 2 then (v.toInt32).toInt64 else v
section puts
variable {N : Nat} {G G2 : Nat → Nat → Int32} {J J2 : Nat → Nat → Int64} {a : TA} {s s2 : SA} {xs : Nat → Int32} {i : Int32}
theorem updL_i (f : Nat → Int64) (k j : Nat) (x : Int64) : vp_updL f k x j = if j = k then x else f j := rfl
theorem x_cut {so : Nat} (h3 : G 0 3 = nI so) (hso : so < 4) (v : Int64) : p_X4_cutToSort N G J v = some (cutS so v) := by
  unfold p_X4_cutToSort cutS
  rw [h3, nI_toInt (by omega)]
  rcases (by omega : so = 0 ∨ so = 1 ∨ so = 2 ∨ so = 3) with h | h | h | h <;> subst h <;> rfl
theorem sx {v : Int64} {w : Nat} {D : Int64} (hD : (D.toBitVec.smod 64).toNat = 64 - w) (hw : 0 < w) (hw2 : w ≤ 64) {i : Nat} (hi : i < 64) : ((v <<< D) >>> D).toBitVec.getLsbD i = v.toBitVec.getLsbD (if i < w then i else w - 1) := by
  rw [Int64.toBitVec_shiftRight, Int64.toBitVec_shiftLeft]
  show ((v.toBitVec <<< (D.toBitVec.smod 64).toNat).sshiftRight (D.toBitVec.smod 64).toNat).getLsbD i = _
  rw [hD, BitVec.getLsbD_sshiftRight, BitVec.msb_eq_getLsbD_last]
  by_cases h : i < w
  · have h1 : 64 - w + i < 64 := by omega
    simp only [hi, h, h1, BitVec.getLsbD_shiftLeft, decide_true, Bool.true_and, ↓reduceIte, show ¬ 64 ≤ i by omega, decide_false, Bool.not_false]
    rw [decide_eq_false (by omega), Bool.not_false, Bool.true_and]
    congr 1; omega
  · have h1 : ¬ 64 - w + i < 64 := by omega
    simp only [hi, h, h1, BitVec.getLsbD_shiftLeft, decide_true, Bool.true_and, ↓reduceIte, show ¬ 64 ≤ i by omega, decide_false, Bool.not_false]
    rw [decide_eq_true (show 64 - 1 < 64 by omega), decide_eq_false (show ¬ 64 - 1 < 64 - w by omega), Bool.true_and, Bool.not_false, Bool.true_and]
    congr 1; omega
theorem sx8 (v : Int64) {i : Nat} (hi : i < 64) : (((v.toInt32).toInt8.toInt32).toInt64).toBitVec.getLsbD i = v.toBitVec.getLsbD (if i < 8 then i else 7) := by
  show (BitVec.signExtend 64 (BitVec.signExtend 32 (BitVec.signExtend 8 (BitVec.signExtend 32 v.toBitVec)))).getLsbD i = _
  by_cases h : i < 8
  · simp only [BitVec.getLsbD_signExtend, BitVec.msb_eq_getLsbD_last, h, hi, show i < 32 by omega, decide_true, Bool.true_and, ↓reduceIte, Nat.reduceSub, Nat.reduceLT]
  · by_cases h2 : i < 32
    · simp only [BitVec.getLsbD_signExtend, BitVec.msb_eq_getLsbD_last, h, hi, h2, decide_true, Bool.true_and, ↓reduceIte, Nat.reduceSub, Nat.reduceLT]
    · simp only [BitVec.getLsbD_signExtend, BitVec.msb_eq_getLsbD_last, h, hi, h2, decide_true, Bool.true_and, ↓reduceIte, Nat.reduceSub, Nat.reduceLT]
theorem sx16 (v : Int64) {i : Nat} (hi : i < 64) : (((v.toInt32).toInt16.toInt32).toInt64).toBitVec.getLsbD i = v.toBitVec.getLsbD (if i < 16 then i else 15) := by
  show (BitVec.signExtend 64 (BitVec.signExtend 32 (BitVec.signExtend 16 (BitVec.signExtend 32 v.toBitVec)))).getLsbD i = _
  by_cases h : i < 16
  · simp only [BitVec.getLsbD_signExtend, BitVec.msb_eq_getLsbD_last, h, hi, show i < 32 by omega, decide_true, Bool.true_and, ↓reduceIte, Nat.reduceSub, Nat.reduceLT]
  · by_cases h2 : i < 32
    · simp only [BitVec.getLsbD_signExtend, BitVec.msb_eq_getLsbD_last, h, hi, h2, decide_true, Bool.true_and, ↓reduceIte, Nat.reduceSub, Nat.reduceLT]
    · simp only [BitVec.getLsbD_signExtend, BitVec.msb_eq_getLsbD_last, h, hi, h2, decide_true, Bool.true_and, ↓reduceIte, Nat.reduceSub, Nat.reduceLT]
theorem sx32 (v : Int64) {i : Nat} (hi : i < 64) : ((v.toInt32).toInt64).toBitVec.getLsbD i = v.toBitVec.getLsbD (if i < 32 then i else 31) := by
  show (BitVec.signExtend 64 (BitVec.signExtend 32 v.toBitVec)).getLsbD i = _
  by_cases h2 : i < 32
  · simp only [BitVec.getLsbD_signExtend, BitVec.msb_eq_getLsbD_last, hi, h2, decide_true, Bool.true_and, ↓reduceIte, Nat.reduceSub, Nat.reduceLT]
  · simp only [BitVec.getLsbD_signExtend, BitVec.msb_eq_getLsbD_last, hi, h2, decide_true, Bool.true_and, ↓reduceIte, Nat.reduceSub, Nat.reduceLT]
theorem cut_eq {so : Nat} (hso : so < 4) (v : Int64) : (v <<< (((64 : Int32) - ((8 : Int32) <<< (nI so &&& 31))).toInt64 &&& 63)) >>> (((64 : Int32) - ((8 : Int32) <<< (nI so &&& 31))).toInt64 &&& 63) = cutS so v := by
  apply Int64.toBitVec_inj.mp
  apply BitVec.eq_of_getLsbD_eq
  intro i hi
  unfold cutS
  rcases (by omega : so = 0 ∨ so = 1 ∨ so = 2 ∨ so = 3) with h | h | h | h <;> subst h
  · rw [if_pos rfl, sx (w := 8) (by decide) (by omega) (by omega) hi, sx8 v hi]
  · rw [if_neg (by decide), if_pos rfl, sx (w := 16) (by decide) (by omega) (by omega) hi, sx16 v hi]
  · rw [if_neg (by decide), if_neg (by decide), if_pos rfl, sx (w := 32) (by decide) (by omega) (by omega) hi, sx32 v hi]
  · rw [if_neg (by decide), if_neg (by decide), if_neg (by decide), sx (w := 64) (by decide) (by omega) (by omega) hi, if_pos hi]
theorem x_put {q so p : Nat} {v : Int64} {t : Nat} (h3 : G t 3 = nI so) (hso : so < 4) (hp : p < 40) : p_X4_put N (jvw G t) (jvw J t) (nI p) v = some (jupL (jvw J t) 1 p (cutS so v)) := by
  unfold p_X4_put
  rw [x_cut (show jvw G t 0 3 = nI so from h3) hso v, Option.bind_some, if_pos (jinT hp (by omega)), zcl (by omega), jlt_eq]
theorem jptL {t c : Nat} {p : Nat} {v : Int64} : jpt J t 2 (jupL (jvw J t) 1 p v) (t + 1) = vp_updL (J (t + 1)) p v := by
  rw [jpt_i (by omega), jupL_s]; rfl
theorem jptLo {t c : Nat} {p : Nat} {v : Int64} (h : c ≠ t + 1) : jpt J t 2 (jupL (jvw J t) 1 p v) c = J c := by
  by_cases e : c = t
  · subst e
    have := jpt_i (G := J) (G2 := jupL (jvw J c) 1 p v) (b := c) (n := 2) (c := 0) (by omega)
    rw [Nat.add_zero] at this
    rw [this, jupL_n _ _ (by decide)]; rfl
  · exact jpt_o (by omega)
/-- the trays, one of them set anew -/
theorem CX.setTr (X : CX G J s) {q so m : Nat} {r : Nat → Int64} (hq : q < 4) (hG : ∀ c, c ≠ 62 + 2 * q → c ≠ 62 + 2 * q + 1 → G2 c = G c) (hJ : ∀ c, c < 70 → c ≠ 62 + 2 * q + 1 → J2 c = J c) (g0 : G2 (62 + 2 * q) 0 = 0) (g1 : G2 (62 + 2 * q) 1 = nI m) (g3 : G2 (62 + 2 * q) 3 = nI so) (hr : ∀ k, k < 40 → J2 (62 + 2 * q + 1) k = r k) : CX G2 J2 (s.setTr q so m r) := by
  refine ⟨X.now.cg (fun c hc => hG (1 + c) (by omega) (by omega)), ?_, ?_, ?_, ?_, ?_, ?_, ?_, ?_⟩
  · rw [hG 20 (by omega) (by omega)]; exact X.imB
  · intro i b hi hb
    exact (X.imR i b hi hb).cg (fun c hc => hG (35 + 9 * i + c) (by omega) (by omega))
  · rw [hG 22 (by omega) (by omega)]; exact X.ln
  · rw [hG 22 (by omega) (by omega)]; exact X.wr
  · rw [hG 22 (by omega) (by omega)]; exact X.pl
  · rw [hG 23 (by omega) (by omega)]; exact X.tp
  · intro i hi hn
    have hn2 : (if i = q then some (so, m, r) else s.tr i) = none := hn
    by_cases e : i = q
    · rw [if_pos e] at hn2; cases hn2
    · rw [if_neg e] at hn2
      rw [hG (62 + 2 * i) (by omega) (by omega)]; exact X.trN i hi hn2
  · intro i so2 m2 r2 hi hn
    have hn2 : (if i = q then some (so, m, r) else s.tr i) = some (so2, m2, r2) := hn
    by_cases e : i = q
    · subst e
      rw [if_pos rfl] at hn2
      cases hn2
      exact ⟨g0, g1, g3, hr⟩
    · rw [if_neg e] at hn2
      rw [hG (62 + 2 * i) (by omega) (by omega), hJ (62 + 2 * i + 1) (by omega) (by omega)]; exact X.trS i so2 m2 r2 hi hn2
theorem CM.setTr (M : CM G J s) {q so m : Nat} {r : Nat → Int64} (hq : q < 4) (R : RM (G2 1) s.now) (h0 : ∀ i, (i = 7 ∨ i = 15 ∨ i = 16) → G2 0 i = G 0 i) (hc : ∀ c, (c = 4 ∨ c = 5 ∨ c = 6) → G2 c = G c) (h12 : ∀ i, i ≠ q → G2 12 i = G 12 i) (h13 : ∀ i, i ≠ q → G2 13 i = G 13 i) (g12 : G2 12 q = nI so) (g13 : G2 13 q = nI m) (hJ : ∀ k, (k < 40 * q ∨ 40 * q + 40 ≤ k) → J2 14 k = J 14 k) (hr : ∀ k, k < 40 → J2 14 (40 * q + k) = r k) : CM G2 J2 (s.setTr q so m r) := by
  refine ⟨R, ?_, ?_, ?_, ?_, ?_, ?_, ?_, ?_⟩
  · rw [hc 5 (by omega)]; exact M.imB
  · rw [hc 4 (by omega)]; exact M.imR
  · rw [h0 7 (by omega)]; exact M.ln
  · rw [h0 15 (by omega)]; exact M.wr
  · rw [h0 16 (by omega)]; exact M.pl
  · rw [hc 6 (by omega)]; exact M.tp
  · intro i hi hn
    have hn2 : (if i = q then some (so, m, r) else s.tr i) = none := hn
    by_cases e : i = q
    · rw [if_pos e] at hn2; cases hn2
    · rw [if_neg e] at hn2
      rw [h12 i e]; exact M.trN i hi hn2
  · intro i so2 m2 r2 hi hn
    have hn2 : (if i = q then some (so, m, r) else s.tr i) = some (so2, m2, r2) := hn
    by_cases e : i = q
    · subst e
      rw [if_pos rfl] at hn2
      cases hn2
      exact ⟨g12, g13, hr⟩
    · rw [if_neg e] at hn2
      obtain ⟨a1, a2, a3⟩ := M.trS i so2 m2 r2 hi hn2
      exact ⟨(h12 i e).trans a1, (h13 i e).trans a2, fun k hk => (hJ _ (by omega)).trans (a3 k hk)⟩
theorem LR.m2 (hX : CX (jvw G 0) (jvw J 0) s2) (hI : s2.I) (hM : CM G2 J2 s2) : LR (jpt G 70 15 G2) (jpt J 70 15 J2) s2 := by
  refine ⟨hX.cg (fun c hc => ?_) (fun c hc => ?_), hM.cg (fun c hc => ?_) ?_, hI⟩
  · exact jpt_o (by omega)
  · exact jpt_o (by omega)
  · exact jpt_i hc
  · exact jpt_i (by omega)
/-- a call that may throw, of a class whose trays it changes -/
theorem k_W {β : Type} (φ : β → Int64) (hL : LR G J s) {o : Option (Nat ⊕ (β × (Nat → Nat → Int64)))} {cf : Nat → Option (Int32 × (Nat → Nat → Int64))} {m : (Nat → Nat → Int64) → Option (β × (Nat → Nat → Int32) × (Nat → Nat → Int64))} (k : Int32) (v : β) (s2 : SA) (hI : s2.I) (h : (∃ J1, o = some (.inr (v, J1)) ∧ k = 0 ∧ CX (jvw (jv2 G 0 70 85) 0) J1 s2) ∨ ∃ c, o = some (.inl c) ∧ k ≠ 0 ∧ cf c = some (k, jv2 J 0 70 85) ∧ s2 = s) (hm : ∀ j, CM (jvw G 70) j s → Ok (m j) (fun r => (k = 0 → r.1 = v) ∧ r.2.1 0 5 = k ∧ CM r.2.1 r.2.2 s2)) : Ok ((jbh o (fun v1 => jlt (jupL (jpt (jv2 J 0 70 85) 0 70 v1.2) 70 0 (φ v1.1)) fun J1 => some ((0 : Int32), J1)) cf).bind (fun v1 => jlt (jp2 J 0 70 85 1 v1.2) fun J3 => (m (jvw J3 70)).bind (fun v5 => jlt (jpt G 70 15 v5.2.1) fun G7 => jlt (jpt J3 70 15 v5.2.2) fun J9 => (p_X6_thrown N (jvw G7 70) (jvw J9 70)).bind (fun v11 => if v11 = v1.1 then (if v1.1 = 0 then (if (lg_cmp (J9 85 0) (φ v5.1)) = 0 then (some (G7, J9)) else (none)) else (some (G7, J9))) else (none))))) (fun r => ∃ s, LR r.1 r.2 s) := by
  obtain ⟨hX, hM, hI0⟩ := hL
  have go : ∀ J1, CX (jvw (jv2 G 0 70 85) 0) (jvw J1 0) s2 → (k = 0 → J1 70 0 = φ v) → Ok ((some (k, J1)).bind (fun v1 => jlt (jp2 J 0 70 85 1 v1.2) fun J3 => (m (jvw J3 70)).bind (fun v5 => jlt (jpt G 70 15 v5.2.1) fun G7 => jlt (jpt J3 70 15 v5.2.2) fun J9 => (p_X6_thrown N (jvw G7 70) (jvw J9 70)).bind (fun v11 => if v11 = v1.1 then (if v1.1 = 0 then (if (lg_cmp (J9 85 0) (φ v5.1)) = 0 then (some (G7, J9)) else (none)) else (some (G7, J9))) else (none))))) (fun r => ∃ s, LR r.1 r.2 s) := by
    intro J1 h1 h2
    rw [Option.bind_some, jlt_eq]
    dsimp only
    have hX3 : CX (jvw G 0) (jvw (jp2 J 0 70 85 1 J1) 0) s2 := h1.cg (fun c hc => (jv2_l (c := 0 + c) (by omega)).symm) (fun c hc => jp2_a (c := 0 + c) (by omega))
    have hM3 : CM (jvw G 70) (jvw (jp2 J 0 70 85 1 J1) 70) s := hM.cg (fun _ _ => rfl) (jp2_b (c := 84) (by omega) (by omega))
    have h85 : jp2 J 0 70 85 1 J1 85 = J1 70 := jp2_c
    generalize jp2 J 0 70 85 1 J1 = J3 at hX3 hM3 h85 ⊢
    refine Ok.b (hm _ hM3) ?_
    rintro ⟨w, G5, J5⟩ ⟨g1, g2, g3⟩
    dsimp only at g1 g2 g3 ⊢
    have e : jvw (jpt G 70 15 G5) 70 0 5 = k := by
      have : jvw (jpt G 70 15 G5) 70 0 = G5 0 := jpt_i (c := 0) (by omega)
      rw [this]; exact g2
    have e9 : jpt J3 70 15 J5 85 = J3 85 := jpt_o (by omega)
    rw [jlt_eq, jlt_eq]
    unfold p_X6_thrown
    rw [Option.bind_some, if_pos e]
    have hR := LR.m2 (J := J3) hX3 hI g3
    by_cases hk : k = 0
    · have e2 : lg_cmp (jpt J3 70 15 J5 85 0) (φ w) = 0 := (lg_cmp_eq _ _).mpr (by rw [e9, h85, h2 hk, g1 hk])
      rw [if_pos hk, if_pos e2]
      exact Ok.s ⟨s2, hR⟩
    · rw [if_neg hk]
      exact Ok.s ⟨s2, hR⟩
  rcases h with ⟨J1, h1, h2, h3⟩ | ⟨c, h1, h2, h3, h4⟩
  · rw [h1]
    subst h2
    refine go (jupL (jpt (jv2 J 0 70 85) 0 70 J1) 70 0 (φ v)) (h3.cg (fun _ _ => rfl) (fun c hc => ?_)) ?_
    · show jupL _ 70 0 _ (0 + c) = J1 c
      rw [jupL_n _ _ (by omega)]
      exact jpt_i (b := 0) hc
    · intro _
      rw [jupL_s]; exact pk_uLs
  · rw [h1]
    show Ok ((cf c).bind _) _
    rw [h3]
    subst h4
    exact go _ hX.w (fun h5 => absurd h5 h2)
theorem m_cut (M : CM G J s) (I : s.I) {q so m p : Nat} {r : Nat → Int64} {v : Int64} (hq : q < 4) (hp : p < 40) (g12 : G 12 q = nI so) (hso : so < 4) : p_X6_cut N G J (nI q) (nI p) v = some (cutS so v, jupL J 14 (40 * q + p) (cutS so v)) := by
  unfold p_X6_cut
  rw [if_pos (jinT hq (by omega)), z40, if_pos (jinT (by omega) (by omega)), zcl (by omega), zcl (by omega), g12, cut_eq hso, jlt_eq, jupL_s, pk_uLs, if_pos (jinT (by omega) (by omega))]
theorem x_wrB (X : CX G J s) (I : s.I) {q so m p t : Nat} {r : Nat → Int64} {v : Int64} (hq : q < 4) (hs : s.tr q = some (so, m, r)) (ht : t = 62 + 2 * q) (hp : p < m) : (if nI p < 0 then (some (Sum.inl 4) : Option (Nat ⊕ (Int64 × (Nat → Nat → Int64)))) else (if nI p < (G t 1) then ((p_X4_put N (jvw G t) (jvw J t) (nI p) v).bind (fun v4 => jlt (jpt J t 2 v4) fun J5 => if jin (nI p) 40 = true then some (.inr ((J5 (t + 1) (nI p).toNatClampNeg), J5)) else none)) else (some (.inl 4)))) = some (.inr (cutS so v, jpt J t 2 (jupL (jvw J t) 1 p (cutS so v)))) := by
  subst ht
  obtain ⟨t0, t1, t3, t4⟩ := X.trS q so m r hq hs
  obtain ⟨hso, hm⟩ := I.tr q so m r hs
  rw [if_neg (nI_pos (by omega)), t1, if_pos (nI_lt hp (by omega)), x_put (q := q) t3 hso (by omega), Option.bind_some, jlt_eq, if_pos (jinT (by omega) (by omega)), zcl (by omega), jptL (c := 0), pk_uLs]
theorem x_wrE (X : CX G J s) (I : s.I) {q so m t : Nat} {r : Nat → Int64} {v : Int64} {y : Int32} {β : Type} {w : Option (Nat ⊕ β)} (hq : q < 4) (hs : s.tr q = some (so, m, r)) (ht : t = 62 + 2 * q) (hy : ¬ ∃ p, p < m ∧ y = nI p) : (if y < 0 then (some (Sum.inl 4) : Option (Nat ⊕ β)) else (if y < (G t 1) then w else (some (.inl 4)))) = some (.inl 4) := by
  subst ht
  obtain ⟨t0, t1, t3, t4⟩ := X.trS q so m r hq hs
  obtain ⟨hso, hm⟩ := I.tr q so m r hs
  rcases z_cases y with h | ⟨p, hp, rfl⟩
  · rw [if_pos h]
  · rw [if_neg (nI_pos hp), t1, if_neg (nI_nlt (Nat.le_of_not_lt (fun h => hy ⟨p, h, rfl⟩)) hp)]
theorem CX.wr1 (X : CX G J s) (I : s.I) {q so m p : Nat} {r : Nat → Int64} {v : Int64} (hq : q < 4) (hs : s.tr q = some (so, m, r)) : CX G (jpt J (62 + 2 * q) 2 (jupL (jvw J (62 + 2 * q)) 1 p v)) (s.setTr q so m (vp_updL r p v)) := by
  obtain ⟨t0, t1, t3, t4⟩ := X.trS q so m r hq hs
  refine X.setTr hq (fun _ _ _ => rfl) (fun c _ hc => jptLo hc) t0 t1 t3 (fun k hk => ?_)
  rw [jptL (c := 0), updL_i, updL_i, t4 k hk]
theorem CM.wr1 (M : CM G J s) {q so m p : Nat} {r : Nat → Int64} {v : Int64} (hq : q < 4) (hp : p < 40) (hs : s.tr q = some (so, m, r)) : CM G (jupL J 14 (40 * q + p) v) (s.setTr q so m (vp_updL r p v)) := by
  obtain ⟨a1, a2, a3⟩ := M.trS q so m r hq hs
  refine M.setTr hq M.now (fun _ _ => rfl) (fun _ _ => rfl) (fun _ _ => rfl) (fun _ _ => rfl) a1 a2 (fun k hk => ?_) (fun k hk => ?_)
  · rw [jupL_s, updL_i, if_neg (by omega)]
  · rw [jupL_s, updL_i, updL_i, a3 k hk]
    by_cases e : k = p
    · rw [if_pos (by omega), if_pos e]
    · rw [if_neg (by omega), if_neg e]
theorem CM.thr (M : CM G J s) (x : Int32) : CM (jup G 0 5 x) J s := M.k (thrR M.now x) (KM.thr x) rfl (SA.eta s)
theorem case_41 (hN : 2000 ≤ N) (hL : LR G J s) : Ok (p_case_41 N xs G J i) (fun r => ∃ s, LR r.1 r.2 s) := by
  have X := hL.1.w
  unfold p_case_41 p_L_write
  generalize xs (i + 1).toNatClampNeg = x
  generalize xs (i + 2).toNatClampNeg = y
  generalize (((xs (i + 3).toNatClampNeg).toInt64 <<< ((32 : Int32).toInt64 &&& 63)) ||| ((xs (i + 4).toNatClampNeg).toInt64 &&& (4294967295 : Int64))) = v
  by_cases hx : ∃ q, q < 4 ∧ x = nI q
  · obtain ⟨q, hq, rfl⟩ := hx
    cases hs : s.tr q with
    | none =>
      refine k_W (fun z => z) hL (m := fun j => p_X6_write N (jvw G 70) j (nI q) y v) 2 0 s hL.2.2 (Or.inr ⟨2, ?_, by decide, rfl, rfl⟩) ?_
      · unfold p_X5_write
        rw [x_trN X hq hs, jbx_l]
      · intro j M
        unfold p_X6_write
        rw [m_trN M hq hs, Option.bind_some, jlt_eq, if_neg (by rw [e05]; decide)]
        exact Ok.s ⟨fun h => absurd h i20, e05 (G := jvw G 70) 2, M.thr 2⟩
    | some z =>
      obtain ⟨so, m, r⟩ := z
      obtain ⟨hso, hm⟩ := hL.2.2.tr q so m r hs
      by_cases hy : ∃ p, p < m ∧ y = nI p
      · obtain ⟨p, hp, rfl⟩ := hy
        refine k_W (fun z => z) hL (m := fun j => p_X6_write N (jvw G 70) j (nI q) (nI p) v) 0 (cutS so v) (s.setTr q so m (vp_updL r p (cutS so v))) (hL.2.2.setTr hso hm) (Or.inl ⟨jpt (jvw (jv2 J 0 70 85) 0) (62 + 2 * q) 2 (jupL (jvw (jvw (jv2 J 0 70 85) 0) (62 + 2 * q)) 1 p (cutS so v)), ?_, rfl, X.wr1 hL.2.2 hq hs⟩) ?_
        · unfold p_X5_write p_X5_write_b20
          rw [x_trS X hq hs, jbx_r]
          rcases (by omega : q = 0 ∨ q = 1 ∨ q = 2 ∨ q = 3) with h | h | h | h <;> subst h
          · rw [if_pos rfl]; exact x_wrB X hL.2.2 (q := 0) hq hs rfl hp
          · rw [if_neg (by decide), if_pos rfl]; exact x_wrB X hL.2.2 (q := 1) hq hs rfl hp
          · rw [if_neg (by decide), if_neg (by decide), if_pos rfl]; exact x_wrB X hL.2.2 (q := 2) hq hs rfl hp
          · rw [if_neg (by decide), if_neg (by decide), if_neg (by decide), if_pos rfl]; exact x_wrB X hL.2.2 (q := 3) hq hs rfl hp
        · intro j M
          obtain ⟨a1, a2, a3⟩ := M.trS q so m r hq hs
          have M0 := M.thr 0
          have g13 : jup (jvw G 70) 0 5 0 13 q = nI m := by rw [jup_n _ _ (by decide)]; exact a2
          have g12 : jup (jvw G 70) 0 5 0 12 q = nI so := by rw [jup_n _ _ (by decide)]; exact a1
          unfold p_X6_write
          rw [m_trS M hL.2.2 hq hs, Option.bind_some, jlt_eq, if_pos (by rw [e05]; decide), if_pos (jinT hq (by omega)), zcl (by omega), g13, w_ixn N (by omega) (by omega), decide_eq_true hp, Option.bind_some, bI_t, if_neg i10, m_cut (m := m) (r := r) M0 hL.2.2 hq (by omega) g12 hso, Option.bind_some, jlt_eq]
          exact Ok.s ⟨fun _ => rfl, e05 (G := jvw G 70) 0, M0.wr1 hq (by omega) hs⟩
      · refine k_W (fun z => z) hL (m := fun j => p_X6_write N (jvw G 70) j (nI q) y v) 3 0 s hL.2.2 (Or.inr ⟨4, ?_, by decide, rfl, rfl⟩) ?_
        · unfold p_X5_write p_X5_write_b20
          rw [x_trS X hq hs, jbx_r]
          rcases (by omega : q = 0 ∨ q = 1 ∨ q = 2 ∨ q = 3) with h | h | h | h <;> subst h
          · rw [if_pos rfl]; exact x_wrE (v := v) X hL.2.2 (q := 0) hq hs rfl hy
          · rw [if_neg (by decide), if_pos rfl]; exact x_wrE (v := v) X hL.2.2 (q := 1) hq hs rfl hy
          · rw [if_neg (by decide), if_neg (by decide), if_pos rfl]; exact x_wrE (v := v) X hL.2.2 (q := 2) hq hs rfl hy
          · rw [if_neg (by decide), if_neg (by decide), if_neg (by decide), if_pos rfl]; exact x_wrE (v := v) X hL.2.2 (q := 3) hq hs rfl hy
        · intro j M
          obtain ⟨a1, a2, a3⟩ := M.trS q so m r hq hs
          have g13 : jup (jvw G 70) 0 5 0 13 q = nI m := by rw [jup_n _ _ (by decide)]; exact a2
          have hw : p_X6_within N y.toInt64 0 ((nI m - 1).toInt64) = some 0 := by
            rcases z_cases y with h | ⟨p, hp, rfl⟩
            · exact w_ixN N h (by omega)
            · rw [w_ixn N hp (by omega), decide_eq_false (fun h => hy ⟨p, h, rfl⟩)]; rfl
          unfold p_X6_write
          rw [m_trS M hL.2.2 hq hs, Option.bind_some, jlt_eq, if_pos (by rw [e05]; decide), if_pos (jinT hq (by omega)), zcl (by omega), g13, hw, Option.bind_some, if_pos rfl]
          exact Ok.s ⟨fun h => absurd h i30, e05 (G := jup (jvw G 70) 0 5 0) 3, (M.thr 0).thr 3⟩
  · refine k_W (fun z => z) hL (m := fun j => p_X6_write N (jvw G 70) j x y v) 1 0 s hL.2.2 (Or.inr ⟨1, ?_, by decide, rfl, rfl⟩) ?_
    · unfold p_X5_write
      rw [x_trF hx, jbx_l]
    · intro j M
      unfold p_X6_write
      rw [m_trF hx, Option.bind_some, jlt_eq, if_neg (by rw [e05]; decide)]
      exact Ok.s ⟨fun h => absurd h i10, e05 (G := jvw G 70) 1, M.thr 1⟩
end puts

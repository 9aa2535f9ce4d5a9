/-! feed -/
def byt (w : Int32) (j : Nat) : Nat := w.toBitVec.toNat / 2 ^ (24 - 8 * j) % 256
def SA.feed (s : SA) (W : Nat → Int32) : SA := SA.mk s.now s.im (fun k => if s.ln ≤ k then byt (W ((k - s.ln) / 4)) ((k - s.ln) % 4) else s.tp k) (s.ln + 20) s.wr s.pl s.tr
section feed
variable {N : Nat} {G G2 : Nat → Nat → Int32} {J J2 : Nat → Nat → Int64} {a : TA} {s s2 : SA} {xs : Nat → Int32} {i : Int32}
theorem byt_lt (w : Int32) (j : Nat) : byt w j < 256 := Nat.mod_lt _ (by decide)
theorem SA.I.feed (I : s.I) (h : s.ln + 20 ≤ 900) (W : Nat → Int32) : (s.feed W).I := by
  refine ⟨I.now, I.im, h, ?_, I.tr⟩
  intro k
  show (if s.ln ≤ k then byt (W ((k - s.ln) / 4)) ((k - s.ln) % 4) else s.tp k) < 256
  split
  · exact byt_lt _ _
  · exact I.tp k
theorem byt_c (w : Int32) {t : Nat} (ht : t ≤ 24) : (w >>> (nI t &&& 31)).toInt8 = (nI (w.toBitVec.toNat / 2 ^ t % 256)).toInt8 := by
  apply Int8.toBitVec_inj.mp
  apply BitVec.eq_of_getLsbD_eq
  intro i hi
  show (BitVec.signExtend 8 (w >>> (nI t &&& 31)).toBitVec).getLsbD i = (BitVec.signExtend 8 (nI (w.toBitVec.toNat / 2 ^ t % 256)).toBitVec).getLsbD i
  rw [BitVec.getLsbD_signExtend, BitVec.getLsbD_signExtend, decide_eq_true hi, if_pos (by omega), if_pos (by omega)]
  have e1 : (w >>> (nI t &&& 31)).toBitVec.getLsbD i = bt w (t + i) := by
    have := b_sshr t (by omega) w (i := i) (by omega)
    rw [if_pos (by omega)] at this
    exact this
  have e2 : (nI (w.toBitVec.toNat / 2 ^ t % 256)).toBitVec.getLsbD i = bt w (t + i) := by
    have : bt (nI (w.toBitVec.toNat / 2 ^ t % 256)) i = (w.toBitVec.toNat / 2 ^ t % 256).testBit i := bt_nI _ (by omega)
    show bt _ i = _
    rw [this, show (256 : Nat) = 2 ^ 8 by decide, Nat.testBit_mod_two_pow, Nat.testBit_div_two_pow, decide_eq_true hi, Bool.true_and]
    have e3 : bt w (t + i) = bt (nI w.toBitVec.toNat) (t + i) := by rw [← x_nI]
    rw [e3, bt_nI _ (by omega), Nat.add_comm]
  rw [e1, e2]
theorem byt_m (w : Int32) {t : Nat} (ht : t ≤ 24) : (w.toUInt32 >>> ((nI t).toUInt32 &&& Int32.toUInt32 31)).toInt32 &&& 255 = nI (w.toBitVec.toNat / 2 ^ t % 256) := by
  have hn : w.toBitVec.toNat < 2 ^ 32 := w.toBitVec.isLt
  have e := pk_ushrN hn (nI t) t (s_u t (by omega))
  rw [← x_nI w] at e
  rw [e]
  refine pk_andN ?_ 8 (by decide)
  exact Nat.lt_of_le_of_lt (Nat.div_le_self _ _) hn
theorem c_add (hN : 2000 ≤ N) {g : Nat → Nat → Int32} {l : Nat} {w : Int32} (hl : g 0 0 = nI l) (h4 : l + 4 ≤ 900) : Ok (p_X2_add N g w) (fun r => r 0 0 = nI (l + 4) ∧ (∀ i, i ≠ 0 → r 0 i = g 0 i) ∧ (∀ j, j < 4 → r 1 (l + j) = (nI (byt w j)).toInt8.toInt32) ∧ ∀ k, k < l → r 1 k = g 1 k) := by
  unfold p_X2_add
  have e900 : (900 : Int32) = nI 900 := by decide
  refine Ok.l2 (fun n (g1 : Nat → Nat → Int32) x => p_X2_add_b3 N n g1 w x) _ (fun m g1 x => ∃ j, j + m = 4 ∧ x = nI (32 - 8 * j) - 8 ∧ g1 0 0 = nI (l + j) ∧ (∀ i, i ≠ 0 → g1 0 i = g 0 i) ∧ (∀ i, i < j → g1 1 (l + i) = (nI (byt w i)).toInt8.toInt32) ∧ ∀ k, k < l → g1 1 k = g 1 k) ?_ N 4 g 24 (by omega) ⟨0, by omega, by decide, hl, fun _ _ => rfl, fun i hi => absurd hi (Nat.not_lt_zero _), fun _ _ => rfl⟩
  intro m g1 x n hs ih
  obtain ⟨j, hj, hx, h0, hi, hb, hk⟩ := hs
  subst hx
  rw [p_X2_add_b3]
  by_cases h : j = 4
  · subst h
    rw [if_pos (by decide)]
    exact Ok.s ⟨h0, hi, hb, hk⟩
  · have e8 : (8 : Int32) = nI 8 := by decide
    have ex : nI (32 - 8 * j) - 8 = nI (24 - 8 * j) := by rw [e8, pk_sub (by omega)]; congr 1; omega
    rw [ex, if_neg (nI_pos (by omega)), h0, e900, if_neg (nI_ge (by omega) (by omega)), if_pos (jinT (by omega) (by omega)), jlt_eq, jlt_eq, zcl (by omega), pk_vb, byt_c w (by omega), jup_n _ _ (by decide), h0, nI_1]
    refine ih _ _ (m - 1) (by omega) ⟨j + 1, by omega, ?_, ?_, ?_, ?_, ?_⟩
    · have : nI (24 - 8 * j) + -8 = nI (24 - 8 * j) - 8 := (Int32.sub_eq_add_neg _ _).symm
      rw [this]; congr 2; omega
    · rw [jup_s, upd_s]; rfl
    · intro i h2
      rw [jup_s, upd_n _ _ h2, jup_n _ _ (by decide), hi i h2]
    · intro i h2
      rw [jup_n _ _ (by decide), jup_s, upd_i]
      by_cases h3 : i = j
      · rw [if_pos (by omega), h3]; rfl
      · rw [if_neg (by omega), hb i (by omega)]
    · intro k h2
      rw [jup_n _ _ (by decide), jup_s, upd_n _ _ (by omega), hk k h2]
/-- one word more on the class's tape -/
theorem x_add (hN : 2000 ≤ N) {l : Nat} {w : Int32} (hl : G 22 0 = nI l) (h4 : l + 4 ≤ 900) {F : (Nat → Nat → Int32) → Option (Int32 × (Nat → Nat → Int32))} {P : Int32 × (Nat → Nat → Int32) → Prop} (h : ∀ v, jpt G 22 2 v 22 0 = nI (l + 4) → (∀ i, i ≠ 0 → jpt G 22 2 v 22 i = G 22 i) → (∀ j, j < 4 → jpt G 22 2 v 23 (l + j) = (nI (byt w j)).toInt8.toInt32) → (∀ k, k < l → jpt G 22 2 v 23 k = G 23 k) → (∀ c, c ≠ 22 → c ≠ 23 → jpt G 22 2 v c = G c) → Ok (F v) P) : Ok ((p_X2_add N (jvw G 22) w).bind F) P := by
  refine Ok.b (c_add hN (g := jvw G 22) (w := w) hl h4) ?_
  rintro v ⟨v1, v2, v3, v4⟩
  have e0 : jpt G 22 2 v 22 = v 0 := jpt_i (b := 22) (c := 0) (by omega)
  have e1 : jpt G 22 2 v 23 = v 1 := jpt_i (b := 22) (c := 1) (by omega)
  refine h v (by rw [e0]; exact v1) (by rw [e0]; exact v2) (by rw [e1]; exact v3) (by rw [e1]; exact v4) (fun c h1 h2 => jpt_o (by omega))
def wd (a b c d e : Int32) : Nat → Int32
  | 0 => a
  | 1 => b
  | 2 => c
  | 3 => d
  | _ => e
theorem CX.feed (X : CX G J s) {W : Nat → Int32} (h0 : G2 22 0 = nI (s.ln + 20)) (hi : ∀ i, i ≠ 0 → G2 22 i = G 22 i) (hb : ∀ k, k < 20 → G2 23 (s.ln + k) = (nI (byt (W (k / 4)) (k % 4))).toInt8.toInt32) (hk : ∀ k, k < s.ln → G2 23 k = G 23 k) (hc : ∀ c, c ≠ 22 → c ≠ 23 → G2 c = G c) : CX G2 J (s.feed W) := by
  refine ⟨X.now.cg (fun c h => hc (1 + c) (by omega) (by omega)), ?_, ?_, h0, ?_, ?_, ?_, ?_, ?_⟩
  · rw [hc 20 (by omega) (by omega)]; exact X.imB
  · intro i b hi hb
    exact (X.imR i b hi hb).cg (fun c h => hc (35 + 9 * i + c) (by omega) (by omega))
  · rw [hi 1 (by decide)]; exact X.wr
  · rw [hi 2 (by decide)]; exact X.pl
  · intro k h
    have h2 : k < s.ln + 20 := h
    show G2 23 k = (nI (if s.ln ≤ k then byt (W ((k - s.ln) / 4)) ((k - s.ln) % 4) else s.tp k)).toInt8.toInt32
    by_cases e : s.ln ≤ k
    · rw [if_pos e]
      have := hb (k - s.ln) (by omega)
      rw [show s.ln + (k - s.ln) = k by omega] at this
      exact this
    · rw [if_neg e, hk k (by omega)]; exact X.tp k (by omega)
  · intro i hi hn; rw [hc (62 + 2 * i) (by omega) (by omega)]; exact X.trN i hi hn
  · intro i so m r hi hn; rw [hc (62 + 2 * i) (by omega) (by omega)]; exact X.trS i so m r hi hn
theorem x_feed (hN : 2000 ≤ N) (X : CX G J s) {a b c d e : Int32} (hl : s.ln + 20 ≤ 900) : Ok (p_X5_feed N G J a b c d e) (fun r => r.1 = nI (s.ln + 20) ∧ CX r.2 J (s.feed (wd a b c d e))) := by
  have e900 : (900 : Int32) = nI 900 := by decide
  have e20 : (20 : Int32) = nI 20 := by decide
  unfold p_X5_feed
  rw [X.ln, e20, nI_add, e900, if_pos (nI_le hl (by omega))]
  refine x_add hN X.ln (by omega) ?_
  intro v1 a0 a1 a2 a3 a4
  rw [jlt_eq]
  generalize jpt G 22 2 v1 = G1 at a0 a1 a2 a3 a4 ⊢
  refine x_add hN a0 (by omega) ?_
  intro v2 b0 b1 b2 b3 b4
  rw [jlt_eq]
  generalize jpt G1 22 2 v2 = G2 at b0 b1 b2 b3 b4 ⊢
  refine x_add hN b0 (by omega) ?_
  intro v3 c0 c1 c2 c3 c4
  rw [jlt_eq]
  generalize jpt G2 22 2 v3 = G3 at c0 c1 c2 c3 c4 ⊢
  refine x_add hN c0 (by omega) ?_
  intro v4 d0 d1 d2 d3 d4
  rw [jlt_eq]
  generalize jpt G3 22 2 v4 = G4 at d0 d1 d2 d3 d4 ⊢
  refine x_add hN d0 (by omega) ?_
  intro v5 f0 f1 f2 f3 f4
  rw [jlt_eq]
  generalize jpt G4 22 2 v5 = G5 at f0 f1 f2 f3 f4 ⊢
  have f0' : G5 22 0 = nI (s.ln + 20) := by rw [f0]
  have hX : CX G5 J (s.feed (wd a b c d e)) := by
    refine X.feed f0' ?_ ?_ ?_ ?_
    · intro i hi
      exact (f1 i hi).trans ((d1 i hi).trans ((c1 i hi).trans ((b1 i hi).trans (a1 i hi))))
    · intro k hk
      rcases (by omega : k < 4 ∨ (4 ≤ k ∧ k < 8) ∨ (8 ≤ k ∧ k < 12) ∨ (12 ≤ k ∧ k < 16) ∨ 16 ≤ k) with h | h | h | h | h
      · rw [f3 _ (by omega), d3 _ (by omega), c3 _ (by omega), b3 _ (by omega), a2 k h, show k / 4 = 0 by omega, show k % 4 = k by omega]; rfl
      · have := b2 (k - 4) (by omega)
        rw [show s.ln + 4 + (k - 4) = s.ln + k by omega] at this
        rw [f3 _ (by omega), d3 _ (by omega), c3 _ (by omega), this, show k / 4 = 1 by omega, show k % 4 = k - 4 by omega]; rfl
      · have := c2 (k - 8) (by omega)
        rw [show s.ln + 4 + 4 + (k - 8) = s.ln + k by omega] at this
        rw [f3 _ (by omega), d3 _ (by omega), this, show k / 4 = 2 by omega, show k % 4 = k - 8 by omega]; rfl
      · have := d2 (k - 12) (by omega)
        rw [show s.ln + 4 + 4 + 4 + (k - 12) = s.ln + k by omega] at this
        rw [f3 _ (by omega), this, show k / 4 = 3 by omega, show k % 4 = k - 12 by omega]; rfl
      · have := f2 (k - 16) (by omega)
        rw [show s.ln + 4 + 4 + 4 + 4 + (k - 16) = s.ln + k by omega] at this
        rw [this, show k / 4 = 4 by omega, show k % 4 = k - 16 by omega]; rfl
    · intro k hk
      rw [f3 k (by omega), d3 k (by omega), c3 k (by omega), b3 k (by omega), a3 k hk]
    · intro q h1 h2
      exact (f4 q h1 h2).trans ((d4 q h1 h2).trans ((c4 q h1 h2).trans ((b4 q h1 h2).trans (a4 q h1 h2))))
  exact Ok.s ⟨f0', hX⟩
theorem m_feed1 {w : Int32} {l k : Nat} {rv : (Nat → Nat → Int32) → Int32 → Int32 → Int32 → Int32 → Int32 → Int32 → Option (Int32 × (Nat → Nat → Int32))} {a b c d e : Int32} (h7 : G 0 7 = nI (l + k)) (hl : l + k < 900) (hk : k < 20) : p_X6_feed_b76 N J rv G a b c d e (nI k) w = rv (jup (jup G 6 (l + k) (nI (byt w (k % 4)))) 0 7 (nI (l + k + 1))) a b c d e (nI (k + 1)) := by
  have e24 : (24 : Int32) = nI 24 := by decide
  have e8 : (8 : Int32) = nI 8 := by decide
  have e3 : nI k &&& 3 = nI (k % 4) := pk_andN (by omega) 2 (by decide)
  unfold p_X6_feed_b76
  rw [h7, if_pos (jinT hl (by omega)), e3, e24, e8, pk_mul, pk_sub (by omega), byt_m w (by omega), jlt_eq, jlt_eq, zcl (by omega), jup_n _ _ (by decide), h7, nI_1, nI_1]
  rfl
theorem m_feed (hN : 2000 ≤ N) (M : CM G J s) {a b c d e : Int32} (hl : s.ln + 20 ≤ 900) : Ok (p_X6_feed_b23 N J N G a b c d e 0) (fun r => r.1 = nI (s.ln + 20) ∧ CM r.2 J (s.feed (wd a b c d e))) := by
  have e20 : (20 : Int32) = nI 20 := by decide
  have e4 : (4 : Int32) = nI 4 := by decide
  have e8 : (8 : Int32) = nI 8 := by decide
  have e12 : (12 : Int32) = nI 12 := by decide
  have e16 : (16 : Int32) = nI 16 := by decide
  refine Ok.l2 (fun n (g1 : Nat → Nat → Int32) x => p_X6_feed_b23 N J n g1 a b c d e x) _ (fun m g1 x => ∃ k, k + m = 20 ∧ x = nI k ∧ g1 0 7 = nI (s.ln + k) ∧ (∀ i, i ≠ 7 → g1 0 i = G 0 i) ∧ (∀ i, i < k → g1 6 (s.ln + i) = nI (byt (wd a b c d e (i / 4)) (i % 4))) ∧ (∀ i, i < s.ln → g1 6 i = G 6 i) ∧ ∀ q, q ≠ 0 → q ≠ 6 → g1 q = G q) ?_ N 20 G 0 (by omega) ⟨0, by omega, nI_0.symm, M.ln, fun _ _ => rfl, fun i hi => absurd hi (Nat.not_lt_zero _), fun _ _ => rfl, fun _ _ _ => rfl⟩
  intro m g1 x n hs ih
  obtain ⟨k, hk, hx, h7, h0, hb, hl6, hc⟩ := hs
  subst hx
  rw [p_X6_feed_b23]
  by_cases h : k = 20
  · subst h
    rw [if_pos (by decide)]
    have hM : CM g1 J (s.feed (wd a b c d e)) := by
      refine ⟨by rw [hc 1 (by decide) (by decide)]; exact M.now, by rw [hc 5 (by decide) (by decide)]; exact M.imB, by rw [hc 4 (by decide) (by decide)]; exact M.imR, h7, by rw [h0 15 (by decide)]; exact M.wr, by rw [h0 16 (by decide)]; exact M.pl, ?_, by rw [hc 12 (by decide) (by decide)]; exact M.trN, by rw [hc 12 (by decide) (by decide), hc 13 (by decide) (by decide)]; exact M.trS⟩
      intro k hk2
      have h2 : k < s.ln + 20 := hk2
      show g1 6 k = nI (if s.ln ≤ k then byt (wd a b c d e ((k - s.ln) / 4)) ((k - s.ln) % 4) else s.tp k)
      by_cases e : s.ln ≤ k
      · rw [if_pos e]
        have := hb (k - s.ln) (by omega)
        rw [show s.ln + (k - s.ln) = k by omega] at this
        exact this
      · rw [if_neg e, hl6 k (by omega)]; exact M.tp k (by omega)
    exact Ok.s ⟨h7, hM⟩
  · have key : ∀ w, w = wd a b c d e (k / 4) → Ok (p_X6_feed_b76 N J (p_X6_feed_b23 N J n) g1 a b c d e (nI k) w) (fun r => r.1 = nI (s.ln + 20) ∧ CM r.2 J (s.feed (wd a b c d e))) := by
      intro w hw
      subst hw
      rw [m_feed1 h7 (by omega) (by omega)]
      refine ih _ _ (m - 1) (by omega) ⟨k + 1, by omega, rfl, ?_, ?_, ?_, ?_, ?_⟩
      · rw [jup_s, upd_s]; rfl
      · intro i hi; rw [jup_s, upd_n _ _ hi, jup_n _ _ (by decide), h0 i hi]
      · intro i hi
        rw [jup_n _ _ (by decide), jup_s, upd_i]
        by_cases e : i = k
        · rw [if_pos (by omega), e]
        · rw [if_neg (by omega), hb i (by omega)]
      · intro i hi
        rw [jup_n _ _ (by decide), jup_s, upd_n _ _ (by omega), hl6 i hi]
      · intro q h1 h2
        rw [jup_n _ _ h1, jup_n _ _ h2, hc q h1 h2]
    rw [e20, if_neg (nI_ge (by omega) (by omega)), e4, e8, e12, e16]
    rcases (by omega : k < 4 ∨ (4 ≤ k ∧ k < 8) ∨ (8 ≤ k ∧ k < 12) ∨ (12 ≤ k ∧ k < 16) ∨ 16 ≤ k) with h | h | h | h | h
    · rw [if_neg (nI_ge (by omega) (by omega))]
      exact key a (by rw [show k / 4 = 0 by omega]; rfl)
    · rw [if_pos (nI_le (by omega) (by omega)), if_neg (nI_ge (by omega) (by omega))]
      exact key b (by rw [show k / 4 = 1 by omega]; rfl)
    · rw [if_pos (nI_le (by omega) (by omega)), if_pos (nI_le (by omega) (by omega)), if_neg (nI_ge (by omega) (by omega))]
      exact key c (by rw [show k / 4 = 2 by omega]; rfl)
    · rw [if_pos (nI_le (by omega) (by omega)), if_pos (nI_le (by omega) (by omega)), if_pos (nI_le (by omega) (by omega)), if_neg (nI_ge (by omega) (by omega))]
      exact key d (by rw [show k / 4 = 3 by omega]; rfl)
    · rw [if_pos (nI_le (by omega) (by omega)), if_pos (nI_le (by omega) (by omega)), if_pos (nI_le (by omega) (by omega)), if_pos (nI_le (by omega) (by omega))]
      exact key e (by rw [show k / 4 = 4 by omega]; rfl)
theorem case_0 (hN : 2000 ≤ N) (hL : LR G J s) : Ok (p_case_0 N xs G J i) (fun r => ∃ s, LR r.1 r.2 s) := by
  have X := hL.1
  have I := hL.2.2
  have hl := I.ln
  have e900 : (900 : Int32) = nI 900 := by decide
  have e20 : (20 : Int32) = nI 20 := by decide
  unfold p_case_0
  generalize xs (i + 1).toNatClampNeg = a
  generalize xs (i + 2).toNatClampNeg = b
  generalize xs (i + 3).toNatClampNeg = c
  generalize xs (i + 4).toNatClampNeg = d
  generalize xs (i + 5).toNatClampNeg = e
  by_cases h : s.ln + 20 ≤ 900
  · refine k_N hL (m := fun g => p_X6_feed N g (jvw J 70) a b c d e) (nI (s.ln + 20)) (s.feed (wd a b c d e)) (I.feed h _) (x_feed hN X h) ?_
    intro g M
    have m7 : jup g 0 5 0 0 7 = nI s.ln := (M.thr 0).ln
    unfold p_X6_feed
    rw [jlt_eq, m7, e20, nI_add, e900, if_pos (nI_le h (by omega))]
    exact m_feed hN (M.thr 0) h
  · refine k_N hL (m := fun g => p_X6_feed N g (jvw J 70) a b c d e) (-1) s I ?_ ?_
    · have x0 : jvw G 0 22 0 = nI s.ln := X.ln
      unfold p_X5_feed
      rw [x0, e20, nI_add, e900, if_neg (nI_ge (by omega) (by omega))]
      exact Ok.s ⟨rfl, X⟩
    · intro g M
      have m7 : jup g 0 5 0 0 7 = nI s.ln := (M.thr 0).ln
      unfold p_X6_feed
      rw [jlt_eq, m7, e20, nI_add, e900, if_neg (nI_ge (by omega) (by omega))]
      exact Ok.s ⟨rfl, M.thr 0⟩
end feed

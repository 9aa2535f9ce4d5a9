/-! news, bestShare -/
def TA.setWo (a : TA) (t p : Nat) (w : Int32) : TA := TA.mk a.li a.np a.nt a.ea a.sh a.be a.mi a.nd a.co a.ho (fun x y => if x = t ∧ y = p then w else a.wo x y) a.th a.gi a.ta a.pr a.wh a.st
theorem TA.I.setWo {a : TA} {t p : Nat} {w : Int32} (I : a.I) (h : 0 ≤ w.toInt ∧ w.toInt ≤ 999) : (a.setWo t p w).I := by
  refine ⟨I.np, I.nt, I.nd, I.ho, I.th, I.gi, I.ta, I.gt, I.pr, ?_, I.sh, I.mi, I.st, I.ch⟩
  intro x y hx hy
  show 0 ≤ (if x = t ∧ y = p then w else a.wo x y).toInt ∧ (if x = t ∧ y = p then w else a.wo x y).toInt ≤ 999
  by_cases c : x = t ∧ y = p
  · rw [if_pos c]; exact h
  · rw [if_neg c]; exact I.wo x y hx hy
section news
variable {N : Nat} {G G2 G3 A : Nat → Nat → Int32} {J J2 B : Nat → Nat → Int64} {a : TA} {s s2 : SA} {xs : Nat → Int32} {i : Int32}
theorem c_setW2 {g : Nat → Nat → Int32} {t p : Nat} {v : Int32} (ht : t < 10) (hp : p < 6) : p_X3_setWorth N g (nI t) (nI p) v = some (jup g 3 (t * 6 + p) v) := by
  unfold p_X3_setWorth
  simp (disch := omega) only [Option.bind_some, jlt_eq, ↓reduceIte, eq_self, jinT, zleT, zleF, zltT, zltF, zeq, zpos, zpos', zcl, zm6, z6, z84, z24, z14, z8, nI_add, zd0, zd1, zd2, zd3, zd4, zd5, bitI_e, bI0, bI1]
theorem RC.setWo {g : Nat → Nat → Int32} {t p : Nat} {w : Int32} (R : RC g a) (hp : p < 6) : RC (jup g 3 (t * 6 + p) w) (a.setWo t p w) := by
  have k0 : jup g 3 (t * 6 + p) w 0 = g 0 := jup_n _ _ (by decide)
  have k1 : jup g 3 (t * 6 + p) w 1 = g 1 := jup_n _ _ (by decide)
  have k2 : jup g 3 (t * 6 + p) w 2 = g 2 := jup_n _ _ (by decide)
  have k4 : jup g 3 (t * 6 + p) w 4 = g 4 := jup_n _ _ (by decide)
  have k5 : jup g 3 (t * 6 + p) w 5 = g 5 := jup_n _ _ (by decide)
  have k6 : jup g 3 (t * 6 + p) w 6 = g 6 := jup_n _ _ (by decide)
  have k7 : jup g 3 (t * 6 + p) w 7 = g 7 := jup_n _ _ (by decide)
  have k8 : jup g 3 (t * 6 + p) w 8 = g 8 := jup_n _ _ (by decide)
  refine ⟨by rw [k0]; exact R.li, by rw [k0]; exact R.np, by rw [k0]; exact R.nt, by rw [k0]; exact R.ea, by rw [k0]; exact R.sh, by rw [k0]; exact R.be, by rw [k0]; exact R.mi, by rw [k0]; exact R.nd, by rw [k0]; exact R.st, by rw [k1]; exact R.co, by rw [k2]; exact R.ho, ?_, by rw [k4]; exact R.th, by rw [k5]; exact R.gi, by rw [k6]; exact R.ta, by rw [k7]; exact R.pr, by rw [k8]; exact R.wh⟩
  intro x y hx hy
  rw [jup_s, upd_i]
  show (if x * 6 + y = t * 6 + p then w else g 3 (x * 6 + y)) = if x = t ∧ y = p then w else a.wo x y
  by_cases c : x = t ∧ y = p
  · rw [if_pos c, if_pos (by rw [c.1, c.2])]
  · rw [if_neg c, if_neg (by omega)]; exact R.wo x y hx hy
theorem RM.setWo {T : Nat → Int32} {t p : Nat} {w : Int32} (R : RM T a) (I : a.I) (ht : t < 10) (hp : p < 6) : RM (upd T (24 + 6 * t + p) w) (a.setWo t p w) := by
  have hnt := I.nt
  refine ⟨(upd_n _ _ (by omega)).trans R.li, (upd_n _ _ (by omega)).trans R.np, (upd_n _ _ (by omega)).trans R.nt, (upd_n _ _ (by omega)).trans R.ea, (upd_n _ _ (by omega)).trans R.sh, (upd_n _ _ (by omega)).trans R.be, (upd_n _ _ (by omega)).trans R.mi, (upd_n _ _ (by omega)).trans R.nd, fun q hq => (upd_n _ _ (by omega)).trans (R.co q hq), fun q hq => ?_, fun x y hx hy => ?_, fun d hd => (upd_n _ _ (by omega)).trans (R.th d hd), fun d hd => (upd_n _ _ (by omega)).trans (R.gi d hd), fun d hd => (upd_n _ _ (by omega)).trans (R.ta d hd), fun d hd => (upd_n _ _ (by omega)).trans (R.pr d hd), fun d hd => (upd_n _ _ (by omega)).trans (R.st d hd), fun d hd => (upd_n _ _ (by omega)).trans (R.wh d hd)⟩
  · have hq2 : q < a.nt := hq
    exact (upd_n _ _ (by omega)).trans (R.ho q hq)
  · rw [upd_i]
    show (if 24 + 6 * x + y = 24 + 6 * t + p then w else T (24 + 6 * x + y)) = if x = t ∧ y = p then w else a.wo x y
    by_cases c : x = t ∧ y = p
    · rw [if_pos c, if_pos (by rw [c.1, c.2])]
    · rw [if_neg c, if_neg (by omega)]; exact R.wo x y hx hy
theorem x_news (hN : 2000 ≤ N) (X : CX G J s) (I : s.I) {t p : Nat} {w : Int32} (ht : t < s.now.nt) (hp : p < s.now.np) (h0 : ¬ w < 0) (h9 : w ≤ 999) (hw : 0 ≤ w.toInt ∧ w.toInt ≤ 999) : Ok (p_X5_news N G J (nI t) (nI p) w) (fun o => ∃ G1 J1, o = .inr ((s.now.setWo t p w).leA 0, G1, J1) ∧ CX G1 J1 s) := by
  have hnt := I.now.nt
  have hnp := I.now.np
  unfold p_X5_news
  rw [x_needT X.now I.now ht, jbx_r, x_needP X.now I.now hp, jbx_r, if_neg h0, if_pos h9]
  refine Ok.b (x_cpy (G := G) (r := 10) (t := 1) (Or.inr (by omega)) X.now I.now) ?_
  rintro v ⟨v1, v2⟩
  rw [jlt_eq]
  generalize jp2 G 10 9 1 9 v = G7 at v1 v2 ⊢
  rw [c_setW2 (by omega) (by omega), Option.bind_some, jlt_eq]
  have R11 : RC (jvw (jpt G7 10 9 (jup (jvw G7 10) 3 (t * 6 + p) w)) 10) (s.now.setWo t p w) := (v1.setWo (by omega)).cg (fun c hc => jvw_pt hc)
  have k11 : ∀ c, (c < 10 ∨ 19 ≤ c) → jpt G7 10 9 (jup (jvw G7 10) 3 (t * 6 + p) w) c = G c := fun c hc => (jpt_o (by omega)).trans (v2 c hc)
  generalize jpt G7 10 9 (jup (jvw G7 10) 3 (t * 6 + p) w) = G11 at R11 k11 ⊢
  refine Ok.b (x_left10 (J := J) hN R11 (I.now.setWo hw) (p := 0) (by decide) nI0) ?_
  rintro ⟨u, g, j⟩ ⟨h1, h2, h3⟩
  rw [jlt_eq, jlt_eq]
  dsimp only at h1 h2 h3 ⊢
  exact Ok.s ⟨g, j, by rw [h1], X.e (fun c hc => (h2 c (by omega)).trans (k11 c (by omega))) h3⟩
theorem m_news (hN : 2000 ≤ N) {g : Nat → Nat → Int32} {j : Nat → Nat → Int64} (M : CM g j s) (I : s.I) {t p : Nat} {w : Int32} (ht : t < s.now.nt) (hp : p < s.now.np) (hw : 0 ≤ w.toInt ∧ w.toInt ≤ 999) : Ok (p_X6_news_b38 N j g (nI t) (nI p) w 0) (fun r => ((0 : Int32) = 0 → r.1 = (s.now.setWo t p w).leA 0) ∧ r.2 0 5 = 0 ∧ CM r.2 j s) := by
  have hnt := I.now.nt
  have hnp := I.now.np
  have hR := thrR M.now 0
  unfold p_X6_news_b38
  rw [jlt_eq, if_pos (by rw [e05]; decide), m_worthTo hR (by omega) (by omega), Option.bind_some, z6, z24, nI_add, if_pos (jinT (by omega) (by omega)), zcl (by omega), jlt_eq]
  have R8 : RM (jup (jup g 0 5 0) 1 (24 + 6 * t + p) w 1) (s.now.setWo t p w) := by
    rw [jup_s]
    exact hR.setWo I.now (by omega) (by omega)
  refine Ok.b (m_endE hN R8 (I.now.setWo hw) (r := 1) (by decide) nI1) ?_
  rintro ⟨u, g2⟩ ⟨F, h⟩
  rw [jlt_eq]
  dsimp only at F h ⊢
  have fin : ∀ v, v = (s.now.setWo t p w).leA 0 → Ok (p_X6_news_b91 N j g2 (nI t) (nI p) (s.now.wo t p) v) (fun r => ((0 : Int32) = 0 → r.1 = (s.now.setWo t p w).leA 0) ∧ r.2 0 5 = 0 ∧ CM r.2 j s) := by
    intro v hv
    unfold p_X6_news_b91
    rw [z6, z24, nI_add, if_pos (jinT (by omega) (by omega)), zcl (by omega), jlt_eq]
    refine Ok.s ⟨fun _ => hv, ?_, M.k (M.now.cg I.now ?_) ⟨?_, ?_⟩ rfl (SA.eta s)⟩
    · dsimp only
      rw [jup_n _ _ (by decide), F.2 5 (by omega), jup_n _ _ (by decide), e05]
    · intro k hk
      dsimp only
      rw [jup_s, upd_i]
      by_cases c : k = 24 + 6 * t + p
      · rw [if_pos c, c]
        exact (M.now.wo t p (by omega) (by omega)).symm
      · rw [if_neg c, F.1 1 (by decide) (by omega), jup_s, upd_n _ _ c, jup_n _ _ (by decide)]
    · intro i hi
      dsimp only
      rw [jup_n _ _ (by decide), F.2 i (by omega), jup_n _ _ (by decide), jup_s, upd_n _ _ (by omega)]
    · intro c hc
      dsimp only
      rw [jup_n _ _ (by omega), F.1 c (by omega) (by omega), jup_n _ _ (by omega), jup_n _ _ (by omega)]
  have e : (s.now.setWo t p w).leA 0 = if (s.now.setWo t p w).dM ≤ 10 then (s.now.setWo t p w).lef ((s.now.setWo t p w).wk 0 (1 * (s.now.setWo t p w).np) (1 * (s.now.setWo t p w).np)) else -100000 := rfl
  by_cases c : (s.now.setWo t p w).dM ≤ 10
  · rw [if_pos c] at h e
    rw [if_neg (by rw [h.1]; decide), m_standIn hN h.2, Option.bind_some]
    exact fin _ e.symm
  · rw [if_neg c] at h e
    rw [if_pos h]
    exact fin _ e.symm
theorem case_33 (hN : 2000 ≤ N) (hL : LR G J s) : Ok (p_case_33 N xs G J i) (fun r => ∃ s, LR r.1 r.2 s) := by
  have X := hL.1.w
  have I := hL.2.2.now
  unfold p_case_33 p_L_news
  generalize xs (i + 1).toNatClampNeg = x
  generalize xs (i + 2).toNatClampNeg = y
  generalize xs (i + 3).toNatClampNeg = z
  have tz : z.toInt64.toInt = z.toInt := Int32.toInt_toInt64 z
  have z0 : (z < 0) = (z.toInt < 0) := propext (Int32.lt_iff_toInt_lt.trans (by rfl))
  have z9 : (z ≤ 999) = (z.toInt ≤ 999) := propext (Int32.le_iff_toInt_le.trans (by rfl))
  by_cases hx : ∃ t, t < s.now.nt ∧ x = nI t
  · obtain ⟨t, ht, rfl⟩ := hx
    by_cases hy : ∃ p, p < s.now.np ∧ y = nI p
    · obtain ⟨p, hp, rfl⟩ := hy
      by_cases hz : 0 ≤ z.toInt ∧ z.toInt ≤ 999
      · obtain ⟨o, f1, G1, J1, f2, f3⟩ := x_news hN X hL.2.2 ht hp (by rw [z0]; omega) (by rw [z9]; omega) hz
        refine k_E hL (m := fun g j => p_X6_news N g j (nI t) (nI p) z) 0 _ s hL.2.2 (Or.inl ⟨G1, J1, by rw [f1, f2], rfl, f3⟩) ?_
        intro g j M
        unfold p_X6_news
        rw [m_isTt M.now I ht, Option.bind_some, if_neg i10, m_isPt M.now I hp, Option.bind_some, if_neg i10, w_t (by rw [w_0, L999, tz]; exact hz), Option.bind_some, if_neg i10]
        exact m_news hN M hL.2.2 ht hp hz
      · refine k_E hL (m := fun g j => p_X6_news N g j (nI t) (nI p) z) 2 0 s hL.2.2 (Or.inr ⟨3, ?_, by decide, rfl, rfl⟩) ?_
        · unfold p_X5_news p_X5_news_b21
          rw [x_needT X.now I ht, jbx_r, x_needP X.now I hp, jbx_r]
          by_cases h : z < 0
          · rw [if_pos h]
          · rw [if_neg h, if_neg (by rw [z9]; rw [z0] at h; omega)]
        · intro g j M
          unfold p_X6_news p_X6_news_b38
          rw [m_isTt M.now I ht, Option.bind_some, if_neg i10, m_isPt M.now I hp, Option.bind_some, if_neg i10, w_f (by rw [w_0, L999, tz]; exact hz), Option.bind_some, if_pos rfl, jlt_eq, if_neg (by rw [e05]; decide)]
          exact Ok.s (mb_fail1 M (by decide))
    · refine k_E hL (m := fun g j => p_X6_news N g j (nI t) y z) 1 0 s hL.2.2 (Or.inr ⟨1, ?_, by decide, rfl, rfl⟩) ?_
      · unfold p_X5_news
        rw [x_needT X.now I ht, jbx_r, x_needPf X.now I hy, jbx_l]
      · intro g j M
        unfold p_X6_news p_X6_news_b17 p_X6_news_b38
        rw [m_isTt M.now I ht, Option.bind_some, if_neg i10, m_isPf M.now I hy, Option.bind_some, if_pos rfl, jlt_eq, if_neg (by rw [e05]; decide)]
        exact Ok.s (mb_fail1 M (by decide))
  · refine k_E hL (m := fun g j => p_X6_news N g j x y z) 1 0 s hL.2.2 (Or.inr ⟨1, ?_, by decide, rfl, rfl⟩) ?_
    · unfold p_X5_news
      rw [x_needTf X.now I hx, jbx_l]
    · intro g j M
      unfold p_X6_news p_X6_news_b17 p_X6_news_b38
      rw [m_isTf M.now I hx, Option.bind_some, if_pos rfl, jlt_eq, if_neg (by rw [e05]; decide)]
      exact Ok.s (mb_fail1 M (by decide))
end news

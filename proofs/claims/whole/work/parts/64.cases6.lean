/-! safePrice, count; calls that change the town -/
section cases6
variable {N : Nat} {G G2 : Nat → Nat → Int32} {J J2 : Nat → Nat → Int64} {a : TA} {s s2 : SA} {xs : Nat → Int32} {i : Int32}
def TA.spS (a : TA) (t to : Nat) : Int32 × Int32 → Nat → Int32 × Int32 := fun f x => if a.safeP t to (nI x) = true then ((if f.1 = -1 then nI x else f.1), nI x) else f
def TA.safeQ (a : TA) (t to : Nat) (w : Int32) : Int32 := (fun f : Int32 × Int32 => if w = 0 then f.1 else f.2) (it (a.spS t to) 0 1000 (-1, -1))
theorem l999 {k : Nat} (hk : k < 2147483648) : ((999 : Int32) < nI k) = (999 < k) := by
  have e : (999 : Int32) = nI 999 := by decide
  rw [e]
  exact propext (nI_ltI (by omega) hk)
theorem x_safeP0 (hN : 2000 ≤ N) (R : RC (jvw G 1) a) (I : a.I) {t to : Nat} (ht : t < a.nt) (hto : to < a.np) : p_X5_safePrice_b54 N G J N (nI t) (nI to) 0 (-1) 0 = some (.inr (a.safeQ t to 0)) := by
  unfold TA.safeQ
  have i01 : ¬ ((0 : Int32) = 1) := by decide
  refine lp_it (L := fun n (f : Int32 × Int32) j => p_X5_safePrice_b54 N G J n (nI t) (nI to) 0 f.1 j) (m := 1000) (fin := fun f => some (.inr (if (0 : Int32) = 0 then f.1 else f.2))) ?_ ?_ 1000 0 N (-1, -1) (by omega) (by omega)
  · intro n f
    show p_X5_safePrice_b54 N G J (n + 1) (nI t) (nI to) 0 f.1 (nI 1000) = _
    rw [p_X5_safePrice_b54, if_pos (by rw [l999 (by omega)]; omega), if_pos rfl]
  · intro n f j hj
    show p_X5_safePrice_b54 N G J (n + 1) (nI t) (nI to) 0 f.1 (nI j) = p_X5_safePrice_b54 N G J n (nI t) (nI to) 0 _ _
    rw [p_X5_safePrice_b54, if_neg (by rw [l999 (by omega)]; omega), c_wouldBeSafe R I ht hto]
    simp (disch := omega) only [Option.bind_some, jlt_eq, ↓reduceIte, eq_self, jinT, zleT, zleF, zltT, zltF, zeq, zpos, zpos', zcl, zm6, z6, z84, z24, z14, z8, nI_add, zd0, zd1, zd2, zd3, zd4, zd5, bitI_e, bI0, bI1, p_X5_safePrice_b91, p_X5_safePrice_b87, i01]
    unfold TA.spS
    by_cases h : f.1 = -1 <;> cases a.safeP t to (nI j) <;> simp only [h, Bool.false_eq_true, Bool.true_eq_false, ↓reduceIte]
theorem x_safeP1 (hN : 2000 ≤ N) (R : RC (jvw G 1) a) (I : a.I) {t to : Nat} (ht : t < a.nt) (hto : to < a.np) : p_X5_safePrice_b54 N G J N (nI t) (nI to) 1 (-1) 0 = some (.inr (a.safeQ t to 1)) := by
  unfold TA.safeQ
  refine lp_it (L := fun n (f : Int32 × Int32) j => p_X5_safePrice_b54 N G J n (nI t) (nI to) 1 f.2 j) (m := 1000) (fin := fun f => some (.inr (if (1 : Int32) = 0 then f.1 else f.2))) ?_ ?_ 1000 0 N (-1, -1) (by omega) (by omega)
  · intro n f
    show p_X5_safePrice_b54 N G J (n + 1) (nI t) (nI to) 1 f.2 (nI 1000) = _
    rw [p_X5_safePrice_b54, if_pos (by rw [l999 (by omega)]; omega), if_neg i10]
  · intro n f j hj
    show p_X5_safePrice_b54 N G J (n + 1) (nI t) (nI to) 1 f.2 (nI j) = p_X5_safePrice_b54 N G J n (nI t) (nI to) 1 _ _
    rw [p_X5_safePrice_b54, if_neg (by rw [l999 (by omega)]; omega), c_wouldBeSafe R I ht hto]
    simp (disch := omega) only [Option.bind_some, jlt_eq, ↓reduceIte, eq_self, jinT, zleT, zleF, zltT, zltF, zeq, zpos, zpos', zcl, zm6, z6, z84, z24, z14, z8, nI_add, zd0, zd1, zd2, zd3, zd4, zd5, bitI_e, bI0, bI1, p_X5_safePrice_b91, p_X5_safePrice_b87]
    unfold TA.spS
    cases a.safeP t to (nI j) <;> simp only [Bool.false_eq_true, Bool.true_eq_false, ↓reduceIte]
theorem m_isSafe (R : RM (G 1) a) (I : a.I) {t to : Nat} {x : Int32} (ht : t < a.nt) (hto : to < a.np) : p_X6_isSafePrice N G J (nI t) (nI (a.ho t)) (nI to) x = some (bI (a.safeP t to x)) := by
  have h1 := I.nt
  have h2 := I.np
  have h3 := I.ho t ht
  unfold p_X6_isSafePrice TA.safeP TA.cut mx
  simp (disch := omega) only [Option.bind_some, jlt_eq, ↓reduceIte, eq_self, jinT, zleT, zleF, zltT, zltF, zeq, zpos, zpos', zcl, zm6, z6, z84, z24, z14, z8, nI_add, zd0, zd1, zd2, zd3, zd4, zd5, bitI_e, bI0, bI1, R.sh, m_worthTo R (show t < 10 by omega) (show a.ho t < 6 by omega), m_worthTo R (show t < 10 by omega) (show to < 6 by omega)]
  by_cases h4 : 0 < a.wo t (a.ho t) - x - a.sh * (if 0 < a.wo t to - x then a.wo t to - x else 0) / 100
  · rw [if_pos h4, decide_eq_true h4]; rfl
  · rw [if_neg h4, decide_eq_false h4]
    by_cases h5 : 0 < x - a.wo t to - a.sh * (if 0 < x - a.wo t (a.ho t) then x - a.wo t (a.ho t) else 0) / 100
    · rw [if_pos h5, decide_eq_true h5]; rfl
    · rw [if_neg h5, decide_eq_false h5]; rfl
theorem m_safeP (hN : 2000 ≤ N) (R : RM (G 1) a) (I : a.I) {t to : Nat} {w : Int32} (ht : t < a.nt) (hto : to < a.np) : p_X6_safePrice_b74 N J N G (nI t) (nI to) w (-1) (-1) 0 = some (a.safeQ t to w, G) := by
  have h1 := I.nt
  unfold TA.safeQ
  refine lp_it (L := fun n (f : Int32 × Int32) j => p_X6_safePrice_b74 N J n G (nI t) (nI to) w f.1 f.2 j) (m := 1000) (fin := fun f => some ((if w = 0 then f.1 else f.2), G)) ?_ ?_ 1000 0 N (-1, -1) (by omega) (by omega)
  · intro n f
    show p_X6_safePrice_b74 N J (n + 1) G (nI t) (nI to) w f.1 f.2 (nI 1000) = _
    rw [p_X6_safePrice_b74, if_pos (by rw [l999 (by omega)]; omega)]
    by_cases h : w = 0
    · rw [if_pos h, if_pos h]
    · rw [if_neg h, if_neg h]
  · intro n f j hj
    show p_X6_safePrice_b74 N J (n + 1) G (nI t) (nI to) w f.1 f.2 (nI j) = p_X6_safePrice_b74 N J n G (nI t) (nI to) w _ _ _
    rw [p_X6_safePrice_b74, if_neg (by rw [l999 (by omega)]; omega)]
    simp (disch := omega) only [Option.bind_some, jlt_eq, ↓reduceIte, eq_self, jinT, zleT, zleF, zltT, zltF, zeq, zpos, zpos', zcl, zm6, z6, z84, z24, z14, z8, nI_add, zd0, zd1, zd2, zd3, zd4, zd5, bitI_e, bI0, bI1, R.ho t ht, m_isSafe R I ht hto, p_X6_safePrice_b124, p_X6_safePrice_b118]
    unfold TA.spS
    by_cases h : f.1 = -1 <;> cases a.safeP t to (nI j) <;> simp only [h, Bool.false_eq_true, Bool.true_eq_false, ↓reduceIte]
theorem case_26 (hN : 2000 ≤ N) (hL : LR G J s) : Ok (p_case_26 N xs G J i) (fun r => ∃ s, LR r.1 r.2 s) := by
  have R := hL.1.w.now
  have M := hL.2.1.now
  have I := hL.2.2.now
  have h1 := I.nt
  have h2 := I.np
  unfold p_case_26 p_L_safePrice
  generalize xs (i + 1).toNatClampNeg = x
  generalize xs (i + 2).toNatClampNeg = y
  generalize xs (i + 3).toNatClampNeg = z
  have tz : z.toInt64.toInt = z.toInt := Int32.toInt_toInt64 z
  by_cases hx : ∃ p, p < s.now.nt ∧ x = nI p
  · obtain ⟨t, ht, rfl⟩ := hx
    have h3 := I.ho t ht
    have c0 : jvw (jv2 G 0 70 85) 0 3 t = nI (s.now.ho t) := R.ho t ht
    have m0 : jvw G 70 1 (14 + t) = nI (s.now.ho t) := M.ho t ht
    by_cases hy : ∃ p, p < s.now.np ∧ y = nI p
    · obtain ⟨to, hto, rfl⟩ := hy
      by_cases he : s.now.ho t = to
      · refine k_L hL 2 0 (Or.inr ⟨2, ?_, by decide, rfl⟩) (fun J3 => ?_)
        · unfold p_X5_safePrice
          simp (disch := omega) only [Option.bind_some, jlt_eq, ↓reduceIte, eq_self, jinT, zleT, zleF, zltT, zltF, zeq, zpos, zpos', zcl, zm6, z6, z84, z24, z14, z8, nI_add, zd0, zd1, zd2, zd3, zd4, zd5, bitI_e, bI0, bI1, x_needT R I ht, jbx_r, x_needP R I hto, c0, he]
        · unfold p_X6_safePrice p_X6_safePrice_b53
          rw [m_isTt M I ht, Option.bind_some, if_neg i10, m_isPt M I hto, Option.bind_some, if_neg i10]
          simp (disch := omega) only [Option.bind_some, jlt_eq, ↓reduceIte, eq_self, jinT, zleT, zleF, zltT, zltF, zeq, zpos, zpos', zcl, zm6, z6, z84, z24, z14, z8, nI_add, zd0, zd1, zd2, zd3, zd4, zd5, bitI_e, bI0, bI1, m0, he, e05]
          rw [if_neg (by decide)]
          exact Ok.s (MB.o M (fun h => absurd h i20))
      · by_cases hz : z = 0 ∨ z = 1
        · refine k_L hL 0 (s.now.safeQ t to z) (Or.inl ⟨?_, rfl⟩) (fun J3 => ?_)
          · unfold p_X5_safePrice p_X5_safePrice_b48
            simp (disch := omega) only [Option.bind_some, jlt_eq, ↓reduceIte, eq_self, jinT, zleT, zleF, zltT, zltF, zeq, zpos, zpos', zcl, zm6, z6, z84, z24, z14, z8, nI_add, zd0, zd1, zd2, zd3, zd4, zd5, bitI_e, bI0, bI1, x_needT R I ht, jbx_r, x_needP R I hto, c0, he]
            rcases hz with h | h
            · subst h; rw [if_pos rfl, x_safeP0 hN R I ht hto]
            · subst h; rw [if_neg i10, if_pos rfl, x_safeP1 hN R I ht hto]
          · unfold p_X6_safePrice p_X6_safePrice_b53
            rw [m_isTt M I ht, Option.bind_some, if_neg i10, m_isPt M I hto, Option.bind_some, if_neg i10]
            simp (disch := omega) only [Option.bind_some, jlt_eq, ↓reduceIte, eq_self, jinT, zleT, zleF, zltT, zltF, zeq, zpos, zpos', zcl, zm6, z6, z84, z24, z14, z8, nI_add, zd0, zd1, zd2, zd3, zd4, zd5, bitI_e, bI0, bI1, m0, he]
            rw [w_t (by rcases hz with h | h <;> subst h <;> decide), Option.bind_some, if_neg i10, if_pos (by rw [e05]; decide), m_safeP hN (thrR M 0) I ht hto]
            exact Ok.s (MB.o M (fun _ => rfl))
        · have y0 : ¬ z = 0 := fun h => hz (Or.inl h)
          have y1 : ¬ z = 1 := fun h => hz (Or.inr h)
          refine k_L hL 3 0 (Or.inr ⟨3, ?_, by decide, rfl⟩) (fun J3 => ?_)
          · unfold p_X5_safePrice
            simp (disch := omega) only [Option.bind_some, jlt_eq, ↓reduceIte, eq_self, jinT, zleT, zleF, zltT, zltF, zeq, zpos, zpos', zcl, zm6, z6, z84, z24, z14, z8, nI_add, zd0, zd1, zd2, zd3, zd4, zd5, bitI_e, bI0, bI1, x_needT R I ht, jbx_r, x_needP R I hto, c0, he, y0, y1]
          · unfold p_X6_safePrice p_X6_safePrice_b53
            rw [m_isTt M I ht, Option.bind_some, if_neg i10, m_isPt M I hto, Option.bind_some, if_neg i10]
            simp (disch := omega) only [Option.bind_some, jlt_eq, ↓reduceIte, eq_self, jinT, zleT, zleF, zltT, zltF, zeq, zpos, zpos', zcl, zm6, z6, z84, z24, z14, z8, nI_add, zd0, zd1, zd2, zd3, zd4, zd5, bitI_e, bI0, bI1, m0, he]
            rw [w_f (by rw [w_0, L1, tz]; exact fun h => hz (by
              rcases (by omega : z.toInt = 0 ∨ z.toInt = 1) with h | h
              · exact Or.inl (ii0 h)
              · exact Or.inr (ii1 h))), Option.bind_some, if_pos rfl, if_neg (by rw [e05]; decide)]
            exact Ok.s (MB.o M (fun h => absurd h i30))
    · refine k_L hL 1 0 (Or.inr ⟨1, ?_, by decide, rfl⟩) (fun J3 => ?_)
      · unfold p_X5_safePrice
        rw [x_needT R I ht, jbx_r, x_needPf R I hy, jbx_l]
      · unfold p_X6_safePrice p_X6_safePrice_b17 p_X6_safePrice_b53
        rw [m_isTt M I ht, Option.bind_some, if_neg i10, m_isPf M I hy, Option.bind_some, if_pos rfl, jlt_eq, if_neg (by rw [e05]; decide)]
        exact Ok.s (MB.o M (fun h => absurd h i10))
  · refine k_L hL 1 0 (Or.inr ⟨1, ?_, by decide, rfl⟩) (fun J3 => ?_)
    · unfold p_X5_safePrice
      rw [x_needTf R I hx, jbx_l]
    · unfold p_X6_safePrice p_X6_safePrice_b17 p_X6_safePrice_b53
      rw [m_isTf M I hx, Option.bind_some, if_pos rfl, jlt_eq, if_neg (by rw [e05]; decide)]
      exact Ok.s (MB.o M (fun h => absurd h i10))
/-- the bits that stand are those counted -/
theorem pop_st (R : RC G a) (I : a.I) : pop (G 0 8) = a.stands := by
  have h1 := I.nd
  unfold pop TA.stands
  have e : sm (fun d => bI (a.st d)) 0 32 = sm (fun d => bI (a.st d)) 0 a.nd := by
    rw [show (32 : Nat) = a.nd + (32 - a.nd) by omega, sm_app, Nat.zero_add, sm_zero (32 - a.nd) a.nd, Int32.add_zero]
    intro d h2 h3
    cases h4 : a.st d
    · rfl
    · exact absurd (I.st d h4) (by omega)
  rw [← e]
  exact sm_congr _ _ (fun d _ h => by rw [R.st d (by omega)])
def SA.count (s : SA) (x : Int32) : Int32 := if x.toInt = 0 then s.now.li else if x.toInt = 1 then nI s.now.np else if x.toInt = 2 then nI s.now.nt else if x.toInt = 3 then nI s.now.nd else if x.toInt = 4 then s.now.stands else if x.toInt = 5 then s.now.mi else if x.toInt = 6 then s.now.sh else if x.toInt = 7 then s.now.be else if x.toInt = 8 then s.now.ea else if x.toInt = 9 then sm s.now.co 0 s.now.np else if x.toInt = 10 then sm s.now.wealth 0 s.now.np else if x.toInt = 11 then nI s.ln else -1
theorem x_count (hN : 2000 ≤ N) (X : CX G J s) (I : s.I) {x : Int32} : p_X5_count N G J x = some (s.count x) := by
  have R := X.now
  have e0 : G 1 0 = s.now.li := R.li
  have e1 : G 1 1 = nI s.now.np := R.np
  have e2 : G 1 2 = nI s.now.nt := R.nt
  have e3 : G 1 3 = s.now.ea := R.ea
  have e4 : G 1 4 = s.now.sh := R.sh
  have e5 : G 1 5 = s.now.be := R.be
  have e6 : G 1 6 = s.now.mi := R.mi
  have e7 : G 1 7 = nI s.now.nd := R.nd
  have e8a : pop (G 1 8) = s.now.stands := pop_st (G := jvw G 1) R I.now
  have e8 : p_J6_bitCount_0f7a4 N (G 1 8) = some s.now.stands := by rw [x_bitCount, e8a]
  have e9 : G 22 0 = nI s.ln := X.ln
  unfold p_X5_count SA.count
  rw [e0, e1, e2, e3, e4, e5, e6, e7, e8, e9, c_coinsOfAll hN R I.now, c_wealthOfAll hN R I.now]
  by_cases h0 : x.toInt = 0
  · rw [if_pos h0, if_pos h0]
  rw [if_neg h0, if_neg h0]
  by_cases h1 : x.toInt = 1
  · rw [if_pos h1, if_pos h1]
  rw [if_neg h1, if_neg h1]
  by_cases h2 : x.toInt = 2
  · rw [if_pos h2, if_pos h2]
  rw [if_neg h2, if_neg h2]
  by_cases h3 : x.toInt = 3
  · rw [if_pos h3, if_pos h3]
  rw [if_neg h3, if_neg h3]
  by_cases h4 : x.toInt = 4
  · rw [if_pos h4, if_pos h4]; rfl
  rw [if_neg h4, if_neg h4]
  by_cases h5 : x.toInt = 5
  · rw [if_pos h5, if_pos h5]
  rw [if_neg h5, if_neg h5]
  by_cases h6 : x.toInt = 6
  · rw [if_pos h6, if_pos h6]
  rw [if_neg h6, if_neg h6]
  by_cases h7 : x.toInt = 7
  · rw [if_pos h7, if_pos h7]
  rw [if_neg h7, if_neg h7]
  by_cases h8 : x.toInt = 8
  · rw [if_pos h8, if_pos h8]
  rw [if_neg h8, if_neg h8]
  by_cases h9 : x.toInt = 9
  · rw [if_pos h9, if_pos h9]; rfl
  rw [if_neg h9, if_neg h9]
  by_cases h10 : x.toInt = 10
  · rw [if_pos h10, if_pos h10]; rfl
  rw [if_neg h10, if_neg h10]
  by_cases h11 : x.toInt = 11
  · rw [if_pos h11, if_pos h11]
  rw [if_neg h11, if_neg h11]
def cntF (N : Nat) (G : Nat → Nat → Int32) (J : Nat → Nat → Int64) (x : Int32) (f : Int32 × Int32) : Option (Int32 × (Nat → Nat → Int32)) := if x.toInt = 0 then (some ((G 1 0), G)) else (if x.toInt = 1 then (some ((G 1 1), G)) else (if x.toInt = 2 then (some ((G 1 2), G)) else (if x.toInt = 3 then (some ((G 1 7), G)) else (if x.toInt = 4 then ((p_X6_standMany N G J).bind (fun v16 => some (v16, G))) else (if x.toInt = 5 then (some ((G 1 6), G)) else (if x.toInt = 6 then (some ((G 1 4), G)) else (if x.toInt = 7 then (some ((G 1 5), G)) else (if x.toInt = 8 then (some ((G 1 3), G)) else (if x.toInt = 9 then (some (f.1, G)) else (if x.toInt = 10 then (some (f.2, G)) else (if x.toInt = 11 then (some ((G 0 7), G)) else (some ((-1), G)))))))))))))
theorem m_count (hN : 2000 ≤ N) (M : CM G J s) (I : s.I) {x : Int32} : p_X6_count_b12 N J N G x 0 0 0 = some (s.count x, G) := by
  have R := M.now
  have h2 := I.now.np
  have key : p_X6_count_b12 N J N G x 0 0 0 = cntF N G J x (it (fun f p => (f.1 + s.now.co p, f.2 + s.now.wealth p)) 0 s.now.np (0, 0)) := by
    refine lp_it (L := fun n (f : Int32 × Int32) j => p_X6_count_b12 N J n G x f.1 f.2 j) (m := s.now.np) (step := fun f p => (f.1 + s.now.co p, f.2 + s.now.wealth p)) (fin := cntF N G J x) ?_ ?_ s.now.np 0 N (0, 0) (by omega) (by omega)
    · intro n f
      show p_X6_count_b12 N J (n + 1) G x f.1 f.2 (nI s.now.np) = _
      rw [p_X6_count_b12, if_pos (by rw [R.np, zleT (Nat.le_refl _) (by omega)]; trivial)]
      rfl
    · intro n f j hj
      show p_X6_count_b12 N J (n + 1) G x f.1 f.2 (nI j) = p_X6_count_b12 N J n G x _ _ _
      rw [p_X6_count_b12, if_neg (by rw [R.np, zleF hj (by omega)]; exact id)]
      simp (disch := omega) only [Option.bind_some, jlt_eq, ↓reduceIte, eq_self, jinT, zleT, zleF, zltT, zltF, zeq, zpos, zpos', zcl, zm6, z6, z84, z24, z14, z8, nI_add, zd0, zd1, zd2, zd3, zd4, zd5, bitI_e, bI0, bI1, m_wealth hN R I.now hj, R.co j]
  have s1 : ∀ (k j : Nat) (f : Int32 × Int32), it (fun f p => (f.1 + s.now.co p, f.2 + s.now.wealth p)) j k f = (f.1 + sm s.now.co j k, f.2 + sm s.now.wealth j k) := by
    intro k
    induction k with
    | zero => intro j f; rw [it_0, sm_0, sm_0, Int32.add_zero, Int32.add_zero]
    | succ k ih => intro j f; rw [it_s, ih, sm_s, sm_s, Int32.add_assoc, Int32.add_assoc]
  rw [key, s1]
  dsimp only
  rw [Int32.zero_add, Int32.zero_add]
  unfold SA.count cntF
  rw [R.li, R.np, R.nt, R.ea, R.sh, R.be, R.mi, R.nd, M.ln, m_standMany hN R I.now]
  by_cases h0 : x.toInt = 0
  · rw [if_pos h0, if_pos h0]
  rw [if_neg h0, if_neg h0]
  by_cases h1 : x.toInt = 1
  · rw [if_pos h1, if_pos h1]
  rw [if_neg h1, if_neg h1]
  by_cases h2 : x.toInt = 2
  · rw [if_pos h2, if_pos h2]
  rw [if_neg h2, if_neg h2]
  by_cases h3 : x.toInt = 3
  · rw [if_pos h3, if_pos h3]
  rw [if_neg h3, if_neg h3]
  by_cases h4 : x.toInt = 4
  · rw [if_pos h4, if_pos h4]; rfl
  rw [if_neg h4, if_neg h4]
  by_cases h5 : x.toInt = 5
  · rw [if_pos h5, if_pos h5]
  rw [if_neg h5, if_neg h5]
  by_cases h6 : x.toInt = 6
  · rw [if_pos h6, if_pos h6]
  rw [if_neg h6, if_neg h6]
  by_cases h7 : x.toInt = 7
  · rw [if_pos h7, if_pos h7]
  rw [if_neg h7, if_neg h7]
  by_cases h8 : x.toInt = 8
  · rw [if_pos h8, if_pos h8]
  rw [if_neg h8, if_neg h8]
  by_cases h9 : x.toInt = 9
  · rw [if_pos h9, if_pos h9]
  rw [if_neg h9, if_neg h9]
  by_cases h10 : x.toInt = 10
  · rw [if_pos h10, if_pos h10]
  rw [if_neg h10, if_neg h10]
  by_cases h11 : x.toInt = 11
  · rw [if_pos h11, if_pos h11]
  rw [if_neg h11, if_neg h11]
theorem case_45 (hN : 2000 ≤ N) (hL : LR G J s) : Ok (p_case_45 N xs G J i) (fun r => ∃ s, LR r.1 r.2 s) := by
  have M := hL.2.1
  unfold p_case_45 p_X6_count
  rw [x_count hN hL.1 hL.2.2]
  refine k_A (s2 := s) hL.1 hL.2.2 ?_
  rw [jlt_eq, m_count hN (M.k (J2 := jvw J 70) (thrR M.now 0) (KM.thr 0) rfl (SA.eta s)) hL.2.2]
  exact Ok.s ⟨rfl, M.k (thrR M.now 0) (KM.thr 0) rfl (SA.eta s)⟩
end cases6

/-! the call hope -/
section hope3
variable {N : Nat} {G G2 : Nat → Nat → Int32} {J J2 : Nat → Nat → Int64} {a : TA} {s s2 : SA} {xs : Nat → Int32} {i : Int32}
/-- the same, where the reference looks at its trays -/
theorem k_L2 (hL : LR G J s) {o : Option (Nat ⊕ Int32)} {cf : Nat → Option (Int32 × (Nat → Nat → Int64))} {m : (Nat → Nat → Int64) → Option (Int32 × (Nat → Nat → Int32))} (k v : Int32) (h : (o = some (.inr v) ∧ k = 0) ∨ ∃ c, o = some (.inl c) ∧ k ≠ 0 ∧ cf c = some (k, jv2 J 0 70 85)) (hm : ∀ J3, CM (jvw G 70) (jvw J3 70) s → Ok (m J3) (MB (jvw G 70) s.now k v)) : Ok ((jbh o (fun v1 => jlt (jupL (jv2 J 0 70 85) 70 0 (v1.toInt64)) fun J1 => some ((0 : Int32), J1)) cf).bind (fun v1 => jlt (jp2 J 0 70 85 1 v1.2) fun J3 => (m J3).bind (fun v5 => jlt (jpt G 70 15 v5.2) fun G7 => (p_X6_thrown N (jvw G7 70) (jvw J3 70)).bind (fun v9 => if v9 = v1.1 then (if v1.1 = 0 then (if (lg_cmp (J3 85 0) (v5.1.toInt64)) = 0 then (some (G7, J3)) else (none)) else (some (G7, J3))) else (none))))) (fun r => ∃ s, LR r.1 r.2 s) := by
  obtain ⟨hX, hM, hI⟩ := hL
  have go : ∀ J1, (∀ c, c < 70 → J1 c = J c) → (k = 0 → J1 70 0 = v.toInt64) → Ok ((some (k, J1)).bind (fun v1 => jlt (jp2 J 0 70 85 1 v1.2) fun J3 => (m J3).bind (fun v5 => jlt (jpt G 70 15 v5.2) fun G7 => (p_X6_thrown N (jvw G7 70) (jvw J3 70)).bind (fun v9 => if v9 = v1.1 then (if v1.1 = 0 then (if (lg_cmp (J3 85 0) (v5.1.toInt64)) = 0 then (some (G7, J3)) else (none)) else (some (G7, J3))) else (none))))) (fun r => ∃ s, LR r.1 r.2 s) := by
    intro J1 h1 h2
    rw [Option.bind_some, jlt_eq]
    have hc : ∀ c, c ≠ 85 → jp2 J 0 70 85 1 J1 c = J c := by
      intro c hc
      unfold jp2
      rw [jpt_o (by omega)]
      by_cases h3 : c < 70
      · rw [show c = 0 + c by omega, jpt_i h3, Nat.zero_add, h1 c h3]
      · rw [jpt_o (by omega)]
    have h85 : jp2 J 0 70 85 1 J1 85 = J1 70 := by
      unfold jp2
      exact jpt_i (b := 85) (c := 0) (by omega)
    generalize jp2 J 0 70 85 1 J1 = J3 at hc h85 ⊢
    refine k_B (s2 := s) (v := v) (hX.cg (fun _ _ => rfl) (fun c h4 => hc (0 + c) (by omega))) hI (fun h4 => by rw [h85]; exact h2 h4) ?_
    refine (hm J3 (hM.cg (fun _ _ => rfl) (hc 84 (by decide)))).c ?_
    rintro ⟨w, G5⟩ ⟨b1, b2, b3, b4⟩
    refine ⟨b1, b2, hM.k b4 b3 ?_ (SA.eta s)⟩
    exact hc 84 (by decide)
  rcases h with ⟨h1, h2⟩ | ⟨c, h1, h2, h3⟩
  · rw [h1]
    subst h2
    refine go (jupL (jv2 J 0 70 85) 70 0 v.toInt64) ?_ ?_
    · intro c hc
      rw [jupL_n _ _ (by omega)]
      exact jv2_L hc
    · intro _
      rw [jupL_s]; exact pk_uLs
  · rw [h1]
    show Ok ((cf c).bind _) _
    rw [h3]
    exact go _ (fun c hc => jv2_L hc) (fun h4 => absurd h4 h2)
def TA.wi (a : TA) (d : Nat) : Int64 := (a.gain d (a.gi d)).toInt64 - (a.wo (a.th d) (a.gi d)).toInt64
theorem wi_i (I : a.I) {d : Nat} (hd : d < a.nd) : (a.wi d).toInt = (a.gain d (a.gi d)).toInt - (a.wo (a.th d) (a.gi d)).toInt ∧ -601000 ≤ (a.wi d).toInt ∧ (a.wi d).toInt ≤ 601000 ∧ (a.gain d (a.gi d) - a.wo (a.th d) (a.gi d)).toInt = (a.wi d).toInt := by
  have h1 := gain_bd I hd (I.gi d hd)
  have h2 := I.wo (a.th d) (a.gi d) (by have := I.th d hd; have := I.nt; omega) (by have := I.gi d hd; have := I.np; omega)
  have e : (a.wi d).toInt = (a.gain d (a.gi d)).toInt - (a.wo (a.th d) (a.gi d)).toInt := by
    unfold TA.wi
    rw [Int64.toInt_sub, Int32.toInt_toInt64, Int32.toInt_toInt64]
    exact Int.bmod_eq_of_le (by omega) (by omega)
  refine ⟨e, by omega, by omega, ?_⟩
  rw [sb32 (A := 600000) (B := 999) (by omega) (by omega) (by omega), e]
theorem of_fact (I : a.I) {d : Nat} (hd : d < a.nd) {v : Int64} (hv : 0 ≤ v.toInt ∧ v.toInt ≤ 9999) : (v.toInt32 + (a.gain d (a.gi d) - a.wo (a.th d) (a.gi d))).toInt64 = v + a.wi d ∧ v.toInt32.toInt64 = v ∧ -620000 ≤ (v + a.wi d).toInt ∧ (v + a.wi d).toInt ≤ 620000 := by
  obtain ⟨w1, w2, w3, w4⟩ := wi_i I hd
  have e32 : v.toInt32.toInt = v.toInt := by
    rw [Int64.toInt_toInt32]
    exact Int.bmod_eq_of_le (by omega) (by omega)
  have e1 : v.toInt32.toInt64 = v := Int64.toInt_inj.mp (by rw [Int32.toInt_toInt64, e32])
  have e2 : (v + a.wi d).toInt = v.toInt + (a.wi d).toInt := by
    rw [Int64.toInt_add]
    exact Int.bmod_eq_of_le (by omega) (by omega)
  refine ⟨?_, e1, by omega, by omega⟩
  apply Int64.toInt_inj.mp
  rw [Int32.toInt_toInt64, e2, ad32 (A := 9999) (B := 601000) (by omega) (by omega) (by omega), e32, w4]
theorem x_hopeB (hN : 2000 ≤ N) (X : CX G J s) (I : s.I) {q so m t n d : Nat} {r : Nat → Int64} {x : Int32} (hq : q < 4) (hs : s.tr q = some (so, m, r)) (ht : t = 62 + 2 * q) (hd : d < s.now.nd) {y : Int32} : ((p_X3_isOpen N (jvw G 1) (nI d)).bind (fun v6 => if v6 = 0 then (some (Sum.inl 2) : Option (Nat ⊕ Int32)) else (if y < (1 : Int32) then (some (.inl 3)) else (if (6 : Int32) < y then (some (.inl 3)) else (if x < 0 then (some (.inl 3)) else (if (2 : Int32) < x then (some (.inl 3)) else ((p_X4_isOffers N (jvw G t) (jvw J t)).bind (fun v8 => if v8 = 0 then (some (.inl 3)) else (if jin (nI d) 30 = true then (p_X3_gainOf N (jvw G 1) (nI d) (G 6 (nI d).toNatClampNeg)).bind (fun v11 => if jin (nI d) 30 = true then (p_X3_worthTo N (jvw G 1) (G 5 (nI d).toNatClampNeg) (G 6 (nI d).toNatClampNeg)).bind (fun v14 => (p_X4_hopeIn N (jvw G t) (jvw J t) ((v11.toInt64) - (v14.toInt64)) y x).bind (fun v16 => some (.inr v16))) else none) else none))))))))) = (if s.now.opn d = false then some (.inl 2) else if 1 ≤ y.toInt ∧ y.toInt ≤ 6 ∧ 0 ≤ x.toInt ∧ x.toInt ≤ 2 ∧ offs r m = true then some (.inr (hF r m y.toInt.toNat (s.now.wi d) x)) else some (.inl 3)) := by
  subst ht
  obtain ⟨t0, t1, t3, t4⟩ := X.trS q so m r hq hs
  have hm := (I.tr q so m r hs).2
  have R := X.now
  have In := I.now
  have h1 := In.nd
  have h2 := In.np
  have h3 := In.nt
  have h4 := In.gi d hd
  have h5 := In.th d hd
  have e6 : G 6 d = nI (s.now.gi d) := R.gi d hd
  have e5 : G 5 d = nI (s.now.th d) := R.th d hd
  have y1 : (y < 1) = (y.toInt < 1) := propext (Int32.lt_iff_toInt_lt.trans (by rfl))
  have y6 : (6 < y) = (6 < y.toInt) := propext (Int32.lt_iff_toInt_lt.trans (by rfl))
  have x0 : (x < 0) = (x.toInt < 0) := propext (Int32.lt_iff_toInt_lt.trans (by rfl))
  have x2 : (2 < x) = (2 < x.toInt) := propext (Int32.lt_iff_toInt_lt.trans (by rfl))
  rw [c_isOpen R In hd, Option.bind_some]
  cases hop : s.now.opn d
  · rfl
  · rw [bI_t, if_neg i10, if_neg (by decide : ¬ true = false)]
    have off : p_X4_isOffers N (jvw G (62 + 2 * q)) (jvw J (62 + 2 * q)) = some (bI (offs r m)) := x_offers hN (show jvw G (62 + 2 * q) 0 1 = nI m from t1) hm t4
    rw [off, Option.bind_some]
    by_cases c : 1 ≤ y.toInt ∧ y.toInt ≤ 6 ∧ 0 ≤ x.toInt ∧ x.toInt ≤ 2 ∧ offs r m = true
    · rw [if_pos c]
      obtain ⟨c1, c2, c3, c4, c5⟩ := c
      rw [if_neg (show ¬ y < 1 by rw [y1]; omega), if_neg (show ¬ 6 < y by rw [y6]; omega), if_neg (show ¬ x < 0 by rw [x0]; omega), if_neg (show ¬ 2 < x by rw [x2]; omega), c5, bI_t, if_neg i10, if_pos (jinT (by omega) (by omega)), zcl (by omega), e6, e5, c_gainOf hN R In hd (by omega), Option.bind_some, if_pos (jinT (by omega) (by omega)), c_worthTo R (by omega) (by omega), Option.bind_some]
      unfold offs at c5
      simp only [Bool.and_eq_true, decide_eq_true_eq] at c5
      obtain ⟨o1, o2, o3⟩ := c5
      have hy : y = nI y.toInt.toNat := iiN (by omega) (by omega)
      have ok := okR_i m 0 o3
      have key : p_X4_hopeIn N (jvw G (62 + 2 * q)) (jvw J (62 + 2 * q)) (s.now.wi d) (nI y.toInt.toNat) x = some (hF r m y.toInt.toNat (s.now.wi d) x) := x_hopeIn hN (show jvw G (62 + 2 * q) 0 1 = nI m from t1) o2 o1 t4 (by omega) (by omega) (fun i hi => (of_fact In hd (ok i (by omega) (by omega))).2.2)
      rw [← hy] at key
      rw [show (s.now.gain d (s.now.gi d)).toInt64 - (s.now.wo (s.now.th d) (s.now.gi d)).toInt64 = s.now.wi d from rfl, key]
      rfl
    · rw [if_neg c]
      by_cases a1 : y < 1
      · rw [if_pos a1]
      · rw [if_neg a1]
        by_cases a2 : 6 < y
        · rw [if_pos a2]
        · rw [if_neg a2]
          by_cases a3 : x < 0
          · rw [if_pos a3]
          · rw [if_neg a3]
            by_cases a4 : 2 < x
            · rw [if_pos a4]
            · rw [if_neg a4]
              cases ho : offs r m
              · rfl
              · rw [y1] at a1
                rw [y6] at a2
                rw [x0] at a3
                rw [x2] at a4
                exact absurd ⟨by omega, by omega, by omega, by omega, ho⟩ c
theorem x_hope (hN : 2000 ≤ N) (X : CX G J s) (I : s.I) {q so m d : Nat} {r : Nat → Int64} {x y : Int32} (hq : q < 4) (hs : s.tr q = some (so, m, r)) (hd : d < s.now.nd) : p_X5_hope N G J (nI d) (nI q) y x = (if s.now.opn d = false then some (.inl 2) else if 1 ≤ y.toInt ∧ y.toInt ≤ 6 ∧ 0 ≤ x.toInt ∧ x.toInt ≤ 2 ∧ offs r m = true then some (.inr (hF r m y.toInt.toNat (s.now.wi d) x)) else some (.inl 3)) := by
  unfold p_X5_hope p_X5_hope_b61
  rw [x_needD X.now I.now hd, jbx_r, x_trS X hq hs, jbx_r]
  rcases (by omega : q = 0 ∨ q = 1 ∨ q = 2 ∨ q = 3) with h | h | h | h <;> subst h
  · rw [if_pos rfl]; exact x_hopeB hN X I (q := 0) (n := 0) hq hs rfl hd
  · rw [if_neg (by decide), if_pos rfl]; exact x_hopeB hN X I (q := 1) (n := 0) hq hs rfl hd
  · rw [if_neg (by decide), if_neg (by decide), if_pos rfl]; exact x_hopeB hN X I (q := 2) (n := 0) hq hs rfl hd
  · rw [if_neg (by decide), if_neg (by decide), if_neg (by decide), if_pos rfl]; exact x_hopeB hN X I (q := 3) (n := 0) hq hs rfl hd
theorem L6 : (6 : Int64).toInt = 6 := by decide
theorem m_hopeGo (hN : 2000 ≤ N) (M : CM G J s) (I : s.I) {q so m d : Nat} {r : Nat → Int64} {x y : Int32} (hq : q < 4) (hs : s.tr q = some (so, m, r)) (hd : d < s.now.nd) (hop : s.now.opn d = true) : Ok (p_X6_hope_b44 N J G (nI d) (nI q) y x 0) (MB G s.now (if 1 ≤ y.toInt ∧ y.toInt ≤ 6 ∧ 0 ≤ x.toInt ∧ x.toInt ≤ 2 ∧ offs r m = true then 0 else 3) (hF r m y.toInt.toNat (s.now.wi d) x)) := by
  obtain ⟨a1, a2, a3⟩ := M.trS q so m r hq hs
  have hm := (I.tr q so m r hs).2
  have In := I.now
  have h1 := In.nd
  have h2 := In.np
  have h3 := In.nt
  have h4 := In.gi d hd
  have h5 := In.th d hd
  have ty : y.toInt64.toInt = y.toInt := Int32.toInt_toInt64 y
  have tx : x.toInt64.toInt = x.toInt := Int32.toInt_toInt64 x
  have g13 : jup G 0 5 0 13 q = nI m := by rw [jup_n _ _ (by decide)]; exact a2
  have bad : ∀ f j, 0 < f → j ≤ m → p_X6_hope_b112 N J f (jup G 0 5 0) (nI d) (nI q) y x (nI m) 0 (nI j) = p_X6_hope_b151 N J (jup G 0 5 0) (nI d) (nI q) y x (nI m) 0 := by
    intro f j hf hj
    obtain ⟨p, rfl⟩ : ∃ p, f = p + 1 := ⟨f - 1, by omega⟩
    rw [p_X6_hope_b112, if_pos rfl, ite_self]
  have fail : ¬ (1 ≤ y.toInt ∧ y.toInt ≤ 6 ∧ 0 ≤ x.toInt ∧ x.toInt ≤ 2 ∧ offs r m = true) → Ok (p_X6_hope_b151 N J (jup G 0 5 0) (nI d) (nI q) y x (nI m) 0) (MB G s.now (if 1 ≤ y.toInt ∧ y.toInt ≤ 6 ∧ 0 ≤ x.toInt ∧ x.toInt ≤ 2 ∧ offs r m = true then 0 else 3) (hF r m y.toInt.toNat (s.now.wi d) x)) := by
    intro c
    rw [if_neg c]
    unfold p_X6_hope_b151
    rw [if_pos rfl]
    exact Ok.s (MB.f M.now (fun h => absurd h i30))
  unfold p_X6_hope_b44 p_X6_hope_b106 p_X6_hope_b107
  rw [jlt_eq, if_pos (by rw [e05]; decide), if_pos (jinT hq (by omega)), zcl (by omega), g13]
  by_cases c1 : 1 ≤ y.toInt ∧ y.toInt ≤ 6
  · rw [w_t (by rw [L1, L6, ty]; exact c1), Option.bind_some, if_neg i10]
    by_cases c2 : 0 ≤ x.toInt ∧ x.toInt ≤ 2
    · rw [w_t (by rw [w_0, L2, tx]; exact c2), Option.bind_some, if_neg i10]
      by_cases c3 : 1 ≤ m ∧ m ≤ 6
      · rw [w_t (by rw [L1, L6, w_n (by omega)]; omega), Option.bind_some, if_neg i10]
        have := m_offers (G := jup G 0 5 0) (d := nI d) (y := y) (z := x) hN hq hm a3 m 0 N (by omega) (by omega)
        rw [nI_0] at this
        rw [this]
        cases ho : okR r 0 m
        · rw [bI_f]
          exact fail (fun c => by
            have := c.2.2.2.2
            unfold offs at this
            rw [ho] at this
            simp at this)
        · have hoff : offs r m = true := by
            unfold offs
            rw [ho, decide_eq_true c3.1, decide_eq_true c3.2]; rfl
          rw [if_pos ⟨c1.1, c1.2, c2.1, c2.2, hoff⟩]
          unfold p_X6_hope_b151
          rw [bI_t, if_neg i10, m_of1 (thrR M.now 0) In.nd hd, Option.bind_some]
          refine Ok.b (m_gainOf hN (thrR M.now 0) In hd h4 (opn_st hop)) ?_
          rintro ⟨v, G3⟩ ⟨g1, g2, g3⟩
          have g4 : v = s.now.gain d (s.now.gi d) := g1
          subst g4
          dsimp only at g2 g3 ⊢
          rw [jlt_eq, m_of0 g2 In.nd hd, Option.bind_some, m_of1 g2 In.nd hd, Option.bind_some, m_worthTo g2 (by omega) (by omega), Option.bind_some]
          have ok := okR_i m 0 ho
          have hy : y = nI y.toInt.toNat := iiN (by omega) (by omega)
          have hx3 : x = 0 ∨ x = 1 ∨ x = 2 := by
            rcases (by omega : x.toInt = 0 ∨ x.toInt = 1 ∨ x.toInt = 2) with h | h | h
            · exact Or.inl (ii0 h)
            · exact Or.inr (Or.inl (ii1 h))
            · exact Or.inr (Or.inr (ii2 h))
          have key := m_rounds (G := G3) (n := y.toInt.toNat) (x := x) (w := s.now.wi d) (b := s.now.gain d (s.now.gi d) - s.now.wo (s.now.th d) (s.now.gi d)) hN hq c3.2 c3.1 (by omega) (by omega) a3 (fun i hi => (of_fact In hd (ok i (by omega) (by omega))).1) (fun i hi => (of_fact In hd (ok i (by omega) (by omega))).2.1) (fun i hi => (of_fact In hd (ok i (by omega) (by omega))).2.2) hx3
          rw [← hy] at key
          rw [key]
          exact Ok.s (MB.g (fun _ => rfl) g2 g3)
      · rw [w_f (by rw [L1, L6, w_n (by omega)]; omega), Option.bind_some, if_pos rfl]
        have := bad N 0 (by omega) (by omega)
        rw [nI_0] at this
        rw [this]
        exact fail (fun c => by
          have := c.2.2.2.2
          unfold offs at this
          simp only [Bool.and_eq_true, decide_eq_true_eq] at this
          exact c3 ⟨this.1, this.2.1⟩)
    · rw [w_f (by rw [w_0, L2, tx]; exact c2), Option.bind_some, if_pos rfl]
      have := bad N 0 (by omega) (by omega)
      rw [nI_0] at this
      rw [this]
      exact fail (fun c => c2 ⟨c.2.2.1, c.2.2.2.1⟩)
  · rw [w_f (by rw [L1, L6, ty]; exact c1), Option.bind_some, if_pos rfl]
    have := bad N 0 (by omega) (by omega)
    rw [nI_0] at this
    rw [this]
    exact fail (fun c => c1 ⟨c.1, c.2.1⟩)
theorem case_36 (hN : 2000 ≤ N) (hL : LR G J s) : Ok (p_case_36 N xs G J i) (fun r => ∃ s, LR r.1 r.2 s) := by
  have X := hL.1.w
  have R := X.now
  have M := hL.2.1
  have I := hL.2.2
  unfold p_case_36 p_L_hope
  generalize xs (i + 1).toNatClampNeg = u
  generalize xs (i + 2).toNatClampNeg = z
  generalize xs (i + 3).toNatClampNeg = y
  generalize xs (i + 4).toNatClampNeg = x
  by_cases hu : ∃ p, p < s.now.nd ∧ u = nI p
  · obtain ⟨d, hd, rfl⟩ := hu
    by_cases hz : ∃ q, q < 4 ∧ z = nI q
    · obtain ⟨q, hq, rfl⟩ := hz
      cases hs : s.tr q with
      | none =>
        refine k_L hL 2 0 (Or.inr ⟨2, ?_, by decide, rfl⟩) (fun J3 => ?_)
        · unfold p_X5_hope
          rw [x_needD R I.now hd, jbx_r, x_trN X hq hs, jbx_l]
        · have a1 := M.trN q hq hs
          unfold p_X6_hope p_X6_hope_b39 p_X6_hope_b44
          rw [m_isDt M.now I.now hd, Option.bind_some, if_neg i10, m_isTray hq, Option.bind_some, if_neg i10, if_pos (jinT hq (by omega)), zcl (by omega), a1, if_pos rfl, jlt_eq, if_neg (by rw [e05]; decide)]
          exact Ok.s (MB.o M.now (fun h => absurd h i20))
      | some zz =>
        obtain ⟨so, m, r⟩ := zz
        obtain ⟨a1, a2, a3⟩ := M.trS q so m r hq hs
        have h4 := (I.tr q so m r hs).1
        cases hop : s.now.opn d
        · refine k_L hL 2 0 (Or.inr ⟨2, ?_, by decide, rfl⟩) (fun J3 => ?_)
          · rw [x_hope hN X I hq hs hd, hop]; rfl
          · unfold p_X6_hope p_X6_hope_b39 p_X6_hope_b44
            rw [m_isDt M.now I.now hd, Option.bind_some, if_neg i10, m_isTray hq, Option.bind_some, if_neg i10, if_pos (jinT hq (by omega)), zcl (by omega), a1, if_neg (so_m1 h4), m_isOpen M.now I.now hd, hop, Option.bind_some, bI_f, if_pos rfl, jlt_eq, if_neg (by rw [e05]; decide)]
            exact Ok.s (MB.o M.now (fun h => absurd h i20))
        · by_cases c : 1 ≤ y.toInt ∧ y.toInt ≤ 6 ∧ 0 ≤ x.toInt ∧ x.toInt ≤ 2 ∧ offs r m = true
          · refine k_L2 hL 0 (hF r m y.toInt.toNat (s.now.wi d) x) (Or.inl ⟨?_, rfl⟩) (fun J3 hJ3 => ?_)
            · rw [x_hope hN X I hq hs hd, hop, if_neg (by decide : ¬ true = false), if_pos c]
            · have key := m_hopeGo (N := N) (x := x) (y := y) hN hJ3 I hq hs hd hop
              rw [if_pos c] at key
              unfold p_X6_hope
              rw [m_isDt M.now I.now hd, Option.bind_some, if_neg i10, m_isTray hq, Option.bind_some, if_neg i10, if_pos (jinT hq (by omega)), zcl (by omega), a1, if_neg (so_m1 h4), m_isOpen M.now I.now hd, hop, Option.bind_some, bI_t, if_neg i10]
              exact key
          · refine k_L2 hL 3 (hF r m y.toInt.toNat (s.now.wi d) x) (Or.inr ⟨3, ?_, by decide, rfl⟩) (fun J3 hJ3 => ?_)
            · rw [x_hope hN X I hq hs hd, hop, if_neg (by decide : ¬ true = false), if_neg c]
            · have key := m_hopeGo (N := N) (x := x) (y := y) hN hJ3 I hq hs hd hop
              rw [if_neg c] at key
              unfold p_X6_hope
              rw [m_isDt M.now I.now hd, Option.bind_some, if_neg i10, m_isTray hq, Option.bind_some, if_neg i10, if_pos (jinT hq (by omega)), zcl (by omega), a1, if_neg (so_m1 h4), m_isOpen M.now I.now hd, hop, Option.bind_some, bI_t, if_neg i10]
              exact key
    · refine k_L hL 1 0 (Or.inr ⟨1, ?_, by decide, rfl⟩) (fun J3 => ?_)
      · unfold p_X5_hope
        rw [x_needD R I.now hd, jbx_r, x_trF hz, jbx_l]
      · unfold p_X6_hope p_X6_hope_b17 p_X6_hope_b44
        rw [m_isDt M.now I.now hd, Option.bind_some, if_neg i10, m_isTrayF hz, Option.bind_some, if_pos rfl, jlt_eq, if_neg (by rw [e05]; decide)]
        exact Ok.s (MB.o M.now (fun h => absurd h i10))
  · refine k_L hL 1 0 (Or.inr ⟨1, ?_, by decide, rfl⟩) (fun J3 => ?_)
    · unfold p_X5_hope
      rw [x_needDf R I.now hu, jbx_l]
    · unfold p_X6_hope p_X6_hope_b17 p_X6_hope_b44
      rw [m_isDf M.now I.now hu, Option.bind_some, if_pos rfl, jlt_eq, if_neg (by rw [e05]; decide)]
      exact Ok.s (MB.o M.now (fun h => absurd h i10))
end hope3

/-! the class: the open deeds laid -/
def TA.cnt (a : TA) (p : Nat) : Nat → Nat
  | 0 => 0
  | k + 1 => TA.cnt a p k + if a.isOf (a.dN k) p = true then 1 else 0
def CL (g : Nat → Nat → Int32) (a : TA) (c : Nat) : Prop := (g 0 4 = nI c) ∧ (∀ i, i < c → g 1 i = nI (a.dN i)) ∧ (∀ i j, i < c → j < 32 → bt (g 2 i) j = (decide (i ≤ j) && decide (j < c) && a.sg i j)) ∧ (∀ p, p < a.np → g 4 p = nI (a.cnt p c)) ∧ (∀ p i, p < a.np → i < c → a.isOf (a.dN i) p = true → g 3 (p * 10 + a.cnt p i) = nI i)
theorem CL.mm {g : Nat → Nat → Int32} {a : TA} {c : Nat} (R : CL g a c) : g 0 4 = nI c := R.1
theorem CL.dd {g : Nat → Nat → Int32} {a : TA} {c : Nat} (R : CL g a c) : ∀ i, i < c → g 1 i = nI (a.dN i) := R.2.1
theorem CL.wi {g : Nat → Nat → Int32} {a : TA} {c : Nat} (R : CL g a c) : ∀ i j, i < c → j < 32 → bt (g 2 i) j = (decide (i ≤ j) && decide (j < c) && a.sg i j) := R.2.2.1
theorem CL.mn {g : Nat → Nat → Int32} {a : TA} {c : Nat} (R : CL g a c) : ∀ p, p < a.np → g 4 p = nI (a.cnt p c) := R.2.2.2.1
theorem CL.mi {g : Nat → Nat → Int32} {a : TA} {c : Nat} (R : CL g a c) : ∀ p i, p < a.np → i < c → a.isOf (a.dN i) p = true → g 3 (p * 10 + a.cnt p i) = nI i := R.2.2.2.2
section clay
variable {N : Nat} {G G2 A : Nat → Nat → Int32} {J : Nat → Nat → Int64} {a : TA}
theorem cnt_le (p : Nat) : ∀ k, a.cnt p k ≤ k
  | 0 => Nat.le_refl _
  | k + 1 => by
    have := cnt_le p k
    unfold TA.cnt
    split <;> omega
theorem cnt_lt {p i : Nat} (h : a.isOf (a.dN i) p = true) : ∀ k, i < k → a.cnt p i < a.cnt p k
  | 0, hi => absurd hi (Nat.not_lt_zero _)
  | k + 1, hi => by
    show _ < a.cnt p k + if a.isOf (a.dN k) p = true then 1 else 0
    by_cases c : i = k
    · subst c; rw [if_pos h]; omega
    · have := cnt_lt h k (by omega)
      omega
theorem z10 (p k : Nat) : nI p * 10 + nI k = nI (p * 10 + k) := by
  rw [show (10 : Int32) = nI 10 by decide, pk_mul, nI_add]
theorem c_layFor {g : Nat → Nat → Int32} {p c k : Nat} (hp : p < 6) (hk : k < 10) (h4 : g 0 4 = nI c) (hg : g 4 p = nI k) : p_X1_layFor N g J (nI p) = some (jup (jup g 3 (p * 10 + k) (nI c)) 4 p (nI (k + 1))) := by
  unfold p_X1_layFor
  rw [if_pos (jinT hp (by omega)), zcl (by omega), hg, z10, if_pos (jinT (by omega) (by omega)), zcl (by omega), jlt_eq, if_pos (jinT hp (by omega)), if_pos (jinT hp (by omega)), h4]
  have e : jup g 3 (p * 10 + k) (nI c) 4 p = nI k := by rw [jup_n _ _ (by decide)]; exact hg
  rw [e, nI_1, jlt_eq]
theorem jpt11 {g : Nat → Nat → Int32} {c : Nat} (h : c < 11) : jpt G 0 11 g c = g c := by
  have := jpt_i (G := G) (G2 := g) (b := 0) (n := 11) (c := c) h
  rw [Nat.zero_add] at this
  exact this
theorem jpt11o {g : Nat → Nat → Int32} {c : Nat} (h : 11 ≤ c) : jpt G 0 11 g c = G c := jpt_o (by omega)
theorem jvw0 (c : Nat) : jvw G 0 c = G c := by
  unfold jvw; rw [Nat.zero_add]
theorem c_deedB (I : a.I) (R : RC (jvw A 11) a) {c : Nat} (hc : c < a.dM) (hm : a.dM ≤ 10) : ∀ (k n i : Nat) (G : Nat → Nat → Int32), i + k = c + 1 → k < n → (∀ x, 11 ≤ x → G x = A x) → G 0 4 = nI c → (∀ s, s ≠ 4 → G 0 s = A 0 s) → (∀ x, x ≤ c → G 1 x = nI (a.dN x)) → (∀ x j, x ≤ c → j < 32 → bt (G 2 x) j = (decide (x ≤ j) && decide (j < (if x < i then c + 1 else c)) && a.sg x j)) → (∀ p, p < a.np → G 4 p = nI (a.cnt p c)) → (∀ p i, p < a.np → i < c → a.isOf (a.dN i) p = true → G 3 (p * 10 + a.cnt p i) = nI i) → Ok (p_X1_layDeed_b22 N J n G (nI (a.dN c)) (nI i)) (fun r => (∀ x, 11 ≤ x → r x = A x) ∧ (∀ s, s ≠ 4 → r 0 s = A 0 s) ∧ CL r a (c + 1)) := by
  have hnp := I.np
  have hnd := I.nd
  have hd := dN_nd hc
  have hgi := I.gi _ hd
  have hta := I.ta _ hd
  have hgt := I.gt _ hd
  intro k
  induction k with
  | zero =>
    intro n i G hi hn F c4 F0 dd wi mn mi
    have g16 : G 16 (a.dN c) = nI (a.gi (a.dN c)) := by rw [F 16 (by omega)]; exact R.gi _ hd
    have g17 : G 17 (a.dN c) = nI (a.ta (a.dN c)) := by rw [F 17 (by omega)]; exact R.ta _ hd
    have k1 := cnt_le (a := a) (a.gi (a.dN c)) c
    have k2 := cnt_le (a := a) (a.ta (a.dN c)) c
    match n, hn with
    | n + 1, _ =>
      unfold p_X1_layDeed_b22
      rw [c4, if_pos (nI_lt (by omega) (by omega)), if_pos (jinT (by omega) (by omega)), zcl (by omega), g16, c_layFor (k := a.cnt (a.gi (a.dN c)) c) (c := c) (by omega) (by omega) (by rw [jvw0]; exact c4) (by rw [jvw0]; exact mn _ hgi), Option.bind_some, jlt_eq, if_pos (jinT (by omega) (by omega))]
      generalize hH : jpt G 0 11 (jup (jup (jvw G 0) 3 (a.gi (a.dN c) * 10 + a.cnt (a.gi (a.dN c)) c) (nI c)) 4 (a.gi (a.dN c)) (nI (a.cnt (a.gi (a.dN c)) c + 1))) = H
      have ho : ∀ x, x ≠ 3 → x ≠ 4 → H x = G x := by
        intro x h3 h4
        rw [← hH]
        by_cases e : x < 11
        · rw [jpt11 e, jup_n _ _ h4, jup_n _ _ h3, jvw0]
        · rw [jpt11o (by omega)]
      have h3 : H 3 = upd (G 3) (a.gi (a.dN c) * 10 + a.cnt (a.gi (a.dN c)) c) (nI c) := by
        rw [← hH, jpt11 (by omega), jup_n _ _ (by decide), jup_s, jvw0]
      have h4 : H 4 = upd (G 4) (a.gi (a.dN c)) (nI (a.cnt (a.gi (a.dN c)) c + 1)) := by
        rw [← hH, jpt11 (by omega), jup_s, jup_n _ _ (by decide), jvw0]
      have b4 : H 4 (a.ta (a.dN c)) = nI (a.cnt (a.ta (a.dN c)) c) := by rw [h4, upd_n _ _ (fun h => hgt h.symm)]; exact mn _ hta
      rw [ho 17 (by decide) (by decide), g17, c_layFor (k := a.cnt (a.ta (a.dN c)) c) (c := c) (by omega) (by omega) (by rw [jvw0, ho 0 (by decide) (by decide)]; exact c4) (by rw [jvw0]; exact b4), Option.bind_some, jlt_eq]
      generalize hK : jpt H 0 11 (jup (jup (jvw H 0) 3 (a.ta (a.dN c) * 10 + a.cnt (a.ta (a.dN c)) c) (nI c)) 4 (a.ta (a.dN c)) (nI (a.cnt (a.ta (a.dN c)) c + 1))) = K
      have ko : ∀ x, x ≠ 3 → x ≠ 4 → K x = G x := by
        intro x e3 e4
        rw [← hK]
        by_cases e : x < 11
        · rw [jpt11 e, jup_n _ _ e4, jup_n _ _ e3, jvw0]; exact ho x e3 e4
        · rw [jpt11o (by omega)]; exact ho x e3 e4
      have k3 : K 3 = upd (H 3) (a.ta (a.dN c) * 10 + a.cnt (a.ta (a.dN c)) c) (nI c) := by
        rw [← hK, jpt11 (by omega), jup_n _ _ (by decide), jup_s, jvw0]
      have k4 : K 4 = upd (H 4) (a.ta (a.dN c)) (nI (a.cnt (a.ta (a.dN c)) c + 1)) := by
        rw [← hK, jpt11 (by omega), jup_s, jup_n _ _ (by decide), jvw0]
      rw [ko 0 (by decide) (by decide), c4, nI_1, jlt_eq]
      have isO : ∀ p, a.isOf (a.dN c) p = (decide (a.gi (a.dN c) = p) || decide (a.ta (a.dN c) = p)) := fun _ => rfl
      refine Ok.s ⟨?_, ?_, ?_, ?_, ?_, ?_, ?_⟩
      · intro x hx; rw [jup_n _ _ (by omega), ko x (by omega) (by omega)]; exact F x hx
      · intro s hs; rw [jup_s, upd_n _ _ hs, ko 0 (by decide) (by decide)]; exact F0 s hs
      · rw [jup_s, upd_s]
      · intro x hx; rw [jup_n _ _ (by decide), ko 1 (by decide) (by decide)]; exact dd x (by omega)
      · intro x j hx hj
        rw [jup_n _ _ (by decide), ko 2 (by decide) (by decide), wi x j (by omega) hj, if_pos (by omega)]
      · intro p hp
        rw [jup_n _ _ (by decide), k4, upd_i, h4, upd_i]
        show _ = nI (a.cnt p c + if a.isOf (a.dN c) p = true then 1 else 0)
        rw [isO]
        by_cases e1 : p = a.ta (a.dN c)
        · rw [if_pos e1, decide_eq_true e1.symm, Bool.or_true, if_pos rfl, e1]
        · rw [if_neg e1, decide_eq_false (p := a.ta (a.dN c) = p) (fun h => e1 h.symm), Bool.or_false]
          by_cases e2 : p = a.gi (a.dN c)
          · rw [if_pos e2, decide_eq_true e2.symm, if_pos rfl, e2]
          · rw [if_neg e2, decide_eq_false (fun h => e2 h.symm), if_neg (by decide)]; exact mn p hp
      · intro p i hp hi his
        have ci := cnt_le (a := a) p i
        rw [jup_n _ _ (by decide), k3, upd_i, h3, upd_i]
        by_cases e : i = c
        · subst e
          rw [isO] at his
          by_cases e1 : p = a.ta (a.dN i)
          · rw [if_pos (by rw [e1])]
          · rw [decide_eq_false (p := a.ta (a.dN i) = p) (fun h => e1 h.symm), Bool.or_false] at his
            have e2 := of_decide_eq_true his
            rw [if_neg (by omega), if_pos (by rw [e2])]
        · have lt := cnt_lt his c (by omega)
          have n1 : ¬ p * 10 + a.cnt p i = a.ta (a.dN c) * 10 + a.cnt (a.ta (a.dN c)) c := by
            intro h
            have : p = a.ta (a.dN c) := by omega
            rw [this] at h lt; omega
          have n2 : ¬ p * 10 + a.cnt p i = a.gi (a.dN c) * 10 + a.cnt (a.gi (a.dN c)) c := by
            intro h
            have : p = a.gi (a.dN c) := by omega
            rw [this] at h lt; omega
          rw [if_neg n1, if_neg n2]; exact mi p i hp (by omega) his
  | succ k ih =>
    intro n i G hi hn F c4 F0 dd wi mn mi
    have hdi := dN_nd (a := a) (i := i) (by omega)
    have h5 := I.th _ hd
    have h6 := I.th _ hdi
    have hnt := I.nt
    have g15 : ∀ d, d < a.nd → G 15 d = nI (a.th d) := by intro d h; rw [F 15 (by omega)]; exact R.th d h
    match n, hn with
    | n + 1, hn =>
      unfold p_X1_layDeed_b22
      rw [c4, if_neg (nI_nlt (by omega) (by omega)), if_pos (jinT (by omega) (by omega)), zcl (by omega), dd i (by omega), if_pos (jinT (by omega) (by omega)), if_pos (jinT (by omega) (by omega)), zcl (by omega), zcl (by omega), g15 _ hdi, g15 _ hd]
      unfold p_X1_layDeed_b65
      by_cases e : a.th (a.dN i) = a.th (a.dN c)
      · rw [if_pos (by rw [e]), if_pos (jinT (by omega) (by omega)), if_pos (jinT (by omega) (by omega)), bitI_e, jlt_eq, nI_1]
        refine ih n (i + 1) _ (by omega) (by omega) ?_ ?_ ?_ ?_ ?_ ?_ ?_
        · intro x hx; rw [jup_n _ _ (by omega)]; exact F x hx
        · rw [jup_n _ _ (by decide)]; exact c4
        · rw [jup_n _ _ (by decide)]; exact F0
        · rw [jup_n _ _ (by decide)]; exact dd
        · intro x j hx hj
          rw [jup_s, upd_i]
          by_cases ex : x = i
          · subst ex
            rw [if_pos rfl, if_pos (by omega), b_or, wi x j hx hj, if_neg (by omega), bt_bit (by omega) hj]
            by_cases ej : j = c
            · subst ej
              rw [decide_eq_true rfl, Bool.or_true, decide_eq_true (show x ≤ j by omega), decide_eq_true (show j < j + 1 by omega), show a.sg x j = true from decide_eq_true e.symm]; rfl
            · rw [decide_eq_false ej, Bool.or_false]
              have : decide (j < c + 1) = decide (j < c) := by
                by_cases l : j < c
                · rw [decide_eq_true l, decide_eq_true (by omega)]
                · rw [decide_eq_false l, decide_eq_false (by omega)]
              rw [this]
          · rw [if_neg ex, wi x j hx hj]
            have : (if x < i then c + 1 else c) = (if x < i + 1 then c + 1 else c) := by
              by_cases l : x < i
              · rw [if_pos l, if_pos (by omega)]
              · rw [if_neg l, if_neg (by omega)]
            rw [this]
        · rw [jup_n _ _ (by decide)]; exact mn
        · rw [jup_n _ _ (by decide)]; exact mi
      · rw [if_neg (fun h => e ((nI_eq (by omega) (by omega)).mp h)), nI_1]
        refine ih n (i + 1) G (by omega) (by omega) F c4 F0 dd ?_ mn mi
        intro x j hx hj
        rw [wi x j hx hj]
        by_cases ex : x = i
        · subst ex
          rw [if_neg (by omega), if_pos (by omega)]
          by_cases ej : j = c
          · subst ej
            rw [show a.sg x j = false from decide_eq_false (fun h => e h.symm), Bool.and_false, Bool.and_false]
          · have : decide (j < c + 1) = decide (j < c) := by
              by_cases l : j < c
              · rw [decide_eq_true l, decide_eq_true (by omega)]
              · rw [decide_eq_false l, decide_eq_false (by omega)]
            rw [this]
        · have : (if x < i then c + 1 else c) = (if x < i + 1 then c + 1 else c) := by
            by_cases l : x < i
            · rw [if_pos l, if_pos (by omega)]
            · rw [if_neg l, if_neg (by omega)]
          rw [this]
theorem c_deed (hN : 2000 ≤ N) (I : a.I) (R : RC (jvw G 11) a) {c : Nat} (hc : c < a.dM) (hm : a.dM ≤ 10) (L : CL G a c) : Ok (p_X1_layDeed N G J (nI (a.dN c))) (fun r => (∀ x, 11 ≤ x → r x = G x) ∧ (∀ s, s ≠ 4 → r 0 s = G 0 s) ∧ CL r a (c + 1)) := by
  unfold p_X1_layDeed
  have c4 := L.mm
  have c4' : jup G 1 c (nI (a.dN c)) 0 4 = nI c := by rw [jup_n _ _ (by decide)]; exact c4
  rw [c4, if_pos (jinT (by omega) (by omega)), zcl (by omega), jlt_eq, c4', if_pos (jinT (by omega) (by omega)), zcl (by omega), jlt_eq, show (0 : Int32) = nI 0 from nI_0.symm]
  refine c_deedB I R hc hm (c + 1) N 0 _ (by omega) (by omega) ?_ ?_ ?_ ?_ ?_ ?_ ?_
  · intro x hx; rw [jup_n _ _ (by omega), jup_n _ _ (by omega)]
  · rw [jup_n _ _ (by decide)]; exact c4'
  · intro s _; rw [jup_n _ _ (by decide), jup_n _ _ (by decide)]
  · intro x hx
    rw [jup_n _ _ (by decide), jup_s, upd_i]
    by_cases e : x = c
    · rw [if_pos e, e]
    · rw [if_neg e]; exact L.dd x (by omega)
  · intro x j hx hj
    rw [jup_s, upd_i, if_neg (Nat.not_lt_zero _), jup_n _ _ (by decide)]
    by_cases e : x = c
    · rw [if_pos e, nI_0, b_0, e]
      by_cases l : c ≤ j
      · rw [decide_eq_false (show ¬ j < c by omega), Bool.and_false, Bool.false_and]
      · rw [decide_eq_false l, Bool.false_and, Bool.false_and]
    · rw [if_neg e]; exact L.wi x j (by omega) hj
  · rw [jup_n _ _ (by decide), jup_n _ _ (by decide)]; exact L.mn
  · rw [jup_n _ _ (by decide), jup_n _ _ (by decide)]; exact L.mi
theorem pop_opens (I : a.I) : pop a.opens = nI a.dM := by
  have hnd := I.nd
  have e : a.dM = cN a.opn 0 a.nd := dl_cN a a.nd
  rw [e, ← sm_bI]
  unfold pop
  rw [show (32 : Nat) = a.nd + (32 - a.nd) by omega, sm_app, sm_zero (32 - a.nd), Int32.add_zero]
  · apply sm_congr
    intro i _ hi
    unfold TA.opens
    rw [it_bits _ _ _ _ _ (by omega) (by omega), b_0, Bool.false_or, decide_eq_true (Nat.zero_le i), decide_eq_true hi, Bool.true_and, Bool.true_and]
  · intro i h1 h2
    unfold TA.opens
    rw [it_bits _ _ _ _ _ (by omega) (by omega), b_0, Bool.false_or, decide_eq_false (show ¬ i < 0 + a.nd by omega), Bool.and_false, Bool.false_and]
    rfl
theorem dl_at {d : Nat} (hd : d < a.nd) (h : a.opn d = true) : a.dN (a.dl d).2 = d ∧ (a.dl d).2 < a.dM ∧ (a.dl (d + 1)).2 = (a.dl d).2 + 1 := by
  have es := dl_s a d
  rw [if_pos h] at es
  have e2 : (a.dl (d + 1)).2 = (a.dl d).2 + 1 := by rw [es]
  have le := dl_le a (k := d + 1) (a.nd - (d + 1))
  rw [show d + 1 + (a.nd - (d + 1)) = a.nd by omega] at le
  refine ⟨?_, ?_, e2⟩
  · unfold TA.dN
    rw [le.2 _ (by omega), es]
    dsimp only
    rw [if_pos rfl]
  · have l1 : (a.dl (d + 1)).2 ≤ a.dM := le.1
    omega
theorem c_lay57 (hN : 2000 ≤ N) (I : a.I) (hm : a.dM ≤ 10) {P : Int32 × (Nat → Nat → Int32) → Prop} (hP : ∀ r, (∀ x, 11 ≤ x → r x = A x) → (∀ s, s ≠ 4 → r 0 s = A 0 s) → CL r a a.dM → Ok (p_X1_lay_b99 N J r) P) (R : RC (jvw A 11) a) : ∀ (k n d : Nat) (G : Nat → Nat → Int32), d + k = a.nd → k < n → (∀ x, 11 ≤ x → G x = A x) → (∀ s, s ≠ 4 → G 0 s = A 0 s) → CL G a (a.dl d).2 → Ok (p_X1_lay_b57 N J n G a.opens (nI d)) P := by
  have hnd := I.nd
  intro k
  induction k with
  | zero =>
    intro n d G hd hn F F0 L
    have ed : d = a.nd := by omega
    rw [ed] at L
    have c7 : G 11 7 = nI a.nd := by rw [F 11 (by omega)]; exact R.nd
    match n, hn with
    | n + 1, _ =>
      unfold p_X1_lay_b57
      rw [c7, if_pos (nI_le (by omega) (by omega))]
      exact hP G F F0 L
  | succ k ih =>
    intro n d G hd hn F F0 L
    have c7 : G 11 7 = nI a.nd := by rw [F 11 (by omega)]; exact R.nd
    have c4 := L.mm
    have le := (dl_le a (k := d) (a.nd - d)).1
    rw [show d + (a.nd - d) = a.nd by omega] at le
    have le2 : (a.dl d).2 ≤ a.dM := le
    match n, hn with
    | n + 1, hn =>
      unfold p_X1_lay_b57
      rw [c7, if_neg (nI_ge (by omega) (by omega)), c4, show (10 : Int32) = nI 10 by decide]
      by_cases c : 10 ≤ (a.dl d).2
      · rw [if_pos (nI_le c (by omega))]
        have e : (a.dl d).2 = a.dM := by omega
        rw [e] at L
        exact hP G F F0 L
      · rw [if_neg (nI_ge (by omega) (by omega)), bt_test _ (by omega)]
        have eb : bt a.opens d = a.opn d := by
          unfold TA.opens
          rw [it_bits _ _ _ _ _ (by omega) (by omega), b_0, Bool.false_or, decide_eq_true (Nat.zero_le d), decide_eq_true (show d < 0 + a.nd by omega), Bool.true_and, Bool.true_and]
        rw [eb]
        cases ho : a.opn d
        · rw [if_neg (by decide)]
          unfold p_X1_lay_b93
          rw [nI_1]
          have es := dl_s a d
          rw [ho, if_neg (by decide)] at es
          exact ih n (d + 1) G (by omega) (by omega) F F0 (by rw [es]; exact L)
        · rw [if_pos (by decide)]
          obtain ⟨e1, e2, e3⟩ := dl_at (by omega) ho
          have RG : RC (jvw G 11) a := R.cg (fun x hx => F (11 + x) (by omega))
          have dd := c_deed (J := J) hN I RG e2 hm L
          rw [e1] at dd
          refine Ok.b dd ?_
          rintro r ⟨r1, r2, r3⟩
          rw [jlt_eq, nI_1]
          exact ih n (d + 1) r (by omega) (by omega) (fun x hx => (r1 x hx).trans (F x hx)) (fun s hs => (r2 s hs).trans (F0 s hs)) (by rw [e3]; exact r3)
end clay

/-! keeper, end -/
def TA.kpf (a : TA) (S t : Nat) : Nat → Nat → Nat
  | _, 0 => a.ho t
  | i, k + 1 => if a.th (a.dN i) = t ∧ S.testBit i = false then a.gi (a.dN i) else TA.kpf a S t (i + 1) k
theorem LL1 : (1 : Int64).toInt = 1 := by decide
theorem LL10 : (10 : Int64).toInt = 10 := by decide
theorem LL100 : (100 : Int64).toInt = 100 := by decide
section keeper
variable {N : Nat} {G G2 G3 A : Nat → Nat → Int32} {J J2 B : Nat → Nat → Int64} {a : TA} {s s2 : SA} {xs : Nat → Int32} {i : Int32}
theorem kpf_s (a : TA) (S t i k : Nat) : a.kpf S t i (k + 1) = if a.th (a.dN i) = t ∧ S.testBit i = false then a.gi (a.dN i) else a.kpf S t (i + 1) k := rfl
theorem stI_bit (I : a.I) {d : Nat} (hd : d < 32) : bt a.stI d = a.st d := by
  have hnd := I.nd
  unfold TA.stI
  rw [it_bits _ _ _ _ _ hd (by omega), b_0, Bool.false_or, decide_eq_true (Nat.zero_le d), Bool.true_and]
  cases h : a.st d
  · rw [Bool.and_false]
  · have := I.st d h
    rw [decide_eq_true (show d < 0 + a.nd by omega)]; rfl
theorem lef_keep (I : a.I) {S d : Nat} (hd : d < 32) (x : Int32) : ∀ k, k ≤ a.dM → (∀ i, i < k → a.dN i = d → S.testBit i = true) → bt (it (fun s i => if S.testBit i = true then s else s &&& (bitI (a.dN i) ^^^ (-1))) 0 k x) d = bt x d
  | 0, _, _ => rfl
  | k + 1, hk, h => by
    have hnd := I.nd
    have h3 := dN_nd (a := a) (i := k) (by omega)
    rw [it_e, Nat.zero_add]
    have ih := lef_keep I hd x k (by omega) (fun i hi => h i (by omega))
    by_cases c : S.testBit k = true
    · rw [if_pos c]; exact ih
    · have hne : ¬ d = a.dN k := fun e => c (h k (by omega) e.symm)
      rw [if_neg c, b_and, bt_not _ hd, bt_bit (by omega) hd, decide_eq_false hne, Bool.not_false, Bool.and_true]
      exact ih
theorem lef_gone (I : a.I) {S d i : Nat} (hd : d < 32) (e : a.dN i = d) (hs : S.testBit i = false) (x : Int32) : ∀ k, k ≤ a.dM → i < k → bt (it (fun s i => if S.testBit i = true then s else s &&& (bitI (a.dN i) ^^^ (-1))) 0 k x) d = false
  | 0, _, h => absurd h (Nat.not_lt_zero _)
  | k + 1, hk, h => by
    have hnd := I.nd
    have h3 := dN_nd (a := a) (i := k) (by omega)
    rw [it_e, Nat.zero_add]
    by_cases c : i = k
    · rw [← c, if_neg (by rw [hs]; decide), b_and, bt_not _ hd, e, bt_bit hd hd, decide_eq_true rfl, Bool.not_true, Bool.and_false]
    · have ih := lef_gone I hd e hs x k (by omega) (by omega)
      by_cases c2 : S.testBit k = true
      · rw [if_pos c2]; exact ih
      · rw [if_neg c2, b_and, ih, Bool.false_and]
theorem lef_op (I : a.I) {S c : Nat} (hc : c < a.dM) : bt (a.lef S) (a.dN c) = S.testBit c := by
  have hnd := I.nd
  have h3 := dN_nd hc
  unfold TA.lef
  cases h : S.testBit c
  · exact lef_gone I (by omega) rfl h _ a.dM (Nat.le_refl _) hc
  · rw [lef_keep I (by omega) _ a.dM (Nat.le_refl _) (fun i hi e => by rw [dN_inj hi hc e]; exact h), stI_bit I (by omega)]
    exact (opnst3 (dN_op hc)).1
theorem lef_no (I : a.I) {S d : Nat} (hd : d < 32) (ho : a.opn d = false) : bt (a.lef S) d = a.st d := by
  unfold TA.lef
  rw [lef_keep I hd _ a.dM (Nat.le_refl _) (fun i hi e => by
    have := dN_op hi
    rw [e, ho] at this
    cases this), stI_bit I hd]
theorem x_kpl (R : RC (jvw G 1) a) (I : a.I) {t S : Nat} (ht : t < a.nt) {x3 : Int32} (hx : ∀ d, d < 32 → bt x3 d = (a.st d && !(bt (a.lef S) d))) : ∀ (k n d : Nat), d + k = a.nd → k < n → p_X5_keeper_b61 N n G J (nI t) x3 (nI d) = some (.inr (nI (a.kpf S t (a.dl d).2 (a.dM - (a.dl d).2)), G, J)) := by
  have hnd := I.nd
  have hnt := I.nt
  have c7 : G 1 7 = nI a.nd := R.nd
  intro k
  induction k with
  | zero =>
    intro n d hd hn
    have e : d = a.nd := by omega
    have c3 : G 3 t = nI (a.ho t) := R.ho t ht
    match n, hn with
    | n + 1, _ =>
      unfold p_X5_keeper_b61
      rw [c7, if_pos (nI_le (by omega) (by omega)), if_pos (jinT (by omega) (by omega)), zcl (by omega), c3, e]
      have e2 : (a.dl a.nd).2 = a.dM := rfl
      rw [e2, Nat.sub_self]
      rfl
  | succ k ih =>
    intro n d hd hn
    have hth := I.th d (by omega)
    have c5 : G 5 d = nI (a.th d) := R.th d (by omega)
    have c6 : G 6 d = nI (a.gi d) := R.gi d (by omega)
    match n, hn with
    | n + 1, hn =>
      have ih2 := ih n (d + 1) (by omega) (by omega)
      unfold p_X5_keeper_b61 p_X5_keeper_b108
      rw [c7, if_neg (nI_ge (by omega) (by omega)), if_pos (jinT (by omega) (by omega)), zcl (by omega), c5, c6, bt_test _ (by omega), hx d (by omega), nI_1, ih2, if_pos (jinT (by omega) (by omega))]
      cases ho : a.opn d
      · have es : (a.dl (d + 1)).2 = (a.dl d).2 := by rw [dl_s, ho, if_neg (by decide)]
        have e0 : (a.st d && !(bt (a.lef S) d)) = false := by
          rw [lef_no I (by omega) ho]
          cases a.st d <;> rfl
        rw [e0, es, if_neg (show ¬ bI false = 1 by decide), ite_self]
      · obtain ⟨q1, q2, q3⟩ := dl_at (show d < a.nd by omega) ho
        have e1 : bt (a.lef S) d = S.testBit (a.dl d).2 := by
          have := lef_op I (S := S) q2
          rw [q1] at this
          exact this
        rw [e1, (opnst3 ho).1, Bool.true_and, q3, show a.dM - (a.dl d).2 = (a.dM - ((a.dl d).2 + 1)) + 1 by omega, kpf_s, q1]
        by_cases c : a.th d = t
        · rw [if_pos (by rw [c])]
          cases hs : S.testBit (a.dl d).2
          · rw [if_pos (show bI (!false) = 1 by decide), if_pos ⟨c, rfl⟩]
          · rw [if_neg (show ¬ bI (!true) = 1 by decide), if_neg (fun h => by cases h.2)]
        · rw [if_neg (fun h => c ((nI_eq (by omega) (by omega)).mp h)), if_neg (fun h => c h.1)]
theorem m_kpl {f T : Nat} (L : ML G a f T) {t S : Nat} (ht : t < a.nt) : ∀ (i n : Nat), i ≤ a.dM → i < n → p_X6_keeper_b82 N J n G (nI t) (nI S) (nI (a.kpf S t i (a.dM - i))) (nI i - 1) = some (nI (a.kpf S t 0 a.dM), G) := by
  have M := L.md
  have hm := M.mx
  have I := M.i
  have hnt := I.nt
  intro i
  induction i with
  | zero =>
    intro n hi hn
    match n, hn with
    | n + 1, _ =>
      unfold p_X6_keeper_b82
      rw [nI_0, if_pos (by decide)]
      rfl
  | succ i ih =>
    intro n hi hn
    have hd := dN_nd (a := a) (i := i) (by omega)
    have hth := I.th _ hd
    match n, hn with
    | n + 1, hn =>
      have ih2 := ih n (by omega) (by omega)
      unfold p_X6_keeper_b82 p_X6_keeper_b126
      rw [nI_p1, if_neg (nI_pos (by omega)), if_pos (jinT (by omega) (by omega)), zcl (by omega), M.dd i (by omega), m_of0 M.m I.nd hd, Option.bind_some, bt_tS (by omega), m_of1 M.m I.nd hd, Option.bind_some, nI_m1, if_pos (jinT (by omega) (by omega))]
      rw [show a.dM - i = (a.dM - (i + 1)) + 1 by omega, kpf_s] at ih2
      by_cases c : a.th (a.dN i) = t
      · rw [if_pos (by rw [c])]
        cases hs : S.testBit i
        · rw [if_pos ⟨c, hs⟩] at ih2
          rw [if_pos (show bI false = 0 by decide)]
          exact ih2
        · rw [if_neg (fun h => by rw [hs] at h; cases h.2)] at ih2
          rw [if_neg (show ¬ bI true = 0 by decide)]
          exact ih2
      · rw [if_neg (fun h => c h.1)] at ih2
        rw [if_neg (fun h => c ((nI_eq (by omega) (by omega)).mp h))]
        exact ih2
def TA.keA (a : TA) (r t : Nat) : Int32 := if a.dM ≤ 10 then nI (a.kpf (a.wk 0 (r * a.np) (r * a.np)) t 0 a.dM) else -100000
theorem x_rou {r : Nat} (hr : r = 1 ∨ r = 2) : p_X5_needRounds N (nI r) = some (.inr ()) := by
  unfold p_X5_needRounds
  rcases hr with h | h <;> subst h
  · rw [if_pos (by decide)]
  · rw [if_neg (by decide), if_pos (by decide)]
theorem x_rouF {y : Int32} (h : ¬ (1 ≤ y.toInt ∧ y.toInt ≤ 2)) : p_X5_needRounds N y = some (.inl 3) := by
  unfold p_X5_needRounds
  rw [if_neg (fun e => h (by rw [e]; decide)), if_neg (fun e => h (by rw [e]; decide))]
theorem x_keeper (hN : 2000 ≤ N) (X : CX G J s) (I : s.I) {t r : Nat} (ht : t < s.now.nt) (hr : r = 1 ∨ r = 2) : Ok (p_X5_keeper N G J (nI t) (nI r)) (fun o => ∃ G1 J1, o = .inr (s.now.keA r t, G1, J1) ∧ CX G1 J1 s) := by
  have hnd := I.now.nd
  unfold p_X5_keeper
  rw [x_needT X.now I.now ht, jbx_r, x_rou hr, jbx_r]
  refine x_lp hN (by decide) X.now I.now (r := r) (f := 0) (by omega) (by decide) rfl nI0 ?_ ?_
  · intro c G3 g
    refine Ok.s ⟨G3, J, ?_, X.e (fun c hc => g c (by omega)) (fun _ _ => rfl)⟩
    unfold TA.keA
    rw [if_neg c]
  · intro c G7 J9 Y
    have X7 := Y.cx X
    have st8 : ∀ d, d < 32 → bt (G7 1 8) d = s.now.st d := X7.now.st
    have key := x_kpl (N := N) (J := J9) X7.now I.now ht (S := s.now.wk 0 (r * s.now.np) (r * s.now.np)) (x3 := (G7 1 8) &&& ((G7 24 0) ^^^ (-1 : Int32))) (fun d hd => by rw [b_and, bt_not _ hd, Y.lf, st8 d hd]) s.now.nd N 0 (by omega) (by omega)
    rw [nI_0] at key
    rw [key]
    refine Ok.s ⟨G7, J9, ?_, X7⟩
    unfold TA.keA
    rw [if_pos c]
    rfl
theorem rou_n {y : Int32} (h : 1 ≤ y.toInt ∧ y.toInt ≤ 2) : ∃ r : Nat, (r = 1 ∨ r = 2) ∧ y = nI r := ⟨y.toInt.toNat, by omega, iiN (by omega) (by omega)⟩
theorem rou_w {r : Nat} (hr : r = 1 ∨ r = 2) : p_X6_within N (nI r).toInt64 1 2 = some 1 := w_t (by rw [LL1, L2, w_n (by omega)]; omega)
theorem case_29 (hN : 2000 ≤ N) (hL : LR G J s) : Ok (p_case_29 N xs G J i) (fun r => ∃ s, LR r.1 r.2 s) := by
  have X := hL.1.w
  have I := hL.2.2.now
  have hnt := I.nt
  unfold p_case_29 p_L_keeper
  generalize xs (i + 1).toNatClampNeg = x
  generalize xs (i + 2).toNatClampNeg = y
  have ty : y.toInt64.toInt = y.toInt := Int32.toInt_toInt64 y
  by_cases hx : ∃ t, t < s.now.nt ∧ x = nI t
  · obtain ⟨t, ht, rfl⟩ := hx
    by_cases hy : 1 ≤ y.toInt ∧ y.toInt ≤ 2
    · obtain ⟨r, hr, rfl⟩ := rou_n hy
      obtain ⟨o, f1, G1, J1, f2, f3⟩ := x_keeper hN X hL.2.2 ht hr
      refine k_E hL (m := fun g j => p_X6_keeper N g j (nI t) (nI r)) 0 (s.now.keA r t) s hL.2.2 (Or.inl ⟨G1, J1, ?_, rfl, f3⟩) ?_
      · rw [f1, f2]
      · intro g j M
        unfold p_X6_keeper p_X6_keeper_b30
        rw [m_isTt M.now I ht, Option.bind_some, if_neg i10, rou_w hr, Option.bind_some, if_neg i10, jlt_eq, if_pos (by rw [e05]; decide)]
        refine Ok.b (m_endE hN (thrR M.now 0) I (r := r) (by omega) rfl) ?_
        rintro ⟨u, g2⟩ ⟨F, h⟩
        rw [jlt_eq]
        dsimp only at F h ⊢
        unfold TA.keA
        by_cases c : s.now.dM ≤ 10
        · rw [if_pos c] at h ⊢
          obtain ⟨hu, L⟩ := h
          have c14 : g2 1 (14 + t) = nI (s.now.ho t) := L.md.m.ho t ht
          have key := m_kpl (N := N) (J := j) L (S := s.now.wk 0 (r * s.now.np) (r * s.now.np)) ht s.now.dM N (Nat.le_refl _) (by omega)
          rw [Nat.sub_self] at key
          have key2 : p_X6_keeper_b82 N j N g2 (nI t) (nI (s.now.wk 0 (r * s.now.np) (r * s.now.np))) (nI (s.now.ho t)) (nI s.now.dM - 1) = some (nI (s.now.kpf (s.now.wk 0 (r * s.now.np) (r * s.now.np)) t 0 s.now.dM), g2) := key
          rw [if_neg (by rw [hu]; decide), L.tt, m_setB hN L (Nat.le_refl _), Option.bind_some, z14, if_pos (jinT (by omega) (by omega)), zcl (by omega), c14, L.md.mm, key2]
          exact Ok.s (mb_fx M F rfl)
        · rw [if_neg c] at h ⊢
          rw [if_pos h]
          exact Ok.s (mb_fx M F rfl)
    · refine k_E hL (m := fun g j => p_X6_keeper N g j (nI t) y) 2 0 s hL.2.2 (Or.inr ⟨3, ?_, by decide, rfl, rfl⟩) ?_
      · unfold p_X5_keeper
        rw [x_needT X.now I ht, jbx_r, x_rouF hy, jbx_l]
      · intro g j M
        unfold p_X6_keeper p_X6_keeper_b30
        rw [m_isTt M.now I ht, Option.bind_some, if_neg i10, w_f (by rw [LL1, L2, ty]; exact hy), Option.bind_some, if_pos rfl, jlt_eq, if_neg (by rw [e05]; decide)]
        exact Ok.s (mb_fail1 M (by decide))
  · refine k_E hL (m := fun g j => p_X6_keeper N g j x y) 1 0 s hL.2.2 (Or.inr ⟨1, ?_, by decide, rfl, rfl⟩) ?_
    · unfold p_X5_keeper
      rw [x_needTf X.now I hx, jbx_l]
    · intro g j M
      unfold p_X6_keeper p_X6_keeper_b30
      rw [m_isTf M.now I hx, Option.bind_some, if_pos rfl, jlt_eq, if_neg (by rw [e05]; decide)]
      exact Ok.s (mb_fail1 M (by decide))
/-- end -/
def TA.und (a : TA) (f T : Nat) : Int32 := it (fun s t => s + (if a.dx (a.chs f T t (a.wk f T t)) = -1 then 0 else 1)) 0 T 0
theorem x_undo (hN : 2000 ≤ N) {f T : Nat} (Y : XY G2 J2 G J a f T) : p_X1_undoings N (jvw G2 24) (jvw J2 24) = some (a.und f T) := by
  have hT := Y.ce.tm
  have tt : jvw G2 24 0 3 = nI T := Y.ce.tt
  have ch : ∀ t, t < T → jvw G2 24 10 t = a.dx (a.chs f T t (a.wk f T t)) := Y.ch
  unfold p_X1_undoings TA.und
  refine lp_it (L := fun n s x => p_X1_undoings_b4 N (jvw G2 24) (jvw J2 24) n s x) (m := T) (fin := some) ?_ ?_ T 0 N 0 (by omega) (by omega)
  · intro n s
    show p_X1_undoings_b4 N (jvw G2 24) (jvw J2 24) (n + 1) s (nI T) = _
    rw [p_X1_undoings_b4, tt, if_pos (nI_le (by omega) (by omega))]
  · intro n s t ht
    show p_X1_undoings_b4 N (jvw G2 24) (jvw J2 24) (n + 1) s (nI t) = p_X1_undoings_b4 N (jvw G2 24) (jvw J2 24) n _ _
    rw [p_X1_undoings_b4, tt, if_neg (nI_ge (by omega) (by omega)), if_pos (jinT (by omega) (by omega)), zcl (by omega), ch t ht]
    unfold p_X1_undoings_b28
    rw [nI_1]
    by_cases c : a.dx (a.chs f T t (a.wk f T t)) = -1
    · rw [if_pos c, if_pos c]
    · rw [if_neg c, if_neg c]
theorem m_undo (hN : 2000 ≤ N) {f T : Nat} (L : ML G a f T) : p_X6_end_b144 N J N G 0 0 = some (a.und f T, G) := by
  have hT := L.tm
  unfold TA.und
  refine lp_it (L := fun n s x => p_X6_end_b144 N J n G s x) (m := T) (fin := fun v => some (v, G)) ?_ ?_ T 0 N 0 (by omega) (by omega)
  · intro n s
    show p_X6_end_b144 N J (n + 1) G s (nI T) = _
    rw [p_X6_end_b144, L.tt, if_pos (nI_le (by omega) (by omega))]
  · intro n s t ht
    show p_X6_end_b144 N J (n + 1) G s (nI t) = p_X6_end_b144 N J n G _ _
    rw [p_X6_end_b144, L.tt, if_neg (nI_ge (by omega) (by omega)), m_chosen hN L ht, Option.bind_some]
    unfold p_X6_end_b170
    rw [nI_1]
    by_cases c : a.dx (a.chs f T t (a.wk f T t)) = -1
    · rw [if_pos c, if_pos c]
    · rw [if_neg c, if_neg c]
def TA.sp (a : TA) (v : Int32) : Int32 := if a.dM ≤ 10 then v else -100000
theorem x_e85 (hN : 2000 ≤ N) (X : CX G J s) (I : s.I) {r : Nat} (hr : r = 1 ∨ r = 2) {x2 x3 x4 v : Int32} (h : ∀ G9 J11, XY G9 J11 G J s.now 0 (r * s.now.np) → CX G9 J11 s → (if x3 = 0 then (if x4 = 0 then (if x2 = 0 then (some (Sum.inr ((G9 24 0), G9, J11) : Nat ⊕ (Int32 × (Nat → Nat → Int32) × (Nat → Nat → Int64)))) else ((p_X1_undoings N (jvw G9 24) (jvw J11 24)).bind (fun v14 => some (.inr (v14, G9, J11))))) else ((p_X1_undoneIn N (jvw G9 24) (jvw J11 24) (x2 - (100 : Int32))).bind (fun v17 => some (.inr (v17, G9, J11))))) else ((p_X3_wealth N (jvw G9 1) (x2 - (10 : Int32))).bind (fun v20 => (p_X1_change N (jvw G9 24) (jvw J11 24) (x2 - (10 : Int32))).bind (fun v22 => some (.inr ((v20 + v22), G9, J11)))))) = some (.inr (v, G9, J11))) : Ok (p_X5_end_b85 N G J (nI r) x2 x3 x4) (fun o => ∃ G1 J1, o = .inr (s.now.sp v, G1, J1) ∧ CX G1 J1 s) := by
  unfold p_X5_end_b85
  refine x_lp hN (by decide) X.now I.now (r := r) (f := 0) (by omega) (by decide) rfl nI0 ?_ ?_
  · intro c G3 g
    refine Ok.s ⟨G3, J, ?_, X.e (fun c hc => g c (by omega)) (fun _ _ => rfl)⟩
    unfold TA.sp
    rw [if_neg c]
  · intro c G7 J9 Y
    have X7 := Y.cx X
    rw [h G7 J9 Y X7]
    refine Ok.s ⟨G7, J9, ?_, X7⟩
    unfold TA.sp
    rw [if_pos c]
theorem m_e76 (hN : 2000 ≤ N) {g : Nat → Nat → Int32} {j : Nat → Nat → Int64} (M : CM g j s) (I : s.I) {r : Nat} (hr : r = 1 ∨ r = 2) {x2 v : Int32} (h : ∀ G7, ML G7 s.now 0 (r * s.now.np) → (if x2 = 0 then ((p_X6_standIn N G7 j).bind (fun v20 => some (v20, G7))) else (if x2 < (100 : Int32) then (if x2 < (10 : Int32) then (p_X6_end_b144 N j N G7 (0 : Int32) (0 : Int32)) else ((p_X6_wealthIn N G7 j (x2 - (10 : Int32))).bind (fun v14 => some (v14, G7)))) else ((p_X6_chosen N G7 j (x2 - (100 : Int32))).bind (fun v17 => some (v17, G7))))) = some (v, G7)) : Ok (p_X6_end_b76 N j (jup g 0 5 0) (nI r) x2 1) (fun r => ((0 : Int32) = 0 → r.1 = s.now.sp v) ∧ r.2 0 5 = 0 ∧ CM r.2 j s) := by
  unfold p_X6_end_b76
  rw [if_neg i10]
  refine Ok.b (m_endE hN (thrR M.now 0) I.now (r := r) (by omega) rfl) ?_
  rintro ⟨u, g2⟩ ⟨F, h2⟩
  rw [jlt_eq]
  dsimp only at F h2 ⊢
  unfold TA.sp
  by_cases c : s.now.dM ≤ 10
  · rw [if_pos c] at h2 ⊢
    rw [if_neg (by rw [h2.1]; decide), h g2 h2.2]
    exact Ok.s (mb_fx M F rfl)
  · rw [if_neg c] at h2 ⊢
    rw [if_pos h2]
    exact Ok.s (mb_fx M F rfl)
theorem case_31 (hN : 2000 ≤ N) (hL : LR G J s) : Ok (p_case_31 N xs G J i) (fun r => ∃ s, LR r.1 r.2 s) := by
  have X := hL.1.w
  have I := hL.2.2.now
  have hnp := I.np
  have n11 : jvw (jv2 G 0 70 85) 0 1 1 = nI s.now.np := X.now.np
  unfold p_case_31 p_L_end
  generalize xs (i + 1).toNatClampNeg = y
  generalize xs (i + 2).toNatClampNeg = z
  have ty : y.toInt64.toInt = y.toInt := Int32.toInt_toInt64 y
  have tz : z.toInt64.toInt = z.toInt := Int32.toInt_toInt64 z
  have z10' : (z < 10) = (z.toInt < 10) := propext (Int32.lt_iff_toInt_lt.trans (by rfl))
  have z100' : (z < 100) = (z.toInt < 100) := propext (Int32.lt_iff_toInt_lt.trans (by rfl))
  have e10 : (10 : Int32) = nI 10 := by decide
  have e100 : (100 : Int32) = nI 100 := by decide
  have sub10 : ∀ p, nI (10 + p) - (10 : Int32) = nI p := fun p => by rw [e10, ← nI_add]; grind
  have sub100 : ∀ p, nI (100 + p) - (100 : Int32) = nI p := fun p => by rw [e100, ← nI_add]; grind
  have fail : ∀ g j, CM g j s → Ok (p_X6_end_b75 N j (jup g 0 5 0) y z) (fun r => ((1 : Int32) = 0 → r.1 = 0) ∧ r.2 0 5 = 1 ∧ CM r.2 j s) := by
    intro g j M
    unfold p_X6_end_b75 p_X6_end_b76 p_X6_fails
    rw [if_pos rfl, jlt_eq, Option.bind_some, jlt_eq]
    exact Ok.s (mb_fail M 0 (by decide))
  by_cases hy : 1 ≤ y.toInt ∧ y.toInt ≤ 2
  · obtain ⟨r, hr, rfl⟩ := rou_n hy
    have hrn : r * s.now.np ≤ 12 := by
      rcases hr with h | h <;> subst h <;> omega
    have h9 : ∀ g j, CM g j s → ((9 : Int32) + (jup g 0 5 0 1 1)).toInt64.toInt = 9 + (s.now.np : Int) := by
      intro g j M
      have e : jup g 0 5 0 1 1 = nI s.now.np := (thrR M.now 0).np
      rw [e, show (9 : Int32) = nI 9 by decide, nI_add, w_n (by omega)]
      omega
    have h99 : ∀ g j, CM g j s → ((99 : Int32) + (nI r * (jup g 0 5 0 1 1))).toInt64.toInt = 99 + ((r * s.now.np : Nat) : Int) := by
      intro g j M
      have e : jup g 0 5 0 1 1 = nI s.now.np := (thrR M.now 0).np
      rw [e, pk_mul, show (99 : Int32) = nI 99 by decide, nI_add, w_n (by omega)]
      omega
    by_cases hz0 : z.toInt = 0
    · obtain rfl : z = 0 := ii0 hz0
      have cls : Ok (p_X5_end N (jvw (jv2 G 0 70 85) 0) (jvw (jv2 J 0 70 85) 0) (nI r) 0) (fun o => ∃ G1 J1, o = .inr (s.now.sp (s.now.lef (s.now.wk 0 (r * s.now.np) (r * s.now.np))), G1, J1) ∧ CX G1 J1 s) := by
        unfold p_X5_end p_X5_end_b28 p_X5_end_b29 p_X5_end_b56 p_X5_end_b57
        rw [x_rou hr, jbx_r, if_pos (by decide), if_pos (by decide), if_pos rfl]
        refine x_e85 hN X hL.2.2 hr ?_
        intro G9 J11 Y _
        rw [if_pos rfl, if_pos rfl, if_pos rfl, Y.lf]
      obtain ⟨o, f1, G1, J1, f2, f3⟩ := cls
      refine k_E hL (m := fun g j => p_X6_end N g j (nI r) 0) 0 _ s hL.2.2 (Or.inl ⟨G1, J1, by rw [f1, f2], rfl, f3⟩) ?_
      intro g j M
      unfold p_X6_end p_X6_end_b71
      rw [jlt_eq, rou_w hr, Option.bind_some, if_neg i10, w_t (by rw [w_0, LL1, tz]; omega), Option.bind_some, if_neg i10]
      refine m_e76 hN M hL.2.2 hr ?_
      intro G7 L
      rw [if_pos rfl, m_standIn hN L, Option.bind_some]
    · by_cases hz1 : z.toInt = 1
      · obtain rfl : z = 1 := ii1 hz1
        have cls : Ok (p_X5_end N (jvw (jv2 G 0 70 85) 0) (jvw (jv2 J 0 70 85) 0) (nI r) 1) (fun o => ∃ G1 J1, o = .inr (s.now.sp (s.now.und 0 (r * s.now.np)), G1, J1) ∧ CX G1 J1 s) := by
          unfold p_X5_end p_X5_end_b28 p_X5_end_b29 p_X5_end_b56 p_X5_end_b57
          rw [x_rou hr, jbx_r, if_pos (by decide), if_pos (by decide), if_neg i10, if_pos rfl]
          refine x_e85 hN X hL.2.2 hr ?_
          intro G9 J11 Y _
          rw [if_pos rfl, if_pos rfl, if_neg i10, x_undo hN Y, Option.bind_some]
        obtain ⟨o, f1, G1, J1, f2, f3⟩ := cls
        refine k_E hL (m := fun g j => p_X6_end N g j (nI r) 1) 0 _ s hL.2.2 (Or.inl ⟨G1, J1, by rw [f1, f2], rfl, f3⟩) ?_
        intro g j M
        unfold p_X6_end p_X6_end_b71
        rw [jlt_eq, rou_w hr, Option.bind_some, if_neg i10, w_t (by rw [w_0, LL1, tz]; omega), Option.bind_some, if_neg i10]
        refine m_e76 hN M hL.2.2 hr ?_
        intro G7 L
        rw [if_neg i10, if_pos (by decide), if_pos (by decide), m_undo hN L]
      · have zne0 : ¬ z = 0 := fun e => hz0 (by rw [e]; decide)
        have zne1 : ¬ z = 1 := fun e => hz1 (by rw [e]; decide)
        by_cases hzp : 10 ≤ z.toInt ∧ z.toInt < 10 + (s.now.np : Int)
        · obtain ⟨p, hp, rfl⟩ : ∃ p : Nat, p < s.now.np ∧ z = nI (10 + p) := ⟨(z.toInt - 10).toNat, by omega, iiN (by omega) (by omega)⟩
          have cls : Ok (p_X5_end N (jvw (jv2 G 0 70 85) 0) (jvw (jv2 J 0 70 85) 0) (nI r) (nI (10 + p))) (fun o => ∃ G1 J1, o = .inr (s.now.sp (s.now.wealth p + s.now.vl 0 (r * s.now.np) (r * s.now.np) (2 ^ s.now.dM - 1) p), G1, J1) ∧ CX G1 J1 s) := by
            unfold p_X5_end p_X5_end_b29 p_X5_end_b56 p_X5_end_b57
            rw [x_rou hr, jbx_r, if_neg (by rw [z10']; omega), sub10, c_hasPerson X.now I (by omega), Option.bind_some, decide_eq_true hp, if_neg (show ¬ bI true = 0 by decide), if_pos (by rw [z100']; omega), if_neg zne0, if_neg zne1, if_neg i10]
            refine x_e85 hN X hL.2.2 hr ?_
            intro G9 J11 Y X9
            rw [if_neg i10, sub10, c_wealth hN X9.now I hp, Option.bind_some, x_change Y hnp hp, Option.bind_some]
          obtain ⟨o, f1, G1, J1, f2, f3⟩ := cls
          refine k_E hL (m := fun g j => p_X6_end N g j (nI r) (nI (10 + p))) 0 _ s hL.2.2 (Or.inl ⟨G1, J1, by rw [f1, f2], rfl, f3⟩) ?_
          intro g j M
          unfold p_X6_end p_X6_end_b71
          rw [jlt_eq, rou_w hr, Option.bind_some, if_neg i10, w_f (by rw [w_0, LL1, tz]; omega), Option.bind_some, if_pos rfl, w_t (by rw [LL10, h9 g j M, tz]; omega), Option.bind_some, if_neg i10]
          refine m_e76 hN M hL.2.2 hr ?_
          intro G7 L
          rw [if_neg zne0, if_pos (by rw [z100']; omega), if_neg (by rw [z10']; omega), sub10, m_wealthIn hN L hp, Option.bind_some]
        · by_cases hzt : 100 ≤ z.toInt ∧ z.toInt < 100 + ((r * s.now.np : Nat) : Int)
          · obtain ⟨t, ht, rfl⟩ : ∃ t : Nat, t < r * s.now.np ∧ z = nI (100 + t) := ⟨(z.toInt - 100).toNat, by omega, iiN (by omega) (by omega)⟩
            have cls : Ok (p_X5_end N (jvw (jv2 G 0 70 85) 0) (jvw (jv2 J 0 70 85) 0) (nI r) (nI (100 + t))) (fun o => ∃ G1 J1, o = .inr (s.now.sp (s.now.dx (s.now.chs 0 (r * s.now.np) t (s.now.wk 0 (r * s.now.np) t))), G1, J1) ∧ CX G1 J1 s) := by
              unfold p_X5_end p_X5_end_b28 p_X5_end_b29 p_X5_end_b57
              rw [x_rou hr, jbx_r, if_neg (by rw [z10']; omega), show (100 + t : Nat) = 10 + (90 + t) by omega, sub10, c_hasPerson X.now I (by omega), Option.bind_some, decide_eq_false (by omega), if_pos (show bI false = 0 by decide), ← show (100 + t : Nat) = 10 + (90 + t) by omega, if_neg (by rw [z100']; omega), n11, pk_mul, sub100, if_neg (nI_ge ht (by omega)), if_neg zne0, if_neg zne1, if_pos rfl, if_neg i10]
              refine x_e85 hN X hL.2.2 hr ?_
              intro G9 J11 Y X9
              have tt : jvw G9 24 0 3 = nI (r * s.now.np) := Y.ce.tt
              have ch : jvw G9 24 10 t = s.now.dx (s.now.chs 0 (r * s.now.np) t (s.now.wk 0 (r * s.now.np) t)) := Y.ch t ht
              unfold p_X1_undoneIn
              rw [if_pos rfl, if_neg i10, sub100, if_neg (nI_pos (by omega)), tt, if_neg (nI_ge ht (by omega)), if_pos (jinT (by omega) (by omega)), zcl (by omega), ch, Option.bind_some]
            obtain ⟨o, f1, G1, J1, f2, f3⟩ := cls
            refine k_E hL (m := fun g j => p_X6_end N g j (nI r) (nI (100 + t))) 0 _ s hL.2.2 (Or.inl ⟨G1, J1, by rw [f1, f2], rfl, f3⟩) ?_
            intro g j M
            unfold p_X6_end p_X6_end_b71
            rw [jlt_eq, rou_w hr, Option.bind_some, if_neg i10, w_f (by rw [w_0, LL1, tz]; omega), Option.bind_some, if_pos rfl, w_f (by rw [LL10, h9 g j M, tz]; omega), Option.bind_some, if_pos rfl, w_t (by rw [LL100, h99 g j M, tz]; omega), Option.bind_some, if_neg i10]
            refine m_e76 hN M hL.2.2 hr ?_
            intro G7 L
            rw [if_neg zne0, if_neg (by rw [z100']; omega), sub100, m_chosen hN L ht, Option.bind_some]
          · refine k_E hL (m := fun g j => p_X6_end N g j (nI r) z) 1 0 s hL.2.2 (Or.inr ⟨3, ?_, by decide, rfl, rfl⟩) ?_
            · have b56 : p_X5_end_b56 N (jvw (jv2 G 0 70 85) 0) (jvw (jv2 J 0 70 85) 0) (nI r) z 0 = some (.inl 3) := by
                unfold p_X5_end_b56 p_X5_end_b57
                rw [if_neg zne0, if_neg zne1, if_pos rfl, if_pos rfl]
              have b28 : p_X5_end_b28 N (jvw (jv2 G 0 70 85) 0) (jvw (jv2 J 0 70 85) 0) (nI r) z = some (.inl 3) := by
                unfold p_X5_end_b28 p_X5_end_b29
                by_cases h : z < 100
                · rw [if_pos h, b56]
                · rw [if_neg h, n11, pk_mul, if_pos, b56]
                  rw [z100'] at h
                  obtain ⟨t, ht, rfl⟩ : ∃ t : Nat, 100 + t < 2147483648 ∧ z = nI (100 + t) := ⟨(z.toInt - 100).toNat, by have := Int32.toInt_lt z; omega, iiN (by have := Int32.toInt_lt z; omega) (by omega)⟩
                  rw [nI_toInt ht] at hzt
                  rw [sub100]
                  exact nI_le (by omega) (by omega)
              unfold p_X5_end
              rw [x_rou hr, jbx_r]
              by_cases h : z < 10
              · rw [if_pos h, b28]
              · rw [if_neg h]
                rw [z10'] at h
                obtain ⟨t, ht, rfl⟩ : ∃ t : Nat, 10 + t < 2147483648 ∧ z = nI (10 + t) := ⟨(z.toInt - 10).toNat, by have := Int32.toInt_lt z; omega, iiN (by have := Int32.toInt_lt z; omega) (by omega)⟩
                rw [nI_toInt ht] at hzp
                rw [sub10, c_hasPerson X.now I (by omega), Option.bind_some, decide_eq_false (by omega), if_pos (show bI false = 0 by decide), b28]
            · intro g j M
              unfold p_X6_end
              rw [jlt_eq, rou_w hr, Option.bind_some, if_neg i10, w_f (by rw [w_0, LL1, tz]; omega), Option.bind_some, if_pos rfl, w_f (by rw [LL10, h9 g j M, tz]; omega), Option.bind_some, if_pos rfl, w_f (by rw [LL100, h99 g j M, tz]; omega), Option.bind_some, if_pos rfl]
              exact fail g j M
  · refine k_E hL (m := fun g j => p_X6_end N g j y z) 1 0 s hL.2.2 (Or.inr ⟨3, ?_, by decide, rfl, rfl⟩) ?_
    · unfold p_X5_end
      rw [x_rouF hy, jbx_l]
    · intro g j M
      unfold p_X6_end
      rw [jlt_eq, w_f (by rw [LL1, L2, ty]; exact hy), Option.bind_some, if_pos rfl]
      exact fail g j M
end keeper

/-! the reference: what an undoing in a set brings -/
def MD (G : Nat → Nat → Int32) (a : TA) : Prop := (RM (G 1) a) ∧ (a.I) ∧ (G 0 23 = nI a.dM) ∧ (∀ i, i < a.dM → G 8 i = nI (a.dN i)) ∧ (a.dM ≤ 10)
theorem MD.m {G : Nat → Nat → Int32} {a : TA} (R : MD G a) : RM (G 1) a := R.1
theorem MD.i {G : Nat → Nat → Int32} {a : TA} (R : MD G a) : a.I := R.2.1
theorem MD.mm {G : Nat → Nat → Int32} {a : TA} (R : MD G a) : G 0 23 = nI a.dM := R.2.2.1
theorem MD.dd {G : Nat → Nat → Int32} {a : TA} (R : MD G a) : ∀ i, i < a.dM → G 8 i = nI (a.dN i) := R.2.2.2.1
theorem MD.mx {G : Nat → Nat → Int32} {a : TA} (R : MD G a) : a.dM ≤ 10 := R.2.2.2.2
section mundo
variable {N : Nat} {G G2 : Nat → Nat → Int32} {J : Nat → Nat → Int64} {a : TA}
theorem MD.cg (M : MD G a) (h1 : G2 1 = G 1) (h0 : G2 0 23 = G 0 23) (h8 : G2 8 = G 8) : MD G2 a := ⟨by rw [h1]; exact M.m, M.i, h0.trans M.mm, by rw [h8]; exact M.dd, M.mx⟩
theorem bt_tS {S j : Nat} (hj : j < 32) : (nI S >>> (nI j &&& 31)) &&& 1 = bI (S.testBit j) := by rw [bt_test _ hj, bt_nI _ hj]
theorem m_fallIn (hN : 2000 ≤ N) (M : MD G a) {S i : Nat} (hi : i < a.dM) : p_X6_fallIn N G J (nI S) (nI i) = some (nI S &&& a.wI i) := by
  have hm := M.mx
  have I := M.i
  have c23 := M.mm
  have e : nI S &&& a.wI i = it (fun s j => if a.fl S i j = true then s ||| bitI j else s) i (a.dM - i) 0 := by
    apply b_ext
    intro j hj
    rw [it_bits _ _ _ _ _ hj (by omega), b_0, Bool.false_or, b_and, bt_nI _ hj, wI_bit hm (by omega) hj, show i + (a.dM - i) = a.dM by omega]
    unfold TA.fl
    cases S.testBit j <;> cases a.sg i j <;> simp
  rw [e]
  unfold p_X6_fallIn
  refine lp_itd (L := fun n s x => p_X6_fallIn_b5 N G J n (nI S) (nI i) s x) (m := a.dM) (d := i) (fin := some) ?_ ?_ (a.dM - i) i N 0 (by omega) (by omega) (by omega)
  · intro n s
    show p_X6_fallIn_b5 N G J (n + 1) (nI S) (nI i) s (nI a.dM) = _
    rw [p_X6_fallIn_b5, c23, if_pos (nI_le (by omega) (by omega))]
  · intro n s j hij hj
    have h5 := I.th _ (dN_nd hi)
    have h6 := I.th _ (dN_nd hj)
    have hnt := I.nt
    show p_X6_fallIn_b5 N G J (n + 1) (nI S) (nI i) s (nI j) = p_X6_fallIn_b5 N G J n (nI S) (nI i) _ _
    rw [p_X6_fallIn_b5, c23, if_neg (nI_ge (by omega) (by omega)), bt_tS (by omega)]
    unfold p_X6_fallIn_b58 p_X6_fallIn_b59 TA.fl TA.sg
    cases hb : S.testBit j
    · rw [if_neg (by decide), Bool.false_and, if_neg (by decide), Int32.or_zero, nI_1]
    · rw [if_pos (by decide), Bool.true_and, if_pos (jinT (by omega) (by omega)), zcl (by omega), M.dd j hj, m_of0 M.m I.nd (dN_nd hj), Option.bind_some, if_pos (jinT (by omega) (by omega)), zcl (by omega), M.dd i hi, m_of0 M.m I.nd (dN_nd hi), Option.bind_some]
      by_cases c : a.th (a.dN j) = a.th (a.dN i)
      · rw [if_pos (by rw [c]), if_pos (decide_eq_true c), bitI_e, nI_1]
      · rw [if_neg (fun h => c ((nI_eq (by omega) (by omega)).mp h)), if_neg (by rw [decide_eq_false c]; decide), Int32.or_zero, nI_1]
theorem dss_bit (I : a.I) {S i : Nat} : ∀ k, i + k ≤ a.dM → ∀ d, bt (a.dss S i k) d = true → ∃ j, i ≤ j ∧ j < i + k ∧ d = a.dN j
  | 0, _, d, h => by
    unfold TA.dss at h
    rw [it_0, b_0] at h; cases h
  | k + 1, hk, d, h => by
    have hnd := I.nd
    have h1 := dN_nd (a := a) (i := i + k) (by omega)
    unfold TA.dss at h
    rw [it_e] at h
    by_cases c : a.fl S i (i + k) = true
    · rw [if_pos c, b_or] at h
      by_cases e : bt (a.dss S i k) d = true
      · obtain ⟨j, j1, j2, j3⟩ := dss_bit I k (by omega) d e
        exact ⟨j, j1, by omega, j3⟩
      · have e2 : bt (bitI (a.dN (i + k))) d = true := by
          unfold TA.dss at e
          rw [Bool.eq_false_iff.mpr e, Bool.false_or] at h; exact h
        by_cases hd : d < 32
        · rw [bt_bit (by omega) hd] at e2
          exact ⟨i + k, by omega, by omega, of_decide_eq_true e2⟩
        · rw [b_big (by omega)] at e2; cases e2
    · rw [if_neg c] at h
      obtain ⟨j, j1, j2, j3⟩ := dss_bit I k (by omega) d h
      exact ⟨j, j1, by omega, j3⟩
theorem sm_bit {x : Int32} {d n : Nat} (g : Nat → Int32) (hd : d < n) (hn : n ≤ 32) (h : bt x d = false) : sm (fun f => if bt (x ||| bitI d) f = true then g f else 0) 0 n = sm (fun f => if bt x f = true then g f else 0) 0 n + g d := by
  have e1 : sm (fun f => if f = d then g d else 0) 0 n = g d := sm_one _ _ _ (Nat.zero_le _) (by omega)
  rw [← e1, ← sm_plus]
  apply sm_congr
  intro f _ hf
  rw [b_or, bt_bit (by omega) (by omega)]
  by_cases c : f = d
  · subst c
    rw [decide_eq_true rfl, Bool.or_true, if_pos rfl, h, if_neg (by decide), if_pos rfl, Int32.zero_add]
  · rw [decide_eq_false c, Bool.or_false, if_neg c, Int32.add_zero]
theorem dss_sum (I : a.I) {S i : Nat} (g : Nat → Int32) : ∀ k, i + k ≤ a.dM → sm (fun f => if bt (a.dss S i k) f = true then g f else 0) 0 a.nd = sm (fun j => if a.fl S i j = true then g (a.dN j) else 0) i k
  | 0, _ => by
    rw [sm_0]
    exact sm_zero _ _ (fun f _ _ => by unfold TA.dss; rw [it_0, b_0, if_neg (by decide)])
  | k + 1, hk => by
    have hnd := I.nd
    have h1 := dN_nd (a := a) (i := i + k) (by omega)
    have e : a.dss S i (k + 1) = if a.fl S i (i + k) = true then a.dss S i k ||| bitI (a.dN (i + k)) else a.dss S i k := by
      unfold TA.dss; rw [it_e]
    rw [sm_e, ← dss_sum I g k (by omega), e]
    by_cases c : a.fl S i (i + k) = true
    · rw [if_pos c, if_pos c]
      refine sm_bit g h1 (by omega) ?_
      cases hb : bt (a.dss S i k) (a.dN (i + k))
      · rfl
      · obtain ⟨j, j1, j2, j3⟩ := dss_bit I k (by omega) _ hb
        have := dN_inj (a := a) (by omega) (by omega) j3
        omega
    · rw [if_neg c, if_neg c, Int32.add_zero]
theorem pays_sum (I : a.I) {S : Int32} {b : Nat} : sm (a.pays S b) 0 a.np = sm (fun f => if bt S f = true then a.oaf b f else 0) 0 a.nd := by
  have key : ∀ (k j : Nat), j + k ≤ a.nd → sm (fun p => if p = b then 0 else sm (fun f => if bt S f = true then a.owf p f else 0) j k) 0 a.np = sm (fun f => if bt S f = true then a.oaf b f else 0) j k := by
    intro k
    induction k with
    | zero => intro j _; rw [sm_0]; exact sm_zero _ _ (fun i _ _ => by simp only [sm_0, ite_self])
    | succ k ih =>
      intro j hj
      rw [sm_s, ← ih (j + 1) (by omega)]
      have e : sm (fun p => if p = b then 0 else (if bt S j = true then a.owf p j else 0)) 0 a.np = (if bt S j = true then a.oaf b j else 0) := by
        cases bt S j
        · exact sm_zero _ _ (fun i _ _ => by simp only [Bool.false_eq_true, ↓reduceIte, ite_self])
        · simp only [↓reduceIte]
          unfold TA.owf TA.oaf
          have e1 : sm (fun p => if p = a.gi j then (if a.gi j = b then 0 else a.cut (a.wg j)) else 0) 0 a.np = (if a.gi j = b then 0 else a.cut (a.wg j)) := sm_one _ _ _ (Nat.zero_le _) (by have := I.gi j (by omega); omega)
          have e2 : sm (fun p => if p = a.ta j then (if a.ta j = b then 0 else a.cut (a.wt j)) else 0) 0 a.np = (if a.ta j = b then 0 else a.cut (a.wt j)) := sm_one _ _ _ (Nat.zero_le _) (by have := I.ta j (by omega); omega)
          rw [← e1, ← e2, ← sm_plus]
          apply sm_congr
          intro p _ _
          generalize a.gi j = q
          generalize a.ta j = r
          have s2 : (p = q) = (q = p) := propext ⟨Eq.symm, Eq.symm⟩
          have s3 : (p = r) = (r = p) := propext ⟨Eq.symm, Eq.symm⟩
          simp only [s2, s3]
          by_cases h1 : p = b
          · subst h1
            by_cases h2 : q = p <;> by_cases h3 : r = p <;> simp only [h2, h3, ↓reduceIte, Int32.add_zero, Int32.zero_add]
          · by_cases h2 : q = p <;> by_cases h3 : r = p <;> simp only [h1, h2, h3, ↓reduceIte, Int32.add_zero, Int32.zero_add]
      rw [← e, ← sm_plus]
      apply sm_congr
      intro p _ _
      by_cases h1 : p = b
      · simp only [h1, ↓reduceIte, Int32.add_zero]
      · simp only [h1, ↓reduceIte, sm_s]
  exact key a.nd 0 (by omega)
theorem po_split (a : TA) (f p : Nat) : a.po f p = (a.pcf p f + a.owf p f) + ((if a.gi f = p then a.wo (a.th f) p else 0) - (if a.ta f = p then a.wo (a.th f) p else 0)) := by
  unfold TA.po TA.pcf TA.owf
  by_cases h1 : a.gi f = p <;> by_cases h2 : a.ta f = p <;> simp only [h1, h2, ↓reduceIte] <;> grind
def TA.pcs (a : TA) (S i p k : Nat) : Int32 := sm (fun j => if a.fl S i j = true then a.pcf p (a.dN j) else 0) i k
/-- the parts, summed, are what the reference lays -/
theorem pt_eq (I : a.I) {S q p i : Nat} (hc : a.cl S) (h : S.testBit i = true) (hi : i < a.dM) : a.pt S q p i = a.pcs S i p (a.dM - i) + a.pays (a.dss S i (a.dM - i)) q p - (if p = q then sm (a.pays (a.dss S i (a.dM - i)) q) 0 a.np else 0) + ((if a.gi (a.dN i) = p then a.wo (a.th (a.dN i)) p else 0) - (if a.ta (a.dN (a.lst S i (a.dM - i))) = p then a.wo (a.th (a.dN i)) p else 0)) := by
  have tl := tele2 I (p := p) hc h (a.wo (a.th (a.dN i)) p) (a.dM - i) (by omega) (by omega)
  rw [← tl]
  unfold TA.pt TA.pcs
  by_cases c : p = q
  · subst c
    rw [if_pos rfl, pays_sum I, dss_sum I _ _ (by omega)]
    have e0 : a.pays (a.dss S i (a.dM - i)) p p = 0 := if_pos rfl
    rw [e0, Int32.add_zero, ← sm_sub, ← sm_plus]
    apply sm_congr
    intro j _ _
    by_cases f : a.fl S i j = true
    · rw [if_pos f, if_pos f, if_pos f, if_pos f, if_pos rfl, pu_split, (fl_sg f).2]
    · rw [if_neg f, if_neg f, if_neg f, if_neg f]; decide
  · have e1 : a.pays (a.dss S i (a.dM - i)) q p = sm (fun f => if bt (a.dss S i (a.dM - i)) f = true then a.owf p f else 0) 0 a.nd := if_neg c
    rw [if_neg c, e1, dss_sum I _ _ (by omega), Int32.sub_zero, ← sm_plus, ← sm_plus]
    apply sm_congr
    intro j _ _
    by_cases f : a.fl S i j = true
    · rw [if_pos f, if_pos f, if_pos f, if_pos f, if_neg c, po_split, (fl_sg f).2]
    · rw [if_neg f, if_neg f, if_neg f, if_neg f]; decide
def cqf (c o : Nat → Int32) (b k : Nat) : Nat → Int32 := fun q => c q + (if q < k then o q else 0) - (if q = b then sm o 0 k else 0)
theorem cqf_step (c o : Nat → Int32) (b k q : Nat) (ob : o b = 0) : upd (upd (cqf c o b k) k (cqf c o b k k + o k)) b (upd (cqf c o b k) k (cqf c o b k k + o k) b - o k) q = cqf c o b (k + 1) q := by
  simp only [upd_i, cqf, sm_e, Nat.zero_add]
  have h1 : ¬ k < k := by omega
  have h2 : k < k + 1 := by omega
  by_cases h3 : q = b
  · subst h3
    by_cases h4 : q = k
    · subst h4
      simp only [↓reduceIte, h1, h2, ob]
      grind
    · have h5 : (q < k + 1) = (q < k) := propext (by omega)
      simp only [↓reduceIte, h4, h5]
      grind
  · by_cases h4 : q = k
    · subst h4
      simp only [↓reduceIte, h1, h2, h3]
      grind
    · have h5 : (q < k + 1) = (q < k) := propext (by omega)
      simp only [↓reduceIte, h3, h4, h5]
theorem pay3 (c w : Nat → Int32) (g t x : Nat) : upd (upd c t (c t - w t)) g (upd c t (c t - w t) g + w g) x = c x + ((if g = x then w x else 0) - (if t = x then w x else 0)) := by
  rw [upd_i, upd_i, upd_i]
  by_cases e1 : x = g
  · subst e1
    by_cases e2 : x = t
    · subst e2
      simp only [↓reduceIte]
      grind
    · have e3 : ¬ t = x := fun h => e2 h.symm
      simp only [↓reduceIte, e2, e3]
      grind
  · have e4 : ¬ g = x := fun h => e1 h.symm
    by_cases e2 : x = t
    · subst e2
      simp only [↓reduceIte, e1, e4]
      grind
    · have e3 : ¬ t = x := fun h => e2 h.symm
      simp only [↓reduceIte, e1, e2, e3, e4]
      grind
theorem pay2 (c : Nat → Int32) (v : Int32) {g t : Nat} (hgt : g ≠ t) (x : Nat) : upd (upd c g (c g - v)) t (upd c g (c g - v) t + v) x = c x + ((if t = x then v else 0) - (if g = x then v else 0)) := by
  rw [upd_i, upd_i, upd_i]
  have e0 : ¬ t = g := fun h => hgt h.symm
  by_cases e1 : x = g
  · subst e1
    simp only [↓reduceIte, hgt, e0]
    grind
  · have e4 : ¬ g = x := fun h => e1 h.symm
    by_cases e2 : x = t
    · subst e2
      simp only [↓reduceIte, e1, e4]
      grind
    · have e3 : ¬ t = x := fun h => e2 h.symm
      simp only [↓reduceIte, e1, e2, e3, e4]
      grind
def FR (A G : Nat → Nat → Int32) : Prop := ∀ c, c ≠ 11 → G c = A c
theorem FR.md {A : Nat → Nat → Int32} (M : MD A a) (F : FR A G) : MD G a := M.cg (F 1 (by decide)) (by rw [F 0 (by decide)]) (F 8 (by decide))
theorem upd_cg {f g : Nat → Int32} {k : Nat} {v : Int32} (h : ∀ q, q < 6 → f q = g q) : ∀ q, q < 6 → upd f k v q = upd g k v q := by
  intro q hq
  rw [upd_i, upd_i, h q hq]
theorem m_lay3 (hN : 2000 ≤ N) {A : Nat → Nat → Int32} (M : MD A a) {q i L : Nat} {ds : Int32} {c : Nat → Int32} (hq : q < a.np) (hi : i < a.dM) (hL : L < a.dM) : ∀ (k n p : Nat) (G : Nat → Nat → Int32), p + k = a.np → k < n → FR A G → (∀ x, x < 6 → G 11 x = cqf c (a.pays ds q) q p x) → Ok (p_X6_laysUndoing_b154 N J n G (nI i) (nI q) ds (nI L) (nI p)) (fun r => FR A r ∧ ∀ x, x < a.np → r 11 x = cqf c (a.pays ds q) q a.np x + ((if a.gi (a.dN i) = x then a.wo (a.th (a.dN i)) x else 0) - (if a.ta (a.dN L) = x then a.wo (a.th (a.dN i)) x else 0))) := by
  have hm := M.mx
  have I := M.i
  have hnp := I.np
  have hnt := I.nt
  have hgi := I.gi _ (dN_nd hi)
  have hta := I.ta _ (dN_nd hL)
  have hth := I.th _ (dN_nd hi)
  intro k
  induction k with
  | zero =>
    intro n p G hp hn F hG
    have M2 := FR.md M F
    have c1 : G 1 1 = nI a.np := M2.m.np
    match n, hn with
    | n + 1, _ =>
      unfold p_X6_laysUndoing_b154
      rw [c1, if_pos (nI_le (by omega) (by omega)), if_pos (jinT (by omega) (by omega)), zcl (by omega), M2.dd i hi, m_of0 M2.m I.nd (dN_nd hi), Option.bind_some, if_pos (jinT (by omega) (by omega)), zcl (by omega), M2.dd L hL, m_of2 M2.m I.nd (dN_nd hL), Option.bind_some, if_pos (jinT (by omega) (by omega)), m_of1 M2.m I.nd (dN_nd hi), Option.bind_some, if_pos (jinT (by omega) (by omega)), m_worthTo M2.m (by omega) (by omega), Option.bind_some, if_pos (jinT (by omega) (by omega)), jlt_eq, zcl (by omega), if_pos (jinT (by omega) (by omega)), m_worthTo (by rw [jup_n _ _ (by decide)]; exact M2.m) (by omega) (by omega), Option.bind_some, if_pos (jinT (by omega) (by omega)), zcl (by omega), jlt_eq]
      refine Ok.s ⟨?_, ?_⟩
      · intro d hd
        rw [jup_n _ _ hd, jup_n _ _ hd]; exact F d hd
      · intro x hx
        have hp2 : p = a.np := by omega
        rw [jup_s, jup_s, pay3 (G 11) (a.wo (a.th (a.dN i))), hG x (by omega), hp2]
  | succ k ih =>
    intro n p G hp hn F hG
    have M2 := FR.md M F
    have c1 : G 1 1 = nI a.np := M2.m.np
    match n, hn with
    | n + 1, hn =>
      unfold p_X6_laysUndoing_b154
      rw [c1, if_neg (nI_ge (by omega) (by omega)), m_pays hN M2.m I (by omega) (by omega), Option.bind_some, if_pos (jinT (by omega) (by omega)), if_pos (jinT (by omega) (by omega)), zcl (by omega), jlt_eq, if_pos (jinT (by omega) (by omega)), if_pos (jinT (by omega) (by omega)), zcl (by omega), jlt_eq, nI_1]
      refine ih n (p + 1) _ (by omega) (by omega) ?_ ?_
      · intro d hd
        rw [jup_n _ _ hd, jup_n _ _ hd]; exact F d hd
      · intro x hx
        rw [jup_s, jup_s, ← cqf_step _ _ _ _ _ (show a.pays ds q q = 0 from if_pos rfl), hG p (by omega)]
        have u := upd_cg (k := p) (v := cqf c (a.pays ds q) q p p + a.pays ds q p) hG
        rw [u q (by omega)]
        exact upd_cg u x hx
theorem m_lay2 (hN : 2000 ≤ N) {A : Nat → Nat → Int32} (M : MD A a) {S q i : Nat} (hq : q < a.np) (hi : i < a.dM) (hb : S.testBit i = true) : ∀ (k n j : Nat) (G : Nat → Nat → Int32), i ≤ j → j + k = a.dM → k < n → FR A G → (∀ x, x < 6 → G 11 x = a.pcs S i x (j - i)) → Ok (p_X6_laysUndoing_b41 N J n G (nI i) (nI q) (nI S &&& a.wI i) (a.dss S i (j - i)) (nI (a.lst S i (j - i))) (nI j)) (fun r => FR A r ∧ (a.cl S → ∀ x, x < a.np → r 11 x = a.pt S q x i)) := by
  have hm := M.mx
  have I := M.i
  have hnp := I.np
  have hnd := I.nd
  intro k
  induction k with
  | zero =>
    intro n j G hij hj hn F hG
    have M2 := FR.md M F
    have c23 := M2.mm
    have lo := lst_ok (a := a) hb (j - i) (by omega)
    match n, hn with
    | n + 1, _ =>
      unfold p_X6_laysUndoing_b41
      rw [c23, if_pos (nI_le (by omega) (by omega))]
      refine (m_lay3 hN M (c := fun x => a.pcs S i x (j - i)) hq hi (by omega) a.np N 0 G (by omega) (by omega) F ?_).c ?_
      · intro x hx
        rw [hG x hx]
        unfold cqf
        rw [if_neg (by omega), sm_0, Int32.add_zero]
        split <;> exact (Int32.sub_zero _).symm
      · rintro r ⟨r1, r2⟩
        refine ⟨r1, ?_⟩
        intro hc x hx
        have hjj : j - i = a.dM - i := by omega
        rw [r2 x hx, pt_eq I hc hb hi, hjj]
        unfold cqf
        rw [if_pos hx]
  | succ k ih =>
    intro n j G hij hj hn F hG
    have M2 := FR.md M F
    have c23 := M2.mm
    have hd := dN_nd (a := a) (i := j) (by omega)
    have hgi := I.gi _ hd
    have hta := I.ta _ hd
    have hgt := I.gt _ hd
    match n, hn with
    | n + 1, hn =>
      unfold p_X6_laysUndoing_b41
      rw [c23, if_neg (nI_ge (by omega) (by omega)), bt_test _ (by omega), fl_bit hm (by omega) hij (by omega)]
      have e1 : j + 1 - i = j - i + 1 := by omega
      have ei : i + (j - i) = j := by omega
      by_cases c : a.fl S i j = true
      · rw [if_neg (by rw [c]; decide), if_pos (jinT (by omega) (by omega)), if_pos (jinT (by omega) (by omega)), zcl (by omega), M2.dd j (by omega), m_of1 M2.m I.nd hd, Option.bind_some, if_pos (jinT (by omega) (by omega)), if_pos (jinT (by omega) (by omega)), m_of3 M2.m I.nd hd, Option.bind_some, if_pos (jinT (by omega) (by omega)), zcl (by omega), jlt_eq, if_pos (jinT (by omega) (by omega))]
        generalize hG44 : jup G 11 (a.gi (a.dN j)) (G 11 (a.gi (a.dN j)) - a.pr (a.dN j)) = G44
        have F4 : FR A G44 := by intro d hd; rw [← hG44, jup_n _ _ hd]; exact F d hd
        have M4 := FR.md M F4
        have g4 : G44 11 = upd (G 11) (a.gi (a.dN j)) (G 11 (a.gi (a.dN j)) - a.pr (a.dN j)) := by rw [← hG44, jup_s]
        rw [M4.dd j (by omega), m_of2 M4.m I.nd hd, Option.bind_some, if_pos (jinT (by omega) (by omega)), if_pos (jinT (by omega) (by omega)), m_of3 M4.m I.nd hd, Option.bind_some, if_pos (jinT (by omega) (by omega)), zcl (by omega), jlt_eq, bitI_e]
        unfold p_X6_laysUndoing_b145
        rw [nI_1]
        have ed : a.dss S i (j - i) ||| bitI (a.dN j) = a.dss S i (j + 1 - i) := by
          unfold TA.dss
          rw [e1, it_e, ei, if_pos c]
        have el : a.lst S i (j + 1 - i) = j := by
          unfold TA.lst
          rw [e1, it_e, ei, if_pos c]
        rw [ed]
        have := ih n (j + 1) (jup G44 11 (a.ta (a.dN j)) (G44 11 (a.ta (a.dN j)) + a.pr (a.dN j))) (by omega) (by omega) (by omega) (fun d hd => by rw [jup_n _ _ hd]; exact F4 d hd) ?_
        · rw [el] at this; exact this
        · intro x hx
          unfold TA.pcs
          rw [jup_s, g4, pay2 (G 11) _ hgt, e1, sm_e, ei, if_pos c, hG x hx]
          rfl
      · rw [if_pos (by rw [Bool.eq_false_iff.mpr c]; decide)]
        unfold p_X6_laysUndoing_b145
        rw [nI_1]
        have ed : a.dss S i (j - i) = a.dss S i (j + 1 - i) := by
          unfold TA.dss
          rw [e1, it_e, ei, if_neg c]
        have el : a.lst S i (j - i) = a.lst S i (j + 1 - i) := by
          unfold TA.lst
          rw [e1, it_e, ei, if_neg c]
        rw [ed, el]
        refine ih n (j + 1) G (by omega) (by omega) (by omega) F ?_
        intro x hx
        rw [hG x hx]
        unfold TA.pcs
        rw [e1, sm_e, ei, if_neg c, Int32.add_zero]
theorem m_lay1 (hN : 2000 ≤ N) {A : Nat → Nat → Int32} (M : MD A a) {S q i : Nat} (hq : q < a.np) (hi : i < a.dM) (hb : S.testBit i = true) : ∀ (k n j : Nat) (G : Nat → Nat → Int32), j + k = 6 → k < n → FR A G → (∀ x, x < j → G 11 x = 0) → Ok (p_X6_laysUndoing_b3 N J n G (nI S) (nI i) (nI q) (nI j)) (fun r => FR A r ∧ (a.cl S → ∀ x, x < a.np → r 11 x = a.pt S q x i)) := by
  have hm := M.mx
  intro k
  induction k with
  | zero =>
    intro n j G hj hn F hG
    have M2 := FR.md M F
    match n, hn with
    | n + 1, _ =>
      unfold p_X6_laysUndoing_b3
      rw [show (6 : Int32) = nI 6 by decide, if_pos (nI_le (by omega) (by omega)), m_fallIn hN M2 hi, Option.bind_some]
      have := m_lay2 (J := J) hN M hq hi hb (a.dM - i) N i G (Nat.le_refl _) (by omega) (by omega) F (fun x hx => by rw [Nat.sub_self, hG x (by omega)]; rfl)
      rw [Nat.sub_self] at this
      exact this
  | succ k ih =>
    intro n j G hj hn F hG
    match n, hn with
    | n + 1, hn =>
      unfold p_X6_laysUndoing_b3
      rw [show (6 : Int32) = nI 6 by decide, if_neg (nI_ge (by omega) (by omega)), if_pos (jinT (by omega) (by omega)), zcl (by omega), jlt_eq, nI_1]
      refine ih n (j + 1) _ (by omega) (by omega) (fun d hd => by rw [jup_n _ _ hd]; exact F d hd) ?_
      intro x hx
      rw [jup_s, upd_i]
      by_cases c : x = j
      · rw [if_pos c]
      · rw [if_neg c]; exact hG x (by omega)
theorem m_lay (hN : 2000 ≤ N) (M : MD G a) {S q i : Nat} (hq : q < a.np) (hi : i < a.dM) (hb : S.testBit i = true) : Ok (p_X6_laysUndoing N G J (nI S) (nI i) (nI q)) (fun r => FR G r ∧ (a.cl S → ∀ x, x < a.np → r 11 x = a.pt S q x i)) := by
  unfold p_X6_laysUndoing
  exact m_lay1 hN M hq hi hb 6 N 0 G (by omega) (by omega) (fun _ _ => rfl) (fun x hx => absurd hx (Nat.not_lt_zero _))
end mundo

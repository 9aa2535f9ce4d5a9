/-! the class: a turn chosen -/
section cplay
variable {N : Nat} {G G2 A : Nat → Nat → Int32} {J J2 B : Nat → Nat → Int64} {a : TA}
theorem x_0 {x : Int32} {j : Nat} (hj : j < 32) (h : x >>> (nI j &&& 31) = 0) : ∀ k, j ≤ k → k < 32 → bt x k = false := by
  intro k h1 h2
  have e := b_sshr j hj x (i := k - j) (by omega)
  rw [h, b_0, if_pos (by omega), show j + (k - j) = k by omega] at e
  exact e.symm
theorem c_sum5 (hN : 2000 ≤ N) {m p : Nat} {x : Int32} (hm : m ≤ 10) (hp : p < 6) (g4 : G 0 4 = nI m) {i : Nat} (hi : i ≤ m) : p_X1_sumOf_5 N G J (nI p) x (nI i) = some (sm (fun j => if bt x j = true then G 5 (p * 10 + j) else 0) i (m - i)) := by
  have key : ∀ (k n j : Nat) (s : Int32), j + k = m → k < n → p_X1_sumOf_5_b7 N G J n (nI p) x s (nI j) = some (s + sm (fun j => if bt x j = true then G 5 (p * 10 + j) else 0) j k) := by
    intro k
    induction k with
    | zero =>
      intro n j s hj hn
      match n, hn with
      | n + 1, _ =>
        unfold p_X1_sumOf_5_b7
        rw [g4, if_pos (nI_le (by omega) (by omega)), sm_0, Int32.add_zero]
    | succ k ih =>
      intro n j s hj hn
      match n, hn with
      | n + 1, hn =>
        unfold p_X1_sumOf_5_b7 p_X1_sumOf_5_b47
        rw [g4, if_neg (nI_ge (by omega) (by omega))]
        by_cases c : x >>> (nI j &&& 31) = 0
        · have z := x_0 (by omega) c
          rw [if_pos c, sm_zero, Int32.add_zero]
          intro q h1 h2
          rw [z q h1 (by omega), if_neg (by decide)]
        · rw [if_neg c, bt_test _ (by omega), sm_s]
          cases hb : bt x j
          · rw [if_neg (by decide), nI_1, ih n (j + 1) s (by omega) (by omega), if_neg (by decide), Int32.zero_add]
          · rw [if_pos (by decide), z10, if_pos (jinT (by omega) (by omega)), zcl (by omega), nI_1, ih n (j + 1) _ (by omega) (by omega), if_pos rfl, Int32.add_assoc]
  unfold p_X1_sumOf_5
  rw [key (m - i) N i 0 (by omega) (by omega), Int32.zero_add]
theorem c_sum6 (hN : 2000 ≤ N) {m p : Nat} {x : Int32} (hm : m ≤ 10) (hp : p < 6) (g4 : G 0 4 = nI m) {i : Nat} (hi : i ≤ m) : p_X1_sumOf_6 N G J (nI p) x (nI i) = some (sm (fun j => if bt x j = true then G 6 (p * 10 + j) else 0) i (m - i)) := by
  have key : ∀ (k n j : Nat) (s : Int32), j + k = m → k < n → p_X1_sumOf_6_b7 N G J n (nI p) x s (nI j) = some (s + sm (fun j => if bt x j = true then G 6 (p * 10 + j) else 0) j k) := by
    intro k
    induction k with
    | zero =>
      intro n j s hj hn
      match n, hn with
      | n + 1, _ =>
        unfold p_X1_sumOf_6_b7
        rw [g4, if_pos (nI_le (by omega) (by omega)), sm_0, Int32.add_zero]
    | succ k ih =>
      intro n j s hj hn
      match n, hn with
      | n + 1, hn =>
        unfold p_X1_sumOf_6_b7 p_X1_sumOf_6_b47
        rw [g4, if_neg (nI_ge (by omega) (by omega))]
        by_cases c : x >>> (nI j &&& 31) = 0
        · have z := x_0 (by omega) c
          rw [if_pos c, sm_zero, Int32.add_zero]
          intro q h1 h2
          rw [z q h1 (by omega), if_neg (by decide)]
        · rw [if_neg c, bt_test _ (by omega), sm_s]
          cases hb : bt x j
          · rw [if_neg (by decide), nI_1, ih n (j + 1) s (by omega) (by omega), if_neg (by decide), Int32.zero_add]
          · rw [if_pos (by decide), z10, if_pos (jinT (by omega) (by omega)), zcl (by omega), nI_1, ih n (j + 1) _ (by omega) (by omega), if_pos rfl, Int32.add_assoc]
  unfold p_X1_sumOf_6
  rw [key (m - i) N i 0 (by omega) (by omega), Int32.zero_add]
/-- what is laid for a playing: nothing of it changes while it is played -/
def CP (g : Nat → Nat → Int32) (a : TA) (f T : Nat) : Prop := (CE g a f T) ∧ (∀ p i, p < a.np → i < a.dM → g 5 (p * 10 + i) = a.pu (a.dN i) p) ∧ (∀ p i, p < a.np → i < a.dM → g 6 (p * 10 + i) = a.po (a.dN i) p) ∧ (a.np ≤ 6)
theorem CP.ce {g : Nat → Nat → Int32} {a : TA} {f T : Nat} (R : CP g a f T) : CE g a f T := R.1
theorem CP.p5 {g : Nat → Nat → Int32} {a : TA} {f T : Nat} (R : CP g a f T) : ∀ p i, p < a.np → i < a.dM → g 5 (p * 10 + i) = a.pu (a.dN i) p := R.2.1
theorem CP.p6 {g : Nat → Nat → Int32} {a : TA} {f T : Nat} (R : CP g a f T) : ∀ p i, p < a.np → i < a.dM → g 6 (p * 10 + i) = a.po (a.dN i) p := R.2.2.1
theorem CP.sx {g : Nat → Nat → Int32} {a : TA} {f T : Nat} (R : CP g a f T) : a.np ≤ 6 := R.2.2.2
theorem CP.cg {f T : Nat} (C : CP G a f T) (h : ∀ c, c ≤ 8 → c ≠ 7 → G2 c = G c) : CP G2 a f T := by
  have c := C.ce
  have h0 := h 0 (by omega) (by omega)
  have h8 := h 8 (by omega) (by omega)
  refine ⟨⟨c.ly.cg (fun x hx => h x (by omega) (by omega)), by rw [h0]; exact c.np, by rw [h0]; exact c.ff, by rw [h0]; exact c.tt, ⟨by rw [h8]; exact c.re.r0, by rw [h8]; exact c.re.rc, by rw [h8]; exact c.re.rn⟩, c.mx, c.tm, c.fl, c.n0⟩, ?_, ?_, C.sx⟩
  · rw [h 5 (by omega) (by omega)]; exact C.p5
  · rw [h 6 (by omega) (by omega)]; exact C.p6
theorem c_ptU (hN : 2000 ≤ N) {f T S q i : Nat} (C : CP G a f T) (hq : q < a.np) (hi : i < a.dM) : p_X1_sumOf_5 N G J (nI q) (nI S &&& a.wI i) (nI i) = some (a.pt S q q i) := by
  have hm := C.ce.mx
  have hnp := C.sx
  rw [c_sum5 hN hm (by omega) C.ce.ly.mm (by omega)]
  unfold TA.pt
  congr 1
  apply sm_congr
  intro j h1 h2
  rw [fl_bit hm (by omega) h1 (by omega), if_pos rfl, C.p5 q j hq (by omega)]
theorem c_ptO (hN : 2000 ≤ N) {f T S q p i : Nat} (C : CP G a f T) (hp : p < a.np) (hpq : ¬ p = q) (hi : i < a.dM) : p_X1_sumOf_6 N G J (nI p) (nI S &&& a.wI i) (nI i) = some (a.pt S q p i) := by
  have hm := C.ce.mx
  have hnp := C.sx
  rw [c_sum6 hN hm (by omega) C.ce.ly.mm (by omega)]
  unfold TA.pt
  congr 1
  apply sm_congr
  intro j h1 h2
  rw [fl_bit hm (by omega) h1 (by omega), if_neg hpq, C.p6 p j hp (by omega)]
def F7 (A r : Nat → Nat → Int32) (S : Nat) : Prop := (∀ c, c ≠ 7 → r c = A c) ∧ ∀ k, (k < S * 6 ∨ S * 6 + 6 ≤ k) → r 7 k = A 7 k
theorem c_settle (hN : 2000 ≤ N) {f T S q i : Nat} (C : CP A a f T) (hq : q < a.np) (hi : i < a.dM) (hS : S < 2 ^ a.dM) (hb : S.testBit i = true) : Ok (p_X1_settle N A J (nI S) (nI i) (nI q)) (fun r => F7 A r S ∧ ∀ p, p < a.np → r 7 (S * 6 + p) = A 7 (a.rs S i * 6 + p) + a.pt S q p i) := by
  have hm := C.ce.mx
  have hnp := C.sx
  have hS4 := lt_1024 hm hS
  have hr := rs_lt hm hS hi hb
  unfold p_X1_settle
  rw [if_pos (jinT (by omega) (by omega)), zcl (by omega), C.ce.ly.w hi hm, rs_nI hm hS (by omega) (fw_hx hm hS (by omega)), show (6 : Int32) = nI 6 by decide, pk_mul, show (0 : Int32) = nI 0 from nI_0.symm]
  have key : ∀ (k n p : Nat) (G : Nat → Nat → Int32), p + k = a.np → k < n → F7 A G S → (∀ x, x < p → G 7 (S * 6 + x) = A 7 (a.rs S i * 6 + x) + a.pt S q x i) → Ok (p_X1_settle_b24 N J n G (nI S) (nI i) (nI q) (nI S &&& a.wI i) (nI (a.rs S i * 6)) (nI p)) (fun r => F7 A r S ∧ ∀ p, p < a.np → r 7 (S * 6 + p) = A 7 (a.rs S i * 6 + p) + a.pt S q p i) := by
    intro k
    induction k with
    | zero =>
      intro n p G hp hn F h
      have g1 : G 0 1 = nI a.np := by rw [F.1 0 (by decide)]; exact C.ce.np
      match n, hn with
      | n + 1, _ =>
        unfold p_X1_settle_b24
        rw [g1, if_pos (nI_le (by omega) (by omega))]
        exact Ok.s ⟨F, fun x hx => h x (by omega)⟩
    | succ k ih =>
      intro n p G hp hn F h
      have g1 : G 0 1 = nI a.np := by rw [F.1 0 (by decide)]; exact C.ce.np
      have CG : CP G a f T := C.cg (fun c _ hc => F.1 c hc)
      match n, hn with
      | n + 1, hn =>
        unfold p_X1_settle_b24
        rw [g1, if_neg (nI_ge (by omega) (by omega))]
        have go : ∀ v, v = a.pt S q p i → Ok (p_X1_settle_b24 N J n (jup G 7 (S * 6 + p) (G 7 (a.rs S i * 6 + p) + v)) (nI S) (nI i) (nI q) (nI S &&& a.wI i) (nI (a.rs S i * 6)) (nI (p + 1))) (fun r => F7 A r S ∧ ∀ p, p < a.np → r 7 (S * 6 + p) = A 7 (a.rs S i * 6 + p) + a.pt S q p i) := by
          intro v hv
          refine ih n (p + 1) _ (by omega) (by omega) ⟨?_, ?_⟩ ?_
          · intro c hc; rw [jup_n _ _ hc]; exact F.1 c hc
          · intro k hk; rw [jup_s, upd_n _ _ (by omega)]; exact F.2 k hk
          · intro x hx
            rw [jup_s, upd_i]
            by_cases c : x = p
            · subst c
              rw [if_pos rfl, hv, F.2 _ (by omega)]
            · rw [if_neg (by omega)]; exact h x (by omega)
        by_cases c : p = q
        · rw [if_pos (by rw [c])]
          unfold p_X1_settle_b51a
          rw [c, c_ptU hN CG hq hi, Option.bind_some, nI_add, if_pos (jinT (by omega) (by omega)), zm6, if_pos (jinT (by omega) (by omega)), zcl (by omega), zcl (by omega), jlt_eq, nI_1]
          have g := go (a.pt S q p i) rfl
          rw [c] at g
          exact g
        · rw [if_neg (fun h => c ((nI_eq (by omega) (by omega)).mp h))]
          unfold p_X1_settle_b51
          rw [c_ptO hN CG (by omega) c hi, Option.bind_some, nI_add, if_pos (jinT (by omega) (by omega)), zm6, if_pos (jinT (by omega) (by omega)), zcl (by omega), zcl (by omega), jlt_eq, nI_1]
          exact go _ rfl
  exact key a.np N 0 A (by omega) (by omega) ⟨fun _ _ => rfl, fun _ _ => rfl⟩ (fun x hx => absurd hx (Nat.not_lt_zero _))
theorem sel_of (v : Nat → Nat → Int32) (q S : Nat) : ∀ k, (a.sel v q S k).2 ≠ 0 → a.isOf (a.dN ((a.sel v q S k).2 - 1)) q = true
  | 0, h => absurd rfl h
  | k + 1, h => by
    have ih := sel_of v q S k
    rw [sel_e] at h ⊢
    unfold TA.ses at h ⊢
    by_cases c : (S.testBit k && a.isOf (a.dN k) q) = true
    · rw [if_pos c] at h ⊢
      by_cases d : (a.sel v q S k).1 < a.pt S q q k + v (a.rs S k) q
      · rw [if_pos d]
        dsimp only
        rw [Nat.add_sub_cancel]
        cases e : a.isOf (a.dN k) q
        · rw [e, Bool.and_false] at c; cases c
        · rfl
      · rw [if_neg d] at h ⊢; exact ih h
    · rw [if_neg c] at h ⊢; exact ih h
theorem cx_i {b : Nat} (h : ¬ b = 0) : cx b = nI (b - 1) := if_neg h
/-- a turn: of a set, with what is ahead of it and of the lesser ones -/
theorem c_choose (hN : 2000 ≤ N) {f T t S q : Nat} (C : CP G a f T) (ht : t < T) (hq : q = (f + t) % a.np) (hS : S < 2 ^ a.dM) (h7 : ∀ p, p < a.np → G 7 (S * 6 + p) = a.vl f T (T - (t + 1)) S p) (hr7 : ∀ i, i < a.dM → S.testBit i = true → a.isOf (a.dN i) q = true → ∀ p, p < a.np → G 7 (a.rs S i * 6 + p) = a.vl f T (T - (t + 1)) (a.rs S i) p) (hz : NB (J 9 S) t 0) : Ok (p_X1_choose N G J (nI S) (nI t) (nI q)) (fun r => F7 G r.1 S ∧ (∀ p, p < a.np → r.1 7 (S * 6 + p) = a.vl f T (T - t) S p) ∧ (∀ c, c ≠ 9 → r.2 c = J c) ∧ (∀ k, k ≠ S → r.2 9 k = J 9 k) ∧ NB (r.2 9 S) t (a.chs f T t S) ∧ ∀ t2 w, t2 < 12 → t2 ≠ t → NB (J 9 S) t2 w → NB (r.2 9 S) t2 w) := by
  have hm := C.ce.mx
  have hnp := C.sx
  have hT := C.ce.tm
  have h0 := C.ce.n0 (by omega)
  have hq6 : q < a.np := by rw [hq]; exact Nat.mod_lt _ h0
  have hS4 := lt_1024 hm hS
  have cl := cnt_le (a := a) q a.dM
  unfold p_X1_choose
  rw [zm6, if_pos (jinT (by omega) (by omega)), zcl (by omega), h7 q hq6, show (0 : Int32) = nI (a.cnt q 0) from nI_0.symm]
  have key : ∀ (k n i : Nat), i + k = a.dM → a.cnt q a.dM < n + a.cnt q i → Ok (p_X1_choose_b19 N n G J (nI S) (nI t) (nI q) (a.sel (a.vl f T (T - (t + 1))) q S i).1 (cx (a.sel (a.vl f T (T - (t + 1))) q S i).2) (nI (a.cnt q i))) (fun r => F7 G r.1 S ∧ (∀ p, p < a.np → r.1 7 (S * 6 + p) = a.vl f T (T - t) S p) ∧ (∀ c, c ≠ 9 → r.2 c = J c) ∧ (∀ k, k ≠ S → r.2 9 k = J 9 k) ∧ NB (r.2 9 S) t (a.chs f T t S) ∧ ∀ t2 w, t2 < 12 → t2 ≠ t → NB (J 9 S) t2 w → NB (r.2 9 S) t2 w) := by
    intro k
    induction k with
    | zero =>
      intro n i hi hn
      have ei : i = a.dM := by omega
      rw [ei] at hn ⊢
      match n, hn with
      | 0, hn => exact absurd hn (by omega)
      | n + 1, _ =>
        unfold p_X1_choose_b19
        have ec : (a.sel (a.vl f T (T - (t + 1))) q S a.dM).2 = a.chs f T t S := by unfold TA.chs; rw [hq]
        have cb := chs_ok (a := a) f T t S
        have cm := cx_m1 (b := a.chs f T t S) (by omega)
        rw [if_pos (jinT (by omega) (by omega)), zcl (by omega), C.ce.ly.mn q hq6, if_pos (nI_le (Nat.le_refl _) (by omega)), ec]
        by_cases c : a.chs f T t S = 0
        · rw [if_pos (cm.mpr c)]
          refine Ok.s ⟨⟨fun _ _ => rfl, fun _ _ => rfl⟩, ?_, fun _ _ => rfl, fun _ _ => rfl, ?_, fun _ _ _ _ h => h⟩
          · intro p hp
            rw [vl_s ht, c]
            exact h7 p hp
          · rw [c]; exact hz
        · rw [if_neg (fun h => c (cm.mp h)), cx_i c]
          have hbit := cb.2 c
          have hof : a.isOf (a.dN (a.chs f T t S - 1)) q = true := by
            have := sel_of (a := a) (a.vl f T (T - (t + 1))) q S a.dM (by rw [ec]; exact c)
            rw [ec] at this; exact this
          refine Ok.b (c_settle hN C hq6 (by omega) hS hbit) ?_
          rintro G5 ⟨s1, s2⟩
          rw [jlt_eq, if_pos (jinT hS4 (by omega)), if_pos (jinT hS4 (by omega)), zcl (by omega), jlt_eq, nI_1, show a.chs f T t S - 1 + 1 = a.chs f T t S by omega]
          refine Ok.s ⟨s1, ?_, ?_, ?_, ?_, ?_⟩
          · intro p hp
            rw [vl_s ht, ← hq]
            unfold TA.nxb
            rw [if_neg c]
            dsimp only
            rw [s2 p hp, hr7 _ (by omega) hbit hof p hp, Int32.add_comm]
          · intro c hc; exact jupL_n _ _ hc
          · intro k hk; dsimp only; rw [jupL_s]; unfold vp_updL; rw [if_neg hk]
          · dsimp only; rw [jupL_s]; unfold vp_updL; rw [if_pos rfl]
            exact nib_wr (by omega) (by omega) hz
          · intro t2 w h2 hne hnb
            dsimp only; rw [jupL_s]; unfold vp_updL; rw [if_pos rfl]
            exact nib_o (by omega) h2 hne (by omega) hnb
    | succ k ih =>
      intro n i hi hn
      have cli := cnt_le (a := a) q i
      have es : a.cnt q (i + 1) = a.cnt q i + if a.isOf (a.dN i) q = true then 1 else 0 := rfl
      have hse := sel_e (a := a) (a.vl f T (T - (t + 1))) q S i
      unfold TA.ses at hse
      cases ho : a.isOf (a.dN i) q
      · rw [ho, if_neg (by decide)] at es
        have es2 : a.cnt q i = a.cnt q (i + 1) := es.symm
        rw [ho, Bool.and_false, if_neg (by decide)] at hse
        rw [es2, ← hse]
        exact ih n (i + 1) (by omega) (by omega)
      · rw [ho, if_pos rfl] at es
        have lt := cnt_lt ho a.dM (by omega)
        rw [ho, Bool.and_true] at hse
        match n, hn with
        | 0, hn => exact absurd hn (by omega)
        | n + 1, hn =>
          unfold p_X1_choose_b19
          rw [if_pos (jinT (by omega) (by omega)), zcl (by omega), C.ce.ly.mn q hq6, if_neg (nI_ge lt (by omega)), z10, if_pos (jinT (by omega) (by omega)), zcl (by omega), C.ce.ly.mi q i hq6 (by omega) ho, bt_tS (by omega)]
          unfold p_X1_choose_b112
          cases hb : S.testBit i
          · rw [hb, if_neg (by decide)] at hse
            rw [if_neg (by decide), nI_1, ← es, ← hse]
            exact ih n (i + 1) (by omega) (by omega)
          · rw [hb, if_pos rfl] at hse
            have hr2 := rs_2 (i := i) hS
            have hr4 := lt_1024 hm hr2
            rw [if_pos (by decide), if_pos (jinT (by omega) (by omega)), zcl (by omega), C.ce.ly.w (by omega) hm, c_ptU hN C hq6 (by omega), Option.bind_some, rs_nI hm hS (by omega) (fw_hx hm hS (by omega)), zm6, if_pos (jinT (by omega) (by omega)), zcl (by omega), hr7 i (by omega) hb ho q hq6, nI_1, ← es]
            by_cases c : (a.sel (a.vl f T (T - (t + 1))) q S i).1 < a.pt S q q i + a.vl f T (T - (t + 1)) (a.rs S i) q
            · rw [if_pos c] at hse
              have nc : ¬ a.pt S q q i + a.vl f T (T - (t + 1)) (a.rs S i) q ≤ (a.sel (a.vl f T (T - (t + 1))) q S i).1 := by
                rw [Int32.le_iff_toInt_le]; rw [Int32.lt_iff_toInt_lt] at c; omega
              rw [if_neg nc]
              have := ih n (i + 1) (by omega) (by omega)
              rw [hse] at this
              exact this
            · rw [if_neg c] at hse
              have nc : a.pt S q q i + a.vl f T (T - (t + 1)) (a.rs S i) q ≤ (a.sel (a.vl f T (T - (t + 1))) q S i).1 := by
                rw [Int32.le_iff_toInt_le]; rw [Int32.lt_iff_toInt_lt] at c; omega
              rw [if_pos nc, ← hse]
              exact ih n (i + 1) (by omega) (by omega)
  exact key a.dM N 0 (by omega) (by show _ < N + 0; omega)
end cplay

/-! bestShare -/
theorem cN_0 : ∀ (k j : Nat), cN (Nat.testBit 0) j k = 0
  | 0, _ => rfl
  | k + 1, j => by rw [cN, cN_0 k (j + 1), Nat.zero_testBit]; rfl
theorem cN_tb (n w : Nat) : cN n.testBit 0 (w + 1) = (if n % 2 = 1 then 1 else 0) + cN (n / 2).testBit 0 w := by
  rw [cN, show (0 + 1 : Nat) = 1 + 0 from rfl, cN_shift, Nat.testBit_zero]
  congr 1
  · by_cases c : n % 2 = 1
    · rw [if_pos c, if_pos (decide_eq_true c)]
    · rw [if_neg c, if_neg (by rw [decide_eq_false c]; decide)]
  · refine cN_congr _ _ (fun i _ _ => ?_)
    show n.testBit (1 + i) = (n / 2).testBit i
    rw [Nat.add_comm 1 i, Nat.testBit_add_one]
theorem cN_low : ∀ (w n : Nat), n < 2 ^ w → n ≠ 0 → cN (n &&& (n - 1)).testBit 0 w + 1 = cN n.testBit 0 w
  | 0, n, h, h0 => absurd (show n = 0 by omega) h0
  | w + 1, n, h, h0 => by
    have h2 : n < 2 * 2 ^ w := by rw [Nat.pow_succ] at h; omega
    rw [cN_tb, cN_tb, Nat.and_div_two]
    have m2 : (n &&& (n - 1)) % 2 = 0 := by
      have e := Nat.testBit_and n (n - 1) 0
      rw [Nat.testBit_zero, Nat.testBit_zero, Nat.testBit_zero] at e
      by_cases c : (n &&& (n - 1)) % 2 = 1
      · rw [decide_eq_true c] at e
        have e1 : n % 2 = 1 := by
          by_cases d : n % 2 = 1
          · exact d
          · rw [decide_eq_false d, Bool.false_and] at e; cases e
        have e2 : (n - 1) % 2 = 1 := by
          by_cases d : (n - 1) % 2 = 1
          · exact d
          · rw [decide_eq_false d, Bool.and_false] at e; cases e
        omega
      · omega
    rw [if_neg (by omega)]
    by_cases c : n % 2 = 1
    · rw [if_pos c, show (n - 1) / 2 = n / 2 by omega, Nat.and_self]
      omega
    · rw [if_neg c, show (n - 1) / 2 = n / 2 - 1 by omega]
      have := cN_low w (n / 2) (by omega) (by omega)
      omega
theorem pop_cN (n : Nat) : pop (nI n) = nI (cN n.testBit 0 32) := by
  unfold pop
  rw [sm_bI]
  exact congrArg nI (cN_congr _ _ (fun i _ h => bt_nI n (by omega)))
theorem m_size1 (N : Nat) {w : Nat} (hw : w = 32) : ∀ (k n : Nat) (x : Int32), n < 2 ^ w → cN n.testBit 0 w < k → p_X6_size_b4 N k x (nI n) = some (x + nI (cN n.testBit 0 w)) := by
  intro k
  induction k with
  | zero => intro n x hn h; exact absurd h (Nat.not_lt_zero _)
  | succ k ih =>
    intro n x hn h
    unfold p_X6_size_b4
    by_cases c : n = 0
    · rw [c, nI_0, if_pos rfl, cN_0, nI_0, Int32.add_zero]
    · have nz : ¬ nI n = 0 := by
        intro e
        obtain ⟨i, hi⟩ := Nat.exists_testBit_of_ne_zero c
        have hi2 : i < w := by
          rcases Nat.lt_or_ge i w with d | d
          · exact d
          · have := tb_big hn d
            rw [hi] at this; cases this
        have := bt_nI n (i := i) (by omega)
        rw [e, b_0, hi] at this
        cases this
      have e1 : nI n - 1 = nI (n - 1) := by
        obtain ⟨m, rfl⟩ : ∃ m, n = m + 1 := ⟨n - 1, by omega⟩
        rw [nI_p1]; rfl
      have lo := cN_low w n hn c
      rw [if_neg nz, e1, and_n, ih _ _ (Nat.lt_of_le_of_lt Nat.and_le_left hn) (by omega), ← lo, Int32.add_assoc, nI1, nI_add, Nat.add_comm 1]
theorem m_size {N : Nat} (hN : 2000 ≤ N) (x : Int32) : p_X6_size N x = some (pop x) := by
  have key : ∀ n w, w = 32 → n < 2 ^ w → p_X6_size N (nI n) = some (pop (nI n)) := by
    intro n w hw hn
    have := cN_le n.testBit w 0
    unfold p_X6_size
    rw [m_size1 N hw N n 0 hn (by omega), Int32.zero_add, pop_cN, hw]
  have := key x.toBitVec.toNat 32 rfl x.toBitVec.isLt
  rw [← x_nI] at this
  exact this
theorem cN_mono {f g : Nat → Bool} : ∀ (k j : Nat), (∀ i, j ≤ i → i < j + k → f i = true → g i = true) → cN f j k ≤ cN g j k
  | 0, _, _ => Nat.le_refl _
  | k + 1, j, h => by
    have ih := cN_mono k (j + 1) (fun i h1 h2 => h i (by omega) (by omega))
    have h1 := h j (Nat.le_refl _) (by omega)
    rw [cN, cN]
    by_cases c : f j = true
    · rw [if_pos c, if_pos (h1 c)]; omega
    · rw [if_neg c]; omega
theorem pop_bt (x : Int32) : pop x = nI (cN (bt x) 0 32) := by
  unfold pop
  rw [sm_bI]
theorem pop_le {x y : Int32} (h : ∀ i, i < 32 → bt x i = true → bt y i = true) : pop x ≤ pop y := by
  rw [pop_bt, pop_bt]
  have h1 := cN_le (bt y) 32 0
  exact nI_le (cN_mono _ _ (fun i _ hi => h i (by omega))) (by omega)
theorem pop_pos (x : Int32) : (-1 : Int32) < pop x := by
  rw [pop_bt]
  have h1 := cN_le (bt x) 32 0
  rw [Int32.lt_iff_toInt_lt, nI_toInt (by omega), show (-1 : Int32).toInt = -1 by decide]
  omega
def TA.wsh (a : TA) (x : Int32) : TA := a.set5 a.ea x a.mi
theorem wsh2 (a : TA) (x y : Int32) : (a.wsh x).wsh y = a.wsh y := rfl
theorem wsh1 (a : TA) : a.wsh a.sh = a := rfl
def TA.shq (a : TA) (x : Nat) : Int32 := pop ((a.wsh (nI x)).lef ((a.wsh (nI x)).wk 0 (1 * a.np) (1 * a.np)))
def TA.bs (a : TA) : Nat → Int32 × Nat
  | 0 => (-1, 0)
  | x + 1 => if (TA.bs a x).1 < a.shq x then (a.shq x, x) else TA.bs a x
def TA.bsA (a : TA) : Int32 := if a.dM ≤ 10 then nI (a.bs 101).2 else -100000
section share
variable {N : Nat} {G G2 G3 A : Nat → Nat → Int32} {J J2 B : Nat → Nat → Int64} {a : TA} {s s2 : SA} {xs : Nat → Int32} {i : Int32} {x : Int32}
theorem bs_s (a : TA) (x : Nat) : a.bs (x + 1) = if (a.bs x).1 < a.shq x then (a.shq x, x) else a.bs x := rfl
theorem bs_le (a : TA) : ∀ x, (a.bs x).2 ≤ x
  | 0 => Nat.le_refl _
  | x + 1 => by
    have := bs_le a x
    rw [bs_s]
    split
    · exact Nat.le_succ _
    · omega
theorem bs_stop {al : Int32} (h : ∀ x, a.shq x ≤ al) {x : Nat} (hx : al ≤ (a.bs x).1) : ∀ k, a.bs (x + k) = a.bs x
  | 0 => rfl
  | k + 1 => by
    have ih := bs_stop h hx k
    rw [show x + (k + 1) = x + k + 1 by omega, bs_s, ih, if_neg]
    have := h (x + k)
    rw [Int32.le_iff_toInt_le] at this hx
    rw [Int32.lt_iff_toInt_lt]
    omega
theorem wsh_dl (a : TA) (x : Int32) : ∀ k, (a.wsh x).dl k = a.dl k
  | 0 => rfl
  | k + 1 => by
    rw [dl_s, dl_s, wsh_dl a x k]
    rfl
theorem wsh_dM (a : TA) (x : Int32) : (a.wsh x).dM = a.dM := congrArg Prod.snd (wsh_dl a x a.nd)
theorem wsh_dN (a : TA) (x : Int32) (i : Nat) : (a.wsh x).dN i = a.dN i := congrFun (congrArg Prod.fst (wsh_dl a x a.nd)) i
theorem wsh_sg (a : TA) (x : Int32) (i j : Nat) : (a.wsh x).sg i j = a.sg i j := by
  unfold TA.sg
  rw [wsh_dN, wsh_dN]
  rfl
theorem wsh_cnt (a : TA) (x : Int32) (p : Nat) : ∀ k, (a.wsh x).cnt p k = a.cnt p k
  | 0 => rfl
  | k + 1 => by
    have ih := wsh_cnt a x p k
    show (a.wsh x).cnt p k + (if (a.wsh x).isOf ((a.wsh x).dN k) p = true then 1 else 0) = a.cnt p k + (if a.isOf (a.dN k) p = true then 1 else 0)
    rw [ih, wsh_dN]
    rfl
theorem wsh_wI (a : TA) (x : Int32) (i : Nat) : (a.wsh x).wI i = a.wI i := by
  unfold TA.wI
  rw [wsh_dM]
  exact it_congr _ _ _ (fun s j _ _ => by rw [wsh_sg])
theorem wsh_rs (a : TA) (x : Int32) (S i : Nat) : (a.wsh x).rs S i = a.rs S i := by
  unfold TA.rs TA.wN
  rw [wsh_wI]
theorem wsh_cl (a : TA) (x : Int32) {S : Nat} (h : a.cl S) : (a.wsh x).cl S := by
  intro i j hij hj h1 h2
  rw [wsh_dM] at hj
  rw [wsh_sg] at h2
  exact h i j hij hj h1 h2
theorem CE.wsh {g : Nat → Nat → Int32} {f T : Nat} (C : CE g a f T) (x : Int32) : CE g (a.wsh x) f T := by
  have L := C.ly
  have R := C.re
  refine ⟨?_, C.np, C.ff, C.tt, ⟨?_, ?_, ?_⟩, ?_, C.tm, C.fl, C.n0⟩
  · rw [wsh_dM]
    refine ⟨L.mm, fun i hi => ?_, fun i j hi hj => ?_, fun p hp => ?_, fun p i hp hi ho => ?_⟩
    · rw [wsh_dN]; exact L.dd i hi
    · rw [wsh_sg]; exact L.wi i j hi hj
    · rw [wsh_cnt]; exact L.mn p hp
    · rw [wsh_cnt]
      rw [wsh_dN] at ho
      exact L.mi p i hp hi ho
  · rw [wsh_dM]; exact R.r0
  · intro t S h1 h2 h3
    rw [wsh_dM] at h2
    exact wsh_cl a x (R.rc t S h1 h2 h3)
  · intro t S h1 h2 h3
    rw [wsh_dM] at h2
    obtain ⟨q1, q2⟩ := R.rn t S h1 h2 h3
    refine ⟨q1, fun i hi hb ho => ?_⟩
    rw [wsh_dM] at hi
    rw [wsh_dN] at ho
    rw [wsh_rs]
    exact q2 i hi hb ho
  · rw [wsh_dM]; exact C.mx
theorem wsh_I (I : a.I) {x : Nat} (hx : x ≤ 100) : (a.wsh (nI x)).I := I.set5 (by rw [nI_toInt (by omega)]; omega) I.mi
theorem lef_sub (I : a.I) {S d : Nat} (hd : d < 32) (h : bt (a.lef S) d = true) : a.st d = true := by
  cases ho : a.opn d
  · rw [lef_no I hd ho] at h; exact h
  · exact (opnst3 ho).1
theorem RC.wsh {g : Nat → Nat → Int32} {y : Int32} (R : RC g (a.wsh y)) (x : Int32) : RC (jup g 0 4 x) (a.wsh x) :=
  R.set5 (ea := a.ea) (mi := a.mi) (by rw [jup_s, upd_n _ _ (by decide)]; exact R.ea) (by rw [jup_s, upd_s]) (by rw [jup_s, upd_n _ _ (by decide)]; exact R.mi) (fun k _ h4 _ => by rw [jup_s, upd_n _ _ h4]) (fun c h1 _ => jup_n _ _ (by omega))
theorem RM.wsh {T : Nat → Int32} {y : Int32} (R : RM T (a.wsh y)) (x : Int32) : RM (upd T 4 x) (a.wsh x) :=
  R.set5 (ea := a.ea) (mi := a.mi) (by rw [upd_n _ _ (by decide)]; exact R.ea) (by rw [upd_s]) (by rw [upd_n _ _ (by decide)]; exact R.mi) (fun k _ h4 _ => upd_n _ _ h4)
theorem x_bsl (hN : 2000 ≤ N) (I : a.I) {al : Int32} (hal : ∀ x, x ≤ 100 → a.shq x ≤ al) : ∀ (k n x : Nat) (G : Nat → Nat → Int32) (J : Nat → Nat → Int64) (y : Int32), x + k = 101 → k < n → RC (jvw G 10) (a.wsh y) → CE (jvw G 24) (a.wsh y) 0 (1 * a.np) → Ok (p_X5_bestShare_b49 N n G J al (a.bs x).1 (nI (a.bs x).2) (nI x)) (fun r => r.1 = nI (a.bs 101).2 ∧ (∀ c, (c < 10 ∨ 19 ≤ c ∧ c < 24 ∨ 35 ≤ c) → r.2.1 c = G c) ∧ ∀ c, c ≠ 33 → r.2.2 c = J c) := by
  have e100 : (100 : Int32) = nI 100 := by decide
  intro k
  induction k with
  | zero =>
    intro n x G J y hx hn R C
    match n, hn with
    | n + 1, _ =>
      unfold p_X5_bestShare_b49
      rw [e100, if_pos (nI_lt (by omega) (by omega)), show x = 101 by omega]
      exact Ok.s ⟨rfl, fun _ _ => rfl, fun _ _ => rfl⟩
  | succ k ih =>
    intro n x G J y hx hn R C
    match n, hn with
    | n + 1, hn =>
      unfold p_X5_bestShare_b49 p_X5_bestShare_b105
      rw [e100, if_neg (nI_nlt (by omega) (by omega))]
      by_cases c : al ≤ (a.bs x).1
      · rw [if_pos c]
        refine Ok.s ⟨?_, fun _ _ => rfl, fun _ _ => rfl⟩
        have st : ∀ k2, x + k2 ≤ 101 → a.bs (x + k2) = a.bs x := by
          intro k2
          induction k2 with
          | zero => intro _; rfl
          | succ k2 ih2 =>
            intro h2
            have h3 := hal (x + k2) (by omega)
            rw [show x + (k2 + 1) = x + k2 + 1 by omega, bs_s, ih2 (by omega), if_neg]
            rw [Int32.le_iff_toInt_le] at h3 c
            rw [Int32.lt_iff_toInt_lt]
            omega
        rw [← hx, st (k + 1) (by omega)]
      · rw [if_neg c, jlt_eq]
        have R11 : RC (jvw (jup G 10 4 (nI x)) 10) (a.wsh (nI x)) := by
          rw [jvw_up 10 0]
          exact R.wsh (nI x)
        have k11 : ∀ c, c ≠ 10 → jup G 10 4 (nI x) c = G c := fun c hc => jup_n _ _ hc
        have C11 : CE (jvw (jup G 10 4 (nI x)) 24) (a.wsh (nI x)) 0 (1 * a.np) := by
          have C2 : CE (jvw (jup G 10 4 (nI x)) 24) (a.wsh y) 0 (1 * a.np) := C.cg (fun s _ => by rw [show jvw (jup G 10 4 (nI x)) 24 0 = jvw G 24 0 from k11 24 (by decide)]) (fun c _ _ _ _ _ => k11 (24 + c) (by omega))
          exact C2.wsh (nI x)
        generalize jup G 10 4 (nI x) = G11 at R11 k11 C11 ⊢
        refine Ok.b (x_play (J := J) hN (by decide) R11 (wsh_I I (by omega)) C11) ?_
        rintro ⟨u, v⟩ Y
        rw [jlt_eq, jlt_eq]
        dsimp only at Y ⊢
        generalize jp2 G11 24 11 10 9 u = G15 at Y ⊢
        generalize jp2 J 24 11 10 9 v = J17 at Y ⊢
        have e24 : pop (G15 24 0) = a.shq x := congrArg pop Y.lf
        have R15 : RC (jvw G15 10) (a.wsh (nI x)) := R11.cg (fun c hc => Y.k1 (10 + c) (by omega))
        rw [x_bitCount, Option.bind_some, e24]
        have nx := ih n (x + 1) G15 J17 (nI x) (by omega) (by omega) R15 Y.ce
        rw [bs_s] at nx
        have done : Ok (p_X5_bestShare_b49 N n G15 J17 al (if (a.bs x).1 < a.shq x then (a.shq x, x) else a.bs x).1 (nI (if (a.bs x).1 < a.shq x then (a.shq x, x) else a.bs x).2) (nI (x + 1))) (fun r => r.1 = nI (a.bs 101).2 ∧ (∀ c, (c < 10 ∨ 19 ≤ c ∧ c < 24 ∨ 35 ≤ c) → r.2.1 c = G c) ∧ ∀ c, c ≠ 33 → r.2.2 c = J c) := by
          refine nx.c ?_
          rintro r ⟨r1, r2, r3⟩
          refine ⟨r1, fun c hc => ?_, fun c hc => (r3 c hc).trans (Y.k3 c hc)⟩
          rw [r2 c hc, Y.k1 c (by omega)]
          exact k11 c (by omega)
        rw [nI_1]
        by_cases d : a.shq x ≤ (a.bs x).1
        · rw [if_pos d]
          rw [if_neg (by rw [i_le_lt]; exact fun e => e d)] at done
          exact done
        · rw [if_neg d]
          rw [if_pos (by rw [i_le_lt]; exact d)] at done
          exact done
theorem x_best (hN : 2000 ≤ N) (X : CX G J s) (I : s.I) : Ok (p_X5_bestShare N G J) (fun o => o.1 = s.now.bsA ∧ CX o.2.1 o.2.2 s) := by
  have st8 : ∀ d, d < 32 → bt (G 1 8) d = s.now.st d := X.now.st
  unfold p_X5_bestShare
  have lay := x_lay (N := N) (G := G) (J := J) hN (t := 1) (by decide) X.now I.now (r := 1) (f := 0) (by decide) (by decide)
  rw [← nI1, ← nI0] at lay
  refine Ok.b lay ?_
  rintro ⟨u, v⟩ ⟨g1, g2⟩
  rw [jlt_eq]
  dsimp only at g1 g2 ⊢
  generalize jp2 G 24 11 1 9 v = G3 at g1 g2 ⊢
  unfold TA.bsA
  by_cases c : s.now.dM ≤ 10
  · rw [if_pos c] at g2 ⊢
    have R3 : RC (jvw G3 1) s.now := X.now.cg (fun x hx => g1 (1 + x) (by omega))
    rw [if_neg (by rw [g2.1]; decide)]
    refine Ok.b (x_cpy (G := G3) (r := 10) (t := 1) (Or.inr (by omega)) R3 I.now) ?_
    rintro w ⟨w1, w2⟩
    rw [jlt_eq]
    generalize jp2 G3 10 9 1 9 w = G7 at w1 w2 ⊢
    have k7 : ∀ c, (c < 10 ∨ 19 ≤ c ∧ c < 24 ∨ 35 ≤ c) → G7 c = G c := fun c hc => (w2 c (by omega)).trans (g1 c (by omega))
    have C7 : CE (jvw G7 24) s.now 0 (1 * s.now.np) := g2.2.cg (fun q _ => by rw [show jvw G7 24 0 = jvw G3 24 0 from w2 24 (by omega)]) (fun c _ _ _ _ _ => w2 (24 + c) (by omega))
    rw [x_bitCount, Option.bind_some, k7 1 (by omega)]
    have key := x_bsl (N := N) hN I.now (al := pop (G 1 8)) (fun x hx => pop_le (fun d hd h => by rw [st8 d hd]; exact lef_sub (wsh_I I.now hx) hd h)) 101 N 0 G7 J s.now.sh (by omega) (by omega) w1 C7
    have key2 : Ok (p_X5_bestShare_b49 N N G7 J (pop (G 1 8)) (-1) 0 0) (fun r => r.1 = nI (s.now.bs 101).2 ∧ (∀ c, (c < 10 ∨ 19 ≤ c ∧ c < 24 ∨ 35 ≤ c) → r.2.1 c = G7 c) ∧ ∀ c, c ≠ 33 → r.2.2 c = J c) := by
      have e : nI (s.now.bs 0).2 = 0 := nI_0
      rw [e, nI_0] at key
      exact key
    refine key2.c ?_
    rintro r ⟨r1, r2, r3⟩
    exact ⟨r1, X.e (fun c hc => (r2 c (by omega)).trans (k7 c (by omega))) r3⟩
  · rw [if_neg c] at g2 ⊢
    rw [if_pos g2]
    exact Ok.s ⟨rfl, X.e (fun c hc => g1 c (by omega)) (fun _ _ => rfl)⟩
theorem m_bsl (hN : 2000 ≤ N) (I : a.I) (hm : a.dM ≤ 10) : ∀ (k n x : Nat) (G : Nat → Nat → Int32) (y : Int32), x + k = 101 → k < n → RM (G 1) (a.wsh y) → KM A G → G 0 5 = A 0 5 → Ok (p_X6_bestShare_b19 N J n G a.sh (if x = 0 then -1 else nI (a.bs x).2) (a.bs x).1 (nI x)) (fun r => r.1 = nI (a.bs 101).2 ∧ KM A r.2 ∧ r.2 0 5 = A 0 5 ∧ RM (r.2 1) a) := by
  have e100 : (100 : Int32) = nI 100 := by decide
  intro k
  induction k with
  | zero =>
    intro n x G y hx hn R K h5
    match n, hn with
    | n + 1, _ =>
      unfold p_X6_bestShare_b19 p_X6_bestShare_b80
      rw [e100, if_pos (nI_lt (by omega) (by omega)), if_neg (by omega), jlt_eq, show x = 101 by omega]
      refine Ok.s ⟨rfl, K.trans (KM.of1 (fun c hc => jup_n _ _ hc)), ?_, ?_⟩
      · dsimp only; rw [jup_n _ _ (by decide)]; exact h5
      · dsimp only; rw [jup_s]; exact R.wsh a.sh
  | succ k ih =>
    intro n x G y hx hn R K h5
    match n, hn with
    | n + 1, hn =>
      unfold p_X6_bestShare_b19 p_X6_bestShare_b74
      rw [e100, if_neg (nI_nlt (by omega) (by omega)), jlt_eq]
      have R5 : RM (jup G 1 4 (nI x) 1) (a.wsh (nI x)) := by rw [jup_s]; exact R.wsh (nI x)
      have K5 : KM A (jup G 1 4 (nI x)) := K.trans (KM.of1 (fun c hc => jup_n _ _ hc))
      have h55 : jup G 1 4 (nI x) 0 5 = A 0 5 := by rw [jup_n _ _ (by decide)]; exact h5
      generalize jup G 1 4 (nI x) = G5 at R5 K5 h55 ⊢
      refine Ok.b (m_endE hN R5 (wsh_I I (by omega)) (r := 1) (by decide) nI1) ?_
      rintro ⟨u, g2⟩ ⟨F, h⟩
      rw [jlt_eq]
      dsimp only at F h ⊢
      rw [wsh_dM, if_pos hm] at h
      obtain ⟨hu, L⟩ := h
      have e24 : pop ((a.wsh (nI x)).lef ((a.wsh (nI x)).wk 0 (1 * (a.wsh (nI x)).np) (1 * (a.wsh (nI x)).np))) = a.shq x := rfl
      rw [if_neg (by rw [hu]; decide), m_standIn hN L, Option.bind_some, m_size hN, Option.bind_some, Option.bind_some, m_size hN, Option.bind_some, e24, nI_1]
      have nx := ih n (x + 1) g2 (nI x) (by omega) (by omega) (by rw [F.1 1 (by decide) (by omega)]; exact R5) (K5.trans F.km) (by rw [F.2 5 (by omega)]; exact h55)
      rw [if_neg (by omega), bs_s] at nx
      by_cases d : (a.bs x).1 < a.shq x
      · rw [if_pos d]
        rw [if_pos d] at nx
        exact nx
      · rw [if_neg d]
        rw [if_neg d] at nx
        have hx0 : ¬ x = 0 := by
          intro e
          rw [e] at d
          exact d (pop_pos _)
        rw [if_neg hx0]
        exact nx
theorem m_bShare (hN : 2000 ≤ N) {g : Nat → Nat → Int32} {j : Nat → Nat → Int64} (M : CM g j s) (I : s.I) : Ok (p_X6_bestShare N g j) (fun r => r.1 = s.now.bsA ∧ CM r.2 j s) := by
  have hR := thrR M.now 0
  have c14 : jup g 0 5 0 1 4 = s.now.sh := hR.sh
  unfold p_X6_bestShare
  rw [jlt_eq, c14]
  unfold TA.bsA
  by_cases c : s.now.dM ≤ 10
  · rw [if_pos c]
    have key := m_bsl (N := N) (J := j) (A := jup g 0 5 0) hN I.now c 101 N 0 (jup g 0 5 0) s.now.sh (by omega) (by omega) hR KM.refl rfl
    rw [if_pos rfl, nI_0] at key
    have key2 : Ok (p_X6_bestShare_b19 N j N (jup g 0 5 0) s.now.sh (-1) (-1) 0) (fun r => r.1 = nI (s.now.bs 101).2 ∧ KM (jup g 0 5 0) r.2 ∧ r.2 0 5 = jup g 0 5 0 0 5 ∧ RM (r.2 1) s.now) := key
    refine key2.c ?_
    rintro r ⟨r1, r2, r3, r4⟩
    exact ⟨r1, M.k r4 ((KM.thr 0).trans r2) rfl (SA.eta s)⟩
  · rw [if_neg c]
    obtain ⟨n, rfl⟩ : ∃ n, N = n + 1 := ⟨N - 1, by omega⟩
    unfold p_X6_bestShare_b19 p_X6_bestShare_b80
    rw [if_neg (by decide), jlt_eq]
    have R5 : RM (jup (jup g 0 5 0) 1 4 0 1) (s.now.wsh (nI 0)) := by rw [jup_s, nI_0]; exact RM.wsh (y := s.now.sh) hR 0
    refine Ok.b (m_endE hN R5 (wsh_I I.now (by omega)) (r := 1) (by decide) nI1) ?_
    rintro ⟨u, g2⟩ ⟨F, h⟩
    rw [jlt_eq]
    dsimp only at F h ⊢
    rw [wsh_dM, if_neg c] at h
    rw [if_pos h, jlt_eq]
    have R9 : RM (g2 1) (s.now.wsh (nI 0)) := by rw [F.1 1 (by decide) (by omega)]; exact R5
    refine Ok.s ⟨rfl, M.k (a := s.now) (by dsimp only; rw [jup_s]; exact R9.wsh s.now.sh) ?_ rfl (SA.eta s)⟩
    dsimp only
    exact (KM.thr 0).trans ((KM.of1 (fun c hc => jup_n _ _ hc)).trans (F.km.trans (KM.of1 (fun c hc => jup_n _ _ hc))))
theorem case_34 (hN : 2000 ≤ N) (hL : LR G J s) : Ok (p_case_34 N xs G J i) (fun r => ∃ s, LR r.1 r.2 s) := by
  obtain ⟨hX, hM, hI⟩ := hL
  unfold p_case_34
  refine Ok.b (x_best hN hX hI) ?_
  rintro ⟨w, G1, J1⟩ ⟨h1, h2⟩
  rw [jlt_eq, jlt_eq]
  dsimp only at h1 h2 ⊢
  rw [h1]
  refine k_A (s2 := s) (h2.cg (fun c hc => jpt_i (b := 0) hc) (fun c hc => jpt_i (b := 0) hc)) hI ?_
  exact m_bShare hN (hM.cg (fun c hc => jpt_o (by omega)) (jpt_o (by omega))) hI
end share

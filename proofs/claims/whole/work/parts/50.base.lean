/-! pure rows: numbers, bits, loops -/
def bt (x : Int32) (i : Nat) : Bool := x.toBitVec.getLsbD i
theorem b_ext {x y : Int32} (h : ∀ i, i < 32 → bt x i = bt y i) : x = y := Int32.toBitVec_inj.mp (BitVec.eq_of_getLsbD_eq (fun i hi => h i hi))
theorem b_or (x y : Int32) (i : Nat) : bt (x ||| y) i = (bt x i || bt y i) := by unfold bt; rw [Int32.toBitVec_or, BitVec.getLsbD_or]
theorem b_and (x y : Int32) (i : Nat) : bt (x &&& y) i = (bt x i && bt y i) := by unfold bt; rw [Int32.toBitVec_and, BitVec.getLsbD_and]
theorem b_xor (x y : Int32) (i : Nat) : bt (x ^^^ y) i = (bt x i ^^ bt y i) := by unfold bt; rw [Int32.toBitVec_xor, BitVec.getLsbD_xor]
theorem b_big {x : Int32} {i : Nat} (h : 32 ≤ i) : bt x i = false := BitVec.getLsbD_of_ge _ _ h
theorem b_255 (i : Nat) : bt 255 i = decide (i < 8) := by
  rcases Nat.lt_or_ge i 32 with h | h
  · exact (by decide +kernel : ∀ i, i < 32 → bt 255 i = decide (i < 8)) i h
  · rw [b_big h, decide_eq_false (by omega)]
theorem b_65535 (i : Nat) : bt 65535 i = decide (i < 16) := by
  rcases Nat.lt_or_ge i 32 with h | h
  · exact (by decide +kernel : ∀ i, i < 32 → bt 65535 i = decide (i < 16)) i h
  · rw [b_big h, decide_eq_false (by omega)]
theorem b_m1 : ∀ i, i < 32 → bt (-1) i = true := by decide +kernel
theorem b_0 (i : Nat) : bt 0 i = false := BitVec.getLsbD_zero
theorem s_l : ∀ n, n < 32 → ((nI n &&& 31).toBitVec.smod 32).toNat = n := by decide +kernel
theorem s_u : ∀ n, n < 32 → (((nI n).toUInt32 &&& Int32.toUInt32 31).toBitVec % 32).toNat = n := by decide +kernel
theorem b_shl (n : Nat) (hn : n < 32) (x : Int32) {i : Nat} (hi : i < 32) : bt (x <<< (nI n &&& 31)) i = (decide (n ≤ i) && bt x (i - n)) := by
  unfold bt
  rw [Int32.toBitVec_shiftLeft]
  show (x.toBitVec <<< ((nI n &&& 31).toBitVec.smod 32).toNat).getLsbD i = _
  rw [s_l n hn, BitVec.getLsbD_shiftLeft]
  rcases Nat.lt_or_ge i n with h | h
  · simp [h, Nat.not_le.mpr h]
  · simp [hi, h, Nat.not_lt.mpr h]
theorem b_ushr (n : Nat) (hn : n < 32) (x : Int32) (i : Nat) : bt ((x.toUInt32 >>> ((nI n).toUInt32 &&& Int32.toUInt32 31)).toInt32) i = bt x (n + i) := by
  show (x.toUInt32 >>> ((nI n).toUInt32 &&& Int32.toUInt32 31)).toBitVec.getLsbD i = x.toUInt32.toBitVec.getLsbD (n + i)
  rw [UInt32.toBitVec_shiftRight]
  show (x.toUInt32.toBitVec >>> (((nI n).toUInt32 &&& Int32.toUInt32 31).toBitVec % 32).toNat).getLsbD i = _
  rw [s_u n hn, BitVec.getLsbD_ushiftRight]
theorem b_sshr (n : Nat) (hn : n < 32) (x : Int32) {i : Nat} (hi : i < 32) : bt (x >>> (nI n &&& 31)) i = if n + i < 32 then bt x (n + i) else bt x 31 := by
  unfold bt
  rw [Int32.toBitVec_shiftRight]
  show (x.toBitVec.sshiftRight ((nI n &&& 31).toBitVec.smod 32).toNat).getLsbD i = _
  rw [s_l n hn, BitVec.getLsbD_sshiftRight, BitVec.msb_eq_getLsbD_last]
  simp [hi]
theorem bt_1 : ∀ i, i < 32 → bt 1 i = decide (i = 0) := by decide +kernel
def bI (b : Bool) : Int32 := if b then 1 else 0
theorem bI_t : bI true = 1 := rfl
theorem bI_f : bI false = 0 := rfl
theorem bI0 (b : Bool) : (bI b = 0) = (b = false) := by cases b <;> exact propext (by decide)
theorem bI1 (b : Bool) : (bI b = 1) = (b = true) := by cases b <;> exact propext (by decide)
theorem bt_bI (b : Bool) {i : Nat} (hi : i < 32) : bt (bI b) i = (b && decide (i = 0)) := by
  cases b
  · rw [bI_f, b_0, Bool.false_and]
  · rw [bI_t, bt_1 i hi, Bool.true_and]
theorem bt_test (x : Int32) {d : Nat} (hd : d < 32) : (x >>> (nI d &&& 31)) &&& 1 = bI (bt x d) := by
  apply b_ext
  intro i hi
  rw [b_and, b_sshr d hd x hi, bt_1 i hi, bt_bI _ hi]
  by_cases h : i = 0
  · subst h
    rw [Nat.add_zero, if_pos hd]
  · rw [decide_eq_false h, Bool.and_false, Bool.and_false]
def bitI (d : Nat) : Int32 := (1 : Int32) <<< (nI d &&& 31)
theorem bitI_e (d : Nat) : (1 : Int32) <<< (nI d &&& 31) = bitI d := rfl
theorem bt_bit {d i : Nat} (hd : d < 32) (hi : i < 32) : bt (bitI d) i = decide (i = d) := by
  rw [bitI, b_shl d hd 1 hi, bt_1 (i - d) (by omega)]
  rcases Nat.lt_trichotomy i d with h | h | h
  · rw [decide_eq_false (by omega : ¬ d ≤ i), decide_eq_false (by omega : ¬ i = d), Bool.false_and]
  · subst h
    rw [decide_eq_true (Nat.le_refl _), decide_eq_true (by omega : i - i = 0), decide_eq_true rfl]; rfl
  · rw [decide_eq_false (by omega : ¬ i - d = 0), decide_eq_false (by omega : ¬ i = d), Bool.and_false]
theorem bt_not (x : Int32) {i : Nat} (hi : i < 32) : bt (x ^^^ (-1)) i = !(bt x i) := by
  rw [b_xor, b_m1 i hi, Bool.xor_true]
/-! comparisons that the arithmetic of indices settles -/
theorem jinT {k n : Nat} (h : k < n) (hn : n ≤ 2147483648) : jin (nI k) n = true := by
  have h2 : k < 2 ^ 31 := by omega
  unfold jin
  rw [nI_clamp h2, decide_eq_false (nI_pos h2), decide_eq_true h]
  rfl
theorem zleT {a b : Nat} (h : a ≤ b) (hb : b < 2147483648) : (nI a ≤ nI b) = True := eq_true (nI_le h hb)
theorem zleF {a b : Nat} (h : b < a) (ha : a < 2147483648) : (nI a ≤ nI b) = False := eq_false (nI_ge h ha)
theorem zltT {a b : Nat} (h : a < b) (hb : b < 2147483648) : (nI a < nI b) = True := eq_true (nI_lt h hb)
theorem zltF {a b : Nat} (h : b ≤ a) (ha : a < 2147483648) : (nI a < nI b) = False := eq_false (nI_nlt h ha)
theorem zeq {a b : Nat} (ha : a < 2147483648) (hb : b < 2147483648) : (nI a = nI b) = (a = b) := propext (nI_eq ha hb)
theorem zpos {a : Nat} (h : a < 2147483648) : (nI a < 0) = False := eq_false (nI_pos h)
theorem zpos' {a : Nat} (h : a < 2147483648) : (0 ≤ nI a) = True := eq_true (nI_pos' h)
theorem zcl {a : Nat} (h : a < 2147483648) : (nI a).toNatClampNeg = a := nI_clamp h
theorem zm6 (t p : Nat) : nI t * 6 + nI p = nI (t * 6 + p) := by
  have h : (6 : Int32) = nI 6 := by decide
  rw [h, pk_mul, nI_add]
theorem z6 (t : Nat) : (6 : Int32) * nI t = nI (6 * t) := by
  have h : (6 : Int32) = nI 6 := by decide
  rw [h, pk_mul]
theorem z84 (t : Nat) : (84 : Int32) + nI t = nI (84 + t) := by
  have h : (84 : Int32) = nI 84 := by decide
  rw [h, nI_add]
theorem z24 (t : Nat) : (24 : Int32) + nI t = nI (24 + t) := by
  have h : (24 : Int32) = nI 24 := by decide
  rw [h, nI_add]
theorem z14 (t : Nat) : (14 : Int32) + nI t = nI (14 + t) := by
  have h : (14 : Int32) = nI 14 := by decide
  rw [h, nI_add]
theorem z8 (t : Nat) : (8 : Int32) + nI t = nI (8 + t) := by
  have h : (8 : Int32) = nI 8 := by decide
  rw [h, nI_add]
theorem zd0 (t : Nat) : nI t + 0 = nI t := Int32.add_zero _
theorem zd1 (t : Nat) : nI t + 1 = nI (t + 1) := nI_1 t
theorem zd2 (t : Nat) : nI t + 2 = nI (t + 2) := by
  have h : (2 : Int32) = nI 2 := by decide
  rw [h, nI_add]
theorem zd3 (t : Nat) : nI t + 3 = nI (t + 3) := by
  have h : (3 : Int32) = nI 3 := by decide
  rw [h, nI_add]
theorem zd4 (t : Nat) : nI t + 4 = nI (t + 4) := by
  have h : (4 : Int32) = nI 4 := by decide
  rw [h, nI_add]
theorem zd5 (t : Nat) : nI t + 5 = nI (t + 5) := by
  have h : (5 : Int32) = nI 5 := by decide
  rw [h, nI_add]
/-- every number is below 0, or that of a Nat -/
theorem z_cases (x : Int32) : x < 0 ∨ ∃ k : Nat, k < 2147483648 ∧ x = nI k := by
  by_cases h : x < 0
  · exact Or.inl h
  · exact Or.inr (nI_of h)
theorem jlt_eq {α β : Type} (a : α) (f : α → β) : jlt a f = f a := rfl
theorem jup_s (G : Nat → Nat → Int32) (c i : Nat) (x : Int32) : jup G c i x c = upd (G c) i x := by
  unfold jup va_up; exact if_pos rfl
theorem jup_n (G : Nat → Nat → Int32) {c i c2 : Nat} (x : Int32) (h : c2 ≠ c) : jup G c i x c2 = G c2 := by
  unfold jup va_up; exact if_neg h
theorem jupL_s (G : Nat → Nat → Int64) (c i : Nat) (x : Int64) : jupL G c i x c = vp_updL (G c) i x := by
  unfold jupL va_up; exact if_pos rfl
theorem jupL_n (G : Nat → Nat → Int64) {c i c2 : Nat} (x : Int64) (h : c2 ≠ c) : jupL G c i x c2 = G c2 := by
  unfold jupL va_up; exact if_neg h
theorem upd_s (f : Nat → Int32) (k : Nat) (x : Int32) : upd f k x k = x := pk_us
theorem upd_n (f : Nat → Int32) {k j : Nat} (x : Int32) (h : j ≠ k) : upd f k x j = f j := pk_un h
theorem upd_i (f : Nat → Int32) (k j : Nat) (x : Int32) : upd f k x j = if j = k then x else f j := by
  by_cases h : j = k
  · rw [if_pos h, h, pk_us]
  · rw [if_neg h, pk_un h]
/-! loops -/
def it {σ : Type} (step : σ → Nat → σ) : Nat → Nat → σ → σ
  | _, 0, s => s
  | j, k + 1, s => it step (j + 1) k (step s j)
theorem it_0 {σ : Type} (step : σ → Nat → σ) (j : Nat) (s : σ) : it step j 0 s = s := rfl
theorem it_s {σ : Type} (step : σ → Nat → σ) (j k : Nat) (s : σ) : it step j (k + 1) s = it step (j + 1) k (step s j) := rfl
theorem it_e {σ : Type} (step : σ → Nat → σ) : ∀ (k j : Nat) (s : σ), it step j (k + 1) s = step (it step j k s) (j + k)
  | 0, j, s => rfl
  | k + 1, j, s => by rw [it_s, it_e step k (j + 1) (step s j), it_s]; congr 1; omega
theorem it_congr {σ : Type} {f g : σ → Nat → σ} : ∀ (k j : Nat) (s : σ), (∀ s i, j ≤ i → i < j + k → f s i = g s i) → it f j k s = it g j k s
  | 0, _, _, _ => rfl
  | k + 1, j, s, h => by
    rw [it_s, it_s, h s j (by omega) (by omega)]
    exact it_congr k (j + 1) _ (fun s i h1 h2 => h s i (by omega) (by omega))
theorem it_app {σ : Type} (f : σ → Nat → σ) : ∀ (k l j : Nat) (s : σ), it f j (k + l) s = it f (j + k) l (it f j k s)
  | 0, l, j, s => by rw [Nat.zero_add, it_0, Nat.add_zero]
  | k + 1, l, j, s => by
    rw [show k + 1 + l = (k + l) + 1 by omega, it_s, it_app f k l (j + 1), it_s]
    congr 1; omega
/-- a loop that counts up to m -/
theorem lp_it {σ R : Type} {L : Nat → σ → Int32 → Option R} {m : Nat} {step : σ → Nat → σ} {fin : σ → Option R} (h0 : ∀ n s, L (n + 1) s (nI m) = fin s) (h1 : ∀ n s j, j < m → L (n + 1) s (nI j) = L n (step s j) (nI (j + 1))) : ∀ (k j n : Nat) (s : σ), j + k = m → k < n → L n s (nI j) = fin (it step j k s)
  | 0, j, n + 1, s, hj, _ => by
    have e : j = m := by omega
    subst e
    exact h0 n s
  | k + 1, j, n + 1, s, hj, hn => by
    rw [h1 n s j (by omega), lp_it h0 h1 k (j + 1) n _ (by omega) (by omega)]
    rfl
  | _, _, 0, _, _, hn => absurd hn (Nat.not_lt_zero _)
/-- the same from d on, with what holds of the counter there -/
theorem lp_itd {σ R : Type} {L : Nat → σ → Int32 → Option R} {m d : Nat} {step : σ → Nat → σ} {fin : σ → Option R} (h0 : ∀ n s, L (n + 1) s (nI m) = fin s) (h1 : ∀ n s j, d ≤ j → j < m → L (n + 1) s (nI j) = L n (step s j) (nI (j + 1))) : ∀ (k j n : Nat) (s : σ), d ≤ j → j + k = m → k < n → L n s (nI j) = fin (it step j k s)
  | 0, j, n + 1, s, _, hj, _ => by
    have e : j = m := by omega
    subst e
    exact h0 n s
  | k + 1, j, n + 1, s, hd, hj, hn => by
    rw [h1 n s j hd (by omega), lp_itd h0 h1 k (j + 1) n _ (by omega) (by omega) (by omega)]
    rfl
  | _, _, 0, _, _, _, hn => absurd hn (Nat.not_lt_zero _)
/-- with a way out -/
def ix {σ R : Type} (step : σ → Nat → σ ⊕ R) (fin : σ → R) : Nat → Nat → σ → R
  | _, 0, s => fin s
  | j, k + 1, s => match step s j with
    | .inl s2 => ix step fin (j + 1) k s2
    | .inr r => r
theorem ix_congr {σ R : Type} {f g : σ → Nat → σ ⊕ R} {fin : σ → R} : ∀ (k j : Nat) (s : σ), (∀ s i, j ≤ i → i < j + k → f s i = g s i) → ix f fin j k s = ix g fin j k s
  | 0, _, _, _ => rfl
  | k + 1, j, s, h => by
    rw [ix, ix, h s j (by omega) (by omega)]
    cases g s j with
    | inl s2 => exact ix_congr k (j + 1) _ (fun s i h1 h2 => h s i (by omega) (by omega))
    | inr r => rfl
theorem lp_ix {σ R R2 : Type} {L : Nat → σ → Int32 → Option R2} {m : Nat} {step : σ → Nat → σ ⊕ R} {fin : σ → R} {o : R → Option R2} (h0 : ∀ n s, L (n + 1) s (nI m) = o (fin s)) (h1 : ∀ n s j, j < m → L (n + 1) s (nI j) = match step s j with
    | .inl s2 => L n s2 (nI (j + 1))
    | .inr r => o r) : ∀ (k j n : Nat) (s : σ), j + k = m → k < n → L n s (nI j) = o (ix step fin j k s)
  | 0, j, n + 1, s, hj, _ => by
    have e : j = m := by omega
    subst e
    exact h0 n s
  | k + 1, j, n + 1, s, hj, hn => by
    rw [h1 n s j (by omega), ix]
    cases step s j with
    | inl s2 => exact lp_ix h0 h1 k (j + 1) n _ (by omega) (by omega)
    | inr r => rfl
  | _, _, 0, _, _, hn => absurd hn (Nat.not_lt_zero _)
/-- what comes out, and that something does -/
def Ok {R : Type} (o : Option R) (P : R → Prop) : Prop := ∃ r, o = some r ∧ P r
theorem Ok.s {R : Type} {r : R} {P : R → Prop} (h : P r) : Ok (some r) P := ⟨r, rfl, h⟩
theorem Ok.b {R S : Type} {o : Option R} {f : R → Option S} {Q : R → Prop} {P : S → Prop} (h : Ok o Q) (h2 : ∀ r, Q r → Ok (f r) P) : Ok (o.bind f) P := by
  obtain ⟨r, e, q⟩ := h
  subst e
  exact h2 r q
theorem Ok.c {R : Type} {o : Option R} {P Q : R → Prop} (h : Ok o P) (h2 : ∀ r, P r → Q r) : Ok o Q := by
  obtain ⟨r, e, q⟩ := h
  exact ⟨r, e, h2 r q⟩
/-- a loop with an invariant; j: an upper bound of the rounds left -/
theorem Ok.l {σ R : Type} (L : Nat → σ → Option R) (P : R → Prop) (I : Nat → σ → Prop) (h : ∀ j s n, I j s → (∀ s2 j2, j2 < j → I j2 s2 → Ok (L n s2) P) → Ok (L (n + 1) s) P) : ∀ (n j : Nat) (s : σ), j < n → I j s → Ok (L n s) P
  | 0, _, _, hn, _ => absurd hn (Nat.not_lt_zero _)
  | n + 1, j, s, hn, hi => h j s n hi (fun s2 j2 hj hi2 => Ok.l L P I h n j2 s2 (by omega) hi2)
/-! sums -/
def sm (f : Nat → Int32) (j k : Nat) : Int32 := it (fun s i => s + f i) j k 0
theorem it_add (f : Nat → Int32) : ∀ (k j : Nat) (s : Int32), it (fun s i => s + f i) j k s = s + sm f j k
  | 0, _, s => (Int32.add_zero s).symm
  | k + 1, j, s => by
    rw [sm, it_s, it_s, it_add f k (j + 1), it_add f k (j + 1), Int32.zero_add, Int32.add_assoc]
theorem sm_0 (f : Nat → Int32) (j : Nat) : sm f j 0 = 0 := rfl
theorem sm_s (f : Nat → Int32) (j k : Nat) : sm f j (k + 1) = f j + sm f (j + 1) k := by
  rw [sm, it_s, it_add, Int32.zero_add]
theorem sm_e (f : Nat → Int32) (j k : Nat) : sm f j (k + 1) = sm f j k + f (j + k) := by
  rw [sm, it_e]; rfl
theorem sm_congr {f g : Nat → Int32} : ∀ (k j : Nat), (∀ i, j ≤ i → i < j + k → f i = g i) → sm f j k = sm g j k
  | 0, _, _ => rfl
  | k + 1, j, h => by
    rw [sm_s, sm_s, h j (by omega) (by omega), sm_congr k (j + 1) (fun i h1 h2 => h i (by omega) (by omega))]
theorem sm_zero {f : Nat → Int32} : ∀ (k j : Nat), (∀ i, j ≤ i → i < j + k → f i = 0) → sm f j k = 0
  | 0, _, _ => rfl
  | k + 1, j, h => by
    rw [sm_s, h j (by omega) (by omega), sm_zero k (j + 1) (fun i h1 h2 => h i (by omega) (by omega)), Int32.zero_add]
theorem sm_app (f : Nat → Int32) (k l j : Nat) : sm f j (k + l) = sm f j k + sm f (j + k) l := by
  rw [sm, it_app, it_add]; rfl
theorem sm_plus (f g : Nat → Int32) : ∀ (k j : Nat), sm (fun i => f i + g i) j k = sm f j k + sm g j k
  | 0, _ => rfl
  | k + 1, j => by
    rw [sm_s, sm_s, sm_s, sm_plus f g k (j + 1)]
    ac_rfl
theorem sm_one (v : Int32) {q : Nat} : ∀ (k j : Nat), j ≤ q → q < j + k → sm (fun i => if i = q then v else 0) j k = v
  | 0, j, h1, h2 => absurd h2 (by omega)
  | k + 1, j, h1, h2 => by
    rw [sm_s]
    by_cases h : j = q
    · rw [if_pos h, sm_zero k (j + 1) (fun i h3 h4 => if_neg (by omega)), Int32.add_zero]
    · rw [if_neg h, sm_one v k (j + 1) (by omega) (by omega), Int32.zero_add]
/-- bits gathered -/
theorem it_bits (f : Nat → Bool) : ∀ (k j : Nat) (s : Int32) (i : Nat), i < 32 → j + k ≤ 32 → bt (it (fun s d => if f d = true then s ||| bitI d else s) j k s) i = (bt s i || (decide (j ≤ i) && decide (i < j + k) && f i))
  | 0, j, s, i, hi, _ => by
    rw [it_0]
    have h : (decide (j ≤ i) && decide (i < j + 0)) = false := by
      by_cases h : j ≤ i
      · rw [decide_eq_false (by omega : ¬ i < j + 0), Bool.and_false]
      · rw [decide_eq_false h, Bool.false_and]
    rw [h, Bool.false_and, Bool.or_false]
  | k + 1, j, s, i, hi, hk => by
    rw [it_s, it_bits f k (j + 1) _ i hi (by omega)]
    have e : bt (if f j = true then s ||| bitI j else s) i = (bt s i || (decide (i = j) && f j)) := by
      by_cases h : f j = true
      · rw [if_pos h, b_or, bt_bit (by omega) hi, h, Bool.and_true]
      · rw [if_neg h, Bool.not_eq_true _ |>.mp h, Bool.and_false, Bool.or_false]
    rw [e, Bool.or_assoc]
    congr 1
    rcases Nat.lt_trichotomy i j with h | h | h
    · simp [show ¬ i = j by omega, show ¬ j + 1 ≤ i by omega, show ¬ j ≤ i by omega]
    · subst h; simp
    · simp [show ¬ i = j by omega, show j + 1 ≤ i by omega, show j ≤ i by omega, show (i < j + 1 + k) = (i < j + (k + 1)) by rw [Nat.add_assoc, Nat.add_comm 1 k]]

/-! how many bits: Integer.bitCount -/
def cN (f : Nat → Bool) : Nat → Nat → Nat
  | _, 0 => 0
  | j, k + 1 => (if f j = true then 1 else 0) + cN f (j + 1) k
theorem cN_congr {f g : Nat → Bool} : ∀ (k j : Nat), (∀ i, j ≤ i → i < j + k → f i = g i) → cN f j k = cN g j k
  | 0, _, _ => rfl
  | k + 1, j, h => by
    rw [cN, cN, h j (by omega) (by omega), cN_congr k (j + 1) (fun i h1 h2 => h i (by omega) (by omega))]
theorem cN_shift (f : Nat → Bool) (m : Nat) : ∀ (k j : Nat), cN f (m + j) k = cN (fun i => f (m + i)) j k
  | 0, _ => rfl
  | k + 1, j => by rw [cN, cN, show m + j + 1 = m + (j + 1) by omega, cN_shift f m k (j + 1)]
theorem cN_app (f : Nat → Bool) : ∀ (k l j : Nat), cN f j (k + l) = cN f j k + cN f (j + k) l
  | 0, l, j => by rw [Nat.zero_add, cN, Nat.zero_add, Nat.add_zero]
  | k + 1, l, j => by
    rw [show k + 1 + l = (k + l) + 1 by omega, cN, cN, cN_app f k l (j + 1), show j + 1 + k = j + (k + 1) by omega]
    omega
theorem cN_le (f : Nat → Bool) : ∀ (k j : Nat), cN f j k ≤ k
  | 0, _ => Nat.le_refl _
  | k + 1, j => by
    have := cN_le f k (j + 1)
    rw [cN]
    split <;> omega
theorem sm_bI (f : Nat → Bool) : ∀ (k j : Nat), sm (fun i => bI (f i)) j k = nI (cN f j k)
  | 0, _ => rfl
  | k + 1, j => by
    rw [sm_s, sm_bI f k (j + 1), cN]
    cases f j
    · rw [bI_f, Int32.zero_add, if_neg (by decide), Nat.zero_add]
    · rw [bI_t, if_pos rfl, ← nI_add]; rfl
theorem bt_nI (n : Nat) {i : Nat} (hi : i < 32) : bt (nI n) i = n.testBit i := by
  unfold bt
  show (BitVec.ofNat 32 n).getLsbD i = _
  rw [BitVec.getLsbD_ofNat, decide_eq_true hi, Bool.true_and]
theorem and_n (a b : Nat) : nI a &&& nI b = nI (a &&& b) := by
  apply b_ext
  intro i hi
  rw [b_and, bt_nI _ hi, bt_nI _ hi, bt_nI _ hi, Nat.testBit_and]
def w4 (b0 b1 b2 b3 : Nat) : Nat := b0 + 256 * b1 + 65536 * b2 + 16777216 * b3
theorem and_2 {a m : Nat} (b n : Nat) (ha : a < 256) (hm : m < 256) : (a + 256 * b) &&& (m + 256 * n) = (a &&& m) + 256 * (b &&& n) := by
  have h1 : ((a + 256 * b) &&& (m + 256 * n)) % 2 ^ 8 = a &&& m := by
    rw [Nat.and_mod_two_pow]; congr 1 <;> omega
  have h2 : ((a + 256 * b) &&& (m + 256 * n)) / 2 ^ 8 = b &&& n := by
    rw [Nat.and_div_two_pow]; congr 1 <;> omega
  omega
theorem and_4 {b0 b1 b2 b3 m0 m1 m2 m3 : Nat} (h0 : b0 < 256) (h1 : b1 < 256) (h2 : b2 < 256) (k0 : m0 < 256) (k1 : m1 < 256) (k2 : m2 < 256) : w4 b0 b1 b2 b3 &&& w4 m0 m1 m2 m3 = w4 (b0 &&& m0) (b1 &&& m1) (b2 &&& m2) (b3 &&& m3) := by
  have e : ∀ a b c d, w4 a b c d = a + 256 * (b + 256 * (c + 256 * d)) := fun a b c d => by unfold w4; omega
  rw [e, e, e, and_2 _ _ h0 k0, and_2 _ _ h1 k1, and_2 _ _ h2 k2]
def y1 (b : Nat) : Nat := b - ((b / 2) &&& 85)
def y2 (b : Nat) : Nat := (y1 b &&& 51) + ((y1 b / 4) &&& 51)
theorem y_f : ∀ b, b < 256 → (b / 2) &&& 85 ≤ b ∧ y1 b < 256 ∧ y2 b ≤ 68 ∧ y2 b % 16 ≤ 4 ∧ (y2 b + y2 b / 16) % 16 = cN b.testBit 0 8 := by decide +kernel
theorem y_m1 : ∀ b, b < 256 → ∀ r, r < 2 → (b / 2 + 128 * r) &&& 85 = (b / 2) &&& 85 := by decide +kernel
theorem y_m2 : ∀ b, b < 256 → ∀ r, r < 4 → (b / 4 + 64 * r) &&& 51 = (b / 4) &&& 51 := by decide +kernel
theorem and_15 (x : Nat) : x &&& 15 = x % 16 := Nat.and_two_pow_sub_one_eq_mod x 4
theorem and_63 (x : Nat) : x &&& 63 = x % 64 := Nat.and_two_pow_sub_one_eq_mod x 6
theorem y_85 : (1431655765 : Nat) = w4 85 85 85 85 := by decide
theorem y_51 : (858993459 : Nat) = w4 51 51 51 51 := by decide
theorem y_15 : (252645135 : Nat) = w4 15 15 15 15 := by decide
def y_all (n : Nat) : Nat :=
  let y := n - ((n / 2) &&& 1431655765)
  let z := (y &&& 858993459) + ((y / 4) &&& 858993459)
  let u := (z + z / 16) &&& 252645135
  let v := u + u / 256
  let w := v + v / 65536
  w &&& 63
theorem y_step (b0 b1 b2 b3 : Nat) (h0 : b0 < 256) (h1 : b1 < 256) (h2 : b2 < 256) (h3 : b3 < 256) :
    w4 b0 b1 b2 b3 - ((w4 b0 b1 b2 b3 / 2) &&& 1431655765) = w4 (y1 b0) (y1 b1) (y1 b2) (y1 b3) ∧
    ((w4 (y1 b0) (y1 b1) (y1 b2) (y1 b3)) &&& 858993459) + ((w4 (y1 b0) (y1 b1) (y1 b2) (y1 b3) / 4) &&& 858993459) = w4 (y2 b0) (y2 b1) (y2 b2) (y2 b3) ∧
    (w4 (y2 b0) (y2 b1) (y2 b2) (y2 b3) + w4 (y2 b0) (y2 b1) (y2 b2) (y2 b3) / 16) &&& 252645135 = w4 (cN b0.testBit 0 8) (cN b1.testBit 0 8) (cN b2.testBit 0 8) (cN b3.testBit 0 8) := by
  obtain ⟨a0, c0, d0, e0, f0⟩ := y_f b0 h0
  obtain ⟨a1, c1, d1, e1, f1⟩ := y_f b1 h1
  obtain ⟨a2, c2, d2, e2, f2⟩ := y_f b2 h2
  obtain ⟨a3, c3, d3, e3, f3⟩ := y_f b3 h3
  refine ⟨?_, ?_, ?_⟩
  · have e : w4 b0 b1 b2 b3 / 2 = w4 (b0 / 2 + 128 * (b1 % 2)) (b1 / 2 + 128 * (b2 % 2)) (b2 / 2 + 128 * (b3 % 2)) (b3 / 2 + 128 * 0) := by
      unfold w4; omega
    rw [e, y_85, and_4 (by omega) (by omega) (by omega) (by omega) (by omega) (by omega), y_m1 b0 h0 _ (by omega), y_m1 b1 h1 _ (by omega), y_m1 b2 h2 _ (by omega), y_m1 b3 h3 _ (by omega)]
    unfold w4 y1
    omega
  · have e : w4 (y1 b0) (y1 b1) (y1 b2) (y1 b3) / 4 = w4 (y1 b0 / 4 + 64 * (y1 b1 % 4)) (y1 b1 / 4 + 64 * (y1 b2 % 4)) (y1 b2 / 4 + 64 * (y1 b3 % 4)) (y1 b3 / 4 + 64 * 0) := by
      unfold w4; omega
    rw [e, y_51, and_4 (by omega) (by omega) (by omega) (by omega) (by omega) (by omega), and_4 (by omega) (by omega) (by omega) (by omega) (by omega) (by omega), y_m2 _ c0 _ (by omega), y_m2 _ c1 _ (by omega), y_m2 _ c2 _ (by omega), y_m2 _ c3 _ (by omega)]
    unfold w4 y2
    omega
  · have e : w4 (y2 b0) (y2 b1) (y2 b2) (y2 b3) + w4 (y2 b0) (y2 b1) (y2 b2) (y2 b3) / 16 = w4 (y2 b0 + y2 b0 / 16 + 16 * (y2 b1 % 16)) (y2 b1 + y2 b1 / 16 + 16 * (y2 b2 % 16)) (y2 b2 + y2 b2 / 16 + 16 * (y2 b3 % 16)) (y2 b3 + y2 b3 / 16) := by
      unfold w4; omega
    rw [e, y_15, and_4 (by omega) (by omega) (by omega) (by omega) (by omega) (by omega), and_15, and_15, and_15, and_15, ← f0, ← f1, ← f2, ← f3]
    congr 1 <;> omega
theorem y_fin (a b c d : Nat) (ha : a ≤ 8) (hb : b ≤ 8) (hc : c ≤ 8) (hd : d ≤ 8) : (w4 a b c d + w4 a b c d / 256 + (w4 a b c d + w4 a b c d / 256) / 65536) % 64 = a + (b + (c + d)) := by
  have e1 : w4 a b c d / 256 = b + 256 * c + 65536 * d := by unfold w4; omega
  have e2 : (w4 a b c d + w4 a b c d / 256) / 65536 = c + d + 256 * d := by rw [e1]; unfold w4; omega
  rw [e2, e1]
  unfold w4
  omega
theorem y_pop (n : Nat) (hn : n < 4294967296) : y_all n = cN n.testBit 0 32 := by
  have e : n = w4 (n % 256) (n / 256 % 256) (n / 65536 % 256) (n / 16777216) := by unfold w4; omega
  have s := y_step (n % 256) (n / 256 % 256) (n / 65536 % 256) (n / 16777216) (by omega) (by omega) (by omega) (by omega)
  rw [← e] at s
  obtain ⟨s1, s2, s3⟩ := s
  have t : ∀ m : Nat, m < 32 → cN n.testBit m 8 = cN (n / 2 ^ m % 256).testBit 0 8 := by
    intro m _
    have := cN_shift n.testBit m 8 0
    rw [Nat.add_zero] at this
    rw [this]
    apply cN_congr
    intro i _ hi
    rw [show (256 : Nat) = 2 ^ 8 by decide, Nat.testBit_mod_two_pow, Nat.testBit_div_two_pow, decide_eq_true (by omega), Bool.true_and, Nat.add_comm m i]
  have c0 := t 0 (by omega)
  have c1 := t 8 (by omega)
  have c2 := t 16 (by omega)
  have c3 := t 24 (by omega)
  have l0 := cN_le (n % 256).testBit 8 0
  have l1 := cN_le (n / 256 % 256).testBit 8 0
  have l2 := cN_le (n / 65536 % 256).testBit 8 0
  have l3 := cN_le (n / 16777216).testBit 8 0
  have f : cN n.testBit 0 32 = cN n.testBit 0 8 + (cN n.testBit 8 8 + (cN n.testBit 16 8 + cN n.testBit 24 8)) := by
    rw [show (32 : Nat) = 8 + (8 + (8 + 8)) by decide, cN_app, cN_app, cN_app]
  rw [f, c0, c1, c2, c3]
  unfold y_all
  simp only [s1, s2, s3]
  rw [and_63]
  have g0 : n / 2 ^ 0 % 256 = n % 256 := by rw [Nat.pow_zero, Nat.div_one]
  have g1 : n / 2 ^ 8 % 256 = n / 256 % 256 := by rfl
  have g2 : n / 2 ^ 16 % 256 = n / 65536 % 256 := by rfl
  have g3 : n / 2 ^ 24 % 256 = n / 16777216 := by
    show n / 16777216 % 256 = _
    omega
  rw [g0, g1, g2, g3]
  exact y_fin _ _ _ _ l0 l1 l2 l3
def pop (x : Int32) : Int32 := sm (fun i => bI (bt x i)) 0 32
theorem x_nI (x : Int32) : x = nI x.toBitVec.toNat := by
  apply Int32.toBitVec_inj.1
  show x.toBitVec = BitVec.ofNat 32 x.toBitVec.toNat
  rw [BitVec.ofNat_toNat, BitVec.setWidth_eq]
theorem s_1 : (((1 : Int32).toUInt32 &&& Int32.toUInt32 31).toBitVec % 32).toNat = 1 := by decide +kernel
theorem s_2 : (((2 : Int32).toUInt32 &&& Int32.toUInt32 31).toBitVec % 32).toNat = 2 := by decide +kernel
theorem s_4 : (((4 : Int32).toUInt32 &&& Int32.toUInt32 31).toBitVec % 32).toNat = 4 := by decide +kernel
theorem s_8 : (((8 : Int32).toUInt32 &&& Int32.toUInt32 31).toBitVec % 32).toNat = 8 := by decide +kernel
theorem s_16 : (((16 : Int32).toUInt32 &&& Int32.toUInt32 31).toBitVec % 32).toNat = 16 := by decide +kernel
theorem x_bitCount (N : Nat) (x : Int32) : p_J6_bitCount_0f7a4 N x = some (pop x) := by
  have hn : x.toBitVec.toNat < 4294967296 := x.toBitVec.isLt
  have hx := x_nI x
  generalize x.toBitVec.toNat = n at hn hx
  subst hx
  have hp : pop (nI n) = nI (y_all n) := by
    unfold pop
    rw [y_pop n hn, ← sm_bI]
    exact sm_congr _ _ (fun i _ hi => by rw [bt_nI n (by omega)])
  rw [hp]
  unfold p_J6_bitCount_0f7a4
  congr 1
  have k1 : (1431655765 : Int32) = nI 1431655765 := by decide
  have k2 : (858993459 : Int32) = nI 858993459 := by decide
  have k3 : (252645135 : Int32) = nI 252645135 := by decide
  have k4 : (63 : Int32) = nI 63 := by decide
  have a1 : ((nI n).toUInt32 >>> ((1 : Int32).toUInt32 &&& Int32.toUInt32 31)).toInt32 = nI (n / 2) := pk_ushrN hn 1 1 s_1
  have l1 : (n / 2) &&& 1431655765 ≤ n := Nat.le_trans Nat.and_le_left (Nat.div_le_self _ _)
  simp only [a1, k1, k2, k3, k4, and_n, pk_sub l1]
  unfold y_all
  generalize hy : n - ((n / 2) &&& 1431655765) = y
  have y3 : y < 4294967296 := by omega
  have a2 : ((nI y).toUInt32 >>> ((2 : Int32).toUInt32 &&& Int32.toUInt32 31)).toInt32 = nI (y / 4) := pk_ushrN y3 2 2 s_2
  simp only [a2, and_n, nI_add]
  generalize hz : (y &&& 858993459) + ((y / 4) &&& 858993459) = z
  have z3 : z < 4294967296 := by
    have u1 : y &&& 858993459 ≤ 858993459 := Nat.and_le_right
    have u2 : (y / 4) &&& 858993459 ≤ 858993459 := Nat.and_le_right
    omega
  have a3 : ((nI z).toUInt32 >>> ((4 : Int32).toUInt32 &&& Int32.toUInt32 31)).toInt32 = nI (z / 16) := pk_ushrN z3 4 4 s_4
  simp only [a3, and_n, nI_add]
  generalize hu : (z + z / 16) &&& 252645135 = u
  have u3 : u ≤ 252645135 := by rw [← hu]; exact Nat.and_le_right
  have a4 : ((nI u).toUInt32 >>> ((8 : Int32).toUInt32 &&& Int32.toUInt32 31)).toInt32 = nI (u / 256) := pk_ushrN (by omega) 8 8 s_8
  simp only [a4, and_n, nI_add]
  have a5 : ((nI (u + u / 256)).toUInt32 >>> ((16 : Int32).toUInt32 &&& Int32.toUInt32 31)).toInt32 = nI ((u + u / 256) / 65536) := pk_ushrN (by omega) 16 16 s_16
  simp only [a5, and_n, nI_add]

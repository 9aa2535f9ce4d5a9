/-! four bits for each turn -/
def bL (x : Int64) (i : Nat) : Bool := x.toBitVec.getLsbD i
theorem sL_u : ∀ t, t < 12 → ((((4 : Int32) * nI t).toInt64.toUInt64 &&& Int64.toUInt64 63).toBitVec % 64).toNat = 4 * t := by decide +kernel
theorem sL_l : ∀ t, t < 12 → ((((4 : Int32) * nI t).toInt64 &&& 63).toBitVec.smod 64).toNat = 4 * t := by decide +kernel
theorem bL_15 : ∀ i, i < 64 → bL 15 i = decide (i < 4) := by decide +kernel
theorem bL_or (x y : Int64) (i : Nat) : bL (x ||| y) i = (bL x i || bL y i) := by unfold bL; rw [Int64.toBitVec_or, BitVec.getLsbD_or]
theorem bL_and (x y : Int64) (i : Nat) : bL (x &&& y) i = (bL x i && bL y i) := by unfold bL; rw [Int64.toBitVec_and, BitVec.getLsbD_and]
theorem bL_0 (i : Nat) : bL 0 i = false := BitVec.getLsbD_zero
theorem bL_ushr {t : Nat} (ht : t < 12) (x : Int64) (i : Nat) : bL ((x.toUInt64 >>> (((4 : Int32) * nI t).toInt64.toUInt64 &&& Int64.toUInt64 63)).toInt64) i = bL x (4 * t + i) := by
  unfold bL
  show (x.toUInt64 >>> (((4 : Int32) * nI t).toInt64.toUInt64 &&& Int64.toUInt64 63)).toBitVec.getLsbD i = _
  rw [UInt64.toBitVec_shiftRight, BitVec.ushiftRight_eq', BitVec.getLsbD_ushiftRight, sL_u t ht]
  rfl
theorem bL_shl {t : Nat} (ht : t < 12) (x : Int64) {i : Nat} (hi : i < 64) : bL (x <<< (((4 : Int32) * nI t).toInt64 &&& 63)) i = (decide (4 * t ≤ i) && bL x (i - 4 * t)) := by
  unfold bL
  rw [Int64.toBitVec_shiftLeft, BitVec.shiftLeft_eq', BitVec.getLsbD_shiftLeft, sL_l t ht, decide_eq_true hi, Bool.true_and]
  by_cases h : 4 * t ≤ i
  · rw [decide_eq_true h, decide_eq_false (by omega)]; rfl
  · rw [decide_eq_false h, decide_eq_true (by omega)]; rfl
theorem bL_n : ∀ v, v < 16 → ∀ i, i < 64 → bL (nI v).toInt64 i = v.testBit i := by decide +kernel
def NB (x : Int64) (t v : Nat) : Prop := ∀ j, j < 4 → bL x (4 * t + j) = v.testBit j
theorem nib_rd {x : Int64} {t v : Nat} (ht : t < 12) (hv : v < 16) (h : NB x t v) : ((x.toUInt64 >>> (((4 : Int32) * nI t).toInt64.toUInt64 &&& Int64.toUInt64 63)).toInt64 &&& (15 : Int64)).toInt32 = nI v := by
  apply b_ext
  intro i hi
  have e : bt ((x.toUInt64 >>> (((4 : Int32) * nI t).toInt64.toUInt64 &&& Int64.toUInt64 63)).toInt64 &&& (15 : Int64)).toInt32 i = bL ((x.toUInt64 >>> (((4 : Int32) * nI t).toInt64.toUInt64 &&& Int64.toUInt64 63)).toInt64 &&& (15 : Int64)) i := by
    unfold bt bL
    rw [Int64.toBitVec_toInt32, BitVec.getLsbD_signExtend, decide_eq_true hi, Bool.true_and, if_pos (by omega)]
  rw [e, bL_and, bL_15 i (by omega), bL_ushr ht, bt_nI _ hi]
  by_cases c : i < 4
  · rw [decide_eq_true c, Bool.and_true]; exact h i c
  · rw [decide_eq_false c, Bool.and_false]
    exact (tb_big (m := 4) hv (by omega)).symm
theorem nib_wr {x : Int64} {t v : Nat} (ht : t < 12) (hv : v < 16) (h : NB x t 0) : NB (x ||| (nI v).toInt64 <<< (((4 : Int32) * nI t).toInt64 &&& 63)) t v := by
  intro j hj
  rw [bL_or, h j hj, Nat.zero_testBit, Bool.false_or, bL_shl ht _ (by omega), decide_eq_true (by omega), Bool.true_and, Nat.add_sub_cancel_left, bL_n v hv j (by omega)]
theorem nib_o {x : Int64} {t t2 v w : Nat} (ht : t < 12) (ht2 : t2 < 12) (hne : t2 ≠ t) (hv : v < 16) (h : NB x t2 w) : NB (x ||| (nI v).toInt64 <<< (((4 : Int32) * nI t).toInt64 &&& 63)) t2 w := by
  intro j hj
  rw [bL_or, h j hj, bL_shl ht _ (by omega)]
  by_cases c : 4 * t ≤ 4 * t2 + j
  · rw [decide_eq_true c, Bool.true_and, bL_n v hv _ (by omega), tb_big (m := 4) hv (by omega), Bool.or_false]
  · rw [decide_eq_false c, Bool.false_and, Bool.or_false]
theorem nib_0 (t : Nat) : NB 0 t 0 := fun j _ => by rw [bL_0, Nat.zero_testBit]

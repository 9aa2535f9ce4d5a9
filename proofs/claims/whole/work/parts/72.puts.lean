/-! tray, write, pour -/
def cutS (so : Nat) (v : Int64) : Int64 := if so = 0 then ((v.toInt32).toInt8.toInt32).toInt64 else if so = 1 then ((v.toInt32).toInt16.toInt32).toInt64 else if so = 2 then (v.toInt32).toInt64 else v
section puts
variable {N : Nat} {G G2 : Nat → Nat → Int32} {J J2 : Nat → Nat → Int64} {a : TA} {s s2 : SA} {xs : Nat → Int32} {i : Int32}
theorem updL_i (f : Nat → Int64) (k j : Nat) (x : Int64) : vp_updL f k x j = if j = k then x else f j := rfl
theorem x_cut {so : Nat} (h3 : G 0 3 = nI so) (hso : so < 4) (v : Int64) : p_X4_cutToSort N G J v = some (cutS so v) := by
  unfold p_X4_cutToSort cutS
  rw [h3, nI_toInt (by omega)]
  rcases (by omega : so = 0 ∨ so = 1 ∨ so = 2 ∨ so = 3) with h | h | h | h <;> subst h <;> rfl
theorem sx {v : Int64} {w : Nat} {D : Int64} (hD : (D.toBitVec.smod 64).toNat = 64 - w) (hw : 0 < w) (hw2 : w ≤ 64) {i : Nat} (hi : i < 64) : ((v <<< D) >>> D).toBitVec.getLsbD i = v.toBitVec.getLsbD (if i < w then i else w - 1) := by
  rw [Int64.toBitVec_shiftRight, Int64.toBitVec_shiftLeft]
  show ((v.toBitVec <<< (D.toBitVec.smod 64).toNat).sshiftRight (D.toBitVec.smod 64).toNat).getLsbD i = _
  rw [hD, BitVec.getLsbD_sshiftRight, BitVec.msb_eq_getLsbD_last]
  by_cases h : i < w
  · have h1 : 64 - w + i < 64 := by omega
    simp only [hi, h, h1, BitVec.getLsbD_shiftLeft, decide_true, Bool.true_and, ↓reduceIte, show ¬ 64 ≤ i by omega, decide_false, Bool.not_false]
    rw [decide_eq_false (by omega), Bool.not_false, Bool.true_and]
    congr 1; omega
  · have h1 : ¬ 64 - w + i < 64 := by omega
    simp only [hi, h, h1, BitVec.getLsbD_shiftLeft, decide_true, Bool.true_and, ↓reduceIte, show ¬ 64 ≤ i by omega, decide_false, Bool.not_false]
    rw [decide_eq_false (by omega), Bool.not_false, Bool.true_and]
    congr 1; omega
theorem sx8 (v : Int64) {i : Nat} (hi : i < 64) : (((v.toInt32).toInt8.toInt32).toInt64).toBitVec.getLsbD i = v.toBitVec.getLsbD (if i < 8 then i else 7) := by
  show (BitVec.signExtend 64 (BitVec.signExtend 32 (BitVec.signExtend 8 (BitVec.signExtend 32 v.toBitVec)))).getLsbD i = _
  by_cases h : i < 8
  · simp only [BitVec.getLsbD_signExtend, BitVec.msb_eq_getLsbD_last, h, hi, show i < 32 by omega, decide_true, Bool.true_and, ↓reduceIte, Nat.reduceSub, Nat.reduceLT]
  · by_cases h2 : i < 32
    · simp only [BitVec.getLsbD_signExtend, BitVec.msb_eq_getLsbD_last, h, hi, h2, decide_true, Bool.true_and, ↓reduceIte, Nat.reduceSub, Nat.reduceLT]
    · simp only [BitVec.getLsbD_signExtend, BitVec.msb_eq_getLsbD_last, h, hi, h2, decide_true, Bool.true_and, ↓reduceIte, Nat.reduceSub, Nat.reduceLT]
theorem sx16 (v : Int64) {i : Nat} (hi : i < 64) : (((v.toInt32).toInt16.toInt32).toInt64).toBitVec.getLsbD i = v.toBitVec.getLsbD (if i < 16 then i else 15) := by
  show (BitVec.signExtend 64 (BitVec.signExtend 32 (BitVec.signExtend 16 (BitVec.signExtend 32 v.toBitVec)))).getLsbD i = _
  by_cases h : i < 16
  · simp only [BitVec.getLsbD_signExtend, BitVec.msb_eq_getLsbD_last, h, hi, show i < 32 by omega, decide_true, Bool.true_and, ↓reduceIte, Nat.reduceSub, Nat.reduceLT]
  · by_cases h2 : i < 32
    · simp only [BitVec.getLsbD_signExtend, BitVec.msb_eq_getLsbD_last, h, hi, h2, decide_true, Bool.true_and, ↓reduceIte, Nat.reduceSub, Nat.reduceLT]
    · simp only [BitVec.getLsbD_signExtend, BitVec.msb_eq_getLsbD_last, h, hi, h2, decide_true, Bool.true_and, ↓reduceIte, Nat.reduceSub, Nat.reduceLT]
theorem sx32 (v : Int64) {i : Nat} (hi : i < 64) : ((v.toInt32).toInt64).toBitVec.getLsbD i = v.toBitVec.getLsbD (if i < 32 then i else 31) := by
  show (BitVec.signExtend 64 (BitVec.signExtend 32 v.toBitVec)).getLsbD i = _
  by_cases h2 : i < 32
  · simp only [BitVec.getLsbD_signExtend, BitVec.msb_eq_getLsbD_last, hi, h2, decide_true, Bool.true_and, ↓reduceIte, Nat.reduceSub, Nat.reduceLT]
  · simp only [BitVec.getLsbD_signExtend, BitVec.msb_eq_getLsbD_last, hi, h2, decide_true, Bool.true_and, ↓reduceIte, Nat.reduceSub, Nat.reduceLT]
theorem cut_eq {so : Nat} (hso : so < 4) (v : Int64) : (v <<< (((64 : Int32) - ((8 : Int32) <<< (nI so &&& 31))).toInt64 &&& 63)) >>> (((64 : Int32) - ((8 : Int32) <<< (nI so &&& 31))).toInt64 &&& 63) = cutS so v := by
  apply Int64.toBitVec_inj.mp
  apply BitVec.eq_of_getLsbD_eq
  intro i hi
  unfold cutS
  rcases (by omega : so = 0 ∨ so = 1 ∨ so = 2 ∨ so = 3) with h | h | h | h <;> subst h
  · rw [if_pos rfl, sx (w := 8) (by decide) (by omega) (by omega) hi, sx8 v hi]
  · rw [if_neg (by decide), if_pos rfl, sx (w := 16) (by decide) (by omega) (by omega) hi, sx16 v hi]
  · rw [if_neg (by decide), if_neg (by decide), if_pos rfl, sx (w := 32) (by decide) (by omega) (by omega) hi, sx32 v hi]
  · rw [if_neg (by decide), if_neg (by decide), if_neg (by decide), sx (w := 64) (by decide) (by omega) (by omega) hi, if_pos hi]
end puts

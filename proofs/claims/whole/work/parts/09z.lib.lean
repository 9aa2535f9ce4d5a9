/-! Math's max and min -/
section J10
variable {X : jX} {k n pc : Nat} {L : List (Option Value)} {st : List Value} {μ : jH}
theorem jcat (X : jX) (st : List Value) : (st.map (jre (jad X))).map (fun v => v.category) = st.map (fun v => v.category) := by
  rw [List.map_map]
  exact List.map_congr_left fun v _ => jre_cat _ v
theorem js_max (hX : jOK X) {i : Nat} {x y : Int32} (hw : ∀ w ∈ [Cond.methodLink (jown X) i Lib.Math.max.name, Cond.static Lib.Math.max.name, Cond.initialized "java/lang/Math", Cond.code Lib.Math.max.name Lib.Math.max.code 2 (some .int)], w ∈ jbig) (hd : decode (jcc X) pc = .ok (.invokestatic i, 3)) (hf : 1 ≤ (jR X).frames) (hlo : (st.map fun v => v.category).sum + 13 ≤ (jR X).locals) (hc : k ≤ (jR X).cells) (hs : n ≤ (jR X).slots) (K : JW X k n (pc + 3) L (.int (if x < y then y else x) :: st) μ) : JW X k n pc L (.int y :: .int x :: st) μ := fun H locs ls hH hl => by
  have hb := fun w h9 => hX.2.2.2.2.1 w (hw w h9)
  exact va_mmax hX.1 hX.2.1 (hX.2.2.1.trans hl.1.symm) hX.2.2.2.1 (hb _ (by simp)) (hb _ (by simp)) (hb _ (by simp)) (hb _ (by simp)) hf (by rw [jcat]; exact hlo) hc hs hd (K H locs ls hH hl)
theorem js_min (hX : jOK X) {i : Nat} {x y : Int32} (hw : ∀ w ∈ [Cond.methodLink (jown X) i Lib.Math.min.name, Cond.static Lib.Math.min.name, Cond.initialized "java/lang/Math", Cond.code Lib.Math.min.name Lib.Math.min.code 2 (some .int)], w ∈ jbig) (hd : decode (jcc X) pc = .ok (.invokestatic i, 3)) (hf : 1 ≤ (jR X).frames) (hlo : (st.map fun v => v.category).sum + 13 ≤ (jR X).locals) (hc : k ≤ (jR X).cells) (hs : n ≤ (jR X).slots) (K : JW X k n (pc + 3) L (.int (if y < x then y else x) :: st) μ) : JW X k n pc L (.int y :: .int x :: st) μ := fun H locs ls hH hl => by
  have hb := fun w h9 => hX.2.2.2.2.1 w (hw w h9)
  exact va_mmin hX.1 hX.2.1 (hX.2.2.1.trans hl.1.symm) hX.2.2.2.1 (hb _ (by simp)) (hb _ (by simp)) (hb _ (by simp)) (hb _ (by simp)) hf (by rw [jcat]; exact hlo) hc hs hd (K H locs ls hH hl)
theorem js_maxl (hX : jOK X) {i : Nat} {x y : Int64} (hw : ∀ w ∈ [Cond.methodLink (jown X) i Lib.MathLoose.max_long.x, Cond.static Lib.MathLoose.max_long.x, Cond.initialized "java/lang/Math", Cond.code Lib.MathLoose.max_long.x Lib.MathLoose.max_long.code 4 (some .long)], w ∈ jbig) (hd : decode (jcc X) pc = .ok (.invokestatic i, 3)) (hf : 1 ≤ (jR X).frames) (hlo : (st.map fun v => v.category).sum + 15 ≤ (jR X).locals) (hc : k ≤ (jR X).cells) (hs : n ≤ (jR X).slots) (K : JW X k n (pc + 3) L (.long (if y < x then x else y) :: st) μ) : JW X k n pc L (.long y :: .long x :: st) μ := fun H locs ls hH hl => by
  have hb := fun w h9 => hX.2.2.2.2.1 w (hw w h9)
  exact va_mmax_long hX.1 hX.2.1 (hX.2.2.1.trans hl.1.symm) hX.2.2.2.1 (hb _ (by simp)) (hb _ (by simp)) (hb _ (by simp)) (hb _ (by simp)) hf (by rw [jcat]; exact hlo) hc hs hd (K H locs ls hH hl)
/-- System.arraycopy of a whole row of ints, from its first place on -/
theorem js_copy (hX : jOK X) {i a a0 N : Nat} {f g : Nat → Int32} {z : Int32} (hw : ∀ w ∈ [Cond.methodLink (jown X) i arraycopyName, Cond.native arraycopyName, Cond.static arraycopyName, Cond.initialized "java/lang/System"], w ∈ jbig) (h0 : μ[a0]? = some (.inl (0, N, f))) (h1 : μ[a]? = some (.inl (0, N, g))) (hz : ¬ z < 0) (hn : z.toNatClampNeg = N) (hd : decode (jcc X) pc = .ok (.invokestatic i, 3)) (hf : 1 ≤ (jR X).frames) (hlo : (st.map fun v => v.category).sum + (nativeFrameWords "java/lang/System" "arraycopy" 5 + 11) ≤ (jR X).locals)
    (K : JW X k n (pc + 3) L st (μ.set a (.inl (0, N, va_cpy f g 0 0 N)))) : JW X k n pc L (.int z :: .int 0 :: .ref a :: .int 0 :: .ref a0 :: st) μ := fun H locs ls hH hl => by
  have hb := fun w h9 => hX.2.2.2.2.1 w (hw w h9)
  have hP := hH.1
  have hD := hH.2.1
  have hS := hH.2.2.1
  have ha0 : (jpl (jad X) (jcA X) μ)[a0]? = some (jad X a0, .inl (jcA X 0, N, .inl f)) := jpl_at h0
  have ha1 : (jpl (jad X) (jcA X) μ)[a]? = some (jad X a, .inl (jcA X 0, N, .inl g)) := jpl_at h1
  have nz : z.toInt = (N : Int) := by
    have hz0 : (0 : Int) ≤ z.toInt := by
      have := Int32.not_lt.mp hz
      simpa using Int32.le_iff_toInt_le.mp this
    have h9 : z.toInt.toNat = N := hn
    omega
  intro T hT Y
  have hc0 : H[jad X a0]? = some (vp_cell (jcA X 0) (N, .inl f)) := hP a0 _ ha0
  have hc1 : H[jad X a]? = some (vp_cell (jcA X 0) (N, .inl g)) := hP a _ ha1
  have hK0 := (hX.2.2.2.2.2.1.2 0 (jcA X 0, .int) rfl).1
  obtain ⟨-, k0, hk0, cm0, hkk0⟩ := hK0 N (fun j => .int (f j))
  obtain ⟨-, k1, hk1, cm1, hkk1⟩ := hK0 N (fun j => .int (g j))
  obtain ⟨vm', X', step⟩ := Y.arraycopy hX.1 hX.2.2.2.1 (hb (Cond.methodLink (jown X) i arraycopyName) (by simp)) (hb _ (by simp)) (hb _ (by simp)) (hb _ (by simp)) (src := jad X a0) (dst := jad X a) (cs := vp_cell (jcA X 0) (N, .inl f)) (cd := vp_cell (jcA X 0) (N, .inl g)) (srcPos := 0) (destPos := 0) (n := z) (by rw [hT]; exact hc0) (by rw [hT]; exact hc1)
    (fun _ h => by cases h) (fun _ h => by cases h) (fun h => by cases h) (fun h => by cases h) hk0 hk1 hkk0 hkk1 rfl (by decide) (by decide) hz
    (by rw [nz]; show ¬ (0 : Int) + _ > ((arrV (jcA X 0) N (fun j => .int (f j))).slots.size : Int); rw [arrV_size]; omega)
    (by rw [nz]; show ¬ (0 : Int) + _ > ((arrV (jcA X 0) N (fun j => .int (g j))).slots.size : Int); rw [arrV_size]; omega)
    (fun vm₁ _ i hi => by
      have e : (vp_cell (jcA X 0) (N, .inl f)).slots.getD ((0 : Int32).toNatClampNeg + i) .null = .int (f ((0 : Int32).toNatClampNeg + i)) := by
        show (arrV (jcA X 0) N (fun j => .int (f j))).slots.getD _ _ = _
        have h00 : (0 : Int32).toNatClampNeg = 0 := rfl
        rw [Array.getD_eq_getD_getElem?, arrV_read _ _ (by rw [h00]; omega)]
        rfl
      refine ⟨?_, ?_⟩
      · rw [e]
        rfl
      · rw [e]
        exact trivial)
    (g := F0 (jm X) pc ls ((.int z :: .int 0 :: .ref a :: .int 0 :: .ref a0 :: st).map (jre (jad X)))) rfl (by rw [hX.2.2.1]; exact hl.1) (rest := st.map (jre (jad X))) rfl (by rw [hX.2.1]; exact hd) hf (by show 2 * 0 + _ + _ ≤ _; rw [jcat]; omega)
  have e1 : copied (vp_cell (jcA X 0) (N, .inl f)) (vp_cell (jcA X 0) (N, .inl g)) 0 0 z = vp_cell (jcA X 0) (N, .inl (va_cpy f g (0 : Int32).toNatClampNeg (0 : Int32).toNatClampNeg z.toNatClampNeg)) := va_copied (fun z => .int z) (jcA X 0) (jcA X 0) f g (by rw [hn]; exact Nat.le_of_eq (Nat.zero_add N))
  rw [show (0 : Int32).toNatClampNeg = 0 from rfl, hn] at e1
  rw [e1] at X' step
  have hl9 : jad X a < H.size := (Array.getElem?_eq_some_iff.mp hc1).1
  have hheap : ((T.setVm vm').setCell (jad X a) (vp_cell (jcA X 0) (N, .inl (va_cpy f g 0 0 N)))).heap = H.setIfInBounds (jad X a) (vp_cell (jcA X 0) (N, .inl (va_cpy f g 0 0 N))) := by rw [← hT]; rfl
  have oq : ∀ q : Nat, q ≠ jad X a → (H.setIfInBounds (jad X a) (vp_cell (jcA X 0) (N, .inl (va_cpy f g 0 0 N))))[q]? = H[q]? := fun q hq => by simp [Array.getElem?_setIfInBounds, Ne.symm hq]
  have hP2 := hP.set hD ha1 (e := .inl (jcA X 0, N, .inl (va_cpy f g 0 0 N))) (show (H.setIfInBounds (jad X a) _)[jad X a]? = some _ by simp [Array.getElem?_setIfInBounds, hl9]) oq
  have hD2 := hD.set (e := .inl (jcA X 0, N, .inl (va_cpy f g 0 0 N))) ha1
  have e9 : (jpl (jad X) (jcA X) μ).set a (jad X a, .inl (jcA X 0, N, .inl (va_cpy f g 0 0 N))) = jpl (jad X) (jcA X) (μ.set a (.inl (0, N, va_cpy f g 0 0 N))) := jpl_set (jad X) (jcA X) μ a (.inl (0, N, va_cpy f g 0 0 N))
  rw [e9] at hP2 hD2
  obtain ⟨t, a1, b1⟩ := K _ _ ls (hH.upd (by simp) (by simp) hP2 hD2 ⟨by simp; exact hS.1, fun q g1 g2 => by
      rw [oq q (fun e => g2 (by rw [e]; exact hD.2 a _ ha1))]
      exact hS.2.1 q g1 g2, fun q hq => by
      rcases List.mem_append.mp hq with h | h
      · exact hS.2.2 q h
      · obtain ⟨z, -, hz⟩ := List.mem_map.mp h
        rw [← hz]
        exact hD.2 a _ ha1⟩) hl _ hheap X'
  exact ⟨t, step t a1, b1⟩
/-- a constant word -/
theorem js_word (hX : jOK X) {i w : Nat} {tx : String} (hq : (jown X, i, tx, w) ∈ jstr) (hd : decode (jcc X) pc = .ok (.ldc i, 2)) (K : JW X k n (pc + 2) L (.ref (1000000 + w) :: st) μ) : JW X k n pc L st μ := fun H locs ls hH hl =>
  va_ldcS hX.1 hX.2.1 hX.2.2.2.1 (hX.2.2.2.2.2.2.2.2.1.2.2.2.2.1 _ hq) hd (K H locs ls hH hl)
end J10
def jcp (G : Nat → Nat → Int32) (a a0 n : Nat) : Nat → Nat → Int32 := va_up G a (va_cpy (G a0) (G a) 0 0 n)


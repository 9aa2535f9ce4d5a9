theorem wsj_12 : Cond.initialized "java/lang/String" ∈ jbig := jbig_in (jtb_1 _ (List.mem_of_getElem? (i := 12) rfl)) rfl
theorem wsj_13 : Cond.initialized "java/lang/StringLatin1" ∈ jbig := jbig_in (jtb_1 _ (List.mem_of_getElem? (i := 13) rfl)) rfl
theorem wsj_14 : Cond.initialized "jdk/internal/util/Preconditions" ∈ jbig := jbig_in (jtb_1 _ (List.mem_of_getElem? (i := 14) rfl)) rfl
theorem wsj_650 : Cond.instanceMethod ⟨"java/lang/String", "length", "()I"⟩ ∈ jbig := jbig_in (jtb_3 _ (List.mem_of_getElem? (i := 170) rfl)) rfl
theorem wsj_651 : Cond.selects "java/lang/String" ⟨"java/lang/String", "length", "()I"⟩ ⟨"java/lang/String", "length", "()I"⟩ ∈ jbig := jbig_in (jtb_3 _ (List.mem_of_getElem? (i := 171) rfl)) rfl
theorem wsj_652 : Cond.code ⟨"java/lang/String", "length", "()I"⟩ prog_19_method_54_code 1 (some .int) ∈ jbig := jbig_in (jtb_3 _ (List.mem_of_getElem? (i := 172) rfl)) rfl
theorem wsj_653 : Cond.methodLink "java/lang/String" 335 ⟨"java/lang/String", "coder", "()B"⟩ ∈ jbig := jbig_in (jtb_3 _ (List.mem_of_getElem? (i := 173) rfl)) rfl
theorem wsj_654 : Cond.instanceMethod ⟨"java/lang/String", "coder", "()B"⟩ ∈ jbig := jbig_in (jtb_3 _ (List.mem_of_getElem? (i := 174) rfl)) rfl
theorem wsj_655 : Cond.selects "java/lang/String" ⟨"java/lang/String", "coder", "()B"⟩ ⟨"java/lang/String", "coder", "()B"⟩ ∈ jbig := jbig_in (jtb_3 _ (List.mem_of_getElem? (i := 175) rfl)) rfl
theorem wsj_656 : Cond.code ⟨"java/lang/String", "coder", "()B"⟩ prog_19_method_152_code 1 (some .byte) ∈ jbig := jbig_in (jtb_3 _ (List.mem_of_getElem? (i := 176) rfl)) rfl
theorem wsj_657 : Cond.fieldLink "java/lang/String" 38 "java/lang/String" "COMPACT_STRINGS" "Z" ∈ jbig := jbig_in (jtb_3 _ (List.mem_of_getElem? (i := 177) rfl)) rfl
theorem wsj_660 : Cond.instanceMethod ⟨"java/lang/String", "charAt", "(I)C"⟩ ∈ jbig := jbig_in (jtb_3 _ (List.mem_of_getElem? (i := 180) rfl)) rfl
theorem wsj_661 : Cond.selects "java/lang/String" ⟨"java/lang/String", "charAt", "(I)C"⟩ ⟨"java/lang/String", "charAt", "(I)C"⟩ ∈ jbig := jbig_in (jtb_3 _ (List.mem_of_getElem? (i := 181) rfl)) rfl
theorem wsj_662 : Cond.code ⟨"java/lang/String", "charAt", "(I)C"⟩ prog_19_method_56_code 2 (some .char) ∈ jbig := jbig_in (jtb_3 _ (List.mem_of_getElem? (i := 182) rfl)) rfl
theorem wsj_663 : Cond.methodLink "java/lang/String" 492 ⟨"java/lang/String", "isLatin1", "()Z"⟩ ∈ jbig := jbig_in (jtb_3 _ (List.mem_of_getElem? (i := 183) rfl)) rfl
theorem wsj_664 : Cond.instanceMethod ⟨"java/lang/String", "isLatin1", "()Z"⟩ ∈ jbig := jbig_in (jtb_3 _ (List.mem_of_getElem? (i := 184) rfl)) rfl
theorem wsj_665 : Cond.selects "java/lang/String" ⟨"java/lang/String", "isLatin1", "()Z"⟩ ⟨"java/lang/String", "isLatin1", "()Z"⟩ ∈ jbig := jbig_in (jtb_3 _ (List.mem_of_getElem? (i := 185) rfl)) rfl
theorem wsj_666 : Cond.code ⟨"java/lang/String", "isLatin1", "()Z"⟩ prog_19_method_154_code 1 (some .boolean) ∈ jbig := jbig_in (jtb_3 _ (List.mem_of_getElem? (i := 186) rfl)) rfl
theorem wsj_667 : Cond.methodLink "java/lang/String" 495 ⟨"java/lang/StringLatin1", "charAt", "([BI)C"⟩ ∈ jbig := jbig_in (jtb_3 _ (List.mem_of_getElem? (i := 187) rfl)) rfl
theorem wsj_668 : Cond.static ⟨"java/lang/StringLatin1", "charAt", "([BI)C"⟩ ∈ jbig := jbig_in (jtb_3 _ (List.mem_of_getElem? (i := 188) rfl)) rfl
theorem wsj_669 : Cond.code ⟨"java/lang/StringLatin1", "charAt", "([BI)C"⟩ prog_20_method_2_code 2 (some .char) ∈ jbig := jbig_in (jtb_3 _ (List.mem_of_getElem? (i := 189) rfl)) rfl
theorem wsj_670 : Cond.methodLink "java/lang/StringLatin1" 9 ⟨"java/lang/String", "checkIndex", "(II)V"⟩ ∈ jbig := jbig_in (jtb_3 _ (List.mem_of_getElem? (i := 190) rfl)) rfl
theorem wsj_671 : Cond.static ⟨"java/lang/String", "checkIndex", "(II)V"⟩ ∈ jbig := jbig_in (jtb_3 _ (List.mem_of_getElem? (i := 191) rfl)) rfl
theorem wsj_672 : Cond.code ⟨"java/lang/String", "checkIndex", "(II)V"⟩ prog_19_method_155_code 2 none ∈ jbig := jbig_in (jtb_3 _ (List.mem_of_getElem? (i := 192) rfl)) rfl
theorem wsj_673 : Cond.fieldLink "java/lang/String" 1053 "jdk/internal/util/Preconditions" "SIOOBE_FORMATTER" "Ljava/util/function/BiFunction;" ∈ jbig := jbig_in (jtb_3 _ (List.mem_of_getElem? (i := 193) rfl)) rfl
theorem wsj_675 : Cond.methodLink "java/lang/String" 1059 ⟨"jdk/internal/util/Preconditions", "checkIndex", "(IILjava/util/function/BiFunction;)I"⟩ ∈ jbig := jbig_in (jtb_3 _ (List.mem_of_getElem? (i := 195) rfl)) rfl
theorem wsj_676 : Cond.static ⟨"jdk/internal/util/Preconditions", "checkIndex", "(IILjava/util/function/BiFunction;)I"⟩ ∈ jbig := jbig_in (jtb_3 _ (List.mem_of_getElem? (i := 196) rfl)) rfl
theorem wsj_677 : Cond.code ⟨"jdk/internal/util/Preconditions", "checkIndex", "(IILjava/util/function/BiFunction;)I"⟩ prog_28_method_11_code 3 (some .int) ∈ jbig := jbig_in (jtb_3 _ (List.mem_of_getElem? (i := 197) rfl)) rfl
theorem wsj_1747 : Cond.fieldLink "java/lang/String" 9 "java/lang/String" "value" "[B" ∈ jbig := jbig_in (jtb_8 _ (List.mem_of_getElem? (i := 67) rfl)) rfl
theorem wsj_1748 : Cond.fieldLink "java/lang/String" 15 "java/lang/String" "coder" "B" ∈ jbig := jbig_in (jtb_8 _ (List.mem_of_getElem? (i := 68) rfl)) rfl
/-! String's own methods, over the words' Strings: nothing is made, nothing is written -/
abbrev jno : Nat → Prop := fun _ => False
theorem jgoodS {w9 : Cond} {l : List Cond} (h9 : w9 ∈ jbig) (hl : ∀ w ∈ l, w ∈ jbig) : GoodIn jbig (l ++ w9 :: jbig) := by
  intro w hw
  have h : w ∈ jbig := by
    rcases List.mem_append.mp hw with h | h
    · exact hl w h
    · rcases List.mem_cons.mp h with h | h
      · rw [h]; exact h9
      · exact h
  exact ⟨h, good_of_word (jbig_good h)⟩
/-- what a contract over a heap that stays says at its end -/
abbrev jqi (v : Int32) (H0 : Heap) : Array Value → State → Outcome → State → Prop := va_Qi (fun r (_ : Unit) => r = v) (fun _ t => t.heap = H0) jno
abbrev jqv (H0 : Heap) : Array Value → State → Outcome → State → Prop := va_Qv (fun (_ : Unit) => True) (fun _ t => t.heap = H0) jno
def jZC (U : State) (H : Heap) : Prop := va_Z "java/lang/String" "COMPACT_STRINGS" "Z" (.int 1) jno U H
def jZF (U : State) (H : Heap) : Prop := va_Zq "jdk/internal/util/Preconditions" "SIOOBE_FORMATTER" "Ljava/util/function/BiFunction;" jno U H
/-- the String at q: its row at t, of n bytes f -/
def jSF (q t n : Nat) (f : Nat → Int32) (U : State) (H : Heap) : Prop := va_O "java/lang/String" q jno U H ∧ va_OF "java/lang/String" "coder" "B" (.int 0) q jno U H ∧ va_OF "java/lang/String" "value" "[B" (.ref t) q jno U H ∧ va_T .byte t n (fun j => .int (f j)) jno U H ∧ jZC U H ∧ jZF U H
theorem jSF.moved {q t n : Nat} {f : Nat → Int32} {u U : State} {H : Heap} (hvm : u.vm.Alike U.vm) (h : jSF q t n f u H) : jSF q t n f U H :=
  ⟨va_O.moved hvm h.1, va_OF.moved hvm h.2.1, va_OF.moved hvm h.2.2.1, va_T.moved hvm h.2.2.2.1, va_Z.moved hvm h.2.2.2.2.1, va_Zq.moved hvm h.2.2.2.2.2⟩
section JSTR
variable {q t n : Nat} {f : Nat → Int32} {H0 : Heap}
set_option maxHeartbeats 4000000 in
set_option maxRecDepth 100000 in
theorem c_coder (l : Launch) : Met l yJ0_coder_7d493 (jws yJ0_coder_7d493 cJ0_coder_7d493 1 (some .byte)) ⟨0, 0, 0, 0⟩ (va_Pc [.ref q] (fun U => U.heap = H0 ∧ jSF q t n f U U.heap)) (jqi 0 H0) 0 0 jno := by
  refine Met.ofW (cc := cJ0_coder_7d493) (maxL := 1) (ret := some .byte) (ws' := jbig) (by decide) rfl ?_
  intro p e s m args below meth c s₁ B hml hv
  obtain ⟨rfl, hH0, h1, h2, h3, h4, h5, h6⟩ := hv
  have hx := B.exec
  have hb := B.bytes
  have hr := B.returns
  have hts0 := atoms_spec (ws := jws yJ0_coder_7d493 cJ0_coder_7d493 1 (some .byte)) B.pre
  have hts : ∀ w ∈ jbig, w.before ([Value.ref q] : List Value).toArray s = true := fun w hw => hts0 w (List.mem_cons_of_mem _ hw)
  have hown : s.vm.findClass "java/lang/String" = some m.cls := findClass_of_methodNamed B.named
  have hlocks := B.notSynchronized
  have hS : va_S jno s.heap s.heap [] := va_S.rf
  have hl := lv_entry ([.ref q]) (n := 1) (Nat.le_of_ble_eq_true rfl)
  rw [lg_entry_eq]
  generalize (lg_sl ([.ref q]) ++ List.replicate (1 - (lg_sl ([.ref q])).length) Slot.unset).toArray = ls at hl ⊢
  have hl : lv_has ls 1 [(0, .ref q)] := hl
  refine va_gets (v := .int 1) (index := 38) hx hb h5 hS hown (hts _ wsj_657) (fun _ h => h) (by decide +kernel) ?_
  refine lv_if_eq (tgt := 13) (off := 10) hx hb (by decide +kernel) (by decide) (fun h => absurd h (by decide)) (fun _ => ?_)
  refine lv_aload_n (k := 0) hx hb (by decide +kernel) rfl (lv_at hl 0 rfl) ?_
  refine vk_getf (index := 15) hx hb h2 hS hown (hts _ wsj_1748) (fun _ h => h) (by decide +kernel) ?_
  refine lv_goto (tgt := 14) (off := 4) hx hb (by decide +kernel) (by decide) ?_
  exact W.zret (v := 0) hx hb hr (by decide) (fun t ht hW => ⟨⟨0, (), rfl, rfl, ht.trans hH0⟩, hS.F ht⟩) hS.2.2 (by decide +kernel)
set_option maxHeartbeats 4000000 in
set_option maxRecDepth 100000 in
theorem c_latin (l : Launch) : Met l yJ0_isLatin1_aae02 (jws yJ0_isLatin1_aae02 cJ0_isLatin1_aae02 1 (some .boolean)) ⟨0, 0, 0, 0⟩ (va_Pc [.ref q] (fun U => U.heap = H0 ∧ jSF q t n f U U.heap)) (jqi 1 H0) 0 0 jno := by
  refine Met.ofW (cc := cJ0_isLatin1_aae02) (maxL := 1) (ret := some .boolean) (ws' := jbig) (by decide) rfl ?_
  intro p e s m args below meth c s₁ B hml hv
  obtain ⟨rfl, hH0, h1, h2, h3, h4, h5, h6⟩ := hv
  have hx := B.exec
  have hb := B.bytes
  have hr := B.returns
  have hts0 := atoms_spec (ws := jws yJ0_isLatin1_aae02 cJ0_isLatin1_aae02 1 (some .boolean)) B.pre
  have hts : ∀ w ∈ jbig, w.before ([Value.ref q] : List Value).toArray s = true := fun w hw => hts0 w (List.mem_cons_of_mem _ hw)
  have hown : s.vm.findClass "java/lang/String" = some m.cls := findClass_of_methodNamed B.named
  have hlocks := B.notSynchronized
  have hS : va_S jno s.heap s.heap [] := va_S.rf
  have hl := lv_entry ([.ref q]) (n := 1) (Nat.le_of_ble_eq_true rfl)
  rw [lg_entry_eq]
  generalize (lg_sl ([.ref q]) ++ List.replicate (1 - (lg_sl ([.ref q])).length) Slot.unset).toArray = ls at hl ⊢
  have hl : lv_has ls 1 [(0, .ref q)] := hl
  refine va_gets (v := .int 1) (index := 38) hx hb h5 hS hown (hts _ wsj_657) (fun _ h => h) (by decide +kernel) ?_
  refine lv_if_eq (tgt := 17) (off := 14) hx hb (by decide +kernel) (by decide) (fun h => absurd h (by decide)) (fun _ => ?_)
  refine lv_aload_n (k := 0) hx hb (by decide +kernel) rfl (lv_at hl 0 rfl) ?_
  refine vk_getf (index := 15) hx hb h2 hS hown (hts _ wsj_1748) (fun _ h => h) (by decide +kernel) ?_
  refine lv_if_ne (tgt := 17) (off := 7) hx hb (by decide +kernel) (by decide) (fun h => absurd rfl h) (fun _ => ?_)
  refine lv_iconst (v := 1) (n := 1) hx hb (by decide +kernel) (by decide) ?_
  refine lv_goto (tgt := 18) (off := 4) hx hb (by decide +kernel) (by decide) ?_
  exact W.zret (v := 1) hx hb hr (by decide) (fun t ht hW => ⟨⟨1, (), rfl, rfl, ht.trans hH0⟩, hS.F ht⟩) hS.2.2 (by decide +kernel)
set_option maxHeartbeats 4000000 in
set_option maxRecDepth 100000 in
theorem c_pck (l : Launch) {x z : Int32} {fmt : Value} (hf : fmt = .null ∨ ∃ t, fmt = .ref t) (h0 : ¬ x < 0) (h1 : x < z) : Met l yJ3_checkIndex_8e157 (jws yJ3_checkIndex_8e157 cJ3_checkIndex_8e157 3 (some .int)) ⟨0, 0, 0, 0⟩ (va_Pc [.int x, .int z, fmt] (fun U => U.heap = H0)) (jqi x H0) 0 0 jno := by
  refine Met.ofW (cc := cJ3_checkIndex_8e157) (maxL := 3) (ret := some .int) (ws' := jbig) (by decide) rfl ?_
  intro p e s m args below meth c s₁ B hml hv
  obtain ⟨rfl, hH0⟩ := hv
  have hx := B.exec
  have hb := B.bytes
  have hr := B.returns
  have hlocks := B.notSynchronized
  have hS : va_S jno s.heap s.heap [] := va_S.rf
  have hl : lv_has (lg_sl ([.int x, .int z, fmt]) ++ List.replicate (3 - (lg_sl ([.int x, .int z, fmt])).length) Slot.unset).toArray 3 [(0, .int x), (1, .int z), (2, fmt)] := by
    rcases hf with rfl | ⟨t, rfl⟩
    · exact lv_entry ([.int x, .int z, .null]) (n := 3) (Nat.le_of_ble_eq_true rfl)
    · exact lv_entry ([.int x, .int z, .ref t]) (n := 3) (Nat.le_of_ble_eq_true rfl)
  rw [lg_entry_eq]
  generalize (lg_sl ([.int x, .int z, fmt]) ++ List.replicate (3 - (lg_sl ([.int x, .int z, fmt])).length) Slot.unset).toArray = ls at hl ⊢
  refine lv_iload_n (k := 0) hx hb (by decide +kernel) rfl (lv_at hl 0 rfl) ?_
  refine lv_if_lt (tgt := 9) (off := 8) hx hb (by decide +kernel) (by decide) (fun h => absurd h h0) (fun _ => ?_)
  refine lv_iload_n (k := 0) hx hb (by decide +kernel) rfl (lv_at hl 0 rfl) ?_
  refine lv_iload_n (k := 1) hx hb (by decide +kernel) rfl (lv_at hl 1 rfl) ?_
  refine lv_icmp_lt (tgt := 16) (off := 10) hx hb (by decide +kernel) (by decide) (fun _ => ?_) (fun h => absurd h1 h)
  refine lv_iload_n (k := 0) hx hb (by decide +kernel) rfl (lv_at hl 0 rfl) ?_
  exact W.iret (v := x) hx hb hr (fun t ht hW => ⟨⟨x, (), rfl, rfl, ht.trans hH0⟩, hS.F ht⟩) hS.2.2 (by decide +kernel)
set_option maxHeartbeats 4000000 in
set_option maxRecDepth 100000 in
theorem c_ck (l : Launch) {x z : Int32} (h0 : ¬ x < 0) (h1 : x < z) : Met l yJ0_checkIndex_df160 (jws yJ0_checkIndex_df160 cJ0_checkIndex_df160 2 none) ⟨1, 0, 0, 22⟩ (va_Pc [.int x, .int z] (fun U => U.heap = H0 ∧ jZF U U.heap)) (jqv H0) 0 0 jno := by
  refine Met.ofW (cc := cJ0_checkIndex_df160) (maxL := 2) (ret := none) (ws' := jbig) (by decide) rfl ?_
  intro p e s m args below meth c s₁ B hml hv
  obtain ⟨rfl, hH0, h6⟩ := hv
  have hx := B.exec
  have hb := B.bytes
  have hr := B.returns
  have hts0 := atoms_spec (ws := jws yJ0_checkIndex_df160 cJ0_checkIndex_df160 2 none) B.pre
  have hts : ∀ w ∈ jbig, w.before ([Value.int x, Value.int z] : List Value).toArray s = true := fun w hw => hts0 w (List.mem_cons_of_mem _ hw)
  have hown : s.vm.findClass "java/lang/String" = some m.cls := findClass_of_methodNamed B.named
  have hlocks := B.notSynchronized
  have hS : va_S jno s.heap s.heap [] := va_S.rf
  have hl := lv_entry ([.int x, .int z]) (n := 2) (Nat.le_of_ble_eq_true rfl)
  rw [lg_entry_eq]
  generalize (lg_sl ([.int x, .int z]) ++ List.replicate (2 - (lg_sl ([.int x, .int z])).length) Slot.unset).toArray = ls at hl ⊢
  have hl : lv_has ls 2 [(0, .int x), (1, .int z)] := hl
  obtain ⟨fmt, hf, hZ⟩ : ∃ fmt : Value, (fmt = .null ∨ ∃ t, fmt = .ref t) ∧ va_Z "jdk/internal/util/Preconditions" "SIOOBE_FORMATTER" "Ljava/util/function/BiFunction;" fmt jno s s.heap := by
    rcases h6 with h | ⟨t, h⟩
    · exact ⟨.null, Or.inl rfl, h⟩
    · exact ⟨.ref t, Or.inr ⟨t, rfl⟩, h⟩
  have hcat : fmt.category = 1 := by
    rcases hf with rfl | ⟨t, rfl⟩ <;> rfl
  refine lv_iload_n (k := 0) hx hb (by decide +kernel) rfl (lv_at hl 0 rfl) ?_
  refine lv_iload_n (k := 1) hx hb (by decide +kernel) rfl (lv_at hl 1 rfl) ?_
  refine va_gets (v := fmt) (index := 1053) hx hb hZ hS hown (hts _ wsj_673) (fun _ h => h) (by decide +kernel) ?_
  refine va_calli (va_runS (As := [.int x, .int z, fmt]) (rest := []) (index := 1059) ⟨hx, hb, hml, hown, hts⟩ (c_pck (H0 := s.heap) l hf h0 h1) (va_cwS (Ts := jbig) (ws' := jbig) (index := 1059) 3 hts (jgoodS (l := [.methodLink "java/lang/String" 1059 yJ3_checkIndex_8e157, .static yJ3_checkIndex_8e157, .initialized yJ3_checkIndex_8e157.cls]) wsj_677 (by
      intro w hw
      simp only [List.mem_cons, List.mem_nil_iff, or_false] at hw
      rcases hw with rfl | rfl | rfl
      · exact wsj_675
      · exact wsj_676
      · exact wsj_14)) rfl rfl rfl (by decide) ⟨Nat.le_of_ble_eq_true rfl, Nat.le_of_ble_eq_true rfl⟩) ⟨fun a U g mk h => h, fun U hU hW => ⟨rfl, hU⟩⟩ rfl rfl hl.1 rfl (lv_room (Nat.le_of_ble_eq_true rfl)) (show decode cJ0_checkIndex_df160 5 = .ok (.invokestatic 1059, 3) by decide +kernel) ⟨Nat.zero_le _, Nat.zero_le _⟩) hS (fun _ _ h => h.elim) (fun _ h => h.elim) (fun r u t H1 locs ht hvm hw hB hz1 hk1 hS => ?_)
  have e1 : H1 = s.heap := ht.symm.trans hB
  subst e1
  refine lv_pop hx hb (by decide +kernel) rfl ?_
  exact W.vret hx hb hr (fun t ht hW => ⟨⟨(), rfl, trivial, ht.trans hH0⟩, hS.F ht⟩) hS.2.2 (by decide +kernel)
set_option maxHeartbeats 4000000 in
set_option maxRecDepth 100000 in
theorem c_lch (l : Launch) {x v : Int32} (hin : vp_in x n) (h0 : ¬ x < 0) (h1 : x < Int32.ofNat n) (hv : ((f x.toNatClampNeg &&& 255).toUInt32 % 65536).toInt32 = v) (hn : narrow .char (.int v) = .int v) : Met l yJ1_charAt_3b067 (jws yJ1_charAt_3b067 cJ1_charAt_3b067 2 (some .char)) ⟨2, 0, 0, 43⟩ (va_Pc [.ref t, .int x] (fun U => U.heap = H0 ∧ va_T .byte t n (fun j => .int (f j)) jno U U.heap ∧ jZF U U.heap)) (jqi v H0) 0 0 jno := by
  refine Met.ofW (cc := cJ1_charAt_3b067) (maxL := 2) (ret := some .char) (ws' := jbig) (by decide) rfl ?_
  intro p e s m args below meth c s₁ B hml hv9
  obtain ⟨rfl, hH0, h4, h6⟩ := hv9
  have hx := B.exec
  have hb := B.bytes
  have hr := B.returns
  have hts0 := atoms_spec (ws := jws yJ1_charAt_3b067 cJ1_charAt_3b067 2 (some .char)) B.pre
  have hts : ∀ w ∈ jbig, w.before ([Value.ref t, Value.int x] : List Value).toArray s = true := fun w hw => hts0 w (List.mem_cons_of_mem _ hw)
  have hown : s.vm.findClass "java/lang/StringLatin1" = some m.cls := findClass_of_methodNamed B.named
  have hlocks := B.notSynchronized
  have hS : va_S jno s.heap s.heap [] := va_S.rf
  have hl := lv_entry ([.ref t, .int x]) (n := 2) (Nat.le_of_ble_eq_true rfl)
  rw [lg_entry_eq]
  generalize (lg_sl ([.ref t, .int x]) ++ List.replicate (2 - (lg_sl ([.ref t, .int x])).length) Slot.unset).toArray = ls at hl ⊢
  have hl : lv_has ls 2 [(0, .ref t), (1, .int x)] := hl
  refine lv_iload_n (k := 1) hx hb (by decide +kernel) rfl (lv_at hl 1 rfl) ?_
  refine lv_aload_n (k := 0) hx hb (by decide +kernel) rfl (lv_at hl 0 rfl) ?_
  refine va_tlen hx hb h4 hS rfl (by decide +kernel) ?_
  refine va_callv (va_runS (As := [.int x, .int (Int32.ofNat n)]) (rest := []) (index := 9) ⟨hx, hb, hml, hown, hts⟩ (c_ck (H0 := s.heap) l h0 h1) (va_cwS (Ts := jbig) (ws' := jbig) (index := 9) 2 hts (jgoodS (l := [.methodLink "java/lang/StringLatin1" 9 yJ0_checkIndex_df160, .static yJ0_checkIndex_df160, .initialized yJ0_checkIndex_df160.cls]) wsj_672 (by
      intro w hw
      simp only [List.mem_cons, List.mem_nil_iff, or_false] at hw
      rcases hw with rfl | rfl | rfl
      · exact wsj_670
      · exact wsj_671
      · exact wsj_12)) rfl rfl rfl (by decide) ⟨Nat.le_of_ble_eq_true rfl, Nat.le_of_ble_eq_true rfl⟩) ⟨fun a U g mk h => ⟨h.1, h.2.1, va_Zq.moved (u := U) (U := U.calling g mk a) (Vm.Alike.refl U.vm) h.2.2⟩, fun U hU hW => ⟨rfl, hU, by rw [hU]; exact va_Zq.moved hW.alike h6⟩⟩ rfl rfl hl.1 rfl (lv_room (Nat.le_of_ble_eq_true rfl)) (show decode cJ1_charAt_3b067 3 = .ok (.invokestatic 9, 3) by decide +kernel) ⟨Nat.zero_le _, Nat.zero_le _⟩) hS (fun _ _ h => h.elim) (fun _ h => h.elim) (fun u t2 H1 locs ht hvm hw hB hz1 hk1 hS => ?_)
  have e1 : H1 = s.heap := ht.symm.trans hB
  subst e1
  refine lv_aload_n (k := 0) hx hb (by decide +kernel) rfl (lv_at hl 0 rfl) ?_
  refine lv_iload_n (k := 1) hx hb (by decide +kernel) rfl (lv_at hl 1 rfl) ?_
  refine va_tb (v := .int (f x.toNatClampNeg)) hx hb h4 hS hin rfl (by decide +kernel) ?_
  refine lv_sipush (v := 255) (n := 255) hx hb (by decide +kernel) (by decide) ?_
  refine lv_iand hx hb (by decide +kernel) ?_
  refine lv_i2c (v := v) hx hb (by decide +kernel) hv ?_
  exact W.zret (v := v) hx hb hr hn (fun t ht hW => ⟨⟨v, (), rfl, rfl, ht.trans hH0⟩, hS.F ht⟩) hS.2.2 (by decide +kernel)
set_option maxHeartbeats 4000000 in
set_option maxRecDepth 100000 in
theorem c_len (l : Launch) (hsh : Int32.ofNat n >>> ((0 : Int32) &&& 31) = Int32.ofNat n) : Met l yJ0_length_8abf5 (jws yJ0_length_8abf5 cJ0_length_8abf5 1 (some .int)) ⟨1, 0, 0, 20⟩ (va_Pc [.ref q] (fun U => U.heap = H0 ∧ jSF q t n f U U.heap)) (jqi (Int32.ofNat n) H0) 0 0 jno := by
  refine Met.ofW (cc := cJ0_length_8abf5) (maxL := 1) (ret := some .int) (ws' := jbig) (by decide) rfl ?_
  intro p e s m args below meth c s₁ B hml hv
  obtain ⟨rfl, hH0, hF⟩ := hv
  obtain ⟨h1, h2, h3, h4, h5, h6⟩ := id hF
  have hx := B.exec
  have hb := B.bytes
  have hr := B.returns
  have hts0 := atoms_spec (ws := jws yJ0_length_8abf5 cJ0_length_8abf5 1 (some .int)) B.pre
  have hts : ∀ w ∈ jbig, w.before ([Value.ref q] : List Value).toArray s = true := fun w hw => hts0 w (List.mem_cons_of_mem _ hw)
  have hown : s.vm.findClass "java/lang/String" = some m.cls := findClass_of_methodNamed B.named
  have hlocks := B.notSynchronized
  have hS : va_S jno s.heap s.heap [] := va_S.rf
  have hl := lv_entry ([.ref q]) (n := 1) (Nat.le_of_ble_eq_true rfl)
  rw [lg_entry_eq]
  generalize (lg_sl ([.ref q]) ++ List.replicate (1 - (lg_sl ([.ref q])).length) Slot.unset).toArray = ls at hl ⊢
  have hl : lv_has ls 1 [(0, .ref q)] := hl
  refine lv_aload_n (k := 0) hx hb (by decide +kernel) rfl (lv_at hl 0 rfl) ?_
  refine vk_getf (index := 9) hx hb h3 hS hown (hts _ wsj_1747) (fun _ h => h) (by decide +kernel) ?_
  refine va_tlen hx hb h4 hS rfl (by decide +kernel) ?_
  refine lv_aload_n (k := 0) hx hb (by decide +kernel) rfl (lv_at hl 0 rfl) ?_
  refine va_calli (va_runV (As := []) (rest := [.int (Int32.ofNat n)]) (C := "java/lang/String") (index := 335) ⟨hx, hb, hml, hown, hts⟩ (c_coder (q := q) (t := t) (n := n) (f := f) (H0 := s.heap) l) (cwV (Ts := jbig) (ws' := jbig) (index := 335) 0 hts (jgoodS (l := [.methodLink "java/lang/String" 335 yJ0_coder_7d493, .instanceMethod yJ0_coder_7d493, .selects "java/lang/String" yJ0_coder_7d493 yJ0_coder_7d493, .initialized yJ0_coder_7d493.cls]) wsj_656 (by
      intro w hw
      simp only [List.mem_cons, List.mem_nil_iff, or_false] at hw
      rcases hw with rfl | rfl | rfl | rfl
      · exact wsj_653
      · exact wsj_654
      · exact wsj_655
      · exact wsj_12)) rfl rfl rfl ⟨rfl, by decide⟩ ⟨Nat.le_of_ble_eq_true rfl, Nat.le_of_ble_eq_true rfl⟩) ⟨fun a U g mk h => ⟨h.1, h.2.1, jSF.moved (u := U) (U := U.calling g mk a) (Vm.Alike.refl U.vm) h.2.2⟩, (by obtain ⟨cell, g1, g2, g3, -⟩ := h1; exact ⟨cell, g1, g2, g3⟩), fun U hU hW => ⟨rfl, hU, by rw [hU]; exact hF.moved hW.alike⟩⟩ rfl rfl hl.1 rfl (lv_room (Nat.le_of_ble_eq_true rfl)) (show decode cJ0_length_8abf5 6 = .ok (.invokevirtual 335, 3) by decide +kernel) ⟨Nat.zero_le _, Nat.zero_le _⟩) hS (fun _ _ h => h.elim) (fun _ h => h.elim) (fun r u t2 H1 locs ht hvm hw hB hz1 hk1 hS => ?_)
  have e1 : H1 = s.heap := ht.symm.trans hB
  subst e1
  have e2 : r = 0 := hw
  subst e2
  refine lv_ishr hx hb (by decide +kernel) ?_
  rw [hsh]
  exact W.iret (v := Int32.ofNat n) hx hb hr (fun t ht hW => ⟨⟨Int32.ofNat n, (), rfl, rfl, ht.trans hH0⟩, hS.F ht⟩) hS.2.2 (by decide +kernel)
set_option maxHeartbeats 4000000 in
set_option maxRecDepth 100000 in
theorem c_cha (l : Launch) {x v : Int32} (hin : vp_in x n) (h0 : ¬ x < 0) (h1 : x < Int32.ofNat n) (hv : ((f x.toNatClampNeg &&& 255).toUInt32 % 65536).toInt32 = v) (hn : narrow .char (.int v) = .int v) : Met l yJ0_charAt_5068e (jws yJ0_charAt_5068e cJ0_charAt_5068e 2 (some .char)) ⟨3, 0, 0, 64⟩ (va_Pc [.ref q, .int x] (fun U => U.heap = H0 ∧ jSF q t n f U U.heap)) (jqi v H0) 0 0 jno := by
  refine Met.ofW (cc := cJ0_charAt_5068e) (maxL := 2) (ret := some .char) (ws' := jbig) (by decide) rfl ?_
  intro p e s m args below meth c s₁ B hml hv9
  obtain ⟨rfl, hH0, hF⟩ := hv9
  obtain ⟨g1, g2, g3, g4, g5, g6⟩ := id hF
  have hx := B.exec
  have hb := B.bytes
  have hr := B.returns
  have hts0 := atoms_spec (ws := jws yJ0_charAt_5068e cJ0_charAt_5068e 2 (some .char)) B.pre
  have hts : ∀ w ∈ jbig, w.before ([Value.ref q, Value.int x] : List Value).toArray s = true := fun w hw => hts0 w (List.mem_cons_of_mem _ hw)
  have hown : s.vm.findClass "java/lang/String" = some m.cls := findClass_of_methodNamed B.named
  have hlocks := B.notSynchronized
  have hS : va_S jno s.heap s.heap [] := va_S.rf
  have hl := lv_entry ([.ref q, .int x]) (n := 2) (Nat.le_of_ble_eq_true rfl)
  rw [lg_entry_eq]
  generalize (lg_sl ([.ref q, .int x]) ++ List.replicate (2 - (lg_sl ([.ref q, .int x])).length) Slot.unset).toArray = ls at hl ⊢
  have hl : lv_has ls 2 [(0, .ref q), (1, .int x)] := hl
  refine lv_aload_n (k := 0) hx hb (by decide +kernel) rfl (lv_at hl 0 rfl) ?_
  refine va_calli (va_runV (As := []) (rest := []) (C := "java/lang/String") (index := 492) ⟨hx, hb, hml, hown, hts⟩ (c_latin (q := q) (t := t) (n := n) (f := f) (H0 := s.heap) l) (cwV (Ts := jbig) (ws' := jbig) (index := 492) 0 hts (jgoodS (l := [.methodLink "java/lang/String" 492 yJ0_isLatin1_aae02, .instanceMethod yJ0_isLatin1_aae02, .selects "java/lang/String" yJ0_isLatin1_aae02 yJ0_isLatin1_aae02, .initialized yJ0_isLatin1_aae02.cls]) wsj_666 (by
      intro w hw
      simp only [List.mem_cons, List.mem_nil_iff, or_false] at hw
      rcases hw with rfl | rfl | rfl | rfl
      · exact wsj_663
      · exact wsj_664
      · exact wsj_665
      · exact wsj_12)) rfl rfl rfl ⟨rfl, by decide⟩ ⟨Nat.le_of_ble_eq_true rfl, Nat.le_of_ble_eq_true rfl⟩) ⟨fun a U g mk h => ⟨h.1, h.2.1, jSF.moved (u := U) (U := U.calling g mk a) (Vm.Alike.refl U.vm) h.2.2⟩, (by obtain ⟨cell, z1, z2, z3, -⟩ := g1; exact ⟨cell, z1, z2, z3⟩), fun U hU hW => ⟨rfl, hU, by rw [hU]; exact hF.moved hW.alike⟩⟩ rfl rfl hl.1 rfl (lv_room (Nat.le_of_ble_eq_true rfl)) (show decode cJ0_charAt_5068e 1 = .ok (.invokevirtual 492, 3) by decide +kernel) ⟨Nat.zero_le _, Nat.zero_le _⟩) hS (fun _ _ h => h.elim) (fun _ h => h.elim) (fun r u t2 H1 locs ht hvm hw hB hz1 hk1 hS => ?_)
  have e1 : H1 = s.heap := ht.symm.trans hB
  subst e1
  have e2 : r = 1 := hw
  subst e2
  refine lv_if_eq (tgt := 16) (off := 12) hx hb (by decide +kernel) (by decide) (fun h => absurd h (by decide)) (fun _ => ?_)
  refine lv_aload_n (k := 0) hx hb (by decide +kernel) rfl (lv_at hl 0 rfl) ?_
  refine vk_getf (index := 9) hx hb g3 hS hown (hts _ wsj_1747) (fun _ h => h) (by decide +kernel) ?_
  refine lv_iload_n (k := 1) hx hb (by decide +kernel) rfl (lv_at hl 1 rfl) ?_
  refine va_calli (va_runS (As := [.ref t, .int x]) (rest := []) (index := 495) ⟨hx, hb, hml, hown, hts⟩ (c_lch (t := t) (n := n) (f := f) (H0 := s.heap) l hin h0 h1 hv hn) (va_cwS (Ts := jbig) (ws' := jbig) (index := 495) 2 hts (jgoodS (l := [.methodLink "java/lang/String" 495 yJ1_charAt_3b067, .static yJ1_charAt_3b067, .initialized yJ1_charAt_3b067.cls]) wsj_669 (by
      intro w hw
      simp only [List.mem_cons, List.mem_nil_iff, or_false] at hw
      rcases hw with rfl | rfl | rfl
      · exact wsj_667
      · exact wsj_668
      · exact wsj_13)) rfl rfl rfl (by decide) ⟨Nat.le_of_ble_eq_true rfl, Nat.le_of_ble_eq_true rfl⟩) ⟨fun a U g mk h => ⟨h.1, h.2.1, va_T.moved (u := U) (U := U.calling g mk a) (Vm.Alike.refl U.vm) h.2.2.1, va_Zq.moved (u := U) (U := U.calling g mk a) (Vm.Alike.refl U.vm) h.2.2.2⟩, fun U hU hW => ⟨rfl, hU, by rw [hU]; exact va_T.moved hW.alike g4, by rw [hU]; exact va_Zq.moved hW.alike g6⟩⟩ rfl rfl hl.1 rfl (lv_room (Nat.le_of_ble_eq_true rfl)) (show decode cJ0_charAt_5068e 12 = .ok (.invokestatic 495, 3) by decide +kernel) ⟨Nat.zero_le _, Nat.zero_le _⟩) hS (fun _ _ h => h.elim) (fun _ h => h.elim) (fun r u t2 H1 locs ht hvm hw hB hz1 hk1 hS => ?_)
  have e1 : H1 = s.heap := ht.symm.trans hB
  subst e1
  have e2 : r = v := hw
  subst e2
  exact W.zret (v := r) hx hb hr hn (fun t ht hW => ⟨⟨r, (), rfl, rfl, ht.trans hH0⟩, hS.F ht⟩) hS.2.2 (by decide +kernel)
end JSTR
section JSTR2
variable {X : jX} {k n pc : Nat} {L : List (Option Value)} {st : List Value} {μ : jH}
theorem jSF_at (hX : jOK X) {H : Heap} {locs : List Loc} (hH : jHP X μ H locs) {w : Nat} (hw : w < 7) {U : State} (hU : U.heap = H) (hW : (js X).WarmedH U.vm) : jSF (jad X (1000000 + w)) (jv X w) (jlen.getD w 0) (fun j => (jbyt.getD w []).getD j 0) U U.heap := by
  obtain ⟨e1, -, -, -, -, -, -, -, -, e10, e11, -⟩ := hX.2.2.2.2.2.2.2.2.1
  obtain ⟨s1, s2, s3, s4⟩ := e1.1 w hw
  have hk := hH.2.2.1.2.1
  rw [hU]
  exact ⟨((s1.kept hk).moved hW.alike).narrow (fun _ h => h.elim), ((s2.kept hk).moved hW.alike).narrow (fun _ h => h.elim), ((s3.kept hk).moved hW.alike).narrow (fun _ h => h.elim), ((s4.kept hk).moved hW.alike).narrow (fun _ h => h.elim), ((e10.kept hk).moved hW.alike).narrow (fun _ h => h.elim), ((e11.kept hk).moved hW.alike).narrow (fun _ h => h.elim)⟩
theorem jcat8 {F a : Nat} {b : Bool} (h : a + 1 ≤ b.toNat * F) : b = true ∧ a + 1 ≤ F := by
  cases b
  · simp at h
  · exact ⟨rfl, by simpa using h⟩
def jch (w : Nat) (i : Int32) : Int32 := (jbyt.getD w []).getD i.toNatClampNeg 0
def jsw1 (own : String) (i : Nat) : Prop := Cond.methodLink own i yJ0_length_8abf5 ∈ jbig
def jsw2 (own : String) (i : Nat) : Prop := Cond.methodLink own i yJ0_charAt_5068e ∈ jbig
theorem jsh0 : ∀ w, w < 7 → Int32.ofNat (jlen.getD w 0) >>> ((0 : Int32) &&& 31) = Int32.ofNat (jlen.getD w 0) := by decide +kernel
theorem jchv : ∀ w, w < 7 → ∀ j, j < jlen.getD w 0 → ((((jbyt.getD w []).getD j 0) &&& 255).toUInt32 % 65536).toInt32 = (jbyt.getD w []).getD j 0 ∧ narrow .char (.int ((jbyt.getD w []).getD j 0)) = .int ((jbyt.getD w []).getD j 0) := by decide +kernel
theorem jlen9 : ∀ w, w < 7 → jlen.getD w 0 < 100 := by decide
theorem js_slen (hX : jOK X) {i w : Nat} (hw : w < 7) (hl9 : jsw1 (jown X) i) (hd : decode (jcc X) pc = .ok (.invokevirtual i, 3)) (hf : 4 ≤ (Nat.ble (st.map fun v => v.category).sum 8).toNat * (jR X).frames) (hlo : (st.map fun v => v.category).sum + 100 ≤ (jR X).locals) (hc : k ≤ (jR X).cells) (hs : n ≤ (jR X).slots) (K : JW X k n (pc + 3) L (.int (Int32.ofNat (jlen.getD w 0)) :: st) μ) : JW X k n pc L (.ref (1000000 + w) :: st) μ := fun H locs ls hH hl => by
  obtain ⟨hcat, hf⟩ := jcat8 hf
  have hE := hX.2.2.2.2.2.2.2.2.1
  have hS := hH.2.2.1
  refine va_calli (va_runV (g := F0 (jm X) pc ls ((.ref (1000000 + w) :: st).map (jre (jad X)))) (As := []) (rest := st.map (jre (jad X))) (b := jad X (1000000 + w)) (C := "java/lang/String") (index := i) (nL := jnL X) (Ts := jbig) (own := jown X) ⟨hX.1, hX.2.1, hX.2.2.1, hX.2.2.2.1, hX.2.2.2.2.1⟩ (c_len (q := jad X (1000000 + w)) (t := jv X w) (n := jlen.getD w 0) (f := fun j => (jbyt.getD w []).getD j 0) (H0 := H) (jl X) (jsh0 w hw)) (cwV (Ts := jbig) (ws' := jbig) (index := i) 0 hX.2.2.2.2.1 (jgoodS (l := [.methodLink (jown X) i yJ0_length_8abf5, .instanceMethod yJ0_length_8abf5, .selects "java/lang/String" yJ0_length_8abf5 yJ0_length_8abf5, .initialized yJ0_length_8abf5.cls]) wsj_652 (by
      intro w hw
      simp only [List.mem_cons, List.mem_nil_iff, or_false] at hw
      rcases hw with rfl | rfl | rfl | rfl
      · exact hl9
      · exact wsj_650
      · exact wsj_651
      · exact wsj_12)) rfl rfl rfl ⟨rfl, by decide⟩ ⟨by show 1 + 1 ≤ _; omega, by show 8 + (1 + 11) + 20 ≤ _; omega⟩) ⟨fun a U g mk h => ⟨h.1, h.2.1, jSF.moved (u := U) (U := U.calling g mk a) (Vm.Alike.refl U.vm) h.2.2⟩, vk_recv (adK := fun w => jad X (1000000 + w)) (i := w) hE.1 hw hS, fun U hU hW => ⟨rfl, hU, jSF_at hX hH hw hU hW⟩⟩ rfl rfl hl.1 rfl (jstk (Nat.le_of_ble_eq_true hcat)) hd ⟨hc, hs⟩) hS (fun _ _ h => h.elim) (fun _ h => h.elim) (fun r u t2 H1 locs1 ht hvm hw2 hB hz1 hk1 hS1 => ?_)
  have e1 : H1 = H := ht.symm.trans hB
  subst e1
  have e2 : r = Int32.ofNat (jlen.getD w 0) := hw2
  subst e2
  exact K H1 locs1 ls ⟨hH.1, hH.2.1, hS1, hH.2.2.2⟩ hl
theorem js_sch (hX : jOK X) {i w : Nat} {x : Int32} (hw : w < 7) (hl9 : jsw2 (jown X) i) (hin : jin x (jlen.getD w 0) = true) (hd : decode (jcc X) pc = .ok (.invokevirtual i, 3)) (hf : 4 ≤ (Nat.ble (st.map fun v => v.category).sum 8).toNat * (jR X).frames) (hlo : (st.map fun v => v.category).sum + 100 ≤ (jR X).locals) (hc : k ≤ (jR X).cells) (hs : n ≤ (jR X).slots) (K : JW X k n (pc + 3) L (.int (jch w x) :: st) μ) : JW X k n pc L (.int x :: .ref (1000000 + w) :: st) μ := fun H locs ls hH hl => by
  obtain ⟨hcat, hf⟩ := jcat8 hf
  have hE := hX.2.2.2.2.2.2.2.2.1
  have hS := hH.2.2.1
  have hvp := jin_vp hin
  have h0 : ¬ x < 0 := fun h => hvp (Or.inl h)
  have hlt : x.toNatClampNeg < jlen.getD w 0 := Nat.not_le.mp fun h => hvp (Or.inr h)
  have h9 := jlen9 w hw
  have h1 : x < Int32.ofNat (jlen.getD w 0) := by
    have a0 : (0 : Int) ≤ x.toInt := by
      have := Int32.not_lt.mp h0
      simpa using Int32.le_iff_toInt_le.mp this
    have a1 : x.toInt.toNat < jlen.getD w 0 := hlt
    rw [Int32.lt_iff_toInt_lt, Int32.toInt_ofNat_of_lt (by omega)]
    omega
  obtain ⟨v1, v2⟩ := jchv w hw _ hlt
  refine va_calli (va_runV (g := F0 (jm X) pc ls ((.int x :: .ref (1000000 + w) :: st).map (jre (jad X)))) (As := [.int x]) (rest := st.map (jre (jad X))) (b := jad X (1000000 + w)) (C := "java/lang/String") (index := i) (nL := jnL X) (Ts := jbig) (own := jown X) ⟨hX.1, hX.2.1, hX.2.2.1, hX.2.2.2.1, hX.2.2.2.2.1⟩ (c_cha (q := jad X (1000000 + w)) (t := jv X w) (n := jlen.getD w 0) (f := fun j => (jbyt.getD w []).getD j 0) (H0 := H) (v := jch w x) (jl X) hvp h0 h1 v1 v2) (cwV (Ts := jbig) (ws' := jbig) (index := i) 1 hX.2.2.2.2.1 (jgoodS (l := [.methodLink (jown X) i yJ0_charAt_5068e, .instanceMethod yJ0_charAt_5068e, .selects "java/lang/String" yJ0_charAt_5068e yJ0_charAt_5068e, .initialized yJ0_charAt_5068e.cls]) wsj_662 (by
      intro w hw
      simp only [List.mem_cons, List.mem_nil_iff, or_false] at hw
      rcases hw with rfl | rfl | rfl | rfl
      · exact hl9
      · exact wsj_660
      · exact wsj_661
      · exact wsj_12)) rfl rfl rfl ⟨rfl, by decide⟩ ⟨by show 3 + 1 ≤ _; omega, by show 8 + (2 + 11) + 64 ≤ _; omega⟩) ⟨fun a U g mk h => ⟨h.1, h.2.1, jSF.moved (u := U) (U := U.calling g mk a) (Vm.Alike.refl U.vm) h.2.2⟩, vk_recv (adK := fun w => jad X (1000000 + w)) (i := w) hE.1 hw hS, fun U hU hW => ⟨rfl, hU, jSF_at hX hH hw hU hW⟩⟩ rfl rfl hl.1 rfl (jstk (Nat.le_of_ble_eq_true hcat)) hd ⟨hc, hs⟩) hS (fun _ _ h => h.elim) (fun _ h => h.elim) (fun r u t2 H1 locs1 ht hvm hw2 hB hz1 hk1 hS1 => ?_)
  have e1 : H1 = H := ht.symm.trans hB
  subst e1
  have e2 : r = jch w x := hw2
  subst e2
  exact K H1 locs1 ls ⟨hH.1, hH.2.1, hS1, hH.2.2.2⟩ hl
end JSTR2

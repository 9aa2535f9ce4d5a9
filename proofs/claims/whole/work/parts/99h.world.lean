/-! what the Statement gives of the start, in the mini machine's words -/
abbrev jfl : List Cond := flatC (Jvm.Cond.and given_1 narrow_1)
def jtm (i : Nat) : Term := .string RX2 ([60, 66, 68, 70, 72, 74, 76].getD i 0)
set_option maxRecDepth 100000 in
theorem jf_ex : ∀ i, i < 7 → Cond.exactly (jtm i) "java/lang/String" ∈ jfl := by decide +kernel
set_option maxRecDepth 100000 in
theorem jf_co : ∀ i, i < 7 → Cond.eq (.field (jtm i) "java/lang/String" "coder" "B") (.int 0) ∈ jfl := by decide +kernel
set_option maxRecDepth 100000 in
theorem jf_ar : ∀ i, i < 7 → Cond.arrayOf (.field (jtm i) "java/lang/String" "value" "[B") .byte ∈ jfl := by decide +kernel
set_option maxRecDepth 100000 in
theorem jf_le : ∀ i, i < 7 → Cond.eq (.length (.field (jtm i) "java/lang/String" "value" "[B")) (.int (Int32.ofNat (jlen.getD i 0))) ∈ jfl := by decide +kernel
set_option maxRecDepth 100000 in
theorem jf_el : ∀ i, i < 7 → ∀ j, j < jlen.getD i 0 → Cond.eq (.elem (.field (jtm i) "java/lang/String" "value" "[B") (.int (Int32.ofNat j))) (.int ((jbyt.getD i []).getD j 0)) ∈ jfl := by decide +kernel
set_option maxRecDepth 100000 in
theorem jf_ne : ∀ i, i < 7 → ∀ j, j < 7 → i ≠ j → Cond.not (Cond.eq (jtm i) (jtm j)) ∈ jfl ∨ Cond.not (Cond.eq (jtm j) (jtm i)) ∈ jfl := by decide +kernel
set_option maxRecDepth 100000 in
theorem jf_eq : ∀ i, i < 7 → Cond.eq (jtm i) (.string RX6 ([138, 143, 151, 156, 161, 163, 165].getD i 0)) ∈ jfl := by decide +kernel
set_option maxRecDepth 100000 in
theorem jf_nc : ∀ q ∈ jnc, Cond.not (.castable q.1 q.2) ∈ jfl := by decide +kernel
set_option maxRecDepth 100000 in
theorem jf_st : Cond.isRef (.static Bundle.tN "UNASSIGNED_STACK" Bundle.steD) ∈ jfl ∧ Cond.isRef (.static Bundle.tN "SUPPRESSED_SENTINEL" Bundle.listD) ∈ jfl ∧ Cond.eq (.static "java/lang/String" "COMPACT_STRINGS" "Z") (.int 1) ∈ jfl ∧ Cond.isRef (.static "jdk/internal/util/Preconditions" "SIOOBE_FORMATTER" "Ljava/util/function/BiFunction;") ∈ jfl := by decide +kernel
set_option maxRecDepth 100000 in
theorem jt_sr : ∀ q ∈ jstr, Cond.stringRef q.1 q.2.1 q.2.2.1 ∈ lw_tbl := by decide +kernel
set_option maxRecDepth 100000 in
theorem jt_ne : ∀ w ∈ jnest, w ∈ lw_tbl ∧ w.onTables = true := by decide +kernel
set_option maxRecDepth 100000 in
theorem jt_ca : ∀ q ∈ jcast, Cond.castable q.1 q.2 ∈ lw_tbl := by decide +kernel
set_option maxRecDepth 100000 in
theorem jt_dc : ∀ x ∈ jdcl, Cond.declares x ∈ lw_tbl := by decide +kernel
set_option maxRecDepth 100000 in
theorem jt_ao : Cond.arrayOver (.object RX3) ∈ lw_tbl ∧ Cond.arrayOver (.object RX4) ∈ lw_tbl := by decide +kernel
set_option maxRecDepth 100000 in
theorem jt_ls : Cond.laysStatic Bundle.tN "UNASSIGNED_STACK" Bundle.steD ∈ lw_tbl ∧ Cond.laysStatic Bundle.tN "SUPPRESSED_SENTINEL" Bundle.listD ∈ lw_tbl ∧ Cond.laysStatic "java/lang/String" "COMPACT_STRINGS" "Z" ∈ lw_tbl ∧ Cond.laysStatic "jdk/internal/util/Preconditions" "SIOOBE_FORMATTER" "Ljava/util/function/BiFunction;" ∈ lw_tbl ∧ Cond.initialized Bundle.tN ∈ lw_tbl ∧ Cond.initialized "java/lang/String" ∈ lw_tbl ∧ Cond.initialized "jdk/internal/util/Preconditions" ∈ lw_tbl := by decide +kernel
set_option maxRecDepth 100000 in
theorem jt_in : Cond.instantiable RX0 1 ∈ jbig ∧ Cond.instantiable RX1 15 ∈ jbig ∧ Cond.instantiable RX2 10 ∈ jbig ∧ Cond.instantiable RX3 17 ∈ jbig ∧ Cond.instantiable RX4 4 ∈ jbig ∧ Cond.instantiable RX5 7 ∈ jbig ∧ Cond.instantiable RX6 29 ∈ jbig := by decide +kernel
section world
variable {s : State} {args : Array Value}
theorem st_arr {ty : FieldType} (h : (Cond.arrayClass ty).before args s = true) : ∃ cA : ClassId, ArrOfT s cA ty ∧ s.vm.findClass ("[" ++ ty.toString) = some cA := by
  obtain ⟨c, k, comp, h1, h2, h3⟩ := Cond.arrayClass_spec h
  exact ⟨c, fun n z => ⟨fun k h => (by cases h), k, h2, comp, h3⟩, h1⟩
theorem st_arq {C : String} (h : (Cond.arrayOver (.object C)).before args s = true) : ∃ cA : ClassId, ArrOfT s cA (.object C) ∧ va_RA s cA (.object C) := by
  obtain ⟨comp, c, k, h1, h2, h3, h4, h5⟩ := Cond.arrayOver_spec h
  exact ⟨c, fun n z => ⟨fun k h => (by cases h), k, h3, comp, h4⟩, k, comp, h3, h4, h1, h5⟩
theorem st_K (hts : ∀ w ∈ lw_tbl, w.before args s = true) : ∃ (D : va_G) (cA : Nat → ClassId), va_K D vwCl (jty cA) s := by
  have hb : ∀ w ∈ jbig, w.before args s = true := fun w hw => hts w (List.mem_filter.mp hw).1
  obtain ⟨c0, i0, k0⟩ := u_known (C := RX0) (T := TX0) (N := 1) hb (jcl_in 0 RX0 TX0 1 rfl).1 (hb _ jt_in.1)
  obtain ⟨c1, i1, k1⟩ := u_known (C := RX1) (T := TX1) (N := 15) hb (jcl_in 1 RX1 TX1 15 rfl).1 (hb _ jt_in.2.1)
  obtain ⟨c2, i2, k2⟩ := u_known (C := RX2) (T := TX2) (N := 10) hb (jcl_in 2 RX2 TX2 10 rfl).1 (hb _ jt_in.2.2.1)
  obtain ⟨c3, i3, k3⟩ := u_known (C := RX3) (T := TX3) (N := 17) hb (jcl_in 3 RX3 TX3 17 rfl).1 (hb _ jt_in.2.2.2.1)
  obtain ⟨c4, i4, k4⟩ := u_known (C := RX4) (T := TX4) (N := 4) hb (jcl_in 4 RX4 TX4 4 rfl).1 (hb _ jt_in.2.2.2.2.1)
  obtain ⟨c5, i5, k5⟩ := u_known (C := RX5) (T := TX5) (N := 7) hb (jcl_in 5 RX5 TX5 7 rfl).1 (hb _ jt_in.2.2.2.2.2.1)
  obtain ⟨c6, i6, k6⟩ := u_known (C := RX6) (T := TX6) (N := 29) hb (jcl_in 6 RX6 TX6 29 rfl).1 (hb _ jt_in.2.2.2.2.2.2)
  obtain ⟨a0, b0, d0⟩ := st_arr (hb _ ac_int)
  obtain ⟨a1, b1, d1⟩ := st_arr (hb _ ac_long)
  obtain ⟨a2, b2, d2⟩ := st_arr (hb _ ac_byte)
  obtain ⟨a3, b3, d3⟩ := st_arr (hb _ ac_boolean)
  obtain ⟨a4, b4, d4⟩ := st_arq (hts _ jt_ao.1)
  obtain ⟨a5, b5, d5⟩ := st_arq (hts _ jt_ao.2)
  refine ⟨(fun k => if k = 0 then c0 else if k = 1 then c1 else if k = 2 then c2 else if k = 3 then c3 else if k = 4 then c4 else if k = 5 then c5 else c6, fun k => if k = 0 then i0 else if k = 1 then i1 else if k = 2 then i2 else if k = 3 then i3 else if k = 4 then i4 else if k = 5 then i5 else i6), fun k => if k = 0 then a0 else if k = 1 then a1 else if k = 2 then a2 else if k = 3 then a3 else if k = 4 then a4 else a5, ?_, ?_⟩
  · intro k q hq
    match k, hq with
    | 0, hq => cases hq; exact k0
    | 1, hq => cases hq; exact k1
    | 2, hq => cases hq; exact k2
    | 3, hq => cases hq; exact k3
    | 4, hq => cases hq; exact k4
    | 5, hq => cases hq; exact k5
    | 6, hq => cases hq; exact k6
    | k + 7, hq => simp [vwCl] at hq
  · intro k q hq
    match k, hq with
    | 0, hq => cases hq; exact ⟨b0, d0⟩
    | 1, hq => cases hq; exact ⟨b1, d1⟩
    | 2, hq => cases hq; exact ⟨b2, d2⟩
    | 3, hq => cases hq; exact ⟨b3, d3⟩
    | 4, hq => cases hq; exact ⟨b4, d4⟩
    | 5, hq => cases hq; exact ⟨b5, d5⟩
    | k + 6, hq => simp [jty] at hq
theorem st_E (hts : ∀ w ∈ lw_tbl, w.before args s = true) (hgv : (Jvm.Cond.and given_1 narrow_1).before args s = true) {A : Nat → Prop} (hA : ∀ a : Nat, a < s.heap.size → ¬ A a) (b : Nat) : ∃ ad adV : Nat → Nat, (∀ k, k < 1000000 → ad k = s.heap.size + k) ∧ ad 2000000 = b ∧ jE ad adV A s s.heap := by
  have hs := flat_of_before _ hgv
  obtain ⟨adK, adV, hS, hev⟩ := vk_Sof (args := args) (s := s) (N := 7) (tm := jtm) (len := jlen) (byt := jbyt) (A := A) (by decide) (fun i hi => hs _ (jf_ex i hi)) (fun i hi => hs _ (jf_co i hi)) (fun i hi => hs _ (jf_ar i hi)) (fun i hi => hs _ (jf_le i hi)) (fun i hi j hj => hs _ (jf_el i hi j hj)) (fun i j hi hj hij => (jf_ne i hi j hj hij).imp (fun h => hs _ h) (fun h => hs _ h)) hA
  let ad2 : Nat → Nat := fun i => if i = 1000000 then b else adK i
  have e2 : ∀ i, i < 7 → ad2 i = adK i := fun i hi => if_neg (by omega)
  have hS2 : vk_S 7 jlen jbyt ad2 adV A s s.heap := by
    refine ⟨fun i hi => ?_, fun i j hi hj he => ?_⟩
    · rw [e2 i hi]; exact hS.1 i hi
    · rw [e2 i hi, e2 j hj] at he
      exact hS.2 i j hi hj he
  let ad : Nat → Nat := fun k => if k < 1000000 then s.heap.size + k else ad2 (k - 1000000)
  have ea : ∀ w, ad (1000000 + w) = ad2 w := fun w => by
    show (if 1000000 + w < 1000000 then _ else ad2 (1000000 + w - 1000000)) = _
    rw [if_neg (by omega), Nat.add_sub_cancel_left]
  have eb : (fun w => ad (1000000 + w)) = ad2 := funext ea
  refine ⟨ad, adV, fun k hk => if_pos hk, ?_, ?_⟩
  · show ad (1000000 + 1000000) = b
    rw [ea]
    exact if_pos rfl
  · obtain ⟨l1, l2, l3, l4, l5, l6, l7⟩ := jt_ls
    obtain ⟨f1, f2, f3, f4⟩ := jf_st
    refine ⟨by rw [eb]; exact hS2, vx_Zqof (hts _ l1) (hts _ l5) (hs _ f1) hA, vx_Zqof (hts _ l2) (hts _ l5) (hs _ f2) hA, fun w hw => va_Nw.of (jt_ne w hw).2 (hts _ (jt_ne w hw).1), ?_, va_AO.of (hts _ jt_ao.1), va_AO.of (hts _ jt_ao.2), fun q hq => va_Nw.of rfl (hts _ (jt_ca q hq)), fun q hq => va_Nc.of (hs _ (jf_nc q hq)), va_Zof (hts _ l3) (hts _ l6) (va_eqi (hs _ f3)) hA, va_Zqof (hts _ l4) (hts _ l7) (hs _ f4) hA, fun x hx => va_Nw.of rfl (hts _ (jt_dc x hx))⟩
    intro q hq
    have h1 := hts _ (jt_sr q hq)
    refine vk_R.of (A := args) h1 ?_
    rw [ea]
    have hR : ∀ w, w < 7 → (Term.string RX2 ([60, 66, 68, 70, 72, 74, 76].getD w 0)).eval args s none [] s = some (.ref (ad2 w)) := fun w hw => by rw [e2 w hw]; exact hev w hw
    have hM : ∀ w, w < 7 → (Term.string RX6 ([138, 143, 151, 156, 161, 163, 165].getD w 0)).eval args s none [] s = some (.ref (ad2 w)) := fun w hw => va_eqR (hs _ (jf_eq w hw)) (hR w hw)
    simp only [jstr, List.mem_cons, List.mem_nil_iff, or_false] at hq
    rcases hq with rfl | rfl | rfl | rfl | rfl | rfl | rfl | rfl | rfl | rfl | rfl | rfl | rfl | rfl
    · exact hR 0 (by decide)
    · exact hR 1 (by decide)
    · exact hR 2 (by decide)
    · exact hR 3 (by decide)
    · exact hR 4 (by decide)
    · exact hR 5 (by decide)
    · exact hR 6 (by decide)
    · exact hM 0 (by decide)
    · exact hM 1 (by decide)
    · exact hM 2 (by decide)
    · exact hM 3 (by decide)
    · exact hM 4 (by decide)
    · exact hM 5 (by decide)
    · exact hM 6 (by decide)
end world

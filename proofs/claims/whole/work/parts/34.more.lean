/-! constructors' calls; methods with handlers; catching; new numbers for old cells -/
section J13
variable {X : jX} {k n pc : Nat} {L : List (Option Value)} {st : List Value} {μ ν : jH} {e : List Nat}
theorem jmet_of {l : Launch} {y : MethodName} {ws : List Cond} {rm : Room} {Pc : Array Value → State → Prop} {Qc : Array Value → State → Outcome → State → Prop} {XC : String → State → State → Prop} {mc ms : Nat} {free : Addr → Prop} (hx : ∀ E st t, ¬ XC E st t) (h : vx_Met l y ws rm Pc Qc XC mc ms free) : Met l y ws rm Pc Qc mc ms free := by
  intro p e h1 h2 h3 s m args below h4 h5 h6 h7
  obtain ⟨n, o, a1, a2, a3, a4⟩ := h p e h1 h2 h3 s m args below h4 h5 h6 h7
  refine ⟨n, o, a1, a2, a3, ?_⟩
  rcases a4 with a4 | ⟨q, -, E, ce, L, b1, -⟩
  · exact a4
  · exact absurd b1 (hx _ _ _)
theorem jrun_of {p : Program} {l : Launch} {e : Env} {R : Room} {s : State} {m : MethodId} {args : Array Value} {below : List Frame} {meth : Method} {c : Code} {H : Heap} {locs : List Loc} {cells slots mc ms : Nat} {g : JFrame} {rest : List Value} {Qa : State → Outcome → State → Prop} {XC : String → State → State → Prop} {free : Addr → Prop} (h : va_Run p l e R s m args below meth c H locs cells slots mc ms g rest Qa free) : vx_Run p l e R s m args below meth c H locs cells slots mc ms g rest Qa XC free := fun T hT Y => Or.inl (h T hT Y)
/-- invokespecial of a constructor; hnm: its link, plain or of a nest mate -/
theorem JW.callI (hX : jOK X) {y : MethodName} {b : ByteArray} {nl na i : Nat} {rm : Room} {bu : Nat} {As : List Value} {po : Option Value → jH → Prop} (hM : jMet (jVX X) y (jws y b nl none) rm true bu (.ref 0 :: As) ν po (fun _ _ => False)) (hcw : jcw X e ν μ bu)
    (hln : Cond.methodLink (jown X) i y ∈ jbig ∨ ∃ host, Cond.methodLinkNest (jown X) i y host ∈ jnest) (hcode : Cond.code y b nl none ∈ jbig) (hini : Cond.initialized y.cls ∈ jbig) (hdd : y.cls ≠ "java/lang/invoke/MethodHandle" ∧ y.cls ≠ "java/lang/invoke/VarHandle" ∧ (parseMethodDescriptor y.desc).map (fun d => d.parameters.length) = some na) (hyn : y.name = "<init>") (hyi : Cond.instanceMethod y ∈ jbig)
    (hna : As.length = na) (hrm : jrm (jR X) rm nl k n) (hcat : (st.map fun v => v.category).sum ≤ 8) (hd : decode (jcc X) pc = .ok (.invokespecial i, 3))
    {st0 : List Value} (hst : st0 = (As.map (jre (jrn e μ.length))).reverse ++ .ref (jrn e μ.length 0) :: st)
    (hpo : ∀ o ν2, po o ν2 → ν.length ≤ ν2.length ∧ ν2.length < ν.length + bu)
    (K : ∀ o ν2, po o ν2 → JW X (k + rm.cells) (n + rm.slots) (pc + 3) L ((o.map (jre (jrn e μ.length))).toList ++ st) (jback e ν2 μ)) : JW X k n pc L st0 μ := fun H locs ls hH hl => by
  obtain ⟨hs, hn, hei, hb, hb6⟩ := hcw
  subst hst
  have hM9 := jmet_of (fun E st t h => by obtain ⟨_, h, -⟩ := h; exact h) (hM (jac X e μ.length) H.size (jac_fut hH hs hb hb6))
  have hG : GoodIn jbig (jws y b nl none) := jgood (X := X) (l := []) hcode (fun w hw => by cases hw)
  have hst9 : ((As.map (jre (jrn e μ.length))).reverse ++ .ref (jrn e μ.length 0) :: st).map (jre (jad X)) = (As.map (jre (jac X e μ.length))).reverse ++ .ref (jac X e μ.length 0) :: st.map (jre (jad X)) := by
    rw [List.map_append, List.map_reverse, jargs, List.map_cons]
    rfl
  have hPc : PreS (js X) H (jPc (jVX X) (jac X e μ.length) (.ref 0 :: As) ν H.size) (.ref (jac X e μ.length 0) :: As.map (jre (jac X e μ.length))) := ⟨jPc_blind _ _ _ _ _, fun U hU hW => jPc_at hX hH hs hn (by omega) (As := .ref 0 :: As) U hU hW⟩
  have hr : va_Run (jp X) (jl X) (je X) (jR X) (js X) (jm X) (ja X) (jb X) (jme X) (jcd X) H locs k n rm.cells rm.slots (F0 (jm X) pc ls (((As.map (jre (jrn e μ.length))).reverse ++ .ref (jrn e μ.length 0) :: st).map (jre (jad X)))) (st.map (jre (jad X))) (jQc (jD X) (jcA X) (jac X e μ.length) (va_A (jpl (jac X e μ.length) (jcA X) ν) H.size) true (ν.length + bu) po (Value.ref (jac X e μ.length 0) :: As.map (jre (jac X e μ.length))).toArray) (va_A (jpl (jac X e μ.length) (jcA X) ν) H.size) := by
    rcases hln with hln | ⟨host, hln⟩
    · exact va_runI (Ts := jbig) (As := As.map (jre (jac X e μ.length))) (b := jac X e μ.length 0) (own := jown X) (index := i) (n := na) (nL := jnL X) ⟨hX.1, hX.2.1, hX.2.2.1, hX.2.2.2.1, hX.2.2.2.2.1⟩ hM9
        (cwI na hX.2.2.2.2.1 hG rfl rfl rfl (hX.2.2.2.2.1 _ hini) (hX.2.2.2.2.1 _ hln) (hX.2.2.2.2.1 _ hyi) hyn hdd ⟨hrm.1, hrm.2.1⟩) hPc rfl (by rw [List.length_map]; exact hna) hl.1 hst9 (jstk hcat) hd ⟨hrm.2.2.1, hrm.2.2.2⟩
    · exact va_runIN (Ts := jbig) (As := As.map (jre (jac X e μ.length))) (b := jac X e μ.length 0) (own := jown X) (index := i) (n := na) (nL := jnL X) (host := host) ⟨hX.1, hX.2.1, hX.2.2.1, hX.2.2.2.1, hX.2.2.2.2.1⟩ hM9
        ⟨va_cnB na hX.2.2.2.2.1 hG rfl rfl rfl (hX.2.2.2.2.2.2.2.2.1.2.2.2.1 _ hln) (hX.2.2.2.2.1 _ hini) hdd ⟨hrm.1, hrm.2.1⟩, hyn, hX.2.2.2.2.1 _ hyi⟩ hPc rfl (by rw [List.length_map]; exact hna) hl.1 hst9 (jstk hcat) hd ⟨hrm.2.2.1, hrm.2.2.2⟩
  exact jcall_core (sf := true) (px := fun _ _ => False) hX hH hl hs hn hei hb hb6 hpo (fun _ _ h => h.elim) (jrun_of hr) K (fun _ _ h => h.elim)
/-- a static method with handlers -/
theorem JW.callH (hX : jOK X) {y : MethodName} {b : ByteArray} {nl na i : Nat} {r : Option FieldType} {hh : List (Nat × Nat × Nat × Nat)} {rm : Room} {sf : Bool} {bu : Nat} {As : List Value} {po : Option Value → jH → Prop} (hM : jMet (jVX X) y (jwsH y b nl r hh) rm sf bu As ν po (fun _ _ => False)) (hcw : jcw X e ν μ bu) (hl9 : Cond.methodLink (jown X) i y ∈ jbig) (hcode : Cond.codeWith y b nl r hh ∈ jbig) (hini : Cond.initialized y.cls ∈ jbig) (hdd : y.cls ≠ "java/lang/invoke/MethodHandle" ∧ y.cls ≠ "java/lang/invoke/VarHandle" ∧ (parseMethodDescriptor y.desc).map (fun d => d.parameters.length) = some na) (hyi : Cond.static y ∈ jbig)
    (hna : As.length = na) (hrm : jrm (jR X) rm nl k n) (hcat : (st.map fun v => v.category).sum ≤ 8) (hd : decode (jcc X) pc = .ok (.invokestatic i, 3))
    {st0 : List Value} (hst : st0 = (As.map (jre (jrn e μ.length))).reverse ++ st)
    (hpo : ∀ o ν2, po o ν2 → ν.length ≤ ν2.length ∧ ν2.length < ν.length + bu)
    (K : ∀ o ν2, po o ν2 → JW (jsf sf X) (k + rm.cells) (n + rm.slots) (pc + 3) L ((o.map (jre (jrn e μ.length))).toList ++ st) (jback e ν2 μ)) : JW X k n pc L st0 μ := fun H locs ls hH hl => by
  obtain ⟨hs, hn, hei, hb, hb6⟩ := hcw
  subst hst
  have hM9 := hM (jac X e μ.length) H.size (jac_fut hH hs hb hb6)
  have hr := vx_runSX (g := F0 (jm X) pc ls (((As.map (jre (jrn e μ.length))).reverse ++ st).map (jre (jad X)))) (As := As.map (jre (jac X e μ.length))) (rest := st.map (jre (jad X))) (cells := k) (slots := n) (locs := locs) (e := je X) (R := jR X) (below := jb X) (meth := jme X) (n := na) (H := H) (index := i) (own := jown X) (args := ja X) (Ts := jbig) (nL := jnL X) (cc := jcc X) (p := jp X) (s := js X) (m := jm X) (c := jcd X) ⟨hX.1, hX.2.1, hX.2.2.1, hX.2.2.2.1, hX.2.2.2.2.1⟩ hM9
    (vx_cwSW (Ts := jbig) (ws' := jbig) (index := i) na hX.2.2.2.2.1 (jgood (X := X) (l := [.methodLink (jown X) i y, .static y, .initialized y.cls]) hcode (by
      intro w hw
      simp only [List.mem_cons, List.mem_nil_iff, or_false] at hw
      rcases hw with rfl | rfl | rfl
      · exact hl9
      · exact hyi
      · exact hini)) rfl rfl rfl hdd ⟨hrm.1, hrm.2.1⟩)
    ⟨jPc_blind _ _ _ _ _, fun U hU hW => jPc_at hX hH hs hn (by omega) (As := As) U hU hW⟩ rfl (by rw [List.length_map]; exact hna) hl.1 (by
      show List.map _ _ = _
      rw [List.map_append, List.map_reverse, jargs]) (jstk hcat) hd ⟨hrm.2.2.1, hrm.2.2.2⟩
  exact jcall_core hX hH hl hs hn hei hb hb6 hpo (fun _ _ h => h.elim) hr K (fun _ _ h => h.elim)
/-- caught, and answered at once with a number -/
theorem JX.hret (hX : jOK X) {sf : Bool} {B : Nat} {po : Option Value → jH → Prop} {px : String → jH → Prop} (hp : jPost X sf B po px) (hsf : sf = false) (hrt : jrt X = some .int) {E : String} (hh : List (Nat × Nat × Nat × Nat)) (htab : (jcd X).exceptionTable.toList = tableOf hh) (pre : List ExceptionTableEntry) (x : ExceptionTableEntry) (suf : List ExceptionTableEntry) (hsplit : tableOf hh = pre ++ x :: suf)
    (hpass : ∀ z ∈ pre, z.catchType ≠ 0 ∧ ∃ nm : String, Cond.classLink (jown X) z.catchType nm ∈ jbig ∧ (E, nm) ∈ jnc) (hx : covers x pc = true) (h0 : x.catchType ≠ 0) (hlink : Cond.classLink (jown X) x.catchType E ∈ jbig) (hcast : (E, E) ∈ jcast)
    {i : Nat} (hi : i < jnL X) {c : Int} {p2 : Nat} (hd1 : (∃ j : Fin 4, (j : Nat) = i ∧ decode (jcc X) x.handlerPc = .ok (.astore_n j, 1) ∧ p2 = x.handlerPc + 1) ∨ (decode (jcc X) x.handlerPc = .ok (.astore i, 2) ∧ p2 = x.handlerPc + 2)) (hd2 : decode (jcc X) p2 = .ok (.iconst c, 1)) (hd3 : decode (jcc X) (p2 + 1) = .ok (.ireturn, 1)) (hk : k ≤ jmc X) (hn : n ≤ jms X) (h : po (some (.int (Int32.ofInt c))) μ) : JX X k n pc L st E μ := fun H locs ls q ce hH hl h1 h2 h3 => by
  have hE := hX.2.2.2.2.2.2.2.2.1
  refine vx_catch (name := E) hX.2.2.2.1 pre x suf (htab.trans hsplit) (fun z hz => Or.inr ?_) hx h0 (hX.2.2.2.2.1 _ hlink) (va_Nw.use rfl (hE.2.2.2.2.2.2.2.1 (E, E) hcast)) h1 h2 h3 ?_
  · obtain ⟨g1, nm, g2, g3⟩ := hpass z hz
    exact ⟨g1, nm, hX.2.2.2.2.1 _ g2, hE.2.2.2.2.2.2.2.2.1 (E, nm) g3⟩
  have fin : ∀ ls : Array Slot, jW X H locs k n (F0 (jm X) p2 ls []) := by
    intro ls
    refine lv_iconst hX.1 hX.2.1 hd2 rfl ?_
    show W _ _ _ _ _ _ _ _ _ _ _ _ _ _ (jQ X) _
    rw [hp.1]
    refine vx_ret (W.widen hk hn ?_)
    exact W.iret hX.1 hX.2.1 (hX.2.2.2.2.2.2.2.2.2.2.2.2.1.trans hrt) (fun t ht hW => ⟨some (.int (Int32.ofInt c)), μ, h, rfl, by rw [ht]; exact hH.1, hH.2.1, hH.2.2.1.F ht, fun z => by rw [hsf] at z; cases z⟩) hH.2.2.1.2.2 hd3 hX.2.2.2.2.2.2.2.1
  rcases hd1 with ⟨j, hj, hd1, e9⟩ | ⟨hd1, e9⟩
  · exact lv_astore_n hX.1 hX.2.1 hd1 hj hl.has hi rfl (fun ls' h' => by rw [← e9]; exact fin ls')
  · exact lv_astore hX.1 hX.2.1 hd1 hl.has hi rfl (fun ls' h' => by rw [← e9]; exact fin ls')
/-- a contract out of a walk, of a method with handlers -/
theorem jMet.introH {V : jV} {y : MethodName} {b : ByteArray} {nl : Nat} {r : Option FieldType} {hh : List (Nat × Nat × Nat × Nat)} {rm : Room} {sf : Bool} {bu : Nat} {As : List Value} {ν : jH} {po : Option Value → jH → Prop} {px : String → jH → Prop} {tb : jT} (hst : V.1.stackTraces = false) (hy : plainName y.cls = true) (htb : jtOK y.cls tb) (htb5 : tb.2.2.2.2 = none) (hsl : (lg_sl As).length ≤ nl)
    (body : ∀ X : jX, jOK X → jVX X = V → jcc X = b → jown X = y.cls → jTN X tb nl → jR X = rm → jmc X = rm.cells ∧ jms X = rm.slots → jrt X = r → jal X = ν.length + bu → jPost X sf (ν.length + bu) po px → (jcd X).exceptionTable.toList = tableOf hh → JW X 0 0 0 (jl0 nl As) [] ν) : jMet V y (jwsH y b nl r hh) rm sf bu As ν po px := by
  intro ad sz hfu
  refine vx_ofWH (cc := b) (maxL := nl) (ret := r) (hh := hh) (ws' := jbig) hy rfl ?_
  intro p e s m args below meth c s₁ B hml hPc
  obtain ⟨rfl, rfl, hP, hD, hK, hE⟩ := hPc
  have hts := atoms_spec (ws := jwsH y b nl r hh) B.pre
  have hown : s.vm.findClass y.cls = some m.cls := findClass_of_methodNamed B.named
  have htab : c.exceptionTable.toList = tableOf hh := vx_table (x := y) B (hts _ List.mem_cons_self)
  have h9 := body ((p, V.1, e, (headSpec (jwsH y b nl r hh) rm).room, s, m, (As.map (jre ad)).toArray, below, meth, c), (V.2.1, V.2.2.1, ad, V.2.2.2, va_A (jpl ad V.2.2.1 ν) s.heap.size), (y.cls, b, nl, rm.cells, rm.slots, ν.length + bu, r, vx_MQ below (jQc V.2.1 V.2.2.1 ad (va_A (jpl ad V.2.2.1 ν) s.heap.size) sf (ν.length + bu) po) (jXC V.2.1 V.2.2.1 ad (va_A (jpl ad V.2.2.1 ν) s.heap.size) px) (As.map (jre ad)).toArray s rm.cells rm.slots (va_A (jpl ad V.2.2.1 ν) s.heap.size), tb))
    ⟨B.exec, B.bytes, hml, hown, fun w hw => hts w (List.mem_cons_of_mem _ hw), hK, fun q h => Or.inr h, B.notSynchronized, hE, hst, Nat.le_refl _, Nat.le_refl _, B.returns, htb, fun z hz => by have hz2 : tb.2.2.2.2 = some z := hz; rw [htb5] at hz2; cases hz2⟩
    rfl rfl rfl ⟨rfl, rfl⟩ rfl ⟨rfl, rfl⟩ rfl rfl ⟨rfl, fun _ => Nat.le_refl _⟩ htab
  rw [lg_entry_eq]
  have hlen : (lg_sl (As.map (jre ad))).length = (lg_sl As).length := by
    simp only [lg_sl, List.length_flatMap, List.map_map]
    congr 1
    refine List.map_congr_left fun v _ => ?_
    simp only [Function.comp, jre_cat]
    split <;> rfl
  have hla : ∀ (As : List Value) (i : Nat), lv_args i (As.map (jre ad)) = (lv_args i As).map (fun q => (q.1, jre ad q.2)) := by
    intro As
    induction As with
    | nil => intro i; rfl
    | cons v l ih =>
      intro i
      simp only [List.map_cons, lv_args, jre_cat, ih]
  have hl := lv_entry (As.map (jre ad)) (n := nl) (by rw [hlen]; exact hsl)
  refine h9 s.heap [] _ ⟨hP, hD.self, va_S.rf, hfu⟩ ⟨hl.1, hl.2.1, fun i v hi => ?_⟩
  refine hl.2.2 (i, jre ad v) ?_
  rw [hla]
  refine List.mem_map.mpr ⟨(i, v), ?_, rfl⟩
  have := jl0_mem nl As 0 i v hi
  rwa [Nat.zero_add] at this
/-! new numbers -/
/-- the same activation with other addresses for what is not yet there -/
def jxa (X : jX) (ad : Nat → Nat) (al : Nat) : jX := (X.1, (X.2.1.1, X.2.1.2.1, ad, X.2.1.2.2.2.1, X.2.1.2.2.2.2), (X.2.2.1, X.2.2.2.1, X.2.2.2.2.1, X.2.2.2.2.2.1, X.2.2.2.2.2.2.1, al, X.2.2.2.2.2.2.2.2))
def jcv (m : Nat) (v : Value) : Bool := match v with
  | .ref j => decide (j < m) || decide (1000000 ≤ j)
  | _ => true
def jcc1 (m : Nat) (c : jc) : Bool := match c with
  | .inl _ => true
  | .inr (.inl _) => true
  | .inr (.inr (.inl (_, fs))) => fs.all (jcv m)
  | .inr (.inr (.inr (_, rs))) => rs.all (fun o => match o with
    | some j => decide (j < m)
    | none => true)
theorem jcv_re {m : Nat} {f g : Nat → Nat} (hfg : ∀ j, (j < m ∨ 1000000 ≤ j) → f j = g j) {v : Value} (h : jcv m v = true) : jre f v = jre g v := by
  cases v with
  | ref j =>
    simp only [jcv, Bool.or_eq_true, decide_eq_true_eq] at h
    simp only [jre, hfg j h]
  | _ => rfl
theorem jcc1_rE {m : Nat} {f g : Nat → Nat} (hfg : ∀ j, (j < m ∨ 1000000 ≤ j) → f j = g j) {cA : Nat → ClassId} {c : jc} (h : jcc1 m c = true) : jrE f cA c = jrE g cA c := by
  rcases c with ⟨t, n, x⟩ | ⟨n, x⟩ | ⟨ci, fs⟩ | ⟨t, rs⟩
  · rfl
  · rfl
  · simp only [jcc1, List.all_eq_true] at h
    simp only [jrE]
    congr 2
    exact List.map_congr_left fun v hv => jcv_re hfg (h v hv)
  · simp only [jcc1, List.all_eq_true] at h
    have e : rs.map (Option.map f) = rs.map (Option.map g) := List.map_congr_left fun o ho => by
      cases o with
      | none => rfl
      | some j =>
        have := h _ ho
        simp only [decide_eq_true_eq] at this
        simp only [Option.map_some, hfg j (Or.inl this)]
    simp only [jrE, e]
theorem JW.rebase (hX : jOK X) (bu : Nat) (hm : μ.length + bu ≤ 1000000) (hμ : μ.all (jcc1 μ.length) = true) (hL : L.all (fun o => match o with
    | some v => jcv μ.length v
    | none => true) = true) (hst : st.all (jcv μ.length) = true) (K : ∀ ad : Nat → Nat, jOK (jxa X ad (μ.length + bu)) → JW (jxa X ad (μ.length + bu)) k n pc L st μ) : JW X k n pc L st μ := fun H locs ls hH hl => by
  have hfg : ∀ j, (j < μ.length ∨ 1000000 ≤ j) → (fun j => if j < μ.length ∨ 1000000 ≤ j then jad X j else H.size + (j - μ.length)) j = jad X j := fun j hj => by
    dsimp only
    rw [if_pos hj]
  generalize hA : (fun j => if j < μ.length ∨ 1000000 ≤ j then jad X j else H.size + (j - μ.length)) = ad at hfg
  have hpl : jpl ad (jcA X) μ = jpl (jad X) (jcA X) μ := by
    apply List.ext_getElem?
    intro i
    rw [jpl_get, jpl_get]
    cases hc : μ[i]? with
    | none => rfl
    | some c =>
      have hlt : i < μ.length := (List.getElem?_eq_some_iff.mp hc).1
      simp only [Option.map_some]
      rw [hfg i (Or.inl hlt), jcc1_rE hfg (List.all_eq_true.mp hμ c (List.mem_of_getElem? hc))]
  have hfut : jfut ad μ.length H.size (μ.length + bu) := by
    intro j h1 h2
    rw [← hA]
    dsimp only
    rw [if_neg (by omega)]
  have hX9 : jOK (jxa X ad (μ.length + bu)) := by
    obtain ⟨x1, x2, x3, x4, x5, x6, x7, x8, x9, x10, x11, x12, x13, x14, x15⟩ := hX
    have hs : ∀ w : Nat, ad (1000000 + w) = jad X (1000000 + w) := fun w => hfg _ (Or.inr (by omega))
    refine ⟨x1, x2, x3, x4, x5, x6, x7, x8, ?_, x10, x11, x12, x13, x14, fun z hz => ?_⟩
    · obtain ⟨a1, a2, a3, a4, a5, a6⟩ := x9
      refine ⟨?_, a2, a3, a4, fun q hq => ?_, a6⟩
      · show vk_S 7 jlen jbyt (fun w => ad (1000000 + w)) _ _ _ _
        rw [funext hs]
        exact a1
      · show vk_R _ _ _ (ad (1000000 + _)) _
        rw [hs]
        exact a5 q hq
    · have := x15 z hz
      have h2 : ad 2000000 = jad X 2000000 := hfg _ (Or.inr (by omega))
      show va_X (ad 2000000) _ _ _ _ ∧ ad 2000000 < _ ∧ ¬ jA X (ad 2000000)
      rw [h2]
      exact this
  have h9 := K ad hX9 H locs ls ⟨by show va_P _ _ (jpl ad (jcA X) μ) _; rw [hpl]; exact hH.1, by show va_D _ (jpl ad (jcA X) μ); rw [hpl]; exact hH.2.1, hH.2.2.1, hfut⟩ ⟨hl.1, hl.2.1, fun i v hi => by
    have h1 := List.all_eq_true.mp hL _ (List.mem_of_getElem? hi)
    show ls[i]? = some (.val (jre ad v))
    rw [jcv_re hfg h1]
    exact hl.2.2 i v hi⟩
  have e9 : st.map (jre ad) = st.map (jre (jad X)) := List.map_congr_left fun v hv => jcv_re hfg (List.all_eq_true.mp hst v hv)
  have h8 : jW X H locs k n (F0 (jm X) pc ls (st.map (jre ad))) := h9
  rw [e9] at h8
  exact h8
theorem JW.widen {k2 n2 : Nat} (h1 : k ≤ k2) (h2 : n ≤ n2) (K : JW X k2 n2 pc L st μ) : JW X k n pc L st μ := fun H locs ls hH hl => W.widen h1 h2 (K H locs ls hH hl)
end J13

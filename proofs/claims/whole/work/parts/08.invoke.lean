section JC8
variable {X : jX} {k n pc : Nat} {L : List (Option Value)} {st : List Value} {μ ν : jH} {e : List Nat}
theorem jPc_blind (V : jV) (ad : Nat → Nat) (As : List Value) (μ : jH) (sz : Nat) : FrameBlind (jPc V ad As μ sz) := by
  intro a U g mk h
  obtain ⟨h0, h1, h2, h3, h4, h5⟩ := h
  exact ⟨h0, h1, h2, h3, va_K.moved (u := U) (U := U.calling g mk a) (Vm.Alike.refl U.vm) h4, jE.same (u := U) (U := U.calling g mk a) rfl h5⟩
theorem jPc_at {H : Heap} {locs : List Loc} (hX : jOK X) (hH : jHP X μ H locs) (hs : jsub e ν μ) (hn : va_nd e = true) (he : e.length ≤ 1000000) {As : List Value} (U : State) (hU : U.heap = H) (hW : (js X).WarmedH U.vm) : jPc (jVX X) (jac X e μ.length) As ν H.size (As.map (jre (jac X e μ.length))).toArray U := by
  refine ⟨rfl, by rw [hU], by rw [hU]; exact jac_P hH hs, (jac_D hH hs hn).weaken (fun _ _ _ _ => trivial), va_K.moved hW.alike hX.2.2.2.2.2.1, ?_⟩
  rw [hU]
  have h9 := jE.warm hW hH.2.2.1 (jac_free hX hH hs) hX.2.2.2.2.2.2.2.2.1
  have e9 : ∀ w : Nat, jac X e μ.length (1000000 + w) = jad X (1000000 + w) := by
    intro w
    simp only [jac, jrn]
    rw [if_neg (by omega), if_neg (by omega)]
  obtain ⟨a1, a2, a3, a4, a5, a6⟩ := h9
  refine ⟨?_, a2, a3, a4, fun q hq => by rw [e9]; exact a5 q hq, a6⟩
  have e8 : (fun w => jac X e μ.length (1000000 + w)) = fun w => jad X (1000000 + w) := funext fun w => e9 w
  rw [e8]
  exact a1
def jsf : Bool → jX → jX
  | true, X => X
  | false, X => jof X
theorem jcall_core (hX : jOK X) {H : Heap} {locs : List Loc} {ls : Array Slot} (hH : jHP X μ H locs) (hl : jlo (jad X) (jnL X) L ls) (hs : jsub e ν μ) (hn : va_nd e = true) (hei : ∀ i ∈ e, i < μ.length) {bu : Nat} (hb : μ.length + bu ≤ jal X) (hb6 : e.length + bu ≤ 1000000) {sf : Bool} {po : Option Value → jH → Prop} {px : String → jH → Prop} {mc ms : Nat} {st0 : List Value} {As : Array Value}
    (hpo : ∀ o ν2, po o ν2 → ν.length ≤ ν2.length ∧ ν2.length < ν.length + bu) (hpx : ∀ E ν2, px E ν2 → ν.length ≤ ν2.length ∧ ν2.length < ν.length + bu)
    (hr : vx_Run (jp X) (jl X) (je X) (jR X) (js X) (jm X) (ja X) (jb X) (jme X) (jcd X) H locs k n mc ms (F0 (jm X) pc ls st0) (st.map (jre (jad X))) (jQc (jD X) (jcA X) (jac X e μ.length) (va_A (jpl (jac X e μ.length) (jcA X) ν) H.size) sf (ν.length + bu) po As) (jXC (jD X) (jcA X) (jac X e μ.length) (va_A (jpl (jac X e μ.length) (jcA X) ν) H.size) px) (va_A (jpl (jac X e μ.length) (jcA X) ν) H.size))
    (K : ∀ o ν2, po o ν2 → JW (jsf sf X) (k + mc) (n + ms) (pc + 3) L ((o.map (jre (jrn e μ.length))).toList ++ st) (jback e ν2 μ))
    (KX : ∀ E ν2, px E ν2 → JX (jof X) (k + mc) (n + ms) pc L st E (jback e ν2 μ)) : jW X H locs k n (F0 (jm X) pc ls st0) := by
  have hA := jac_free hX hH hs
  intro T hT Y
  rcases hr T hT Y with ⟨v, st₀, t, T', L9, h0, X', hL, e1, e2, ⟨o, ν2, hpo1, ho, hP1, hD1, hF, hfu⟩, go⟩ | ⟨q, st₀, t, T', L9, E, ce, h0, X', hL, e1, e2, ⟨ν2, hpx1, hP1, hD1, hF⟩, hce, hcv, hcl, go⟩
  · obtain ⟨k1, k2, k3⟩ := vx_keep h0 e1 hH.2.2.1 (fun q _ h => hA q h) hA hL hF
    have hv : v = o.map (jre (jac X e μ.length)) := by cases ho; rfl
    obtain ⟨p1, p2⟩ := hpo o ν2 hpo1
    rw [← e1] at hP1 hfu
    obtain ⟨g1, g2, g3⟩ := jac_back hX hH hs hn hb hb6 p1 p2 hei k2 hP1 hD1 k3 hfu
    have hst : v.toList ++ st.map (jre (jad X)) = ((o.map (jre (jrn e μ.length))).toList ++ st).map (jre (jad X)) := by
      rw [hv, List.map_append]
      congr 1
      cases o with
      | none => rfl
      | some w => simp only [Option.map_some, Option.toList_some, List.map_cons, List.map_nil, jre_jre]; rfl
    have hK := K o ν2 hpo1
    have hW : jW X T'.heap (locs ++ L9) (k + mc) (n + ms) (F0 (jm X) (pc + 3) ls (((o.map (jre (jrn e μ.length))).toList ++ st).map (jre (jad X)))) := by
      cases sf with
      | true => exact hK T'.heap (locs ++ L9) ls ⟨g1, g2, k3, g3 rfl⟩ hl
      | false => exact hK T'.heap (locs ++ L9) ls ⟨g1, g2, k3, fun j _ h => absurd h (Nat.not_lt_zero j)⟩ hl
    rw [← hst] at hW
    obtain ⟨t2, a1, b1⟩ := hW T' rfl X'
    exact ⟨t2, go t2 a1, b1⟩
  · obtain ⟨k1, k2, k3⟩ := vx_keep h0 e1 hH.2.2.1 (fun q _ h => hA q h) hA hL hF
    obtain ⟨p1, p2⟩ := hpx E ν2 hpx1
    rw [← e1] at hP1 hce
    obtain ⟨g1, g2, g3⟩ := jac_back (sf := false) hX hH hs hn hb hb6 p1 p2 hei k2 hP1 hD1 k3 (fun z => by cases z)
    obtain ⟨t2, a1, b1⟩ := KX E ν2 hpx1 T'.heap (locs ++ L9) ls q ce ⟨g1, g2, k3, fun j _ h => absurd h (Nat.not_lt_zero j)⟩ hl hce hcv hcl T' rfl X'
    exact ⟨t2, go.trans a1, b1⟩
theorem jgood {X : jX} {w9 : Cond} {l : List Cond} (h9 : w9 ∈ jbig) (hl : ∀ w ∈ l, w ∈ jbig) : GoodIn jbig (l ++ w9 :: jbig) := by
  intro w hw
  have h : w ∈ jbig := by
    rcases List.mem_append.mp hw with h | h
    · exact hl w h
    · rcases List.mem_cons.mp h with h | h
      · rw [h]; exact h9
      · exact h
  exact ⟨h, good_of_word (jbig_good h)⟩
theorem jstk (hc : (st.map fun v => v.category).sum ≤ 8) {ls : Array Slot} {g : List Value} : 2 * (F0 (jm X) pc ls g).monitorRoom + ((st.map (jre (jad X))).map fun v => v.category).sum ≤ 8 := by
  refine lv_room ?_
  rw [List.map_map]
  have e9 : ((fun v : Value => v.category) ∘ jre (jad X)) = fun v : Value => v.category := funext fun v => jre_cat _ v
  rw [e9]
  exact hc
theorem jargs {As : List Value} : (As.map (jre (jrn e μ.length))).map (jre (jad X)) = As.map (jre (jac X e μ.length)) := by
  rw [List.map_map]
  exact List.map_congr_left fun v _ => jre_jre _ _ v
/-- what a call asks of the caller's world: the part, its places, the budget -/
def jcw (X : jX) (e : List Nat) (ν μ : jH) (bu : Nat) : Prop := jsub e ν μ ∧ va_nd e = true ∧ (∀ i ∈ e, i < μ.length) ∧ μ.length + bu ≤ jal X ∧ e.length + bu ≤ 1000000
/-- what is known of a callee by its name -/
def jcy (own : String) (i : Nat) (y : MethodName) (b : ByteArray) (nl : Nat) (r : Option FieldType) (na : Nat) : Prop := Cond.methodLink own i y ∈ jbig ∧ Cond.code y b nl r ∈ jbig ∧ Cond.initialized y.cls ∈ jbig ∧ y.cls ≠ "java/lang/invoke/MethodHandle" ∧ y.cls ≠ "java/lang/invoke/VarHandle" ∧ (parseMethodDescriptor y.desc).map (fun d => d.parameters.length) = some na
def jrm (R rm : Room) (nl k n : Nat) : Prop := rm.frames + 1 ≤ R.frames ∧ 8 + (nl + 11) + rm.locals ≤ R.locals ∧ k + rm.cells ≤ R.cells ∧ n + rm.slots ≤ R.slots
/-- invokevirtual -/
theorem JW.callV (hX : jOK X) {y : MethodName} {b : ByteArray} {nl na i : Nat} {r : Option FieldType} {rm : Room} {sf : Bool} {bu : Nat} {As : List Value} {po : Option Value → jH → Prop} {px : String → jH → Prop} (hM : jMet (jVX X) y (jws y b nl r) rm sf bu (.ref 0 :: As) ν po px) (hcw : jcw X e ν μ bu) (hy : jcy (jown X) i y b nl r na) (hyi : Cond.instanceMethod y ∈ jbig ∧ Cond.selects y.cls y y ∈ jbig)
    {ci N : Nat} {T : u_T} {fs : List Value} (h0 : ν[0]? = some (.inr (.inr (.inl (ci, fs))))) (hc : vwCl[ci]? = some (y.cls, T, N)) (hna : As.length = na) (hrm : jrm (jR X) rm nl k n) (hcat : (st.map fun v => v.category).sum ≤ 8) (hd : decode (jcc X) pc = .ok (.invokevirtual i, 3))
    {st0 : List Value} (hst : st0 = (As.map (jre (jrn e μ.length))).reverse ++ .ref (jrn e μ.length 0) :: st)
    (hpo : ∀ o ν2, po o ν2 → ν.length ≤ ν2.length ∧ ν2.length < ν.length + bu) (hpx : ∀ E ν2, px E ν2 → ν.length ≤ ν2.length ∧ ν2.length < ν.length + bu)
    (K : ∀ o ν2, po o ν2 → JW (jsf sf X) (k + rm.cells) (n + rm.slots) (pc + 3) L ((o.map (jre (jrn e μ.length))).toList ++ st) (jback e ν2 μ))
    (KX : ∀ E ν2, px E ν2 → JX (jof X) (k + rm.cells) (n + rm.slots) pc L st E (jback e ν2 μ)) : JW X k n pc L st0 μ := fun H locs ls hH hl => by
  obtain ⟨hs, hn, hei, hb, hb6⟩ := hcw
  obtain ⟨w1, w2, w3, w4, w5, w6⟩ := hy
  subst hst
  have hM9 := hM (jac X e μ.length) H.size (jac_fut hH hs hb hb6)
  have hrecv := va_recv hX.2.2.2.2.2.1 (jac_P hH hs) hc (jpl_at (ad := jac X e μ.length) (cA := jcA X) h0)
  have hr := vx_runV (g := F0 (jm X) pc ls (((As.map (jre (jrn e μ.length))).reverse ++ .ref (jrn e μ.length 0) :: st).map (jre (jad X)))) (As := As.map (jre (jac X e μ.length))) (rest := st.map (jre (jad X))) (cells := k) (slots := n) (locs := locs) (e := je X) (R := jR X) (below := jb X) (meth := jme X) (C := y.cls) (n := na) (b := jac X e μ.length 0) (H := H) (index := i) (own := jown X) (args := ja X) (Ts := jbig) (nL := jnL X) (cc := jcc X) (p := jp X) (s := js X) (m := jm X) (c := jcd X) ⟨hX.1, hX.2.1, hX.2.2.1, hX.2.2.2.1, hX.2.2.2.2.1⟩ hM9
    (cwV (Ts := jbig) (ws' := jbig) (index := i) na hX.2.2.2.2.1 (jgood (X := X) (l := [.methodLink (jown X) i y, .instanceMethod y, .selects y.cls y y, .initialized y.cls]) w2 (by
      intro w hw
      simp only [List.mem_cons, List.mem_nil_iff, or_false] at hw
      rcases hw with rfl | rfl | rfl | rfl
      · exact w1
      · exact hyi.1
      · exact hyi.2
      · exact w3)) rfl rfl rfl ⟨rfl, w4, w5, w6⟩ ⟨hrm.1, hrm.2.1⟩)
    ⟨jPc_blind _ _ _ _ _, hrecv, fun U hU hW => jPc_at hX hH hs hn (by omega) (As := .ref 0 :: As) U hU hW⟩ rfl (by rw [List.length_map]; exact hna) hl.1 (by
      show List.map _ _ = _
      rw [List.map_append, List.map_reverse, jargs, List.map_cons]
      rfl) (jstk hcat) hd ⟨hrm.2.2.1, hrm.2.2.2⟩
  exact jcall_core hX hH hl hs hn hei hb hb6 hpo hpx hr K KX
/-- invokestatic -/
theorem JW.callS (hX : jOK X) {y : MethodName} {b : ByteArray} {nl na i : Nat} {r : Option FieldType} {rm : Room} {sf : Bool} {bu : Nat} {As : List Value} {po : Option Value → jH → Prop} {px : String → jH → Prop} (hM : jMet (jVX X) y (jws y b nl r) rm sf bu As ν po px) (hcw : jcw X e ν μ bu) (hy : jcy (jown X) i y b nl r na) (hyi : Cond.static y ∈ jbig)
    (hna : As.length = na) (hrm : jrm (jR X) rm nl k n) (hcat : (st.map fun v => v.category).sum ≤ 8) (hd : decode (jcc X) pc = .ok (.invokestatic i, 3))
    {st0 : List Value} (hst : st0 = (As.map (jre (jrn e μ.length))).reverse ++ st)
    (hpo : ∀ o ν2, po o ν2 → ν.length ≤ ν2.length ∧ ν2.length < ν.length + bu) (hpx : ∀ E ν2, px E ν2 → ν.length ≤ ν2.length ∧ ν2.length < ν.length + bu)
    (K : ∀ o ν2, po o ν2 → JW (jsf sf X) (k + rm.cells) (n + rm.slots) (pc + 3) L ((o.map (jre (jrn e μ.length))).toList ++ st) (jback e ν2 μ))
    (KX : ∀ E ν2, px E ν2 → JX (jof X) (k + rm.cells) (n + rm.slots) pc L st E (jback e ν2 μ)) : JW X k n pc L st0 μ := fun H locs ls hH hl => by
  obtain ⟨hs, hn, hei, hb, hb6⟩ := hcw
  obtain ⟨w1, w2, w3, w4, w5, w6⟩ := hy
  subst hst
  have hM9 := hM (jac X e μ.length) H.size (jac_fut hH hs hb hb6)
  have hr := vx_runS (g := F0 (jm X) pc ls (((As.map (jre (jrn e μ.length))).reverse ++ st).map (jre (jad X)))) (As := As.map (jre (jac X e μ.length))) (rest := st.map (jre (jad X))) (cells := k) (slots := n) (locs := locs) (e := je X) (R := jR X) (below := jb X) (meth := jme X) (n := na) (H := H) (index := i) (own := jown X) (args := ja X) (Ts := jbig) (nL := jnL X) (cc := jcc X) (p := jp X) (s := js X) (m := jm X) (c := jcd X) ⟨hX.1, hX.2.1, hX.2.2.1, hX.2.2.2.1, hX.2.2.2.2.1⟩ hM9
    (va_cwS (Ts := jbig) (ws' := jbig) (index := i) na hX.2.2.2.2.1 (jgood (X := X) (l := [.methodLink (jown X) i y, .static y, .initialized y.cls]) w2 (by
      intro w hw
      simp only [List.mem_cons, List.mem_nil_iff, or_false] at hw
      rcases hw with rfl | rfl | rfl
      · exact w1
      · exact hyi
      · exact w3)) rfl rfl rfl ⟨w4, w5, w6⟩ ⟨hrm.1, hrm.2.1⟩)
    ⟨jPc_blind _ _ _ _ _, fun U hU hW => jPc_at hX hH hs hn (by omega) (As := As) U hU hW⟩ rfl (by rw [List.length_map]; exact hna) hl.1 (by
      show List.map _ _ = _
      rw [List.map_append, List.map_reverse, jargs]) (jstk hcat) hd ⟨hrm.2.2.1, hrm.2.2.2⟩
  exact jcall_core hX hH hl hs hn hei hb hb6 hpo hpx hr K KX
/-- a method's contract out of its walk -/
theorem jMet.intro {V : jV} {y : MethodName} {b : ByteArray} {nl : Nat} {r : Option FieldType} {rm : Room} {sf : Bool} {bu : Nat} {As : List Value} {ν : jH} {po : Option Value → jH → Prop} {px : String → jH → Prop} {tb : jT} (hst : V.1.stackTraces = false) (hy : plainName y.cls = true) (htb : jtOK y.cls tb) (htb5 : tb.2.2.2.2 = none) {L0 : List (Option Value)} (hsl : (lg_sl As).length ≤ nl) (hL0 : ∀ (i : Nat) (v : Value), L0[i]? = some (some v) → (i, v) ∈ lv_args 0 As)
    (body : ∀ X : jX, jOK X → jVX X = V → jcc X = b → jown X = y.cls → jTN X tb nl → jR X = rm → jmc X = rm.cells ∧ jms X = rm.slots → jrt X = r → jal X = ν.length + bu → jPost X sf (ν.length + bu) po px → jNT X → (y.name = "<init>" → (jme X).name = "<init>") → JW X 0 0 0 L0 [] ν) : jMet V y (jws y b nl r) rm sf bu As ν po px := by
  intro ad sz hfu
  refine vx_ofW (cc := b) (maxL := nl) (ret := r) (ws' := jbig) hy rfl ?_
  intro p e s m args below meth c s₁ B hml hnt hPc
  obtain ⟨rfl, rfl, hP, hD, hK, hE⟩ := hPc
  have hts := atoms_spec (ws := jws y b nl r) B.pre
  have hown : s.vm.findClass y.cls = some m.cls := findClass_of_methodNamed B.named
  have h9 := body ((p, V.1, e, (headSpec (jws y b nl r) rm).room, s, m, (As.map (jre ad)).toArray, below, meth, c), (V.2.1, V.2.2.1, ad, V.2.2.2, va_A (jpl ad V.2.2.1 ν) s.heap.size), (y.cls, b, nl, rm.cells, rm.slots, ν.length + bu, r, vx_MQ below (jQc V.2.1 V.2.2.1 ad (va_A (jpl ad V.2.2.1 ν) s.heap.size) sf (ν.length + bu) po) (jXC V.2.1 V.2.2.1 ad (va_A (jpl ad V.2.2.1 ν) s.heap.size) px) (As.map (jre ad)).toArray s rm.cells rm.slots (va_A (jpl ad V.2.2.1 ν) s.heap.size), tb))
    ⟨B.exec, B.bytes, hml, hown, fun w hw => hts w (List.mem_cons_of_mem _ hw), hK, fun q h => Or.inr h, B.notSynchronized, hE, hst, Nat.le_refl _, Nat.le_refl _, B.returns, htb, fun z hz => by have hz2 : tb.2.2.2.2 = some z := hz; rw [htb5] at hz2; cases hz2⟩
    rfl rfl rfl ⟨rfl, rfl⟩ rfl ⟨rfl, rfl⟩ rfl rfl ⟨rfl, fun _ => Nat.le_refl _⟩ hnt (fun h => (name_of_methodNamed B.named B.method).1.trans h)
  rw [lg_entry_eq]
  have hlen : (lg_sl (As.map (jre ad))).length = (lg_sl As).length := by
    simp only [lg_sl, List.length_flatMap, List.map_map]
    congr 1
    refine List.map_congr_left fun v _ => ?_
    simp only [Function.comp, jre_cat]
    split <;> rfl
  have hla : ∀ (As : List Value) (i : Nat), lv_args i (As.map (jre ad)) = (lv_args i As).map (fun q => (q.1, jre ad q.2)) := by
    intro As
    induction As with
    | nil => intro i; rfl
    | cons v l ih =>
      intro i
      simp only [List.map_cons, lv_args, jre_cat, ih]
  have hl := lv_entry (As.map (jre ad)) (n := nl) (by rw [hlen]; exact hsl)
  refine h9 s.heap [] _ ⟨hP, hD.self, va_S.rf, hfu⟩ ⟨hl.1, hl.2.1, fun i v hi => ?_⟩
  refine hl.2.2 (i, jre ad v) ?_
  rw [hla]
  exact List.mem_map.mpr ⟨(i, v), hL0 i v hi, rfl⟩
end JC8

/-! walks of methods with handlers, and of the law -/
def jMZ (T : jX → Prop) (X : jX) (C : List (Nat × Instr × Nat)) (own : String) (tb : jT) (nl : Nat) (R : Room) (rt : Option FieldType) (B : Nat) : Prop := jOK X ∧ jDec X C ∧ jown X = own ∧ jTN X tb nl ∧ jR X = R ∧ jmc X = R.cells ∧ jms X = R.slots ∧ jrt X = rt ∧ B ≤ jal X ∧ T X
def jcu (e : List Nat) (m bu B : Nat) : Bool := va_nd e && e.all (fun i => decide (i < m)) && decide (m + bu ≤ B) && decide (e.length + bu ≤ 1000000) && decide (0 < bu)
def jrz (R : Room) (fr lo nl : Nat) : Bool := decide (fr + 1 ≤ R.frames) && decide (8 + (nl + 11) + lo ≤ R.locals)
section J14
variable {Tz : jX → Prop} {X : jX} {C : List (Nat × Instr × Nat)} {own : String} {tb : jT} {nl : Nat} {R : Room} {rt : Option FieldType} {B : Nat} {k n pc : Nat} {L : List (Option Value)} {st : List Value} {μ ν : jH}
theorem JW.rZ (hM : jMZ Tz X C own tb nl R rt B) (a m : Nat) {pc2 : Nat} {g : Prop} {L2 : List (Option Value)} {st2 : List Value} {μ2 : jH} (h : jrun tb nl ((C.drop a).take m) pc L st μ = some (g, pc2, L2, st2, μ2)) (hg : g) (K : JW X k n pc2 L2 st2 μ2) : JW X k n pc L st μ := JW.run hM.1 hM.2.1 hM.2.2.2.1 a m h hg K
theorem jcz_ok (hM : jMZ Tz X C own tb nl R rt B) {e : List Nat} {m bu : Nat} (hs : jsub e ν μ) (hm : μ.length = m) (h : jcu e m bu B = true) : jcw X e ν μ bu := by
  simp only [jcu, Bool.and_eq_true, decide_eq_true_eq, List.all_eq_true] at h
  obtain ⟨⟨⟨⟨h1, h2⟩, h3⟩, h4⟩, -⟩ := h
  exact ⟨hs, h1, by rw [hm]; exact h2, by rw [hm]; exact Nat.le_trans h3 hM.2.2.2.2.2.2.2.2.1, h4⟩
theorem jcu_pos {e : List Nat} {m bu B : Nat} (h : jcu e m bu B = true) : 0 < bu := by
  simp only [jcu, Bool.and_eq_true, decide_eq_true_eq] at h
  exact h.2
theorem jrz_ok (hR : jR X = R) {fr lo mc ms nl k n : Nat} (h : jrz R fr lo nl = true) (hk : k + mc ≤ R.cells) (hn : n + ms ≤ R.slots) : jrm (jR X) ⟨fr, mc, ms, lo⟩ nl k n := by
  simp only [jrz, Bool.and_eq_true, decide_eq_true_eq] at h
  rw [hR]
  exact ⟨h.1, h.2, hk, hn⟩
variable {y : MethodName} {b : ByteArray} {nl2 na i fr lo mc2 ms2 : Nat} {r2 : Option FieldType} {As : List Value} {ν2 μ2 : jH} {e : List Nat} {v : Option Value}
theorem JW.cVZ (hM : jMZ Tz X C own tb nl R rt B) {sf : Bool} {bu : Nat} (hm : jMet (jVX X) y (jws y b nl2 r2) ⟨fr, mc2, ms2, lo⟩ sf bu (.ref 0 :: As) ν (fun o ν9 => o = v ∧ ν9 = ν2) (fun _ _ => False)) {m : Nat} (hs : jsub e ν μ) (hbk : jback e ν2 μ = μ2) (hlen : μ.length = m) (hl : ν2.length = ν.length) (hq : jcu e m bu B = true) (hy : jcy own i y b nl2 r2 na ∧ Cond.instanceMethod y ∈ jbig ∧ Cond.selects y.cls y y ∈ jbig) {ci N : Nat} {T : u_T} {fs : List Value} (h0 : ν[0]? = some (.inr (.inr (.inl (ci, fs))))) (hc : vwCl[ci]? = some (y.cls, T, N)) (hna : As.length = na) (hrm : jrz R fr lo nl2 = true) (hk : k + mc2 ≤ R.cells) (hn : n + ms2 ≤ R.slots) (hcat : Nat.ble (st.map fun v => v.category).sum 8 = true) (hd : decode (jcc X) pc = .ok (.invokevirtual i, 3))
    {st0 : List Value} (hst : st0 = (As.map (jre (jrn e m))).reverse ++ .ref (jrn e m 0) :: st) (K : JW (jsf sf X) (k + mc2) (n + ms2) (pc + 3) L ((v.map (jre (jrn e m))).toList ++ st) μ2) : JW X k n pc L st0 μ := by
  subst hlen
  refine JW.callV hM.1 hm (jcz_ok hM hs rfl hq) (by rw [hM.2.2.1]; exact hy.1) hy.2 h0 hc hna (jrz_ok hM.2.2.2.2.1 hrm hk hn) (Nat.le_of_ble_eq_true hcat) hd hst (fun o ν9 h9 => by obtain ⟨-, rfl⟩ := h9; rw [hl]; exact ⟨Nat.le_refl _, Nat.lt_add_of_pos_right (jcu_pos hq)⟩) (fun E ν9 h9 => h9.elim) (fun o ν9 h9 => ?_) (fun E ν9 h9 => h9.elim)
  obtain ⟨rfl, rfl⟩ := h9
  rw [hbk]
  exact K
/-- a callee that throws, under a handler -/
theorem JW.hVZ (hM : jMZ Tz X C own tb nl R rt B) {E : String} {sf : Bool} {bu : Nat} (hm : jMet (jVX X) y (jws y b nl2 r2) ⟨fr, mc2, ms2, lo⟩ sf bu (.ref 0 :: As) ν (fun _ _ => False) (fun E9 ν9 => E9 = E ∧ ν9 = ν)) {m : Nat} (hs : jsub e ν μ) (hbk : jback e ν μ = μ) (hlen : μ.length = m) (hq : jcu e m bu B = true) (hy : jcy own i y b nl2 r2 na ∧ Cond.instanceMethod y ∈ jbig ∧ Cond.selects y.cls y y ∈ jbig) {ci N : Nat} {T : u_T} {fs : List Value} (h0 : ν[0]? = some (.inr (.inr (.inl (ci, fs))))) (hc : vwCl[ci]? = some (y.cls, T, N)) (hna : As.length = na) (hrm : jrz R fr lo nl2 = true) (hk : k + mc2 ≤ R.cells) (hn : n + ms2 ≤ R.slots) (hcat : Nat.ble (st.map fun v => v.category).sum 8 = true) (hd : decode (jcc X) pc = .ok (.invokevirtual i, 3))
    {st0 : List Value} (hst : st0 = (As.map (jre (jrn e m))).reverse ++ .ref (jrn e m 0) :: st) (K : JX (jof X) (k + mc2) (n + ms2) pc L st E μ) : JW X k n pc L st0 μ := by
  subst hlen
  refine JW.callV hM.1 hm (jcz_ok hM hs rfl hq) (by rw [hM.2.2.1]; exact hy.1) hy.2 h0 hc hna (jrz_ok hM.2.2.2.2.1 hrm hk hn) (Nat.le_of_ble_eq_true hcat) hd hst (fun o ν9 h9 => h9.elim) (fun E ν9 h9 => by obtain ⟨-, rfl⟩ := h9; exact ⟨Nat.le_refl _, Nat.lt_add_of_pos_right (jcu_pos hq)⟩) (fun o ν9 h9 => h9.elim) (fun E ν9 h9 => ?_)
  obtain ⟨rfl, rfl⟩ := h9
  rw [hbk]
  exact K
/-- a static callee with handlers -/
theorem JW.cHZ (hM : jMZ Tz X C own tb nl R rt B) {sf : Bool} {bu : Nat} {hh : List (Nat × Nat × Nat × Nat)} (hm : jMet (jVX X) y (jwsH y b nl2 r2 hh) ⟨fr, mc2, ms2, lo⟩ sf bu As ν (fun o ν9 => o = v ∧ ν9 = ν2) (fun _ _ => False)) {m : Nat} (hs : jsub e ν μ) (hbk : jback e ν2 μ = μ2) (hlen : μ.length = m) (hl : ν2.length = ν.length) (hq : jcu e m bu B = true) (hy : Cond.methodLink own i y ∈ jbig ∧ Cond.codeWith y b nl2 r2 hh ∈ jbig ∧ Cond.initialized y.cls ∈ jbig ∧ (y.cls ≠ "java/lang/invoke/MethodHandle" ∧ y.cls ≠ "java/lang/invoke/VarHandle" ∧ (parseMethodDescriptor y.desc).map (fun d => d.parameters.length) = some na) ∧ Cond.static y ∈ jbig) (hna : As.length = na) (hrm : jrz R fr lo nl2 = true) (hk : k + mc2 ≤ R.cells) (hn : n + ms2 ≤ R.slots) (hcat : Nat.ble (st.map fun v => v.category).sum 8 = true) (hd : decode (jcc X) pc = .ok (.invokestatic i, 3))
    {st0 : List Value} (hst : st0 = (As.map (jre (jrn e m))).reverse ++ st) (K : JW (jsf sf X) (k + mc2) (n + ms2) (pc + 3) L ((v.map (jre (jrn e m))).toList ++ st) μ2) : JW X k n pc L st0 μ := by
  subst hlen
  refine JW.callH hM.1 hm (jcz_ok hM hs rfl hq) (by rw [hM.2.2.1]; exact hy.1) hy.2.1 hy.2.2.1 hy.2.2.2.1 hy.2.2.2.2 hna (jrz_ok hM.2.2.2.2.1 hrm hk hn) (Nat.le_of_ble_eq_true hcat) hd hst (fun o ν9 h9 => by obtain ⟨-, rfl⟩ := h9; rw [hl]; exact ⟨Nat.le_refl _, Nat.lt_add_of_pos_right (jcu_pos hq)⟩) (fun o ν9 h9 => ?_)
  obtain ⟨rfl, rfl⟩ := h9
  rw [hbk]
  exact K
theorem JW.rebZ (hM : jMZ Tz (X) C own tb nl R rt B) (hT : ∀ ad al, Tz X → Tz (jxa X ad al)) (hm : μ.length + 8 ≤ 1000000) (hB : B ≤ μ.length + 8) (hμ : μ.all (jcc1 μ.length) = true) (hL : L.all (fun o => match o with
    | some v => jcv μ.length v
    | none => true) = true) (hst : st.all (jcv μ.length) = true) (K : ∀ X9 : jX, jMZ Tz X9 C own tb nl R rt B → JW X9 k n pc L st μ) : JW X k n pc L st μ :=
  JW.rebase hM.1 8 hm hμ hL hst fun ad h9 => K _ ⟨h9, hM.2.1, hM.2.2.1, hM.2.2.2.1, hM.2.2.2.2.1, hM.2.2.2.2.2.1, hM.2.2.2.2.2.2.1, hM.2.2.2.2.2.2.2.1, hB, hT _ _ hM.2.2.2.2.2.2.2.2.2⟩
theorem jMZ.off (hM : jMZ Tz X C own tb nl R rt B) (hT : Tz X → Tz (jof X)) : jMZ Tz (jof X) C own tb nl R rt 0 := ⟨hM.1, hM.2.1, hM.2.2.1, hM.2.2.2.1, hM.2.2.2.2.1, hM.2.2.2.2.2.1, hM.2.2.2.2.2.2.1, hM.2.2.2.2.2.2.2.1, Nat.le_refl _, hT hM.2.2.2.2.2.2.2.2.2⟩
/-- the last cells are forgotten -/
theorem JW.drop {μ3 : jH} (K : JW (jof X) k n pc L st μ) : JW X k n pc L st (μ ++ μ3) := fun H locs ls hH hl => by
  have hpl : ∀ (i : Nat) (q : Nat × va_E), (jpl (jad X) (jcA X) μ)[i]? = some q → (jpl (jad X) (jcA X) (μ ++ μ3))[i]? = some q := by
    intro i q h
    rw [jpl_get] at h ⊢
    cases hc : μ[i]? with
    | none => simp [hc] at h
    | some c =>
      have hlt : i < μ.length := (List.getElem?_eq_some_iff.mp hc).1
      rw [List.getElem?_append_left hlt]
      exact h
  exact K H locs ls ⟨fun i q h => hH.1 i q (hpl i q h), ⟨fun i j p q h1 h2 h3 => hH.2.1.1 i j p q (hpl i p h1) (hpl j q h2) h3, fun i q h => hH.2.1.2 i q (hpl i q h)⟩, hH.2.2.1, fun j _ h => absurd h (Nat.not_lt_zero j)⟩ hl
/-- a call under handlers: what each exception answers -/
def jbh {α β : Type} (a : Option (Nat ⊕ α)) (f : α → Option β) (g : Nat → Option β) : Option β := match a with
  | some (.inr v) => f v
  | some (.inl c) => g c
  | none => none
theorem jbhE {α β : Type} {a : Option (Nat ⊕ α)} {f : α → Option β} {g : Nat → Option β} {r : β} (h : jbh a f g = some r) : (∃ v, a = some (.inr v) ∧ f v = some r) ∨ ∃ c, a = some (.inl c) ∧ g c = some r := by
  cases a with
  | none => cases h
  | some x =>
    cases x with
    | inl c => exact Or.inr ⟨c, rfl, h⟩
    | inr v => exact Or.inl ⟨v, rfl, h⟩
theorem jmkH {V : jV} {sf : Bool} {bu : Nat} {ν : jH} {po : Option Value → jH → Prop} {px : String → jH → Prop} {hh : List (Nat × Nat × Nat × Nat)} {own : String} (hst : V.1.stackTraces = false) (ho : y.cls = own) (hy : plainName own = true) (htb : jtOK own tb) (htb5 : tb.2.2.2.2 = none) (hdec : ∀ q ∈ C, decode b q.1 = .ok q.2) (hsl : Nat.ble (lg_sl As).length nl = true)
    (body : ∀ X : jX, jMZ (fun X => (jcd X).exceptionTable.toList = tableOf hh) X C own tb nl R rt (ν.length + bu) → jVX X = V → jPost X sf (ν.length + bu) po px → JW X 0 0 0 (jl0 nl As) [] ν) : jMet V y (jwsH y b nl rt hh) R sf bu As ν po px := by
  subst ho
  refine jMet.introH hst hy htb htb5 (Nat.le_of_ble_eq_true hsl) ?_
  intro X hX hV hcc hown hTN hR hmc hrt hal hp hNT
  exact body X ⟨hX, fun q hq => by rw [hcc]; exact hdec q hq, hown, hTN, hR, hmc.1, hmc.2, hrt, Nat.le_of_eq hal.symm, hNT⟩ hV hp
theorem jPost.off {po : Option Value → jH → Prop} {px : String → jH → Prop} (h : jPost X false B po px) : jPost (jof X) false B po px := ⟨h.1, fun z => by cases z⟩
/-- a call that answers an int -/
theorem JW.cVi {r : Int32} {k2 n2 pc2 : Nat} (hM : jMX X C own tb nl R rt B) (hm : jMet (jVX X) y (jws y b nl2 r2) ⟨fr, mc2, ms2, lo⟩ true 1 (.ref 0 :: As) ν (fun o ν9 => o = some (.int r) ∧ ν9 = ν2) (fun _ _ => False)) {m : Nat} (hs : jsub e ν μ) (hbk : jback e ν2 μ = μ2) (hlen : μ.length = m) (hl : ν2.length = ν.length) (hq : jcb e m B = true) (hy : jcy own i y b nl2 r2 na ∧ Cond.instanceMethod y ∈ jbig ∧ Cond.selects y.cls y y ∈ jbig) {ci N : Nat} {T : u_T} {fs : List Value} (h0 : ν[0]? = some (.inr (.inr (.inl (ci, fs))))) (hc : vwCl[ci]? = some (y.cls, T, N)) (hna : As.length = na) (hrm : jrb R fr lo mc2 ms2 nl2 k n = true) (hcat : Nat.ble (st.map fun v => v.category).sum 8 = true) (hd : decode (jcc X) pc = .ok (.invokevirtual i, 3))
    {st0 : List Value} (hst : st0 = (As.map (jre (jrn e m))).reverse ++ .ref (jrn e m 0) :: st) (hk2 : k + mc2 = k2) (hn2 : n + ms2 = n2) (hpc : pc + 3 = pc2) (K : JW X k2 n2 pc2 L (.int r :: st) μ2) : JW X k n pc L st0 μ := by
  subst hk2; subst hn2; subst hpc
  exact JW.cV hM hm hs hbk hlen hl hq hy h0 hc hna hrm hcat hd hst K
/-- a constructor's call -/
theorem JW.cI {bu k2 n2 pc2 : Nat} (hX : jOK X) {rm : Room} (hM : jMet (jVX X) y (jws y b nl2 none) rm true bu (.ref 0 :: As) ν (fun o ν9 => o = none ∧ ν9 = ν2) (fun _ _ => False)) (hcw : jcw X e ν μ bu) (hln : Cond.methodLink (jown X) i y ∈ jbig ∨ ∃ host, Cond.methodLinkNest (jown X) i y host ∈ jnest) (hcode : Cond.code y b nl2 none ∈ jbig) (hini : Cond.initialized y.cls ∈ jbig) (hdd : y.cls ≠ "java/lang/invoke/MethodHandle" ∧ y.cls ≠ "java/lang/invoke/VarHandle" ∧ (parseMethodDescriptor y.desc).map (fun d => d.parameters.length) = some na) (hyn : y.name = "<init>") (hyi : Cond.instanceMethod y ∈ jbig)
    (hna : As.length = na) (hrm : jrm (jR X) rm nl2 k n) (hcat : Nat.ble (st.map fun v => v.category).sum 8 = true) (hd : decode (jcc X) pc = .ok (.invokespecial i, 3)) {m : Nat} (hlen : μ.length = m)
    {st0 : List Value} (hst : st0 = (As.map (jre (jrn e m))).reverse ++ .ref (jrn e m 0) :: st) (hpo : ν.length ≤ ν2.length ∧ ν2.length < ν.length + bu) (hbk : jback e ν2 μ = μ2) (hk2 : k + rm.cells = k2) (hn2 : n + rm.slots = n2) (hpc : pc + 3 = pc2) (K : JW X k2 n2 pc2 L st μ2) : JW X k n pc L st0 μ := by
  subst hk2; subst hn2; subst hpc; subst hlen
  refine JW.callI hX hM hcw hln hcode hini hdd hyn hyi hna hrm (Nat.le_of_ble_eq_true hcat) hd hst (fun o ν9 h9 => by obtain ⟨-, rfl⟩ := h9; exact hpo) (fun o ν9 h9 => ?_)
  obtain ⟨rfl, rfl⟩ := h9
  rw [hbk]
  exact K
theorem js_nw (hX : jOK X) {m k2 n2 pc2 : Nat} (hlen : μ.length = m) {ci i N : Nat} {C : String} {T : u_T} (hc : vwCl[ci]? = some (C, T, N)) (hw : Cond.classLink (jown X) i C ∈ jbig ∧ Cond.instantiable C N ∈ jbig ∧ Cond.initialized C ∈ jbig) {ty : Nat → FieldType} (hty : ∀ k, k < N → parseFieldDescriptor (T k).2.2.1 = some (ty k)) {fs : List Value} (hfs : (List.range N).map (fun j => defaultValue (ty j)) = fs) (hfr : fs.map (jre (jad X)) = fs) (hb : m < jal X) (hk2 : k + 1 = k2) (hn2 : n + N = n2) (hpc : pc + 3 = pc2) (hk : k2 ≤ jmc X) (hn : n2 ≤ jms X) (hd : decode (jcc X) pc = .ok (.new i, 3)) {μ9 : jH} (hμ : μ ++ [.inr (.inr (.inl (ci, fs)))] = μ9) (K : JW X k2 n2 pc2 L (.ref m :: st) μ9) : JW X k n pc L st μ := by
  subst hlen; subst hk2; subst hn2; subst hpc; subst hμ
  exact js_new hX hc hw hty hfs hfr hb hk hn hd K
end J14

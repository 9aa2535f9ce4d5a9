/-! THE MINI MACHINE. A world is a list of cells by number; references are numbers; 'ad' says where each cell lies in the heap. -/
/-- a cell: a row of ints (kind, length, contents), of longs, an object (class, fields), a row of references (kind, contents) -/
abbrev jc : Type := (Nat × Nat × (Nat → Int32)) ⊕ ((Nat × (Nat → Int64)) ⊕ ((Nat × List Value) ⊕ (Nat × List (Option Nat))))
abbrev jH : Type := List jc
def jre (f : Nat → Nat) (v : Value) : Value := match v with
  | .ref k => .ref (f k)
  | .int x => .int x
  | .long x => .long x
  | .null => .null
  | .float x => .float x
  | .double x => .double x
  | .retAddr p => .retAddr p
theorem jre_cat (f : Nat → Nat) (v : Value) : (jre f v).category = v.category := by cases v <;> rfl
theorem jre_jre (f g : Nat → Nat) (v : Value) : jre f (jre g v) = jre (fun k => f (g k)) v := by cases v <;> rfl
theorem jre_congr {f g : Nat → Nat} {v : Value} (h : ∀ k, f k = g k) : jre f v = jre g v := by cases v <;> simp [jre, h]
/-- references of a cell, renamed -/
def jrc (f : Nat → Nat) (c : jc) : jc := match c with
  | .inl x => .inl x
  | .inr (.inl x) => .inr (.inl x)
  | .inr (.inr (.inl (ci, fs))) => .inr (.inr (.inl (ci, fs.map (jre f))))
  | .inr (.inr (.inr (t, rs))) => .inr (.inr (.inr (t, rs.map (Option.map f))))
def jrE (ad : Nat → Nat) (cA : Nat → ClassId) (c : jc) : va_E := match c with
  | .inl (t, n, f) => .inl (cA t, n, .inl f)
  | .inr (.inl (n, f)) => .inl (cA 1, n, .inr (.inl f))
  | .inr (.inr (.inl (ci, fs))) => .inr (ci, fs.map (jre ad))
  | .inr (.inr (.inr (t, rs))) => .inl (cA t, rs.length, .inr (.inr (.inr (.inr (fun i => ((rs.map (Option.map ad))[i]?).getD none)))))
theorem jrE_jrc (ad f : Nat → Nat) (cA : Nat → ClassId) (c : jc) : jrE ad cA (jrc f c) = jrE (fun k => ad (f k)) cA c := by
  rcases c with ⟨t, n, g⟩ | ⟨n, g⟩ | ⟨ci, fs⟩ | ⟨t, rs⟩
  · rfl
  · rfl
  · simp only [jrc, jrE, List.map_map, Sum.inr.injEq, Prod.mk.injEq, true_and]
    exact List.map_congr_left fun v _ => jre_jre _ _ _
  · simp only [jrc, jrE, List.map_map, List.length_map]
    have e : (Option.map ad ∘ Option.map f) = Option.map (fun k => ad (f k)) := by
      funext o; cases o <;> rfl
    rw [e]
theorem jrE_congr {f g : Nat → Nat} (cA : Nat → ClassId) (c : jc) (h : ∀ k, f k = g k) : jrE f cA c = jrE g cA c := by
  have e : f = g := funext h
  rw [e]
def jpl (ad : Nat → Nat) (cA : Nat → ClassId) (μ : jH) : va_W := μ.mapIdx (fun k c => (ad k, jrE ad cA c))
theorem jpl_get (ad : Nat → Nat) (cA : Nat → ClassId) (μ : jH) (k : Nat) : (jpl ad cA μ)[k]? = (μ[k]?).map (fun c => (ad k, jrE ad cA c)) := by
  simp [jpl]
theorem jpl_at {ad : Nat → Nat} {cA : Nat → ClassId} {μ : jH} {k : Nat} {c : jc} (h : μ[k]? = some c) : (jpl ad cA μ)[k]? = some (ad k, jrE ad cA c) := by
  rw [jpl_get, h]; rfl
theorem jpl_set (ad : Nat → Nat) (cA : Nat → ClassId) (μ : jH) (k : Nat) (c : jc) : (jpl ad cA μ).set k (ad k, jrE ad cA c) = jpl ad cA (μ.set k c) := by
  apply List.ext_getElem?
  intro i
  rw [jpl_get, List.getElem?_set, List.getElem?_set, jpl_get]
  have hl : (jpl ad cA μ).length = μ.length := by simp [jpl]
  rw [hl]
  by_cases e : k = i
  · subst e
    by_cases h : k < μ.length
    · simp [h]
    · simp [h]
  · simp [e]
theorem jpl_app (ad : Nat → Nat) (cA : Nat → ClassId) (μ : jH) (c : jc) : jpl ad cA (μ ++ [c]) = jpl ad cA μ ++ [(ad μ.length, jrE ad cA c)] := by
  simp [jpl, List.mapIdx_append]
theorem jpl_len (ad : Nat → Nat) (cA : Nat → ClassId) (μ : jH) : (jpl ad cA μ).length = μ.length := by simp [jpl]
def jty (cA : Nat → ClassId) : List (ClassId × FieldType) := [(cA 0, .int), (cA 1, .long), (cA 2, .byte), (cA 3, .boolean), (cA 4, .object RX3), (cA 5, .object RX4)]
/-- the addresses of what comes next -/
def jfut (ad : Nat → Nat) (m z B : Nat) : Prop := ∀ j, m ≤ j → j < B → ad j = z + (j - m)
/-- an index within -/
def jin (i : Int32) (n : Nat) : Bool := !(decide (i < 0)) && decide (i.toNatClampNeg < n)
theorem jin_vp {i : Int32} {n : Nat} (h : jin i n = true) : vp_in i n := by
  simp only [jin, Bool.and_eq_true, Bool.not_eq_true', decide_eq_false_iff_not, decide_eq_true_eq] at h
  intro z
  rcases z with z | z
  · exact h.1 z
  · omega
/-- string constants: lengths, bytes; which constant of which class is which word -/
def jlen : List Nat := [6, 5, 5, 5, 5, 4, 5]
def jbyt : List (List Int32) := [[112, 101, 111, 112, 108, 101], [99, 111, 105, 110, 115], [116, 104, 105, 110, 103], [119, 111, 114, 116, 104], [115, 104, 97, 114, 101], [98, 101, 108, 108], [101, 97, 116, 101, 110]]
def jstr : List (String × Nat × String × Nat) := [(RX2, 60, "people", 0), (RX2, 66, "coins", 1), (RX2, 68, "thing", 2), (RX2, 70, "worth", 3), (RX2, 72, "share", 4), (RX2, 74, "bell", 5), (RX2, 76, "eaten", 6), (RX6, 138, "people", 0), (RX6, 143, "coins", 1), (RX6, 151, "thing", 2), (RX6, 156, "worth", 3), (RX6, 161, "share", 4), (RX6, 163, "bell", 5), (RX6, 165, "eaten", 6)]
def jnest : List Cond := [.methodLinkNest RX5 9 yX3_init RX5, .methodLinkNest RX5 35 yX2_init RX5, .methodLinkNest RX5 42 yX1_init RX5, .methodLinkNest RX5 47 yX4_init RX5]
def jcast : List (String × String) := [("java/lang/IllegalArgumentException", "java/lang/IllegalArgumentException"), ("java/lang/IllegalStateException", "java/lang/IllegalStateException"), ("java/util/NoSuchElementException", "java/util/NoSuchElementException"), ("java/lang/IndexOutOfBoundsException", "java/lang/IndexOutOfBoundsException")]
def jdcl : List MethodName := [⟨"java/lang/RuntimeException", "<init>", "()V"⟩, ⟨"java/lang/Exception", "<init>", "()V"⟩, ⟨"java/lang/Throwable", "<init>", "()V"⟩]
def jnc : List (String × String) := [("java/lang/IllegalArgumentException", "java/util/NoSuchElementException"), ("java/lang/IllegalArgumentException", "java/lang/IllegalStateException"), ("java/lang/IllegalStateException", "java/util/NoSuchElementException"), ("java/lang/IndexOutOfBoundsException", "java/util/NoSuchElementException"), ("java/lang/IndexOutOfBoundsException", "java/lang/IllegalStateException")]
/-- what lies outside: the words' Strings, the statics that a new Throwable reads, links of nest mates, classes of arrays of objects, which exceptions are which -/
def jE (ad adV : Nat → Nat) (A : Nat → Prop) (U : State) (H : Heap) : Prop :=
  vk_S 7 jlen jbyt (fun w => ad (1000000 + w)) adV A U H ∧ vx_Zq Bundle.tN "UNASSIGNED_STACK" Bundle.steD A U H ∧ vx_Zq Bundle.tN "SUPPRESSED_SENTINEL" Bundle.listD A U H ∧ (∀ w ∈ jnest, va_Nw w U) ∧ (∀ q ∈ jstr, vk_R q.1 q.2.1 q.2.2.1 (ad (1000000 + q.2.2.2)) U) ∧ va_AO RX3 U ∧ va_AO RX4 U ∧ (∀ q ∈ jcast, va_Nw (.castable q.1 q.2) U) ∧ (∀ q ∈ jnc, va_Nc q.1 q.2 U) ∧ va_Z "java/lang/String" "COMPACT_STRINGS" "Z" (.int 1) A U H ∧ va_Zq "jdk/internal/util/Preconditions" "SIOOBE_FORMATTER" "Ljava/util/function/BiFunction;" A U H ∧ (∀ x ∈ jdcl, va_Nw (.declares x) U)
theorem jE.same {ad adV : Nat → Nat} {A : Nat → Prop} {u U : State} {H : Heap} (hv : u.vm = U.vm) (h : jE ad adV A u H) : jE ad adV A U H := by
  obtain ⟨h1, h2, h3, h4, h5, h6, h7, h8, h9, h10, h11, h12⟩ := h
  have ha : u.vm.Alike U.vm := by rw [hv]; exact Vm.Alike.refl _
  refine ⟨h1.moved ha, h2.moved ha, h3.moved ha, fun w hw => va_Nw.same ?_ hv (h4 w hw), fun q hq => vk_R.same hv.symm (h5 q hq), h6.moved ha, h7.moved ha, fun q hq => va_Nw.same rfl hv (h8 q hq), fun q hq => (h9 q hq).moved ha, h10.moved ha, h11.moved ha, fun x hx => va_Nw.same rfl hv (h12 x hx)⟩
  simp only [jnest, List.mem_cons, List.mem_nil_iff, or_false] at hw
  rcases hw with rfl | rfl | rfl | rfl <;> rfl
theorem jE.warm {ad adV : Nat → Nat} {A B : Nat → Prop} {s U : State} {H : Heap} {locs : List Loc} (hW : s.WarmedH U.vm) (hS : va_S A s.heap H locs) (hB : ∀ q, B q → A q) (h : jE ad adV A s s.heap) : jE ad adV B U H := by
  obtain ⟨h1, h2, h3, h4, h5, h6, h7, h8, h9, h10, h11, h12⟩ := h
  have ha := hW.alike
  refine ⟨((h1.kept hS.2.1).moved ha).narrow hB, ((h2.kept hS.2.1).moved ha).narrow hB, ((h3.kept hS.2.1).moved ha).narrow hB, fun w hw => ?_, fun q hq => vk_R.warm hW (h5 q hq), h6.moved ha, h7.moved ha, fun q hq => va_Nw.warmC hW (h8 q hq), fun q hq => (h9 q hq).moved ha, ((h10.kept hS.2.1).moved ha).narrow hB, ((h11.kept hS.2.1).moved ha).narrow hB, fun x hx => va_Nw.warmD hW (h12 x hx)⟩
  have h9 := h4 w hw
  simp only [jnest, List.mem_cons, List.mem_nil_iff, or_false] at hw
  rcases hw with rfl | rfl | rfl | rfl <;> exact va_Nw.warmM hW h9
/-! the frame of a method and what it may take as given -/
/-- constants of a class: fields (entry, class, slot, kind: 0 an int, 1 a boolean, 2 a final reference), ints, longs, classes made; and the script -/
abbrev jT : Type := List (Nat × Nat × Nat × Nat) × List (Nat × Int32) × List (Nat × Int64) × List (Nat × Nat) × Option (Nat × (Nat → Int32))
abbrev jX : Type := (Program × Launch × Env × Room × State × MethodId × Array Value × List Frame × Method × Code) × (va_G × (Nat → ClassId) × (Nat → Nat) × (Nat → Nat) × (Nat → Prop)) × (String × ByteArray × Nat × Nat × Nat × Nat × Option FieldType × (State → Prop) × jT)
def jp (X : jX) : Program := X.1.1
def jl (X : jX) : Launch := X.1.2.1
def je (X : jX) : Env := X.1.2.2.1
def jR (X : jX) : Room := X.1.2.2.2.1
def js (X : jX) : State := X.1.2.2.2.2.1
def jm (X : jX) : MethodId := X.1.2.2.2.2.2.1
def ja (X : jX) : Array Value := X.1.2.2.2.2.2.2.1
def jb (X : jX) : List Frame := X.1.2.2.2.2.2.2.2.1
def jme (X : jX) : Method := X.1.2.2.2.2.2.2.2.2.1
def jcd (X : jX) : Code := X.1.2.2.2.2.2.2.2.2.2
def jD (X : jX) : va_G := X.2.1.1
def jcA (X : jX) : Nat → ClassId := X.2.1.2.1
def jad (X : jX) : Nat → Nat := X.2.1.2.2.1
def jv (X : jX) : Nat → Nat := X.2.1.2.2.2.1
def jA (X : jX) : Nat → Prop := X.2.1.2.2.2.2
def jown (X : jX) : String := X.2.2.1
def jcc (X : jX) : ByteArray := X.2.2.2.1
def jnL (X : jX) : Nat := X.2.2.2.2.1
def jmc (X : jX) : Nat := X.2.2.2.2.2.1
def jms (X : jX) : Nat := X.2.2.2.2.2.2.1
def jal (X : jX) : Nat := X.2.2.2.2.2.2.2.1
def jrt (X : jX) : Option FieldType := X.2.2.2.2.2.2.2.2.1
def jQ (X : jX) : State → Prop := X.2.2.2.2.2.2.2.2.2.1
def jtb (X : jX) : jT := X.2.2.2.2.2.2.2.2.2.2
/-- the same, and nothing more is made -/
def jof (X : jX) : jX := (X.1, X.2.1, (X.2.2.1, X.2.2.2.1, X.2.2.2.2.1, X.2.2.2.2.2.1, X.2.2.2.2.2.2.1, 0, X.2.2.2.2.2.2.2.2))
def jtOK (own : String) (tb : jT) : Prop :=
  (∀ q ∈ tb.1, ∃ (C : String) (T : u_T) (N : Nat) (ty : FieldType), vwCl[q.2.1]? = some (C, T, N) ∧ q.2.2.1 < N ∧ Cond.fieldLink own q.1 (T q.2.2.1).1 (T q.2.2.1).2.1 (T q.2.2.1).2.2.1 ∈ jbig ∧ parseFieldDescriptor (T q.2.2.1).2.2.1 = some ty ∧ (q.2.2.2 = 0 → ty = .int ∧ (T q.2.2.1).2.2.2 = false) ∧ (q.2.2.2 = 1 → ty = .boolean ∧ (T q.2.2.1).2.2.2 = false) ∧ (q.2.2.2 = 2 → (∀ a, narrow ty (.ref a) = .ref a ∧ fits ty (.ref a) = true) ∧ (T q.2.2.1).2.2.2 = true ∧ (T q.2.2.1).1 = own)) ∧
  (∀ q ∈ tb.2.1, Cond.constant own q.1 q.2 ∈ jbig) ∧ (∀ q ∈ tb.2.2.1, Cond.constantLong own q.1 q.2 ∈ jbig) ∧
  (∀ q ∈ tb.2.2.2.1, ∃ (C : String) (T : u_T) (N : Nat), vwCl[q.2]? = some (C, T, N) ∧ Cond.classLink own q.1 C ∈ jbig ∧ Cond.instantiable C N ∈ jbig ∧ Cond.initialized C ∈ jbig)
def jOK (X : jX) : Prop :=
  (jp X).tables.exec = Jvm.exec ∧ (jcd X).code = jcc X ∧ (jcd X).maxLocals = jnL X ∧ (js X).vm.findClass (jown X) = some (jm X).cls ∧ (∀ w ∈ jbig, w.before (ja X) (js X) = true) ∧ va_K (jD X) vwCl (jty (jcA X)) (js X) ∧ (∀ q, (js X).heap.size ≤ q → jA X q) ∧ (jme X).locks = false ∧ jE (jad X) (jv X) (jA X) (js X) (js X).heap ∧ (jl X).stackTraces = false ∧ jmc X ≤ (jR X).cells ∧ jms X ≤ (jR X).slots ∧ (jme X).sig.returnType = jrt X ∧ jtOK (jown X) (jtb X) ∧
  (∀ z, (jtb X).2.2.2.2 = some z → va_X (jad X 2000000) z.1 z.2 (js X) (js X).heap ∧ jad X 2000000 < (js X).heap.size ∧ ¬ jA X (jad X 2000000))
theorem jOK.of {X : jX} (h : jOK X) : jOK (jof X) := h
def jlo (ad : Nat → Nat) (n : Nat) (L : List (Option Value)) (ls : Array Slot) : Prop := ls.size = n ∧ lv_wf ls ∧ ∀ (i : Nat) (v : Value), L[i]? = some (some v) → ls[i]? = some (.val (jre ad v))
abbrev jW (X : jX) (H : Heap) (locs : List Loc) (k n : Nat) (g : JFrame) : Prop := W (jp X) (jl X) (je X) (jR X) (js X) (jm X) (ja X) (jb X) (jme X) (jcd X) H locs k n (jQ X) g
/-- the heap holds the world, nothing else has changed, the next addresses are as they will be -/
def jHP (X : jX) (μ : jH) (H : Heap) (locs : List Loc) : Prop := va_P (jD X) vwCl (jpl (jad X) (jcA X) μ) H ∧ va_D (jA X) (jpl (jad X) (jcA X) μ) ∧ va_S (jA X) (js X).heap H locs ∧ jfut (jad X) μ.length H.size (jal X)
def JW (X : jX) (k n pc : Nat) (L : List (Option Value)) (st : List Value) (μ : jH) : Prop :=
  ∀ (H : Heap) (locs : List Loc) (ls : Array Slot), jHP X μ H locs → jlo (jad X) (jnL X) L ls → jW X H locs k n (F0 (jm X) pc ls (st.map (jre (jad X))))
/-- an exception of class E has come over the frame -/
def JX (X : jX) (k n pc : Nat) (L : List (Option Value)) (st : List Value) (E : String) (μ : jH) : Prop :=
  ∀ (H : Heap) (locs : List Loc) (ls : Array Slot) (q : Addr) (ce : Cell), jHP X μ H locs → jlo (jad X) (jnL X) L ls → H[q]? = some ce → ce.vm = .none → (js X).vm.findClass E = some ce.cls → vx_W (jp X) (jl X) (je X) (jR X) (js X) (jm X) (ja X) (jb X) (jme X) (jcd X) H locs k n (jQ X) (F0 (jm X) pc ls (st.map (jre (jad X)))) q
/-! locals -/
def jclob (L : List (Option Value)) (i : Nat) : List (Option Value) := match i with
  | 0 => L
  | j + 1 => match L[j]? with
    | some (some w) => if w.category = 2 then L.set j none else L
    | _ => L
def jst1 (L : List (Option Value)) (i : Nat) (v : Value) : List (Option Value) := (jclob L i).set i (some v)
def jst2 (L : List (Option Value)) (i : Nat) (v : Value) : List (Option Value) := ((jclob L i).set (i + 1) none).set i (some v)
def jas (ad : Nat → Nat) (L : List (Option Value)) : List (Nat × Value) := (L.mapIdx (fun i o => o.map (fun v => (i, jre ad v)))).filterMap id
theorem jas_mem {ad : Nat → Nat} {L : List (Option Value)} {q : Nat × Value} : q ∈ jas ad L ↔ ∃ v, L[q.1]? = some (some v) ∧ q.2 = jre ad v := by
  obtain ⟨j, w⟩ := q
  simp only [jas, List.mem_filterMap, id]
  constructor
  · rintro ⟨o, h1, rfl⟩
    obtain ⟨i, h2⟩ := List.getElem?_of_mem h1
    rw [List.getElem?_mapIdx] at h2
    cases h3 : L[i]? with
    | none => simp [h3] at h2
    | some o =>
      cases o with
      | none => simp [h3] at h2
      | some v =>
        simp only [h3, Option.map_some, Option.some.injEq, Prod.mk.injEq] at h2
        obtain ⟨rfl, rfl⟩ := h2
        exact ⟨v, h3, rfl⟩
  · rintro ⟨v, h1, h2⟩
    refine ⟨some (j, w), ?_, rfl⟩
    refine List.mem_of_getElem? (i := j) ?_
    rw [List.getElem?_mapIdx, h1]
    simp only [Option.map_some]
    rw [show w = jre ad v from h2]
theorem jlo.has {ad : Nat → Nat} {n : Nat} {L : List (Option Value)} {ls : Array Slot} (h : jlo ad n L ls) : lv_has ls n (jas ad L) := by
  refine ⟨h.1, h.2.1, fun q hq => ?_⟩
  obtain ⟨v, h1, h2⟩ := jas_mem.mp hq
  rw [h2]
  exact h.2.2 _ _ h1
theorem jclob_get {L : List (Option Value)} {i j : Nat} {v : Value} (h : (jclob L i)[j]? = some (some v)) : L[j]? = some (some v) ∧ ¬ (j + 1 = i ∧ v.category = 2) := by
  cases i with
  | zero => exact ⟨h, fun z => by omega⟩
  | succ m =>
    simp only [jclob] at h
    split at h
    · next w hw =>
      split at h
      · next hc =>
        rw [List.getElem?_set] at h
        split at h
        · split at h <;> simp at h
        · next hne => exact ⟨h, fun z => hne (by omega)⟩
      · next hc =>
        refine ⟨h, fun z => ?_⟩
        have : j = m := by omega
        subst this
        rw [hw] at h
        simp only [Option.some.injEq] at h
        subst h
        exact hc z.2
    · next hn =>
      refine ⟨h, fun z => ?_⟩
      have : j = m := by omega
      subst this
      exact hn v h
theorem jlo_st1 {ad : Nat → Nat} {n i : Nat} {L : List (Option Value)} {ls' : Array Slot} {v : Value} (h : lv_has ls' n ((i, jre ad v) :: (jas ad L).filter (fun q => !(q.1 == i) && !(q.1 + 1 == i && q.2.category == 2)))) : jlo ad n (jst1 L i v) ls' := by
  refine ⟨h.1, h.2.1, fun j w hj => ?_⟩
  simp only [jst1, List.getElem?_set] at hj
  split at hj
  · next e =>
    subst e
    split at hj
    · cases hj
      exact h.2.2 _ List.mem_cons_self
    · cases hj
  · next e =>
    obtain ⟨h1, h2⟩ := jclob_get hj
    refine h.2.2 (j, jre ad w) (List.mem_cons_of_mem _ (List.mem_filter.mpr ⟨jas_mem.mpr ⟨w, h1, rfl⟩, ?_⟩))
    simp only [jre_cat, Bool.and_eq_true, Bool.not_eq_true', beq_eq_false_iff_ne, ne_eq]
    refine ⟨fun z => e z.symm, ?_⟩
    by_cases z : j + 1 = i
    · have : ¬ w.category = 2 := fun y => h2 ⟨z, y⟩
      simp [this]
    · simp [z]
theorem jlo_st2 {ad : Nat → Nat} {n i : Nat} {L : List (Option Value)} {ls' : Array Slot} {v : Value} (h : lv_has ls' n ((i, jre ad v) :: (jas ad L).filter (fun q => !(q.1 == i) && (!(q.1 == i + 1) && !(q.1 + 1 == i && q.2.category == 2))))) : jlo ad n (jst2 L i v) ls' := by
  refine ⟨h.1, h.2.1, fun j w hj => ?_⟩
  simp only [jst2, List.getElem?_set] at hj
  split at hj
  · next e =>
    subst e
    split at hj
    · cases hj
      exact h.2.2 _ List.mem_cons_self
    · cases hj
  · next e =>
    split at hj
    · split at hj <;> simp at hj
    · next e2 =>
      obtain ⟨h1, h2⟩ := jclob_get hj
      refine h.2.2 (j, jre ad w) (List.mem_cons_of_mem _ (List.mem_filter.mpr ⟨jas_mem.mpr ⟨w, h1, rfl⟩, ?_⟩))
      simp only [jre_cat, Bool.and_eq_true, Bool.not_eq_true', beq_eq_false_iff_ne, ne_eq]
      refine ⟨fun z => e z.symm, fun z => e2 z.symm, ?_⟩
      by_cases z : j + 1 = i
      · have : ¬ w.category = 2 := fun y => h2 ⟨z, y⟩
        simp [this]
      · simp [z]
/-- fewer locals are known -/
def jmask : List Bool → List (Option Value) → List (Option Value)
  | true :: b, x :: l => x :: jmask b l
  | false :: b, _ :: l => none :: jmask b l
  | _, _ => []
theorem jmask_get : ∀ (b : List Bool) (l : List (Option Value)) (i : Nat) (v : Value), (jmask b l)[i]? = some (some v) → l[i]? = some (some v)
  | true :: b, x :: l, 0, v, h => h
  | true :: b, x :: l, i + 1, v, h => by
    simp only [jmask, List.getElem?_cons_succ] at h ⊢
    exact jmask_get b l i v h
  | false :: b, x :: l, 0, v, h => by simp [jmask] at h
  | false :: b, x :: l, i + 1, v, h => by
    simp only [jmask, List.getElem?_cons_succ] at h ⊢
    exact jmask_get b l i v h
  | [], l, i, v, h => by simp [jmask] at h
  | _ :: _, [], i, v, h => by simp [jmask] at h
theorem JW.mask {X : jX} {k n pc : Nat} {L : List (Option Value)} {st : List Value} {μ : jH} (b : List Bool) (h : JW X k n pc (jmask b L) st μ) : JW X k n pc L st μ :=
  fun H locs ls hH hl => h H locs ls hH ⟨hl.1, hl.2.1, fun i v hi => hl.2.2 i v (jmask_get b L i v hi)⟩
theorem JW.of {X : jX} {k n pc : Nat} {L : List (Option Value)} {st : List Value} {μ : jH} (h : JW (jof X) k n pc L st μ) : JW X k n pc L st μ :=
  fun H locs ls hH hl => h H locs ls ⟨hH.1, hH.2.1, hH.2.2.1, fun j _ h => absurd h (Nat.not_lt_zero j)⟩ hl

/-! what the printed walks use -/
def jMX (X : jX) (C : List (Nat × Instr × Nat)) (own : String) (tb : jT) (nl : Nat) (R : Room) (rt : Option FieldType) (B : Nat) : Prop := jOK X ∧ jDec X C ∧ jown X = own ∧ jTN X tb nl ∧ jR X = R ∧ jmc X = R.cells ∧ jms X = R.slots ∧ jrt X = rt ∧ B ≤ jal X ∧ jNT X
theorem jg {α : Type} {c : Prop} [Decidable c] {a : Option α} {r : α} (h : (if c then a else none) = some r) : c ∧ a = some r := by
  split at h
  · next hc => exact ⟨hc, h⟩
  · cases h
theorem jgn {α : Type} {c : Prop} [Decidable c] {a : Option α} {r : α} (h : (if c then none else a) = some r) : ¬ c ∧ a = some r := by
  split at h
  · cases h
  · next hc => exact ⟨hc, h⟩
theorem jbd {α β : Type} {a : Option α} {f : α → Option β} {r : β} (h : a.bind f = some r) : ∃ v, a = some v ∧ f v = some r := by
  cases a with
  | none => cases h
  | some v => exact ⟨v, rfl, h⟩
def jlt {α β : Type} (a : α) (f : α → β) : β := f a
theorem jlE {α β : Type} {a : α} {f : α → Option β} {r : β} (h : jlt a f = some r) : ∃ v, a = v ∧ f v = some r := ⟨a, rfl, h⟩
/-- a call that may throw: 1 no such element, 2 a wrong state, 3 a wrong argument, 4 a wrong index -/
def jbx {α β : Type} (a : Option (Nat ⊕ α)) (f : α → Option (Nat ⊕ β)) : Option (Nat ⊕ β) := match a with
  | some (.inr v) => f v
  | some (.inl c) => some (.inl c)
  | none => none
theorem jbxE {α β : Type} {a : Option (Nat ⊕ α)} {f : α → Option (Nat ⊕ β)} {r : Nat ⊕ β} (h : jbx a f = some r) : (∃ v, a = some (.inr v) ∧ f v = some r) ∨ ∃ c, a = some (.inl c) ∧ r = .inl c := by
  cases a with
  | none => cases h
  | some x =>
    cases x with
    | inl c => cases h; exact Or.inr ⟨c, rfl, rfl⟩
    | inr v => exact Or.inl ⟨v, rfl, h⟩
def jEn (c : Nat) : String := match c with
  | 1 => "java/util/NoSuchElementException"
  | 2 => "java/lang/IllegalStateException"
  | 3 => "java/lang/IllegalArgumentException"
  | _ => "java/lang/IndexOutOfBoundsException"
def jup (G : Nat → Nat → Int32) (c i : Nat) (x : Int32) : Nat → Nat → Int32 := va_up G c (upd (G c) i x)
def jupL (G : Nat → Nat → Int64) (c i : Nat) (x : Int64) : Nat → Nat → Int64 := va_up G c (vp_updL (G c) i x)
/-- an object's part of a state, and back -/
def jvw {α : Type} (G : Nat → α) (b : Nat) : Nat → α := fun k => G (b + k)
def jv2 {α : Type} (G : Nat → α) (r s t : Nat) : Nat → α := fun k => if k < s then G (r + k) else G (t + (k - s))
def jpt {α : Type} (G : Nat → α) (b s : Nat) (G2 : Nat → α) : Nat → α := fun a => if b ≤ a ∧ a < b + s then G2 (a - b) else G a
def jp2 {α : Type} (G : Nat → α) (r s t u : Nat) (G2 : Nat → α) : Nat → α := jpt (jpt G r s G2) t u (fun k => G2 (s + k))
/-- the locals at a method's start -/
def jl0 : Nat → List Value → List (Option Value)
  | 0, _ => []
  | n + 1, [] => none :: jl0 n []
  | n + 1, v :: vs => if v.category = 2 then (match n with
    | 0 => [some v]
    | m + 1 => some v :: none :: jl0 m vs) else some v :: jl0 n vs
theorem jl0_mem : ∀ (n : Nat) (As : List Value) (o i : Nat) (v : Value), (jl0 n As)[i]? = some (some v) → (o + i, v) ∈ lv_args o As
  | 0, As, o, i, v, h => by simp [jl0] at h
  | n + 1, [], o, i, v, h => by
    exfalso
    have key : ∀ (m j : Nat), (jl0 m [])[j]? ≠ some (some v) := by
      intro m
      induction m with
      | zero => intro j; simp [jl0]
      | succ m ih =>
        intro j
        cases j with
        | zero => simp [jl0]
        | succ j => simp only [jl0, List.getElem?_cons_succ]; exact ih j
    exact key (n + 1) i h
  | 1, w :: vs, o, i, v, h => by
    simp only [jl0] at h
    split at h
    · cases i with
      | zero => simp only [List.getElem?_cons_zero, Option.some.injEq] at h; subst h; simp [lv_args]
      | succ i => simp at h
    · cases i with
      | zero => simp only [List.getElem?_cons_zero, Option.some.injEq] at h; subst h; simp [lv_args]
      | succ i => simp at h
  | m + 2, w :: vs, o, i, v, h => by
    unfold jl0 at h
    dsimp only at h
    split at h
    · next hc =>
      cases i with
      | zero => simp only [List.getElem?_cons_zero, Option.some.injEq] at h; subst h; simp [lv_args]
      | succ i =>
        cases i with
        | zero => simp at h
        | succ i =>
          simp only [List.getElem?_cons_succ] at h
          have h9 := jl0_mem m vs (o + 2) i v h
          simp only [lv_args, hc, if_true]
          refine List.mem_cons_of_mem _ ?_
          rw [show o + (i + 1 + 1) = o + 2 + i by omega]
          exact h9
    · next hc =>
      cases i with
      | zero => simp only [List.getElem?_cons_zero, Option.some.injEq] at h; subst h; simp [lv_args]
      | succ i =>
        simp only [List.getElem?_cons_succ] at h
        have h9 := jl0_mem (m + 1) vs (o + 1) i v h
        simp only [lv_args, hc, if_false]
        refine List.mem_cons_of_mem _ ?_
        rw [show o + (i + 1) = o + 1 + i by omega]
        exact h9
section J9
variable {X : jX} {C : List (Nat × Instr × Nat)} {own : String} {tb : jT} {nl : Nat} {R : Room} {rt : Option FieldType} {B : Nat} {k n pc : Nat} {L : List (Option Value)} {st : List Value} {μ ν : jH}
theorem JW.r (hM : jMX X C own tb nl R rt B) (a m : Nat) {pc2 : Nat} {g : Prop} {L2 : List (Option Value)} {st2 : List Value} {μ2 : jH} (h : jrun tb nl ((C.drop a).take m) pc L st μ = some (g, pc2, L2, st2, μ2)) (hg : g) (K : JW X k n pc2 L2 st2 μ2) : JW X k n pc L st μ := JW.run hM.1 hM.2.1 hM.2.2.2.1 a m h hg K
def jcb (e : List Nat) (m B : Nat) : Bool := va_nd e && e.all (fun i => decide (i < m)) && decide (m + 1 ≤ B) && decide (e.length + 1 ≤ 1000000)
def jrb (R : Room) (fr lo mc ms nl k n : Nat) : Bool := decide (fr + 1 ≤ R.frames) && decide (8 + (nl + 11) + lo ≤ R.locals) && decide (k + mc ≤ R.cells) && decide (n + ms ≤ R.slots)
theorem jcb_ok (hM : jMX X C own tb nl R rt B) {e : List Nat} {m : Nat} (hs : jsub e ν μ) (hm : μ.length = m) (h : jcb e m B = true) : jcw X e ν μ 1 := by
  simp only [jcb, Bool.and_eq_true, decide_eq_true_eq, List.all_eq_true] at h
  obtain ⟨⟨⟨h1, h2⟩, h3⟩, h4⟩ := h
  exact ⟨hs, h1, by rw [hm]; exact h2, by rw [hm]; exact Nat.le_trans h3 hM.2.2.2.2.2.2.2.2.1, h4⟩
theorem jrb_ok (hR : jR X = R) {fr lo mc ms nl k n : Nat} (h : jrb R fr lo mc ms nl k n = true) : jrm (jR X) ⟨fr, mc, ms, lo⟩ nl k n := by
  simp only [jrb, Bool.and_eq_true, decide_eq_true_eq] at h
  obtain ⟨⟨⟨h1, h2⟩, h3⟩, h4⟩ := h
  rw [hR]
  exact ⟨h1, h2, h3, h4⟩
variable {y : MethodName} {b : ByteArray} {nl2 na i fr lo mc2 ms2 : Nat} {r2 : Option FieldType} {As : List Value} {ν2 μ2 : jH} {e : List Nat} {v : Option Value}
theorem JW.cV (hM : jMX X C own tb nl R rt B) (hm : jMet (jVX X) y (jws y b nl2 r2) ⟨fr, mc2, ms2, lo⟩ true 1 (.ref 0 :: As) ν (fun o ν9 => o = v ∧ ν9 = ν2) (fun _ _ => False)) {m : Nat} (hs : jsub e ν μ) (hbk : jback e ν2 μ = μ2) (hlen : μ.length = m) (hl : ν2.length = ν.length) (hq : jcb e m B = true) (hy : jcy own i y b nl2 r2 na ∧ Cond.instanceMethod y ∈ jbig ∧ Cond.selects y.cls y y ∈ jbig) {ci N : Nat} {T : u_T} {fs : List Value} (h0 : ν[0]? = some (.inr (.inr (.inl (ci, fs))))) (hc : vwCl[ci]? = some (y.cls, T, N)) (hna : As.length = na) (hrm : jrb R fr lo mc2 ms2 nl2 k n = true) (hcat : Nat.ble (st.map fun v => v.category).sum 8 = true) (hd : decode (jcc X) pc = .ok (.invokevirtual i, 3))
    {st0 : List Value} (hst : st0 = (As.map (jre (jrn e m))).reverse ++ .ref (jrn e m 0) :: st) (K : JW X (k + mc2) (n + ms2) (pc + 3) L ((v.map (jre (jrn e m))).toList ++ st) μ2) : JW X k n pc L st0 μ := by
  subst hlen
  refine JW.callV hM.1 hm (jcb_ok hM hs rfl hq) (by rw [hM.2.2.1]; exact hy.1) hy.2 h0 hc hna (jrb_ok hM.2.2.2.2.1 hrm) (Nat.le_of_ble_eq_true hcat) hd hst (fun o ν9 h9 => by obtain ⟨-, rfl⟩ := h9; rw [hl]; exact ⟨Nat.le_refl _, Nat.lt_succ_self _⟩) (fun E ν9 h9 => h9.elim) (fun o ν9 h9 => ?_) (fun E ν9 h9 => h9.elim)
  obtain ⟨rfl, rfl⟩ := h9
  rw [hbk]
  exact K
theorem JW.cS (hM : jMX X C own tb nl R rt B) (hm : jMet (jVX X) y (jws y b nl2 r2) ⟨fr, mc2, ms2, lo⟩ true 1 As ν (fun o ν9 => o = v ∧ ν9 = ν2) (fun _ _ => False)) {m : Nat} (hs : jsub e ν μ) (hbk : jback e ν2 μ = μ2) (hlen : μ.length = m) (hl : ν2.length = ν.length) (hq : jcb e m B = true) (hy : jcy own i y b nl2 r2 na ∧ Cond.static y ∈ jbig) (hna : As.length = na) (hrm : jrb R fr lo mc2 ms2 nl2 k n = true) (hcat : Nat.ble (st.map fun v => v.category).sum 8 = true) (hd : decode (jcc X) pc = .ok (.invokestatic i, 3))
    {st0 : List Value} (hst : st0 = (As.map (jre (jrn e m))).reverse ++ st) (K : JW X (k + mc2) (n + ms2) (pc + 3) L ((v.map (jre (jrn e m))).toList ++ st) μ2) : JW X k n pc L st0 μ := by
  subst hlen
  refine JW.callS hM.1 hm (jcb_ok hM hs rfl hq) (by rw [hM.2.2.1]; exact hy.1) hy.2 hna (jrb_ok hM.2.2.2.2.1 hrm) (Nat.le_of_ble_eq_true hcat) hd hst (fun o ν9 h9 => by obtain ⟨-, rfl⟩ := h9; rw [hl]; exact ⟨Nat.le_refl _, Nat.lt_succ_self _⟩) (fun E ν9 h9 => h9.elim) (fun o ν9 h9 => ?_) (fun E ν9 h9 => h9.elim)
  obtain ⟨rfl, rfl⟩ := h9
  rw [hbk]
  exact K
/-- a callee that throws: it goes on to the caller -/
theorem JW.xV (hM : jMX X C own tb nl R rt B) {sf : Bool} {B9 : Nat} {po : Option Value → jH → Prop} {px : String → jH → Prop} (hp : jPost X sf B9 po px) {E : String} (hm : jMet (jVX X) y (jws y b nl2 r2) ⟨fr, mc2, ms2, lo⟩ true 1 (.ref 0 :: As) ν (fun _ _ => False) (fun E9 ν9 => E9 = E ∧ ν9 = ν)) {m : Nat} (hs : jsub e ν μ) (hbk : jback e ν μ = μ) (hlen : μ.length = m) (hq : jcb e m B = true) (hy : jcy own i y b nl2 r2 na ∧ Cond.instanceMethod y ∈ jbig ∧ Cond.selects y.cls y y ∈ jbig) {ci N : Nat} {T : u_T} {fs : List Value} (h0 : ν[0]? = some (.inr (.inr (.inl (ci, fs))))) (hc : vwCl[ci]? = some (y.cls, T, N)) (hna : As.length = na) (hrm : jrb R fr lo mc2 ms2 nl2 k n = true) (hcat : Nat.ble (st.map fun v => v.category).sum 8 = true) (hd : decode (jcc X) pc = .ok (.invokevirtual i, 3))
    {st0 : List Value} (hst : st0 = (As.map (jre (jrn e m))).reverse ++ .ref (jrn e m 0) :: st) (K : px E μ) : JW X k n pc L st0 μ := by
  subst hlen
  have hr9 := jrb_ok (X := X) hM.2.2.2.2.1 hrm
  have hp9 : jPost (jof X) false B9 po px → True := fun _ => trivial
  refine JW.callV hM.1 hm (jcb_ok hM hs rfl hq) (by rw [hM.2.2.1]; exact hy.1) hy.2 h0 hc hna hr9 (Nat.le_of_ble_eq_true hcat) hd hst (fun o ν9 h9 => h9.elim) (fun E ν9 h9 => by obtain ⟨-, rfl⟩ := h9; exact ⟨Nat.le_refl _, Nat.lt_succ_self _⟩) (fun o ν9 h9 => h9.elim) (fun E ν9 h9 => ?_)
  obtain ⟨rfl, rfl⟩ := h9
  rw [hbk]
  have hk : k + mc2 ≤ jmc X := by rw [hM.2.2.2.2.2.1, ← hM.2.2.2.2.1]; exact hr9.2.2.1
  have hn : n + ms2 ≤ jms X := by rw [hM.2.2.2.2.2.2.1, ← hM.2.2.2.2.1]; exact hr9.2.2.2
  intro H locs ls q ce hH hl h1 h2 h3
  show vx_W _ _ _ _ _ _ _ _ _ _ _ _ _ _ (jQ X) _ _
  rw [hp.1]
  exact vx_out (fun x hx => (hM.2.2.2.2.2.2.2.2.2 x hx).elim) hM.1.2.2.2.2.2.2.2.1 h1 h2 h3 (fun t ht hW => ⟨_, K, by rw [ht]; exact hH.1, hH.2.1, hH.2.2.1.F ht⟩) hH.2.2.1.2.2 hk hn
theorem JW.xS (hM : jMX X C own tb nl R rt B) {sf : Bool} {B9 : Nat} {po : Option Value → jH → Prop} {px : String → jH → Prop} (hp : jPost X sf B9 po px) {E : String} (hm : jMet (jVX X) y (jws y b nl2 r2) ⟨fr, mc2, ms2, lo⟩ true 1 As ν (fun _ _ => False) (fun E9 ν9 => E9 = E ∧ ν9 = ν)) {m : Nat} (hs : jsub e ν μ) (hbk : jback e ν μ = μ) (hlen : μ.length = m) (hq : jcb e m B = true) (hy : jcy own i y b nl2 r2 na ∧ Cond.static y ∈ jbig) (hna : As.length = na) (hrm : jrb R fr lo mc2 ms2 nl2 k n = true) (hcat : Nat.ble (st.map fun v => v.category).sum 8 = true) (hd : decode (jcc X) pc = .ok (.invokestatic i, 3))
    {st0 : List Value} (hst : st0 = (As.map (jre (jrn e m))).reverse ++ st) (K : px E μ) : JW X k n pc L st0 μ := by
  subst hlen
  have hr9 := jrb_ok (X := X) hM.2.2.2.2.1 hrm
  refine JW.callS hM.1 hm (jcb_ok hM hs rfl hq) (by rw [hM.2.2.1]; exact hy.1) hy.2 hna hr9 (Nat.le_of_ble_eq_true hcat) hd hst (fun o ν9 h9 => h9.elim) (fun E ν9 h9 => by obtain ⟨-, rfl⟩ := h9; exact ⟨Nat.le_refl _, Nat.lt_succ_self _⟩) (fun o ν9 h9 => h9.elim) (fun E ν9 h9 => ?_)
  obtain ⟨rfl, rfl⟩ := h9
  rw [hbk]
  have hk : k + mc2 ≤ jmc X := by rw [hM.2.2.2.2.2.1, ← hM.2.2.2.2.1]; exact hr9.2.2.1
  have hn : n + ms2 ≤ jms X := by rw [hM.2.2.2.2.2.2.1, ← hM.2.2.2.2.1]; exact hr9.2.2.2
  intro H locs ls q ce hH hl h1 h2 h3
  show vx_W _ _ _ _ _ _ _ _ _ _ _ _ _ _ (jQ X) _ _
  rw [hp.1]
  exact vx_out (fun x hx => (hM.2.2.2.2.2.2.2.2.2 x hx).elim) hM.1.2.2.2.2.2.2.2.1 h1 h2 h3 (fun t ht hW => ⟨_, K, by rw [ht]; exact hH.1, hH.2.1, hH.2.2.1.F ht⟩) hH.2.2.1.2.2 hk hn
/-- a contract out of the walk from its first instruction -/
theorem jmk {V : jV} {sf : Bool} {bu : Nat} {ν : jH} {po : Option Value → jH → Prop} {px : String → jH → Prop} {own : String} (hst : V.1.stackTraces = false) (ho : y.cls = own) (hy : plainName own = true) (htb : jtOK own tb) (htb5 : tb.2.2.2.2 = none) (hdec : ∀ q ∈ C, decode b q.1 = .ok q.2) (hsl : Nat.ble (lg_sl As).length nl = true)
    (body : ∀ X : jX, jMX X C own tb nl R rt (ν.length + bu) → jVX X = V → jPost X sf (ν.length + bu) po px → (y.name = "<init>" → (jme X).name = "<init>") → JW X 0 0 0 (jl0 nl As) [] ν) : jMet V y (jws y b nl rt) R sf bu As ν po px := by
  subst ho
  refine jMet.intro hst hy htb htb5 (Nat.le_of_ble_eq_true hsl) (fun i v h => by have := jl0_mem nl As 0 i v h; rwa [Nat.zero_add] at this) ?_
  intro X hX hV hcc hown hTN hR hmc hrt hal hp hNT hin
  exact body X ⟨hX, fun q hq => by rw [hcc]; exact hdec q hq, hown, hTN, hR, hmc.1, hmc.2, hrt, Nat.le_of_eq hal.symm, hNT⟩ hV hp hin
end J9

/-! a town, and the class's Town over it -/
def TA : Type := (Int32) × (Nat) × (Nat) × (Int32) × (Int32) × (Int32) × (Int32) × (Nat) × (Nat → Int32) × (Nat → Nat) × (Nat → Nat → Int32) × (Nat → Nat) × (Nat → Nat) × (Nat → Nat) × (Nat → Int32) × (Nat → Int32) × (Nat → Bool)
def TA.mk (li : Int32) (np : Nat) (nt : Nat) (ea : Int32) (sh : Int32) (be : Int32) (mi : Int32) (nd : Nat) (co : Nat → Int32) (ho : Nat → Nat) (wo : Nat → Nat → Int32) (th : Nat → Nat) (gi : Nat → Nat) (ta : Nat → Nat) (pr : Nat → Int32) (wh : Nat → Int32) (st : Nat → Bool) : TA := (li, np, nt, ea, sh, be, mi, nd, co, ho, wo, th, gi, ta, pr, wh, st)
def TA.li (a : TA) : Int32 := a.1
def TA.np (a : TA) : Nat := a.2.1
def TA.nt (a : TA) : Nat := a.2.2.1
def TA.ea (a : TA) : Int32 := a.2.2.2.1
def TA.sh (a : TA) : Int32 := a.2.2.2.2.1
def TA.be (a : TA) : Int32 := a.2.2.2.2.2.1
def TA.mi (a : TA) : Int32 := a.2.2.2.2.2.2.1
def TA.nd (a : TA) : Nat := a.2.2.2.2.2.2.2.1
def TA.co (a : TA) : Nat → Int32 := a.2.2.2.2.2.2.2.2.1
def TA.ho (a : TA) : Nat → Nat := a.2.2.2.2.2.2.2.2.2.1
def TA.wo (a : TA) : Nat → Nat → Int32 := a.2.2.2.2.2.2.2.2.2.2.1
def TA.th (a : TA) : Nat → Nat := a.2.2.2.2.2.2.2.2.2.2.2.1
def TA.gi (a : TA) : Nat → Nat := a.2.2.2.2.2.2.2.2.2.2.2.2.1
def TA.ta (a : TA) : Nat → Nat := a.2.2.2.2.2.2.2.2.2.2.2.2.2.1
def TA.pr (a : TA) : Nat → Int32 := a.2.2.2.2.2.2.2.2.2.2.2.2.2.2.1
def TA.wh (a : TA) : Nat → Int32 := a.2.2.2.2.2.2.2.2.2.2.2.2.2.2.2.1
def TA.st (a : TA) : Nat → Bool := a.2.2.2.2.2.2.2.2.2.2.2.2.2.2.2.2
/-- who has the thing t just before the deed d, of k deeds -/
def nxf (st : Nat → Bool) (th gi : Nat → Nat) (h t : Nat) : Nat → Nat → Nat
  | _, 0 => h
  | d, k + 1 => if st d = true ∧ th d = t then gi d else nxf st th gi h t (d + 1) k
def TA.nx (a : TA) (t d k : Nat) : Nat := nxf a.st a.th a.gi (a.ho t) t d k
def TA.I (a : TA) : Prop := (a.np ≤ 6) ∧ (a.nt ≤ 10) ∧ (a.nd ≤ 30) ∧ (∀ t, t < a.nt → a.ho t < a.np) ∧ (∀ d, d < a.nd → a.th d < a.nt) ∧ (∀ d, d < a.nd → a.gi d < a.np) ∧ (∀ d, d < a.nd → a.ta d < a.np) ∧ (∀ d, d < a.nd → a.gi d ≠ a.ta d) ∧ (∀ d, d < a.nd → 0 ≤ (a.pr d).toInt ∧ (a.pr d).toInt ≤ 9999) ∧ (∀ t p, t < 10 → p < 6 → 0 ≤ (a.wo t p).toInt ∧ (a.wo t p).toInt ≤ 999) ∧ (0 ≤ a.sh.toInt ∧ a.sh.toInt ≤ 100) ∧ (0 ≤ a.mi.toInt ∧ a.mi.toInt ≤ 1000) ∧ (∀ d, a.st d = true → d < a.nd) ∧ (∀ d, d < a.nd → a.st d = true → a.ta d = a.nx (a.th d) (d + 1) (a.nd - (d + 1)))
theorem TA.I.np {a : TA} (R : TA.I a) : a.np ≤ 6 := R.1
theorem TA.I.nt {a : TA} (R : TA.I a) : a.nt ≤ 10 := R.2.1
theorem TA.I.nd {a : TA} (R : TA.I a) : a.nd ≤ 30 := R.2.2.1
theorem TA.I.ho {a : TA} (R : TA.I a) : ∀ t, t < a.nt → a.ho t < a.np := R.2.2.2.1
theorem TA.I.th {a : TA} (R : TA.I a) : ∀ d, d < a.nd → a.th d < a.nt := R.2.2.2.2.1
theorem TA.I.gi {a : TA} (R : TA.I a) : ∀ d, d < a.nd → a.gi d < a.np := R.2.2.2.2.2.1
theorem TA.I.ta {a : TA} (R : TA.I a) : ∀ d, d < a.nd → a.ta d < a.np := R.2.2.2.2.2.2.1
theorem TA.I.gt {a : TA} (R : TA.I a) : ∀ d, d < a.nd → a.gi d ≠ a.ta d := R.2.2.2.2.2.2.2.1
theorem TA.I.pr {a : TA} (R : TA.I a) : ∀ d, d < a.nd → 0 ≤ (a.pr d).toInt ∧ (a.pr d).toInt ≤ 9999 := R.2.2.2.2.2.2.2.2.1
theorem TA.I.wo {a : TA} (R : TA.I a) : ∀ t p, t < 10 → p < 6 → 0 ≤ (a.wo t p).toInt ∧ (a.wo t p).toInt ≤ 999 := R.2.2.2.2.2.2.2.2.2.1
theorem TA.I.sh {a : TA} (R : TA.I a) : 0 ≤ a.sh.toInt ∧ a.sh.toInt ≤ 100 := R.2.2.2.2.2.2.2.2.2.2.1
theorem TA.I.mi {a : TA} (R : TA.I a) : 0 ≤ a.mi.toInt ∧ a.mi.toInt ≤ 1000 := R.2.2.2.2.2.2.2.2.2.2.2.1
theorem TA.I.st {a : TA} (R : TA.I a) : ∀ d, a.st d = true → d < a.nd := R.2.2.2.2.2.2.2.2.2.2.2.2.1
theorem TA.I.ch {a : TA} (R : TA.I a) : ∀ d, d < a.nd → a.st d = true → a.ta d = a.nx (a.th d) (d + 1) (a.nd - (d + 1)) := R.2.2.2.2.2.2.2.2.2.2.2.2.2
def RC (g : Nat → Nat → Int32) (a : TA) : Prop := (g 0 0 = a.li) ∧ (g 0 1 = nI a.np) ∧ (g 0 2 = nI a.nt) ∧ (g 0 3 = a.ea) ∧ (g 0 4 = a.sh) ∧ (g 0 5 = a.be) ∧ (g 0 6 = a.mi) ∧ (g 0 7 = nI a.nd) ∧ (∀ d, d < 32 → bt (g 0 8) d = a.st d) ∧ (∀ p, p < 6 → g 1 p = a.co p) ∧ (∀ t, t < a.nt → g 2 t = nI (a.ho t)) ∧ (∀ t p, t < 10 → p < 6 → g 3 (t * 6 + p) = a.wo t p) ∧ (∀ d, d < a.nd → g 4 d = nI (a.th d)) ∧ (∀ d, d < a.nd → g 5 d = nI (a.gi d)) ∧ (∀ d, d < a.nd → g 6 d = nI (a.ta d)) ∧ (∀ d, d < a.nd → g 7 d = a.pr d) ∧ (∀ d, d < a.nd → g 8 d = a.wh d)
theorem RC.li {g : Nat → Nat → Int32} {a : TA} (R : RC g a) : g 0 0 = a.li := R.1
theorem RC.np {g : Nat → Nat → Int32} {a : TA} (R : RC g a) : g 0 1 = nI a.np := R.2.1
theorem RC.nt {g : Nat → Nat → Int32} {a : TA} (R : RC g a) : g 0 2 = nI a.nt := R.2.2.1
theorem RC.ea {g : Nat → Nat → Int32} {a : TA} (R : RC g a) : g 0 3 = a.ea := R.2.2.2.1
theorem RC.sh {g : Nat → Nat → Int32} {a : TA} (R : RC g a) : g 0 4 = a.sh := R.2.2.2.2.1
theorem RC.be {g : Nat → Nat → Int32} {a : TA} (R : RC g a) : g 0 5 = a.be := R.2.2.2.2.2.1
theorem RC.mi {g : Nat → Nat → Int32} {a : TA} (R : RC g a) : g 0 6 = a.mi := R.2.2.2.2.2.2.1
theorem RC.nd {g : Nat → Nat → Int32} {a : TA} (R : RC g a) : g 0 7 = nI a.nd := R.2.2.2.2.2.2.2.1
theorem RC.st {g : Nat → Nat → Int32} {a : TA} (R : RC g a) : ∀ d, d < 32 → bt (g 0 8) d = a.st d := R.2.2.2.2.2.2.2.2.1
theorem RC.co {g : Nat → Nat → Int32} {a : TA} (R : RC g a) : ∀ p, p < 6 → g 1 p = a.co p := R.2.2.2.2.2.2.2.2.2.1
theorem RC.ho {g : Nat → Nat → Int32} {a : TA} (R : RC g a) : ∀ t, t < a.nt → g 2 t = nI (a.ho t) := R.2.2.2.2.2.2.2.2.2.2.1
theorem RC.wo {g : Nat → Nat → Int32} {a : TA} (R : RC g a) : ∀ t p, t < 10 → p < 6 → g 3 (t * 6 + p) = a.wo t p := R.2.2.2.2.2.2.2.2.2.2.2.1
theorem RC.th {g : Nat → Nat → Int32} {a : TA} (R : RC g a) : ∀ d, d < a.nd → g 4 d = nI (a.th d) := R.2.2.2.2.2.2.2.2.2.2.2.2.1
theorem RC.gi {g : Nat → Nat → Int32} {a : TA} (R : RC g a) : ∀ d, d < a.nd → g 5 d = nI (a.gi d) := R.2.2.2.2.2.2.2.2.2.2.2.2.2.1
theorem RC.ta {g : Nat → Nat → Int32} {a : TA} (R : RC g a) : ∀ d, d < a.nd → g 6 d = nI (a.ta d) := R.2.2.2.2.2.2.2.2.2.2.2.2.2.2.1
theorem RC.pr {g : Nat → Nat → Int32} {a : TA} (R : RC g a) : ∀ d, d < a.nd → g 7 d = a.pr d := R.2.2.2.2.2.2.2.2.2.2.2.2.2.2.2.1
theorem RC.wh {g : Nat → Nat → Int32} {a : TA} (R : RC g a) : ∀ d, d < a.nd → g 8 d = a.wh d := R.2.2.2.2.2.2.2.2.2.2.2.2.2.2.2.2
def mx (x : Int32) : Int32 := if 0 < x then x else 0
def TA.rung (a : TA) : Bool := !decide (a.mi < a.be)
def TA.eat (a : TA) (t : Nat) : Bool := bt a.ea t
def TA.opn (a : TA) (d : Nat) : Bool := !a.rung && (a.st d && !a.eat (a.th d))
def TA.isOf (a : TA) (d p : Nat) : Bool := decide (a.gi d = p) || decide (a.ta d = p)
def TA.wg (a : TA) (d : Nat) : Int32 := mx (a.pr d - a.wo (a.th d) (a.gi d))
def TA.wt (a : TA) (d : Nat) : Int32 := mx (a.wo (a.th d) (a.ta d) - a.pr d)
def TA.cut (a : TA) (x : Int32) : Int32 := (a.sh * x) / 100
def TA.fw (a : TA) (d f : Nat) : Bool := decide (d ≤ f) && a.st d && a.st f && decide (a.th f = a.th d)
def TA.wealth (a : TA) (p : Nat) : Int32 := a.co p + sm (fun t => if a.ho t = p then a.wo t p else 0) 0 a.nt
def TA.held (a : TA) (p : Nat) : Int32 := sm (fun t => if a.ho t = p then 1 else 0) 0 a.nt
def TA.opens (a : TA) : Int32 := it (fun s d => if a.opn d = true then s ||| bitI d else s) 0 a.nd 0
def TA.fb (a : TA) (d : Nat) : Int32 := it (fun s f => if a.fw d f = true then s ||| bitI f else s) d (a.nd - d) 0
def TA.pcf (a : TA) (p f : Nat) : Int32 := (if a.ta f = p then a.pr f else 0) - (if a.gi f = p then a.pr f else 0)
def TA.pc (a : TA) (d p : Nat) : Int32 := sm (fun f => if a.fw d f = true then a.pcf p f else 0) d (a.nd - d)
def TA.owf (a : TA) (to f : Nat) : Int32 := (if a.gi f = to then a.cut (a.wg f) else 0) + (if a.ta f = to then a.cut (a.wt f) else 0)
def TA.ow (a : TA) (d b to : Nat) : Int32 := if to = b then 0 else sm (fun f => if a.fw d f = true then a.owf to f else 0) d (a.nd - d)
def TA.oaf (a : TA) (b f : Nat) : Int32 := (if a.gi f = b then 0 else a.cut (a.wg f)) + (if a.ta f = b then 0 else a.cut (a.wt f))
def TA.owA (a : TA) (d b : Nat) : Int32 := sm (fun f => if a.fw d f = true then a.oaf b f else 0) d (a.nd - d)
def TA.pu (a : TA) (f p : Nat) : Int32 := (if a.gi f = p then a.wo (a.th f) p - a.pr f else -(a.cut (a.wg f))) + (if a.ta f = p then a.pr f - a.wo (a.th f) p else -(a.cut (a.wt f)))
def TA.po (a : TA) (f p : Nat) : Int32 := (if a.gi f = p then a.wo (a.th f) p - a.pr f + a.cut (a.wg f) else 0) + (if a.ta f = p then a.pr f - a.wo (a.th f) p + a.cut (a.wt f) else 0)
def TA.gain (a : TA) (d p : Nat) : Int32 := sm (fun f => if a.fw d f = true then a.pu f p else 0) d (a.nd - d)
def TA.whyU (a : TA) (d p : Nat) : Int32 := if a.st d = false then 2 else if a.isOf d p = false then 3 else if a.rung = true then 4 else if a.eat (a.th d) = true then 5 else if 0 ≤ (a.co p + a.pc d p) - a.owA d p then 0 else 6
section town
variable {N : Nat} {g : Nat → Nat → Int32} {a : TA}
theorem c_stands (R : RC g a) {d : Nat} (hd : d < 32) : p_X3_stands N g (nI d) = some (bI (a.st d)) := by
  unfold p_X3_stands
  rw [bt_test _ hd, R.st d hd]
  generalize a.st d = b
  cases b <;> rfl
theorem c_isEaten (R : RC g a) {t : Nat} (ht : t < 32) : p_X3_isEaten N g (nI t) = some (bI (a.eat t)) := by
  unfold p_X3_isEaten
  rw [bt_test _ ht, R.ea, TA.eat]
  generalize bt a.ea t = b
  cases b <;> rfl
theorem c_hasRung (R : RC g a) : p_X3_hasRung N g = some (bI a.rung) := by
  unfold p_X3_hasRung TA.rung
  rw [R.mi, R.be]
  by_cases h : a.mi < a.be
  · rw [if_pos h, decide_eq_true h]; rfl
  · rw [if_neg h, decide_eq_false h]; rfl
theorem c_hasPerson (R : RC g a) (I : a.I) {p : Nat} (hp : p < 2147483648) : p_X3_hasPerson N g (nI p) = some (bI (decide (p < a.np))) := by
  have := I.np
  unfold p_X3_hasPerson
  rw [R.np]
  by_cases h : p < a.np
  · simp (disch := omega) only [Option.bind_some, jlt_eq, ↓reduceIte, eq_self, jinT, zleT, zleF, zltT, zltF, zeq, zpos, zpos', zcl, zm6, z6, z84, z24, z14, z8, nI_add, zd0, zd1, zd2, zd3, zd4, zd5, bitI_e, bI0, bI1, decide_eq_true h]; rfl
  · simp (disch := omega) only [Option.bind_some, jlt_eq, ↓reduceIte, eq_self, jinT, zleT, zleF, zltT, zltF, zeq, zpos, zpos', zcl, zm6, z6, z84, z24, z14, z8, nI_add, zd0, zd1, zd2, zd3, zd4, zd5, bitI_e, bI0, bI1, decide_eq_false h]; rfl
theorem c_hasThing (R : RC g a) (I : a.I) {p : Nat} (hp : p < 2147483648) : p_X3_hasThing N g (nI p) = some (bI (decide (p < a.nt))) := by
  have := I.nt
  unfold p_X3_hasThing
  rw [R.nt]
  by_cases h : p < a.nt
  · simp (disch := omega) only [Option.bind_some, jlt_eq, ↓reduceIte, eq_self, jinT, zleT, zleF, zltT, zltF, zeq, zpos, zpos', zcl, zm6, z6, z84, z24, z14, z8, nI_add, zd0, zd1, zd2, zd3, zd4, zd5, bitI_e, bI0, bI1, decide_eq_true h]; rfl
  · simp (disch := omega) only [Option.bind_some, jlt_eq, ↓reduceIte, eq_self, jinT, zleT, zleF, zltT, zltF, zeq, zpos, zpos', zcl, zm6, z6, z84, z24, z14, z8, nI_add, zd0, zd1, zd2, zd3, zd4, zd5, bitI_e, bI0, bI1, decide_eq_false h]; rfl
theorem c_hasDeed (R : RC g a) (I : a.I) {p : Nat} (hp : p < 2147483648) : p_X3_hasDeed N g (nI p) = some (bI (decide (p < a.nd))) := by
  have := I.nd
  unfold p_X3_hasDeed
  rw [R.nd]
  by_cases h : p < a.nd
  · simp (disch := omega) only [Option.bind_some, jlt_eq, ↓reduceIte, eq_self, jinT, zleT, zleF, zltT, zltF, zeq, zpos, zpos', zcl, zm6, z6, z84, z24, z14, z8, nI_add, zd0, zd1, zd2, zd3, zd4, zd5, bitI_e, bI0, bI1, decide_eq_true h]; rfl
  · simp (disch := omega) only [Option.bind_some, jlt_eq, ↓reduceIte, eq_self, jinT, zleT, zleF, zltT, zltF, zeq, zpos, zpos', zcl, zm6, z6, z84, z24, z14, z8, nI_add, zd0, zd1, zd2, zd3, zd4, zd5, bitI_e, bI0, bI1, decide_eq_false h]; rfl
theorem c_hasPersonN {x : Int32} (h : x < 0) : p_X3_hasPerson N g x = some 0 := by unfold p_X3_hasPerson; rw [if_pos h]
theorem c_hasThingN {x : Int32} (h : x < 0) : p_X3_hasThing N g x = some 0 := by unfold p_X3_hasThing; rw [if_pos h]
theorem c_hasDeedN {x : Int32} (h : x < 0) : p_X3_hasDeed N g x = some 0 := by unfold p_X3_hasDeed; rw [if_pos h]
theorem c_isOpen (R : RC g a) (I : a.I) {d : Nat} (hd : d < a.nd) : p_X3_isOpen N g (nI d) = some (bI (a.opn d)) := by
  have h1 := I.nd
  have h2 := I.th d hd
  have h3 := I.nt
  unfold p_X3_isOpen
  simp (disch := omega) only [Option.bind_some, jlt_eq, ↓reduceIte, eq_self, jinT, zleT, zleF, zltT, zltF, zeq, zpos, zpos', zcl, zm6, z6, z84, z24, z14, z8, nI_add, zd0, zd1, zd2, zd3, zd4, zd5, bitI_e, bI0, bI1, c_hasRung R, c_stands R, c_isEaten R, R.th d hd]
  unfold TA.opn
  cases a.rung <;> cases a.st d <;> cases a.eat (a.th d) <;> rfl
theorem c_isOf (R : RC g a) (I : a.I) {d p : Nat} (hd : d < a.nd) (hp : p < 2147483648) : p_X3_isOf N g (nI d) (nI p) = some (bI (a.isOf d p)) := by
  have h1 := I.nd
  have h2 := I.gi d hd
  have h3 := I.ta d hd
  have h4 := I.np
  unfold p_X3_isOf TA.isOf
  simp (disch := omega) only [Option.bind_some, jlt_eq, ↓reduceIte, eq_self, jinT, zleT, zleF, zltT, zltF, zeq, zpos, zpos', zcl, zm6, z6, z84, z24, z14, z8, nI_add, zd0, zd1, zd2, zd3, zd4, zd5, bitI_e, bI0, bI1, R.gi d hd, R.ta d hd]
  by_cases h : a.gi d = p
  · rw [if_pos h, decide_eq_true h]; rfl
  · rw [if_neg h, decide_eq_false h]
    by_cases h : a.ta d = p
    · rw [if_pos h, decide_eq_true h]; rfl
    · rw [if_neg h, decide_eq_false h]; rfl
theorem c_side0 (R : RC g a) (I : a.I) {d : Nat} (hd : d < a.nd) : p_X3_sideOf N g (nI d) 0 = some (nI (a.gi d)) := by
  have h1 := I.nd
  unfold p_X3_sideOf
  simp (disch := omega) only [Option.bind_some, jlt_eq, ↓reduceIte, eq_self, jinT, zleT, zleF, zltT, zltF, zeq, zpos, zpos', zcl, zm6, z6, z84, z24, z14, z8, nI_add, zd0, zd1, zd2, zd3, zd4, zd5, bitI_e, bI0, bI1, R.gi d hd]
theorem c_side1 (R : RC g a) (I : a.I) {d : Nat} (hd : d < a.nd) : p_X3_sideOf N g (nI d) 1 = some (nI (a.ta d)) := by
  have h1 := I.nd
  have h2 : ¬ ((1 : Int32) = 0) := by decide
  unfold p_X3_sideOf
  simp (disch := omega) only [Option.bind_some, jlt_eq, ↓reduceIte, eq_self, jinT, zleT, zleF, zltT, zltF, zeq, zpos, zpos', zcl, zm6, z6, z84, z24, z14, z8, nI_add, zd0, zd1, zd2, zd3, zd4, zd5, bitI_e, bI0, bI1, R.ta d hd, h2]
theorem c_worthTo (R : RC g a) {t p : Nat} (ht : t < 10) (hp : p < 6) : p_X3_worthTo N g (nI t) (nI p) = some (a.wo t p) := by
  unfold p_X3_worthTo
  simp (disch := omega) only [Option.bind_some, jlt_eq, ↓reduceIte, eq_self, jinT, zleT, zleF, zltT, zltF, zeq, zpos, zpos', zcl, zm6, z6, z84, z24, z14, z8, nI_add, zd0, zd1, zd2, zd3, zd4, zd5, bitI_e, bI0, bI1, R.wo t p ht hp]
theorem c_openBits (hN : 2000 ≤ N) (R : RC g a) (I : a.I) : p_X3_openBits N g = some a.opens := by
  have h1 := I.nd
  unfold p_X3_openBits TA.opens
  refine lp_it (L := fun n s i => p_X3_openBits_b4 N g n s i) (m := a.nd) (fin := some) ?_ ?_ a.nd 0 N 0 (by omega) (by omega)
  · intro n s
    show p_X3_openBits_b4 N g (n + 1) s (nI a.nd) = _
    rw [p_X3_openBits_b4, R.nd]
    simp (disch := omega) only [Option.bind_some, jlt_eq, ↓reduceIte, eq_self, jinT, zleT, zleF, zltT, zltF, zeq, zpos, zpos', zcl, zm6, z6, z84, z24, z14, z8, nI_add, zd0, zd1, zd2, zd3, zd4, zd5, bitI_e, bI0, bI1]
  · intro n s j hj
    show p_X3_openBits_b4 N g (n + 1) s (nI j) = p_X3_openBits_b4 N g n _ _
    rw [p_X3_openBits_b4, R.nd]
    simp (disch := omega) only [Option.bind_some, jlt_eq, ↓reduceIte, eq_self, jinT, zleT, zleF, zltT, zltF, zeq, zpos, zpos', zcl, zm6, z6, z84, z24, z14, z8, nI_add, zd0, zd1, zd2, zd3, zd4, zd5, bitI_e, bI0, bI1, c_isOpen R I hj, p_X3_openBits_b26]
    cases a.opn j <;> rfl
theorem c_held (hN : 2000 ≤ N) (R : RC g a) (I : a.I) {p : Nat} (hp : p < a.np) : p_X3_held N g (nI p) = some (a.held p) := by
  have h1 := I.nt
  have h2 := I.np
  unfold p_X3_held TA.held sm
  refine lp_it (L := fun n s i => p_X3_held_b4 N g n (nI p) s i) (m := a.nt) (fin := some) ?_ ?_ a.nt 0 N 0 (by omega) (by omega)
  · intro n s
    show p_X3_held_b4 N g (n + 1) (nI p) s (nI a.nt) = _
    rw [p_X3_held_b4, R.nt]
    simp (disch := omega) only [Option.bind_some, jlt_eq, ↓reduceIte, eq_self, jinT, zleT, zleF, zltT, zltF, zeq, zpos, zpos', zcl, zm6, z6, z84, z24, z14, z8, nI_add, zd0, zd1, zd2, zd3, zd4, zd5, bitI_e, bI0, bI1]
  · intro n s j hj
    have h3 := I.ho j hj
    show p_X3_held_b4 N g (n + 1) (nI p) s (nI j) = p_X3_held_b4 N g n (nI p) _ _
    rw [p_X3_held_b4, R.nt]
    simp (disch := omega) only [Option.bind_some, jlt_eq, ↓reduceIte, eq_self, jinT, zleT, zleF, zltT, zltF, zeq, zpos, zpos', zcl, zm6, z6, z84, z24, z14, z8, nI_add, zd0, zd1, zd2, zd3, zd4, zd5, bitI_e, bI0, bI1, R.ho j hj, p_X3_held_b25]
    by_cases h : a.ho j = p
    · rw [if_pos h, if_pos h]
    · rw [if_neg h, if_neg h, Int32.add_zero]
theorem c_wealth (hN : 2000 ≤ N) (R : RC g a) (I : a.I) {p : Nat} (hp : p < a.np) : p_X3_wealth N g (nI p) = some (a.wealth p) := by
  have h1 := I.nt
  have h2 := I.np
  unfold p_X3_wealth TA.wealth
  simp (disch := omega) only [Option.bind_some, jlt_eq, ↓reduceIte, eq_self, jinT, zleT, zleF, zltT, zltF, zeq, zpos, zpos', zcl, zm6, z6, z84, z24, z14, z8, nI_add, zd0, zd1, zd2, zd3, zd4, zd5, bitI_e, bI0, bI1, R.co p (by omega)]
  rw [← it_add]
  refine lp_it (L := fun n s i => p_X3_wealth_b9 N g n (nI p) s i) (m := a.nt) (fin := some) ?_ ?_ a.nt 0 N _ (by omega) (by omega)
  · intro n s
    show p_X3_wealth_b9 N g (n + 1) (nI p) s (nI a.nt) = _
    rw [p_X3_wealth_b9, R.nt]
    simp (disch := omega) only [Option.bind_some, jlt_eq, ↓reduceIte, eq_self, jinT, zleT, zleF, zltT, zltF, zeq, zpos, zpos', zcl, zm6, z6, z84, z24, z14, z8, nI_add, zd0, zd1, zd2, zd3, zd4, zd5, bitI_e, bI0, bI1]
  · intro n s j hj
    have h3 := I.ho j hj
    show p_X3_wealth_b9 N g (n + 1) (nI p) s (nI j) = p_X3_wealth_b9 N g n (nI p) _ _
    rw [p_X3_wealth_b9, R.nt]
    simp (disch := omega) only [Option.bind_some, jlt_eq, ↓reduceIte, eq_self, jinT, zleT, zleF, zltT, zltF, zeq, zpos, zpos', zcl, zm6, z6, z84, z24, z14, z8, nI_add, zd0, zd1, zd2, zd3, zd4, zd5, bitI_e, bI0, bI1, R.ho j hj, p_X3_wealth_b36, c_worthTo R (show j < 10 by omega) (show p < 6 by omega)]
    by_cases h : a.ho j = p
    · rw [if_pos h, if_pos h]
    · rw [if_neg h, if_neg h, Int32.add_zero]
theorem c_coinsOfAll (hN : 2000 ≤ N) (R : RC g a) (I : a.I) : p_X3_coinsOfAll N g = some (sm a.co 0 a.np) := by
  have h2 := I.np
  unfold p_X3_coinsOfAll sm
  refine lp_it (L := fun n s i => p_X3_coinsOfAll_b4 N g n s i) (m := a.np) (fin := some) ?_ ?_ a.np 0 N _ (by omega) (by omega)
  · intro n s
    show p_X3_coinsOfAll_b4 N g (n + 1) s (nI a.np) = _
    rw [p_X3_coinsOfAll_b4, R.np]
    simp (disch := omega) only [Option.bind_some, jlt_eq, ↓reduceIte, eq_self, jinT, zleT, zleF, zltT, zltF, zeq, zpos, zpos', zcl, zm6, z6, z84, z24, z14, z8, nI_add, zd0, zd1, zd2, zd3, zd4, zd5, bitI_e, bI0, bI1]
  · intro n s j hj
    show p_X3_coinsOfAll_b4 N g (n + 1) s (nI j) = p_X3_coinsOfAll_b4 N g n _ _
    rw [p_X3_coinsOfAll_b4, R.np]
    simp (disch := omega) only [Option.bind_some, jlt_eq, ↓reduceIte, eq_self, jinT, zleT, zleF, zltT, zltF, zeq, zpos, zpos', zcl, zm6, z6, z84, z24, z14, z8, nI_add, zd0, zd1, zd2, zd3, zd4, zd5, bitI_e, bI0, bI1, R.co j (by omega)]
theorem c_wealthOfAll (hN : 2000 ≤ N) (R : RC g a) (I : a.I) : p_X3_wealthOfAll N g = some (sm a.wealth 0 a.np) := by
  have h2 := I.np
  unfold p_X3_wealthOfAll sm
  refine lp_it (L := fun n s i => p_X3_wealthOfAll_b4 N g n s i) (m := a.np) (fin := some) ?_ ?_ a.np 0 N _ (by omega) (by omega)
  · intro n s
    show p_X3_wealthOfAll_b4 N g (n + 1) s (nI a.np) = _
    rw [p_X3_wealthOfAll_b4, R.np]
    simp (disch := omega) only [Option.bind_some, jlt_eq, ↓reduceIte, eq_self, jinT, zleT, zleF, zltT, zltF, zeq, zpos, zpos', zcl, zm6, z6, z84, z24, z14, z8, nI_add, zd0, zd1, zd2, zd3, zd4, zd5, bitI_e, bI0, bI1]
  · intro n s j hj
    show p_X3_wealthOfAll_b4 N g (n + 1) s (nI j) = p_X3_wealthOfAll_b4 N g n _ _
    rw [p_X3_wealthOfAll_b4, R.np]
    simp (disch := omega) only [Option.bind_some, jlt_eq, ↓reduceIte, eq_self, jinT, zleT, zleF, zltT, zltF, zeq, zpos, zpos', zcl, zm6, z6, z84, z24, z14, z8, nI_add, zd0, zd1, zd2, zd3, zd4, zd5, bitI_e, bI0, bI1, c_wealth hN R I hj]
theorem c_worthToGiver (R : RC g a) (I : a.I) {d : Nat} (hd : d < a.nd) : p_X3_worthToGiver N g (nI d) = some (a.wg d) := by
  have h1 := I.nd
  have h2 := I.th d hd
  have h3 := I.gi d hd
  have h4 := I.np
  have h5 := I.nt
  unfold p_X3_worthToGiver TA.wg mx
  simp (disch := omega) only [Option.bind_some, jlt_eq, ↓reduceIte, eq_self, jinT, zleT, zleF, zltT, zltF, zeq, zpos, zpos', zcl, zm6, z6, z84, z24, z14, z8, nI_add, zd0, zd1, zd2, zd3, zd4, zd5, bitI_e, bI0, bI1, R.th d hd, R.gi d hd, R.pr d hd, c_worthTo R (show a.th d < 10 by omega) (show a.gi d < 6 by omega)]
theorem c_worthToTaker (R : RC g a) (I : a.I) {d : Nat} (hd : d < a.nd) : p_X3_worthToTaker N g (nI d) = some (a.wt d) := by
  have h1 := I.nd
  have h2 := I.th d hd
  have h3 := I.ta d hd
  have h4 := I.np
  have h5 := I.nt
  unfold p_X3_worthToTaker TA.wt mx
  simp (disch := omega) only [Option.bind_some, jlt_eq, ↓reduceIte, eq_self, jinT, zleT, zleF, zltT, zltF, zeq, zpos, zpos', zcl, zm6, z6, z84, z24, z14, z8, nI_add, zd0, zd1, zd2, zd3, zd4, zd5, bitI_e, bI0, bI1, R.th d hd, R.ta d hd, R.pr d hd, c_worthTo R (show a.th d < 10 by omega) (show a.ta d < 6 by omega)]
theorem c_cut (R : RC g a) (x : Int32) : p_X3_cut N g x = some (a.cut x) := by
  unfold p_X3_cut TA.cut
  rw [R.sh]
theorem c_fallsWith (R : RC g a) (I : a.I) {d f : Nat} (hd : d < a.nd) (hf : f < a.nd) : p_X3_fallsWith N g (nI f) (nI d) = some (bI (a.fw d f)) := by
  have h1 := I.nd
  have h2 := I.th d hd
  have h3 := I.th f hf
  have h5 := I.nt
  unfold p_X3_fallsWith TA.fw
  by_cases h : d ≤ f
  · simp (disch := omega) only [Option.bind_some, jlt_eq, ↓reduceIte, eq_self, jinT, zleT, zleF, zltT, zltF, zeq, zpos, zpos', zcl, zm6, z6, z84, z24, z14, z8, nI_add, zd0, zd1, zd2, zd3, zd4, zd5, bitI_e, bI0, bI1, c_stands R, R.th d hd, R.th f hf, decide_eq_true h]
    by_cases e : a.th f = a.th d
    · rw [decide_eq_true e]
      cases a.st d <;> cases a.st f <;> first | rfl | (simp only [e, ↓reduceIte]; rfl)
    · rw [decide_eq_false e]
      cases a.st d <;> cases a.st f <;> first | rfl | (simp only [e, ↓reduceIte]; rfl)
  · simp (disch := omega) only [Option.bind_some, jlt_eq, ↓reduceIte, eq_self, jinT, zleT, zleF, zltT, zltF, zeq, zpos, zpos', zcl, zm6, z6, z84, z24, z14, z8, nI_add, zd0, zd1, zd2, zd3, zd4, zd5, bitI_e, bI0, bI1, decide_eq_false h]
    rfl
end town

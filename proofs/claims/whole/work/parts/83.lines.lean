/-! a town while it is read -/
def LA : Type := (Int32) × (Nat) × (Nat) × (Int32) × (Int32) × (Int32) × (Nat → Int32) × (Nat → Nat) × (Nat → Nat → Int32)
def LA.mk (li : Int32) (np : Nat) (nt : Nat) (ea : Int32) (sh : Int32) (be : Int32) (co : Nat → Int32) (ho : Nat → Nat) (wo : Nat → Nat → Int32) : LA := (li, np, nt, ea, sh, be, co, ho, wo)
def LA.li (a : LA) : Int32 := a.1
def LA.np (a : LA) : Nat := a.2.1
def LA.nt (a : LA) : Nat := a.2.2.1
def LA.ea (a : LA) : Int32 := a.2.2.2.1
def LA.sh (a : LA) : Int32 := a.2.2.2.2.1
def LA.be (a : LA) : Int32 := a.2.2.2.2.2.1
def LA.co (a : LA) : Nat → Int32 := a.2.2.2.2.2.2.1
def LA.ho (a : LA) : Nat → Nat := a.2.2.2.2.2.2.2.1
def LA.wo (a : LA) : Nat → Nat → Int32 := a.2.2.2.2.2.2.2.2
def CB (g : Nat → Nat → Int32) (l : LA) : Prop := (g 0 0 = l.li) ∧ (g 0 1 = nI l.np) ∧ (g 0 2 = nI l.nt) ∧ (g 0 3 = l.ea) ∧ (g 0 4 = l.sh) ∧ (g 0 5 = l.be) ∧ (g 0 6 = 0) ∧ (g 0 7 = 0) ∧ (g 0 8 = 0) ∧ (∀ p, p < 6 → g 1 p = l.co p) ∧ (∀ t, t < l.nt → g 2 t = nI (l.ho t)) ∧ (∀ t p, t < 10 → p < 6 → g 3 (t * 6 + p) = l.wo t p)
theorem CB.li {g : Nat → Nat → Int32} {l : LA} (R : CB g l) : g 0 0 = l.li := R.1
theorem CB.np {g : Nat → Nat → Int32} {l : LA} (R : CB g l) : g 0 1 = nI l.np := R.2.1
theorem CB.nt {g : Nat → Nat → Int32} {l : LA} (R : CB g l) : g 0 2 = nI l.nt := R.2.2.1
theorem CB.ea {g : Nat → Nat → Int32} {l : LA} (R : CB g l) : g 0 3 = l.ea := R.2.2.2.1
theorem CB.sh {g : Nat → Nat → Int32} {l : LA} (R : CB g l) : g 0 4 = l.sh := R.2.2.2.2.1
theorem CB.be {g : Nat → Nat → Int32} {l : LA} (R : CB g l) : g 0 5 = l.be := R.2.2.2.2.2.1
theorem CB.y6 {g : Nat → Nat → Int32} {l : LA} (R : CB g l) : g 0 6 = 0 := R.2.2.2.2.2.2.1
theorem CB.y7 {g : Nat → Nat → Int32} {l : LA} (R : CB g l) : g 0 7 = 0 := R.2.2.2.2.2.2.2.1
theorem CB.y8 {g : Nat → Nat → Int32} {l : LA} (R : CB g l) : g 0 8 = 0 := R.2.2.2.2.2.2.2.2.1
theorem CB.co {g : Nat → Nat → Int32} {l : LA} (R : CB g l) : ∀ p, p < 6 → g 1 p = l.co p := R.2.2.2.2.2.2.2.2.2.1
theorem CB.ho {g : Nat → Nat → Int32} {l : LA} (R : CB g l) : ∀ t, t < l.nt → g 2 t = nI (l.ho t) := R.2.2.2.2.2.2.2.2.2.2.1
theorem CB.wo {g : Nat → Nat → Int32} {l : LA} (R : CB g l) : ∀ t p, t < 10 → p < 6 → g 3 (t * 6 + p) = l.wo t p := R.2.2.2.2.2.2.2.2.2.2.2
def DB (T : Nat → Int32) (l : LA) : Prop := (T 0 = l.li) ∧ (T 1 = nI l.np) ∧ (T 2 = nI l.nt) ∧ (T 3 = l.ea) ∧ (T 4 = l.sh) ∧ (T 5 = l.be) ∧ (T 6 = 0) ∧ (T 7 = 0) ∧ (∀ p, p < 6 → T (8 + p) = l.co p) ∧ (∀ t, t < l.nt → T (14 + t) = nI (l.ho t)) ∧ (∀ t p, t < 10 → p < 6 → T (24 + 6 * t + p) = l.wo t p)
theorem DB.li {T : Nat → Int32} {l : LA} (R : DB T l) : T 0 = l.li := R.1
theorem DB.np {T : Nat → Int32} {l : LA} (R : DB T l) : T 1 = nI l.np := R.2.1
theorem DB.nt {T : Nat → Int32} {l : LA} (R : DB T l) : T 2 = nI l.nt := R.2.2.1
theorem DB.ea {T : Nat → Int32} {l : LA} (R : DB T l) : T 3 = l.ea := R.2.2.2.1
theorem DB.sh {T : Nat → Int32} {l : LA} (R : DB T l) : T 4 = l.sh := R.2.2.2.2.1
theorem DB.be {T : Nat → Int32} {l : LA} (R : DB T l) : T 5 = l.be := R.2.2.2.2.2.1
theorem DB.y6 {T : Nat → Int32} {l : LA} (R : DB T l) : T 6 = 0 := R.2.2.2.2.2.2.1
theorem DB.y7 {T : Nat → Int32} {l : LA} (R : DB T l) : T 7 = 0 := R.2.2.2.2.2.2.2.1
theorem DB.co {T : Nat → Int32} {l : LA} (R : DB T l) : ∀ p, p < 6 → T (8 + p) = l.co p := R.2.2.2.2.2.2.2.2.1
theorem DB.ho {T : Nat → Int32} {l : LA} (R : DB T l) : ∀ t, t < l.nt → T (14 + t) = nI (l.ho t) := R.2.2.2.2.2.2.2.2.2.1
theorem DB.wo {T : Nat → Int32} {l : LA} (R : DB T l) : ∀ t p, t < 10 → p < 6 → T (24 + 6 * t + p) = l.wo t p := R.2.2.2.2.2.2.2.2.2.2
def LA.I (l : LA) : Prop := (l.np ≤ 6) ∧ (l.nt ≤ 10) ∧ (∀ t, t < l.nt → l.ho t < l.np) ∧ (∀ t p, t < 10 → p < 6 → 0 ≤ (l.wo t p).toInt ∧ (l.wo t p).toInt ≤ 999) ∧ (0 ≤ l.sh.toInt ∧ l.sh.toInt ≤ 100)
theorem LA.I.np {l : LA} (R : LA.I l) : l.np ≤ 6 := R.1
theorem LA.I.nt {l : LA} (R : LA.I l) : l.nt ≤ 10 := R.2.1
theorem LA.I.ho {l : LA} (R : LA.I l) : ∀ t, t < l.nt → l.ho t < l.np := R.2.2.1
theorem LA.I.wo {l : LA} (R : LA.I l) : ∀ t p, t < 10 → p < 6 → 0 ≤ (l.wo t p).toInt ∧ (l.wo t p).toInt ≤ 999 := R.2.2.2.1
theorem LA.I.sh {l : LA} (R : LA.I l) : 0 ≤ l.sh.toInt ∧ l.sh.toInt ≤ 100 := R.2.2.2.2
def LA.ta (l : LA) : TA := TA.mk l.li l.np l.nt l.ea l.sh l.be 0 0 l.co l.ho l.wo (fun _ => 0) (fun _ => 0) (fun _ => 0) (fun _ => 0) (fun _ => 0) (fun _ => false)
theorem LA.I.ta {l : LA} (I : l.I) : l.ta.I := ⟨I.np, I.nt, Nat.zero_le _, I.ho, fun _ h => absurd h (Nat.not_lt_zero _), fun _ h => absurd h (Nat.not_lt_zero _), fun _ h => absurd h (Nat.not_lt_zero _), fun _ h => absurd h (Nat.not_lt_zero _), fun _ h => absurd h (Nat.not_lt_zero _), I.wo, I.sh, (show 0 ≤ (0 : Int32).toInt ∧ (0 : Int32).toInt ≤ 1000 by decide), fun _ h => absurd (show false = true from h) (by decide), fun _ h => absurd h (Nat.not_lt_zero _)⟩
theorem CB.rc {g : Nat → Nat → Int32} {l : LA} (C : CB g l) : RC g l.ta := ⟨C.li, C.np, C.nt, C.ea, C.sh, C.be, C.y6, C.y7, fun d _ => by rw [C.y8, b_0]; rfl, C.co, C.ho, C.wo, fun _ h => absurd h (Nat.not_lt_zero _), fun _ h => absurd h (Nat.not_lt_zero _), fun _ h => absurd h (Nat.not_lt_zero _), fun _ h => absurd h (Nat.not_lt_zero _), fun _ h => absurd h (Nat.not_lt_zero _)⟩
theorem DB.rm {T : Nat → Int32} {l : LA} (D : DB T l) : RM T l.ta := ⟨D.li, D.np, D.nt, D.ea, D.sh, D.be, D.y6, D.y7, D.co, D.ho, D.wo, fun _ h => absurd h (Nat.not_lt_zero _), fun _ h => absurd h (Nat.not_lt_zero _), fun _ h => absurd h (Nat.not_lt_zero _), fun _ h => absurd h (Nat.not_lt_zero _), fun _ h => absurd h (Nat.not_lt_zero _), fun _ h => absurd h (Nat.not_lt_zero _)⟩
def LA.sNp (l : LA) (v : Nat) : LA := LA.mk l.li v l.nt l.ea l.sh l.be l.co l.ho l.wo
def LA.sCo (l : LA) (p : Nat) (v : Int32) : LA := LA.mk l.li l.np l.nt l.ea l.sh l.be (fun q => if q = p then v else l.co q) l.ho l.wo
def LA.sWo (l : LA) (t p : Nat) (v : Int32) : LA := LA.mk l.li l.np l.nt l.ea l.sh l.be l.co l.ho (fun s q => if s = t ∧ q = p then v else l.wo s q)
def LA.sSh (l : LA) (v : Int32) : LA := LA.mk l.li l.np l.nt l.ea v l.be l.co l.ho l.wo
def LA.sBe (l : LA) (v : Int32) : LA := LA.mk l.li l.np l.nt l.ea l.sh v l.co l.ho l.wo
def LA.sEa (l : LA) (v : Int32) : LA := LA.mk l.li l.np l.nt v l.sh l.be l.co l.ho l.wo
def LA.sLi (l : LA) : LA := LA.mk (l.li + 1) l.np l.nt l.ea l.sh l.be l.co l.ho l.wo
def LA.sTh (l : LA) (h : Nat) : LA := LA.mk l.li l.np (l.nt + 1) l.ea l.sh l.be l.co (fun s => if s = l.nt then h else l.ho s) l.wo
section lines
variable {N : Nat} {G G2 : Nat → Nat → Int32} {J J2 : Nat → Nat → Int64} {tp : Nat → Nat} {lim : Nat} {t : Nat × Nat × Nat × Nat} {l : LA} {g : Nat → Nat → Int32} {T : Nat → Int32}
theorem CB.sNp (C : CB g l) {v : Nat} (h0 : l.nt = 0) : CB (jup g 0 1 (nI v)) (l.sNp v) := by
  refine ⟨?_, ?_, ?_, ?_, ?_, ?_, ?_, ?_, ?_, ?_, ?_, ?_⟩
  · simp (disch := omega) only [Option.bind_some, jlt_eq, ↓reduceIte, eq_self, jinT, zleT, zleF, zltT, zltF, zeq, zpos, zpos', zcl, zm6, z6, z84, z24, z14, z8, nI_add, zd0, zd1, zd2, zd3, zd4, zd5, bitI_e, bI0, bI1, jup_s, upd_n]; exact C.li
  · simp (disch := omega) only [Option.bind_some, jlt_eq, ↓reduceIte, eq_self, jinT, zleT, zleF, zltT, zltF, zeq, zpos, zpos', zcl, zm6, z6, z84, z24, z14, z8, nI_add, zd0, zd1, zd2, zd3, zd4, zd5, bitI_e, bI0, bI1, jup_s, upd_s]; rfl
  · simp (disch := omega) only [Option.bind_some, jlt_eq, ↓reduceIte, eq_self, jinT, zleT, zleF, zltT, zltF, zeq, zpos, zpos', zcl, zm6, z6, z84, z24, z14, z8, nI_add, zd0, zd1, zd2, zd3, zd4, zd5, bitI_e, bI0, bI1, jup_s, upd_n]; exact C.nt
  · simp (disch := omega) only [Option.bind_some, jlt_eq, ↓reduceIte, eq_self, jinT, zleT, zleF, zltT, zltF, zeq, zpos, zpos', zcl, zm6, z6, z84, z24, z14, z8, nI_add, zd0, zd1, zd2, zd3, zd4, zd5, bitI_e, bI0, bI1, jup_s, upd_n]; exact C.ea
  · simp (disch := omega) only [Option.bind_some, jlt_eq, ↓reduceIte, eq_self, jinT, zleT, zleF, zltT, zltF, zeq, zpos, zpos', zcl, zm6, z6, z84, z24, z14, z8, nI_add, zd0, zd1, zd2, zd3, zd4, zd5, bitI_e, bI0, bI1, jup_s, upd_n]; exact C.sh
  · simp (disch := omega) only [Option.bind_some, jlt_eq, ↓reduceIte, eq_self, jinT, zleT, zleF, zltT, zltF, zeq, zpos, zpos', zcl, zm6, z6, z84, z24, z14, z8, nI_add, zd0, zd1, zd2, zd3, zd4, zd5, bitI_e, bI0, bI1, jup_s, upd_n]; exact C.be
  · simp (disch := omega) only [Option.bind_some, jlt_eq, ↓reduceIte, eq_self, jinT, zleT, zleF, zltT, zltF, zeq, zpos, zpos', zcl, zm6, z6, z84, z24, z14, z8, nI_add, zd0, zd1, zd2, zd3, zd4, zd5, bitI_e, bI0, bI1, jup_s, upd_n]; exact C.y6
  · simp (disch := omega) only [Option.bind_some, jlt_eq, ↓reduceIte, eq_self, jinT, zleT, zleF, zltT, zltF, zeq, zpos, zpos', zcl, zm6, z6, z84, z24, z14, z8, nI_add, zd0, zd1, zd2, zd3, zd4, zd5, bitI_e, bI0, bI1, jup_s, upd_n]; exact C.y7
  · simp (disch := omega) only [Option.bind_some, jlt_eq, ↓reduceIte, eq_self, jinT, zleT, zleF, zltT, zltF, zeq, zpos, zpos', zcl, zm6, z6, z84, z24, z14, z8, nI_add, zd0, zd1, zd2, zd3, zd4, zd5, bitI_e, bI0, bI1, jup_s, upd_n]; exact C.y8
  · simp (disch := omega) only [Option.bind_some, jlt_eq, ↓reduceIte, eq_self, jinT, zleT, zleF, zltT, zltF, zeq, zpos, zpos', zcl, zm6, z6, z84, z24, z14, z8, nI_add, zd0, zd1, zd2, zd3, zd4, zd5, bitI_e, bI0, bI1, jup_n]; exact C.co
  · simp (disch := omega) only [Option.bind_some, jlt_eq, ↓reduceIte, eq_self, jinT, zleT, zleF, zltT, zltF, zeq, zpos, zpos', zcl, zm6, z6, z84, z24, z14, z8, nI_add, zd0, zd1, zd2, zd3, zd4, zd5, bitI_e, bI0, bI1, jup_n]; exact C.ho
  · simp (disch := omega) only [Option.bind_some, jlt_eq, ↓reduceIte, eq_self, jinT, zleT, zleF, zltT, zltF, zeq, zpos, zpos', zcl, zm6, z6, z84, z24, z14, z8, nI_add, zd0, zd1, zd2, zd3, zd4, zd5, bitI_e, bI0, bI1, jup_n]; exact C.wo
theorem CB.slot (C : CB g l) {i : Nat} {v : Int32} {l2 : LA} (hi : i = 0 ∨ i = 3 ∨ i = 4 ∨ i = 5) (h : l2 = LA.mk (if i = 0 then v else l.li) l.np l.nt (if i = 3 then v else l.ea) (if i = 4 then v else l.sh) (if i = 5 then v else l.be) l.co l.ho l.wo) : CB (jup g 0 i v) l2 := by
  subst h
  refine ⟨?_, ?_, ?_, ?_, ?_, ?_, ?_, ?_, ?_, ?_, ?_, ?_⟩
  · rw [jup_s, upd_i]
    show _ = if i = 0 then v else l.li
    by_cases e : i = 0
    · rw [if_pos e.symm, if_pos e]
    · rw [if_neg (fun h => e h.symm), if_neg e]; exact C.li
  · simp (disch := omega) only [Option.bind_some, jlt_eq, ↓reduceIte, eq_self, jinT, zleT, zleF, zltT, zltF, zeq, zpos, zpos', zcl, zm6, z6, z84, z24, z14, z8, nI_add, zd0, zd1, zd2, zd3, zd4, zd5, bitI_e, bI0, bI1, jup_s, upd_n]; exact C.np
  · simp (disch := omega) only [Option.bind_some, jlt_eq, ↓reduceIte, eq_self, jinT, zleT, zleF, zltT, zltF, zeq, zpos, zpos', zcl, zm6, z6, z84, z24, z14, z8, nI_add, zd0, zd1, zd2, zd3, zd4, zd5, bitI_e, bI0, bI1, jup_s, upd_n]; exact C.nt
  · rw [jup_s, upd_i]
    show _ = if i = 3 then v else l.ea
    by_cases e : i = 3
    · rw [if_pos e.symm, if_pos e]
    · rw [if_neg (fun h => e h.symm), if_neg e]; exact C.ea
  · rw [jup_s, upd_i]
    show _ = if i = 4 then v else l.sh
    by_cases e : i = 4
    · rw [if_pos e.symm, if_pos e]
    · rw [if_neg (fun h => e h.symm), if_neg e]; exact C.sh
  · rw [jup_s, upd_i]
    show _ = if i = 5 then v else l.be
    by_cases e : i = 5
    · rw [if_pos e.symm, if_pos e]
    · rw [if_neg (fun h => e h.symm), if_neg e]; exact C.be
  · simp (disch := omega) only [Option.bind_some, jlt_eq, ↓reduceIte, eq_self, jinT, zleT, zleF, zltT, zltF, zeq, zpos, zpos', zcl, zm6, z6, z84, z24, z14, z8, nI_add, zd0, zd1, zd2, zd3, zd4, zd5, bitI_e, bI0, bI1, jup_s, upd_n]; exact C.y6
  · simp (disch := omega) only [Option.bind_some, jlt_eq, ↓reduceIte, eq_self, jinT, zleT, zleF, zltT, zltF, zeq, zpos, zpos', zcl, zm6, z6, z84, z24, z14, z8, nI_add, zd0, zd1, zd2, zd3, zd4, zd5, bitI_e, bI0, bI1, jup_s, upd_n]; exact C.y7
  · simp (disch := omega) only [Option.bind_some, jlt_eq, ↓reduceIte, eq_self, jinT, zleT, zleF, zltT, zltF, zeq, zpos, zpos', zcl, zm6, z6, z84, z24, z14, z8, nI_add, zd0, zd1, zd2, zd3, zd4, zd5, bitI_e, bI0, bI1, jup_s, upd_n]; exact C.y8
  · simp (disch := omega) only [Option.bind_some, jlt_eq, ↓reduceIte, eq_self, jinT, zleT, zleF, zltT, zltF, zeq, zpos, zpos', zcl, zm6, z6, z84, z24, z14, z8, nI_add, zd0, zd1, zd2, zd3, zd4, zd5, bitI_e, bI0, bI1, jup_n]; exact C.co
  · simp (disch := omega) only [Option.bind_some, jlt_eq, ↓reduceIte, eq_self, jinT, zleT, zleF, zltT, zltF, zeq, zpos, zpos', zcl, zm6, z6, z84, z24, z14, z8, nI_add, zd0, zd1, zd2, zd3, zd4, zd5, bitI_e, bI0, bI1, jup_n]; exact C.ho
  · simp (disch := omega) only [Option.bind_some, jlt_eq, ↓reduceIte, eq_self, jinT, zleT, zleF, zltT, zltF, zeq, zpos, zpos', zcl, zm6, z6, z84, z24, z14, z8, nI_add, zd0, zd1, zd2, zd3, zd4, zd5, bitI_e, bI0, bI1, jup_n]; exact C.wo
theorem CB.sCo (C : CB g l) {p : Nat} {v : Int32} : CB (jup g 1 p v) (l.sCo p v) := by
  refine ⟨?_, ?_, ?_, ?_, ?_, ?_, ?_, ?_, ?_, ?_, ?_, ?_⟩
  · simp (disch := omega) only [Option.bind_some, jlt_eq, ↓reduceIte, eq_self, jinT, zleT, zleF, zltT, zltF, zeq, zpos, zpos', zcl, zm6, z6, z84, z24, z14, z8, nI_add, zd0, zd1, zd2, zd3, zd4, zd5, bitI_e, bI0, bI1, jup_n]; exact C.li
  · simp (disch := omega) only [Option.bind_some, jlt_eq, ↓reduceIte, eq_self, jinT, zleT, zleF, zltT, zltF, zeq, zpos, zpos', zcl, zm6, z6, z84, z24, z14, z8, nI_add, zd0, zd1, zd2, zd3, zd4, zd5, bitI_e, bI0, bI1, jup_n]; exact C.np
  · simp (disch := omega) only [Option.bind_some, jlt_eq, ↓reduceIte, eq_self, jinT, zleT, zleF, zltT, zltF, zeq, zpos, zpos', zcl, zm6, z6, z84, z24, z14, z8, nI_add, zd0, zd1, zd2, zd3, zd4, zd5, bitI_e, bI0, bI1, jup_n]; exact C.nt
  · simp (disch := omega) only [Option.bind_some, jlt_eq, ↓reduceIte, eq_self, jinT, zleT, zleF, zltT, zltF, zeq, zpos, zpos', zcl, zm6, z6, z84, z24, z14, z8, nI_add, zd0, zd1, zd2, zd3, zd4, zd5, bitI_e, bI0, bI1, jup_n]; exact C.ea
  · simp (disch := omega) only [Option.bind_some, jlt_eq, ↓reduceIte, eq_self, jinT, zleT, zleF, zltT, zltF, zeq, zpos, zpos', zcl, zm6, z6, z84, z24, z14, z8, nI_add, zd0, zd1, zd2, zd3, zd4, zd5, bitI_e, bI0, bI1, jup_n]; exact C.sh
  · simp (disch := omega) only [Option.bind_some, jlt_eq, ↓reduceIte, eq_self, jinT, zleT, zleF, zltT, zltF, zeq, zpos, zpos', zcl, zm6, z6, z84, z24, z14, z8, nI_add, zd0, zd1, zd2, zd3, zd4, zd5, bitI_e, bI0, bI1, jup_n]; exact C.be
  · simp (disch := omega) only [Option.bind_some, jlt_eq, ↓reduceIte, eq_self, jinT, zleT, zleF, zltT, zltF, zeq, zpos, zpos', zcl, zm6, z6, z84, z24, z14, z8, nI_add, zd0, zd1, zd2, zd3, zd4, zd5, bitI_e, bI0, bI1, jup_n]; exact C.y6
  · simp (disch := omega) only [Option.bind_some, jlt_eq, ↓reduceIte, eq_self, jinT, zleT, zleF, zltT, zltF, zeq, zpos, zpos', zcl, zm6, z6, z84, z24, z14, z8, nI_add, zd0, zd1, zd2, zd3, zd4, zd5, bitI_e, bI0, bI1, jup_n]; exact C.y7
  · simp (disch := omega) only [Option.bind_some, jlt_eq, ↓reduceIte, eq_self, jinT, zleT, zleF, zltT, zltF, zeq, zpos, zpos', zcl, zm6, z6, z84, z24, z14, z8, nI_add, zd0, zd1, zd2, zd3, zd4, zd5, bitI_e, bI0, bI1, jup_n]; exact C.y8
  · intro q hq
    rw [jup_s, upd_i]
    show _ = if q = p then v else l.co q
    by_cases e : q = p
    · rw [if_pos e, if_pos e]
    · rw [if_neg e, if_neg e]; exact C.co q hq
  · simp (disch := omega) only [Option.bind_some, jlt_eq, ↓reduceIte, eq_self, jinT, zleT, zleF, zltT, zltF, zeq, zpos, zpos', zcl, zm6, z6, z84, z24, z14, z8, nI_add, zd0, zd1, zd2, zd3, zd4, zd5, bitI_e, bI0, bI1, jup_n]; exact C.ho
  · simp (disch := omega) only [Option.bind_some, jlt_eq, ↓reduceIte, eq_self, jinT, zleT, zleF, zltT, zltF, zeq, zpos, zpos', zcl, zm6, z6, z84, z24, z14, z8, nI_add, zd0, zd1, zd2, zd3, zd4, zd5, bitI_e, bI0, bI1, jup_n]; exact C.wo
theorem CB.sWo (C : CB g l) {s p : Nat} {v : Int32} (hp : p < 6) : CB (jup g 3 (s * 6 + p) v) (l.sWo s p v) := by
  refine ⟨?_, ?_, ?_, ?_, ?_, ?_, ?_, ?_, ?_, ?_, ?_, ?_⟩
  · simp (disch := omega) only [Option.bind_some, jlt_eq, ↓reduceIte, eq_self, jinT, zleT, zleF, zltT, zltF, zeq, zpos, zpos', zcl, zm6, z6, z84, z24, z14, z8, nI_add, zd0, zd1, zd2, zd3, zd4, zd5, bitI_e, bI0, bI1, jup_n]; exact C.li
  · simp (disch := omega) only [Option.bind_some, jlt_eq, ↓reduceIte, eq_self, jinT, zleT, zleF, zltT, zltF, zeq, zpos, zpos', zcl, zm6, z6, z84, z24, z14, z8, nI_add, zd0, zd1, zd2, zd3, zd4, zd5, bitI_e, bI0, bI1, jup_n]; exact C.np
  · simp (disch := omega) only [Option.bind_some, jlt_eq, ↓reduceIte, eq_self, jinT, zleT, zleF, zltT, zltF, zeq, zpos, zpos', zcl, zm6, z6, z84, z24, z14, z8, nI_add, zd0, zd1, zd2, zd3, zd4, zd5, bitI_e, bI0, bI1, jup_n]; exact C.nt
  · simp (disch := omega) only [Option.bind_some, jlt_eq, ↓reduceIte, eq_self, jinT, zleT, zleF, zltT, zltF, zeq, zpos, zpos', zcl, zm6, z6, z84, z24, z14, z8, nI_add, zd0, zd1, zd2, zd3, zd4, zd5, bitI_e, bI0, bI1, jup_n]; exact C.ea
  · simp (disch := omega) only [Option.bind_some, jlt_eq, ↓reduceIte, eq_self, jinT, zleT, zleF, zltT, zltF, zeq, zpos, zpos', zcl, zm6, z6, z84, z24, z14, z8, nI_add, zd0, zd1, zd2, zd3, zd4, zd5, bitI_e, bI0, bI1, jup_n]; exact C.sh
  · simp (disch := omega) only [Option.bind_some, jlt_eq, ↓reduceIte, eq_self, jinT, zleT, zleF, zltT, zltF, zeq, zpos, zpos', zcl, zm6, z6, z84, z24, z14, z8, nI_add, zd0, zd1, zd2, zd3, zd4, zd5, bitI_e, bI0, bI1, jup_n]; exact C.be
  · simp (disch := omega) only [Option.bind_some, jlt_eq, ↓reduceIte, eq_self, jinT, zleT, zleF, zltT, zltF, zeq, zpos, zpos', zcl, zm6, z6, z84, z24, z14, z8, nI_add, zd0, zd1, zd2, zd3, zd4, zd5, bitI_e, bI0, bI1, jup_n]; exact C.y6
  · simp (disch := omega) only [Option.bind_some, jlt_eq, ↓reduceIte, eq_self, jinT, zleT, zleF, zltT, zltF, zeq, zpos, zpos', zcl, zm6, z6, z84, z24, z14, z8, nI_add, zd0, zd1, zd2, zd3, zd4, zd5, bitI_e, bI0, bI1, jup_n]; exact C.y7
  · simp (disch := omega) only [Option.bind_some, jlt_eq, ↓reduceIte, eq_self, jinT, zleT, zleF, zltT, zltF, zeq, zpos, zpos', zcl, zm6, z6, z84, z24, z14, z8, nI_add, zd0, zd1, zd2, zd3, zd4, zd5, bitI_e, bI0, bI1, jup_n]; exact C.y8
  · simp (disch := omega) only [Option.bind_some, jlt_eq, ↓reduceIte, eq_self, jinT, zleT, zleF, zltT, zltF, zeq, zpos, zpos', zcl, zm6, z6, z84, z24, z14, z8, nI_add, zd0, zd1, zd2, zd3, zd4, zd5, bitI_e, bI0, bI1, jup_n]; exact C.co
  · simp (disch := omega) only [Option.bind_some, jlt_eq, ↓reduceIte, eq_self, jinT, zleT, zleF, zltT, zltF, zeq, zpos, zpos', zcl, zm6, z6, z84, z24, z14, z8, nI_add, zd0, zd1, zd2, zd3, zd4, zd5, bitI_e, bI0, bI1, jup_n]; exact C.ho
  · intro s2 q hs hq
    rw [jup_s, upd_i]
    show _ = if s2 = s ∧ q = p then v else l.wo s2 q
    by_cases e : s2 = s ∧ q = p
    · rw [if_pos (by omega), if_pos e]
    · rw [if_neg (by omega), if_neg e]; exact C.wo s2 q hs hq
theorem DB.sNp (D : DB T l) {v : Nat} (h0 : l.nt = 0) : DB (upd T 1 (nI v)) (l.sNp v) := by
  refine ⟨?_, ?_, ?_, ?_, ?_, ?_, ?_, ?_, ?_, ?_, ?_⟩
  · simp (disch := omega) only [Option.bind_some, jlt_eq, ↓reduceIte, eq_self, jinT, zleT, zleF, zltT, zltF, zeq, zpos, zpos', zcl, zm6, z6, z84, z24, z14, z8, nI_add, zd0, zd1, zd2, zd3, zd4, zd5, bitI_e, bI0, bI1, upd_n]; exact D.li
  · simp (disch := omega) only [Option.bind_some, jlt_eq, ↓reduceIte, eq_self, jinT, zleT, zleF, zltT, zltF, zeq, zpos, zpos', zcl, zm6, z6, z84, z24, z14, z8, nI_add, zd0, zd1, zd2, zd3, zd4, zd5, bitI_e, bI0, bI1, upd_s]; rfl
  · simp (disch := omega) only [Option.bind_some, jlt_eq, ↓reduceIte, eq_self, jinT, zleT, zleF, zltT, zltF, zeq, zpos, zpos', zcl, zm6, z6, z84, z24, z14, z8, nI_add, zd0, zd1, zd2, zd3, zd4, zd5, bitI_e, bI0, bI1, upd_n]; exact D.nt
  · simp (disch := omega) only [Option.bind_some, jlt_eq, ↓reduceIte, eq_self, jinT, zleT, zleF, zltT, zltF, zeq, zpos, zpos', zcl, zm6, z6, z84, z24, z14, z8, nI_add, zd0, zd1, zd2, zd3, zd4, zd5, bitI_e, bI0, bI1, upd_n]; exact D.ea
  · simp (disch := omega) only [Option.bind_some, jlt_eq, ↓reduceIte, eq_self, jinT, zleT, zleF, zltT, zltF, zeq, zpos, zpos', zcl, zm6, z6, z84, z24, z14, z8, nI_add, zd0, zd1, zd2, zd3, zd4, zd5, bitI_e, bI0, bI1, upd_n]; exact D.sh
  · simp (disch := omega) only [Option.bind_some, jlt_eq, ↓reduceIte, eq_self, jinT, zleT, zleF, zltT, zltF, zeq, zpos, zpos', zcl, zm6, z6, z84, z24, z14, z8, nI_add, zd0, zd1, zd2, zd3, zd4, zd5, bitI_e, bI0, bI1, upd_n]; exact D.be
  · simp (disch := omega) only [Option.bind_some, jlt_eq, ↓reduceIte, eq_self, jinT, zleT, zleF, zltT, zltF, zeq, zpos, zpos', zcl, zm6, z6, z84, z24, z14, z8, nI_add, zd0, zd1, zd2, zd3, zd4, zd5, bitI_e, bI0, bI1, upd_n]; exact D.y6
  · simp (disch := omega) only [Option.bind_some, jlt_eq, ↓reduceIte, eq_self, jinT, zleT, zleF, zltT, zltF, zeq, zpos, zpos', zcl, zm6, z6, z84, z24, z14, z8, nI_add, zd0, zd1, zd2, zd3, zd4, zd5, bitI_e, bI0, bI1, upd_n]; exact D.y7
  · intro p hp; simp (disch := omega) only [Option.bind_some, jlt_eq, ↓reduceIte, eq_self, jinT, zleT, zleF, zltT, zltF, zeq, zpos, zpos', zcl, zm6, z6, z84, z24, z14, z8, nI_add, zd0, zd1, zd2, zd3, zd4, zd5, bitI_e, bI0, bI1, upd_n]; exact D.co p hp
  · intro s hs; simp (disch := omega) only [Option.bind_some, jlt_eq, ↓reduceIte, eq_self, jinT, zleT, zleF, zltT, zltF, zeq, zpos, zpos', zcl, zm6, z6, z84, z24, z14, z8, nI_add, zd0, zd1, zd2, zd3, zd4, zd5, bitI_e, bI0, bI1, upd_n]; exact D.ho s hs
  · intro s p hs hp; simp (disch := omega) only [Option.bind_some, jlt_eq, ↓reduceIte, eq_self, jinT, zleT, zleF, zltT, zltF, zeq, zpos, zpos', zcl, zm6, z6, z84, z24, z14, z8, nI_add, zd0, zd1, zd2, zd3, zd4, zd5, bitI_e, bI0, bI1, upd_n]; exact D.wo s p hs hp
theorem DB.slot (D : DB T l) {i : Nat} {v : Int32} {l2 : LA} (hi : i = 0 ∨ i = 3 ∨ i = 4 ∨ i = 5) (h : l2 = LA.mk (if i = 0 then v else l.li) l.np l.nt (if i = 3 then v else l.ea) (if i = 4 then v else l.sh) (if i = 5 then v else l.be) l.co l.ho l.wo) : DB (upd T i v) l2 := by
  subst h
  refine ⟨?_, ?_, ?_, ?_, ?_, ?_, ?_, ?_, ?_, ?_, ?_⟩
  · rw [upd_i]
    show _ = if i = 0 then v else l.li
    by_cases e : i = 0
    · rw [if_pos e.symm, if_pos e]
    · rw [if_neg (fun h => e h.symm), if_neg e]; exact D.li
  · simp (disch := omega) only [Option.bind_some, jlt_eq, ↓reduceIte, eq_self, jinT, zleT, zleF, zltT, zltF, zeq, zpos, zpos', zcl, zm6, z6, z84, z24, z14, z8, nI_add, zd0, zd1, zd2, zd3, zd4, zd5, bitI_e, bI0, bI1, upd_n]; exact D.np
  · simp (disch := omega) only [Option.bind_some, jlt_eq, ↓reduceIte, eq_self, jinT, zleT, zleF, zltT, zltF, zeq, zpos, zpos', zcl, zm6, z6, z84, z24, z14, z8, nI_add, zd0, zd1, zd2, zd3, zd4, zd5, bitI_e, bI0, bI1, upd_n]; exact D.nt
  · rw [upd_i]
    show _ = if i = 3 then v else l.ea
    by_cases e : i = 3
    · rw [if_pos e.symm, if_pos e]
    · rw [if_neg (fun h => e h.symm), if_neg e]; exact D.ea
  · rw [upd_i]
    show _ = if i = 4 then v else l.sh
    by_cases e : i = 4
    · rw [if_pos e.symm, if_pos e]
    · rw [if_neg (fun h => e h.symm), if_neg e]; exact D.sh
  · rw [upd_i]
    show _ = if i = 5 then v else l.be
    by_cases e : i = 5
    · rw [if_pos e.symm, if_pos e]
    · rw [if_neg (fun h => e h.symm), if_neg e]; exact D.be
  · simp (disch := omega) only [Option.bind_some, jlt_eq, ↓reduceIte, eq_self, jinT, zleT, zleF, zltT, zltF, zeq, zpos, zpos', zcl, zm6, z6, z84, z24, z14, z8, nI_add, zd0, zd1, zd2, zd3, zd4, zd5, bitI_e, bI0, bI1, upd_n]; exact D.y6
  · simp (disch := omega) only [Option.bind_some, jlt_eq, ↓reduceIte, eq_self, jinT, zleT, zleF, zltT, zltF, zeq, zpos, zpos', zcl, zm6, z6, z84, z24, z14, z8, nI_add, zd0, zd1, zd2, zd3, zd4, zd5, bitI_e, bI0, bI1, upd_n]; exact D.y7
  · intro p hp; simp (disch := omega) only [Option.bind_some, jlt_eq, ↓reduceIte, eq_self, jinT, zleT, zleF, zltT, zltF, zeq, zpos, zpos', zcl, zm6, z6, z84, z24, z14, z8, nI_add, zd0, zd1, zd2, zd3, zd4, zd5, bitI_e, bI0, bI1, upd_n]; exact D.co p hp
  · intro s hs; simp (disch := omega) only [Option.bind_some, jlt_eq, ↓reduceIte, eq_self, jinT, zleT, zleF, zltT, zltF, zeq, zpos, zpos', zcl, zm6, z6, z84, z24, z14, z8, nI_add, zd0, zd1, zd2, zd3, zd4, zd5, bitI_e, bI0, bI1, upd_n]; exact D.ho s hs
  · intro s p hs hp; simp (disch := omega) only [Option.bind_some, jlt_eq, ↓reduceIte, eq_self, jinT, zleT, zleF, zltT, zltF, zeq, zpos, zpos', zcl, zm6, z6, z84, z24, z14, z8, nI_add, zd0, zd1, zd2, zd3, zd4, zd5, bitI_e, bI0, bI1, upd_n]; exact D.wo s p hs hp
theorem DB.sCo (D : DB T l) (hnt : l.nt ≤ 10) {p : Nat} {v : Int32} (hp6 : p < 6) : DB (upd T (8 + p) v) (l.sCo p v) := by
  refine ⟨?_, ?_, ?_, ?_, ?_, ?_, ?_, ?_, ?_, ?_, ?_⟩
  · simp (disch := omega) only [Option.bind_some, jlt_eq, ↓reduceIte, eq_self, jinT, zleT, zleF, zltT, zltF, zeq, zpos, zpos', zcl, zm6, z6, z84, z24, z14, z8, nI_add, zd0, zd1, zd2, zd3, zd4, zd5, bitI_e, bI0, bI1, upd_n]; exact D.li
  · simp (disch := omega) only [Option.bind_some, jlt_eq, ↓reduceIte, eq_self, jinT, zleT, zleF, zltT, zltF, zeq, zpos, zpos', zcl, zm6, z6, z84, z24, z14, z8, nI_add, zd0, zd1, zd2, zd3, zd4, zd5, bitI_e, bI0, bI1, upd_n]; exact D.np
  · simp (disch := omega) only [Option.bind_some, jlt_eq, ↓reduceIte, eq_self, jinT, zleT, zleF, zltT, zltF, zeq, zpos, zpos', zcl, zm6, z6, z84, z24, z14, z8, nI_add, zd0, zd1, zd2, zd3, zd4, zd5, bitI_e, bI0, bI1, upd_n]; exact D.nt
  · simp (disch := omega) only [Option.bind_some, jlt_eq, ↓reduceIte, eq_self, jinT, zleT, zleF, zltT, zltF, zeq, zpos, zpos', zcl, zm6, z6, z84, z24, z14, z8, nI_add, zd0, zd1, zd2, zd3, zd4, zd5, bitI_e, bI0, bI1, upd_n]; exact D.ea
  · simp (disch := omega) only [Option.bind_some, jlt_eq, ↓reduceIte, eq_self, jinT, zleT, zleF, zltT, zltF, zeq, zpos, zpos', zcl, zm6, z6, z84, z24, z14, z8, nI_add, zd0, zd1, zd2, zd3, zd4, zd5, bitI_e, bI0, bI1, upd_n]; exact D.sh
  · simp (disch := omega) only [Option.bind_some, jlt_eq, ↓reduceIte, eq_self, jinT, zleT, zleF, zltT, zltF, zeq, zpos, zpos', zcl, zm6, z6, z84, z24, z14, z8, nI_add, zd0, zd1, zd2, zd3, zd4, zd5, bitI_e, bI0, bI1, upd_n]; exact D.be
  · simp (disch := omega) only [Option.bind_some, jlt_eq, ↓reduceIte, eq_self, jinT, zleT, zleF, zltT, zltF, zeq, zpos, zpos', zcl, zm6, z6, z84, z24, z14, z8, nI_add, zd0, zd1, zd2, zd3, zd4, zd5, bitI_e, bI0, bI1, upd_n]; exact D.y6
  · simp (disch := omega) only [Option.bind_some, jlt_eq, ↓reduceIte, eq_self, jinT, zleT, zleF, zltT, zltF, zeq, zpos, zpos', zcl, zm6, z6, z84, z24, z14, z8, nI_add, zd0, zd1, zd2, zd3, zd4, zd5, bitI_e, bI0, bI1, upd_n]; exact D.y7
  · intro q hq
    rw [upd_i]
    show _ = if q = p then v else l.co q
    by_cases e : q = p
    · rw [if_pos (by omega), if_pos e]
    · rw [if_neg (by omega), if_neg e]; exact D.co q hq
  · intro s hs; simp (disch := omega) only [Option.bind_some, jlt_eq, ↓reduceIte, eq_self, jinT, zleT, zleF, zltT, zltF, zeq, zpos, zpos', zcl, zm6, z6, z84, z24, z14, z8, nI_add, zd0, zd1, zd2, zd3, zd4, zd5, bitI_e, bI0, bI1, upd_n]; exact D.ho s hs
  · intro s p hs hp; simp (disch := omega) only [Option.bind_some, jlt_eq, ↓reduceIte, eq_self, jinT, zleT, zleF, zltT, zltF, zeq, zpos, zpos', zcl, zm6, z6, z84, z24, z14, z8, nI_add, zd0, zd1, zd2, zd3, zd4, zd5, bitI_e, bI0, bI1, upd_n]; exact D.wo s p hs hp
theorem DB.sWo (D : DB T l) (hnt : l.nt ≤ 10) {s p : Nat} {v : Int32} (hs10 : s < 10) (hp6 : p < 6) : DB (upd T (24 + 6 * s + p) v) (l.sWo s p v) := by
  refine ⟨?_, ?_, ?_, ?_, ?_, ?_, ?_, ?_, ?_, ?_, ?_⟩
  · simp (disch := omega) only [Option.bind_some, jlt_eq, ↓reduceIte, eq_self, jinT, zleT, zleF, zltT, zltF, zeq, zpos, zpos', zcl, zm6, z6, z84, z24, z14, z8, nI_add, zd0, zd1, zd2, zd3, zd4, zd5, bitI_e, bI0, bI1, upd_n]; exact D.li
  · simp (disch := omega) only [Option.bind_some, jlt_eq, ↓reduceIte, eq_self, jinT, zleT, zleF, zltT, zltF, zeq, zpos, zpos', zcl, zm6, z6, z84, z24, z14, z8, nI_add, zd0, zd1, zd2, zd3, zd4, zd5, bitI_e, bI0, bI1, upd_n]; exact D.np
  · simp (disch := omega) only [Option.bind_some, jlt_eq, ↓reduceIte, eq_self, jinT, zleT, zleF, zltT, zltF, zeq, zpos, zpos', zcl, zm6, z6, z84, z24, z14, z8, nI_add, zd0, zd1, zd2, zd3, zd4, zd5, bitI_e, bI0, bI1, upd_n]; exact D.nt
  · simp (disch := omega) only [Option.bind_some, jlt_eq, ↓reduceIte, eq_self, jinT, zleT, zleF, zltT, zltF, zeq, zpos, zpos', zcl, zm6, z6, z84, z24, z14, z8, nI_add, zd0, zd1, zd2, zd3, zd4, zd5, bitI_e, bI0, bI1, upd_n]; exact D.ea
  · simp (disch := omega) only [Option.bind_some, jlt_eq, ↓reduceIte, eq_self, jinT, zleT, zleF, zltT, zltF, zeq, zpos, zpos', zcl, zm6, z6, z84, z24, z14, z8, nI_add, zd0, zd1, zd2, zd3, zd4, zd5, bitI_e, bI0, bI1, upd_n]; exact D.sh
  · simp (disch := omega) only [Option.bind_some, jlt_eq, ↓reduceIte, eq_self, jinT, zleT, zleF, zltT, zltF, zeq, zpos, zpos', zcl, zm6, z6, z84, z24, z14, z8, nI_add, zd0, zd1, zd2, zd3, zd4, zd5, bitI_e, bI0, bI1, upd_n]; exact D.be
  · simp (disch := omega) only [Option.bind_some, jlt_eq, ↓reduceIte, eq_self, jinT, zleT, zleF, zltT, zltF, zeq, zpos, zpos', zcl, zm6, z6, z84, z24, z14, z8, nI_add, zd0, zd1, zd2, zd3, zd4, zd5, bitI_e, bI0, bI1, upd_n]; exact D.y6
  · simp (disch := omega) only [Option.bind_some, jlt_eq, ↓reduceIte, eq_self, jinT, zleT, zleF, zltT, zltF, zeq, zpos, zpos', zcl, zm6, z6, z84, z24, z14, z8, nI_add, zd0, zd1, zd2, zd3, zd4, zd5, bitI_e, bI0, bI1, upd_n]; exact D.y7
  · intro q hq; simp (disch := omega) only [Option.bind_some, jlt_eq, ↓reduceIte, eq_self, jinT, zleT, zleF, zltT, zltF, zeq, zpos, zpos', zcl, zm6, z6, z84, z24, z14, z8, nI_add, zd0, zd1, zd2, zd3, zd4, zd5, bitI_e, bI0, bI1, upd_n]; exact D.co q hq
  · intro s2 hs
    have hs2 : s2 < l.nt := hs
    simp (disch := omega) only [Option.bind_some, jlt_eq, ↓reduceIte, eq_self, jinT, zleT, zleF, zltT, zltF, zeq, zpos, zpos', zcl, zm6, z6, z84, z24, z14, z8, nI_add, zd0, zd1, zd2, zd3, zd4, zd5, bitI_e, bI0, bI1, upd_n]; exact D.ho s2 hs
  · intro s2 q hs hq
    rw [upd_i]
    show _ = if s2 = s ∧ q = p then v else l.wo s2 q
    by_cases e : s2 = s ∧ q = p
    · rw [if_pos (by omega), if_pos e]
    · rw [if_neg (by omega), if_neg e]; exact D.wo s2 q hs hq
theorem DB.sTh (D : DB T l) (hnt : l.nt < 10) {h : Nat} : DB (upd (upd T (14 + l.nt) (nI h)) 2 (nI (l.nt + 1))) (l.sTh h) := by
  refine ⟨?_, ?_, ?_, ?_, ?_, ?_, ?_, ?_, ?_, ?_, ?_⟩
  · simp (disch := omega) only [Option.bind_some, jlt_eq, ↓reduceIte, eq_self, jinT, zleT, zleF, zltT, zltF, zeq, zpos, zpos', zcl, zm6, z6, z84, z24, z14, z8, nI_add, zd0, zd1, zd2, zd3, zd4, zd5, bitI_e, bI0, bI1, upd_n]; exact D.li
  · simp (disch := omega) only [Option.bind_some, jlt_eq, ↓reduceIte, eq_self, jinT, zleT, zleF, zltT, zltF, zeq, zpos, zpos', zcl, zm6, z6, z84, z24, z14, z8, nI_add, zd0, zd1, zd2, zd3, zd4, zd5, bitI_e, bI0, bI1, upd_n]; exact D.np
  · simp (disch := omega) only [Option.bind_some, jlt_eq, ↓reduceIte, eq_self, jinT, zleT, zleF, zltT, zltF, zeq, zpos, zpos', zcl, zm6, z6, z84, z24, z14, z8, nI_add, zd0, zd1, zd2, zd3, zd4, zd5, bitI_e, bI0, bI1, upd_s]; rfl
  · simp (disch := omega) only [Option.bind_some, jlt_eq, ↓reduceIte, eq_self, jinT, zleT, zleF, zltT, zltF, zeq, zpos, zpos', zcl, zm6, z6, z84, z24, z14, z8, nI_add, zd0, zd1, zd2, zd3, zd4, zd5, bitI_e, bI0, bI1, upd_n]; exact D.ea
  · simp (disch := omega) only [Option.bind_some, jlt_eq, ↓reduceIte, eq_self, jinT, zleT, zleF, zltT, zltF, zeq, zpos, zpos', zcl, zm6, z6, z84, z24, z14, z8, nI_add, zd0, zd1, zd2, zd3, zd4, zd5, bitI_e, bI0, bI1, upd_n]; exact D.sh
  · simp (disch := omega) only [Option.bind_some, jlt_eq, ↓reduceIte, eq_self, jinT, zleT, zleF, zltT, zltF, zeq, zpos, zpos', zcl, zm6, z6, z84, z24, z14, z8, nI_add, zd0, zd1, zd2, zd3, zd4, zd5, bitI_e, bI0, bI1, upd_n]; exact D.be
  · simp (disch := omega) only [Option.bind_some, jlt_eq, ↓reduceIte, eq_self, jinT, zleT, zleF, zltT, zltF, zeq, zpos, zpos', zcl, zm6, z6, z84, z24, z14, z8, nI_add, zd0, zd1, zd2, zd3, zd4, zd5, bitI_e, bI0, bI1, upd_n]; exact D.y6
  · simp (disch := omega) only [Option.bind_some, jlt_eq, ↓reduceIte, eq_self, jinT, zleT, zleF, zltT, zltF, zeq, zpos, zpos', zcl, zm6, z6, z84, z24, z14, z8, nI_add, zd0, zd1, zd2, zd3, zd4, zd5, bitI_e, bI0, bI1, upd_n]; exact D.y7
  · intro q hq; simp (disch := omega) only [Option.bind_some, jlt_eq, ↓reduceIte, eq_self, jinT, zleT, zleF, zltT, zltF, zeq, zpos, zpos', zcl, zm6, z6, z84, z24, z14, z8, nI_add, zd0, zd1, zd2, zd3, zd4, zd5, bitI_e, bI0, bI1, upd_n]; exact D.co q hq
  · intro s hs
    have hs2 : s < l.nt + 1 := hs
    rw [upd_n _ _ (by omega), upd_i]
    show _ = nI (if s = l.nt then h else l.ho s)
    by_cases e : s = l.nt
    · rw [if_pos (by omega), if_pos e]
    · rw [if_neg (by omega), if_neg e]; exact D.ho s (by omega)
  · intro s p hs hp; simp (disch := omega) only [Option.bind_some, jlt_eq, ↓reduceIte, eq_self, jinT, zleT, zleF, zltT, zltF, zeq, zpos, zpos', zcl, zm6, z6, z84, z24, z14, z8, nI_add, zd0, zd1, zd2, zd3, zd4, zd5, bitI_e, bI0, bI1, upd_n]; exact D.wo s p hs hp
end lines

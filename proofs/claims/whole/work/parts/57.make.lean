/-! a deed made; a town copied -/
def TA.make (a : TA) (t to : Nat) (x : Int32) : TA := TA.mk a.li a.np a.nt a.ea a.sh a.be a.mi (a.nd + 1) (fun p => if p = a.ho t then a.co p + x else if p = to then a.co p - x else a.co p) (fun s => if s = t then to else a.ho s) a.wo (fun d => if d = a.nd then t else a.th d) (fun d => if d = a.nd then a.ho t else a.gi d) (fun d => if d = a.nd then to else a.ta d) (fun d => if d = a.nd then x else a.pr d) (fun d => if d = a.nd then a.mi else a.wh d) (fun d => if d = a.nd then true else a.st d)
theorem nxf_last {st : Nat → Bool} {th gi : Nat → Nat} {h t : Nat} : ∀ (k j : Nat), nxf st th gi h t j (k + 1) = nxf st th gi (if st (j + k) = true ∧ th (j + k) = t then gi (j + k) else h) t j k
  | 0, j => rfl
  | k + 1, j => by
    rw [nxf, nxf_last k (j + 1), nxf, show j + 1 + k = j + (k + 1) by omega]
theorem nxf_cong3 {st st2 : Nat → Bool} {th gi th2 gi2 : Nat → Nat} {h t : Nat} : ∀ (k j : Nat), (∀ i, j ≤ i → i < j + k → st i = st2 i ∧ th i = th2 i ∧ gi i = gi2 i) → nxf st th gi h t j k = nxf st2 th2 gi2 h t j k
  | 0, _, _ => rfl
  | k + 1, j, hh => by
    obtain ⟨h1, h2, h3⟩ := hh j (by omega) (by omega)
    rw [nxf, nxf, nxf_cong3 k (j + 1) (fun i h1 h2 => hh i (by omega) (by omega)), h1, h2, h3]
theorem TA.I.make {a : TA} (I : a.I) {t to : Nat} {x : Int32} (ht : t < a.nt) (hto : to < a.np) (hne : a.ho t ≠ to) (hx : 0 ≤ x.toInt ∧ x.toInt ≤ 9999) (hn : a.nd < 30) : (a.make t to x).I := by
  refine ⟨I.np, I.nt, ?_, ?_, ?_, ?_, ?_, ?_, ?_, I.wo, I.sh, I.mi, ?_, ?_⟩
  · show a.nd + 1 ≤ 30
    omega
  · intro s hs
    show (if s = t then to else a.ho s) < a.np
    split
    · exact hto
    · exact I.ho s hs
  · intro d hd
    have hd2 : d < a.nd + 1 := hd
    show (if d = a.nd then t else a.th d) < a.nt
    split
    · exact ht
    · exact I.th d (by omega)
  · intro d hd
    have hd2 : d < a.nd + 1 := hd
    show (if d = a.nd then a.ho t else a.gi d) < a.np
    split
    · exact I.ho t ht
    · exact I.gi d (by omega)
  · intro d hd
    have hd2 : d < a.nd + 1 := hd
    show (if d = a.nd then to else a.ta d) < a.np
    split
    · exact hto
    · exact I.ta d (by omega)
  · intro d hd
    have hd2 : d < a.nd + 1 := hd
    show (if d = a.nd then a.ho t else a.gi d) ≠ (if d = a.nd then to else a.ta d)
    by_cases h : d = a.nd
    · rw [if_pos h, if_pos h]; exact hne
    · rw [if_neg h, if_neg h]; exact I.gt d (by omega)
  · intro d hd
    have hd2 : d < a.nd + 1 := hd
    show 0 ≤ (if d = a.nd then x else a.pr d).toInt ∧ (if d = a.nd then x else a.pr d).toInt ≤ 9999
    split
    · exact hx
    · exact I.pr d (by omega)
  · intro d hd
    have hd2 : (if d = a.nd then true else a.st d) = true := hd
    show d < a.nd + 1
    by_cases h : d = a.nd
    · omega
    · rw [if_neg h] at hd2
      have := I.st d hd2
      omega
  · intro d hd hs
    have hd2 : d < a.nd + 1 := hd
    have hs2 : (if d = a.nd then true else a.st d) = true := hs
    show (if d = a.nd then to else a.ta d) = nxf (fun d => if d = a.nd then true else a.st d) (fun d => if d = a.nd then t else a.th d) (fun d => if d = a.nd then a.ho t else a.gi d) (if (if d = a.nd then t else a.th d) = t then to else a.ho (if d = a.nd then t else a.th d)) (if d = a.nd then t else a.th d) (d + 1) (a.nd + 1 - (d + 1))
    by_cases h : d = a.nd
    · simp only [h, ↓reduceIte]
      rw [Nat.sub_self, nxf]
    · simp only [h, ↓reduceIte] at hs2 ⊢
      rw [I.ch d (by omega) hs2, TA.nx, show a.nd + 1 - (d + 1) = (a.nd - (d + 1)) + 1 by omega, nxf_last, show d + 1 + (a.nd - (d + 1)) = a.nd by omega]
      have e : (if (if a.nd = a.nd then true else a.st a.nd) = true ∧ (if a.nd = a.nd then t else a.th a.nd) = a.th d then (if a.nd = a.nd then a.ho t else a.gi a.nd) else (if a.th d = t then to else a.ho (a.th d))) = a.ho (a.th d) := by
        simp only [↓reduceIte, true_and]
        by_cases h2 : t = a.th d
        · rw [if_pos h2, h2]
        · rw [if_neg h2, if_neg (fun h3 => h2 h3.symm)]
      rw [e]
      refine nxf_cong3 _ _ (fun i h2 h3 => ?_)
      have : ¬ i = a.nd := by omega
      simp only [this, ↓reduceIte, and_self]
section make
variable {N : Nat} {g G : Nat → Nat → Int32} {J : Nat → Nat → Int64} {a : TA}
theorem c_make (R : RC g a) (I : a.I) {t to : Nat} {x : Int32} (ht : t < a.nt) (hto : to < a.np) (hne : a.ho t ≠ to) (hn : a.nd < 30) : Ok (p_X3_make N g (nI t) (nI to) x) (fun r => r.1 = nI a.nd ∧ RC r.2 (a.make t to x)) := by
  have h1 := I.nt
  have h2 := I.np
  have h3 := I.ho t ht
  unfold p_X3_make
  simp (disch := omega) only [Option.bind_some, jlt_eq, ↓reduceIte, eq_self, jinT, zleT, zleF, zltT, zltF, zeq, zpos, zpos', zcl, zm6, z6, z84, z24, z14, z8, nI_add, zd0, zd1, zd2, zd3, zd4, zd5, bitI_e, bI0, bI1, R.nd, jup_s, jup_n, upd_s, upd_n, R.ho t ht]
  refine Ok.s ⟨rfl, ⟨?_, ?_, ?_, ?_, ?_, ?_, ?_, ?_, ?_, ?_, ?_, ?_, ?_, ?_, ?_, ?_, ?_⟩⟩
  · simp (disch := omega) only [Option.bind_some, jlt_eq, ↓reduceIte, eq_self, jinT, zleT, zleF, zltT, zltF, zeq, zpos, zpos', zcl, zm6, z6, z84, z24, z14, z8, nI_add, zd0, zd1, zd2, zd3, zd4, zd5, bitI_e, bI0, bI1, jup_s, jup_n, upd_n]; exact R.li
  · simp (disch := omega) only [Option.bind_some, jlt_eq, ↓reduceIte, eq_self, jinT, zleT, zleF, zltT, zltF, zeq, zpos, zpos', zcl, zm6, z6, z84, z24, z14, z8, nI_add, zd0, zd1, zd2, zd3, zd4, zd5, bitI_e, bI0, bI1, jup_s, jup_n, upd_n]; exact R.np
  · simp (disch := omega) only [Option.bind_some, jlt_eq, ↓reduceIte, eq_self, jinT, zleT, zleF, zltT, zltF, zeq, zpos, zpos', zcl, zm6, z6, z84, z24, z14, z8, nI_add, zd0, zd1, zd2, zd3, zd4, zd5, bitI_e, bI0, bI1, jup_s, jup_n, upd_n]; exact R.nt
  · simp (disch := omega) only [Option.bind_some, jlt_eq, ↓reduceIte, eq_self, jinT, zleT, zleF, zltT, zltF, zeq, zpos, zpos', zcl, zm6, z6, z84, z24, z14, z8, nI_add, zd0, zd1, zd2, zd3, zd4, zd5, bitI_e, bI0, bI1, jup_s, jup_n, upd_n]; exact R.ea
  · simp (disch := omega) only [Option.bind_some, jlt_eq, ↓reduceIte, eq_self, jinT, zleT, zleF, zltT, zltF, zeq, zpos, zpos', zcl, zm6, z6, z84, z24, z14, z8, nI_add, zd0, zd1, zd2, zd3, zd4, zd5, bitI_e, bI0, bI1, jup_s, jup_n, upd_n]; exact R.sh
  · simp (disch := omega) only [Option.bind_some, jlt_eq, ↓reduceIte, eq_self, jinT, zleT, zleF, zltT, zltF, zeq, zpos, zpos', zcl, zm6, z6, z84, z24, z14, z8, nI_add, zd0, zd1, zd2, zd3, zd4, zd5, bitI_e, bI0, bI1, jup_s, jup_n, upd_n]; exact R.be
  · simp (disch := omega) only [Option.bind_some, jlt_eq, ↓reduceIte, eq_self, jinT, zleT, zleF, zltT, zltF, zeq, zpos, zpos', zcl, zm6, z6, z84, z24, z14, z8, nI_add, zd0, zd1, zd2, zd3, zd4, zd5, bitI_e, bI0, bI1, jup_s, jup_n, upd_n]; exact R.mi
  · simp (disch := omega) only [Option.bind_some, jlt_eq, ↓reduceIte, eq_self, jinT, zleT, zleF, zltT, zltF, zeq, zpos, zpos', zcl, zm6, z6, z84, z24, z14, z8, nI_add, zd0, zd1, zd2, zd3, zd4, zd5, bitI_e, bI0, bI1, jup_s, jup_n, upd_s]; rfl
  · intro d hd
    simp (disch := omega) only [Option.bind_some, jlt_eq, ↓reduceIte, eq_self, jinT, zleT, zleF, zltT, zltF, zeq, zpos, zpos', zcl, zm6, z6, z84, z24, z14, z8, nI_add, zd0, zd1, zd2, zd3, zd4, zd5, bitI_e, bI0, bI1, jup_s, jup_n, upd_s, upd_n]
    rw [b_or, bt_bit (by omega) hd, R.st d hd]
    show (a.st d || decide (d = a.nd)) = (if d = a.nd then true else a.st d)
    by_cases h : d = a.nd
    · rw [if_pos h, decide_eq_true h, Bool.or_true]
    · rw [if_neg h, decide_eq_false h, Bool.or_false]
  · intro p hp
    simp (disch := omega) only [Option.bind_some, jlt_eq, ↓reduceIte, eq_self, jinT, zleT, zleF, zltT, zltF, zeq, zpos, zpos', zcl, zm6, z6, z84, z24, z14, z8, nI_add, zd0, zd1, zd2, zd3, zd4, zd5, bitI_e, bI0, bI1, jup_s, jup_n]
    show _ = (if p = a.ho t then a.co p + x else if p = to then a.co p - x else a.co p)
    simp only [upd_i]
    by_cases h : p = a.ho t
    · subst h
      rw [if_pos rfl, if_pos rfl, R.co _ hp]
    · rw [if_neg h, if_neg h]
      by_cases h4 : p = to
      · rw [if_pos h4, if_pos h4, R.co to (by omega), h4]
      · rw [if_neg h4, if_neg h4, R.co p hp]
  · intro s hs
    have hs2 : s < a.nt := hs
    simp (disch := omega) only [Option.bind_some, jlt_eq, ↓reduceIte, eq_self, jinT, zleT, zleF, zltT, zltF, zeq, zpos, zpos', zcl, zm6, z6, z84, z24, z14, z8, nI_add, zd0, zd1, zd2, zd3, zd4, zd5, bitI_e, bI0, bI1, jup_s, jup_n]
    show _ = nI (if s = t then to else a.ho s)
    rw [upd_i]
    by_cases h : s = t
    · rw [if_pos h, if_pos h]
    · rw [if_neg h, if_neg h, R.ho s hs2]
  · simp (disch := omega) only [Option.bind_some, jlt_eq, ↓reduceIte, eq_self, jinT, zleT, zleF, zltT, zltF, zeq, zpos, zpos', zcl, zm6, z6, z84, z24, z14, z8, nI_add, zd0, zd1, zd2, zd3, zd4, zd5, bitI_e, bI0, bI1, jup_s, jup_n]; exact R.wo
  · intro d hd
    have hd2 : d < a.nd + 1 := hd
    simp (disch := omega) only [Option.bind_some, jlt_eq, ↓reduceIte, eq_self, jinT, zleT, zleF, zltT, zltF, zeq, zpos, zpos', zcl, zm6, z6, z84, z24, z14, z8, nI_add, zd0, zd1, zd2, zd3, zd4, zd5, bitI_e, bI0, bI1, jup_s, jup_n]
    show _ = nI (if d = a.nd then t else a.th d)
    rw [upd_i]
    by_cases h : d = a.nd
    · rw [if_pos h, if_pos h]
    · rw [if_neg h, if_neg h, R.th d (by omega)]
  · intro d hd
    have hd2 : d < a.nd + 1 := hd
    simp (disch := omega) only [Option.bind_some, jlt_eq, ↓reduceIte, eq_self, jinT, zleT, zleF, zltT, zltF, zeq, zpos, zpos', zcl, zm6, z6, z84, z24, z14, z8, nI_add, zd0, zd1, zd2, zd3, zd4, zd5, bitI_e, bI0, bI1, jup_s, jup_n]
    show _ = nI (if d = a.nd then a.ho t else a.gi d)
    rw [upd_i]
    by_cases h : d = a.nd
    · rw [if_pos h, if_pos h]
    · rw [if_neg h, if_neg h, R.gi d (by omega)]
  · intro d hd
    have hd2 : d < a.nd + 1 := hd
    simp (disch := omega) only [Option.bind_some, jlt_eq, ↓reduceIte, eq_self, jinT, zleT, zleF, zltT, zltF, zeq, zpos, zpos', zcl, zm6, z6, z84, z24, z14, z8, nI_add, zd0, zd1, zd2, zd3, zd4, zd5, bitI_e, bI0, bI1, jup_s, jup_n]
    show _ = nI (if d = a.nd then to else a.ta d)
    rw [upd_i]
    by_cases h : d = a.nd
    · rw [if_pos h, if_pos h]
    · rw [if_neg h, if_neg h, R.ta d (by omega)]
  · intro d hd
    have hd2 : d < a.nd + 1 := hd
    simp (disch := omega) only [Option.bind_some, jlt_eq, ↓reduceIte, eq_self, jinT, zleT, zleF, zltT, zltF, zeq, zpos, zpos', zcl, zm6, z6, z84, z24, z14, z8, nI_add, zd0, zd1, zd2, zd3, zd4, zd5, bitI_e, bI0, bI1, jup_s, jup_n]
    show _ = (if d = a.nd then x else a.pr d)
    rw [upd_i]
    by_cases h : d = a.nd
    · rw [if_pos h, if_pos h]
    · rw [if_neg h, if_neg h, R.pr d (by omega)]
  · intro d hd
    have hd2 : d < a.nd + 1 := hd
    simp (disch := omega) only [Option.bind_some, jlt_eq, ↓reduceIte, eq_self, jinT, zleT, zleF, zltT, zltF, zeq, zpos, zpos', zcl, zm6, z6, z84, z24, z14, z8, nI_add, zd0, zd1, zd2, zd3, zd4, zd5, bitI_e, bI0, bI1, jup_s, jup_n]
    show _ = (if d = a.nd then a.mi else a.wh d)
    rw [upd_i]
    by_cases h : d = a.nd
    · rw [if_pos h, if_pos h, R.mi]
    · rw [if_neg h, if_neg h, R.wh d (by omega)]
theorem m_sells (R : RM (G 1) a) (I : a.I) {t to : Nat} {x : Int32} (ht : t < a.nt) (hto : to < a.np) (hne : a.ho t ≠ to) (hn : a.nd < 30) : Ok (p_X6_sells N G J (nI t) (nI to) x) (fun r => r.1 = nI a.nd ∧ RM (r.2 1) (a.make t to x) ∧ ∀ c, c ≠ 1 → r.2 c = G c) := by
  have h1 := I.nt
  have h2 := I.np
  have h3 := I.ho t ht
  unfold p_X6_sells
  simp (disch := omega) only [Option.bind_some, jlt_eq, ↓reduceIte, eq_self, jinT, zleT, zleF, zltT, zltF, zeq, zpos, zpos', zcl, zm6, z6, z84, z24, z14, z8, nI_add, zd0, zd1, zd2, zd3, zd4, zd5, bitI_e, bI0, bI1, R.nd, jup_s, upd_s, upd_n, R.ho t ht, nI_pred]
  refine Ok.s ⟨rfl, ?_, ?_⟩
  · simp only [jup_s]
    refine ⟨?_, ?_, ?_, ?_, ?_, ?_, ?_, ?_, ?_, ?_, ?_, ?_, ?_, ?_, ?_, ?_, ?_⟩
    · simp (disch := omega) only [Option.bind_some, jlt_eq, ↓reduceIte, eq_self, jinT, zleT, zleF, zltT, zltF, zeq, zpos, zpos', zcl, zm6, z6, z84, z24, z14, z8, nI_add, zd0, zd1, zd2, zd3, zd4, zd5, bitI_e, bI0, bI1, upd_n]; exact R.li
    · simp (disch := omega) only [Option.bind_some, jlt_eq, ↓reduceIte, eq_self, jinT, zleT, zleF, zltT, zltF, zeq, zpos, zpos', zcl, zm6, z6, z84, z24, z14, z8, nI_add, zd0, zd1, zd2, zd3, zd4, zd5, bitI_e, bI0, bI1, upd_n]; exact R.np
    · simp (disch := omega) only [Option.bind_some, jlt_eq, ↓reduceIte, eq_self, jinT, zleT, zleF, zltT, zltF, zeq, zpos, zpos', zcl, zm6, z6, z84, z24, z14, z8, nI_add, zd0, zd1, zd2, zd3, zd4, zd5, bitI_e, bI0, bI1, upd_n]; exact R.nt
    · simp (disch := omega) only [Option.bind_some, jlt_eq, ↓reduceIte, eq_self, jinT, zleT, zleF, zltT, zltF, zeq, zpos, zpos', zcl, zm6, z6, z84, z24, z14, z8, nI_add, zd0, zd1, zd2, zd3, zd4, zd5, bitI_e, bI0, bI1, upd_n]; exact R.ea
    · simp (disch := omega) only [Option.bind_some, jlt_eq, ↓reduceIte, eq_self, jinT, zleT, zleF, zltT, zltF, zeq, zpos, zpos', zcl, zm6, z6, z84, z24, z14, z8, nI_add, zd0, zd1, zd2, zd3, zd4, zd5, bitI_e, bI0, bI1, upd_n]; exact R.sh
    · simp (disch := omega) only [Option.bind_some, jlt_eq, ↓reduceIte, eq_self, jinT, zleT, zleF, zltT, zltF, zeq, zpos, zpos', zcl, zm6, z6, z84, z24, z14, z8, nI_add, zd0, zd1, zd2, zd3, zd4, zd5, bitI_e, bI0, bI1, upd_n]; exact R.be
    · simp (disch := omega) only [Option.bind_some, jlt_eq, ↓reduceIte, eq_self, jinT, zleT, zleF, zltT, zltF, zeq, zpos, zpos', zcl, zm6, z6, z84, z24, z14, z8, nI_add, zd0, zd1, zd2, zd3, zd4, zd5, bitI_e, bI0, bI1, upd_n]; exact R.mi
    · simp (disch := omega) only [Option.bind_some, jlt_eq, ↓reduceIte, eq_self, jinT, zleT, zleF, zltT, zltF, zeq, zpos, zpos', zcl, zm6, z6, z84, z24, z14, z8, nI_add, zd0, zd1, zd2, zd3, zd4, zd5, bitI_e, bI0, bI1, upd_s]; rfl
    · intro p hp
      show _ = (if p = a.ho t then a.co p + x else if p = to then a.co p - x else a.co p)
      by_cases h : p = a.ho t
      · subst h
        simp (disch := omega) only [Option.bind_some, jlt_eq, ↓reduceIte, eq_self, jinT, zleT, zleF, zltT, zltF, zeq, zpos, zpos', zcl, zm6, z6, z84, z24, z14, z8, nI_add, zd0, zd1, zd2, zd3, zd4, zd5, bitI_e, bI0, bI1, upd_s, upd_n, R.co _ hp]
      · rw [if_neg h]
        by_cases h4 : p = to
        · subst h4
          simp (disch := omega) only [Option.bind_some, jlt_eq, ↓reduceIte, eq_self, jinT, zleT, zleF, zltT, zltF, zeq, zpos, zpos', zcl, zm6, z6, z84, z24, z14, z8, nI_add, zd0, zd1, zd2, zd3, zd4, zd5, bitI_e, bI0, bI1, upd_s, upd_n, R.co _ hp]
        · rw [if_neg h4]
          simp (disch := omega) only [Option.bind_some, jlt_eq, ↓reduceIte, eq_self, jinT, zleT, zleF, zltT, zltF, zeq, zpos, zpos', zcl, zm6, z6, z84, z24, z14, z8, nI_add, zd0, zd1, zd2, zd3, zd4, zd5, bitI_e, bI0, bI1, upd_s, upd_n, R.co _ hp]
    · intro s hs
      have hs2 : s < a.nt := hs
      show _ = nI (if s = t then to else a.ho s)
      by_cases h : s = t
      · subst h
        simp (disch := omega) only [Option.bind_some, jlt_eq, ↓reduceIte, eq_self, jinT, zleT, zleF, zltT, zltF, zeq, zpos, zpos', zcl, zm6, z6, z84, z24, z14, z8, nI_add, zd0, zd1, zd2, zd3, zd4, zd5, bitI_e, bI0, bI1, upd_s, upd_n]
      · rw [if_neg h]
        simp (disch := omega) only [Option.bind_some, jlt_eq, ↓reduceIte, eq_self, jinT, zleT, zleF, zltT, zltF, zeq, zpos, zpos', zcl, zm6, z6, z84, z24, z14, z8, nI_add, zd0, zd1, zd2, zd3, zd4, zd5, bitI_e, bI0, bI1, upd_s, upd_n, R.ho s hs2]
    · intro s p hs hp
      simp (disch := omega) only [Option.bind_some, jlt_eq, ↓reduceIte, eq_self, jinT, zleT, zleF, zltT, zltF, zeq, zpos, zpos', zcl, zm6, z6, z84, z24, z14, z8, nI_add, zd0, zd1, zd2, zd3, zd4, zd5, bitI_e, bI0, bI1, upd_n]
      exact R.wo s p hs hp
    · intro d hd
      have hd2 : d < a.nd + 1 := hd
      show _ = nI (if d = a.nd then t else a.th d)
      by_cases h : d = a.nd
      · subst h
        simp (disch := omega) only [Option.bind_some, jlt_eq, ↓reduceIte, eq_self, jinT, zleT, zleF, zltT, zltF, zeq, zpos, zpos', zcl, zm6, z6, z84, z24, z14, z8, nI_add, zd0, zd1, zd2, zd3, zd4, zd5, bitI_e, bI0, bI1, upd_s, upd_n]
      · rw [if_neg h]
        simp (disch := omega) only [Option.bind_some, jlt_eq, ↓reduceIte, eq_self, jinT, zleT, zleF, zltT, zltF, zeq, zpos, zpos', zcl, zm6, z6, z84, z24, z14, z8, nI_add, zd0, zd1, zd2, zd3, zd4, zd5, bitI_e, bI0, bI1, upd_n, R.th d (show d < a.nd by omega)]
    · intro d hd
      have hd2 : d < a.nd + 1 := hd
      show _ = nI (if d = a.nd then a.ho t else a.gi d)
      by_cases h : d = a.nd
      · subst h
        simp (disch := omega) only [Option.bind_some, jlt_eq, ↓reduceIte, eq_self, jinT, zleT, zleF, zltT, zltF, zeq, zpos, zpos', zcl, zm6, z6, z84, z24, z14, z8, nI_add, zd0, zd1, zd2, zd3, zd4, zd5, bitI_e, bI0, bI1, upd_s, upd_n]
      · rw [if_neg h]
        simp (disch := omega) only [Option.bind_some, jlt_eq, ↓reduceIte, eq_self, jinT, zleT, zleF, zltT, zltF, zeq, zpos, zpos', zcl, zm6, z6, z84, z24, z14, z8, nI_add, zd0, zd1, zd2, zd3, zd4, zd5, bitI_e, bI0, bI1, upd_n, R.gi d (show d < a.nd by omega)]
    · intro d hd
      have hd2 : d < a.nd + 1 := hd
      show _ = nI (if d = a.nd then to else a.ta d)
      by_cases h : d = a.nd
      · subst h
        simp (disch := omega) only [Option.bind_some, jlt_eq, ↓reduceIte, eq_self, jinT, zleT, zleF, zltT, zltF, zeq, zpos, zpos', zcl, zm6, z6, z84, z24, z14, z8, nI_add, zd0, zd1, zd2, zd3, zd4, zd5, bitI_e, bI0, bI1, upd_s, upd_n]
      · rw [if_neg h]
        simp (disch := omega) only [Option.bind_some, jlt_eq, ↓reduceIte, eq_self, jinT, zleT, zleF, zltT, zltF, zeq, zpos, zpos', zcl, zm6, z6, z84, z24, z14, z8, nI_add, zd0, zd1, zd2, zd3, zd4, zd5, bitI_e, bI0, bI1, upd_n, R.ta d (show d < a.nd by omega)]
    · intro d hd
      have hd2 : d < a.nd + 1 := hd
      show _ = (if d = a.nd then x else a.pr d)
      by_cases h : d = a.nd
      · subst h
        simp (disch := omega) only [Option.bind_some, jlt_eq, ↓reduceIte, eq_self, jinT, zleT, zleF, zltT, zltF, zeq, zpos, zpos', zcl, zm6, z6, z84, z24, z14, z8, nI_add, zd0, zd1, zd2, zd3, zd4, zd5, bitI_e, bI0, bI1, upd_s, upd_n]
      · rw [if_neg h]
        simp (disch := omega) only [Option.bind_some, jlt_eq, ↓reduceIte, eq_self, jinT, zleT, zleF, zltT, zltF, zeq, zpos, zpos', zcl, zm6, z6, z84, z24, z14, z8, nI_add, zd0, zd1, zd2, zd3, zd4, zd5, bitI_e, bI0, bI1, upd_n, R.pr d (show d < a.nd by omega)]
    · intro d hd
      have hd2 : d < a.nd + 1 := hd
      show _ = bI (if d = a.nd then true else a.st d)
      by_cases h : d = a.nd
      · subst h
        simp (disch := omega) only [Option.bind_some, jlt_eq, ↓reduceIte, eq_self, jinT, zleT, zleF, zltT, zltF, zeq, zpos, zpos', zcl, zm6, z6, z84, z24, z14, z8, nI_add, zd0, zd1, zd2, zd3, zd4, zd5, bitI_e, bI0, bI1, upd_s, upd_n]
        rfl
      · rw [if_neg h]
        simp (disch := omega) only [Option.bind_some, jlt_eq, ↓reduceIte, eq_self, jinT, zleT, zleF, zltT, zltF, zeq, zpos, zpos', zcl, zm6, z6, z84, z24, z14, z8, nI_add, zd0, zd1, zd2, zd3, zd4, zd5, bitI_e, bI0, bI1, upd_n, R.st d (show d < a.nd by omega)]
    · intro d hd
      have hd2 : d < a.nd + 1 := hd
      show _ = (if d = a.nd then a.mi else a.wh d)
      by_cases h : d = a.nd
      · subst h
        simp (disch := omega) only [Option.bind_some, jlt_eq, ↓reduceIte, eq_self, jinT, zleT, zleF, zltT, zltF, zeq, zpos, zpos', zcl, zm6, z6, z84, z24, z14, z8, nI_add, zd0, zd1, zd2, zd3, zd4, zd5, bitI_e, bI0, bI1, upd_s, upd_n, R.mi]
      · rw [if_neg h]
        simp (disch := omega) only [Option.bind_some, jlt_eq, ↓reduceIte, eq_self, jinT, zleT, zleF, zltT, zltF, zeq, zpos, zpos', zcl, zm6, z6, z84, z24, z14, z8, nI_add, zd0, zd1, zd2, zd3, zd4, zd5, bitI_e, bI0, bI1, upd_n, R.wh d (show d < a.nd by omega)]
  · intro c hc
    simp (disch := omega) only [Option.bind_some, jlt_eq, ↓reduceIte, eq_self, jinT, zleT, zleF, zltT, zltF, zeq, zpos, zpos', zcl, zm6, z6, z84, z24, z14, z8, nI_add, zd0, zd1, zd2, zd3, zd4, zd5, bitI_e, bI0, bI1, jup_n]
theorem jcp_s (G : Nat → Nat → Int32) (c c0 n k : Nat) (hk : k < n) : jcp G c c0 n c k = G c0 k := by
  unfold jcp va_up
  rw [if_pos rfl, pk_cpy_in (Nat.zero_le _) (by omega), Nat.sub_zero, Nat.zero_add]
theorem jcp_n (G : Nat → Nat → Int32) {c c0 n c2 : Nat} (h : c2 ≠ c) : jcp G c c0 n c2 = G c2 := by
  unfold jcp va_up
  exact if_neg h
theorem c_copyFrom (R : RC (jvw g 9) a) (I : a.I) : Ok (p_X3_copyFrom N g) (fun r => RC r a) := by
  have h1 := I.nt
  have h2 := I.nd
  unfold p_X3_copyFrom
  simp only [jlt_eq]
  refine Ok.s ⟨?_, ?_, ?_, ?_, ?_, ?_, ?_, ?_, ?_, ?_, ?_, ?_, ?_, ?_, ?_, ?_, ?_⟩
  · simp (disch := omega) only [Option.bind_some, jlt_eq, ↓reduceIte, eq_self, jinT, zleT, zleF, zltT, zltF, zeq, zpos, zpos', zcl, zm6, z6, z84, z24, z14, z8, nI_add, zd0, zd1, zd2, zd3, zd4, zd5, bitI_e, bI0, bI1, jcp_n, jup_s, jup_n, upd_s, upd_n]; exact R.li
  · simp (disch := omega) only [Option.bind_some, jlt_eq, ↓reduceIte, eq_self, jinT, zleT, zleF, zltT, zltF, zeq, zpos, zpos', zcl, zm6, z6, z84, z24, z14, z8, nI_add, zd0, zd1, zd2, zd3, zd4, zd5, bitI_e, bI0, bI1, jcp_n, jup_s, jup_n, upd_s, upd_n]; exact R.np
  · simp (disch := omega) only [Option.bind_some, jlt_eq, ↓reduceIte, eq_self, jinT, zleT, zleF, zltT, zltF, zeq, zpos, zpos', zcl, zm6, z6, z84, z24, z14, z8, nI_add, zd0, zd1, zd2, zd3, zd4, zd5, bitI_e, bI0, bI1, jcp_n, jup_s, jup_n, upd_s, upd_n]; exact R.nt
  · simp (disch := omega) only [Option.bind_some, jlt_eq, ↓reduceIte, eq_self, jinT, zleT, zleF, zltT, zltF, zeq, zpos, zpos', zcl, zm6, z6, z84, z24, z14, z8, nI_add, zd0, zd1, zd2, zd3, zd4, zd5, bitI_e, bI0, bI1, jcp_n, jup_s, jup_n, upd_s, upd_n]; exact R.ea
  · simp (disch := omega) only [Option.bind_some, jlt_eq, ↓reduceIte, eq_self, jinT, zleT, zleF, zltT, zltF, zeq, zpos, zpos', zcl, zm6, z6, z84, z24, z14, z8, nI_add, zd0, zd1, zd2, zd3, zd4, zd5, bitI_e, bI0, bI1, jcp_n, jup_s, jup_n, upd_s, upd_n]; exact R.sh
  · simp (disch := omega) only [Option.bind_some, jlt_eq, ↓reduceIte, eq_self, jinT, zleT, zleF, zltT, zltF, zeq, zpos, zpos', zcl, zm6, z6, z84, z24, z14, z8, nI_add, zd0, zd1, zd2, zd3, zd4, zd5, bitI_e, bI0, bI1, jcp_n, jup_s, jup_n, upd_s, upd_n]; exact R.be
  · simp (disch := omega) only [Option.bind_some, jlt_eq, ↓reduceIte, eq_self, jinT, zleT, zleF, zltT, zltF, zeq, zpos, zpos', zcl, zm6, z6, z84, z24, z14, z8, nI_add, zd0, zd1, zd2, zd3, zd4, zd5, bitI_e, bI0, bI1, jcp_n, jup_s, jup_n, upd_s, upd_n]; exact R.mi
  · simp (disch := omega) only [Option.bind_some, jlt_eq, ↓reduceIte, eq_self, jinT, zleT, zleF, zltT, zltF, zeq, zpos, zpos', zcl, zm6, z6, z84, z24, z14, z8, nI_add, zd0, zd1, zd2, zd3, zd4, zd5, bitI_e, bI0, bI1, jcp_n, jup_s, jup_n, upd_s, upd_n]; exact R.nd
  · simp (disch := omega) only [Option.bind_some, jlt_eq, ↓reduceIte, eq_self, jinT, zleT, zleF, zltT, zltF, zeq, zpos, zpos', zcl, zm6, z6, z84, z24, z14, z8, nI_add, zd0, zd1, zd2, zd3, zd4, zd5, bitI_e, bI0, bI1, jcp_n, jup_s, jup_n, upd_s, upd_n]; exact R.st
  · intro p hp; simp (disch := omega) only [Option.bind_some, jlt_eq, ↓reduceIte, eq_self, jinT, zleT, zleF, zltT, zltF, zeq, zpos, zpos', zcl, zm6, z6, z84, z24, z14, z8, nI_add, zd0, zd1, zd2, zd3, zd4, zd5, bitI_e, bI0, bI1, jcp_n, jcp_s, jup_n]; exact R.co p hp
  · intro t ht; simp (disch := omega) only [Option.bind_some, jlt_eq, ↓reduceIte, eq_self, jinT, zleT, zleF, zltT, zltF, zeq, zpos, zpos', zcl, zm6, z6, z84, z24, z14, z8, nI_add, zd0, zd1, zd2, zd3, zd4, zd5, bitI_e, bI0, bI1, jcp_n, jcp_s, jup_n]; exact R.ho t ht
  · intro t p ht hp; simp (disch := omega) only [Option.bind_some, jlt_eq, ↓reduceIte, eq_self, jinT, zleT, zleF, zltT, zltF, zeq, zpos, zpos', zcl, zm6, z6, z84, z24, z14, z8, nI_add, zd0, zd1, zd2, zd3, zd4, zd5, bitI_e, bI0, bI1, jcp_n, jcp_s, jup_n]; exact R.wo t p ht hp
  · intro d hd; simp (disch := omega) only [Option.bind_some, jlt_eq, ↓reduceIte, eq_self, jinT, zleT, zleF, zltT, zltF, zeq, zpos, zpos', zcl, zm6, z6, z84, z24, z14, z8, nI_add, zd0, zd1, zd2, zd3, zd4, zd5, bitI_e, bI0, bI1, jcp_n, jcp_s, jup_n]; exact R.th d hd
  · intro d hd; simp (disch := omega) only [Option.bind_some, jlt_eq, ↓reduceIte, eq_self, jinT, zleT, zleF, zltT, zltF, zeq, zpos, zpos', zcl, zm6, z6, z84, z24, z14, z8, nI_add, zd0, zd1, zd2, zd3, zd4, zd5, bitI_e, bI0, bI1, jcp_n, jcp_s, jup_n]; exact R.gi d hd
  · intro d hd; simp (disch := omega) only [Option.bind_some, jlt_eq, ↓reduceIte, eq_self, jinT, zleT, zleF, zltT, zltF, zeq, zpos, zpos', zcl, zm6, z6, z84, z24, z14, z8, nI_add, zd0, zd1, zd2, zd3, zd4, zd5, bitI_e, bI0, bI1, jcp_n, jcp_s, jup_n]; exact R.ta d hd
  · intro d hd; simp (disch := omega) only [Option.bind_some, jlt_eq, ↓reduceIte, eq_self, jinT, zleT, zleF, zltT, zltF, zeq, zpos, zpos', zcl, zm6, z6, z84, z24, z14, z8, nI_add, zd0, zd1, zd2, zd3, zd4, zd5, bitI_e, bI0, bI1, jcp_n, jcp_s, jup_n]; exact R.pr d hd
  · intro d hd; simp (disch := omega) only [Option.bind_some, jlt_eq, ↓reduceIte, eq_self, jinT, zleT, zleF, zltT, zltF, zeq, zpos, zpos', zcl, zm6, z6, z84, z24, z14, z8, nI_add, zd0, zd1, zd2, zd3, zd4, zd5, bitI_e, bI0, bI1, jcp_n, jcp_s, jup_n]; exact R.wh d hd
end make

section JS2
variable {X : jX} {k n pc : Nat} {L : List (Option Value)} {st : List Value} {μ : jH}
theorem js_iald (hX : jOK X) {a N : Nat} {f : Nat → Int32} {i : Int32} (hμ : μ[a]? = some (.inl (0, N, f))) (hin : jin i N = true) (hd : decode (jcc X) pc = .ok (.iaload, 1)) (K : JW X k n (pc + 1) L (.int (f i.toNatClampNeg) :: st) μ) : JW X k n pc L (.int i :: .ref a :: st) μ := fun H locs ls hH hl =>
  va_iald hX.1 hX.2.1 hX.2.2.2.2.2.1 hH.1 a 0 (jpl_at hμ) rfl (jin_vp hin) hd (K H locs ls hH hl)
theorem js_bald (hX : jOK X) {a N : Nat} {f : Nat → Int32} {i : Int32} (hμ : μ[a]? = some (.inl (2, N, f))) (hin : jin i N = true) (hd : decode (jcc X) pc = .ok (.baload, 1)) (K : JW X k n (pc + 1) L (.int (f i.toNatClampNeg) :: st) μ) : JW X k n pc L (.int i :: .ref a :: st) μ := fun H locs ls hH hl =>
  va_bald hX.1 hX.2.1 hX.2.2.2.2.2.1 hH.1 a 2 (jpl_at hμ) rfl (jin_vp hin) hd (K H locs ls hH hl)
theorem js_zald (hX : jOK X) {a N : Nat} {f : Nat → Int32} {i : Int32} (hμ : μ[a]? = some (.inl (3, N, f))) (hin : jin i N = true) (hd : decode (jcc X) pc = .ok (.baload, 1)) (K : JW X k n (pc + 1) L (.int (f i.toNatClampNeg) :: st) μ) : JW X k n pc L (.int i :: .ref a :: st) μ := fun H locs ls hH hl =>
  va_zald hX.1 hX.2.1 hX.2.2.2.2.2.1 hH.1 a 3 (jpl_at hμ) rfl (jin_vp hin) hd (K H locs ls hH hl)
theorem js_lald (hX : jOK X) {a N : Nat} {f : Nat → Int64} {i : Int32} (hμ : μ[a]? = some (.inr (.inl (N, f)))) (hin : jin i N = true) (hd : decode (jcc X) pc = .ok (.laload, 1)) (K : JW X k n (pc + 1) L (.long (f i.toNatClampNeg) :: st) μ) : JW X k n pc L (.int i :: .ref a :: st) μ := fun H locs ls hH hl =>
  va_lald hX.1 hX.2.1 hX.2.2.2.2.2.1 hH.1 a 1 (jpl_at hμ) rfl (jin_vp hin) hd (K H locs ls hH hl)
/-- the script -/
theorem js_sald (hX : jOK X) {z : Nat × (Nat → Int32)} {i : Int32} (hz : (jtb X).2.2.2.2 = some z) (hin : jin i z.1 = true) (hd : decode (jcc X) pc = .ok (.iaload, 1)) (K : JW X k n (pc + 1) L (.int (z.2 i.toNatClampNeg) :: st) μ) : JW X k n pc L (.int i :: .ref 2000000 :: st) μ := fun H locs ls hH hl => by
  obtain ⟨h1, h2, h3⟩ := hX.2.2.2.2.2.2.2.2.2.2.2.2.2.2 z hz
  exact va_sld hX.1 hX.2.1 h1 h2 h3 hH.2.2.1 (jin_vp hin) hd (K H locs ls hH hl)
theorem js_salen (hX : jOK X) {z : Nat × (Nat → Int32)} (hz : (jtb X).2.2.2.2 = some z) (hd : decode (jcc X) pc = .ok (.arraylength, 1)) (K : JW X k n (pc + 1) L (.int (Int32.ofNat z.1) :: st) μ) : JW X k n pc L (.ref 2000000 :: st) μ := fun H locs ls hH hl => by
  obtain ⟨h1, h2, h3⟩ := hX.2.2.2.2.2.2.2.2.2.2.2.2.2.2 z hz
  exact va_slen hX.1 hX.2.1 h1 h2 h3 hH.2.2.1 hd (K H locs ls hH hl)
/-- the length of a row -/
theorem js_alen (hX : jOK X) {a t N : Nat} {f : Nat → Int32} (ht : t = 0 ∨ t = 2 ∨ t = 3) (hμ : μ[a]? = some (.inl (t, N, f))) (hd : decode (jcc X) pc = .ok (.arraylength, 1)) (K : JW X k n (pc + 1) L (.int (Int32.ofNat N) :: st) μ) : JW X k n pc L (.ref a :: st) μ := fun H locs ls hH hl => by
  rcases ht with rfl | rfl | rfl
  · exact va_alen hX.1 hX.2.1 hX.2.2.2.2.2.1 hH.1 a 0 (jpl_at hμ) rfl rfl hd (K H locs ls hH hl)
  · exact va_alen hX.1 hX.2.1 hX.2.2.2.2.2.1 hH.1 a 2 (jpl_at hμ) rfl rfl hd (K H locs ls hH hl)
  · exact va_alen hX.1 hX.2.1 hX.2.2.2.2.2.1 hH.1 a 3 (jpl_at hμ) rfl rfl hd (K H locs ls hH hl)
theorem js_llen (hX : jOK X) {a N : Nat} {f : Nat → Int64} (hμ : μ[a]? = some (.inr (.inl (N, f)))) (hd : decode (jcc X) pc = .ok (.arraylength, 1)) (K : JW X k n (pc + 1) L (.int (Int32.ofNat N) :: st) μ) : JW X k n pc L (.ref a :: st) μ := fun H locs ls hH hl =>
  va_alen hX.1 hX.2.1 hX.2.2.2.2.2.1 hH.1 a 1 (jpl_at hμ) rfl rfl hd (K H locs ls hH hl)
/-- a row of references -/
theorem js_aald (hX : jOK X) {a t r : Nat} {rs : List (Option Nat)} {i : Int32} (ht : t = 4 ∨ t = 5) (hμ : μ[a]? = some (.inr (.inr (.inr (t, rs))))) (hin : jin i rs.length = true) (hr : rs[i.toNatClampNeg]? = some (some r)) (hd : decode (jcc X) pc = .ok (.aaload, 1)) (K : JW X k n (pc + 1) L (.ref r :: st) μ) : JW X k n pc L (.int i :: .ref a :: st) μ := fun H locs ls hH hl => by
  have e : va_rf (((rs.map (Option.map (jad X)))[i.toNatClampNeg]?).getD none) = .ref (jad X r) := by
    rw [List.getElem?_map, hr]; rfl
  have K9 := K H locs ls hH hl
  rcases ht with rfl | rfl
  · exact va_aldq (C := RX3) hX.1 hX.2.1 hX.2.2.2.2.2.1 hH.1 a 4 (jpl_at hμ) rfl (jin_vp hin) hd (by rw [e]; exact K9)
  · exact va_aldq (C := RX4) hX.1 hX.2.1 hX.2.2.2.2.2.1 hH.1 a 5 (jpl_at hμ) rfl (jin_vp hin) hd (by rw [e]; exact K9)
theorem js_put0 (hX : jOK X) {a ci s kd i : Nat} {fs : List Value} {v : Value} (ht : (i, ci, s, kd) ∈ (jtb X).1) (hμ : μ[a]? = some (.inr (.inr (.inl (ci, fs))))) (hs : s < fs.length)
    (hty : ∀ (C : String) (T : u_T) (N : Nat) (ty : FieldType), vwCl[ci]? = some (C, T, N) → parseFieldDescriptor (T s).2.2.1 = some ty → (kd = 0 → ty = .int ∧ (T s).2.2.2 = false) → (kd = 1 → ty = .boolean ∧ (T s).2.2.2 = false) → (T s).2.2.2 = false ∧ narrow ty (jre (jad X) v) = jre (jad X) v ∧ fits ty (jre (jad X) v) = true)
    (hd : decode (jcc X) pc = .ok (.putfield i, 3)) (K : JW X k n (pc + 3) L st (μ.set a (.inr (.inr (.inl (ci, fs.set s v)))))) : JW X k n pc L (v :: .ref a :: st) μ := fun H locs ls hH hl => by
  obtain ⟨C, T, N, ty, hc, hk, h3, hp, hk0, hk1, -⟩ := hX.2.2.2.2.2.2.2.2.2.2.2.2.2.1.1 _ ht
  obtain ⟨hin, ⟨ty0, hty0⟩, hnm⟩ := jcl_in _ _ _ _ hc
  obtain ⟨hfin, hn, hfit⟩ := hty C T N ty hc hp hk0 hk1
  have hts := hX.2.2.2.2.1
  have hK := hX.2.2.2.2.2.1
  have hP := hH.1
  have hD := hH.2.1
  have he := jpl_at (ad := jad X) (cA := jcA X) hμ
  have hap := va_apart (own := jown X) hts hin ty0 hty0 hnm hK hc
  obtain ⟨r, h1, cell, q1, q2, q3, q4⟩ := hP a _ he
  have hr : r = (C, T, N) := Option.some.inj (h1.symm.trans hc)
  subst hr
  obtain ⟨hS, hfc, kC, hkC, hkind⟩ := hK.1 ci _ hc
  obtain ⟨cf, kf, fi, f, hi, hsl⟩ := hS s hk
  have hlay := hts _ (hin _ (u_in_lay hk))
  unfold u_lay at hlay
  rw [if_neg (by rw [hfin]; decide)] at hlay
  have hst := (u_facts hfc hkC (u_lays hts hin hk) hi).1
  have h6 := u_store hfc hkC hkind hlay hi hp hn hfit
  refine W.putK hX.1 hX.2.1 (f := f) ⟨hX.2.2.2.1, hts _ h3, ⟨_, _, _, hi⟩, hst⟩ (by rw [q2]; exact h6) q1 q3 (by rw [hsl]; exact k2_hasslot (q4 s hk)) rfl rfl hd fun H' e1 e2 e3 => ?_
  rw [hsl] at e1 ⊢
  have hl2 : s < (fs.map (jre (jad X))).length := by rw [List.length_map]; exact hs
  have hP2 := hP.set hD he (e := .inr (ci, (fs.map (jre (jad X))).set s (jre (jad X) v))) ⟨_, hc, t_OB.to (V := updV (vp_V (fs.map (jre (jad X)))) s (jre (jad X) v)) ⟨_, e1, q2, q3, t_set q4 hap hk (jre (jad X) v)⟩ (fun j _ => vp_updV_set hl2 (jre (jad X) v) j)⟩ e3
  have hD2 := hD.set (e := .inr (ci, (fs.map (jre (jad X))).set s (jre (jad X) v))) he
  have e9 : (jpl (jad X) (jcA X) μ).set a (jad X a, .inr (ci, (fs.map (jre (jad X))).set s (jre (jad X) v))) = jpl (jad X) (jcA X) (μ.set a (.inr (.inr (.inl (ci, fs.set s v))))) := by
    rw [jput_set]
    exact jpl_set (jad X) (jcA X) μ a (.inr (.inr (.inl (ci, fs.set s v))))
  rw [e9] at hP2 hD2
  exact K H' _ ls (hH.upd (by simp) e2 hP2 hD2 (hH.2.2.1.put e2 e3 (hD.2 a _ he))) hl
/-- a field that is an int -/
theorem js_put (hX : jOK X) {a ci s i : Nat} {fs : List Value} {x : Int32} (ht : (i, ci, s, 0) ∈ (jtb X).1) (hμ : μ[a]? = some (.inr (.inr (.inl (ci, fs))))) (hs : s < fs.length) (hd : decode (jcc X) pc = .ok (.putfield i, 3)) (K : JW X k n (pc + 3) L st (μ.set a (.inr (.inr (.inl (ci, fs.set s (.int x))))))) : JW X k n pc L (.int x :: .ref a :: st) μ :=
  js_put0 hX ht hμ hs (fun C T N ty hc hp h0 h1 => by obtain ⟨rfl, hf⟩ := h0 rfl; exact ⟨hf, rfl, rfl⟩) hd K
/-- a field that is a boolean -/
def jz (x : Int32) : Bool := decide (narrow .boolean (.int x) = .int x) && fits .boolean (.int x)
theorem js_putz (hX : jOK X) {a ci s i : Nat} {fs : List Value} {x : Int32} (hz : jz x = true) (ht : (i, ci, s, 1) ∈ (jtb X).1) (hμ : μ[a]? = some (.inr (.inr (.inl (ci, fs))))) (hs : s < fs.length) (hd : decode (jcc X) pc = .ok (.putfield i, 3)) (K : JW X k n (pc + 3) L st (μ.set a (.inr (.inr (.inl (ci, fs.set s (.int x))))))) : JW X k n pc L (.int x :: .ref a :: st) μ := by
  simp only [jz, Bool.and_eq_true, decide_eq_true_eq] at hz
  exact js_put0 hX ht hμ hs (fun C T N ty hc hp h0 h1 => by obtain ⟨rfl, hf⟩ := h1 rfl; exact ⟨hf, hz.1, hz.2⟩) hd K

theorem js_iast (hX : jOK X) {a N : Nat} {f : Nat → Int32} {i : Int32} {x : Int32} (hμ : μ[a]? = some (.inl (0, N, f))) (hin : jin i N = true) (hd : decode (jcc X) pc = .ok (.iastore, 1)) (K : JW X k n (pc + 1) L st (μ.set a (.inl (0, N, upd f i.toNatClampNeg x)))) : JW X k n pc L (.int x :: .int i :: .ref a :: st) μ := fun H locs ls hH hl => by
  have hP := hH.1
  have hD := hH.2.1
  have ha := jpl_at (ad := jad X) (cA := jcA X) hμ
  have ha : (jpl (jad X) (jcA X) μ)[a]? = some (jad X a, .inl (jcA X 0, N, .inl f)) := ha
  have hin := jin_vp hin
  refine W.iast hX.1 hX.2.1 (hP a _ ha) ((hX.2.2.2.2.2.1.2 0 (jcA X 0, .int) rfl).1 N (fun j => .int (f j))) (fun q => by cases q) (by show ¬ (i < 0 ∨ (arrV _ _ _).slots.size ≤ _); rw [arrV_size]; exact hin) rfl rfl hd fun H1 e z oq => ?_
  have hP2 := hP.set hD ha (e := jrE (jad X) (jcA X) (.inl (0, N, upd f i.toNatClampNeg x))) (H1 := H1) (by
    show H1[jad X a]? = some (vp_cell _ _)
    rw [e]
    rw [vp_cell_i, vp_cell_i, arrV_store]
    congr 2
    funext q
    by_cases hq : q = i.toNatClampNeg
    · subst hq
      simp [updV, upd]
      try rfl
    · simp [updV, upd, hq]) oq
  have hD2 := hD.set (e := jrE (jad X) (jcA X) (.inl (0, N, upd f i.toNatClampNeg x))) ha
  rw [jpl_set] at hP2 hD2
  exact K H1 _ ls (hH.upd (by simp) z hP2 hD2 (hH.2.2.1.put z oq (hD.2 a _ ha))) hl
theorem js_bast (hX : jOK X) {a N : Nat} {f : Nat → Int32} {i : Int32} {x : Int32} (hμ : μ[a]? = some (.inl (2, N, f))) (hin : jin i N = true) (hd : decode (jcc X) pc = .ok (.bastore, 1)) (K : JW X k n (pc + 1) L st (μ.set a (.inl (2, N, upd f i.toNatClampNeg (vp_nar .byte x))))) : JW X k n pc L (.int x :: .int i :: .ref a :: st) μ := fun H locs ls hH hl => by
  have hP := hH.1
  have hD := hH.2.1
  have ha := jpl_at (ad := jad X) (cA := jcA X) hμ
  have ha : (jpl (jad X) (jcA X) μ)[a]? = some (jad X a, .inl (jcA X 2, N, .inl f)) := ha
  have hin := jin_vp hin
  refine W.bast hX.1 hX.2.1 (hP a _ ha) ((hX.2.2.2.2.2.1.2 2 (jcA X 2, .byte) rfl).1 N (fun j => .int (f j))) (fun q => by cases q) (by show ¬ (i < 0 ∨ (arrV _ _ _).slots.size ≤ _); rw [arrV_size]; exact hin) rfl rfl hd fun H1 e z oq => ?_
  have hP2 := hP.set hD ha (e := jrE (jad X) (jcA X) (.inl (2, N, upd f i.toNatClampNeg (vp_nar .byte x)))) (H1 := H1) (by
    show H1[jad X a]? = some (vp_cell _ _)
    rw [e]
    rw [vp_cell_i, vp_cell_i, arrV_store]
    congr 2
    funext q
    by_cases hq : q = i.toNatClampNeg
    · subst hq
      simp [updV, upd, vp_nar]
      try rfl
    · simp [updV, upd, vp_nar, hq]) oq
  have hD2 := hD.set (e := jrE (jad X) (jcA X) (.inl (2, N, upd f i.toNatClampNeg (vp_nar .byte x)))) ha
  rw [jpl_set] at hP2 hD2
  exact K H1 _ ls (hH.upd (by simp) z hP2 hD2 (hH.2.2.1.put z oq (hD.2 a _ ha))) hl
theorem js_zast (hX : jOK X) {a N : Nat} {f : Nat → Int32} {i : Int32} {x : Int32} (hμ : μ[a]? = some (.inl (3, N, f))) (hin : jin i N = true) (hd : decode (jcc X) pc = .ok (.bastore, 1)) (K : JW X k n (pc + 1) L st (μ.set a (.inl (3, N, upd f i.toNatClampNeg (vp_nar .boolean x))))) : JW X k n pc L (.int x :: .int i :: .ref a :: st) μ := fun H locs ls hH hl => by
  have hP := hH.1
  have hD := hH.2.1
  have ha := jpl_at (ad := jad X) (cA := jcA X) hμ
  have ha : (jpl (jad X) (jcA X) μ)[a]? = some (jad X a, .inl (jcA X 3, N, .inl f)) := ha
  have hin := jin_vp hin
  refine W.zast hX.1 hX.2.1 (hP a _ ha) ((hX.2.2.2.2.2.1.2 3 (jcA X 3, .boolean) rfl).1 N (fun j => .int (f j))) (fun q => by cases q) (by show ¬ (i < 0 ∨ (arrV _ _ _).slots.size ≤ _); rw [arrV_size]; exact hin) rfl rfl hd fun H1 e z oq => ?_
  have hP2 := hP.set hD ha (e := jrE (jad X) (jcA X) (.inl (3, N, upd f i.toNatClampNeg (vp_nar .boolean x)))) (H1 := H1) (by
    show H1[jad X a]? = some (vp_cell _ _)
    rw [e]
    rw [vp_cell_i, vp_cell_i, arrV_store]
    congr 2
    funext q
    by_cases hq : q = i.toNatClampNeg
    · subst hq
      simp [updV, upd, vp_nar]
      try rfl
    · simp [updV, upd, vp_nar, hq]) oq
  have hD2 := hD.set (e := jrE (jad X) (jcA X) (.inl (3, N, upd f i.toNatClampNeg (vp_nar .boolean x)))) ha
  rw [jpl_set] at hP2 hD2
  exact K H1 _ ls (hH.upd (by simp) z hP2 hD2 (hH.2.2.1.put z oq (hD.2 a _ ha))) hl
theorem js_last (hX : jOK X) {a N : Nat} {f : Nat → Int64} {i : Int32} {x : Int64} (hμ : μ[a]? = some (.inr (.inl (N, f)))) (hin : jin i N = true) (hd : decode (jcc X) pc = .ok (.lastore, 1)) (K : JW X k n (pc + 1) L st (μ.set a (.inr (.inl (N, vp_updL f i.toNatClampNeg x))))) : JW X k n pc L (.long x :: .int i :: .ref a :: st) μ := fun H locs ls hH hl => by
  have hP := hH.1
  have hD := hH.2.1
  have ha := jpl_at (ad := jad X) (cA := jcA X) hμ
  have ha : (jpl (jad X) (jcA X) μ)[a]? = some (jad X a, .inl (jcA X 1, N, .inr (.inl f))) := ha
  have hin := jin_vp hin
  refine W.last hX.1 hX.2.1 (hP a _ ha) ((hX.2.2.2.2.2.1.2 1 (jcA X 1, .long) rfl).1 N (fun j => .long (f j))) (fun q => by cases q) (by show ¬ (i < 0 ∨ (arrV _ _ _).slots.size ≤ _); rw [arrV_size]; exact hin) rfl rfl hd fun H1 e z oq => ?_
  have hP2 := hP.set hD ha (e := jrE (jad X) (jcA X) (.inr (.inl (N, vp_updL f i.toNatClampNeg x)))) (H1 := H1) (by
    show H1[jad X a]? = some (vp_cell _ _)
    rw [e]
    rw [vp_cell_l, vp_cell_l, arrV_store]
    congr 2
    funext q
    by_cases hq : q = i.toNatClampNeg
    · subst hq
      simp [updV, vp_updL]
      try rfl
    · simp [updV, vp_updL, hq]) oq
  have hD2 := hD.set (e := jrE (jad X) (jcA X) (.inr (.inl (N, vp_updL f i.toNatClampNeg x)))) ha
  rw [jpl_set] at hP2 hD2
  exact K H1 _ ls (hH.upd (by simp) z hP2 hD2 (hH.2.2.1.put z oq (hD.2 a _ ha))) hl
end JS2

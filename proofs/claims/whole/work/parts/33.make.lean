/-! what makes cells -/
section J11
variable {X : jX} {k n pc : Nat} {L : List (Option Value)} {st : List Value} {μ : jH}
theorem jHP.push (hX : jOK X) {H H1 : Heap} {locs : List Loc} {c : jc} (hH : jHP X μ H locs) (hb : μ.length < jal X) (z1 : H1.size = H.size + 1) (o1 : ∀ q : Nat, q < H.size → H1[q]? = H[q]?) (hat : va_at (jD X) vwCl (H.size, jrE (jad X) (jcA X) c) H1) : jHP X (μ ++ [c]) H1 locs ∧ jad X μ.length = H.size := by
  have ha : jad X μ.length = H.size := by
    have := hH.2.2.2 μ.length (Nat.le_refl _) hb
    rw [this, Nat.sub_self, Nat.add_zero]
  have hk : ∀ (k : Nat) (x : Nat × va_E), (jpl (jad X) (jcA X) μ)[k]? = some x → H1[x.1]? = H[x.1]? := fun k x hx => o1 x.1 ((hH.1 k x hx).lt)
  refine ⟨⟨?_, ?_, ⟨Nat.le_trans hH.2.2.1.1 (by omega), fun x h1 h2 => (o1 x (Nat.lt_of_lt_of_le h1 hH.2.2.1.1)).trans (hH.2.2.1.2.1 x h1 h2), hH.2.2.1.2.2⟩, fun j h1 h2 => ?_⟩, ha⟩
  · rw [jpl_app]
    refine (hH.1.kept hk).app (fun k x hx => ?_)
    have hz : k < 1 := (List.getElem?_eq_some_iff.mp hx).1
    rw [show k = 0 by omega] at hx
    cases hx
    rw [ha]
    exact hat
  · rw [jpl_app]
    exact hH.2.1.push hH.1 ha (by rw [ha]; exact hX.2.2.2.2.2.2.1 _ hH.2.2.1.1)
  · rw [List.length_append] at h1 ⊢
    simp only [List.length_cons, List.length_nil] at h1 ⊢
    rw [hH.2.2.2 j (by omega) h2]
    omega
theorem js_new (hX : jOK X) {ci i N : Nat} {C : String} {T : u_T} (hc : vwCl[ci]? = some (C, T, N)) (hw : Cond.classLink (jown X) i C ∈ jbig ∧ Cond.instantiable C N ∈ jbig ∧ Cond.initialized C ∈ jbig) {ty : Nat → FieldType} (hty : ∀ k, k < N → parseFieldDescriptor (T k).2.2.1 = some (ty k)) {fs : List Value} (hfs : (List.range N).map (fun j => defaultValue (ty j)) = fs) (hfr : fs.map (jre (jad X)) = fs) (hb : μ.length < jal X) (hk : k + 1 ≤ jmc X) (hn : n + N ≤ jms X) (hd : decode (jcc X) pc = .ok (.new i, 3)) (K : JW X (k + 1) (n + N) (pc + 3) L (.ref μ.length :: st) (μ ++ [.inr (.inr (.inl (ci, fs)))])) : JW X k n pc L st μ := fun H locs ls hH hl => by
  have hKn := hX.2.2.2.2.2.1.1 ci _ hc
  have hts := hX.2.2.2.2.1
  have hin := (jcl_in _ _ _ _ hc).1
  refine W.newcK hX.1 hX.2.1 hX.2.2.2.1 (hts _ hw.1) (hts _ hw.2.1) (hts _ hw.2.2) rfl hd (Nat.le_trans hk hX.2.2.2.2.2.2.2.2.2.2.1) (Nat.le_trans hn hX.2.2.2.2.2.2.2.2.2.2.2.1) hKn.2.1 rfl fun H1 kC hkC e1 z1 o1 => ?_
  obtain ⟨h9, ha⟩ := jHP.push (c := .inr (.inr (.inl (ci, fs)))) hX hH hb z1 o1 (by
    refine ⟨_, hc, (u_born ty hts hin hKn hkC e1 hty).to fun j hj => ?_⟩
    show defaultValue (ty j) = (fs.map (jre (jad X))).getD j .null
    rw [hfr, ← hfs]
    simp [List.getD_eq_getElem?_getD, hj])
  have h8 := K H1 locs ls h9 hl
  rw [List.map_cons] at h8
  simp only [jre, ha] at h8
  exact h8
theorem js_newa (hX : jOK X) {atype : ArrayType} {ty : FieldType} (hty : newarray.typeOf atype = ty) {t N : Nat} {z : Int32} {c : jc} (ht : (jty (jcA X))[t]? = some (jcA X t, ty)) (hw : Cond.arrayClass (newarray.typeOf atype) ∈ jbig) {a0 : vp_A} (hcell : ∀ cA : ClassId, vp_cell cA a0 = arrV cA N (fun _ => defaultValue ty)) (hcE : jrE (jad X) (jcA X) c = .inl (jcA X t, a0)) (hz : ¬ z < 0) (hN : z.toNatClampNeg = N) (hbytes : N * componentBytes ty ≤ 536870912) (hb : μ.length < jal X) (hk : k + 1 ≤ jmc X) (hn : n + N ≤ jms X) (hd : decode (jcc X) pc = .ok (.newarray atype, 2)) (hpr : refKind ty = false) (K : JW X (k + 1) (n + N) (pc + 2) L (.ref μ.length :: st) (μ ++ [c])) : JW X k n pc L (.int z :: st) μ := fun H locs ls hH hl => by
  subst hty
  refine va_newaK hX.1 hX.2.1 (hX.2.2.2.2.1 _ hw) rfl hd rfl hz hN hbytes (Nat.le_trans hk hX.2.2.2.2.2.2.2.2.2.2.1) (Nat.le_trans hn hX.2.2.2.2.2.2.2.2.2.2.2.1) rfl fun H1 cA e1 z1 o1 hAr hNm => ?_
  have hcA : cA = jcA X t := by
    have h9 := (hX.2.2.2.2.2.1.2 t _ ht).2
    have h8 : (js X).vm.findClass ("[" ++ (newarray.typeOf atype).toString) = some (jcA X t) := by
      cases atype <;> exact h9
    exact Option.some.inj (hNm.symm.trans h8)
  subst hcA
  obtain ⟨h9, ha⟩ := jHP.push (c := c) hX hH hb z1 o1 (by
    rw [hcE]
    show H1[H.size]? = some (vp_cell (jcA X t) a0)
    rw [hcell]
    exact e1)
  have h8 := K H1 locs ls h9 hl
  rw [List.map_cons] at h8
  simp only [jre, ha] at h8
  exact h8
theorem js_newi (hX : jOK X) {N : Nat} {z : Int32} (hw : Cond.arrayClass .int ∈ jbig) (hz : ¬ z < 0) (hN : z.toNatClampNeg = N) (hbytes : N * componentBytes .int ≤ 536870912) (hb : μ.length < jal X) (hk : k + 1 ≤ jmc X) (hn : n + N ≤ jms X) (hd : decode (jcc X) pc = .ok (.newarray .int, 2)) (K : JW X (k + 1) (n + N) (pc + 2) L (.ref μ.length :: st) (μ ++ [.inl (0, N, fun _ => 0)])) : JW X k n pc L (.int z :: st) μ :=
  js_newa (atype := .int) (ty := .int) (t := 0) (c := .inl (0, N, fun _ => 0)) hX rfl rfl hw (fun _ => rfl) rfl hz hN hbytes hb hk hn hd rfl K
theorem js_newb (hX : jOK X) {N : Nat} {z : Int32} (hw : Cond.arrayClass .byte ∈ jbig) (hz : ¬ z < 0) (hN : z.toNatClampNeg = N) (hbytes : N * componentBytes .byte ≤ 536870912) (hb : μ.length < jal X) (hk : k + 1 ≤ jmc X) (hn : n + N ≤ jms X) (hd : decode (jcc X) pc = .ok (.newarray .byte, 2)) (K : JW X (k + 1) (n + N) (pc + 2) L (.ref μ.length :: st) (μ ++ [.inl (2, N, fun _ => 0)])) : JW X k n pc L (.int z :: st) μ :=
  js_newa (atype := .byte) (ty := .byte) (t := 2) (c := .inl (2, N, fun _ => 0)) hX rfl rfl hw (fun _ => rfl) rfl hz hN hbytes hb hk hn hd rfl K
theorem js_newz (hX : jOK X) {N : Nat} {z : Int32} (hw : Cond.arrayClass .boolean ∈ jbig) (hz : ¬ z < 0) (hN : z.toNatClampNeg = N) (hbytes : N * componentBytes .boolean ≤ 536870912) (hb : μ.length < jal X) (hk : k + 1 ≤ jmc X) (hn : n + N ≤ jms X) (hd : decode (jcc X) pc = .ok (.newarray .boolean, 2)) (K : JW X (k + 1) (n + N) (pc + 2) L (.ref μ.length :: st) (μ ++ [.inl (3, N, fun _ => 0)])) : JW X k n pc L (.int z :: st) μ :=
  js_newa (atype := .boolean) (ty := .boolean) (t := 3) (c := .inl (3, N, fun _ => 0)) hX rfl rfl hw (fun _ => rfl) rfl hz hN hbytes hb hk hn hd rfl K
theorem js_newl (hX : jOK X) {N : Nat} {z : Int32} (hw : Cond.arrayClass .long ∈ jbig) (hz : ¬ z < 0) (hN : z.toNatClampNeg = N) (hbytes : N * componentBytes .long ≤ 536870912) (hb : μ.length < jal X) (hk : k + 1 ≤ jmc X) (hn : n + N ≤ jms X) (hd : decode (jcc X) pc = .ok (.newarray .long, 2)) (K : JW X (k + 1) (n + N) (pc + 2) L (.ref μ.length :: st) (μ ++ [.inr (.inl (N, fun _ => 0))])) : JW X k n pc L (.int z :: st) μ :=
  js_newa (atype := .long) (ty := .long) (t := 1) (c := .inr (.inl (N, fun _ => 0))) hX rfl rfl hw (fun _ => rfl) rfl hz hN hbytes hb hk hn hd rfl K
/-- an array of references -/
theorem js_newq (hX : jOK X) {t i N : Nat} {C : String} {z : Int32} (ht : (jty (jcA X))[t]? = some (jcA X t, .object C)) (hao : va_AO C (js X)) (hw : Cond.classLink (jown X) i C ∈ jbig) (hz : ¬ z < 0) (hN : z.toNatClampNeg = N) (hbytes : N * 4 ≤ 536870912) (hb : μ.length < jal X) (hk : k + 1 ≤ jmc X) (hn : n + N ≤ jms X) (hd : decode (jcc X) pc = .ok (.anewarray i, 3)) (K : JW X (k + 1) (n + N) (pc + 3) L (.ref μ.length :: st) (μ ++ [.inr (.inr (.inr (t, List.replicate N none)))])) : JW X k n pc L (.int z :: st) μ := fun H locs ls hH hl => by
  subst hN
  refine W.anew hX.1 hX.2.1 hX.2.2.2.1 (hX.2.2.2.2.1 _ hw) (va_AO.use hao) rfl hd rfl hz hbytes (Nat.le_trans hk hX.2.2.2.2.2.2.2.2.2.2.1) (Nat.le_trans hn hX.2.2.2.2.2.2.2.2.2.2.2.1) fun cA kA comp f1 f2 f3 f4 => ?_
  generalize hH1 : H.push ({ cls := cA, slots := Array.replicate z.toNatClampNeg .null, vm := .none } : Cell) = H1
  have z1 : H1.size = H.size + 1 := by rw [← hH1, Array.size_push]
  have e1 : H1[H.size]? = some (arrV cA z.toNatClampNeg (fun _ => .null)) := by rw [← hH1, Array.getElem?_push_size, ← arrV_new]
  have o1 : ∀ q : Nat, q < H.size → H1[q]? = H[q]? := fun q hq => by rw [← hH1, Array.getElem?_push, if_neg (Nat.ne_of_lt hq)]
  have hcA : cA = jcA X t := by
    obtain ⟨-, kB, cB, -, -, -, h9⟩ := hX.2.2.2.2.2.1.2 t _ ht
    exact Option.some.inj (f1.symm.trans h9)
  subst hcA
  obtain ⟨h9, ha⟩ := jHP.push (c := .inr (.inr (.inr (t, List.replicate z.toNatClampNeg none)))) hX hH hb z1 o1 (by
    show H1[H.size]? = some (vp_cell (jcA X t) ((List.replicate z.toNatClampNeg none).length, _))
    rw [vp_cell_q, e1, List.length_replicate]
    congr 2
    funext j
    have h7 : (((List.replicate z.toNatClampNeg (none : Option Nat)).map (Option.map (jad X)))[j]?).getD none = none := by
      simp only [List.map_replicate, Option.map_none, List.getElem?_replicate]
      split <;> rfl
    rw [h7]
    rfl)
  have h8 := K H1 locs ls h9 hl
  rw [List.map_cons] at h8
  simp only [jre, ha] at h8
  exact h8
/-- a reference into a row of them -/
theorem js_aast (hX : jOK X) {a t ci v : Nat} {r : vw_C} {vs : List Value} {rs : List (Option Nat)} {i : Int32} (ht : (jty (jcA X))[t]? = some (jcA X t, .object r.1)) (hμ : μ[a]? = some (.inr (.inr (.inr (t, rs))))) (hv : μ[v]? = some (.inr (.inr (.inl (ci, vs))))) (hc : vwCl[ci]? = some r) (hin : jin i rs.length = true) (hd : decode (jcc X) pc = .ok (.aastore, 1)) (K : JW X k n (pc + 1) L st (μ.set a (.inr (.inr (.inr (t, rs.set i.toNatClampNeg (some v))))))) : JW X k n pc L (.ref v :: .int i :: .ref a :: st) μ := fun H locs ls hH hl => by
  have hP := hH.1
  have hD := hH.2.1
  have hK := hX.2.2.2.2.2.1
  have hin := jin_vp hin
  have hlt : i.toNatClampNeg < rs.length := Nat.not_le.mp fun q => hin (Or.inr q)
  have h0 : ¬ i < 0 := fun q => hin (Or.inl q)
  have ha : (jpl (jad X) (jcA X) μ)[a]? = some (jad X a, .inl (jcA X t, rs.length, .inr (.inr (.inr (.inr (fun i => ((rs.map (Option.map (jad X)))[i]?).getD none)))))) := jpl_at hμ
  obtain ⟨r', hr', cellV, g1, g2, g3, -⟩ := hP v _ (jpl_at hv)
  have hcls := (hK.1 ci r hc).2
  obtain ⟨kA, comp, k1, k2, k3, -⟩ := (hK.2 t _ ht).2
  have hcomp : comp = (jD X).1 ci := Option.some.inj (k3.symm.trans hcls.1)
  subst hcomp
  obtain ⟨kC, hkC, -⟩ := hcls.2
  refine W.aast hX.1 hX.2.1 (hP a _ ha) (fun q h => by cases h) (fun h => by cases h) k1 k2 rfl hkC ⟨h0, by show _ < (arrV _ _ _).slots.size; rw [arrV_size]; exact hlt⟩ g1 (fun q h => by rw [g3] at h; cases h) (by rw [g2]; exact hkC) (by rw [g2]; exact va_assign hcls) rfl rfl hd fun H1 e z oq => ?_
  have hP2 := hP.set hD ha (e := jrE (jad X) (jcA X) (.inr (.inr (.inr (t, rs.set i.toNatClampNeg (some v)))))) (H1 := H1) (by
    show H1[jad X a]? = some (vp_cell _ _)
    rw [e]
    rw [vp_cell_q, vp_cell_q, arrV_store, List.length_set]
    congr 2
    funext q
    have h7 : ((((rs.set i.toNatClampNeg (some v)).map (Option.map (jad X)))[q]?).getD none) = if q = i.toNatClampNeg then some (jad X v) else ((rs.map (Option.map (jad X)))[q]?).getD none := by
      rw [List.getElem?_map, List.getElem?_set]
      by_cases hq : i.toNatClampNeg = q
      · subst hq
        simp [hlt]
      · simp [hq, Ne.symm hq]
    rw [h7]
    by_cases hq : q = i.toNatClampNeg
    · subst hq
      simp [updV, va_rf]
    · simp [updV, hq]) oq
  have hD2 := hD.set (e := jrE (jad X) (jcA X) (.inr (.inr (.inr (t, rs.set i.toNatClampNeg (some v)))))) ha
  rw [jpl_set] at hP2 hD2
  exact K H1 _ ls (hH.upd (by simp) z hP2 hD2 (hH.2.2.1.put z oq (hD.2 a _ ha))) hl
/-- a final field, in a constructor -/
theorem js_putF (hX : jOK X) (hin2 : (jme X).name = "<init>") {a ci s i v : Nat} {fs : List Value} (ht : (i, ci, s, 2) ∈ (jtb X).1) (hμ : μ[a]? = some (.inr (.inr (.inl (ci, fs))))) (hs : s < fs.length)
    (hd : decode (jcc X) pc = .ok (.putfield i, 3)) (K : JW X k n (pc + 3) L st (μ.set a (.inr (.inr (.inl (ci, fs.set s (.ref v))))))) : JW X k n pc L (.ref v :: .ref a :: st) μ := fun H locs ls hH hl => by
  obtain ⟨C, T, N, ty, hc, hk, h3, hp, -, -, hk2⟩ := hX.2.2.2.2.2.2.2.2.2.2.2.2.2.1.1 _ ht
  obtain ⟨hnf, hfin, hdecl⟩ := hk2 rfl
  obtain ⟨hin, ⟨ty0, hty0⟩, hnm⟩ := jcl_in _ _ _ _ hc
  have hts := hX.2.2.2.2.1
  have hK := hX.2.2.2.2.2.1
  have hown := hX.2.2.2.1
  have hP := hH.1
  have hD := hH.2.1
  have he := jpl_at (ad := jad X) (cA := jcA X) hμ
  have hap := va_apart (own := jown X) hts hin ty0 hty0 hnm hK hc
  obtain ⟨r, h1, cell, q1, q2, q3, q4⟩ := hP a _ he
  have hr : r = (C, T, N) := Option.some.inj (h1.symm.trans hc)
  subst hr
  obtain ⟨hS, hfc, kC, hkC, hkind⟩ := hK.1 ci _ hc
  obtain ⟨cf, kf, fi, f, hi, hsl⟩ := hS s hk
  have hlay := hts _ (hin _ (u_in_lay hk))
  unfold u_lay at hlay
  rw [if_pos hfin] at hlay
  have hst := (u_facts hfc hkC (u_lays hts hin hk) hi).1
  have hcf : (jm X).cls = cf := by
    obtain ⟨_, _, c', _, _, _, -, -, hf', -, -, -, hown2, -⟩ := Cond.laysFinal_spec hlay
    have e1 : c' = cf := by have := hi.symm.trans hf'; simp at this; exact this.1.symm
    rw [hdecl] at hown2
    rw [← e1]; exact Option.some.inj (hown.symm.trans hown2)
  have h6 := u_fits hfc hkC hkind (Or.inr hlay) hi hp (hnf (jad X v)).1 (hnf (jad X v)).2
  refine W.putFinK hX.1 hX.2.1 hown (hts _ h3) hi hst hcf hin2 (by rw [q2]; exact h6) q1 q3 (by rw [hsl]; exact k2_hasslot (q4 s hk)) rfl rfl hd fun H' e1 e2 e3 => ?_
  rw [hsl] at e1 ⊢
  have hl2 : s < (fs.map (jre (jad X))).length := by rw [List.length_map]; exact hs
  have hP2 := hP.set hD he (e := .inr (ci, (fs.map (jre (jad X))).set s (jre (jad X) (.ref v)))) ⟨_, hc, t_OB.to (V := updV (vp_V (fs.map (jre (jad X)))) s (jre (jad X) (.ref v))) ⟨_, e1, q2, q3, t_set q4 hap hk (jre (jad X) (.ref v))⟩ (fun j _ => vp_updV_set hl2 (jre (jad X) (.ref v)) j)⟩ e3
  have hD2 := hD.set (e := .inr (ci, (fs.map (jre (jad X))).set s (jre (jad X) (.ref v)))) he
  have e9 : (jpl (jad X) (jcA X) μ).set a (jad X a, .inr (ci, (fs.map (jre (jad X))).set s (jre (jad X) (.ref v)))) = jpl (jad X) (jcA X) (μ.set a (.inr (.inr (.inl (ci, fs.set s (.ref v)))))) := by
    rw [jput_set]
    exact jpl_set (jad X) (jcA X) μ a (.inr (.inr (.inl (ci, fs.set s (.ref v)))))
  rw [e9] at hP2 hD2
  exact K H' _ ls (hH.upd (by simp) e2 hP2 hD2 (hH.2.2.1.put e2 e3 (hD.2 a _ he))) hl
end J11

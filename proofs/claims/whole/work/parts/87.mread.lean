/-! the reference reads a line -/
section mread
variable {N : Nat} {G G2 A : Nat → Nat → Int32} {J : Nat → Nat → Int64} {tp : Nat → Nat} {lim : Nat} {t : Nat × Nat × Nat × Nat} {l : LA}
def KP (A r : Nat → Nat → Int32) : Prop := (∀ i, i ≤ 8 ∨ 15 ≤ i → r 0 i = A 0 i) ∧ ∀ c, c ≠ 0 → c ≠ 2 → r c = A c
def PM (tp : Nat → Nat) (lim : Nat) (A : Nat → Nat → Int32) (e : (Nat × Nat) ⊕ ((Nat × Nat × Nat × Nat) × LA)) (r : Nat → Nat → Int32) : Prop := KP A r ∧ match e with
  | .inl (c, p) => r 0 13 = nI c ∧ r 0 14 = nI p
  | .inr (t2, l2) => r 0 13 = 0 ∧ TM r tp lim t2 ∧ DB (r 2) l2
theorem KP.fm (K : KP A G) {c p : Nat} (h : FM G G2 c p) : KP A G2 := ⟨fun i hi => (h.2.2.1 i (by omega) (by omega)).trans (K.1 i hi), fun c h0 h2 => (h.2.2.2 c h0).trans (K.2 c h0 h2)⟩
theorem KP.kr (K : KP A G) (h : KR G G2) : KP A G2 := ⟨fun i hi => (h.1 i (by omega) (by omega) (by omega) (by omega)).trans (K.1 i hi), fun c h0 h2 => (h.2 c h0).trans (K.2 c h0 h2)⟩
theorem KP.up (K : KP A G) {i : Nat} {v : Int32} : KP A (jup G 2 i v) := ⟨fun i hi => by rw [jup_n _ _ (by decide)]; exact K.1 i hi, fun c h0 h2 => (jup_n _ _ h2).trans (K.2 c h0 h2)⟩
theorem TM.up (T : TM G tp lim t) {i : Nat} {v : Int32} : TM (jup G 2 i v) tp lim t := by
  have e0 : jup G 2 i v 0 = G 0 := jup_n _ _ (by decide)
  have e6 : jup G 2 i v 6 = G 6 := jup_n _ _ (by decide)
  obtain ⟨a, b, c, d, e, f⟩ := T
  exact ⟨by rw [e0]; exact a, by rw [e6]; exact b, by rw [e0]; exact c, by rw [e0]; exact d, by rw [e0]; exact e, fun h => by rw [e0]; exact f h⟩
theorem up13 {i j : Nat} {v : Int32} : jup G 2 i v 0 j = G 0 j := by rw [jup_n _ _ (by decide)]
theorem nI_bad {c : Nat} (h : 0 < c) (h2 : c < 10) {v : Int32} (e : v = nI c) : ¬ v = 0 := by
  intro z
  rw [e] at z
  exact nI_ne0 h (by omega) z
theorem m_numK (hN : 2000 ≤ N) (hlim : lim ≤ 900) (htp : ∀ k, tp k < 256) {β : Type} {lo hx : Nat} {x y : Int32} (T : TM G tp lim t) (hk : tkOk lim t) (h13 : G 0 13 = 0) (K : KP A G) (hx1 : x = nI lo) (hy : y = nI hx - 1) (hl : lo < 100000) (hh : hx < 100000) {F : Int32 × (Nat → Nat → Int32) → Option β} {P : β → Prop} (hf : ∀ c p, numT tp lim lo hx t = .inl (c, p) → ∀ v : Int32 × (Nat → Nat → Int32), v.2 0 13 = nI c → v.2 0 14 = nI p → ¬ v.2 0 13 = 0 → KP A v.2 → Ok (F v) P) (hs : ∀ n t2, numT tp lim lo hx t = .inr (n, t2) → ∀ v : Int32 × (Nat → Nat → Int32), v.1 = nI n → TM v.2 tp lim t2 → v.2 0 13 = 0 → KP A v.2 → v.2 2 = G 2 → Ok (F v) P) : Ok ((p_X6_number N G J x y).bind F) P := by
  refine Ok.b (m_number hN hlim htp T hk h13 hx1 hy hl hh) ?_
  rintro v h
  cases hn : numT tp lim lo hx t with
  | inl e =>
    obtain ⟨c, p⟩ := e
    rw [hn] at h
    have b := num_inl hk hn
    exact hf c p hn v h.1 h.2.1 (nI_bad b.1 b.2.1 h.1) (K.fm h)
  | inr e =>
    obtain ⟨n, t2⟩ := e
    rw [hn] at h
    exact hs n t2 hn v h.1 h.2.1 h.2.2.1 (K.kr h.2.2.2) (h.2.2.2.2 2 (by decide))
theorem m_person : p_X6_personTold N G J = p_X6_number N G J 0 (G 2 1 - 1) := by
  unfold p_X6_personTold
  cases p_X6_number N G J 0 (G 2 1 - 1) with
  | none => rfl
  | some v => rfl
theorem m_thing : p_X6_thingTold N G J = p_X6_number N G J 0 (G 2 2 - 1) := by
  unfold p_X6_thingTold
  cases p_X6_number N G J 0 (G 2 2 - 1) with
  | none => rfl
  | some v => rfl
theorem m_rd4 (hN : 2000 ≤ N) (hlim : lim ≤ 900) (htp : ∀ k, tp k < 256) (T : TM G tp lim t) (hk : tkOk lim t) (h13 : G 0 13 = 0) (K : KP A G) (D : DB (G 2) l) {β : Type} {F : (Nat → Nat → Int32) → Option β} {P : β → Prop} (hF : ∀ r, PM tp lim A (rd4 tp lim t l) r → Ok (F r) P) : Ok ((p_X6_number N G J 0 100).bind (fun v => jlt v.2 fun G80 => jlt (jup G80 2 4 v.1) fun G82 => F G82)) P := by
  unfold rd4 at hF
  refine m_numK hN hlim htp (lo := 0) (hx := 101) T hk h13 K nI_0.symm (by decide) (by decide) (by decide) ?_ ?_
  · intro c p hn v v1 v2 v3 v4
    rw [hn] at hF
    rw [jlt_eq, jlt_eq]
    exact hF _ ⟨v4.up, up13.trans v1, up13.trans v2⟩
  · intro n t2 hn v v1 v2 v3 v4 v5
    rw [hn] at hF
    rw [jlt_eq, jlt_eq, v1]
    refine hF _ ⟨v4.up, up13.trans v3, v2.up, ?_⟩
    rw [jup_s, v5]
    exact D.slot (Or.inr (Or.inr (Or.inl rfl))) rfl
theorem m_rd5 (hN : 2000 ≤ N) (hlim : lim ≤ 900) (htp : ∀ k, tp k < 256) (T : TM G tp lim t) (hk : tkOk lim t) (h13 : G 0 13 = 0) (K : KP A G) (D : DB (G 2) l) {β : Type} {F : (Nat → Nat → Int32) → Option β} {P : β → Prop} (hF : ∀ r, PM tp lim A (rd5 tp lim t l) r → Ok (F r) P) : Ok ((p_X6_number N G J 1 999).bind (fun v => jlt v.2 fun G80 => jlt (jup G80 2 5 v.1) fun G82 => F G82)) P := by
  unfold rd5 at hF
  refine m_numK hN hlim htp (lo := 1) (hx := 1000) T hk h13 K (by decide) (by decide) (by decide) (by decide) ?_ ?_
  · intro c p hn v v1 v2 v3 v4
    rw [hn] at hF
    rw [jlt_eq, jlt_eq]
    exact hF _ ⟨v4.up, up13.trans v1, up13.trans v2⟩
  · intro n t2 hn v v1 v2 v3 v4 v5
    rw [hn] at hF
    rw [jlt_eq, jlt_eq, v1]
    refine hF _ ⟨v4.up, up13.trans v3, v2.up, ?_⟩
    rw [jup_s, v5]
    exact D.slot (Or.inr (Or.inr (Or.inr rfl))) rfl
theorem m_rd6 (hN : 2000 ≤ N) (hlim : lim ≤ 900) (htp : ∀ k, tp k < 256) (I : l.I) (T : TM G tp lim t) (hk : tkOk lim t) (h13 : G 0 13 = 0) (K : KP A G) (D : DB (G 2) l) : Ok (p_X6_readEaten N G J) (PM tp lim A (rd6 tp lim t l)) := by
  have hnt := I.nt
  have c2 : G 2 2 = nI l.nt := D.nt
  unfold p_X6_readEaten rd6
  rw [m_thing, c2]
  refine m_numK hN hlim htp (lo := 0) (hx := l.nt) T hk h13 K nI_0.symm rfl (by decide) (by omega) ?_ ?_
  · intro c p hn v v1 v2 v3 v4
    rw [hn, jlt_eq, if_neg v3]
    exact Ok.s ⟨v4, v1, v2⟩
  · intro n t2 hn v v1 v2 v3 v4 v5
    have e3 : v.2 2 3 = l.ea := by rw [v5]; exact D.ea
    rw [hn, jlt_eq, if_pos v3, jlt_eq, v1, e3, bitI_e]
    refine Ok.s ⟨v4.up, up13.trans v3, v2.up, ?_⟩
    rw [jup_s, v5]
    exact D.slot (Or.inr (Or.inl rfl)) rfl
theorem m_rd1 (hN : 2000 ≤ N) (hlim : lim ≤ 900) (htp : ∀ k, tp k < 256) (I : l.I) (T : TM G tp lim t) (hk : tkOk lim t) (h13 : G 0 13 = 0) (K : KP A G) (D : DB (G 2) l) : Ok (p_X6_readCoins N G J) (PM tp lim A (rd1 tp lim t l)) := by
  have hnp := I.np
  have c1 : G 2 1 = nI l.np := D.np
  unfold p_X6_readCoins rd1
  rw [m_person, c1]
  refine m_numK hN hlim htp (lo := 0) (hx := l.np) T hk h13 K nI_0.symm rfl (by decide) (by omega) ?_ ?_
  · intro c p hn v v1 v2 v3 v4
    rw [hn, jlt_eq, m_numberB v3, Option.bind_some, jlt_eq, if_neg v3]
    exact Ok.s ⟨v4, v1, v2⟩
  · intro n t2 hn v v1 v2 v3 v4 v5
    obtain ⟨_, n2, _, hk2, _⟩ := num_inr htp hk hn
    rw [hn, jlt_eq, v1]
    dsimp only
    refine m_numK hN hlim htp (lo := 0) (hx := 10000) v2 hk2 v3 v4 nI_0.symm (by decide) (by decide) (by decide) ?_ ?_
    · intro c p hn2 u u1 u2 u3 u4
      rw [hn2, jlt_eq, if_neg u3]
      exact Ok.s ⟨u4, u1, u2⟩
    · intro w t3 hn2 u u1 u2 u3 u4 u5
      rw [hn2, jlt_eq, if_pos u3, z8, if_pos (jinT (by omega) (by omega)), zcl (by omega), jlt_eq, u1]
      refine Ok.s ⟨u4.up, up13.trans u3, u2.up, ?_⟩
      rw [jup_s, u5, v5]
      exact D.sCo I.nt (by omega)
theorem m_rd3 (hN : 2000 ≤ N) (hlim : lim ≤ 900) (htp : ∀ k, tp k < 256) (I : l.I) (T : TM G tp lim t) (hk : tkOk lim t) (h13 : G 0 13 = 0) (K : KP A G) (D : DB (G 2) l) : Ok (p_X6_readWorth N G J) (PM tp lim A (rd3 tp lim t l)) := by
  have hnp := I.np
  have hnt := I.nt
  have c1 : G 2 1 = nI l.np := D.np
  have c2 : G 2 2 = nI l.nt := D.nt
  unfold p_X6_readWorth rd3
  rw [m_thing, c2]
  refine m_numK hN hlim htp (lo := 0) (hx := l.nt) T hk h13 K nI_0.symm rfl (by decide) (by omega) ?_ ?_
  · intro c p hn v v1 v2 v3 v4
    rw [hn, jlt_eq, m_person, m_numberB v3, Option.bind_some, jlt_eq, m_numberB v3, Option.bind_some, jlt_eq, if_neg v3]
    exact Ok.s ⟨v4, v1, v2⟩
  · intro n t2 hn v v1 v2 v3 v4 v5
    obtain ⟨_, n2, _, hk2, _⟩ := num_inr htp hk hn
    rw [hn, jlt_eq, v1, m_person, v5, c1]
    dsimp only
    refine m_numK hN hlim htp (lo := 0) (hx := l.np) v2 hk2 v3 v4 nI_0.symm rfl (by decide) (by omega) ?_ ?_
    · intro c p hn2 u u1 u2 u3 u4
      rw [hn2, jlt_eq, m_numberB u3, Option.bind_some, jlt_eq, if_neg u3]
      exact Ok.s ⟨u4, u1, u2⟩
    · intro q t3 hn2 u u1 u2 u3 u4 u5
      obtain ⟨_, q2, _, hk3, _⟩ := num_inr htp hk2 hn2
      rw [hn2, jlt_eq, u1]
      dsimp only
      refine m_numK hN hlim htp (lo := 0) (hx := 1000) u2 hk3 u3 u4 nI_0.symm (by decide) (by decide) (by decide) ?_ ?_
      · intro c p hn3 w w1 w2 w3 w4
        rw [hn3, jlt_eq, if_neg w3]
        exact Ok.s ⟨w4, w1, w2⟩
      · intro x t4 hn3 w w1 w2 w3 w4 w5
        rw [hn3, jlt_eq, if_pos w3]
        simp (disch := omega) only [Option.bind_some, jlt_eq, ↓reduceIte, eq_self, jinT, zleT, zleF, zltT, zltF, zeq, zpos, zpos', zcl, zm6, z6, z84, z24, z14, z8, nI_add, zd0, zd1, zd2, zd3, zd4, zd5, bitI_e, bI0, bI1]
        rw [w1]
        refine Ok.s ⟨w4.up, up13.trans w3, w2.up, ?_⟩
        rw [jup_s, w5, u5, v5]
        exact D.sWo I.nt (by omega) (by omega)
theorem m_rd0 (hN : 2000 ≤ N) (hlim : lim ≤ 900) (htp : ∀ k, tp k < 256) (h0 : l.nt = 0) (T : TM G tp lim t) (hk : tkOk lim t) (h13 : G 0 13 = 0) (K : KP A G) (D : DB (G 2) l) : Ok (p_X6_readPeople_b14 N J G) (PM tp lim A (rd0 tp lim (tok tp lim t.2.2.1) l)) := by
  have o := tok_ok tp htp hk.2.1
  unfold p_X6_readPeople_b14 rd0
  rw [if_pos h13]
  refine Ok.b (m_reads hN hlim htp hk.2.1 T.1 T.2.1 T.2.2.2.2.1) ?_
  rintro G3 ⟨r1, r2⟩
  have z : G3 0 13 = 0 := (r2.1 13 (by decide) (by decide) (by decide) (by decide)).trans h13
  rw [jlt_eq]
  refine m_numK hN hlim htp (lo := 1) (hx := 7) r1 o.1 z (K.kr r2) (by decide) (by decide) (by decide) (by decide) ?_ ?_
  · intro c p hn v v1 v2 v3 v4
    rw [hn, jlt_eq, jlt_eq, if_neg (by rw [up13]; exact v3), jlt_eq]
    exact Ok.s ⟨v4.up.up, up13.trans (up13.trans v1), up13.trans (up13.trans v2)⟩
  · intro n t2 hn v v1 v2 v3 v4 v5
    rw [hn, jlt_eq, jlt_eq, if_pos (by rw [up13]; exact v3), v1]
    refine Ok.s ⟨v4.up, up13.trans v3, v2.up, ?_⟩
    rw [jup_s, v5, r2.2 2 (by decide)]
    exact D.sNp h0
theorem b42_bad {n : Nat} {x y z : Int32} (hn : 0 < n) (h13 : ¬ G 0 13 = 0) : p_X6_readThing_b42 N J n G x y z = some G := by
  match n, hn with
  | n + 1, _ =>
    unfold p_X6_readThing_b42 p_X6_readThing_b126
    rw [if_neg h13, if_neg h13]
theorem m_thR (hN : 2000 ≤ N) (hlim : lim ≤ 900) (htp : ∀ k, tp k < 256) {h : Nat} : ∀ (k n p : Nat) (G : Nat → Nat → Int32) (t : Nat × Nat × Nat × Nat) (l : LA), l.I → p + k = l.np → l.nt < 10 → k + 1 < n → TM G tp lim t → tkOk lim t → G 0 13 = 0 → KP A G → DB (G 2) l → Ok (p_X6_readThing_b42 N J n G (nI l.nt) (nI h) (nI p)) (PM tp lim A (match thR tp lim l.nt k p t l with
    | .inl e => .inl e
    | .inr (t3, l3) => .inr (t3, l3.sTh h))) := by
  have fin : ∀ (G : Nat → Nat → Int32) (t : Nat × Nat × Nat × Nat) (l : LA), l.nt < 10 → TM G tp lim t → G 0 13 = 0 → KP A G → DB (G 2) l → Ok (p_X6_readThing_b126 N J G (nI l.nt) (nI h)) (PM tp lim A (.inr (t, l.sTh h))) := by
    intro G t l hnt T h13 K D
    unfold p_X6_readThing_b126
    have e2 : G 2 2 = nI l.nt := D.nt
    rw [if_pos h13, z14, if_pos (jinT (by omega) (by omega)), zcl (by omega), jlt_eq, jup_s, upd_n _ _ (by omega), e2, nI_1, jlt_eq]
    refine Ok.s ⟨K.up.up, up13.trans (up13.trans h13), T.up.up, ?_⟩
    rw [jup_s, jup_s]
    exact D.sTh hnt
  intro k
  induction k with
  | zero =>
    intro n p G t l I hp hnt hn T hk h13 K D
    have hnp := I.np
    have c1 : G 2 1 = nI l.np := D.np
    have k4 := hk.2.2.2
    match n, hn with
    | n + 1, hn =>
      unfold p_X6_readThing_b42 thR
      have t11 : G 0 11 = nI t.1 := T.2.2.1
      have k3 := hk.2.2.1
      rw [if_pos h13, t11, show (2 : Int32) = nI 2 by decide]
      by_cases a : t.1 = 2
      · have e4 : ¬ t.1 = 4 := by omega
        rw [if_pos (by rw [a]), if_pos a, c1, if_pos (by rw [show p = l.np by omega]), T.2.2.2.2.2 a, w_in, Option.bind_some]
        have ew : ((nI t.2.2.2).toInt64.toInt ≤ (999 : Int64).toInt) ↔ ¬ 999 < t.2.2.2 := by
          rw [w_n (by omega), show (999 : Int64).toInt = 999 by decide]; omega
        have e0 : (0 : Int64).toInt ≤ (nI t.2.2.2).toInt64.toInt := by
          rw [w_n (by omega), show (0 : Int64).toInt = 0 by decide]; omega
        by_cases c : 999 < t.2.2.2
        · rw [decide_eq_false (by rw [ew]; omega), bI_f, if_pos rfl, if_pos c]
          unfold p_X6_readThing_b87
          refine m_numK hN hlim htp (lo := 0) (hx := 1000) T hk h13 K nI_0.symm (by decide) (by decide) (by decide) ?_ ?_
          · intro c2 p2 hn2 v v1 v2 v3 v4
            unfold numT at hn2
            rw [if_pos a, if_neg (by omega)] at hn2
            cases hn2
            rw [jlt_eq, if_neg v3, p_X6_readThing_b120, b42_bad (by omega) v3]
            exact Ok.s ⟨v4, v1, v2⟩
          · intro w t2 hn2
            unfold numT at hn2
            rw [if_pos a, if_neg (by omega)] at hn2
            cases hn2
        · rw [decide_eq_true ⟨e0, ew.mpr c⟩, bI_t, if_neg i10, if_neg c]
          refine Ok.b (m_blames (k := 4) T hk h13 (by decide)) ?_
          intro G27 hF
          rw [if_neg e4] at hF
          have v3 : ¬ G27 0 13 = 0 := nI_bad (c := 4) (by omega) (by omega) hF.1
          rw [jlt_eq, m_numberB v3, Option.bind_some, jlt_eq, if_neg v3, p_X6_readThing_b120, b42_bad (by omega) v3]
          exact Ok.s ⟨K.fm hF, hF.1, hF.2.1⟩
      · rw [if_neg (fun h => a ((nI_eq (by omega) (by omega)).mp h)), if_neg a]
        exact fin G t l hnt T h13 K D
  | succ k ih =>
    intro n p G t l I hp hnt hn T hk h13 K D
    have hnp := I.np
    have c1 : G 2 1 = nI l.np := D.np
    match n, hn with
    | n + 1, hn =>
      unfold p_X6_readThing_b42 thR
      have t11 : G 0 11 = nI t.1 := T.2.2.1
      have k3 := hk.2.2.1
      rw [if_pos h13, t11, show (2 : Int32) = nI 2 by decide]
      by_cases a : t.1 = 2
      · rw [if_pos (by rw [a]), if_pos a, c1, if_neg (fun h => absurd ((nI_eq (by omega) (by omega)).mp h) (by omega))]
        unfold p_X6_readThing_b87
        refine m_numK hN hlim htp (lo := 0) (hx := 1000) T hk h13 K nI_0.symm (by decide) (by decide) (by decide) ?_ ?_
        · intro c p2 hn2 v v1 v2 v3 v4
          rw [hn2, jlt_eq, if_neg v3, p_X6_readThing_b120, b42_bad (by omega) v3]
          exact Ok.s ⟨v4, v1, v2⟩
        · intro w t2 hn2 v v1 v2 v3 v4 v5
          obtain ⟨_, w2, _, hk2, _⟩ := num_inr htp hk hn2
          rw [hn2, jlt_eq, if_pos v3, v1]
          simp (disch := omega) only [Option.bind_some, jlt_eq, ↓reduceIte, eq_self, jinT, zleT, zleF, zltT, zltF, zeq, zpos, zpos', zcl, zm6, z6, z84, z24, z14, z8, nI_add, zd0, zd1, zd2, zd3, zd4, zd5, bitI_e, bI0, bI1]
          unfold p_X6_readThing_b120
          rw [nI_1]
          refine ih n (p + 1) _ t2 (l.sWo l.nt p (nI w)) (I_wo I (nI_b (show w ≤ 999 by omega) (by decide))) (show p + 1 + k = l.np by omega) hnt (by omega) v2.up hk2 (up13.trans v3) v4.up ?_
          rw [jup_s, v5]
          exact D.sWo I.nt (by omega) (by omega)
      · rw [if_neg (fun h => a ((nI_eq (by omega) (by omega)).mp h)), if_neg a]
        exact fin G t l hnt T h13 K D
theorem m_rd2 (hN : 2000 ≤ N) (hlim : lim ≤ 900) (htp : ∀ k, tp k < 256) (I : l.I) (hnt : l.nt < 10) (T : TM G tp lim t) (hk : tkOk lim t) (h13 : G 0 13 = 0) (K : KP A G) (D : DB (G 2) l) : Ok (p_X6_readThing_b16 N J G) (PM tp lim A (rd2 tp lim (tok tp lim t.2.2.1) l)) := by
  have hnp := I.np
  have c1 : G 2 1 = nI l.np := D.np
  have c2 : G 2 2 = nI l.nt := D.nt
  have o := tok_ok tp htp hk.2.1
  unfold p_X6_readThing_b16 rd2
  rw [if_pos h13]
  refine Ok.b (m_reads hN hlim htp hk.2.1 T.1 T.2.1 T.2.2.2.2.1) ?_
  rintro G3 ⟨r1, r2⟩
  have z : G3 0 13 = 0 := (r2.1 13 (by decide) (by decide) (by decide) (by decide)).trans h13
  have e2 : G3 2 = G 2 := r2.2 2 (by decide)
  rw [jlt_eq, m_person, e2, c1, c2]
  refine m_numK hN hlim htp (lo := 0) (hx := l.np) r1 o.1 z (K.kr r2) nI_0.symm rfl (by decide) (by omega) ?_ ?_
  · intro c p hn v v1 v2 v3 v4
    rw [hn, jlt_eq, b42_bad (by omega) v3]
    exact Ok.s ⟨v4, v1, v2⟩
  · intro n t2 hn v v1 v2 v3 v4 v5
    obtain ⟨_, n2, _, hk2, _⟩ := num_inr htp o.1 hn
    rw [hn, jlt_eq, v1]
    exact m_thR hN hlim htp (h := n) l.np N 0 v.2 t2 l I (by omega) hnt (by omega) v2 hk2 v3 v4 (by rw [v5, e2]; exact D)
end mread

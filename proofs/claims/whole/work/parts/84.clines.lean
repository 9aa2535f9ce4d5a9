/-! the class reads the numbers of a line -/
def rd0 (tp : Nat → Nat) (lim : Nat) (t : Nat × Nat × Nat × Nat) (l : LA) : (Nat × Nat) ⊕ ((Nat × Nat × Nat × Nat) × LA) := match numT tp lim 1 7 t with
  | .inl e => .inl e
  | .inr (v, t2) => .inr (t2, l.sNp v)
def rd1 (tp : Nat → Nat) (lim : Nat) (t : Nat × Nat × Nat × Nat) (l : LA) : (Nat × Nat) ⊕ ((Nat × Nat × Nat × Nat) × LA) := match numT tp lim 0 l.np t with
  | .inl e => .inl e
  | .inr (p, t2) => match numT tp lim 0 10000 t2 with
    | .inl e => .inl e
    | .inr (n, t3) => .inr (t3, l.sCo p (nI n))
def thR (tp : Nat → Nat) (lim s : Nat) : Nat → Nat → (Nat × Nat × Nat × Nat) → LA → (Nat × Nat) ⊕ ((Nat × Nat × Nat × Nat) × LA)
  | 0, _, t, l => if t.1 = 2 then .inl (if 999 < t.2.2.2 then 3 else 4, t.2.1) else .inr (t, l)
  | n + 1, p, t, l => if t.1 = 2 then (match numT tp lim 0 1000 t with
    | .inl e => .inl e
    | .inr (v, t2) => thR tp lim s n (p + 1) t2 (l.sWo s p (nI v))) else .inr (t, l)
def rd2 (tp : Nat → Nat) (lim : Nat) (t : Nat × Nat × Nat × Nat) (l : LA) : (Nat × Nat) ⊕ ((Nat × Nat × Nat × Nat) × LA) := match numT tp lim 0 l.np t with
  | .inl e => .inl e
  | .inr (h, t2) => match thR tp lim l.nt l.np 0 t2 l with
    | .inl e => .inl e
    | .inr (t3, l3) => .inr (t3, l3.sTh h)
def rd3 (tp : Nat → Nat) (lim : Nat) (t : Nat × Nat × Nat × Nat) (l : LA) : (Nat × Nat) ⊕ ((Nat × Nat × Nat × Nat) × LA) := match numT tp lim 0 l.nt t with
  | .inl e => .inl e
  | .inr (s, t2) => match numT tp lim 0 l.np t2 with
    | .inl e => .inl e
    | .inr (p, t3) => match numT tp lim 0 1000 t3 with
      | .inl e => .inl e
      | .inr (v, t4) => .inr (t4, l.sWo s p (nI v))
def rd4 (tp : Nat → Nat) (lim : Nat) (t : Nat × Nat × Nat × Nat) (l : LA) : (Nat × Nat) ⊕ ((Nat × Nat × Nat × Nat) × LA) := match numT tp lim 0 101 t with
  | .inl e => .inl e
  | .inr (v, t2) => .inr (t2, l.sSh (nI v))
def rd5 (tp : Nat → Nat) (lim : Nat) (t : Nat × Nat × Nat × Nat) (l : LA) : (Nat × Nat) ⊕ ((Nat × Nat × Nat × Nat) × LA) := match numT tp lim 1 1000 t with
  | .inl e => .inl e
  | .inr (v, t2) => .inr (t2, l.sBe (nI v))
def rd6 (tp : Nat → Nat) (lim : Nat) (t : Nat × Nat × Nat × Nat) (l : LA) : (Nat × Nat) ⊕ ((Nat × Nat × Nat × Nat) × LA) := match numT tp lim 0 l.nt t with
  | .inl e => .inl e
  | .inr (v, t2) => .inr (t2, l.sEa (l.ea ||| bitI v))
section clines
variable {N : Nat} {G G2 : Nat → Nat → Int32} {tp : Nat → Nat} {lim : Nat} {t : Nat × Nat × Nat × Nat} {l : LA}
/-- how a reading of the class comes out -/
def PC (tp : Nat → Nat) (lim : Nat) (G : Nat → Nat → Int32) (e : (Nat × Nat) ⊕ ((Nat × Nat × Nat × Nat) × LA)) (r : Int32 × (Nat → Nat → Int32)) : Prop := match e with
  | .inl (c, p) => r.1 = 0 ∧ r.2 0 1 = nI c ∧ r.2 0 2 = nI p
  | .inr (t2, l2) => r.1 = 1 ∧ TC (jvw r.2 0) tp lim t2 ∧ CB (jvw r.2 2) l2 ∧ r.2 0 1 = G 0 1 ∧ r.2 0 2 = G 0 2
theorem TC.cg {g g2 : Nat → Nat → Int32} (T : TC g tp lim t) (h0 : g2 0 = g 0) (h1 : g2 1 = g 1) : TC g2 tp lim t := by
  obtain ⟨a, b, c, d, e, f⟩ := T
  exact ⟨by rw [h0]; exact a, by rw [h1]; exact b, by rw [h0]; exact c, by rw [h0]; exact d, by rw [h0]; exact e, fun h => by rw [h0]; exact f h⟩
theorem TC.up {c i : Nat} {x : Int32} (T : TC (jvw G 0) tp lim t) (hc : 2 ≤ c) : TC (jvw (jup G c i x) 0) tp lim t := T.cg (jup_n (c2 := 0) G x (by omega)) (jup_n (c2 := 1) G x (by omega))
theorem CB.cg {g g2 : Nat → Nat → Int32} (C : CB g l) (h : ∀ c, c < 4 → g2 c = g c) : CB g2 l := by
  have h0 := h 0 (by omega)
  have h1 := h 1 (by omega)
  have h2 := h 2 (by omega)
  have h3 := h 3 (by omega)
  exact ⟨by rw [h0]; exact C.li, by rw [h0]; exact C.np, by rw [h0]; exact C.nt, by rw [h0]; exact C.ea, by rw [h0]; exact C.sh, by rw [h0]; exact C.be, by rw [h0]; exact C.y6, by rw [h0]; exact C.y7, by rw [h0]; exact C.y8, by rw [h1]; exact C.co, by rw [h2]; exact C.ho, by rw [h3]; exact C.wo⟩
theorem num_inr (htp : ∀ k, tp k < 256) {lo hx n : Nat} {t2 : Nat × Nat × Nat × Nat} (hk : tkOk lim t) (h : numT tp lim lo hx t = .inr (n, t2)) : lo ≤ n ∧ n < hx ∧ n < 10000 ∧ tkOk lim t2 ∧ t2 = tok tp lim t.2.2.1 := by
  unfold numT at h
  by_cases a1 : t.1 = 2
  · rw [if_pos a1] at h
    by_cases c : lo ≤ t.2.2.2 ∧ t.2.2.2 < hx
    · rw [if_pos c] at h
      cases h
      exact ⟨c.1, c.2, hk.2.2.2, (tok_ok tp htp hk.2.1).1, rfl⟩
    · rw [if_neg c] at h; cases h
  · rw [if_neg a1] at h; cases h
theorem c_takeK (hN : 2000 ≤ N) (hlim : lim ≤ 900) (htp : ∀ k, tp k < 256) {β : Type} {lo hx : Nat} {x y : Int32} (T : TC (jvw G 0) tp lim t) (hk : tkOk lim t) (hx1 : x = nI lo) (hy : y = nI hx - 1) (hl : lo < 100000) (hh : hx < 100000) {F : Int32 × (Nat → Nat → Int32) → Option β} {P : β → Prop} (hf : ∀ c p, numT tp lim lo hx t = .inl (c, p) → ∀ v : Int32 × (Nat → Nat → Int32), v.1 = 0 → jpt G 0 2 v.2 0 1 = nI c → jpt G 0 2 v.2 0 2 = nI p → (∀ c, 2 ≤ c → jpt G 0 2 v.2 c = G c) → Ok (F v) P) (hs : ∀ n t2, numT tp lim lo hx t = .inr (n, t2) → ∀ v : Int32 × (Nat → Nat → Int32), v.1 = 1 → TC (jvw (jpt G 0 2 v.2) 0) tp lim t2 → jpt G 0 2 v.2 0 9 = nI n → jpt G 0 2 v.2 0 1 = G 0 1 → jpt G 0 2 v.2 0 2 = G 0 2 → (∀ c, 2 ≤ c → jpt G 0 2 v.2 c = G c) → Ok (F v) P) : Ok ((p_X2_takes N (jvw G 0) x y).bind F) P := by
  refine Ok.b (c_takes hN hlim htp T hk hx1 hy hl hh) ?_
  rintro ⟨u, g⟩ h
  have e0 : jpt G 0 2 g 0 = g 0 := jpt_i (b := 0) (c := 0) (by omega)
  have e1 : jpt G 0 2 g 1 = g 1 := jpt_i (b := 0) (c := 1) (by omega)
  cases hn : numT tp lim lo hx t with
  | inl e =>
    obtain ⟨c, p⟩ := e
    rw [hn] at h
    obtain ⟨h1, h2, h3, h4, h5⟩ := h
    exact hf c p hn (u, g) h1 (by show jpt G 0 2 g 0 1 = _; rw [e0]; exact h2) (by show jpt G 0 2 g 0 2 = _; rw [e0]; exact h3) (fun c hc => jpt_o (by omega))
  | inr e =>
    obtain ⟨n, t2⟩ := e
    rw [hn] at h
    obtain ⟨h1, h2, h3, h4, h5⟩ := h
    refine hs n t2 hn (u, g) h1 (h2.cg e0 e1) (by show jpt G 0 2 g 0 9 = _; rw [e0]; exact h3) ?_ ?_ (fun c hc => jpt_o (by omega))
    · show jpt G 0 2 g 0 1 = _; rw [e0]; exact h4 1 (by decide) (by decide) (by decide) (by decide) (by decide)
    · show jpt G 0 2 g 0 2 = _; rw [e0]; exact h4 2 (by decide) (by decide) (by decide) (by decide) (by decide)
theorem L_m1 (n : Nat) : nI n - 1 = nI n - 1 := rfl
theorem c_rd4 (hN : 2000 ≤ N) (hlim : lim ≤ 900) (htp : ∀ k, tp k < 256) (T : TC (jvw G 0) tp lim t) (hk : tkOk lim t) (C : CB (jvw G 2) l) : Ok (p_X2_readShare N G) (PC tp lim G (rd4 tp lim t l)) := by
  unfold p_X2_readShare rd4
  refine c_takeK hN hlim htp (lo := 0) (hx := 101) T hk nI_0.symm (by decide) (by decide) (by decide) ?_ ?_
  · intro c p hn v v1 v2 v3 _
    rw [hn, jlt_eq, if_pos v1]
    exact Ok.s ⟨rfl, v2, v3⟩
  · intro n t2 hn v v1 v2 v3 v4 v5 v6
    rw [hn, jlt_eq, if_neg (by rw [v1]; decide), v3, jlt_eq]
    generalize jpt G 0 2 v.2 = G3 at v2 v3 v4 v5 v6 ⊢
    refine Ok.s ⟨rfl, TC.up v2 (by decide), ?_, ?_, ?_⟩
    · dsimp only
      rw [jvw_up 2 0]
      exact (C.cg (fun c _ => v6 (2 + c) (by omega))).slot (Or.inr (Or.inr (Or.inl rfl))) rfl
    · dsimp only; rw [jup_n _ _ (by decide)]; exact v4
    · dsimp only; rw [jup_n _ _ (by decide)]; exact v5
theorem c_rd5 (hN : 2000 ≤ N) (hlim : lim ≤ 900) (htp : ∀ k, tp k < 256) (T : TC (jvw G 0) tp lim t) (hk : tkOk lim t) (C : CB (jvw G 2) l) : Ok (p_X2_readBell N G) (PC tp lim G (rd5 tp lim t l)) := by
  unfold p_X2_readBell rd5
  refine c_takeK hN hlim htp (lo := 1) (hx := 1000) T hk (by decide) (by decide) (by decide) (by decide) ?_ ?_
  · intro c p hn v v1 v2 v3 _
    rw [hn, jlt_eq, if_pos v1]
    exact Ok.s ⟨rfl, v2, v3⟩
  · intro n t2 hn v v1 v2 v3 v4 v5 v6
    rw [hn, jlt_eq, if_neg (by rw [v1]; decide), v3, jlt_eq]
    generalize jpt G 0 2 v.2 = G3 at v2 v3 v4 v5 v6 ⊢
    refine Ok.s ⟨rfl, TC.up v2 (by decide), ?_, ?_, ?_⟩
    · dsimp only
      rw [jvw_up 2 0]
      exact (C.cg (fun c _ => v6 (2 + c) (by omega))).slot (Or.inr (Or.inr (Or.inr rfl))) rfl
    · dsimp only; rw [jup_n _ _ (by decide)]; exact v4
    · dsimp only; rw [jup_n _ _ (by decide)]; exact v5
theorem c_rd6 (hN : 2000 ≤ N) (hlim : lim ≤ 900) (htp : ∀ k, tp k < 256) (I : l.I) (T : TC (jvw G 0) tp lim t) (hk : tkOk lim t) (C : CB (jvw G 2) l) : Ok (p_X2_readEaten N G) (PC tp lim G (rd6 tp lim t l)) := by
  have hnt := I.nt
  have c2 : G 2 2 = nI l.nt := C.nt
  unfold p_X2_readEaten rd6
  rw [c2]
  refine c_takeK hN hlim htp (lo := 0) (hx := l.nt) T hk nI_0.symm rfl (by decide) (by omega) ?_ ?_
  · intro c p hn v v1 v2 v3 _
    rw [hn, jlt_eq, if_pos v1]
    exact Ok.s ⟨rfl, v2, v3⟩
  · intro n t2 hn v v1 v2 v3 v4 v5 v6
    have e3 : jpt G 0 2 v.2 2 3 = l.ea := by rw [v6 2 (by omega)]; exact C.ea
    rw [hn, jlt_eq, if_neg (by rw [v1]; decide), v3, e3, bitI_e, jlt_eq]
    generalize jpt G 0 2 v.2 = G3 at v2 v3 v4 v5 v6 ⊢
    refine Ok.s ⟨rfl, TC.up v2 (by decide), ?_, ?_, ?_⟩
    · dsimp only
      rw [jvw_up 2 0]
      exact (C.cg (fun c _ => v6 (2 + c) (by omega))).slot (Or.inr (Or.inl rfl)) rfl
    · dsimp only; rw [jup_n _ _ (by decide)]; exact v4
    · dsimp only; rw [jup_n _ _ (by decide)]; exact v5
theorem c_rd0 (hN : 2000 ≤ N) (hlim : lim ≤ 900) (htp : ∀ k, tp k < 256) (h0 : l.nt = 0) (T : TC (jvw G 0) tp lim t) (hk : tkOk lim t) (C : CB (jvw G 2) l) : Ok (p_X2_readPeople N G) (PC tp lim G (rd0 tp lim t l)) := by
  unfold p_X2_readPeople rd0
  refine c_takeK hN hlim htp (lo := 1) (hx := 7) T hk (by decide) (by decide) (by decide) (by decide) ?_ ?_
  · intro c p hn v v1 v2 v3 _
    rw [hn, jlt_eq, if_pos v1]
    exact Ok.s ⟨rfl, v2, v3⟩
  · intro n t2 hn v v1 v2 v3 v4 v5 v6
    rw [hn, jlt_eq, if_neg (by rw [v1]; decide), v3, jlt_eq]
    generalize jpt G 0 2 v.2 = G3 at v2 v3 v4 v5 v6 ⊢
    refine Ok.s ⟨rfl, TC.up v2 (by decide), ?_, ?_, ?_⟩
    · dsimp only
      rw [jvw_up 2 0]
      exact (C.cg (fun c _ => v6 (2 + c) (by omega))).sNp h0
    · dsimp only; rw [jup_n _ _ (by decide)]; exact v4
    · dsimp only; rw [jup_n _ _ (by decide)]; exact v5
theorem c_rd1 (hN : 2000 ≤ N) (hlim : lim ≤ 900) (htp : ∀ k, tp k < 256) (I : l.I) (T : TC (jvw G 0) tp lim t) (hk : tkOk lim t) (C : CB (jvw G 2) l) : Ok (p_X2_readCoins N G) (PC tp lim G (rd1 tp lim t l)) := by
  have hnp := I.np
  have c1 : G 2 1 = nI l.np := C.np
  unfold p_X2_readCoins rd1
  rw [c1]
  refine c_takeK hN hlim htp (lo := 0) (hx := l.np) T hk nI_0.symm rfl (by decide) (by omega) ?_ ?_
  · intro c p hn v v1 v2 v3 _
    rw [hn, jlt_eq, if_pos v1]
    exact Ok.s ⟨rfl, v2, v3⟩
  · intro n t2 hn v v1 v2 v3 v4 v5 v6
    obtain ⟨_, n2, _, hk2, _⟩ := num_inr htp hk hn
    rw [hn, jlt_eq, if_neg (by rw [v1]; decide), v3]
    generalize jpt G 0 2 v.2 = G3 at v2 v3 v4 v5 v6 ⊢
    dsimp only
    refine c_takeK hN hlim htp (lo := 0) (hx := 10000) v2 hk2 nI_0.symm (by decide) (by decide) (by decide) ?_ ?_
    · intro c p hn2 u u1 u2 u3 _
      rw [hn2, jlt_eq, if_pos u1]
      exact Ok.s ⟨rfl, u2, u3⟩
    · intro n3 t3 hn2 u u1 u2 u3 u4 u5 u6
      rw [hn2, jlt_eq, if_neg (by rw [u1]; decide), if_pos (jinT (by omega) (by omega)), zcl (by omega), u3, jlt_eq]
      generalize jpt G3 0 2 u.2 = G7 at u2 u3 u4 u5 u6 ⊢
      refine Ok.s ⟨rfl, TC.up u2 (by decide), ?_, ?_, ?_⟩
      · dsimp only
        rw [jvw_up 2 1]
        exact (C.cg (fun c _ => (u6 (2 + c) (by omega)).trans (v6 (2 + c) (by omega)))).sCo
      · dsimp only; rw [jup_n _ _ (by decide), u4]; exact v4
      · dsimp only; rw [jup_n _ _ (by decide), u5]; exact v5
theorem c_setW {s p : Nat} {v : Int32} (hs : s < 10) (hp : p < 6) : p_X3_setWorth N (jvw G 2) (nI s) (nI p) v = some (jup (jvw G 2) 3 (s * 6 + p) v) := by
  unfold p_X3_setWorth
  simp (disch := omega) only [Option.bind_some, jlt_eq, ↓reduceIte, eq_self, jinT, zleT, zleF, zltT, zltF, zeq, zpos, zpos', zcl, zm6, z6, z84, z24, z14, z8, nI_add, zd0, zd1, zd2, zd3, zd4, zd5, bitI_e, bI0, bI1]
theorem c_rd3 (hN : 2000 ≤ N) (hlim : lim ≤ 900) (htp : ∀ k, tp k < 256) (I : l.I) (T : TC (jvw G 0) tp lim t) (hk : tkOk lim t) (C : CB (jvw G 2) l) : Ok (p_X2_readWorth N G) (PC tp lim G (rd3 tp lim t l)) := by
  have hnp := I.np
  have hnt := I.nt
  have c1 : G 2 1 = nI l.np := C.np
  have c2 : G 2 2 = nI l.nt := C.nt
  unfold p_X2_readWorth rd3
  rw [c2]
  refine c_takeK hN hlim htp (lo := 0) (hx := l.nt) T hk nI_0.symm rfl (by decide) (by omega) ?_ ?_
  · intro c p hn v v1 v2 v3 _
    rw [hn, jlt_eq, if_pos v1]
    exact Ok.s ⟨rfl, v2, v3⟩
  · intro n t2 hn v v1 v2 v3 v4 v5 v6
    obtain ⟨_, n2, _, hk2, _⟩ := num_inr htp hk hn
    rw [hn, jlt_eq, if_neg (by rw [v1]; decide), v3]
    generalize jpt G 0 2 v.2 = G3 at v2 v3 v4 v5 v6 ⊢
    dsimp only
    have c1' : G3 2 1 = nI l.np := by rw [v6 2 (by omega)]; exact c1
    rw [c1']
    refine c_takeK hN hlim htp (lo := 0) (hx := l.np) v2 hk2 nI_0.symm rfl (by decide) (by omega) ?_ ?_
    · intro c p hn2 u u1 u2 u3 _
      rw [hn2, jlt_eq, if_pos u1]
      exact Ok.s ⟨rfl, u2, u3⟩
    · intro p t3 hn2 u u1 u2 u3 u4 u5 u6
      obtain ⟨_, p2, _, hk3, _⟩ := num_inr htp hk2 hn2
      rw [hn2, jlt_eq, if_neg (by rw [u1]; decide), u3]
      generalize jpt G3 0 2 u.2 = G7 at u2 u3 u4 u5 u6 ⊢
      dsimp only
      refine c_takeK hN hlim htp (lo := 0) (hx := 1000) u2 hk3 nI_0.symm (by decide) (by decide) (by decide) ?_ ?_
      · intro c p hn3 w w1 w2 w3 _
        rw [hn3, jlt_eq, if_pos w1]
        exact Ok.s ⟨rfl, w2, w3⟩
      · intro x t4 hn3 w w1 w2 w3 w4 w5 w6
        rw [hn3, jlt_eq, if_neg (by rw [w1]; decide), w3]
        generalize jpt G7 0 2 w.2 = G11 at w2 w3 w4 w5 w6 ⊢
        rw [c_setW (by omega) (by omega), Option.bind_some, jlt_eq]
        have gk : ∀ c, 2 ≤ c → G11 c = G c := fun c hc => (w6 c hc).trans ((u6 c hc).trans (v6 c hc))
        have e0 : jpt G11 2 9 (jup (jvw G11 2) 3 (n * 6 + p) (nI x)) 0 = G11 0 := jpt_o (by omega)
        have e1 : jpt G11 2 9 (jup (jvw G11 2) 3 (n * 6 + p) (nI x)) 1 = G11 1 := jpt_o (by omega)
        refine Ok.s ⟨rfl, w2.cg e0 e1, ?_, ?_, ?_⟩
        · exact ((C.cg (fun c _ => gk (2 + c) (by omega))).sWo (s := n) (v := nI x) (show p < 6 by omega)).cg (fun c hc => jvw_pt (by omega))
        · exact (congrFun e0 1).trans (w4.trans (u4.trans v4))
        · exact (congrFun e0 2).trans (w5.trans (u5.trans v5))
end clines

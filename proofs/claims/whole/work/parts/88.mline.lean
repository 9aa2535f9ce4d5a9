/-! the reference reads a text -/
section mline
variable {N : Nat} {G G2 A : Nat → Nat → Int32} {J : Nat → Nat → Int64} {tp : Nat → Nat} {lim : Nat} {t : Nat × Nat × Nat × Nat} {l : LA}
def clE (tp : Nat → Nat) (lim : Nat) (e : (Nat × Nat) ⊕ ((Nat × Nat × Nat × Nat) × LA)) : (Nat × Nat) ⊕ ((Nat × Nat × Nat × Nat) × LA) := match e with
  | .inl e => .inl e
  | .inr (t2, l2) => clR tp lim t2 l2
theorem b177_bad (h : ¬ G 0 13 = 0) : p_X6_readLine_b177 N J G = some G := by
  unfold p_X6_readLine_b177
  rw [if_neg h]
theorem b166_bad (h : ¬ G 0 13 = 0) : p_X6_readLine_b166 N J G = some G := by
  unfold p_X6_readLine_b166
  rw [if_neg h, b177_bad h]
theorem b153_bad (h : ¬ G 0 13 = 0) : p_X6_readLine_b153 N J G = some G := by
  unfold p_X6_readLine_b153
  rw [m_blamesB h, Option.bind_some, jlt_eq, if_neg h, b177_bad h, b166_bad h]
  split <;> rfl
theorem m_b153 (hN : 2000 ≤ N) (hlim : lim ≤ 900) (htp : ∀ k, tp k < 256) {e : (Nat × Nat) ⊕ ((Nat × Nat × Nat × Nat) × LA)} (h : PM tp lim A e G) (g : GO lim t e) : Ok (p_X6_readLine_b153 N J G) (PM tp lim A (clE tp lim e)) := by
  obtain ⟨K, h⟩ := h
  cases e with
  | inl e =>
    obtain ⟨c, p⟩ := e
    rw [b153_bad (nI_bad g.1 g.2.1 h.1)]
    exact Ok.s ⟨K, h⟩
  | inr e =>
    obtain ⟨t2, l2⟩ := e
    obtain ⟨h13, T, D⟩ := h
    obtain ⟨hk, _, I⟩ := g
    have t11 : G 0 11 = nI t2.1 := T.2.2.1
    have k3 := hk.2.2.1
    unfold p_X6_readLine_b153
    show Ok _ (PM tp lim A (clR tp lim t2 l2))
    unfold clR
    rw [t11, show (3 : Int32) = nI 3 by decide]
    by_cases a : t2.1 = 3
    · rw [if_pos (by rw [a]), if_pos a]
      unfold p_X6_readLine_b166
      rw [if_pos h13]
      refine Ok.b (m_reads hN hlim htp hk.2.1 T.1 T.2.1 T.2.2.2.2.1) ?_
      rintro G3 ⟨r1, r2⟩
      have z : G3 0 13 = 0 := (r2.1 13 (by decide) (by decide) (by decide) (by decide)).trans h13
      have e2 : G3 2 = G 2 := r2.2 2 (by decide)
      have e3 : G3 2 0 = l2.li := by rw [e2]; exact D.li
      rw [jlt_eq, if_pos z, jlt_eq, e3]
      refine Ok.s ⟨(K.kr r2).up, up13.trans z, r1.up, ?_⟩
      rw [jup_s, e2]
      exact D.slot (Or.inl rfl) rfl
    · rw [if_neg (fun h => a ((nI_eq (by omega) (by omega)).mp h)), if_neg a]
      refine Ok.b (m_blames (k := 2) T hk h13 (by decide)) ?_
      intro G27 hF
      have v3 : ¬ G27 0 13 = 0 := by
        refine nI_bad ?_ ?_ hF.1
        · split <;> omega
        · split <;> omega
      rw [jlt_eq, if_neg v3, b177_bad v3]
      exact Ok.s ⟨K.fm hF, hF.1, hF.2.1⟩

theorem m_took1F (hN : 2000 ≤ N) (hlim : lim ≤ 900) (htp : ∀ k, tp k < 256) (hk : tkOk lim t) (T : TM G tp lim t) (h13 : G 0 13 = 0) (h : ¬ isW tp t 1 = true) : p_X6_took_1 N G J = some (0, G) := by
  unfold p_X6_took_1
  rw [m_isW1 hN hlim htp hk T h13, Option.bind_some, bI_f0 h, if_pos rfl, if_pos jz0]
theorem m_took1T (hN : 2000 ≤ N) (hlim : lim ≤ 900) (htp : ∀ k, tp k < 256) (hk : tkOk lim t) (T : TM G tp lim t) (h13 : G 0 13 = 0) (h : isW tp t 1 = true) : Ok (p_X6_took_1 N G J) (fun r => r.1 = 1 ∧ TM r.2 tp lim (tok tp lim t.2.2.1) ∧ KR G r.2) := by
  unfold p_X6_took_1
  rw [m_isW1 hN hlim htp hk T h13, Option.bind_some, if_neg (bI_t1 h)]
  refine Ok.b (m_reads hN hlim htp hk.2.1 T.1 T.2.1 T.2.2.2.2.1) ?_
  rintro G3 ⟨r1, r2⟩
  rw [jlt_eq, h, show bI true = 1 by decide, if_pos (by decide)]
  exact Ok.s ⟨rfl, r1, r2⟩

theorem m_took3F (hN : 2000 ≤ N) (hlim : lim ≤ 900) (htp : ∀ k, tp k < 256) (hk : tkOk lim t) (T : TM G tp lim t) (h13 : G 0 13 = 0) (h : ¬ isW tp t 3 = true) : p_X6_took_3 N G J = some (0, G) := by
  unfold p_X6_took_3
  rw [m_isW3 hN hlim htp hk T h13, Option.bind_some, bI_f0 h, if_pos rfl, if_pos jz0]
theorem m_took3T (hN : 2000 ≤ N) (hlim : lim ≤ 900) (htp : ∀ k, tp k < 256) (hk : tkOk lim t) (T : TM G tp lim t) (h13 : G 0 13 = 0) (h : isW tp t 3 = true) : Ok (p_X6_took_3 N G J) (fun r => r.1 = 1 ∧ TM r.2 tp lim (tok tp lim t.2.2.1) ∧ KR G r.2) := by
  unfold p_X6_took_3
  rw [m_isW3 hN hlim htp hk T h13, Option.bind_some, if_neg (bI_t1 h)]
  refine Ok.b (m_reads hN hlim htp hk.2.1 T.1 T.2.1 T.2.2.2.2.1) ?_
  rintro G3 ⟨r1, r2⟩
  rw [jlt_eq, h, show bI true = 1 by decide, if_pos (by decide)]
  exact Ok.s ⟨rfl, r1, r2⟩

theorem m_took4F (hN : 2000 ≤ N) (hlim : lim ≤ 900) (htp : ∀ k, tp k < 256) (hk : tkOk lim t) (T : TM G tp lim t) (h13 : G 0 13 = 0) (h : ¬ isW tp t 4 = true) : p_X6_took_4 N G J = some (0, G) := by
  unfold p_X6_took_4
  rw [m_isW4 hN hlim htp hk T h13, Option.bind_some, bI_f0 h, if_pos rfl, if_pos jz0]
theorem m_took4T (hN : 2000 ≤ N) (hlim : lim ≤ 900) (htp : ∀ k, tp k < 256) (hk : tkOk lim t) (T : TM G tp lim t) (h13 : G 0 13 = 0) (h : isW tp t 4 = true) : Ok (p_X6_took_4 N G J) (fun r => r.1 = 1 ∧ TM r.2 tp lim (tok tp lim t.2.2.1) ∧ KR G r.2) := by
  unfold p_X6_took_4
  rw [m_isW4 hN hlim htp hk T h13, Option.bind_some, if_neg (bI_t1 h)]
  refine Ok.b (m_reads hN hlim htp hk.2.1 T.1 T.2.1 T.2.2.2.2.1) ?_
  rintro G3 ⟨r1, r2⟩
  rw [jlt_eq, h, show bI true = 1 by decide, if_pos (by decide)]
  exact Ok.s ⟨rfl, r1, r2⟩

theorem m_took5F (hN : 2000 ≤ N) (hlim : lim ≤ 900) (htp : ∀ k, tp k < 256) (hk : tkOk lim t) (T : TM G tp lim t) (h13 : G 0 13 = 0) (h : ¬ isW tp t 5 = true) : p_X6_took_5 N G J = some (0, G) := by
  unfold p_X6_took_5
  rw [m_isW5 hN hlim htp hk T h13, Option.bind_some, bI_f0 h, if_pos rfl, if_pos jz0]
theorem m_took5T (hN : 2000 ≤ N) (hlim : lim ≤ 900) (htp : ∀ k, tp k < 256) (hk : tkOk lim t) (T : TM G tp lim t) (h13 : G 0 13 = 0) (h : isW tp t 5 = true) : Ok (p_X6_took_5 N G J) (fun r => r.1 = 1 ∧ TM r.2 tp lim (tok tp lim t.2.2.1) ∧ KR G r.2) := by
  unfold p_X6_took_5
  rw [m_isW5 hN hlim htp hk T h13, Option.bind_some, if_neg (bI_t1 h)]
  refine Ok.b (m_reads hN hlim htp hk.2.1 T.1 T.2.1 T.2.2.2.2.1) ?_
  rintro G3 ⟨r1, r2⟩
  rw [jlt_eq, h, show bI true = 1 by decide, if_pos (by decide)]
  exact Ok.s ⟨rfl, r1, r2⟩

theorem m_took6F (hN : 2000 ≤ N) (hlim : lim ≤ 900) (htp : ∀ k, tp k < 256) (hk : tkOk lim t) (T : TM G tp lim t) (h13 : G 0 13 = 0) (h : ¬ isW tp t 6 = true) : p_X6_took_6 N G J = some (0, G) := by
  unfold p_X6_took_6
  rw [m_isW6 hN hlim htp hk T h13, Option.bind_some, bI_f0 h, if_pos rfl, if_pos jz0]
theorem m_took6T (hN : 2000 ≤ N) (hlim : lim ≤ 900) (htp : ∀ k, tp k < 256) (hk : tkOk lim t) (T : TM G tp lim t) (h13 : G 0 13 = 0) (h : isW tp t 6 = true) : Ok (p_X6_took_6 N G J) (fun r => r.1 = 1 ∧ TM r.2 tp lim (tok tp lim t.2.2.1) ∧ KR G r.2) := by
  unfold p_X6_took_6
  rw [m_isW6 hN hlim htp hk T h13, Option.bind_some, if_neg (bI_t1 h)]
  refine Ok.b (m_reads hN hlim htp hk.2.1 T.1 T.2.1 T.2.2.2.2.1) ?_
  rintro G3 ⟨r1, r2⟩
  rw [jlt_eq, h, show bI true = 1 by decide, if_pos (by decide)]
  exact Ok.s ⟨rfl, r1, r2⟩

theorem m_line (hN : 2000 ≤ N) (hlim : lim ≤ 900) (htp : ∀ k, tp k < 256) (I : l.I) (hk : tkOk lim t) (T : TM G tp lim t) (h13 : G 0 13 = 0) (K : KP A G) (D : DB (G 2) l) : Ok (p_X6_readLine N G J) (PM tp lim A (lnR tp lim t l)) := by
  have hnp := I.np
  have hnt := I.nt
  have c1 : G 2 1 = nI l.np := D.np
  have c2 : G 2 2 = nI l.nt := D.nt
  have k3 := hk.2.2.1
  have o := tok_ok tp htp hk.2.1
  have z1 : nI l.np = 0 ↔ l.np = 0 := by
    rw [show (0 : Int32) = nI 0 from nI_0.symm]; exact nI_eq (by omega) (by omega)
  have z2 : nI l.nt = 10 ↔ l.nt = 10 := by
    rw [show (10 : Int32) = nI 10 by decide]; exact nI_eq (by omega) (by omega)
  have bl : ∀ q : Nat, 0 < q → q < 10 → ∀ r, FM G r (if t.1 = 4 then 1 else q) t.2.1 → ¬ r 0 13 = 0 := by
    intro q h1 h2 r hF
    refine nI_bad ?_ ?_ hF.1
    · split <;> omega
    · split <;> omega
  unfold p_X6_readLine
  rw [m_isW0 hN hlim htp hk T h13, Option.bind_some]
  by_cases a0 : isW tp t 0 = true
  · have ek : kd tp t = 0 := by unfold kd; rw [if_pos a0]
    rw [if_neg (bI_t1 a0)]
    unfold p_X6_readPeople
    rw [c1]
    by_cases b : 0 < l.np
    · rw [if_neg (by rw [show (0 : Int32) = nI 0 from nI_0.symm]; exact nI_ge b (by omega))]
      have eL : lnR tp lim t l = .inl (if t.1 = 4 then 1 else 4, t.2.1) := by
        unfold lnR; rw [ek, bgR, if_neg (by omega), if_pos (Or.inl ⟨rfl, b⟩)]
      rw [eL, Option.bind_assoc]
      refine Ok.b (m_blames (k := 4) T hk h13 (by decide)) ?_
      intro G17 hF
      have v3 := bl 4 (by decide) (by decide) _ hF
      rw [jlt_eq, if_neg v3, Option.bind_some, jlt_eq, b153_bad v3]
      exact Ok.s ⟨K.fm hF, hF.1, hF.2.1⟩
    · rw [if_pos (by rw [show (0 : Int32) = nI 0 from nI_0.symm]; exact nI_le (by omega) (by omega))]
      have hb : bgR l t (kd tp t) = none := by rw [ek, bgR, if_neg (by omega), if_neg (by omega)]
      obtain ⟨_, b2, _⟩ := bg_none I kd_le hb
      refine Ok.b (m_rd0 hN hlim htp (b2 ek) T hk h13 K D) ?_
      intro r hr
      rw [jlt_eq]
      have e : lnR tp lim t l = clE tp lim (rd0 tp lim (tok tp lim t.2.2.1) l) := by
        unfold lnR; rw [hb, ek]; rfl
      rw [e]
      exact m_b153 hN hlim htp hr (go_0 htp I (b2 ek) o.1)
  · rw [if_pos (bI_f0 a0), c1]
    have ne0 : ¬ kd tp t = 0 := by
      unfold kd
      rw [if_neg a0]
      repeat (first | omega | split)
    by_cases b : l.np = 0
    · rw [if_pos (z1.mpr b)]
      have eL : lnR tp lim t l = .inl (if t.1 = 4 then 1 else 2, t.2.1) := by
        unfold lnR; rw [bgR, if_pos (Or.inr ⟨ne0, b⟩)]
      rw [eL]
      refine Ok.b (m_blames (k := 2) T hk h13 (by decide)) ?_
      intro G17 hF
      have v3 := bl 2 (by decide) (by decide) _ hF
      rw [jlt_eq, b153_bad v3]
      exact Ok.s ⟨K.fm hF, hF.1, hF.2.1⟩
    · rw [if_neg (fun h => b (z1.mp h))]
      have hb : ∀ k, kd tp t = k → k < 7 → k ≠ 0 → k ≠ 2 → bgR l t (kd tp t) = none := by
        intro k ek h7 h0 h2
        rw [ek, bgR, if_neg (by omega), if_neg (by omega)]
      have lne : bgR l t (kd tp t) = none → lnR tp lim t l = clE tp lim (rdN tp lim (tok tp lim t.2.2.1) l (kd tp t)) := by
        intro hb
        unfold lnR; rw [hb]; rfl

      by_cases a1 : isW tp t 1 = true
      · have ek : kd tp t = 1 := by unfold kd; rw [if_neg a0, if_pos a1]
        have hb1 := hb 1 ek (by decide) (by decide) (by decide)
        refine Ok.b (m_took1T hN hlim htp hk T h13 a1) ?_
        rintro ⟨u, G5⟩ ⟨u1, u2, u3⟩
        have u4 : u = 1 := u1
        have z : G5 0 13 = 0 := (u3.1 13 (by decide) (by decide) (by decide) (by decide)).trans h13
        have e5 : G5 2 = G 2 := u3.2 2 (by decide)
        have D5 : DB (G5 2) l := by rw [e5]; exact D
        rw [jlt_eq, if_neg (show ¬ u = 0 by rw [u4]; decide), lne hb1, ek]
        dsimp only at u2 ⊢
        refine Ok.b (m_rd1 hN hlim htp I u2 o.1 z (K.kr u3) D5) ?_
        intro r hr
        rw [jlt_eq]
        exact m_b153 hN hlim htp hr (go_1 htp I o.1)
      · rw [m_took1F hN hlim htp hk T h13 a1, Option.bind_some, jlt_eq, if_pos rfl]
        dsimp only
        by_cases a2 : isW tp t 2 = true
        · have ek : kd tp t = 2 := by unfold kd; rw [if_neg a0, if_neg a1, if_pos a2]
          rw [m_isW2 hN hlim htp hk T h13, Option.bind_some, if_neg (bI_t1 a2)]
          unfold p_X6_readThing
          rw [c2]
          by_cases d : l.nt = 10
          · rw [if_pos (z2.mpr d)]
            have eL : lnR tp lim t l = .inl (if t.1 = 4 then 1 else 4, t.2.1) := by
              unfold lnR; rw [ek, bgR, if_neg (by omega), if_pos (Or.inr ⟨rfl, d⟩)]
            rw [eL, Option.bind_assoc]
            refine Ok.b (m_blames (k := 4) T hk h13 (by decide)) ?_
            intro G17 hF
            have v3 := bl 4 (by decide) (by decide) _ hF
            rw [jlt_eq, if_neg v3, Option.bind_some, jlt_eq, b153_bad v3]
            exact Ok.s ⟨K.fm hF, hF.1, hF.2.1⟩
          · rw [if_neg (fun h => d (z2.mp h))]
            have hb2 : bgR l t (kd tp t) = none := by rw [ek, bgR, if_neg (by omega), if_neg (by omega)]
            rw [lne hb2, ek]
            refine Ok.b (m_rd2 hN hlim htp I (by omega) T hk h13 K D) ?_
            intro r hr
            rw [jlt_eq]
            exact m_b153 hN hlim htp hr (go_2 htp I (by omega) o.1)
        · rw [m_isW2 hN hlim htp hk T h13, Option.bind_some, if_pos (bI_f0 a2)]
          by_cases a3 : isW tp t 3 = true
          · have ek : kd tp t = 3 := by unfold kd; rw [if_neg a0, if_neg a1, if_neg a2, if_pos a3]
            have hb3 := hb 3 ek (by decide) (by decide) (by decide)
            refine Ok.b (m_took3T hN hlim htp hk T h13 a3) ?_
            rintro ⟨u, G5⟩ ⟨u1, u2, u3⟩
            have u4 : u = 1 := u1
            have z : G5 0 13 = 0 := (u3.1 13 (by decide) (by decide) (by decide) (by decide)).trans h13
            have e5 : G5 2 = G 2 := u3.2 2 (by decide)
            have D5 : DB (G5 2) l := by rw [e5]; exact D
            rw [jlt_eq, if_neg (show ¬ u = 0 by rw [u4]; decide), lne hb3, ek]
            dsimp only at u2 ⊢
            refine Ok.b (m_rd3 hN hlim htp I u2 o.1 z (K.kr u3) D5) ?_
            intro r hr
            rw [jlt_eq]
            exact m_b153 hN hlim htp hr (go_3 htp I o.1)
          · rw [m_took3F hN hlim htp hk T h13 a3, Option.bind_some, jlt_eq, if_pos rfl]
            dsimp only
            by_cases a4 : isW tp t 4 = true
            · have ek : kd tp t = 4 := by unfold kd; rw [if_neg a0, if_neg a1, if_neg a2, if_neg a3, if_pos a4]
              have hb4 := hb 4 ek (by decide) (by decide) (by decide)
              refine Ok.b (m_took4T hN hlim htp hk T h13 a4) ?_
              rintro ⟨u, G5⟩ ⟨u1, u2, u3⟩
              have u4 : u = 1 := u1
              have z : G5 0 13 = 0 := (u3.1 13 (by decide) (by decide) (by decide) (by decide)).trans h13
              have e5 : G5 2 = G 2 := u3.2 2 (by decide)
              have D5 : DB (G5 2) l := by rw [e5]; exact D
              rw [jlt_eq, if_neg (show ¬ u = 0 by rw [u4]; decide), lne hb4, ek]
              dsimp only at u2 ⊢
              exact m_rd4 hN hlim htp u2 o.1 z (K.kr u3) D5 (fun r hr => m_b153 hN hlim htp hr (go_4 htp I o.1))
            · rw [m_took4F hN hlim htp hk T h13 a4, Option.bind_some, jlt_eq, if_pos rfl]
              dsimp only
              by_cases a5 : isW tp t 5 = true
              · have ek : kd tp t = 5 := by unfold kd; rw [if_neg a0, if_neg a1, if_neg a2, if_neg a3, if_neg a4, if_pos a5]
                have hb5 := hb 5 ek (by decide) (by decide) (by decide)
                refine Ok.b (m_took5T hN hlim htp hk T h13 a5) ?_
                rintro ⟨u, G5⟩ ⟨u1, u2, u3⟩
                have u4 : u = 1 := u1
                have z : G5 0 13 = 0 := (u3.1 13 (by decide) (by decide) (by decide) (by decide)).trans h13
                have e5 : G5 2 = G 2 := u3.2 2 (by decide)
                have D5 : DB (G5 2) l := by rw [e5]; exact D
                rw [jlt_eq, if_neg (show ¬ u = 0 by rw [u4]; decide), lne hb5, ek]
                dsimp only at u2 ⊢
                exact m_rd5 hN hlim htp u2 o.1 z (K.kr u3) D5 (fun r hr => m_b153 hN hlim htp hr (go_5 htp I o.1))
              · rw [m_took5F hN hlim htp hk T h13 a5, Option.bind_some, jlt_eq, if_pos rfl]
                dsimp only
                by_cases a6 : isW tp t 6 = true
                · have ek : kd tp t = 6 := by unfold kd; rw [if_neg a0, if_neg a1, if_neg a2, if_neg a3, if_neg a4, if_neg a5, if_pos a6]
                  have hb6 := hb 6 ek (by decide) (by decide) (by decide)
                  refine Ok.b (m_took6T hN hlim htp hk T h13 a6) ?_
                  rintro ⟨u, G5⟩ ⟨u1, u2, u3⟩
                  have u4 : u = 1 := u1
                  have z : G5 0 13 = 0 := (u3.1 13 (by decide) (by decide) (by decide) (by decide)).trans h13
                  have e5 : G5 2 = G 2 := u3.2 2 (by decide)
                  have D5 : DB (G5 2) l := by rw [e5]; exact D
                  rw [jlt_eq, if_neg (show ¬ u = 0 by rw [u4]; decide), lne hb6, ek]
                  dsimp only at u2 ⊢
                  refine Ok.b (m_rd6 hN hlim htp I u2 o.1 z (K.kr u3) D5) ?_
                  intro r hr
                  rw [jlt_eq]
                  exact m_b153 hN hlim htp hr (go_6 htp I o.1)
                · rw [m_took6F hN hlim htp hk T h13 a6, Option.bind_some, jlt_eq, if_pos rfl]
                  dsimp only
                  have ek : kd tp t = 7 := by unfold kd; rw [if_neg a0, if_neg a1, if_neg a2, if_neg a3, if_neg a4, if_neg a5, if_neg a6]
                  have eL : lnR tp lim t l = .inl (if t.1 = 4 then 1 else 2, t.2.1) := by
                    unfold lnR; rw [bgR, if_pos (Or.inl ek)]
                  rw [eL]
                  refine Ok.b (m_blames (k := 2) T hk h13 (by decide)) ?_
                  intro G27 hF
                  have v3 := bl 2 (by decide) (by decide) _ hF
                  rw [jlt_eq, b166_bad v3, m_blamesB v3, Option.bind_some, jlt_eq, if_neg v3, b177_bad v3]
                  have f : Ok (some G27) (PM tp lim A (.inl (if t.1 = 4 then 1 else 2, t.2.1))) := Ok.s ⟨K.fm hF, hF.1, hF.2.1⟩
                  split
                  · exact f
                  · exact f
end mline

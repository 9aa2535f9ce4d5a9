/-! the class reads lines -/
def kd (tp : Nat → Nat) (t : Nat × Nat × Nat × Nat) : Nat := if isW tp t 0 = true then 0 else if isW tp t 1 = true then 1 else if isW tp t 2 = true then 2 else if isW tp t 3 = true then 3 else if isW tp t 4 = true then 4 else if isW tp t 5 = true then 5 else if isW tp t 6 = true then 6 else 7
def rdN (tp : Nat → Nat) (lim : Nat) (t : Nat × Nat × Nat × Nat) (l : LA) : Nat → (Nat × Nat) ⊕ ((Nat × Nat × Nat × Nat) × LA)
  | 0 => rd0 tp lim t l
  | 1 => rd1 tp lim t l
  | 2 => rd2 tp lim t l
  | 3 => rd3 tp lim t l
  | 4 => rd4 tp lim t l
  | 5 => rd5 tp lim t l
  | _ => rd6 tp lim t l
def bgR (l : LA) (t : Nat × Nat × Nat × Nat) (k : Nat) : Option (Nat × Nat) := if k = 7 ∨ (k ≠ 0 ∧ l.np = 0) then some (if t.1 = 4 then 1 else 2, t.2.1) else if (k = 0 ∧ 0 < l.np) ∨ (k = 2 ∧ l.nt = 10) then some (if t.1 = 4 then 1 else 4, t.2.1) else none
def clR (tp : Nat → Nat) (lim : Nat) (t : Nat × Nat × Nat × Nat) (l : LA) : (Nat × Nat) ⊕ ((Nat × Nat × Nat × Nat) × LA) := if t.1 = 3 then .inr (tok tp lim t.2.2.1, l.sLi) else .inl (if t.1 = 4 then 1 else 2, t.2.1)
def lnR (tp : Nat → Nat) (lim : Nat) (t : Nat × Nat × Nat × Nat) (l : LA) : (Nat × Nat) ⊕ ((Nat × Nat × Nat × Nat) × LA) := match bgR l t (kd tp t) with
  | some e => .inl e
  | none => match rdN tp lim (tok tp lim t.2.2.1) l (kd tp t) with
    | .inl e => .inl e
    | .inr (t2, l2) => clR tp lim t2 l2
def rdL (tp : Nat → Nat) (lim : Nat) : Nat → (Nat × Nat × Nat × Nat) → LA → (Nat × Nat) ⊕ LA
  | 0, _, l => .inr l
  | m + 1, t, l => if t.1 = 0 then .inr l else match lnR tp lim t l with
    | .inl e => .inl e
    | .inr (t2, l2) => rdL tp lim m t2 l2
/-- readings come out well -/
def GO (lim : Nat) (t : Nat × Nat × Nat × Nat) (e : (Nat × Nat) ⊕ ((Nat × Nat × Nat × Nat) × LA)) : Prop := match e with
  | .inl (c, p) => 0 < c ∧ c < 10 ∧ p ≤ lim
  | .inr (t2, l2) => tkOk lim t2 ∧ t.2.2.1 ≤ t2.2.2.1 ∧ l2.I
section cread
variable {N : Nat} {G G2 : Nat → Nat → Int32} {tp : Nat → Nat} {lim : Nat} {t : Nat × Nat × Nat × Nat} {l : LA}
theorem num_inl {lo hx c p : Nat} (hk : tkOk lim t) (h : numT tp lim lo hx t = .inl (c, p)) : 0 < c ∧ c < 10 ∧ p ≤ lim := by
  have k1 := hk.1
  have k2 := hk.2.1
  unfold numT at h
  by_cases a1 : t.1 = 2
  · rw [if_pos a1] at h
    by_cases d : lo ≤ t.2.2.2 ∧ t.2.2.2 < hx
    · rw [if_pos d] at h; cases h
    · rw [if_neg d] at h; cases h; omega
  · rw [if_neg a1] at h
    by_cases d : t.1 = 4
    · rw [if_pos d] at h; cases h; omega
    · rw [if_neg d] at h; cases h; omega
theorem tok_mono (htp : ∀ k, tp k < 256) {k : Nat} (hk : k ≤ lim) : k ≤ (tok tp lim k).2.2.1 := by
  have h := tok_ok tp htp hk
  have := h.1.1
  have := h.2.1
  omega
theorem num_mono (htp : ∀ k, tp k < 256) {lo hx n : Nat} {t2 : Nat × Nat × Nat × Nat} (hk : tkOk lim t) (h : numT tp lim lo hx t = .inr (n, t2)) : t.2.2.1 ≤ t2.2.2.1 := by
  have e := (num_inr htp hk h).2.2.2.2
  rw [e]
  exact tok_mono htp hk.2.1
theorem nI_b {n b : Nat} (h : n ≤ b) (hb : b < 2147483648) : 0 ≤ (nI n).toInt ∧ (nI n).toInt ≤ b := by
  rw [nI_toInt (by omega)]; omega
theorem I_co (I : l.I) {p : Nat} {v : Int32} : (l.sCo p v).I := ⟨I.np, I.nt, I.ho, I.wo, I.sh⟩
theorem I_wo (I : l.I) {s p : Nat} {v : Int32} (h : 0 ≤ v.toInt ∧ v.toInt ≤ 999) : (l.sWo s p v).I := by
  refine ⟨I.np, I.nt, I.ho, ?_, I.sh⟩
  intro s2 q hs hq
  show 0 ≤ (if s2 = s ∧ q = p then v else l.wo s2 q).toInt ∧ _
  show _ ∧ (if s2 = s ∧ q = p then v else l.wo s2 q).toInt ≤ _
  by_cases e : s2 = s ∧ q = p
  · rw [if_pos e]; exact h
  · rw [if_neg e]; exact I.wo s2 q hs hq
theorem I_th (I : l.I) (hn : l.nt < 10) {h : Nat} (hh : h < l.np) : (l.sTh h).I := by
  refine ⟨I.np, hn, ?_, I.wo, I.sh⟩
  intro s hs
  have hs2 : s < l.nt + 1 := hs
  show (if s = l.nt then h else l.ho s) < l.np
  by_cases e : s = l.nt
  · rw [if_pos e]; exact hh
  · rw [if_neg e]; exact I.ho s (by omega)
theorem go_0 (htp : ∀ k, tp k < 256) (I : l.I) (h0 : l.nt = 0) (hk : tkOk lim t) : GO lim t (rd0 tp lim t l) := by
  unfold rd0
  cases h : numT tp lim 1 7 t with
  | inl e => exact num_inl hk h
  | inr e =>
    obtain ⟨a, b, c, d, _⟩ := num_inr htp hk h
    exact ⟨d, num_mono htp hk h, (show e.1 ≤ 6 by omega), I.nt, fun s hs => absurd (show s < l.nt from hs) (by omega), I.wo, I.sh⟩
theorem go_1 (htp : ∀ k, tp k < 256) (I : l.I) (hk : tkOk lim t) : GO lim t (rd1 tp lim t l) := by
  unfold rd1
  cases h : numT tp lim 0 l.np t with
  | inl e => exact num_inl hk h
  | inr e =>
    obtain ⟨a, b, c, d, _⟩ := num_inr htp hk h
    dsimp only
    cases h2 : numT tp lim 0 10000 e.2 with
    | inl e2 => exact num_inl d h2
    | inr e2 =>
      obtain ⟨a2, b2, c2, d2, _⟩ := num_inr htp d h2
      exact ⟨d2, Nat.le_trans (num_mono htp hk h) (num_mono htp d h2), I_co I⟩
theorem go_3 (htp : ∀ k, tp k < 256) (I : l.I) (hk : tkOk lim t) : GO lim t (rd3 tp lim t l) := by
  unfold rd3
  cases h : numT tp lim 0 l.nt t with
  | inl e => exact num_inl hk h
  | inr e =>
    obtain ⟨a, b, c, d, _⟩ := num_inr htp hk h
    dsimp only
    cases h2 : numT tp lim 0 l.np e.2 with
    | inl e2 => exact num_inl d h2
    | inr e2 =>
      obtain ⟨a2, b2, c2, d2, _⟩ := num_inr htp d h2
      dsimp only
      cases h3 : numT tp lim 0 1000 e2.2 with
      | inl e3 => exact num_inl d2 h3
      | inr e3 =>
        obtain ⟨a3, b3, c3, d3, _⟩ := num_inr htp d2 h3
        exact ⟨d3, Nat.le_trans (num_mono htp hk h) (Nat.le_trans (num_mono htp d h2) (num_mono htp d2 h3)), I_wo I (nI_b (show e3.1 ≤ 999 by omega) (by decide))⟩
theorem go_4 (htp : ∀ k, tp k < 256) (I : l.I) (hk : tkOk lim t) : GO lim t (rd4 tp lim t l) := by
  unfold rd4
  cases h : numT tp lim 0 101 t with
  | inl e => exact num_inl hk h
  | inr e =>
    obtain ⟨a, b, c, d, _⟩ := num_inr htp hk h
    exact ⟨d, num_mono htp hk h, I.np, I.nt, I.ho, I.wo, nI_b (show e.1 ≤ 100 by omega) (by decide)⟩
theorem go_5 (htp : ∀ k, tp k < 256) (I : l.I) (hk : tkOk lim t) : GO lim t (rd5 tp lim t l) := by
  unfold rd5
  cases h : numT tp lim 1 1000 t with
  | inl e => exact num_inl hk h
  | inr e =>
    obtain ⟨a, b, c, d, _⟩ := num_inr htp hk h
    exact ⟨d, num_mono htp hk h, I.np, I.nt, I.ho, I.wo, I.sh⟩
theorem go_6 (htp : ∀ k, tp k < 256) (I : l.I) (hk : tkOk lim t) : GO lim t (rd6 tp lim t l) := by
  unfold rd6
  cases h : numT tp lim 0 l.nt t with
  | inl e => exact num_inl hk h
  | inr e =>
    obtain ⟨a, b, c, d, _⟩ := num_inr htp hk h
    exact ⟨d, num_mono htp hk h, I.np, I.nt, I.ho, I.wo, I.sh⟩
theorem go_th (htp : ∀ k, tp k < 256) {s : Nat} : ∀ (n p : Nat) (t : Nat × Nat × Nat × Nat) (l : LA), l.I → tkOk lim t → GO lim t (thR tp lim s n p t l) ∧ ∀ t2 l2, thR tp lim s n p t l = .inr (t2, l2) → l2.np = l.np ∧ l2.nt = l.nt := by
  intro n
  induction n with
  | zero =>
    intro p t l I hk
    have k1 := hk.1
    have k2 := hk.2.1
    unfold thR
    by_cases a : t.1 = 2
    · rw [if_pos a]
      refine ⟨?_, fun _ _ h => by cases h⟩
      show 0 < (if 999 < t.2.2.2 then 3 else 4) ∧ (if 999 < t.2.2.2 then 3 else 4) < 10 ∧ t.2.1 ≤ lim
      refine ⟨?_, ?_, by omega⟩
      · split <;> omega
      · split <;> omega
    · rw [if_neg a]
      exact ⟨⟨hk, Nat.le_refl _, I⟩, fun _ _ h => by cases h; exact ⟨rfl, rfl⟩⟩
  | succ n ih =>
    intro p t l I hk
    unfold thR
    by_cases a : t.1 = 2
    · rw [if_pos a]
      cases h : numT tp lim 0 1000 t with
      | inl e => exact ⟨num_inl hk h, fun _ _ h => by cases h⟩
      | inr e =>
        obtain ⟨v, t2⟩ := e
        obtain ⟨a1, b, c, d, _⟩ := num_inr htp hk h
        dsimp only
        obtain ⟨i1, i2⟩ := ih (p + 1) t2 (l.sWo s p (nI v)) (I_wo I (nI_b (show v ≤ 999 by omega) (by decide))) d
        refine ⟨?_, i2⟩
        have m := num_mono htp hk h
        cases h3 : thR tp lim s n (p + 1) t2 (l.sWo s p (nI v)) with
        | inl e => rw [h3] at i1; exact i1
        | inr e => rw [h3] at i1; exact ⟨i1.1, Nat.le_trans m i1.2.1, i1.2.2⟩
    · rw [if_neg a]
      exact ⟨⟨hk, Nat.le_refl _, I⟩, fun _ _ h => by cases h; exact ⟨rfl, rfl⟩⟩
theorem go_2 (htp : ∀ k, tp k < 256) (I : l.I) (hn : l.nt < 10) (hk : tkOk lim t) : GO lim t (rd2 tp lim t l) := by
  unfold rd2
  cases h : numT tp lim 0 l.np t with
  | inl e => exact num_inl hk h
  | inr e =>
    obtain ⟨v, t2⟩ := e
    obtain ⟨a, b, c, d, _⟩ := num_inr htp hk h
    have m := num_mono htp hk h
    obtain ⟨i1, i2⟩ := go_th htp (s := l.nt) l.np 0 t2 l I d
    dsimp only
    cases h3 : thR tp lim l.nt l.np 0 t2 l with
    | inl e => rw [h3] at i1; exact i1
    | inr e =>
      obtain ⟨t3, l3⟩ := e
      rw [h3] at i1
      obtain ⟨j1, j2⟩ := i2 t3 l3 h3
      exact ⟨i1.1, Nat.le_trans m i1.2.1, I_th i1.2.2 (by omega) (by omega)⟩
theorem go_N (htp : ∀ k, tp k < 256) (I : l.I) (hk : tkOk lim t) {k : Nat} (h0 : k = 0 → l.nt = 0) (h2 : k = 2 → l.nt < 10) : GO lim t (rdN tp lim t l k) := by
  match k, h0, h2 with
  | 0, h0, _ => exact go_0 htp I (h0 rfl) hk
  | 1, _, _ => exact go_1 htp I hk
  | 2, _, h2 => exact go_2 htp I (h2 rfl) hk
  | 3, _, _ => exact go_3 htp I hk
  | 4, _, _ => exact go_4 htp I hk
  | 5, _, _ => exact go_5 htp I hk
  | _ + 6, _, _ => exact go_6 htp I hk
theorem bg_none {k : Nat} (I : l.I) (hk : k ≤ 7) (h : bgR l t k = none) : k < 7 ∧ (k = 0 → l.nt = 0) ∧ (k = 2 → l.nt < 10) ∧ (k ≠ 0 → ¬ l.np = 0) ∧ (k = 0 → l.np = 0) := by
  unfold bgR at h
  by_cases a : k = 7 ∨ (k ≠ 0 ∧ l.np = 0)
  · rw [if_pos a] at h; cases h
  · rw [if_neg a] at h
    by_cases b : (k = 0 ∧ 0 < l.np) ∨ (k = 2 ∧ l.nt = 10)
    · rw [if_pos b] at h; cases h
    · have hnt := I.nt
      have z : l.np = 0 → l.nt = 0 := by
        intro e
        by_cases f : l.nt = 0
        · exact f
        · have := I.ho 0 (by omega); omega
      exact ⟨by omega, fun e => z (by omega), by omega, by omega, by omega⟩
theorem bg_some {k c p : Nat} (hk : tkOk lim t) (h : bgR l t k = some (c, p)) : 0 < c ∧ c < 10 ∧ p ≤ lim := by
  have k1 := hk.1
  have k2 := hk.2.1
  unfold bgR at h
  by_cases a : k = 7 ∨ (k ≠ 0 ∧ l.np = 0)
  · rw [if_pos a] at h
    by_cases d : t.1 = 4
    · rw [if_pos d] at h; cases h; omega
    · rw [if_neg d] at h; cases h; omega
  · rw [if_neg a] at h
    by_cases b : (k = 0 ∧ 0 < l.np) ∨ (k = 2 ∧ l.nt = 10)
    · rw [if_pos b] at h
      by_cases d : t.1 = 4
      · rw [if_pos d] at h; cases h; omega
      · rw [if_neg d] at h; cases h; omega
    · rw [if_neg b] at h; cases h
theorem kd_le : kd tp t ≤ 7 := by unfold kd; repeat (first | omega | split)
/-- a line's end moves on -/
theorem go_L (htp : ∀ k, tp k < 256) (I : l.I) (hk : tkOk lim t) : match lnR tp lim t l with
    | .inl (c, p) => 0 < c ∧ c < 10 ∧ p ≤ lim
    | .inr (t2, l2) => tkOk lim t2 ∧ (¬ t2.1 = 0 → t.2.2.1 < t2.2.2.1) ∧ l2.I := by
  unfold lnR
  cases hb : bgR l t (kd tp t) with
  | some e => exact bg_some hk hb
  | none =>
    obtain ⟨b1, b2, b3, _⟩ := bg_none I kd_le hb
    have o := tok_ok tp htp hk.2.1
    have g := go_N htp I o.1 b2 b3
    have m0 := tok_mono htp hk.2.1
    dsimp only
    cases hr : rdN tp lim (tok tp lim t.2.2.1) l (kd tp t) with
    | inl e => rw [hr] at g; exact g
    | inr e =>
      obtain ⟨t2, l2⟩ := e
      rw [hr] at g
      obtain ⟨g1, g2, g3⟩ := g
      dsimp only
      unfold clR
      by_cases a : t2.1 = 3
      · rw [if_pos a]
        have o2 := tok_ok tp htp g1.2.1
        exact ⟨o2.1, fun h => by have := o2.2.2 h; omega, g3.np, g3.nt, g3.ho, g3.wo, g3.sh⟩
      · rw [if_neg a]
        have k1 := g1.1
        have k2 := g1.2.1
        by_cases d : t2.1 = 4
        · rw [if_pos d]; show 0 < 1 ∧ 1 < 10 ∧ t2.2.1 ≤ lim; omega
        · rw [if_neg d]; show 0 < 2 ∧ 2 < 10 ∧ t2.2.1 ≤ lim; omega
theorem c_failK {β : Type} {k : Nat} {x : Int32} (T : TC (jvw G 0) tp lim t) (hk : tkOk lim t) (hx : x = nI k) {F : Int32 × (Nat → Nat → Int32) → Option β} {P : β → Prop} (hf : ∀ v : Int32 × (Nat → Nat → Int32), v.1 = 0 → jpt G 0 2 v.2 0 1 = nI (if t.1 = 4 then 1 else k) → jpt G 0 2 v.2 0 2 = nI t.2.1 → Ok (F v) P) : Ok ((p_X2_fails N (jvw G 0) x).bind F) P := by
  refine Ok.b (c_fails T hk hx) ?_
  rintro ⟨u, g⟩ ⟨h1, h2⟩
  have e0 : jpt G 0 2 g 0 = g 0 := jpt_i (b := 0) (c := 0) (by omega)
  exact hf (u, g) h1 ((congrFun e0 1).trans h2.1) ((congrFun e0 2).trans h2.2.1)
theorem c_nextK (hN : 2000 ≤ N) (hlim : lim ≤ 900) (htp : ∀ k, tp k < 256) {β : Type} (T : TC (jvw G 0) tp lim t) (hk : tkOk lim t) {F : (Nat → Nat → Int32) → Option β} {P : β → Prop} (hs : ∀ v : Nat → Nat → Int32, TC (jvw (jpt G 0 2 v) 0) tp lim (tok tp lim t.2.2.1) → jpt G 0 2 v 0 1 = G 0 1 → jpt G 0 2 v 0 2 = G 0 2 → (∀ c, 2 ≤ c → jpt G 0 2 v c = G c) → Ok (F v) P) : Ok ((p_X2_next N (jvw G 0)).bind F) P := by
  refine Ok.b (c_next hN hlim htp hk.2.1 T.1 T.2.1 T.2.2.2.2.1) ?_
  rintro g ⟨h1, h2⟩
  have e0 : jpt G 0 2 g 0 = g 0 := jpt_i (b := 0) (c := 0) (by omega)
  have e1 : jpt G 0 2 g 1 = g 1 := jpt_i (b := 0) (c := 1) (by omega)
  exact hs g (h1.cg e0 e1) ((congrFun e0 1).trans (h2.1 1 (by decide) (by decide) (by decide) (by decide))) ((congrFun e0 2).trans (h2.1 2 (by decide) (by decide) (by decide) (by decide))) (fun c hc => jpt_o (by omega))
theorem CB.sTh {g : Nat → Nat → Int32} (C : CB g l) {h : Nat} (hh : g 2 l.nt = nI h) : CB (jup g 0 2 (nI (l.nt + 1))) (l.sTh h) := by
  refine ⟨?_, ?_, ?_, ?_, ?_, ?_, ?_, ?_, ?_, ?_, ?_, ?_⟩
  · simp (disch := omega) only [Option.bind_some, jlt_eq, ↓reduceIte, eq_self, jinT, zleT, zleF, zltT, zltF, zeq, zpos, zpos', zcl, zm6, z6, z84, z24, z14, z8, nI_add, zd0, zd1, zd2, zd3, zd4, zd5, bitI_e, bI0, bI1, jup_s, upd_n]; exact C.li
  · simp (disch := omega) only [Option.bind_some, jlt_eq, ↓reduceIte, eq_self, jinT, zleT, zleF, zltT, zltF, zeq, zpos, zpos', zcl, zm6, z6, z84, z24, z14, z8, nI_add, zd0, zd1, zd2, zd3, zd4, zd5, bitI_e, bI0, bI1, jup_s, upd_n]; exact C.np
  · simp (disch := omega) only [Option.bind_some, jlt_eq, ↓reduceIte, eq_self, jinT, zleT, zleF, zltT, zltF, zeq, zpos, zpos', zcl, zm6, z6, z84, z24, z14, z8, nI_add, zd0, zd1, zd2, zd3, zd4, zd5, bitI_e, bI0, bI1, jup_s, upd_s]; rfl
  · simp (disch := omega) only [Option.bind_some, jlt_eq, ↓reduceIte, eq_self, jinT, zleT, zleF, zltT, zltF, zeq, zpos, zpos', zcl, zm6, z6, z84, z24, z14, z8, nI_add, zd0, zd1, zd2, zd3, zd4, zd5, bitI_e, bI0, bI1, jup_s, upd_n]; exact C.ea
  · simp (disch := omega) only [Option.bind_some, jlt_eq, ↓reduceIte, eq_self, jinT, zleT, zleF, zltT, zltF, zeq, zpos, zpos', zcl, zm6, z6, z84, z24, z14, z8, nI_add, zd0, zd1, zd2, zd3, zd4, zd5, bitI_e, bI0, bI1, jup_s, upd_n]; exact C.sh
  · simp (disch := omega) only [Option.bind_some, jlt_eq, ↓reduceIte, eq_self, jinT, zleT, zleF, zltT, zltF, zeq, zpos, zpos', zcl, zm6, z6, z84, z24, z14, z8, nI_add, zd0, zd1, zd2, zd3, zd4, zd5, bitI_e, bI0, bI1, jup_s, upd_n]; exact C.be
  · simp (disch := omega) only [Option.bind_some, jlt_eq, ↓reduceIte, eq_self, jinT, zleT, zleF, zltT, zltF, zeq, zpos, zpos', zcl, zm6, z6, z84, z24, z14, z8, nI_add, zd0, zd1, zd2, zd3, zd4, zd5, bitI_e, bI0, bI1, jup_s, upd_n]; exact C.y6
  · simp (disch := omega) only [Option.bind_some, jlt_eq, ↓reduceIte, eq_self, jinT, zleT, zleF, zltT, zltF, zeq, zpos, zpos', zcl, zm6, z6, z84, z24, z14, z8, nI_add, zd0, zd1, zd2, zd3, zd4, zd5, bitI_e, bI0, bI1, jup_s, upd_n]; exact C.y7
  · simp (disch := omega) only [Option.bind_some, jlt_eq, ↓reduceIte, eq_self, jinT, zleT, zleF, zltT, zltF, zeq, zpos, zpos', zcl, zm6, z6, z84, z24, z14, z8, nI_add, zd0, zd1, zd2, zd3, zd4, zd5, bitI_e, bI0, bI1, jup_s, upd_n]; exact C.y8
  · simp (disch := omega) only [Option.bind_some, jlt_eq, ↓reduceIte, eq_self, jinT, zleT, zleF, zltT, zltF, zeq, zpos, zpos', zcl, zm6, z6, z84, z24, z14, z8, nI_add, zd0, zd1, zd2, zd3, zd4, zd5, bitI_e, bI0, bI1, jup_n]; exact C.co
  · intro s hs
    have hs2 : s < l.nt + 1 := hs
    rw [jup_n _ _ (by decide)]
    show _ = nI (if s = l.nt then h else l.ho s)
    by_cases e : s = l.nt
    · rw [if_pos e, e]; exact hh
    · rw [if_neg e]; exact C.ho s (by omega)
  · simp (disch := omega) only [Option.bind_some, jlt_eq, ↓reduceIte, eq_self, jinT, zleT, zleF, zltT, zltF, zeq, zpos, zpos', zcl, zm6, z6, z84, z24, z14, z8, nI_add, zd0, zd1, zd2, zd3, zd4, zd5, bitI_e, bI0, bI1, jup_n]; exact C.wo
theorem c_thR (hN : 2000 ≤ N) (hlim : lim ≤ 900) (htp : ∀ k, tp k < 256) {h : Nat} {A : Nat → Nat → Int32} : ∀ (k n p : Nat) (G : Nat → Nat → Int32) (t : Nat × Nat × Nat × Nat) (l : LA), l.I → p + k = l.np → l.nt < 10 → k < n → TC (jvw G 0) tp lim t → tkOk lim t → CB (jvw G 2) l → G 4 l.nt = nI h → G 0 1 = A 0 1 → G 0 2 = A 0 2 → Ok (p_X2_readThing_b31 N n G (nI p)) (PC tp lim A (match thR tp lim l.nt k p t l with
    | .inl e => .inl e
    | .inr (t3, l3) => .inr (t3, l3.sTh h))) := by
  have fin : ∀ (G : Nat → Nat → Int32) (t : Nat × Nat × Nat × Nat) (l : LA), l.nt < 10 → TC (jvw G 0) tp lim t → tkOk lim t → CB (jvw G 2) l → G 4 l.nt = nI h → G 0 1 = A 0 1 → G 0 2 = A 0 2 → Ok (p_X2_readThing_b79 N G) (PC tp lim A (if t.1 = 2 then .inl (if 999 < t.2.2.2 then 3 else 4, t.2.1) else .inr (t, l.sTh h))) := by
    intro G t l hnt T hk C h4 a1 a2
    have e2 : G 2 2 + 1 = nI (l.nt + 1) := by have := C.nt; rw [show G 2 2 = nI l.nt from this, nI_1]
    have k3 := hk.2.2.1
    have k4 := hk.2.2.2
    unfold p_X2_readThing_b79
    rw [e2, jlt_eq]
    have T2 : TC (jvw (jup G 2 2 (nI (l.nt + 1))) 0) tp lim t := TC.up T (by decide)
    have C2 : CB (jvw (jup G 2 2 (nI (l.nt + 1))) 2) (l.sTh h) := by rw [jvw_up 2 0]; exact C.sTh h4
    have b1 : jup G 2 2 (nI (l.nt + 1)) 0 1 = A 0 1 := by rw [jup_n _ _ (by decide)]; exact a1
    have b2 : jup G 2 2 (nI (l.nt + 1)) 0 2 = A 0 2 := by rw [jup_n _ _ (by decide)]; exact a2
    generalize jup G 2 2 (nI (l.nt + 1)) = G8 at T2 C2 b1 b2 ⊢
    have t5 : G8 0 5 = ck t.1 := T2.2.2.1
    rw [t5]
    by_cases a : t.1 = 2
    · have t8 : G8 0 8 = nI t.2.2.2 := T2.2.2.2.2.2 a
      have e4 : ¬ t.1 = 4 := by omega
      rw [if_pos (by rw [ck_n _ k3]; exact a), if_pos a, t8]
      have en : ∀ q : Nat, q < 10 → Ok (p_X2_readThing_b113 N G8 (nI q)) (PC tp lim A (.inl (q, t.2.1))) := by
        intro q hq
        unfold p_X2_readThing_b113
        refine c_failK (k := q) T2 hk rfl ?_
        intro v v1 v2 v3
        rw [if_neg e4] at v2
        rw [jlt_eq, if_pos v1]
        exact Ok.s ⟨rfl, v2, v3⟩
      by_cases c : 999 < t.2.2.2
      · rw [if_neg (by rw [show (999 : Int32) = nI 999 by decide]; exact nI_ge c (by omega)), if_pos c]
        exact en 3 (by decide)
      · rw [if_pos (by rw [show (999 : Int32) = nI 999 by decide]; exact nI_le (by omega) (by omega)), if_neg c]
        exact en 4 (by decide)
    · rw [if_neg (by rw [ck_n _ k3]; exact a), if_neg a]
      exact Ok.s ⟨rfl, T2, C2, b1, b2⟩
  intro k
  induction k with
  | zero =>
    intro n p G t l I hp hnt hn T hk C h4 a1 a2
    have hnp := I.np
    have c1 : G 2 1 = nI l.np := C.np
    match n, hn with
    | n + 1, _ =>
      unfold p_X2_readThing_b31
      rw [c1, if_pos (nI_le (by omega) (by omega))]
      have f := fin G t l hnt T hk C h4 a1 a2
      unfold thR
      by_cases a : t.1 = 2
      · rw [if_pos a] at f ⊢; exact f
      · rw [if_neg a] at f ⊢; exact f
  | succ k ih =>
    intro n p G t l I hp hnt hn T hk C h4 a1 a2
    have hnp := I.np
    have c1 : G 2 1 = nI l.np := C.np
    have t5 : G 0 5 = ck t.1 := T.2.2.1
    have k3 := hk.2.2.1
    match n, hn with
    | n + 1, hn =>
      unfold p_X2_readThing_b31
      rw [c1, if_neg (nI_ge (by omega) (by omega)), t5]
      unfold thR
      by_cases a : t.1 = 2
      · rw [if_pos (by rw [ck_n _ k3]; exact a), if_pos a]
        refine c_takeK hN hlim htp (lo := 0) (hx := 1000) T hk nI_0.symm (by decide) (by decide) (by decide) ?_ ?_
        · intro c q hn2 v v1 v2 v3 _
          rw [hn2, jlt_eq, if_pos v1]
          exact Ok.s ⟨rfl, v2, v3⟩
        · intro w t2 hn2 v v1 v2 v3 v4 v5 v6
          obtain ⟨_, w2, _, hk2, _⟩ := num_inr htp hk hn2
          rw [hn2, jlt_eq, if_neg (by rw [v1]; decide), v3]
          generalize jpt G 0 2 v.2 = G3 at v2 v3 v4 v5 v6 ⊢
          have c2 : G3 2 2 = nI l.nt := by rw [v6 2 (by omega)]; exact C.nt
          rw [c2, c_setW (by omega) (by omega), Option.bind_some, jlt_eq, nI_1]
          have C3 := (C.cg (fun c _ => v6 (2 + c) (by omega))).sWo (s := l.nt) (v := nI w) (show p < 6 by omega)
          have e0 : jpt G3 2 9 (jup (jvw G3 2) 3 (l.nt * 6 + p) (nI w)) 0 = G3 0 := jpt_o (by omega)
          have e1 : jpt G3 2 9 (jup (jvw G3 2) 3 (l.nt * 6 + p) (nI w)) 1 = G3 1 := jpt_o (by omega)
          have e4 : jpt G3 2 9 (jup (jvw G3 2) 3 (l.nt * 6 + p) (nI w)) 4 = G 4 := (jpt_i (b := 2) (c := 2) (by omega)).trans ((jup_n _ _ (by decide)).trans (v6 4 (by omega)))
          exact ih n (p + 1) _ t2 (l.sWo l.nt p (nI w)) (I_wo I (nI_b (show w ≤ 999 by omega) (by decide))) (show p + 1 + k = l.np by omega) hnt (by omega) (v2.cg e0 e1) hk2 (C3.cg (fun c hc => jvw_pt (by omega))) ((congrFun e4 _).trans h4) ((congrFun e0 1).trans (v4.trans a1)) ((congrFun e0 2).trans (v5.trans a2))
      · rw [if_neg (by rw [ck_n _ k3]; exact a), if_neg a]
        have f := fin G t l hnt T hk C h4 a1 a2
        rw [if_neg a] at f
        exact f
theorem c_rd2 (hN : 2000 ≤ N) (hlim : lim ≤ 900) (htp : ∀ k, tp k < 256) (I : l.I) (hnt : l.nt < 10) (T : TC (jvw G 0) tp lim t) (hk : tkOk lim t) (C : CB (jvw G 2) l) : Ok (p_X2_readThing N G) (PC tp lim G (rd2 tp lim t l)) := by
  have hnp := I.np
  have c1 : G 2 1 = nI l.np := C.np
  unfold p_X2_readThing rd2
  rw [c1]
  refine c_takeK hN hlim htp (lo := 0) (hx := l.np) T hk nI_0.symm rfl (by decide) (by omega) ?_ ?_
  · intro c p hn v v1 v2 v3 _
    rw [hn, jlt_eq, if_pos v1]
    exact Ok.s ⟨rfl, v2, v3⟩
  · intro n t2 hn v v1 v2 v3 v4 v5 v6
    obtain ⟨_, n2, _, hk2, _⟩ := num_inr htp hk hn
    rw [hn, jlt_eq, if_neg (by rw [v1]; decide), v3]
    generalize jpt G 0 2 v.2 = G3 at v2 v3 v4 v5 v6 ⊢
    have c2 : G3 2 2 = nI l.nt := by rw [v6 2 (by omega)]; exact C.nt
    rw [c2, if_pos (jinT (by omega) (by omega)), zcl (by omega), jlt_eq]
    have C3 : CB (jvw G3 2) l := C.cg (fun c _ => v6 (2 + c) (by omega))
    have C4 : CB (jvw (jup G3 4 l.nt (nI n)) 2) l := by
      rw [jvw_up 2 2]
      refine ⟨?_, ?_, ?_, ?_, ?_, ?_, ?_, ?_, ?_, ?_, ?_, ?_⟩
      · simp (disch := omega) only [Option.bind_some, jlt_eq, ↓reduceIte, eq_self, jinT, zleT, zleF, zltT, zltF, zeq, zpos, zpos', zcl, zm6, z6, z84, z24, z14, z8, nI_add, zd0, zd1, zd2, zd3, zd4, zd5, bitI_e, bI0, bI1, jup_n]; exact C3.li
      · simp (disch := omega) only [Option.bind_some, jlt_eq, ↓reduceIte, eq_self, jinT, zleT, zleF, zltT, zltF, zeq, zpos, zpos', zcl, zm6, z6, z84, z24, z14, z8, nI_add, zd0, zd1, zd2, zd3, zd4, zd5, bitI_e, bI0, bI1, jup_n]; exact C3.np
      · simp (disch := omega) only [Option.bind_some, jlt_eq, ↓reduceIte, eq_self, jinT, zleT, zleF, zltT, zltF, zeq, zpos, zpos', zcl, zm6, z6, z84, z24, z14, z8, nI_add, zd0, zd1, zd2, zd3, zd4, zd5, bitI_e, bI0, bI1, jup_n]; exact C3.nt
      · simp (disch := omega) only [Option.bind_some, jlt_eq, ↓reduceIte, eq_self, jinT, zleT, zleF, zltT, zltF, zeq, zpos, zpos', zcl, zm6, z6, z84, z24, z14, z8, nI_add, zd0, zd1, zd2, zd3, zd4, zd5, bitI_e, bI0, bI1, jup_n]; exact C3.ea
      · simp (disch := omega) only [Option.bind_some, jlt_eq, ↓reduceIte, eq_self, jinT, zleT, zleF, zltT, zltF, zeq, zpos, zpos', zcl, zm6, z6, z84, z24, z14, z8, nI_add, zd0, zd1, zd2, zd3, zd4, zd5, bitI_e, bI0, bI1, jup_n]; exact C3.sh
      · simp (disch := omega) only [Option.bind_some, jlt_eq, ↓reduceIte, eq_self, jinT, zleT, zleF, zltT, zltF, zeq, zpos, zpos', zcl, zm6, z6, z84, z24, z14, z8, nI_add, zd0, zd1, zd2, zd3, zd4, zd5, bitI_e, bI0, bI1, jup_n]; exact C3.be
      · simp (disch := omega) only [Option.bind_some, jlt_eq, ↓reduceIte, eq_self, jinT, zleT, zleF, zltT, zltF, zeq, zpos, zpos', zcl, zm6, z6, z84, z24, z14, z8, nI_add, zd0, zd1, zd2, zd3, zd4, zd5, bitI_e, bI0, bI1, jup_n]; exact C3.y6
      · simp (disch := omega) only [Option.bind_some, jlt_eq, ↓reduceIte, eq_self, jinT, zleT, zleF, zltT, zltF, zeq, zpos, zpos', zcl, zm6, z6, z84, z24, z14, z8, nI_add, zd0, zd1, zd2, zd3, zd4, zd5, bitI_e, bI0, bI1, jup_n]; exact C3.y7
      · simp (disch := omega) only [Option.bind_some, jlt_eq, ↓reduceIte, eq_self, jinT, zleT, zleF, zltT, zltF, zeq, zpos, zpos', zcl, zm6, z6, z84, z24, z14, z8, nI_add, zd0, zd1, zd2, zd3, zd4, zd5, bitI_e, bI0, bI1, jup_n]; exact C3.y8
      · simp (disch := omega) only [Option.bind_some, jlt_eq, ↓reduceIte, eq_self, jinT, zleT, zleF, zltT, zltF, zeq, zpos, zpos', zcl, zm6, z6, z84, z24, z14, z8, nI_add, zd0, zd1, zd2, zd3, zd4, zd5, bitI_e, bI0, bI1, jup_n]; exact C3.co
      · intro s hs
        rw [jup_s, upd_n _ _ (by omega)]
        exact C3.ho s hs
      · simp (disch := omega) only [Option.bind_some, jlt_eq, ↓reduceIte, eq_self, jinT, zleT, zleF, zltT, zltF, zeq, zpos, zpos', zcl, zm6, z6, z84, z24, z14, z8, nI_add, zd0, zd1, zd2, zd3, zd4, zd5, bitI_e, bI0, bI1, jup_n]; exact C3.wo
    exact c_thR hN hlim htp (h := n) (A := G) l.np N 0 _ t2 l I (by omega) hnt (by omega) (TC.up v2 (by decide)) hk2 C4 (by rw [jup_s, upd_s]) (by rw [jup_n _ _ (by decide)]; exact v4) (by rw [jup_n _ _ (by decide)]; exact v5)
end cread

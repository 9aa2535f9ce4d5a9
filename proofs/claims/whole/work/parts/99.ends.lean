/-! the calls that ask for the end -/
section ends
variable {N : Nat} {G G2 G3 A : Nat → Nat → Int32} {J J2 B : Nat → Nat → Int64} {a : TA} {s s2 : SA} {xs : Nat → Int32} {i : Int32}
theorem jv2_lw {α : Type} {G : Nat → α} {b n t c : Nat} (h : c < n) : jv2 G b n t c = G (b + c) := by
  unfold jv2
  rw [if_pos h]
theorem jv2_hg {α : Type} {G : Nat → α} {b n t c : Nat} : jv2 G b n t (n + c) = G (t + c) := by
  unfold jv2
  rw [if_neg (by omega), Nat.add_sub_cancel_left]
theorem en_lo {α : Type} {G v : Nat → α} {t c : Nat} (ht : t + 9 ≤ 24) (hc : c < 11) : jp2 G 24 11 t 9 v (24 + c) = v c := by
  unfold jp2
  rw [jpt_o (by omega)]
  exact jpt_i hc
theorem en_keep {α : Type} {G v : Nat → α} {t : Nat} (ht : t + 9 ≤ 24) (h : ∀ c, 11 ≤ c → v c = jv2 G 24 11 t c) : ∀ c, (c < 24 ∨ 35 ≤ c) → jp2 G 24 11 t 9 v c = G c := by
  intro c hc
  by_cases e : t ≤ c ∧ c < t + 9
  · obtain ⟨i, rfl⟩ : ∃ i, c = t + i := ⟨c - t, by omega⟩
    have e2 : jp2 G 24 11 t 9 v (t + i) = v (11 + i) := by
      unfold jp2
      exact jpt_i (by omega)
    rw [e2, h _ (by omega)]
    exact jv2_hg
  · unfold jp2
    rw [jpt_o (by omega), jpt_o (by omega)]
theorem en_keepJ {α : Type} {G v : Nat → α} {t : Nat} (ht : t + 9 ≤ 24) (h : ∀ c, c ≠ 9 → v c = jv2 G 24 11 t c) : ∀ c, c ≠ 33 → jp2 G 24 11 t 9 v c = G c := by
  intro c hc
  by_cases e : 24 ≤ c ∧ c < 35
  · obtain ⟨i, rfl⟩ : ∃ i, c = 24 + i := ⟨c - 24, by omega⟩
    rw [en_lo ht (by omega), h i (by omega)]
    exact jv2_lw (by omega)
  · exact en_keep ht (fun c hc => h c (by omega)) c (by omega)
/-- played, in the whole object -/
def XY (r : Nat → Nat → Int32) (j : Nat → Nat → Int64) (A : Nat → Nat → Int32) (B : Nat → Nat → Int64) (a : TA) (f T : Nat) : Prop := (∀ c, (c < 24 ∨ 35 ≤ c) → r c = A c) ∧ (∀ c, c ≠ 33 → j c = B c) ∧ (CE (jvw r 24) a f T) ∧ (r 24 0 = a.lef (a.wk f T T)) ∧ (∀ t, t < T → r 34 t = a.dx (a.chs f T t (a.wk f T t))) ∧ (∀ p, p < a.np → r 31 ((2 ^ a.dM - 1) * 6 + p) = a.vl f T T (2 ^ a.dM - 1) p)
theorem XY.k1 {r : Nat → Nat → Int32} {j : Nat → Nat → Int64} {A : Nat → Nat → Int32} {B : Nat → Nat → Int64} {a : TA} {f T : Nat} (R : XY r j A B a f T) : ∀ c, (c < 24 ∨ 35 ≤ c) → r c = A c := R.1
theorem XY.k3 {r : Nat → Nat → Int32} {j : Nat → Nat → Int64} {A : Nat → Nat → Int32} {B : Nat → Nat → Int64} {a : TA} {f T : Nat} (R : XY r j A B a f T) : ∀ c, c ≠ 33 → j c = B c := R.2.1
theorem XY.ce {r : Nat → Nat → Int32} {j : Nat → Nat → Int64} {A : Nat → Nat → Int32} {B : Nat → Nat → Int64} {a : TA} {f T : Nat} (R : XY r j A B a f T) : CE (jvw r 24) a f T := R.2.2.1
theorem XY.lf {r : Nat → Nat → Int32} {j : Nat → Nat → Int64} {A : Nat → Nat → Int32} {B : Nat → Nat → Int64} {a : TA} {f T : Nat} (R : XY r j A B a f T) : r 24 0 = a.lef (a.wk f T T) := R.2.2.2.1
theorem XY.ch {r : Nat → Nat → Int32} {j : Nat → Nat → Int64} {A : Nat → Nat → Int32} {B : Nat → Nat → Int64} {a : TA} {f T : Nat} (R : XY r j A B a f T) : ∀ t, t < T → r 34 t = a.dx (a.chs f T t (a.wk f T t)) := R.2.2.2.2.1
theorem XY.ah {r : Nat → Nat → Int32} {j : Nat → Nat → Int64} {A : Nat → Nat → Int32} {B : Nat → Nat → Int64} {a : TA} {f T : Nat} (R : XY r j A B a f T) : ∀ p, p < a.np → r 31 ((2 ^ a.dM - 1) * 6 + p) = a.vl f T T (2 ^ a.dM - 1) p := R.2.2.2.2.2
theorem en_rc {t : Nat} (R : RC (jvw G t) a) : RC (jvw (jv2 G 24 11 t) 11) a := R.cg (fun x _ => jv2_hg (c := x))
theorem x_lay (hN : 2000 ≤ N) {t : Nat} (ht : t + 9 ≤ 24) (R : RC (jvw G t) a) (I : a.I) {r f : Nat} (hr : r ≤ 2) (hf : f < 6) : Ok (p_X1_lay N (jv2 G 24 11 t) (jv2 J 24 11 t) (nI r) (nI f)) (fun v => (∀ c, (c < 24 ∨ 35 ≤ c) → jp2 G 24 11 t 9 v.2 c = G c) ∧ if a.dM ≤ 10 then v.1 = 1 ∧ CE (jvw (jp2 G 24 11 t 9 v.2) 24) a f (r * a.np) else v.1 = 0) := by
  refine (c_lay hN (en_rc R) I hr hf).c ?_
  rintro ⟨u, v⟩ ⟨h1, h2⟩
  dsimp only at h1 h2 ⊢
  refine ⟨en_keep ht h1, ?_⟩
  by_cases c : a.dM ≤ 10
  · rw [if_pos c] at h2 ⊢
    refine ⟨h2.1, h2.2.cg (fun s _ => congrFun (en_lo ht (c := 0) (by omega)) s) (fun x _ h8 _ _ _ => en_lo ht (c := x) (by omega))⟩
  · rw [if_neg c] at h2 ⊢
    exact h2
theorem x_play (hN : 2000 ≤ N) {t : Nat} (ht : t + 9 ≤ 24) (R : RC (jvw G t) a) (I : a.I) {f T : Nat} (C : CE (jvw G 24) a f T) : Ok (p_X1_play N (jv2 G 24 11 t) (jv2 J 24 11 t)) (fun v => XY (jp2 G 24 11 t 9 v.1) (jp2 J 24 11 t 9 v.2) G J a f T) := by
  have C2 : CE (jv2 G 24 11 t) a f T := C.cg (fun s _ => congrFun (jv2_lw (b := 24) (c := 0) (by omega)) s) (fun x _ h8 _ _ _ => jv2_lw (b := 24) (c := x) (by omega))
  refine (c_play (B := jv2 J 24 11 t) hN I (en_rc R) C2).c ?_
  rintro ⟨u, v⟩ Y
  dsimp only at Y ⊢
  refine ⟨en_keep ht Y.k1, en_keepJ ht Y.k3, ?_, ?_, ?_, ?_⟩
  · exact Y.ce.cg (fun s _ => congrFun (en_lo ht (c := 0) (by omega)) s) (fun x _ h8 _ _ _ => en_lo ht (c := x) (by omega))
  · exact (congrFun (en_lo ht (c := 0) (by omega)) 0).trans Y.lf
  · intro t2 h2
    exact (congrFun (en_lo ht (c := 10) (by omega)) t2).trans (Y.ch t2 h2)
  · intro p hp
    exact (congrFun (en_lo ht (c := 7) (by omega)) _).trans (Y.ah p hp)
/-- laid, and played if it can be -/
theorem x_lp (hN : 2000 ≤ N) {t : Nat} (ht : t + 9 ≤ 24) (R : RC (jvw G t) a) (I : a.I) {r f : Nat} (hr : r ≤ 2) (hf : f < 6) {rr ff : Int32} (er : rr = nI r) (ef : ff = nI f) {β : Type} {F1 : (Nat → Nat → Int32) → Option β} {F2 : (Nat → Nat → Int32) → (Nat → Nat → Int64) → Option β} {P : β → Prop} (h1 : ¬ a.dM ≤ 10 → ∀ G3, (∀ c, (c < 24 ∨ 35 ≤ c) → G3 c = G c) → Ok (F1 G3) P) (h2 : a.dM ≤ 10 → ∀ G7 J9, XY G7 J9 G J a f (r * a.np) → Ok (F2 G7 J9) P) : Ok ((p_X1_lay N (jv2 G 24 11 t) (jv2 J 24 11 t) rr ff).bind (fun v2 => jlt (jp2 G 24 11 t 9 v2.2) fun G3 => if v2.1 = 0 then F1 G3 else ((p_X1_play N (jv2 G3 24 11 t) (jv2 J 24 11 t)).bind (fun v6 => jlt (jp2 G3 24 11 t 9 v6.1) fun G7 => jlt (jp2 J 24 11 t 9 v6.2) fun J9 => F2 G7 J9)))) P := by
  subst er
  subst ef
  refine Ok.b (x_lay hN ht R I hr hf) ?_
  rintro ⟨u, v⟩ ⟨g1, g2⟩
  rw [jlt_eq]
  dsimp only at g1 g2 ⊢
  generalize jp2 G 24 11 t 9 v = G3 at g1 g2 ⊢
  by_cases c : a.dM ≤ 10
  · rw [if_pos c] at g2
    rw [if_neg (by rw [g2.1]; decide)]
    have R3 : RC (jvw G3 t) a := R.cg (fun x hx => g1 (t + x) (by omega))
    refine Ok.b (x_play (J := J) hN ht R3 I g2.2) ?_
    rintro ⟨u2, v2⟩ Y
    rw [jlt_eq, jlt_eq]
    exact h2 c _ _ ⟨fun c hc => (Y.k1 c hc).trans (g1 c hc), Y.k3, Y.ce, Y.lf, Y.ch, Y.ah⟩
  · rw [if_neg c] at g2
    rw [if_pos g2]
    exact h1 c G3 g1
theorem CX.e (X : CX G J s) (h : ∀ c, (c < 10 ∨ 20 ≤ c ∧ c < 24 ∨ 35 ≤ c) → G2 c = G c) (hJ : ∀ c, c ≠ 33 → J2 c = J c) : CX G2 J2 s := by
  refine ⟨X.now.cg (fun c hc => h (1 + c) (by omega)), ?_, ?_, ?_, ?_, ?_, ?_, ?_, ?_⟩
  · intro i hi; rw [h 20 (by omega)]; exact X.imB i hi
  · intro i b hi hb
    exact (X.imR i b hi hb).cg (fun c hc => h (35 + 9 * i + c) (by omega))
  · rw [h 22 (by omega)]; exact X.ln
  · rw [h 22 (by omega)]; exact X.wr
  · rw [h 22 (by omega)]; exact X.pl
  · intro k hk; rw [h 23 (by omega)]; exact X.tp k hk
  · intro i hi hn; rw [h (62 + 2 * i) (by omega)]; exact X.trN i hi hn
  · intro i so m r hi hn
    rw [h (62 + 2 * i) (by omega), hJ (62 + 2 * i + 1) (by omega)]; exact X.trS i so m r hi hn
theorem XY.cx {f T : Nat} (Y : XY G2 J2 G J a f T) (X : CX G J s) : CX G2 J2 s := X.e (fun c hc => Y.k1 c (by omega)) Y.k3
/-- a call that may throw, of a class that it changes, longs too -/
theorem k_E (hL : LR G J s) {o : Option (Nat ⊕ (Int32 × (Nat → Nat → Int32) × (Nat → Nat → Int64)))} {cf : Nat → Option (Int32 × (Nat → Nat → Int32) × (Nat → Nat → Int64))} {m : (Nat → Nat → Int32) → (Nat → Nat → Int64) → Option (Int32 × (Nat → Nat → Int32))} (k v : Int32) (s2 : SA) (hI : s2.I) (h : (∃ G1 J1, o = some (.inr (v, G1, J1)) ∧ k = 0 ∧ CX G1 J1 s2) ∨ ∃ c, o = some (.inl c) ∧ k ≠ 0 ∧ cf c = some (k, jv2 G 0 70 85, jv2 J 0 70 85) ∧ s2 = s) (hm : ∀ g j, CM g j s → Ok (m g j) (fun r => (k = 0 → r.1 = v) ∧ r.2 0 5 = k ∧ CM r.2 j s2)) : Ok ((jbh o (fun v1 => jlt (jupL (jpt (jv2 J 0 70 85) 0 70 v1.2.2) 70 0 (v1.1.toInt64)) fun J1 => some ((0 : Int32), (jpt (jv2 G 0 70 85) 0 70 v1.2.1), J1)) cf).bind (fun v1 => jlt (jp2 G 0 70 85 1 v1.2.1) fun G3 => jlt (jp2 J 0 70 85 1 v1.2.2) fun J5 => (m (jvw G3 70) (jvw J5 70)).bind (fun v7 => jlt (jpt G3 70 15 v7.2) fun G9 => (p_X6_thrown N (jvw G9 70) (jvw J5 70)).bind (fun v11 => if v11 = v1.1 then (if v1.1 = 0 then (if (lg_cmp (J5 85 0) (v7.1.toInt64)) = 0 then (some (G9, J5)) else (none)) else (some (G9, J5))) else (none))))) (fun r => ∃ s, LR r.1 r.2 s) := by
  obtain ⟨hX, hM, hI0⟩ := hL
  have go : ∀ G1 J1, CX (jvw G1 0) (jvw J1 0) s2 → (k = 0 → J1 70 0 = v.toInt64) → Ok ((some (k, G1, J1)).bind (fun v1 => jlt (jp2 G 0 70 85 1 v1.2.1) fun G3 => jlt (jp2 J 0 70 85 1 v1.2.2) fun J5 => (m (jvw G3 70) (jvw J5 70)).bind (fun v7 => jlt (jpt G3 70 15 v7.2) fun G9 => (p_X6_thrown N (jvw G9 70) (jvw J5 70)).bind (fun v11 => if v11 = v1.1 then (if v1.1 = 0 then (if (lg_cmp (J5 85 0) (v7.1.toInt64)) = 0 then (some (G9, J5)) else (none)) else (some (G9, J5))) else (none))))) (fun r => ∃ s, LR r.1 r.2 s) := by
    intro G1 J1 h1 h2
    rw [Option.bind_some, jlt_eq, jlt_eq]
    refine k_B (s2 := s2) (v := v) (h1.cg (fun c hc => ?_) (fun c hc => ?_)) hI (fun h4 => ?_) ?_
    · exact (jp2_a (c := 0 + c) (by omega))
    · exact (jp2_a (c := 0 + c) (by omega))
    · rw [jp2_c]; exact h2 h4
    · exact hm _ _ (hM.cg (fun c hc => jp2_b (c := 70 + c) (by omega) (by omega)) (jp2_b (c := 84) (by omega) (by omega)))
  rcases h with ⟨G1, J1, h1, h2, h3⟩ | ⟨c, h1, h2, h3, h4⟩
  · rw [h1]
    subst h2
    refine go (jpt (jv2 G 0 70 85) 0 70 G1) (jupL (jpt (jv2 J 0 70 85) 0 70 J1) 70 0 v.toInt64) (h3.cg (fun c hc => ?_) (fun c hc => ?_)) ?_
    · exact jpt_i (b := 0) hc
    · show jupL _ 70 0 _ (0 + c) = J1 c
      rw [jupL_n _ _ (by omega)]
      exact jpt_i (b := 0) hc
    · intro _
      rw [jupL_s]; exact pk_uLs
  · rw [h1]
    show Ok ((cf c).bind _) _
    rw [h3]
    subst h4
    exact go _ _ hX.w (fun h5 => absurd h5 h2)
theorem FX.km (F : FX A G) : KM A G := ⟨fun i hi => F.2 i (by omega), fun c hc => F.1 c (by omega) (by omega)⟩
theorem mb_fx {g : Nat → Nat → Int32} {j : Nat → Nat → Int64} (M : CM g j s) (F : FX (jup g 0 5 0) G) {w v : Int32} (h : w = v) : ((0 : Int32) = 0 → w = v) ∧ G 0 5 = 0 ∧ CM G j s :=
  ⟨fun _ => h, by rw [F.2 5 (by omega), e05], M.k (by rw [F.1 1 (by decide) (by omega)]; exact thrR M.now 0) ((KM.thr 0).trans F.km) rfl (SA.eta s)⟩
theorem mb_fail {g : Nat → Nat → Int32} {j : Nat → Nat → Int64} (M : CM g j s) (x : Int32) {k w v : Int32} (hk : k ≠ 0) : (k = 0 → w = v) ∧ jup (jup g 0 5 x) 0 5 k 0 5 = k ∧ CM (jup (jup g 0 5 x) 0 5 k) j s :=
  ⟨fun h => absurd h hk, e05 k, M.k (thrR (thrR M.now x) k) ((KM.thr x).trans (KM.thr k)) rfl (SA.eta s)⟩
theorem mb_fail1 {g : Nat → Nat → Int32} {j : Nat → Nat → Int64} (M : CM g j s) {k w v : Int32} (hk : k ≠ 0) : (k = 0 → w = v) ∧ jup g 0 5 k 0 5 = k ∧ CM (jup g 0 5 k) j s :=
  ⟨fun h => absurd h hk, e05 k, M.k (thrR M.now k) (KM.thr k) rfl (SA.eta s)⟩
/-- endFrom -/
def TA.leA (a : TA) (p : Nat) : Int32 := if a.dM ≤ 10 then a.lef (a.wk p (1 * a.np) (1 * a.np)) else -100000
theorem nI1 : (1 : Int32) = nI 1 := by decide
theorem nI0 : (0 : Int32) = nI 0 := by decide
theorem x_left1 (hN : 2000 ≤ N) (R : RC (jvw G 1) a) (I : a.I) {p : Nat} (hp : p < 6) : Ok (p_X5_leftIn_1 N G J (nI p)) (fun r => r.1 = a.leA p ∧ (∀ c, (c < 24 ∨ 35 ≤ c) → r.2.1 c = G c) ∧ ∀ c, c ≠ 33 → r.2.2 c = J c) := by
  unfold p_X5_leftIn_1
  refine x_lp hN (by decide) R I (r := 1) (by decide) hp nI1 rfl ?_ ?_
  · intro c G3 g
    refine Ok.s ⟨?_, g, fun _ _ => rfl⟩
    unfold TA.leA
    rw [if_neg c]
  · intro c G7 J9 Y
    refine Ok.s ⟨?_, Y.k1, Y.k3⟩
    unfold TA.leA
    rw [if_pos c]
    exact Y.lf
theorem x_left10 (hN : 2000 ≤ N) (R : RC (jvw G 10) a) (I : a.I) {p : Nat} {pp : Int32} (hp : p < 6) (ep : pp = nI p) : Ok (p_X5_leftIn_10 N G J pp) (fun r => r.1 = a.leA p ∧ (∀ c, (c < 24 ∨ 35 ≤ c) → r.2.1 c = G c) ∧ ∀ c, c ≠ 33 → r.2.2 c = J c) := by
  unfold p_X5_leftIn_10
  refine x_lp hN (by decide) R I (r := 1) (by decide) hp nI1 ep ?_ ?_
  · intro c G3 g
    refine Ok.s ⟨?_, g, fun _ _ => rfl⟩
    unfold TA.leA
    rw [if_neg c]
  · intro c G7 J9 Y
    refine Ok.s ⟨?_, Y.k1, Y.k3⟩
    unfold TA.leA
    rw [if_pos c]
    exact Y.lf
theorem x_endFrom (hN : 2000 ≤ N) (X : CX G J s) (I : s.I) {p : Nat} (hp : p < s.now.np) : Ok (p_X5_endFrom N G J (nI p)) (fun o => ∃ G1 J1, o = .inr (s.now.leA p, G1, J1) ∧ CX G1 J1 s) := by
  have := I.now.np
  unfold p_X5_endFrom
  rw [x_needP X.now I.now hp, jbx_r]
  refine Ok.b (x_left1 hN X.now I.now (by omega)) ?_
  rintro ⟨w, g, j⟩ ⟨h1, h2, h3⟩
  rw [jlt_eq, jlt_eq]
  dsimp only at h1 h2 h3 ⊢
  exact Ok.s ⟨g, j, by rw [h1], X.e (fun c hc => h2 c (by omega)) h3⟩
theorem m_fromE (hN : 2000 ≤ N) (R : RM (G 1) a) (I : a.I) {f r : Nat} (hr : r ≤ 2) (hf : f < 6) {rr ff : Int32} (er : rr = nI r) (ef : ff = nI f) : Ok (p_X6_laysFrom N G J rr ff) (fun o => FX G o.2 ∧ if a.dM ≤ 10 then o.1 = 1 ∧ ML o.2 a f (r * a.np) else o.1 = 0) := by
  subst er
  subst ef
  exact m_from hN R I hr hf
theorem m_endE (hN : 2000 ≤ N) (R : RM (G 1) a) (I : a.I) {r : Nat} (hr : r ≤ 2) {rr : Int32} (er : rr = nI r) : Ok (p_X6_laysEnd N G J rr) (fun o => FX G o.2 ∧ if a.dM ≤ 10 then o.1 = 1 ∧ ML o.2 a 0 (r * a.np) else o.1 = 0) := by
  subst er
  exact m_end hN R I hr
theorem case_30 (hN : 2000 ≤ N) (hL : LR G J s) : Ok (p_case_30 N xs G J i) (fun r => ∃ s, LR r.1 r.2 s) := by
  have X := hL.1.w
  have I := hL.2.2.now
  unfold p_case_30 p_L_endFrom
  generalize xs (i + 1).toNatClampNeg = x
  by_cases hx : ∃ p, p < s.now.np ∧ x = nI p
  · obtain ⟨p, hp, rfl⟩ := hx
    have hnp := I.np
    obtain ⟨o, f1, G1, J1, f2, f3⟩ := x_endFrom hN X hL.2.2 hp
    refine k_E hL (m := fun g j => p_X6_endFrom N g j (nI p)) 0 (s.now.leA p) s hL.2.2 (Or.inl ⟨G1, J1, ?_, rfl, f3⟩) ?_
    · rw [f1, f2]
    · intro g j M
      unfold p_X6_endFrom
      rw [jlt_eq, m_isPt (thrR M.now 0) I hp, Option.bind_some, if_neg i10]
      refine Ok.b (m_fromE hN (thrR M.now 0) I (r := 1) (by decide) (show p < 6 by omega) nI1 rfl) ?_
      rintro ⟨u, g2⟩ ⟨F, h⟩
      rw [jlt_eq]
      dsimp only at F h ⊢
      unfold TA.leA
      by_cases c : s.now.dM ≤ 10
      · rw [if_pos c] at h ⊢
        rw [if_neg (by rw [h.1]; decide), m_standIn hN h.2, Option.bind_some]
        exact Ok.s (mb_fx M F rfl)
      · rw [if_neg c] at h ⊢
        rw [if_pos h]
        exact Ok.s (mb_fx M F rfl)
  · refine k_E hL (m := fun g j => p_X6_endFrom N g j x) 1 0 s hL.2.2 (Or.inr ⟨1, ?_, by decide, rfl, rfl⟩) ?_
    · unfold p_X5_endFrom
      rw [x_needPf X.now I hx, jbx_l]
    · intro g j M
      unfold p_X6_endFrom p_X6_fails
      rw [jlt_eq, m_isPf (thrR M.now 0) I hx, Option.bind_some, if_pos rfl, jlt_eq, Option.bind_some, jlt_eq]
      exact Ok.s (mb_fail M 0 (by decide))
/-- ringer -/
def TA.riA (a : TA) (p : Nat) : Int32 := if a.dM ≤ 10 then -(a.vl 0 (1 * a.np) (1 * a.np) (2 ^ a.dM - 1) p) else -100000
theorem x_change {f T p : Nat} (Y : XY G2 J2 G J a f T) (hnp : a.np ≤ 6) (hp : p < a.np) : p_X1_change N (jvw G2 24) (jvw J2 24) (nI p) = some (a.vl f T T (2 ^ a.dM - 1) p) := by
  have hm := Y.ce.mx
  have hpw : 2 ^ a.dM ≤ 1024 := show 2 ^ a.dM ≤ 2 ^ 10 from Nat.pow_le_pow_right (by omega) hm
  have p0 := Nat.two_pow_pos a.dM
  have ah : jvw G2 24 7 ((2 ^ a.dM - 1) * 6 + p) = a.vl f T T (2 ^ a.dM - 1) p := Y.ah p hp
  unfold p_X1_change p_X1_whole
  rw [Y.ce.ly.mm, bitI_e, bit_pow _ hm, Option.bind_some, nI_w, zm6, if_pos (jinT (by omega) (by omega)), zcl (by omega), ah]
theorem x_ringer (hN : 2000 ≤ N) (X : CX G J s) (I : s.I) {p : Nat} (hp : p < s.now.np) : Ok (p_X5_ringer N G J (nI p)) (fun o => ∃ G1 J1, o = .inr (s.now.riA p, G1, J1) ∧ CX G1 J1 s) := by
  have hnp := I.now.np
  unfold p_X5_ringer
  rw [x_needP X.now I.now hp, jbx_r]
  refine x_lp hN (by decide) X.now I.now (r := 1) (f := 0) (by decide) (by decide) nI1 nI0 ?_ ?_
  · intro c G3 g
    refine Ok.s ⟨G3, J, ?_, X.e (fun c hc => g c (by omega)) (fun _ _ => rfl)⟩
    unfold TA.riA
    rw [if_neg c]
  · intro c G7 J9 Y
    rw [x_change Y hnp hp, Option.bind_some]
    refine Ok.s ⟨G7, J9, ?_, Y.cx X⟩
    unfold TA.riA
    rw [if_pos c]
theorem case_32 (hN : 2000 ≤ N) (hL : LR G J s) : Ok (p_case_32 N xs G J i) (fun r => ∃ s, LR r.1 r.2 s) := by
  have X := hL.1.w
  have I := hL.2.2.now
  unfold p_case_32 p_L_ringer
  generalize xs (i + 1).toNatClampNeg = x
  by_cases hx : ∃ p, p < s.now.np ∧ x = nI p
  · obtain ⟨p, hp, rfl⟩ := hx
    have hnp := I.np
    obtain ⟨o, f1, G1, J1, f2, f3⟩ := x_ringer hN X hL.2.2 hp
    refine k_E hL (m := fun g j => p_X6_ringer N g j (nI p)) 0 (s.now.riA p) s hL.2.2 (Or.inl ⟨G1, J1, ?_, rfl, f3⟩) ?_
    · rw [f1, f2]
    · intro g j M
      unfold p_X6_ringer
      rw [jlt_eq, m_isPt (thrR M.now 0) I hp, Option.bind_some, if_neg i10]
      refine Ok.b (m_endE hN (thrR M.now 0) I (r := 1) (by decide) nI1) ?_
      rintro ⟨u, g2⟩ ⟨F, h⟩
      rw [jlt_eq]
      dsimp only at F h ⊢
      unfold TA.riA
      by_cases c : s.now.dM ≤ 10
      · rw [if_pos c] at h ⊢
        rw [if_neg (by rw [h.1]; decide), m_wealth hN h.2.md.m I hp, Option.bind_some, m_wealthIn hN h.2 hp, Option.bind_some]
        refine Ok.s (mb_fx M F ?_)
        grind
      · rw [if_neg c] at h ⊢
        rw [if_pos h]
        exact Ok.s (mb_fx M F rfl)
  · refine k_E hL (m := fun g j => p_X6_ringer N g j x) 1 0 s hL.2.2 (Or.inr ⟨1, ?_, by decide, rfl, rfl⟩) ?_
    · unfold p_X5_ringer
      rw [x_needPf X.now I hx, jbx_l]
    · intro g j M
      unfold p_X6_ringer p_X6_fails
      rw [jlt_eq, m_isPf (thrR M.now 0) I hx, Option.bind_some, if_pos rfl, jlt_eq, Option.bind_some, jlt_eq]
      exact Ok.s (mb_fail M 0 (by decide))
end ends

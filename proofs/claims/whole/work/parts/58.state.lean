/-! the whole state, and how a call of the law is closed -/
def SA : Type := (TA) × (Nat → Option TA) × (Nat → Nat) × (Nat) × (Int32) × (Int32) × (Nat → Option (Nat × Nat × (Nat → Int64)))
def SA.mk (now : TA) (im : Nat → Option TA) (tp : Nat → Nat) (ln : Nat) (wr : Int32) (pl : Int32) (tr : Nat → Option (Nat × Nat × (Nat → Int64))) : SA := (now, im, tp, ln, wr, pl, tr)
def SA.now (a : SA) : TA := a.1
def SA.im (a : SA) : Nat → Option TA := a.2.1
def SA.tp (a : SA) : Nat → Nat := a.2.2.1
def SA.ln (a : SA) : Nat := a.2.2.2.1
def SA.wr (a : SA) : Int32 := a.2.2.2.2.1
def SA.pl (a : SA) : Int32 := a.2.2.2.2.2.1
def SA.tr (a : SA) : Nat → Option (Nat × Nat × (Nat → Int64)) := a.2.2.2.2.2.2
def SA.I (s : SA) : Prop := (s.now.I) ∧ (∀ i a, s.im i = some a → a.I) ∧ (s.ln ≤ 900) ∧ (∀ k, s.tp k < 256) ∧ (∀ i so m r, s.tr i = some (so, m, r) → so < 4 ∧ m ≤ 40)
theorem SA.I.now {s : SA} (R : SA.I s) : s.now.I := R.1
theorem SA.I.im {s : SA} (R : SA.I s) : ∀ i a, s.im i = some a → a.I := R.2.1
theorem SA.I.ln {s : SA} (R : SA.I s) : s.ln ≤ 900 := R.2.2.1
theorem SA.I.tp {s : SA} (R : SA.I s) : ∀ k, s.tp k < 256 := R.2.2.2.1
theorem SA.I.tr {s : SA} (R : SA.I s) : ∀ i so m r, s.tr i = some (so, m, r) → so < 4 ∧ m ≤ 40 := R.2.2.2.2
def CX (G : Nat → Nat → Int32) (J : Nat → Nat → Int64) (s : SA) : Prop := (RC (jvw G 1) s.now) ∧ (∀ i, i < 3 → G 20 i = bI (s.im i).isSome) ∧ (∀ i a, i < 3 → s.im i = some a → RC (jvw G (35 + 9 * i)) a) ∧ (G 22 0 = nI s.ln) ∧ (G 22 1 = s.wr) ∧ (G 22 2 = s.pl) ∧ (∀ k, k < s.ln → G 23 k = (nI (s.tp k)).toInt8.toInt32) ∧ (∀ i, i < 4 → s.tr i = none → G (62 + 2 * i) 0 = 1) ∧ (∀ i so m r, i < 4 → s.tr i = some (so, m, r) → G (62 + 2 * i) 0 = 0 ∧ G (62 + 2 * i) 1 = nI m ∧ G (62 + 2 * i) 3 = nI so ∧ ∀ k, k < 40 → J (62 + 2 * i + 1) k = r k)
theorem CX.now {G : Nat → Nat → Int32} {J : Nat → Nat → Int64} {s : SA} (R : CX G J s) : RC (jvw G 1) s.now := R.1
theorem CX.imB {G : Nat → Nat → Int32} {J : Nat → Nat → Int64} {s : SA} (R : CX G J s) : ∀ i, i < 3 → G 20 i = bI (s.im i).isSome := R.2.1
theorem CX.imR {G : Nat → Nat → Int32} {J : Nat → Nat → Int64} {s : SA} (R : CX G J s) : ∀ i a, i < 3 → s.im i = some a → RC (jvw G (35 + 9 * i)) a := R.2.2.1
theorem CX.ln {G : Nat → Nat → Int32} {J : Nat → Nat → Int64} {s : SA} (R : CX G J s) : G 22 0 = nI s.ln := R.2.2.2.1
theorem CX.wr {G : Nat → Nat → Int32} {J : Nat → Nat → Int64} {s : SA} (R : CX G J s) : G 22 1 = s.wr := R.2.2.2.2.1
theorem CX.pl {G : Nat → Nat → Int32} {J : Nat → Nat → Int64} {s : SA} (R : CX G J s) : G 22 2 = s.pl := R.2.2.2.2.2.1
theorem CX.tp {G : Nat → Nat → Int32} {J : Nat → Nat → Int64} {s : SA} (R : CX G J s) : ∀ k, k < s.ln → G 23 k = (nI (s.tp k)).toInt8.toInt32 := R.2.2.2.2.2.2.1
theorem CX.trN {G : Nat → Nat → Int32} {J : Nat → Nat → Int64} {s : SA} (R : CX G J s) : ∀ i, i < 4 → s.tr i = none → G (62 + 2 * i) 0 = 1 := R.2.2.2.2.2.2.2.1
theorem CX.trS {G : Nat → Nat → Int32} {J : Nat → Nat → Int64} {s : SA} (R : CX G J s) : ∀ i so m r, i < 4 → s.tr i = some (so, m, r) → G (62 + 2 * i) 0 = 0 ∧ G (62 + 2 * i) 1 = nI m ∧ G (62 + 2 * i) 3 = nI so ∧ ∀ k, k < 40 → J (62 + 2 * i + 1) k = r k := R.2.2.2.2.2.2.2.2
def CM (G : Nat → Nat → Int32) (J : Nat → Nat → Int64) (s : SA) : Prop := (RM (G 1) s.now) ∧ (∀ i, i < 3 → G 5 i = bI (s.im i).isSome) ∧ (∀ i a, i < 3 → s.im i = some a → RM (fun k => G 4 (264 * i + k)) a) ∧ (G 0 7 = nI s.ln) ∧ (G 0 15 = s.wr) ∧ (G 0 16 = s.pl) ∧ (∀ k, k < s.ln → G 6 k = nI (s.tp k)) ∧ (∀ i, i < 4 → s.tr i = none → G 12 i = -1) ∧ (∀ i so m r, i < 4 → s.tr i = some (so, m, r) → G 12 i = nI so ∧ G 13 i = nI m ∧ ∀ k, k < 40 → J 14 (40 * i + k) = r k)
theorem CM.now {G : Nat → Nat → Int32} {J : Nat → Nat → Int64} {s : SA} (R : CM G J s) : RM (G 1) s.now := R.1
theorem CM.imB {G : Nat → Nat → Int32} {J : Nat → Nat → Int64} {s : SA} (R : CM G J s) : ∀ i, i < 3 → G 5 i = bI (s.im i).isSome := R.2.1
theorem CM.imR {G : Nat → Nat → Int32} {J : Nat → Nat → Int64} {s : SA} (R : CM G J s) : ∀ i a, i < 3 → s.im i = some a → RM (fun k => G 4 (264 * i + k)) a := R.2.2.1
theorem CM.ln {G : Nat → Nat → Int32} {J : Nat → Nat → Int64} {s : SA} (R : CM G J s) : G 0 7 = nI s.ln := R.2.2.2.1
theorem CM.wr {G : Nat → Nat → Int32} {J : Nat → Nat → Int64} {s : SA} (R : CM G J s) : G 0 15 = s.wr := R.2.2.2.2.1
theorem CM.pl {G : Nat → Nat → Int32} {J : Nat → Nat → Int64} {s : SA} (R : CM G J s) : G 0 16 = s.pl := R.2.2.2.2.2.1
theorem CM.tp {G : Nat → Nat → Int32} {J : Nat → Nat → Int64} {s : SA} (R : CM G J s) : ∀ k, k < s.ln → G 6 k = nI (s.tp k) := R.2.2.2.2.2.2.1
theorem CM.trN {G : Nat → Nat → Int32} {J : Nat → Nat → Int64} {s : SA} (R : CM G J s) : ∀ i, i < 4 → s.tr i = none → G 12 i = -1 := R.2.2.2.2.2.2.2.1
theorem CM.trS {G : Nat → Nat → Int32} {J : Nat → Nat → Int64} {s : SA} (R : CM G J s) : ∀ i so m r, i < 4 → s.tr i = some (so, m, r) → G 12 i = nI so ∧ G 13 i = nI m ∧ ∀ k, k < 40 → J 14 (40 * i + k) = r k := R.2.2.2.2.2.2.2.2
def LR (G : Nat → Nat → Int32) (J : Nat → Nat → Int64) (s : SA) : Prop := CX (jvw G 0) (jvw J 0) s ∧ CM (jvw G 70) (jvw J 70) s ∧ s.I
section state
variable {N : Nat} {G G2 G3 : Nat → Nat → Int32} {J J2 J3 : Nat → Nat → Int64} {a : TA} {s s2 : SA}
theorem RC.cg {g g2 : Nat → Nat → Int32} (R : RC g a) (h : ∀ c, c < 9 → g2 c = g c) : RC g2 a := by
  have h0 := h 0 (by omega)
  have h1 := h 1 (by omega)
  have h2 := h 2 (by omega)
  have h3 := h 3 (by omega)
  have h4 := h 4 (by omega)
  have h5 := h 5 (by omega)
  have h6 := h 6 (by omega)
  have h7 := h 7 (by omega)
  have h8 := h 8 (by omega)
  exact ⟨by rw [h0]; exact R.li, by rw [h0]; exact R.np, by rw [h0]; exact R.nt, by rw [h0]; exact R.ea, by rw [h0]; exact R.sh, by rw [h0]; exact R.be, by rw [h0]; exact R.mi, by rw [h0]; exact R.nd, by rw [h0]; exact R.st, by rw [h1]; exact R.co, by rw [h2]; exact R.ho, by rw [h3]; exact R.wo, by rw [h4]; exact R.th, by rw [h5]; exact R.gi, by rw [h6]; exact R.ta, by rw [h7]; exact R.pr, by rw [h8]; exact R.wh⟩
/-- what the class's part rests on, the town now aside -/
def KX (G G2 : Nat → Nat → Int32) : Prop := (∀ i, i < 3 → G2 22 i = G 22 i) ∧ ∀ c, (c = 20 ∨ c = 23 ∨ 35 ≤ c ∧ c < 70) → G2 c = G c
theorem CX.k (X : CX G J s) (R : RC (jvw G2 1) a) (K : KX G G2) (hJ : ∀ c, c < 70 → J2 c = J c) (hs : s2 = SA.mk a s.im s.tp s.ln s.wr s.pl s.tr) : CX G2 J2 s2 := by
  subst hs
  have k20 := K.2 20 (by omega)
  have k23 := K.2 23 (by omega)
  refine ⟨R, ?_, ?_, ?_, ?_, ?_, ?_, ?_, ?_⟩
  · intro i hi; rw [k20]; exact X.imB i hi
  · intro i b hi hb
    refine (X.imR i b hi hb).cg (fun c hc => ?_)
    exact K.2 (35 + 9 * i + c) (by omega)
  · rw [K.1 0 (by omega)]; exact X.ln
  · rw [K.1 1 (by omega)]; exact X.wr
  · rw [K.1 2 (by omega)]; exact X.pl
  · intro k hk; rw [k23]; exact X.tp k hk
  · intro i hi hn; rw [K.2 (62 + 2 * i) (by omega)]; exact X.trN i hi hn
  · intro i so m r hi hn
    rw [K.2 (62 + 2 * i) (by omega), hJ (62 + 2 * i + 1) (by omega)]; exact X.trS i so m r hi hn
theorem SA.eta (s : SA) : s = SA.mk s.now s.im s.tp s.ln s.wr s.pl s.tr := rfl
theorem CX.cg (X : CX G J s) (h : ∀ c, c < 70 → G2 c = G c) (hJ : ∀ c, c < 70 → J2 c = J c) : CX G2 J2 s :=
  X.k (X.now.cg (fun c hc => h (1 + c) (by omega))) ⟨fun i _ => by rw [h 22 (by omega)], fun c hc => h c (by omega)⟩ hJ (SA.eta s)
/-- the same of the reference's -/
def KM (G G2 : Nat → Nat → Int32) : Prop := (∀ i, (i = 7 ∨ i = 15 ∨ i = 16) → G2 0 i = G 0 i) ∧ ∀ c, (c = 4 ∨ c = 5 ∨ c = 6 ∨ c = 12 ∨ c = 13) → G2 c = G c
theorem KM.refl : KM G G := ⟨fun _ _ => rfl, fun _ _ => rfl⟩
theorem KM.trans (h : KM G G2) (h2 : KM G2 G3) : KM G G3 := ⟨fun i hi => (h2.1 i hi).trans (h.1 i hi), fun c hc => (h2.2 c hc).trans (h.2 c hc)⟩
theorem KM.thr (x : Int32) : KM G (jup G 0 5 x) := ⟨fun i hi => by rw [jup_s, upd_n _ _ (by omega)], fun c hc => jup_n _ _ (by omega)⟩
theorem KM.of13 (h : ∀ c, c ≠ 1 → c ≠ 3 → G2 c = G c) : KM G G2 := ⟨fun i _ => by rw [h 0 (by omega) (by omega)], fun c hc => h c (by omega) (by omega)⟩
theorem KM.of1 (h : ∀ c, c ≠ 1 → G2 c = G c) : KM G G2 := KM.of13 (fun c h1 _ => h c h1)
theorem CM.k (X : CM G J s) (R : RM (G2 1) a) (K : KM G G2) (hJ : J2 14 = J 14) (hs : s2 = SA.mk a s.im s.tp s.ln s.wr s.pl s.tr) : CM G2 J2 s2 := by
  subst hs
  have k4 := K.2 4 (by omega)
  have k5 := K.2 5 (by omega)
  have k6 := K.2 6 (by omega)
  have k12 := K.2 12 (by omega)
  have k13 := K.2 13 (by omega)
  refine ⟨R, ?_, ?_, ?_, ?_, ?_, ?_, ?_, ?_⟩
  · rw [k5]; exact X.imB
  · rw [k4]; exact X.imR
  · rw [K.1 7 (by omega)]; exact X.ln
  · rw [K.1 15 (by omega)]; exact X.wr
  · rw [K.1 16 (by omega)]; exact X.pl
  · rw [k6]; exact X.tp
  · rw [k12]; exact X.trN
  · rw [k12, k13, hJ]; exact X.trS
theorem CM.cg (X : CM G J s) (h : ∀ c, c < 15 → G2 c = G c) (hJ : J2 14 = J 14) : CM G2 J2 s :=
  X.k (by rw [h 1 (by omega)]; exact X.now) ⟨fun i _ => by rw [h 0 (by omega)], fun c hc => h c (by omega)⟩ hJ (SA.eta s)
theorem jpt_i {α : Type} {G G2 : Nat → α} {b n c : Nat} (h : c < n) : jpt G b n G2 (b + c) = G2 c := by
  unfold jpt
  rw [if_pos (by omega), Nat.add_sub_cancel_left]
theorem jpt_o {α : Type} {G G2 : Nat → α} {b n c : Nat} (h : c < b ∨ b + n ≤ c) : jpt G b n G2 c = G c := by
  unfold jpt
  rw [if_neg (by omega)]
/-- after the reference's call -/
theorem LR.m (hX : CX (jvw G 0) (jvw J 0) s2) (hI : s2.I) (hM : CM G2 J2 s2) (hJ : J2 14 = J 84) : LR (jpt G 70 15 G2) J s2 := by
  refine ⟨hX.cg (fun c hc => ?_) (fun _ _ => rfl), hM.cg (fun c hc => ?_) ?_, hI⟩
  · exact jpt_o (by omega)
  · exact jpt_i hc
  · exact hJ.symm
theorem k_A {v : Int32} {m : Option (Int32 × (Nat → Nat → Int32))} (hX : CX (jvw G 0) (jvw J 0) s2) (hI : s2.I) (hm : Ok m (fun r => r.1 = v ∧ CM r.2 (jvw J 70) s2)) : Ok (m.bind (fun v3 => jlt (jpt G 70 15 v3.2) fun G5 => if v = v3.1 then some (G5, J) else none)) (fun r => ∃ s, LR r.1 r.2 s) := by
  refine Ok.b hm ?_
  rintro ⟨w, G5⟩ ⟨h1, h2⟩
  rw [jlt_eq, if_pos h1.symm]
  exact Ok.s ⟨s2, LR.m hX hI h2 rfl⟩
theorem k_B {k v : Int32} {m : Option (Int32 × (Nat → Nat → Int32))} (hX : CX (jvw G 0) (jvw J 0) s2) (hI : s2.I) (hv : k = 0 → J 85 0 = v.toInt64) (hm : Ok m (fun r => (k = 0 → r.1 = v) ∧ r.2 0 5 = k ∧ CM r.2 (jvw J 70) s2)) : Ok (m.bind (fun v5 => jlt (jpt G 70 15 v5.2) fun G7 => (p_X6_thrown N (jvw G7 70) (jvw J 70)).bind (fun v9 => if v9 = k then (if k = 0 then (if (lg_cmp (J 85 0) (v5.1.toInt64)) = 0 then (some (G7, J)) else (none)) else (some (G7, J))) else (none)))) (fun r => ∃ s, LR r.1 r.2 s) := by
  refine Ok.b hm ?_
  rintro ⟨w, G5⟩ ⟨h1, h2, h3⟩
  have e : jvw (jpt G 70 15 G5) 70 0 5 = k := by
    have : jvw (jpt G 70 15 G5) 70 0 = G5 0 := jpt_i (c := 0) (by omega)
    rw [this]; exact h2
  rw [jlt_eq]
  unfold p_X6_thrown
  rw [Option.bind_some, if_pos e]
  have hL := LR.m hX hI h3 (J := J) rfl
  by_cases h : k = 0
  · have e2 : lg_cmp (J 85 0) (w.toInt64) = 0 := (lg_cmp_eq _ _).mpr (by rw [hv h, show w = v from h1 h])
    rw [if_pos h, if_pos e2]
    exact Ok.s ⟨s2, hL⟩
  · rw [if_neg h]
    exact Ok.s ⟨s2, hL⟩
/-- what a call of the reference that leaves the town comes to -/
def MB (G : Nat → Nat → Int32) (a : TA) (k v : Int32) : Int32 × (Nat → Nat → Int32) → Prop := fun r => (k = 0 → r.1 = v) ∧ r.2 0 5 = k ∧ KM G r.2 ∧ RM (r.2 1) a
theorem thrR (R : RM (G 1) a) (x : Int32) : RM (jup G 0 5 x 1) a := by rw [jup_n _ _ (by decide)]; exact R
theorem MB.o (R : RM (G 1) a) {k v w : Int32} (h : k = 0 → w = v) : MB G a k v (w, jup G 0 5 k) := ⟨h, by show jup G 0 5 k 0 5 = k; rw [jup_s, upd_s], KM.thr k, thrR R k⟩
theorem MB.f (R : RM (G 1) a) {k v w x : Int32} (h : k = 0 → w = v) : MB G a k v (w, jup (jup G 0 5 x) 0 5 k) := ⟨h, by show jup (jup G 0 5 x) 0 5 k 0 5 = k; rw [jup_s, upd_s], (KM.thr x).trans (KM.thr k), thrR (thrR R x) k⟩
theorem MB.g {k v w : Int32} (h : k = 0 → w = v) (R : RM (G2 1) a) (hG : ∀ c, c ≠ 1 → c ≠ 3 → G2 c = jup G 0 5 k c) : MB G a k v (w, G2) := ⟨h, by show G2 0 5 = k; rw [hG 0 (by decide) (by decide), jup_s, upd_s], (KM.thr k).trans (KM.of13 hG), R⟩
theorem jv2_l {c : Nat} (h : c < 70) : jv2 G 0 70 85 c = G c := by
  unfold jv2
  rw [if_pos h, Nat.zero_add]
theorem jv2_L {c : Nat} (h : c < 70) : jv2 J 0 70 85 c = J c := by
  unfold jv2
  rw [if_pos h, Nat.zero_add]
theorem CX.w (X : CX (jvw G 0) (jvw J 0) s) : CX (jvw (jv2 G 0 70 85) 0) (jvw (jv2 J 0 70 85) 0) s := by
  refine X.cg (fun c hc => ?_) (fun c hc => ?_)
  · show jv2 G 0 70 85 (0 + c) = G (0 + c)
    rw [Nat.zero_add]; exact jv2_l hc
  · show jv2 J 0 70 85 (0 + c) = J (0 + c)
    rw [Nat.zero_add]; exact jv2_L hc
/-- a call that may throw, of a class that it leaves as it is -/
theorem k_L (hL : LR G J s) {o : Option (Nat ⊕ Int32)} {cf : Nat → Option (Int32 × (Nat → Nat → Int64))} {m : (Nat → Nat → Int64) → Option (Int32 × (Nat → Nat → Int32))} (k v : Int32) (h : (o = some (.inr v) ∧ k = 0) ∨ ∃ c, o = some (.inl c) ∧ k ≠ 0 ∧ cf c = some (k, jv2 J 0 70 85)) (hm : ∀ J3, Ok (m J3) (MB (jvw G 70) s.now k v)) : Ok ((jbh o (fun v1 => jlt (jupL (jv2 J 0 70 85) 70 0 (v1.toInt64)) fun J1 => some ((0 : Int32), J1)) cf).bind (fun v1 => jlt (jp2 J 0 70 85 1 v1.2) fun J3 => (m J3).bind (fun v5 => jlt (jpt G 70 15 v5.2) fun G7 => (p_X6_thrown N (jvw G7 70) (jvw J3 70)).bind (fun v9 => if v9 = v1.1 then (if v1.1 = 0 then (if (lg_cmp (J3 85 0) (v5.1.toInt64)) = 0 then (some (G7, J3)) else (none)) else (some (G7, J3))) else (none))))) (fun r => ∃ s, LR r.1 r.2 s) := by
  obtain ⟨hX, hM, hI⟩ := hL
  have go : ∀ J1, (∀ c, c < 70 → J1 c = J c) → (k = 0 → J1 70 0 = v.toInt64) → Ok ((some (k, J1)).bind (fun v1 => jlt (jp2 J 0 70 85 1 v1.2) fun J3 => (m J3).bind (fun v5 => jlt (jpt G 70 15 v5.2) fun G7 => (p_X6_thrown N (jvw G7 70) (jvw J3 70)).bind (fun v9 => if v9 = v1.1 then (if v1.1 = 0 then (if (lg_cmp (J3 85 0) (v5.1.toInt64)) = 0 then (some (G7, J3)) else (none)) else (some (G7, J3))) else (none))))) (fun r => ∃ s, LR r.1 r.2 s) := by
    intro J1 h1 h2
    rw [Option.bind_some, jlt_eq]
    have hc : ∀ c, c ≠ 85 → jp2 J 0 70 85 1 J1 c = J c := by
      intro c hc
      unfold jp2
      rw [jpt_o (by omega)]
      by_cases h3 : c < 70
      · rw [show c = 0 + c by omega, jpt_i h3, Nat.zero_add, h1 c h3]
      · rw [jpt_o (by omega)]
    have h85 : jp2 J 0 70 85 1 J1 85 = J1 70 := by
      unfold jp2
      exact jpt_i (b := 85) (c := 0) (by omega)
    generalize jp2 J 0 70 85 1 J1 = J3 at hc h85 ⊢
    refine k_B (s2 := s) (v := v) (hX.cg (fun _ _ => rfl) (fun c h4 => hc (0 + c) (by omega))) hI (fun h4 => by rw [h85]; exact h2 h4) ?_
    refine (hm J3).c ?_
    rintro ⟨w, G5⟩ ⟨b1, b2, b3, b4⟩
    refine ⟨b1, b2, hM.k b4 b3 ?_ (SA.eta s)⟩
    exact hc 84 (by decide)
  rcases h with ⟨h1, h2⟩ | ⟨c, h1, h2, h3⟩
  · rw [h1]
    subst h2
    refine go (jupL (jv2 J 0 70 85) 70 0 v.toInt64) ?_ ?_
    · intro c hc
      rw [jupL_n _ _ (by omega)]
      exact jv2_L hc
    · intro _
      rw [jupL_s]; exact pk_uLs
  · rw [h1]
    show Ok ((cf c).bind _) _
    rw [h3]
    exact go _ (fun c hc => jv2_L hc) (fun h4 => absurd h4 h2)
end state

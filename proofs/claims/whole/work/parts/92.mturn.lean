/-! the reference: turns laid -/
theorem mod_n : ∀ x, x < 20 → ∀ y, y < 7 → 0 < y → nI x - nI x / nI y * nI y = nI (x % y) := by decide +kernel
theorem z1024 (t S : Nat) : nI t * 1024 + nI S = nI (t * 1024 + S) := by
  rw [show (1024 : Int32) = nI 1024 by decide, pk_mul, nI_add]
def cx (b : Nat) : Int32 := if b = 0 then -1 else nI (b - 1)
def se (t S p : Nat) : Nat := (t * 1024 + S) * 6 + p
section mturn
variable {N : Nat} {G G2 A : Nat → Nat → Int32} {J : Nat → Nat → Int64} {a : TA}
theorem m_seat (t S p : Nat) : p_X6_seat N G J (nI t) (nI S) (nI p) = some (nI (se t S p)) := by
  unfold p_X6_seat se
  rw [z1024, zm6]
theorem se_lt {t S p : Nat} (ht : t ≤ 12) (hS : S < 1024) (hp : p < 6) : se t S p < 79872 := by unfold se; omega
def LY (a : TA) (f T : Nat) (G : Nat → Nat → Int32) (t S : Nat) : Prop := ∀ p, p < a.np → G 9 (se t S p) = a.vl f T (T - t) S p
def FT (A r : Nat → Nat → Int32) (t S : Nat) : Prop := (∀ c, c ≠ 9 → c ≠ 10 → c ≠ 11 → r c = A c) ∧ (∀ k, (k < se t S 0 ∨ se t S 6 ≤ k) → r 9 k = A 9 k) ∧ ∀ k, k ≠ t * 1024 + S → r 10 k = A 10 k
theorem FT.refl {t S : Nat} : FT A A t S := ⟨fun _ _ _ _ => rfl, fun _ _ => rfl, fun _ _ => rfl⟩
theorem FT.md {t S : Nat} (F : FT A G t S) (M : MD A a) : MD G a := M.cg (F.1 1 (by decide) (by decide) (by decide)) (by rw [F.1 0 (by decide) (by decide) (by decide)]) (F.1 8 (by decide) (by decide) (by decide))
theorem FT.fr {t S : Nat} (F : FT A G t S) (h : FR G G2) : FT A G2 t S := ⟨fun c h9 h10 h11 => (h c h11).trans (F.1 c h9 h10 h11), fun k hk => by rw [h 9 (by decide)]; exact F.2.1 k hk, fun k hk => by rw [h 10 (by decide)]; exact F.2.2 k hk⟩
theorem m_b188 (hN : 2000 ≤ N) {P : (Nat → Nat → Int32) → Prop} {rv : (Nat → Nat → Int32) → Int32 → Int32 → Int32 → Int32 → Option (Nat → Nat → Int32)} {t S S2 : Nat} {x3 x4 : Int32} (ht : t < 12) (hS : S < 1024) (hS2 : S2 < 1024) (hP : ∀ r, (∀ c, c ≠ 9 → r c = G c) → (∀ k, (k < se t S 0 ∨ se t S 6 ≤ k) → r 9 k = G 9 k) → (∀ p, p < 6 → r 9 (se t S p) = G 11 p + G 9 (se (t + 1) S2 p)) → Ok (p_X6_laysTurn_b238 N J rv r (nI t) (nI S) x3 x4) P) : ∀ (k n j : Nat) (r : Nat → Nat → Int32), j + k = 6 → k < n → (∀ c, c ≠ 9 → r c = G c) → (∀ k, (k < se t S 0 ∨ se t S 6 ≤ k) → r 9 k = G 9 k) → (∀ p, p < j → r 9 (se t S p) = G 11 p + G 9 (se (t + 1) S2 p)) → Ok (p_X6_laysTurn_b188 N J rv n r (nI t) (nI S) x3 x4 (nI S2) (nI j)) P := by
  intro k
  induction k with
  | zero =>
    intro n j r hj hn h1 h2 h3
    match n, hn with
    | n + 1, _ =>
      unfold p_X6_laysTurn_b188
      rw [show (6 : Int32) = nI 6 by decide, if_pos (nI_le (by omega) (by omega))]
      exact hP r h1 h2 (fun p hp => h3 p (by omega))
  | succ k ih =>
    intro n j r hj hn h1 h2 h3
    have s1 := se_lt (t := t) (S := S) (p := j) (by omega) hS (by omega)
    have s2 := se_lt (t := t + 1) (S := S2) (p := j) (by omega) hS2 (by omega)
    match n, hn with
    | n + 1, hn =>
      unfold p_X6_laysTurn_b188
      rw [show (6 : Int32) = nI 6 by decide, if_neg (nI_ge (by omega) (by omega)), m_seat, Option.bind_some, if_pos (jinT (by omega) (by omega)), nI_1, m_seat, Option.bind_some, if_pos (jinT s2 (by omega)), if_pos (jinT s1 (by omega)), zcl (by omega), zcl (by omega), zcl (by omega), jlt_eq, nI_1]
      refine ih n (j + 1) _ (by omega) (by omega) ?_ ?_ ?_
      · intro c hc; rw [jup_n _ _ hc]; exact h1 c hc
      · intro k hk
        rw [jup_s, upd_n _ _ (by unfold se at *; omega)]; exact h2 k hk
      · intro p hp
        rw [jup_s, upd_i]
        by_cases c : p = j
        · subst c
          rw [if_pos rfl, h1 11 (by decide), h2 _ (by unfold se; omega)]
        · rw [if_neg (by unfold se; omega)]; exact h3 p (by omega)
theorem m_b74 (hN : 2000 ≤ N) (M : MD A a) {f T t S q : Nat} (ht : t < T) (hT : T ≤ 12) (hq : q = (f + t) % a.np) (hnp0 : 0 < a.np) (hS : S < 2 ^ a.dM) : ∀ (k n i : Nat) (G : Nat → Nat → Int32), i + k = a.dM → k < n → FT A G t S → (a.cl S → (∀ S2, S2 < 2 ^ a.dM → a.cl S2 → LY a f T A (t + 1) S2) → (∀ p, p < a.np → G 9 (se t S p) = a.nxb (a.vl f T (T - (t + 1))) q S p (a.sel (a.vl f T (T - (t + 1))) q S i).2) ∧ G 10 (t * 1024 + S) = cx (a.sel (a.vl f T (T - (t + 1))) q S i).2) → Ok (p_X6_laysTurn_b74 N J n G (nI t) (nI S) (nI q) (nI i)) (fun r => FT A r t S ∧ (a.cl S → (∀ S2, S2 < 2 ^ a.dM → a.cl S2 → LY a f T A (t + 1) S2) → LY a f T r t S ∧ r 10 (t * 1024 + S) = cx (a.chs f T t S))) := by
  have hm := M.mx
  have I := M.i
  have hnp := I.np
  have hq6 : q < a.np := by rw [hq]; exact Nat.mod_lt _ hnp0
  have hS4 := lt_1024 hm hS
  intro k
  induction k with
  | zero =>
    intro n i G hi hn F hG
    have M2 := F.md M
    have c23 := M2.mm
    match n, hn with
    | n + 1, _ =>
      unfold p_X6_laysTurn_b74
      rw [c23, if_pos (nI_le (by omega) (by omega))]
      refine Ok.s ⟨F, ?_⟩
      intro hc hl
      have hG2 := hG hc hl
      have ei : i = a.dM := by omega
      rw [ei] at hG2
      have ec : (a.sel (a.vl f T (T - (t + 1))) q S a.dM).2 = a.chs f T t S := by unfold TA.chs; rw [hq]
      rw [ec] at hG2
      refine ⟨?_, hG2.2⟩
      intro p hp
      rw [vl_s ht, ← hq]
      exact hG2.1 p hp
  | succ k ih =>
    intro n i G hi hn F hG
    have M2 := F.md M
    have c23 := M2.mm
    have hd := dN_nd (a := a) (i := i) (by omega)
    match n, hn with
    | n + 1, hn =>
      unfold p_X6_laysTurn_b74
      rw [c23, if_neg (nI_ge (by omega) (by omega)), bt_tS (by omega)]
      have skip : ∀ G2, FT A G2 t S → (∀ c, c ≠ 11 → G2 c = G c) → (a.cl S → (∀ S2, S2 < 2 ^ a.dM → a.cl S2 → LY a f T A (t + 1) S2) → a.sel (a.vl f T (T - (t + 1))) q S (i + 1) = a.sel (a.vl f T (T - (t + 1))) q S i) → Ok (p_X6_laysTurn_b238 N J (p_X6_laysTurn_b74 N J n) G2 (nI t) (nI S) (nI q) (nI i)) (fun r => FT A r t S ∧ (a.cl S → (∀ S2, S2 < 2 ^ a.dM → a.cl S2 → LY a f T A (t + 1) S2) → LY a f T r t S ∧ r 10 (t * 1024 + S) = cx (a.chs f T t S))) := by
        intro G2 F2 hg hs
        unfold p_X6_laysTurn_b238
        rw [nI_1]
        refine ih n (i + 1) G2 (by omega) (by omega) F2 ?_
        intro hc hl
        rw [hs hc hl, hg 9 (by decide), hg 10 (by decide)]
        exact hG hc hl
      have ss : ∀ x, (S.testBit i && a.isOf (a.dN i) q) = x → x = false → a.sel (a.vl f T (T - (t + 1))) q S (i + 1) = a.sel (a.vl f T (T - (t + 1))) q S i := by
        intro x h1 h2
        rw [sel_e, TA.ses, if_neg (by rw [h1, h2]; decide)]
      cases hb : S.testBit i
      · rw [if_pos (by decide)]
        exact skip G F (fun _ _ => rfl) (fun _ _ => ss _ (by rw [hb, Bool.false_and]) rfl)
      · rw [if_neg (by decide), if_pos (jinT (by omega) (by omega)), zcl (by omega), M2.dd i (by omega), m_isOf M2.m I hd (by omega), Option.bind_some]
        cases ho : a.isOf (a.dN i) q
        · rw [if_pos (by decide)]
          exact skip G F (fun _ _ => rfl) (fun _ _ => ss _ (by rw [hb, ho, Bool.true_and]) rfl)
        · rw [if_neg (by decide)]
          refine Ok.b (m_lay hN M2 hq6 (by omega) hb) ?_
          rintro G10 ⟨f1, f2⟩
          have F3 := F.fr f1
          have M3 := F3.md M
          have hr2 := rs_2 (i := i) hS
          have hr4 := lt_1024 hm hr2
          have s1 := se_lt (t := t) (S := S) (p := q) (by omega) hS4 (by omega)
          have s2 := se_lt (t := t + 1) (S := a.rs S i) (p := q) (by omega) hr4 (by omega)
          rw [jlt_eq, m_fallIn hN M3 (by omega), Option.bind_some, if_pos (jinT (by omega) (by omega)), rs_nI hm hS (by omega) (fw_hx hm hS (by omega)), nI_1, m_seat, Option.bind_some, if_pos (jinT s2 (by omega)), m_seat, Option.bind_some, if_pos (jinT s1 (by omega)), zcl (by omega), zcl (by omega), zcl (by omega)]
          have g9 : G10 9 = G 9 := f1 9 (by decide)
          have gd : a.cl S → (∀ S2, S2 < 2 ^ a.dM → a.cl S2 → LY a f T A (t + 1) S2) → G10 9 (se t S q) = (a.sel (a.vl f T (T - (t + 1))) q S i).1 ∧ G10 11 q + G10 9 (se (t + 1) (a.rs S i) q) = a.pt S q q i + a.vl f T (T - (t + 1)) (a.rs S i) q := by
            intro hc hl
            refine ⟨?_, ?_⟩
            · rw [g9, (hG hc hl).1 q hq6]; exact (sel_ok _ _ _ _).1.symm
            · rw [f2 hc q hq6, F3.2.1 _ (by unfold se; omega), hl _ hr2 (rs_cl hm hS (by omega) hc) q hq6]
          have hses : a.sel (a.vl f T (T - (t + 1))) q S (i + 1) = if (a.sel (a.vl f T (T - (t + 1))) q S i).1 < a.pt S q q i + a.vl f T (T - (t + 1)) (a.rs S i) q then (a.pt S q q i + a.vl f T (T - (t + 1)) (a.rs S i) q, i + 1) else a.sel (a.vl f T (T - (t + 1))) q S i := by
            rw [sel_e, TA.ses, if_pos (by rw [hb, ho]; rfl)]
          by_cases c : G10 9 (se t S q) < G10 11 q + G10 9 (se (t + 1) (a.rs S i) q)
          · rw [if_pos c, z1024, if_pos (jinT (by omega) (by omega)), zcl (by omega), jlt_eq]
            refine m_b188 hN (t := t) (S := S) (S2 := a.rs S i) (by omega) hS4 hr4 ?_ 6 N 0 _ (by omega) (by omega) (fun _ _ => rfl) (fun _ _ => rfl) (fun p hp => absurd hp (Nat.not_lt_zero _))
            intro r r1 r2 r3
            unfold p_X6_laysTurn_b238
            rw [nI_1]
            refine ih n (i + 1) r (by omega) (by omega) ⟨?_, ?_, ?_⟩ ?_
            · intro c h9 h10 h11; rw [r1 c h9, jup_n _ _ h10]; exact F3.1 c h9 h10 h11
            · intro k hk; rw [r2 k hk, jup_n _ _ (by decide)]; exact F3.2.1 k hk
            · intro k hk; rw [r1 10 (by decide), jup_s, upd_n _ _ hk]; exact F3.2.2 k hk
            · intro hc hl
              have g := gd hc hl
              rw [hses, if_pos (by rw [← g.1, ← g.2]; exact c)]
              refine ⟨?_, ?_⟩
              · intro p hp
                rw [r3 p (by omega), jup_n _ _ (by decide), jup_n _ _ (by decide), f2 hc p hp, F3.2.1 _ (by unfold se; omega), hl _ hr2 (rs_cl hm hS (by omega) hc) p hp]
                unfold TA.nxb
                rw [if_neg (by omega), Nat.add_sub_cancel]
              · rw [r1 10 (by decide), jup_s, upd_s]
                unfold cx
                rw [if_neg (by omega), Nat.add_sub_cancel]
          · rw [if_neg c]
            refine skip G10 F3 f1 ?_
            intro hc hl
            have g := gd hc hl
            rw [hses, if_neg (by rw [← g.1, ← g.2]; exact c)]
theorem m_b30 (hN : 2000 ≤ N) (M : MD A a) {f T t S q : Nat} (ht : t < T) (hT : T ≤ 12) (hq : q = (f + t) % a.np) (hnp0 : 0 < a.np) (hS : S < 2 ^ a.dM) : ∀ (k n j : Nat) (G : Nat → Nat → Int32), j + k = 6 → k < n → FT A G t S → G 10 (t * 1024 + S) = -1 → (∀ p, p < j → G 9 (se t S p) = A 9 (se (t + 1) S p)) → Ok (p_X6_laysTurn_b30 N J n G (nI t) (nI S) (nI q) (nI j)) (fun r => FT A r t S ∧ (a.cl S → (∀ S2, S2 < 2 ^ a.dM → a.cl S2 → LY a f T A (t + 1) S2) → LY a f T r t S ∧ r 10 (t * 1024 + S) = cx (a.chs f T t S))) := by
  have hm := M.mx
  have hnp := M.i.np
  have hS4 := lt_1024 hm hS
  intro k
  induction k with
  | zero =>
    intro n j G hj hn F h10 h9
    match n, hn with
    | n + 1, _ =>
      unfold p_X6_laysTurn_b30
      rw [show (6 : Int32) = nI 6 by decide, if_pos (nI_le (by omega) (by omega))]
      refine m_b74 hN M ht hT hq hnp0 hS a.dM N 0 G (by omega) (by omega) F ?_
      intro hc hl
      refine ⟨?_, h10⟩
      intro p hp
      rw [h9 p (by omega), hl S hS hc p hp]
      rfl
  | succ k ih =>
    intro n j G hj hn F h10 h9
    have s1 := se_lt (t := t) (S := S) (p := j) (by omega) hS4 (by omega)
    have s2 := se_lt (t := t + 1) (S := S) (p := j) (by omega) hS4 (by omega)
    match n, hn with
    | n + 1, hn =>
      unfold p_X6_laysTurn_b30
      rw [show (6 : Int32) = nI 6 by decide, if_neg (nI_ge (by omega) (by omega)), m_seat, Option.bind_some, nI_1, m_seat, Option.bind_some, if_pos (jinT s2 (by omega)), if_pos (jinT s1 (by omega)), zcl (by omega), zcl (by omega), jlt_eq, nI_1]
      refine ih n (j + 1) _ (by omega) (by omega) ⟨?_, ?_, ?_⟩ ?_ ?_
      · intro c h9 h10 h11; rw [jup_n _ _ h9]; exact F.1 c h9 h10 h11
      · intro k hk; rw [jup_s, upd_n _ _ (by unfold se at *; omega)]; exact F.2.1 k hk
      · rw [jup_n _ _ (by decide)]; exact F.2.2
      · rw [jup_n _ _ (by decide)]; exact h10
      · intro p hp
        rw [jup_s, upd_i]
        by_cases c : p = j
        · subst c
          rw [if_pos rfl, F.2.1 _ (by unfold se; omega)]
        · rw [if_neg (by unfold se; omega)]; exact h9 p (by omega)
theorem m_turn (hN : 2000 ≤ N) (M : MD A a) {f T t S : Nat} (ht : t < T) (hT : T ≤ 12) (hf : f < 6) (h25 : A 0 25 = nI f) (hnp0 : 0 < a.np) (hS : S < 2 ^ a.dM) : Ok (p_X6_laysTurn N A J (nI t) (nI S)) (fun r => FT A r t S ∧ (a.cl S → (∀ S2, S2 < 2 ^ a.dM → a.cl S2 → LY a f T A (t + 1) S2) → LY a f T r t S ∧ r 10 (t * 1024 + S) = cx (a.chs f T t S))) := by
  have hm := M.mx
  have hnp := M.i.np
  have hS4 := lt_1024 hm hS
  have c1 : A 1 1 = nI a.np := M.m.np
  unfold p_X6_laysTurn
  rw [c1, if_neg (nI_ne0 hnp0 (by omega)), z1024, if_pos (jinT (by omega) (by omega)), zcl (by omega), jlt_eq, h25, nI_add, mod_n _ (by omega) _ (by omega) hnp0]
  refine m_b30 hN M ht hT rfl hnp0 hS 6 N 0 _ (by omega) (by omega) ⟨?_, ?_, ?_⟩ ?_ (fun p hp => absurd hp (Nat.not_lt_zero _))
  · intro c h9 h10 h11; rw [jup_n _ _ h10]
  · intro k hk; rw [jup_n _ _ (by decide)]
  · intro k hk; rw [jup_s, upd_n _ _ hk]
  · rw [jup_s, upd_s]
end mturn

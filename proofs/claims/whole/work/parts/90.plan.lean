/-! the ending: the open deeds, their sets, what is ahead -/
def TA.dl (a : TA) : Nat → (Nat → Nat) × Nat
  | 0 => (fun _ => 0, 0)
  | k + 1 => if a.opn k = true then (fun i => if i = (TA.dl a k).2 then k else (TA.dl a k).1 i, (TA.dl a k).2 + 1) else TA.dl a k
def TA.dN (a : TA) (i : Nat) : Nat := (a.dl a.nd).1 i
def TA.dM (a : TA) : Nat := (a.dl a.nd).2
def TA.sg (a : TA) (i j : Nat) : Bool := decide (a.th (a.dN j) = a.th (a.dN i))
def TA.wI (a : TA) (i : Nat) : Int32 := it (fun s j => if a.sg i j = true then s ||| bitI j else s) i (a.dM - i) 0
def TA.wN (a : TA) (i : Nat) : Nat := (a.wI i).toBitVec.toNat
def TA.rs (a : TA) (S i : Nat) : Nat := S &&& (1023 ^^^ a.wN i)
def TA.fl (a : TA) (S i j : Nat) : Bool := S.testBit j && a.sg i j
def TA.cl (a : TA) (S : Nat) : Prop := ∀ i j, i < j → j < a.dM → S.testBit j = true → a.sg i j = true → S.testBit i = true
def TA.pt (a : TA) (S q p i : Nat) : Int32 := sm (fun j => if a.fl S i j = true then (if p = q then a.pu (a.dN j) p else a.po (a.dN j) p) else 0) i (a.dM - i)
def TA.ses (a : TA) (v : Nat → Nat → Int32) (q S : Nat) (s : Int32 × Nat) (i : Nat) : Int32 × Nat := if (S.testBit i && a.isOf (a.dN i) q) = true then (if s.1 < a.pt S q q i + v (a.rs S i) q then (a.pt S q q i + v (a.rs S i) q, i + 1) else s) else s
def TA.sel (a : TA) (v : Nat → Nat → Int32) (q S k : Nat) : Int32 × Nat := it (a.ses v q S) 0 k (v S q, 0)
def TA.nxb (a : TA) (v : Nat → Nat → Int32) (q S p b : Nat) : Int32 := if b = 0 then v S p else a.pt S q p (b - 1) + v (a.rs S (b - 1)) p
def TA.vl (a : TA) (f T : Nat) : Nat → Nat → Nat → Int32
  | 0 => fun _ _ => 0
  | k + 1 => fun S p => a.nxb (TA.vl a f T k) ((f + (T - (k + 1))) % a.np) S p (a.sel (TA.vl a f T k) ((f + (T - (k + 1))) % a.np) S a.dM).2
def TA.chs (a : TA) (f T t S : Nat) : Nat := (a.sel (a.vl f T (T - (t + 1))) ((f + t) % a.np) S a.dM).2
def TA.wst (a : TA) (S b : Nat) : Nat := if b = 0 then S else a.rs S (b - 1)
def TA.wk (a : TA) (f T : Nat) : Nat → Nat
  | 0 => 2 ^ a.dM - 1
  | t + 1 => a.wst (TA.wk a f T t) (a.chs f T t (TA.wk a f T t))
def TA.lst (a : TA) (S i k : Nat) : Nat := it (fun s j => if a.fl S i j = true then j else s) i k i
def TA.dss (a : TA) (S i k : Nat) : Int32 := it (fun s j => if a.fl S i j = true then s ||| bitI (a.dN j) else s) i k 0
section plan
variable {a : TA}
theorem dl_ok (a : TA) : ∀ k, (∀ i, i < (a.dl k).2 → (a.dl k).1 i < k ∧ a.opn ((a.dl k).1 i) = true) ∧ (∀ i j, i < j → j < (a.dl k).2 → (a.dl k).1 i < (a.dl k).1 j) ∧ (∀ d, d < k → a.opn d = true → ∃ i, i < (a.dl k).2 ∧ (a.dl k).1 i = d)
  | 0 => ⟨fun _ h => absurd h (Nat.not_lt_zero _), fun _ _ _ h => absurd h (Nat.not_lt_zero _), fun _ h => absurd h (Nat.not_lt_zero _)⟩
  | k + 1 => by
    obtain ⟨h1, h2, h3⟩ := dl_ok a k
    unfold TA.dl
    by_cases o : a.opn k = true
    · rw [if_pos o]
      dsimp only
      refine ⟨?_, ?_, ?_⟩
      · intro i hi
        by_cases e : i = (a.dl k).2
        · rw [if_pos e]; exact ⟨by omega, o⟩
        · rw [if_neg e]
          have := h1 i (by omega)
          exact ⟨by omega, this.2⟩
      · intro i j hij hj
        rw [if_neg (show ¬ i = (a.dl k).2 by omega)]
        by_cases e : j = (a.dl k).2
        · rw [if_pos e]; exact (h1 i (by omega)).1
        · rw [if_neg e]; exact h2 i j hij (by omega)
      · intro d hd od
        by_cases e : d = k
        · exact ⟨(a.dl k).2, by omega, by rw [if_pos rfl, e]⟩
        · obtain ⟨i, hi, ei⟩ := h3 d (by omega) od
          exact ⟨i, by omega, by rw [if_neg (by omega)]; exact ei⟩
    · rw [if_neg o]
      refine ⟨?_, h2, ?_⟩
      · intro i hi; have := h1 i hi; exact ⟨by omega, this.2⟩
      · intro d hd od
        by_cases e : d = k
        · rw [e] at od; exact absurd od o
        · exact h3 d (by omega) od
theorem dl_s (a : TA) (k : Nat) : a.dl (k + 1) = if a.opn k = true then (fun i => if i = (a.dl k).2 then k else (a.dl k).1 i, (a.dl k).2 + 1) else a.dl k := rfl
theorem dl_le (a : TA) {k : Nat} : ∀ n, (a.dl k).2 ≤ (a.dl (k + n)).2 ∧ ∀ i, i < (a.dl k).2 → (a.dl (k + n)).1 i = (a.dl k).1 i
  | 0 => ⟨Nat.le_refl _, fun _ _ => rfl⟩
  | n + 1 => by
    obtain ⟨h1, h2⟩ := dl_le a (k := k) n
    rw [show k + (n + 1) = k + n + 1 by omega, dl_s]
    by_cases o : a.opn (k + n) = true
    · rw [if_pos o]
      dsimp only
      refine ⟨by omega, ?_⟩
      intro i hi
      rw [if_neg (by omega)]
      exact h2 i hi
    · rw [if_neg o]; exact ⟨h1, h2⟩
theorem dl_cN (a : TA) : ∀ k, (a.dl k).2 = cN a.opn 0 k
  | 0 => rfl
  | k + 1 => by
    have e : cN a.opn 0 (k + 1) = cN a.opn 0 k + cN a.opn (0 + k) 1 := cN_app a.opn k 1 0
    have e1 : cN a.opn (0 + k) 1 = if a.opn k = true then 1 else 0 := by
      rw [Nat.zero_add]
      unfold cN
      unfold cN
      cases a.opn k <;> rfl
    rw [e, e1, ← dl_cN a k]
    conv => lhs; unfold TA.dl
    by_cases o : a.opn k = true
    · rw [if_pos o, if_pos o]
    · rw [if_neg o, if_neg o]; rfl
theorem dN_nd {i : Nat} (hi : i < a.dM) : a.dN i < a.nd := ((dl_ok a a.nd).1 i hi).1
theorem dN_op {i : Nat} (hi : i < a.dM) : a.opn (a.dN i) = true := ((dl_ok a a.nd).1 i hi).2
theorem opnst3 {d : Nat} (h : a.opn d = true) : a.st d = true ∧ a.rung = false ∧ a.eat (a.th d) = false := by
  unfold TA.opn at h
  cases h1 : a.rung
  · cases h2 : a.st d
    · rw [h1, h2] at h; simp at h
    · cases h3 : a.eat (a.th d)
      · exact ⟨rfl, rfl, rfl⟩
      · rw [h1, h2, h3] at h; simp at h
  · rw [h1] at h; simp at h
theorem dN_lt {i j : Nat} (h : i < j) (hj : j < a.dM) : a.dN i < a.dN j := (dl_ok a a.nd).2.1 i j h hj
theorem dN_inj {i j : Nat} (hi : i < a.dM) (hj : j < a.dM) (h : a.dN i = a.dN j) : i = j := by
  rcases Nat.lt_trichotomy i j with c | c | c
  · have := dN_lt c hj; omega
  · exact c
  · have := dN_lt c hi; omega
theorem dN_sur {d : Nat} (hd : d < a.nd) (o : a.opn d = true) : ∃ i, i < a.dM ∧ a.dN i = d := (dl_ok a a.nd).2.2 d hd o
theorem nxf_hit {st : Nat → Bool} {th gi : Nat → Nat} {h t e : Nat} (h1 : st e = true) (h2 : th e = t) : ∀ (k j : Nat), j ≤ e → e < j + k → (∀ f, j ≤ f → f < e → st f = true → th f = t → False) → nxf st th gi h t j k = gi e
  | 0, j, a1, a2, _ => by omega
  | k + 1, j, a1, a2, hno => by
    unfold nxf
    by_cases e1 : j = e
    · rw [e1, if_pos ⟨h1, h2⟩]
    · rw [if_neg (fun c => hno j (Nat.le_refl _) (by omega) c.1 c.2)]
      exact nxf_hit h1 h2 k (j + 1) (by omega) (by omega) (fun f f1 f2 => hno f (by omega) f2)
/-- who took it gave it on -/
theorem dN_link (I : a.I) {i j : Nat} (hij : i < j) (hj : j < a.dM) (hs : a.sg i j = true) (hno : ∀ k, i < k → k < j → a.sg i k = false) : a.ta (a.dN i) = a.gi (a.dN j) := by
  have hi : i < a.dM := by omega
  have d1 := dN_nd hi
  have d2 := dN_nd hj
  have o1 := opnst3 (dN_op hi)
  have o2 := opnst3 (dN_op hj)
  have lt := dN_lt hij hj
  have es : a.th (a.dN j) = a.th (a.dN i) := of_decide_eq_true hs
  rw [I.ch _ d1 o1.1]
  unfold TA.nx
  refine nxf_hit o2.1 es _ _ (by omega) (by omega) ?_
  intro f f1 f2 f3 f4
  have fn : f < a.nd := by omega
  have fo : a.opn f = true := by
    unfold TA.opn
    rw [f3, f4, o1.2.1, o1.2.2]; rfl
  obtain ⟨k, hk, ek⟩ := dN_sur fn fo
  have k1 : i < k := by
    rcases Nat.lt_trichotomy i k with c | c | c
    · exact c
    · rw [← c] at ek; omega
    · have := dN_lt c hi; omega
  have k2 : k < j := by
    rcases Nat.lt_trichotomy k j with c | c | c
    · exact c
    · rw [c] at ek; omega
    · have := dN_lt c hk; omega
  have := hno k k1 k2
  unfold TA.sg at this
  rw [ek, decide_eq_true f4] at this
  cases this
theorem wN_nI (i : Nat) : nI (a.wN i) = a.wI i := (x_nI (a.wI i)).symm
theorem wI_bit (hm : a.dM ≤ 10) {i j : Nat} (hi : i ≤ a.dM) (hj : j < 32) : bt (a.wI i) j = (decide (i ≤ j) && decide (j < a.dM) && a.sg i j) := by
  unfold TA.wI
  rw [it_bits _ _ _ _ _ hj (by omega), b_0, Bool.false_or, show i + (a.dM - i) = a.dM by omega]
theorem wN_bit (hm : a.dM ≤ 10) {i j : Nat} (hi : i ≤ a.dM) (hj : j < 32) : (a.wN i).testBit j = (decide (i ≤ j) && decide (j < a.dM) && a.sg i j) := by
  rw [← bt_nI _ hj, wN_nI, wI_bit hm hi hj]
theorem tb_big {S m j : Nat} (h : S < 2 ^ m) (hj : m ≤ j) : S.testBit j = false := Nat.testBit_lt_two_pow (Nat.lt_of_lt_of_le h (Nat.pow_le_pow_right (by omega) hj))
theorem tb_1023 : ∀ j, j < 10 → Nat.testBit 1023 j = true := by decide
theorem lt_1024 {S : Nat} (hm : a.dM ≤ 10) (h : S < 2 ^ a.dM) : S < 1024 := Nat.lt_of_lt_of_le h (show 2 ^ a.dM ≤ 2 ^ 10 from Nat.pow_le_pow_right (by omega) hm)
theorem rs_le (S i : Nat) : a.rs S i ≤ S := Nat.and_le_left
theorem rs_bit (hm : a.dM ≤ 10) {S i : Nat} (hS : S < 2 ^ a.dM) (hi : i ≤ a.dM) (j : Nat) : (a.rs S i).testBit j = (S.testBit j && !(decide (i ≤ j) && a.sg i j)) := by
  unfold TA.rs
  rw [Nat.testBit_and, Nat.testBit_xor]
  by_cases c : j < a.dM
  · rw [tb_1023 j (by omega), wN_bit hm hi (by omega), decide_eq_true c, Bool.and_true, Bool.true_xor]
  · rw [tb_big hS (by omega), Bool.false_and, Bool.false_and]
theorem rs_lt (hm : a.dM ≤ 10) {S i : Nat} (hS : S < 2 ^ a.dM) (hi : i < a.dM) (h : S.testBit i = true) : a.rs S i < S := by
  have h1 := rs_le (a := a) S i
  have h2 : a.rs S i ≠ S := by
    intro e
    have := rs_bit hm hS (by omega : i ≤ a.dM) i
    rw [e, h, decide_eq_true (Nat.le_refl i), show a.sg i i = true from decide_eq_true rfl] at this
    simp at this
  omega
theorem rs_2 {S i : Nat} (hS : S < 2 ^ a.dM) : a.rs S i < 2 ^ a.dM := Nat.lt_of_le_of_lt (rs_le S i) hS
theorem rs_cl (hm : a.dM ≤ 10) {S i : Nat} (hS : S < 2 ^ a.dM) (hi : i < a.dM) (h : a.cl S) : a.cl (a.rs S i) := by
  intro x j hx hj h1 h2
  rw [rs_bit hm hS (by omega)] at h1 ⊢
  have s1 : S.testBit j = true := by cases e : S.testBit j <;> simp_all
  have s2 := h x j hx hj s1 h2
  rw [s2, Bool.true_and]
  rw [s1, Bool.true_and] at h1
  by_cases c : i ≤ x
  · rw [decide_eq_true c, Bool.true_and]
    rw [decide_eq_true (by omega), Bool.true_and] at h1
    have e : a.sg i x = a.sg i j := by
      unfold TA.sg at h2 ⊢
      rw [of_decide_eq_true h2]
    rw [e]; exact h1
  · rw [decide_eq_false c]; rfl
theorem full_bit (j : Nat) : (2 ^ a.dM - 1).testBit j = decide (j < a.dM) := Nat.testBit_two_pow_sub_one ..
theorem full_lt : 2 ^ a.dM - 1 < 2 ^ a.dM := by have := Nat.two_pow_pos a.dM; omega
theorem full_cl : a.cl (2 ^ a.dM - 1) := by
  intro i j hij hj _ _
  rw [full_bit, decide_eq_true (by omega)]
/-- a set without what falls: in the machine's words -/
theorem rs_nI (hm : a.dM ≤ 10) {S i : Nat} {x : Int32} (hS : S < 2 ^ a.dM) (hi : i ≤ a.dM) (hx : ∀ j, j < 32 → S.testBit j = true → bt x j = (decide (i ≤ j) && a.sg i j)) : nI S &&& (x ^^^ (-1)) = nI (a.rs S i) := by
  apply b_ext
  intro j hj
  rw [b_and, bt_not _ hj, bt_nI _ hj, bt_nI _ hj, rs_bit hm hS hi]
  cases e : S.testBit j
  · rfl
  · rw [hx j hj e]
theorem wI_hx (hm : a.dM ≤ 10) {S i : Nat} (hS : S < 2 ^ a.dM) (hi : i ≤ a.dM) : ∀ j, j < 32 → S.testBit j = true → bt (a.wI i) j = (decide (i ≤ j) && a.sg i j) := by
  intro j hj h
  rw [wI_bit hm hi hj]
  by_cases c : j < a.dM
  · rw [decide_eq_true c, Bool.and_true]
  · rw [tb_big hS (by omega)] at h; cases h
theorem fw_hx (hm : a.dM ≤ 10) {S i : Nat} (hS : S < 2 ^ a.dM) (hi : i ≤ a.dM) : ∀ j, j < 32 → S.testBit j = true → bt (nI S &&& a.wI i) j = (decide (i ≤ j) && a.sg i j) := by
  intro j hj h
  rw [b_and, bt_nI _ hj, h, Bool.true_and]
  exact wI_hx hm hS hi j hj h
theorem fl_bit (hm : a.dM ≤ 10) {S i j : Nat} (hi : i ≤ a.dM) (hij : i ≤ j) (hj : j < a.dM) : bt (nI S &&& a.wI i) j = a.fl S i j := by
  rw [b_and, bt_nI _ (by omega), wI_bit hm hi (by omega), decide_eq_true hij, decide_eq_true hj]
  rfl
theorem lst_ok {S i : Nat} (h : S.testBit i = true) : ∀ k, 0 < k → i ≤ a.lst S i k ∧ a.lst S i k < i + k ∧ a.fl S i (a.lst S i k) = true ∧ ∀ x, a.lst S i k < x → x < i + k → a.fl S i x = false
  | 0, h => absurd h (Nat.lt_irrefl _)
  | 1, _ => by
    have e : a.lst S i 1 = i := by
      unfold TA.lst
      rw [it_s, it_0]
      split <;> rfl
    rw [e]
    refine ⟨Nat.le_refl _, by omega, ?_, fun x h1 h2 => by omega⟩
    unfold TA.fl
    rw [h, show a.sg i i = true from decide_eq_true rfl]; rfl
  | k + 2, _ => by
    obtain ⟨h1, h2, h3, h4⟩ := lst_ok h (k + 1) (by omega)
    have e : a.lst S i (k + 2) = if a.fl S i (i + (k + 1)) = true then i + (k + 1) else a.lst S i (k + 1) := by
      unfold TA.lst
      rw [it_e]
    rw [e]
    by_cases c : a.fl S i (i + (k + 1)) = true
    · rw [if_pos c]
      exact ⟨by omega, by omega, c, fun x h1 h2 => by omega⟩
    · rw [if_neg c]
      refine ⟨h1, by omega, h3, ?_⟩
      intro x x1 x2
      by_cases d : x = i + (k + 1)
      · rw [d]; exact Bool.eq_false_iff.mpr c
      · exact h4 x x1 (by omega)
theorem fl_sg {S i j : Nat} (h : a.fl S i j = true) : S.testBit j = true ∧ a.th (a.dN j) = a.th (a.dN i) := by
  unfold TA.fl at h
  cases e : S.testBit j
  · rw [e] at h; cases h
  · rw [e, Bool.true_and] at h
    exact ⟨rfl, of_decide_eq_true h⟩
theorem tele2 (I : a.I) {S i p : Nat} (hc : a.cl S) (h : S.testBit i = true) (w : Int32) : ∀ k, 0 < k → i + k ≤ a.dM → sm (fun j => if a.fl S i j = true then (if a.gi (a.dN j) = p then w else 0) - (if a.ta (a.dN j) = p then w else 0) else 0) i k = (if a.gi (a.dN i) = p then w else 0) - (if a.ta (a.dN (a.lst S i k)) = p then w else 0)
  | 0, h, _ => absurd h (Nat.lt_irrefl _)
  | 1, _, _ => by
    have e : a.lst S i 1 = i := by
      unfold TA.lst
      rw [it_s, it_0]
      split <;> rfl
    have f : a.fl S i i = true := by
      unfold TA.fl
      rw [h, show a.sg i i = true from decide_eq_true rfl]; rfl
    rw [e, sm_s, sm_0, if_pos f, Int32.add_zero]
  | k + 2, _, hk => by
    obtain ⟨h1, h2, h3, h4⟩ := lst_ok (a := a) h (k + 1) (by omega)
    rw [sm_e, tele2 I hc h w (k + 1) (by omega) (by omega)]
    have e : a.lst S i (k + 2) = if a.fl S i (i + (k + 1)) = true then i + (k + 1) else a.lst S i (k + 1) := by
      unfold TA.lst
      rw [it_e]
    rw [e]
    by_cases c : a.fl S i (i + (k + 1)) = true
    · rw [if_pos c, if_pos c]
      have s1 := fl_sg h3
      have s2 := fl_sg c
      have lk : a.ta (a.dN (a.lst S i (k + 1))) = a.gi (a.dN (i + (k + 1))) := by
        refine dN_link I (by omega) (by omega) (decide_eq_true (s2.2.trans s1.2.symm)) ?_
        intro x x1 x2
        cases ex : a.sg (a.lst S i (k + 1)) x
        · rfl
        · exfalso
          have tx : a.th (a.dN x) = a.th (a.dN (a.lst S i (k + 1))) := of_decide_eq_true ex
          have hx : S.testBit x = true := hc x (i + (k + 1)) (by omega) (by omega) s2.1 (decide_eq_true (s2.2.trans (tx.trans s1.2).symm))
          have := h4 x x1 (by omega)
          unfold TA.fl at this
          rw [hx, show a.sg i x = true from decide_eq_true (tx.trans s1.2)] at this
          cases this
      rw [lk]
      grind
    · rw [if_neg c, if_neg c, Int32.add_zero]
/-- the choice and what it is worth to the one whose turn it is -/
theorem sel_ok (v : Nat → Nat → Int32) (q S : Nat) : ∀ k, (a.sel v q S k).1 = a.nxb v q S q (a.sel v q S k).2 ∧ (a.sel v q S k).2 ≤ k ∧ ((a.sel v q S k).2 ≠ 0 → S.testBit ((a.sel v q S k).2 - 1) = true)
  | 0 => ⟨rfl, Nat.le_refl _, fun h => absurd rfl h⟩
  | k + 1 => by
    obtain ⟨h1, h2, h3⟩ := sel_ok v q S k
    have e : a.sel v q S (k + 1) = a.ses v q S (a.sel v q S k) k := by
      unfold TA.sel
      rw [it_e, Nat.zero_add]
    rw [e]
    unfold TA.ses
    by_cases c : (S.testBit k && a.isOf (a.dN k) q) = true
    · rw [if_pos c]
      by_cases d : (a.sel v q S k).1 < a.pt S q q k + v (a.rs S k) q
      · rw [if_pos d]
        refine ⟨?_, Nat.le_refl _, fun _ => ?_⟩
        · unfold TA.nxb
          dsimp only
          rw [if_neg (by omega), Nat.add_sub_cancel]
        · dsimp only
          rw [Nat.add_sub_cancel]
          cases e : S.testBit k
          · rw [e] at c; cases c
          · rfl
      · rw [if_neg d]; exact ⟨h1, by omega, h3⟩
    · rw [if_neg c]; exact ⟨h1, by omega, h3⟩
theorem sel_e (v : Nat → Nat → Int32) (q S k : Nat) : a.sel v q S (k + 1) = a.ses v q S (a.sel v q S k) k := by
  unfold TA.sel
  rw [it_e, Nat.zero_add]
theorem chs_ok (f T t S : Nat) : a.chs f T t S ≤ a.dM ∧ (a.chs f T t S ≠ 0 → S.testBit (a.chs f T t S - 1) = true) := (sel_ok _ _ _ _).2
theorem vl_s {f T t : Nat} (ht : t < T) (S p : Nat) : a.vl f T (T - t) S p = a.nxb (a.vl f T (T - (t + 1))) ((f + t) % a.np) S p (a.chs f T t S) := by
  rw [show T - t = T - (t + 1) + 1 by omega]
  unfold TA.chs
  conv => lhs; unfold TA.vl
  rw [show T - (T - (t + 1) + 1) = t by omega]
theorem wst_ok (hm : a.dM ≤ 10) {S b : Nat} (hS : S < 2 ^ a.dM) (hb : b ≤ a.dM) (hc : a.cl S) : a.wst S b < 2 ^ a.dM ∧ a.cl (a.wst S b) := by
  unfold TA.wst
  by_cases c : b = 0
  · rw [if_pos c]; exact ⟨hS, hc⟩
  · rw [if_neg c]; exact ⟨rs_2 hS, rs_cl hm hS (by omega) hc⟩
theorem wk_ok (hm : a.dM ≤ 10) (f T : Nat) : ∀ t, a.wk f T t < 2 ^ a.dM ∧ a.cl (a.wk f T t)
  | 0 => ⟨full_lt, full_cl⟩
  | t + 1 => by
    have h := wk_ok hm f T t
    unfold TA.wk
    exact wst_ok hm h.1 (chs_ok f T t _).1 h.2
end plan

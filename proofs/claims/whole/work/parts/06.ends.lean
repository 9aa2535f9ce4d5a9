/-! branches, ends, throws -/
theorem jat {X : jX} {C : List (Nat × Instr × Nat)} (hC : jDec X C) (a : Nat) {pc len : Nat} {i : Instr} (h : C[a]? = some (pc, i, len)) : decode (jcc X) pc = .ok (i, len) := hC (pc, i, len) (List.mem_of_getElem? h)
section JB6
variable {X : jX} {k n pc : Nat} {L : List (Option Value)} {st : List Value} {μ : jH}
theorem js_ifeq (hX : jOK X) {x : Int32} {off : Int} {t : Nat} (hd : decode (jcc X) pc = .ok (.ifCond .eq off, 3)) (ht : (pc : Int) + off = (t : Int)) (kt : x = 0 → JW X k n t L st μ) (kf : ¬ x = 0 → JW X k n (pc + 3) L st μ) : JW X k n pc L (.int x :: st) μ := fun H locs ls hH hl => lv_if_eq hX.1 hX.2.1 hd ht (fun c => kt c H locs ls hH hl) (fun c => kf c H locs ls hH hl)
theorem js_ifne (hX : jOK X) {x : Int32} {off : Int} {t : Nat} (hd : decode (jcc X) pc = .ok (.ifCond .ne off, 3)) (ht : (pc : Int) + off = (t : Int)) (kt : ¬ x = 0 → JW X k n t L st μ) (kf : x = 0 → JW X k n (pc + 3) L st μ) : JW X k n pc L (.int x :: st) μ := fun H locs ls hH hl => lv_if_ne hX.1 hX.2.1 hd ht (fun c => kt c H locs ls hH hl) (fun c => kf c H locs ls hH hl)
theorem js_iflt (hX : jOK X) {x : Int32} {off : Int} {t : Nat} (hd : decode (jcc X) pc = .ok (.ifCond .lt off, 3)) (ht : (pc : Int) + off = (t : Int)) (kt : x < 0 → JW X k n t L st μ) (kf : ¬ x < 0 → JW X k n (pc + 3) L st μ) : JW X k n pc L (.int x :: st) μ := fun H locs ls hH hl => lv_if_lt hX.1 hX.2.1 hd ht (fun c => kt c H locs ls hH hl) (fun c => kf c H locs ls hH hl)
theorem js_ifge (hX : jOK X) {x : Int32} {off : Int} {t : Nat} (hd : decode (jcc X) pc = .ok (.ifCond .ge off, 3)) (ht : (pc : Int) + off = (t : Int)) (kt : 0 ≤ x → JW X k n t L st μ) (kf : ¬ 0 ≤ x → JW X k n (pc + 3) L st μ) : JW X k n pc L (.int x :: st) μ := fun H locs ls hH hl => lv_if_ge hX.1 hX.2.1 hd ht (fun c => kt c H locs ls hH hl) (fun c => kf c H locs ls hH hl)
theorem js_ifgt (hX : jOK X) {x : Int32} {off : Int} {t : Nat} (hd : decode (jcc X) pc = .ok (.ifCond .gt off, 3)) (ht : (pc : Int) + off = (t : Int)) (kt : 0 < x → JW X k n t L st μ) (kf : ¬ 0 < x → JW X k n (pc + 3) L st μ) : JW X k n pc L (.int x :: st) μ := fun H locs ls hH hl => lv_if_gt hX.1 hX.2.1 hd ht (fun c => kt c H locs ls hH hl) (fun c => kf c H locs ls hH hl)
theorem js_ifle (hX : jOK X) {x : Int32} {off : Int} {t : Nat} (hd : decode (jcc X) pc = .ok (.ifCond .le off, 3)) (ht : (pc : Int) + off = (t : Int)) (kt : x ≤ 0 → JW X k n t L st μ) (kf : ¬ x ≤ 0 → JW X k n (pc + 3) L st μ) : JW X k n pc L (.int x :: st) μ := fun H locs ls hH hl => lv_if_le hX.1 hX.2.1 hd ht (fun c => kt c H locs ls hH hl) (fun c => kf c H locs ls hH hl)
theorem js_iceq (hX : jOK X) {x y : Int32} {off : Int} {t : Nat} (hd : decode (jcc X) pc = .ok (.if_icmp .eq off, 3)) (ht : (pc : Int) + off = (t : Int)) (kt : x = y → JW X k n t L st μ) (kf : ¬ x = y → JW X k n (pc + 3) L st μ) : JW X k n pc L (.int y :: .int x :: st) μ := fun H locs ls hH hl => lv_icmp_eq hX.1 hX.2.1 hd ht (fun c => kt c H locs ls hH hl) (fun c => kf c H locs ls hH hl)
theorem js_icne (hX : jOK X) {x y : Int32} {off : Int} {t : Nat} (hd : decode (jcc X) pc = .ok (.if_icmp .ne off, 3)) (ht : (pc : Int) + off = (t : Int)) (kt : ¬ x = y → JW X k n t L st μ) (kf : x = y → JW X k n (pc + 3) L st μ) : JW X k n pc L (.int y :: .int x :: st) μ := fun H locs ls hH hl => lv_icmp_ne hX.1 hX.2.1 hd ht (fun c => kt c H locs ls hH hl) (fun c => kf c H locs ls hH hl)
theorem js_iclt (hX : jOK X) {x y : Int32} {off : Int} {t : Nat} (hd : decode (jcc X) pc = .ok (.if_icmp .lt off, 3)) (ht : (pc : Int) + off = (t : Int)) (kt : x < y → JW X k n t L st μ) (kf : ¬ x < y → JW X k n (pc + 3) L st μ) : JW X k n pc L (.int y :: .int x :: st) μ := fun H locs ls hH hl => lv_icmp_lt hX.1 hX.2.1 hd ht (fun c => kt c H locs ls hH hl) (fun c => kf c H locs ls hH hl)
theorem js_icge (hX : jOK X) {x y : Int32} {off : Int} {t : Nat} (hd : decode (jcc X) pc = .ok (.if_icmp .ge off, 3)) (ht : (pc : Int) + off = (t : Int)) (kt : y ≤ x → JW X k n t L st μ) (kf : ¬ y ≤ x → JW X k n (pc + 3) L st μ) : JW X k n pc L (.int y :: .int x :: st) μ := fun H locs ls hH hl => lv_icmp_ge hX.1 hX.2.1 hd ht (fun c => kt c H locs ls hH hl) (fun c => kf c H locs ls hH hl)
theorem js_icgt (hX : jOK X) {x y : Int32} {off : Int} {t : Nat} (hd : decode (jcc X) pc = .ok (.if_icmp .gt off, 3)) (ht : (pc : Int) + off = (t : Int)) (kt : y < x → JW X k n t L st μ) (kf : ¬ y < x → JW X k n (pc + 3) L st μ) : JW X k n pc L (.int y :: .int x :: st) μ := fun H locs ls hH hl => lv_icmp_gt hX.1 hX.2.1 hd ht (fun c => kt c H locs ls hH hl) (fun c => kf c H locs ls hH hl)
theorem js_icle (hX : jOK X) {x y : Int32} {off : Int} {t : Nat} (hd : decode (jcc X) pc = .ok (.if_icmp .le off, 3)) (ht : (pc : Int) + off = (t : Int)) (kt : x ≤ y → JW X k n t L st μ) (kf : ¬ x ≤ y → JW X k n (pc + 3) L st μ) : JW X k n pc L (.int y :: .int x :: st) μ := fun H locs ls hH hl => lv_icmp_le hX.1 hX.2.1 hd ht (fun c => kt c H locs ls hH hl) (fun c => kf c H locs ls hH hl)
/-- a table switch: case by case -/
def jsw (X : jX) (k n pc : Nat) (L : List (Option Value)) (st : List Value) (μ : jH) (x : Int32) (d : Int) : Int → List Int → Prop
  | _, [] => ∀ t : Nat, (pc : Int) + d = (t : Int) → JW X k n t L st μ
  | lo, off :: r => (x.toInt = lo → ∀ t : Nat, (pc : Int) + off = (t : Int) → JW X k n t L st μ) ∧ (¬ x.toInt = lo → jsw X k n pc L st μ x d (lo + 1) r)
theorem jsw_ok {x : Int32} {d : Int} {H : Heap} {locs : List Loc} {ls : Array Slot} (hH : jHP X μ H locs) (hl : jlo (jad X) (jnL X) L ls) : ∀ (l : List Int) (lo : Int), jsw X k n pc L st μ x d lo l →
    (∀ t : Nat, (pc : Int) + d = (t : Int) → (x.toInt < lo ∨ lo + l.length - 1 < x.toInt) → JW X k n t L st μ) ∨ ∃ (i : Nat) (off : Int), l[i]? = some off ∧ x.toInt = lo + i ∧ ∀ t : Nat, (pc : Int) + off = (t : Int) → JW X k n t L st μ
  | [], lo, h => Or.inl fun t ht _ => h t ht
  | off :: r, lo, h => by
    by_cases e : x.toInt = lo
    · exact Or.inr ⟨0, off, rfl, by simp [e], h.1 e⟩
    · rcases jsw_ok hH hl r (lo + 1) (h.2 e) with h9 | ⟨i, o, h1, h2, h3⟩
      · refine Or.inl fun t ht hx => h9 t ht ?_
        simp only [List.length_cons] at hx
        omega
      · exact Or.inr ⟨i + 1, o, h1, by push_cast; omega, h3⟩
theorem js_tsw (hX : jOK X) {x : Int32} {d lo hi : Int} {offs : Array Int} {len t0 : Nat} (hd : decode (jcc X) pc = .ok (.tableswitch d lo hi offs, len)) (hn : hi = lo + offs.toList.length - 1) (h0 : (pc : Int) + d = (t0 : Int)) (hp : offs.toList.all (fun o => decide (0 ≤ (pc : Int) + o)) = true) (h : jsw X k n pc L st μ x d lo offs.toList) : JW X k n pc L (.int x :: st) μ := fun H locs ls hH hl => by
  by_cases hx : x.toInt < lo ∨ hi < x.toInt
  · rcases jsw_ok hH hl _ _ h with h9 | ⟨i, o, h1, h2, h3⟩
    · exact lv_tableOut hX.1 hX.2.1 hd hx h0 (h9 t0 h0 (by omega) H locs ls hH hl)
    · have := (List.getElem?_eq_some_iff.mp h1).1
      omega
  · have hx1 : ¬ x.toInt < lo := fun z => hx (Or.inl z)
    have hx2 : ¬ hi < x.toInt := fun z => hx (Or.inr z)
    have key : ∀ (l : List Int) (lo : Int), jsw X k n pc L st μ x d lo l → lo ≤ x.toInt → x.toInt < lo + l.length → ∃ (off : Int), l[(x.toInt - lo).toNat]? = some off ∧ ∀ t : Nat, (pc : Int) + off = (t : Int) → JW X k n t L st μ := by
      intro l
      induction l with
      | nil => intro lo _ h1 h2; simp at h2; omega
      | cons off r ih =>
        intro lo h h1 h2
        by_cases e : x.toInt = lo
        · refine ⟨off, ?_, h.1 e⟩
          rw [show (x.toInt - lo).toNat = 0 by omega]
          rfl
        · simp only [List.length_cons] at h2
          obtain ⟨o, g1, g2⟩ := ih (lo + 1) (h.2 e) (by omega) (by omega)
          refine ⟨o, ?_, g2⟩
          rw [show (x.toInt - lo).toNat = (x.toInt - (lo + 1)).toNat + 1 by omega, List.getElem?_cons_succ]
          exact g1
    obtain ⟨off, g1, g2⟩ := key _ _ h (by omega) (by omega)
    have h9 := List.all_eq_true.mp hp off (List.mem_of_getElem? g1)
    simp only [decide_eq_true_eq] at h9
    obtain ⟨t, ht⟩ := Int.eq_ofNat_of_zero_le h9
    exact lv_tableIn hX.1 hX.2.1 hd hx1 hx2 (by rw [← Array.getElem?_toList]; exact g1) ht (g2 t ht H locs ls hH hl)
/-- what a method owes at its end -/
def jQc (D : va_G) (cA : Nat → ClassId) (ad : Nat → Nat) (A : Nat → Prop) (sf : Bool) (B : Nat) (po : Option Value → jH → Prop) : Array Value → State → Outcome → State → Prop := fun _ st oc t =>
  ∃ (o : Option Value) (μ : jH), po o μ ∧ oc = .returned (o.map (jre ad)) ∧ va_P D vwCl (jpl ad cA μ) t.heap ∧ va_D A (jpl ad cA μ) ∧ va_F A st t ∧ (sf = true → jfut ad μ.length t.heap.size B)
def jXC (D : va_G) (cA : Nat → ClassId) (ad : Nat → Nat) (A : Nat → Prop) (px : String → jH → Prop) : String → State → State → Prop := fun E st t =>
  ∃ μ : jH, px E μ ∧ va_P D vwCl (jpl ad cA μ) t.heap ∧ va_D A (jpl ad cA μ) ∧ va_F A st t
def jPost (X : jX) (sf : Bool) (B : Nat) (po : Option Value → jH → Prop) (px : String → jH → Prop) : Prop :=
  jQ X = vx_MQ (jb X) (jQc (jD X) (jcA X) (jad X) (jA X) sf B po) (jXC (jD X) (jcA X) (jad X) (jA X) px) (ja X) (js X) (jmc X) (jms X) (jA X) ∧ (sf = true → B ≤ jal X)
variable {sf : Bool} {B : Nat} {po : Option Value → jH → Prop} {px : String → jH → Prop}
theorem js_iret (hX : jOK X) (hp : jPost X sf B po px) (hr : jrt X = some .int) {v : Int32} (hk : k ≤ jmc X) (hn : n ≤ jms X) (hd : decode (jcc X) pc = .ok (.ireturn, 1)) (h : po (some (.int v)) μ) : JW X k n pc L [.int v] μ := fun H locs ls hH hl => by
  show W _ _ _ _ _ _ _ _ _ _ _ _ _ _ (jQ X) _
  rw [hp.1]
  refine vx_ret (W.widen hk hn ?_)
  exact W.iret hX.1 hX.2.1 (hX.2.2.2.2.2.2.2.2.2.2.2.2.1.trans hr) (fun t ht hW => ⟨some (.int v), μ, h, rfl, by rw [ht]; exact hH.1, hH.2.1, hH.2.2.1.F ht, fun z => by rw [ht]; exact fun j h1 h2 => hH.2.2.2 j h1 (Nat.lt_of_lt_of_le h2 (hp.2 z))⟩) hH.2.2.1.2.2 hd hX.2.2.2.2.2.2.2.1
theorem js_zret (hX : jOK X) (hp : jPost X sf B po px) (hr : jrt X = some .boolean) {v : Int32} (hz : jz v = true) (hk : k ≤ jmc X) (hn : n ≤ jms X) (hd : decode (jcc X) pc = .ok (.ireturn, 1)) (h : po (some (.int v)) μ) : JW X k n pc L [.int v] μ := fun H locs ls hH hl => by
  show W _ _ _ _ _ _ _ _ _ _ _ _ _ _ (jQ X) _
  rw [hp.1]
  refine vx_ret (W.widen hk hn ?_)
  exact W.zret hX.1 hX.2.1 (hX.2.2.2.2.2.2.2.2.2.2.2.2.1.trans hr) (by simp only [jz, Bool.and_eq_true, decide_eq_true_eq] at hz; exact hz.1) (fun t ht hW => ⟨some (.int v), μ, h, rfl, by rw [ht]; exact hH.1, hH.2.1, hH.2.2.1.F ht, fun z => by rw [ht]; exact fun j h1 h2 => hH.2.2.2 j h1 (Nat.lt_of_lt_of_le h2 (hp.2 z))⟩) hH.2.2.1.2.2 hd hX.2.2.2.2.2.2.2.1
theorem js_lret (hX : jOK X) (hp : jPost X sf B po px) (hr : jrt X = some .long) {v : Int64} (hk : k ≤ jmc X) (hn : n ≤ jms X) (hd : decode (jcc X) pc = .ok (.lreturn, 1)) (h : po (some (.long v)) μ) : JW X k n pc L [.long v] μ := fun H locs ls hH hl => by
  show W _ _ _ _ _ _ _ _ _ _ _ _ _ _ (jQ X) _
  rw [hp.1]
  refine vx_ret (W.widen hk hn ?_)
  exact W.lret hX.1 hX.2.1 (hX.2.2.2.2.2.2.2.2.2.2.2.2.1.trans hr) (fun t ht hW => ⟨some (.long v), μ, h, rfl, by rw [ht]; exact hH.1, hH.2.1, hH.2.2.1.F ht, fun z => by rw [ht]; exact fun j h1 h2 => hH.2.2.2 j h1 (Nat.lt_of_lt_of_le h2 (hp.2 z))⟩) hH.2.2.1.2.2 hd hX.2.2.2.2.2.2.2.1
theorem js_vret (hX : jOK X) (hp : jPost X sf B po px) (hr : jrt X = none) (hk : k ≤ jmc X) (hn : n ≤ jms X) (hd : decode (jcc X) pc = .ok (.return_, 1)) (h : po none μ) : JW X k n pc L [] μ := fun H locs ls hH hl => by
  show W _ _ _ _ _ _ _ _ _ _ _ _ _ _ (jQ X) _
  rw [hp.1]
  refine vx_ret (W.widen hk hn ?_)
  exact W.vret hX.1 hX.2.1 (hX.2.2.2.2.2.2.2.2.2.2.2.2.1.trans hr) (fun t ht hW => ⟨none, μ, h, rfl, by rw [ht]; exact hH.1, hH.2.1, hH.2.2.1.F ht, fun z => by rw [ht]; exact fun j h1 h2 => hH.2.2.2 j h1 (Nat.lt_of_lt_of_le h2 (hp.2 z))⟩) hH.2.2.1.2.2 hd hX.2.2.2.2.2.2.2.1
theorem js_aret (hX : jOK X) (hp : jPost X sf B po px) {C : String} (hr : jrt X = some (.object C)) {a : Nat} (hk : k ≤ jmc X) (hn : n ≤ jms X) (hd : decode (jcc X) pc = .ok (.areturn, 1)) (h : po (some (.ref a)) μ) : JW X k n pc L [.ref a] μ := fun H locs ls hH hl => by
  show W _ _ _ _ _ _ _ _ _ _ _ _ _ _ (jQ X) _
  rw [hp.1]
  refine vx_ret (W.widen hk hn ?_)
  exact W.aret hX.1 hX.2.1 (hX.2.2.2.2.2.2.2.2.2.2.2.2.1.trans hr) (Or.inl ⟨C, rfl⟩) (Or.inr ⟨_, rfl⟩) (fun t ht hW => ⟨some (.ref a), μ, h, rfl, by rw [ht]; exact hH.1, hH.2.1, hH.2.2.1.F ht, fun z => by rw [ht]; exact fun j h1 h2 => hH.2.2.2 j h1 (Nat.lt_of_lt_of_le h2 (hp.2 z))⟩) hH.2.2.1.2.2 hd hX.2.2.2.2.2.2.2.1
/-- no handlers -/
def jNT (X : jX) : Prop := ∀ x ∈ (jcd X).exceptionTable.toList, False
theorem JX.out (hX : jOK X) (hp : jPost X sf B po px) (hT : jNT X) {E : String} (hk : k ≤ jmc X) (hn : n ≤ jms X) (h : px E μ) : JX X k n pc L st E μ := fun H locs ls q ce hH hl h1 h2 h3 => by
  rw [hp.1]
  exact vx_out (fun x hx => (hT x hx).elim) hX.2.2.2.2.2.2.2.1 h1 h2 h3 (fun t ht hW => ⟨μ, h, by rw [ht]; exact hH.1, hH.2.1, hH.2.2.1.F ht⟩) hH.2.2.1.2.2 hk hn
/-- throw new E() -/
theorem js_throw (hX : jOK X) (hp : jPost X sf B po px) (hT : jNT X) {cls : String} {names : List String} {ik ic : Nat} (hcls : Bundle.fit cls = true) (hnames : ∀ n ∈ names, Bundle.fit n = true)
    (hw : ∀ w ∈ Cond.classLink (jown X) ik cls :: Cond.initialized cls :: vx_at0 (jown X) ic cls names, w ∈ jbig ∨ (∃ q ∈ jcast, w = .castable q.1 q.2) ∨ ∃ x ∈ jdcl, w = .declares x)
    (d0 : decode (jcc X) pc = .ok (.new ik, 3)) (d3 : decode (jcc X) (pc + 3) = .ok (.dup, 1)) (d4 : decode (jcc X) (pc + 4) = .ok (.invokespecial ic, 3)) (d7 : decode (jcc X) (pc + 7) = .ok (.athrow, 1))
    (hf : names.length + 3 < (jR X).frames) (hlo : (st.map fun v => v.category).sum + (13 * (names.length + 1) + 42) ≤ (jR X).locals) (hk : k + 1 ≤ jmc X) (hn : n + 6 ≤ jms X) (h : px cls μ) : JW X k n pc L st μ := fun H locs ls hH hl => by
  show W _ _ _ _ _ _ _ _ _ _ _ _ _ _ (jQ X) _
  rw [hp.1]
  have hE := hX.2.2.2.2.2.2.2.2.1
  have hb : ∀ w, (w ∈ jbig ∨ (∃ q ∈ jcast, w = .castable q.1 q.2) ∨ ∃ x ∈ jdcl, w = .declares x) → w.before (ja X) (js X) = true ∧ vx_ot w = true := by
    intro w h9
    rcases h9 with h9 | ⟨q, hq, rfl⟩ | ⟨x, hx, rfl⟩
    · exact ⟨hX.2.2.2.2.1 w h9, by unfold vx_ot; rw [jbig_good h9]; simp⟩
    · exact ⟨va_Nw.use rfl (hE.2.2.2.2.2.2.2.1 q hq), rfl⟩
    · exact ⟨va_Nw.use rfl (hE.2.2.2.2.2.2.2.2.2.2.2 x hx), rfl⟩
  have hcat : (st.map (jre (jad X))).map (fun v => v.category) = st.map (fun v => v.category) := by
    rw [List.map_map]
    exact List.map_congr_left fun v _ => jre_cat _ v
  exact vx_throw0 hX.1 hX.2.1 hX.2.2.2.2.2.2.2.2.2.1 hX.2.2.2.1 hcls hnames (hb _ (hw _ List.mem_cons_self)).1 (hb _ (hw _ (List.mem_cons_of_mem _ List.mem_cons_self))).1 (fun w h9 => (hb _ (hw _ (List.mem_cons_of_mem _ (List.mem_cons_of_mem _ h9)))).1) (fun w h9 => (hb _ (hw _ h9)).2) hE.2.1 hE.2.2.1 hH.2.2.1 (hl.1.trans hX.2.2.1.symm) d0 d3 d4 d7 (fun x hx => (hT x hx).elim) hf (by rw [hcat]; exact hlo) (Nat.le_trans hk hX.2.2.2.2.2.2.2.2.2.2.1) (Nat.le_trans hn hX.2.2.2.2.2.2.2.2.2.2.2.1) hX.2.2.2.2.2.2.2.1
    (fun t hW hz ht => ⟨μ, h, hH.1.kept (fun j q hq => ht q.1 ((hH.1 j q hq).lt)), hH.2.1, ⟨Nat.le_trans hH.2.2.1.1 hz, fun q h1 h2 => (ht q (Nat.lt_of_lt_of_le h1 hH.2.2.1.1)).trans (hH.2.2.1.2.1 q h1 h2)⟩⟩) hH.2.2.1.2.2 hk hn
/-- Object's constructor -/
theorem js_objInit (hX : jOK X) {i a : Nat} (hw : ∀ w ∈ [Cond.methodLink (jown X) i Lib.objectInit, Cond.instanceMethod Lib.objectInit, Cond.code Lib.objectInit ⟨#[0xb1]⟩ 1 none], w ∈ jbig) (hd : decode (jcc X) pc = .ok (.invokespecial i, 3)) (hf : 1 ≤ (jR X).frames) (hlo : (st.map fun v => v.category).sum + 12 ≤ (jR X).locals) (K : JW X k n (pc + 3) L st μ) : JW X k n pc L (.ref a :: st) μ := fun H locs ls hH hl => by
  have hcat : (st.map (jre (jad X))).map (fun v => v.category) = st.map (fun v => v.category) := by
    rw [List.map_map]
    exact List.map_congr_left fun v _ => jre_cat _ v
  have hb := fun w h9 => hX.2.2.2.2.1 w (hw w h9)
  exact W.objInit hX.1 hX.2.1 hX.2.2.2.1 (hb _ (by simp)) (hb _ (by simp)) (hb _ (by simp)) rfl (hl.1.trans hX.2.2.1.symm) rfl hd hf (by rw [hcat]; simpa using hlo) (K H locs ls hH hl)
end JB6

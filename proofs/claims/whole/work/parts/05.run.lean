/-! stretches without a branch, by computation -/
def jlk {α : Type} : List (Nat × α) → Nat → Option α
  | [], _ => none
  | q :: r, i => if q.1 = i then some q.2 else jlk r i
theorem jlk_mem {α : Type} : ∀ (l : List (Nat × α)) (i : Nat) (a : α), jlk l i = some a → (i, a) ∈ l
  | [], i, a, h => by cases h
  | q :: r, i, a, h => by
    simp only [jlk] at h
    split at h
    · next e => cases h; subst e; exact List.mem_cons_self
    · exact List.mem_cons_of_mem _ (jlk_mem r i a h)
/-- what an instruction gives: its length, what must hold, locals, stack, world -/
abbrev jO : Type := Option (Nat × Option Prop × List (Option Value) × List Value × jH)
def jii (f : Int32 → Int32 → Int32) (L : List (Option Value)) (st : List Value) (μ : jH) : jO := match st with
  | .int y :: .int x :: r => some (1, none, L, .int (f x y) :: r, μ)
  | _ => none
def jll (f : Int64 → Int64 → Int64) (L : List (Option Value)) (st : List Value) (μ : jH) : jO := match st with
  | .long y :: .long x :: r => some (1, none, L, .long (f x y) :: r, μ)
  | _ => none
def jli (f : Int64 → Int32 → Int64) (L : List (Option Value)) (st : List Value) (μ : jH) : jO := match st with
  | .int y :: .long x :: r => some (1, none, L, .long (f x y) :: r, μ)
  | _ => none
def jid (f : Int32 → Int32 → Int32) (L : List (Option Value)) (st : List Value) (μ : jH) : jO := match st with
  | .int y :: .int x :: r => some (1, some (¬ y = 0), L, .int (f x y) :: r, μ)
  | _ => none
def jld (f : Int64 → Int64 → Int64) (L : List (Option Value)) (st : List Value) (μ : jH) : jO := match st with
  | .long y :: .long x :: r => some (1, some (¬ y = 0), L, .long (f x y) :: r, μ)
  | _ => none
def ji1 (f : Int32 → Int32) (L : List (Option Value)) (st : List Value) (μ : jH) : jO := match st with
  | .int x :: r => some (1, none, L, .int (f x) :: r, μ)
  | _ => none
def jldi (i len : Nat) (L : List (Option Value)) (st : List Value) (μ : jH) : jO := match L[i]? with
  | some (some (.int x)) => some (len, none, L, .int x :: st, μ)
  | _ => none
def jldl (i len : Nat) (L : List (Option Value)) (st : List Value) (μ : jH) : jO := match L[i]? with
  | some (some (.long x)) => some (len, none, L, .long x :: st, μ)
  | _ => none
def jlda (i len : Nat) (L : List (Option Value)) (st : List Value) (μ : jH) : jO := match L[i]? with
  | some (some (.ref x)) => some (len, none, L, .ref x :: st, μ)
  | _ => none
def jsti (nL i len : Nat) (L : List (Option Value)) (st : List Value) (μ : jH) : jO := match st with
  | .int x :: r => if i < nL then some (len, none, jst1 L i (.int x), r, μ) else none
  | _ => none
def jsta (nL i len : Nat) (L : List (Option Value)) (st : List Value) (μ : jH) : jO := match st with
  | .ref x :: r => if i < nL then some (len, none, jst1 L i (.ref x), r, μ) else none
  | _ => none
def jstl (nL i len : Nat) (L : List (Option Value)) (st : List Value) (μ : jH) : jO := match st with
  | .long x :: r => if i + 1 < nL then some (len, none, jst2 L i (.long x), r, μ) else none
  | _ => none
def jinc (nL i : Nat) (c : Int) (L : List (Option Value)) (st : List Value) (μ : jH) : jO := match L[i]? with
  | some (some (.int x)) => if i < nL then some (3, none, jst1 L i (.int (x + Int32.ofInt c)), st, μ) else none
  | _ => none
def jgetf (tb : jT) (i : Nat) (L : List (Option Value)) (st : List Value) (μ : jH) : jO := match st with
  | .ref a :: r => match jlk tb.1 i with
    | some (ci, s, _) => match μ[a]? with
      | some (.inr (.inr (.inl (c, fs)))) => if c = ci then match fs[s]? with
        | some v => some (3, none, L, v :: r, μ)
        | none => none
        else none
      | _ => none
    | none => none
  | _ => none
def jputf (tb : jT) (i : Nat) (L : List (Option Value)) (st : List Value) (μ : jH) : jO := match st with
  | .int x :: .ref a :: r => match jlk tb.1 i with
    | some (ci, s, kd) => match μ[a]? with
      | some (.inr (.inr (.inl (c, fs)))) => if c = ci ∧ s < fs.length then (if kd = 0 then some (3, none, L, r, μ.set a (.inr (.inr (.inl (ci, fs.set s (.int x)))))) else if kd = 1 then some (3, some (jz x = true), L, r, μ.set a (.inr (.inr (.inl (ci, fs.set s (.int x)))))) else none) else none
      | _ => none
    | none => none
  | _ => none
def jaldi (tb : jT) (L : List (Option Value)) (st : List Value) (μ : jH) : jO := match st with
  | .int i :: .ref a :: r => if a = 2000000 then (match tb.2.2.2.2 with
      | some z => some (1, some (jin i z.1 = true), L, .int (z.2 i.toNatClampNeg) :: r, μ)
      | none => none) else match μ[a]? with
    | some (.inl (t, N, f)) => if t = 0 then some (1, some (jin i N = true), L, .int (f i.toNatClampNeg) :: r, μ) else none
    | _ => none
  | _ => none
def jaldb (L : List (Option Value)) (st : List Value) (μ : jH) : jO := match st with
  | .int i :: .ref a :: r => match μ[a]? with
    | some (.inl (t, N, f)) => if t = 2 ∨ t = 3 then some (1, some (jin i N = true), L, .int (f i.toNatClampNeg) :: r, μ) else none
    | _ => none
  | _ => none
def jaldl (L : List (Option Value)) (st : List Value) (μ : jH) : jO := match st with
  | .int i :: .ref a :: r => match μ[a]? with
    | some (.inr (.inl (N, f))) => some (1, some (jin i N = true), L, .long (f i.toNatClampNeg) :: r, μ)
    | _ => none
  | _ => none
def jasti (L : List (Option Value)) (st : List Value) (μ : jH) : jO := match st with
  | .int x :: .int i :: .ref a :: r => match μ[a]? with
    | some (.inl (t, N, f)) => if t = 0 then some (1, some (jin i N = true), L, r, μ.set a (.inl (0, N, upd f i.toNatClampNeg x))) else none
    | _ => none
  | _ => none
def jastb (L : List (Option Value)) (st : List Value) (μ : jH) : jO := match st with
  | .int x :: .int i :: .ref a :: r => match μ[a]? with
    | some (.inl (t, N, f)) => if t = 2 then some (1, some (jin i N = true), L, r, μ.set a (.inl (2, N, upd f i.toNatClampNeg (vp_nar .byte x)))) else if t = 3 then some (1, some (jin i N = true), L, r, μ.set a (.inl (3, N, upd f i.toNatClampNeg (vp_nar .boolean x)))) else none
    | _ => none
  | _ => none
def jastl (L : List (Option Value)) (st : List Value) (μ : jH) : jO := match st with
  | .long x :: .int i :: .ref a :: r => match μ[a]? with
    | some (.inr (.inl (N, f))) => some (1, some (jin i N = true), L, r, μ.set a (.inr (.inl (N, vp_updL f i.toNatClampNeg x))))
    | _ => none
  | _ => none
def jdup (L : List (Option Value)) (st : List Value) (μ : jH) : jO := match st with
  | v :: r => if v.category = 1 then some (1, none, L, v :: v :: r, μ) else none
  | _ => none
def jpop (L : List (Option Value)) (st : List Value) (μ : jH) : jO := match st with
  | v :: r => if v.category = 1 then some (1, none, L, r, μ) else none
  | _ => none
def jpop2 (L : List (Option Value)) (st : List Value) (μ : jH) : jO := match st with
  | v :: r => if v.category = 2 then some (1, none, L, r, μ) else none
  | _ => none
def jdup2 (L : List (Option Value)) (st : List Value) (μ : jH) : jO := match st with
  | v :: u :: r => if v.category = 1 ∧ u.category = 1 then some (1, none, L, v :: u :: v :: u :: r, μ) else none
  | _ => none
def jal' (tb : jT) (L : List (Option Value)) (st : List Value) (μ : jH) : jO := match st with
  | .ref a :: r => if a = 2000000 then (match tb.2.2.2.2 with
      | some z => some (1, none, L, .int (Int32.ofNat z.1) :: r, μ)
      | none => none) else match μ[a]? with
    | some (.inl (t, N, _)) => if t = 0 ∨ t = 2 ∨ t = 3 then some (1, none, L, .int (Int32.ofNat N) :: r, μ) else none
    | some (.inr (.inl (N, _))) => some (1, none, L, .int (Int32.ofNat N) :: r, μ)
    | _ => none
  | _ => none
def jop (tb : jT) (nL : Nat) (i : Instr) (L : List (Option Value)) (st : List Value) (μ : jH) : jO := match i with
  | .iadd => jii (fun x y => x + y) L st μ
  | .isub => jii (fun x y => x - y) L st μ
  | .imul => jii (fun x y => x * y) L st μ
  | .iand => jii (fun x y => x &&& y) L st μ
  | .ior => jii (fun x y => x ||| y) L st μ
  | .ixor => jii (fun x y => x ^^^ y) L st μ
  | .ishl => jii (fun x y => x <<< (y &&& 31)) L st μ
  | .ishr => jii (fun x y => x >>> (y &&& 31)) L st μ
  | .iushr => jii (fun x y => (x.toUInt32 >>> (y.toUInt32 &&& Int32.toUInt32 31)).toInt32) L st μ
  | .idiv => jid (fun x y => x / y) L st μ
  | .irem => jid (fun x y => x - x / y * y) L st μ
  | .ladd => jll (fun x y => x + y) L st μ
  | .lsub => jll (fun x y => x - y) L st μ
  | .lmul => jll (fun x y => x * y) L st μ
  | .land => jll (fun x y => x &&& y) L st μ
  | .lor => jll (fun x y => x ||| y) L st μ
  | .ldiv => jld (fun x y => x / y) L st μ
  | .lrem => jld (fun x y => x - x / y * y) L st μ
  | .lshl => jli (fun x y => x <<< (y.toInt64 &&& 63)) L st μ
  | .lshr => jli (fun x y => x >>> (y.toInt64 &&& 63)) L st μ
  | .lushr => jli (fun x y => (x.toUInt64 >>> (y.toInt64.toUInt64 &&& Int64.toUInt64 63)).toInt64) L st μ
  | .ineg => ji1 (fun x => -x) L st μ
  | .i2b => ji1 (fun x => x.toInt8.toInt32) L st μ
  | .i2s => ji1 (fun x => x.toInt16.toInt32) L st μ
  | .i2c => ji1 (fun x => (x.toUInt32 % 65536).toInt32) L st μ
  | .lcmp => (match st with
    | .long y :: .long x :: r => some (1, none, L, .int (lg_cmp x y) :: r, μ)
    | _ => none)
  | .i2l => (match st with
    | .int x :: r => some (1, none, L, .long x.toInt64 :: r, μ)
    | _ => none)
  | .l2i => (match st with
    | .long x :: r => some (1, none, L, .int x.toInt32 :: r, μ)
    | _ => none)
  | .iconst i => some (1, none, L, .int (Int32.ofInt i) :: st, μ)
  | .bipush i => some (2, none, L, .int (Int8.ofInt i).toInt32 :: st, μ)
  | .sipush i => some (3, none, L, .int (Int16.ofInt i).toInt32 :: st, μ)
  | .lconst i => some (1, none, L, .long (Int64.ofNat (i : Nat)) :: st, μ)
  | .iload_n i => jldi (i : Nat) 1 L st μ
  | .iload i => jldi i 2 L st μ
  | .lload_n i => jldl (i : Nat) 1 L st μ
  | .lload i => jldl i 2 L st μ
  | .aload_n i => jlda (i : Nat) 1 L st μ
  | .aload i => jlda i 2 L st μ
  | .istore_n i => jsti nL (i : Nat) 1 L st μ
  | .istore i => jsti nL i 2 L st μ
  | .lstore_n i => jstl nL (i : Nat) 1 L st μ
  | .lstore i => jstl nL i 2 L st μ
  | .astore_n i => jsta nL (i : Nat) 1 L st μ
  | .astore i => jsta nL i 2 L st μ
  | .iinc i c => jinc nL i c L st μ
  | .dup => jdup L st μ
  | .pop => jpop L st μ
  | .pop2 => jpop2 L st μ
  | .dup2 => jdup2 L st μ
  | .ldc i => (match jlk tb.2.1 i with
    | some v => some (2, none, L, .int v :: st, μ)
    | none => none)
  | .ldc_w i => (match jlk tb.2.1 i with
    | some v => some (3, none, L, .int v :: st, μ)
    | none => none)
  | .ldc2_w i => (match jlk tb.2.2.1 i with
    | some v => some (3, none, L, .long v :: st, μ)
    | none => none)
  | .getfield i => jgetf tb i L st μ
  | .putfield i => jputf tb i L st μ
  | .iaload => jaldi tb L st μ
  | .baload => jaldb L st μ
  | .laload => jaldl L st μ
  | .iastore => jasti L st μ
  | .bastore => jastb L st μ
  | .lastore => jastl L st μ
  | .arraylength => jal' tb L st μ
  | _ => none
set_option maxHeartbeats 4000000 in
theorem jop_ok {X : jX} (hX : jOK X) {k n pc len : Nat} {i : Instr} {g : Option Prop} {L L2 : List (Option Value)} {st st2 : List Value} {μ μ2 : jH} (h : jop (jtb X) (jnL X) i L st μ = some (len, g, L2, st2, μ2)) (hg : ∀ p, g = some p → p) (hd : decode (jcc X) pc = .ok (i, len)) (K : JW X k n (pc + len) L2 st2 μ2) : JW X k n pc L st μ := by
  unfold jop at h
  split at h
  · unfold jii at h; split at h <;> cases h; exact js_iadd hX hd K
  · unfold jii at h; split at h <;> cases h; exact js_isub hX hd K
  · unfold jii at h; split at h <;> cases h; exact js_imul hX hd K
  · unfold jii at h; split at h <;> cases h; exact js_iand hX hd K
  · unfold jii at h; split at h <;> cases h; exact js_ior hX hd K
  · unfold jii at h; split at h <;> cases h; exact js_ixor hX hd K
  · unfold jii at h; split at h <;> cases h; exact js_ishl hX hd K
  · unfold jii at h; split at h <;> cases h; exact js_ishr hX hd K
  · unfold jii at h; split at h <;> cases h; exact js_iushr hX hd K
  · unfold jid at h; split at h <;> cases h; exact js_idiv hX (hg _ rfl) hd K
  · unfold jid at h; split at h <;> cases h; exact js_irem hX (hg _ rfl) hd K
  · unfold jll at h; split at h <;> cases h; exact js_ladd hX hd K
  · unfold jll at h; split at h <;> cases h; exact js_lsub hX hd K
  · unfold jll at h; split at h <;> cases h; exact js_lmul hX hd K
  · unfold jll at h; split at h <;> cases h; exact js_land hX hd K
  · unfold jll at h; split at h <;> cases h; exact js_lor hX hd K
  · unfold jld at h; split at h <;> cases h; exact js_ldiv hX (hg _ rfl) hd K
  · unfold jld at h; split at h <;> cases h; exact js_lrem hX (hg _ rfl) hd K
  · unfold jli at h; split at h <;> cases h; exact js_lshl hX hd K
  · unfold jli at h; split at h <;> cases h; exact js_lshr hX hd K
  · unfold jli at h; split at h <;> cases h; exact js_lushr hX hd K
  · unfold ji1 at h; split at h <;> cases h; exact js_ineg hX hd K
  · unfold ji1 at h; split at h <;> cases h; exact js_i2b hX hd K
  · unfold ji1 at h; split at h <;> cases h; exact js_i2s hX hd K
  · unfold ji1 at h; split at h <;> cases h; exact js_i2c hX hd K
  · split at h <;> cases h; exact js_lcmp hX hd K
  · split at h <;> cases h; exact js_i2l hX hd K
  · split at h <;> cases h; exact js_l2i hX hd K
  · cases h; exact js_iconst hX hd K
  · cases h; exact js_bipush hX hd K
  · cases h; exact js_sipush hX hd K
  · cases h; exact js_lconst hX hd K
  · unfold jldi at h; split at h <;> cases h; exact js_iload_n hX (by assumption) hd K
  · unfold jldi at h; split at h <;> cases h; exact js_iload hX (by assumption) hd K
  · unfold jldl at h; split at h <;> cases h; exact js_lload_n hX (by assumption) hd K
  · unfold jldl at h; split at h <;> cases h; exact js_lload hX (by assumption) hd K
  · unfold jlda at h; split at h <;> cases h; exact js_aload_n hX (by assumption) hd K
  · unfold jlda at h; split at h <;> cases h; exact js_aload hX (by assumption) hd K
  · unfold jsti at h; split at h
    · split at h
      · cases h; exact js_istore_n hX (by assumption) hd K
      · cases h
    · cases h
  · unfold jsti at h; split at h
    · split at h
      · cases h; exact js_istore hX (by assumption) hd K
      · cases h
    · cases h
  · unfold jstl at h; split at h
    · split at h
      · cases h; exact js_lstore_n hX (by assumption) hd K
      · cases h
    · cases h
  · unfold jstl at h; split at h
    · split at h
      · cases h; exact js_lstore hX (by assumption) hd K
      · cases h
    · cases h
  · unfold jsta at h; split at h
    · split at h
      · cases h; exact js_astore_n hX (by assumption) hd K
      · cases h
    · cases h
  · unfold jsta at h; split at h
    · split at h
      · cases h; exact js_astore hX (by assumption) hd K
      · cases h
    · cases h
  · unfold jinc at h; split at h
    · split at h
      · cases h; exact js_iinc hX (by assumption) (by assumption) hd K
      · cases h
    · cases h
  · unfold jdup at h; split at h
    · split at h
      · cases h; exact js_dup hX (by assumption) hd K
      · cases h
    · cases h
  · unfold jpop at h; split at h
    · split at h
      · cases h; exact js_pop hX (by assumption) hd K
      · cases h
    · cases h
  · unfold jpop2 at h; split at h
    · split at h
      · cases h; exact js_pop2 hX (by assumption) hd K
      · cases h
    · cases h
  · unfold jdup2 at h; split at h
    · split at h
      · next hc => cases h; exact js_dup2 hX hc.1 hc.2 hd K
      · cases h
    · cases h
  · split at h <;> cases h; exact js_ldc hX (jlk_mem _ _ _ (by assumption)) hd K
  · split at h <;> cases h; exact js_ldcw hX (jlk_mem _ _ _ (by assumption)) hd K
  · split at h <;> cases h; exact js_ldc2 hX (jlk_mem _ _ _ (by assumption)) hd K
  · unfold jgetf at h; split at h
    · split at h
      · next ht =>
        split at h
        · next hm =>
          split at h
          · next hc =>
            split at h
            · next hv => subst hc; cases h; exact js_get hX (jlk_mem _ _ _ ht) hm hv hd K
            · cases h
          · cases h
        · cases h
      · cases h
    · cases h
  · unfold jputf at h; split at h
    · split at h
      · next ht =>
        split at h
        · next hm =>
          split at h
          · next hc =>
            obtain ⟨rfl, hs⟩ := hc
            split at h
            · next hk => subst hk; cases h; exact js_put hX (jlk_mem _ _ _ ht) hm hs hd K
            · split at h
              · next hk => subst hk; cases h; exact js_putz hX (hg _ rfl) (jlk_mem _ _ _ ht) hm hs hd K
              · cases h
          · cases h
        · cases h
      · cases h
    · cases h
  · unfold jaldi at h; split at h
    · split at h
      · next ha =>
        subst ha
        split at h
        · next hz => cases h; exact js_sald hX hz (hg _ rfl) hd K
        · cases h
      · split at h
        · next hm =>
          split at h
          · next ht => subst ht; cases h; exact js_iald hX hm (hg _ rfl) hd K
          · cases h
        · cases h
    · cases h
  · unfold jaldb at h; split at h
    · split at h
      · next hm =>
        split at h
        · next ht =>
          cases h
          rcases ht with rfl | rfl
          · exact js_bald hX hm (hg _ rfl) hd K
          · exact js_zald hX hm (hg _ rfl) hd K
        · cases h
      · cases h
    · cases h
  · unfold jaldl at h; split at h
    · split at h
      · cases h; exact js_lald hX (by assumption) (hg _ rfl) hd K
      · cases h
    · cases h
  · unfold jasti at h; split at h
    · split at h
      · next hm =>
        split at h
        · next ht => subst ht; cases h; exact js_iast hX hm (hg _ rfl) hd K
        · cases h
      · cases h
    · cases h
  · unfold jastb at h; split at h
    · split at h
      · next hm =>
        split at h
        · next ht => subst ht; cases h; exact js_bast hX hm (hg _ rfl) hd K
        · split at h
          · next ht => subst ht; cases h; exact js_zast hX hm (hg _ rfl) hd K
          · cases h
      · cases h
    · cases h
  · unfold jastl at h; split at h
    · split at h
      · cases h; exact js_last hX (by assumption) (hg _ rfl) hd K
      · cases h
    · cases h
  · unfold jal' at h; split at h
    · split at h
      · next ha =>
        subst ha
        split at h
        · next hz => cases h; exact js_salen hX hz hd K
        · cases h
      · split at h
        · next hm =>
          split at h
          · next ht => cases h; exact js_alen hX ht hm hd K
          · cases h
        · next hm => cases h; exact js_llen hX hm hd K
        · cases h
    · cases h
  · cases h
def jrun (tb : jT) (nL : Nat) : List (Nat × Instr × Nat) → Nat → List (Option Value) → List Value → jH → Option (Prop × Nat × List (Option Value) × List Value × jH)
  | [], pc, L, st, μ => some (True, pc, L, st, μ)
  | q :: r, pc, L, st, μ => if pc = q.1 then (match q.2.1 with
    | .goto off => if q.2.2 = 3 ∧ (pc : Int) + off = (((pc : Int) + off).toNat : Int) then jrun tb nL r ((pc : Int) + off).toNat L st μ else none
    | i => match jop tb nL i L st μ with
      | some (len, none, L2, st2, μ2) => if q.2.2 = len then jrun tb nL r (pc + len) L2 st2 μ2 else none
      | some (len, some g, L2, st2, μ2) => if q.2.2 = len then (match jrun tb nL r (pc + len) L2 st2 μ2 with
        | some (g2, z) => some (g ∧ g2, z)
        | none => none) else none
      | none => none) else none
theorem jrun_ok {X : jX} (hX : jOK X) {k n : Nat} : ∀ (is : List (Nat × Instr × Nat)) {pc pc2 : Nat} {g : Prop} {L L2 : List (Option Value)} {st st2 : List Value} {μ μ2 : jH}, (∀ q ∈ is, decode (jcc X) q.1 = .ok q.2) → jrun (jtb X) (jnL X) is pc L st μ = some (g, pc2, L2, st2, μ2) → g → JW X k n pc2 L2 st2 μ2 → JW X k n pc L st μ
  | [], pc, pc2, g, L, L2, st, st2, μ, μ2, hd, h, hg, K => by
    simp only [jrun, Option.some.injEq, Prod.mk.injEq] at h
    obtain ⟨-, rfl, rfl, rfl, rfl⟩ := h
    exact K
  | q :: r, pc, pc2, g, L, L2, st, st2, μ, μ2, hd, h, hg, K => by
    have hdr : ∀ z ∈ r, decode (jcc X) z.1 = .ok z.2 := fun z hz => hd z (List.mem_cons_of_mem _ hz)
    have hd0 := hd q List.mem_cons_self
    obtain ⟨q1, q2, q3⟩ := q
    dsimp only at hd0
    unfold jrun at h
    dsimp only at h
    split at h
    · next e =>
      subst e
      split at h
      · next off =>
        split at h
        · next he =>
          obtain ⟨he1, he2⟩ := he
          subst he1
          have K9 := jrun_ok hX r hdr h hg K
          exact fun H locs ls hH hl => lv_goto hX.1 hX.2.1 hd0 he2 (K9 H locs ls hH hl)
        · cases h
      · split at h
        · next hj =>
          split at h
          · next e9 =>
            subst e9
            exact jop_ok hX hj (fun p hp => by cases hp) hd0 (jrun_ok hX r hdr h hg K)
          · cases h
        · next hj =>
          split at h
          · next e9 =>
            subst e9
            split at h
            · next h9 =>
              simp only [Option.some.injEq, Prod.mk.injEq] at h
              obtain ⟨rfl, rfl⟩ := h
              exact jop_ok hX hj (fun p hp => by cases hp; exact hg.1) hd0 (jrun_ok hX r hdr h9 hg.2 K)
            · cases h
          · cases h
        · cases h
    · cases h
/-- a method's instructions -/
def jDec (X : jX) (C : List (Nat × Instr × Nat)) : Prop := ∀ q ∈ C, decode (jcc X) q.1 = .ok q.2
/-- which constants, how many locals -/
def jTN (X : jX) (tb : jT) (nL : Nat) : Prop := jtb X = tb ∧ jnL X = nL
theorem JW.run {X : jX} (hX : jOK X) {C : List (Nat × Instr × Nat)} {tb : jT} {nL : Nat} (hC : jDec X C) (hT : jTN X tb nL) (a m : Nat) {k n pc pc2 : Nat} {g : Prop} {L L2 : List (Option Value)} {st st2 : List Value} {μ μ2 : jH} (h : jrun tb nL ((C.drop a).take m) pc L st μ = some (g, pc2, L2, st2, μ2)) (hg : g) (K : JW X k n pc2 L2 st2 μ2) : JW X k n pc L st μ :=
  jrun_ok hX _ (fun q hq => hC q (List.mem_of_mem_drop (List.mem_of_mem_take hq))) (by rw [hT.1, hT.2]; exact h) hg K

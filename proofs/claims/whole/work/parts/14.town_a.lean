def p_J6_bitCount_0f7a4 (N : Nat) (p0 : Int32) : Option (Int32) :=
  some ((((((((p0 - ((p0.toUInt32 >>> ((1 : Int32).toUInt32 &&& Int32.toUInt32 31)).toInt32 &&& (1431655765 : Int32))) &&& (858993459 : Int32)) + (((p0 - ((p0.toUInt32 >>> ((1 : Int32).toUInt32 &&& Int32.toUInt32 31)).toInt32 &&& (1431655765 : Int32))).toUInt32 >>> ((2 : Int32).toUInt32 &&& Int32.toUInt32 31)).toInt32 &&& (858993459 : Int32))) + ((((p0 - ((p0.toUInt32 >>> ((1 : Int32).toUInt32 &&& Int32.toUInt32 31)).toInt32 &&& (1431655765 : Int32))) &&& (858993459 : Int32)) + (((p0 - ((p0.toUInt32 >>> ((1 : Int32).toUInt32 &&& Int32.toUInt32 31)).toInt32 &&& (1431655765 : Int32))).toUInt32 >>> ((2 : Int32).toUInt32 &&& Int32.toUInt32 31)).toInt32 &&& (858993459 : Int32))).toUInt32 >>> ((4 : Int32).toUInt32 &&& Int32.toUInt32 31)).toInt32) &&& (252645135 : Int32)) + ((((((p0 - ((p0.toUInt32 >>> ((1 : Int32).toUInt32 &&& Int32.toUInt32 31)).toInt32 &&& (1431655765 : Int32))) &&& (858993459 : Int32)) + (((p0 - ((p0.toUInt32 >>> ((1 : Int32).toUInt32 &&& Int32.toUInt32 31)).toInt32 &&& (1431655765 : Int32))).toUInt32 >>> ((2 : Int32).toUInt32 &&& Int32.toUInt32 31)).toInt32 &&& (858993459 : Int32))) + ((((p0 - ((p0.toUInt32 >>> ((1 : Int32).toUInt32 &&& Int32.toUInt32 31)).toInt32 &&& (1431655765 : Int32))) &&& (858993459 : Int32)) + (((p0 - ((p0.toUInt32 >>> ((1 : Int32).toUInt32 &&& Int32.toUInt32 31)).toInt32 &&& (1431655765 : Int32))).toUInt32 >>> ((2 : Int32).toUInt32 &&& Int32.toUInt32 31)).toInt32 &&& (858993459 : Int32))).toUInt32 >>> ((4 : Int32).toUInt32 &&& Int32.toUInt32 31)).toInt32) &&& (252645135 : Int32)).toUInt32 >>> ((8 : Int32).toUInt32 &&& Int32.toUInt32 31)).toInt32) + (((((((p0 - ((p0.toUInt32 >>> ((1 : Int32).toUInt32 &&& Int32.toUInt32 31)).toInt32 &&& (1431655765 : Int32))) &&& (858993459 : Int32)) + (((p0 - ((p0.toUInt32 >>> ((1 : Int32).toUInt32 &&& Int32.toUInt32 31)).toInt32 &&& (1431655765 : Int32))).toUInt32 >>> ((2 : Int32).toUInt32 &&& Int32.toUInt32 31)).toInt32 &&& (858993459 : Int32))) + ((((p0 - ((p0.toUInt32 >>> ((1 : Int32).toUInt32 &&& Int32.toUInt32 31)).toInt32 &&& (1431655765 : Int32))) &&& (858993459 : Int32)) + (((p0 - ((p0.toUInt32 >>> ((1 : Int32).toUInt32 &&& Int32.toUInt32 31)).toInt32 &&& (1431655765 : Int32))).toUInt32 >>> ((2 : Int32).toUInt32 &&& Int32.toUInt32 31)).toInt32 &&& (858993459 : Int32))).toUInt32 >>> ((4 : Int32).toUInt32 &&& Int32.toUInt32 31)).toInt32) &&& (252645135 : Int32)) + ((((((p0 - ((p0.toUInt32 >>> ((1 : Int32).toUInt32 &&& Int32.toUInt32 31)).toInt32 &&& (1431655765 : Int32))) &&& (858993459 : Int32)) + (((p0 - ((p0.toUInt32 >>> ((1 : Int32).toUInt32 &&& Int32.toUInt32 31)).toInt32 &&& (1431655765 : Int32))).toUInt32 >>> ((2 : Int32).toUInt32 &&& Int32.toUInt32 31)).toInt32 &&& (858993459 : Int32))) + ((((p0 - ((p0.toUInt32 >>> ((1 : Int32).toUInt32 &&& Int32.toUInt32 31)).toInt32 &&& (1431655765 : Int32))) &&& (858993459 : Int32)) + (((p0 - ((p0.toUInt32 >>> ((1 : Int32).toUInt32 &&& Int32.toUInt32 31)).toInt32 &&& (1431655765 : Int32))).toUInt32 >>> ((2 : Int32).toUInt32 &&& Int32.toUInt32 31)).toInt32 &&& (858993459 : Int32))).toUInt32 >>> ((4 : Int32).toUInt32 &&& Int32.toUInt32 31)).toInt32) &&& (252645135 : Int32)).toUInt32 >>> ((8 : Int32).toUInt32 &&& Int32.toUInt32 31)).toInt32).toUInt32 >>> ((16 : Int32).toUInt32 &&& Int32.toUInt32 31)).toInt32) &&& (63 : Int32))
set_option maxHeartbeats 4000000 in
set_option maxRecDepth 100000 in
theorem t_J6_bitCount_0f7a4 {X : jX} {po : Option Value → jH → Prop} {px : String → jH → Prop} {sf : Bool} {B9 : Nat} (hM : jMX X kJ6_bitCount_0f7a4 RJ6 tbI 1 ⟨0, 0, 0, 0⟩ (some .int) 1) (hp : jPost X sf B9 po px) (N : Nat) (p0 : Int32) {res : Int32} (h : p_J6_bitCount_0f7a4 N p0 = some res) (hq : po (some (.int res)) hE) : JW X 0 0 0 [some (.int p0)] [] hE := by
  unfold p_J6_bitCount_0f7a4 at h
  refine JW.r hM 0 41 (pc2 := 52) (L2 := [some (.int (((((((p0 - ((p0.toUInt32 >>> ((1 : Int32).toUInt32 &&& Int32.toUInt32 31)).toInt32 &&& (1431655765 : Int32))) &&& (858993459 : Int32)) + (((p0 - ((p0.toUInt32 >>> ((1 : Int32).toUInt32 &&& Int32.toUInt32 31)).toInt32 &&& (1431655765 : Int32))).toUInt32 >>> ((2 : Int32).toUInt32 &&& Int32.toUInt32 31)).toInt32 &&& (858993459 : Int32))) + ((((p0 - ((p0.toUInt32 >>> ((1 : Int32).toUInt32 &&& Int32.toUInt32 31)).toInt32 &&& (1431655765 : Int32))) &&& (858993459 : Int32)) + (((p0 - ((p0.toUInt32 >>> ((1 : Int32).toUInt32 &&& Int32.toUInt32 31)).toInt32 &&& (1431655765 : Int32))).toUInt32 >>> ((2 : Int32).toUInt32 &&& Int32.toUInt32 31)).toInt32 &&& (858993459 : Int32))).toUInt32 >>> ((4 : Int32).toUInt32 &&& Int32.toUInt32 31)).toInt32) &&& (252645135 : Int32)) + ((((((p0 - ((p0.toUInt32 >>> ((1 : Int32).toUInt32 &&& Int32.toUInt32 31)).toInt32 &&& (1431655765 : Int32))) &&& (858993459 : Int32)) + (((p0 - ((p0.toUInt32 >>> ((1 : Int32).toUInt32 &&& Int32.toUInt32 31)).toInt32 &&& (1431655765 : Int32))).toUInt32 >>> ((2 : Int32).toUInt32 &&& Int32.toUInt32 31)).toInt32 &&& (858993459 : Int32))) + ((((p0 - ((p0.toUInt32 >>> ((1 : Int32).toUInt32 &&& Int32.toUInt32 31)).toInt32 &&& (1431655765 : Int32))) &&& (858993459 : Int32)) + (((p0 - ((p0.toUInt32 >>> ((1 : Int32).toUInt32 &&& Int32.toUInt32 31)).toInt32 &&& (1431655765 : Int32))).toUInt32 >>> ((2 : Int32).toUInt32 &&& Int32.toUInt32 31)).toInt32 &&& (858993459 : Int32))).toUInt32 >>> ((4 : Int32).toUInt32 &&& Int32.toUInt32 31)).toInt32) &&& (252645135 : Int32)).toUInt32 >>> ((8 : Int32).toUInt32 &&& Int32.toUInt32 31)).toInt32) + (((((((p0 - ((p0.toUInt32 >>> ((1 : Int32).toUInt32 &&& Int32.toUInt32 31)).toInt32 &&& (1431655765 : Int32))) &&& (858993459 : Int32)) + (((p0 - ((p0.toUInt32 >>> ((1 : Int32).toUInt32 &&& Int32.toUInt32 31)).toInt32 &&& (1431655765 : Int32))).toUInt32 >>> ((2 : Int32).toUInt32 &&& Int32.toUInt32 31)).toInt32 &&& (858993459 : Int32))) + ((((p0 - ((p0.toUInt32 >>> ((1 : Int32).toUInt32 &&& Int32.toUInt32 31)).toInt32 &&& (1431655765 : Int32))) &&& (858993459 : Int32)) + (((p0 - ((p0.toUInt32 >>> ((1 : Int32).toUInt32 &&& Int32.toUInt32 31)).toInt32 &&& (1431655765 : Int32))).toUInt32 >>> ((2 : Int32).toUInt32 &&& Int32.toUInt32 31)).toInt32 &&& (858993459 : Int32))).toUInt32 >>> ((4 : Int32).toUInt32 &&& Int32.toUInt32 31)).toInt32) &&& (252645135 : Int32)) + ((((((p0 - ((p0.toUInt32 >>> ((1 : Int32).toUInt32 &&& Int32.toUInt32 31)).toInt32 &&& (1431655765 : Int32))) &&& (858993459 : Int32)) + (((p0 - ((p0.toUInt32 >>> ((1 : Int32).toUInt32 &&& Int32.toUInt32 31)).toInt32 &&& (1431655765 : Int32))).toUInt32 >>> ((2 : Int32).toUInt32 &&& Int32.toUInt32 31)).toInt32 &&& (858993459 : Int32))) + ((((p0 - ((p0.toUInt32 >>> ((1 : Int32).toUInt32 &&& Int32.toUInt32 31)).toInt32 &&& (1431655765 : Int32))) &&& (858993459 : Int32)) + (((p0 - ((p0.toUInt32 >>> ((1 : Int32).toUInt32 &&& Int32.toUInt32 31)).toInt32 &&& (1431655765 : Int32))).toUInt32 >>> ((2 : Int32).toUInt32 &&& Int32.toUInt32 31)).toInt32 &&& (858993459 : Int32))).toUInt32 >>> ((4 : Int32).toUInt32 &&& Int32.toUInt32 31)).toInt32) &&& (252645135 : Int32)).toUInt32 >>> ((8 : Int32).toUInt32 &&& Int32.toUInt32 31)).toInt32).toUInt32 >>> ((16 : Int32).toUInt32 &&& Int32.toUInt32 31)).toInt32))]) (st2 := [.int ((((((((p0 - ((p0.toUInt32 >>> ((1 : Int32).toUInt32 &&& Int32.toUInt32 31)).toInt32 &&& (1431655765 : Int32))) &&& (858993459 : Int32)) + (((p0 - ((p0.toUInt32 >>> ((1 : Int32).toUInt32 &&& Int32.toUInt32 31)).toInt32 &&& (1431655765 : Int32))).toUInt32 >>> ((2 : Int32).toUInt32 &&& Int32.toUInt32 31)).toInt32 &&& (858993459 : Int32))) + ((((p0 - ((p0.toUInt32 >>> ((1 : Int32).toUInt32 &&& Int32.toUInt32 31)).toInt32 &&& (1431655765 : Int32))) &&& (858993459 : Int32)) + (((p0 - ((p0.toUInt32 >>> ((1 : Int32).toUInt32 &&& Int32.toUInt32 31)).toInt32 &&& (1431655765 : Int32))).toUInt32 >>> ((2 : Int32).toUInt32 &&& Int32.toUInt32 31)).toInt32 &&& (858993459 : Int32))).toUInt32 >>> ((4 : Int32).toUInt32 &&& Int32.toUInt32 31)).toInt32) &&& (252645135 : Int32)) + ((((((p0 - ((p0.toUInt32 >>> ((1 : Int32).toUInt32 &&& Int32.toUInt32 31)).toInt32 &&& (1431655765 : Int32))) &&& (858993459 : Int32)) + (((p0 - ((p0.toUInt32 >>> ((1 : Int32).toUInt32 &&& Int32.toUInt32 31)).toInt32 &&& (1431655765 : Int32))).toUInt32 >>> ((2 : Int32).toUInt32 &&& Int32.toUInt32 31)).toInt32 &&& (858993459 : Int32))) + ((((p0 - ((p0.toUInt32 >>> ((1 : Int32).toUInt32 &&& Int32.toUInt32 31)).toInt32 &&& (1431655765 : Int32))) &&& (858993459 : Int32)) + (((p0 - ((p0.toUInt32 >>> ((1 : Int32).toUInt32 &&& Int32.toUInt32 31)).toInt32 &&& (1431655765 : Int32))).toUInt32 >>> ((2 : Int32).toUInt32 &&& Int32.toUInt32 31)).toInt32 &&& (858993459 : Int32))).toUInt32 >>> ((4 : Int32).toUInt32 &&& Int32.toUInt32 31)).toInt32) &&& (252645135 : Int32)).toUInt32 >>> ((8 : Int32).toUInt32 &&& Int32.toUInt32 31)).toInt32) + (((((((p0 - ((p0.toUInt32 >>> ((1 : Int32).toUInt32 &&& Int32.toUInt32 31)).toInt32 &&& (1431655765 : Int32))) &&& (858993459 : Int32)) + (((p0 - ((p0.toUInt32 >>> ((1 : Int32).toUInt32 &&& Int32.toUInt32 31)).toInt32 &&& (1431655765 : Int32))).toUInt32 >>> ((2 : Int32).toUInt32 &&& Int32.toUInt32 31)).toInt32 &&& (858993459 : Int32))) + ((((p0 - ((p0.toUInt32 >>> ((1 : Int32).toUInt32 &&& Int32.toUInt32 31)).toInt32 &&& (1431655765 : Int32))) &&& (858993459 : Int32)) + (((p0 - ((p0.toUInt32 >>> ((1 : Int32).toUInt32 &&& Int32.toUInt32 31)).toInt32 &&& (1431655765 : Int32))).toUInt32 >>> ((2 : Int32).toUInt32 &&& Int32.toUInt32 31)).toInt32 &&& (858993459 : Int32))).toUInt32 >>> ((4 : Int32).toUInt32 &&& Int32.toUInt32 31)).toInt32) &&& (252645135 : Int32)) + ((((((p0 - ((p0.toUInt32 >>> ((1 : Int32).toUInt32 &&& Int32.toUInt32 31)).toInt32 &&& (1431655765 : Int32))) &&& (858993459 : Int32)) + (((p0 - ((p0.toUInt32 >>> ((1 : Int32).toUInt32 &&& Int32.toUInt32 31)).toInt32 &&& (1431655765 : Int32))).toUInt32 >>> ((2 : Int32).toUInt32 &&& Int32.toUInt32 31)).toInt32 &&& (858993459 : Int32))) + ((((p0 - ((p0.toUInt32 >>> ((1 : Int32).toUInt32 &&& Int32.toUInt32 31)).toInt32 &&& (1431655765 : Int32))) &&& (858993459 : Int32)) + (((p0 - ((p0.toUInt32 >>> ((1 : Int32).toUInt32 &&& Int32.toUInt32 31)).toInt32 &&& (1431655765 : Int32))).toUInt32 >>> ((2 : Int32).toUInt32 &&& Int32.toUInt32 31)).toInt32 &&& (858993459 : Int32))).toUInt32 >>> ((4 : Int32).toUInt32 &&& Int32.toUInt32 31)).toInt32) &&& (252645135 : Int32)).toUInt32 >>> ((8 : Int32).toUInt32 &&& Int32.toUInt32 31)).toInt32).toUInt32 >>> ((16 : Int32).toUInt32 &&& Int32.toUInt32 31)).toInt32) &&& (63 : Int32))]) (μ2 := hE) rfl trivial ?_
  cases h
  exact js_iret hM.1 hp hM.2.2.2.2.2.2.2.1 (by rw [hM.2.2.2.2.2.1]; exact Nat.le_of_ble_eq_true rfl) (by rw [hM.2.2.2.2.2.2.1]; exact Nat.le_of_ble_eq_true rfl) (jat hM.2.1 41 rfl) hq
theorem m_J6_bitCount_0f7a4 (V : jV) (hV : V.1.stackTraces = false) (N : Nat) (p0 : Int32) (v : Int32) (h : p_J6_bitCount_0f7a4 N p0 = some v) : jMet V yJ6_bitCount_0f7a4 (jws yJ6_bitCount_0f7a4 cJ6_bitCount_0f7a4 1 (some .int)) ⟨0, 0, 0, 0⟩ true 1 [.int p0] hE (fun o ν => o = some (.int v) ∧ ν = hE) (fun _ _ => False) := by
  refine jmk (tb := tbI) (C := kJ6_bitCount_0f7a4) hV rfl (by decide) tbI_ok rfl kJ6_bitCount_0f7a4_ok rfl ?_
  intro X hM _ hp _
  exact t_J6_bitCount_0f7a4 hM hp N p0 h ⟨rfl, rfl⟩
def p_J7_fill_53178_F6_b5 (N : Nat) : Nat → (Nat → Nat → Int32) → (Int32) → (Int32) → (Int32) → Option ((Nat → Nat → Int32))
  | 0, _, _, _, _ => none
  | n + 1, G, x1, x2, x3 => if x3 ≤ x2 then (some G) else (if jin x2 6 = true then jlt (jup G 0 x2.toNatClampNeg x1) fun G2 => (p_J7_fill_53178_F6_b5 N n) G2 x1 (x2 + 1) x3 else none)
def p_J7_fill_53178_F6 (N : Nat) (G : Nat → Nat → Int32) (p0 : Int32) : Option ((Nat → Nat → Int32)) :=
  p_J7_fill_53178_F6_b5 N N G p0 (0 : Int32) (Int32.ofNat 6)
set_option maxHeartbeats 4000000 in
set_option maxRecDepth 100000 in
theorem t_J7_fill_53178_F6_b5 {X : jX} {po : Option Value → jH → Prop} {px : String → jH → Prop} {sf : Bool} {B9 : Nat} (hM : jMX X kJ7_fill_53178 RJ7 tbA 4 ⟨0, 0, 0, 0⟩ none 2) (hp : jPost X sf B9 po px) (N : Nat) {res : (Nat → Nat → Int32)} : ∀ (n : Nat) (G : Nat → Nat → Int32) (x1 : Int32) (x2 : Int32) (x3 : Int32) (h : p_J7_fill_53178_F6_b5 N n G x1 x2 x3 = some res) (hq : po none (hF6 res)), JW X 0 0 5 [some (.ref 0), some (.int x1), some (.int x2), some (.int x3)] [] (hF6 G) := by
  intro n
  induction n with
  | zero =>
    intro G x1 x2 x3 h hq
    cases (show (none : Option ((Nat → Nat → Int32))) = some res from h)
  | succ n ih5 =>
    intro G x1 x2 x3 h hq
    have ih5 := fun G x1 x2 x3 h9 => ih5 G x1 x2 x3 h9 hq
    rw [p_J7_fill_53178_F6_b5] at h
    refine JW.r hM 5 2 (pc2 := 7) (L2 := [some (.ref 0), some (.int x1), some (.int x2), some (.int x3)]) (st2 := [.int x3, .int x2]) (μ2 := (hF6 G)) rfl trivial ?_
    refine js_icge (t := 20) hM.1 (jat hM.2.1 7 rfl) rfl (fun hc4 => ?_) (fun hc4 => ?_)
    · have h := (if_pos hc4).symm.trans h
      cases h
      exact js_vret hM.1 hp hM.2.2.2.2.2.2.2.1 (by rw [hM.2.2.2.2.2.1]; exact Nat.le_of_ble_eq_true rfl) (by rw [hM.2.2.2.2.2.2.1]; exact Nat.le_of_ble_eq_true rfl) (jat hM.2.1 14 rfl) hq
    · have h := (if_neg hc4).symm.trans h
      obtain ⟨g1, h⟩ := jg h
      obtain ⟨G2, e3, h⟩ := jlE h
      refine JW.r hM 8 4 (pc2 := 14) (L2 := [some (.ref 0), some (.int x1), some (.int x2), some (.int x3)]) (st2 := []) (μ2 := (hF6 (jup G 0 x2.toNatClampNeg x1))) rfl ⟨g1, trivial⟩ ?_
      rw [e3]
      refine JW.r hM 12 2 (pc2 := 5) (L2 := [some (.ref 0), some (.int x1), some (.int (x2 + 1)), some (.int x3)]) (st2 := []) (μ2 := (hF6 G2)) rfl trivial ?_
      exact ih5 G2 x1 (x2 + 1) x3 h
set_option maxHeartbeats 4000000 in
set_option maxRecDepth 100000 in
theorem t_J7_fill_53178_F6 {X : jX} {po : Option Value → jH → Prop} {px : String → jH → Prop} {sf : Bool} {B9 : Nat} (hM : jMX X kJ7_fill_53178 RJ7 tbA 4 ⟨0, 0, 0, 0⟩ none 2) (hp : jPost X sf B9 po px) (N : Nat) (G : Nat → Nat → Int32) (p0 : Int32) {res : (Nat → Nat → Int32)} (h : p_J7_fill_53178_F6 N G p0 = some res) (hq : po none (hF6 res)) : JW X 0 0 0 [some (.ref 0), some (.int p0), none, none] [] (hF6 G) := by
  unfold p_J7_fill_53178_F6 at h
  refine JW.r hM 0 5 (pc2 := 5) (L2 := [some (.ref 0), some (.int p0), some (.int (0 : Int32)), some (.int (Int32.ofNat 6))]) (st2 := []) (μ2 := (hF6 G)) rfl trivial ?_
  exact t_J7_fill_53178_F6_b5 hM hp N N G p0 (0 : Int32) (Int32.ofNat 6) h hq
theorem m_J7_fill_53178_F6 (V : jV) (hV : V.1.stackTraces = false) (N : Nat) (G : Nat → Nat → Int32) (p0 : Int32) (v : (Nat → Nat → Int32)) (h : p_J7_fill_53178_F6 N G p0 = some v) : jMet V yJ7_fill_53178 (jws yJ7_fill_53178 cJ7_fill_53178 4 none) ⟨0, 0, 0, 0⟩ true 1 [.ref 0, .int p0] (hF6 G) (fun o ν => o = none ∧ ν = (hF6 v)) (fun _ _ => False) := by
  refine jmk (tb := tbA) (C := kJ7_fill_53178) hV rfl (by decide) tbA_ok rfl kJ7_fill_53178_ok rfl ?_
  intro X hM _ hp _
  exact t_J7_fill_53178_F6 hM hp N G p0 h ⟨rfl, rfl⟩
def p_J7_fill_53178_F60_b5 (N : Nat) : Nat → (Nat → Nat → Int32) → (Int32) → (Int32) → (Int32) → Option ((Nat → Nat → Int32))
  | 0, _, _, _, _ => none
  | n + 1, G, x1, x2, x3 => if x3 ≤ x2 then (some G) else (if jin x2 60 = true then jlt (jup G 0 x2.toNatClampNeg x1) fun G2 => (p_J7_fill_53178_F60_b5 N n) G2 x1 (x2 + 1) x3 else none)
def p_J7_fill_53178_F60 (N : Nat) (G : Nat → Nat → Int32) (p0 : Int32) : Option ((Nat → Nat → Int32)) :=
  p_J7_fill_53178_F60_b5 N N G p0 (0 : Int32) (Int32.ofNat 60)
set_option maxHeartbeats 4000000 in
set_option maxRecDepth 100000 in
theorem t_J7_fill_53178_F60_b5 {X : jX} {po : Option Value → jH → Prop} {px : String → jH → Prop} {sf : Bool} {B9 : Nat} (hM : jMX X kJ7_fill_53178 RJ7 tbA 4 ⟨0, 0, 0, 0⟩ none 2) (hp : jPost X sf B9 po px) (N : Nat) {res : (Nat → Nat → Int32)} : ∀ (n : Nat) (G : Nat → Nat → Int32) (x1 : Int32) (x2 : Int32) (x3 : Int32) (h : p_J7_fill_53178_F60_b5 N n G x1 x2 x3 = some res) (hq : po none (hF60 res)), JW X 0 0 5 [some (.ref 0), some (.int x1), some (.int x2), some (.int x3)] [] (hF60 G) := by
  intro n
  induction n with
  | zero =>
    intro G x1 x2 x3 h hq
    cases (show (none : Option ((Nat → Nat → Int32))) = some res from h)
  | succ n ih5 =>
    intro G x1 x2 x3 h hq
    have ih5 := fun G x1 x2 x3 h9 => ih5 G x1 x2 x3 h9 hq
    rw [p_J7_fill_53178_F60_b5] at h
    refine JW.r hM 5 2 (pc2 := 7) (L2 := [some (.ref 0), some (.int x1), some (.int x2), some (.int x3)]) (st2 := [.int x3, .int x2]) (μ2 := (hF60 G)) rfl trivial ?_
    refine js_icge (t := 20) hM.1 (jat hM.2.1 7 rfl) rfl (fun hc4 => ?_) (fun hc4 => ?_)
    · have h := (if_pos hc4).symm.trans h
      cases h
      exact js_vret hM.1 hp hM.2.2.2.2.2.2.2.1 (by rw [hM.2.2.2.2.2.1]; exact Nat.le_of_ble_eq_true rfl) (by rw [hM.2.2.2.2.2.2.1]; exact Nat.le_of_ble_eq_true rfl) (jat hM.2.1 14 rfl) hq
    · have h := (if_neg hc4).symm.trans h
      obtain ⟨g1, h⟩ := jg h
      obtain ⟨G2, e3, h⟩ := jlE h
      refine JW.r hM 8 4 (pc2 := 14) (L2 := [some (.ref 0), some (.int x1), some (.int x2), some (.int x3)]) (st2 := []) (μ2 := (hF60 (jup G 0 x2.toNatClampNeg x1))) rfl ⟨g1, trivial⟩ ?_
      rw [e3]
      refine JW.r hM 12 2 (pc2 := 5) (L2 := [some (.ref 0), some (.int x1), some (.int (x2 + 1)), some (.int x3)]) (st2 := []) (μ2 := (hF60 G2)) rfl trivial ?_
      exact ih5 G2 x1 (x2 + 1) x3 h
set_option maxHeartbeats 4000000 in
set_option maxRecDepth 100000 in
theorem t_J7_fill_53178_F60 {X : jX} {po : Option Value → jH → Prop} {px : String → jH → Prop} {sf : Bool} {B9 : Nat} (hM : jMX X kJ7_fill_53178 RJ7 tbA 4 ⟨0, 0, 0, 0⟩ none 2) (hp : jPost X sf B9 po px) (N : Nat) (G : Nat → Nat → Int32) (p0 : Int32) {res : (Nat → Nat → Int32)} (h : p_J7_fill_53178_F60 N G p0 = some res) (hq : po none (hF60 res)) : JW X 0 0 0 [some (.ref 0), some (.int p0), none, none] [] (hF60 G) := by
  unfold p_J7_fill_53178_F60 at h
  refine JW.r hM 0 5 (pc2 := 5) (L2 := [some (.ref 0), some (.int p0), some (.int (0 : Int32)), some (.int (Int32.ofNat 60))]) (st2 := []) (μ2 := (hF60 G)) rfl trivial ?_
  exact t_J7_fill_53178_F60_b5 hM hp N N G p0 (0 : Int32) (Int32.ofNat 60) h hq
theorem m_J7_fill_53178_F60 (V : jV) (hV : V.1.stackTraces = false) (N : Nat) (G : Nat → Nat → Int32) (p0 : Int32) (v : (Nat → Nat → Int32)) (h : p_J7_fill_53178_F60 N G p0 = some v) : jMet V yJ7_fill_53178 (jws yJ7_fill_53178 cJ7_fill_53178 4 none) ⟨0, 0, 0, 0⟩ true 1 [.ref 0, .int p0] (hF60 G) (fun o ν => o = none ∧ ν = (hF60 v)) (fun _ _ => False) := by
  refine jmk (tb := tbA) (C := kJ7_fill_53178) hV rfl (by decide) tbA_ok rfl kJ7_fill_53178_ok rfl ?_
  intro X hM _ hp _
  exact t_J7_fill_53178_F60 hM hp N G p0 h ⟨rfl, rfl⟩
def p_J7_fill_d0a16_b6 (N : Nat) : Nat → (Nat → Nat → Int64) → (Int64) → (Int32) → (Int32) → Option ((Nat → Nat → Int64))
  | 0, _, _, _, _ => none
  | n + 1, J, x1, x3, x4 => if x4 ≤ x3 then (some J) else (if jin x3 40 = true then jlt (jupL J 0 x3.toNatClampNeg x1) fun J2 => (p_J7_fill_d0a16_b6 N n) J2 x1 (x3 + 1) x4 else none)
def p_J7_fill_d0a16 (N : Nat) (J : Nat → Nat → Int64) (p0 : Int64) : Option ((Nat → Nat → Int64)) :=
  p_J7_fill_d0a16_b6 N N J p0 (0 : Int32) (Int32.ofNat 40)
set_option maxHeartbeats 4000000 in
set_option maxRecDepth 100000 in
theorem t_J7_fill_d0a16_b6 {X : jX} {po : Option Value → jH → Prop} {px : String → jH → Prop} {sf : Bool} {B9 : Nat} (hM : jMX X kJ7_fill_d0a16 RJ7 tbA 5 ⟨0, 0, 0, 0⟩ none 2) (hp : jPost X sf B9 po px) (N : Nat) {res : (Nat → Nat → Int64)} : ∀ (n : Nat) (J : Nat → Nat → Int64) (x1 : Int64) (x3 : Int32) (x4 : Int32) (h : p_J7_fill_d0a16_b6 N n J x1 x3 x4 = some res) (hq : po none (hFL res)), JW X 0 0 6 [some (.ref 0), some (.long x1), none, some (.int x3), some (.int x4)] [] (hFL J) := by
  intro n
  induction n with
  | zero =>
    intro J x1 x3 x4 h hq
    cases (show (none : Option ((Nat → Nat → Int64))) = some res from h)
  | succ n ih6 =>
    intro J x1 x3 x4 h hq
    have ih6 := fun J x1 x3 x4 h9 => ih6 J x1 x3 x4 h9 hq
    rw [p_J7_fill_d0a16_b6] at h
    refine JW.r hM 5 2 (pc2 := 9) (L2 := [some (.ref 0), some (.long x1), none, some (.int x3), some (.int x4)]) (st2 := [.int x4, .int x3]) (μ2 := (hFL J)) rfl trivial ?_
    refine js_icge (t := 22) hM.1 (jat hM.2.1 7 rfl) rfl (fun hc4 => ?_) (fun hc4 => ?_)
    · have h := (if_pos hc4).symm.trans h
      cases h
      exact js_vret hM.1 hp hM.2.2.2.2.2.2.2.1 (by rw [hM.2.2.2.2.2.1]; exact Nat.le_of_ble_eq_true rfl) (by rw [hM.2.2.2.2.2.2.1]; exact Nat.le_of_ble_eq_true rfl) (jat hM.2.1 14 rfl) hq
    · have h := (if_neg hc4).symm.trans h
      obtain ⟨g1, h⟩ := jg h
      obtain ⟨J2, e3, h⟩ := jlE h
      refine JW.r hM 8 4 (pc2 := 16) (L2 := [some (.ref 0), some (.long x1), none, some (.int x3), some (.int x4)]) (st2 := []) (μ2 := (hFL (jupL J 0 x3.toNatClampNeg x1))) rfl ⟨g1, trivial⟩ ?_
      rw [e3]
      refine JW.r hM 12 2 (pc2 := 6) (L2 := [some (.ref 0), some (.long x1), none, some (.int (x3 + 1)), some (.int x4)]) (st2 := []) (μ2 := (hFL J2)) rfl trivial ?_
      exact ih6 J2 x1 (x3 + 1) x4 h
set_option maxHeartbeats 4000000 in
set_option maxRecDepth 100000 in
theorem t_J7_fill_d0a16 {X : jX} {po : Option Value → jH → Prop} {px : String → jH → Prop} {sf : Bool} {B9 : Nat} (hM : jMX X kJ7_fill_d0a16 RJ7 tbA 5 ⟨0, 0, 0, 0⟩ none 2) (hp : jPost X sf B9 po px) (N : Nat) (J : Nat → Nat → Int64) (p0 : Int64) {res : (Nat → Nat → Int64)} (h : p_J7_fill_d0a16 N J p0 = some res) (hq : po none (hFL res)) : JW X 0 0 0 [some (.ref 0), some (.long p0), none, none, none] [] (hFL J) := by
  unfold p_J7_fill_d0a16 at h
  refine JW.r hM 0 5 (pc2 := 6) (L2 := [some (.ref 0), some (.long p0), none, some (.int (0 : Int32)), some (.int (Int32.ofNat 40))]) (st2 := []) (μ2 := (hFL J)) rfl trivial ?_
  exact t_J7_fill_d0a16_b6 hM hp N N J p0 (0 : Int32) (Int32.ofNat 40) h hq
theorem m_J7_fill_d0a16 (V : jV) (hV : V.1.stackTraces = false) (N : Nat) (J : Nat → Nat → Int64) (p0 : Int64) (v : (Nat → Nat → Int64)) (h : p_J7_fill_d0a16 N J p0 = some v) : jMet V yJ7_fill_d0a16 (jws yJ7_fill_d0a16 cJ7_fill_d0a16 5 none) ⟨0, 0, 0, 0⟩ true 1 [.ref 0, .long p0] (hFL J) (fun o ν => o = none ∧ ν = (hFL v)) (fun _ _ => False) := by
  refine jmk (tb := tbA) (C := kJ7_fill_d0a16) hV rfl (by decide) tbA_ok rfl kJ7_fill_d0a16_ok rfl ?_
  intro X hM _ hp _
  exact t_J7_fill_d0a16 hM hp N J p0 h ⟨rfl, rfl⟩
def p_X3_clear (N : Nat) (G : Nat → Nat → Int32) : Option ((Nat → Nat → Int32)) :=
  jlt (jup G 0 0 (0 : Int32)) fun G1 => jlt (jup G1 0 1 (0 : Int32)) fun G3 => jlt (jup G3 0 2 (0 : Int32)) fun G5 => jlt (jup G5 0 3 (0 : Int32)) fun G7 => jlt (jup G7 0 4 (50 : Int32)) fun G9 => jlt (jup G9 0 5 (720 : Int32)) fun G11 => jlt (jup G11 0 6 (0 : Int32)) fun G13 => jlt (jup G13 0 7 (0 : Int32)) fun G15 => jlt (jup G15 0 8 (0 : Int32)) fun G17 => (p_J7_fill_53178_F6 N (jvw G17 1) (0 : Int32)).bind (fun v20 => jlt (jpt G17 1 1 v20) fun G21 => (p_J7_fill_53178_F60 N (jvw G21 3) (0 : Int32)).bind (fun v24 => jlt (jpt G21 3 1 v24) fun G25 => some G25))
set_option maxHeartbeats 4000000 in
set_option maxRecDepth 100000 in
theorem t_X3_clear {X : jX} {po : Option Value → jH → Prop} {px : String → jH → Prop} {sf : Bool} {B9 : Nat} (hM : jMX X kX3_clear RX3 tbX3 1 ⟨1, 0, 0, 23⟩ none 10) (hp : jPost X sf B9 po px) (N : Nat) (G : Nat → Nat → Int32) {res : (Nat → Nat → Int32)} (h : p_X3_clear N G = some res) (hq : po none (hTown res)) : JW X 0 0 0 [some (.ref 0)] [] (hTown G) := by
  unfold p_X3_clear at h
  obtain ⟨G1, e2, h⟩ := jlE h
  refine JW.r hM 0 3 (pc2 := 5) (L2 := [some (.ref 0)]) (st2 := []) (μ2 := (hTown (jup G 0 0 (0 : Int32)))) rfl trivial ?_
  rw [e2]
  obtain ⟨G3, e4, h⟩ := jlE h
  refine JW.r hM 3 3 (pc2 := 10) (L2 := [some (.ref 0)]) (st2 := []) (μ2 := (hTown (jup G1 0 1 (0 : Int32)))) rfl trivial ?_
  rw [e4]
  obtain ⟨G5, e6, h⟩ := jlE h
  refine JW.r hM 6 3 (pc2 := 15) (L2 := [some (.ref 0)]) (st2 := []) (μ2 := (hTown (jup G3 0 2 (0 : Int32)))) rfl trivial ?_
  rw [e6]
  obtain ⟨G7, e8, h⟩ := jlE h
  refine JW.r hM 9 3 (pc2 := 20) (L2 := [some (.ref 0)]) (st2 := []) (μ2 := (hTown (jup G5 0 3 (0 : Int32)))) rfl trivial ?_
  rw [e8]
  obtain ⟨G9, e10, h⟩ := jlE h
  refine JW.r hM 12 3 (pc2 := 26) (L2 := [some (.ref 0)]) (st2 := []) (μ2 := (hTown (jup G7 0 4 (50 : Int32)))) rfl trivial ?_
  rw [e10]
  obtain ⟨G11, e12, h⟩ := jlE h
  refine JW.r hM 15 3 (pc2 := 33) (L2 := [some (.ref 0)]) (st2 := []) (μ2 := (hTown (jup G9 0 5 (720 : Int32)))) rfl trivial ?_
  rw [e12]
  obtain ⟨G13, e14, h⟩ := jlE h
  refine JW.r hM 18 3 (pc2 := 38) (L2 := [some (.ref 0)]) (st2 := []) (μ2 := (hTown (jup G11 0 6 (0 : Int32)))) rfl trivial ?_
  rw [e14]
  obtain ⟨G15, e16, h⟩ := jlE h
  refine JW.r hM 21 3 (pc2 := 43) (L2 := [some (.ref 0)]) (st2 := []) (μ2 := (hTown (jup G13 0 7 (0 : Int32)))) rfl trivial ?_
  rw [e16]
  obtain ⟨G17, e18, h⟩ := jlE h
  refine JW.r hM 24 3 (pc2 := 48) (L2 := [some (.ref 0)]) (st2 := []) (μ2 := (hTown (jup G15 0 8 (0 : Int32)))) rfl trivial ?_
  rw [e18]
  refine JW.r hM 27 3 (pc2 := 53) (L2 := [some (.ref 0)]) (st2 := [.int (0 : Int32), .ref 1]) (μ2 := (hTown G17)) rfl trivial ?_
  obtain ⟨v20, hv19, h⟩ := jbd h
  refine JW.cS (v := none) hM (m_J7_fill_53178_F6 (jVX X) hM.1.2.2.2.2.2.2.2.2.2.1 N (jvw G17 1) (0 : Int32) v20 hv19) (sb_Town_F6_1 G17) (bk_Town_F6_1 G17 v20) rfl rfl rfl kc_X3_64 rfl rfl rfl (jat hM.2.1 30 rfl) (st := []) rfl ?_
  show JW X 0 0 56 [some (.ref 0)] [] (hTown (jpt G17 1 1 v20))
  obtain ⟨G21, e22, h⟩ := jlE h
  rw [e22]
  refine JW.r hM 31 3 (pc2 := 61) (L2 := [some (.ref 0)]) (st2 := [.int (0 : Int32), .ref 3]) (μ2 := (hTown G21)) rfl trivial ?_
  obtain ⟨v24, hv23, h⟩ := jbd h
  refine JW.cS (v := none) hM (m_J7_fill_53178_F60 (jVX X) hM.1.2.2.2.2.2.2.2.2.2.1 N (jvw G21 3) (0 : Int32) v24 hv23) (sb_Town_F60_3 G21) (bk_Town_F60_3 G21 v24) rfl rfl rfl kc_X3_64 rfl rfl rfl (jat hM.2.1 34 rfl) (st := []) rfl ?_
  show JW X 0 0 64 [some (.ref 0)] [] (hTown (jpt G21 3 1 v24))
  obtain ⟨G25, e26, h⟩ := jlE h
  rw [e26]
  cases h
  exact js_vret hM.1 hp hM.2.2.2.2.2.2.2.1 (by rw [hM.2.2.2.2.2.1]; exact Nat.le_of_ble_eq_true rfl) (by rw [hM.2.2.2.2.2.2.1]; exact Nat.le_of_ble_eq_true rfl) (jat hM.2.1 35 rfl) hq
theorem m_X3_clear (V : jV) (hV : V.1.stackTraces = false) (N : Nat) (G : Nat → Nat → Int32) (v : (Nat → Nat → Int32)) (h : p_X3_clear N G = some v) : jMet V yX3_clear (jws yX3_clear cX3_clear 1 none) ⟨1, 0, 0, 23⟩ true 1 [.ref 0] (hTown G) (fun o ν => o = none ∧ ν = (hTown v)) (fun _ _ => False) := by
  refine jmk (tb := tbX3) (C := kX3_clear) hV rfl (by decide) tbX3_ok rfl kX3_clear_ok rfl ?_
  intro X hM _ hp _
  exact t_X3_clear hM hp N G h ⟨rfl, rfl⟩
def p_X3_hasPerson (N : Nat) (G : Nat → Nat → Int32) (p0 : Int32) : Option (Int32) :=
  if p0 < 0 then (some (0 : Int32)) else (if (G 0 1) ≤ p0 then (some (0 : Int32)) else (some (1 : Int32)))
set_option maxHeartbeats 4000000 in
set_option maxRecDepth 100000 in
theorem t_X3_hasPerson {X : jX} {po : Option Value → jH → Prop} {px : String → jH → Prop} {sf : Bool} {B9 : Nat} (hM : jMX X kX3_hasPerson RX3 tbX3 2 ⟨0, 0, 0, 0⟩ (some .boolean) 10) (hp : jPost X sf B9 po px) (N : Nat) (G : Nat → Nat → Int32) (p0 : Int32) {res : Int32} (h : p_X3_hasPerson N G p0 = some res) (hq : po (some (.int res)) (hTown G)) : JW X 0 0 0 [some (.ref 0), some (.int p0)] [] (hTown G) := by
  unfold p_X3_hasPerson at h
  refine JW.r hM 0 1 (pc2 := 1) (L2 := [some (.ref 0), some (.int p0)]) (st2 := [.int p0]) (μ2 := (hTown G)) rfl trivial ?_
  refine js_iflt (t := 16) hM.1 (jat hM.2.1 1 rfl) rfl (fun hc2 => ?_) (fun hc2 => ?_)
  · have h := (if_pos hc2).symm.trans h
    refine JW.r hM 8 1 (pc2 := 17) (L2 := [some (.ref 0), some (.int p0)]) (st2 := [.int (0 : Int32)]) (μ2 := (hTown G)) rfl trivial ?_
    cases h
    exact js_zret hM.1 hp hM.2.2.2.2.2.2.2.1 rfl (by rw [hM.2.2.2.2.2.1]; exact Nat.le_of_ble_eq_true rfl) (by rw [hM.2.2.2.2.2.2.1]; exact Nat.le_of_ble_eq_true rfl) (jat hM.2.1 9 rfl) hq
  · have h := (if_neg hc2).symm.trans h
    refine JW.r hM 2 3 (pc2 := 9) (L2 := [some (.ref 0), some (.int p0)]) (st2 := [.int (G 0 1), .int p0]) (μ2 := (hTown G)) rfl trivial ?_
    refine js_icge (t := 16) hM.1 (jat hM.2.1 5 rfl) rfl (fun hc1 => ?_) (fun hc1 => ?_)
    · have h := (if_pos hc1).symm.trans h
      refine JW.r hM 8 1 (pc2 := 17) (L2 := [some (.ref 0), some (.int p0)]) (st2 := [.int (0 : Int32)]) (μ2 := (hTown G)) rfl trivial ?_
      cases h
      exact js_zret hM.1 hp hM.2.2.2.2.2.2.2.1 rfl (by rw [hM.2.2.2.2.2.1]; exact Nat.le_of_ble_eq_true rfl) (by rw [hM.2.2.2.2.2.2.1]; exact Nat.le_of_ble_eq_true rfl) (jat hM.2.1 9 rfl) hq
    · have h := (if_neg hc1).symm.trans h
      refine JW.r hM 6 2 (pc2 := 17) (L2 := [some (.ref 0), some (.int p0)]) (st2 := [.int (1 : Int32)]) (μ2 := (hTown G)) rfl trivial ?_
      cases h
      exact js_zret hM.1 hp hM.2.2.2.2.2.2.2.1 rfl (by rw [hM.2.2.2.2.2.1]; exact Nat.le_of_ble_eq_true rfl) (by rw [hM.2.2.2.2.2.2.1]; exact Nat.le_of_ble_eq_true rfl) (jat hM.2.1 9 rfl) hq
theorem m_X3_hasPerson (V : jV) (hV : V.1.stackTraces = false) (N : Nat) (G : Nat → Nat → Int32) (p0 : Int32) (v : Int32) (h : p_X3_hasPerson N G p0 = some v) : jMet V yX3_hasPerson (jws yX3_hasPerson cX3_hasPerson 2 (some .boolean)) ⟨0, 0, 0, 0⟩ true 1 [.ref 0, .int p0] (hTown G) (fun o ν => o = some (.int v) ∧ ν = (hTown G)) (fun _ _ => False) := by
  refine jmk (tb := tbX3) (C := kX3_hasPerson) hV rfl (by decide) tbX3_ok rfl kX3_hasPerson_ok rfl ?_
  intro X hM _ hp _
  exact t_X3_hasPerson hM hp N G p0 h ⟨rfl, rfl⟩
def p_X3_hasThing (N : Nat) (G : Nat → Nat → Int32) (p0 : Int32) : Option (Int32) :=
  if p0 < 0 then (some (0 : Int32)) else (if (G 0 2) ≤ p0 then (some (0 : Int32)) else (some (1 : Int32)))
set_option maxHeartbeats 4000000 in
set_option maxRecDepth 100000 in
theorem t_X3_hasThing {X : jX} {po : Option Value → jH → Prop} {px : String → jH → Prop} {sf : Bool} {B9 : Nat} (hM : jMX X kX3_hasThing RX3 tbX3 2 ⟨0, 0, 0, 0⟩ (some .boolean) 10) (hp : jPost X sf B9 po px) (N : Nat) (G : Nat → Nat → Int32) (p0 : Int32) {res : Int32} (h : p_X3_hasThing N G p0 = some res) (hq : po (some (.int res)) (hTown G)) : JW X 0 0 0 [some (.ref 0), some (.int p0)] [] (hTown G) := by
  unfold p_X3_hasThing at h
  refine JW.r hM 0 1 (pc2 := 1) (L2 := [some (.ref 0), some (.int p0)]) (st2 := [.int p0]) (μ2 := (hTown G)) rfl trivial ?_
  refine js_iflt (t := 16) hM.1 (jat hM.2.1 1 rfl) rfl (fun hc2 => ?_) (fun hc2 => ?_)
  · have h := (if_pos hc2).symm.trans h
    refine JW.r hM 8 1 (pc2 := 17) (L2 := [some (.ref 0), some (.int p0)]) (st2 := [.int (0 : Int32)]) (μ2 := (hTown G)) rfl trivial ?_
    cases h
    exact js_zret hM.1 hp hM.2.2.2.2.2.2.2.1 rfl (by rw [hM.2.2.2.2.2.1]; exact Nat.le_of_ble_eq_true rfl) (by rw [hM.2.2.2.2.2.2.1]; exact Nat.le_of_ble_eq_true rfl) (jat hM.2.1 9 rfl) hq
  · have h := (if_neg hc2).symm.trans h
    refine JW.r hM 2 3 (pc2 := 9) (L2 := [some (.ref 0), some (.int p0)]) (st2 := [.int (G 0 2), .int p0]) (μ2 := (hTown G)) rfl trivial ?_
    refine js_icge (t := 16) hM.1 (jat hM.2.1 5 rfl) rfl (fun hc1 => ?_) (fun hc1 => ?_)
    · have h := (if_pos hc1).symm.trans h
      refine JW.r hM 8 1 (pc2 := 17) (L2 := [some (.ref 0), some (.int p0)]) (st2 := [.int (0 : Int32)]) (μ2 := (hTown G)) rfl trivial ?_
      cases h
      exact js_zret hM.1 hp hM.2.2.2.2.2.2.2.1 rfl (by rw [hM.2.2.2.2.2.1]; exact Nat.le_of_ble_eq_true rfl) (by rw [hM.2.2.2.2.2.2.1]; exact Nat.le_of_ble_eq_true rfl) (jat hM.2.1 9 rfl) hq
    · have h := (if_neg hc1).symm.trans h
      refine JW.r hM 6 2 (pc2 := 17) (L2 := [some (.ref 0), some (.int p0)]) (st2 := [.int (1 : Int32)]) (μ2 := (hTown G)) rfl trivial ?_
      cases h
      exact js_zret hM.1 hp hM.2.2.2.2.2.2.2.1 rfl (by rw [hM.2.2.2.2.2.1]; exact Nat.le_of_ble_eq_true rfl) (by rw [hM.2.2.2.2.2.2.1]; exact Nat.le_of_ble_eq_true rfl) (jat hM.2.1 9 rfl) hq
theorem m_X3_hasThing (V : jV) (hV : V.1.stackTraces = false) (N : Nat) (G : Nat → Nat → Int32) (p0 : Int32) (v : Int32) (h : p_X3_hasThing N G p0 = some v) : jMet V yX3_hasThing (jws yX3_hasThing cX3_hasThing 2 (some .boolean)) ⟨0, 0, 0, 0⟩ true 1 [.ref 0, .int p0] (hTown G) (fun o ν => o = some (.int v) ∧ ν = (hTown G)) (fun _ _ => False) := by
  refine jmk (tb := tbX3) (C := kX3_hasThing) hV rfl (by decide) tbX3_ok rfl kX3_hasThing_ok rfl ?_
  intro X hM _ hp _
  exact t_X3_hasThing hM hp N G p0 h ⟨rfl, rfl⟩
def p_X3_hasDeed (N : Nat) (G : Nat → Nat → Int32) (p0 : Int32) : Option (Int32) :=
  if p0 < 0 then (some (0 : Int32)) else (if (G 0 7) ≤ p0 then (some (0 : Int32)) else (some (1 : Int32)))
set_option maxHeartbeats 4000000 in
set_option maxRecDepth 100000 in
theorem t_X3_hasDeed {X : jX} {po : Option Value → jH → Prop} {px : String → jH → Prop} {sf : Bool} {B9 : Nat} (hM : jMX X kX3_hasDeed RX3 tbX3 2 ⟨0, 0, 0, 0⟩ (some .boolean) 10) (hp : jPost X sf B9 po px) (N : Nat) (G : Nat → Nat → Int32) (p0 : Int32) {res : Int32} (h : p_X3_hasDeed N G p0 = some res) (hq : po (some (.int res)) (hTown G)) : JW X 0 0 0 [some (.ref 0), some (.int p0)] [] (hTown G) := by
  unfold p_X3_hasDeed at h
  refine JW.r hM 0 1 (pc2 := 1) (L2 := [some (.ref 0), some (.int p0)]) (st2 := [.int p0]) (μ2 := (hTown G)) rfl trivial ?_
  refine js_iflt (t := 16) hM.1 (jat hM.2.1 1 rfl) rfl (fun hc2 => ?_) (fun hc2 => ?_)
  · have h := (if_pos hc2).symm.trans h
    refine JW.r hM 8 1 (pc2 := 17) (L2 := [some (.ref 0), some (.int p0)]) (st2 := [.int (0 : Int32)]) (μ2 := (hTown G)) rfl trivial ?_
    cases h
    exact js_zret hM.1 hp hM.2.2.2.2.2.2.2.1 rfl (by rw [hM.2.2.2.2.2.1]; exact Nat.le_of_ble_eq_true rfl) (by rw [hM.2.2.2.2.2.2.1]; exact Nat.le_of_ble_eq_true rfl) (jat hM.2.1 9 rfl) hq
  · have h := (if_neg hc2).symm.trans h
    refine JW.r hM 2 3 (pc2 := 9) (L2 := [some (.ref 0), some (.int p0)]) (st2 := [.int (G 0 7), .int p0]) (μ2 := (hTown G)) rfl trivial ?_
    refine js_icge (t := 16) hM.1 (jat hM.2.1 5 rfl) rfl (fun hc1 => ?_) (fun hc1 => ?_)
    · have h := (if_pos hc1).symm.trans h
      refine JW.r hM 8 1 (pc2 := 17) (L2 := [some (.ref 0), some (.int p0)]) (st2 := [.int (0 : Int32)]) (μ2 := (hTown G)) rfl trivial ?_
      cases h
      exact js_zret hM.1 hp hM.2.2.2.2.2.2.2.1 rfl (by rw [hM.2.2.2.2.2.1]; exact Nat.le_of_ble_eq_true rfl) (by rw [hM.2.2.2.2.2.2.1]; exact Nat.le_of_ble_eq_true rfl) (jat hM.2.1 9 rfl) hq
    · have h := (if_neg hc1).symm.trans h
      refine JW.r hM 6 2 (pc2 := 17) (L2 := [some (.ref 0), some (.int p0)]) (st2 := [.int (1 : Int32)]) (μ2 := (hTown G)) rfl trivial ?_
      cases h
      exact js_zret hM.1 hp hM.2.2.2.2.2.2.2.1 rfl (by rw [hM.2.2.2.2.2.1]; exact Nat.le_of_ble_eq_true rfl) (by rw [hM.2.2.2.2.2.2.1]; exact Nat.le_of_ble_eq_true rfl) (jat hM.2.1 9 rfl) hq
theorem m_X3_hasDeed (V : jV) (hV : V.1.stackTraces = false) (N : Nat) (G : Nat → Nat → Int32) (p0 : Int32) (v : Int32) (h : p_X3_hasDeed N G p0 = some v) : jMet V yX3_hasDeed (jws yX3_hasDeed cX3_hasDeed 2 (some .boolean)) ⟨0, 0, 0, 0⟩ true 1 [.ref 0, .int p0] (hTown G) (fun o ν => o = some (.int v) ∧ ν = (hTown G)) (fun _ _ => False) := by
  refine jmk (tb := tbX3) (C := kX3_hasDeed) hV rfl (by decide) tbX3_ok rfl kX3_hasDeed_ok rfl ?_
  intro X hM _ hp _
  exact t_X3_hasDeed hM hp N G p0 h ⟨rfl, rfl⟩
def p_X3_hasRung (N : Nat) (G : Nat → Nat → Int32) : Option (Int32) :=
  if (G 0 6) < (G 0 5) then (some (0 : Int32)) else (some (1 : Int32))
set_option maxHeartbeats 4000000 in
set_option maxRecDepth 100000 in
theorem t_X3_hasRung {X : jX} {po : Option Value → jH → Prop} {px : String → jH → Prop} {sf : Bool} {B9 : Nat} (hM : jMX X kX3_hasRung RX3 tbX3 1 ⟨0, 0, 0, 0⟩ (some .boolean) 10) (hp : jPost X sf B9 po px) (N : Nat) (G : Nat → Nat → Int32) {res : Int32} (h : p_X3_hasRung N G = some res) (hq : po (some (.int res)) (hTown G)) : JW X 0 0 0 [some (.ref 0)] [] (hTown G) := by
  unfold p_X3_hasRung at h
  refine JW.r hM 0 4 (pc2 := 8) (L2 := [some (.ref 0)]) (st2 := [.int (G 0 5), .int (G 0 6)]) (μ2 := (hTown G)) rfl trivial ?_
  refine js_iclt (t := 15) hM.1 (jat hM.2.1 4 rfl) rfl (fun hc1 => ?_) (fun hc1 => ?_)
  · have h := (if_pos hc1).symm.trans h
    refine JW.r hM 7 1 (pc2 := 16) (L2 := [some (.ref 0)]) (st2 := [.int (0 : Int32)]) (μ2 := (hTown G)) rfl trivial ?_
    cases h
    exact js_zret hM.1 hp hM.2.2.2.2.2.2.2.1 rfl (by rw [hM.2.2.2.2.2.1]; exact Nat.le_of_ble_eq_true rfl) (by rw [hM.2.2.2.2.2.2.1]; exact Nat.le_of_ble_eq_true rfl) (jat hM.2.1 8 rfl) hq
  · have h := (if_neg hc1).symm.trans h
    refine JW.r hM 5 2 (pc2 := 16) (L2 := [some (.ref 0)]) (st2 := [.int (1 : Int32)]) (μ2 := (hTown G)) rfl trivial ?_
    cases h
    exact js_zret hM.1 hp hM.2.2.2.2.2.2.2.1 rfl (by rw [hM.2.2.2.2.2.1]; exact Nat.le_of_ble_eq_true rfl) (by rw [hM.2.2.2.2.2.2.1]; exact Nat.le_of_ble_eq_true rfl) (jat hM.2.1 8 rfl) hq
theorem m_X3_hasRung (V : jV) (hV : V.1.stackTraces = false) (N : Nat) (G : Nat → Nat → Int32) (v : Int32) (h : p_X3_hasRung N G = some v) : jMet V yX3_hasRung (jws yX3_hasRung cX3_hasRung 1 (some .boolean)) ⟨0, 0, 0, 0⟩ true 1 [.ref 0] (hTown G) (fun o ν => o = some (.int v) ∧ ν = (hTown G)) (fun _ _ => False) := by
  refine jmk (tb := tbX3) (C := kX3_hasRung) hV rfl (by decide) tbX3_ok rfl kX3_hasRung_ok rfl ?_
  intro X hM _ hp _
  exact t_X3_hasRung hM hp N G h ⟨rfl, rfl⟩
def p_X3_isEaten (N : Nat) (G : Nat → Nat → Int32) (p0 : Int32) : Option (Int32) :=
  if (((G 0 3) >>> (p0 &&& 31)) &&& (1 : Int32)) = (1 : Int32) then (some (1 : Int32)) else (some (0 : Int32))
set_option maxHeartbeats 4000000 in
set_option maxRecDepth 100000 in
theorem t_X3_isEaten {X : jX} {po : Option Value → jH → Prop} {px : String → jH → Prop} {sf : Bool} {B9 : Nat} (hM : jMX X kX3_isEaten RX3 tbX3 2 ⟨0, 0, 0, 0⟩ (some .boolean) 10) (hp : jPost X sf B9 po px) (N : Nat) (G : Nat → Nat → Int32) (p0 : Int32) {res : Int32} (h : p_X3_isEaten N G p0 = some res) (hq : po (some (.int res)) (hTown G)) : JW X 0 0 0 [some (.ref 0), some (.int p0)] [] (hTown G) := by
  unfold p_X3_isEaten at h
  refine JW.r hM 0 7 (pc2 := 9) (L2 := [some (.ref 0), some (.int p0)]) (st2 := [.int (1 : Int32), .int (((G 0 3) >>> (p0 &&& 31)) &&& (1 : Int32))]) (μ2 := (hTown G)) rfl trivial ?_
  refine js_icne (t := 16) hM.1 (jat hM.2.1 7 rfl) rfl (fun hc1 => ?_) (fun hc1 => ?_)
  · have h := (if_neg hc1).symm.trans h
    refine JW.r hM 10 1 (pc2 := 17) (L2 := [some (.ref 0), some (.int p0)]) (st2 := [.int (0 : Int32)]) (μ2 := (hTown G)) rfl trivial ?_
    cases h
    exact js_zret hM.1 hp hM.2.2.2.2.2.2.2.1 rfl (by rw [hM.2.2.2.2.2.1]; exact Nat.le_of_ble_eq_true rfl) (by rw [hM.2.2.2.2.2.2.1]; exact Nat.le_of_ble_eq_true rfl) (jat hM.2.1 11 rfl) hq
  · have h := (if_pos hc1).symm.trans h
    refine JW.r hM 8 2 (pc2 := 17) (L2 := [some (.ref 0), some (.int p0)]) (st2 := [.int (1 : Int32)]) (μ2 := (hTown G)) rfl trivial ?_
    cases h
    exact js_zret hM.1 hp hM.2.2.2.2.2.2.2.1 rfl (by rw [hM.2.2.2.2.2.1]; exact Nat.le_of_ble_eq_true rfl) (by rw [hM.2.2.2.2.2.2.1]; exact Nat.le_of_ble_eq_true rfl) (jat hM.2.1 11 rfl) hq
theorem m_X3_isEaten (V : jV) (hV : V.1.stackTraces = false) (N : Nat) (G : Nat → Nat → Int32) (p0 : Int32) (v : Int32) (h : p_X3_isEaten N G p0 = some v) : jMet V yX3_isEaten (jws yX3_isEaten cX3_isEaten 2 (some .boolean)) ⟨0, 0, 0, 0⟩ true 1 [.ref 0, .int p0] (hTown G) (fun o ν => o = some (.int v) ∧ ν = (hTown G)) (fun _ _ => False) := by
  refine jmk (tb := tbX3) (C := kX3_isEaten) hV rfl (by decide) tbX3_ok rfl kX3_isEaten_ok rfl ?_
  intro X hM _ hp _
  exact t_X3_isEaten hM hp N G p0 h ⟨rfl, rfl⟩
def p_X3_stands (N : Nat) (G : Nat → Nat → Int32) (p0 : Int32) : Option (Int32) :=
  if (((G 0 8) >>> (p0 &&& 31)) &&& (1 : Int32)) = (1 : Int32) then (some (1 : Int32)) else (some (0 : Int32))
set_option maxHeartbeats 4000000 in
set_option maxRecDepth 100000 in
theorem t_X3_stands {X : jX} {po : Option Value → jH → Prop} {px : String → jH → Prop} {sf : Bool} {B9 : Nat} (hM : jMX X kX3_stands RX3 tbX3 2 ⟨0, 0, 0, 0⟩ (some .boolean) 10) (hp : jPost X sf B9 po px) (N : Nat) (G : Nat → Nat → Int32) (p0 : Int32) {res : Int32} (h : p_X3_stands N G p0 = some res) (hq : po (some (.int res)) (hTown G)) : JW X 0 0 0 [some (.ref 0), some (.int p0)] [] (hTown G) := by
  unfold p_X3_stands at h
  refine JW.r hM 0 7 (pc2 := 9) (L2 := [some (.ref 0), some (.int p0)]) (st2 := [.int (1 : Int32), .int (((G 0 8) >>> (p0 &&& 31)) &&& (1 : Int32))]) (μ2 := (hTown G)) rfl trivial ?_
  refine js_icne (t := 16) hM.1 (jat hM.2.1 7 rfl) rfl (fun hc1 => ?_) (fun hc1 => ?_)
  · have h := (if_neg hc1).symm.trans h
    refine JW.r hM 10 1 (pc2 := 17) (L2 := [some (.ref 0), some (.int p0)]) (st2 := [.int (0 : Int32)]) (μ2 := (hTown G)) rfl trivial ?_
    cases h
    exact js_zret hM.1 hp hM.2.2.2.2.2.2.2.1 rfl (by rw [hM.2.2.2.2.2.1]; exact Nat.le_of_ble_eq_true rfl) (by rw [hM.2.2.2.2.2.2.1]; exact Nat.le_of_ble_eq_true rfl) (jat hM.2.1 11 rfl) hq
  · have h := (if_pos hc1).symm.trans h
    refine JW.r hM 8 2 (pc2 := 17) (L2 := [some (.ref 0), some (.int p0)]) (st2 := [.int (1 : Int32)]) (μ2 := (hTown G)) rfl trivial ?_
    cases h
    exact js_zret hM.1 hp hM.2.2.2.2.2.2.2.1 rfl (by rw [hM.2.2.2.2.2.1]; exact Nat.le_of_ble_eq_true rfl) (by rw [hM.2.2.2.2.2.2.1]; exact Nat.le_of_ble_eq_true rfl) (jat hM.2.1 11 rfl) hq
theorem m_X3_stands (V : jV) (hV : V.1.stackTraces = false) (N : Nat) (G : Nat → Nat → Int32) (p0 : Int32) (v : Int32) (h : p_X3_stands N G p0 = some v) : jMet V yX3_stands (jws yX3_stands cX3_stands 2 (some .boolean)) ⟨0, 0, 0, 0⟩ true 1 [.ref 0, .int p0] (hTown G) (fun o ν => o = some (.int v) ∧ ν = (hTown G)) (fun _ _ => False) := by
  refine jmk (tb := tbX3) (C := kX3_stands) hV rfl (by decide) tbX3_ok rfl kX3_stands_ok rfl ?_
  intro X hM _ hp _
  exact t_X3_stands hM hp N G p0 h ⟨rfl, rfl⟩
def p_X3_isOpen (N : Nat) (G : Nat → Nat → Int32) (p0 : Int32) : Option (Int32) :=
  (p_X3_hasRung N G).bind (fun v2 => if v2 = 0 then ((p_X3_stands N G p0).bind (fun v4 => if v4 = 0 then (some (0 : Int32)) else (if jin p0 30 = true then (p_X3_isEaten N G (G 4 p0.toNatClampNeg)).bind (fun v7 => if v7 = 0 then (some (1 : Int32)) else (some (0 : Int32))) else none))) else (some (0 : Int32)))
set_option maxHeartbeats 4000000 in
set_option maxRecDepth 100000 in
theorem t_X3_isOpen {X : jX} {po : Option Value → jH → Prop} {px : String → jH → Prop} {sf : Bool} {B9 : Nat} (hM : jMX X kX3_isOpen RX3 tbX3 2 ⟨1, 0, 0, 21⟩ (some .boolean) 10) (hp : jPost X sf B9 po px) (N : Nat) (G : Nat → Nat → Int32) (p0 : Int32) {res : Int32} (h : p_X3_isOpen N G p0 = some res) (hq : po (some (.int res)) (hTown G)) : JW X 0 0 0 [some (.ref 0), some (.int p0)] [] (hTown G) := by
  unfold p_X3_isOpen at h
  refine JW.r hM 0 1 (pc2 := 1) (L2 := [some (.ref 0), some (.int p0)]) (st2 := [.ref 0]) (μ2 := (hTown G)) rfl trivial ?_
  obtain ⟨v2, hv1, h⟩ := jbd h
  refine JW.cV (v := some (.int v2)) hM (m_X3_hasRung (jVX X) hM.1.2.2.2.2.2.2.2.2.2.1 N G v2 hv1) (sb_Town_Town_0 G) (bi_Town_Town_0 G) rfl rfl rfl kc_X3_76 rfl rfl rfl rfl rfl (jat hM.2.1 1 rfl) (st := []) rfl ?_
  show JW X 0 0 4 [some (.ref 0), some (.int p0)] [.int v2] (hTown G)
  refine js_ifne (t := 32) hM.1 (jat hM.2.1 2 rfl) rfl (fun hc10 => ?_) (fun hc10 => ?_)
  · have h := (if_neg hc10).symm.trans h
    refine JW.r hM 16 1 (pc2 := 33) (L2 := [some (.ref 0), some (.int p0)]) (st2 := [.int (0 : Int32)]) (μ2 := (hTown G)) rfl trivial ?_
    cases h
    exact js_zret hM.1 hp hM.2.2.2.2.2.2.2.1 rfl (by rw [hM.2.2.2.2.2.1]; exact Nat.le_of_ble_eq_true rfl) (by rw [hM.2.2.2.2.2.2.1]; exact Nat.le_of_ble_eq_true rfl) (jat hM.2.1 17 rfl) hq
  · have h := (if_pos hc10).symm.trans h
    refine JW.r hM 3 2 (pc2 := 9) (L2 := [some (.ref 0), some (.int p0)]) (st2 := [.int p0, .ref 0]) (μ2 := (hTown G)) rfl trivial ?_
    obtain ⟨v4, hv3, h⟩ := jbd h
    refine JW.cV (v := some (.int v4)) hM (m_X3_stands (jVX X) hM.1.2.2.2.2.2.2.2.2.2.1 N G p0 v4 hv3) (sb_Town_Town_0 G) (bi_Town_Town_0 G) rfl rfl rfl kc_X3_80 rfl rfl rfl rfl rfl (jat hM.2.1 5 rfl) (st := []) rfl ?_
    show JW X 0 0 12 [some (.ref 0), some (.int p0)] [.int v4] (hTown G)
    refine js_ifeq (t := 32) hM.1 (jat hM.2.1 6 rfl) rfl (fun hc9 => ?_) (fun hc9 => ?_)
    · have h := (if_pos hc9).symm.trans h
      refine JW.r hM 16 1 (pc2 := 33) (L2 := [some (.ref 0), some (.int p0)]) (st2 := [.int (0 : Int32)]) (μ2 := (hTown G)) rfl trivial ?_
      cases h
      exact js_zret hM.1 hp hM.2.2.2.2.2.2.2.1 rfl (by rw [hM.2.2.2.2.2.1]; exact Nat.le_of_ble_eq_true rfl) (by rw [hM.2.2.2.2.2.2.1]; exact Nat.le_of_ble_eq_true rfl) (jat hM.2.1 17 rfl) hq
    · have h := (if_neg hc9).symm.trans h
      obtain ⟨g5, h⟩ := jg h
      refine JW.r hM 7 5 (pc2 := 22) (L2 := [some (.ref 0), some (.int p0)]) (st2 := [.int (G 4 p0.toNatClampNeg), .ref 0]) (μ2 := (hTown G)) rfl ⟨g5, trivial⟩ ?_
      obtain ⟨v7, hv6, h⟩ := jbd h
      refine JW.cV (v := some (.int v7)) hM (m_X3_isEaten (jVX X) hM.1.2.2.2.2.2.2.2.2.2.1 N G (G 4 p0.toNatClampNeg) v7 hv6) (sb_Town_Town_0 G) (bi_Town_Town_0 G) rfl rfl rfl kc_X3_84 rfl rfl rfl rfl rfl (jat hM.2.1 12 rfl) (st := []) rfl ?_
      show JW X 0 0 25 [some (.ref 0), some (.int p0)] [.int v7] (hTown G)
      refine js_ifne (t := 32) hM.1 (jat hM.2.1 13 rfl) rfl (fun hc8 => ?_) (fun hc8 => ?_)
      · have h := (if_neg hc8).symm.trans h
        refine JW.r hM 16 1 (pc2 := 33) (L2 := [some (.ref 0), some (.int p0)]) (st2 := [.int (0 : Int32)]) (μ2 := (hTown G)) rfl trivial ?_
        cases h
        exact js_zret hM.1 hp hM.2.2.2.2.2.2.2.1 rfl (by rw [hM.2.2.2.2.2.1]; exact Nat.le_of_ble_eq_true rfl) (by rw [hM.2.2.2.2.2.2.1]; exact Nat.le_of_ble_eq_true rfl) (jat hM.2.1 17 rfl) hq
      · have h := (if_pos hc8).symm.trans h
        refine JW.r hM 14 2 (pc2 := 33) (L2 := [some (.ref 0), some (.int p0)]) (st2 := [.int (1 : Int32)]) (μ2 := (hTown G)) rfl trivial ?_
        cases h
        exact js_zret hM.1 hp hM.2.2.2.2.2.2.2.1 rfl (by rw [hM.2.2.2.2.2.1]; exact Nat.le_of_ble_eq_true rfl) (by rw [hM.2.2.2.2.2.2.1]; exact Nat.le_of_ble_eq_true rfl) (jat hM.2.1 17 rfl) hq
theorem m_X3_isOpen (V : jV) (hV : V.1.stackTraces = false) (N : Nat) (G : Nat → Nat → Int32) (p0 : Int32) (v : Int32) (h : p_X3_isOpen N G p0 = some v) : jMet V yX3_isOpen (jws yX3_isOpen cX3_isOpen 2 (some .boolean)) ⟨1, 0, 0, 21⟩ true 1 [.ref 0, .int p0] (hTown G) (fun o ν => o = some (.int v) ∧ ν = (hTown G)) (fun _ _ => False) := by
  refine jmk (tb := tbX3) (C := kX3_isOpen) hV rfl (by decide) tbX3_ok rfl kX3_isOpen_ok rfl ?_
  intro X hM _ hp _
  exact t_X3_isOpen hM hp N G p0 h ⟨rfl, rfl⟩
def p_X3_isOf (N : Nat) (G : Nat → Nat → Int32) (p0 : Int32) (p1 : Int32) : Option (Int32) :=
  if jin p0 30 = true then if (G 5 p0.toNatClampNeg) = p1 then (some (1 : Int32)) else (if jin p0 30 = true then if (G 6 p0.toNatClampNeg) = p1 then (some (1 : Int32)) else (some (0 : Int32)) else none) else none
set_option maxHeartbeats 4000000 in
set_option maxRecDepth 100000 in
theorem t_X3_isOf {X : jX} {po : Option Value → jH → Prop} {px : String → jH → Prop} {sf : Bool} {B9 : Nat} (hM : jMX X kX3_isOf RX3 tbX3 3 ⟨0, 0, 0, 0⟩ (some .boolean) 10) (hp : jPost X sf B9 po px) (N : Nat) (G : Nat → Nat → Int32) (p0 : Int32) (p1 : Int32) {res : Int32} (h : p_X3_isOf N G p0 p1 = some res) (hq : po (some (.int res)) (hTown G)) : JW X 0 0 0 [some (.ref 0), some (.int p0), some (.int p1)] [] (hTown G) := by
  unfold p_X3_isOf at h
  obtain ⟨g1, h⟩ := jg h
  refine JW.r hM 0 5 (pc2 := 7) (L2 := [some (.ref 0), some (.int p0), some (.int p1)]) (st2 := [.int p1, .int (G 5 p0.toNatClampNeg)]) (μ2 := (hTown G)) rfl ⟨g1, trivial⟩ ?_
  refine js_iceq (t := 20) hM.1 (jat hM.2.1 5 rfl) rfl (fun hc4 => ?_) (fun hc4 => ?_)
  · have h := (if_pos hc4).symm.trans h
    refine JW.r hM 12 2 (pc2 := 25) (L2 := [some (.ref 0), some (.int p0), some (.int p1)]) (st2 := [.int (1 : Int32)]) (μ2 := (hTown G)) rfl trivial ?_
    cases h
    exact js_zret hM.1 hp hM.2.2.2.2.2.2.2.1 rfl (by rw [hM.2.2.2.2.2.1]; exact Nat.le_of_ble_eq_true rfl) (by rw [hM.2.2.2.2.2.2.1]; exact Nat.le_of_ble_eq_true rfl) (jat hM.2.1 15 rfl) hq
  · have h := (if_neg hc4).symm.trans h
    obtain ⟨g2, h⟩ := jg h
    refine JW.r hM 6 5 (pc2 := 17) (L2 := [some (.ref 0), some (.int p0), some (.int p1)]) (st2 := [.int p1, .int (G 6 p0.toNatClampNeg)]) (μ2 := (hTown G)) rfl ⟨g2, trivial⟩ ?_
    refine js_icne (t := 24) hM.1 (jat hM.2.1 11 rfl) rfl (fun hc3 => ?_) (fun hc3 => ?_)
    · have h := (if_neg hc3).symm.trans h
      refine JW.r hM 14 1 (pc2 := 25) (L2 := [some (.ref 0), some (.int p0), some (.int p1)]) (st2 := [.int (0 : Int32)]) (μ2 := (hTown G)) rfl trivial ?_
      cases h
      exact js_zret hM.1 hp hM.2.2.2.2.2.2.2.1 rfl (by rw [hM.2.2.2.2.2.1]; exact Nat.le_of_ble_eq_true rfl) (by rw [hM.2.2.2.2.2.2.1]; exact Nat.le_of_ble_eq_true rfl) (jat hM.2.1 15 rfl) hq
    · have h := (if_pos hc3).symm.trans h
      refine JW.r hM 12 2 (pc2 := 25) (L2 := [some (.ref 0), some (.int p0), some (.int p1)]) (st2 := [.int (1 : Int32)]) (μ2 := (hTown G)) rfl trivial ?_
      cases h
      exact js_zret hM.1 hp hM.2.2.2.2.2.2.2.1 rfl (by rw [hM.2.2.2.2.2.1]; exact Nat.le_of_ble_eq_true rfl) (by rw [hM.2.2.2.2.2.2.1]; exact Nat.le_of_ble_eq_true rfl) (jat hM.2.1 15 rfl) hq
theorem m_X3_isOf (V : jV) (hV : V.1.stackTraces = false) (N : Nat) (G : Nat → Nat → Int32) (p0 : Int32) (p1 : Int32) (v : Int32) (h : p_X3_isOf N G p0 p1 = some v) : jMet V yX3_isOf (jws yX3_isOf cX3_isOf 3 (some .boolean)) ⟨0, 0, 0, 0⟩ true 1 [.ref 0, .int p0, .int p1] (hTown G) (fun o ν => o = some (.int v) ∧ ν = (hTown G)) (fun _ _ => False) := by
  refine jmk (tb := tbX3) (C := kX3_isOf) hV rfl (by decide) tbX3_ok rfl kX3_isOf_ok rfl ?_
  intro X hM _ hp _
  exact t_X3_isOf hM hp N G p0 p1 h ⟨rfl, rfl⟩
def p_X3_sideOf (N : Nat) (G : Nat → Nat → Int32) (p0 : Int32) (p1 : Int32) : Option (Int32) :=
  if p1 = 0 then (if jin p0 30 = true then some (G 5 p0.toNatClampNeg) else none) else (if jin p0 30 = true then some (G 6 p0.toNatClampNeg) else none)
set_option maxHeartbeats 4000000 in
set_option maxRecDepth 100000 in
theorem t_X3_sideOf {X : jX} {po : Option Value → jH → Prop} {px : String → jH → Prop} {sf : Bool} {B9 : Nat} (hM : jMX X kX3_sideOf RX3 tbX3 3 ⟨0, 0, 0, 0⟩ (some .int) 10) (hp : jPost X sf B9 po px) (N : Nat) (G : Nat → Nat → Int32) (p0 : Int32) (p1 : Int32) {res : Int32} (h : p_X3_sideOf N G p0 p1 = some res) (hq : po (some (.int res)) (hTown G)) : JW X 0 0 0 [some (.ref 0), some (.int p0), some (.int p1)] [] (hTown G) := by
  unfold p_X3_sideOf at h
  refine JW.r hM 0 1 (pc2 := 1) (L2 := [some (.ref 0), some (.int p0), some (.int p1)]) (st2 := [.int p1]) (μ2 := (hTown G)) rfl trivial ?_
  refine js_ifne (t := 13) hM.1 (jat hM.2.1 1 rfl) rfl (fun hc3 => ?_) (fun hc3 => ?_)
  · have h := (if_neg hc3).symm.trans h
    obtain ⟨g1, h⟩ := jg h
    refine JW.r hM 7 4 (pc2 := 19) (L2 := [some (.ref 0), some (.int p0), some (.int p1)]) (st2 := [.int (G 6 p0.toNatClampNeg)]) (μ2 := (hTown G)) rfl ⟨g1, trivial⟩ ?_
    cases h
    exact js_iret hM.1 hp hM.2.2.2.2.2.2.2.1 (by rw [hM.2.2.2.2.2.1]; exact Nat.le_of_ble_eq_true rfl) (by rw [hM.2.2.2.2.2.2.1]; exact Nat.le_of_ble_eq_true rfl) (jat hM.2.1 11 rfl) hq
  · have h := (if_pos hc3).symm.trans h
    obtain ⟨g2, h⟩ := jg h
    refine JW.r hM 2 5 (pc2 := 19) (L2 := [some (.ref 0), some (.int p0), some (.int p1)]) (st2 := [.int (G 5 p0.toNatClampNeg)]) (μ2 := (hTown G)) rfl ⟨g2, trivial⟩ ?_
    cases h
    exact js_iret hM.1 hp hM.2.2.2.2.2.2.2.1 (by rw [hM.2.2.2.2.2.1]; exact Nat.le_of_ble_eq_true rfl) (by rw [hM.2.2.2.2.2.2.1]; exact Nat.le_of_ble_eq_true rfl) (jat hM.2.1 11 rfl) hq
theorem m_X3_sideOf (V : jV) (hV : V.1.stackTraces = false) (N : Nat) (G : Nat → Nat → Int32) (p0 : Int32) (p1 : Int32) (v : Int32) (h : p_X3_sideOf N G p0 p1 = some v) : jMet V yX3_sideOf (jws yX3_sideOf cX3_sideOf 3 (some .int)) ⟨0, 0, 0, 0⟩ true 1 [.ref 0, .int p0, .int p1] (hTown G) (fun o ν => o = some (.int v) ∧ ν = (hTown G)) (fun _ _ => False) := by
  refine jmk (tb := tbX3) (C := kX3_sideOf) hV rfl (by decide) tbX3_ok rfl kX3_sideOf_ok rfl ?_
  intro X hM _ hp _
  exact t_X3_sideOf hM hp N G p0 p1 h ⟨rfl, rfl⟩
def p_X3_openBits_b26 (N : Nat) (G : Nat → Nat → Int32) (rv4 : Int32 → Int32 → Option (Int32)) (x1 : Int32) (x2 : Int32) : Option (Int32) :=
  rv4 x1 (x2 + 1)
def p_X3_openBits_b4 (N : Nat) (G : Nat → Nat → Int32) : Nat → (Int32) → (Int32) → Option (Int32)
  | 0, _, _ => none
  | n + 1, x1, x2 => if (G 0 7) ≤ x2 then (some x1) else ((p_X3_isOpen N G x2).bind (fun v2 => if v2 = 0 then (p_X3_openBits_b26 N G (p_X3_openBits_b4 N G n) x1 x2) else (p_X3_openBits_b26 N G (p_X3_openBits_b4 N G n) (x1 ||| ((1 : Int32) <<< (x2 &&& 31))) x2)))
def p_X3_openBits (N : Nat) (G : Nat → Nat → Int32) : Option (Int32) :=
  p_X3_openBits_b4 N G N (0 : Int32) (0 : Int32)
set_option maxHeartbeats 4000000 in
set_option maxRecDepth 100000 in
theorem t_X3_openBits_b26 {X : jX} {po : Option Value → jH → Prop} {px : String → jH → Prop} {sf : Bool} {B9 : Nat} (hM : jMX X kX3_openBits RX3 tbX3 3 ⟨2, 0, 0, 42⟩ (some .int) 10) (hp : jPost X sf B9 po px) (N : Nat) (G : Nat → Nat → Int32) (rv4 : Int32 → Int32 → Option (Int32)) {res : Int32} (ih4 : ∀ (x1 : Int32) (x2 : Int32), rv4 x1 x2 = some res → JW X 0 0 4 [some (.ref 0), some (.int x1), some (.int x2)] [] (hTown G)) (x1 : Int32) (x2 : Int32) (h : p_X3_openBits_b26 N G rv4 x1 x2 = some res) (hq : po (some (.int res)) (hTown G)) : JW X 0 0 26 [some (.ref 0), some (.int x1), some (.int x2)] [] (hTown G) := by
  unfold p_X3_openBits_b26 at h
  refine JW.r hM 18 2 (pc2 := 4) (L2 := [some (.ref 0), some (.int x1), some (.int (x2 + 1))]) (st2 := []) (μ2 := (hTown G)) rfl trivial ?_
  exact ih4 x1 (x2 + 1) h
set_option maxHeartbeats 4000000 in
set_option maxRecDepth 100000 in
theorem t_X3_openBits_b4 {X : jX} {po : Option Value → jH → Prop} {px : String → jH → Prop} {sf : Bool} {B9 : Nat} (hM : jMX X kX3_openBits RX3 tbX3 3 ⟨2, 0, 0, 42⟩ (some .int) 10) (hp : jPost X sf B9 po px) (N : Nat) (G : Nat → Nat → Int32) {res : Int32} : ∀ (n : Nat) (x1 : Int32) (x2 : Int32) (h : p_X3_openBits_b4 N G n x1 x2 = some res) (hq : po (some (.int res)) (hTown G)), JW X 0 0 4 [some (.ref 0), some (.int x1), some (.int x2)] [] (hTown G) := by
  intro n
  induction n with
  | zero =>
    intro x1 x2 h hq
    cases (show (none : Option (Int32)) = some res from h)
  | succ n ih4 =>
    intro x1 x2 h hq
    have ih4 := fun x1 x2 h9 => ih4 x1 x2 h9 hq
    rw [p_X3_openBits_b4] at h
    refine JW.r hM 4 3 (pc2 := 9) (L2 := [some (.ref 0), some (.int x1), some (.int x2)]) (st2 := [.int (G 0 7), .int x2]) (μ2 := (hTown G)) rfl trivial ?_
    refine js_icge (t := 32) hM.1 (jat hM.2.1 7 rfl) rfl (fun hc4 => ?_) (fun hc4 => ?_)
    · have h := (if_pos hc4).symm.trans h
      refine JW.r hM 20 1 (pc2 := 33) (L2 := [some (.ref 0), some (.int x1), some (.int x2)]) (st2 := [.int x1]) (μ2 := (hTown G)) rfl trivial ?_
      cases h
      exact js_iret hM.1 hp hM.2.2.2.2.2.2.2.1 (by rw [hM.2.2.2.2.2.1]; exact Nat.le_of_ble_eq_true rfl) (by rw [hM.2.2.2.2.2.2.1]; exact Nat.le_of_ble_eq_true rfl) (jat hM.2.1 21 rfl) hq
    · have h := (if_neg hc4).symm.trans h
      refine JW.r hM 8 2 (pc2 := 14) (L2 := [some (.ref 0), some (.int x1), some (.int x2)]) (st2 := [.int x2, .ref 0]) (μ2 := (hTown G)) rfl trivial ?_
      obtain ⟨v2, hv1, h⟩ := jbd h
      refine JW.cV (v := some (.int v2)) hM (m_X3_isOpen (jVX X) hM.1.2.2.2.2.2.2.2.2.2.1 N G x2 v2 hv1) (sb_Town_Town_0 G) (bi_Town_Town_0 G) rfl rfl rfl kc_X3_87 rfl rfl rfl rfl rfl (jat hM.2.1 10 rfl) (st := []) rfl ?_
      show JW X 0 0 17 [some (.ref 0), some (.int x1), some (.int x2)] [.int v2] (hTown G)
      refine js_ifeq (t := 26) hM.1 (jat hM.2.1 11 rfl) rfl (fun hc3 => ?_) (fun hc3 => ?_)
      · have h := (if_pos hc3).symm.trans h
        exact t_X3_openBits_b26 hM hp N G (p_X3_openBits_b4 N G n) ih4 x1 x2 h hq
      · have h := (if_neg hc3).symm.trans h
        refine JW.r hM 12 6 (pc2 := 26) (L2 := [some (.ref 0), some (.int (x1 ||| ((1 : Int32) <<< (x2 &&& 31)))), some (.int x2)]) (st2 := []) (μ2 := (hTown G)) rfl trivial ?_
        exact t_X3_openBits_b26 hM hp N G (p_X3_openBits_b4 N G n) ih4 (x1 ||| ((1 : Int32) <<< (x2 &&& 31))) x2 h hq
set_option maxHeartbeats 4000000 in
set_option maxRecDepth 100000 in
theorem t_X3_openBits {X : jX} {po : Option Value → jH → Prop} {px : String → jH → Prop} {sf : Bool} {B9 : Nat} (hM : jMX X kX3_openBits RX3 tbX3 3 ⟨2, 0, 0, 42⟩ (some .int) 10) (hp : jPost X sf B9 po px) (N : Nat) (G : Nat → Nat → Int32) {res : Int32} (h : p_X3_openBits N G = some res) (hq : po (some (.int res)) (hTown G)) : JW X 0 0 0 [some (.ref 0), none, none] [] (hTown G) := by
  unfold p_X3_openBits at h
  refine JW.r hM 0 4 (pc2 := 4) (L2 := [some (.ref 0), some (.int (0 : Int32)), some (.int (0 : Int32))]) (st2 := []) (μ2 := (hTown G)) rfl trivial ?_
  exact t_X3_openBits_b4 hM hp N G N (0 : Int32) (0 : Int32) h hq
theorem m_X3_openBits (V : jV) (hV : V.1.stackTraces = false) (N : Nat) (G : Nat → Nat → Int32) (v : Int32) (h : p_X3_openBits N G = some v) : jMet V yX3_openBits (jws yX3_openBits cX3_openBits 3 (some .int)) ⟨2, 0, 0, 42⟩ true 1 [.ref 0] (hTown G) (fun o ν => o = some (.int v) ∧ ν = (hTown G)) (fun _ _ => False) := by
  refine jmk (tb := tbX3) (C := kX3_openBits) hV rfl (by decide) tbX3_ok rfl kX3_openBits_ok rfl ?_
  intro X hM _ hp _
  exact t_X3_openBits hM hp N G h ⟨rfl, rfl⟩
def p_X3_worthTo (N : Nat) (G : Nat → Nat → Int32) (p0 : Int32) (p1 : Int32) : Option (Int32) :=
  if jin ((p0 * (6 : Int32)) + p1) 60 = true then some (G 3 ((p0 * (6 : Int32)) + p1).toNatClampNeg) else none
set_option maxHeartbeats 4000000 in
set_option maxRecDepth 100000 in
theorem t_X3_worthTo {X : jX} {po : Option Value → jH → Prop} {px : String → jH → Prop} {sf : Bool} {B9 : Nat} (hM : jMX X kX3_worthTo RX3 tbX3 3 ⟨0, 0, 0, 0⟩ (some .int) 10) (hp : jPost X sf B9 po px) (N : Nat) (G : Nat → Nat → Int32) (p0 : Int32) (p1 : Int32) {res : Int32} (h : p_X3_worthTo N G p0 p1 = some res) (hq : po (some (.int res)) (hTown G)) : JW X 0 0 0 [some (.ref 0), some (.int p0), some (.int p1)] [] (hTown G) := by
  unfold p_X3_worthTo at h
  obtain ⟨g1, h⟩ := jg h
  refine JW.r hM 0 8 (pc2 := 11) (L2 := [some (.ref 0), some (.int p0), some (.int p1)]) (st2 := [.int (G 3 ((p0 * (6 : Int32)) + p1).toNatClampNeg)]) (μ2 := (hTown G)) rfl ⟨g1, trivial⟩ ?_
  cases h
  exact js_iret hM.1 hp hM.2.2.2.2.2.2.2.1 (by rw [hM.2.2.2.2.2.1]; exact Nat.le_of_ble_eq_true rfl) (by rw [hM.2.2.2.2.2.2.1]; exact Nat.le_of_ble_eq_true rfl) (jat hM.2.1 8 rfl) hq
theorem m_X3_worthTo (V : jV) (hV : V.1.stackTraces = false) (N : Nat) (G : Nat → Nat → Int32) (p0 : Int32) (p1 : Int32) (v : Int32) (h : p_X3_worthTo N G p0 p1 = some v) : jMet V yX3_worthTo (jws yX3_worthTo cX3_worthTo 3 (some .int)) ⟨0, 0, 0, 0⟩ true 1 [.ref 0, .int p0, .int p1] (hTown G) (fun o ν => o = some (.int v) ∧ ν = (hTown G)) (fun _ _ => False) := by
  refine jmk (tb := tbX3) (C := kX3_worthTo) hV rfl (by decide) tbX3_ok rfl kX3_worthTo_ok rfl ?_
  intro X hM _ hp _
  exact t_X3_worthTo hM hp N G p0 p1 h ⟨rfl, rfl⟩
def p_X3_setWorth (N : Nat) (G : Nat → Nat → Int32) (p0 : Int32) (p1 : Int32) (p2 : Int32) : Option ((Nat → Nat → Int32)) :=
  if jin ((p0 * (6 : Int32)) + p1) 60 = true then jlt (jup G 3 ((p0 * (6 : Int32)) + p1).toNatClampNeg p2) fun G2 => some G2 else none
set_option maxHeartbeats 4000000 in
set_option maxRecDepth 100000 in
theorem t_X3_setWorth {X : jX} {po : Option Value → jH → Prop} {px : String → jH → Prop} {sf : Bool} {B9 : Nat} (hM : jMX X kX3_setWorth RX3 tbX3 4 ⟨0, 0, 0, 0⟩ none 10) (hp : jPost X sf B9 po px) (N : Nat) (G : Nat → Nat → Int32) (p0 : Int32) (p1 : Int32) (p2 : Int32) {res : (Nat → Nat → Int32)} (h : p_X3_setWorth N G p0 p1 p2 = some res) (hq : po none (hTown res)) : JW X 0 0 0 [some (.ref 0), some (.int p0), some (.int p1), some (.int p2)] [] (hTown G) := by
  unfold p_X3_setWorth at h
  obtain ⟨g1, h⟩ := jg h
  obtain ⟨G2, e3, h⟩ := jlE h
  refine JW.r hM 0 9 (pc2 := 12) (L2 := [some (.ref 0), some (.int p0), some (.int p1), some (.int p2)]) (st2 := []) (μ2 := (hTown (jup G 3 ((p0 * (6 : Int32)) + p1).toNatClampNeg p2))) rfl ⟨g1, trivial⟩ ?_
  rw [e3]
  cases h
  exact js_vret hM.1 hp hM.2.2.2.2.2.2.2.1 (by rw [hM.2.2.2.2.2.1]; exact Nat.le_of_ble_eq_true rfl) (by rw [hM.2.2.2.2.2.2.1]; exact Nat.le_of_ble_eq_true rfl) (jat hM.2.1 9 rfl) hq
theorem m_X3_setWorth (V : jV) (hV : V.1.stackTraces = false) (N : Nat) (G : Nat → Nat → Int32) (p0 : Int32) (p1 : Int32) (p2 : Int32) (v : (Nat → Nat → Int32)) (h : p_X3_setWorth N G p0 p1 p2 = some v) : jMet V yX3_setWorth (jws yX3_setWorth cX3_setWorth 4 none) ⟨0, 0, 0, 0⟩ true 1 [.ref 0, .int p0, .int p1, .int p2] (hTown G) (fun o ν => o = none ∧ ν = (hTown v)) (fun _ _ => False) := by
  refine jmk (tb := tbX3) (C := kX3_setWorth) hV rfl (by decide) tbX3_ok rfl kX3_setWorth_ok rfl ?_
  intro X hM _ hp _
  exact t_X3_setWorth hM hp N G p0 p1 p2 h ⟨rfl, rfl⟩
def p_X3_held_b25 (N : Nat) (G : Nat → Nat → Int32) (rv4 : Int32 → Int32 → Int32 → Option (Int32)) (x1 : Int32) (x2 : Int32) (x3 : Int32) : Option (Int32) :=
  rv4 x1 x2 (x3 + 1)
def p_X3_held_b4 (N : Nat) (G : Nat → Nat → Int32) : Nat → (Int32) → (Int32) → (Int32) → Option (Int32)
  | 0, _, _, _ => none
  | n + 1, x1, x2, x3 => if (G 0 2) ≤ x3 then (some x2) else (if jin x3 10 = true then if (G 2 x3.toNatClampNeg) = x1 then (p_X3_held_b25 N G (p_X3_held_b4 N G n) x1 (x2 + 1) x3) else (p_X3_held_b25 N G (p_X3_held_b4 N G n) x1 x2 x3) else none)
def p_X3_held (N : Nat) (G : Nat → Nat → Int32) (p0 : Int32) : Option (Int32) :=
  p_X3_held_b4 N G N p0 (0 : Int32) (0 : Int32)
set_option maxHeartbeats 4000000 in
set_option maxRecDepth 100000 in
theorem t_X3_held_b25 {X : jX} {po : Option Value → jH → Prop} {px : String → jH → Prop} {sf : Bool} {B9 : Nat} (hM : jMX X kX3_held RX3 tbX3 4 ⟨0, 0, 0, 0⟩ (some .int) 10) (hp : jPost X sf B9 po px) (N : Nat) (G : Nat → Nat → Int32) (rv4 : Int32 → Int32 → Int32 → Option (Int32)) {res : Int32} (ih4 : ∀ (x1 : Int32) (x2 : Int32) (x3 : Int32), rv4 x1 x2 x3 = some res → JW X 0 0 4 [some (.ref 0), some (.int x1), some (.int x2), some (.int x3)] [] (hTown G)) (x1 : Int32) (x2 : Int32) (x3 : Int32) (h : p_X3_held_b25 N G rv4 x1 x2 x3 = some res) (hq : po (some (.int res)) (hTown G)) : JW X 0 0 25 [some (.ref 0), some (.int x1), some (.int x2), some (.int x3)] [] (hTown G) := by
  unfold p_X3_held_b25 at h
  refine JW.r hM 15 2 (pc2 := 4) (L2 := [some (.ref 0), some (.int x1), some (.int x2), some (.int (x3 + 1))]) (st2 := []) (μ2 := (hTown G)) rfl trivial ?_
  exact ih4 x1 x2 (x3 + 1) h
set_option maxHeartbeats 4000000 in
set_option maxRecDepth 100000 in
theorem t_X3_held_b4 {X : jX} {po : Option Value → jH → Prop} {px : String → jH → Prop} {sf : Bool} {B9 : Nat} (hM : jMX X kX3_held RX3 tbX3 4 ⟨0, 0, 0, 0⟩ (some .int) 10) (hp : jPost X sf B9 po px) (N : Nat) (G : Nat → Nat → Int32) {res : Int32} : ∀ (n : Nat) (x1 : Int32) (x2 : Int32) (x3 : Int32) (h : p_X3_held_b4 N G n x1 x2 x3 = some res) (hq : po (some (.int res)) (hTown G)), JW X 0 0 4 [some (.ref 0), some (.int x1), some (.int x2), some (.int x3)] [] (hTown G) := by
  intro n
  induction n with
  | zero =>
    intro x1 x2 x3 h hq
    cases (show (none : Option (Int32)) = some res from h)
  | succ n ih4 =>
    intro x1 x2 x3 h hq
    have ih4 := fun x1 x2 x3 h9 => ih4 x1 x2 x3 h9 hq
    rw [p_X3_held_b4] at h
    refine JW.r hM 4 3 (pc2 := 9) (L2 := [some (.ref 0), some (.int x1), some (.int x2), some (.int x3)]) (st2 := [.int (G 0 2), .int x3]) (μ2 := (hTown G)) rfl trivial ?_
    refine js_icge (t := 31) hM.1 (jat hM.2.1 7 rfl) rfl (fun hc3 => ?_) (fun hc3 => ?_)
    · have h := (if_pos hc3).symm.trans h
      refine JW.r hM 17 1 (pc2 := 32) (L2 := [some (.ref 0), some (.int x1), some (.int x2), some (.int x3)]) (st2 := [.int x2]) (μ2 := (hTown G)) rfl trivial ?_
      cases h
      exact js_iret hM.1 hp hM.2.2.2.2.2.2.2.1 (by rw [hM.2.2.2.2.2.1]; exact Nat.le_of_ble_eq_true rfl) (by rw [hM.2.2.2.2.2.2.1]; exact Nat.le_of_ble_eq_true rfl) (jat hM.2.1 18 rfl) hq
    · have h := (if_neg hc3).symm.trans h
      obtain ⟨g1, h⟩ := jg h
      refine JW.r hM 8 5 (pc2 := 19) (L2 := [some (.ref 0), some (.int x1), some (.int x2), some (.int x3)]) (st2 := [.int x1, .int (G 2 x3.toNatClampNeg)]) (μ2 := (hTown G)) rfl ⟨g1, trivial⟩ ?_
      refine js_icne (t := 25) hM.1 (jat hM.2.1 13 rfl) rfl (fun hc2 => ?_) (fun hc2 => ?_)
      · have h := (if_neg hc2).symm.trans h
        exact t_X3_held_b25 hM hp N G (p_X3_held_b4 N G n) ih4 x1 x2 x3 h hq
      · have h := (if_pos hc2).symm.trans h
        refine JW.r hM 14 1 (pc2 := 25) (L2 := [some (.ref 0), some (.int x1), some (.int (x2 + 1)), some (.int x3)]) (st2 := []) (μ2 := (hTown G)) rfl trivial ?_
        exact t_X3_held_b25 hM hp N G (p_X3_held_b4 N G n) ih4 x1 (x2 + 1) x3 h hq
set_option maxHeartbeats 4000000 in
set_option maxRecDepth 100000 in
theorem t_X3_held {X : jX} {po : Option Value → jH → Prop} {px : String → jH → Prop} {sf : Bool} {B9 : Nat} (hM : jMX X kX3_held RX3 tbX3 4 ⟨0, 0, 0, 0⟩ (some .int) 10) (hp : jPost X sf B9 po px) (N : Nat) (G : Nat → Nat → Int32) (p0 : Int32) {res : Int32} (h : p_X3_held N G p0 = some res) (hq : po (some (.int res)) (hTown G)) : JW X 0 0 0 [some (.ref 0), some (.int p0), none, none] [] (hTown G) := by
  unfold p_X3_held at h
  refine JW.r hM 0 4 (pc2 := 4) (L2 := [some (.ref 0), some (.int p0), some (.int (0 : Int32)), some (.int (0 : Int32))]) (st2 := []) (μ2 := (hTown G)) rfl trivial ?_
  exact t_X3_held_b4 hM hp N G N p0 (0 : Int32) (0 : Int32) h hq
theorem m_X3_held (V : jV) (hV : V.1.stackTraces = false) (N : Nat) (G : Nat → Nat → Int32) (p0 : Int32) (v : Int32) (h : p_X3_held N G p0 = some v) : jMet V yX3_held (jws yX3_held cX3_held 4 (some .int)) ⟨0, 0, 0, 0⟩ true 1 [.ref 0, .int p0] (hTown G) (fun o ν => o = some (.int v) ∧ ν = (hTown G)) (fun _ _ => False) := by
  refine jmk (tb := tbX3) (C := kX3_held) hV rfl (by decide) tbX3_ok rfl kX3_held_ok rfl ?_
  intro X hM _ hp _
  exact t_X3_held hM hp N G p0 h ⟨rfl, rfl⟩
def p_X3_wealth_b36 (N : Nat) (G : Nat → Nat → Int32) (rv9 : Int32 → Int32 → Int32 → Option (Int32)) (x1 : Int32) (x2 : Int32) (x3 : Int32) : Option (Int32) :=
  rv9 x1 x2 (x3 + 1)
def p_X3_wealth_b9 (N : Nat) (G : Nat → Nat → Int32) : Nat → (Int32) → (Int32) → (Int32) → Option (Int32)
  | 0, _, _, _ => none
  | n + 1, x1, x2, x3 => if (G 0 2) ≤ x3 then (some x2) else (if jin x3 10 = true then if (G 2 x3.toNatClampNeg) = x1 then ((p_X3_worthTo N G x3 x1).bind (fun v4 => p_X3_wealth_b36 N G (p_X3_wealth_b9 N G n) x1 (x2 + v4) x3)) else (p_X3_wealth_b36 N G (p_X3_wealth_b9 N G n) x1 x2 x3) else none)
def p_X3_wealth (N : Nat) (G : Nat → Nat → Int32) (p0 : Int32) : Option (Int32) :=
  if jin p0 6 = true then p_X3_wealth_b9 N G N p0 (G 1 p0.toNatClampNeg) (0 : Int32) else none
set_option maxHeartbeats 4000000 in
set_option maxRecDepth 100000 in
theorem t_X3_wealth_b36 {X : jX} {po : Option Value → jH → Prop} {px : String → jH → Prop} {sf : Bool} {B9 : Nat} (hM : jMX X kX3_wealth RX3 tbX3 4 ⟨1, 0, 0, 22⟩ (some .int) 10) (hp : jPost X sf B9 po px) (N : Nat) (G : Nat → Nat → Int32) (rv9 : Int32 → Int32 → Int32 → Option (Int32)) {res : Int32} (ih9 : ∀ (x1 : Int32) (x2 : Int32) (x3 : Int32), rv9 x1 x2 x3 = some res → JW X 0 0 9 [some (.ref 0), some (.int x1), some (.int x2), some (.int x3)] [] (hTown G)) (x1 : Int32) (x2 : Int32) (x3 : Int32) (h : p_X3_wealth_b36 N G rv9 x1 x2 x3 = some res) (hq : po (some (.int res)) (hTown G)) : JW X 0 0 36 [some (.ref 0), some (.int x1), some (.int x2), some (.int x3)] [] (hTown G) := by
  unfold p_X3_wealth_b36 at h
  refine JW.r hM 24 2 (pc2 := 9) (L2 := [some (.ref 0), some (.int x1), some (.int x2), some (.int (x3 + 1))]) (st2 := []) (μ2 := (hTown G)) rfl trivial ?_
  exact ih9 x1 x2 (x3 + 1) h
set_option maxHeartbeats 4000000 in
set_option maxRecDepth 100000 in
theorem t_X3_wealth_b9 {X : jX} {po : Option Value → jH → Prop} {px : String → jH → Prop} {sf : Bool} {B9 : Nat} (hM : jMX X kX3_wealth RX3 tbX3 4 ⟨1, 0, 0, 22⟩ (some .int) 10) (hp : jPost X sf B9 po px) (N : Nat) (G : Nat → Nat → Int32) {res : Int32} : ∀ (n : Nat) (x1 : Int32) (x2 : Int32) (x3 : Int32) (h : p_X3_wealth_b9 N G n x1 x2 x3 = some res) (hq : po (some (.int res)) (hTown G)), JW X 0 0 9 [some (.ref 0), some (.int x1), some (.int x2), some (.int x3)] [] (hTown G) := by
  intro n
  induction n with
  | zero =>
    intro x1 x2 x3 h hq
    cases (show (none : Option (Int32)) = some res from h)
  | succ n ih9 =>
    intro x1 x2 x3 h hq
    have ih9 := fun x1 x2 x3 h9 => ih9 x1 x2 x3 h9 hq
    rw [p_X3_wealth_b9] at h
    refine JW.r hM 7 3 (pc2 := 14) (L2 := [some (.ref 0), some (.int x1), some (.int x2), some (.int x3)]) (st2 := [.int (G 0 2), .int x3]) (μ2 := (hTown G)) rfl trivial ?_
    refine js_icge (t := 42) hM.1 (jat hM.2.1 10 rfl) rfl (fun hc6 => ?_) (fun hc6 => ?_)
    · have h := (if_pos hc6).symm.trans h
      refine JW.r hM 26 1 (pc2 := 43) (L2 := [some (.ref 0), some (.int x1), some (.int x2), some (.int x3)]) (st2 := [.int x2]) (μ2 := (hTown G)) rfl trivial ?_
      cases h
      exact js_iret hM.1 hp hM.2.2.2.2.2.2.2.1 (by rw [hM.2.2.2.2.2.1]; exact Nat.le_of_ble_eq_true rfl) (by rw [hM.2.2.2.2.2.2.1]; exact Nat.le_of_ble_eq_true rfl) (jat hM.2.1 27 rfl) hq
    · have h := (if_neg hc6).symm.trans h
      obtain ⟨g2, h⟩ := jg h
      refine JW.r hM 11 5 (pc2 := 24) (L2 := [some (.ref 0), some (.int x1), some (.int x2), some (.int x3)]) (st2 := [.int x1, .int (G 2 x3.toNatClampNeg)]) (μ2 := (hTown G)) rfl ⟨g2, trivial⟩ ?_
      refine js_icne (t := 36) hM.1 (jat hM.2.1 16 rfl) rfl (fun hc5 => ?_) (fun hc5 => ?_)
      · have h := (if_neg hc5).symm.trans h
        exact t_X3_wealth_b36 hM hp N G (p_X3_wealth_b9 N G n) ih9 x1 x2 x3 h hq
      · have h := (if_pos hc5).symm.trans h
        refine JW.r hM 17 4 (pc2 := 31) (L2 := [some (.ref 0), some (.int x1), some (.int x2), some (.int x3)]) (st2 := [.int x1, .int x3, .ref 0, .int x2]) (μ2 := (hTown G)) rfl trivial ?_
        obtain ⟨v4, hv3, h⟩ := jbd h
        refine JW.cV (v := some (.int v4)) hM (m_X3_worthTo (jVX X) hM.1.2.2.2.2.2.2.2.2.2.1 N G x3 x1 v4 hv3) (sb_Town_Town_0 G) (bi_Town_Town_0 G) rfl rfl rfl kc_X3_90 rfl rfl rfl rfl rfl (jat hM.2.1 21 rfl) (st := [.int x2]) rfl ?_
        show JW X 0 0 34 [some (.ref 0), some (.int x1), some (.int x2), some (.int x3)] [.int v4, .int x2] (hTown G)
        refine JW.r hM 22 2 (pc2 := 36) (L2 := [some (.ref 0), some (.int x1), some (.int (x2 + v4)), some (.int x3)]) (st2 := []) (μ2 := (hTown G)) rfl trivial ?_
        exact t_X3_wealth_b36 hM hp N G (p_X3_wealth_b9 N G n) ih9 x1 (x2 + v4) x3 h hq
set_option maxHeartbeats 4000000 in
set_option maxRecDepth 100000 in
theorem t_X3_wealth {X : jX} {po : Option Value → jH → Prop} {px : String → jH → Prop} {sf : Bool} {B9 : Nat} (hM : jMX X kX3_wealth RX3 tbX3 4 ⟨1, 0, 0, 22⟩ (some .int) 10) (hp : jPost X sf B9 po px) (N : Nat) (G : Nat → Nat → Int32) (p0 : Int32) {res : Int32} (h : p_X3_wealth N G p0 = some res) (hq : po (some (.int res)) (hTown G)) : JW X 0 0 0 [some (.ref 0), some (.int p0), none, none] [] (hTown G) := by
  unfold p_X3_wealth at h
  obtain ⟨g1, h⟩ := jg h
  refine JW.r hM 0 7 (pc2 := 9) (L2 := [some (.ref 0), some (.int p0), some (.int (G 1 p0.toNatClampNeg)), some (.int (0 : Int32))]) (st2 := []) (μ2 := (hTown G)) rfl ⟨g1, trivial⟩ ?_
  exact t_X3_wealth_b9 hM hp N G N p0 (G 1 p0.toNatClampNeg) (0 : Int32) h hq
theorem m_X3_wealth (V : jV) (hV : V.1.stackTraces = false) (N : Nat) (G : Nat → Nat → Int32) (p0 : Int32) (v : Int32) (h : p_X3_wealth N G p0 = some v) : jMet V yX3_wealth (jws yX3_wealth cX3_wealth 4 (some .int)) ⟨1, 0, 0, 22⟩ true 1 [.ref 0, .int p0] (hTown G) (fun o ν => o = some (.int v) ∧ ν = (hTown G)) (fun _ _ => False) := by
  refine jmk (tb := tbX3) (C := kX3_wealth) hV rfl (by decide) tbX3_ok rfl kX3_wealth_ok rfl ?_
  intro X hM _ hp _
  exact t_X3_wealth hM hp N G p0 h ⟨rfl, rfl⟩
def p_X3_coinsOfAll_b4 (N : Nat) (G : Nat → Nat → Int32) : Nat → (Int32) → (Int32) → Option (Int32)
  | 0, _, _ => none
  | n + 1, x1, x2 => if (G 0 1) ≤ x2 then (some x1) else (if jin x2 6 = true then (p_X3_coinsOfAll_b4 N G n) (x1 + (G 1 x2.toNatClampNeg)) (x2 + 1) else none)
def p_X3_coinsOfAll (N : Nat) (G : Nat → Nat → Int32) : Option (Int32) :=
  p_X3_coinsOfAll_b4 N G N (0 : Int32) (0 : Int32)
set_option maxHeartbeats 4000000 in
set_option maxRecDepth 100000 in
theorem t_X3_coinsOfAll_b4 {X : jX} {po : Option Value → jH → Prop} {px : String → jH → Prop} {sf : Bool} {B9 : Nat} (hM : jMX X kX3_coinsOfAll RX3 tbX3 3 ⟨0, 0, 0, 0⟩ (some .int) 10) (hp : jPost X sf B9 po px) (N : Nat) (G : Nat → Nat → Int32) {res : Int32} : ∀ (n : Nat) (x1 : Int32) (x2 : Int32) (h : p_X3_coinsOfAll_b4 N G n x1 x2 = some res) (hq : po (some (.int res)) (hTown G)), JW X 0 0 4 [some (.ref 0), some (.int x1), some (.int x2)] [] (hTown G) := by
  intro n
  induction n with
  | zero =>
    intro x1 x2 h hq
    cases (show (none : Option (Int32)) = some res from h)
  | succ n ih4 =>
    intro x1 x2 h hq
    have ih4 := fun x1 x2 h9 => ih4 x1 x2 h9 hq
    rw [p_X3_coinsOfAll_b4] at h
    refine JW.r hM 4 3 (pc2 := 9) (L2 := [some (.ref 0), some (.int x1), some (.int x2)]) (st2 := [.int (G 0 1), .int x2]) (μ2 := (hTown G)) rfl trivial ?_
    refine js_icge (t := 27) hM.1 (jat hM.2.1 7 rfl) rfl (fun hc2 => ?_) (fun hc2 => ?_)
    · have h := (if_pos hc2).symm.trans h
      refine JW.r hM 17 1 (pc2 := 28) (L2 := [some (.ref 0), some (.int x1), some (.int x2)]) (st2 := [.int x1]) (μ2 := (hTown G)) rfl trivial ?_
      cases h
      exact js_iret hM.1 hp hM.2.2.2.2.2.2.2.1 (by rw [hM.2.2.2.2.2.1]; exact Nat.le_of_ble_eq_true rfl) (by rw [hM.2.2.2.2.2.2.1]; exact Nat.le_of_ble_eq_true rfl) (jat hM.2.1 18 rfl) hq
    · have h := (if_neg hc2).symm.trans h
      obtain ⟨g1, h⟩ := jg h
      refine JW.r hM 8 9 (pc2 := 4) (L2 := [some (.ref 0), some (.int (x1 + (G 1 x2.toNatClampNeg))), some (.int (x2 + 1))]) (st2 := []) (μ2 := (hTown G)) rfl ⟨g1, trivial⟩ ?_
      exact ih4 (x1 + (G 1 x2.toNatClampNeg)) (x2 + 1) h
set_option maxHeartbeats 4000000 in
set_option maxRecDepth 100000 in
theorem t_X3_coinsOfAll {X : jX} {po : Option Value → jH → Prop} {px : String → jH → Prop} {sf : Bool} {B9 : Nat} (hM : jMX X kX3_coinsOfAll RX3 tbX3 3 ⟨0, 0, 0, 0⟩ (some .int) 10) (hp : jPost X sf B9 po px) (N : Nat) (G : Nat → Nat → Int32) {res : Int32} (h : p_X3_coinsOfAll N G = some res) (hq : po (some (.int res)) (hTown G)) : JW X 0 0 0 [some (.ref 0), none, none] [] (hTown G) := by
  unfold p_X3_coinsOfAll at h
  refine JW.r hM 0 4 (pc2 := 4) (L2 := [some (.ref 0), some (.int (0 : Int32)), some (.int (0 : Int32))]) (st2 := []) (μ2 := (hTown G)) rfl trivial ?_
  exact t_X3_coinsOfAll_b4 hM hp N G N (0 : Int32) (0 : Int32) h hq
theorem m_X3_coinsOfAll (V : jV) (hV : V.1.stackTraces = false) (N : Nat) (G : Nat → Nat → Int32) (v : Int32) (h : p_X3_coinsOfAll N G = some v) : jMet V yX3_coinsOfAll (jws yX3_coinsOfAll cX3_coinsOfAll 3 (some .int)) ⟨0, 0, 0, 0⟩ true 1 [.ref 0] (hTown G) (fun o ν => o = some (.int v) ∧ ν = (hTown G)) (fun _ _ => False) := by
  refine jmk (tb := tbX3) (C := kX3_coinsOfAll) hV rfl (by decide) tbX3_ok rfl kX3_coinsOfAll_ok rfl ?_
  intro X hM _ hp _
  exact t_X3_coinsOfAll hM hp N G h ⟨rfl, rfl⟩
def p_X3_wealthOfAll_b4 (N : Nat) (G : Nat → Nat → Int32) : Nat → (Int32) → (Int32) → Option (Int32)
  | 0, _, _ => none
  | n + 1, x1, x2 => if (G 0 1) ≤ x2 then (some x1) else ((p_X3_wealth N G x2).bind (fun v2 => (p_X3_wealthOfAll_b4 N G n) (x1 + v2) (x2 + 1)))
def p_X3_wealthOfAll (N : Nat) (G : Nat → Nat → Int32) : Option (Int32) :=
  p_X3_wealthOfAll_b4 N G N (0 : Int32) (0 : Int32)
set_option maxHeartbeats 4000000 in
set_option maxRecDepth 100000 in
theorem t_X3_wealthOfAll_b4 {X : jX} {po : Option Value → jH → Prop} {px : String → jH → Prop} {sf : Bool} {B9 : Nat} (hM : jMX X kX3_wealthOfAll RX3 tbX3 3 ⟨2, 0, 0, 45⟩ (some .int) 10) (hp : jPost X sf B9 po px) (N : Nat) (G : Nat → Nat → Int32) {res : Int32} : ∀ (n : Nat) (x1 : Int32) (x2 : Int32) (h : p_X3_wealthOfAll_b4 N G n x1 x2 = some res) (hq : po (some (.int res)) (hTown G)), JW X 0 0 4 [some (.ref 0), some (.int x1), some (.int x2)] [] (hTown G) := by
  intro n
  induction n with
  | zero =>
    intro x1 x2 h hq
    cases (show (none : Option (Int32)) = some res from h)
  | succ n ih4 =>
    intro x1 x2 h hq
    have ih4 := fun x1 x2 h9 => ih4 x1 x2 h9 hq
    rw [p_X3_wealthOfAll_b4] at h
    refine JW.r hM 4 3 (pc2 := 9) (L2 := [some (.ref 0), some (.int x1), some (.int x2)]) (st2 := [.int (G 0 1), .int x2]) (μ2 := (hTown G)) rfl trivial ?_
    refine js_icge (t := 26) hM.1 (jat hM.2.1 7 rfl) rfl (fun hc3 => ?_) (fun hc3 => ?_)
    · have h := (if_pos hc3).symm.trans h
      refine JW.r hM 16 1 (pc2 := 27) (L2 := [some (.ref 0), some (.int x1), some (.int x2)]) (st2 := [.int x1]) (μ2 := (hTown G)) rfl trivial ?_
      cases h
      exact js_iret hM.1 hp hM.2.2.2.2.2.2.2.1 (by rw [hM.2.2.2.2.2.1]; exact Nat.le_of_ble_eq_true rfl) (by rw [hM.2.2.2.2.2.2.1]; exact Nat.le_of_ble_eq_true rfl) (jat hM.2.1 17 rfl) hq
    · have h := (if_neg hc3).symm.trans h
      refine JW.r hM 8 3 (pc2 := 15) (L2 := [some (.ref 0), some (.int x1), some (.int x2)]) (st2 := [.int x2, .ref 0, .int x1]) (μ2 := (hTown G)) rfl trivial ?_
      obtain ⟨v2, hv1, h⟩ := jbd h
      refine JW.cV (v := some (.int v2)) hM (m_X3_wealth (jVX X) hM.1.2.2.2.2.2.2.2.2.2.1 N G x2 v2 hv1) (sb_Town_Town_0 G) (bi_Town_Town_0 G) rfl rfl rfl kc_X3_94 rfl rfl rfl rfl rfl (jat hM.2.1 11 rfl) (st := [.int x1]) rfl ?_
      show JW X 0 0 18 [some (.ref 0), some (.int x1), some (.int x2)] [.int v2, .int x1] (hTown G)
      refine JW.r hM 12 4 (pc2 := 4) (L2 := [some (.ref 0), some (.int (x1 + v2)), some (.int (x2 + 1))]) (st2 := []) (μ2 := (hTown G)) rfl trivial ?_
      exact ih4 (x1 + v2) (x2 + 1) h
set_option maxHeartbeats 4000000 in
set_option maxRecDepth 100000 in
theorem t_X3_wealthOfAll {X : jX} {po : Option Value → jH → Prop} {px : String → jH → Prop} {sf : Bool} {B9 : Nat} (hM : jMX X kX3_wealthOfAll RX3 tbX3 3 ⟨2, 0, 0, 45⟩ (some .int) 10) (hp : jPost X sf B9 po px) (N : Nat) (G : Nat → Nat → Int32) {res : Int32} (h : p_X3_wealthOfAll N G = some res) (hq : po (some (.int res)) (hTown G)) : JW X 0 0 0 [some (.ref 0), none, none] [] (hTown G) := by
  unfold p_X3_wealthOfAll at h
  refine JW.r hM 0 4 (pc2 := 4) (L2 := [some (.ref 0), some (.int (0 : Int32)), some (.int (0 : Int32))]) (st2 := []) (μ2 := (hTown G)) rfl trivial ?_
  exact t_X3_wealthOfAll_b4 hM hp N G N (0 : Int32) (0 : Int32) h hq
theorem m_X3_wealthOfAll (V : jV) (hV : V.1.stackTraces = false) (N : Nat) (G : Nat → Nat → Int32) (v : Int32) (h : p_X3_wealthOfAll N G = some v) : jMet V yX3_wealthOfAll (jws yX3_wealthOfAll cX3_wealthOfAll 3 (some .int)) ⟨2, 0, 0, 45⟩ true 1 [.ref 0] (hTown G) (fun o ν => o = some (.int v) ∧ ν = (hTown G)) (fun _ _ => False) := by
  refine jmk (tb := tbX3) (C := kX3_wealthOfAll) hV rfl (by decide) tbX3_ok rfl kX3_wealthOfAll_ok rfl ?_
  intro X hM _ hp _
  exact t_X3_wealthOfAll hM hp N G h ⟨rfl, rfl⟩
def p_X3_worthToGiver (N : Nat) (G : Nat → Nat → Int32) (p0 : Int32) : Option (Int32) :=
  if jin p0 30 = true then if jin p0 30 = true then if jin p0 30 = true then (p_X3_worthTo N G (G 4 p0.toNatClampNeg) (G 5 p0.toNatClampNeg)).bind (fun v5 => some (if (0 : Int32) < ((G 7 p0.toNatClampNeg) - v5) then ((G 7 p0.toNatClampNeg) - v5) else (0 : Int32))) else none else none else none
set_option maxHeartbeats 4000000 in
set_option maxRecDepth 100000 in
theorem t_X3_worthToGiver {X : jX} {po : Option Value → jH → Prop} {px : String → jH → Prop} {sf : Bool} {B9 : Nat} (hM : jMX X kX3_worthToGiver RX3 tbX3 2 ⟨1, 0, 0, 23⟩ (some .int) 10) (hp : jPost X sf B9 po px) (N : Nat) (G : Nat → Nat → Int32) (p0 : Int32) {res : Int32} (h : p_X3_worthToGiver N G p0 = some res) (hq : po (some (.int res)) (hTown G)) : JW X 0 0 0 [some (.ref 0), some (.int p0)] [] (hTown G) := by
  unfold p_X3_worthToGiver at h
  obtain ⟨g1, h⟩ := jg h
  obtain ⟨g2, h⟩ := jg h
  obtain ⟨g3, h⟩ := jg h
  refine JW.r hM 0 14 (pc2 := 20) (L2 := [some (.ref 0), some (.int p0)]) (st2 := [.int (G 5 p0.toNatClampNeg), .int (G 4 p0.toNatClampNeg), .ref 0, .int (G 7 p0.toNatClampNeg), .int (0 : Int32)]) (μ2 := (hTown G)) rfl ⟨g1, g2, g3, trivial⟩ ?_
  obtain ⟨v5, hv4, h⟩ := jbd h
  refine JW.cV (v := some (.int v5)) hM (m_X3_worthTo (jVX X) hM.1.2.2.2.2.2.2.2.2.2.1 N G (G 4 p0.toNatClampNeg) (G 5 p0.toNatClampNeg) v5 hv4) (sb_Town_Town_0 G) (bi_Town_Town_0 G) rfl rfl rfl kc_X3_90 rfl rfl rfl rfl rfl (jat hM.2.1 14 rfl) (st := [.int (G 7 p0.toNatClampNeg), .int (0 : Int32)]) rfl ?_
  show JW X 0 0 23 [some (.ref 0), some (.int p0)] [.int v5, .int (G 7 p0.toNatClampNeg), .int (0 : Int32)] (hTown G)
  refine JW.r hM 15 1 (pc2 := 24) (L2 := [some (.ref 0), some (.int p0)]) (st2 := [.int ((G 7 p0.toNatClampNeg) - v5), .int (0 : Int32)]) (μ2 := (hTown G)) rfl trivial ?_
  refine js_max hM.1 (by rw [hM.2.2.1]; exact mx_X3_98) (jat hM.2.1 16 rfl) (by rw [hM.2.2.2.2.1]; exact Nat.le_of_ble_eq_true rfl) (by rw [hM.2.2.2.2.1]; exact Nat.le_of_ble_eq_true rfl) (by rw [hM.2.2.2.2.1]; exact Nat.le_of_ble_eq_true rfl) (by rw [hM.2.2.2.2.1]; exact Nat.le_of_ble_eq_true rfl) ?_
  show JW X 0 0 27 [some (.ref 0), some (.int p0)] [.int (if (0 : Int32) < ((G 7 p0.toNatClampNeg) - v5) then ((G 7 p0.toNatClampNeg) - v5) else (0 : Int32))] (hTown G)
  cases h
  exact js_iret hM.1 hp hM.2.2.2.2.2.2.2.1 (by rw [hM.2.2.2.2.2.1]; exact Nat.le_of_ble_eq_true rfl) (by rw [hM.2.2.2.2.2.2.1]; exact Nat.le_of_ble_eq_true rfl) (jat hM.2.1 17 rfl) hq
theorem m_X3_worthToGiver (V : jV) (hV : V.1.stackTraces = false) (N : Nat) (G : Nat → Nat → Int32) (p0 : Int32) (v : Int32) (h : p_X3_worthToGiver N G p0 = some v) : jMet V yX3_worthToGiver (jws yX3_worthToGiver cX3_worthToGiver 2 (some .int)) ⟨1, 0, 0, 23⟩ true 1 [.ref 0, .int p0] (hTown G) (fun o ν => o = some (.int v) ∧ ν = (hTown G)) (fun _ _ => False) := by
  refine jmk (tb := tbX3) (C := kX3_worthToGiver) hV rfl (by decide) tbX3_ok rfl kX3_worthToGiver_ok rfl ?_
  intro X hM _ hp _
  exact t_X3_worthToGiver hM hp N G p0 h ⟨rfl, rfl⟩
def p_X3_worthToTaker (N : Nat) (G : Nat → Nat → Int32) (p0 : Int32) : Option (Int32) :=
  if jin p0 30 = true then if jin p0 30 = true then (p_X3_worthTo N G (G 4 p0.toNatClampNeg) (G 6 p0.toNatClampNeg)).bind (fun v4 => if jin p0 30 = true then some (if (0 : Int32) < (v4 - (G 7 p0.toNatClampNeg)) then (v4 - (G 7 p0.toNatClampNeg)) else (0 : Int32)) else none) else none else none
set_option maxHeartbeats 4000000 in
set_option maxRecDepth 100000 in
theorem t_X3_worthToTaker {X : jX} {po : Option Value → jH → Prop} {px : String → jH → Prop} {sf : Bool} {B9 : Nat} (hM : jMX X kX3_worthToTaker RX3 tbX3 2 ⟨1, 0, 0, 23⟩ (some .int) 10) (hp : jPost X sf B9 po px) (N : Nat) (G : Nat → Nat → Int32) (p0 : Int32) {res : Int32} (h : p_X3_worthToTaker N G p0 = some res) (hq : po (some (.int res)) (hTown G)) : JW X 0 0 0 [some (.ref 0), some (.int p0)] [] (hTown G) := by
  unfold p_X3_worthToTaker at h
  obtain ⟨g1, h⟩ := jg h
  obtain ⟨g2, h⟩ := jg h
  refine JW.r hM 0 10 (pc2 := 14) (L2 := [some (.ref 0), some (.int p0)]) (st2 := [.int (G 6 p0.toNatClampNeg), .int (G 4 p0.toNatClampNeg), .ref 0, .int (0 : Int32)]) (μ2 := (hTown G)) rfl ⟨g1, g2, trivial⟩ ?_
  obtain ⟨v4, hv3, h⟩ := jbd h
  refine JW.cV (v := some (.int v4)) hM (m_X3_worthTo (jVX X) hM.1.2.2.2.2.2.2.2.2.2.1 N G (G 4 p0.toNatClampNeg) (G 6 p0.toNatClampNeg) v4 hv3) (sb_Town_Town_0 G) (bi_Town_Town_0 G) rfl rfl rfl kc_X3_90 rfl rfl rfl rfl rfl (jat hM.2.1 10 rfl) (st := [.int (0 : Int32)]) rfl ?_
  show JW X 0 0 17 [some (.ref 0), some (.int p0)] [.int v4, .int (0 : Int32)] (hTown G)
  obtain ⟨g5, h⟩ := jg h
  refine JW.r hM 11 5 (pc2 := 24) (L2 := [some (.ref 0), some (.int p0)]) (st2 := [.int (v4 - (G 7 p0.toNatClampNeg)), .int (0 : Int32)]) (μ2 := (hTown G)) rfl ⟨g5, trivial⟩ ?_
  refine js_max hM.1 (by rw [hM.2.2.1]; exact mx_X3_98) (jat hM.2.1 16 rfl) (by rw [hM.2.2.2.2.1]; exact Nat.le_of_ble_eq_true rfl) (by rw [hM.2.2.2.2.1]; exact Nat.le_of_ble_eq_true rfl) (by rw [hM.2.2.2.2.1]; exact Nat.le_of_ble_eq_true rfl) (by rw [hM.2.2.2.2.1]; exact Nat.le_of_ble_eq_true rfl) ?_
  show JW X 0 0 27 [some (.ref 0), some (.int p0)] [.int (if (0 : Int32) < (v4 - (G 7 p0.toNatClampNeg)) then (v4 - (G 7 p0.toNatClampNeg)) else (0 : Int32))] (hTown G)
  cases h
  exact js_iret hM.1 hp hM.2.2.2.2.2.2.2.1 (by rw [hM.2.2.2.2.2.1]; exact Nat.le_of_ble_eq_true rfl) (by rw [hM.2.2.2.2.2.2.1]; exact Nat.le_of_ble_eq_true rfl) (jat hM.2.1 17 rfl) hq
theorem m_X3_worthToTaker (V : jV) (hV : V.1.stackTraces = false) (N : Nat) (G : Nat → Nat → Int32) (p0 : Int32) (v : Int32) (h : p_X3_worthToTaker N G p0 = some v) : jMet V yX3_worthToTaker (jws yX3_worthToTaker cX3_worthToTaker 2 (some .int)) ⟨1, 0, 0, 23⟩ true 1 [.ref 0, .int p0] (hTown G) (fun o ν => o = some (.int v) ∧ ν = (hTown G)) (fun _ _ => False) := by
  refine jmk (tb := tbX3) (C := kX3_worthToTaker) hV rfl (by decide) tbX3_ok rfl kX3_worthToTaker_ok rfl ?_
  intro X hM _ hp _
  exact t_X3_worthToTaker hM hp N G p0 h ⟨rfl, rfl⟩
def p_X3_cut (N : Nat) (G : Nat → Nat → Int32) (p0 : Int32) : Option (Int32) :=
  some (((G 0 4) * p0) / (100 : Int32))
set_option maxHeartbeats 4000000 in
set_option maxRecDepth 100000 in
theorem t_X3_cut {X : jX} {po : Option Value → jH → Prop} {px : String → jH → Prop} {sf : Bool} {B9 : Nat} (hM : jMX X kX3_cut RX3 tbX3 2 ⟨0, 0, 0, 0⟩ (some .int) 10) (hp : jPost X sf B9 po px) (N : Nat) (G : Nat → Nat → Int32) (p0 : Int32) {res : Int32} (h : p_X3_cut N G p0 = some res) (hq : po (some (.int res)) (hTown G)) : JW X 0 0 0 [some (.ref 0), some (.int p0)] [] (hTown G) := by
  unfold p_X3_cut at h
  refine JW.r hM 0 6 (pc2 := 9) (L2 := [some (.ref 0), some (.int p0)]) (st2 := [.int (((G 0 4) * p0) / (100 : Int32))]) (μ2 := (hTown G)) rfl ⟨(by decide), trivial⟩ ?_
  cases h
  exact js_iret hM.1 hp hM.2.2.2.2.2.2.2.1 (by rw [hM.2.2.2.2.2.1]; exact Nat.le_of_ble_eq_true rfl) (by rw [hM.2.2.2.2.2.2.1]; exact Nat.le_of_ble_eq_true rfl) (jat hM.2.1 6 rfl) hq
theorem m_X3_cut (V : jV) (hV : V.1.stackTraces = false) (N : Nat) (G : Nat → Nat → Int32) (p0 : Int32) (v : Int32) (h : p_X3_cut N G p0 = some v) : jMet V yX3_cut (jws yX3_cut cX3_cut 2 (some .int)) ⟨0, 0, 0, 0⟩ true 1 [.ref 0, .int p0] (hTown G) (fun o ν => o = some (.int v) ∧ ν = (hTown G)) (fun _ _ => False) := by
  refine jmk (tb := tbX3) (C := kX3_cut) hV rfl (by decide) tbX3_ok rfl kX3_cut_ok rfl ?_
  intro X hM _ hp _
  exact t_X3_cut hM hp N G p0 h ⟨rfl, rfl⟩
def p_X3_whyNoDeed (N : Nat) (G : Nat → Nat → Int32) (p0 : Int32) (p1 : Int32) (p2 : Int32) : Option (Int32) :=
  (p_X3_hasThing N G p0).bind (fun v2 => if v2 = 0 then (some (1 : Int32)) else ((p_X3_hasPerson N G p1).bind (fun v4 => if v4 = 0 then (some (1 : Int32)) else (if jin p0 10 = true then if (G 2 p0.toNatClampNeg) = p1 then (some (1 : Int32)) else (if p2 < 0 then (some (2 : Int32)) else (if p2 ≤ (9999 : Int32) then (if jin p1 6 = true then if p2 ≤ (G 1 p1.toNatClampNeg) then ((p_X3_hasRung N G).bind (fun v8 => if v8 = 0 then ((p_X3_isEaten N G p0).bind (fun v10 => if v10 = 0 then (if (G 0 7) < (30 : Int32) then (some (0 : Int32)) else (some (6 : Int32))) else (some (5 : Int32)))) else (some (4 : Int32)))) else (some (3 : Int32)) else none) else (some (2 : Int32)))) else none))))
set_option maxHeartbeats 4000000 in
set_option maxRecDepth 100000 in
theorem t_X3_whyNoDeed {X : jX} {po : Option Value → jH → Prop} {px : String → jH → Prop} {sf : Bool} {B9 : Nat} (hM : jMX X kX3_whyNoDeed RX3 tbX3 4 ⟨1, 0, 0, 21⟩ (some .int) 10) (hp : jPost X sf B9 po px) (N : Nat) (G : Nat → Nat → Int32) (p0 : Int32) (p1 : Int32) (p2 : Int32) {res : Int32} (h : p_X3_whyNoDeed N G p0 p1 p2 = some res) (hq : po (some (.int res)) (hTown G)) : JW X 0 0 0 [some (.ref 0), some (.int p0), some (.int p1), some (.int p2)] [] (hTown G) := by
  unfold p_X3_whyNoDeed at h
  refine JW.r hM 0 2 (pc2 := 2) (L2 := [some (.ref 0), some (.int p0), some (.int p1), some (.int p2)]) (st2 := [.int p0, .ref 0]) (μ2 := (hTown G)) rfl trivial ?_
  obtain ⟨v2, hv1, h⟩ := jbd h
  refine JW.cV (v := some (.int v2)) hM (m_X3_hasThing (jVX X) hM.1.2.2.2.2.2.2.2.2.2.1 N G p0 v2 hv1) (sb_Town_Town_0 G) (bi_Town_Town_0 G) rfl rfl rfl kc_X3_103 rfl rfl rfl rfl rfl (jat hM.2.1 2 rfl) (st := []) rfl ?_
  show JW X 0 0 5 [some (.ref 0), some (.int p0), some (.int p1), some (.int p2)] [.int v2] (hTown G)
  refine js_ifeq (t := 26) hM.1 (jat hM.2.1 3 rfl) rfl (fun hc19 => ?_) (fun hc19 => ?_)
  · have h := (if_pos hc19).symm.trans h
    refine JW.r hM 14 1 (pc2 := 27) (L2 := [some (.ref 0), some (.int p0), some (.int p1), some (.int p2)]) (st2 := [.int (1 : Int32)]) (μ2 := (hTown G)) rfl trivial ?_
    cases h
    exact js_iret hM.1 hp hM.2.2.2.2.2.2.2.1 (by rw [hM.2.2.2.2.2.1]; exact Nat.le_of_ble_eq_true rfl) (by rw [hM.2.2.2.2.2.2.1]; exact Nat.le_of_ble_eq_true rfl) (jat hM.2.1 15 rfl) hq
  · have h := (if_neg hc19).symm.trans h
    refine JW.r hM 4 2 (pc2 := 10) (L2 := [some (.ref 0), some (.int p0), some (.int p1), some (.int p2)]) (st2 := [.int p1, .ref 0]) (μ2 := (hTown G)) rfl trivial ?_
    obtain ⟨v4, hv3, h⟩ := jbd h
    refine JW.cV (v := some (.int v4)) hM (m_X3_hasPerson (jVX X) hM.1.2.2.2.2.2.2.2.2.2.1 N G p1 v4 hv3) (sb_Town_Town_0 G) (bi_Town_Town_0 G) rfl rfl rfl kc_X3_106 rfl rfl rfl rfl rfl (jat hM.2.1 6 rfl) (st := []) rfl ?_
    show JW X 0 0 13 [some (.ref 0), some (.int p0), some (.int p1), some (.int p2)] [.int v4] (hTown G)
    refine js_ifeq (t := 26) hM.1 (jat hM.2.1 7 rfl) rfl (fun hc18 => ?_) (fun hc18 => ?_)
    · have h := (if_pos hc18).symm.trans h
      refine JW.r hM 14 1 (pc2 := 27) (L2 := [some (.ref 0), some (.int p0), some (.int p1), some (.int p2)]) (st2 := [.int (1 : Int32)]) (μ2 := (hTown G)) rfl trivial ?_
      cases h
      exact js_iret hM.1 hp hM.2.2.2.2.2.2.2.1 (by rw [hM.2.2.2.2.2.1]; exact Nat.le_of_ble_eq_true rfl) (by rw [hM.2.2.2.2.2.2.1]; exact Nat.le_of_ble_eq_true rfl) (jat hM.2.1 15 rfl) hq
    · have h := (if_neg hc18).symm.trans h
      obtain ⟨g5, h⟩ := jg h
      refine JW.r hM 8 5 (pc2 := 23) (L2 := [some (.ref 0), some (.int p0), some (.int p1), some (.int p2)]) (st2 := [.int p1, .int (G 2 p0.toNatClampNeg)]) (μ2 := (hTown G)) rfl ⟨g5, trivial⟩ ?_
      refine js_icne (t := 28) hM.1 (jat hM.2.1 13 rfl) rfl (fun hc17 => ?_) (fun hc17 => ?_)
      · have h := (if_neg hc17).symm.trans h
        refine JW.r hM 16 1 (pc2 := 29) (L2 := [some (.ref 0), some (.int p0), some (.int p1), some (.int p2)]) (st2 := [.int p2]) (μ2 := (hTown G)) rfl trivial ?_
        refine js_iflt (t := 39) hM.1 (jat hM.2.1 17 rfl) rfl (fun hc16 => ?_) (fun hc16 => ?_)
        · have h := (if_pos hc16).symm.trans h
          refine JW.r hM 21 1 (pc2 := 40) (L2 := [some (.ref 0), some (.int p0), some (.int p1), some (.int p2)]) (st2 := [.int (2 : Int32)]) (μ2 := (hTown G)) rfl trivial ?_
          cases h
          exact js_iret hM.1 hp hM.2.2.2.2.2.2.2.1 (by rw [hM.2.2.2.2.2.1]; exact Nat.le_of_ble_eq_true rfl) (by rw [hM.2.2.2.2.2.2.1]; exact Nat.le_of_ble_eq_true rfl) (jat hM.2.1 22 rfl) hq
        · have h := (if_neg hc16).symm.trans h
          refine JW.r hM 18 2 (pc2 := 36) (L2 := [some (.ref 0), some (.int p0), some (.int p1), some (.int p2)]) (st2 := [.int (9999 : Int32), .int p2]) (μ2 := (hTown G)) rfl trivial ?_
          refine js_icle (t := 41) hM.1 (jat hM.2.1 20 rfl) rfl (fun hc15 => ?_) (fun hc15 => ?_)
          · have h := (if_pos hc15).symm.trans h
            obtain ⟨g6, h⟩ := jg h
            refine JW.r hM 23 5 (pc2 := 48) (L2 := [some (.ref 0), some (.int p0), some (.int p1), some (.int p2)]) (st2 := [.int p2, .int (G 1 p1.toNatClampNeg)]) (μ2 := (hTown G)) rfl ⟨g6, trivial⟩ ?_
            refine js_icge (t := 53) hM.1 (jat hM.2.1 28 rfl) rfl (fun hc14 => ?_) (fun hc14 => ?_)
            · have h := (if_pos hc14).symm.trans h
              refine JW.r hM 31 1 (pc2 := 54) (L2 := [some (.ref 0), some (.int p0), some (.int p1), some (.int p2)]) (st2 := [.ref 0]) (μ2 := (hTown G)) rfl trivial ?_
              obtain ⟨v8, hv7, h⟩ := jbd h
              refine JW.cV (v := some (.int v8)) hM (m_X3_hasRung (jVX X) hM.1.2.2.2.2.2.2.2.2.2.1 N G v8 hv7) (sb_Town_Town_0 G) (bi_Town_Town_0 G) rfl rfl rfl kc_X3_76 rfl rfl rfl rfl rfl (jat hM.2.1 32 rfl) (st := []) rfl ?_
              show JW X 0 0 57 [some (.ref 0), some (.int p0), some (.int p1), some (.int p2)] [.int v8] (hTown G)
              refine js_ifeq (t := 62) hM.1 (jat hM.2.1 33 rfl) rfl (fun hc13 => ?_) (fun hc13 => ?_)
              · have h := (if_pos hc13).symm.trans h
                refine JW.r hM 36 2 (pc2 := 64) (L2 := [some (.ref 0), some (.int p0), some (.int p1), some (.int p2)]) (st2 := [.int p0, .ref 0]) (μ2 := (hTown G)) rfl trivial ?_
                obtain ⟨v10, hv9, h⟩ := jbd h
                refine JW.cV (v := some (.int v10)) hM (m_X3_isEaten (jVX X) hM.1.2.2.2.2.2.2.2.2.2.1 N G p0 v10 hv9) (sb_Town_Town_0 G) (bi_Town_Town_0 G) rfl rfl rfl kc_X3_84 rfl rfl rfl rfl rfl (jat hM.2.1 38 rfl) (st := []) rfl ?_
                show JW X 0 0 67 [some (.ref 0), some (.int p0), some (.int p1), some (.int p2)] [.int v10] (hTown G)
                refine js_ifeq (t := 72) hM.1 (jat hM.2.1 39 rfl) rfl (fun hc12 => ?_) (fun hc12 => ?_)
                · have h := (if_pos hc12).symm.trans h
                  refine JW.r hM 42 3 (pc2 := 78) (L2 := [some (.ref 0), some (.int p0), some (.int p1), some (.int p2)]) (st2 := [.int (30 : Int32), .int (G 0 7)]) (μ2 := (hTown G)) rfl trivial ?_
                  refine js_iclt (t := 86) hM.1 (jat hM.2.1 45 rfl) rfl (fun hc11 => ?_) (fun hc11 => ?_)
                  · have h := (if_pos hc11).symm.trans h
                    refine JW.r hM 48 1 (pc2 := 87) (L2 := [some (.ref 0), some (.int p0), some (.int p1), some (.int p2)]) (st2 := [.int (0 : Int32)]) (μ2 := (hTown G)) rfl trivial ?_
                    cases h
                    exact js_iret hM.1 hp hM.2.2.2.2.2.2.2.1 (by rw [hM.2.2.2.2.2.1]; exact Nat.le_of_ble_eq_true rfl) (by rw [hM.2.2.2.2.2.2.1]; exact Nat.le_of_ble_eq_true rfl) (jat hM.2.1 49 rfl) hq
                  · have h := (if_neg hc11).symm.trans h
                    refine JW.r hM 46 2 (pc2 := 87) (L2 := [some (.ref 0), some (.int p0), some (.int p1), some (.int p2)]) (st2 := [.int (6 : Int32)]) (μ2 := (hTown G)) rfl trivial ?_
                    cases h
                    exact js_iret hM.1 hp hM.2.2.2.2.2.2.2.1 (by rw [hM.2.2.2.2.2.1]; exact Nat.le_of_ble_eq_true rfl) (by rw [hM.2.2.2.2.2.2.1]; exact Nat.le_of_ble_eq_true rfl) (jat hM.2.1 49 rfl) hq
                · have h := (if_neg hc12).symm.trans h
                  refine JW.r hM 40 1 (pc2 := 71) (L2 := [some (.ref 0), some (.int p0), some (.int p1), some (.int p2)]) (st2 := [.int (5 : Int32)]) (μ2 := (hTown G)) rfl trivial ?_
                  cases h
                  exact js_iret hM.1 hp hM.2.2.2.2.2.2.2.1 (by rw [hM.2.2.2.2.2.1]; exact Nat.le_of_ble_eq_true rfl) (by rw [hM.2.2.2.2.2.2.1]; exact Nat.le_of_ble_eq_true rfl) (jat hM.2.1 41 rfl) hq
              · have h := (if_neg hc13).symm.trans h
                refine JW.r hM 34 1 (pc2 := 61) (L2 := [some (.ref 0), some (.int p0), some (.int p1), some (.int p2)]) (st2 := [.int (4 : Int32)]) (μ2 := (hTown G)) rfl trivial ?_
                cases h
                exact js_iret hM.1 hp hM.2.2.2.2.2.2.2.1 (by rw [hM.2.2.2.2.2.1]; exact Nat.le_of_ble_eq_true rfl) (by rw [hM.2.2.2.2.2.2.1]; exact Nat.le_of_ble_eq_true rfl) (jat hM.2.1 35 rfl) hq
            · have h := (if_neg hc14).symm.trans h
              refine JW.r hM 29 1 (pc2 := 52) (L2 := [some (.ref 0), some (.int p0), some (.int p1), some (.int p2)]) (st2 := [.int (3 : Int32)]) (μ2 := (hTown G)) rfl trivial ?_
              cases h
              exact js_iret hM.1 hp hM.2.2.2.2.2.2.2.1 (by rw [hM.2.2.2.2.2.1]; exact Nat.le_of_ble_eq_true rfl) (by rw [hM.2.2.2.2.2.2.1]; exact Nat.le_of_ble_eq_true rfl) (jat hM.2.1 30 rfl) hq
          · have h := (if_neg hc15).symm.trans h
            refine JW.r hM 21 1 (pc2 := 40) (L2 := [some (.ref 0), some (.int p0), some (.int p1), some (.int p2)]) (st2 := [.int (2 : Int32)]) (μ2 := (hTown G)) rfl trivial ?_
            cases h
            exact js_iret hM.1 hp hM.2.2.2.2.2.2.2.1 (by rw [hM.2.2.2.2.2.1]; exact Nat.le_of_ble_eq_true rfl) (by rw [hM.2.2.2.2.2.2.1]; exact Nat.le_of_ble_eq_true rfl) (jat hM.2.1 22 rfl) hq
      · have h := (if_pos hc17).symm.trans h
        refine JW.r hM 14 1 (pc2 := 27) (L2 := [some (.ref 0), some (.int p0), some (.int p1), some (.int p2)]) (st2 := [.int (1 : Int32)]) (μ2 := (hTown G)) rfl trivial ?_
        cases h
        exact js_iret hM.1 hp hM.2.2.2.2.2.2.2.1 (by rw [hM.2.2.2.2.2.1]; exact Nat.le_of_ble_eq_true rfl) (by rw [hM.2.2.2.2.2.2.1]; exact Nat.le_of_ble_eq_true rfl) (jat hM.2.1 15 rfl) hq
theorem m_X3_whyNoDeed (V : jV) (hV : V.1.stackTraces = false) (N : Nat) (G : Nat → Nat → Int32) (p0 : Int32) (p1 : Int32) (p2 : Int32) (v : Int32) (h : p_X3_whyNoDeed N G p0 p1 p2 = some v) : jMet V yX3_whyNoDeed (jws yX3_whyNoDeed cX3_whyNoDeed 4 (some .int)) ⟨1, 0, 0, 21⟩ true 1 [.ref 0, .int p0, .int p1, .int p2] (hTown G) (fun o ν => o = some (.int v) ∧ ν = (hTown G)) (fun _ _ => False) := by
  refine jmk (tb := tbX3) (C := kX3_whyNoDeed) hV rfl (by decide) tbX3_ok rfl kX3_whyNoDeed_ok rfl ?_
  intro X hM _ hp _
  exact t_X3_whyNoDeed hM hp N G p0 p1 p2 h ⟨rfl, rfl⟩
def p_X3_make (N : Nat) (G : Nat → Nat → Int32) (p0 : Int32) (p1 : Int32) (p2 : Int32) : Option (Int32 × (Nat → Nat → Int32)) :=
  if jin (G 0 7) 30 = true then jlt (jup G 4 (G 0 7).toNatClampNeg p0) fun G2 => if jin p0 10 = true then if jin (G 0 7) 30 = true then jlt (jup G2 5 (G 0 7).toNatClampNeg (G2 2 p0.toNatClampNeg)) fun G6 => if jin (G 0 7) 30 = true then jlt (jup G6 6 (G 0 7).toNatClampNeg p1) fun G9 => if jin (G 0 7) 30 = true then jlt (jup G9 7 (G 0 7).toNatClampNeg p2) fun G12 => if jin (G 0 7) 30 = true then jlt (jup G12 8 (G 0 7).toNatClampNeg (G12 0 6)) fun G15 => jlt (jup G15 0 8 ((G15 0 8) ||| ((1 : Int32) <<< ((G 0 7) &&& 31)))) fun G17 => jlt (jup G17 0 7 ((G17 0 7) + (1 : Int32))) fun G19 => if jin p1 6 = true then if jin p1 6 = true then jlt (jup G19 1 p1.toNatClampNeg ((G19 1 p1.toNatClampNeg) - p2)) fun G23 => if jin p0 10 = true then if jin (G23 2 p0.toNatClampNeg) 6 = true then if jin (G23 2 p0.toNatClampNeg) 6 = true then jlt (jup G23 1 (G23 2 p0.toNatClampNeg).toNatClampNeg ((G23 1 (G23 2 p0.toNatClampNeg).toNatClampNeg) + p2)) fun G28 => if jin p0 10 = true then jlt (jup G28 2 p0.toNatClampNeg p1) fun G31 => some ((G 0 7), G31) else none else none else none else none else none else none else none else none else none else none else none else none
set_option maxHeartbeats 4000000 in
set_option maxRecDepth 100000 in
theorem t_X3_make {X : jX} {po : Option Value → jH → Prop} {px : String → jH → Prop} {sf : Bool} {B9 : Nat} (hM : jMX X kX3_make RX3 tbX3 5 ⟨0, 0, 0, 0⟩ (some .int) 10) (hp : jPost X sf B9 po px) (N : Nat) (G : Nat → Nat → Int32) (p0 : Int32) (p1 : Int32) (p2 : Int32) {res : Int32 × (Nat → Nat → Int32)} (h : p_X3_make N G p0 p1 p2 = some res) (hq : po (some (.int res.1)) (hTown res.2)) : JW X 0 0 0 [some (.ref 0), some (.int p0), some (.int p1), some (.int p2), none] [] (hTown G) := by
  unfold p_X3_make at h
  obtain ⟨g1, h⟩ := jg h
  obtain ⟨G2, e3, h⟩ := jlE h
  refine JW.r hM 0 8 (pc2 := 14) (L2 := [some (.ref 0), some (.int p0), some (.int p1), some (.int p2), some (.int (G 0 7))]) (st2 := []) (μ2 := (hTown (jup G 4 (G 0 7).toNatClampNeg p0))) rfl ⟨g1, trivial⟩ ?_
  rw [e3]
  obtain ⟨g4, h⟩ := jg h
  obtain ⟨g5, h⟩ := jg h
  obtain ⟨G6, e7, h⟩ := jlE h
  refine JW.r hM 8 8 (pc2 := 27) (L2 := [some (.ref 0), some (.int p0), some (.int p1), some (.int p2), some (.int (G 0 7))]) (st2 := []) (μ2 := (hTown (jup G2 5 (G 0 7).toNatClampNeg (G2 2 p0.toNatClampNeg)))) rfl ⟨g4, g5, trivial⟩ ?_
  rw [e7]
  obtain ⟨g8, h⟩ := jg h
  obtain ⟨G9, e10, h⟩ := jlE h
  refine JW.r hM 16 5 (pc2 := 35) (L2 := [some (.ref 0), some (.int p0), some (.int p1), some (.int p2), some (.int (G 0 7))]) (st2 := []) (μ2 := (hTown (jup G6 6 (G 0 7).toNatClampNeg p1))) rfl ⟨g8, trivial⟩ ?_
  rw [e10]
  obtain ⟨g11, h⟩ := jg h
  obtain ⟨G12, e13, h⟩ := jlE h
  refine JW.r hM 21 5 (pc2 := 43) (L2 := [some (.ref 0), some (.int p0), some (.int p1), some (.int p2), some (.int (G 0 7))]) (st2 := []) (μ2 := (hTown (jup G9 7 (G 0 7).toNatClampNeg p2))) rfl ⟨g11, trivial⟩ ?_
  rw [e13]
  obtain ⟨g14, h⟩ := jg h
  obtain ⟨G15, e16, h⟩ := jlE h
  refine JW.r hM 26 6 (pc2 := 54) (L2 := [some (.ref 0), some (.int p0), some (.int p1), some (.int p2), some (.int (G 0 7))]) (st2 := []) (μ2 := (hTown (jup G12 8 (G 0 7).toNatClampNeg (G12 0 6)))) rfl ⟨g14, trivial⟩ ?_
  rw [e16]
  obtain ⟨G17, e18, h⟩ := jlE h
  refine JW.r hM 32 8 (pc2 := 67) (L2 := [some (.ref 0), some (.int p0), some (.int p1), some (.int p2), some (.int (G 0 7))]) (st2 := []) (μ2 := (hTown (jup G15 0 8 ((G15 0 8) ||| ((1 : Int32) <<< ((G 0 7) &&& 31)))))) rfl trivial ?_
  rw [e18]
  obtain ⟨G19, e20, h⟩ := jlE h
  refine JW.r hM 40 6 (pc2 := 77) (L2 := [some (.ref 0), some (.int p0), some (.int p1), some (.int p2), some (.int (G 0 7))]) (st2 := []) (μ2 := (hTown (jup G17 0 7 ((G17 0 7) + (1 : Int32))))) rfl trivial ?_
  rw [e20]
  obtain ⟨g21, h⟩ := jg h
  obtain ⟨g22, h⟩ := jg h
  obtain ⟨G23, e24, h⟩ := jlE h
  refine JW.r hM 46 8 (pc2 := 87) (L2 := [some (.ref 0), some (.int p0), some (.int p1), some (.int p2), some (.int (G 0 7))]) (st2 := []) (μ2 := (hTown (jup G19 1 p1.toNatClampNeg ((G19 1 p1.toNatClampNeg) - p2)))) rfl ⟨g21, g22, trivial⟩ ?_
  rw [e24]
  obtain ⟨g25, h⟩ := jg h
  obtain ⟨g26, h⟩ := jg h
  obtain ⟨g27, h⟩ := jg h
  obtain ⟨G28, e29, h⟩ := jlE h
  refine JW.r hM 54 11 (pc2 := 102) (L2 := [some (.ref 0), some (.int p0), some (.int p1), some (.int p2), some (.int (G 0 7))]) (st2 := []) (μ2 := (hTown (jup G23 1 (G23 2 p0.toNatClampNeg).toNatClampNeg ((G23 1 (G23 2 p0.toNatClampNeg).toNatClampNeg) + p2)))) rfl ⟨g25, g26, g27, trivial⟩ ?_
  rw [e29]
  obtain ⟨g30, h⟩ := jg h
  obtain ⟨G31, e32, h⟩ := jlE h
  refine JW.r hM 65 5 (pc2 := 109) (L2 := [some (.ref 0), some (.int p0), some (.int p1), some (.int p2), some (.int (G 0 7))]) (st2 := []) (μ2 := (hTown (jup G28 2 p0.toNatClampNeg p1))) rfl ⟨g30, trivial⟩ ?_
  rw [e32]
  refine JW.r hM 70 1 (pc2 := 111) (L2 := [some (.ref 0), some (.int p0), some (.int p1), some (.int p2), some (.int (G 0 7))]) (st2 := [.int (G 0 7)]) (μ2 := (hTown G31)) rfl trivial ?_
  cases h
  exact js_iret hM.1 hp hM.2.2.2.2.2.2.2.1 (by rw [hM.2.2.2.2.2.1]; exact Nat.le_of_ble_eq_true rfl) (by rw [hM.2.2.2.2.2.2.1]; exact Nat.le_of_ble_eq_true rfl) (jat hM.2.1 71 rfl) hq
theorem m_X3_make (V : jV) (hV : V.1.stackTraces = false) (N : Nat) (G : Nat → Nat → Int32) (p0 : Int32) (p1 : Int32) (p2 : Int32) (v : Int32 × (Nat → Nat → Int32)) (h : p_X3_make N G p0 p1 p2 = some v) : jMet V yX3_make (jws yX3_make cX3_make 5 (some .int)) ⟨0, 0, 0, 0⟩ true 1 [.ref 0, .int p0, .int p1, .int p2] (hTown G) (fun o ν => o = some (.int v.1) ∧ ν = (hTown v.2)) (fun _ _ => False) := by
  refine jmk (tb := tbX3) (C := kX3_make) hV rfl (by decide) tbX3_ok rfl kX3_make_ok rfl ?_
  intro X hM _ hp _
  exact t_X3_make hM hp N G p0 p1 p2 h ⟨rfl, rfl⟩
def p_X3_fallsWith (N : Nat) (G : Nat → Nat → Int32) (p0 : Int32) (p1 : Int32) : Option (Int32) :=
  if p0 < p1 then (some (0 : Int32)) else ((p_X3_stands N G p1).bind (fun v2 => if v2 = 0 then (some (0 : Int32)) else ((p_X3_stands N G p0).bind (fun v4 => if v4 = 0 then (some (0 : Int32)) else (if jin p0 30 = true then if jin p1 30 = true then if (G 4 p0.toNatClampNeg) = (G 4 p1.toNatClampNeg) then (some (1 : Int32)) else (some (0 : Int32)) else none else none)))))
set_option maxHeartbeats 4000000 in
set_option maxRecDepth 100000 in
theorem t_X3_fallsWith {X : jX} {po : Option Value → jH → Prop} {px : String → jH → Prop} {sf : Bool} {B9 : Nat} (hM : jMX X kX3_fallsWith RX3 tbX3 3 ⟨1, 0, 0, 21⟩ (some .boolean) 10) (hp : jPost X sf B9 po px) (N : Nat) (G : Nat → Nat → Int32) (p0 : Int32) (p1 : Int32) {res : Int32} (h : p_X3_fallsWith N G p0 p1 = some res) (hq : po (some (.int res)) (hTown G)) : JW X 0 0 0 [some (.ref 0), some (.int p0), some (.int p1)] [] (hTown G) := by
  unfold p_X3_fallsWith at h
  refine JW.r hM 0 2 (pc2 := 2) (L2 := [some (.ref 0), some (.int p0), some (.int p1)]) (st2 := [.int p1, .int p0]) (μ2 := (hTown G)) rfl trivial ?_
  refine js_iclt (t := 40) hM.1 (jat hM.2.1 2 rfl) rfl (fun hc10 => ?_) (fun hc10 => ?_)
  · have h := (if_pos hc10).symm.trans h
    refine JW.r hM 22 1 (pc2 := 41) (L2 := [some (.ref 0), some (.int p0), some (.int p1)]) (st2 := [.int (0 : Int32)]) (μ2 := (hTown G)) rfl trivial ?_
    cases h
    exact js_zret hM.1 hp hM.2.2.2.2.2.2.2.1 rfl (by rw [hM.2.2.2.2.2.1]; exact Nat.le_of_ble_eq_true rfl) (by rw [hM.2.2.2.2.2.2.1]; exact Nat.le_of_ble_eq_true rfl) (jat hM.2.1 23 rfl) hq
  · have h := (if_neg hc10).symm.trans h
    refine JW.r hM 3 2 (pc2 := 7) (L2 := [some (.ref 0), some (.int p0), some (.int p1)]) (st2 := [.int p1, .ref 0]) (μ2 := (hTown G)) rfl trivial ?_
    obtain ⟨v2, hv1, h⟩ := jbd h
    refine JW.cV (v := some (.int v2)) hM (m_X3_stands (jVX X) hM.1.2.2.2.2.2.2.2.2.2.1 N G p1 v2 hv1) (sb_Town_Town_0 G) (bi_Town_Town_0 G) rfl rfl rfl kc_X3_80 rfl rfl rfl rfl rfl (jat hM.2.1 5 rfl) (st := []) rfl ?_
    show JW X 0 0 10 [some (.ref 0), some (.int p0), some (.int p1)] [.int v2] (hTown G)
    refine js_ifeq (t := 40) hM.1 (jat hM.2.1 6 rfl) rfl (fun hc9 => ?_) (fun hc9 => ?_)
    · have h := (if_pos hc9).symm.trans h
      refine JW.r hM 22 1 (pc2 := 41) (L2 := [some (.ref 0), some (.int p0), some (.int p1)]) (st2 := [.int (0 : Int32)]) (μ2 := (hTown G)) rfl trivial ?_
      cases h
      exact js_zret hM.1 hp hM.2.2.2.2.2.2.2.1 rfl (by rw [hM.2.2.2.2.2.1]; exact Nat.le_of_ble_eq_true rfl) (by rw [hM.2.2.2.2.2.2.1]; exact Nat.le_of_ble_eq_true rfl) (jat hM.2.1 23 rfl) hq
    · have h := (if_neg hc9).symm.trans h
      refine JW.r hM 7 2 (pc2 := 15) (L2 := [some (.ref 0), some (.int p0), some (.int p1)]) (st2 := [.int p0, .ref 0]) (μ2 := (hTown G)) rfl trivial ?_
      obtain ⟨v4, hv3, h⟩ := jbd h
      refine JW.cV (v := some (.int v4)) hM (m_X3_stands (jVX X) hM.1.2.2.2.2.2.2.2.2.2.1 N G p0 v4 hv3) (sb_Town_Town_0 G) (bi_Town_Town_0 G) rfl rfl rfl kc_X3_80 rfl rfl rfl rfl rfl (jat hM.2.1 9 rfl) (st := []) rfl ?_
      show JW X 0 0 18 [some (.ref 0), some (.int p0), some (.int p1)] [.int v4] (hTown G)
      refine js_ifeq (t := 40) hM.1 (jat hM.2.1 10 rfl) rfl (fun hc8 => ?_) (fun hc8 => ?_)
      · have h := (if_pos hc8).symm.trans h
        refine JW.r hM 22 1 (pc2 := 41) (L2 := [some (.ref 0), some (.int p0), some (.int p1)]) (st2 := [.int (0 : Int32)]) (μ2 := (hTown G)) rfl trivial ?_
        cases h
        exact js_zret hM.1 hp hM.2.2.2.2.2.2.2.1 rfl (by rw [hM.2.2.2.2.2.1]; exact Nat.le_of_ble_eq_true rfl) (by rw [hM.2.2.2.2.2.2.1]; exact Nat.le_of_ble_eq_true rfl) (jat hM.2.1 23 rfl) hq
      · have h := (if_neg hc8).symm.trans h
        obtain ⟨g5, h⟩ := jg h
        obtain ⟨g6, h⟩ := jg h
        refine JW.r hM 11 8 (pc2 := 33) (L2 := [some (.ref 0), some (.int p0), some (.int p1)]) (st2 := [.int (G 4 p1.toNatClampNeg), .int (G 4 p0.toNatClampNeg)]) (μ2 := (hTown G)) rfl ⟨g5, g6, trivial⟩ ?_
        refine js_icne (t := 40) hM.1 (jat hM.2.1 19 rfl) rfl (fun hc7 => ?_) (fun hc7 => ?_)
        · have h := (if_neg hc7).symm.trans h
          refine JW.r hM 22 1 (pc2 := 41) (L2 := [some (.ref 0), some (.int p0), some (.int p1)]) (st2 := [.int (0 : Int32)]) (μ2 := (hTown G)) rfl trivial ?_
          cases h
          exact js_zret hM.1 hp hM.2.2.2.2.2.2.2.1 rfl (by rw [hM.2.2.2.2.2.1]; exact Nat.le_of_ble_eq_true rfl) (by rw [hM.2.2.2.2.2.2.1]; exact Nat.le_of_ble_eq_true rfl) (jat hM.2.1 23 rfl) hq
        · have h := (if_pos hc7).symm.trans h
          refine JW.r hM 20 2 (pc2 := 41) (L2 := [some (.ref 0), some (.int p0), some (.int p1)]) (st2 := [.int (1 : Int32)]) (μ2 := (hTown G)) rfl trivial ?_
          cases h
          exact js_zret hM.1 hp hM.2.2.2.2.2.2.2.1 rfl (by rw [hM.2.2.2.2.2.1]; exact Nat.le_of_ble_eq_true rfl) (by rw [hM.2.2.2.2.2.2.1]; exact Nat.le_of_ble_eq_true rfl) (jat hM.2.1 23 rfl) hq
theorem m_X3_fallsWith (V : jV) (hV : V.1.stackTraces = false) (N : Nat) (G : Nat → Nat → Int32) (p0 : Int32) (p1 : Int32) (v : Int32) (h : p_X3_fallsWith N G p0 p1 = some v) : jMet V yX3_fallsWith (jws yX3_fallsWith cX3_fallsWith 3 (some .boolean)) ⟨1, 0, 0, 21⟩ true 1 [.ref 0, .int p0, .int p1] (hTown G) (fun o ν => o = some (.int v) ∧ ν = (hTown G)) (fun _ _ => False) := by
  refine jmk (tb := tbX3) (C := kX3_fallsWith) hV rfl (by decide) tbX3_ok rfl kX3_fallsWith_ok rfl ?_
  intro X hM _ hp _
  exact t_X3_fallsWith hM hp N G p0 p1 h ⟨rfl, rfl⟩
def p_X3_priceChange_b74 (N : Nat) (G : Nat → Nat → Int32) (rv5 : Int32 → Int32 → Int32 → Int32 → Option (Int32)) (x1 : Int32) (x2 : Int32) (x3 : Int32) (x4 : Int32) : Option (Int32) :=
  rv5 x1 x2 x3 (x4 + 1)
def p_X3_priceChange_b72 (N : Nat) (G : Nat → Nat → Int32) (rv5 : Int32 → Int32 → Int32 → Int32 → Option (Int32)) (x1 : Int32) (x2 : Int32) (x4 : Int32) (s0 : Int32) (s1 : Int32) : Option (Int32) :=
  p_X3_priceChange_b74 N G rv5 x1 x2 (s1 - s0) x4
def p_X3_priceChange_b47 (N : Nat) (G : Nat → Nat → Int32) (rv5 : Int32 → Int32 → Int32 → Int32 → Option (Int32)) (x1 : Int32) (x2 : Int32) (x4 : Int32) (s0 : Int32) (s1 : Int32) : Option (Int32) :=
  if jin x4 30 = true then if (G 5 x4.toNatClampNeg) = x2 then (if jin x4 30 = true then p_X3_priceChange_b72 N G rv5 x1 x2 x4 (G 7 x4.toNatClampNeg) (s1 + s0) else none) else (p_X3_priceChange_b72 N G rv5 x1 x2 x4 (0 : Int32) (s1 + s0)) else none
def p_X3_priceChange_b5 (N : Nat) (G : Nat → Nat → Int32) : Nat → (Int32) → (Int32) → (Int32) → (Int32) → Option (Int32)
  | 0, _, _, _, _ => none
  | n + 1, x1, x2, x3, x4 => if (G 0 7) ≤ x4 then (some x3) else ((p_X3_fallsWith N G x4 x1).bind (fun v2 => if v2 = 0 then (p_X3_priceChange_b74 N G (p_X3_priceChange_b5 N G n) x1 x2 x3 x4) else (if jin x4 30 = true then if (G 6 x4.toNatClampNeg) = x2 then (if jin x4 30 = true then p_X3_priceChange_b47 N G (p_X3_priceChange_b5 N G n) x1 x2 x4 (G 7 x4.toNatClampNeg) x3 else none) else (p_X3_priceChange_b47 N G (p_X3_priceChange_b5 N G n) x1 x2 x4 (0 : Int32) x3) else none)))
def p_X3_priceChange (N : Nat) (G : Nat → Nat → Int32) (p0 : Int32) (p1 : Int32) : Option (Int32) :=
  p_X3_priceChange_b5 N G N p0 p1 (0 : Int32) p0
set_option maxHeartbeats 4000000 in
set_option maxRecDepth 100000 in
theorem t_X3_priceChange_b74 {X : jX} {po : Option Value → jH → Prop} {px : String → jH → Prop} {sf : Bool} {B9 : Nat} (hM : jMX X kX3_priceChange RX3 tbX3 5 ⟨2, 0, 0, 43⟩ (some .int) 10) (hp : jPost X sf B9 po px) (N : Nat) (G : Nat → Nat → Int32) (rv5 : Int32 → Int32 → Int32 → Int32 → Option (Int32)) {res : Int32} (ih5 : ∀ (x1 : Int32) (x2 : Int32) (x3 : Int32) (x4 : Int32), rv5 x1 x2 x3 x4 = some res → JW X 0 0 5 [some (.ref 0), some (.int x1), some (.int x2), some (.int x3), some (.int x4)] [] (hTown G)) (x1 : Int32) (x2 : Int32) (x3 : Int32) (x4 : Int32) (h : p_X3_priceChange_b74 N G rv5 x1 x2 x3 x4 = some res) (hq : po (some (.int res)) (hTown G)) : JW X 0 0 74 [some (.ref 0), some (.int x1), some (.int x2), some (.int x3), some (.int x4)] [] (hTown G) := by
  unfold p_X3_priceChange_b74 at h
  refine JW.r hM 43 2 (pc2 := 5) (L2 := [some (.ref 0), some (.int x1), some (.int x2), some (.int x3), some (.int (x4 + 1))]) (st2 := []) (μ2 := (hTown G)) rfl trivial ?_
  exact ih5 x1 x2 x3 (x4 + 1) h
set_option maxHeartbeats 4000000 in
set_option maxRecDepth 100000 in
theorem t_X3_priceChange_b72 {X : jX} {po : Option Value → jH → Prop} {px : String → jH → Prop} {sf : Bool} {B9 : Nat} (hM : jMX X kX3_priceChange RX3 tbX3 5 ⟨2, 0, 0, 43⟩ (some .int) 10) (hp : jPost X sf B9 po px) (N : Nat) (G : Nat → Nat → Int32) (rv5 : Int32 → Int32 → Int32 → Int32 → Option (Int32)) {res : Int32} (ih5 : ∀ (x1 : Int32) (x2 : Int32) (x3 : Int32) (x4 : Int32), rv5 x1 x2 x3 x4 = some res → JW X 0 0 5 [some (.ref 0), some (.int x1), some (.int x2), some (.int x3), some (.int x4)] [] (hTown G)) (x1 : Int32) (x2 : Int32) (x4 : Int32) (s0 : Int32) (s1 : Int32) (h : p_X3_priceChange_b72 N G rv5 x1 x2 x4 s0 s1 = some res) (hq : po (some (.int res)) (hTown G)) : JW X 0 0 72 [some (.ref 0), some (.int x1), some (.int x2), none, some (.int x4)] [.int s0, .int s1] (hTown G) := by
  unfold p_X3_priceChange_b72 at h
  refine JW.r hM 41 2 (pc2 := 74) (L2 := [some (.ref 0), some (.int x1), some (.int x2), some (.int (s1 - s0)), some (.int x4)]) (st2 := []) (μ2 := (hTown G)) rfl trivial ?_
  exact t_X3_priceChange_b74 hM hp N G rv5 ih5 x1 x2 (s1 - s0) x4 h hq
set_option maxHeartbeats 4000000 in
set_option maxRecDepth 100000 in
theorem t_X3_priceChange_b47 {X : jX} {po : Option Value → jH → Prop} {px : String → jH → Prop} {sf : Bool} {B9 : Nat} (hM : jMX X kX3_priceChange RX3 tbX3 5 ⟨2, 0, 0, 43⟩ (some .int) 10) (hp : jPost X sf B9 po px) (N : Nat) (G : Nat → Nat → Int32) (rv5 : Int32 → Int32 → Int32 → Int32 → Option (Int32)) {res : Int32} (ih5 : ∀ (x1 : Int32) (x2 : Int32) (x3 : Int32) (x4 : Int32), rv5 x1 x2 x3 x4 = some res → JW X 0 0 5 [some (.ref 0), some (.int x1), some (.int x2), some (.int x3), some (.int x4)] [] (hTown G)) (x1 : Int32) (x2 : Int32) (x4 : Int32) (s0 : Int32) (s1 : Int32) (h : p_X3_priceChange_b47 N G rv5 x1 x2 x4 s0 s1 = some res) (hq : po (some (.int res)) (hTown G)) : JW X 0 0 47 [some (.ref 0), some (.int x1), some (.int x2), none, some (.int x4)] [.int s0, .int s1] (hTown G) := by
  unfold p_X3_priceChange_b47 at h
  obtain ⟨g4, h⟩ := jg h
  refine JW.r hM 26 8 (pc2 := 58) (L2 := [some (.ref 0), some (.int x1), some (.int x2), some (.int (s1 + s0)), some (.int x4)]) (st2 := [.int x2, .int (G 5 x4.toNatClampNeg), .int (s1 + s0)]) (μ2 := (hTown G)) rfl ⟨g4, trivial⟩ ?_
  refine js_icne (t := 71) hM.1 (jat hM.2.1 34 rfl) rfl (fun hc6 => ?_) (fun hc6 => ?_)
  · have h := (if_neg hc6).symm.trans h
    refine JW.r hM 40 1 (pc2 := 72) (L2 := [some (.ref 0), some (.int x1), some (.int x2), some (.int (s1 + s0)), some (.int x4)]) (st2 := [.int (0 : Int32), .int (s1 + s0)]) (μ2 := (hTown G)) rfl trivial ?_
    exact JW.mask [true, true, true, false, true] (t_X3_priceChange_b72 hM hp N G rv5 ih5 x1 x2 x4 (0 : Int32) (s1 + s0) h hq)
  · have h := (if_pos hc6).symm.trans h
    obtain ⟨g5, h⟩ := jg h
    refine JW.r hM 35 5 (pc2 := 72) (L2 := [some (.ref 0), some (.int x1), some (.int x2), some (.int (s1 + s0)), some (.int x4)]) (st2 := [.int (G 7 x4.toNatClampNeg), .int (s1 + s0)]) (μ2 := (hTown G)) rfl ⟨g5, trivial⟩ ?_
    exact JW.mask [true, true, true, false, true] (t_X3_priceChange_b72 hM hp N G rv5 ih5 x1 x2 x4 (G 7 x4.toNatClampNeg) (s1 + s0) h hq)
set_option maxHeartbeats 4000000 in
set_option maxRecDepth 100000 in
theorem t_X3_priceChange_b5 {X : jX} {po : Option Value → jH → Prop} {px : String → jH → Prop} {sf : Bool} {B9 : Nat} (hM : jMX X kX3_priceChange RX3 tbX3 5 ⟨2, 0, 0, 43⟩ (some .int) 10) (hp : jPost X sf B9 po px) (N : Nat) (G : Nat → Nat → Int32) {res : Int32} : ∀ (n : Nat) (x1 : Int32) (x2 : Int32) (x3 : Int32) (x4 : Int32) (h : p_X3_priceChange_b5 N G n x1 x2 x3 x4 = some res) (hq : po (some (.int res)) (hTown G)), JW X 0 0 5 [some (.ref 0), some (.int x1), some (.int x2), some (.int x3), some (.int x4)] [] (hTown G) := by
  intro n
  induction n with
  | zero =>
    intro x1 x2 x3 x4 h hq
    cases (show (none : Option (Int32)) = some res from h)
  | succ n ih5 =>
    intro x1 x2 x3 x4 h hq
    have ih5 := fun x1 x2 x3 x4 h9 => ih5 x1 x2 x3 x4 h9 hq
    rw [p_X3_priceChange_b5] at h
    refine JW.r hM 4 3 (pc2 := 11) (L2 := [some (.ref 0), some (.int x1), some (.int x2), some (.int x3), some (.int x4)]) (st2 := [.int (G 0 7), .int x4]) (μ2 := (hTown G)) rfl trivial ?_
    refine js_icge (t := 80) hM.1 (jat hM.2.1 7 rfl) rfl (fun hc10 => ?_) (fun hc10 => ?_)
    · have h := (if_pos hc10).symm.trans h
      refine JW.r hM 45 1 (pc2 := 81) (L2 := [some (.ref 0), some (.int x1), some (.int x2), some (.int x3), some (.int x4)]) (st2 := [.int x3]) (μ2 := (hTown G)) rfl trivial ?_
      cases h
      exact js_iret hM.1 hp hM.2.2.2.2.2.2.2.1 (by rw [hM.2.2.2.2.2.1]; exact Nat.le_of_ble_eq_true rfl) (by rw [hM.2.2.2.2.2.2.1]; exact Nat.le_of_ble_eq_true rfl) (jat hM.2.1 46 rfl) hq
    · have h := (if_neg hc10).symm.trans h
      refine JW.r hM 8 3 (pc2 := 18) (L2 := [some (.ref 0), some (.int x1), some (.int x2), some (.int x3), some (.int x4)]) (st2 := [.int x1, .int x4, .ref 0]) (μ2 := (hTown G)) rfl trivial ?_
      obtain ⟨v2, hv1, h⟩ := jbd h
      refine JW.cV (v := some (.int v2)) hM (m_X3_fallsWith (jVX X) hM.1.2.2.2.2.2.2.2.2.2.1 N G x4 x1 v2 hv1) (sb_Town_Town_0 G) (bi_Town_Town_0 G) rfl rfl rfl kc_X3_134 rfl rfl rfl rfl rfl (jat hM.2.1 11 rfl) (st := []) rfl ?_
      show JW X 0 0 21 [some (.ref 0), some (.int x1), some (.int x2), some (.int x3), some (.int x4)] [.int v2] (hTown G)
      refine js_ifeq (t := 74) hM.1 (jat hM.2.1 12 rfl) rfl (fun hc9 => ?_) (fun hc9 => ?_)
      · have h := (if_pos hc9).symm.trans h
        exact t_X3_priceChange_b74 hM hp N G (p_X3_priceChange_b5 N G n) ih5 x1 x2 x3 x4 h hq
      · have h := (if_neg hc9).symm.trans h
        obtain ⟨g3, h⟩ := jg h
        refine JW.r hM 13 6 (pc2 := 33) (L2 := [some (.ref 0), some (.int x1), some (.int x2), some (.int x3), some (.int x4)]) (st2 := [.int x2, .int (G 6 x4.toNatClampNeg), .int x3]) (μ2 := (hTown G)) rfl ⟨g3, trivial⟩ ?_
        refine js_icne (t := 46) hM.1 (jat hM.2.1 19 rfl) rfl (fun hc8 => ?_) (fun hc8 => ?_)
        · have h := (if_neg hc8).symm.trans h
          refine JW.r hM 25 1 (pc2 := 47) (L2 := [some (.ref 0), some (.int x1), some (.int x2), some (.int x3), some (.int x4)]) (st2 := [.int (0 : Int32), .int x3]) (μ2 := (hTown G)) rfl trivial ?_
          exact JW.mask [true, true, true, false, true] (t_X3_priceChange_b47 hM hp N G (p_X3_priceChange_b5 N G n) ih5 x1 x2 x4 (0 : Int32) x3 h hq)
        · have h := (if_pos hc8).symm.trans h
          obtain ⟨g7, h⟩ := jg h
          refine JW.r hM 20 5 (pc2 := 47) (L2 := [some (.ref 0), some (.int x1), some (.int x2), some (.int x3), some (.int x4)]) (st2 := [.int (G 7 x4.toNatClampNeg), .int x3]) (μ2 := (hTown G)) rfl ⟨g7, trivial⟩ ?_
          exact JW.mask [true, true, true, false, true] (t_X3_priceChange_b47 hM hp N G (p_X3_priceChange_b5 N G n) ih5 x1 x2 x4 (G 7 x4.toNatClampNeg) x3 h hq)
set_option maxHeartbeats 4000000 in
set_option maxRecDepth 100000 in
theorem t_X3_priceChange {X : jX} {po : Option Value → jH → Prop} {px : String → jH → Prop} {sf : Bool} {B9 : Nat} (hM : jMX X kX3_priceChange RX3 tbX3 5 ⟨2, 0, 0, 43⟩ (some .int) 10) (hp : jPost X sf B9 po px) (N : Nat) (G : Nat → Nat → Int32) (p0 : Int32) (p1 : Int32) {res : Int32} (h : p_X3_priceChange N G p0 p1 = some res) (hq : po (some (.int res)) (hTown G)) : JW X 0 0 0 [some (.ref 0), some (.int p0), some (.int p1), none, none] [] (hTown G) := by
  unfold p_X3_priceChange at h
  refine JW.r hM 0 4 (pc2 := 5) (L2 := [some (.ref 0), some (.int p0), some (.int p1), some (.int (0 : Int32)), some (.int p0)]) (st2 := []) (μ2 := (hTown G)) rfl trivial ?_
  exact t_X3_priceChange_b5 hM hp N G N p0 p1 (0 : Int32) p0 h hq
theorem m_X3_priceChange (V : jV) (hV : V.1.stackTraces = false) (N : Nat) (G : Nat → Nat → Int32) (p0 : Int32) (p1 : Int32) (v : Int32) (h : p_X3_priceChange N G p0 p1 = some v) : jMet V yX3_priceChange (jws yX3_priceChange cX3_priceChange 5 (some .int)) ⟨2, 0, 0, 43⟩ true 1 [.ref 0, .int p0, .int p1] (hTown G) (fun o ν => o = some (.int v) ∧ ν = (hTown G)) (fun _ _ => False) := by
  refine jmk (tb := tbX3) (C := kX3_priceChange) hV rfl (by decide) tbX3_ok rfl kX3_priceChange_ok rfl ?_
  intro X hM _ hp _
  exact t_X3_priceChange hM hp N G p0 p1 h ⟨rfl, rfl⟩
def p_X3_owedToAll_b80 (N : Nat) (G : Nat → Nat → Int32) (rv5 : Int32 → Int32 → Int32 → Int32 → Option (Int32)) (x1 : Int32) (x2 : Int32) (x3 : Int32) (x4 : Int32) : Option (Int32) :=
  rv5 x1 x2 x3 (x4 + 1)
def p_X3_owedToAll_b78 (N : Nat) (G : Nat → Nat → Int32) (rv5 : Int32 → Int32 → Int32 → Int32 → Option (Int32)) (x1 : Int32) (x2 : Int32) (x4 : Int32) (s0 : Int32) (s1 : Int32) : Option (Int32) :=
  p_X3_owedToAll_b80 N G rv5 x1 x2 (s1 + s0) x4
def p_X3_owedToAll_b50 (N : Nat) (G : Nat → Nat → Int32) (rv5 : Int32 → Int32 → Int32 → Int32 → Option (Int32)) (x1 : Int32) (x2 : Int32) (x4 : Int32) (s0 : Int32) (s1 : Int32) : Option (Int32) :=
  if jin x4 30 = true then if (G 6 x4.toNatClampNeg) = x2 then (p_X3_owedToAll_b78 N G rv5 x1 x2 x4 (0 : Int32) (s1 + s0)) else ((p_X3_worthToTaker N G x4).bind (fun v16 => (p_X3_cut N G v16).bind (fun v18 => p_X3_owedToAll_b80 N G rv5 x1 x2 ((s1 + s0) + v18) x4))) else none
def p_X3_owedToAll_b5 (N : Nat) (G : Nat → Nat → Int32) : Nat → (Int32) → (Int32) → (Int32) → (Int32) → Option (Int32)
  | 0, _, _, _, _ => none
  | n + 1, x1, x2, x3, x4 => if (G 0 7) ≤ x4 then (some x3) else ((p_X3_fallsWith N G x4 x1).bind (fun v2 => if v2 = 0 then (p_X3_owedToAll_b80 N G (p_X3_owedToAll_b5 N G n) x1 x2 x3 x4) else (if jin x4 30 = true then if (G 5 x4.toNatClampNeg) = x2 then (p_X3_owedToAll_b50 N G (p_X3_owedToAll_b5 N G n) x1 x2 x4 (0 : Int32) x3) else ((p_X3_worthToGiver N G x4).bind (fun v5 => (p_X3_cut N G v5).bind (fun v7 => if jin x4 30 = true then if (G 6 x4.toNatClampNeg) = x2 then (p_X3_owedToAll_b78 N G (p_X3_owedToAll_b5 N G n) x1 x2 x4 (0 : Int32) (x3 + v7)) else ((p_X3_worthToTaker N G x4).bind (fun v10 => (p_X3_cut N G v10).bind (fun v12 => p_X3_owedToAll_b80 N G (p_X3_owedToAll_b5 N G n) x1 x2 ((x3 + v7) + v12) x4))) else none))) else none)))
def p_X3_owedToAll (N : Nat) (G : Nat → Nat → Int32) (p0 : Int32) (p1 : Int32) : Option (Int32) :=
  p_X3_owedToAll_b5 N G N p0 p1 (0 : Int32) p0
set_option maxHeartbeats 4000000 in
set_option maxRecDepth 100000 in
theorem t_X3_owedToAll_b80 {X : jX} {po : Option Value → jH → Prop} {px : String → jH → Prop} {sf : Bool} {B9 : Nat} (hM : jMX X kX3_owedToAll RX3 tbX3 5 ⟨2, 0, 0, 44⟩ (some .int) 10) (hp : jPost X sf B9 po px) (N : Nat) (G : Nat → Nat → Int32) (rv5 : Int32 → Int32 → Int32 → Int32 → Option (Int32)) {res : Int32} (ih5 : ∀ (x1 : Int32) (x2 : Int32) (x3 : Int32) (x4 : Int32), rv5 x1 x2 x3 x4 = some res → JW X 0 0 5 [some (.ref 0), some (.int x1), some (.int x2), some (.int x3), some (.int x4)] [] (hTown G)) (x1 : Int32) (x2 : Int32) (x3 : Int32) (x4 : Int32) (h : p_X3_owedToAll_b80 N G rv5 x1 x2 x3 x4 = some res) (hq : po (some (.int res)) (hTown G)) : JW X 0 0 80 [some (.ref 0), some (.int x1), some (.int x2), some (.int x3), some (.int x4)] [] (hTown G) := by
  unfold p_X3_owedToAll_b80 at h
  refine JW.r hM 45 2 (pc2 := 5) (L2 := [some (.ref 0), some (.int x1), some (.int x2), some (.int x3), some (.int (x4 + 1))]) (st2 := []) (μ2 := (hTown G)) rfl trivial ?_
  exact ih5 x1 x2 x3 (x4 + 1) h
set_option maxHeartbeats 4000000 in
set_option maxRecDepth 100000 in
theorem t_X3_owedToAll_b78 {X : jX} {po : Option Value → jH → Prop} {px : String → jH → Prop} {sf : Bool} {B9 : Nat} (hM : jMX X kX3_owedToAll RX3 tbX3 5 ⟨2, 0, 0, 44⟩ (some .int) 10) (hp : jPost X sf B9 po px) (N : Nat) (G : Nat → Nat → Int32) (rv5 : Int32 → Int32 → Int32 → Int32 → Option (Int32)) {res : Int32} (ih5 : ∀ (x1 : Int32) (x2 : Int32) (x3 : Int32) (x4 : Int32), rv5 x1 x2 x3 x4 = some res → JW X 0 0 5 [some (.ref 0), some (.int x1), some (.int x2), some (.int x3), some (.int x4)] [] (hTown G)) (x1 : Int32) (x2 : Int32) (x4 : Int32) (s0 : Int32) (s1 : Int32) (h : p_X3_owedToAll_b78 N G rv5 x1 x2 x4 s0 s1 = some res) (hq : po (some (.int res)) (hTown G)) : JW X 0 0 78 [some (.ref 0), some (.int x1), some (.int x2), none, some (.int x4)] [.int s0, .int s1] (hTown G) := by
  unfold p_X3_owedToAll_b78 at h
  refine JW.r hM 43 2 (pc2 := 80) (L2 := [some (.ref 0), some (.int x1), some (.int x2), some (.int (s1 + s0)), some (.int x4)]) (st2 := []) (μ2 := (hTown G)) rfl trivial ?_
  exact t_X3_owedToAll_b80 hM hp N G rv5 ih5 x1 x2 (s1 + s0) x4 h hq
set_option maxHeartbeats 4000000 in
set_option maxRecDepth 100000 in
theorem t_X3_owedToAll_b50 {X : jX} {po : Option Value → jH → Prop} {px : String → jH → Prop} {sf : Bool} {B9 : Nat} (hM : jMX X kX3_owedToAll RX3 tbX3 5 ⟨2, 0, 0, 44⟩ (some .int) 10) (hp : jPost X sf B9 po px) (N : Nat) (G : Nat → Nat → Int32) (rv5 : Int32 → Int32 → Int32 → Int32 → Option (Int32)) {res : Int32} (ih5 : ∀ (x1 : Int32) (x2 : Int32) (x3 : Int32) (x4 : Int32), rv5 x1 x2 x3 x4 = some res → JW X 0 0 5 [some (.ref 0), some (.int x1), some (.int x2), some (.int x3), some (.int x4)] [] (hTown G)) (x1 : Int32) (x2 : Int32) (x4 : Int32) (s0 : Int32) (s1 : Int32) (h : p_X3_owedToAll_b50 N G rv5 x1 x2 x4 s0 s1 = some res) (hq : po (some (.int res)) (hTown G)) : JW X 0 0 50 [some (.ref 0), some (.int x1), some (.int x2), none, some (.int x4)] [.int s0, .int s1] (hTown G) := by
  unfold p_X3_owedToAll_b50 at h
  obtain ⟨g14, h⟩ := jg h
  refine JW.r hM 27 8 (pc2 := 61) (L2 := [some (.ref 0), some (.int x1), some (.int x2), some (.int (s1 + s0)), some (.int x4)]) (st2 := [.int x2, .int (G 6 x4.toNatClampNeg), .int (s1 + s0)]) (μ2 := (hTown G)) rfl ⟨g14, trivial⟩ ?_
  refine js_icne (t := 68) hM.1 (jat hM.2.1 35 rfl) rfl (fun hc19 => ?_) (fun hc19 => ?_)
  · have h := (if_neg hc19).symm.trans h
    refine JW.r hM 38 3 (pc2 := 72) (L2 := [some (.ref 0), some (.int x1), some (.int x2), some (.int (s1 + s0)), some (.int x4)]) (st2 := [.int x4, .ref 0, .ref 0, .int (s1 + s0)]) (μ2 := (hTown G)) rfl trivial ?_
    obtain ⟨v16, hv15, h⟩ := jbd h
    refine JW.cV (v := some (.int v16)) hM (m_X3_worthToTaker (jVX X) hM.1.2.2.2.2.2.2.2.2.2.1 N G x4 v16 hv15) (sb_Town_Town_0 G) (bi_Town_Town_0 G) rfl rfl rfl kc_X3_143 rfl rfl rfl rfl rfl (jat hM.2.1 41 rfl) (st := [.ref 0, .int (s1 + s0)]) rfl ?_
    show JW X 0 0 75 [some (.ref 0), some (.int x1), some (.int x2), some (.int (s1 + s0)), some (.int x4)] [.int v16, .ref 0, .int (s1 + s0)] (hTown G)
    obtain ⟨v18, hv17, h⟩ := jbd h
    refine JW.cV (v := some (.int v18)) hM (m_X3_cut (jVX X) hM.1.2.2.2.2.2.2.2.2.2.1 N G v16 v18 hv17) (sb_Town_Town_0 G) (bi_Town_Town_0 G) rfl rfl rfl kc_X3_140 rfl rfl rfl rfl rfl (jat hM.2.1 42 rfl) (st := [.int (s1 + s0)]) rfl ?_
    show JW X 0 0 78 [some (.ref 0), some (.int x1), some (.int x2), some (.int (s1 + s0)), some (.int x4)] [.int v18, .int (s1 + s0)] (hTown G)
    refine JW.r hM 43 2 (pc2 := 80) (L2 := [some (.ref 0), some (.int x1), some (.int x2), some (.int ((s1 + s0) + v18)), some (.int x4)]) (st2 := []) (μ2 := (hTown G)) rfl trivial ?_
    exact t_X3_owedToAll_b80 hM hp N G rv5 ih5 x1 x2 ((s1 + s0) + v18) x4 h hq
  · have h := (if_pos hc19).symm.trans h
    refine JW.r hM 36 2 (pc2 := 78) (L2 := [some (.ref 0), some (.int x1), some (.int x2), some (.int (s1 + s0)), some (.int x4)]) (st2 := [.int (0 : Int32), .int (s1 + s0)]) (μ2 := (hTown G)) rfl trivial ?_
    exact JW.mask [true, true, true, false, true] (t_X3_owedToAll_b78 hM hp N G rv5 ih5 x1 x2 x4 (0 : Int32) (s1 + s0) h hq)
set_option maxHeartbeats 4000000 in
set_option maxRecDepth 100000 in
theorem t_X3_owedToAll_b5 {X : jX} {po : Option Value → jH → Prop} {px : String → jH → Prop} {sf : Bool} {B9 : Nat} (hM : jMX X kX3_owedToAll RX3 tbX3 5 ⟨2, 0, 0, 44⟩ (some .int) 10) (hp : jPost X sf B9 po px) (N : Nat) (G : Nat → Nat → Int32) {res : Int32} : ∀ (n : Nat) (x1 : Int32) (x2 : Int32) (x3 : Int32) (x4 : Int32) (h : p_X3_owedToAll_b5 N G n x1 x2 x3 x4 = some res) (hq : po (some (.int res)) (hTown G)), JW X 0 0 5 [some (.ref 0), some (.int x1), some (.int x2), some (.int x3), some (.int x4)] [] (hTown G) := by
  intro n
  induction n with
  | zero =>
    intro x1 x2 x3 x4 h hq
    cases (show (none : Option (Int32)) = some res from h)
  | succ n ih5 =>
    intro x1 x2 x3 x4 h hq
    have ih5 := fun x1 x2 x3 x4 h9 => ih5 x1 x2 x3 x4 h9 hq
    rw [p_X3_owedToAll_b5] at h
    refine JW.r hM 4 3 (pc2 := 11) (L2 := [some (.ref 0), some (.int x1), some (.int x2), some (.int x3), some (.int x4)]) (st2 := [.int (G 0 7), .int x4]) (μ2 := (hTown G)) rfl trivial ?_
    refine js_icge (t := 86) hM.1 (jat hM.2.1 7 rfl) rfl (fun hc22 => ?_) (fun hc22 => ?_)
    · have h := (if_pos hc22).symm.trans h
      refine JW.r hM 47 1 (pc2 := 87) (L2 := [some (.ref 0), some (.int x1), some (.int x2), some (.int x3), some (.int x4)]) (st2 := [.int x3]) (μ2 := (hTown G)) rfl trivial ?_
      cases h
      exact js_iret hM.1 hp hM.2.2.2.2.2.2.2.1 (by rw [hM.2.2.2.2.2.1]; exact Nat.le_of_ble_eq_true rfl) (by rw [hM.2.2.2.2.2.2.1]; exact Nat.le_of_ble_eq_true rfl) (jat hM.2.1 48 rfl) hq
    · have h := (if_neg hc22).symm.trans h
      refine JW.r hM 8 3 (pc2 := 18) (L2 := [some (.ref 0), some (.int x1), some (.int x2), some (.int x3), some (.int x4)]) (st2 := [.int x1, .int x4, .ref 0]) (μ2 := (hTown G)) rfl trivial ?_
      obtain ⟨v2, hv1, h⟩ := jbd h
      refine JW.cV (v := some (.int v2)) hM (m_X3_fallsWith (jVX X) hM.1.2.2.2.2.2.2.2.2.2.1 N G x4 x1 v2 hv1) (sb_Town_Town_0 G) (bi_Town_Town_0 G) rfl rfl rfl kc_X3_134 rfl rfl rfl rfl rfl (jat hM.2.1 11 rfl) (st := []) rfl ?_
      show JW X 0 0 21 [some (.ref 0), some (.int x1), some (.int x2), some (.int x3), some (.int x4)] [.int v2] (hTown G)
      refine js_ifeq (t := 80) hM.1 (jat hM.2.1 12 rfl) rfl (fun hc21 => ?_) (fun hc21 => ?_)
      · have h := (if_pos hc21).symm.trans h
        exact t_X3_owedToAll_b80 hM hp N G (p_X3_owedToAll_b5 N G n) ih5 x1 x2 x3 x4 h hq
      · have h := (if_neg hc21).symm.trans h
        obtain ⟨g3, h⟩ := jg h
        refine JW.r hM 13 6 (pc2 := 33) (L2 := [some (.ref 0), some (.int x1), some (.int x2), some (.int x3), some (.int x4)]) (st2 := [.int x2, .int (G 5 x4.toNatClampNeg), .int x3]) (μ2 := (hTown G)) rfl ⟨g3, trivial⟩ ?_
        refine js_icne (t := 40) hM.1 (jat hM.2.1 19 rfl) rfl (fun hc20 => ?_) (fun hc20 => ?_)
        · have h := (if_neg hc20).symm.trans h
          refine JW.r hM 22 3 (pc2 := 44) (L2 := [some (.ref 0), some (.int x1), some (.int x2), some (.int x3), some (.int x4)]) (st2 := [.int x4, .ref 0, .ref 0, .int x3]) (μ2 := (hTown G)) rfl trivial ?_
          obtain ⟨v5, hv4, h⟩ := jbd h
          refine JW.cV (v := some (.int v5)) hM (m_X3_worthToGiver (jVX X) hM.1.2.2.2.2.2.2.2.2.2.1 N G x4 v5 hv4) (sb_Town_Town_0 G) (bi_Town_Town_0 G) rfl rfl rfl kc_X3_137 rfl rfl rfl rfl rfl (jat hM.2.1 25 rfl) (st := [.ref 0, .int x3]) rfl ?_
          show JW X 0 0 47 [some (.ref 0), some (.int x1), some (.int x2), some (.int x3), some (.int x4)] [.int v5, .ref 0, .int x3] (hTown G)
          obtain ⟨v7, hv6, h⟩ := jbd h
          refine JW.cV (v := some (.int v7)) hM (m_X3_cut (jVX X) hM.1.2.2.2.2.2.2.2.2.2.1 N G v5 v7 hv6) (sb_Town_Town_0 G) (bi_Town_Town_0 G) rfl rfl rfl kc_X3_140 rfl rfl rfl rfl rfl (jat hM.2.1 26 rfl) (st := [.int x3]) rfl ?_
          show JW X 0 0 50 [some (.ref 0), some (.int x1), some (.int x2), some (.int x3), some (.int x4)] [.int v7, .int x3] (hTown G)
          obtain ⟨g8, h⟩ := jg h
          refine JW.r hM 27 8 (pc2 := 61) (L2 := [some (.ref 0), some (.int x1), some (.int x2), some (.int (x3 + v7)), some (.int x4)]) (st2 := [.int x2, .int (G 6 x4.toNatClampNeg), .int (x3 + v7)]) (μ2 := (hTown G)) rfl ⟨g8, trivial⟩ ?_
          refine js_icne (t := 68) hM.1 (jat hM.2.1 35 rfl) rfl (fun hc13 => ?_) (fun hc13 => ?_)
          · have h := (if_neg hc13).symm.trans h
            refine JW.r hM 38 3 (pc2 := 72) (L2 := [some (.ref 0), some (.int x1), some (.int x2), some (.int (x3 + v7)), some (.int x4)]) (st2 := [.int x4, .ref 0, .ref 0, .int (x3 + v7)]) (μ2 := (hTown G)) rfl trivial ?_
            obtain ⟨v10, hv9, h⟩ := jbd h
            refine JW.cV (v := some (.int v10)) hM (m_X3_worthToTaker (jVX X) hM.1.2.2.2.2.2.2.2.2.2.1 N G x4 v10 hv9) (sb_Town_Town_0 G) (bi_Town_Town_0 G) rfl rfl rfl kc_X3_143 rfl rfl rfl rfl rfl (jat hM.2.1 41 rfl) (st := [.ref 0, .int (x3 + v7)]) rfl ?_
            show JW X 0 0 75 [some (.ref 0), some (.int x1), some (.int x2), some (.int (x3 + v7)), some (.int x4)] [.int v10, .ref 0, .int (x3 + v7)] (hTown G)
            obtain ⟨v12, hv11, h⟩ := jbd h
            refine JW.cV (v := some (.int v12)) hM (m_X3_cut (jVX X) hM.1.2.2.2.2.2.2.2.2.2.1 N G v10 v12 hv11) (sb_Town_Town_0 G) (bi_Town_Town_0 G) rfl rfl rfl kc_X3_140 rfl rfl rfl rfl rfl (jat hM.2.1 42 rfl) (st := [.int (x3 + v7)]) rfl ?_
            show JW X 0 0 78 [some (.ref 0), some (.int x1), some (.int x2), some (.int (x3 + v7)), some (.int x4)] [.int v12, .int (x3 + v7)] (hTown G)
            refine JW.r hM 43 2 (pc2 := 80) (L2 := [some (.ref 0), some (.int x1), some (.int x2), some (.int ((x3 + v7) + v12)), some (.int x4)]) (st2 := []) (μ2 := (hTown G)) rfl trivial ?_
            exact t_X3_owedToAll_b80 hM hp N G (p_X3_owedToAll_b5 N G n) ih5 x1 x2 ((x3 + v7) + v12) x4 h hq
          · have h := (if_pos hc13).symm.trans h
            refine JW.r hM 36 2 (pc2 := 78) (L2 := [some (.ref 0), some (.int x1), some (.int x2), some (.int (x3 + v7)), some (.int x4)]) (st2 := [.int (0 : Int32), .int (x3 + v7)]) (μ2 := (hTown G)) rfl trivial ?_
            exact JW.mask [true, true, true, false, true] (t_X3_owedToAll_b78 hM hp N G (p_X3_owedToAll_b5 N G n) ih5 x1 x2 x4 (0 : Int32) (x3 + v7) h hq)
        · have h := (if_pos hc20).symm.trans h
          refine JW.r hM 20 2 (pc2 := 50) (L2 := [some (.ref 0), some (.int x1), some (.int x2), some (.int x3), some (.int x4)]) (st2 := [.int (0 : Int32), .int x3]) (μ2 := (hTown G)) rfl trivial ?_
          exact JW.mask [true, true, true, false, true] (t_X3_owedToAll_b50 hM hp N G (p_X3_owedToAll_b5 N G n) ih5 x1 x2 x4 (0 : Int32) x3 h hq)
set_option maxHeartbeats 4000000 in
set_option maxRecDepth 100000 in
theorem t_X3_owedToAll {X : jX} {po : Option Value → jH → Prop} {px : String → jH → Prop} {sf : Bool} {B9 : Nat} (hM : jMX X kX3_owedToAll RX3 tbX3 5 ⟨2, 0, 0, 44⟩ (some .int) 10) (hp : jPost X sf B9 po px) (N : Nat) (G : Nat → Nat → Int32) (p0 : Int32) (p1 : Int32) {res : Int32} (h : p_X3_owedToAll N G p0 p1 = some res) (hq : po (some (.int res)) (hTown G)) : JW X 0 0 0 [some (.ref 0), some (.int p0), some (.int p1), none, none] [] (hTown G) := by
  unfold p_X3_owedToAll at h
  refine JW.r hM 0 4 (pc2 := 5) (L2 := [some (.ref 0), some (.int p0), some (.int p1), some (.int (0 : Int32)), some (.int p0)]) (st2 := []) (μ2 := (hTown G)) rfl trivial ?_
  exact t_X3_owedToAll_b5 hM hp N G N p0 p1 (0 : Int32) p0 h hq
theorem m_X3_owedToAll (V : jV) (hV : V.1.stackTraces = false) (N : Nat) (G : Nat → Nat → Int32) (p0 : Int32) (p1 : Int32) (v : Int32) (h : p_X3_owedToAll N G p0 p1 = some v) : jMet V yX3_owedToAll (jws yX3_owedToAll cX3_owedToAll 5 (some .int)) ⟨2, 0, 0, 44⟩ true 1 [.ref 0, .int p0, .int p1] (hTown G) (fun o ν => o = some (.int v) ∧ ν = (hTown G)) (fun _ _ => False) := by
  refine jmk (tb := tbX3) (C := kX3_owedToAll) hV rfl (by decide) tbX3_ok rfl kX3_owedToAll_ok rfl ?_
  intro X hM _ hp _
  exact t_X3_owedToAll hM hp N G p0 p1 h ⟨rfl, rfl⟩
def p_X3_whyNoUndoing (N : Nat) (G : Nat → Nat → Int32) (p0 : Int32) (p1 : Int32) : Option (Int32) :=
  (p_X3_hasDeed N G p0).bind (fun v2 => if v2 = 0 then (some (1 : Int32)) else ((p_X3_stands N G p0).bind (fun v4 => if v4 = 0 then (some (2 : Int32)) else ((p_X3_isOf N G p0 p1).bind (fun v6 => if v6 = 0 then (some (3 : Int32)) else ((p_X3_hasRung N G).bind (fun v8 => if v8 = 0 then (if jin p0 30 = true then (p_X3_isEaten N G (G 4 p0.toNatClampNeg)).bind (fun v11 => if v11 = 0 then (if jin p1 6 = true then (p_X3_priceChange N G p0 p1).bind (fun v14 => (p_X3_owedToAll N G p0 p1).bind (fun v16 => if 0 ≤ (((G 1 p1.toNatClampNeg) + v14) - v16) then (some (0 : Int32)) else (some (6 : Int32)))) else none) else (some (5 : Int32))) else none) else (some (4 : Int32)))))))))
set_option maxHeartbeats 4000000 in
set_option maxRecDepth 100000 in
theorem t_X3_whyNoUndoing {X : jX} {po : Option Value → jH → Prop} {px : String → jH → Prop} {sf : Bool} {B9 : Nat} (hM : jMX X kX3_whyNoUndoing RX3 tbX3 3 ⟨3, 0, 0, 68⟩ (some .int) 10) (hp : jPost X sf B9 po px) (N : Nat) (G : Nat → Nat → Int32) (p0 : Int32) (p1 : Int32) {res : Int32} (h : p_X3_whyNoUndoing N G p0 p1 = some res) (hq : po (some (.int res)) (hTown G)) : JW X 0 0 0 [some (.ref 0), some (.int p0), some (.int p1)] [] (hTown G) := by
  unfold p_X3_whyNoUndoing at h
  refine JW.r hM 0 2 (pc2 := 2) (L2 := [some (.ref 0), some (.int p0), some (.int p1)]) (st2 := [.int p0, .ref 0]) (μ2 := (hTown G)) rfl trivial ?_
  obtain ⟨v2, hv1, h⟩ := jbd h
  refine JW.cV (v := some (.int v2)) hM (m_X3_hasDeed (jVX X) hM.1.2.2.2.2.2.2.2.2.2.1 N G p0 v2 hv1) (sb_Town_Town_0 G) (bi_Town_Town_0 G) rfl rfl rfl kc_X3_109 rfl rfl rfl rfl rfl (jat hM.2.1 2 rfl) (st := []) rfl ?_
  show JW X 0 0 5 [some (.ref 0), some (.int p0), some (.int p1)] [.int v2] (hTown G)
  refine js_ifne (t := 10) hM.1 (jat hM.2.1 3 rfl) rfl (fun hc22 => ?_) (fun hc22 => ?_)
  · have h := (if_neg hc22).symm.trans h
    refine JW.r hM 6 2 (pc2 := 12) (L2 := [some (.ref 0), some (.int p0), some (.int p1)]) (st2 := [.int p0, .ref 0]) (μ2 := (hTown G)) rfl trivial ?_
    obtain ⟨v4, hv3, h⟩ := jbd h
    refine JW.cV (v := some (.int v4)) hM (m_X3_stands (jVX X) hM.1.2.2.2.2.2.2.2.2.2.1 N G p0 v4 hv3) (sb_Town_Town_0 G) (bi_Town_Town_0 G) rfl rfl rfl kc_X3_80 rfl rfl rfl rfl rfl (jat hM.2.1 8 rfl) (st := []) rfl ?_
    show JW X 0 0 15 [some (.ref 0), some (.int p0), some (.int p1)] [.int v4] (hTown G)
    refine js_ifne (t := 20) hM.1 (jat hM.2.1 9 rfl) rfl (fun hc21 => ?_) (fun hc21 => ?_)
    · have h := (if_neg hc21).symm.trans h
      refine JW.r hM 12 3 (pc2 := 23) (L2 := [some (.ref 0), some (.int p0), some (.int p1)]) (st2 := [.int p1, .int p0, .ref 0]) (μ2 := (hTown G)) rfl trivial ?_
      obtain ⟨v6, hv5, h⟩ := jbd h
      refine JW.cV (v := some (.int v6)) hM (m_X3_isOf (jVX X) hM.1.2.2.2.2.2.2.2.2.2.1 N G p0 p1 v6 hv5) (sb_Town_Town_0 G) (bi_Town_Town_0 G) rfl rfl rfl kc_X3_112 rfl rfl rfl rfl rfl (jat hM.2.1 15 rfl) (st := []) rfl ?_
      show JW X 0 0 26 [some (.ref 0), some (.int p0), some (.int p1)] [.int v6] (hTown G)
      refine js_ifne (t := 31) hM.1 (jat hM.2.1 16 rfl) rfl (fun hc20 => ?_) (fun hc20 => ?_)
      · have h := (if_neg hc20).symm.trans h
        refine JW.r hM 19 1 (pc2 := 32) (L2 := [some (.ref 0), some (.int p0), some (.int p1)]) (st2 := [.ref 0]) (μ2 := (hTown G)) rfl trivial ?_
        obtain ⟨v8, hv7, h⟩ := jbd h
        refine JW.cV (v := some (.int v8)) hM (m_X3_hasRung (jVX X) hM.1.2.2.2.2.2.2.2.2.2.1 N G v8 hv7) (sb_Town_Town_0 G) (bi_Town_Town_0 G) rfl rfl rfl kc_X3_76 rfl rfl rfl rfl rfl (jat hM.2.1 20 rfl) (st := []) rfl ?_
        show JW X 0 0 35 [some (.ref 0), some (.int p0), some (.int p1)] [.int v8] (hTown G)
        refine js_ifeq (t := 40) hM.1 (jat hM.2.1 21 rfl) rfl (fun hc19 => ?_) (fun hc19 => ?_)
        · have h := (if_pos hc19).symm.trans h
          obtain ⟨g9, h⟩ := jg h
          refine JW.r hM 24 5 (pc2 := 47) (L2 := [some (.ref 0), some (.int p0), some (.int p1)]) (st2 := [.int (G 4 p0.toNatClampNeg), .ref 0]) (μ2 := (hTown G)) rfl ⟨g9, trivial⟩ ?_
          obtain ⟨v11, hv10, h⟩ := jbd h
          refine JW.cV (v := some (.int v11)) hM (m_X3_isEaten (jVX X) hM.1.2.2.2.2.2.2.2.2.2.1 N G (G 4 p0.toNatClampNeg) v11 hv10) (sb_Town_Town_0 G) (bi_Town_Town_0 G) rfl rfl rfl kc_X3_84 rfl rfl rfl rfl rfl (jat hM.2.1 29 rfl) (st := []) rfl ?_
          show JW X 0 0 50 [some (.ref 0), some (.int p0), some (.int p1)] [.int v11] (hTown G)
          refine js_ifeq (t := 55) hM.1 (jat hM.2.1 30 rfl) rfl (fun hc18 => ?_) (fun hc18 => ?_)
          · have h := (if_pos hc18).symm.trans h
            obtain ⟨g12, h⟩ := jg h
            refine JW.r hM 33 7 (pc2 := 64) (L2 := [some (.ref 0), some (.int p0), some (.int p1)]) (st2 := [.int p1, .int p0, .ref 0, .int (G 1 p1.toNatClampNeg)]) (μ2 := (hTown G)) rfl ⟨g12, trivial⟩ ?_
            obtain ⟨v14, hv13, h⟩ := jbd h
            refine JW.cV (v := some (.int v14)) hM (m_X3_priceChange (jVX X) hM.1.2.2.2.2.2.2.2.2.2.1 N G p0 p1 v14 hv13) (sb_Town_Town_0 G) (bi_Town_Town_0 G) rfl rfl rfl kc_X3_116 rfl rfl rfl rfl rfl (jat hM.2.1 40 rfl) (st := [.int (G 1 p1.toNatClampNeg)]) rfl ?_
            show JW X 0 0 67 [some (.ref 0), some (.int p0), some (.int p1)] [.int v14, .int (G 1 p1.toNatClampNeg)] (hTown G)
            refine JW.r hM 41 4 (pc2 := 71) (L2 := [some (.ref 0), some (.int p0), some (.int p1)]) (st2 := [.int p1, .int p0, .ref 0, .int ((G 1 p1.toNatClampNeg) + v14)]) (μ2 := (hTown G)) rfl trivial ?_
            obtain ⟨v16, hv15, h⟩ := jbd h
            refine JW.cV (v := some (.int v16)) hM (m_X3_owedToAll (jVX X) hM.1.2.2.2.2.2.2.2.2.2.1 N G p0 p1 v16 hv15) (sb_Town_Town_0 G) (bi_Town_Town_0 G) rfl rfl rfl kc_X3_119 rfl rfl rfl rfl rfl (jat hM.2.1 45 rfl) (st := [.int ((G 1 p1.toNatClampNeg) + v14)]) rfl ?_
            show JW X 0 0 74 [some (.ref 0), some (.int p0), some (.int p1)] [.int v16, .int ((G 1 p1.toNatClampNeg) + v14)] (hTown G)
            refine JW.r hM 46 1 (pc2 := 75) (L2 := [some (.ref 0), some (.int p0), some (.int p1)]) (st2 := [.int (((G 1 p1.toNatClampNeg) + v14) - v16)]) (μ2 := (hTown G)) rfl trivial ?_
            refine js_ifge (t := 83) hM.1 (jat hM.2.1 47 rfl) rfl (fun hc17 => ?_) (fun hc17 => ?_)
            · have h := (if_pos hc17).symm.trans h
              refine JW.r hM 50 1 (pc2 := 84) (L2 := [some (.ref 0), some (.int p0), some (.int p1)]) (st2 := [.int (0 : Int32)]) (μ2 := (hTown G)) rfl trivial ?_
              cases h
              exact js_iret hM.1 hp hM.2.2.2.2.2.2.2.1 (by rw [hM.2.2.2.2.2.1]; exact Nat.le_of_ble_eq_true rfl) (by rw [hM.2.2.2.2.2.2.1]; exact Nat.le_of_ble_eq_true rfl) (jat hM.2.1 51 rfl) hq
            · have h := (if_neg hc17).symm.trans h
              refine JW.r hM 48 2 (pc2 := 84) (L2 := [some (.ref 0), some (.int p0), some (.int p1)]) (st2 := [.int (6 : Int32)]) (μ2 := (hTown G)) rfl trivial ?_
              cases h
              exact js_iret hM.1 hp hM.2.2.2.2.2.2.2.1 (by rw [hM.2.2.2.2.2.1]; exact Nat.le_of_ble_eq_true rfl) (by rw [hM.2.2.2.2.2.2.1]; exact Nat.le_of_ble_eq_true rfl) (jat hM.2.1 51 rfl) hq
          · have h := (if_neg hc18).symm.trans h
            refine JW.r hM 31 1 (pc2 := 54) (L2 := [some (.ref 0), some (.int p0), some (.int p1)]) (st2 := [.int (5 : Int32)]) (μ2 := (hTown G)) rfl trivial ?_
            cases h
            exact js_iret hM.1 hp hM.2.2.2.2.2.2.2.1 (by rw [hM.2.2.2.2.2.1]; exact Nat.le_of_ble_eq_true rfl) (by rw [hM.2.2.2.2.2.2.1]; exact Nat.le_of_ble_eq_true rfl) (jat hM.2.1 32 rfl) hq
        · have h := (if_neg hc19).symm.trans h
          refine JW.r hM 22 1 (pc2 := 39) (L2 := [some (.ref 0), some (.int p0), some (.int p1)]) (st2 := [.int (4 : Int32)]) (μ2 := (hTown G)) rfl trivial ?_
          cases h
          exact js_iret hM.1 hp hM.2.2.2.2.2.2.2.1 (by rw [hM.2.2.2.2.2.1]; exact Nat.le_of_ble_eq_true rfl) (by rw [hM.2.2.2.2.2.2.1]; exact Nat.le_of_ble_eq_true rfl) (jat hM.2.1 23 rfl) hq
      · have h := (if_pos hc20).symm.trans h
        refine JW.r hM 17 1 (pc2 := 30) (L2 := [some (.ref 0), some (.int p0), some (.int p1)]) (st2 := [.int (3 : Int32)]) (μ2 := (hTown G)) rfl trivial ?_
        cases h
        exact js_iret hM.1 hp hM.2.2.2.2.2.2.2.1 (by rw [hM.2.2.2.2.2.1]; exact Nat.le_of_ble_eq_true rfl) (by rw [hM.2.2.2.2.2.2.1]; exact Nat.le_of_ble_eq_true rfl) (jat hM.2.1 18 rfl) hq
    · have h := (if_pos hc21).symm.trans h
      refine JW.r hM 10 1 (pc2 := 19) (L2 := [some (.ref 0), some (.int p0), some (.int p1)]) (st2 := [.int (2 : Int32)]) (μ2 := (hTown G)) rfl trivial ?_
      cases h
      exact js_iret hM.1 hp hM.2.2.2.2.2.2.2.1 (by rw [hM.2.2.2.2.2.1]; exact Nat.le_of_ble_eq_true rfl) (by rw [hM.2.2.2.2.2.2.1]; exact Nat.le_of_ble_eq_true rfl) (jat hM.2.1 11 rfl) hq
  · have h := (if_pos hc22).symm.trans h
    refine JW.r hM 4 1 (pc2 := 9) (L2 := [some (.ref 0), some (.int p0), some (.int p1)]) (st2 := [.int (1 : Int32)]) (μ2 := (hTown G)) rfl trivial ?_
    cases h
    exact js_iret hM.1 hp hM.2.2.2.2.2.2.2.1 (by rw [hM.2.2.2.2.2.1]; exact Nat.le_of_ble_eq_true rfl) (by rw [hM.2.2.2.2.2.2.1]; exact Nat.le_of_ble_eq_true rfl) (jat hM.2.1 5 rfl) hq
theorem m_X3_whyNoUndoing (V : jV) (hV : V.1.stackTraces = false) (N : Nat) (G : Nat → Nat → Int32) (p0 : Int32) (p1 : Int32) (v : Int32) (h : p_X3_whyNoUndoing N G p0 p1 = some v) : jMet V yX3_whyNoUndoing (jws yX3_whyNoUndoing cX3_whyNoUndoing 3 (some .int)) ⟨3, 0, 0, 68⟩ true 1 [.ref 0, .int p0, .int p1] (hTown G) (fun o ν => o = some (.int v) ∧ ν = (hTown G)) (fun _ _ => False) := by
  refine jmk (tb := tbX3) (C := kX3_whyNoUndoing) hV rfl (by decide) tbX3_ok rfl kX3_whyNoUndoing_ok rfl ?_
  intro X hM _ hp _
  exact t_X3_whyNoUndoing hM hp N G p0 p1 h ⟨rfl, rfl⟩
def p_X3_fallBits_b27 (N : Nat) (G : Nat → Nat → Int32) (rv4 : Int32 → Int32 → Int32 → Option (Int32)) (x1 : Int32) (x2 : Int32) (x3 : Int32) : Option (Int32) :=
  rv4 x1 x2 (x3 + 1)
def p_X3_fallBits_b4 (N : Nat) (G : Nat → Nat → Int32) : Nat → (Int32) → (Int32) → (Int32) → Option (Int32)
  | 0, _, _, _ => none
  | n + 1, x1, x2, x3 => if (G 0 7) ≤ x3 then (some x2) else ((p_X3_fallsWith N G x3 x1).bind (fun v2 => if v2 = 0 then (p_X3_fallBits_b27 N G (p_X3_fallBits_b4 N G n) x1 x2 x3) else (p_X3_fallBits_b27 N G (p_X3_fallBits_b4 N G n) x1 (x2 ||| ((1 : Int32) <<< (x3 &&& 31))) x3)))
def p_X3_fallBits (N : Nat) (G : Nat → Nat → Int32) (p0 : Int32) : Option (Int32) :=
  p_X3_fallBits_b4 N G N p0 (0 : Int32) p0
set_option maxHeartbeats 4000000 in
set_option maxRecDepth 100000 in
theorem t_X3_fallBits_b27 {X : jX} {po : Option Value → jH → Prop} {px : String → jH → Prop} {sf : Bool} {B9 : Nat} (hM : jMX X kX3_fallBits RX3 tbX3 4 ⟨2, 0, 0, 43⟩ (some .int) 10) (hp : jPost X sf B9 po px) (N : Nat) (G : Nat → Nat → Int32) (rv4 : Int32 → Int32 → Int32 → Option (Int32)) {res : Int32} (ih4 : ∀ (x1 : Int32) (x2 : Int32) (x3 : Int32), rv4 x1 x2 x3 = some res → JW X 0 0 4 [some (.ref 0), some (.int x1), some (.int x2), some (.int x3)] [] (hTown G)) (x1 : Int32) (x2 : Int32) (x3 : Int32) (h : p_X3_fallBits_b27 N G rv4 x1 x2 x3 = some res) (hq : po (some (.int res)) (hTown G)) : JW X 0 0 27 [some (.ref 0), some (.int x1), some (.int x2), some (.int x3)] [] (hTown G) := by
  unfold p_X3_fallBits_b27 at h
  refine JW.r hM 19 2 (pc2 := 4) (L2 := [some (.ref 0), some (.int x1), some (.int x2), some (.int (x3 + 1))]) (st2 := []) (μ2 := (hTown G)) rfl trivial ?_
  exact ih4 x1 x2 (x3 + 1) h
set_option maxHeartbeats 4000000 in
set_option maxRecDepth 100000 in
theorem t_X3_fallBits_b4 {X : jX} {po : Option Value → jH → Prop} {px : String → jH → Prop} {sf : Bool} {B9 : Nat} (hM : jMX X kX3_fallBits RX3 tbX3 4 ⟨2, 0, 0, 43⟩ (some .int) 10) (hp : jPost X sf B9 po px) (N : Nat) (G : Nat → Nat → Int32) {res : Int32} : ∀ (n : Nat) (x1 : Int32) (x2 : Int32) (x3 : Int32) (h : p_X3_fallBits_b4 N G n x1 x2 x3 = some res) (hq : po (some (.int res)) (hTown G)), JW X 0 0 4 [some (.ref 0), some (.int x1), some (.int x2), some (.int x3)] [] (hTown G) := by
  intro n
  induction n with
  | zero =>
    intro x1 x2 x3 h hq
    cases (show (none : Option (Int32)) = some res from h)
  | succ n ih4 =>
    intro x1 x2 x3 h hq
    have ih4 := fun x1 x2 x3 h9 => ih4 x1 x2 x3 h9 hq
    rw [p_X3_fallBits_b4] at h
    refine JW.r hM 4 3 (pc2 := 9) (L2 := [some (.ref 0), some (.int x1), some (.int x2), some (.int x3)]) (st2 := [.int (G 0 7), .int x3]) (μ2 := (hTown G)) rfl trivial ?_
    refine js_icge (t := 33) hM.1 (jat hM.2.1 7 rfl) rfl (fun hc4 => ?_) (fun hc4 => ?_)
    · have h := (if_pos hc4).symm.trans h
      refine JW.r hM 21 1 (pc2 := 34) (L2 := [some (.ref 0), some (.int x1), some (.int x2), some (.int x3)]) (st2 := [.int x2]) (μ2 := (hTown G)) rfl trivial ?_
      cases h
      exact js_iret hM.1 hp hM.2.2.2.2.2.2.2.1 (by rw [hM.2.2.2.2.2.1]; exact Nat.le_of_ble_eq_true rfl) (by rw [hM.2.2.2.2.2.2.1]; exact Nat.le_of_ble_eq_true rfl) (jat hM.2.1 22 rfl) hq
    · have h := (if_neg hc4).symm.trans h
      refine JW.r hM 8 3 (pc2 := 15) (L2 := [some (.ref 0), some (.int x1), some (.int x2), some (.int x3)]) (st2 := [.int x1, .int x3, .ref 0]) (μ2 := (hTown G)) rfl trivial ?_
      obtain ⟨v2, hv1, h⟩ := jbd h
      refine JW.cV (v := some (.int v2)) hM (m_X3_fallsWith (jVX X) hM.1.2.2.2.2.2.2.2.2.2.1 N G x3 x1 v2 hv1) (sb_Town_Town_0 G) (bi_Town_Town_0 G) rfl rfl rfl kc_X3_134 rfl rfl rfl rfl rfl (jat hM.2.1 11 rfl) (st := []) rfl ?_
      show JW X 0 0 18 [some (.ref 0), some (.int x1), some (.int x2), some (.int x3)] [.int v2] (hTown G)
      refine js_ifeq (t := 27) hM.1 (jat hM.2.1 12 rfl) rfl (fun hc3 => ?_) (fun hc3 => ?_)
      · have h := (if_pos hc3).symm.trans h
        exact t_X3_fallBits_b27 hM hp N G (p_X3_fallBits_b4 N G n) ih4 x1 x2 x3 h hq
      · have h := (if_neg hc3).symm.trans h
        refine JW.r hM 13 6 (pc2 := 27) (L2 := [some (.ref 0), some (.int x1), some (.int (x2 ||| ((1 : Int32) <<< (x3 &&& 31)))), some (.int x3)]) (st2 := []) (μ2 := (hTown G)) rfl trivial ?_
        exact t_X3_fallBits_b27 hM hp N G (p_X3_fallBits_b4 N G n) ih4 x1 (x2 ||| ((1 : Int32) <<< (x3 &&& 31))) x3 h hq
set_option maxHeartbeats 4000000 in
set_option maxRecDepth 100000 in
theorem t_X3_fallBits {X : jX} {po : Option Value → jH → Prop} {px : String → jH → Prop} {sf : Bool} {B9 : Nat} (hM : jMX X kX3_fallBits RX3 tbX3 4 ⟨2, 0, 0, 43⟩ (some .int) 10) (hp : jPost X sf B9 po px) (N : Nat) (G : Nat → Nat → Int32) (p0 : Int32) {res : Int32} (h : p_X3_fallBits N G p0 = some res) (hq : po (some (.int res)) (hTown G)) : JW X 0 0 0 [some (.ref 0), some (.int p0), none, none] [] (hTown G) := by
  unfold p_X3_fallBits at h
  refine JW.r hM 0 4 (pc2 := 4) (L2 := [some (.ref 0), some (.int p0), some (.int (0 : Int32)), some (.int p0)]) (st2 := []) (μ2 := (hTown G)) rfl trivial ?_
  exact t_X3_fallBits_b4 hM hp N G N p0 (0 : Int32) p0 h hq
theorem m_X3_fallBits (V : jV) (hV : V.1.stackTraces = false) (N : Nat) (G : Nat → Nat → Int32) (p0 : Int32) (v : Int32) (h : p_X3_fallBits N G p0 = some v) : jMet V yX3_fallBits (jws yX3_fallBits cX3_fallBits 4 (some .int)) ⟨2, 0, 0, 43⟩ true 1 [.ref 0, .int p0] (hTown G) (fun o ν => o = some (.int v) ∧ ν = (hTown G)) (fun _ _ => False) := by
  refine jmk (tb := tbX3) (C := kX3_fallBits) hV rfl (by decide) tbX3_ok rfl kX3_fallBits_ok rfl ?_
  intro X hM _ hp _
  exact t_X3_fallBits hM hp N G p0 h ⟨rfl, rfl⟩
def p_X3_owedTo_b90 (N : Nat) (G : Nat → Nat → Int32) (rv6 : Int32 → Int32 → Int32 → Int32 → Int32 → Option (Int32)) (x1 : Int32) (x2 : Int32) (x3 : Int32) (x4 : Int32) (x5 : Int32) : Option (Int32) :=
  rv6 x1 x2 x3 x4 (x5 + 1)
def p_X3_owedTo_b87 (N : Nat) (G : Nat → Nat → Int32) (rv6 : Int32 → Int32 → Int32 → Int32 → Int32 → Option (Int32)) (x1 : Int32) (x2 : Int32) (x3 : Int32) (x5 : Int32) (s0 : Int32) (s1 : Int32) : Option (Int32) :=
  p_X3_owedTo_b90 N G rv6 x1 x2 x3 (s1 + s0) x5
def p_X3_owedTo_b57 (N : Nat) (G : Nat → Nat → Int32) (rv6 : Int32 → Int32 → Int32 → Int32 → Int32 → Option (Int32)) (x1 : Int32) (x2 : Int32) (x3 : Int32) (x5 : Int32) (s0 : Int32) (s1 : Int32) : Option (Int32) :=
  if jin x5 30 = true then if (G 6 x5.toNatClampNeg) = x3 then ((p_X3_worthToTaker N G x5).bind (fun v6 => (p_X3_cut N G v6).bind (fun v8 => p_X3_owedTo_b87 N G rv6 x1 x2 x3 x5 v8 (s1 + s0)))) else (p_X3_owedTo_b87 N G rv6 x1 x2 x3 x5 (0 : Int32) (s1 + s0)) else none
def p_X3_owedTo_b6 (N : Nat) (G : Nat → Nat → Int32) : Nat → (Int32) → (Int32) → (Int32) → (Int32) → (Int32) → Option (Int32)
  | 0, _, _, _, _, _ => none
  | n + 1, x1, x2, x3, x4, x5 => if (G 0 7) ≤ x5 then (some x4) else (if x3 = x2 then (some x4) else ((p_X3_fallsWith N G x5 x1).bind (fun v2 => if v2 = 0 then (p_X3_owedTo_b90 N G (p_X3_owedTo_b6 N G n) x1 x2 x3 x4 x5) else (if jin x5 30 = true then if (G 5 x5.toNatClampNeg) = x3 then ((p_X3_worthToGiver N G x5).bind (fun v11 => (p_X3_cut N G v11).bind (fun v13 => p_X3_owedTo_b57 N G (p_X3_owedTo_b6 N G n) x1 x2 x3 x5 v13 x4))) else (p_X3_owedTo_b57 N G (p_X3_owedTo_b6 N G n) x1 x2 x3 x5 (0 : Int32) x4) else none))))
def p_X3_owedTo (N : Nat) (G : Nat → Nat → Int32) (p0 : Int32) (p1 : Int32) (p2 : Int32) : Option (Int32) :=
  p_X3_owedTo_b6 N G N p0 p1 p2 (0 : Int32) p0
set_option maxHeartbeats 4000000 in
set_option maxRecDepth 100000 in
theorem t_X3_owedTo_b90 {X : jX} {po : Option Value → jH → Prop} {px : String → jH → Prop} {sf : Bool} {B9 : Nat} (hM : jMX X kX3_owedTo RX3 tbX3 6 ⟨2, 0, 0, 44⟩ (some .int) 10) (hp : jPost X sf B9 po px) (N : Nat) (G : Nat → Nat → Int32) (rv6 : Int32 → Int32 → Int32 → Int32 → Int32 → Option (Int32)) {res : Int32} (ih6 : ∀ (x1 : Int32) (x2 : Int32) (x3 : Int32) (x4 : Int32) (x5 : Int32), rv6 x1 x2 x3 x4 x5 = some res → JW X 0 0 6 [some (.ref 0), some (.int x1), some (.int x2), some (.int x3), some (.int x4), some (.int x5)] [] (hTown G)) (x1 : Int32) (x2 : Int32) (x3 : Int32) (x4 : Int32) (x5 : Int32) (h : p_X3_owedTo_b90 N G rv6 x1 x2 x3 x4 x5 = some res) (hq : po (some (.int res)) (hTown G)) : JW X 0 0 90 [some (.ref 0), some (.int x1), some (.int x2), some (.int x3), some (.int x4), some (.int x5)] [] (hTown G) := by
  unfold p_X3_owedTo_b90 at h
  refine JW.r hM 48 2 (pc2 := 6) (L2 := [some (.ref 0), some (.int x1), some (.int x2), some (.int x3), some (.int x4), some (.int (x5 + 1))]) (st2 := []) (μ2 := (hTown G)) rfl trivial ?_
  exact ih6 x1 x2 x3 x4 (x5 + 1) h
set_option maxHeartbeats 4000000 in
set_option maxRecDepth 100000 in
theorem t_X3_owedTo_b87 {X : jX} {po : Option Value → jH → Prop} {px : String → jH → Prop} {sf : Bool} {B9 : Nat} (hM : jMX X kX3_owedTo RX3 tbX3 6 ⟨2, 0, 0, 44⟩ (some .int) 10) (hp : jPost X sf B9 po px) (N : Nat) (G : Nat → Nat → Int32) (rv6 : Int32 → Int32 → Int32 → Int32 → Int32 → Option (Int32)) {res : Int32} (ih6 : ∀ (x1 : Int32) (x2 : Int32) (x3 : Int32) (x4 : Int32) (x5 : Int32), rv6 x1 x2 x3 x4 x5 = some res → JW X 0 0 6 [some (.ref 0), some (.int x1), some (.int x2), some (.int x3), some (.int x4), some (.int x5)] [] (hTown G)) (x1 : Int32) (x2 : Int32) (x3 : Int32) (x5 : Int32) (s0 : Int32) (s1 : Int32) (h : p_X3_owedTo_b87 N G rv6 x1 x2 x3 x5 s0 s1 = some res) (hq : po (some (.int res)) (hTown G)) : JW X 0 0 87 [some (.ref 0), some (.int x1), some (.int x2), some (.int x3), none, some (.int x5)] [.int s0, .int s1] (hTown G) := by
  unfold p_X3_owedTo_b87 at h
  refine JW.r hM 46 2 (pc2 := 90) (L2 := [some (.ref 0), some (.int x1), some (.int x2), some (.int x3), some (.int (s1 + s0)), some (.int x5)]) (st2 := []) (μ2 := (hTown G)) rfl trivial ?_
  exact t_X3_owedTo_b90 hM hp N G rv6 ih6 x1 x2 x3 (s1 + s0) x5 h hq
set_option maxHeartbeats 4000000 in
set_option maxRecDepth 100000 in
theorem t_X3_owedTo_b57 {X : jX} {po : Option Value → jH → Prop} {px : String → jH → Prop} {sf : Bool} {B9 : Nat} (hM : jMX X kX3_owedTo RX3 tbX3 6 ⟨2, 0, 0, 44⟩ (some .int) 10) (hp : jPost X sf B9 po px) (N : Nat) (G : Nat → Nat → Int32) (rv6 : Int32 → Int32 → Int32 → Int32 → Int32 → Option (Int32)) {res : Int32} (ih6 : ∀ (x1 : Int32) (x2 : Int32) (x3 : Int32) (x4 : Int32) (x5 : Int32), rv6 x1 x2 x3 x4 x5 = some res → JW X 0 0 6 [some (.ref 0), some (.int x1), some (.int x2), some (.int x3), some (.int x4), some (.int x5)] [] (hTown G)) (x1 : Int32) (x2 : Int32) (x3 : Int32) (x5 : Int32) (s0 : Int32) (s1 : Int32) (h : p_X3_owedTo_b57 N G rv6 x1 x2 x3 x5 s0 s1 = some res) (hq : po (some (.int res)) (hTown G)) : JW X 0 0 57 [some (.ref 0), some (.int x1), some (.int x2), some (.int x3), none, some (.int x5)] [.int s0, .int s1] (hTown G) := by
  unfold p_X3_owedTo_b57 at h
  obtain ⟨g4, h⟩ := jg h
  refine JW.r hM 30 8 (pc2 := 70) (L2 := [some (.ref 0), some (.int x1), some (.int x2), some (.int x3), some (.int (s1 + s0)), some (.int x5)]) (st2 := [.int x3, .int (G 6 x5.toNatClampNeg), .int (s1 + s0)]) (μ2 := (hTown G)) rfl ⟨g4, trivial⟩ ?_
  refine js_icne (t := 86) hM.1 (jat hM.2.1 38 rfl) rfl (fun hc9 => ?_) (fun hc9 => ?_)
  · have h := (if_neg hc9).symm.trans h
    refine JW.r hM 45 1 (pc2 := 87) (L2 := [some (.ref 0), some (.int x1), some (.int x2), some (.int x3), some (.int (s1 + s0)), some (.int x5)]) (st2 := [.int (0 : Int32), .int (s1 + s0)]) (μ2 := (hTown G)) rfl trivial ?_
    exact JW.mask [true, true, true, true, false, true] (t_X3_owedTo_b87 hM hp N G rv6 ih6 x1 x2 x3 x5 (0 : Int32) (s1 + s0) h hq)
  · have h := (if_pos hc9).symm.trans h
    refine JW.r hM 39 3 (pc2 := 77) (L2 := [some (.ref 0), some (.int x1), some (.int x2), some (.int x3), some (.int (s1 + s0)), some (.int x5)]) (st2 := [.int x5, .ref 0, .ref 0, .int (s1 + s0)]) (μ2 := (hTown G)) rfl trivial ?_
    obtain ⟨v6, hv5, h⟩ := jbd h
    refine JW.cV (v := some (.int v6)) hM (m_X3_worthToTaker (jVX X) hM.1.2.2.2.2.2.2.2.2.2.1 N G x5 v6 hv5) (sb_Town_Town_0 G) (bi_Town_Town_0 G) rfl rfl rfl kc_X3_143 rfl rfl rfl rfl rfl (jat hM.2.1 42 rfl) (st := [.ref 0, .int (s1 + s0)]) rfl ?_
    show JW X 0 0 80 [some (.ref 0), some (.int x1), some (.int x2), some (.int x3), some (.int (s1 + s0)), some (.int x5)] [.int v6, .ref 0, .int (s1 + s0)] (hTown G)
    obtain ⟨v8, hv7, h⟩ := jbd h
    refine JW.cV (v := some (.int v8)) hM (m_X3_cut (jVX X) hM.1.2.2.2.2.2.2.2.2.2.1 N G v6 v8 hv7) (sb_Town_Town_0 G) (bi_Town_Town_0 G) rfl rfl rfl kc_X3_140 rfl rfl rfl rfl rfl (jat hM.2.1 43 rfl) (st := [.int (s1 + s0)]) rfl ?_
    show JW X 0 0 83 [some (.ref 0), some (.int x1), some (.int x2), some (.int x3), some (.int (s1 + s0)), some (.int x5)] [.int v8, .int (s1 + s0)] (hTown G)
    refine JW.r hM 44 1 (pc2 := 87) (L2 := [some (.ref 0), some (.int x1), some (.int x2), some (.int x3), some (.int (s1 + s0)), some (.int x5)]) (st2 := [.int v8, .int (s1 + s0)]) (μ2 := (hTown G)) rfl trivial ?_
    exact JW.mask [true, true, true, true, false, true] (t_X3_owedTo_b87 hM hp N G rv6 ih6 x1 x2 x3 x5 v8 (s1 + s0) h hq)
set_option maxHeartbeats 4000000 in
set_option maxRecDepth 100000 in
theorem t_X3_owedTo_b6 {X : jX} {po : Option Value → jH → Prop} {px : String → jH → Prop} {sf : Bool} {B9 : Nat} (hM : jMX X kX3_owedTo RX3 tbX3 6 ⟨2, 0, 0, 44⟩ (some .int) 10) (hp : jPost X sf B9 po px) (N : Nat) (G : Nat → Nat → Int32) {res : Int32} : ∀ (n : Nat) (x1 : Int32) (x2 : Int32) (x3 : Int32) (x4 : Int32) (x5 : Int32) (h : p_X3_owedTo_b6 N G n x1 x2 x3 x4 x5 = some res) (hq : po (some (.int res)) (hTown G)), JW X 0 0 6 [some (.ref 0), some (.int x1), some (.int x2), some (.int x3), some (.int x4), some (.int x5)] [] (hTown G) := by
  intro n
  induction n with
  | zero =>
    intro x1 x2 x3 x4 x5 h hq
    cases (show (none : Option (Int32)) = some res from h)
  | succ n ih6 =>
    intro x1 x2 x3 x4 x5 h hq
    have ih6 := fun x1 x2 x3 x4 x5 h9 => ih6 x1 x2 x3 x4 x5 h9 hq
    rw [p_X3_owedTo_b6] at h
    refine JW.r hM 4 3 (pc2 := 12) (L2 := [some (.ref 0), some (.int x1), some (.int x2), some (.int x3), some (.int x4), some (.int x5)]) (st2 := [.int (G 0 7), .int x5]) (μ2 := (hTown G)) rfl trivial ?_
    refine js_icge (t := 96) hM.1 (jat hM.2.1 7 rfl) rfl (fun hc17 => ?_) (fun hc17 => ?_)
    · have h := (if_pos hc17).symm.trans h
      refine JW.r hM 50 1 (pc2 := 98) (L2 := [some (.ref 0), some (.int x1), some (.int x2), some (.int x3), some (.int x4), some (.int x5)]) (st2 := [.int x4]) (μ2 := (hTown G)) rfl trivial ?_
      cases h
      exact js_iret hM.1 hp hM.2.2.2.2.2.2.2.1 (by rw [hM.2.2.2.2.2.1]; exact Nat.le_of_ble_eq_true rfl) (by rw [hM.2.2.2.2.2.2.1]; exact Nat.le_of_ble_eq_true rfl) (jat hM.2.1 51 rfl) hq
    · have h := (if_neg hc17).symm.trans h
      refine JW.r hM 8 2 (pc2 := 17) (L2 := [some (.ref 0), some (.int x1), some (.int x2), some (.int x3), some (.int x4), some (.int x5)]) (st2 := [.int x2, .int x3]) (μ2 := (hTown G)) rfl trivial ?_
      refine js_iceq (t := 96) hM.1 (jat hM.2.1 10 rfl) rfl (fun hc16 => ?_) (fun hc16 => ?_)
      · have h := (if_pos hc16).symm.trans h
        refine JW.r hM 50 1 (pc2 := 98) (L2 := [some (.ref 0), some (.int x1), some (.int x2), some (.int x3), some (.int x4), some (.int x5)]) (st2 := [.int x4]) (μ2 := (hTown G)) rfl trivial ?_
        cases h
        exact js_iret hM.1 hp hM.2.2.2.2.2.2.2.1 (by rw [hM.2.2.2.2.2.1]; exact Nat.le_of_ble_eq_true rfl) (by rw [hM.2.2.2.2.2.2.1]; exact Nat.le_of_ble_eq_true rfl) (jat hM.2.1 51 rfl) hq
      · have h := (if_neg hc16).symm.trans h
        refine JW.r hM 11 3 (pc2 := 24) (L2 := [some (.ref 0), some (.int x1), some (.int x2), some (.int x3), some (.int x4), some (.int x5)]) (st2 := [.int x1, .int x5, .ref 0]) (μ2 := (hTown G)) rfl trivial ?_
        obtain ⟨v2, hv1, h⟩ := jbd h
        refine JW.cV (v := some (.int v2)) hM (m_X3_fallsWith (jVX X) hM.1.2.2.2.2.2.2.2.2.2.1 N G x5 x1 v2 hv1) (sb_Town_Town_0 G) (bi_Town_Town_0 G) rfl rfl rfl kc_X3_134 rfl rfl rfl rfl rfl (jat hM.2.1 14 rfl) (st := []) rfl ?_
        show JW X 0 0 27 [some (.ref 0), some (.int x1), some (.int x2), some (.int x3), some (.int x4), some (.int x5)] [.int v2] (hTown G)
        refine js_ifeq (t := 90) hM.1 (jat hM.2.1 15 rfl) rfl (fun hc15 => ?_) (fun hc15 => ?_)
        · have h := (if_pos hc15).symm.trans h
          exact t_X3_owedTo_b90 hM hp N G (p_X3_owedTo_b6 N G n) ih6 x1 x2 x3 x4 x5 h hq
        · have h := (if_neg hc15).symm.trans h
          obtain ⟨g3, h⟩ := jg h
          refine JW.r hM 16 6 (pc2 := 40) (L2 := [some (.ref 0), some (.int x1), some (.int x2), some (.int x3), some (.int x4), some (.int x5)]) (st2 := [.int x3, .int (G 5 x5.toNatClampNeg), .int x4]) (μ2 := (hTown G)) rfl ⟨g3, trivial⟩ ?_
          refine js_icne (t := 56) hM.1 (jat hM.2.1 22 rfl) rfl (fun hc14 => ?_) (fun hc14 => ?_)
          · have h := (if_neg hc14).symm.trans h
            refine JW.r hM 29 1 (pc2 := 57) (L2 := [some (.ref 0), some (.int x1), some (.int x2), some (.int x3), some (.int x4), some (.int x5)]) (st2 := [.int (0 : Int32), .int x4]) (μ2 := (hTown G)) rfl trivial ?_
            exact JW.mask [true, true, true, true, false, true] (t_X3_owedTo_b57 hM hp N G (p_X3_owedTo_b6 N G n) ih6 x1 x2 x3 x5 (0 : Int32) x4 h hq)
          · have h := (if_pos hc14).symm.trans h
            refine JW.r hM 23 3 (pc2 := 47) (L2 := [some (.ref 0), some (.int x1), some (.int x2), some (.int x3), some (.int x4), some (.int x5)]) (st2 := [.int x5, .ref 0, .ref 0, .int x4]) (μ2 := (hTown G)) rfl trivial ?_
            obtain ⟨v11, hv10, h⟩ := jbd h
            refine JW.cV (v := some (.int v11)) hM (m_X3_worthToGiver (jVX X) hM.1.2.2.2.2.2.2.2.2.2.1 N G x5 v11 hv10) (sb_Town_Town_0 G) (bi_Town_Town_0 G) rfl rfl rfl kc_X3_137 rfl rfl rfl rfl rfl (jat hM.2.1 26 rfl) (st := [.ref 0, .int x4]) rfl ?_
            show JW X 0 0 50 [some (.ref 0), some (.int x1), some (.int x2), some (.int x3), some (.int x4), some (.int x5)] [.int v11, .ref 0, .int x4] (hTown G)
            obtain ⟨v13, hv12, h⟩ := jbd h
            refine JW.cV (v := some (.int v13)) hM (m_X3_cut (jVX X) hM.1.2.2.2.2.2.2.2.2.2.1 N G v11 v13 hv12) (sb_Town_Town_0 G) (bi_Town_Town_0 G) rfl rfl rfl kc_X3_140 rfl rfl rfl rfl rfl (jat hM.2.1 27 rfl) (st := [.int x4]) rfl ?_
            show JW X 0 0 53 [some (.ref 0), some (.int x1), some (.int x2), some (.int x3), some (.int x4), some (.int x5)] [.int v13, .int x4] (hTown G)
            refine JW.r hM 28 1 (pc2 := 57) (L2 := [some (.ref 0), some (.int x1), some (.int x2), some (.int x3), some (.int x4), some (.int x5)]) (st2 := [.int v13, .int x4]) (μ2 := (hTown G)) rfl trivial ?_
            exact JW.mask [true, true, true, true, false, true] (t_X3_owedTo_b57 hM hp N G (p_X3_owedTo_b6 N G n) ih6 x1 x2 x3 x5 v13 x4 h hq)
set_option maxHeartbeats 4000000 in
set_option maxRecDepth 100000 in
theorem t_X3_owedTo {X : jX} {po : Option Value → jH → Prop} {px : String → jH → Prop} {sf : Bool} {B9 : Nat} (hM : jMX X kX3_owedTo RX3 tbX3 6 ⟨2, 0, 0, 44⟩ (some .int) 10) (hp : jPost X sf B9 po px) (N : Nat) (G : Nat → Nat → Int32) (p0 : Int32) (p1 : Int32) (p2 : Int32) {res : Int32} (h : p_X3_owedTo N G p0 p1 p2 = some res) (hq : po (some (.int res)) (hTown G)) : JW X 0 0 0 [some (.ref 0), some (.int p0), some (.int p1), some (.int p2), none, none] [] (hTown G) := by
  unfold p_X3_owedTo at h
  refine JW.r hM 0 4 (pc2 := 6) (L2 := [some (.ref 0), some (.int p0), some (.int p1), some (.int p2), some (.int (0 : Int32)), some (.int p0)]) (st2 := []) (μ2 := (hTown G)) rfl trivial ?_
  exact t_X3_owedTo_b6 hM hp N G N p0 p1 p2 (0 : Int32) p0 h hq
theorem m_X3_owedTo (V : jV) (hV : V.1.stackTraces = false) (N : Nat) (G : Nat → Nat → Int32) (p0 : Int32) (p1 : Int32) (p2 : Int32) (v : Int32) (h : p_X3_owedTo N G p0 p1 p2 = some v) : jMet V yX3_owedTo (jws yX3_owedTo cX3_owedTo 6 (some .int)) ⟨2, 0, 0, 44⟩ true 1 [.ref 0, .int p0, .int p1, .int p2] (hTown G) (fun o ν => o = some (.int v) ∧ ν = (hTown G)) (fun _ _ => False) := by
  refine jmk (tb := tbX3) (C := kX3_owedTo) hV rfl (by decide) tbX3_ok rfl kX3_owedTo_ok rfl ?_
  intro X hM _ hp _
  exact t_X3_owedTo hM hp N G p0 p1 p2 h ⟨rfl, rfl⟩
def p_X3_fell_b9 (N : Nat) : Nat → (Nat → Nat → Int32) → (Int32) → (Int32) → (Int32) → (Int32) → Option (Int32 × (Nat → Nat → Int32))
  | 0, _, _, _, _, _ => none
  | n + 1, G, x1, x2, x3, x4 => if (G 0 1) ≤ x4 then (if jin x1 30 = true then if jin x1 30 = true then if jin (G 4 x1.toNatClampNeg) 10 = true then jlt (jup G 2 (G 4 x1.toNatClampNeg).toNatClampNeg (G 5 x1.toNatClampNeg)) fun G6 => jlt (jup G6 0 8 ((G6 0 8) &&& (x3 ^^^ (-1 : Int32)))) fun G8 => (p_J6_bitCount_0f7a4 N x3).bind (fun v11 => some (v11, G8)) else none else none else none) else ((p_X3_owedTo N G x1 x2 x4).bind (fun v13 => if jin x4 6 = true then (p_X3_priceChange N G x1 x4).bind (fun v16 => if jin x4 6 = true then jlt (jup G 1 x4.toNatClampNeg ((G 1 x4.toNatClampNeg) + (v16 + v13))) fun G18 => if jin x2 6 = true then if jin x2 6 = true then jlt (jup G18 1 x2.toNatClampNeg ((G18 1 x2.toNatClampNeg) - v13)) fun G22 => (p_X3_fell_b9 N n) G22 x1 x2 x3 (x4 + 1) else none else none else none) else none))
def p_X3_fell (N : Nat) (G : Nat → Nat → Int32) (p0 : Int32) (p1 : Int32) : Option (Int32 × (Nat → Nat → Int32)) :=
  (p_X3_fallBits N G p0).bind (fun v2 => p_X3_fell_b9 N N G p0 p1 v2 (0 : Int32))
set_option maxHeartbeats 4000000 in
set_option maxRecDepth 100000 in
theorem t_X3_fell_b9 {X : jX} {po : Option Value → jH → Prop} {px : String → jH → Prop} {sf : Bool} {B9 : Nat} (hM : jMX X kX3_fell RX3 tbX3 6 ⟨3, 0, 0, 69⟩ (some .int) 10) (hp : jPost X sf B9 po px) (N : Nat) {res : Int32 × (Nat → Nat → Int32)} : ∀ (n : Nat) (G : Nat → Nat → Int32) (x1 : Int32) (x2 : Int32) (x3 : Int32) (x4 : Int32) (h : p_X3_fell_b9 N n G x1 x2 x3 x4 = some res) (hq : po (some (.int res.1)) (hTown res.2)), JW X 0 0 9 [some (.ref 0), some (.int x1), some (.int x2), some (.int x3), some (.int x4), none] [] (hTown G) := by
  intro n
  induction n with
  | zero =>
    intro G x1 x2 x3 x4 h hq
    cases (show (none : Option (Int32 × (Nat → Nat → Int32))) = some res from h)
  | succ n ih9 =>
    intro G x1 x2 x3 x4 h hq
    have ih9 := fun G x1 x2 x3 x4 h9 => ih9 G x1 x2 x3 x4 h9 hq
    rw [p_X3_fell_b9] at h
    refine JW.r hM 6 3 (pc2 := 15) (L2 := [some (.ref 0), some (.int x1), some (.int x2), some (.int x3), some (.int x4), none]) (st2 := [.int (G 0 1), .int x4]) (μ2 := (hTown G)) rfl trivial ?_
    refine js_icge (t := 65) hM.1 (jat hM.2.1 9 rfl) rfl (fun hc24 => ?_) (fun hc24 => ?_)
    · have h := (if_pos hc24).symm.trans h
      obtain ⟨g3, h⟩ := jg h
      obtain ⟨g4, h⟩ := jg h
      obtain ⟨g5, h⟩ := jg h
      obtain ⟨G6, e7, h⟩ := jlE h
      refine JW.r hM 39 11 (pc2 := 82) (L2 := [some (.ref 0), some (.int x1), some (.int x2), some (.int x3), some (.int x4), none]) (st2 := []) (μ2 := (hTown (jup G 2 (G 4 x1.toNatClampNeg).toNatClampNeg (G 5 x1.toNatClampNeg)))) rfl ⟨g3, g4, g5, trivial⟩ ?_
      rw [e7]
      obtain ⟨G8, e9, h⟩ := jlE h
      refine JW.r hM 50 8 (pc2 := 94) (L2 := [some (.ref 0), some (.int x1), some (.int x2), some (.int x3), some (.int x4), none]) (st2 := []) (μ2 := (hTown (jup G6 0 8 ((G6 0 8) &&& (x3 ^^^ (-1 : Int32)))))) rfl trivial ?_
      rw [e9]
      refine JW.r hM 58 1 (pc2 := 95) (L2 := [some (.ref 0), some (.int x1), some (.int x2), some (.int x3), some (.int x4), none]) (st2 := [.int x3]) (μ2 := (hTown G8)) rfl trivial ?_
      obtain ⟨v11, hv10, h⟩ := jbd h
      refine JW.cS (v := some (.int v11)) hM (m_J6_bitCount_0f7a4 (jVX X) hM.1.2.2.2.2.2.2.2.2.2.1 N x3 v11 hv10) (sb_Town_E_ G8) (bi_Town_E_ G8) rfl rfl rfl kc_X3_129 rfl rfl rfl (jat hM.2.1 59 rfl) (st := []) rfl ?_
      show JW X 0 0 98 [some (.ref 0), some (.int x1), some (.int x2), some (.int x3), some (.int x4), none] [.int v11] (hTown G8)
      cases h
      exact js_iret hM.1 hp hM.2.2.2.2.2.2.2.1 (by rw [hM.2.2.2.2.2.1]; exact Nat.le_of_ble_eq_true rfl) (by rw [hM.2.2.2.2.2.2.1]; exact Nat.le_of_ble_eq_true rfl) (jat hM.2.1 60 rfl) hq
    · have h := (if_neg hc24).symm.trans h
      refine JW.r hM 10 4 (pc2 := 23) (L2 := [some (.ref 0), some (.int x1), some (.int x2), some (.int x3), some (.int x4), none]) (st2 := [.int x4, .int x2, .int x1, .ref 0]) (μ2 := (hTown G)) rfl trivial ?_
      obtain ⟨v13, hv12, h⟩ := jbd h
      refine JW.cV (v := some (.int v13)) hM (m_X3_owedTo (jVX X) hM.1.2.2.2.2.2.2.2.2.2.1 N G x1 x2 x4 v13 hv12) (sb_Town_Town_0 G) (bi_Town_Town_0 G) rfl rfl rfl kc_X3_125 rfl rfl rfl rfl rfl (jat hM.2.1 14 rfl) (st := []) rfl ?_
      show JW X 0 0 26 [some (.ref 0), some (.int x1), some (.int x2), some (.int x3), some (.int x4), none] [.int v13] (hTown G)
      obtain ⟨g14, h⟩ := jg h
      refine JW.r hM 15 9 (pc2 := 40) (L2 := [some (.ref 0), some (.int x1), some (.int x2), some (.int x3), some (.int x4), some (.int v13)]) (st2 := [.int x4, .int x1, .ref 0, .int (G 1 x4.toNatClampNeg), .int x4, .ref 1]) (μ2 := (hTown G)) rfl ⟨g14, trivial⟩ ?_
      obtain ⟨v16, hv15, h⟩ := jbd h
      refine JW.cV (v := some (.int v16)) hM (m_X3_priceChange (jVX X) hM.1.2.2.2.2.2.2.2.2.2.1 N G x1 x4 v16 hv15) (sb_Town_Town_0 G) (bi_Town_Town_0 G) rfl rfl rfl kc_X3_116 rfl rfl rfl rfl rfl (jat hM.2.1 24 rfl) (st := [.int (G 1 x4.toNatClampNeg), .int x4, .ref 1]) rfl ?_
      show JW X 0 0 43 [some (.ref 0), some (.int x1), some (.int x2), some (.int x3), some (.int x4), some (.int v13)] [.int v16, .int (G 1 x4.toNatClampNeg), .int x4, .ref 1] (hTown G)
      obtain ⟨g17, h⟩ := jg h
      obtain ⟨G18, e19, h⟩ := jlE h
      refine JW.r hM 25 4 (pc2 := 48) (L2 := [some (.ref 0), some (.int x1), some (.int x2), some (.int x3), some (.int x4), some (.int v13)]) (st2 := []) (μ2 := (hTown (jup G 1 x4.toNatClampNeg ((G 1 x4.toNatClampNeg) + (v16 + v13))))) rfl ⟨g17, trivial⟩ ?_
      rw [e19]
      obtain ⟨g20, h⟩ := jg h
      obtain ⟨g21, h⟩ := jg h
      obtain ⟨G22, e23, h⟩ := jlE h
      refine JW.r hM 29 8 (pc2 := 59) (L2 := [some (.ref 0), some (.int x1), some (.int x2), some (.int x3), some (.int x4), some (.int v13)]) (st2 := []) (μ2 := (hTown (jup G18 1 x2.toNatClampNeg ((G18 1 x2.toNatClampNeg) - v13)))) rfl ⟨g20, g21, trivial⟩ ?_
      rw [e23]
      refine JW.r hM 37 2 (pc2 := 9) (L2 := [some (.ref 0), some (.int x1), some (.int x2), some (.int x3), some (.int (x4 + 1)), some (.int v13)]) (st2 := []) (μ2 := (hTown G22)) rfl trivial ?_
      exact JW.mask [true, true, true, true, true, false] (ih9 G22 x1 x2 x3 (x4 + 1) h)
set_option maxHeartbeats 4000000 in
set_option maxRecDepth 100000 in
theorem t_X3_fell {X : jX} {po : Option Value → jH → Prop} {px : String → jH → Prop} {sf : Bool} {B9 : Nat} (hM : jMX X kX3_fell RX3 tbX3 6 ⟨3, 0, 0, 69⟩ (some .int) 10) (hp : jPost X sf B9 po px) (N : Nat) (G : Nat → Nat → Int32) (p0 : Int32) (p1 : Int32) {res : Int32 × (Nat → Nat → Int32)} (h : p_X3_fell N G p0 p1 = some res) (hq : po (some (.int res.1)) (hTown res.2)) : JW X 0 0 0 [some (.ref 0), some (.int p0), some (.int p1), none, none, none] [] (hTown G) := by
  unfold p_X3_fell at h
  refine JW.r hM 0 2 (pc2 := 2) (L2 := [some (.ref 0), some (.int p0), some (.int p1), none, none, none]) (st2 := [.int p0, .ref 0]) (μ2 := (hTown G)) rfl trivial ?_
  obtain ⟨v2, hv1, h⟩ := jbd h
  refine JW.cV (v := some (.int v2)) hM (m_X3_fallBits (jVX X) hM.1.2.2.2.2.2.2.2.2.2.1 N G p0 v2 hv1) (sb_Town_Town_0 G) (bi_Town_Town_0 G) rfl rfl rfl kc_X3_122 rfl rfl rfl rfl rfl (jat hM.2.1 2 rfl) (st := []) rfl ?_
  show JW X 0 0 5 [some (.ref 0), some (.int p0), some (.int p1), none, none, none] [.int v2] (hTown G)
  refine JW.r hM 3 3 (pc2 := 9) (L2 := [some (.ref 0), some (.int p0), some (.int p1), some (.int v2), some (.int (0 : Int32)), none]) (st2 := []) (μ2 := (hTown G)) rfl trivial ?_
  exact t_X3_fell_b9 hM hp N N G p0 p1 v2 (0 : Int32) h hq
theorem m_X3_fell (V : jV) (hV : V.1.stackTraces = false) (N : Nat) (G : Nat → Nat → Int32) (p0 : Int32) (p1 : Int32) (v : Int32 × (Nat → Nat → Int32)) (h : p_X3_fell N G p0 p1 = some v) : jMet V yX3_fell (jws yX3_fell cX3_fell 6 (some .int)) ⟨3, 0, 0, 69⟩ true 1 [.ref 0, .int p0, .int p1] (hTown G) (fun o ν => o = some (.int v.1) ∧ ν = (hTown v.2)) (fun _ _ => False) := by
  refine jmk (tb := tbX3) (C := kX3_fell) hV rfl (by decide) tbX3_ok rfl kX3_fell_ok rfl ?_
  intro X hM _ hp _
  exact t_X3_fell hM hp N G p0 p1 h ⟨rfl, rfl⟩
def p_X3_partOfUndoer_b43 (N : Nat) (G : Nat → Nat → Int32) (x1 : Int32) (x2 : Int32) (x3 : Int32) (s0 : Int32) : Option (Int32) :=
  if jin x1 30 = true then if (G 6 x1.toNatClampNeg) = x2 then (if jin x1 30 = true then (p_X3_worthTo N G x3 x2).bind (fun v14 => some (s0 + ((G 7 x1.toNatClampNeg) - v14))) else none) else ((p_X3_worthToTaker N G x1).bind (fun v9 => (p_X3_cut N G v9).bind (fun v11 => some (s0 + (-v11))))) else none
def p_X3_partOfUndoer (N : Nat) (G : Nat → Nat → Int32) (p0 : Int32) (p1 : Int32) : Option (Int32) :=
  if jin p0 30 = true then if jin p0 30 = true then if (G 5 p0.toNatClampNeg) = p1 then ((p_X3_worthTo N G (G 4 p0.toNatClampNeg) p1).bind (fun v17 => if jin p0 30 = true then p_X3_partOfUndoer_b43 N G p0 p1 (G 4 p0.toNatClampNeg) (v17 - (G 7 p0.toNatClampNeg)) else none)) else ((p_X3_worthToGiver N G p0).bind (fun v4 => (p_X3_cut N G v4).bind (fun v6 => p_X3_partOfUndoer_b43 N G p0 p1 (G 4 p0.toNatClampNeg) (-v6)))) else none else none
set_option maxHeartbeats 4000000 in
set_option maxRecDepth 100000 in
theorem t_X3_partOfUndoer_b43 {X : jX} {po : Option Value → jH → Prop} {px : String → jH → Prop} {sf : Bool} {B9 : Nat} (hM : jMX X kX3_partOfUndoer RX3 tbX3 6 ⟨2, 0, 0, 44⟩ (some .int) 10) (hp : jPost X sf B9 po px) (N : Nat) (G : Nat → Nat → Int32) {res : Int32} (x1 : Int32) (x2 : Int32) (x3 : Int32) (s0 : Int32) (h : p_X3_partOfUndoer_b43 N G x1 x2 x3 s0 = some res) (hq : po (some (.int res)) (hTown G)) : JW X 0 0 43 [some (.ref 0), some (.int x1), some (.int x2), some (.int x3), none, none] [.int s0] (hTown G) := by
  unfold p_X3_partOfUndoer_b43 at h
  obtain ⟨g7, h⟩ := jg h
  refine JW.r hM 27 6 (pc2 := 52) (L2 := [some (.ref 0), some (.int x1), some (.int x2), some (.int x3), some (.int s0), none]) (st2 := [.int x2, .int (G 6 x1.toNatClampNeg)]) (μ2 := (hTown G)) rfl ⟨g7, trivial⟩ ?_
  refine js_icne (t := 71) hM.1 (jat hM.2.1 33 rfl) rfl (fun hc15 => ?_) (fun hc15 => ?_)
  · have h := (if_neg hc15).symm.trans h
    refine JW.r hM 44 3 (pc2 := 74) (L2 := [some (.ref 0), some (.int x1), some (.int x2), some (.int x3), some (.int s0), none]) (st2 := [.int x1, .ref 0, .ref 0]) (μ2 := (hTown G)) rfl trivial ?_
    obtain ⟨v9, hv8, h⟩ := jbd h
    refine JW.cV (v := some (.int v9)) hM (m_X3_worthToTaker (jVX X) hM.1.2.2.2.2.2.2.2.2.2.1 N G x1 v9 hv8) (sb_Town_Town_0 G) (bi_Town_Town_0 G) rfl rfl rfl kc_X3_143 rfl rfl rfl rfl rfl (jat hM.2.1 47 rfl) (st := [.ref 0]) rfl ?_
    show JW X 0 0 77 [some (.ref 0), some (.int x1), some (.int x2), some (.int x3), some (.int s0), none] [.int v9, .ref 0] (hTown G)
    obtain ⟨v11, hv10, h⟩ := jbd h
    refine JW.cV (v := some (.int v11)) hM (m_X3_cut (jVX X) hM.1.2.2.2.2.2.2.2.2.2.1 N G v9 v11 hv10) (sb_Town_Town_0 G) (bi_Town_Town_0 G) rfl rfl rfl kc_X3_140 rfl rfl rfl rfl rfl (jat hM.2.1 48 rfl) (st := []) rfl ?_
    show JW X 0 0 80 [some (.ref 0), some (.int x1), some (.int x2), some (.int x3), some (.int s0), none] [.int v11] (hTown G)
    refine JW.r hM 49 5 (pc2 := 88) (L2 := [some (.ref 0), some (.int x1), some (.int x2), some (.int x3), some (.int s0), some (.int (-v11))]) (st2 := [.int (s0 + (-v11))]) (μ2 := (hTown G)) rfl trivial ?_
    cases h
    exact js_iret hM.1 hp hM.2.2.2.2.2.2.2.1 (by rw [hM.2.2.2.2.2.1]; exact Nat.le_of_ble_eq_true rfl) (by rw [hM.2.2.2.2.2.2.1]; exact Nat.le_of_ble_eq_true rfl) (jat hM.2.1 54 rfl) hq
  · have h := (if_pos hc15).symm.trans h
    obtain ⟨g12, h⟩ := jg h
    refine JW.r hM 34 7 (pc2 := 64) (L2 := [some (.ref 0), some (.int x1), some (.int x2), some (.int x3), some (.int s0), none]) (st2 := [.int x2, .int x3, .ref 0, .int (G 7 x1.toNatClampNeg)]) (μ2 := (hTown G)) rfl ⟨g12, trivial⟩ ?_
    obtain ⟨v14, hv13, h⟩ := jbd h
    refine JW.cV (v := some (.int v14)) hM (m_X3_worthTo (jVX X) hM.1.2.2.2.2.2.2.2.2.2.1 N G x3 x2 v14 hv13) (sb_Town_Town_0 G) (bi_Town_Town_0 G) rfl rfl rfl kc_X3_90 rfl rfl rfl rfl rfl (jat hM.2.1 41 rfl) (st := [.int (G 7 x1.toNatClampNeg)]) rfl ?_
    show JW X 0 0 67 [some (.ref 0), some (.int x1), some (.int x2), some (.int x3), some (.int s0), none] [.int v14, .int (G 7 x1.toNatClampNeg)] (hTown G)
    refine JW.r hM 42 2 (pc2 := 81) (L2 := [some (.ref 0), some (.int x1), some (.int x2), some (.int x3), some (.int s0), none]) (st2 := [.int ((G 7 x1.toNatClampNeg) - v14)]) (μ2 := (hTown G)) rfl trivial ?_
    refine JW.r hM 50 4 (pc2 := 88) (L2 := [some (.ref 0), some (.int x1), some (.int x2), some (.int x3), some (.int s0), some (.int ((G 7 x1.toNatClampNeg) - v14))]) (st2 := [.int (s0 + ((G 7 x1.toNatClampNeg) - v14))]) (μ2 := (hTown G)) rfl trivial ?_
    cases h
    exact js_iret hM.1 hp hM.2.2.2.2.2.2.2.1 (by rw [hM.2.2.2.2.2.1]; exact Nat.le_of_ble_eq_true rfl) (by rw [hM.2.2.2.2.2.2.1]; exact Nat.le_of_ble_eq_true rfl) (jat hM.2.1 54 rfl) hq
set_option maxHeartbeats 4000000 in
set_option maxRecDepth 100000 in
theorem t_X3_partOfUndoer {X : jX} {po : Option Value → jH → Prop} {px : String → jH → Prop} {sf : Bool} {B9 : Nat} (hM : jMX X kX3_partOfUndoer RX3 tbX3 6 ⟨2, 0, 0, 44⟩ (some .int) 10) (hp : jPost X sf B9 po px) (N : Nat) (G : Nat → Nat → Int32) (p0 : Int32) (p1 : Int32) {res : Int32} (h : p_X3_partOfUndoer N G p0 p1 = some res) (hq : po (some (.int res)) (hTown G)) : JW X 0 0 0 [some (.ref 0), some (.int p0), some (.int p1), none, none, none] [] (hTown G) := by
  unfold p_X3_partOfUndoer at h
  obtain ⟨g1, h⟩ := jg h
  obtain ⟨g2, h⟩ := jg h
  refine JW.r hM 0 10 (pc2 := 14) (L2 := [some (.ref 0), some (.int p0), some (.int p1), some (.int (G 4 p0.toNatClampNeg)), none, none]) (st2 := [.int p1, .int (G 5 p0.toNatClampNeg)]) (μ2 := (hTown G)) rfl ⟨g1, g2, trivial⟩ ?_
  refine js_icne (t := 33) hM.1 (jat hM.2.1 10 rfl) rfl (fun hc19 => ?_) (fun hc19 => ?_)
  · have h := (if_neg hc19).symm.trans h
    refine JW.r hM 21 3 (pc2 := 36) (L2 := [some (.ref 0), some (.int p0), some (.int p1), some (.int (G 4 p0.toNatClampNeg)), none, none]) (st2 := [.int p0, .ref 0, .ref 0]) (μ2 := (hTown G)) rfl trivial ?_
    obtain ⟨v4, hv3, h⟩ := jbd h
    refine JW.cV (v := some (.int v4)) hM (m_X3_worthToGiver (jVX X) hM.1.2.2.2.2.2.2.2.2.2.1 N G p0 v4 hv3) (sb_Town_Town_0 G) (bi_Town_Town_0 G) rfl rfl rfl kc_X3_137 rfl rfl rfl rfl rfl (jat hM.2.1 24 rfl) (st := [.ref 0]) rfl ?_
    show JW X 0 0 39 [some (.ref 0), some (.int p0), some (.int p1), some (.int (G 4 p0.toNatClampNeg)), none, none] [.int v4, .ref 0] (hTown G)
    obtain ⟨v6, hv5, h⟩ := jbd h
    refine JW.cV (v := some (.int v6)) hM (m_X3_cut (jVX X) hM.1.2.2.2.2.2.2.2.2.2.1 N G v4 v6 hv5) (sb_Town_Town_0 G) (bi_Town_Town_0 G) rfl rfl rfl kc_X3_140 rfl rfl rfl rfl rfl (jat hM.2.1 25 rfl) (st := []) rfl ?_
    show JW X 0 0 42 [some (.ref 0), some (.int p0), some (.int p1), some (.int (G 4 p0.toNatClampNeg)), none, none] [.int v6] (hTown G)
    refine JW.r hM 26 1 (pc2 := 43) (L2 := [some (.ref 0), some (.int p0), some (.int p1), some (.int (G 4 p0.toNatClampNeg)), none, none]) (st2 := [.int (-v6)]) (μ2 := (hTown G)) rfl trivial ?_
    exact t_X3_partOfUndoer_b43 hM hp N G p0 p1 (G 4 p0.toNatClampNeg) (-v6) h hq
  · have h := (if_pos hc19).symm.trans h
    refine JW.r hM 11 3 (pc2 := 20) (L2 := [some (.ref 0), some (.int p0), some (.int p1), some (.int (G 4 p0.toNatClampNeg)), none, none]) (st2 := [.int p1, .int (G 4 p0.toNatClampNeg), .ref 0]) (μ2 := (hTown G)) rfl trivial ?_
    obtain ⟨v17, hv16, h⟩ := jbd h
    refine JW.cV (v := some (.int v17)) hM (m_X3_worthTo (jVX X) hM.1.2.2.2.2.2.2.2.2.2.1 N G (G 4 p0.toNatClampNeg) p1 v17 hv16) (sb_Town_Town_0 G) (bi_Town_Town_0 G) rfl rfl rfl kc_X3_90 rfl rfl rfl rfl rfl (jat hM.2.1 14 rfl) (st := []) rfl ?_
    show JW X 0 0 23 [some (.ref 0), some (.int p0), some (.int p1), some (.int (G 4 p0.toNatClampNeg)), none, none] [.int v17] (hTown G)
    obtain ⟨g18, h⟩ := jg h
    refine JW.r hM 15 6 (pc2 := 43) (L2 := [some (.ref 0), some (.int p0), some (.int p1), some (.int (G 4 p0.toNatClampNeg)), none, none]) (st2 := [.int (v17 - (G 7 p0.toNatClampNeg))]) (μ2 := (hTown G)) rfl ⟨g18, trivial⟩ ?_
    exact t_X3_partOfUndoer_b43 hM hp N G p0 p1 (G 4 p0.toNatClampNeg) (v17 - (G 7 p0.toNatClampNeg)) h hq
theorem m_X3_partOfUndoer (V : jV) (hV : V.1.stackTraces = false) (N : Nat) (G : Nat → Nat → Int32) (p0 : Int32) (p1 : Int32) (v : Int32) (h : p_X3_partOfUndoer N G p0 p1 = some v) : jMet V yX3_partOfUndoer (jws yX3_partOfUndoer cX3_partOfUndoer 6 (some .int)) ⟨2, 0, 0, 44⟩ true 1 [.ref 0, .int p0, .int p1] (hTown G) (fun o ν => o = some (.int v) ∧ ν = (hTown G)) (fun _ _ => False) := by
  refine jmk (tb := tbX3) (C := kX3_partOfUndoer) hV rfl (by decide) tbX3_ok rfl kX3_partOfUndoer_ok rfl ?_
  intro X hM _ hp _
  exact t_X3_partOfUndoer hM hp N G p0 p1 h ⟨rfl, rfl⟩
def p_X3_partOfOther_b44 (N : Nat) (G : Nat → Nat → Int32) (x1 : Int32) (x2 : Int32) (x3 : Int32) (s0 : Int32) : Option (Int32) :=
  if jin x1 30 = true then if (G 6 x1.toNatClampNeg) = x2 then (if jin x1 30 = true then (p_X3_worthTo N G x3 x2).bind (fun v6 => (p_X3_worthToTaker N G x1).bind (fun v8 => (p_X3_cut N G v8).bind (fun v10 => some (s0 + (((G 7 x1.toNatClampNeg) - v6) + v10))))) else none) else (some (s0 + (0 : Int32))) else none
def p_X3_partOfOther (N : Nat) (G : Nat → Nat → Int32) (p0 : Int32) (p1 : Int32) : Option (Int32) :=
  if jin p0 30 = true then if jin p0 30 = true then if (G 5 p0.toNatClampNeg) = p1 then ((p_X3_worthTo N G (G 4 p0.toNatClampNeg) p1).bind (fun v13 => if jin p0 30 = true then (p_X3_worthToGiver N G p0).bind (fun v16 => (p_X3_cut N G v16).bind (fun v18 => p_X3_partOfOther_b44 N G p0 p1 (G 4 p0.toNatClampNeg) ((v13 - (G 7 p0.toNatClampNeg)) + v18))) else none)) else (p_X3_partOfOther_b44 N G p0 p1 (G 4 p0.toNatClampNeg) (0 : Int32)) else none else none
set_option maxHeartbeats 4000000 in
set_option maxRecDepth 100000 in
theorem t_X3_partOfOther_b44 {X : jX} {po : Option Value → jH → Prop} {px : String → jH → Prop} {sf : Bool} {B9 : Nat} (hM : jMX X kX3_partOfOther RX3 tbX3 6 ⟨2, 0, 0, 44⟩ (some .int) 10) (hp : jPost X sf B9 po px) (N : Nat) (G : Nat → Nat → Int32) {res : Int32} (x1 : Int32) (x2 : Int32) (x3 : Int32) (s0 : Int32) (h : p_X3_partOfOther_b44 N G x1 x2 x3 s0 = some res) (hq : po (some (.int res)) (hTown G)) : JW X 0 0 44 [some (.ref 0), some (.int x1), some (.int x2), some (.int x3), none, none] [.int s0] (hTown G) := by
  unfold p_X3_partOfOther_b44 at h
  obtain ⟨g3, h⟩ := jg h
  refine JW.r hM 28 6 (pc2 := 53) (L2 := [some (.ref 0), some (.int x1), some (.int x2), some (.int x3), some (.int s0), none]) (st2 := [.int x2, .int (G 6 x1.toNatClampNeg)]) (μ2 := (hTown G)) rfl ⟨g3, trivial⟩ ?_
  refine js_icne (t := 82) hM.1 (jat hM.2.1 34 rfl) rfl (fun hc11 => ?_) (fun hc11 => ?_)
  · have h := (if_neg hc11).symm.trans h
    refine JW.r hM 51 5 (pc2 := 90) (L2 := [some (.ref 0), some (.int x1), some (.int x2), some (.int x3), some (.int s0), some (.int (0 : Int32))]) (st2 := [.int (s0 + (0 : Int32))]) (μ2 := (hTown G)) rfl trivial ?_
    cases h
    exact js_iret hM.1 hp hM.2.2.2.2.2.2.2.1 (by rw [hM.2.2.2.2.2.1]; exact Nat.le_of_ble_eq_true rfl) (by rw [hM.2.2.2.2.2.2.1]; exact Nat.le_of_ble_eq_true rfl) (jat hM.2.1 56 rfl) hq
  · have h := (if_pos hc11).symm.trans h
    obtain ⟨g4, h⟩ := jg h
    refine JW.r hM 35 7 (pc2 := 65) (L2 := [some (.ref 0), some (.int x1), some (.int x2), some (.int x3), some (.int s0), none]) (st2 := [.int x2, .int x3, .ref 0, .int (G 7 x1.toNatClampNeg)]) (μ2 := (hTown G)) rfl ⟨g4, trivial⟩ ?_
    obtain ⟨v6, hv5, h⟩ := jbd h
    refine JW.cV (v := some (.int v6)) hM (m_X3_worthTo (jVX X) hM.1.2.2.2.2.2.2.2.2.2.1 N G x3 x2 v6 hv5) (sb_Town_Town_0 G) (bi_Town_Town_0 G) rfl rfl rfl kc_X3_90 rfl rfl rfl rfl rfl (jat hM.2.1 42 rfl) (st := [.int (G 7 x1.toNatClampNeg)]) rfl ?_
    show JW X 0 0 68 [some (.ref 0), some (.int x1), some (.int x2), some (.int x3), some (.int s0), none] [.int v6, .int (G 7 x1.toNatClampNeg)] (hTown G)
    refine JW.r hM 43 4 (pc2 := 72) (L2 := [some (.ref 0), some (.int x1), some (.int x2), some (.int x3), some (.int s0), none]) (st2 := [.int x1, .ref 0, .ref 0, .int ((G 7 x1.toNatClampNeg) - v6)]) (μ2 := (hTown G)) rfl trivial ?_
    obtain ⟨v8, hv7, h⟩ := jbd h
    refine JW.cV (v := some (.int v8)) hM (m_X3_worthToTaker (jVX X) hM.1.2.2.2.2.2.2.2.2.2.1 N G x1 v8 hv7) (sb_Town_Town_0 G) (bi_Town_Town_0 G) rfl rfl rfl kc_X3_143 rfl rfl rfl rfl rfl (jat hM.2.1 47 rfl) (st := [.ref 0, .int ((G 7 x1.toNatClampNeg) - v6)]) rfl ?_
    show JW X 0 0 75 [some (.ref 0), some (.int x1), some (.int x2), some (.int x3), some (.int s0), none] [.int v8, .ref 0, .int ((G 7 x1.toNatClampNeg) - v6)] (hTown G)
    obtain ⟨v10, hv9, h⟩ := jbd h
    refine JW.cV (v := some (.int v10)) hM (m_X3_cut (jVX X) hM.1.2.2.2.2.2.2.2.2.2.1 N G v8 v10 hv9) (sb_Town_Town_0 G) (bi_Town_Town_0 G) rfl rfl rfl kc_X3_140 rfl rfl rfl rfl rfl (jat hM.2.1 48 rfl) (st := [.int ((G 7 x1.toNatClampNeg) - v6)]) rfl ?_
    show JW X 0 0 78 [some (.ref 0), some (.int x1), some (.int x2), some (.int x3), some (.int s0), none] [.int v10, .int ((G 7 x1.toNatClampNeg) - v6)] (hTown G)
    refine JW.r hM 49 2 (pc2 := 83) (L2 := [some (.ref 0), some (.int x1), some (.int x2), some (.int x3), some (.int s0), none]) (st2 := [.int (((G 7 x1.toNatClampNeg) - v6) + v10)]) (μ2 := (hTown G)) rfl trivial ?_
    refine JW.r hM 52 4 (pc2 := 90) (L2 := [some (.ref 0), some (.int x1), some (.int x2), some (.int x3), some (.int s0), some (.int (((G 7 x1.toNatClampNeg) - v6) + v10))]) (st2 := [.int (s0 + (((G 7 x1.toNatClampNeg) - v6) + v10))]) (μ2 := (hTown G)) rfl trivial ?_
    cases h
    exact js_iret hM.1 hp hM.2.2.2.2.2.2.2.1 (by rw [hM.2.2.2.2.2.1]; exact Nat.le_of_ble_eq_true rfl) (by rw [hM.2.2.2.2.2.2.1]; exact Nat.le_of_ble_eq_true rfl) (jat hM.2.1 56 rfl) hq
set_option maxHeartbeats 4000000 in
set_option maxRecDepth 100000 in
theorem t_X3_partOfOther {X : jX} {po : Option Value → jH → Prop} {px : String → jH → Prop} {sf : Bool} {B9 : Nat} (hM : jMX X kX3_partOfOther RX3 tbX3 6 ⟨2, 0, 0, 44⟩ (some .int) 10) (hp : jPost X sf B9 po px) (N : Nat) (G : Nat → Nat → Int32) (p0 : Int32) (p1 : Int32) {res : Int32} (h : p_X3_partOfOther N G p0 p1 = some res) (hq : po (some (.int res)) (hTown G)) : JW X 0 0 0 [some (.ref 0), some (.int p0), some (.int p1), none, none, none] [] (hTown G) := by
  unfold p_X3_partOfOther at h
  obtain ⟨g1, h⟩ := jg h
  obtain ⟨g2, h⟩ := jg h
  refine JW.r hM 0 10 (pc2 := 14) (L2 := [some (.ref 0), some (.int p0), some (.int p1), some (.int (G 4 p0.toNatClampNeg)), none, none]) (st2 := [.int p1, .int (G 5 p0.toNatClampNeg)]) (μ2 := (hTown G)) rfl ⟨g1, g2, trivial⟩ ?_
  refine js_icne (t := 43) hM.1 (jat hM.2.1 10 rfl) rfl (fun hc19 => ?_) (fun hc19 => ?_)
  · have h := (if_neg hc19).symm.trans h
    refine JW.r hM 27 1 (pc2 := 44) (L2 := [some (.ref 0), some (.int p0), some (.int p1), some (.int (G 4 p0.toNatClampNeg)), none, none]) (st2 := [.int (0 : Int32)]) (μ2 := (hTown G)) rfl trivial ?_
    exact t_X3_partOfOther_b44 hM hp N G p0 p1 (G 4 p0.toNatClampNeg) (0 : Int32) h hq
  · have h := (if_pos hc19).symm.trans h
    refine JW.r hM 11 3 (pc2 := 20) (L2 := [some (.ref 0), some (.int p0), some (.int p1), some (.int (G 4 p0.toNatClampNeg)), none, none]) (st2 := [.int p1, .int (G 4 p0.toNatClampNeg), .ref 0]) (μ2 := (hTown G)) rfl trivial ?_
    obtain ⟨v13, hv12, h⟩ := jbd h
    refine JW.cV (v := some (.int v13)) hM (m_X3_worthTo (jVX X) hM.1.2.2.2.2.2.2.2.2.2.1 N G (G 4 p0.toNatClampNeg) p1 v13 hv12) (sb_Town_Town_0 G) (bi_Town_Town_0 G) rfl rfl rfl kc_X3_90 rfl rfl rfl rfl rfl (jat hM.2.1 14 rfl) (st := []) rfl ?_
    show JW X 0 0 23 [some (.ref 0), some (.int p0), some (.int p1), some (.int (G 4 p0.toNatClampNeg)), none, none] [.int v13] (hTown G)
    obtain ⟨g14, h⟩ := jg h
    refine JW.r hM 15 8 (pc2 := 33) (L2 := [some (.ref 0), some (.int p0), some (.int p1), some (.int (G 4 p0.toNatClampNeg)), none, none]) (st2 := [.int p0, .ref 0, .ref 0, .int (v13 - (G 7 p0.toNatClampNeg))]) (μ2 := (hTown G)) rfl ⟨g14, trivial⟩ ?_
    obtain ⟨v16, hv15, h⟩ := jbd h
    refine JW.cV (v := some (.int v16)) hM (m_X3_worthToGiver (jVX X) hM.1.2.2.2.2.2.2.2.2.2.1 N G p0 v16 hv15) (sb_Town_Town_0 G) (bi_Town_Town_0 G) rfl rfl rfl kc_X3_137 rfl rfl rfl rfl rfl (jat hM.2.1 23 rfl) (st := [.ref 0, .int (v13 - (G 7 p0.toNatClampNeg))]) rfl ?_
    show JW X 0 0 36 [some (.ref 0), some (.int p0), some (.int p1), some (.int (G 4 p0.toNatClampNeg)), none, none] [.int v16, .ref 0, .int (v13 - (G 7 p0.toNatClampNeg))] (hTown G)
    obtain ⟨v18, hv17, h⟩ := jbd h
    refine JW.cV (v := some (.int v18)) hM (m_X3_cut (jVX X) hM.1.2.2.2.2.2.2.2.2.2.1 N G v16 v18 hv17) (sb_Town_Town_0 G) (bi_Town_Town_0 G) rfl rfl rfl kc_X3_140 rfl rfl rfl rfl rfl (jat hM.2.1 24 rfl) (st := [.int (v13 - (G 7 p0.toNatClampNeg))]) rfl ?_
    show JW X 0 0 39 [some (.ref 0), some (.int p0), some (.int p1), some (.int (G 4 p0.toNatClampNeg)), none, none] [.int v18, .int (v13 - (G 7 p0.toNatClampNeg))] (hTown G)
    refine JW.r hM 25 2 (pc2 := 44) (L2 := [some (.ref 0), some (.int p0), some (.int p1), some (.int (G 4 p0.toNatClampNeg)), none, none]) (st2 := [.int ((v13 - (G 7 p0.toNatClampNeg)) + v18)]) (μ2 := (hTown G)) rfl trivial ?_
    exact t_X3_partOfOther_b44 hM hp N G p0 p1 (G 4 p0.toNatClampNeg) ((v13 - (G 7 p0.toNatClampNeg)) + v18) h hq
theorem m_X3_partOfOther (V : jV) (hV : V.1.stackTraces = false) (N : Nat) (G : Nat → Nat → Int32) (p0 : Int32) (p1 : Int32) (v : Int32) (h : p_X3_partOfOther N G p0 p1 = some v) : jMet V yX3_partOfOther (jws yX3_partOfOther cX3_partOfOther 6 (some .int)) ⟨2, 0, 0, 44⟩ true 1 [.ref 0, .int p0, .int p1] (hTown G) (fun o ν => o = some (.int v) ∧ ν = (hTown G)) (fun _ _ => False) := by
  refine jmk (tb := tbX3) (C := kX3_partOfOther) hV rfl (by decide) tbX3_ok rfl kX3_partOfOther_ok rfl ?_
  intro X hM _ hp _
  exact t_X3_partOfOther hM hp N G p0 p1 h ⟨rfl, rfl⟩
def p_X3_gainOf_b34 (N : Nat) (G : Nat → Nat → Int32) (rv5 : Int32 → Int32 → Int32 → Int32 → Option (Int32)) (x1 : Int32) (x2 : Int32) (x3 : Int32) (x4 : Int32) : Option (Int32) :=
  rv5 x1 x2 x3 (x4 + 1)
def p_X3_gainOf_b5 (N : Nat) (G : Nat → Nat → Int32) : Nat → (Int32) → (Int32) → (Int32) → (Int32) → Option (Int32)
  | 0, _, _, _, _ => none
  | n + 1, x1, x2, x3, x4 => if (G 0 7) ≤ x4 then (some x3) else ((p_X3_fallsWith N G x4 x1).bind (fun v2 => if v2 = 0 then (p_X3_gainOf_b34 N G (p_X3_gainOf_b5 N G n) x1 x2 x3 x4) else ((p_X3_partOfUndoer N G x4 x2).bind (fun v4 => p_X3_gainOf_b34 N G (p_X3_gainOf_b5 N G n) x1 x2 (x3 + v4) x4))))
def p_X3_gainOf (N : Nat) (G : Nat → Nat → Int32) (p0 : Int32) (p1 : Int32) : Option (Int32) :=
  p_X3_gainOf_b5 N G N p0 p1 (0 : Int32) p0
set_option maxHeartbeats 4000000 in
set_option maxRecDepth 100000 in
theorem t_X3_gainOf_b34 {X : jX} {po : Option Value → jH → Prop} {px : String → jH → Prop} {sf : Bool} {B9 : Nat} (hM : jMX X kX3_gainOf RX3 tbX3 5 ⟨3, 0, 0, 69⟩ (some .int) 10) (hp : jPost X sf B9 po px) (N : Nat) (G : Nat → Nat → Int32) (rv5 : Int32 → Int32 → Int32 → Int32 → Option (Int32)) {res : Int32} (ih5 : ∀ (x1 : Int32) (x2 : Int32) (x3 : Int32) (x4 : Int32), rv5 x1 x2 x3 x4 = some res → JW X 0 0 5 [some (.ref 0), some (.int x1), some (.int x2), some (.int x3), some (.int x4)] [] (hTown G)) (x1 : Int32) (x2 : Int32) (x3 : Int32) (x4 : Int32) (h : p_X3_gainOf_b34 N G rv5 x1 x2 x3 x4 = some res) (hq : po (some (.int res)) (hTown G)) : JW X 0 0 34 [some (.ref 0), some (.int x1), some (.int x2), some (.int x3), some (.int x4)] [] (hTown G) := by
  unfold p_X3_gainOf_b34 at h
  refine JW.r hM 20 2 (pc2 := 5) (L2 := [some (.ref 0), some (.int x1), some (.int x2), some (.int x3), some (.int (x4 + 1))]) (st2 := []) (μ2 := (hTown G)) rfl trivial ?_
  exact ih5 x1 x2 x3 (x4 + 1) h
set_option maxHeartbeats 4000000 in
set_option maxRecDepth 100000 in
theorem t_X3_gainOf_b5 {X : jX} {po : Option Value → jH → Prop} {px : String → jH → Prop} {sf : Bool} {B9 : Nat} (hM : jMX X kX3_gainOf RX3 tbX3 5 ⟨3, 0, 0, 69⟩ (some .int) 10) (hp : jPost X sf B9 po px) (N : Nat) (G : Nat → Nat → Int32) {res : Int32} : ∀ (n : Nat) (x1 : Int32) (x2 : Int32) (x3 : Int32) (x4 : Int32) (h : p_X3_gainOf_b5 N G n x1 x2 x3 x4 = some res) (hq : po (some (.int res)) (hTown G)), JW X 0 0 5 [some (.ref 0), some (.int x1), some (.int x2), some (.int x3), some (.int x4)] [] (hTown G) := by
  intro n
  induction n with
  | zero =>
    intro x1 x2 x3 x4 h hq
    cases (show (none : Option (Int32)) = some res from h)
  | succ n ih5 =>
    intro x1 x2 x3 x4 h hq
    have ih5 := fun x1 x2 x3 x4 h9 => ih5 x1 x2 x3 x4 h9 hq
    rw [p_X3_gainOf_b5] at h
    refine JW.r hM 4 3 (pc2 := 11) (L2 := [some (.ref 0), some (.int x1), some (.int x2), some (.int x3), some (.int x4)]) (st2 := [.int (G 0 7), .int x4]) (μ2 := (hTown G)) rfl trivial ?_
    refine js_icge (t := 40) hM.1 (jat hM.2.1 7 rfl) rfl (fun hc6 => ?_) (fun hc6 => ?_)
    · have h := (if_pos hc6).symm.trans h
      refine JW.r hM 22 1 (pc2 := 41) (L2 := [some (.ref 0), some (.int x1), some (.int x2), some (.int x3), some (.int x4)]) (st2 := [.int x3]) (μ2 := (hTown G)) rfl trivial ?_
      cases h
      exact js_iret hM.1 hp hM.2.2.2.2.2.2.2.1 (by rw [hM.2.2.2.2.2.1]; exact Nat.le_of_ble_eq_true rfl) (by rw [hM.2.2.2.2.2.2.1]; exact Nat.le_of_ble_eq_true rfl) (jat hM.2.1 23 rfl) hq
    · have h := (if_neg hc6).symm.trans h
      refine JW.r hM 8 3 (pc2 := 18) (L2 := [some (.ref 0), some (.int x1), some (.int x2), some (.int x3), some (.int x4)]) (st2 := [.int x1, .int x4, .ref 0]) (μ2 := (hTown G)) rfl trivial ?_
      obtain ⟨v2, hv1, h⟩ := jbd h
      refine JW.cV (v := some (.int v2)) hM (m_X3_fallsWith (jVX X) hM.1.2.2.2.2.2.2.2.2.2.1 N G x4 x1 v2 hv1) (sb_Town_Town_0 G) (bi_Town_Town_0 G) rfl rfl rfl kc_X3_134 rfl rfl rfl rfl rfl (jat hM.2.1 11 rfl) (st := []) rfl ?_
      show JW X 0 0 21 [some (.ref 0), some (.int x1), some (.int x2), some (.int x3), some (.int x4)] [.int v2] (hTown G)
      refine js_ifeq (t := 34) hM.1 (jat hM.2.1 12 rfl) rfl (fun hc5 => ?_) (fun hc5 => ?_)
      · have h := (if_pos hc5).symm.trans h
        exact t_X3_gainOf_b34 hM hp N G (p_X3_gainOf_b5 N G n) ih5 x1 x2 x3 x4 h hq
      · have h := (if_neg hc5).symm.trans h
        refine JW.r hM 13 4 (pc2 := 29) (L2 := [some (.ref 0), some (.int x1), some (.int x2), some (.int x3), some (.int x4)]) (st2 := [.int x2, .int x4, .ref 0, .int x3]) (μ2 := (hTown G)) rfl trivial ?_
        obtain ⟨v4, hv3, h⟩ := jbd h
        refine JW.cV (v := some (.int v4)) hM (m_X3_partOfUndoer (jVX X) hM.1.2.2.2.2.2.2.2.2.2.1 N G x4 x2 v4 hv3) (sb_Town_Town_0 G) (bi_Town_Town_0 G) rfl rfl rfl kc_X3_146 rfl rfl rfl rfl rfl (jat hM.2.1 17 rfl) (st := [.int x3]) rfl ?_
        show JW X 0 0 32 [some (.ref 0), some (.int x1), some (.int x2), some (.int x3), some (.int x4)] [.int v4, .int x3] (hTown G)
        refine JW.r hM 18 2 (pc2 := 34) (L2 := [some (.ref 0), some (.int x1), some (.int x2), some (.int (x3 + v4)), some (.int x4)]) (st2 := []) (μ2 := (hTown G)) rfl trivial ?_
        exact t_X3_gainOf_b34 hM hp N G (p_X3_gainOf_b5 N G n) ih5 x1 x2 (x3 + v4) x4 h hq
set_option maxHeartbeats 4000000 in
set_option maxRecDepth 100000 in
theorem t_X3_gainOf {X : jX} {po : Option Value → jH → Prop} {px : String → jH → Prop} {sf : Bool} {B9 : Nat} (hM : jMX X kX3_gainOf RX3 tbX3 5 ⟨3, 0, 0, 69⟩ (some .int) 10) (hp : jPost X sf B9 po px) (N : Nat) (G : Nat → Nat → Int32) (p0 : Int32) (p1 : Int32) {res : Int32} (h : p_X3_gainOf N G p0 p1 = some res) (hq : po (some (.int res)) (hTown G)) : JW X 0 0 0 [some (.ref 0), some (.int p0), some (.int p1), none, none] [] (hTown G) := by
  unfold p_X3_gainOf at h
  refine JW.r hM 0 4 (pc2 := 5) (L2 := [some (.ref 0), some (.int p0), some (.int p1), some (.int (0 : Int32)), some (.int p0)]) (st2 := []) (μ2 := (hTown G)) rfl trivial ?_
  exact t_X3_gainOf_b5 hM hp N G N p0 p1 (0 : Int32) p0 h hq
theorem m_X3_gainOf (V : jV) (hV : V.1.stackTraces = false) (N : Nat) (G : Nat → Nat → Int32) (p0 : Int32) (p1 : Int32) (v : Int32) (h : p_X3_gainOf N G p0 p1 = some v) : jMet V yX3_gainOf (jws yX3_gainOf cX3_gainOf 5 (some .int)) ⟨3, 0, 0, 69⟩ true 1 [.ref 0, .int p0, .int p1] (hTown G) (fun o ν => o = some (.int v) ∧ ν = (hTown G)) (fun _ _ => False) := by
  refine jmk (tb := tbX3) (C := kX3_gainOf) hV rfl (by decide) tbX3_ok rfl kX3_gainOf_ok rfl ?_
  intro X hM _ hp _
  exact t_X3_gainOf hM hp N G p0 p1 h ⟨rfl, rfl⟩
def p_X3_topGain (N : Nat) (G : Nat → Nat → Int32) (p0 : Int32) : Option (Int32) :=
  if jin p0 30 = true then (p_X3_gainOf N G p0 (G 5 p0.toNatClampNeg)).bind (fun v3 => if jin p0 30 = true then (p_X3_gainOf N G p0 (G 6 p0.toNatClampNeg)).bind (fun v6 => some (if v3 < v6 then v6 else v3)) else none) else none
set_option maxHeartbeats 4000000 in
set_option maxRecDepth 100000 in
theorem t_X3_topGain {X : jX} {po : Option Value → jH → Prop} {px : String → jH → Prop} {sf : Bool} {B9 : Nat} (hM : jMX X kX3_topGain RX3 tbX3 2 ⟨4, 0, 0, 93⟩ (some .int) 10) (hp : jPost X sf B9 po px) (N : Nat) (G : Nat → Nat → Int32) (p0 : Int32) {res : Int32} (h : p_X3_topGain N G p0 = some res) (hq : po (some (.int res)) (hTown G)) : JW X 0 0 0 [some (.ref 0), some (.int p0)] [] (hTown G) := by
  unfold p_X3_topGain at h
  obtain ⟨g1, h⟩ := jg h
  refine JW.r hM 0 6 (pc2 := 8) (L2 := [some (.ref 0), some (.int p0)]) (st2 := [.int (G 5 p0.toNatClampNeg), .int p0, .ref 0]) (μ2 := (hTown G)) rfl ⟨g1, trivial⟩ ?_
  obtain ⟨v3, hv2, h⟩ := jbd h
  refine JW.cV (v := some (.int v3)) hM (m_X3_gainOf (jVX X) hM.1.2.2.2.2.2.2.2.2.2.1 N G p0 (G 5 p0.toNatClampNeg) v3 hv2) (sb_Town_Town_0 G) (bi_Town_Town_0 G) rfl rfl rfl kc_X3_149 rfl rfl rfl rfl rfl (jat hM.2.1 6 rfl) (st := []) rfl ?_
  show JW X 0 0 11 [some (.ref 0), some (.int p0)] [.int v3] (hTown G)
  obtain ⟨g4, h⟩ := jg h
  refine JW.r hM 7 6 (pc2 := 19) (L2 := [some (.ref 0), some (.int p0)]) (st2 := [.int (G 6 p0.toNatClampNeg), .int p0, .ref 0, .int v3]) (μ2 := (hTown G)) rfl ⟨g4, trivial⟩ ?_
  obtain ⟨v6, hv5, h⟩ := jbd h
  refine JW.cV (v := some (.int v6)) hM (m_X3_gainOf (jVX X) hM.1.2.2.2.2.2.2.2.2.2.1 N G p0 (G 6 p0.toNatClampNeg) v6 hv5) (sb_Town_Town_0 G) (bi_Town_Town_0 G) rfl rfl rfl kc_X3_149 rfl rfl rfl rfl rfl (jat hM.2.1 13 rfl) (st := [.int v3]) rfl ?_
  show JW X 0 0 22 [some (.ref 0), some (.int p0)] [.int v6, .int v3] (hTown G)
  refine js_max hM.1 (by rw [hM.2.2.1]; exact mx_X3_98) (jat hM.2.1 14 rfl) (by rw [hM.2.2.2.2.1]; exact Nat.le_of_ble_eq_true rfl) (by rw [hM.2.2.2.2.1]; exact Nat.le_of_ble_eq_true rfl) (by rw [hM.2.2.2.2.1]; exact Nat.le_of_ble_eq_true rfl) (by rw [hM.2.2.2.2.1]; exact Nat.le_of_ble_eq_true rfl) ?_
  show JW X 0 0 25 [some (.ref 0), some (.int p0)] [.int (if v3 < v6 then v6 else v3)] (hTown G)
  cases h
  exact js_iret hM.1 hp hM.2.2.2.2.2.2.2.1 (by rw [hM.2.2.2.2.2.1]; exact Nat.le_of_ble_eq_true rfl) (by rw [hM.2.2.2.2.2.2.1]; exact Nat.le_of_ble_eq_true rfl) (jat hM.2.1 15 rfl) hq
theorem m_X3_topGain (V : jV) (hV : V.1.stackTraces = false) (N : Nat) (G : Nat → Nat → Int32) (p0 : Int32) (v : Int32) (h : p_X3_topGain N G p0 = some v) : jMet V yX3_topGain (jws yX3_topGain cX3_topGain 2 (some .int)) ⟨4, 0, 0, 93⟩ true 1 [.ref 0, .int p0] (hTown G) (fun o ν => o = some (.int v) ∧ ν = (hTown G)) (fun _ _ => False) := by
  refine jmk (tb := tbX3) (C := kX3_topGain) hV rfl (by decide) tbX3_ok rfl kX3_topGain_ok rfl ?_
  intro X hM _ hp _
  exact t_X3_topGain hM hp N G p0 h ⟨rfl, rfl⟩
def p_X3_bestUndoing_b64 (N : Nat) (G : Nat → Nat → Int32) (rv6 : Int32 → Int32 → Int32 → Option (Int32)) (x1 : Int32) (x2 : Int32) (x3 : Int32) : Option (Int32) :=
  rv6 x1 x2 (x3 + 1)
def p_X3_bestUndoing_b6 (N : Nat) (G : Nat → Nat → Int32) : Nat → (Int32) → (Int32) → (Int32) → Option (Int32)
  | 0, _, _, _ => none
  | n + 1, x1, x2, x3 => if ((2 : Int32) * (G 0 7)) ≤ x3 then (some x2) else ((p_X3_sideOf N G (x3 >>> ((1 : Int32) &&& 31)) (x3 &&& (1 : Int32))).bind (fun v2 => (p_X3_gainOf N G (x3 >>> ((1 : Int32) &&& 31)) v2).bind (fun v4 => if v4 ≤ x1 then (p_X3_bestUndoing_b64 N G (p_X3_bestUndoing_b6 N G n) x1 x2 x3) else ((p_X3_whyNoUndoing N G (x3 >>> ((1 : Int32) &&& 31)) v2).bind (fun v6 => if v6 = 0 then (p_X3_bestUndoing_b64 N G (p_X3_bestUndoing_b6 N G n) v4 x3 x3) else (p_X3_bestUndoing_b64 N G (p_X3_bestUndoing_b6 N G n) x1 x2 x3))))))
def p_X3_bestUndoing (N : Nat) (G : Nat → Nat → Int32) : Option (Int32) :=
  p_X3_bestUndoing_b6 N G N (0 : Int32) (-1 : Int32) (0 : Int32)
set_option maxHeartbeats 4000000 in
set_option maxRecDepth 100000 in
theorem t_X3_bestUndoing_b64 {X : jX} {po : Option Value → jH → Prop} {px : String → jH → Prop} {sf : Bool} {B9 : Nat} (hM : jMX X kX3_bestUndoing RX3 tbX3 7 ⟨4, 0, 0, 93⟩ (some .int) 10) (hp : jPost X sf B9 po px) (N : Nat) (G : Nat → Nat → Int32) (rv6 : Int32 → Int32 → Int32 → Option (Int32)) {res : Int32} (ih6 : ∀ (x1 : Int32) (x2 : Int32) (x3 : Int32), rv6 x1 x2 x3 = some res → JW X 0 0 6 [some (.ref 0), some (.int x1), some (.int x2), some (.int x3), none, none, none] [] (hTown G)) (x1 : Int32) (x2 : Int32) (x3 : Int32) (h : p_X3_bestUndoing_b64 N G rv6 x1 x2 x3 = some res) (hq : po (some (.int res)) (hTown G)) : JW X 0 0 64 [some (.ref 0), some (.int x1), some (.int x2), some (.int x3), none, none, none] [] (hTown G) := by
  unfold p_X3_bestUndoing_b64 at h
  refine JW.r hM 40 2 (pc2 := 6) (L2 := [some (.ref 0), some (.int x1), some (.int x2), some (.int (x3 + 1)), none, none, none]) (st2 := []) (μ2 := (hTown G)) rfl trivial ?_
  exact ih6 x1 x2 (x3 + 1) h
set_option maxHeartbeats 4000000 in
set_option maxRecDepth 100000 in
theorem t_X3_bestUndoing_b6 {X : jX} {po : Option Value → jH → Prop} {px : String → jH → Prop} {sf : Bool} {B9 : Nat} (hM : jMX X kX3_bestUndoing RX3 tbX3 7 ⟨4, 0, 0, 93⟩ (some .int) 10) (hp : jPost X sf B9 po px) (N : Nat) (G : Nat → Nat → Int32) {res : Int32} : ∀ (n : Nat) (x1 : Int32) (x2 : Int32) (x3 : Int32) (h : p_X3_bestUndoing_b6 N G n x1 x2 x3 = some res) (hq : po (some (.int res)) (hTown G)), JW X 0 0 6 [some (.ref 0), some (.int x1), some (.int x2), some (.int x3), none, none, none] [] (hTown G) := by
  intro n
  induction n with
  | zero =>
    intro x1 x2 x3 h hq
    cases (show (none : Option (Int32)) = some res from h)
  | succ n ih6 =>
    intro x1 x2 x3 h hq
    have ih6 := fun x1 x2 x3 h9 => ih6 x1 x2 x3 h9 hq
    rw [p_X3_bestUndoing_b6] at h
    refine JW.r hM 6 5 (pc2 := 13) (L2 := [some (.ref 0), some (.int x1), some (.int x2), some (.int x3), none, none, none]) (st2 := [.int ((2 : Int32) * (G 0 7)), .int x3]) (μ2 := (hTown G)) rfl trivial ?_
    refine js_icge (t := 70) hM.1 (jat hM.2.1 11 rfl) rfl (fun hc9 => ?_) (fun hc9 => ?_)
    · have h := (if_pos hc9).symm.trans h
      refine JW.r hM 42 1 (pc2 := 71) (L2 := [some (.ref 0), some (.int x1), some (.int x2), some (.int x3), none, none, none]) (st2 := [.int x2]) (μ2 := (hTown G)) rfl trivial ?_
      cases h
      exact js_iret hM.1 hp hM.2.2.2.2.2.2.2.1 (by rw [hM.2.2.2.2.2.1]; exact Nat.le_of_ble_eq_true rfl) (by rw [hM.2.2.2.2.2.2.1]; exact Nat.le_of_ble_eq_true rfl) (jat hM.2.1 43 rfl) hq
    · have h := (if_neg hc9).symm.trans h
      refine JW.r hM 12 9 (pc2 := 27) (L2 := [some (.ref 0), some (.int x1), some (.int x2), some (.int x3), some (.int (x3 >>> ((1 : Int32) &&& 31))), none, none]) (st2 := [.int (x3 &&& (1 : Int32)), .int (x3 >>> ((1 : Int32) &&& 31)), .ref 0]) (μ2 := (hTown G)) rfl trivial ?_
      obtain ⟨v2, hv1, h⟩ := jbd h
      refine JW.cV (v := some (.int v2)) hM (m_X3_sideOf (jVX X) hM.1.2.2.2.2.2.2.2.2.2.1 N G (x3 >>> ((1 : Int32) &&& 31)) (x3 &&& (1 : Int32)) v2 hv1) (sb_Town_Town_0 G) (bi_Town_Town_0 G) rfl rfl rfl kc_X3_152 rfl rfl rfl rfl rfl (jat hM.2.1 21 rfl) (st := []) rfl ?_
      show JW X 0 0 30 [some (.ref 0), some (.int x1), some (.int x2), some (.int x3), some (.int (x3 >>> ((1 : Int32) &&& 31))), none, none] [.int v2] (hTown G)
      refine JW.r hM 22 4 (pc2 := 37) (L2 := [some (.ref 0), some (.int x1), some (.int x2), some (.int x3), some (.int (x3 >>> ((1 : Int32) &&& 31))), some (.int v2), none]) (st2 := [.int v2, .int (x3 >>> ((1 : Int32) &&& 31)), .ref 0]) (μ2 := (hTown G)) rfl trivial ?_
      obtain ⟨v4, hv3, h⟩ := jbd h
      refine JW.cV (v := some (.int v4)) hM (m_X3_gainOf (jVX X) hM.1.2.2.2.2.2.2.2.2.2.1 N G (x3 >>> ((1 : Int32) &&& 31)) v2 v4 hv3) (sb_Town_Town_0 G) (bi_Town_Town_0 G) rfl rfl rfl kc_X3_149 rfl rfl rfl rfl rfl (jat hM.2.1 26 rfl) (st := []) rfl ?_
      show JW X 0 0 40 [some (.ref 0), some (.int x1), some (.int x2), some (.int x3), some (.int (x3 >>> ((1 : Int32) &&& 31))), some (.int v2), none] [.int v4] (hTown G)
      refine JW.r hM 27 3 (pc2 := 45) (L2 := [some (.ref 0), some (.int x1), some (.int x2), some (.int x3), some (.int (x3 >>> ((1 : Int32) &&& 31))), some (.int v2), some (.int v4)]) (st2 := [.int x1, .int v4]) (μ2 := (hTown G)) rfl trivial ?_
      refine js_icle (t := 64) hM.1 (jat hM.2.1 30 rfl) rfl (fun hc8 => ?_) (fun hc8 => ?_)
      · have h := (if_pos hc8).symm.trans h
        exact JW.mask [true, true, true, true, false, false, false] (t_X3_bestUndoing_b64 hM hp N G (p_X3_bestUndoing_b6 N G n) ih6 x1 x2 x3 h hq)
      · have h := (if_neg hc8).symm.trans h
        refine JW.r hM 31 3 (pc2 := 53) (L2 := [some (.ref 0), some (.int x1), some (.int x2), some (.int x3), some (.int (x3 >>> ((1 : Int32) &&& 31))), some (.int v2), some (.int v4)]) (st2 := [.int v2, .int (x3 >>> ((1 : Int32) &&& 31)), .ref 0]) (μ2 := (hTown G)) rfl trivial ?_
        obtain ⟨v6, hv5, h⟩ := jbd h
        refine JW.cV (v := some (.int v6)) hM (m_X3_whyNoUndoing (jVX X) hM.1.2.2.2.2.2.2.2.2.2.1 N G (x3 >>> ((1 : Int32) &&& 31)) v2 v6 hv5) (sb_Town_Town_0 G) (bi_Town_Town_0 G) rfl rfl rfl kc_X3_155 rfl rfl rfl rfl rfl (jat hM.2.1 34 rfl) (st := []) rfl ?_
        show JW X 0 0 56 [some (.ref 0), some (.int x1), some (.int x2), some (.int x3), some (.int (x3 >>> ((1 : Int32) &&& 31))), some (.int v2), some (.int v4)] [.int v6] (hTown G)
        refine js_ifne (t := 64) hM.1 (jat hM.2.1 35 rfl) rfl (fun hc7 => ?_) (fun hc7 => ?_)
        · have h := (if_neg hc7).symm.trans h
          exact JW.mask [true, true, true, true, false, false, false] (t_X3_bestUndoing_b64 hM hp N G (p_X3_bestUndoing_b6 N G n) ih6 x1 x2 x3 h hq)
        · have h := (if_pos hc7).symm.trans h
          refine JW.r hM 36 4 (pc2 := 64) (L2 := [some (.ref 0), some (.int v4), some (.int x3), some (.int x3), some (.int (x3 >>> ((1 : Int32) &&& 31))), some (.int v2), some (.int v4)]) (st2 := []) (μ2 := (hTown G)) rfl trivial ?_
          exact JW.mask [true, true, true, true, false, false, false] (t_X3_bestUndoing_b64 hM hp N G (p_X3_bestUndoing_b6 N G n) ih6 v4 x3 x3 h hq)
set_option maxHeartbeats 4000000 in
set_option maxRecDepth 100000 in
theorem t_X3_bestUndoing {X : jX} {po : Option Value → jH → Prop} {px : String → jH → Prop} {sf : Bool} {B9 : Nat} (hM : jMX X kX3_bestUndoing RX3 tbX3 7 ⟨4, 0, 0, 93⟩ (some .int) 10) (hp : jPost X sf B9 po px) (N : Nat) (G : Nat → Nat → Int32) {res : Int32} (h : p_X3_bestUndoing N G = some res) (hq : po (some (.int res)) (hTown G)) : JW X 0 0 0 [some (.ref 0), none, none, none, none, none, none] [] (hTown G) := by
  unfold p_X3_bestUndoing at h
  refine JW.r hM 0 6 (pc2 := 6) (L2 := [some (.ref 0), some (.int (0 : Int32)), some (.int (-1 : Int32)), some (.int (0 : Int32)), none, none, none]) (st2 := []) (μ2 := (hTown G)) rfl trivial ?_
  exact t_X3_bestUndoing_b6 hM hp N G N (0 : Int32) (-1 : Int32) (0 : Int32) h hq
theorem m_X3_bestUndoing (V : jV) (hV : V.1.stackTraces = false) (N : Nat) (G : Nat → Nat → Int32) (v : Int32) (h : p_X3_bestUndoing N G = some v) : jMet V yX3_bestUndoing (jws yX3_bestUndoing cX3_bestUndoing 7 (some .int)) ⟨4, 0, 0, 93⟩ true 1 [.ref 0] (hTown G) (fun o ν => o = some (.int v) ∧ ν = (hTown G)) (fun _ _ => False) := by
  refine jmk (tb := tbX3) (C := kX3_bestUndoing) hV rfl (by decide) tbX3_ok rfl kX3_bestUndoing_ok rfl ?_
  intro X hM _ hp _
  exact t_X3_bestUndoing hM hp N G h ⟨rfl, rfl⟩
def p_X3_wouldBeSafe (N : Nat) (G : Nat → Nat → Int32) (p0 : Int32) (p1 : Int32) (p2 : Int32) : Option (Int32) :=
  if jin p0 10 = true then (p_X3_worthTo N G p0 (G 2 p0.toNatClampNeg)).bind (fun v3 => (p_X3_worthTo N G p0 p1).bind (fun v5 => (p_X3_cut N G (if (0 : Int32) < (v5 - p2) then (v5 - p2) else (0 : Int32))).bind (fun v7 => (p_X3_cut N G (if (0 : Int32) < (p2 - v3) then (p2 - v3) else (0 : Int32))).bind (fun v9 => if 0 < ((v3 - p2) - v7) then (some (0 : Int32)) else (if 0 < ((p2 - v5) - v9) then (some (0 : Int32)) else (some (1 : Int32))))))) else none
set_option maxHeartbeats 4000000 in
set_option maxRecDepth 100000 in
theorem t_X3_wouldBeSafe {X : jX} {po : Option Value → jH → Prop} {px : String → jH → Prop} {sf : Bool} {B9 : Nat} (hM : jMX X kX3_wouldBeSafe RX3 tbX3 8 ⟨1, 0, 0, 23⟩ (some .boolean) 10) (hp : jPost X sf B9 po px) (N : Nat) (G : Nat → Nat → Int32) (p0 : Int32) (p1 : Int32) (p2 : Int32) {res : Int32} (h : p_X3_wouldBeSafe N G p0 p1 p2 = some res) (hq : po (some (.int res)) (hTown G)) : JW X 0 0 0 [some (.ref 0), some (.int p0), some (.int p1), some (.int p2), none, none, none, none] [] (hTown G) := by
  unfold p_X3_wouldBeSafe at h
  obtain ⟨g1, h⟩ := jg h
  refine JW.r hM 0 6 (pc2 := 8) (L2 := [some (.ref 0), some (.int p0), some (.int p1), some (.int p2), none, none, none, none]) (st2 := [.int (G 2 p0.toNatClampNeg), .int p0, .ref 0]) (μ2 := (hTown G)) rfl ⟨g1, trivial⟩ ?_
  obtain ⟨v3, hv2, h⟩ := jbd h
  refine JW.cV (v := some (.int v3)) hM (m_X3_worthTo (jVX X) hM.1.2.2.2.2.2.2.2.2.2.1 N G p0 (G 2 p0.toNatClampNeg) v3 hv2) (sb_Town_Town_0 G) (bi_Town_Town_0 G) rfl rfl rfl kc_X3_90 rfl rfl rfl rfl rfl (jat hM.2.1 6 rfl) (st := []) rfl ?_
  show JW X 0 0 11 [some (.ref 0), some (.int p0), some (.int p1), some (.int p2), none, none, none, none] [.int v3] (hTown G)
  refine JW.r hM 7 4 (pc2 := 16) (L2 := [some (.ref 0), some (.int p0), some (.int p1), some (.int p2), some (.int v3), none, none, none]) (st2 := [.int p1, .int p0, .ref 0]) (μ2 := (hTown G)) rfl trivial ?_
  obtain ⟨v5, hv4, h⟩ := jbd h
  refine JW.cV (v := some (.int v5)) hM (m_X3_worthTo (jVX X) hM.1.2.2.2.2.2.2.2.2.2.1 N G p0 p1 v5 hv4) (sb_Town_Town_0 G) (bi_Town_Town_0 G) rfl rfl rfl kc_X3_90 rfl rfl rfl rfl rfl (jat hM.2.1 11 rfl) (st := []) rfl ?_
  show JW X 0 0 19 [some (.ref 0), some (.int p0), some (.int p1), some (.int p2), some (.int v3), none, none, none] [.int v5] (hTown G)
  refine JW.r hM 12 9 (pc2 := 31) (L2 := [some (.ref 0), some (.int p0), some (.int p1), some (.int p2), some (.int v3), some (.int v5), none, none]) (st2 := [.int (v5 - p2), .int (0 : Int32), .ref 0, .int (v3 - p2)]) (μ2 := (hTown G)) rfl trivial ?_
  refine js_max hM.1 (by rw [hM.2.2.1]; exact mx_X3_98) (jat hM.2.1 21 rfl) (by rw [hM.2.2.2.2.1]; exact Nat.le_of_ble_eq_true rfl) (by rw [hM.2.2.2.2.1]; exact Nat.le_of_ble_eq_true rfl) (by rw [hM.2.2.2.2.1]; exact Nat.le_of_ble_eq_true rfl) (by rw [hM.2.2.2.2.1]; exact Nat.le_of_ble_eq_true rfl) ?_
  show JW X 0 0 34 [some (.ref 0), some (.int p0), some (.int p1), some (.int p2), some (.int v3), some (.int v5), none, none] [.int (if (0 : Int32) < (v5 - p2) then (v5 - p2) else (0 : Int32)), .ref 0, .int (v3 - p2)] (hTown G)
  obtain ⟨v7, hv6, h⟩ := jbd h
  refine JW.cV (v := some (.int v7)) hM (m_X3_cut (jVX X) hM.1.2.2.2.2.2.2.2.2.2.1 N G (if (0 : Int32) < (v5 - p2) then (v5 - p2) else (0 : Int32)) v7 hv6) (sb_Town_Town_0 G) (bi_Town_Town_0 G) rfl rfl rfl kc_X3_140 rfl rfl rfl rfl rfl (jat hM.2.1 22 rfl) (st := [.int (v3 - p2)]) rfl ?_
  show JW X 0 0 37 [some (.ref 0), some (.int p0), some (.int p1), some (.int p2), some (.int v3), some (.int v5), none, none] [.int v7, .int (v3 - p2)] (hTown G)
  refine JW.r hM 23 10 (pc2 := 50) (L2 := [some (.ref 0), some (.int p0), some (.int p1), some (.int p2), some (.int v3), some (.int v5), some (.int ((v3 - p2) - v7)), none]) (st2 := [.int (p2 - v3), .int (0 : Int32), .ref 0, .int (p2 - v5)]) (μ2 := (hTown G)) rfl trivial ?_
  refine js_max hM.1 (by rw [hM.2.2.1]; exact mx_X3_98) (jat hM.2.1 33 rfl) (by rw [hM.2.2.2.2.1]; exact Nat.le_of_ble_eq_true rfl) (by rw [hM.2.2.2.2.1]; exact Nat.le_of_ble_eq_true rfl) (by rw [hM.2.2.2.2.1]; exact Nat.le_of_ble_eq_true rfl) (by rw [hM.2.2.2.2.1]; exact Nat.le_of_ble_eq_true rfl) ?_
  show JW X 0 0 53 [some (.ref 0), some (.int p0), some (.int p1), some (.int p2), some (.int v3), some (.int v5), some (.int ((v3 - p2) - v7)), none] [.int (if (0 : Int32) < (p2 - v3) then (p2 - v3) else (0 : Int32)), .ref 0, .int (p2 - v5)] (hTown G)
  obtain ⟨v9, hv8, h⟩ := jbd h
  refine JW.cV (v := some (.int v9)) hM (m_X3_cut (jVX X) hM.1.2.2.2.2.2.2.2.2.2.1 N G (if (0 : Int32) < (p2 - v3) then (p2 - v3) else (0 : Int32)) v9 hv8) (sb_Town_Town_0 G) (bi_Town_Town_0 G) rfl rfl rfl kc_X3_140 rfl rfl rfl rfl rfl (jat hM.2.1 34 rfl) (st := [.int (p2 - v5)]) rfl ?_
  show JW X 0 0 56 [some (.ref 0), some (.int p0), some (.int p1), some (.int p2), some (.int v3), some (.int v5), some (.int ((v3 - p2) - v7)), none] [.int v9, .int (p2 - v5)] (hTown G)
  refine JW.r hM 35 3 (pc2 := 61) (L2 := [some (.ref 0), some (.int p0), some (.int p1), some (.int p2), some (.int v3), some (.int v5), some (.int ((v3 - p2) - v7)), some (.int ((p2 - v5) - v9))]) (st2 := [.int ((v3 - p2) - v7)]) (μ2 := (hTown G)) rfl trivial ?_
  refine js_ifgt (t := 73) hM.1 (jat hM.2.1 38 rfl) rfl (fun hc11 => ?_) (fun hc11 => ?_)
  · have h := (if_pos hc11).symm.trans h
    refine JW.r hM 43 1 (pc2 := 74) (L2 := [some (.ref 0), some (.int p0), some (.int p1), some (.int p2), some (.int v3), some (.int v5), some (.int ((v3 - p2) - v7)), some (.int ((p2 - v5) - v9))]) (st2 := [.int (0 : Int32)]) (μ2 := (hTown G)) rfl trivial ?_
    cases h
    exact js_zret hM.1 hp hM.2.2.2.2.2.2.2.1 rfl (by rw [hM.2.2.2.2.2.1]; exact Nat.le_of_ble_eq_true rfl) (by rw [hM.2.2.2.2.2.2.1]; exact Nat.le_of_ble_eq_true rfl) (jat hM.2.1 44 rfl) hq
  · have h := (if_neg hc11).symm.trans h
    refine JW.r hM 39 1 (pc2 := 66) (L2 := [some (.ref 0), some (.int p0), some (.int p1), some (.int p2), some (.int v3), some (.int v5), some (.int ((v3 - p2) - v7)), some (.int ((p2 - v5) - v9))]) (st2 := [.int ((p2 - v5) - v9)]) (μ2 := (hTown G)) rfl trivial ?_
    refine js_ifgt (t := 73) hM.1 (jat hM.2.1 40 rfl) rfl (fun hc10 => ?_) (fun hc10 => ?_)
    · have h := (if_pos hc10).symm.trans h
      refine JW.r hM 43 1 (pc2 := 74) (L2 := [some (.ref 0), some (.int p0), some (.int p1), some (.int p2), some (.int v3), some (.int v5), some (.int ((v3 - p2) - v7)), some (.int ((p2 - v5) - v9))]) (st2 := [.int (0 : Int32)]) (μ2 := (hTown G)) rfl trivial ?_
      cases h
      exact js_zret hM.1 hp hM.2.2.2.2.2.2.2.1 rfl (by rw [hM.2.2.2.2.2.1]; exact Nat.le_of_ble_eq_true rfl) (by rw [hM.2.2.2.2.2.2.1]; exact Nat.le_of_ble_eq_true rfl) (jat hM.2.1 44 rfl) hq
    · have h := (if_neg hc10).symm.trans h
      refine JW.r hM 41 2 (pc2 := 74) (L2 := [some (.ref 0), some (.int p0), some (.int p1), some (.int p2), some (.int v3), some (.int v5), some (.int ((v3 - p2) - v7)), some (.int ((p2 - v5) - v9))]) (st2 := [.int (1 : Int32)]) (μ2 := (hTown G)) rfl trivial ?_
      cases h
      exact js_zret hM.1 hp hM.2.2.2.2.2.2.2.1 rfl (by rw [hM.2.2.2.2.2.1]; exact Nat.le_of_ble_eq_true rfl) (by rw [hM.2.2.2.2.2.2.1]; exact Nat.le_of_ble_eq_true rfl) (jat hM.2.1 44 rfl) hq
theorem m_X3_wouldBeSafe (V : jV) (hV : V.1.stackTraces = false) (N : Nat) (G : Nat → Nat → Int32) (p0 : Int32) (p1 : Int32) (p2 : Int32) (v : Int32) (h : p_X3_wouldBeSafe N G p0 p1 p2 = some v) : jMet V yX3_wouldBeSafe (jws yX3_wouldBeSafe cX3_wouldBeSafe 8 (some .boolean)) ⟨1, 0, 0, 23⟩ true 1 [.ref 0, .int p0, .int p1, .int p2] (hTown G) (fun o ν => o = some (.int v) ∧ ν = (hTown G)) (fun _ _ => False) := by
  refine jmk (tb := tbX3) (C := kX3_wouldBeSafe) hV rfl (by decide) tbX3_ok rfl kX3_wouldBeSafe_ok rfl ?_
  intro X hM _ hp _
  exact t_X3_wouldBeSafe hM hp N G p0 p1 p2 h ⟨rfl, rfl⟩
def p_X3_chainLength_b33 (N : Nat) (G : Nat → Nat → Int32) (rv4 : Int32 → Int32 → Int32 → Option (Int32)) (x1 : Int32) (x2 : Int32) (x3 : Int32) : Option (Int32) :=
  rv4 x1 x2 (x3 + 1)
def p_X3_chainLength_b4 (N : Nat) (G : Nat → Nat → Int32) : Nat → (Int32) → (Int32) → (Int32) → Option (Int32)
  | 0, _, _, _ => none
  | n + 1, x1, x2, x3 => if (G 0 7) ≤ x3 then (some x2) else (if jin x3 30 = true then if (G 4 x3.toNatClampNeg) = x1 then ((p_X3_stands N G x3).bind (fun v3 => if v3 = 0 then (p_X3_chainLength_b33 N G (p_X3_chainLength_b4 N G n) x1 x2 x3) else (p_X3_chainLength_b33 N G (p_X3_chainLength_b4 N G n) x1 (x2 + 1) x3))) else (p_X3_chainLength_b33 N G (p_X3_chainLength_b4 N G n) x1 x2 x3) else none)
def p_X3_chainLength (N : Nat) (G : Nat → Nat → Int32) (p0 : Int32) : Option (Int32) :=
  p_X3_chainLength_b4 N G N p0 (0 : Int32) (0 : Int32)
set_option maxHeartbeats 4000000 in
set_option maxRecDepth 100000 in
theorem t_X3_chainLength_b33 {X : jX} {po : Option Value → jH → Prop} {px : String → jH → Prop} {sf : Bool} {B9 : Nat} (hM : jMX X kX3_chainLength RX3 tbX3 4 ⟨1, 0, 0, 21⟩ (some .int) 10) (hp : jPost X sf B9 po px) (N : Nat) (G : Nat → Nat → Int32) (rv4 : Int32 → Int32 → Int32 → Option (Int32)) {res : Int32} (ih4 : ∀ (x1 : Int32) (x2 : Int32) (x3 : Int32), rv4 x1 x2 x3 = some res → JW X 0 0 4 [some (.ref 0), some (.int x1), some (.int x2), some (.int x3)] [] (hTown G)) (x1 : Int32) (x2 : Int32) (x3 : Int32) (h : p_X3_chainLength_b33 N G rv4 x1 x2 x3 = some res) (hq : po (some (.int res)) (hTown G)) : JW X 0 0 33 [some (.ref 0), some (.int x1), some (.int x2), some (.int x3)] [] (hTown G) := by
  unfold p_X3_chainLength_b33 at h
  refine JW.r hM 19 2 (pc2 := 4) (L2 := [some (.ref 0), some (.int x1), some (.int x2), some (.int (x3 + 1))]) (st2 := []) (μ2 := (hTown G)) rfl trivial ?_
  exact ih4 x1 x2 (x3 + 1) h
set_option maxHeartbeats 4000000 in
set_option maxRecDepth 100000 in
theorem t_X3_chainLength_b4 {X : jX} {po : Option Value → jH → Prop} {px : String → jH → Prop} {sf : Bool} {B9 : Nat} (hM : jMX X kX3_chainLength RX3 tbX3 4 ⟨1, 0, 0, 21⟩ (some .int) 10) (hp : jPost X sf B9 po px) (N : Nat) (G : Nat → Nat → Int32) {res : Int32} : ∀ (n : Nat) (x1 : Int32) (x2 : Int32) (x3 : Int32) (h : p_X3_chainLength_b4 N G n x1 x2 x3 = some res) (hq : po (some (.int res)) (hTown G)), JW X 0 0 4 [some (.ref 0), some (.int x1), some (.int x2), some (.int x3)] [] (hTown G) := by
  intro n
  induction n with
  | zero =>
    intro x1 x2 x3 h hq
    cases (show (none : Option (Int32)) = some res from h)
  | succ n ih4 =>
    intro x1 x2 x3 h hq
    have ih4 := fun x1 x2 x3 h9 => ih4 x1 x2 x3 h9 hq
    rw [p_X3_chainLength_b4] at h
    refine JW.r hM 4 3 (pc2 := 9) (L2 := [some (.ref 0), some (.int x1), some (.int x2), some (.int x3)]) (st2 := [.int (G 0 7), .int x3]) (μ2 := (hTown G)) rfl trivial ?_
    refine js_icge (t := 39) hM.1 (jat hM.2.1 7 rfl) rfl (fun hc6 => ?_) (fun hc6 => ?_)
    · have h := (if_pos hc6).symm.trans h
      refine JW.r hM 21 1 (pc2 := 40) (L2 := [some (.ref 0), some (.int x1), some (.int x2), some (.int x3)]) (st2 := [.int x2]) (μ2 := (hTown G)) rfl trivial ?_
      cases h
      exact js_iret hM.1 hp hM.2.2.2.2.2.2.2.1 (by rw [hM.2.2.2.2.2.1]; exact Nat.le_of_ble_eq_true rfl) (by rw [hM.2.2.2.2.2.2.1]; exact Nat.le_of_ble_eq_true rfl) (jat hM.2.1 22 rfl) hq
    · have h := (if_neg hc6).symm.trans h
      obtain ⟨g1, h⟩ := jg h
      refine JW.r hM 8 5 (pc2 := 19) (L2 := [some (.ref 0), some (.int x1), some (.int x2), some (.int x3)]) (st2 := [.int x1, .int (G 4 x3.toNatClampNeg)]) (μ2 := (hTown G)) rfl ⟨g1, trivial⟩ ?_
      refine js_icne (t := 33) hM.1 (jat hM.2.1 13 rfl) rfl (fun hc5 => ?_) (fun hc5 => ?_)
      · have h := (if_neg hc5).symm.trans h
        exact t_X3_chainLength_b33 hM hp N G (p_X3_chainLength_b4 N G n) ih4 x1 x2 x3 h hq
      · have h := (if_pos hc5).symm.trans h
        refine JW.r hM 14 2 (pc2 := 24) (L2 := [some (.ref 0), some (.int x1), some (.int x2), some (.int x3)]) (st2 := [.int x3, .ref 0]) (μ2 := (hTown G)) rfl trivial ?_
        obtain ⟨v3, hv2, h⟩ := jbd h
        refine JW.cV (v := some (.int v3)) hM (m_X3_stands (jVX X) hM.1.2.2.2.2.2.2.2.2.2.1 N G x3 v3 hv2) (sb_Town_Town_0 G) (bi_Town_Town_0 G) rfl rfl rfl kc_X3_80 rfl rfl rfl rfl rfl (jat hM.2.1 16 rfl) (st := []) rfl ?_
        show JW X 0 0 27 [some (.ref 0), some (.int x1), some (.int x2), some (.int x3)] [.int v3] (hTown G)
        refine js_ifeq (t := 33) hM.1 (jat hM.2.1 17 rfl) rfl (fun hc4 => ?_) (fun hc4 => ?_)
        · have h := (if_pos hc4).symm.trans h
          exact t_X3_chainLength_b33 hM hp N G (p_X3_chainLength_b4 N G n) ih4 x1 x2 x3 h hq
        · have h := (if_neg hc4).symm.trans h
          refine JW.r hM 18 1 (pc2 := 33) (L2 := [some (.ref 0), some (.int x1), some (.int (x2 + 1)), some (.int x3)]) (st2 := []) (μ2 := (hTown G)) rfl trivial ?_
          exact t_X3_chainLength_b33 hM hp N G (p_X3_chainLength_b4 N G n) ih4 x1 (x2 + 1) x3 h hq
set_option maxHeartbeats 4000000 in
set_option maxRecDepth 100000 in
theorem t_X3_chainLength {X : jX} {po : Option Value → jH → Prop} {px : String → jH → Prop} {sf : Bool} {B9 : Nat} (hM : jMX X kX3_chainLength RX3 tbX3 4 ⟨1, 0, 0, 21⟩ (some .int) 10) (hp : jPost X sf B9 po px) (N : Nat) (G : Nat → Nat → Int32) (p0 : Int32) {res : Int32} (h : p_X3_chainLength N G p0 = some res) (hq : po (some (.int res)) (hTown G)) : JW X 0 0 0 [some (.ref 0), some (.int p0), none, none] [] (hTown G) := by
  unfold p_X3_chainLength at h
  refine JW.r hM 0 4 (pc2 := 4) (L2 := [some (.ref 0), some (.int p0), some (.int (0 : Int32)), some (.int (0 : Int32))]) (st2 := []) (μ2 := (hTown G)) rfl trivial ?_
  exact t_X3_chainLength_b4 hM hp N G N p0 (0 : Int32) (0 : Int32) h hq
theorem m_X3_chainLength (V : jV) (hV : V.1.stackTraces = false) (N : Nat) (G : Nat → Nat → Int32) (p0 : Int32) (v : Int32) (h : p_X3_chainLength N G p0 = some v) : jMet V yX3_chainLength (jws yX3_chainLength cX3_chainLength 4 (some .int)) ⟨1, 0, 0, 21⟩ true 1 [.ref 0, .int p0] (hTown G) (fun o ν => o = some (.int v) ∧ ν = (hTown G)) (fun _ _ => False) := by
  refine jmk (tb := tbX3) (C := kX3_chainLength) hV rfl (by decide) tbX3_ok rfl kX3_chainLength_ok rfl ?_
  intro X hM _ hp _
  exact t_X3_chainLength hM hp N G p0 h ⟨rfl, rfl⟩
def p_X3_wants (N : Nat) (G : Nat → Nat → Int32) (p0 : Int32) (p1 : Int32) : Option (Int32) :=
  if jin p0 10 = true then if jin p1 10 = true then if (G 2 p0.toNatClampNeg) = (G 2 p1.toNatClampNeg) then (some (0 : Int32)) else ((p_X3_isEaten N G p0).bind (fun v4 => if v4 = 0 then ((p_X3_isEaten N G p1).bind (fun v6 => if v6 = 0 then ((p_X3_worthTo N G p1 (G 2 p0.toNatClampNeg)).bind (fun v8 => (p_X3_worthTo N G p0 (G 2 p0.toNatClampNeg)).bind (fun v10 => if v8 ≤ v10 then (some (0 : Int32)) else (some (1 : Int32))))) else (some (0 : Int32)))) else (some (0 : Int32)))) else none else none
set_option maxHeartbeats 4000000 in
set_option maxRecDepth 100000 in
theorem t_X3_wants {X : jX} {po : Option Value → jH → Prop} {px : String → jH → Prop} {sf : Bool} {B9 : Nat} (hM : jMX X kX3_wants RX3 tbX3 4 ⟨1, 0, 0, 22⟩ (some .boolean) 10) (hp : jPost X sf B9 po px) (N : Nat) (G : Nat → Nat → Int32) (p0 : Int32) (p1 : Int32) {res : Int32} (h : p_X3_wants N G p0 p1 = some res) (hq : po (some (.int res)) (hTown G)) : JW X 0 0 0 [some (.ref 0), some (.int p0), some (.int p1), none] [] (hTown G) := by
  unfold p_X3_wants at h
  obtain ⟨g1, h⟩ := jg h
  obtain ⟨g2, h⟩ := jg h
  refine JW.r hM 0 10 (pc2 := 14) (L2 := [some (.ref 0), some (.int p0), some (.int p1), some (.int (G 2 p0.toNatClampNeg))]) (st2 := [.int (G 2 p1.toNatClampNeg), .int (G 2 p0.toNatClampNeg)]) (μ2 := (hTown G)) rfl ⟨g1, g2, trivial⟩ ?_
  refine js_iceq (t := 52) hM.1 (jat hM.2.1 10 rfl) rfl (fun hc14 => ?_) (fun hc14 => ?_)
  · have h := (if_pos hc14).symm.trans h
    refine JW.r hM 30 1 (pc2 := 53) (L2 := [some (.ref 0), some (.int p0), some (.int p1), some (.int (G 2 p0.toNatClampNeg))]) (st2 := [.int (0 : Int32)]) (μ2 := (hTown G)) rfl trivial ?_
    cases h
    exact js_zret hM.1 hp hM.2.2.2.2.2.2.2.1 rfl (by rw [hM.2.2.2.2.2.1]; exact Nat.le_of_ble_eq_true rfl) (by rw [hM.2.2.2.2.2.2.1]; exact Nat.le_of_ble_eq_true rfl) (jat hM.2.1 31 rfl) hq
  · have h := (if_neg hc14).symm.trans h
    refine JW.r hM 11 2 (pc2 := 19) (L2 := [some (.ref 0), some (.int p0), some (.int p1), some (.int (G 2 p0.toNatClampNeg))]) (st2 := [.int p0, .ref 0]) (μ2 := (hTown G)) rfl trivial ?_
    obtain ⟨v4, hv3, h⟩ := jbd h
    refine JW.cV (v := some (.int v4)) hM (m_X3_isEaten (jVX X) hM.1.2.2.2.2.2.2.2.2.2.1 N G p0 v4 hv3) (sb_Town_Town_0 G) (bi_Town_Town_0 G) rfl rfl rfl kc_X3_84 rfl rfl rfl rfl rfl (jat hM.2.1 13 rfl) (st := []) rfl ?_
    show JW X 0 0 22 [some (.ref 0), some (.int p0), some (.int p1), some (.int (G 2 p0.toNatClampNeg))] [.int v4] (hTown G)
    refine js_ifne (t := 52) hM.1 (jat hM.2.1 14 rfl) rfl (fun hc13 => ?_) (fun hc13 => ?_)
    · have h := (if_neg hc13).symm.trans h
      refine JW.r hM 30 1 (pc2 := 53) (L2 := [some (.ref 0), some (.int p0), some (.int p1), some (.int (G 2 p0.toNatClampNeg))]) (st2 := [.int (0 : Int32)]) (μ2 := (hTown G)) rfl trivial ?_
      cases h
      exact js_zret hM.1 hp hM.2.2.2.2.2.2.2.1 rfl (by rw [hM.2.2.2.2.2.1]; exact Nat.le_of_ble_eq_true rfl) (by rw [hM.2.2.2.2.2.2.1]; exact Nat.le_of_ble_eq_true rfl) (jat hM.2.1 31 rfl) hq
    · have h := (if_pos hc13).symm.trans h
      refine JW.r hM 15 2 (pc2 := 27) (L2 := [some (.ref 0), some (.int p0), some (.int p1), some (.int (G 2 p0.toNatClampNeg))]) (st2 := [.int p1, .ref 0]) (μ2 := (hTown G)) rfl trivial ?_
      obtain ⟨v6, hv5, h⟩ := jbd h
      refine JW.cV (v := some (.int v6)) hM (m_X3_isEaten (jVX X) hM.1.2.2.2.2.2.2.2.2.2.1 N G p1 v6 hv5) (sb_Town_Town_0 G) (bi_Town_Town_0 G) rfl rfl rfl kc_X3_84 rfl rfl rfl rfl rfl (jat hM.2.1 17 rfl) (st := []) rfl ?_
      show JW X 0 0 30 [some (.ref 0), some (.int p0), some (.int p1), some (.int (G 2 p0.toNatClampNeg))] [.int v6] (hTown G)
      refine js_ifne (t := 52) hM.1 (jat hM.2.1 18 rfl) rfl (fun hc12 => ?_) (fun hc12 => ?_)
      · have h := (if_neg hc12).symm.trans h
        refine JW.r hM 30 1 (pc2 := 53) (L2 := [some (.ref 0), some (.int p0), some (.int p1), some (.int (G 2 p0.toNatClampNeg))]) (st2 := [.int (0 : Int32)]) (μ2 := (hTown G)) rfl trivial ?_
        cases h
        exact js_zret hM.1 hp hM.2.2.2.2.2.2.2.1 rfl (by rw [hM.2.2.2.2.2.1]; exact Nat.le_of_ble_eq_true rfl) (by rw [hM.2.2.2.2.2.2.1]; exact Nat.le_of_ble_eq_true rfl) (jat hM.2.1 31 rfl) hq
      · have h := (if_pos hc12).symm.trans h
        refine JW.r hM 19 3 (pc2 := 36) (L2 := [some (.ref 0), some (.int p0), some (.int p1), some (.int (G 2 p0.toNatClampNeg))]) (st2 := [.int (G 2 p0.toNatClampNeg), .int p1, .ref 0]) (μ2 := (hTown G)) rfl trivial ?_
        obtain ⟨v8, hv7, h⟩ := jbd h
        refine JW.cV (v := some (.int v8)) hM (m_X3_worthTo (jVX X) hM.1.2.2.2.2.2.2.2.2.2.1 N G p1 (G 2 p0.toNatClampNeg) v8 hv7) (sb_Town_Town_0 G) (bi_Town_Town_0 G) rfl rfl rfl kc_X3_90 rfl rfl rfl rfl rfl (jat hM.2.1 22 rfl) (st := []) rfl ?_
        show JW X 0 0 39 [some (.ref 0), some (.int p0), some (.int p1), some (.int (G 2 p0.toNatClampNeg))] [.int v8] (hTown G)
        refine JW.r hM 23 3 (pc2 := 42) (L2 := [some (.ref 0), some (.int p0), some (.int p1), some (.int (G 2 p0.toNatClampNeg))]) (st2 := [.int (G 2 p0.toNatClampNeg), .int p0, .ref 0, .int v8]) (μ2 := (hTown G)) rfl trivial ?_
        obtain ⟨v10, hv9, h⟩ := jbd h
        refine JW.cV (v := some (.int v10)) hM (m_X3_worthTo (jVX X) hM.1.2.2.2.2.2.2.2.2.2.1 N G p0 (G 2 p0.toNatClampNeg) v10 hv9) (sb_Town_Town_0 G) (bi_Town_Town_0 G) rfl rfl rfl kc_X3_90 rfl rfl rfl rfl rfl (jat hM.2.1 26 rfl) (st := [.int v8]) rfl ?_
        show JW X 0 0 45 [some (.ref 0), some (.int p0), some (.int p1), some (.int (G 2 p0.toNatClampNeg))] [.int v10, .int v8] (hTown G)
        refine js_icle (t := 52) hM.1 (jat hM.2.1 27 rfl) rfl (fun hc11 => ?_) (fun hc11 => ?_)
        · have h := (if_pos hc11).symm.trans h
          refine JW.r hM 30 1 (pc2 := 53) (L2 := [some (.ref 0), some (.int p0), some (.int p1), some (.int (G 2 p0.toNatClampNeg))]) (st2 := [.int (0 : Int32)]) (μ2 := (hTown G)) rfl trivial ?_
          cases h
          exact js_zret hM.1 hp hM.2.2.2.2.2.2.2.1 rfl (by rw [hM.2.2.2.2.2.1]; exact Nat.le_of_ble_eq_true rfl) (by rw [hM.2.2.2.2.2.2.1]; exact Nat.le_of_ble_eq_true rfl) (jat hM.2.1 31 rfl) hq
        · have h := (if_neg hc11).symm.trans h
          refine JW.r hM 28 2 (pc2 := 53) (L2 := [some (.ref 0), some (.int p0), some (.int p1), some (.int (G 2 p0.toNatClampNeg))]) (st2 := [.int (1 : Int32)]) (μ2 := (hTown G)) rfl trivial ?_
          cases h
          exact js_zret hM.1 hp hM.2.2.2.2.2.2.2.1 rfl (by rw [hM.2.2.2.2.2.1]; exact Nat.le_of_ble_eq_true rfl) (by rw [hM.2.2.2.2.2.2.1]; exact Nat.le_of_ble_eq_true rfl) (jat hM.2.1 31 rfl) hq
theorem m_X3_wants (V : jV) (hV : V.1.stackTraces = false) (N : Nat) (G : Nat → Nat → Int32) (p0 : Int32) (p1 : Int32) (v : Int32) (h : p_X3_wants N G p0 p1 = some v) : jMet V yX3_wants (jws yX3_wants cX3_wants 4 (some .boolean)) ⟨1, 0, 0, 22⟩ true 1 [.ref 0, .int p0, .int p1] (hTown G) (fun o ν => o = some (.int v) ∧ ν = (hTown G)) (fun _ _ => False) := by
  refine jmk (tb := tbX3) (C := kX3_wants) hV rfl (by decide) tbX3_ok rfl kX3_wants_ok rfl ?_
  intro X hM _ hp _
  exact t_X3_wants hM hp N G p0 p1 h ⟨rfl, rfl⟩
def p_X3_isRing (N : Nat) (G : Nat → Nat → Int32) (p0 : Int32) (p1 : Int32) (p2 : Int32) : Option (Int32) :=
  (p_X3_wants N G p0 p1).bind (fun v2 => if v2 = 0 then (some (0 : Int32)) else ((p_X3_wants N G p1 p2).bind (fun v4 => if v4 = 0 then (some (0 : Int32)) else ((p_X3_wants N G p2 p0).bind (fun v6 => if v6 = 0 then (some (0 : Int32)) else (some (1 : Int32)))))))
set_option maxHeartbeats 4000000 in
set_option maxRecDepth 100000 in
theorem t_X3_isRing {X : jX} {po : Option Value → jH → Prop} {px : String → jH → Prop} {sf : Bool} {B9 : Nat} (hM : jMX X kX3_isRing RX3 tbX3 4 ⟨2, 0, 0, 45⟩ (some .boolean) 10) (hp : jPost X sf B9 po px) (N : Nat) (G : Nat → Nat → Int32) (p0 : Int32) (p1 : Int32) (p2 : Int32) {res : Int32} (h : p_X3_isRing N G p0 p1 p2 = some res) (hq : po (some (.int res)) (hTown G)) : JW X 0 0 0 [some (.ref 0), some (.int p0), some (.int p1), some (.int p2)] [] (hTown G) := by
  unfold p_X3_isRing at h
  refine JW.r hM 0 3 (pc2 := 3) (L2 := [some (.ref 0), some (.int p0), some (.int p1), some (.int p2)]) (st2 := [.int p1, .int p0, .ref 0]) (μ2 := (hTown G)) rfl trivial ?_
  obtain ⟨v2, hv1, h⟩ := jbd h
  refine JW.cV (v := some (.int v2)) hM (m_X3_wants (jVX X) hM.1.2.2.2.2.2.2.2.2.2.1 N G p0 p1 v2 hv1) (sb_Town_Town_0 G) (bi_Town_Town_0 G) rfl rfl rfl kc_X3_158 rfl rfl rfl rfl rfl (jat hM.2.1 3 rfl) (st := []) rfl ?_
  show JW X 0 0 6 [some (.ref 0), some (.int p0), some (.int p1), some (.int p2)] [.int v2] (hTown G)
  refine js_ifeq (t := 31) hM.1 (jat hM.2.1 4 rfl) rfl (fun hc9 => ?_) (fun hc9 => ?_)
  · have h := (if_pos hc9).symm.trans h
    refine JW.r hM 17 1 (pc2 := 32) (L2 := [some (.ref 0), some (.int p0), some (.int p1), some (.int p2)]) (st2 := [.int (0 : Int32)]) (μ2 := (hTown G)) rfl trivial ?_
    cases h
    exact js_zret hM.1 hp hM.2.2.2.2.2.2.2.1 rfl (by rw [hM.2.2.2.2.2.1]; exact Nat.le_of_ble_eq_true rfl) (by rw [hM.2.2.2.2.2.2.1]; exact Nat.le_of_ble_eq_true rfl) (jat hM.2.1 18 rfl) hq
  · have h := (if_neg hc9).symm.trans h
    refine JW.r hM 5 3 (pc2 := 12) (L2 := [some (.ref 0), some (.int p0), some (.int p1), some (.int p2)]) (st2 := [.int p2, .int p1, .ref 0]) (μ2 := (hTown G)) rfl trivial ?_
    obtain ⟨v4, hv3, h⟩ := jbd h
    refine JW.cV (v := some (.int v4)) hM (m_X3_wants (jVX X) hM.1.2.2.2.2.2.2.2.2.2.1 N G p1 p2 v4 hv3) (sb_Town_Town_0 G) (bi_Town_Town_0 G) rfl rfl rfl kc_X3_158 rfl rfl rfl rfl rfl (jat hM.2.1 8 rfl) (st := []) rfl ?_
    show JW X 0 0 15 [some (.ref 0), some (.int p0), some (.int p1), some (.int p2)] [.int v4] (hTown G)
    refine js_ifeq (t := 31) hM.1 (jat hM.2.1 9 rfl) rfl (fun hc8 => ?_) (fun hc8 => ?_)
    · have h := (if_pos hc8).symm.trans h
      refine JW.r hM 17 1 (pc2 := 32) (L2 := [some (.ref 0), some (.int p0), some (.int p1), some (.int p2)]) (st2 := [.int (0 : Int32)]) (μ2 := (hTown G)) rfl trivial ?_
      cases h
      exact js_zret hM.1 hp hM.2.2.2.2.2.2.2.1 rfl (by rw [hM.2.2.2.2.2.1]; exact Nat.le_of_ble_eq_true rfl) (by rw [hM.2.2.2.2.2.2.1]; exact Nat.le_of_ble_eq_true rfl) (jat hM.2.1 18 rfl) hq
    · have h := (if_neg hc8).symm.trans h
      refine JW.r hM 10 3 (pc2 := 21) (L2 := [some (.ref 0), some (.int p0), some (.int p1), some (.int p2)]) (st2 := [.int p0, .int p2, .ref 0]) (μ2 := (hTown G)) rfl trivial ?_
      obtain ⟨v6, hv5, h⟩ := jbd h
      refine JW.cV (v := some (.int v6)) hM (m_X3_wants (jVX X) hM.1.2.2.2.2.2.2.2.2.2.1 N G p2 p0 v6 hv5) (sb_Town_Town_0 G) (bi_Town_Town_0 G) rfl rfl rfl kc_X3_158 rfl rfl rfl rfl rfl (jat hM.2.1 13 rfl) (st := []) rfl ?_
      show JW X 0 0 24 [some (.ref 0), some (.int p0), some (.int p1), some (.int p2)] [.int v6] (hTown G)
      refine js_ifeq (t := 31) hM.1 (jat hM.2.1 14 rfl) rfl (fun hc7 => ?_) (fun hc7 => ?_)
      · have h := (if_pos hc7).symm.trans h
        refine JW.r hM 17 1 (pc2 := 32) (L2 := [some (.ref 0), some (.int p0), some (.int p1), some (.int p2)]) (st2 := [.int (0 : Int32)]) (μ2 := (hTown G)) rfl trivial ?_
        cases h
        exact js_zret hM.1 hp hM.2.2.2.2.2.2.2.1 rfl (by rw [hM.2.2.2.2.2.1]; exact Nat.le_of_ble_eq_true rfl) (by rw [hM.2.2.2.2.2.2.1]; exact Nat.le_of_ble_eq_true rfl) (jat hM.2.1 18 rfl) hq
      · have h := (if_neg hc7).symm.trans h
        refine JW.r hM 15 2 (pc2 := 32) (L2 := [some (.ref 0), some (.int p0), some (.int p1), some (.int p2)]) (st2 := [.int (1 : Int32)]) (μ2 := (hTown G)) rfl trivial ?_
        cases h
        exact js_zret hM.1 hp hM.2.2.2.2.2.2.2.1 rfl (by rw [hM.2.2.2.2.2.1]; exact Nat.le_of_ble_eq_true rfl) (by rw [hM.2.2.2.2.2.2.1]; exact Nat.le_of_ble_eq_true rfl) (jat hM.2.1 18 rfl) hq
theorem m_X3_isRing (V : jV) (hV : V.1.stackTraces = false) (N : Nat) (G : Nat → Nat → Int32) (p0 : Int32) (p1 : Int32) (p2 : Int32) (v : Int32) (h : p_X3_isRing N G p0 p1 p2 = some v) : jMet V yX3_isRing (jws yX3_isRing cX3_isRing 4 (some .boolean)) ⟨2, 0, 0, 45⟩ true 1 [.ref 0, .int p0, .int p1, .int p2] (hTown G) (fun o ν => o = some (.int v) ∧ ν = (hTown G)) (fun _ _ => False) := by
  refine jmk (tb := tbX3) (C := kX3_isRing) hV rfl (by decide) tbX3_ok rfl kX3_isRing_ok rfl ?_
  intro X hM _ hp _
  exact t_X3_isRing hM hp N G p0 p1 p2 h ⟨rfl, rfl⟩
def p_X3_copyFrom (N : Nat) (G : Nat → Nat → Int32) : Option ((Nat → Nat → Int32)) :=
  jlt (jup G 0 0 (G 9 0)) fun G1 => jlt (jup G1 0 1 (G1 9 1)) fun G3 => jlt (jup G3 0 2 (G3 9 2)) fun G5 => jlt (jup G5 0 3 (G5 9 3)) fun G7 => jlt (jup G7 0 4 (G7 9 4)) fun G9 => jlt (jup G9 0 5 (G9 9 5)) fun G11 => jlt (jup G11 0 6 (G11 9 6)) fun G13 => jlt (jup G13 0 7 (G13 9 7)) fun G15 => jlt (jup G15 0 8 (G15 9 8)) fun G17 => jlt (jcp G17 1 10 6) fun G19 => jlt (jcp G19 2 11 10) fun G21 => jlt (jcp G21 3 12 60) fun G23 => jlt (jcp G23 4 13 30) fun G25 => jlt (jcp G25 5 14 30) fun G27 => jlt (jcp G27 6 15 30) fun G29 => jlt (jcp G29 7 16 30) fun G31 => jlt (jcp G31 8 17 30) fun G33 => some G33
set_option maxHeartbeats 4000000 in
set_option maxRecDepth 100000 in
theorem t_X3_copyFrom {X : jX} {po : Option Value → jH → Prop} {px : String → jH → Prop} {sf : Bool} {B9 : Nat} (hM : jMX X kX3_copyFrom RX3 tbX3 2 ⟨1, 0, 0, 68⟩ none 19) (hp : jPost X sf B9 po px) (N : Nat) (G : Nat → Nat → Int32) {res : (Nat → Nat → Int32)} (h : p_X3_copyFrom N G = some res) (hq : po none (hT2 res)) : JW X 0 0 0 [some (.ref 0), some (.ref 9)] [] (hT2 G) := by
  unfold p_X3_copyFrom at h
  obtain ⟨G1, e2, h⟩ := jlE h
  refine JW.r hM 0 4 (pc2 := 8) (L2 := [some (.ref 0), some (.ref 9)]) (st2 := []) (μ2 := (hT2 (jup G 0 0 (G 9 0)))) rfl trivial ?_
  rw [e2]
  obtain ⟨G3, e4, h⟩ := jlE h
  refine JW.r hM 4 4 (pc2 := 16) (L2 := [some (.ref 0), some (.ref 9)]) (st2 := []) (μ2 := (hT2 (jup G1 0 1 (G1 9 1)))) rfl trivial ?_
  rw [e4]
  obtain ⟨G5, e6, h⟩ := jlE h
  refine JW.r hM 8 4 (pc2 := 24) (L2 := [some (.ref 0), some (.ref 9)]) (st2 := []) (μ2 := (hT2 (jup G3 0 2 (G3 9 2)))) rfl trivial ?_
  rw [e6]
  obtain ⟨G7, e8, h⟩ := jlE h
  refine JW.r hM 12 4 (pc2 := 32) (L2 := [some (.ref 0), some (.ref 9)]) (st2 := []) (μ2 := (hT2 (jup G5 0 3 (G5 9 3)))) rfl trivial ?_
  rw [e8]
  obtain ⟨G9, e10, h⟩ := jlE h
  refine JW.r hM 16 4 (pc2 := 40) (L2 := [some (.ref 0), some (.ref 9)]) (st2 := []) (μ2 := (hT2 (jup G7 0 4 (G7 9 4)))) rfl trivial ?_
  rw [e10]
  obtain ⟨G11, e12, h⟩ := jlE h
  refine JW.r hM 20 4 (pc2 := 48) (L2 := [some (.ref 0), some (.ref 9)]) (st2 := []) (μ2 := (hT2 (jup G9 0 5 (G9 9 5)))) rfl trivial ?_
  rw [e12]
  obtain ⟨G13, e14, h⟩ := jlE h
  refine JW.r hM 24 4 (pc2 := 56) (L2 := [some (.ref 0), some (.ref 9)]) (st2 := []) (μ2 := (hT2 (jup G11 0 6 (G11 9 6)))) rfl trivial ?_
  rw [e14]
  obtain ⟨G15, e16, h⟩ := jlE h
  refine JW.r hM 28 4 (pc2 := 64) (L2 := [some (.ref 0), some (.ref 9)]) (st2 := []) (μ2 := (hT2 (jup G13 0 7 (G13 9 7)))) rfl trivial ?_
  rw [e16]
  obtain ⟨G17, e18, h⟩ := jlE h
  refine JW.r hM 32 4 (pc2 := 72) (L2 := [some (.ref 0), some (.ref 9)]) (st2 := []) (μ2 := (hT2 (jup G15 0 8 (G15 9 8)))) rfl trivial ?_
  rw [e18]
  refine JW.r hM 36 7 (pc2 := 84) (L2 := [some (.ref 0), some (.ref 9)]) (st2 := [.int (6 : Int32), .int (0 : Int32), .ref 1, .int (0 : Int32), .ref 10]) (μ2 := (hT2 G17)) rfl trivial ?_
  obtain ⟨G19, e20, h⟩ := jlE h
  refine js_copy (N := 6) hM.1 (by rw [hM.2.2.1]; exact cpw_X3_70) rfl rfl (by decide) rfl (jat hM.2.1 43 rfl) (by rw [hM.2.2.2.2.1]; exact Nat.le_of_ble_eq_true rfl) (by rw [hM.2.2.2.2.1]; exact Nat.le_of_ble_eq_true rfl) ?_
  show JW X 0 0 87 [some (.ref 0), some (.ref 9)] [] (hT2 (jcp G17 1 10 6))
  rw [e20]
  refine JW.r hM 44 7 (pc2 := 99) (L2 := [some (.ref 0), some (.ref 9)]) (st2 := [.int (10 : Int32), .int (0 : Int32), .ref 2, .int (0 : Int32), .ref 11]) (μ2 := (hT2 G19)) rfl trivial ?_
  obtain ⟨G21, e22, h⟩ := jlE h
  refine js_copy (N := 10) hM.1 (by rw [hM.2.2.1]; exact cpw_X3_70) rfl rfl (by decide) rfl (jat hM.2.1 51 rfl) (by rw [hM.2.2.2.2.1]; exact Nat.le_of_ble_eq_true rfl) (by rw [hM.2.2.2.2.1]; exact Nat.le_of_ble_eq_true rfl) ?_
  show JW X 0 0 102 [some (.ref 0), some (.ref 9)] [] (hT2 (jcp G19 2 11 10))
  rw [e22]
  refine JW.r hM 52 7 (pc2 := 114) (L2 := [some (.ref 0), some (.ref 9)]) (st2 := [.int (60 : Int32), .int (0 : Int32), .ref 3, .int (0 : Int32), .ref 12]) (μ2 := (hT2 G21)) rfl trivial ?_
  obtain ⟨G23, e24, h⟩ := jlE h
  refine js_copy (N := 60) hM.1 (by rw [hM.2.2.1]; exact cpw_X3_70) rfl rfl (by decide) rfl (jat hM.2.1 59 rfl) (by rw [hM.2.2.2.2.1]; exact Nat.le_of_ble_eq_true rfl) (by rw [hM.2.2.2.2.1]; exact Nat.le_of_ble_eq_true rfl) ?_
  show JW X 0 0 117 [some (.ref 0), some (.ref 9)] [] (hT2 (jcp G21 3 12 60))
  rw [e24]
  refine JW.r hM 60 7 (pc2 := 129) (L2 := [some (.ref 0), some (.ref 9)]) (st2 := [.int (30 : Int32), .int (0 : Int32), .ref 4, .int (0 : Int32), .ref 13]) (μ2 := (hT2 G23)) rfl trivial ?_
  obtain ⟨G25, e26, h⟩ := jlE h
  refine js_copy (N := 30) hM.1 (by rw [hM.2.2.1]; exact cpw_X3_70) rfl rfl (by decide) rfl (jat hM.2.1 67 rfl) (by rw [hM.2.2.2.2.1]; exact Nat.le_of_ble_eq_true rfl) (by rw [hM.2.2.2.2.1]; exact Nat.le_of_ble_eq_true rfl) ?_
  show JW X 0 0 132 [some (.ref 0), some (.ref 9)] [] (hT2 (jcp G23 4 13 30))
  rw [e26]
  refine JW.r hM 68 7 (pc2 := 144) (L2 := [some (.ref 0), some (.ref 9)]) (st2 := [.int (30 : Int32), .int (0 : Int32), .ref 5, .int (0 : Int32), .ref 14]) (μ2 := (hT2 G25)) rfl trivial ?_
  obtain ⟨G27, e28, h⟩ := jlE h
  refine js_copy (N := 30) hM.1 (by rw [hM.2.2.1]; exact cpw_X3_70) rfl rfl (by decide) rfl (jat hM.2.1 75 rfl) (by rw [hM.2.2.2.2.1]; exact Nat.le_of_ble_eq_true rfl) (by rw [hM.2.2.2.2.1]; exact Nat.le_of_ble_eq_true rfl) ?_
  show JW X 0 0 147 [some (.ref 0), some (.ref 9)] [] (hT2 (jcp G25 5 14 30))
  rw [e28]
  refine JW.r hM 76 7 (pc2 := 159) (L2 := [some (.ref 0), some (.ref 9)]) (st2 := [.int (30 : Int32), .int (0 : Int32), .ref 6, .int (0 : Int32), .ref 15]) (μ2 := (hT2 G27)) rfl trivial ?_
  obtain ⟨G29, e30, h⟩ := jlE h
  refine js_copy (N := 30) hM.1 (by rw [hM.2.2.1]; exact cpw_X3_70) rfl rfl (by decide) rfl (jat hM.2.1 83 rfl) (by rw [hM.2.2.2.2.1]; exact Nat.le_of_ble_eq_true rfl) (by rw [hM.2.2.2.2.1]; exact Nat.le_of_ble_eq_true rfl) ?_
  show JW X 0 0 162 [some (.ref 0), some (.ref 9)] [] (hT2 (jcp G27 6 15 30))
  rw [e30]
  refine JW.r hM 84 7 (pc2 := 174) (L2 := [some (.ref 0), some (.ref 9)]) (st2 := [.int (30 : Int32), .int (0 : Int32), .ref 7, .int (0 : Int32), .ref 16]) (μ2 := (hT2 G29)) rfl trivial ?_
  obtain ⟨G31, e32, h⟩ := jlE h
  refine js_copy (N := 30) hM.1 (by rw [hM.2.2.1]; exact cpw_X3_70) rfl rfl (by decide) rfl (jat hM.2.1 91 rfl) (by rw [hM.2.2.2.2.1]; exact Nat.le_of_ble_eq_true rfl) (by rw [hM.2.2.2.2.1]; exact Nat.le_of_ble_eq_true rfl) ?_
  show JW X 0 0 177 [some (.ref 0), some (.ref 9)] [] (hT2 (jcp G29 7 16 30))
  rw [e32]
  refine JW.r hM 92 7 (pc2 := 189) (L2 := [some (.ref 0), some (.ref 9)]) (st2 := [.int (30 : Int32), .int (0 : Int32), .ref 8, .int (0 : Int32), .ref 17]) (μ2 := (hT2 G31)) rfl trivial ?_
  obtain ⟨G33, e34, h⟩ := jlE h
  refine js_copy (N := 30) hM.1 (by rw [hM.2.2.1]; exact cpw_X3_70) rfl rfl (by decide) rfl (jat hM.2.1 99 rfl) (by rw [hM.2.2.2.2.1]; exact Nat.le_of_ble_eq_true rfl) (by rw [hM.2.2.2.2.1]; exact Nat.le_of_ble_eq_true rfl) ?_
  show JW X 0 0 192 [some (.ref 0), some (.ref 9)] [] (hT2 (jcp G31 8 17 30))
  rw [e34]
  cases h
  exact js_vret hM.1 hp hM.2.2.2.2.2.2.2.1 (by rw [hM.2.2.2.2.2.1]; exact Nat.le_of_ble_eq_true rfl) (by rw [hM.2.2.2.2.2.2.1]; exact Nat.le_of_ble_eq_true rfl) (jat hM.2.1 100 rfl) hq
theorem m_X3_copyFrom (V : jV) (hV : V.1.stackTraces = false) (N : Nat) (G : Nat → Nat → Int32) (v : (Nat → Nat → Int32)) (h : p_X3_copyFrom N G = some v) : jMet V yX3_copyFrom (jws yX3_copyFrom cX3_copyFrom 2 none) ⟨1, 0, 0, 68⟩ true 1 [.ref 0, .ref 9] (hT2 G) (fun o ν => o = none ∧ ν = (hT2 v)) (fun _ _ => False) := by
  refine jmk (tb := tbX3) (C := kX3_copyFrom) hV rfl (by decide) tbX3_ok rfl kX3_copyFrom_ok rfl ?_
  intro X hM _ hp _
  exact t_X3_copyFrom hM hp N G h ⟨rfl, rfl⟩

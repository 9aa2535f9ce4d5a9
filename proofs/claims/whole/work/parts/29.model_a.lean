def p_X6_thrown (N : Nat) (G : Nat → Nat → Int32) (J : Nat → Nat → Int64) : Option (Int32) :=
  some (G 0 5)
set_option maxHeartbeats 4000000 in
set_option maxRecDepth 100000 in
theorem t_X6_thrown {X : jX} {po : Option Value → jH → Prop} {px : String → jH → Prop} {sf : Bool} {B9 : Nat} (hM : jMX X kX6_thrown RX6 tbX6 1 ⟨0, 0, 0, 0⟩ (some .int) 16) (hp : jPost X sf B9 po px) (N : Nat) (G : Nat → Nat → Int32) (J : Nat → Nat → Int64) {res : Int32} (h : p_X6_thrown N G J = some res) (hq : po (some (.int res)) (hMo G J)) : JW X 0 0 0 [some (.ref 0)] [] (hMo G J) := by
  unfold p_X6_thrown at h
  refine JW.r hM 0 2 (pc2 := 4) (L2 := [some (.ref 0)]) (st2 := [.int (G 0 5)]) (μ2 := (hMo G J)) rfl trivial ?_
  obtain rfl := Option.some.inj h
  exact js_iret hM.1 hp hM.2.2.2.2.2.2.2.1 (by rw [hM.2.2.2.2.2.1]; exact Nat.le_of_ble_eq_true rfl) (by rw [hM.2.2.2.2.2.2.1]; exact Nat.le_of_ble_eq_true rfl) (jat hM.2.1 2 rfl) hq
theorem m_X6_thrown (V : jV) (hV : V.1.stackTraces = false) (N : Nat) (G : Nat → Nat → Int32) (J : Nat → Nat → Int64) (v : Int32) (h : p_X6_thrown N G J = some v) : jMet V yX6_thrown (jws yX6_thrown cX6_thrown 1 (some .int)) ⟨0, 0, 0, 0⟩ true 1 [.ref 0] (hMo G J) (fun o ν => o = some (.int v) ∧ ν = (hMo G J)) (fun _ _ => False) := by
  refine jmk (tb := tbX6) (C := kX6_thrown) hV rfl (by decide) tbX6_ok rfl kX6_thrown_ok rfl ?_
  intro X hM _ hp _
  exact t_X6_thrown hM hp N G J h ⟨rfl, rfl⟩
def p_X6_fails (N : Nat) (G : Nat → Nat → Int32) (J : Nat → Nat → Int64) (p0 : Int32) : Option (Int32 × (Nat → Nat → Int32)) :=
  jlt (jup G 0 5 p0) fun G1 => some ((0 : Int32), G1)
set_option maxHeartbeats 4000000 in
set_option maxRecDepth 100000 in
theorem t_X6_fails {X : jX} {po : Option Value → jH → Prop} {px : String → jH → Prop} {sf : Bool} {B9 : Nat} (hM : jMX X kX6_fails RX6 tbX6 2 ⟨0, 0, 0, 0⟩ (some .int) 16) (hp : jPost X sf B9 po px) (N : Nat) (G : Nat → Nat → Int32) (J : Nat → Nat → Int64) (p0 : Int32) {res : Int32 × (Nat → Nat → Int32)} (h : p_X6_fails N G J p0 = some res) (hq : po (some (.int res.1)) (hMo res.2 J)) : JW X 0 0 0 [some (.ref 0), some (.int p0)] [] (hMo G J) := by
  unfold p_X6_fails at h
  obtain ⟨G1, e2, h⟩ := jlE h
  refine JW.r hM 0 3 (pc2 := 5) (L2 := [some (.ref 0), some (.int p0)]) (st2 := []) (μ2 := (hMo (jup G 0 5 p0) J)) rfl trivial ?_
  rw [e2]
  refine JW.r hM 3 1 (pc2 := 6) (L2 := [some (.ref 0), some (.int p0)]) (st2 := [.int (0 : Int32)]) (μ2 := (hMo G1 J)) rfl trivial ?_
  obtain rfl := Option.some.inj h
  exact js_iret hM.1 hp hM.2.2.2.2.2.2.2.1 (by rw [hM.2.2.2.2.2.1]; exact Nat.le_of_ble_eq_true rfl) (by rw [hM.2.2.2.2.2.2.1]; exact Nat.le_of_ble_eq_true rfl) (jat hM.2.1 4 rfl) hq
theorem m_X6_fails (V : jV) (hV : V.1.stackTraces = false) (N : Nat) (G : Nat → Nat → Int32) (J : Nat → Nat → Int64) (p0 : Int32) (v : Int32 × (Nat → Nat → Int32)) (h : p_X6_fails N G J p0 = some v) : jMet V yX6_fails (jws yX6_fails cX6_fails 2 (some .int)) ⟨0, 0, 0, 0⟩ true 1 [.ref 0, .int p0] (hMo G J) (fun o ν => o = some (.int v.1) ∧ ν = (hMo v.2 J)) (fun _ _ => False) := by
  refine jmk (tb := tbX6) (C := kX6_fails) hV rfl (by decide) tbX6_ok rfl kX6_fails_ok rfl ?_
  intro X hM _ hp _
  exact t_X6_fails hM hp N G J p0 h ⟨rfl, rfl⟩
def p_X6_within (N : Nat) (p0 : Int64) (p1 : Int64) (p2 : Int64) : Option (Int32) :=
  if (lg_cmp p0 p1) < 0 then (some (0 : Int32)) else (if 0 < (lg_cmp p0 p2) then (some (0 : Int32)) else (some (1 : Int32)))
set_option maxHeartbeats 4000000 in
set_option maxRecDepth 100000 in
theorem t_X6_within {X : jX} {po : Option Value → jH → Prop} {px : String → jH → Prop} {sf : Bool} {B9 : Nat} (hM : jMX X kX6_within RX6 tbX6 6 ⟨0, 0, 0, 0⟩ (some .boolean) 1) (hp : jPost X sf B9 po px) (N : Nat) (p0 : Int64) (p1 : Int64) (p2 : Int64) {res : Int32} (h : p_X6_within N p0 p1 p2 = some res) (hq : po (some (.int res)) hE) : JW X 0 0 0 [some (.long p0), none, some (.long p1), none, some (.long p2), none] [] hE := by
  unfold p_X6_within at h
  refine JW.r hM 0 3 (pc2 := 3) (L2 := [some (.long p0), none, some (.long p1), none, some (.long p2), none]) (st2 := [.int (lg_cmp p0 p1)]) (μ2 := hE) rfl trivial ?_
  refine js_iflt (t := 17) hM.1 (jat hM.2.1 3 rfl) rfl (fun hc2 => ?_) (fun hc2 => ?_)
  · have h := (if_pos hc2).symm.trans h
    refine JW.r hM 10 1 (pc2 := 18) (L2 := [some (.long p0), none, some (.long p1), none, some (.long p2), none]) (st2 := [.int (0 : Int32)]) (μ2 := hE) rfl trivial ?_
    obtain rfl := Option.some.inj h
    exact js_zret hM.1 hp hM.2.2.2.2.2.2.2.1 rfl (by rw [hM.2.2.2.2.2.1]; exact Nat.le_of_ble_eq_true rfl) (by rw [hM.2.2.2.2.2.2.1]; exact Nat.le_of_ble_eq_true rfl) (jat hM.2.1 11 rfl) hq
  · have h := (if_neg hc2).symm.trans h
    refine JW.r hM 4 3 (pc2 := 10) (L2 := [some (.long p0), none, some (.long p1), none, some (.long p2), none]) (st2 := [.int (lg_cmp p0 p2)]) (μ2 := hE) rfl trivial ?_
    refine js_ifgt (t := 17) hM.1 (jat hM.2.1 7 rfl) rfl (fun hc1 => ?_) (fun hc1 => ?_)
    · have h := (if_pos hc1).symm.trans h
      refine JW.r hM 10 1 (pc2 := 18) (L2 := [some (.long p0), none, some (.long p1), none, some (.long p2), none]) (st2 := [.int (0 : Int32)]) (μ2 := hE) rfl trivial ?_
      obtain rfl := Option.some.inj h
      exact js_zret hM.1 hp hM.2.2.2.2.2.2.2.1 rfl (by rw [hM.2.2.2.2.2.1]; exact Nat.le_of_ble_eq_true rfl) (by rw [hM.2.2.2.2.2.2.1]; exact Nat.le_of_ble_eq_true rfl) (jat hM.2.1 11 rfl) hq
    · have h := (if_neg hc1).symm.trans h
      refine JW.r hM 8 2 (pc2 := 18) (L2 := [some (.long p0), none, some (.long p1), none, some (.long p2), none]) (st2 := [.int (1 : Int32)]) (μ2 := hE) rfl trivial ?_
      obtain rfl := Option.some.inj h
      exact js_zret hM.1 hp hM.2.2.2.2.2.2.2.1 rfl (by rw [hM.2.2.2.2.2.1]; exact Nat.le_of_ble_eq_true rfl) (by rw [hM.2.2.2.2.2.2.1]; exact Nat.le_of_ble_eq_true rfl) (jat hM.2.1 11 rfl) hq
theorem m_X6_within (V : jV) (hV : V.1.stackTraces = false) (N : Nat) (p0 : Int64) (p1 : Int64) (p2 : Int64) (v : Int32) (h : p_X6_within N p0 p1 p2 = some v) : jMet V yX6_within (jws yX6_within cX6_within 6 (some .boolean)) ⟨0, 0, 0, 0⟩ true 1 [.long p0, .long p1, .long p2] hE (fun o ν => o = some (.int v) ∧ ν = hE) (fun _ _ => False) := by
  refine jmk (tb := tbX6) (C := kX6_within) hV rfl (by decide) tbX6_ok rfl kX6_within_ok rfl ?_
  intro X hM _ hp _
  exact t_X6_within hM hp N p0 p1 p2 h ⟨rfl, rfl⟩
def p_X6_copies_b2 (N : Nat) : Nat → (Nat → Nat → Int32) → (Int32) → Option ((Nat → Nat → Int32))
  | 0, _, _ => none
  | n + 1, G, x2 => if (264 : Int32) ≤ x2 then (some G) else (if jin x2 264 = true then if jin x2 264 = true then jlt (jup G 1 x2.toNatClampNeg (G 0 x2.toNatClampNeg)) fun G3 => (p_X6_copies_b2 N n) G3 (x2 + 1) else none else none)
def p_X6_copies (N : Nat) (G : Nat → Nat → Int32) : Option ((Nat → Nat → Int32)) :=
  p_X6_copies_b2 N N G (0 : Int32)
set_option maxHeartbeats 4000000 in
set_option maxRecDepth 100000 in
theorem t_X6_copies_b2 {X : jX} {po : Option Value → jH → Prop} {px : String → jH → Prop} {sf : Bool} {B9 : Nat} (hM : jMX X kX6_copies RX6 tbX6 3 ⟨0, 0, 0, 0⟩ none 3) (hp : jPost X sf B9 po px) (N : Nat) {res : (Nat → Nat → Int32)} : ∀ (n : Nat) (G : Nat → Nat → Int32) (x2 : Int32) (h : p_X6_copies_b2 N n G x2 = some res) (hq : po none (hB264 res)), JW X 0 0 2 [some (.ref 0), some (.ref 1), some (.int x2)] [] (hB264 G) := by
  intro n
  induction n with
  | zero =>
    intro G x2 h hq
    cases (show (none : Option ((Nat → Nat → Int32))) = some res from h)
  | succ n ih2 =>
    intro G x2 h hq
    have ih2 := fun G x2 h9 => ih2 G x2 h9 hq
    rw [p_X6_copies_b2] at h
    refine JW.r hM 2 2 (pc2 := 6) (L2 := [some (.ref 0), some (.ref 1), some (.int x2)]) (st2 := [.int (264 : Int32), .int x2]) (μ2 := (hB264 G)) rfl trivial ?_
    refine js_icge (t := 21) hM.1 (jat hM.2.1 4 rfl) rfl (fun hc5 => ?_) (fun hc5 => ?_)
    · have h := (if_pos hc5).symm.trans h
      obtain rfl := Option.some.inj h
      exact js_vret hM.1 hp hM.2.2.2.2.2.2.2.1 (by rw [hM.2.2.2.2.2.1]; exact Nat.le_of_ble_eq_true rfl) (by rw [hM.2.2.2.2.2.2.1]; exact Nat.le_of_ble_eq_true rfl) (jat hM.2.1 13 rfl) hq
    · have h := (if_neg hc5).symm.trans h
      obtain ⟨g1, h⟩ := jg h
      obtain ⟨g2, h⟩ := jg h
      obtain ⟨G3, e4, h⟩ := jlE h
      refine JW.r hM 5 6 (pc2 := 15) (L2 := [some (.ref 0), some (.ref 1), some (.int x2)]) (st2 := []) (μ2 := (hB264 (jup G 1 x2.toNatClampNeg (G 0 x2.toNatClampNeg)))) rfl ⟨g1, g2, trivial⟩ ?_
      rw [e4]
      refine JW.r hM 11 2 (pc2 := 2) (L2 := [some (.ref 0), some (.ref 1), some (.int (x2 + 1))]) (st2 := []) (μ2 := (hB264 G3)) rfl trivial ?_
      exact ih2 G3 (x2 + 1) h
set_option maxHeartbeats 4000000 in
set_option maxRecDepth 100000 in
theorem t_X6_copies {X : jX} {po : Option Value → jH → Prop} {px : String → jH → Prop} {sf : Bool} {B9 : Nat} (hM : jMX X kX6_copies RX6 tbX6 3 ⟨0, 0, 0, 0⟩ none 3) (hp : jPost X sf B9 po px) (N : Nat) (G : Nat → Nat → Int32) {res : (Nat → Nat → Int32)} (h : p_X6_copies N G = some res) (hq : po none (hB264 res)) : JW X 0 0 0 [some (.ref 0), some (.ref 1), none] [] (hB264 G) := by
  unfold p_X6_copies at h
  refine JW.r hM 0 2 (pc2 := 2) (L2 := [some (.ref 0), some (.ref 1), some (.int (0 : Int32))]) (st2 := []) (μ2 := (hB264 G)) rfl trivial ?_
  exact t_X6_copies_b2 hM hp N N G (0 : Int32) h hq
theorem m_X6_copies (V : jV) (hV : V.1.stackTraces = false) (N : Nat) (G : Nat → Nat → Int32) (v : (Nat → Nat → Int32)) (h : p_X6_copies N G = some v) : jMet V yX6_copies (jws yX6_copies cX6_copies 3 none) ⟨0, 0, 0, 0⟩ true 1 [.ref 0, .ref 1] (hB264 G) (fun o ν => o = none ∧ ν = (hB264 v)) (fun _ _ => False) := by
  refine jmk (tb := tbX6) (C := kX6_copies) hV rfl (by decide) tbX6_ok rfl kX6_copies_ok rfl ?_
  intro X hM _ hp _
  exact t_X6_copies hM hp N G h ⟨rfl, rfl⟩
def p_X6_begins_b2 (N : Nat) : Nat → (Nat → Nat → Int32) → (Int32) → Option ((Nat → Nat → Int32))
  | 0, _, _ => none
  | n + 1, G, x1 => if (264 : Int32) ≤ x1 then (jlt (jup G 0 4 (50 : Int32)) fun G1 => jlt (jup G1 0 5 (720 : Int32)) fun G3 => some G3) else (if jin x1 264 = true then jlt (jup G 0 x1.toNatClampNeg (0 : Int32)) fun G6 => (p_X6_begins_b2 N n) G6 (x1 + 1) else none)
def p_X6_begins (N : Nat) (G : Nat → Nat → Int32) : Option ((Nat → Nat → Int32)) :=
  p_X6_begins_b2 N N G (0 : Int32)
set_option maxHeartbeats 4000000 in
set_option maxRecDepth 100000 in
theorem t_X6_begins_b2 {X : jX} {po : Option Value → jH → Prop} {px : String → jH → Prop} {sf : Bool} {B9 : Nat} (hM : jMX X kX6_begins RX6 tbX6 2 ⟨0, 0, 0, 0⟩ none 2) (hp : jPost X sf B9 po px) (N : Nat) {res : (Nat → Nat → Int32)} : ∀ (n : Nat) (G : Nat → Nat → Int32) (x1 : Int32) (h : p_X6_begins_b2 N n G x1 = some res) (hq : po none (hA264 res)), JW X 0 0 2 [some (.ref 0), some (.int x1)] [] (hA264 G) := by
  intro n
  induction n with
  | zero =>
    intro G x1 h hq
    cases (show (none : Option ((Nat → Nat → Int32))) = some res from h)
  | succ n ih2 =>
    intro G x1 h hq
    have ih2 := fun G x1 h9 => ih2 G x1 h9 hq
    rw [p_X6_begins_b2] at h
    refine JW.r hM 2 2 (pc2 := 6) (L2 := [some (.ref 0), some (.int x1)]) (st2 := [.int (264 : Int32), .int x1]) (μ2 := (hA264 G)) rfl trivial ?_
    refine js_icge (t := 19) hM.1 (jat hM.2.1 4 rfl) rfl (fun hc8 => ?_) (fun hc8 => ?_)
    · have h := (if_pos hc8).symm.trans h
      obtain ⟨G1, e2, h⟩ := jlE h
      refine JW.r hM 11 4 (pc2 := 24) (L2 := [some (.ref 0), some (.int x1)]) (st2 := []) (μ2 := (hA264 (jup G 0 4 (50 : Int32)))) rfl ⟨rfl, trivial⟩ ?_
      rw [e2]
      obtain ⟨G3, e4, h⟩ := jlE h
      refine JW.r hM 15 4 (pc2 := 30) (L2 := [some (.ref 0), some (.int x1)]) (st2 := []) (μ2 := (hA264 (jup G1 0 5 (720 : Int32)))) rfl ⟨rfl, trivial⟩ ?_
      rw [e4]
      obtain rfl := Option.some.inj h
      exact js_vret hM.1 hp hM.2.2.2.2.2.2.2.1 (by rw [hM.2.2.2.2.2.1]; exact Nat.le_of_ble_eq_true rfl) (by rw [hM.2.2.2.2.2.2.1]; exact Nat.le_of_ble_eq_true rfl) (jat hM.2.1 19 rfl) hq
    · have h := (if_neg hc8).symm.trans h
      obtain ⟨g5, h⟩ := jg h
      obtain ⟨G6, e7, h⟩ := jlE h
      refine JW.r hM 5 4 (pc2 := 13) (L2 := [some (.ref 0), some (.int x1)]) (st2 := []) (μ2 := (hA264 (jup G 0 x1.toNatClampNeg (0 : Int32)))) rfl ⟨g5, trivial⟩ ?_
      rw [e7]
      refine JW.r hM 9 2 (pc2 := 2) (L2 := [some (.ref 0), some (.int (x1 + 1))]) (st2 := []) (μ2 := (hA264 G6)) rfl trivial ?_
      exact ih2 G6 (x1 + 1) h
set_option maxHeartbeats 4000000 in
set_option maxRecDepth 100000 in
theorem t_X6_begins {X : jX} {po : Option Value → jH → Prop} {px : String → jH → Prop} {sf : Bool} {B9 : Nat} (hM : jMX X kX6_begins RX6 tbX6 2 ⟨0, 0, 0, 0⟩ none 2) (hp : jPost X sf B9 po px) (N : Nat) (G : Nat → Nat → Int32) {res : (Nat → Nat → Int32)} (h : p_X6_begins N G = some res) (hq : po none (hA264 res)) : JW X 0 0 0 [some (.ref 0), none] [] (hA264 G) := by
  unfold p_X6_begins at h
  refine JW.r hM 0 2 (pc2 := 2) (L2 := [some (.ref 0), some (.int (0 : Int32))]) (st2 := []) (μ2 := (hA264 G)) rfl trivial ?_
  exact t_X6_begins_b2 hM hp N N G (0 : Int32) h hq
theorem m_X6_begins (V : jV) (hV : V.1.stackTraces = false) (N : Nat) (G : Nat → Nat → Int32) (v : (Nat → Nat → Int32)) (h : p_X6_begins N G = some v) : jMet V yX6_begins (jws yX6_begins cX6_begins 2 none) ⟨0, 0, 0, 0⟩ true 1 [.ref 0] (hA264 G) (fun o ν => o = none ∧ ν = (hA264 v)) (fun _ _ => False) := by
  refine jmk (tb := tbX6) (C := kX6_begins) hV rfl (by decide) tbX6_ok rfl kX6_begins_ok rfl ?_
  intro X hM _ hp _
  exact t_X6_begins hM hp N G h ⟨rfl, rfl⟩
def p_X6_feed_b76 (N : Nat) (J : Nat → Nat → Int64) (rv23 : (Nat → Nat → Int32) → Int32 → Int32 → Int32 → Int32 → Int32 → Int32 → Option (Int32 × (Nat → Nat → Int32))) (G : Nat → Nat → Int32) (x1 : Int32) (x2 : Int32) (x3 : Int32) (x4 : Int32) (x5 : Int32) (x6 : Int32) (s0 : Int32) : Option (Int32 × (Nat → Nat → Int32)) :=
  if jin (G 0 7) 900 = true then jlt (jup G 6 (G 0 7).toNatClampNeg ((s0.toUInt32 >>> (((24 : Int32) - ((8 : Int32) * (x6 &&& (3 : Int32)))).toUInt32 &&& Int32.toUInt32 31)).toInt32 &&& (255 : Int32))) fun G4 => jlt (jup G4 0 7 ((G4 0 7) + (1 : Int32))) fun G6 => rv23 G6 x1 x2 x3 x4 x5 (x6 + 1) else none
def p_X6_feed_b23 (N : Nat) (J : Nat → Nat → Int64) : Nat → (Nat → Nat → Int32) → (Int32) → (Int32) → (Int32) → (Int32) → (Int32) → (Int32) → Option (Int32 × (Nat → Nat → Int32))
  | 0, _, _, _, _, _, _, _ => none
  | n + 1, G, x1, x2, x3, x4, x5, x6 => if (20 : Int32) ≤ x6 then (some ((G 0 7), G)) else (if (4 : Int32) ≤ x6 then (if (8 : Int32) ≤ x6 then (if (12 : Int32) ≤ x6 then (if (16 : Int32) ≤ x6 then (p_X6_feed_b76 N J (p_X6_feed_b23 N J n) G x1 x2 x3 x4 x5 x6 x5) else (p_X6_feed_b76 N J (p_X6_feed_b23 N J n) G x1 x2 x3 x4 x5 x6 x4)) else (p_X6_feed_b76 N J (p_X6_feed_b23 N J n) G x1 x2 x3 x4 x5 x6 x3)) else (p_X6_feed_b76 N J (p_X6_feed_b23 N J n) G x1 x2 x3 x4 x5 x6 x2)) else (p_X6_feed_b76 N J (p_X6_feed_b23 N J n) G x1 x2 x3 x4 x5 x6 x1))
def p_X6_feed (N : Nat) (G : Nat → Nat → Int32) (J : Nat → Nat → Int64) (p0 : Int32) (p1 : Int32) (p2 : Int32) (p3 : Int32) (p4 : Int32) : Option (Int32 × (Nat → Nat → Int32)) :=
  jlt (jup G 0 5 (0 : Int32)) fun G1 => if ((G1 0 7) + (20 : Int32)) ≤ (900 : Int32) then (p_X6_feed_b23 N J N G1 p0 p1 p2 p3 p4 (0 : Int32)) else (some ((-1 : Int32), G1))
set_option maxHeartbeats 4000000 in
set_option maxRecDepth 100000 in
theorem t_X6_feed_b76 {X : jX} {po : Option Value → jH → Prop} {px : String → jH → Prop} {sf : Bool} {B9 : Nat} (hM : jMX X kX6_feed RX6 tbX6 8 ⟨0, 0, 0, 0⟩ (some .int) 16) (hp : jPost X sf B9 po px) (N : Nat) (J : Nat → Nat → Int64) (rv23 : (Nat → Nat → Int32) → Int32 → Int32 → Int32 → Int32 → Int32 → Int32 → Option (Int32 × (Nat → Nat → Int32))) {res : Int32 × (Nat → Nat → Int32)} (ih23 : ∀ (G : Nat → Nat → Int32) (x1 : Int32) (x2 : Int32) (x3 : Int32) (x4 : Int32) (x5 : Int32) (x6 : Int32), rv23 G x1 x2 x3 x4 x5 x6 = some res → JW X 0 0 23 [some (.ref 0), some (.int x1), some (.int x2), some (.int x3), some (.int x4), some (.int x5), some (.int x6), none] [] (hMo G J)) (G : Nat → Nat → Int32) (x1 : Int32) (x2 : Int32) (x3 : Int32) (x4 : Int32) (x5 : Int32) (x6 : Int32) (s0 : Int32) (h : p_X6_feed_b76 N J rv23 G x1 x2 x3 x4 x5 x6 s0 = some res) (hq : po (some (.int res.1)) (hMo res.2 J)) : JW X 0 0 76 [some (.ref 0), some (.int x1), some (.int x2), some (.int x3), some (.int x4), some (.int x5), some (.int x6), none] [.int s0] (hMo G J) := by
  unfold p_X6_feed_b76 at h
  obtain ⟨g3, h⟩ := jg h
  obtain ⟨G4, e5, h⟩ := jlE h
  refine JW.r hM 37 17 (pc2 := 104) (L2 := [some (.ref 0), some (.int x1), some (.int x2), some (.int x3), some (.int x4), some (.int x5), some (.int x6), some (.int s0)]) (st2 := []) (μ2 := (hMo (jup G 6 (G 0 7).toNatClampNeg ((s0.toUInt32 >>> (((24 : Int32) - ((8 : Int32) * (x6 &&& (3 : Int32)))).toUInt32 &&& Int32.toUInt32 31)).toInt32 &&& (255 : Int32))) J)) rfl ⟨g3, trivial⟩ ?_
  rw [e5]
  obtain ⟨G6, e7, h⟩ := jlE h
  refine JW.r hM 54 6 (pc2 := 114) (L2 := [some (.ref 0), some (.int x1), some (.int x2), some (.int x3), some (.int x4), some (.int x5), some (.int x6), some (.int s0)]) (st2 := []) (μ2 := (hMo (jup G4 0 7 ((G4 0 7) + (1 : Int32))) J)) rfl trivial ?_
  rw [e7]
  refine JW.r hM 60 2 (pc2 := 23) (L2 := [some (.ref 0), some (.int x1), some (.int x2), some (.int x3), some (.int x4), some (.int x5), some (.int (x6 + 1)), some (.int s0)]) (st2 := []) (μ2 := (hMo G6 J)) rfl trivial ?_
  exact JW.mask [true, true, true, true, true, true, true, false] (ih23 G6 x1 x2 x3 x4 x5 (x6 + 1) h)
set_option maxHeartbeats 4000000 in
set_option maxRecDepth 100000 in
theorem t_X6_feed_b23 {X : jX} {po : Option Value → jH → Prop} {px : String → jH → Prop} {sf : Bool} {B9 : Nat} (hM : jMX X kX6_feed RX6 tbX6 8 ⟨0, 0, 0, 0⟩ (some .int) 16) (hp : jPost X sf B9 po px) (N : Nat) (J : Nat → Nat → Int64) {res : Int32 × (Nat → Nat → Int32)} : ∀ (n : Nat) (G : Nat → Nat → Int32) (x1 : Int32) (x2 : Int32) (x3 : Int32) (x4 : Int32) (x5 : Int32) (x6 : Int32) (h : p_X6_feed_b23 N J n G x1 x2 x3 x4 x5 x6 = some res) (hq : po (some (.int res.1)) (hMo res.2 J)), JW X 0 0 23 [some (.ref 0), some (.int x1), some (.int x2), some (.int x3), some (.int x4), some (.int x5), some (.int x6), none] [] (hMo G J) := by
  intro n
  induction n with
  | zero =>
    intro G x1 x2 x3 x4 x5 x6 h hq
    cases (show (none : Option (Int32 × (Nat → Nat → Int32))) = some res from h)
  | succ n ih23 =>
    intro G x1 x2 x3 x4 x5 x6 h hq
    have ih23 := fun G x1 x2 x3 x4 x5 x6 h9 => ih23 G x1 x2 x3 x4 x5 x6 h9 hq
    rw [p_X6_feed_b23] at h
    refine JW.r hM 13 2 (pc2 := 27) (L2 := [some (.ref 0), some (.int x1), some (.int x2), some (.int x3), some (.int x4), some (.int x5), some (.int x6), none]) (st2 := [.int (20 : Int32), .int x6]) (μ2 := (hMo G J)) rfl trivial ?_
    refine js_icge (t := 120) hM.1 (jat hM.2.1 15 rfl) rfl (fun hc12 => ?_) (fun hc12 => ?_)
    · have h := (if_pos hc12).symm.trans h
      refine JW.r hM 62 2 (pc2 := 124) (L2 := [some (.ref 0), some (.int x1), some (.int x2), some (.int x3), some (.int x4), some (.int x5), some (.int x6), none]) (st2 := [.int (G 0 7)]) (μ2 := (hMo G J)) rfl trivial ?_
      obtain rfl := Option.some.inj h
      exact js_iret hM.1 hp hM.2.2.2.2.2.2.2.1 (by rw [hM.2.2.2.2.2.1]; exact Nat.le_of_ble_eq_true rfl) (by rw [hM.2.2.2.2.2.2.1]; exact Nat.le_of_ble_eq_true rfl) (jat hM.2.1 64 rfl) hq
    · have h := (if_neg hc12).symm.trans h
      refine JW.r hM 16 2 (pc2 := 33) (L2 := [some (.ref 0), some (.int x1), some (.int x2), some (.int x3), some (.int x4), some (.int x5), some (.int x6), none]) (st2 := [.int (4 : Int32), .int x6]) (μ2 := (hMo G J)) rfl trivial ?_
      refine js_icge (t := 40) hM.1 (jat hM.2.1 18 rfl) rfl (fun hc11 => ?_) (fun hc11 => ?_)
      · have h := (if_pos hc11).symm.trans h
        refine JW.r hM 21 2 (pc2 := 44) (L2 := [some (.ref 0), some (.int x1), some (.int x2), some (.int x3), some (.int x4), some (.int x5), some (.int x6), none]) (st2 := [.int (8 : Int32), .int x6]) (μ2 := (hMo G J)) rfl trivial ?_
        refine js_icge (t := 51) hM.1 (jat hM.2.1 23 rfl) rfl (fun hc10 => ?_) (fun hc10 => ?_)
        · have h := (if_pos hc10).symm.trans h
          refine JW.r hM 26 2 (pc2 := 55) (L2 := [some (.ref 0), some (.int x1), some (.int x2), some (.int x3), some (.int x4), some (.int x5), some (.int x6), none]) (st2 := [.int (12 : Int32), .int x6]) (μ2 := (hMo G J)) rfl trivial ?_
          refine js_icge (t := 62) hM.1 (jat hM.2.1 28 rfl) rfl (fun hc9 => ?_) (fun hc9 => ?_)
          · have h := (if_pos hc9).symm.trans h
            refine JW.r hM 31 2 (pc2 := 66) (L2 := [some (.ref 0), some (.int x1), some (.int x2), some (.int x3), some (.int x4), some (.int x5), some (.int x6), none]) (st2 := [.int (16 : Int32), .int x6]) (μ2 := (hMo G J)) rfl trivial ?_
            refine js_icge (t := 74) hM.1 (jat hM.2.1 33 rfl) rfl (fun hc8 => ?_) (fun hc8 => ?_)
            · have h := (if_pos hc8).symm.trans h
              refine JW.r hM 36 1 (pc2 := 76) (L2 := [some (.ref 0), some (.int x1), some (.int x2), some (.int x3), some (.int x4), some (.int x5), some (.int x6), none]) (st2 := [.int x5]) (μ2 := (hMo G J)) rfl trivial ?_
              exact t_X6_feed_b76 hM hp N J (p_X6_feed_b23 N J n) ih23 G x1 x2 x3 x4 x5 x6 x5 h hq
            · have h := (if_neg hc8).symm.trans h
              refine JW.r hM 34 2 (pc2 := 76) (L2 := [some (.ref 0), some (.int x1), some (.int x2), some (.int x3), some (.int x4), some (.int x5), some (.int x6), none]) (st2 := [.int x4]) (μ2 := (hMo G J)) rfl trivial ?_
              exact t_X6_feed_b76 hM hp N J (p_X6_feed_b23 N J n) ih23 G x1 x2 x3 x4 x5 x6 x4 h hq
          · have h := (if_neg hc9).symm.trans h
            refine JW.r hM 29 2 (pc2 := 76) (L2 := [some (.ref 0), some (.int x1), some (.int x2), some (.int x3), some (.int x4), some (.int x5), some (.int x6), none]) (st2 := [.int x3]) (μ2 := (hMo G J)) rfl trivial ?_
            exact t_X6_feed_b76 hM hp N J (p_X6_feed_b23 N J n) ih23 G x1 x2 x3 x4 x5 x6 x3 h hq
        · have h := (if_neg hc10).symm.trans h
          refine JW.r hM 24 2 (pc2 := 76) (L2 := [some (.ref 0), some (.int x1), some (.int x2), some (.int x3), some (.int x4), some (.int x5), some (.int x6), none]) (st2 := [.int x2]) (μ2 := (hMo G J)) rfl trivial ?_
          exact t_X6_feed_b76 hM hp N J (p_X6_feed_b23 N J n) ih23 G x1 x2 x3 x4 x5 x6 x2 h hq
      · have h := (if_neg hc11).symm.trans h
        refine JW.r hM 19 2 (pc2 := 76) (L2 := [some (.ref 0), some (.int x1), some (.int x2), some (.int x3), some (.int x4), some (.int x5), some (.int x6), none]) (st2 := [.int x1]) (μ2 := (hMo G J)) rfl trivial ?_
        exact t_X6_feed_b76 hM hp N J (p_X6_feed_b23 N J n) ih23 G x1 x2 x3 x4 x5 x6 x1 h hq
set_option maxHeartbeats 4000000 in
set_option maxRecDepth 100000 in
theorem t_X6_feed {X : jX} {po : Option Value → jH → Prop} {px : String → jH → Prop} {sf : Bool} {B9 : Nat} (hM : jMX X kX6_feed RX6 tbX6 8 ⟨0, 0, 0, 0⟩ (some .int) 16) (hp : jPost X sf B9 po px) (N : Nat) (G : Nat → Nat → Int32) (J : Nat → Nat → Int64) (p0 : Int32) (p1 : Int32) (p2 : Int32) (p3 : Int32) (p4 : Int32) {res : Int32 × (Nat → Nat → Int32)} (h : p_X6_feed N G J p0 p1 p2 p3 p4 = some res) (hq : po (some (.int res.1)) (hMo res.2 J)) : JW X 0 0 0 [some (.ref 0), some (.int p0), some (.int p1), some (.int p2), some (.int p3), some (.int p4), none, none] [] (hMo G J) := by
  unfold p_X6_feed at h
  obtain ⟨G1, e2, h⟩ := jlE h
  refine JW.r hM 0 3 (pc2 := 5) (L2 := [some (.ref 0), some (.int p0), some (.int p1), some (.int p2), some (.int p3), some (.int p4), none, none]) (st2 := []) (μ2 := (hMo (jup G 0 5 (0 : Int32)) J)) rfl trivial ?_
  rw [e2]
  refine JW.r hM 3 5 (pc2 := 15) (L2 := [some (.ref 0), some (.int p0), some (.int p1), some (.int p2), some (.int p3), some (.int p4), none, none]) (st2 := [.int (900 : Int32), .int ((G1 0 7) + (20 : Int32))]) (μ2 := (hMo G1 J)) rfl trivial ?_
  refine js_icle (t := 20) hM.1 (jat hM.2.1 8 rfl) rfl (fun hc13 => ?_) (fun hc13 => ?_)
  · have h := (if_pos hc13).symm.trans h
    refine JW.r hM 11 2 (pc2 := 23) (L2 := [some (.ref 0), some (.int p0), some (.int p1), some (.int p2), some (.int p3), some (.int p4), some (.int (0 : Int32)), none]) (st2 := []) (μ2 := (hMo G1 J)) rfl trivial ?_
    exact t_X6_feed_b23 hM hp N J N G1 p0 p1 p2 p3 p4 (0 : Int32) h hq
  · have h := (if_neg hc13).symm.trans h
    refine JW.r hM 9 1 (pc2 := 19) (L2 := [some (.ref 0), some (.int p0), some (.int p1), some (.int p2), some (.int p3), some (.int p4), none, none]) (st2 := [.int (-1 : Int32)]) (μ2 := (hMo G1 J)) rfl trivial ?_
    obtain rfl := Option.some.inj h
    exact js_iret hM.1 hp hM.2.2.2.2.2.2.2.1 (by rw [hM.2.2.2.2.2.1]; exact Nat.le_of_ble_eq_true rfl) (by rw [hM.2.2.2.2.2.2.1]; exact Nat.le_of_ble_eq_true rfl) (jat hM.2.1 10 rfl) hq
theorem m_X6_feed (V : jV) (hV : V.1.stackTraces = false) (N : Nat) (G : Nat → Nat → Int32) (J : Nat → Nat → Int64) (p0 : Int32) (p1 : Int32) (p2 : Int32) (p3 : Int32) (p4 : Int32) (v : Int32 × (Nat → Nat → Int32)) (h : p_X6_feed N G J p0 p1 p2 p3 p4 = some v) : jMet V yX6_feed (jws yX6_feed cX6_feed 8 (some .int)) ⟨0, 0, 0, 0⟩ true 1 [.ref 0, .int p0, .int p1, .int p2, .int p3, .int p4] (hMo G J) (fun o ν => o = some (.int v.1) ∧ ν = (hMo v.2 J)) (fun _ _ => False) := by
  refine jmk (tb := tbX6) (C := kX6_feed) hV rfl (by decide) tbX6_ok rfl kX6_feed_ok rfl ?_
  intro X hM _ hp _
  exact t_X6_feed hM hp N G J p0 p1 p2 p3 p4 h ⟨rfl, rfl⟩
def p_X6_see (N : Nat) (G : Nat → Nat → Int32) (J : Nat → Nat → Int64) (p0 : Int32) : Option (Int32) :=
  if (G 0 8) ≤ p0 then (some (0 : Int32)) else (if jin p0 900 = true then some (G 6 p0.toNatClampNeg) else none)
set_option maxHeartbeats 4000000 in
set_option maxRecDepth 100000 in
theorem t_X6_see {X : jX} {po : Option Value → jH → Prop} {px : String → jH → Prop} {sf : Bool} {B9 : Nat} (hM : jMX X kX6_see RX6 tbX6 2 ⟨0, 0, 0, 0⟩ (some .int) 16) (hp : jPost X sf B9 po px) (N : Nat) (G : Nat → Nat → Int32) (J : Nat → Nat → Int64) (p0 : Int32) {res : Int32} (h : p_X6_see N G J p0 = some res) (hq : po (some (.int res)) (hMo G J)) : JW X 0 0 0 [some (.ref 0), some (.int p0)] [] (hMo G J) := by
  unfold p_X6_see at h
  refine JW.r hM 0 3 (pc2 := 5) (L2 := [some (.ref 0), some (.int p0)]) (st2 := [.int (G 0 8), .int p0]) (μ2 := (hMo G J)) rfl trivial ?_
  refine js_icge (t := 17) hM.1 (jat hM.2.1 3 rfl) rfl (fun hc2 => ?_) (fun hc2 => ?_)
  · have h := (if_pos hc2).symm.trans h
    refine JW.r hM 9 1 (pc2 := 18) (L2 := [some (.ref 0), some (.int p0)]) (st2 := [.int (0 : Int32)]) (μ2 := (hMo G J)) rfl trivial ?_
    obtain rfl := Option.some.inj h
    exact js_iret hM.1 hp hM.2.2.2.2.2.2.2.1 (by rw [hM.2.2.2.2.2.1]; exact Nat.le_of_ble_eq_true rfl) (by rw [hM.2.2.2.2.2.2.1]; exact Nat.le_of_ble_eq_true rfl) (jat hM.2.1 10 rfl) hq
  · have h := (if_neg hc2).symm.trans h
    obtain ⟨g1, h⟩ := jg h
    refine JW.r hM 4 5 (pc2 := 18) (L2 := [some (.ref 0), some (.int p0)]) (st2 := [.int (G 6 p0.toNatClampNeg)]) (μ2 := (hMo G J)) rfl ⟨g1, trivial⟩ ?_
    obtain rfl := Option.some.inj h
    exact js_iret hM.1 hp hM.2.2.2.2.2.2.2.1 (by rw [hM.2.2.2.2.2.1]; exact Nat.le_of_ble_eq_true rfl) (by rw [hM.2.2.2.2.2.2.1]; exact Nat.le_of_ble_eq_true rfl) (jat hM.2.1 10 rfl) hq
theorem m_X6_see (V : jV) (hV : V.1.stackTraces = false) (N : Nat) (G : Nat → Nat → Int32) (J : Nat → Nat → Int64) (p0 : Int32) (v : Int32) (h : p_X6_see N G J p0 = some v) : jMet V yX6_see (jws yX6_see cX6_see 2 (some .int)) ⟨0, 0, 0, 0⟩ true 1 [.ref 0, .int p0] (hMo G J) (fun o ν => o = some (.int v) ∧ ν = (hMo G J)) (fun _ _ => False) := by
  refine jmk (tb := tbX6) (C := kX6_see) hV rfl (by decide) tbX6_ok rfl kX6_see_ok rfl ?_
  intro X hM _ hp _
  exact t_X6_see hM hp N G J p0 h ⟨rfl, rfl⟩
def p_X6_isLetter (N : Nat) (p0 : Int32) : Option (Int32) :=
  if p0 < (97 : Int32) then (some (0 : Int32)) else (if (122 : Int32) < p0 then (some (0 : Int32)) else (some (1 : Int32)))
set_option maxHeartbeats 4000000 in
set_option maxRecDepth 100000 in
theorem t_X6_isLetter {X : jX} {po : Option Value → jH → Prop} {px : String → jH → Prop} {sf : Bool} {B9 : Nat} (hM : jMX X kX6_isLetter RX6 tbX6 1 ⟨0, 0, 0, 0⟩ (some .boolean) 1) (hp : jPost X sf B9 po px) (N : Nat) (p0 : Int32) {res : Int32} (h : p_X6_isLetter N p0 = some res) (hq : po (some (.int res)) hE) : JW X 0 0 0 [some (.int p0)] [] hE := by
  unfold p_X6_isLetter at h
  refine JW.r hM 0 2 (pc2 := 3) (L2 := [some (.int p0)]) (st2 := [.int (97 : Int32), .int p0]) (μ2 := hE) rfl trivial ?_
  refine js_iclt (t := 16) hM.1 (jat hM.2.1 2 rfl) rfl (fun hc2 => ?_) (fun hc2 => ?_)
  · have h := (if_pos hc2).symm.trans h
    refine JW.r hM 8 1 (pc2 := 17) (L2 := [some (.int p0)]) (st2 := [.int (0 : Int32)]) (μ2 := hE) rfl trivial ?_
    obtain rfl := Option.some.inj h
    exact js_zret hM.1 hp hM.2.2.2.2.2.2.2.1 rfl (by rw [hM.2.2.2.2.2.1]; exact Nat.le_of_ble_eq_true rfl) (by rw [hM.2.2.2.2.2.2.1]; exact Nat.le_of_ble_eq_true rfl) (jat hM.2.1 9 rfl) hq
  · have h := (if_neg hc2).symm.trans h
    refine JW.r hM 3 2 (pc2 := 9) (L2 := [some (.int p0)]) (st2 := [.int (122 : Int32), .int p0]) (μ2 := hE) rfl trivial ?_
    refine js_icgt (t := 16) hM.1 (jat hM.2.1 5 rfl) rfl (fun hc1 => ?_) (fun hc1 => ?_)
    · have h := (if_pos hc1).symm.trans h
      refine JW.r hM 8 1 (pc2 := 17) (L2 := [some (.int p0)]) (st2 := [.int (0 : Int32)]) (μ2 := hE) rfl trivial ?_
      obtain rfl := Option.some.inj h
      exact js_zret hM.1 hp hM.2.2.2.2.2.2.2.1 rfl (by rw [hM.2.2.2.2.2.1]; exact Nat.le_of_ble_eq_true rfl) (by rw [hM.2.2.2.2.2.2.1]; exact Nat.le_of_ble_eq_true rfl) (jat hM.2.1 9 rfl) hq
    · have h := (if_neg hc1).symm.trans h
      refine JW.r hM 6 2 (pc2 := 17) (L2 := [some (.int p0)]) (st2 := [.int (1 : Int32)]) (μ2 := hE) rfl trivial ?_
      obtain rfl := Option.some.inj h
      exact js_zret hM.1 hp hM.2.2.2.2.2.2.2.1 rfl (by rw [hM.2.2.2.2.2.1]; exact Nat.le_of_ble_eq_true rfl) (by rw [hM.2.2.2.2.2.2.1]; exact Nat.le_of_ble_eq_true rfl) (jat hM.2.1 9 rfl) hq
theorem m_X6_isLetter (V : jV) (hV : V.1.stackTraces = false) (N : Nat) (p0 : Int32) (v : Int32) (h : p_X6_isLetter N p0 = some v) : jMet V yX6_isLetter (jws yX6_isLetter cX6_isLetter 1 (some .boolean)) ⟨0, 0, 0, 0⟩ true 1 [.int p0] hE (fun o ν => o = some (.int v) ∧ ν = hE) (fun _ _ => False) := by
  refine jmk (tb := tbX6) (C := kX6_isLetter) hV rfl (by decide) tbX6_ok rfl kX6_isLetter_ok rfl ?_
  intro X hM _ hp _
  exact t_X6_isLetter hM hp N p0 h ⟨rfl, rfl⟩
def p_X6_isDigit (N : Nat) (p0 : Int32) : Option (Int32) :=
  if p0 < (48 : Int32) then (some (0 : Int32)) else (if (57 : Int32) < p0 then (some (0 : Int32)) else (some (1 : Int32)))
set_option maxHeartbeats 4000000 in
set_option maxRecDepth 100000 in
theorem t_X6_isDigit {X : jX} {po : Option Value → jH → Prop} {px : String → jH → Prop} {sf : Bool} {B9 : Nat} (hM : jMX X kX6_isDigit RX6 tbX6 1 ⟨0, 0, 0, 0⟩ (some .boolean) 1) (hp : jPost X sf B9 po px) (N : Nat) (p0 : Int32) {res : Int32} (h : p_X6_isDigit N p0 = some res) (hq : po (some (.int res)) hE) : JW X 0 0 0 [some (.int p0)] [] hE := by
  unfold p_X6_isDigit at h
  refine JW.r hM 0 2 (pc2 := 3) (L2 := [some (.int p0)]) (st2 := [.int (48 : Int32), .int p0]) (μ2 := hE) rfl trivial ?_
  refine js_iclt (t := 16) hM.1 (jat hM.2.1 2 rfl) rfl (fun hc2 => ?_) (fun hc2 => ?_)
  · have h := (if_pos hc2).symm.trans h
    refine JW.r hM 8 1 (pc2 := 17) (L2 := [some (.int p0)]) (st2 := [.int (0 : Int32)]) (μ2 := hE) rfl trivial ?_
    obtain rfl := Option.some.inj h
    exact js_zret hM.1 hp hM.2.2.2.2.2.2.2.1 rfl (by rw [hM.2.2.2.2.2.1]; exact Nat.le_of_ble_eq_true rfl) (by rw [hM.2.2.2.2.2.2.1]; exact Nat.le_of_ble_eq_true rfl) (jat hM.2.1 9 rfl) hq
  · have h := (if_neg hc2).symm.trans h
    refine JW.r hM 3 2 (pc2 := 9) (L2 := [some (.int p0)]) (st2 := [.int (57 : Int32), .int p0]) (μ2 := hE) rfl trivial ?_
    refine js_icgt (t := 16) hM.1 (jat hM.2.1 5 rfl) rfl (fun hc1 => ?_) (fun hc1 => ?_)
    · have h := (if_pos hc1).symm.trans h
      refine JW.r hM 8 1 (pc2 := 17) (L2 := [some (.int p0)]) (st2 := [.int (0 : Int32)]) (μ2 := hE) rfl trivial ?_
      obtain rfl := Option.some.inj h
      exact js_zret hM.1 hp hM.2.2.2.2.2.2.2.1 rfl (by rw [hM.2.2.2.2.2.1]; exact Nat.le_of_ble_eq_true rfl) (by rw [hM.2.2.2.2.2.2.1]; exact Nat.le_of_ble_eq_true rfl) (jat hM.2.1 9 rfl) hq
    · have h := (if_neg hc1).symm.trans h
      refine JW.r hM 6 2 (pc2 := 17) (L2 := [some (.int p0)]) (st2 := [.int (1 : Int32)]) (μ2 := hE) rfl trivial ?_
      obtain rfl := Option.some.inj h
      exact js_zret hM.1 hp hM.2.2.2.2.2.2.2.1 rfl (by rw [hM.2.2.2.2.2.1]; exact Nat.le_of_ble_eq_true rfl) (by rw [hM.2.2.2.2.2.2.1]; exact Nat.le_of_ble_eq_true rfl) (jat hM.2.1 9 rfl) hq
theorem m_X6_isDigit (V : jV) (hV : V.1.stackTraces = false) (N : Nat) (p0 : Int32) (v : Int32) (h : p_X6_isDigit N p0 = some v) : jMet V yX6_isDigit (jws yX6_isDigit cX6_isDigit 1 (some .boolean)) ⟨0, 0, 0, 0⟩ true 1 [.int p0] hE (fun o ν => o = some (.int v) ∧ ν = hE) (fun _ _ => False) := by
  refine jmk (tb := tbX6) (C := kX6_isDigit) hV rfl (by decide) tbX6_ok rfl kX6_isDigit_ok rfl ?_
  intro X hM _ hp _
  exact t_X6_isDigit hM hp N p0 h ⟨rfl, rfl⟩
def p_X6_reads_b249 (N : Nat) (J : Nat → Nat → Int64) (G : Nat → Nat → Int32) (s0 : Int32) : Option ((Nat → Nat → Int32)) :=
  jlt (jup G 0 11 s0) fun G8 => jlt (jup G8 0 9 ((G8 0 9) + (1 : Int32))) fun G10 => some G10
def p_X6_reads_b196 (N : Nat) (J : Nat → Nat → Int64) (rv141 : (Nat → Nat → Int32) → Option ((Nat → Nat → Int32))) (G : Nat → Nat → Int32) (s0 : Int32) : Option ((Nat → Nat → Int32)) :=
  jlt (jup G 0 12 s0) fun G24 => jlt (jup G24 0 9 ((G24 0 9) + (1 : Int32))) fun G26 => rv141 G26
def p_X6_reads_b141 (N : Nat) (J : Nat → Nat → Int64) : Nat → (Nat → Nat → Int32) → Option ((Nat → Nat → Int32))
  | 0, _ => none
  | n + 1, G => (p_X6_see N G J (G 0 9)).bind (fun v16 => (p_X6_isDigit N v16).bind (fun v18 => if v18 = 0 then (if ((G 0 9) - (G 0 10)) ≤ (4 : Int32) then (jlt (jup G 0 11 (2 : Int32)) fun G19 => some G19) else (jlt (jup G 0 11 (4 : Int32)) fun G21 => some G21)) else (if (4 : Int32) ≤ ((G 0 9) - (G 0 10)) then (p_X6_reads_b196 N J (p_X6_reads_b141 N J n) G (G 0 12)) else (if jin (G 0 9) 900 = true then p_X6_reads_b196 N J (p_X6_reads_b141 N J n) G ((((10 : Int32) * (G 0 12)) + (G 6 (G 0 9).toNatClampNeg)) - (48 : Int32)) else none))))
def p_X6_reads_b94 (N : Nat) (J : Nat → Nat → Int64) : Nat → (Nat → Nat → Int32) → Option ((Nat → Nat → Int32))
  | 0, _ => none
  | n + 1, G => (p_X6_see N G J (G 0 9)).bind (fun v33 => (p_X6_isLetter N v33).bind (fun v35 => if v35 = 0 then (jlt (jup G 0 11 (1 : Int32)) fun G36 => some G36) else (jlt (jup G 0 9 ((G 0 9) + (1 : Int32))) fun G38 => (p_X6_reads_b94 N J n) G38)))
def p_X6_reads_b52 (N : Nat) (J : Nat → Nat → Int64) (G : Nat → Nat → Int32) : Option ((Nat → Nat → Int32)) :=
  jlt (jup G 0 10 (G 0 9)) fun G1 => if (G1 0 9) < (G1 0 8) then (if jin (G1 0 9) 900 = true then (p_X6_isLetter N (G1 6 (G1 0 9).toNatClampNeg)).bind (fun v5 => if v5 = 0 then ((p_X6_isDigit N (G1 6 (G1 0 9).toNatClampNeg)).bind (fun v7 => if v7 = 0 then (if (G1 6 (G1 0 9).toNatClampNeg) = (59 : Int32) then (p_X6_reads_b249 N J G1 (3 : Int32)) else (p_X6_reads_b249 N J G1 (4 : Int32))) else (jlt (jup G1 0 12 (0 : Int32)) fun G13 => p_X6_reads_b141 N J N G13))) else (p_X6_reads_b94 N J N G1)) else none) else (jlt (jup G1 0 11 (0 : Int32)) fun G42 => some G42)
def p_X6_reads_b39 (N : Nat) (J : Nat → Nat → Int64) (rv0 : (Nat → Nat → Int32) → Option ((Nat → Nat → Int32))) (G : Nat → Nat → Int32) : Option ((Nat → Nat → Int32)) :=
  jlt (jup G 0 9 ((G 0 9) + (1 : Int32))) fun G46 => rv0 G46
def p_X6_reads_b0 (N : Nat) (J : Nat → Nat → Int64) : Nat → (Nat → Nat → Int32) → Option ((Nat → Nat → Int32))
  | 0, _ => none
  | n + 1, G => if (G 0 8) ≤ (G 0 9) then (p_X6_reads_b52 N J G) else (if jin (G 0 9) 900 = true then if (G 6 (G 0 9).toNatClampNeg) = (32 : Int32) then (p_X6_reads_b39 N J (p_X6_reads_b0 N J n) G) else (if jin (G 0 9) 900 = true then if (G 6 (G 0 9).toNatClampNeg) = (10 : Int32) then (p_X6_reads_b39 N J (p_X6_reads_b0 N J n) G) else (p_X6_reads_b52 N J G) else none) else none)
def p_X6_reads (N : Nat) (G : Nat → Nat → Int32) (J : Nat → Nat → Int64) : Option ((Nat → Nat → Int32)) :=
  p_X6_reads_b0 N J N G
set_option maxHeartbeats 4000000 in
set_option maxRecDepth 100000 in
theorem t_X6_reads_b249 {X : jX} {po : Option Value → jH → Prop} {px : String → jH → Prop} {sf : Bool} {B9 : Nat} (hM : jMX X kX6_reads RX6 tbX6 2 ⟨1, 0, 0, 21⟩ none 16) (hp : jPost X sf B9 po px) (N : Nat) (J : Nat → Nat → Int64) {res : (Nat → Nat → Int32)} (G : Nat → Nat → Int32) (s0 : Int32) (h : p_X6_reads_b249 N J G s0 = some res) (hq : po none (hMo res J)) : JW X 0 0 249 [some (.ref 0), none] [.int s0, .ref 0] (hMo G J) := by
  unfold p_X6_reads_b249 at h
  obtain ⟨G8, e9, h⟩ := jlE h
  refine JW.r hM 128 1 (pc2 := 252) (L2 := [some (.ref 0), none]) (st2 := []) (μ2 := (hMo (jup G 0 11 s0) J)) rfl trivial ?_
  rw [e9]
  obtain ⟨G10, e11, h⟩ := jlE h
  refine JW.r hM 129 6 (pc2 := 262) (L2 := [some (.ref 0), none]) (st2 := []) (μ2 := (hMo (jup G8 0 9 ((G8 0 9) + (1 : Int32))) J)) rfl trivial ?_
  rw [e11]
  obtain rfl := Option.some.inj h
  exact js_vret hM.1 hp hM.2.2.2.2.2.2.2.1 (by rw [hM.2.2.2.2.2.1]; exact Nat.le_of_ble_eq_true rfl) (by rw [hM.2.2.2.2.2.2.1]; exact Nat.le_of_ble_eq_true rfl) (jat hM.2.1 135 rfl) hq
set_option maxHeartbeats 4000000 in
set_option maxRecDepth 100000 in
theorem t_X6_reads_b196 {X : jX} {po : Option Value → jH → Prop} {px : String → jH → Prop} {sf : Bool} {B9 : Nat} (hM : jMX X kX6_reads RX6 tbX6 2 ⟨1, 0, 0, 21⟩ none 16) (hp : jPost X sf B9 po px) (N : Nat) (J : Nat → Nat → Int64) (rv141 : (Nat → Nat → Int32) → Option ((Nat → Nat → Int32))) {res : (Nat → Nat → Int32)} (ih141 : ∀ (G : Nat → Nat → Int32), rv141 G = some res → JW X 0 0 141 [some (.ref 0), none] [] (hMo G J)) (G : Nat → Nat → Int32) (s0 : Int32) (h : p_X6_reads_b196 N J rv141 G s0 = some res) (hq : po none (hMo res J)) : JW X 0 0 196 [some (.ref 0), none] [.int s0, .ref 0] (hMo G J) := by
  unfold p_X6_reads_b196 at h
  obtain ⟨G24, e25, h⟩ := jlE h
  refine JW.r hM 100 1 (pc2 := 199) (L2 := [some (.ref 0), none]) (st2 := []) (μ2 := (hMo (jup G 0 12 s0) J)) rfl trivial ?_
  rw [e25]
  obtain ⟨G26, e27, h⟩ := jlE h
  refine JW.r hM 101 6 (pc2 := 209) (L2 := [some (.ref 0), none]) (st2 := []) (μ2 := (hMo (jup G24 0 9 ((G24 0 9) + (1 : Int32))) J)) rfl trivial ?_
  rw [e27]
  refine JW.r hM 107 1 (pc2 := 141) (L2 := [some (.ref 0), none]) (st2 := []) (μ2 := (hMo G26 J)) rfl trivial ?_
  exact ih141 G26 h
set_option maxHeartbeats 4000000 in
set_option maxRecDepth 100000 in
theorem t_X6_reads_b141 {X : jX} {po : Option Value → jH → Prop} {px : String → jH → Prop} {sf : Bool} {B9 : Nat} (hM : jMX X kX6_reads RX6 tbX6 2 ⟨1, 0, 0, 21⟩ none 16) (hp : jPost X sf B9 po px) (N : Nat) (J : Nat → Nat → Int64) {res : (Nat → Nat → Int32)} : ∀ (n : Nat) (G : Nat → Nat → Int32) (h : p_X6_reads_b141 N J n G = some res) (hq : po none (hMo res J)), JW X 0 0 141 [some (.ref 0), none] [] (hMo G J) := by
  intro n
  induction n with
  | zero =>
    intro G h hq
    cases (show (none : Option ((Nat → Nat → Int32))) = some res from h)
  | succ n ih141 =>
    intro G h hq
    have ih141 := fun G h9 => ih141 G h9 hq
    rw [p_X6_reads_b141] at h
    refine JW.r hM 71 3 (pc2 := 146) (L2 := [some (.ref 0), none]) (st2 := [.int (G 0 9), .ref 0]) (μ2 := (hMo G J)) rfl trivial ?_
    obtain ⟨v16, hv15, h⟩ := jbd h
    refine JW.cV (v := some (.int v16)) hM (m_X6_see (jVX X) hM.1.2.2.2.2.2.2.2.2.2.1 N G J (G 0 9) v16 hv15) (sb_Mo_Mo_0 G J) (bi_Mo_Mo_0 G J) rfl rfl rfl kc_X6_85 rfl rfl rfl rfl rfl (jat hM.2.1 74 rfl) (st := []) rfl ?_
    show JW X 0 0 149 [some (.ref 0), none] [.int v16] (hMo G J)
    obtain ⟨v18, hv17, h⟩ := jbd h
    refine JW.cS (v := some (.int v18)) hM (m_X6_isDigit (jVX X) hM.1.2.2.2.2.2.2.2.2.2.1 N v16 v18 hv17) (sb_Mo_E_ G J) (bi_Mo_E_ G J) rfl rfl rfl kc_X6_89 rfl rfl rfl (jat hM.2.1 75 rfl) (st := []) rfl ?_
    show JW X 0 0 152 [some (.ref 0), none] [.int v18] (hMo G J)
    refine js_ifeq (t := 212) hM.1 (jat hM.2.1 76 rfl) rfl (fun hc30 => ?_) (fun hc30 => ?_)
    · have h := (if_pos hc30).symm.trans h
      refine JW.r hM 108 7 (pc2 := 223) (L2 := [some (.ref 0), none]) (st2 := [.int (4 : Int32), .int ((G 0 9) - (G 0 10)), .ref 0]) (μ2 := (hMo G J)) rfl trivial ?_
      refine js_icle (t := 230) hM.1 (jat hM.2.1 115 rfl) rfl (fun hc23 => ?_) (fun hc23 => ?_)
      · have h := (if_pos hc23).symm.trans h
        obtain ⟨G19, e20, h⟩ := jlE h
        refine JW.r hM 118 2 (pc2 := 234) (L2 := [some (.ref 0), none]) (st2 := []) (μ2 := (hMo (jup G 0 11 (2 : Int32)) J)) rfl trivial ?_
        rw [e20]
        refine JW.r hM 120 1 (pc2 := 262) (L2 := [some (.ref 0), none]) (st2 := []) (μ2 := (hMo G19 J)) rfl trivial ?_
        obtain rfl := Option.some.inj h
        exact js_vret hM.1 hp hM.2.2.2.2.2.2.2.1 (by rw [hM.2.2.2.2.2.1]; exact Nat.le_of_ble_eq_true rfl) (by rw [hM.2.2.2.2.2.2.1]; exact Nat.le_of_ble_eq_true rfl) (jat hM.2.1 135 rfl) hq
      · have h := (if_neg hc23).symm.trans h
        refine JW.r hM 116 2 (pc2 := 231) (L2 := [some (.ref 0), none]) (st2 := [.int (4 : Int32), .ref 0]) (μ2 := (hMo G J)) rfl trivial ?_
        obtain ⟨G21, e22, h⟩ := jlE h
        refine JW.r hM 119 1 (pc2 := 234) (L2 := [some (.ref 0), none]) (st2 := []) (μ2 := (hMo (jup G 0 11 (4 : Int32)) J)) rfl trivial ?_
        rw [e22]
        refine JW.r hM 120 1 (pc2 := 262) (L2 := [some (.ref 0), none]) (st2 := []) (μ2 := (hMo G21 J)) rfl trivial ?_
        obtain rfl := Option.some.inj h
        exact js_vret hM.1 hp hM.2.2.2.2.2.2.2.1 (by rw [hM.2.2.2.2.2.1]; exact Nat.le_of_ble_eq_true rfl) (by rw [hM.2.2.2.2.2.2.1]; exact Nat.le_of_ble_eq_true rfl) (jat hM.2.1 135 rfl) hq
    · have h := (if_neg hc30).symm.trans h
      refine JW.r hM 77 7 (pc2 := 166) (L2 := [some (.ref 0), none]) (st2 := [.int (4 : Int32), .int ((G 0 9) - (G 0 10)), .ref 0]) (μ2 := (hMo G J)) rfl trivial ?_
      refine js_icge (t := 192) hM.1 (jat hM.2.1 84 rfl) rfl (fun hc29 => ?_) (fun hc29 => ?_)
      · have h := (if_pos hc29).symm.trans h
        refine JW.r hM 98 2 (pc2 := 196) (L2 := [some (.ref 0), none]) (st2 := [.int (G 0 12), .ref 0]) (μ2 := (hMo G J)) rfl trivial ?_
        exact t_X6_reads_b196 hM hp N J (p_X6_reads_b141 N J n) ih141 G (G 0 12) h hq
      · have h := (if_neg hc29).symm.trans h
        obtain ⟨g28, h⟩ := jg h
        refine JW.r hM 85 13 (pc2 := 196) (L2 := [some (.ref 0), none]) (st2 := [.int ((((10 : Int32) * (G 0 12)) + (G 6 (G 0 9).toNatClampNeg)) - (48 : Int32)), .ref 0]) (μ2 := (hMo G J)) rfl ⟨g28, trivial⟩ ?_
        exact t_X6_reads_b196 hM hp N J (p_X6_reads_b141 N J n) ih141 G ((((10 : Int32) * (G 0 12)) + (G 6 (G 0 9).toNatClampNeg)) - (48 : Int32)) h hq
set_option maxHeartbeats 4000000 in
set_option maxRecDepth 100000 in
theorem t_X6_reads_b94 {X : jX} {po : Option Value → jH → Prop} {px : String → jH → Prop} {sf : Bool} {B9 : Nat} (hM : jMX X kX6_reads RX6 tbX6 2 ⟨1, 0, 0, 21⟩ none 16) (hp : jPost X sf B9 po px) (N : Nat) (J : Nat → Nat → Int64) {res : (Nat → Nat → Int32)} : ∀ (n : Nat) (G : Nat → Nat → Int32) (h : p_X6_reads_b94 N J n G = some res) (hq : po none (hMo res J)), JW X 0 0 94 [some (.ref 0), none] [] (hMo G J) := by
  intro n
  induction n with
  | zero =>
    intro G h hq
    cases (show (none : Option ((Nat → Nat → Int32))) = some res from h)
  | succ n ih94 =>
    intro G h hq
    have ih94 := fun G h9 => ih94 G h9 hq
    rw [p_X6_reads_b94] at h
    refine JW.r hM 48 3 (pc2 := 99) (L2 := [some (.ref 0), none]) (st2 := [.int (G 0 9), .ref 0]) (μ2 := (hMo G J)) rfl trivial ?_
    obtain ⟨v33, hv32, h⟩ := jbd h
    refine JW.cV (v := some (.int v33)) hM (m_X6_see (jVX X) hM.1.2.2.2.2.2.2.2.2.2.1 N G J (G 0 9) v33 hv32) (sb_Mo_Mo_0 G J) (bi_Mo_Mo_0 G J) rfl rfl rfl kc_X6_85 rfl rfl rfl rfl rfl (jat hM.2.1 51 rfl) (st := []) rfl ?_
    show JW X 0 0 102 [some (.ref 0), none] [.int v33] (hMo G J)
    obtain ⟨v35, hv34, h⟩ := jbd h
    refine JW.cS (v := some (.int v35)) hM (m_X6_isLetter (jVX X) hM.1.2.2.2.2.2.2.2.2.2.1 N v33 v35 hv34) (sb_Mo_E_ G J) (bi_Mo_E_ G J) rfl rfl rfl kc_X6_81 rfl rfl rfl (jat hM.2.1 52 rfl) (st := []) rfl ?_
    show JW X 0 0 105 [some (.ref 0), none] [.int v35] (hMo G J)
    refine js_ifeq (t := 121) hM.1 (jat hM.2.1 53 rfl) rfl (fun hc40 => ?_) (fun hc40 => ?_)
    · have h := (if_pos hc40).symm.trans h
      obtain ⟨G36, e37, h⟩ := jlE h
      refine JW.r hM 61 3 (pc2 := 126) (L2 := [some (.ref 0), none]) (st2 := []) (μ2 := (hMo (jup G 0 11 (1 : Int32)) J)) rfl trivial ?_
      rw [e37]
      refine JW.r hM 64 1 (pc2 := 262) (L2 := [some (.ref 0), none]) (st2 := []) (μ2 := (hMo G36 J)) rfl trivial ?_
      obtain rfl := Option.some.inj h
      exact js_vret hM.1 hp hM.2.2.2.2.2.2.2.1 (by rw [hM.2.2.2.2.2.1]; exact Nat.le_of_ble_eq_true rfl) (by rw [hM.2.2.2.2.2.2.1]; exact Nat.le_of_ble_eq_true rfl) (jat hM.2.1 135 rfl) hq
    · have h := (if_neg hc40).symm.trans h
      obtain ⟨G38, e39, h⟩ := jlE h
      refine JW.r hM 54 6 (pc2 := 118) (L2 := [some (.ref 0), none]) (st2 := []) (μ2 := (hMo (jup G 0 9 ((G 0 9) + (1 : Int32))) J)) rfl trivial ?_
      rw [e39]
      refine JW.r hM 60 1 (pc2 := 94) (L2 := [some (.ref 0), none]) (st2 := []) (μ2 := (hMo G38 J)) rfl trivial ?_
      exact ih94 G38 h
set_option maxHeartbeats 4000000 in
set_option maxRecDepth 100000 in
theorem t_X6_reads_b52 {X : jX} {po : Option Value → jH → Prop} {px : String → jH → Prop} {sf : Bool} {B9 : Nat} (hM : jMX X kX6_reads RX6 tbX6 2 ⟨1, 0, 0, 21⟩ none 16) (hp : jPost X sf B9 po px) (N : Nat) (J : Nat → Nat → Int64) {res : (Nat → Nat → Int32)} (G : Nat → Nat → Int32) (h : p_X6_reads_b52 N J G = some res) (hq : po none (hMo res J)) : JW X 0 0 52 [some (.ref 0), none] [] (hMo G J) := by
  unfold p_X6_reads_b52 at h
  obtain ⟨G1, e2, h⟩ := jlE h
  refine JW.r hM 26 4 (pc2 := 60) (L2 := [some (.ref 0), none]) (st2 := []) (μ2 := (hMo (jup G 0 10 (G 0 9)) J)) rfl trivial ?_
  rw [e2]
  refine JW.r hM 30 4 (pc2 := 68) (L2 := [some (.ref 0), none]) (st2 := [.int (G1 0 8), .int (G1 0 9)]) (μ2 := (hMo G1 J)) rfl trivial ?_
  refine js_iclt (t := 77) hM.1 (jat hM.2.1 34 rfl) rfl (fun hc44 => ?_) (fun hc44 => ?_)
  · have h := (if_pos hc44).symm.trans h
    obtain ⟨g3, h⟩ := jg h
    refine JW.r hM 39 7 (pc2 := 88) (L2 := [some (.ref 0), some (.int (G1 6 (G1 0 9).toNatClampNeg))]) (st2 := [.int (G1 6 (G1 0 9).toNatClampNeg)]) (μ2 := (hMo G1 J)) rfl ⟨g3, trivial⟩ ?_
    obtain ⟨v5, hv4, h⟩ := jbd h
    refine JW.cS (v := some (.int v5)) hM (m_X6_isLetter (jVX X) hM.1.2.2.2.2.2.2.2.2.2.1 N (G1 6 (G1 0 9).toNatClampNeg) v5 hv4) (sb_Mo_E_ G1 J) (bi_Mo_E_ G1 J) rfl rfl rfl kc_X6_81 rfl rfl rfl (jat hM.2.1 46 rfl) (st := []) rfl ?_
    show JW X 0 0 91 [some (.ref 0), some (.int (G1 6 (G1 0 9).toNatClampNeg))] [.int v5] (hMo G1 J)
    refine js_ifeq (t := 129) hM.1 (jat hM.2.1 47 rfl) rfl (fun hc41 => ?_) (fun hc41 => ?_)
    · have h := (if_pos hc41).symm.trans h
      refine JW.r hM 65 1 (pc2 := 130) (L2 := [some (.ref 0), some (.int (G1 6 (G1 0 9).toNatClampNeg))]) (st2 := [.int (G1 6 (G1 0 9).toNatClampNeg)]) (μ2 := (hMo G1 J)) rfl trivial ?_
      obtain ⟨v7, hv6, h⟩ := jbd h
      refine JW.cS (v := some (.int v7)) hM (m_X6_isDigit (jVX X) hM.1.2.2.2.2.2.2.2.2.2.1 N (G1 6 (G1 0 9).toNatClampNeg) v7 hv6) (sb_Mo_E_ G1 J) (bi_Mo_E_ G1 J) rfl rfl rfl kc_X6_89 rfl rfl rfl (jat hM.2.1 66 rfl) (st := []) rfl ?_
      show JW X 0 0 133 [some (.ref 0), some (.int (G1 6 (G1 0 9).toNatClampNeg))] [.int v7] (hMo G1 J)
      refine js_ifeq (t := 237) hM.1 (jat hM.2.1 67 rfl) rfl (fun hc31 => ?_) (fun hc31 => ?_)
      · have h := (if_pos hc31).symm.trans h
        refine JW.r hM 121 3 (pc2 := 241) (L2 := [some (.ref 0), some (.int (G1 6 (G1 0 9).toNatClampNeg))]) (st2 := [.int (59 : Int32), .int (G1 6 (G1 0 9).toNatClampNeg), .ref 0]) (μ2 := (hMo G1 J)) rfl trivial ?_
        refine js_icne (t := 248) hM.1 (jat hM.2.1 124 rfl) rfl (fun hc12 => ?_) (fun hc12 => ?_)
        · have h := (if_neg hc12).symm.trans h
          refine JW.r hM 127 1 (pc2 := 249) (L2 := [some (.ref 0), some (.int (G1 6 (G1 0 9).toNatClampNeg))]) (st2 := [.int (4 : Int32), .ref 0]) (μ2 := (hMo G1 J)) rfl trivial ?_
          exact JW.mask [true, false] (t_X6_reads_b249 hM hp N J G1 (4 : Int32) h hq)
        · have h := (if_pos hc12).symm.trans h
          refine JW.r hM 125 2 (pc2 := 249) (L2 := [some (.ref 0), some (.int (G1 6 (G1 0 9).toNatClampNeg))]) (st2 := [.int (3 : Int32), .ref 0]) (μ2 := (hMo G1 J)) rfl trivial ?_
          exact JW.mask [true, false] (t_X6_reads_b249 hM hp N J G1 (3 : Int32) h hq)
      · have h := (if_neg hc31).symm.trans h
        obtain ⟨G13, e14, h⟩ := jlE h
        refine JW.r hM 68 3 (pc2 := 141) (L2 := [some (.ref 0), some (.int (G1 6 (G1 0 9).toNatClampNeg))]) (st2 := []) (μ2 := (hMo (jup G1 0 12 (0 : Int32)) J)) rfl trivial ?_
        rw [e14]
        exact JW.mask [true, false] (t_X6_reads_b141 hM hp N J N G13 h hq)
    · have h := (if_neg hc41).symm.trans h
      exact JW.mask [true, false] (t_X6_reads_b94 hM hp N J N G1 h hq)
  · have h := (if_neg hc44).symm.trans h
    obtain ⟨G42, e43, h⟩ := jlE h
    refine JW.r hM 35 3 (pc2 := 76) (L2 := [some (.ref 0), none]) (st2 := []) (μ2 := (hMo (jup G1 0 11 (0 : Int32)) J)) rfl trivial ?_
    rw [e43]
    obtain rfl := Option.some.inj h
    exact js_vret hM.1 hp hM.2.2.2.2.2.2.2.1 (by rw [hM.2.2.2.2.2.1]; exact Nat.le_of_ble_eq_true rfl) (by rw [hM.2.2.2.2.2.2.1]; exact Nat.le_of_ble_eq_true rfl) (jat hM.2.1 38 rfl) hq
set_option maxHeartbeats 4000000 in
set_option maxRecDepth 100000 in
theorem t_X6_reads_b39 {X : jX} {po : Option Value → jH → Prop} {px : String → jH → Prop} {sf : Bool} {B9 : Nat} (hM : jMX X kX6_reads RX6 tbX6 2 ⟨1, 0, 0, 21⟩ none 16) (hp : jPost X sf B9 po px) (N : Nat) (J : Nat → Nat → Int64) (rv0 : (Nat → Nat → Int32) → Option ((Nat → Nat → Int32))) {res : (Nat → Nat → Int32)} (ih0 : ∀ (G : Nat → Nat → Int32), rv0 G = some res → JW X 0 0 0 [some (.ref 0), none] [] (hMo G J)) (G : Nat → Nat → Int32) (h : p_X6_reads_b39 N J rv0 G = some res) (hq : po none (hMo res J)) : JW X 0 0 39 [some (.ref 0), none] [] (hMo G J) := by
  unfold p_X6_reads_b39 at h
  obtain ⟨G46, e47, h⟩ := jlE h
  refine JW.r hM 19 6 (pc2 := 49) (L2 := [some (.ref 0), none]) (st2 := []) (μ2 := (hMo (jup G 0 9 ((G 0 9) + (1 : Int32))) J)) rfl trivial ?_
  rw [e47]
  refine JW.r hM 25 1 (pc2 := 0) (L2 := [some (.ref 0), none]) (st2 := []) (μ2 := (hMo G46 J)) rfl trivial ?_
  exact ih0 G46 h
set_option maxHeartbeats 4000000 in
set_option maxRecDepth 100000 in
theorem t_X6_reads_b0 {X : jX} {po : Option Value → jH → Prop} {px : String → jH → Prop} {sf : Bool} {B9 : Nat} (hM : jMX X kX6_reads RX6 tbX6 2 ⟨1, 0, 0, 21⟩ none 16) (hp : jPost X sf B9 po px) (N : Nat) (J : Nat → Nat → Int64) {res : (Nat → Nat → Int32)} : ∀ (n : Nat) (G : Nat → Nat → Int32) (h : p_X6_reads_b0 N J n G = some res) (hq : po none (hMo res J)), JW X 0 0 0 [some (.ref 0), none] [] (hMo G J) := by
  intro n
  induction n with
  | zero =>
    intro G h hq
    cases (show (none : Option ((Nat → Nat → Int32))) = some res from h)
  | succ n ih0 =>
    intro G h hq
    have ih0 := fun G h9 => ih0 G h9 hq
    rw [p_X6_reads_b0] at h
    refine JW.r hM 0 4 (pc2 := 8) (L2 := [some (.ref 0), none]) (st2 := [.int (G 0 8), .int (G 0 9)]) (μ2 := (hMo G J)) rfl trivial ?_
    refine js_icge (t := 52) hM.1 (jat hM.2.1 4 rfl) rfl (fun hc51 => ?_) (fun hc51 => ?_)
    · have h := (if_pos hc51).symm.trans h
      exact t_X6_reads_b52 hM hp N J G h hq
    · have h := (if_neg hc51).symm.trans h
      obtain ⟨g45, h⟩ := jg h
      refine JW.r hM 5 6 (pc2 := 22) (L2 := [some (.ref 0), none]) (st2 := [.int (32 : Int32), .int (G 6 (G 0 9).toNatClampNeg)]) (μ2 := (hMo G J)) rfl ⟨g45, trivial⟩ ?_
      refine js_iceq (t := 39) hM.1 (jat hM.2.1 11 rfl) rfl (fun hc50 => ?_) (fun hc50 => ?_)
      · have h := (if_pos hc50).symm.trans h
        exact t_X6_reads_b39 hM hp N J (p_X6_reads_b0 N J n) ih0 G h hq
      · have h := (if_neg hc50).symm.trans h
        obtain ⟨g48, h⟩ := jg h
        refine JW.r hM 12 6 (pc2 := 36) (L2 := [some (.ref 0), none]) (st2 := [.int (10 : Int32), .int (G 6 (G 0 9).toNatClampNeg)]) (μ2 := (hMo G J)) rfl ⟨g48, trivial⟩ ?_
        refine js_icne (t := 52) hM.1 (jat hM.2.1 18 rfl) rfl (fun hc49 => ?_) (fun hc49 => ?_)
        · have h := (if_neg hc49).symm.trans h
          exact t_X6_reads_b52 hM hp N J G h hq
        · have h := (if_pos hc49).symm.trans h
          exact t_X6_reads_b39 hM hp N J (p_X6_reads_b0 N J n) ih0 G h hq
set_option maxHeartbeats 4000000 in
set_option maxRecDepth 100000 in
theorem t_X6_reads {X : jX} {po : Option Value → jH → Prop} {px : String → jH → Prop} {sf : Bool} {B9 : Nat} (hM : jMX X kX6_reads RX6 tbX6 2 ⟨1, 0, 0, 21⟩ none 16) (hp : jPost X sf B9 po px) (N : Nat) (G : Nat → Nat → Int32) (J : Nat → Nat → Int64) {res : (Nat → Nat → Int32)} (h : p_X6_reads N G J = some res) (hq : po none (hMo res J)) : JW X 0 0 0 [some (.ref 0), none] [] (hMo G J) := by
  unfold p_X6_reads at h
  exact t_X6_reads_b0 hM hp N J N G h hq
theorem m_X6_reads (V : jV) (hV : V.1.stackTraces = false) (N : Nat) (G : Nat → Nat → Int32) (J : Nat → Nat → Int64) (v : (Nat → Nat → Int32)) (h : p_X6_reads N G J = some v) : jMet V yX6_reads (jws yX6_reads cX6_reads 2 none) ⟨1, 0, 0, 21⟩ true 1 [.ref 0] (hMo G J) (fun o ν => o = none ∧ ν = (hMo v J)) (fun _ _ => False) := by
  refine jmk (tb := tbX6) (C := kX6_reads) hV rfl (by decide) tbX6_ok rfl kX6_reads_ok rfl ?_
  intro X hM _ hp _
  exact t_X6_reads hM hp N G J h ⟨rfl, rfl⟩
def p_X6_blames_b22 (N : Nat) (J : Nat → Nat → Int64) (G : Nat → Nat → Int32) (s0 : Int32) : Option ((Nat → Nat → Int32)) :=
  jlt (jup G 0 13 s0) fun G1 => jlt (jup G1 0 14 (G1 0 10)) fun G3 => some G3
def p_X6_blames (N : Nat) (G : Nat → Nat → Int32) (J : Nat → Nat → Int64) (p0 : Int32) : Option ((Nat → Nat → Int32)) :=
  if (G 0 13) = 0 then (if (G 0 11) = (4 : Int32) then (p_X6_blames_b22 N J G (1 : Int32)) else (p_X6_blames_b22 N J G p0)) else (some G)
set_option maxHeartbeats 4000000 in
set_option maxRecDepth 100000 in
theorem t_X6_blames_b22 {X : jX} {po : Option Value → jH → Prop} {px : String → jH → Prop} {sf : Bool} {B9 : Nat} (hM : jMX X kX6_blames RX6 tbX6 2 ⟨0, 0, 0, 0⟩ none 16) (hp : jPost X sf B9 po px) (N : Nat) (J : Nat → Nat → Int64) {res : (Nat → Nat → Int32)} (G : Nat → Nat → Int32) (s0 : Int32) (h : p_X6_blames_b22 N J G s0 = some res) (hq : po none (hMo res J)) : JW X 0 0 22 [some (.ref 0), none] [.int s0, .ref 0] (hMo G J) := by
  unfold p_X6_blames_b22 at h
  obtain ⟨G1, e2, h⟩ := jlE h
  refine JW.r hM 12 1 (pc2 := 25) (L2 := [some (.ref 0), none]) (st2 := []) (μ2 := (hMo (jup G 0 13 s0) J)) rfl trivial ?_
  rw [e2]
  obtain ⟨G3, e4, h⟩ := jlE h
  refine JW.r hM 13 4 (pc2 := 33) (L2 := [some (.ref 0), none]) (st2 := []) (μ2 := (hMo (jup G1 0 14 (G1 0 10)) J)) rfl trivial ?_
  rw [e4]
  obtain rfl := Option.some.inj h
  exact js_vret hM.1 hp hM.2.2.2.2.2.2.2.1 (by rw [hM.2.2.2.2.2.1]; exact Nat.le_of_ble_eq_true rfl) (by rw [hM.2.2.2.2.2.2.1]; exact Nat.le_of_ble_eq_true rfl) (jat hM.2.1 17 rfl) hq
set_option maxHeartbeats 4000000 in
set_option maxRecDepth 100000 in
theorem t_X6_blames {X : jX} {po : Option Value → jH → Prop} {px : String → jH → Prop} {sf : Bool} {B9 : Nat} (hM : jMX X kX6_blames RX6 tbX6 2 ⟨0, 0, 0, 0⟩ none 16) (hp : jPost X sf B9 po px) (N : Nat) (G : Nat → Nat → Int32) (J : Nat → Nat → Int64) (p0 : Int32) {res : (Nat → Nat → Int32)} (h : p_X6_blames N G J p0 = some res) (hq : po none (hMo res J)) : JW X 0 0 0 [some (.ref 0), some (.int p0)] [] (hMo G J) := by
  unfold p_X6_blames at h
  refine JW.r hM 0 2 (pc2 := 4) (L2 := [some (.ref 0), some (.int p0)]) (st2 := [.int (G 0 13)]) (μ2 := (hMo G J)) rfl trivial ?_
  refine js_ifeq (t := 8) hM.1 (jat hM.2.1 2 rfl) rfl (fun hc6 => ?_) (fun hc6 => ?_)
  · have h := (if_pos hc6).symm.trans h
    refine JW.r hM 4 4 (pc2 := 14) (L2 := [some (.ref 0), some (.int p0)]) (st2 := [.int (4 : Int32), .int (G 0 11), .ref 0]) (μ2 := (hMo G J)) rfl trivial ?_
    refine js_icne (t := 21) hM.1 (jat hM.2.1 8 rfl) rfl (fun hc5 => ?_) (fun hc5 => ?_)
    · have h := (if_neg hc5).symm.trans h
      refine JW.r hM 11 1 (pc2 := 22) (L2 := [some (.ref 0), some (.int p0)]) (st2 := [.int p0, .ref 0]) (μ2 := (hMo G J)) rfl trivial ?_
      exact JW.mask [true, false] (t_X6_blames_b22 hM hp N J G p0 h hq)
    · have h := (if_pos hc5).symm.trans h
      refine JW.r hM 9 2 (pc2 := 22) (L2 := [some (.ref 0), some (.int p0)]) (st2 := [.int (1 : Int32), .ref 0]) (μ2 := (hMo G J)) rfl trivial ?_
      exact JW.mask [true, false] (t_X6_blames_b22 hM hp N J G (1 : Int32) h hq)
  · have h := (if_neg hc6).symm.trans h
    obtain rfl := Option.some.inj h
    exact js_vret hM.1 hp hM.2.2.2.2.2.2.2.1 (by rw [hM.2.2.2.2.2.1]; exact Nat.le_of_ble_eq_true rfl) (by rw [hM.2.2.2.2.2.2.1]; exact Nat.le_of_ble_eq_true rfl) (jat hM.2.1 3 rfl) hq
theorem m_X6_blames (V : jV) (hV : V.1.stackTraces = false) (N : Nat) (G : Nat → Nat → Int32) (J : Nat → Nat → Int64) (p0 : Int32) (v : (Nat → Nat → Int32)) (h : p_X6_blames N G J p0 = some v) : jMet V yX6_blames (jws yX6_blames cX6_blames 2 none) ⟨0, 0, 0, 0⟩ true 1 [.ref 0, .int p0] (hMo G J) (fun o ν => o = none ∧ ν = (hMo v J)) (fun _ _ => False) := by
  refine jmk (tb := tbX6) (C := kX6_blames) hV rfl (by decide) tbX6_ok rfl kX6_blames_ok rfl ?_
  intro X hM _ hp _
  exact t_X6_blames hM hp N G J p0 h ⟨rfl, rfl⟩
def p_X6_isWord_0_b75 (N : Nat) (G : Nat → Nat → Int32) (J : Nat → Nat → Int64) (rv39 : Int32 → Int32 → Option (Int32)) (x3 : Int32) (s0 : Int32) : Option (Int32) :=
  rv39 s0 (x3 + 1)
def p_X6_isWord_0_b39 (N : Nat) (G : Nat → Nat → Int32) (J : Nat → Nat → Int64) : Nat → (Int32) → (Int32) → Option (Int32)
  | 0, _, _ => none
  | n + 1, x2, x3 => if x2 = 0 then (if jz x2 = true then some x2 else none) else (if (6 : Int32) ≤ x3 then (if jz x2 = true then some x2 else none) else (if jin ((G 0 10) + x3) 900 = true then if jin x3 6 = true then if (G 6 ((G 0 10) + x3).toNatClampNeg) = (jch 0 x3) then (p_X6_isWord_0_b75 N G J (p_X6_isWord_0_b39 N G J n) x3 (1 : Int32)) else (p_X6_isWord_0_b75 N G J (p_X6_isWord_0_b39 N G J n) x3 (0 : Int32)) else none else none))
def p_X6_isWord_0_b36 (N : Nat) (G : Nat → Nat → Int32) (J : Nat → Nat → Int64) (s0 : Int32) : Option (Int32) :=
  p_X6_isWord_0_b39 N G J N s0 (0 : Int32)
def p_X6_isWord_0_b35 (N : Nat) (G : Nat → Nat → Int32) (J : Nat → Nat → Int64) : Option (Int32) :=
  p_X6_isWord_0_b36 N G J (0 : Int32)
def p_X6_isWord_0 (N : Nat) (G : Nat → Nat → Int32) (J : Nat → Nat → Int64) : Option (Int32) :=
  if (G 0 13) = 0 then (if (G 0 11) = (1 : Int32) then (if ((G 0 9) - (G 0 10)) = (6 : Int32) then (p_X6_isWord_0_b36 N G J (1 : Int32)) else (p_X6_isWord_0_b35 N G J)) else (p_X6_isWord_0_b35 N G J)) else (p_X6_isWord_0_b35 N G J)
set_option maxHeartbeats 4000000 in
set_option maxRecDepth 100000 in
theorem t_X6_isWord_0_b75 {X : jX} {po : Option Value → jH → Prop} {px : String → jH → Prop} {sf : Bool} {B9 : Nat} (hM : jMX X kX6_isWord RX6 tbX6 4 ⟨4, 0, 0, 108⟩ (some .boolean) 16) (hp : jPost X sf B9 po px) (N : Nat) (G : Nat → Nat → Int32) (J : Nat → Nat → Int64) (rv39 : Int32 → Int32 → Option (Int32)) {res : Int32} (ih39 : ∀ (x2 : Int32) (x3 : Int32), rv39 x2 x3 = some res → JW X 0 0 39 [some (.ref 0), some (.ref 1000000), some (.int x2), some (.int x3)] [] (hMo G J)) (x3 : Int32) (s0 : Int32) (h : p_X6_isWord_0_b75 N G J rv39 x3 s0 = some res) (hq : po (some (.int res)) (hMo G J)) : JW X 0 0 75 [some (.ref 0), some (.ref 1000000), none, some (.int x3)] [.int s0] (hMo G J) := by
  unfold p_X6_isWord_0_b75 at h
  refine JW.r hM 41 3 (pc2 := 39) (L2 := [some (.ref 0), some (.ref 1000000), some (.int s0), some (.int (x3 + 1))]) (st2 := []) (μ2 := (hMo G J)) rfl trivial ?_
  exact ih39 s0 (x3 + 1) h
set_option maxHeartbeats 4000000 in
set_option maxRecDepth 100000 in
theorem t_X6_isWord_0_b39 {X : jX} {po : Option Value → jH → Prop} {px : String → jH → Prop} {sf : Bool} {B9 : Nat} (hM : jMX X kX6_isWord RX6 tbX6 4 ⟨4, 0, 0, 108⟩ (some .boolean) 16) (hp : jPost X sf B9 po px) (N : Nat) (G : Nat → Nat → Int32) (J : Nat → Nat → Int64) {res : Int32} : ∀ (n : Nat) (x2 : Int32) (x3 : Int32) (h : p_X6_isWord_0_b39 N G J n x2 x3 = some res) (hq : po (some (.int res)) (hMo G J)), JW X 0 0 39 [some (.ref 0), some (.ref 1000000), some (.int x2), some (.int x3)] [] (hMo G J) := by
  intro n
  induction n with
  | zero =>
    intro x2 x3 h hq
    cases (show (none : Option (Int32)) = some res from h)
  | succ n ih39 =>
    intro x2 x3 h hq
    have ih39 := fun x2 x3 h9 => ih39 x2 x3 h9 hq
    rw [p_X6_isWord_0_b39] at h
    refine JW.r hM 21 1 (pc2 := 40) (L2 := [some (.ref 0), some (.ref 1000000), some (.int x2), some (.int x3)]) (st2 := [.int x2]) (μ2 := (hMo G J)) rfl trivial ?_
    refine js_ifeq (t := 82) hM.1 (jat hM.2.1 22 rfl) rfl (fun hc7 => ?_) (fun hc7 => ?_)
    · have h := (if_pos hc7).symm.trans h
      refine JW.r hM 44 1 (pc2 := 83) (L2 := [some (.ref 0), some (.ref 1000000), some (.int x2), some (.int x3)]) (st2 := [.int x2]) (μ2 := (hMo G J)) rfl trivial ?_
      obtain ⟨g1, h⟩ := jg h
      obtain rfl := Option.some.inj h
      exact js_zret hM.1 hp hM.2.2.2.2.2.2.2.1 g1 (by rw [hM.2.2.2.2.2.1]; exact Nat.le_of_ble_eq_true rfl) (by rw [hM.2.2.2.2.2.2.1]; exact Nat.le_of_ble_eq_true rfl) (jat hM.2.1 45 rfl) hq
    · have h := (if_neg hc7).symm.trans h
      refine JW.r hM 23 2 (pc2 := 45) (L2 := [some (.ref 0), some (.ref 1000000), some (.int x2), some (.int x3)]) (st2 := [.ref 1000000, .int x3]) (μ2 := (hMo G J)) rfl trivial ?_
      refine js_slen (w := 0) hM.1 (by decide) (by rw [hM.2.2.1]; exact wd1409) (jat hM.2.1 25 rfl) (by rw [hM.2.2.2.2.1]; exact Nat.le_of_ble_eq_true rfl) (by rw [hM.2.2.2.2.1]; exact Nat.le_of_ble_eq_true rfl) (by rw [hM.2.2.2.2.1]; exact Nat.le_of_ble_eq_true rfl) (by rw [hM.2.2.2.2.1]; exact Nat.le_of_ble_eq_true rfl) ?_
      show JW X 0 0 48 [some (.ref 0), some (.ref 1000000), some (.int x2), some (.int x3)] [.int (6 : Int32), .int x3] (hMo G J)
      refine js_icge (t := 82) hM.1 (jat hM.2.1 26 rfl) rfl (fun hc6 => ?_) (fun hc6 => ?_)
      · have h := (if_pos hc6).symm.trans h
        refine JW.r hM 44 1 (pc2 := 83) (L2 := [some (.ref 0), some (.ref 1000000), some (.int x2), some (.int x3)]) (st2 := [.int x2]) (μ2 := (hMo G J)) rfl trivial ?_
        obtain ⟨g2, h⟩ := jg h
        obtain rfl := Option.some.inj h
        exact js_zret hM.1 hp hM.2.2.2.2.2.2.2.1 g2 (by rw [hM.2.2.2.2.2.1]; exact Nat.le_of_ble_eq_true rfl) (by rw [hM.2.2.2.2.2.2.1]; exact Nat.le_of_ble_eq_true rfl) (jat hM.2.1 45 rfl) hq
      · have h := (if_neg hc6).symm.trans h
        obtain ⟨g3, h⟩ := jg h
        refine JW.r hM 27 9 (pc2 := 64) (L2 := [some (.ref 0), some (.ref 1000000), some (.int x2), some (.int x3)]) (st2 := [.int x3, .ref 1000000, .int (G 6 ((G 0 10) + x3).toNatClampNeg)]) (μ2 := (hMo G J)) rfl ⟨g3, trivial⟩ ?_
        obtain ⟨g4, h⟩ := jg h
        refine js_sch (w := 0) hM.1 (by decide) (by rw [hM.2.2.1]; exact wd1410) g4 (jat hM.2.1 36 rfl) (by rw [hM.2.2.2.2.1]; exact Nat.le_of_ble_eq_true rfl) (by rw [hM.2.2.2.2.1]; exact Nat.le_of_ble_eq_true rfl) (by rw [hM.2.2.2.2.1]; exact Nat.le_of_ble_eq_true rfl) (by rw [hM.2.2.2.2.1]; exact Nat.le_of_ble_eq_true rfl) ?_
        show JW X 0 0 67 [some (.ref 0), some (.ref 1000000), some (.int x2), some (.int x3)] [.int (jch 0 x3), .int (G 6 ((G 0 10) + x3).toNatClampNeg)] (hMo G J)
        refine js_icne (t := 74) hM.1 (jat hM.2.1 37 rfl) rfl (fun hc5 => ?_) (fun hc5 => ?_)
        · have h := (if_neg hc5).symm.trans h
          refine JW.r hM 40 1 (pc2 := 75) (L2 := [some (.ref 0), some (.ref 1000000), some (.int x2), some (.int x3)]) (st2 := [.int (0 : Int32)]) (μ2 := (hMo G J)) rfl trivial ?_
          exact JW.mask [true, true, false, true] (t_X6_isWord_0_b75 hM hp N G J (p_X6_isWord_0_b39 N G J n) ih39 x3 (0 : Int32) h hq)
        · have h := (if_pos hc5).symm.trans h
          refine JW.r hM 38 2 (pc2 := 75) (L2 := [some (.ref 0), some (.ref 1000000), some (.int x2), some (.int x3)]) (st2 := [.int (1 : Int32)]) (μ2 := (hMo G J)) rfl trivial ?_
          exact JW.mask [true, true, false, true] (t_X6_isWord_0_b75 hM hp N G J (p_X6_isWord_0_b39 N G J n) ih39 x3 (1 : Int32) h hq)
set_option maxHeartbeats 4000000 in
set_option maxRecDepth 100000 in
theorem t_X6_isWord_0_b36 {X : jX} {po : Option Value → jH → Prop} {px : String → jH → Prop} {sf : Bool} {B9 : Nat} (hM : jMX X kX6_isWord RX6 tbX6 4 ⟨4, 0, 0, 108⟩ (some .boolean) 16) (hp : jPost X sf B9 po px) (N : Nat) (G : Nat → Nat → Int32) (J : Nat → Nat → Int64) {res : Int32} (s0 : Int32) (h : p_X6_isWord_0_b36 N G J s0 = some res) (hq : po (some (.int res)) (hMo G J)) : JW X 0 0 36 [some (.ref 0), some (.ref 1000000), none, none] [.int s0] (hMo G J) := by
  unfold p_X6_isWord_0_b36 at h
  refine JW.r hM 18 3 (pc2 := 39) (L2 := [some (.ref 0), some (.ref 1000000), some (.int s0), some (.int (0 : Int32))]) (st2 := []) (μ2 := (hMo G J)) rfl trivial ?_
  exact t_X6_isWord_0_b39 hM hp N G J N s0 (0 : Int32) h hq
set_option maxHeartbeats 4000000 in
set_option maxRecDepth 100000 in
theorem t_X6_isWord_0_b35 {X : jX} {po : Option Value → jH → Prop} {px : String → jH → Prop} {sf : Bool} {B9 : Nat} (hM : jMX X kX6_isWord RX6 tbX6 4 ⟨4, 0, 0, 108⟩ (some .boolean) 16) (hp : jPost X sf B9 po px) (N : Nat) (G : Nat → Nat → Int32) (J : Nat → Nat → Int64) {res : Int32} (h : p_X6_isWord_0_b35 N G J = some res) (hq : po (some (.int res)) (hMo G J)) : JW X 0 0 35 [some (.ref 0), some (.ref 1000000), none, none] [] (hMo G J) := by
  unfold p_X6_isWord_0_b35 at h
  refine JW.r hM 17 1 (pc2 := 36) (L2 := [some (.ref 0), some (.ref 1000000), none, none]) (st2 := [.int (0 : Int32)]) (μ2 := (hMo G J)) rfl trivial ?_
  exact t_X6_isWord_0_b36 hM hp N G J (0 : Int32) h hq
set_option maxHeartbeats 4000000 in
set_option maxRecDepth 100000 in
theorem t_X6_isWord_0 {X : jX} {po : Option Value → jH → Prop} {px : String → jH → Prop} {sf : Bool} {B9 : Nat} (hM : jMX X kX6_isWord RX6 tbX6 4 ⟨4, 0, 0, 108⟩ (some .boolean) 16) (hp : jPost X sf B9 po px) (N : Nat) (G : Nat → Nat → Int32) (J : Nat → Nat → Int64) {res : Int32} (h : p_X6_isWord_0 N G J = some res) (hq : po (some (.int res)) (hMo G J)) : JW X 0 0 0 [some (.ref 0), some (.ref 1000000), none, none] [] (hMo G J) := by
  unfold p_X6_isWord_0 at h
  refine JW.r hM 0 2 (pc2 := 4) (L2 := [some (.ref 0), some (.ref 1000000), none, none]) (st2 := [.int (G 0 13)]) (μ2 := (hMo G J)) rfl trivial ?_
  refine js_ifne (t := 35) hM.1 (jat hM.2.1 2 rfl) rfl (fun hc10 => ?_) (fun hc10 => ?_)
  · have h := (if_neg hc10).symm.trans h
    exact t_X6_isWord_0_b35 hM hp N G J h hq
  · have h := (if_pos hc10).symm.trans h
    refine JW.r hM 3 3 (pc2 := 12) (L2 := [some (.ref 0), some (.ref 1000000), none, none]) (st2 := [.int (1 : Int32), .int (G 0 11)]) (μ2 := (hMo G J)) rfl trivial ?_
    refine js_icne (t := 35) hM.1 (jat hM.2.1 6 rfl) rfl (fun hc9 => ?_) (fun hc9 => ?_)
    · have h := (if_neg hc9).symm.trans h
      exact t_X6_isWord_0_b35 hM hp N G J h hq
    · have h := (if_pos hc9).symm.trans h
      refine JW.r hM 7 6 (pc2 := 25) (L2 := [some (.ref 0), some (.ref 1000000), none, none]) (st2 := [.ref 1000000, .int ((G 0 9) - (G 0 10))]) (μ2 := (hMo G J)) rfl trivial ?_
      refine js_slen (w := 0) hM.1 (by decide) (by rw [hM.2.2.1]; exact wd1409) (jat hM.2.1 13 rfl) (by rw [hM.2.2.2.2.1]; exact Nat.le_of_ble_eq_true rfl) (by rw [hM.2.2.2.2.1]; exact Nat.le_of_ble_eq_true rfl) (by rw [hM.2.2.2.2.1]; exact Nat.le_of_ble_eq_true rfl) (by rw [hM.2.2.2.2.1]; exact Nat.le_of_ble_eq_true rfl) ?_
      show JW X 0 0 28 [some (.ref 0), some (.ref 1000000), none, none] [.int (6 : Int32), .int ((G 0 9) - (G 0 10))] (hMo G J)
      refine js_icne (t := 35) hM.1 (jat hM.2.1 14 rfl) rfl (fun hc8 => ?_) (fun hc8 => ?_)
      · have h := (if_neg hc8).symm.trans h
        exact t_X6_isWord_0_b35 hM hp N G J h hq
      · have h := (if_pos hc8).symm.trans h
        refine JW.r hM 15 2 (pc2 := 36) (L2 := [some (.ref 0), some (.ref 1000000), none, none]) (st2 := [.int (1 : Int32)]) (μ2 := (hMo G J)) rfl trivial ?_
        exact t_X6_isWord_0_b36 hM hp N G J (1 : Int32) h hq
theorem m_X6_isWord_0 (V : jV) (hV : V.1.stackTraces = false) (N : Nat) (G : Nat → Nat → Int32) (J : Nat → Nat → Int64) (v : Int32) (h : p_X6_isWord_0 N G J = some v) : jMet V yX6_isWord (jws yX6_isWord cX6_isWord 4 (some .boolean)) ⟨4, 0, 0, 108⟩ true 1 [.ref 0, .ref 1000000] (hMo G J) (fun o ν => o = some (.int v) ∧ ν = (hMo G J)) (fun _ _ => False) := by
  refine jmk (tb := tbX6) (C := kX6_isWord) hV rfl (by decide) tbX6_ok rfl kX6_isWord_ok rfl ?_
  intro X hM _ hp _
  exact t_X6_isWord_0 hM hp N G J h ⟨rfl, rfl⟩
def p_X6_isWord_1_b75 (N : Nat) (G : Nat → Nat → Int32) (J : Nat → Nat → Int64) (rv39 : Int32 → Int32 → Option (Int32)) (x3 : Int32) (s0 : Int32) : Option (Int32) :=
  rv39 s0 (x3 + 1)
def p_X6_isWord_1_b39 (N : Nat) (G : Nat → Nat → Int32) (J : Nat → Nat → Int64) : Nat → (Int32) → (Int32) → Option (Int32)
  | 0, _, _ => none
  | n + 1, x2, x3 => if x2 = 0 then (if jz x2 = true then some x2 else none) else (if (5 : Int32) ≤ x3 then (if jz x2 = true then some x2 else none) else (if jin ((G 0 10) + x3) 900 = true then if jin x3 5 = true then if (G 6 ((G 0 10) + x3).toNatClampNeg) = (jch 1 x3) then (p_X6_isWord_1_b75 N G J (p_X6_isWord_1_b39 N G J n) x3 (1 : Int32)) else (p_X6_isWord_1_b75 N G J (p_X6_isWord_1_b39 N G J n) x3 (0 : Int32)) else none else none))
def p_X6_isWord_1_b36 (N : Nat) (G : Nat → Nat → Int32) (J : Nat → Nat → Int64) (s0 : Int32) : Option (Int32) :=
  p_X6_isWord_1_b39 N G J N s0 (0 : Int32)
def p_X6_isWord_1_b35 (N : Nat) (G : Nat → Nat → Int32) (J : Nat → Nat → Int64) : Option (Int32) :=
  p_X6_isWord_1_b36 N G J (0 : Int32)
def p_X6_isWord_1 (N : Nat) (G : Nat → Nat → Int32) (J : Nat → Nat → Int64) : Option (Int32) :=
  if (G 0 13) = 0 then (if (G 0 11) = (1 : Int32) then (if ((G 0 9) - (G 0 10)) = (5 : Int32) then (p_X6_isWord_1_b36 N G J (1 : Int32)) else (p_X6_isWord_1_b35 N G J)) else (p_X6_isWord_1_b35 N G J)) else (p_X6_isWord_1_b35 N G J)
set_option maxHeartbeats 4000000 in
set_option maxRecDepth 100000 in
theorem t_X6_isWord_1_b75 {X : jX} {po : Option Value → jH → Prop} {px : String → jH → Prop} {sf : Bool} {B9 : Nat} (hM : jMX X kX6_isWord RX6 tbX6 4 ⟨4, 0, 0, 108⟩ (some .boolean) 16) (hp : jPost X sf B9 po px) (N : Nat) (G : Nat → Nat → Int32) (J : Nat → Nat → Int64) (rv39 : Int32 → Int32 → Option (Int32)) {res : Int32} (ih39 : ∀ (x2 : Int32) (x3 : Int32), rv39 x2 x3 = some res → JW X 0 0 39 [some (.ref 0), some (.ref 1000001), some (.int x2), some (.int x3)] [] (hMo G J)) (x3 : Int32) (s0 : Int32) (h : p_X6_isWord_1_b75 N G J rv39 x3 s0 = some res) (hq : po (some (.int res)) (hMo G J)) : JW X 0 0 75 [some (.ref 0), some (.ref 1000001), none, some (.int x3)] [.int s0] (hMo G J) := by
  unfold p_X6_isWord_1_b75 at h
  refine JW.r hM 41 3 (pc2 := 39) (L2 := [some (.ref 0), some (.ref 1000001), some (.int s0), some (.int (x3 + 1))]) (st2 := []) (μ2 := (hMo G J)) rfl trivial ?_
  exact ih39 s0 (x3 + 1) h
set_option maxHeartbeats 4000000 in
set_option maxRecDepth 100000 in
theorem t_X6_isWord_1_b39 {X : jX} {po : Option Value → jH → Prop} {px : String → jH → Prop} {sf : Bool} {B9 : Nat} (hM : jMX X kX6_isWord RX6 tbX6 4 ⟨4, 0, 0, 108⟩ (some .boolean) 16) (hp : jPost X sf B9 po px) (N : Nat) (G : Nat → Nat → Int32) (J : Nat → Nat → Int64) {res : Int32} : ∀ (n : Nat) (x2 : Int32) (x3 : Int32) (h : p_X6_isWord_1_b39 N G J n x2 x3 = some res) (hq : po (some (.int res)) (hMo G J)), JW X 0 0 39 [some (.ref 0), some (.ref 1000001), some (.int x2), some (.int x3)] [] (hMo G J) := by
  intro n
  induction n with
  | zero =>
    intro x2 x3 h hq
    cases (show (none : Option (Int32)) = some res from h)
  | succ n ih39 =>
    intro x2 x3 h hq
    have ih39 := fun x2 x3 h9 => ih39 x2 x3 h9 hq
    rw [p_X6_isWord_1_b39] at h
    refine JW.r hM 21 1 (pc2 := 40) (L2 := [some (.ref 0), some (.ref 1000001), some (.int x2), some (.int x3)]) (st2 := [.int x2]) (μ2 := (hMo G J)) rfl trivial ?_
    refine js_ifeq (t := 82) hM.1 (jat hM.2.1 22 rfl) rfl (fun hc7 => ?_) (fun hc7 => ?_)
    · have h := (if_pos hc7).symm.trans h
      refine JW.r hM 44 1 (pc2 := 83) (L2 := [some (.ref 0), some (.ref 1000001), some (.int x2), some (.int x3)]) (st2 := [.int x2]) (μ2 := (hMo G J)) rfl trivial ?_
      obtain ⟨g1, h⟩ := jg h
      obtain rfl := Option.some.inj h
      exact js_zret hM.1 hp hM.2.2.2.2.2.2.2.1 g1 (by rw [hM.2.2.2.2.2.1]; exact Nat.le_of_ble_eq_true rfl) (by rw [hM.2.2.2.2.2.2.1]; exact Nat.le_of_ble_eq_true rfl) (jat hM.2.1 45 rfl) hq
    · have h := (if_neg hc7).symm.trans h
      refine JW.r hM 23 2 (pc2 := 45) (L2 := [some (.ref 0), some (.ref 1000001), some (.int x2), some (.int x3)]) (st2 := [.ref 1000001, .int x3]) (μ2 := (hMo G J)) rfl trivial ?_
      refine js_slen (w := 1) hM.1 (by decide) (by rw [hM.2.2.1]; exact wd1409) (jat hM.2.1 25 rfl) (by rw [hM.2.2.2.2.1]; exact Nat.le_of_ble_eq_true rfl) (by rw [hM.2.2.2.2.1]; exact Nat.le_of_ble_eq_true rfl) (by rw [hM.2.2.2.2.1]; exact Nat.le_of_ble_eq_true rfl) (by rw [hM.2.2.2.2.1]; exact Nat.le_of_ble_eq_true rfl) ?_
      show JW X 0 0 48 [some (.ref 0), some (.ref 1000001), some (.int x2), some (.int x3)] [.int (5 : Int32), .int x3] (hMo G J)
      refine js_icge (t := 82) hM.1 (jat hM.2.1 26 rfl) rfl (fun hc6 => ?_) (fun hc6 => ?_)
      · have h := (if_pos hc6).symm.trans h
        refine JW.r hM 44 1 (pc2 := 83) (L2 := [some (.ref 0), some (.ref 1000001), some (.int x2), some (.int x3)]) (st2 := [.int x2]) (μ2 := (hMo G J)) rfl trivial ?_
        obtain ⟨g2, h⟩ := jg h
        obtain rfl := Option.some.inj h
        exact js_zret hM.1 hp hM.2.2.2.2.2.2.2.1 g2 (by rw [hM.2.2.2.2.2.1]; exact Nat.le_of_ble_eq_true rfl) (by rw [hM.2.2.2.2.2.2.1]; exact Nat.le_of_ble_eq_true rfl) (jat hM.2.1 45 rfl) hq
      · have h := (if_neg hc6).symm.trans h
        obtain ⟨g3, h⟩ := jg h
        refine JW.r hM 27 9 (pc2 := 64) (L2 := [some (.ref 0), some (.ref 1000001), some (.int x2), some (.int x3)]) (st2 := [.int x3, .ref 1000001, .int (G 6 ((G 0 10) + x3).toNatClampNeg)]) (μ2 := (hMo G J)) rfl ⟨g3, trivial⟩ ?_
        obtain ⟨g4, h⟩ := jg h
        refine js_sch (w := 1) hM.1 (by decide) (by rw [hM.2.2.1]; exact wd1410) g4 (jat hM.2.1 36 rfl) (by rw [hM.2.2.2.2.1]; exact Nat.le_of_ble_eq_true rfl) (by rw [hM.2.2.2.2.1]; exact Nat.le_of_ble_eq_true rfl) (by rw [hM.2.2.2.2.1]; exact Nat.le_of_ble_eq_true rfl) (by rw [hM.2.2.2.2.1]; exact Nat.le_of_ble_eq_true rfl) ?_
        show JW X 0 0 67 [some (.ref 0), some (.ref 1000001), some (.int x2), some (.int x3)] [.int (jch 1 x3), .int (G 6 ((G 0 10) + x3).toNatClampNeg)] (hMo G J)
        refine js_icne (t := 74) hM.1 (jat hM.2.1 37 rfl) rfl (fun hc5 => ?_) (fun hc5 => ?_)
        · have h := (if_neg hc5).symm.trans h
          refine JW.r hM 40 1 (pc2 := 75) (L2 := [some (.ref 0), some (.ref 1000001), some (.int x2), some (.int x3)]) (st2 := [.int (0 : Int32)]) (μ2 := (hMo G J)) rfl trivial ?_
          exact JW.mask [true, true, false, true] (t_X6_isWord_1_b75 hM hp N G J (p_X6_isWord_1_b39 N G J n) ih39 x3 (0 : Int32) h hq)
        · have h := (if_pos hc5).symm.trans h
          refine JW.r hM 38 2 (pc2 := 75) (L2 := [some (.ref 0), some (.ref 1000001), some (.int x2), some (.int x3)]) (st2 := [.int (1 : Int32)]) (μ2 := (hMo G J)) rfl trivial ?_
          exact JW.mask [true, true, false, true] (t_X6_isWord_1_b75 hM hp N G J (p_X6_isWord_1_b39 N G J n) ih39 x3 (1 : Int32) h hq)
set_option maxHeartbeats 4000000 in
set_option maxRecDepth 100000 in
theorem t_X6_isWord_1_b36 {X : jX} {po : Option Value → jH → Prop} {px : String → jH → Prop} {sf : Bool} {B9 : Nat} (hM : jMX X kX6_isWord RX6 tbX6 4 ⟨4, 0, 0, 108⟩ (some .boolean) 16) (hp : jPost X sf B9 po px) (N : Nat) (G : Nat → Nat → Int32) (J : Nat → Nat → Int64) {res : Int32} (s0 : Int32) (h : p_X6_isWord_1_b36 N G J s0 = some res) (hq : po (some (.int res)) (hMo G J)) : JW X 0 0 36 [some (.ref 0), some (.ref 1000001), none, none] [.int s0] (hMo G J) := by
  unfold p_X6_isWord_1_b36 at h
  refine JW.r hM 18 3 (pc2 := 39) (L2 := [some (.ref 0), some (.ref 1000001), some (.int s0), some (.int (0 : Int32))]) (st2 := []) (μ2 := (hMo G J)) rfl trivial ?_
  exact t_X6_isWord_1_b39 hM hp N G J N s0 (0 : Int32) h hq
set_option maxHeartbeats 4000000 in
set_option maxRecDepth 100000 in
theorem t_X6_isWord_1_b35 {X : jX} {po : Option Value → jH → Prop} {px : String → jH → Prop} {sf : Bool} {B9 : Nat} (hM : jMX X kX6_isWord RX6 tbX6 4 ⟨4, 0, 0, 108⟩ (some .boolean) 16) (hp : jPost X sf B9 po px) (N : Nat) (G : Nat → Nat → Int32) (J : Nat → Nat → Int64) {res : Int32} (h : p_X6_isWord_1_b35 N G J = some res) (hq : po (some (.int res)) (hMo G J)) : JW X 0 0 35 [some (.ref 0), some (.ref 1000001), none, none] [] (hMo G J) := by
  unfold p_X6_isWord_1_b35 at h
  refine JW.r hM 17 1 (pc2 := 36) (L2 := [some (.ref 0), some (.ref 1000001), none, none]) (st2 := [.int (0 : Int32)]) (μ2 := (hMo G J)) rfl trivial ?_
  exact t_X6_isWord_1_b36 hM hp N G J (0 : Int32) h hq
set_option maxHeartbeats 4000000 in
set_option maxRecDepth 100000 in
theorem t_X6_isWord_1 {X : jX} {po : Option Value → jH → Prop} {px : String → jH → Prop} {sf : Bool} {B9 : Nat} (hM : jMX X kX6_isWord RX6 tbX6 4 ⟨4, 0, 0, 108⟩ (some .boolean) 16) (hp : jPost X sf B9 po px) (N : Nat) (G : Nat → Nat → Int32) (J : Nat → Nat → Int64) {res : Int32} (h : p_X6_isWord_1 N G J = some res) (hq : po (some (.int res)) (hMo G J)) : JW X 0 0 0 [some (.ref 0), some (.ref 1000001), none, none] [] (hMo G J) := by
  unfold p_X6_isWord_1 at h
  refine JW.r hM 0 2 (pc2 := 4) (L2 := [some (.ref 0), some (.ref 1000001), none, none]) (st2 := [.int (G 0 13)]) (μ2 := (hMo G J)) rfl trivial ?_
  refine js_ifne (t := 35) hM.1 (jat hM.2.1 2 rfl) rfl (fun hc10 => ?_) (fun hc10 => ?_)
  · have h := (if_neg hc10).symm.trans h
    exact t_X6_isWord_1_b35 hM hp N G J h hq
  · have h := (if_pos hc10).symm.trans h
    refine JW.r hM 3 3 (pc2 := 12) (L2 := [some (.ref 0), some (.ref 1000001), none, none]) (st2 := [.int (1 : Int32), .int (G 0 11)]) (μ2 := (hMo G J)) rfl trivial ?_
    refine js_icne (t := 35) hM.1 (jat hM.2.1 6 rfl) rfl (fun hc9 => ?_) (fun hc9 => ?_)
    · have h := (if_neg hc9).symm.trans h
      exact t_X6_isWord_1_b35 hM hp N G J h hq
    · have h := (if_pos hc9).symm.trans h
      refine JW.r hM 7 6 (pc2 := 25) (L2 := [some (.ref 0), some (.ref 1000001), none, none]) (st2 := [.ref 1000001, .int ((G 0 9) - (G 0 10))]) (μ2 := (hMo G J)) rfl trivial ?_
      refine js_slen (w := 1) hM.1 (by decide) (by rw [hM.2.2.1]; exact wd1409) (jat hM.2.1 13 rfl) (by rw [hM.2.2.2.2.1]; exact Nat.le_of_ble_eq_true rfl) (by rw [hM.2.2.2.2.1]; exact Nat.le_of_ble_eq_true rfl) (by rw [hM.2.2.2.2.1]; exact Nat.le_of_ble_eq_true rfl) (by rw [hM.2.2.2.2.1]; exact Nat.le_of_ble_eq_true rfl) ?_
      show JW X 0 0 28 [some (.ref 0), some (.ref 1000001), none, none] [.int (5 : Int32), .int ((G 0 9) - (G 0 10))] (hMo G J)
      refine js_icne (t := 35) hM.1 (jat hM.2.1 14 rfl) rfl (fun hc8 => ?_) (fun hc8 => ?_)
      · have h := (if_neg hc8).symm.trans h
        exact t_X6_isWord_1_b35 hM hp N G J h hq
      · have h := (if_pos hc8).symm.trans h
        refine JW.r hM 15 2 (pc2 := 36) (L2 := [some (.ref 0), some (.ref 1000001), none, none]) (st2 := [.int (1 : Int32)]) (μ2 := (hMo G J)) rfl trivial ?_
        exact t_X6_isWord_1_b36 hM hp N G J (1 : Int32) h hq
theorem m_X6_isWord_1 (V : jV) (hV : V.1.stackTraces = false) (N : Nat) (G : Nat → Nat → Int32) (J : Nat → Nat → Int64) (v : Int32) (h : p_X6_isWord_1 N G J = some v) : jMet V yX6_isWord (jws yX6_isWord cX6_isWord 4 (some .boolean)) ⟨4, 0, 0, 108⟩ true 1 [.ref 0, .ref 1000001] (hMo G J) (fun o ν => o = some (.int v) ∧ ν = (hMo G J)) (fun _ _ => False) := by
  refine jmk (tb := tbX6) (C := kX6_isWord) hV rfl (by decide) tbX6_ok rfl kX6_isWord_ok rfl ?_
  intro X hM _ hp _
  exact t_X6_isWord_1 hM hp N G J h ⟨rfl, rfl⟩
def p_X6_isWord_2_b75 (N : Nat) (G : Nat → Nat → Int32) (J : Nat → Nat → Int64) (rv39 : Int32 → Int32 → Option (Int32)) (x3 : Int32) (s0 : Int32) : Option (Int32) :=
  rv39 s0 (x3 + 1)
def p_X6_isWord_2_b39 (N : Nat) (G : Nat → Nat → Int32) (J : Nat → Nat → Int64) : Nat → (Int32) → (Int32) → Option (Int32)
  | 0, _, _ => none
  | n + 1, x2, x3 => if x2 = 0 then (if jz x2 = true then some x2 else none) else (if (5 : Int32) ≤ x3 then (if jz x2 = true then some x2 else none) else (if jin ((G 0 10) + x3) 900 = true then if jin x3 5 = true then if (G 6 ((G 0 10) + x3).toNatClampNeg) = (jch 2 x3) then (p_X6_isWord_2_b75 N G J (p_X6_isWord_2_b39 N G J n) x3 (1 : Int32)) else (p_X6_isWord_2_b75 N G J (p_X6_isWord_2_b39 N G J n) x3 (0 : Int32)) else none else none))
def p_X6_isWord_2_b36 (N : Nat) (G : Nat → Nat → Int32) (J : Nat → Nat → Int64) (s0 : Int32) : Option (Int32) :=
  p_X6_isWord_2_b39 N G J N s0 (0 : Int32)
def p_X6_isWord_2_b35 (N : Nat) (G : Nat → Nat → Int32) (J : Nat → Nat → Int64) : Option (Int32) :=
  p_X6_isWord_2_b36 N G J (0 : Int32)
def p_X6_isWord_2 (N : Nat) (G : Nat → Nat → Int32) (J : Nat → Nat → Int64) : Option (Int32) :=
  if (G 0 13) = 0 then (if (G 0 11) = (1 : Int32) then (if ((G 0 9) - (G 0 10)) = (5 : Int32) then (p_X6_isWord_2_b36 N G J (1 : Int32)) else (p_X6_isWord_2_b35 N G J)) else (p_X6_isWord_2_b35 N G J)) else (p_X6_isWord_2_b35 N G J)
set_option maxHeartbeats 4000000 in
set_option maxRecDepth 100000 in
theorem t_X6_isWord_2_b75 {X : jX} {po : Option Value → jH → Prop} {px : String → jH → Prop} {sf : Bool} {B9 : Nat} (hM : jMX X kX6_isWord RX6 tbX6 4 ⟨4, 0, 0, 108⟩ (some .boolean) 16) (hp : jPost X sf B9 po px) (N : Nat) (G : Nat → Nat → Int32) (J : Nat → Nat → Int64) (rv39 : Int32 → Int32 → Option (Int32)) {res : Int32} (ih39 : ∀ (x2 : Int32) (x3 : Int32), rv39 x2 x3 = some res → JW X 0 0 39 [some (.ref 0), some (.ref 1000002), some (.int x2), some (.int x3)] [] (hMo G J)) (x3 : Int32) (s0 : Int32) (h : p_X6_isWord_2_b75 N G J rv39 x3 s0 = some res) (hq : po (some (.int res)) (hMo G J)) : JW X 0 0 75 [some (.ref 0), some (.ref 1000002), none, some (.int x3)] [.int s0] (hMo G J) := by
  unfold p_X6_isWord_2_b75 at h
  refine JW.r hM 41 3 (pc2 := 39) (L2 := [some (.ref 0), some (.ref 1000002), some (.int s0), some (.int (x3 + 1))]) (st2 := []) (μ2 := (hMo G J)) rfl trivial ?_
  exact ih39 s0 (x3 + 1) h
set_option maxHeartbeats 4000000 in
set_option maxRecDepth 100000 in
theorem t_X6_isWord_2_b39 {X : jX} {po : Option Value → jH → Prop} {px : String → jH → Prop} {sf : Bool} {B9 : Nat} (hM : jMX X kX6_isWord RX6 tbX6 4 ⟨4, 0, 0, 108⟩ (some .boolean) 16) (hp : jPost X sf B9 po px) (N : Nat) (G : Nat → Nat → Int32) (J : Nat → Nat → Int64) {res : Int32} : ∀ (n : Nat) (x2 : Int32) (x3 : Int32) (h : p_X6_isWord_2_b39 N G J n x2 x3 = some res) (hq : po (some (.int res)) (hMo G J)), JW X 0 0 39 [some (.ref 0), some (.ref 1000002), some (.int x2), some (.int x3)] [] (hMo G J) := by
  intro n
  induction n with
  | zero =>
    intro x2 x3 h hq
    cases (show (none : Option (Int32)) = some res from h)
  | succ n ih39 =>
    intro x2 x3 h hq
    have ih39 := fun x2 x3 h9 => ih39 x2 x3 h9 hq
    rw [p_X6_isWord_2_b39] at h
    refine JW.r hM 21 1 (pc2 := 40) (L2 := [some (.ref 0), some (.ref 1000002), some (.int x2), some (.int x3)]) (st2 := [.int x2]) (μ2 := (hMo G J)) rfl trivial ?_
    refine js_ifeq (t := 82) hM.1 (jat hM.2.1 22 rfl) rfl (fun hc7 => ?_) (fun hc7 => ?_)
    · have h := (if_pos hc7).symm.trans h
      refine JW.r hM 44 1 (pc2 := 83) (L2 := [some (.ref 0), some (.ref 1000002), some (.int x2), some (.int x3)]) (st2 := [.int x2]) (μ2 := (hMo G J)) rfl trivial ?_
      obtain ⟨g1, h⟩ := jg h
      obtain rfl := Option.some.inj h
      exact js_zret hM.1 hp hM.2.2.2.2.2.2.2.1 g1 (by rw [hM.2.2.2.2.2.1]; exact Nat.le_of_ble_eq_true rfl) (by rw [hM.2.2.2.2.2.2.1]; exact Nat.le_of_ble_eq_true rfl) (jat hM.2.1 45 rfl) hq
    · have h := (if_neg hc7).symm.trans h
      refine JW.r hM 23 2 (pc2 := 45) (L2 := [some (.ref 0), some (.ref 1000002), some (.int x2), some (.int x3)]) (st2 := [.ref 1000002, .int x3]) (μ2 := (hMo G J)) rfl trivial ?_
      refine js_slen (w := 2) hM.1 (by decide) (by rw [hM.2.2.1]; exact wd1409) (jat hM.2.1 25 rfl) (by rw [hM.2.2.2.2.1]; exact Nat.le_of_ble_eq_true rfl) (by rw [hM.2.2.2.2.1]; exact Nat.le_of_ble_eq_true rfl) (by rw [hM.2.2.2.2.1]; exact Nat.le_of_ble_eq_true rfl) (by rw [hM.2.2.2.2.1]; exact Nat.le_of_ble_eq_true rfl) ?_
      show JW X 0 0 48 [some (.ref 0), some (.ref 1000002), some (.int x2), some (.int x3)] [.int (5 : Int32), .int x3] (hMo G J)
      refine js_icge (t := 82) hM.1 (jat hM.2.1 26 rfl) rfl (fun hc6 => ?_) (fun hc6 => ?_)
      · have h := (if_pos hc6).symm.trans h
        refine JW.r hM 44 1 (pc2 := 83) (L2 := [some (.ref 0), some (.ref 1000002), some (.int x2), some (.int x3)]) (st2 := [.int x2]) (μ2 := (hMo G J)) rfl trivial ?_
        obtain ⟨g2, h⟩ := jg h
        obtain rfl := Option.some.inj h
        exact js_zret hM.1 hp hM.2.2.2.2.2.2.2.1 g2 (by rw [hM.2.2.2.2.2.1]; exact Nat.le_of_ble_eq_true rfl) (by rw [hM.2.2.2.2.2.2.1]; exact Nat.le_of_ble_eq_true rfl) (jat hM.2.1 45 rfl) hq
      · have h := (if_neg hc6).symm.trans h
        obtain ⟨g3, h⟩ := jg h
        refine JW.r hM 27 9 (pc2 := 64) (L2 := [some (.ref 0), some (.ref 1000002), some (.int x2), some (.int x3)]) (st2 := [.int x3, .ref 1000002, .int (G 6 ((G 0 10) + x3).toNatClampNeg)]) (μ2 := (hMo G J)) rfl ⟨g3, trivial⟩ ?_
        obtain ⟨g4, h⟩ := jg h
        refine js_sch (w := 2) hM.1 (by decide) (by rw [hM.2.2.1]; exact wd1410) g4 (jat hM.2.1 36 rfl) (by rw [hM.2.2.2.2.1]; exact Nat.le_of_ble_eq_true rfl) (by rw [hM.2.2.2.2.1]; exact Nat.le_of_ble_eq_true rfl) (by rw [hM.2.2.2.2.1]; exact Nat.le_of_ble_eq_true rfl) (by rw [hM.2.2.2.2.1]; exact Nat.le_of_ble_eq_true rfl) ?_
        show JW X 0 0 67 [some (.ref 0), some (.ref 1000002), some (.int x2), some (.int x3)] [.int (jch 2 x3), .int (G 6 ((G 0 10) + x3).toNatClampNeg)] (hMo G J)
        refine js_icne (t := 74) hM.1 (jat hM.2.1 37 rfl) rfl (fun hc5 => ?_) (fun hc5 => ?_)
        · have h := (if_neg hc5).symm.trans h
          refine JW.r hM 40 1 (pc2 := 75) (L2 := [some (.ref 0), some (.ref 1000002), some (.int x2), some (.int x3)]) (st2 := [.int (0 : Int32)]) (μ2 := (hMo G J)) rfl trivial ?_
          exact JW.mask [true, true, false, true] (t_X6_isWord_2_b75 hM hp N G J (p_X6_isWord_2_b39 N G J n) ih39 x3 (0 : Int32) h hq)
        · have h := (if_pos hc5).symm.trans h
          refine JW.r hM 38 2 (pc2 := 75) (L2 := [some (.ref 0), some (.ref 1000002), some (.int x2), some (.int x3)]) (st2 := [.int (1 : Int32)]) (μ2 := (hMo G J)) rfl trivial ?_
          exact JW.mask [true, true, false, true] (t_X6_isWord_2_b75 hM hp N G J (p_X6_isWord_2_b39 N G J n) ih39 x3 (1 : Int32) h hq)
set_option maxHeartbeats 4000000 in
set_option maxRecDepth 100000 in
theorem t_X6_isWord_2_b36 {X : jX} {po : Option Value → jH → Prop} {px : String → jH → Prop} {sf : Bool} {B9 : Nat} (hM : jMX X kX6_isWord RX6 tbX6 4 ⟨4, 0, 0, 108⟩ (some .boolean) 16) (hp : jPost X sf B9 po px) (N : Nat) (G : Nat → Nat → Int32) (J : Nat → Nat → Int64) {res : Int32} (s0 : Int32) (h : p_X6_isWord_2_b36 N G J s0 = some res) (hq : po (some (.int res)) (hMo G J)) : JW X 0 0 36 [some (.ref 0), some (.ref 1000002), none, none] [.int s0] (hMo G J) := by
  unfold p_X6_isWord_2_b36 at h
  refine JW.r hM 18 3 (pc2 := 39) (L2 := [some (.ref 0), some (.ref 1000002), some (.int s0), some (.int (0 : Int32))]) (st2 := []) (μ2 := (hMo G J)) rfl trivial ?_
  exact t_X6_isWord_2_b39 hM hp N G J N s0 (0 : Int32) h hq
set_option maxHeartbeats 4000000 in
set_option maxRecDepth 100000 in
theorem t_X6_isWord_2_b35 {X : jX} {po : Option Value → jH → Prop} {px : String → jH → Prop} {sf : Bool} {B9 : Nat} (hM : jMX X kX6_isWord RX6 tbX6 4 ⟨4, 0, 0, 108⟩ (some .boolean) 16) (hp : jPost X sf B9 po px) (N : Nat) (G : Nat → Nat → Int32) (J : Nat → Nat → Int64) {res : Int32} (h : p_X6_isWord_2_b35 N G J = some res) (hq : po (some (.int res)) (hMo G J)) : JW X 0 0 35 [some (.ref 0), some (.ref 1000002), none, none] [] (hMo G J) := by
  unfold p_X6_isWord_2_b35 at h
  refine JW.r hM 17 1 (pc2 := 36) (L2 := [some (.ref 0), some (.ref 1000002), none, none]) (st2 := [.int (0 : Int32)]) (μ2 := (hMo G J)) rfl trivial ?_
  exact t_X6_isWord_2_b36 hM hp N G J (0 : Int32) h hq
set_option maxHeartbeats 4000000 in
set_option maxRecDepth 100000 in
theorem t_X6_isWord_2 {X : jX} {po : Option Value → jH → Prop} {px : String → jH → Prop} {sf : Bool} {B9 : Nat} (hM : jMX X kX6_isWord RX6 tbX6 4 ⟨4, 0, 0, 108⟩ (some .boolean) 16) (hp : jPost X sf B9 po px) (N : Nat) (G : Nat → Nat → Int32) (J : Nat → Nat → Int64) {res : Int32} (h : p_X6_isWord_2 N G J = some res) (hq : po (some (.int res)) (hMo G J)) : JW X 0 0 0 [some (.ref 0), some (.ref 1000002), none, none] [] (hMo G J) := by
  unfold p_X6_isWord_2 at h
  refine JW.r hM 0 2 (pc2 := 4) (L2 := [some (.ref 0), some (.ref 1000002), none, none]) (st2 := [.int (G 0 13)]) (μ2 := (hMo G J)) rfl trivial ?_
  refine js_ifne (t := 35) hM.1 (jat hM.2.1 2 rfl) rfl (fun hc10 => ?_) (fun hc10 => ?_)
  · have h := (if_neg hc10).symm.trans h
    exact t_X6_isWord_2_b35 hM hp N G J h hq
  · have h := (if_pos hc10).symm.trans h
    refine JW.r hM 3 3 (pc2 := 12) (L2 := [some (.ref 0), some (.ref 1000002), none, none]) (st2 := [.int (1 : Int32), .int (G 0 11)]) (μ2 := (hMo G J)) rfl trivial ?_
    refine js_icne (t := 35) hM.1 (jat hM.2.1 6 rfl) rfl (fun hc9 => ?_) (fun hc9 => ?_)
    · have h := (if_neg hc9).symm.trans h
      exact t_X6_isWord_2_b35 hM hp N G J h hq
    · have h := (if_pos hc9).symm.trans h
      refine JW.r hM 7 6 (pc2 := 25) (L2 := [some (.ref 0), some (.ref 1000002), none, none]) (st2 := [.ref 1000002, .int ((G 0 9) - (G 0 10))]) (μ2 := (hMo G J)) rfl trivial ?_
      refine js_slen (w := 2) hM.1 (by decide) (by rw [hM.2.2.1]; exact wd1409) (jat hM.2.1 13 rfl) (by rw [hM.2.2.2.2.1]; exact Nat.le_of_ble_eq_true rfl) (by rw [hM.2.2.2.2.1]; exact Nat.le_of_ble_eq_true rfl) (by rw [hM.2.2.2.2.1]; exact Nat.le_of_ble_eq_true rfl) (by rw [hM.2.2.2.2.1]; exact Nat.le_of_ble_eq_true rfl) ?_
      show JW X 0 0 28 [some (.ref 0), some (.ref 1000002), none, none] [.int (5 : Int32), .int ((G 0 9) - (G 0 10))] (hMo G J)
      refine js_icne (t := 35) hM.1 (jat hM.2.1 14 rfl) rfl (fun hc8 => ?_) (fun hc8 => ?_)
      · have h := (if_neg hc8).symm.trans h
        exact t_X6_isWord_2_b35 hM hp N G J h hq
      · have h := (if_pos hc8).symm.trans h
        refine JW.r hM 15 2 (pc2 := 36) (L2 := [some (.ref 0), some (.ref 1000002), none, none]) (st2 := [.int (1 : Int32)]) (μ2 := (hMo G J)) rfl trivial ?_
        exact t_X6_isWord_2_b36 hM hp N G J (1 : Int32) h hq
theorem m_X6_isWord_2 (V : jV) (hV : V.1.stackTraces = false) (N : Nat) (G : Nat → Nat → Int32) (J : Nat → Nat → Int64) (v : Int32) (h : p_X6_isWord_2 N G J = some v) : jMet V yX6_isWord (jws yX6_isWord cX6_isWord 4 (some .boolean)) ⟨4, 0, 0, 108⟩ true 1 [.ref 0, .ref 1000002] (hMo G J) (fun o ν => o = some (.int v) ∧ ν = (hMo G J)) (fun _ _ => False) := by
  refine jmk (tb := tbX6) (C := kX6_isWord) hV rfl (by decide) tbX6_ok rfl kX6_isWord_ok rfl ?_
  intro X hM _ hp _
  exact t_X6_isWord_2 hM hp N G J h ⟨rfl, rfl⟩
def p_X6_isWord_3_b75 (N : Nat) (G : Nat → Nat → Int32) (J : Nat → Nat → Int64) (rv39 : Int32 → Int32 → Option (Int32)) (x3 : Int32) (s0 : Int32) : Option (Int32) :=
  rv39 s0 (x3 + 1)
def p_X6_isWord_3_b39 (N : Nat) (G : Nat → Nat → Int32) (J : Nat → Nat → Int64) : Nat → (Int32) → (Int32) → Option (Int32)
  | 0, _, _ => none
  | n + 1, x2, x3 => if x2 = 0 then (if jz x2 = true then some x2 else none) else (if (5 : Int32) ≤ x3 then (if jz x2 = true then some x2 else none) else (if jin ((G 0 10) + x3) 900 = true then if jin x3 5 = true then if (G 6 ((G 0 10) + x3).toNatClampNeg) = (jch 3 x3) then (p_X6_isWord_3_b75 N G J (p_X6_isWord_3_b39 N G J n) x3 (1 : Int32)) else (p_X6_isWord_3_b75 N G J (p_X6_isWord_3_b39 N G J n) x3 (0 : Int32)) else none else none))
def p_X6_isWord_3_b36 (N : Nat) (G : Nat → Nat → Int32) (J : Nat → Nat → Int64) (s0 : Int32) : Option (Int32) :=
  p_X6_isWord_3_b39 N G J N s0 (0 : Int32)
def p_X6_isWord_3_b35 (N : Nat) (G : Nat → Nat → Int32) (J : Nat → Nat → Int64) : Option (Int32) :=
  p_X6_isWord_3_b36 N G J (0 : Int32)
def p_X6_isWord_3 (N : Nat) (G : Nat → Nat → Int32) (J : Nat → Nat → Int64) : Option (Int32) :=
  if (G 0 13) = 0 then (if (G 0 11) = (1 : Int32) then (if ((G 0 9) - (G 0 10)) = (5 : Int32) then (p_X6_isWord_3_b36 N G J (1 : Int32)) else (p_X6_isWord_3_b35 N G J)) else (p_X6_isWord_3_b35 N G J)) else (p_X6_isWord_3_b35 N G J)
set_option maxHeartbeats 4000000 in
set_option maxRecDepth 100000 in
theorem t_X6_isWord_3_b75 {X : jX} {po : Option Value → jH → Prop} {px : String → jH → Prop} {sf : Bool} {B9 : Nat} (hM : jMX X kX6_isWord RX6 tbX6 4 ⟨4, 0, 0, 108⟩ (some .boolean) 16) (hp : jPost X sf B9 po px) (N : Nat) (G : Nat → Nat → Int32) (J : Nat → Nat → Int64) (rv39 : Int32 → Int32 → Option (Int32)) {res : Int32} (ih39 : ∀ (x2 : Int32) (x3 : Int32), rv39 x2 x3 = some res → JW X 0 0 39 [some (.ref 0), some (.ref 1000003), some (.int x2), some (.int x3)] [] (hMo G J)) (x3 : Int32) (s0 : Int32) (h : p_X6_isWord_3_b75 N G J rv39 x3 s0 = some res) (hq : po (some (.int res)) (hMo G J)) : JW X 0 0 75 [some (.ref 0), some (.ref 1000003), none, some (.int x3)] [.int s0] (hMo G J) := by
  unfold p_X6_isWord_3_b75 at h
  refine JW.r hM 41 3 (pc2 := 39) (L2 := [some (.ref 0), some (.ref 1000003), some (.int s0), some (.int (x3 + 1))]) (st2 := []) (μ2 := (hMo G J)) rfl trivial ?_
  exact ih39 s0 (x3 + 1) h
set_option maxHeartbeats 4000000 in
set_option maxRecDepth 100000 in
theorem t_X6_isWord_3_b39 {X : jX} {po : Option Value → jH → Prop} {px : String → jH → Prop} {sf : Bool} {B9 : Nat} (hM : jMX X kX6_isWord RX6 tbX6 4 ⟨4, 0, 0, 108⟩ (some .boolean) 16) (hp : jPost X sf B9 po px) (N : Nat) (G : Nat → Nat → Int32) (J : Nat → Nat → Int64) {res : Int32} : ∀ (n : Nat) (x2 : Int32) (x3 : Int32) (h : p_X6_isWord_3_b39 N G J n x2 x3 = some res) (hq : po (some (.int res)) (hMo G J)), JW X 0 0 39 [some (.ref 0), some (.ref 1000003), some (.int x2), some (.int x3)] [] (hMo G J) := by
  intro n
  induction n with
  | zero =>
    intro x2 x3 h hq
    cases (show (none : Option (Int32)) = some res from h)
  | succ n ih39 =>
    intro x2 x3 h hq
    have ih39 := fun x2 x3 h9 => ih39 x2 x3 h9 hq
    rw [p_X6_isWord_3_b39] at h
    refine JW.r hM 21 1 (pc2 := 40) (L2 := [some (.ref 0), some (.ref 1000003), some (.int x2), some (.int x3)]) (st2 := [.int x2]) (μ2 := (hMo G J)) rfl trivial ?_
    refine js_ifeq (t := 82) hM.1 (jat hM.2.1 22 rfl) rfl (fun hc7 => ?_) (fun hc7 => ?_)
    · have h := (if_pos hc7).symm.trans h
      refine JW.r hM 44 1 (pc2 := 83) (L2 := [some (.ref 0), some (.ref 1000003), some (.int x2), some (.int x3)]) (st2 := [.int x2]) (μ2 := (hMo G J)) rfl trivial ?_
      obtain ⟨g1, h⟩ := jg h
      obtain rfl := Option.some.inj h
      exact js_zret hM.1 hp hM.2.2.2.2.2.2.2.1 g1 (by rw [hM.2.2.2.2.2.1]; exact Nat.le_of_ble_eq_true rfl) (by rw [hM.2.2.2.2.2.2.1]; exact Nat.le_of_ble_eq_true rfl) (jat hM.2.1 45 rfl) hq
    · have h := (if_neg hc7).symm.trans h
      refine JW.r hM 23 2 (pc2 := 45) (L2 := [some (.ref 0), some (.ref 1000003), some (.int x2), some (.int x3)]) (st2 := [.ref 1000003, .int x3]) (μ2 := (hMo G J)) rfl trivial ?_
      refine js_slen (w := 3) hM.1 (by decide) (by rw [hM.2.2.1]; exact wd1409) (jat hM.2.1 25 rfl) (by rw [hM.2.2.2.2.1]; exact Nat.le_of_ble_eq_true rfl) (by rw [hM.2.2.2.2.1]; exact Nat.le_of_ble_eq_true rfl) (by rw [hM.2.2.2.2.1]; exact Nat.le_of_ble_eq_true rfl) (by rw [hM.2.2.2.2.1]; exact Nat.le_of_ble_eq_true rfl) ?_
      show JW X 0 0 48 [some (.ref 0), some (.ref 1000003), some (.int x2), some (.int x3)] [.int (5 : Int32), .int x3] (hMo G J)
      refine js_icge (t := 82) hM.1 (jat hM.2.1 26 rfl) rfl (fun hc6 => ?_) (fun hc6 => ?_)
      · have h := (if_pos hc6).symm.trans h
        refine JW.r hM 44 1 (pc2 := 83) (L2 := [some (.ref 0), some (.ref 1000003), some (.int x2), some (.int x3)]) (st2 := [.int x2]) (μ2 := (hMo G J)) rfl trivial ?_
        obtain ⟨g2, h⟩ := jg h
        obtain rfl := Option.some.inj h
        exact js_zret hM.1 hp hM.2.2.2.2.2.2.2.1 g2 (by rw [hM.2.2.2.2.2.1]; exact Nat.le_of_ble_eq_true rfl) (by rw [hM.2.2.2.2.2.2.1]; exact Nat.le_of_ble_eq_true rfl) (jat hM.2.1 45 rfl) hq
      · have h := (if_neg hc6).symm.trans h
        obtain ⟨g3, h⟩ := jg h
        refine JW.r hM 27 9 (pc2 := 64) (L2 := [some (.ref 0), some (.ref 1000003), some (.int x2), some (.int x3)]) (st2 := [.int x3, .ref 1000003, .int (G 6 ((G 0 10) + x3).toNatClampNeg)]) (μ2 := (hMo G J)) rfl ⟨g3, trivial⟩ ?_
        obtain ⟨g4, h⟩ := jg h
        refine js_sch (w := 3) hM.1 (by decide) (by rw [hM.2.2.1]; exact wd1410) g4 (jat hM.2.1 36 rfl) (by rw [hM.2.2.2.2.1]; exact Nat.le_of_ble_eq_true rfl) (by rw [hM.2.2.2.2.1]; exact Nat.le_of_ble_eq_true rfl) (by rw [hM.2.2.2.2.1]; exact Nat.le_of_ble_eq_true rfl) (by rw [hM.2.2.2.2.1]; exact Nat.le_of_ble_eq_true rfl) ?_
        show JW X 0 0 67 [some (.ref 0), some (.ref 1000003), some (.int x2), some (.int x3)] [.int (jch 3 x3), .int (G 6 ((G 0 10) + x3).toNatClampNeg)] (hMo G J)
        refine js_icne (t := 74) hM.1 (jat hM.2.1 37 rfl) rfl (fun hc5 => ?_) (fun hc5 => ?_)
        · have h := (if_neg hc5).symm.trans h
          refine JW.r hM 40 1 (pc2 := 75) (L2 := [some (.ref 0), some (.ref 1000003), some (.int x2), some (.int x3)]) (st2 := [.int (0 : Int32)]) (μ2 := (hMo G J)) rfl trivial ?_
          exact JW.mask [true, true, false, true] (t_X6_isWord_3_b75 hM hp N G J (p_X6_isWord_3_b39 N G J n) ih39 x3 (0 : Int32) h hq)
        · have h := (if_pos hc5).symm.trans h
          refine JW.r hM 38 2 (pc2 := 75) (L2 := [some (.ref 0), some (.ref 1000003), some (.int x2), some (.int x3)]) (st2 := [.int (1 : Int32)]) (μ2 := (hMo G J)) rfl trivial ?_
          exact JW.mask [true, true, false, true] (t_X6_isWord_3_b75 hM hp N G J (p_X6_isWord_3_b39 N G J n) ih39 x3 (1 : Int32) h hq)
set_option maxHeartbeats 4000000 in
set_option maxRecDepth 100000 in
theorem t_X6_isWord_3_b36 {X : jX} {po : Option Value → jH → Prop} {px : String → jH → Prop} {sf : Bool} {B9 : Nat} (hM : jMX X kX6_isWord RX6 tbX6 4 ⟨4, 0, 0, 108⟩ (some .boolean) 16) (hp : jPost X sf B9 po px) (N : Nat) (G : Nat → Nat → Int32) (J : Nat → Nat → Int64) {res : Int32} (s0 : Int32) (h : p_X6_isWord_3_b36 N G J s0 = some res) (hq : po (some (.int res)) (hMo G J)) : JW X 0 0 36 [some (.ref 0), some (.ref 1000003), none, none] [.int s0] (hMo G J) := by
  unfold p_X6_isWord_3_b36 at h
  refine JW.r hM 18 3 (pc2 := 39) (L2 := [some (.ref 0), some (.ref 1000003), some (.int s0), some (.int (0 : Int32))]) (st2 := []) (μ2 := (hMo G J)) rfl trivial ?_
  exact t_X6_isWord_3_b39 hM hp N G J N s0 (0 : Int32) h hq
set_option maxHeartbeats 4000000 in
set_option maxRecDepth 100000 in
theorem t_X6_isWord_3_b35 {X : jX} {po : Option Value → jH → Prop} {px : String → jH → Prop} {sf : Bool} {B9 : Nat} (hM : jMX X kX6_isWord RX6 tbX6 4 ⟨4, 0, 0, 108⟩ (some .boolean) 16) (hp : jPost X sf B9 po px) (N : Nat) (G : Nat → Nat → Int32) (J : Nat → Nat → Int64) {res : Int32} (h : p_X6_isWord_3_b35 N G J = some res) (hq : po (some (.int res)) (hMo G J)) : JW X 0 0 35 [some (.ref 0), some (.ref 1000003), none, none] [] (hMo G J) := by
  unfold p_X6_isWord_3_b35 at h
  refine JW.r hM 17 1 (pc2 := 36) (L2 := [some (.ref 0), some (.ref 1000003), none, none]) (st2 := [.int (0 : Int32)]) (μ2 := (hMo G J)) rfl trivial ?_
  exact t_X6_isWord_3_b36 hM hp N G J (0 : Int32) h hq
set_option maxHeartbeats 4000000 in
set_option maxRecDepth 100000 in
theorem t_X6_isWord_3 {X : jX} {po : Option Value → jH → Prop} {px : String → jH → Prop} {sf : Bool} {B9 : Nat} (hM : jMX X kX6_isWord RX6 tbX6 4 ⟨4, 0, 0, 108⟩ (some .boolean) 16) (hp : jPost X sf B9 po px) (N : Nat) (G : Nat → Nat → Int32) (J : Nat → Nat → Int64) {res : Int32} (h : p_X6_isWord_3 N G J = some res) (hq : po (some (.int res)) (hMo G J)) : JW X 0 0 0 [some (.ref 0), some (.ref 1000003), none, none] [] (hMo G J) := by
  unfold p_X6_isWord_3 at h
  refine JW.r hM 0 2 (pc2 := 4) (L2 := [some (.ref 0), some (.ref 1000003), none, none]) (st2 := [.int (G 0 13)]) (μ2 := (hMo G J)) rfl trivial ?_
  refine js_ifne (t := 35) hM.1 (jat hM.2.1 2 rfl) rfl (fun hc10 => ?_) (fun hc10 => ?_)
  · have h := (if_neg hc10).symm.trans h
    exact t_X6_isWord_3_b35 hM hp N G J h hq
  · have h := (if_pos hc10).symm.trans h
    refine JW.r hM 3 3 (pc2 := 12) (L2 := [some (.ref 0), some (.ref 1000003), none, none]) (st2 := [.int (1 : Int32), .int (G 0 11)]) (μ2 := (hMo G J)) rfl trivial ?_
    refine js_icne (t := 35) hM.1 (jat hM.2.1 6 rfl) rfl (fun hc9 => ?_) (fun hc9 => ?_)
    · have h := (if_neg hc9).symm.trans h
      exact t_X6_isWord_3_b35 hM hp N G J h hq
    · have h := (if_pos hc9).symm.trans h
      refine JW.r hM 7 6 (pc2 := 25) (L2 := [some (.ref 0), some (.ref 1000003), none, none]) (st2 := [.ref 1000003, .int ((G 0 9) - (G 0 10))]) (μ2 := (hMo G J)) rfl trivial ?_
      refine js_slen (w := 3) hM.1 (by decide) (by rw [hM.2.2.1]; exact wd1409) (jat hM.2.1 13 rfl) (by rw [hM.2.2.2.2.1]; exact Nat.le_of_ble_eq_true rfl) (by rw [hM.2.2.2.2.1]; exact Nat.le_of_ble_eq_true rfl) (by rw [hM.2.2.2.2.1]; exact Nat.le_of_ble_eq_true rfl) (by rw [hM.2.2.2.2.1]; exact Nat.le_of_ble_eq_true rfl) ?_
      show JW X 0 0 28 [some (.ref 0), some (.ref 1000003), none, none] [.int (5 : Int32), .int ((G 0 9) - (G 0 10))] (hMo G J)
      refine js_icne (t := 35) hM.1 (jat hM.2.1 14 rfl) rfl (fun hc8 => ?_) (fun hc8 => ?_)
      · have h := (if_neg hc8).symm.trans h
        exact t_X6_isWord_3_b35 hM hp N G J h hq
      · have h := (if_pos hc8).symm.trans h
        refine JW.r hM 15 2 (pc2 := 36) (L2 := [some (.ref 0), some (.ref 1000003), none, none]) (st2 := [.int (1 : Int32)]) (μ2 := (hMo G J)) rfl trivial ?_
        exact t_X6_isWord_3_b36 hM hp N G J (1 : Int32) h hq
theorem m_X6_isWord_3 (V : jV) (hV : V.1.stackTraces = false) (N : Nat) (G : Nat → Nat → Int32) (J : Nat → Nat → Int64) (v : Int32) (h : p_X6_isWord_3 N G J = some v) : jMet V yX6_isWord (jws yX6_isWord cX6_isWord 4 (some .boolean)) ⟨4, 0, 0, 108⟩ true 1 [.ref 0, .ref 1000003] (hMo G J) (fun o ν => o = some (.int v) ∧ ν = (hMo G J)) (fun _ _ => False) := by
  refine jmk (tb := tbX6) (C := kX6_isWord) hV rfl (by decide) tbX6_ok rfl kX6_isWord_ok rfl ?_
  intro X hM _ hp _
  exact t_X6_isWord_3 hM hp N G J h ⟨rfl, rfl⟩
def p_X6_isWord_4_b75 (N : Nat) (G : Nat → Nat → Int32) (J : Nat → Nat → Int64) (rv39 : Int32 → Int32 → Option (Int32)) (x3 : Int32) (s0 : Int32) : Option (Int32) :=
  rv39 s0 (x3 + 1)
def p_X6_isWord_4_b39 (N : Nat) (G : Nat → Nat → Int32) (J : Nat → Nat → Int64) : Nat → (Int32) → (Int32) → Option (Int32)
  | 0, _, _ => none
  | n + 1, x2, x3 => if x2 = 0 then (if jz x2 = true then some x2 else none) else (if (5 : Int32) ≤ x3 then (if jz x2 = true then some x2 else none) else (if jin ((G 0 10) + x3) 900 = true then if jin x3 5 = true then if (G 6 ((G 0 10) + x3).toNatClampNeg) = (jch 4 x3) then (p_X6_isWord_4_b75 N G J (p_X6_isWord_4_b39 N G J n) x3 (1 : Int32)) else (p_X6_isWord_4_b75 N G J (p_X6_isWord_4_b39 N G J n) x3 (0 : Int32)) else none else none))
def p_X6_isWord_4_b36 (N : Nat) (G : Nat → Nat → Int32) (J : Nat → Nat → Int64) (s0 : Int32) : Option (Int32) :=
  p_X6_isWord_4_b39 N G J N s0 (0 : Int32)
def p_X6_isWord_4_b35 (N : Nat) (G : Nat → Nat → Int32) (J : Nat → Nat → Int64) : Option (Int32) :=
  p_X6_isWord_4_b36 N G J (0 : Int32)
def p_X6_isWord_4 (N : Nat) (G : Nat → Nat → Int32) (J : Nat → Nat → Int64) : Option (Int32) :=
  if (G 0 13) = 0 then (if (G 0 11) = (1 : Int32) then (if ((G 0 9) - (G 0 10)) = (5 : Int32) then (p_X6_isWord_4_b36 N G J (1 : Int32)) else (p_X6_isWord_4_b35 N G J)) else (p_X6_isWord_4_b35 N G J)) else (p_X6_isWord_4_b35 N G J)
set_option maxHeartbeats 4000000 in
set_option maxRecDepth 100000 in
theorem t_X6_isWord_4_b75 {X : jX} {po : Option Value → jH → Prop} {px : String → jH → Prop} {sf : Bool} {B9 : Nat} (hM : jMX X kX6_isWord RX6 tbX6 4 ⟨4, 0, 0, 108⟩ (some .boolean) 16) (hp : jPost X sf B9 po px) (N : Nat) (G : Nat → Nat → Int32) (J : Nat → Nat → Int64) (rv39 : Int32 → Int32 → Option (Int32)) {res : Int32} (ih39 : ∀ (x2 : Int32) (x3 : Int32), rv39 x2 x3 = some res → JW X 0 0 39 [some (.ref 0), some (.ref 1000004), some (.int x2), some (.int x3)] [] (hMo G J)) (x3 : Int32) (s0 : Int32) (h : p_X6_isWord_4_b75 N G J rv39 x3 s0 = some res) (hq : po (some (.int res)) (hMo G J)) : JW X 0 0 75 [some (.ref 0), some (.ref 1000004), none, some (.int x3)] [.int s0] (hMo G J) := by
  unfold p_X6_isWord_4_b75 at h
  refine JW.r hM 41 3 (pc2 := 39) (L2 := [some (.ref 0), some (.ref 1000004), some (.int s0), some (.int (x3 + 1))]) (st2 := []) (μ2 := (hMo G J)) rfl trivial ?_
  exact ih39 s0 (x3 + 1) h
set_option maxHeartbeats 4000000 in
set_option maxRecDepth 100000 in
theorem t_X6_isWord_4_b39 {X : jX} {po : Option Value → jH → Prop} {px : String → jH → Prop} {sf : Bool} {B9 : Nat} (hM : jMX X kX6_isWord RX6 tbX6 4 ⟨4, 0, 0, 108⟩ (some .boolean) 16) (hp : jPost X sf B9 po px) (N : Nat) (G : Nat → Nat → Int32) (J : Nat → Nat → Int64) {res : Int32} : ∀ (n : Nat) (x2 : Int32) (x3 : Int32) (h : p_X6_isWord_4_b39 N G J n x2 x3 = some res) (hq : po (some (.int res)) (hMo G J)), JW X 0 0 39 [some (.ref 0), some (.ref 1000004), some (.int x2), some (.int x3)] [] (hMo G J) := by
  intro n
  induction n with
  | zero =>
    intro x2 x3 h hq
    cases (show (none : Option (Int32)) = some res from h)
  | succ n ih39 =>
    intro x2 x3 h hq
    have ih39 := fun x2 x3 h9 => ih39 x2 x3 h9 hq
    rw [p_X6_isWord_4_b39] at h
    refine JW.r hM 21 1 (pc2 := 40) (L2 := [some (.ref 0), some (.ref 1000004), some (.int x2), some (.int x3)]) (st2 := [.int x2]) (μ2 := (hMo G J)) rfl trivial ?_
    refine js_ifeq (t := 82) hM.1 (jat hM.2.1 22 rfl) rfl (fun hc7 => ?_) (fun hc7 => ?_)
    · have h := (if_pos hc7).symm.trans h
      refine JW.r hM 44 1 (pc2 := 83) (L2 := [some (.ref 0), some (.ref 1000004), some (.int x2), some (.int x3)]) (st2 := [.int x2]) (μ2 := (hMo G J)) rfl trivial ?_
      obtain ⟨g1, h⟩ := jg h
      obtain rfl := Option.some.inj h
      exact js_zret hM.1 hp hM.2.2.2.2.2.2.2.1 g1 (by rw [hM.2.2.2.2.2.1]; exact Nat.le_of_ble_eq_true rfl) (by rw [hM.2.2.2.2.2.2.1]; exact Nat.le_of_ble_eq_true rfl) (jat hM.2.1 45 rfl) hq
    · have h := (if_neg hc7).symm.trans h
      refine JW.r hM 23 2 (pc2 := 45) (L2 := [some (.ref 0), some (.ref 1000004), some (.int x2), some (.int x3)]) (st2 := [.ref 1000004, .int x3]) (μ2 := (hMo G J)) rfl trivial ?_
      refine js_slen (w := 4) hM.1 (by decide) (by rw [hM.2.2.1]; exact wd1409) (jat hM.2.1 25 rfl) (by rw [hM.2.2.2.2.1]; exact Nat.le_of_ble_eq_true rfl) (by rw [hM.2.2.2.2.1]; exact Nat.le_of_ble_eq_true rfl) (by rw [hM.2.2.2.2.1]; exact Nat.le_of_ble_eq_true rfl) (by rw [hM.2.2.2.2.1]; exact Nat.le_of_ble_eq_true rfl) ?_
      show JW X 0 0 48 [some (.ref 0), some (.ref 1000004), some (.int x2), some (.int x3)] [.int (5 : Int32), .int x3] (hMo G J)
      refine js_icge (t := 82) hM.1 (jat hM.2.1 26 rfl) rfl (fun hc6 => ?_) (fun hc6 => ?_)
      · have h := (if_pos hc6).symm.trans h
        refine JW.r hM 44 1 (pc2 := 83) (L2 := [some (.ref 0), some (.ref 1000004), some (.int x2), some (.int x3)]) (st2 := [.int x2]) (μ2 := (hMo G J)) rfl trivial ?_
        obtain ⟨g2, h⟩ := jg h
        obtain rfl := Option.some.inj h
        exact js_zret hM.1 hp hM.2.2.2.2.2.2.2.1 g2 (by rw [hM.2.2.2.2.2.1]; exact Nat.le_of_ble_eq_true rfl) (by rw [hM.2.2.2.2.2.2.1]; exact Nat.le_of_ble_eq_true rfl) (jat hM.2.1 45 rfl) hq
      · have h := (if_neg hc6).symm.trans h
        obtain ⟨g3, h⟩ := jg h
        refine JW.r hM 27 9 (pc2 := 64) (L2 := [some (.ref 0), some (.ref 1000004), some (.int x2), some (.int x3)]) (st2 := [.int x3, .ref 1000004, .int (G 6 ((G 0 10) + x3).toNatClampNeg)]) (μ2 := (hMo G J)) rfl ⟨g3, trivial⟩ ?_
        obtain ⟨g4, h⟩ := jg h
        refine js_sch (w := 4) hM.1 (by decide) (by rw [hM.2.2.1]; exact wd1410) g4 (jat hM.2.1 36 rfl) (by rw [hM.2.2.2.2.1]; exact Nat.le_of_ble_eq_true rfl) (by rw [hM.2.2.2.2.1]; exact Nat.le_of_ble_eq_true rfl) (by rw [hM.2.2.2.2.1]; exact Nat.le_of_ble_eq_true rfl) (by rw [hM.2.2.2.2.1]; exact Nat.le_of_ble_eq_true rfl) ?_
        show JW X 0 0 67 [some (.ref 0), some (.ref 1000004), some (.int x2), some (.int x3)] [.int (jch 4 x3), .int (G 6 ((G 0 10) + x3).toNatClampNeg)] (hMo G J)
        refine js_icne (t := 74) hM.1 (jat hM.2.1 37 rfl) rfl (fun hc5 => ?_) (fun hc5 => ?_)
        · have h := (if_neg hc5).symm.trans h
          refine JW.r hM 40 1 (pc2 := 75) (L2 := [some (.ref 0), some (.ref 1000004), some (.int x2), some (.int x3)]) (st2 := [.int (0 : Int32)]) (μ2 := (hMo G J)) rfl trivial ?_
          exact JW.mask [true, true, false, true] (t_X6_isWord_4_b75 hM hp N G J (p_X6_isWord_4_b39 N G J n) ih39 x3 (0 : Int32) h hq)
        · have h := (if_pos hc5).symm.trans h
          refine JW.r hM 38 2 (pc2 := 75) (L2 := [some (.ref 0), some (.ref 1000004), some (.int x2), some (.int x3)]) (st2 := [.int (1 : Int32)]) (μ2 := (hMo G J)) rfl trivial ?_
          exact JW.mask [true, true, false, true] (t_X6_isWord_4_b75 hM hp N G J (p_X6_isWord_4_b39 N G J n) ih39 x3 (1 : Int32) h hq)
set_option maxHeartbeats 4000000 in
set_option maxRecDepth 100000 in
theorem t_X6_isWord_4_b36 {X : jX} {po : Option Value → jH → Prop} {px : String → jH → Prop} {sf : Bool} {B9 : Nat} (hM : jMX X kX6_isWord RX6 tbX6 4 ⟨4, 0, 0, 108⟩ (some .boolean) 16) (hp : jPost X sf B9 po px) (N : Nat) (G : Nat → Nat → Int32) (J : Nat → Nat → Int64) {res : Int32} (s0 : Int32) (h : p_X6_isWord_4_b36 N G J s0 = some res) (hq : po (some (.int res)) (hMo G J)) : JW X 0 0 36 [some (.ref 0), some (.ref 1000004), none, none] [.int s0] (hMo G J) := by
  unfold p_X6_isWord_4_b36 at h
  refine JW.r hM 18 3 (pc2 := 39) (L2 := [some (.ref 0), some (.ref 1000004), some (.int s0), some (.int (0 : Int32))]) (st2 := []) (μ2 := (hMo G J)) rfl trivial ?_
  exact t_X6_isWord_4_b39 hM hp N G J N s0 (0 : Int32) h hq
set_option maxHeartbeats 4000000 in
set_option maxRecDepth 100000 in
theorem t_X6_isWord_4_b35 {X : jX} {po : Option Value → jH → Prop} {px : String → jH → Prop} {sf : Bool} {B9 : Nat} (hM : jMX X kX6_isWord RX6 tbX6 4 ⟨4, 0, 0, 108⟩ (some .boolean) 16) (hp : jPost X sf B9 po px) (N : Nat) (G : Nat → Nat → Int32) (J : Nat → Nat → Int64) {res : Int32} (h : p_X6_isWord_4_b35 N G J = some res) (hq : po (some (.int res)) (hMo G J)) : JW X 0 0 35 [some (.ref 0), some (.ref 1000004), none, none] [] (hMo G J) := by
  unfold p_X6_isWord_4_b35 at h
  refine JW.r hM 17 1 (pc2 := 36) (L2 := [some (.ref 0), some (.ref 1000004), none, none]) (st2 := [.int (0 : Int32)]) (μ2 := (hMo G J)) rfl trivial ?_
  exact t_X6_isWord_4_b36 hM hp N G J (0 : Int32) h hq
set_option maxHeartbeats 4000000 in
set_option maxRecDepth 100000 in
theorem t_X6_isWord_4 {X : jX} {po : Option Value → jH → Prop} {px : String → jH → Prop} {sf : Bool} {B9 : Nat} (hM : jMX X kX6_isWord RX6 tbX6 4 ⟨4, 0, 0, 108⟩ (some .boolean) 16) (hp : jPost X sf B9 po px) (N : Nat) (G : Nat → Nat → Int32) (J : Nat → Nat → Int64) {res : Int32} (h : p_X6_isWord_4 N G J = some res) (hq : po (some (.int res)) (hMo G J)) : JW X 0 0 0 [some (.ref 0), some (.ref 1000004), none, none] [] (hMo G J) := by
  unfold p_X6_isWord_4 at h
  refine JW.r hM 0 2 (pc2 := 4) (L2 := [some (.ref 0), some (.ref 1000004), none, none]) (st2 := [.int (G 0 13)]) (μ2 := (hMo G J)) rfl trivial ?_
  refine js_ifne (t := 35) hM.1 (jat hM.2.1 2 rfl) rfl (fun hc10 => ?_) (fun hc10 => ?_)
  · have h := (if_neg hc10).symm.trans h
    exact t_X6_isWord_4_b35 hM hp N G J h hq
  · have h := (if_pos hc10).symm.trans h
    refine JW.r hM 3 3 (pc2 := 12) (L2 := [some (.ref 0), some (.ref 1000004), none, none]) (st2 := [.int (1 : Int32), .int (G 0 11)]) (μ2 := (hMo G J)) rfl trivial ?_
    refine js_icne (t := 35) hM.1 (jat hM.2.1 6 rfl) rfl (fun hc9 => ?_) (fun hc9 => ?_)
    · have h := (if_neg hc9).symm.trans h
      exact t_X6_isWord_4_b35 hM hp N G J h hq
    · have h := (if_pos hc9).symm.trans h
      refine JW.r hM 7 6 (pc2 := 25) (L2 := [some (.ref 0), some (.ref 1000004), none, none]) (st2 := [.ref 1000004, .int ((G 0 9) - (G 0 10))]) (μ2 := (hMo G J)) rfl trivial ?_
      refine js_slen (w := 4) hM.1 (by decide) (by rw [hM.2.2.1]; exact wd1409) (jat hM.2.1 13 rfl) (by rw [hM.2.2.2.2.1]; exact Nat.le_of_ble_eq_true rfl) (by rw [hM.2.2.2.2.1]; exact Nat.le_of_ble_eq_true rfl) (by rw [hM.2.2.2.2.1]; exact Nat.le_of_ble_eq_true rfl) (by rw [hM.2.2.2.2.1]; exact Nat.le_of_ble_eq_true rfl) ?_
      show JW X 0 0 28 [some (.ref 0), some (.ref 1000004), none, none] [.int (5 : Int32), .int ((G 0 9) - (G 0 10))] (hMo G J)
      refine js_icne (t := 35) hM.1 (jat hM.2.1 14 rfl) rfl (fun hc8 => ?_) (fun hc8 => ?_)
      · have h := (if_neg hc8).symm.trans h
        exact t_X6_isWord_4_b35 hM hp N G J h hq
      · have h := (if_pos hc8).symm.trans h
        refine JW.r hM 15 2 (pc2 := 36) (L2 := [some (.ref 0), some (.ref 1000004), none, none]) (st2 := [.int (1 : Int32)]) (μ2 := (hMo G J)) rfl trivial ?_
        exact t_X6_isWord_4_b36 hM hp N G J (1 : Int32) h hq
theorem m_X6_isWord_4 (V : jV) (hV : V.1.stackTraces = false) (N : Nat) (G : Nat → Nat → Int32) (J : Nat → Nat → Int64) (v : Int32) (h : p_X6_isWord_4 N G J = some v) : jMet V yX6_isWord (jws yX6_isWord cX6_isWord 4 (some .boolean)) ⟨4, 0, 0, 108⟩ true 1 [.ref 0, .ref 1000004] (hMo G J) (fun o ν => o = some (.int v) ∧ ν = (hMo G J)) (fun _ _ => False) := by
  refine jmk (tb := tbX6) (C := kX6_isWord) hV rfl (by decide) tbX6_ok rfl kX6_isWord_ok rfl ?_
  intro X hM _ hp _
  exact t_X6_isWord_4 hM hp N G J h ⟨rfl, rfl⟩
def p_X6_isWord_5_b75 (N : Nat) (G : Nat → Nat → Int32) (J : Nat → Nat → Int64) (rv39 : Int32 → Int32 → Option (Int32)) (x3 : Int32) (s0 : Int32) : Option (Int32) :=
  rv39 s0 (x3 + 1)
def p_X6_isWord_5_b39 (N : Nat) (G : Nat → Nat → Int32) (J : Nat → Nat → Int64) : Nat → (Int32) → (Int32) → Option (Int32)
  | 0, _, _ => none
  | n + 1, x2, x3 => if x2 = 0 then (if jz x2 = true then some x2 else none) else (if (4 : Int32) ≤ x3 then (if jz x2 = true then some x2 else none) else (if jin ((G 0 10) + x3) 900 = true then if jin x3 4 = true then if (G 6 ((G 0 10) + x3).toNatClampNeg) = (jch 5 x3) then (p_X6_isWord_5_b75 N G J (p_X6_isWord_5_b39 N G J n) x3 (1 : Int32)) else (p_X6_isWord_5_b75 N G J (p_X6_isWord_5_b39 N G J n) x3 (0 : Int32)) else none else none))
def p_X6_isWord_5_b36 (N : Nat) (G : Nat → Nat → Int32) (J : Nat → Nat → Int64) (s0 : Int32) : Option (Int32) :=
  p_X6_isWord_5_b39 N G J N s0 (0 : Int32)
def p_X6_isWord_5_b35 (N : Nat) (G : Nat → Nat → Int32) (J : Nat → Nat → Int64) : Option (Int32) :=
  p_X6_isWord_5_b36 N G J (0 : Int32)
def p_X6_isWord_5 (N : Nat) (G : Nat → Nat → Int32) (J : Nat → Nat → Int64) : Option (Int32) :=
  if (G 0 13) = 0 then (if (G 0 11) = (1 : Int32) then (if ((G 0 9) - (G 0 10)) = (4 : Int32) then (p_X6_isWord_5_b36 N G J (1 : Int32)) else (p_X6_isWord_5_b35 N G J)) else (p_X6_isWord_5_b35 N G J)) else (p_X6_isWord_5_b35 N G J)
set_option maxHeartbeats 4000000 in
set_option maxRecDepth 100000 in
theorem t_X6_isWord_5_b75 {X : jX} {po : Option Value → jH → Prop} {px : String → jH → Prop} {sf : Bool} {B9 : Nat} (hM : jMX X kX6_isWord RX6 tbX6 4 ⟨4, 0, 0, 108⟩ (some .boolean) 16) (hp : jPost X sf B9 po px) (N : Nat) (G : Nat → Nat → Int32) (J : Nat → Nat → Int64) (rv39 : Int32 → Int32 → Option (Int32)) {res : Int32} (ih39 : ∀ (x2 : Int32) (x3 : Int32), rv39 x2 x3 = some res → JW X 0 0 39 [some (.ref 0), some (.ref 1000005), some (.int x2), some (.int x3)] [] (hMo G J)) (x3 : Int32) (s0 : Int32) (h : p_X6_isWord_5_b75 N G J rv39 x3 s0 = some res) (hq : po (some (.int res)) (hMo G J)) : JW X 0 0 75 [some (.ref 0), some (.ref 1000005), none, some (.int x3)] [.int s0] (hMo G J) := by
  unfold p_X6_isWord_5_b75 at h
  refine JW.r hM 41 3 (pc2 := 39) (L2 := [some (.ref 0), some (.ref 1000005), some (.int s0), some (.int (x3 + 1))]) (st2 := []) (μ2 := (hMo G J)) rfl trivial ?_
  exact ih39 s0 (x3 + 1) h
set_option maxHeartbeats 4000000 in
set_option maxRecDepth 100000 in
theorem t_X6_isWord_5_b39 {X : jX} {po : Option Value → jH → Prop} {px : String → jH → Prop} {sf : Bool} {B9 : Nat} (hM : jMX X kX6_isWord RX6 tbX6 4 ⟨4, 0, 0, 108⟩ (some .boolean) 16) (hp : jPost X sf B9 po px) (N : Nat) (G : Nat → Nat → Int32) (J : Nat → Nat → Int64) {res : Int32} : ∀ (n : Nat) (x2 : Int32) (x3 : Int32) (h : p_X6_isWord_5_b39 N G J n x2 x3 = some res) (hq : po (some (.int res)) (hMo G J)), JW X 0 0 39 [some (.ref 0), some (.ref 1000005), some (.int x2), some (.int x3)] [] (hMo G J) := by
  intro n
  induction n with
  | zero =>
    intro x2 x3 h hq
    cases (show (none : Option (Int32)) = some res from h)
  | succ n ih39 =>
    intro x2 x3 h hq
    have ih39 := fun x2 x3 h9 => ih39 x2 x3 h9 hq
    rw [p_X6_isWord_5_b39] at h
    refine JW.r hM 21 1 (pc2 := 40) (L2 := [some (.ref 0), some (.ref 1000005), some (.int x2), some (.int x3)]) (st2 := [.int x2]) (μ2 := (hMo G J)) rfl trivial ?_
    refine js_ifeq (t := 82) hM.1 (jat hM.2.1 22 rfl) rfl (fun hc7 => ?_) (fun hc7 => ?_)
    · have h := (if_pos hc7).symm.trans h
      refine JW.r hM 44 1 (pc2 := 83) (L2 := [some (.ref 0), some (.ref 1000005), some (.int x2), some (.int x3)]) (st2 := [.int x2]) (μ2 := (hMo G J)) rfl trivial ?_
      obtain ⟨g1, h⟩ := jg h
      obtain rfl := Option.some.inj h
      exact js_zret hM.1 hp hM.2.2.2.2.2.2.2.1 g1 (by rw [hM.2.2.2.2.2.1]; exact Nat.le_of_ble_eq_true rfl) (by rw [hM.2.2.2.2.2.2.1]; exact Nat.le_of_ble_eq_true rfl) (jat hM.2.1 45 rfl) hq
    · have h := (if_neg hc7).symm.trans h
      refine JW.r hM 23 2 (pc2 := 45) (L2 := [some (.ref 0), some (.ref 1000005), some (.int x2), some (.int x3)]) (st2 := [.ref 1000005, .int x3]) (μ2 := (hMo G J)) rfl trivial ?_
      refine js_slen (w := 5) hM.1 (by decide) (by rw [hM.2.2.1]; exact wd1409) (jat hM.2.1 25 rfl) (by rw [hM.2.2.2.2.1]; exact Nat.le_of_ble_eq_true rfl) (by rw [hM.2.2.2.2.1]; exact Nat.le_of_ble_eq_true rfl) (by rw [hM.2.2.2.2.1]; exact Nat.le_of_ble_eq_true rfl) (by rw [hM.2.2.2.2.1]; exact Nat.le_of_ble_eq_true rfl) ?_
      show JW X 0 0 48 [some (.ref 0), some (.ref 1000005), some (.int x2), some (.int x3)] [.int (4 : Int32), .int x3] (hMo G J)
      refine js_icge (t := 82) hM.1 (jat hM.2.1 26 rfl) rfl (fun hc6 => ?_) (fun hc6 => ?_)
      · have h := (if_pos hc6).symm.trans h
        refine JW.r hM 44 1 (pc2 := 83) (L2 := [some (.ref 0), some (.ref 1000005), some (.int x2), some (.int x3)]) (st2 := [.int x2]) (μ2 := (hMo G J)) rfl trivial ?_
        obtain ⟨g2, h⟩ := jg h
        obtain rfl := Option.some.inj h
        exact js_zret hM.1 hp hM.2.2.2.2.2.2.2.1 g2 (by rw [hM.2.2.2.2.2.1]; exact Nat.le_of_ble_eq_true rfl) (by rw [hM.2.2.2.2.2.2.1]; exact Nat.le_of_ble_eq_true rfl) (jat hM.2.1 45 rfl) hq
      · have h := (if_neg hc6).symm.trans h
        obtain ⟨g3, h⟩ := jg h
        refine JW.r hM 27 9 (pc2 := 64) (L2 := [some (.ref 0), some (.ref 1000005), some (.int x2), some (.int x3)]) (st2 := [.int x3, .ref 1000005, .int (G 6 ((G 0 10) + x3).toNatClampNeg)]) (μ2 := (hMo G J)) rfl ⟨g3, trivial⟩ ?_
        obtain ⟨g4, h⟩ := jg h
        refine js_sch (w := 5) hM.1 (by decide) (by rw [hM.2.2.1]; exact wd1410) g4 (jat hM.2.1 36 rfl) (by rw [hM.2.2.2.2.1]; exact Nat.le_of_ble_eq_true rfl) (by rw [hM.2.2.2.2.1]; exact Nat.le_of_ble_eq_true rfl) (by rw [hM.2.2.2.2.1]; exact Nat.le_of_ble_eq_true rfl) (by rw [hM.2.2.2.2.1]; exact Nat.le_of_ble_eq_true rfl) ?_
        show JW X 0 0 67 [some (.ref 0), some (.ref 1000005), some (.int x2), some (.int x3)] [.int (jch 5 x3), .int (G 6 ((G 0 10) + x3).toNatClampNeg)] (hMo G J)
        refine js_icne (t := 74) hM.1 (jat hM.2.1 37 rfl) rfl (fun hc5 => ?_) (fun hc5 => ?_)
        · have h := (if_neg hc5).symm.trans h
          refine JW.r hM 40 1 (pc2 := 75) (L2 := [some (.ref 0), some (.ref 1000005), some (.int x2), some (.int x3)]) (st2 := [.int (0 : Int32)]) (μ2 := (hMo G J)) rfl trivial ?_
          exact JW.mask [true, true, false, true] (t_X6_isWord_5_b75 hM hp N G J (p_X6_isWord_5_b39 N G J n) ih39 x3 (0 : Int32) h hq)
        · have h := (if_pos hc5).symm.trans h
          refine JW.r hM 38 2 (pc2 := 75) (L2 := [some (.ref 0), some (.ref 1000005), some (.int x2), some (.int x3)]) (st2 := [.int (1 : Int32)]) (μ2 := (hMo G J)) rfl trivial ?_
          exact JW.mask [true, true, false, true] (t_X6_isWord_5_b75 hM hp N G J (p_X6_isWord_5_b39 N G J n) ih39 x3 (1 : Int32) h hq)
set_option maxHeartbeats 4000000 in
set_option maxRecDepth 100000 in
theorem t_X6_isWord_5_b36 {X : jX} {po : Option Value → jH → Prop} {px : String → jH → Prop} {sf : Bool} {B9 : Nat} (hM : jMX X kX6_isWord RX6 tbX6 4 ⟨4, 0, 0, 108⟩ (some .boolean) 16) (hp : jPost X sf B9 po px) (N : Nat) (G : Nat → Nat → Int32) (J : Nat → Nat → Int64) {res : Int32} (s0 : Int32) (h : p_X6_isWord_5_b36 N G J s0 = some res) (hq : po (some (.int res)) (hMo G J)) : JW X 0 0 36 [some (.ref 0), some (.ref 1000005), none, none] [.int s0] (hMo G J) := by
  unfold p_X6_isWord_5_b36 at h
  refine JW.r hM 18 3 (pc2 := 39) (L2 := [some (.ref 0), some (.ref 1000005), some (.int s0), some (.int (0 : Int32))]) (st2 := []) (μ2 := (hMo G J)) rfl trivial ?_
  exact t_X6_isWord_5_b39 hM hp N G J N s0 (0 : Int32) h hq
set_option maxHeartbeats 4000000 in
set_option maxRecDepth 100000 in
theorem t_X6_isWord_5_b35 {X : jX} {po : Option Value → jH → Prop} {px : String → jH → Prop} {sf : Bool} {B9 : Nat} (hM : jMX X kX6_isWord RX6 tbX6 4 ⟨4, 0, 0, 108⟩ (some .boolean) 16) (hp : jPost X sf B9 po px) (N : Nat) (G : Nat → Nat → Int32) (J : Nat → Nat → Int64) {res : Int32} (h : p_X6_isWord_5_b35 N G J = some res) (hq : po (some (.int res)) (hMo G J)) : JW X 0 0 35 [some (.ref 0), some (.ref 1000005), none, none] [] (hMo G J) := by
  unfold p_X6_isWord_5_b35 at h
  refine JW.r hM 17 1 (pc2 := 36) (L2 := [some (.ref 0), some (.ref 1000005), none, none]) (st2 := [.int (0 : Int32)]) (μ2 := (hMo G J)) rfl trivial ?_
  exact t_X6_isWord_5_b36 hM hp N G J (0 : Int32) h hq
set_option maxHeartbeats 4000000 in
set_option maxRecDepth 100000 in
theorem t_X6_isWord_5 {X : jX} {po : Option Value → jH → Prop} {px : String → jH → Prop} {sf : Bool} {B9 : Nat} (hM : jMX X kX6_isWord RX6 tbX6 4 ⟨4, 0, 0, 108⟩ (some .boolean) 16) (hp : jPost X sf B9 po px) (N : Nat) (G : Nat → Nat → Int32) (J : Nat → Nat → Int64) {res : Int32} (h : p_X6_isWord_5 N G J = some res) (hq : po (some (.int res)) (hMo G J)) : JW X 0 0 0 [some (.ref 0), some (.ref 1000005), none, none] [] (hMo G J) := by
  unfold p_X6_isWord_5 at h
  refine JW.r hM 0 2 (pc2 := 4) (L2 := [some (.ref 0), some (.ref 1000005), none, none]) (st2 := [.int (G 0 13)]) (μ2 := (hMo G J)) rfl trivial ?_
  refine js_ifne (t := 35) hM.1 (jat hM.2.1 2 rfl) rfl (fun hc10 => ?_) (fun hc10 => ?_)
  · have h := (if_neg hc10).symm.trans h
    exact t_X6_isWord_5_b35 hM hp N G J h hq
  · have h := (if_pos hc10).symm.trans h
    refine JW.r hM 3 3 (pc2 := 12) (L2 := [some (.ref 0), some (.ref 1000005), none, none]) (st2 := [.int (1 : Int32), .int (G 0 11)]) (μ2 := (hMo G J)) rfl trivial ?_
    refine js_icne (t := 35) hM.1 (jat hM.2.1 6 rfl) rfl (fun hc9 => ?_) (fun hc9 => ?_)
    · have h := (if_neg hc9).symm.trans h
      exact t_X6_isWord_5_b35 hM hp N G J h hq
    · have h := (if_pos hc9).symm.trans h
      refine JW.r hM 7 6 (pc2 := 25) (L2 := [some (.ref 0), some (.ref 1000005), none, none]) (st2 := [.ref 1000005, .int ((G 0 9) - (G 0 10))]) (μ2 := (hMo G J)) rfl trivial ?_
      refine js_slen (w := 5) hM.1 (by decide) (by rw [hM.2.2.1]; exact wd1409) (jat hM.2.1 13 rfl) (by rw [hM.2.2.2.2.1]; exact Nat.le_of_ble_eq_true rfl) (by rw [hM.2.2.2.2.1]; exact Nat.le_of_ble_eq_true rfl) (by rw [hM.2.2.2.2.1]; exact Nat.le_of_ble_eq_true rfl) (by rw [hM.2.2.2.2.1]; exact Nat.le_of_ble_eq_true rfl) ?_
      show JW X 0 0 28 [some (.ref 0), some (.ref 1000005), none, none] [.int (4 : Int32), .int ((G 0 9) - (G 0 10))] (hMo G J)
      refine js_icne (t := 35) hM.1 (jat hM.2.1 14 rfl) rfl (fun hc8 => ?_) (fun hc8 => ?_)
      · have h := (if_neg hc8).symm.trans h
        exact t_X6_isWord_5_b35 hM hp N G J h hq
      · have h := (if_pos hc8).symm.trans h
        refine JW.r hM 15 2 (pc2 := 36) (L2 := [some (.ref 0), some (.ref 1000005), none, none]) (st2 := [.int (1 : Int32)]) (μ2 := (hMo G J)) rfl trivial ?_
        exact t_X6_isWord_5_b36 hM hp N G J (1 : Int32) h hq
theorem m_X6_isWord_5 (V : jV) (hV : V.1.stackTraces = false) (N : Nat) (G : Nat → Nat → Int32) (J : Nat → Nat → Int64) (v : Int32) (h : p_X6_isWord_5 N G J = some v) : jMet V yX6_isWord (jws yX6_isWord cX6_isWord 4 (some .boolean)) ⟨4, 0, 0, 108⟩ true 1 [.ref 0, .ref 1000005] (hMo G J) (fun o ν => o = some (.int v) ∧ ν = (hMo G J)) (fun _ _ => False) := by
  refine jmk (tb := tbX6) (C := kX6_isWord) hV rfl (by decide) tbX6_ok rfl kX6_isWord_ok rfl ?_
  intro X hM _ hp _
  exact t_X6_isWord_5 hM hp N G J h ⟨rfl, rfl⟩
def p_X6_isWord_6_b75 (N : Nat) (G : Nat → Nat → Int32) (J : Nat → Nat → Int64) (rv39 : Int32 → Int32 → Option (Int32)) (x3 : Int32) (s0 : Int32) : Option (Int32) :=
  rv39 s0 (x3 + 1)
def p_X6_isWord_6_b39 (N : Nat) (G : Nat → Nat → Int32) (J : Nat → Nat → Int64) : Nat → (Int32) → (Int32) → Option (Int32)
  | 0, _, _ => none
  | n + 1, x2, x3 => if x2 = 0 then (if jz x2 = true then some x2 else none) else (if (5 : Int32) ≤ x3 then (if jz x2 = true then some x2 else none) else (if jin ((G 0 10) + x3) 900 = true then if jin x3 5 = true then if (G 6 ((G 0 10) + x3).toNatClampNeg) = (jch 6 x3) then (p_X6_isWord_6_b75 N G J (p_X6_isWord_6_b39 N G J n) x3 (1 : Int32)) else (p_X6_isWord_6_b75 N G J (p_X6_isWord_6_b39 N G J n) x3 (0 : Int32)) else none else none))
def p_X6_isWord_6_b36 (N : Nat) (G : Nat → Nat → Int32) (J : Nat → Nat → Int64) (s0 : Int32) : Option (Int32) :=
  p_X6_isWord_6_b39 N G J N s0 (0 : Int32)
def p_X6_isWord_6_b35 (N : Nat) (G : Nat → Nat → Int32) (J : Nat → Nat → Int64) : Option (Int32) :=
  p_X6_isWord_6_b36 N G J (0 : Int32)
def p_X6_isWord_6 (N : Nat) (G : Nat → Nat → Int32) (J : Nat → Nat → Int64) : Option (Int32) :=
  if (G 0 13) = 0 then (if (G 0 11) = (1 : Int32) then (if ((G 0 9) - (G 0 10)) = (5 : Int32) then (p_X6_isWord_6_b36 N G J (1 : Int32)) else (p_X6_isWord_6_b35 N G J)) else (p_X6_isWord_6_b35 N G J)) else (p_X6_isWord_6_b35 N G J)
set_option maxHeartbeats 4000000 in
set_option maxRecDepth 100000 in
theorem t_X6_isWord_6_b75 {X : jX} {po : Option Value → jH → Prop} {px : String → jH → Prop} {sf : Bool} {B9 : Nat} (hM : jMX X kX6_isWord RX6 tbX6 4 ⟨4, 0, 0, 108⟩ (some .boolean) 16) (hp : jPost X sf B9 po px) (N : Nat) (G : Nat → Nat → Int32) (J : Nat → Nat → Int64) (rv39 : Int32 → Int32 → Option (Int32)) {res : Int32} (ih39 : ∀ (x2 : Int32) (x3 : Int32), rv39 x2 x3 = some res → JW X 0 0 39 [some (.ref 0), some (.ref 1000006), some (.int x2), some (.int x3)] [] (hMo G J)) (x3 : Int32) (s0 : Int32) (h : p_X6_isWord_6_b75 N G J rv39 x3 s0 = some res) (hq : po (some (.int res)) (hMo G J)) : JW X 0 0 75 [some (.ref 0), some (.ref 1000006), none, some (.int x3)] [.int s0] (hMo G J) := by
  unfold p_X6_isWord_6_b75 at h
  refine JW.r hM 41 3 (pc2 := 39) (L2 := [some (.ref 0), some (.ref 1000006), some (.int s0), some (.int (x3 + 1))]) (st2 := []) (μ2 := (hMo G J)) rfl trivial ?_
  exact ih39 s0 (x3 + 1) h
set_option maxHeartbeats 4000000 in
set_option maxRecDepth 100000 in
theorem t_X6_isWord_6_b39 {X : jX} {po : Option Value → jH → Prop} {px : String → jH → Prop} {sf : Bool} {B9 : Nat} (hM : jMX X kX6_isWord RX6 tbX6 4 ⟨4, 0, 0, 108⟩ (some .boolean) 16) (hp : jPost X sf B9 po px) (N : Nat) (G : Nat → Nat → Int32) (J : Nat → Nat → Int64) {res : Int32} : ∀ (n : Nat) (x2 : Int32) (x3 : Int32) (h : p_X6_isWord_6_b39 N G J n x2 x3 = some res) (hq : po (some (.int res)) (hMo G J)), JW X 0 0 39 [some (.ref 0), some (.ref 1000006), some (.int x2), some (.int x3)] [] (hMo G J) := by
  intro n
  induction n with
  | zero =>
    intro x2 x3 h hq
    cases (show (none : Option (Int32)) = some res from h)
  | succ n ih39 =>
    intro x2 x3 h hq
    have ih39 := fun x2 x3 h9 => ih39 x2 x3 h9 hq
    rw [p_X6_isWord_6_b39] at h
    refine JW.r hM 21 1 (pc2 := 40) (L2 := [some (.ref 0), some (.ref 1000006), some (.int x2), some (.int x3)]) (st2 := [.int x2]) (μ2 := (hMo G J)) rfl trivial ?_
    refine js_ifeq (t := 82) hM.1 (jat hM.2.1 22 rfl) rfl (fun hc7 => ?_) (fun hc7 => ?_)
    · have h := (if_pos hc7).symm.trans h
      refine JW.r hM 44 1 (pc2 := 83) (L2 := [some (.ref 0), some (.ref 1000006), some (.int x2), some (.int x3)]) (st2 := [.int x2]) (μ2 := (hMo G J)) rfl trivial ?_
      obtain ⟨g1, h⟩ := jg h
      obtain rfl := Option.some.inj h
      exact js_zret hM.1 hp hM.2.2.2.2.2.2.2.1 g1 (by rw [hM.2.2.2.2.2.1]; exact Nat.le_of_ble_eq_true rfl) (by rw [hM.2.2.2.2.2.2.1]; exact Nat.le_of_ble_eq_true rfl) (jat hM.2.1 45 rfl) hq
    · have h := (if_neg hc7).symm.trans h
      refine JW.r hM 23 2 (pc2 := 45) (L2 := [some (.ref 0), some (.ref 1000006), some (.int x2), some (.int x3)]) (st2 := [.ref 1000006, .int x3]) (μ2 := (hMo G J)) rfl trivial ?_
      refine js_slen (w := 6) hM.1 (by decide) (by rw [hM.2.2.1]; exact wd1409) (jat hM.2.1 25 rfl) (by rw [hM.2.2.2.2.1]; exact Nat.le_of_ble_eq_true rfl) (by rw [hM.2.2.2.2.1]; exact Nat.le_of_ble_eq_true rfl) (by rw [hM.2.2.2.2.1]; exact Nat.le_of_ble_eq_true rfl) (by rw [hM.2.2.2.2.1]; exact Nat.le_of_ble_eq_true rfl) ?_
      show JW X 0 0 48 [some (.ref 0), some (.ref 1000006), some (.int x2), some (.int x3)] [.int (5 : Int32), .int x3] (hMo G J)
      refine js_icge (t := 82) hM.1 (jat hM.2.1 26 rfl) rfl (fun hc6 => ?_) (fun hc6 => ?_)
      · have h := (if_pos hc6).symm.trans h
        refine JW.r hM 44 1 (pc2 := 83) (L2 := [some (.ref 0), some (.ref 1000006), some (.int x2), some (.int x3)]) (st2 := [.int x2]) (μ2 := (hMo G J)) rfl trivial ?_
        obtain ⟨g2, h⟩ := jg h
        obtain rfl := Option.some.inj h
        exact js_zret hM.1 hp hM.2.2.2.2.2.2.2.1 g2 (by rw [hM.2.2.2.2.2.1]; exact Nat.le_of_ble_eq_true rfl) (by rw [hM.2.2.2.2.2.2.1]; exact Nat.le_of_ble_eq_true rfl) (jat hM.2.1 45 rfl) hq
      · have h := (if_neg hc6).symm.trans h
        obtain ⟨g3, h⟩ := jg h
        refine JW.r hM 27 9 (pc2 := 64) (L2 := [some (.ref 0), some (.ref 1000006), some (.int x2), some (.int x3)]) (st2 := [.int x3, .ref 1000006, .int (G 6 ((G 0 10) + x3).toNatClampNeg)]) (μ2 := (hMo G J)) rfl ⟨g3, trivial⟩ ?_
        obtain ⟨g4, h⟩ := jg h
        refine js_sch (w := 6) hM.1 (by decide) (by rw [hM.2.2.1]; exact wd1410) g4 (jat hM.2.1 36 rfl) (by rw [hM.2.2.2.2.1]; exact Nat.le_of_ble_eq_true rfl) (by rw [hM.2.2.2.2.1]; exact Nat.le_of_ble_eq_true rfl) (by rw [hM.2.2.2.2.1]; exact Nat.le_of_ble_eq_true rfl) (by rw [hM.2.2.2.2.1]; exact Nat.le_of_ble_eq_true rfl) ?_
        show JW X 0 0 67 [some (.ref 0), some (.ref 1000006), some (.int x2), some (.int x3)] [.int (jch 6 x3), .int (G 6 ((G 0 10) + x3).toNatClampNeg)] (hMo G J)
        refine js_icne (t := 74) hM.1 (jat hM.2.1 37 rfl) rfl (fun hc5 => ?_) (fun hc5 => ?_)
        · have h := (if_neg hc5).symm.trans h
          refine JW.r hM 40 1 (pc2 := 75) (L2 := [some (.ref 0), some (.ref 1000006), some (.int x2), some (.int x3)]) (st2 := [.int (0 : Int32)]) (μ2 := (hMo G J)) rfl trivial ?_
          exact JW.mask [true, true, false, true] (t_X6_isWord_6_b75 hM hp N G J (p_X6_isWord_6_b39 N G J n) ih39 x3 (0 : Int32) h hq)
        · have h := (if_pos hc5).symm.trans h
          refine JW.r hM 38 2 (pc2 := 75) (L2 := [some (.ref 0), some (.ref 1000006), some (.int x2), some (.int x3)]) (st2 := [.int (1 : Int32)]) (μ2 := (hMo G J)) rfl trivial ?_
          exact JW.mask [true, true, false, true] (t_X6_isWord_6_b75 hM hp N G J (p_X6_isWord_6_b39 N G J n) ih39 x3 (1 : Int32) h hq)
set_option maxHeartbeats 4000000 in
set_option maxRecDepth 100000 in
theorem t_X6_isWord_6_b36 {X : jX} {po : Option Value → jH → Prop} {px : String → jH → Prop} {sf : Bool} {B9 : Nat} (hM : jMX X kX6_isWord RX6 tbX6 4 ⟨4, 0, 0, 108⟩ (some .boolean) 16) (hp : jPost X sf B9 po px) (N : Nat) (G : Nat → Nat → Int32) (J : Nat → Nat → Int64) {res : Int32} (s0 : Int32) (h : p_X6_isWord_6_b36 N G J s0 = some res) (hq : po (some (.int res)) (hMo G J)) : JW X 0 0 36 [some (.ref 0), some (.ref 1000006), none, none] [.int s0] (hMo G J) := by
  unfold p_X6_isWord_6_b36 at h
  refine JW.r hM 18 3 (pc2 := 39) (L2 := [some (.ref 0), some (.ref 1000006), some (.int s0), some (.int (0 : Int32))]) (st2 := []) (μ2 := (hMo G J)) rfl trivial ?_
  exact t_X6_isWord_6_b39 hM hp N G J N s0 (0 : Int32) h hq
set_option maxHeartbeats 4000000 in
set_option maxRecDepth 100000 in
theorem t_X6_isWord_6_b35 {X : jX} {po : Option Value → jH → Prop} {px : String → jH → Prop} {sf : Bool} {B9 : Nat} (hM : jMX X kX6_isWord RX6 tbX6 4 ⟨4, 0, 0, 108⟩ (some .boolean) 16) (hp : jPost X sf B9 po px) (N : Nat) (G : Nat → Nat → Int32) (J : Nat → Nat → Int64) {res : Int32} (h : p_X6_isWord_6_b35 N G J = some res) (hq : po (some (.int res)) (hMo G J)) : JW X 0 0 35 [some (.ref 0), some (.ref 1000006), none, none] [] (hMo G J) := by
  unfold p_X6_isWord_6_b35 at h
  refine JW.r hM 17 1 (pc2 := 36) (L2 := [some (.ref 0), some (.ref 1000006), none, none]) (st2 := [.int (0 : Int32)]) (μ2 := (hMo G J)) rfl trivial ?_
  exact t_X6_isWord_6_b36 hM hp N G J (0 : Int32) h hq
set_option maxHeartbeats 4000000 in
set_option maxRecDepth 100000 in
theorem t_X6_isWord_6 {X : jX} {po : Option Value → jH → Prop} {px : String → jH → Prop} {sf : Bool} {B9 : Nat} (hM : jMX X kX6_isWord RX6 tbX6 4 ⟨4, 0, 0, 108⟩ (some .boolean) 16) (hp : jPost X sf B9 po px) (N : Nat) (G : Nat → Nat → Int32) (J : Nat → Nat → Int64) {res : Int32} (h : p_X6_isWord_6 N G J = some res) (hq : po (some (.int res)) (hMo G J)) : JW X 0 0 0 [some (.ref 0), some (.ref 1000006), none, none] [] (hMo G J) := by
  unfold p_X6_isWord_6 at h
  refine JW.r hM 0 2 (pc2 := 4) (L2 := [some (.ref 0), some (.ref 1000006), none, none]) (st2 := [.int (G 0 13)]) (μ2 := (hMo G J)) rfl trivial ?_
  refine js_ifne (t := 35) hM.1 (jat hM.2.1 2 rfl) rfl (fun hc10 => ?_) (fun hc10 => ?_)
  · have h := (if_neg hc10).symm.trans h
    exact t_X6_isWord_6_b35 hM hp N G J h hq
  · have h := (if_pos hc10).symm.trans h
    refine JW.r hM 3 3 (pc2 := 12) (L2 := [some (.ref 0), some (.ref 1000006), none, none]) (st2 := [.int (1 : Int32), .int (G 0 11)]) (μ2 := (hMo G J)) rfl trivial ?_
    refine js_icne (t := 35) hM.1 (jat hM.2.1 6 rfl) rfl (fun hc9 => ?_) (fun hc9 => ?_)
    · have h := (if_neg hc9).symm.trans h
      exact t_X6_isWord_6_b35 hM hp N G J h hq
    · have h := (if_pos hc9).symm.trans h
      refine JW.r hM 7 6 (pc2 := 25) (L2 := [some (.ref 0), some (.ref 1000006), none, none]) (st2 := [.ref 1000006, .int ((G 0 9) - (G 0 10))]) (μ2 := (hMo G J)) rfl trivial ?_
      refine js_slen (w := 6) hM.1 (by decide) (by rw [hM.2.2.1]; exact wd1409) (jat hM.2.1 13 rfl) (by rw [hM.2.2.2.2.1]; exact Nat.le_of_ble_eq_true rfl) (by rw [hM.2.2.2.2.1]; exact Nat.le_of_ble_eq_true rfl) (by rw [hM.2.2.2.2.1]; exact Nat.le_of_ble_eq_true rfl) (by rw [hM.2.2.2.2.1]; exact Nat.le_of_ble_eq_true rfl) ?_
      show JW X 0 0 28 [some (.ref 0), some (.ref 1000006), none, none] [.int (5 : Int32), .int ((G 0 9) - (G 0 10))] (hMo G J)
      refine js_icne (t := 35) hM.1 (jat hM.2.1 14 rfl) rfl (fun hc8 => ?_) (fun hc8 => ?_)
      · have h := (if_neg hc8).symm.trans h
        exact t_X6_isWord_6_b35 hM hp N G J h hq
      · have h := (if_pos hc8).symm.trans h
        refine JW.r hM 15 2 (pc2 := 36) (L2 := [some (.ref 0), some (.ref 1000006), none, none]) (st2 := [.int (1 : Int32)]) (μ2 := (hMo G J)) rfl trivial ?_
        exact t_X6_isWord_6_b36 hM hp N G J (1 : Int32) h hq
theorem m_X6_isWord_6 (V : jV) (hV : V.1.stackTraces = false) (N : Nat) (G : Nat → Nat → Int32) (J : Nat → Nat → Int64) (v : Int32) (h : p_X6_isWord_6 N G J = some v) : jMet V yX6_isWord (jws yX6_isWord cX6_isWord 4 (some .boolean)) ⟨4, 0, 0, 108⟩ true 1 [.ref 0, .ref 1000006] (hMo G J) (fun o ν => o = some (.int v) ∧ ν = (hMo G J)) (fun _ _ => False) := by
  refine jmk (tb := tbX6) (C := kX6_isWord) hV rfl (by decide) tbX6_ok rfl kX6_isWord_ok rfl ?_
  intro X hM _ hp _
  exact t_X6_isWord_6 hM hp N G J h ⟨rfl, rfl⟩
def p_X6_took_0 (N : Nat) (G : Nat → Nat → Int32) (J : Nat → Nat → Int64) : Option (Int32 × (Nat → Nat → Int32)) :=
  (p_X6_isWord_0 N G J).bind (fun v2 => if v2 = 0 then (if jz v2 = true then some (v2, G) else none) else ((p_X6_reads N G J).bind (fun v5 => jlt v5 fun G6 => if jz v2 = true then some (v2, G6) else none)))
set_option maxHeartbeats 4000000 in
set_option maxRecDepth 100000 in
theorem t_X6_took_0 {X : jX} {po : Option Value → jH → Prop} {px : String → jH → Prop} {sf : Bool} {B9 : Nat} (hM : jMX X kX6_took RX6 tbX6 3 ⟨5, 0, 0, 131⟩ (some .boolean) 16) (hp : jPost X sf B9 po px) (N : Nat) (G : Nat → Nat → Int32) (J : Nat → Nat → Int64) {res : Int32 × (Nat → Nat → Int32)} (h : p_X6_took_0 N G J = some res) (hq : po (some (.int res.1)) (hMo res.2 J)) : JW X 0 0 0 [some (.ref 0), some (.ref 1000000), none] [] (hMo G J) := by
  unfold p_X6_took_0 at h
  refine JW.r hM 0 2 (pc2 := 2) (L2 := [some (.ref 0), some (.ref 1000000), none]) (st2 := [.ref 1000000, .ref 0]) (μ2 := (hMo G J)) rfl trivial ?_
  obtain ⟨v2, hv1, h⟩ := jbd h
  refine JW.cV (v := some (.int v2)) hM (m_X6_isWord_0 (jVX X) hM.1.2.2.2.2.2.2.2.2.2.1 N G J v2 hv1) (sb_Mo_Mo_0 G J) (bi_Mo_Mo_0 G J) rfl rfl rfl kc_X6_111 rfl rfl rfl rfl rfl (jat hM.2.1 2 rfl) (st := []) rfl ?_
  show JW X 0 0 5 [some (.ref 0), some (.ref 1000000), none] [.int v2] (hMo G J)
  refine JW.r hM 3 2 (pc2 := 7) (L2 := [some (.ref 0), some (.ref 1000000), some (.int v2)]) (st2 := [.int v2]) (μ2 := (hMo G J)) rfl trivial ?_
  refine js_ifeq (t := 14) hM.1 (jat hM.2.1 5 rfl) rfl (fun hc9 => ?_) (fun hc9 => ?_)
  · have h := (if_pos hc9).symm.trans h
    refine JW.r hM 8 1 (pc2 := 15) (L2 := [some (.ref 0), some (.ref 1000000), some (.int v2)]) (st2 := [.int v2]) (μ2 := (hMo G J)) rfl trivial ?_
    obtain ⟨g3, h⟩ := jg h
    obtain rfl := Option.some.inj h
    exact js_zret hM.1 hp hM.2.2.2.2.2.2.2.1 g3 (by rw [hM.2.2.2.2.2.1]; exact Nat.le_of_ble_eq_true rfl) (by rw [hM.2.2.2.2.2.2.1]; exact Nat.le_of_ble_eq_true rfl) (jat hM.2.1 9 rfl) hq
  · have h := (if_neg hc9).symm.trans h
    refine JW.r hM 6 1 (pc2 := 11) (L2 := [some (.ref 0), some (.ref 1000000), some (.int v2)]) (st2 := [.ref 0]) (μ2 := (hMo G J)) rfl trivial ?_
    obtain ⟨v5, hv4, h⟩ := jbd h
    refine JW.cV (v := none) hM (m_X6_reads (jVX X) hM.1.2.2.2.2.2.2.2.2.2.1 N G J v5 hv4) (sb_Mo_Mo_0 G J) (bk_Mo_Mo_0 G J v5 J) rfl rfl rfl kc_X6_115 rfl rfl rfl rfl rfl (jat hM.2.1 7 rfl) (st := []) rfl ?_
    show JW X 0 0 14 [some (.ref 0), some (.ref 1000000), some (.int v2)] [] (hMo v5 J)
    obtain ⟨G6, e7, h⟩ := jlE h
    rw [e7]
    refine JW.r hM 8 1 (pc2 := 15) (L2 := [some (.ref 0), some (.ref 1000000), some (.int v2)]) (st2 := [.int v2]) (μ2 := (hMo G6 J)) rfl trivial ?_
    obtain ⟨g8, h⟩ := jg h
    obtain rfl := Option.some.inj h
    exact js_zret hM.1 hp hM.2.2.2.2.2.2.2.1 g8 (by rw [hM.2.2.2.2.2.1]; exact Nat.le_of_ble_eq_true rfl) (by rw [hM.2.2.2.2.2.2.1]; exact Nat.le_of_ble_eq_true rfl) (jat hM.2.1 9 rfl) hq
theorem m_X6_took_0 (V : jV) (hV : V.1.stackTraces = false) (N : Nat) (G : Nat → Nat → Int32) (J : Nat → Nat → Int64) (v : Int32 × (Nat → Nat → Int32)) (h : p_X6_took_0 N G J = some v) : jMet V yX6_took (jws yX6_took cX6_took 3 (some .boolean)) ⟨5, 0, 0, 131⟩ true 1 [.ref 0, .ref 1000000] (hMo G J) (fun o ν => o = some (.int v.1) ∧ ν = (hMo v.2 J)) (fun _ _ => False) := by
  refine jmk (tb := tbX6) (C := kX6_took) hV rfl (by decide) tbX6_ok rfl kX6_took_ok rfl ?_
  intro X hM _ hp _
  exact t_X6_took_0 hM hp N G J h ⟨rfl, rfl⟩
def p_X6_took_1 (N : Nat) (G : Nat → Nat → Int32) (J : Nat → Nat → Int64) : Option (Int32 × (Nat → Nat → Int32)) :=
  (p_X6_isWord_1 N G J).bind (fun v2 => if v2 = 0 then (if jz v2 = true then some (v2, G) else none) else ((p_X6_reads N G J).bind (fun v5 => jlt v5 fun G6 => if jz v2 = true then some (v2, G6) else none)))
set_option maxHeartbeats 4000000 in
set_option maxRecDepth 100000 in
theorem t_X6_took_1 {X : jX} {po : Option Value → jH → Prop} {px : String → jH → Prop} {sf : Bool} {B9 : Nat} (hM : jMX X kX6_took RX6 tbX6 3 ⟨5, 0, 0, 131⟩ (some .boolean) 16) (hp : jPost X sf B9 po px) (N : Nat) (G : Nat → Nat → Int32) (J : Nat → Nat → Int64) {res : Int32 × (Nat → Nat → Int32)} (h : p_X6_took_1 N G J = some res) (hq : po (some (.int res.1)) (hMo res.2 J)) : JW X 0 0 0 [some (.ref 0), some (.ref 1000001), none] [] (hMo G J) := by
  unfold p_X6_took_1 at h
  refine JW.r hM 0 2 (pc2 := 2) (L2 := [some (.ref 0), some (.ref 1000001), none]) (st2 := [.ref 1000001, .ref 0]) (μ2 := (hMo G J)) rfl trivial ?_
  obtain ⟨v2, hv1, h⟩ := jbd h
  refine JW.cV (v := some (.int v2)) hM (m_X6_isWord_1 (jVX X) hM.1.2.2.2.2.2.2.2.2.2.1 N G J v2 hv1) (sb_Mo_Mo_0 G J) (bi_Mo_Mo_0 G J) rfl rfl rfl kc_X6_111 rfl rfl rfl rfl rfl (jat hM.2.1 2 rfl) (st := []) rfl ?_
  show JW X 0 0 5 [some (.ref 0), some (.ref 1000001), none] [.int v2] (hMo G J)
  refine JW.r hM 3 2 (pc2 := 7) (L2 := [some (.ref 0), some (.ref 1000001), some (.int v2)]) (st2 := [.int v2]) (μ2 := (hMo G J)) rfl trivial ?_
  refine js_ifeq (t := 14) hM.1 (jat hM.2.1 5 rfl) rfl (fun hc9 => ?_) (fun hc9 => ?_)
  · have h := (if_pos hc9).symm.trans h
    refine JW.r hM 8 1 (pc2 := 15) (L2 := [some (.ref 0), some (.ref 1000001), some (.int v2)]) (st2 := [.int v2]) (μ2 := (hMo G J)) rfl trivial ?_
    obtain ⟨g3, h⟩ := jg h
    obtain rfl := Option.some.inj h
    exact js_zret hM.1 hp hM.2.2.2.2.2.2.2.1 g3 (by rw [hM.2.2.2.2.2.1]; exact Nat.le_of_ble_eq_true rfl) (by rw [hM.2.2.2.2.2.2.1]; exact Nat.le_of_ble_eq_true rfl) (jat hM.2.1 9 rfl) hq
  · have h := (if_neg hc9).symm.trans h
    refine JW.r hM 6 1 (pc2 := 11) (L2 := [some (.ref 0), some (.ref 1000001), some (.int v2)]) (st2 := [.ref 0]) (μ2 := (hMo G J)) rfl trivial ?_
    obtain ⟨v5, hv4, h⟩ := jbd h
    refine JW.cV (v := none) hM (m_X6_reads (jVX X) hM.1.2.2.2.2.2.2.2.2.2.1 N G J v5 hv4) (sb_Mo_Mo_0 G J) (bk_Mo_Mo_0 G J v5 J) rfl rfl rfl kc_X6_115 rfl rfl rfl rfl rfl (jat hM.2.1 7 rfl) (st := []) rfl ?_
    show JW X 0 0 14 [some (.ref 0), some (.ref 1000001), some (.int v2)] [] (hMo v5 J)
    obtain ⟨G6, e7, h⟩ := jlE h
    rw [e7]
    refine JW.r hM 8 1 (pc2 := 15) (L2 := [some (.ref 0), some (.ref 1000001), some (.int v2)]) (st2 := [.int v2]) (μ2 := (hMo G6 J)) rfl trivial ?_
    obtain ⟨g8, h⟩ := jg h
    obtain rfl := Option.some.inj h
    exact js_zret hM.1 hp hM.2.2.2.2.2.2.2.1 g8 (by rw [hM.2.2.2.2.2.1]; exact Nat.le_of_ble_eq_true rfl) (by rw [hM.2.2.2.2.2.2.1]; exact Nat.le_of_ble_eq_true rfl) (jat hM.2.1 9 rfl) hq
theorem m_X6_took_1 (V : jV) (hV : V.1.stackTraces = false) (N : Nat) (G : Nat → Nat → Int32) (J : Nat → Nat → Int64) (v : Int32 × (Nat → Nat → Int32)) (h : p_X6_took_1 N G J = some v) : jMet V yX6_took (jws yX6_took cX6_took 3 (some .boolean)) ⟨5, 0, 0, 131⟩ true 1 [.ref 0, .ref 1000001] (hMo G J) (fun o ν => o = some (.int v.1) ∧ ν = (hMo v.2 J)) (fun _ _ => False) := by
  refine jmk (tb := tbX6) (C := kX6_took) hV rfl (by decide) tbX6_ok rfl kX6_took_ok rfl ?_
  intro X hM _ hp _
  exact t_X6_took_1 hM hp N G J h ⟨rfl, rfl⟩
def p_X6_took_2 (N : Nat) (G : Nat → Nat → Int32) (J : Nat → Nat → Int64) : Option (Int32 × (Nat → Nat → Int32)) :=
  (p_X6_isWord_2 N G J).bind (fun v2 => if v2 = 0 then (if jz v2 = true then some (v2, G) else none) else ((p_X6_reads N G J).bind (fun v5 => jlt v5 fun G6 => if jz v2 = true then some (v2, G6) else none)))
set_option maxHeartbeats 4000000 in
set_option maxRecDepth 100000 in
theorem t_X6_took_2 {X : jX} {po : Option Value → jH → Prop} {px : String → jH → Prop} {sf : Bool} {B9 : Nat} (hM : jMX X kX6_took RX6 tbX6 3 ⟨5, 0, 0, 131⟩ (some .boolean) 16) (hp : jPost X sf B9 po px) (N : Nat) (G : Nat → Nat → Int32) (J : Nat → Nat → Int64) {res : Int32 × (Nat → Nat → Int32)} (h : p_X6_took_2 N G J = some res) (hq : po (some (.int res.1)) (hMo res.2 J)) : JW X 0 0 0 [some (.ref 0), some (.ref 1000002), none] [] (hMo G J) := by
  unfold p_X6_took_2 at h
  refine JW.r hM 0 2 (pc2 := 2) (L2 := [some (.ref 0), some (.ref 1000002), none]) (st2 := [.ref 1000002, .ref 0]) (μ2 := (hMo G J)) rfl trivial ?_
  obtain ⟨v2, hv1, h⟩ := jbd h
  refine JW.cV (v := some (.int v2)) hM (m_X6_isWord_2 (jVX X) hM.1.2.2.2.2.2.2.2.2.2.1 N G J v2 hv1) (sb_Mo_Mo_0 G J) (bi_Mo_Mo_0 G J) rfl rfl rfl kc_X6_111 rfl rfl rfl rfl rfl (jat hM.2.1 2 rfl) (st := []) rfl ?_
  show JW X 0 0 5 [some (.ref 0), some (.ref 1000002), none] [.int v2] (hMo G J)
  refine JW.r hM 3 2 (pc2 := 7) (L2 := [some (.ref 0), some (.ref 1000002), some (.int v2)]) (st2 := [.int v2]) (μ2 := (hMo G J)) rfl trivial ?_
  refine js_ifeq (t := 14) hM.1 (jat hM.2.1 5 rfl) rfl (fun hc9 => ?_) (fun hc9 => ?_)
  · have h := (if_pos hc9).symm.trans h
    refine JW.r hM 8 1 (pc2 := 15) (L2 := [some (.ref 0), some (.ref 1000002), some (.int v2)]) (st2 := [.int v2]) (μ2 := (hMo G J)) rfl trivial ?_
    obtain ⟨g3, h⟩ := jg h
    obtain rfl := Option.some.inj h
    exact js_zret hM.1 hp hM.2.2.2.2.2.2.2.1 g3 (by rw [hM.2.2.2.2.2.1]; exact Nat.le_of_ble_eq_true rfl) (by rw [hM.2.2.2.2.2.2.1]; exact Nat.le_of_ble_eq_true rfl) (jat hM.2.1 9 rfl) hq
  · have h := (if_neg hc9).symm.trans h
    refine JW.r hM 6 1 (pc2 := 11) (L2 := [some (.ref 0), some (.ref 1000002), some (.int v2)]) (st2 := [.ref 0]) (μ2 := (hMo G J)) rfl trivial ?_
    obtain ⟨v5, hv4, h⟩ := jbd h
    refine JW.cV (v := none) hM (m_X6_reads (jVX X) hM.1.2.2.2.2.2.2.2.2.2.1 N G J v5 hv4) (sb_Mo_Mo_0 G J) (bk_Mo_Mo_0 G J v5 J) rfl rfl rfl kc_X6_115 rfl rfl rfl rfl rfl (jat hM.2.1 7 rfl) (st := []) rfl ?_
    show JW X 0 0 14 [some (.ref 0), some (.ref 1000002), some (.int v2)] [] (hMo v5 J)
    obtain ⟨G6, e7, h⟩ := jlE h
    rw [e7]
    refine JW.r hM 8 1 (pc2 := 15) (L2 := [some (.ref 0), some (.ref 1000002), some (.int v2)]) (st2 := [.int v2]) (μ2 := (hMo G6 J)) rfl trivial ?_
    obtain ⟨g8, h⟩ := jg h
    obtain rfl := Option.some.inj h
    exact js_zret hM.1 hp hM.2.2.2.2.2.2.2.1 g8 (by rw [hM.2.2.2.2.2.1]; exact Nat.le_of_ble_eq_true rfl) (by rw [hM.2.2.2.2.2.2.1]; exact Nat.le_of_ble_eq_true rfl) (jat hM.2.1 9 rfl) hq
theorem m_X6_took_2 (V : jV) (hV : V.1.stackTraces = false) (N : Nat) (G : Nat → Nat → Int32) (J : Nat → Nat → Int64) (v : Int32 × (Nat → Nat → Int32)) (h : p_X6_took_2 N G J = some v) : jMet V yX6_took (jws yX6_took cX6_took 3 (some .boolean)) ⟨5, 0, 0, 131⟩ true 1 [.ref 0, .ref 1000002] (hMo G J) (fun o ν => o = some (.int v.1) ∧ ν = (hMo v.2 J)) (fun _ _ => False) := by
  refine jmk (tb := tbX6) (C := kX6_took) hV rfl (by decide) tbX6_ok rfl kX6_took_ok rfl ?_
  intro X hM _ hp _
  exact t_X6_took_2 hM hp N G J h ⟨rfl, rfl⟩
def p_X6_took_3 (N : Nat) (G : Nat → Nat → Int32) (J : Nat → Nat → Int64) : Option (Int32 × (Nat → Nat → Int32)) :=
  (p_X6_isWord_3 N G J).bind (fun v2 => if v2 = 0 then (if jz v2 = true then some (v2, G) else none) else ((p_X6_reads N G J).bind (fun v5 => jlt v5 fun G6 => if jz v2 = true then some (v2, G6) else none)))
set_option maxHeartbeats 4000000 in
set_option maxRecDepth 100000 in
theorem t_X6_took_3 {X : jX} {po : Option Value → jH → Prop} {px : String → jH → Prop} {sf : Bool} {B9 : Nat} (hM : jMX X kX6_took RX6 tbX6 3 ⟨5, 0, 0, 131⟩ (some .boolean) 16) (hp : jPost X sf B9 po px) (N : Nat) (G : Nat → Nat → Int32) (J : Nat → Nat → Int64) {res : Int32 × (Nat → Nat → Int32)} (h : p_X6_took_3 N G J = some res) (hq : po (some (.int res.1)) (hMo res.2 J)) : JW X 0 0 0 [some (.ref 0), some (.ref 1000003), none] [] (hMo G J) := by
  unfold p_X6_took_3 at h
  refine JW.r hM 0 2 (pc2 := 2) (L2 := [some (.ref 0), some (.ref 1000003), none]) (st2 := [.ref 1000003, .ref 0]) (μ2 := (hMo G J)) rfl trivial ?_
  obtain ⟨v2, hv1, h⟩ := jbd h
  refine JW.cV (v := some (.int v2)) hM (m_X6_isWord_3 (jVX X) hM.1.2.2.2.2.2.2.2.2.2.1 N G J v2 hv1) (sb_Mo_Mo_0 G J) (bi_Mo_Mo_0 G J) rfl rfl rfl kc_X6_111 rfl rfl rfl rfl rfl (jat hM.2.1 2 rfl) (st := []) rfl ?_
  show JW X 0 0 5 [some (.ref 0), some (.ref 1000003), none] [.int v2] (hMo G J)
  refine JW.r hM 3 2 (pc2 := 7) (L2 := [some (.ref 0), some (.ref 1000003), some (.int v2)]) (st2 := [.int v2]) (μ2 := (hMo G J)) rfl trivial ?_
  refine js_ifeq (t := 14) hM.1 (jat hM.2.1 5 rfl) rfl (fun hc9 => ?_) (fun hc9 => ?_)
  · have h := (if_pos hc9).symm.trans h
    refine JW.r hM 8 1 (pc2 := 15) (L2 := [some (.ref 0), some (.ref 1000003), some (.int v2)]) (st2 := [.int v2]) (μ2 := (hMo G J)) rfl trivial ?_
    obtain ⟨g3, h⟩ := jg h
    obtain rfl := Option.some.inj h
    exact js_zret hM.1 hp hM.2.2.2.2.2.2.2.1 g3 (by rw [hM.2.2.2.2.2.1]; exact Nat.le_of_ble_eq_true rfl) (by rw [hM.2.2.2.2.2.2.1]; exact Nat.le_of_ble_eq_true rfl) (jat hM.2.1 9 rfl) hq
  · have h := (if_neg hc9).symm.trans h
    refine JW.r hM 6 1 (pc2 := 11) (L2 := [some (.ref 0), some (.ref 1000003), some (.int v2)]) (st2 := [.ref 0]) (μ2 := (hMo G J)) rfl trivial ?_
    obtain ⟨v5, hv4, h⟩ := jbd h
    refine JW.cV (v := none) hM (m_X6_reads (jVX X) hM.1.2.2.2.2.2.2.2.2.2.1 N G J v5 hv4) (sb_Mo_Mo_0 G J) (bk_Mo_Mo_0 G J v5 J) rfl rfl rfl kc_X6_115 rfl rfl rfl rfl rfl (jat hM.2.1 7 rfl) (st := []) rfl ?_
    show JW X 0 0 14 [some (.ref 0), some (.ref 1000003), some (.int v2)] [] (hMo v5 J)
    obtain ⟨G6, e7, h⟩ := jlE h
    rw [e7]
    refine JW.r hM 8 1 (pc2 := 15) (L2 := [some (.ref 0), some (.ref 1000003), some (.int v2)]) (st2 := [.int v2]) (μ2 := (hMo G6 J)) rfl trivial ?_
    obtain ⟨g8, h⟩ := jg h
    obtain rfl := Option.some.inj h
    exact js_zret hM.1 hp hM.2.2.2.2.2.2.2.1 g8 (by rw [hM.2.2.2.2.2.1]; exact Nat.le_of_ble_eq_true rfl) (by rw [hM.2.2.2.2.2.2.1]; exact Nat.le_of_ble_eq_true rfl) (jat hM.2.1 9 rfl) hq
theorem m_X6_took_3 (V : jV) (hV : V.1.stackTraces = false) (N : Nat) (G : Nat → Nat → Int32) (J : Nat → Nat → Int64) (v : Int32 × (Nat → Nat → Int32)) (h : p_X6_took_3 N G J = some v) : jMet V yX6_took (jws yX6_took cX6_took 3 (some .boolean)) ⟨5, 0, 0, 131⟩ true 1 [.ref 0, .ref 1000003] (hMo G J) (fun o ν => o = some (.int v.1) ∧ ν = (hMo v.2 J)) (fun _ _ => False) := by
  refine jmk (tb := tbX6) (C := kX6_took) hV rfl (by decide) tbX6_ok rfl kX6_took_ok rfl ?_
  intro X hM _ hp _
  exact t_X6_took_3 hM hp N G J h ⟨rfl, rfl⟩
def p_X6_took_4 (N : Nat) (G : Nat → Nat → Int32) (J : Nat → Nat → Int64) : Option (Int32 × (Nat → Nat → Int32)) :=
  (p_X6_isWord_4 N G J).bind (fun v2 => if v2 = 0 then (if jz v2 = true then some (v2, G) else none) else ((p_X6_reads N G J).bind (fun v5 => jlt v5 fun G6 => if jz v2 = true then some (v2, G6) else none)))
set_option maxHeartbeats 4000000 in
set_option maxRecDepth 100000 in
theorem t_X6_took_4 {X : jX} {po : Option Value → jH → Prop} {px : String → jH → Prop} {sf : Bool} {B9 : Nat} (hM : jMX X kX6_took RX6 tbX6 3 ⟨5, 0, 0, 131⟩ (some .boolean) 16) (hp : jPost X sf B9 po px) (N : Nat) (G : Nat → Nat → Int32) (J : Nat → Nat → Int64) {res : Int32 × (Nat → Nat → Int32)} (h : p_X6_took_4 N G J = some res) (hq : po (some (.int res.1)) (hMo res.2 J)) : JW X 0 0 0 [some (.ref 0), some (.ref 1000004), none] [] (hMo G J) := by
  unfold p_X6_took_4 at h
  refine JW.r hM 0 2 (pc2 := 2) (L2 := [some (.ref 0), some (.ref 1000004), none]) (st2 := [.ref 1000004, .ref 0]) (μ2 := (hMo G J)) rfl trivial ?_
  obtain ⟨v2, hv1, h⟩ := jbd h
  refine JW.cV (v := some (.int v2)) hM (m_X6_isWord_4 (jVX X) hM.1.2.2.2.2.2.2.2.2.2.1 N G J v2 hv1) (sb_Mo_Mo_0 G J) (bi_Mo_Mo_0 G J) rfl rfl rfl kc_X6_111 rfl rfl rfl rfl rfl (jat hM.2.1 2 rfl) (st := []) rfl ?_
  show JW X 0 0 5 [some (.ref 0), some (.ref 1000004), none] [.int v2] (hMo G J)
  refine JW.r hM 3 2 (pc2 := 7) (L2 := [some (.ref 0), some (.ref 1000004), some (.int v2)]) (st2 := [.int v2]) (μ2 := (hMo G J)) rfl trivial ?_
  refine js_ifeq (t := 14) hM.1 (jat hM.2.1 5 rfl) rfl (fun hc9 => ?_) (fun hc9 => ?_)
  · have h := (if_pos hc9).symm.trans h
    refine JW.r hM 8 1 (pc2 := 15) (L2 := [some (.ref 0), some (.ref 1000004), some (.int v2)]) (st2 := [.int v2]) (μ2 := (hMo G J)) rfl trivial ?_
    obtain ⟨g3, h⟩ := jg h
    obtain rfl := Option.some.inj h
    exact js_zret hM.1 hp hM.2.2.2.2.2.2.2.1 g3 (by rw [hM.2.2.2.2.2.1]; exact Nat.le_of_ble_eq_true rfl) (by rw [hM.2.2.2.2.2.2.1]; exact Nat.le_of_ble_eq_true rfl) (jat hM.2.1 9 rfl) hq
  · have h := (if_neg hc9).symm.trans h
    refine JW.r hM 6 1 (pc2 := 11) (L2 := [some (.ref 0), some (.ref 1000004), some (.int v2)]) (st2 := [.ref 0]) (μ2 := (hMo G J)) rfl trivial ?_
    obtain ⟨v5, hv4, h⟩ := jbd h
    refine JW.cV (v := none) hM (m_X6_reads (jVX X) hM.1.2.2.2.2.2.2.2.2.2.1 N G J v5 hv4) (sb_Mo_Mo_0 G J) (bk_Mo_Mo_0 G J v5 J) rfl rfl rfl kc_X6_115 rfl rfl rfl rfl rfl (jat hM.2.1 7 rfl) (st := []) rfl ?_
    show JW X 0 0 14 [some (.ref 0), some (.ref 1000004), some (.int v2)] [] (hMo v5 J)
    obtain ⟨G6, e7, h⟩ := jlE h
    rw [e7]
    refine JW.r hM 8 1 (pc2 := 15) (L2 := [some (.ref 0), some (.ref 1000004), some (.int v2)]) (st2 := [.int v2]) (μ2 := (hMo G6 J)) rfl trivial ?_
    obtain ⟨g8, h⟩ := jg h
    obtain rfl := Option.some.inj h
    exact js_zret hM.1 hp hM.2.2.2.2.2.2.2.1 g8 (by rw [hM.2.2.2.2.2.1]; exact Nat.le_of_ble_eq_true rfl) (by rw [hM.2.2.2.2.2.2.1]; exact Nat.le_of_ble_eq_true rfl) (jat hM.2.1 9 rfl) hq
theorem m_X6_took_4 (V : jV) (hV : V.1.stackTraces = false) (N : Nat) (G : Nat → Nat → Int32) (J : Nat → Nat → Int64) (v : Int32 × (Nat → Nat → Int32)) (h : p_X6_took_4 N G J = some v) : jMet V yX6_took (jws yX6_took cX6_took 3 (some .boolean)) ⟨5, 0, 0, 131⟩ true 1 [.ref 0, .ref 1000004] (hMo G J) (fun o ν => o = some (.int v.1) ∧ ν = (hMo v.2 J)) (fun _ _ => False) := by
  refine jmk (tb := tbX6) (C := kX6_took) hV rfl (by decide) tbX6_ok rfl kX6_took_ok rfl ?_
  intro X hM _ hp _
  exact t_X6_took_4 hM hp N G J h ⟨rfl, rfl⟩
def p_X6_took_5 (N : Nat) (G : Nat → Nat → Int32) (J : Nat → Nat → Int64) : Option (Int32 × (Nat → Nat → Int32)) :=
  (p_X6_isWord_5 N G J).bind (fun v2 => if v2 = 0 then (if jz v2 = true then some (v2, G) else none) else ((p_X6_reads N G J).bind (fun v5 => jlt v5 fun G6 => if jz v2 = true then some (v2, G6) else none)))
set_option maxHeartbeats 4000000 in
set_option maxRecDepth 100000 in
theorem t_X6_took_5 {X : jX} {po : Option Value → jH → Prop} {px : String → jH → Prop} {sf : Bool} {B9 : Nat} (hM : jMX X kX6_took RX6 tbX6 3 ⟨5, 0, 0, 131⟩ (some .boolean) 16) (hp : jPost X sf B9 po px) (N : Nat) (G : Nat → Nat → Int32) (J : Nat → Nat → Int64) {res : Int32 × (Nat → Nat → Int32)} (h : p_X6_took_5 N G J = some res) (hq : po (some (.int res.1)) (hMo res.2 J)) : JW X 0 0 0 [some (.ref 0), some (.ref 1000005), none] [] (hMo G J) := by
  unfold p_X6_took_5 at h
  refine JW.r hM 0 2 (pc2 := 2) (L2 := [some (.ref 0), some (.ref 1000005), none]) (st2 := [.ref 1000005, .ref 0]) (μ2 := (hMo G J)) rfl trivial ?_
  obtain ⟨v2, hv1, h⟩ := jbd h
  refine JW.cV (v := some (.int v2)) hM (m_X6_isWord_5 (jVX X) hM.1.2.2.2.2.2.2.2.2.2.1 N G J v2 hv1) (sb_Mo_Mo_0 G J) (bi_Mo_Mo_0 G J) rfl rfl rfl kc_X6_111 rfl rfl rfl rfl rfl (jat hM.2.1 2 rfl) (st := []) rfl ?_
  show JW X 0 0 5 [some (.ref 0), some (.ref 1000005), none] [.int v2] (hMo G J)
  refine JW.r hM 3 2 (pc2 := 7) (L2 := [some (.ref 0), some (.ref 1000005), some (.int v2)]) (st2 := [.int v2]) (μ2 := (hMo G J)) rfl trivial ?_
  refine js_ifeq (t := 14) hM.1 (jat hM.2.1 5 rfl) rfl (fun hc9 => ?_) (fun hc9 => ?_)
  · have h := (if_pos hc9).symm.trans h
    refine JW.r hM 8 1 (pc2 := 15) (L2 := [some (.ref 0), some (.ref 1000005), some (.int v2)]) (st2 := [.int v2]) (μ2 := (hMo G J)) rfl trivial ?_
    obtain ⟨g3, h⟩ := jg h
    obtain rfl := Option.some.inj h
    exact js_zret hM.1 hp hM.2.2.2.2.2.2.2.1 g3 (by rw [hM.2.2.2.2.2.1]; exact Nat.le_of_ble_eq_true rfl) (by rw [hM.2.2.2.2.2.2.1]; exact Nat.le_of_ble_eq_true rfl) (jat hM.2.1 9 rfl) hq
  · have h := (if_neg hc9).symm.trans h
    refine JW.r hM 6 1 (pc2 := 11) (L2 := [some (.ref 0), some (.ref 1000005), some (.int v2)]) (st2 := [.ref 0]) (μ2 := (hMo G J)) rfl trivial ?_
    obtain ⟨v5, hv4, h⟩ := jbd h
    refine JW.cV (v := none) hM (m_X6_reads (jVX X) hM.1.2.2.2.2.2.2.2.2.2.1 N G J v5 hv4) (sb_Mo_Mo_0 G J) (bk_Mo_Mo_0 G J v5 J) rfl rfl rfl kc_X6_115 rfl rfl rfl rfl rfl (jat hM.2.1 7 rfl) (st := []) rfl ?_
    show JW X 0 0 14 [some (.ref 0), some (.ref 1000005), some (.int v2)] [] (hMo v5 J)
    obtain ⟨G6, e7, h⟩ := jlE h
    rw [e7]
    refine JW.r hM 8 1 (pc2 := 15) (L2 := [some (.ref 0), some (.ref 1000005), some (.int v2)]) (st2 := [.int v2]) (μ2 := (hMo G6 J)) rfl trivial ?_
    obtain ⟨g8, h⟩ := jg h
    obtain rfl := Option.some.inj h
    exact js_zret hM.1 hp hM.2.2.2.2.2.2.2.1 g8 (by rw [hM.2.2.2.2.2.1]; exact Nat.le_of_ble_eq_true rfl) (by rw [hM.2.2.2.2.2.2.1]; exact Nat.le_of_ble_eq_true rfl) (jat hM.2.1 9 rfl) hq
theorem m_X6_took_5 (V : jV) (hV : V.1.stackTraces = false) (N : Nat) (G : Nat → Nat → Int32) (J : Nat → Nat → Int64) (v : Int32 × (Nat → Nat → Int32)) (h : p_X6_took_5 N G J = some v) : jMet V yX6_took (jws yX6_took cX6_took 3 (some .boolean)) ⟨5, 0, 0, 131⟩ true 1 [.ref 0, .ref 1000005] (hMo G J) (fun o ν => o = some (.int v.1) ∧ ν = (hMo v.2 J)) (fun _ _ => False) := by
  refine jmk (tb := tbX6) (C := kX6_took) hV rfl (by decide) tbX6_ok rfl kX6_took_ok rfl ?_
  intro X hM _ hp _
  exact t_X6_took_5 hM hp N G J h ⟨rfl, rfl⟩
def p_X6_took_6 (N : Nat) (G : Nat → Nat → Int32) (J : Nat → Nat → Int64) : Option (Int32 × (Nat → Nat → Int32)) :=
  (p_X6_isWord_6 N G J).bind (fun v2 => if v2 = 0 then (if jz v2 = true then some (v2, G) else none) else ((p_X6_reads N G J).bind (fun v5 => jlt v5 fun G6 => if jz v2 = true then some (v2, G6) else none)))
set_option maxHeartbeats 4000000 in
set_option maxRecDepth 100000 in
theorem t_X6_took_6 {X : jX} {po : Option Value → jH → Prop} {px : String → jH → Prop} {sf : Bool} {B9 : Nat} (hM : jMX X kX6_took RX6 tbX6 3 ⟨5, 0, 0, 131⟩ (some .boolean) 16) (hp : jPost X sf B9 po px) (N : Nat) (G : Nat → Nat → Int32) (J : Nat → Nat → Int64) {res : Int32 × (Nat → Nat → Int32)} (h : p_X6_took_6 N G J = some res) (hq : po (some (.int res.1)) (hMo res.2 J)) : JW X 0 0 0 [some (.ref 0), some (.ref 1000006), none] [] (hMo G J) := by
  unfold p_X6_took_6 at h
  refine JW.r hM 0 2 (pc2 := 2) (L2 := [some (.ref 0), some (.ref 1000006), none]) (st2 := [.ref 1000006, .ref 0]) (μ2 := (hMo G J)) rfl trivial ?_
  obtain ⟨v2, hv1, h⟩ := jbd h
  refine JW.cV (v := some (.int v2)) hM (m_X6_isWord_6 (jVX X) hM.1.2.2.2.2.2.2.2.2.2.1 N G J v2 hv1) (sb_Mo_Mo_0 G J) (bi_Mo_Mo_0 G J) rfl rfl rfl kc_X6_111 rfl rfl rfl rfl rfl (jat hM.2.1 2 rfl) (st := []) rfl ?_
  show JW X 0 0 5 [some (.ref 0), some (.ref 1000006), none] [.int v2] (hMo G J)
  refine JW.r hM 3 2 (pc2 := 7) (L2 := [some (.ref 0), some (.ref 1000006), some (.int v2)]) (st2 := [.int v2]) (μ2 := (hMo G J)) rfl trivial ?_
  refine js_ifeq (t := 14) hM.1 (jat hM.2.1 5 rfl) rfl (fun hc9 => ?_) (fun hc9 => ?_)
  · have h := (if_pos hc9).symm.trans h
    refine JW.r hM 8 1 (pc2 := 15) (L2 := [some (.ref 0), some (.ref 1000006), some (.int v2)]) (st2 := [.int v2]) (μ2 := (hMo G J)) rfl trivial ?_
    obtain ⟨g3, h⟩ := jg h
    obtain rfl := Option.some.inj h
    exact js_zret hM.1 hp hM.2.2.2.2.2.2.2.1 g3 (by rw [hM.2.2.2.2.2.1]; exact Nat.le_of_ble_eq_true rfl) (by rw [hM.2.2.2.2.2.2.1]; exact Nat.le_of_ble_eq_true rfl) (jat hM.2.1 9 rfl) hq
  · have h := (if_neg hc9).symm.trans h
    refine JW.r hM 6 1 (pc2 := 11) (L2 := [some (.ref 0), some (.ref 1000006), some (.int v2)]) (st2 := [.ref 0]) (μ2 := (hMo G J)) rfl trivial ?_
    obtain ⟨v5, hv4, h⟩ := jbd h
    refine JW.cV (v := none) hM (m_X6_reads (jVX X) hM.1.2.2.2.2.2.2.2.2.2.1 N G J v5 hv4) (sb_Mo_Mo_0 G J) (bk_Mo_Mo_0 G J v5 J) rfl rfl rfl kc_X6_115 rfl rfl rfl rfl rfl (jat hM.2.1 7 rfl) (st := []) rfl ?_
    show JW X 0 0 14 [some (.ref 0), some (.ref 1000006), some (.int v2)] [] (hMo v5 J)
    obtain ⟨G6, e7, h⟩ := jlE h
    rw [e7]
    refine JW.r hM 8 1 (pc2 := 15) (L2 := [some (.ref 0), some (.ref 1000006), some (.int v2)]) (st2 := [.int v2]) (μ2 := (hMo G6 J)) rfl trivial ?_
    obtain ⟨g8, h⟩ := jg h
    obtain rfl := Option.some.inj h
    exact js_zret hM.1 hp hM.2.2.2.2.2.2.2.1 g8 (by rw [hM.2.2.2.2.2.1]; exact Nat.le_of_ble_eq_true rfl) (by rw [hM.2.2.2.2.2.2.1]; exact Nat.le_of_ble_eq_true rfl) (jat hM.2.1 9 rfl) hq
theorem m_X6_took_6 (V : jV) (hV : V.1.stackTraces = false) (N : Nat) (G : Nat → Nat → Int32) (J : Nat → Nat → Int64) (v : Int32 × (Nat → Nat → Int32)) (h : p_X6_took_6 N G J = some v) : jMet V yX6_took (jws yX6_took cX6_took 3 (some .boolean)) ⟨5, 0, 0, 131⟩ true 1 [.ref 0, .ref 1000006] (hMo G J) (fun o ν => o = some (.int v.1) ∧ ν = (hMo v.2 J)) (fun _ _ => False) := by
  refine jmk (tb := tbX6) (C := kX6_took) hV rfl (by decide) tbX6_ok rfl kX6_took_ok rfl ?_
  intro X hM _ hp _
  exact t_X6_took_6 hM hp N G J h ⟨rfl, rfl⟩
def p_X6_number_b52 (N : Nat) (J : Nat → Nat → Int64) (G : Nat → Nat → Int32) (x1 : Int32) (x3 : Int32) : Option (Int32 × (Nat → Nat → Int32)) :=
  if (G 0 13) = 0 then (some (x3, G)) else (some (x1, G))
def p_X6_number_b36 (N : Nat) (J : Nat → Nat → Int64) (G : Nat → Nat → Int32) (x1 : Int32) : Option (Int32 × (Nat → Nat → Int32)) :=
  if (G 0 13) = 0 then ((p_X6_reads N G J).bind (fun v5 => jlt v5 fun G6 => if (G6 0 13) = 0 then (some ((G 0 12), G6)) else (some (x1, G6)))) else (p_X6_number_b52 N J G x1 (G 0 12))
def p_X6_number (N : Nat) (G : Nat → Nat → Int32) (J : Nat → Nat → Int64) (p0 : Int32) (p1 : Int32) : Option (Int32 × (Nat → Nat → Int32)) :=
  if (G 0 11) = (2 : Int32) then ((p_X6_within N ((G 0 12).toInt64) (p0.toInt64) (p1.toInt64)).bind (fun v2 => if v2 = 0 then ((p_X6_blames N G J (3 : Int32)).bind (fun v11 => jlt v11 fun G12 => if (G12 0 13) = 0 then ((p_X6_reads N G12 J).bind (fun v15 => jlt v15 fun G16 => if (G16 0 13) = 0 then (some ((G12 0 12), G16)) else (some (p0, G16)))) else (p_X6_number_b52 N J G12 p0 (G12 0 12)))) else (p_X6_number_b36 N J G p0))) else ((p_X6_blames N G J (2 : Int32)).bind (fun v22 => jlt v22 fun G23 => p_X6_number_b36 N J G23 p0))
set_option maxHeartbeats 4000000 in
set_option maxRecDepth 100000 in
theorem t_X6_number_b52 {X : jX} {po : Option Value → jH → Prop} {px : String → jH → Prop} {sf : Bool} {B9 : Nat} (hM : jMX X kX6_number RX6 tbX6 4 ⟨2, 0, 0, 42⟩ (some .int) 16) (hp : jPost X sf B9 po px) (N : Nat) (J : Nat → Nat → Int64) {res : Int32 × (Nat → Nat → Int32)} (G : Nat → Nat → Int32) (x1 : Int32) (x3 : Int32) (h : p_X6_number_b52 N J G x1 x3 = some res) (hq : po (some (.int res.1)) (hMo res.2 J)) : JW X 0 0 52 [some (.ref 0), some (.int x1), none, some (.int x3)] [] (hMo G J) := by
  unfold p_X6_number_b52 at h
  refine JW.r hM 28 2 (pc2 := 56) (L2 := [some (.ref 0), some (.int x1), none, some (.int x3)]) (st2 := [.int (G 0 13)]) (μ2 := (hMo G J)) rfl trivial ?_
  refine js_ifne (t := 63) hM.1 (jat hM.2.1 30 rfl) rfl (fun hc3 => ?_) (fun hc3 => ?_)
  · have h := (if_neg hc3).symm.trans h
    refine JW.r hM 33 1 (pc2 := 64) (L2 := [some (.ref 0), some (.int x1), none, some (.int x3)]) (st2 := [.int x1]) (μ2 := (hMo G J)) rfl trivial ?_
    obtain rfl := Option.some.inj h
    exact js_iret hM.1 hp hM.2.2.2.2.2.2.2.1 (by rw [hM.2.2.2.2.2.1]; exact Nat.le_of_ble_eq_true rfl) (by rw [hM.2.2.2.2.2.2.1]; exact Nat.le_of_ble_eq_true rfl) (jat hM.2.1 34 rfl) hq
  · have h := (if_pos hc3).symm.trans h
    refine JW.r hM 31 2 (pc2 := 64) (L2 := [some (.ref 0), some (.int x1), none, some (.int x3)]) (st2 := [.int x3]) (μ2 := (hMo G J)) rfl trivial ?_
    obtain rfl := Option.some.inj h
    exact js_iret hM.1 hp hM.2.2.2.2.2.2.2.1 (by rw [hM.2.2.2.2.2.1]; exact Nat.le_of_ble_eq_true rfl) (by rw [hM.2.2.2.2.2.2.1]; exact Nat.le_of_ble_eq_true rfl) (jat hM.2.1 34 rfl) hq
set_option maxHeartbeats 4000000 in
set_option maxRecDepth 100000 in
theorem t_X6_number_b36 {X : jX} {po : Option Value → jH → Prop} {px : String → jH → Prop} {sf : Bool} {B9 : Nat} (hM : jMX X kX6_number RX6 tbX6 4 ⟨2, 0, 0, 42⟩ (some .int) 16) (hp : jPost X sf B9 po px) (N : Nat) (J : Nat → Nat → Int64) {res : Int32 × (Nat → Nat → Int32)} (G : Nat → Nat → Int32) (x1 : Int32) (h : p_X6_number_b36 N J G x1 = some res) (hq : po (some (.int res.1)) (hMo res.2 J)) : JW X 0 0 36 [some (.ref 0), some (.int x1), none, none] [] (hMo G J) := by
  unfold p_X6_number_b36 at h
  refine JW.r hM 20 5 (pc2 := 45) (L2 := [some (.ref 0), some (.int x1), none, some (.int (G 0 12))]) (st2 := [.int (G 0 13)]) (μ2 := (hMo G J)) rfl trivial ?_
  refine js_ifne (t := 52) hM.1 (jat hM.2.1 25 rfl) rfl (fun hc9 => ?_) (fun hc9 => ?_)
  · have h := (if_neg hc9).symm.trans h
    exact t_X6_number_b52 hM hp N J G x1 (G 0 12) h hq
  · have h := (if_pos hc9).symm.trans h
    refine JW.r hM 26 1 (pc2 := 49) (L2 := [some (.ref 0), some (.int x1), none, some (.int (G 0 12))]) (st2 := [.ref 0]) (μ2 := (hMo G J)) rfl trivial ?_
    obtain ⟨v5, hv4, h⟩ := jbd h
    refine JW.cV (v := none) hM (m_X6_reads (jVX X) hM.1.2.2.2.2.2.2.2.2.2.1 N G J v5 hv4) (sb_Mo_Mo_0 G J) (bk_Mo_Mo_0 G J v5 J) rfl rfl rfl kc_X6_115 rfl rfl rfl rfl rfl (jat hM.2.1 27 rfl) (st := []) rfl ?_
    show JW X 0 0 52 [some (.ref 0), some (.int x1), none, some (.int (G 0 12))] [] (hMo v5 J)
    obtain ⟨G6, e7, h⟩ := jlE h
    rw [e7]
    refine JW.r hM 28 2 (pc2 := 56) (L2 := [some (.ref 0), some (.int x1), none, some (.int (G 0 12))]) (st2 := [.int (G6 0 13)]) (μ2 := (hMo G6 J)) rfl trivial ?_
    refine js_ifne (t := 63) hM.1 (jat hM.2.1 30 rfl) rfl (fun hc8 => ?_) (fun hc8 => ?_)
    · have h := (if_neg hc8).symm.trans h
      refine JW.r hM 33 1 (pc2 := 64) (L2 := [some (.ref 0), some (.int x1), none, some (.int (G 0 12))]) (st2 := [.int x1]) (μ2 := (hMo G6 J)) rfl trivial ?_
      obtain rfl := Option.some.inj h
      exact js_iret hM.1 hp hM.2.2.2.2.2.2.2.1 (by rw [hM.2.2.2.2.2.1]; exact Nat.le_of_ble_eq_true rfl) (by rw [hM.2.2.2.2.2.2.1]; exact Nat.le_of_ble_eq_true rfl) (jat hM.2.1 34 rfl) hq
    · have h := (if_pos hc8).symm.trans h
      refine JW.r hM 31 2 (pc2 := 64) (L2 := [some (.ref 0), some (.int x1), none, some (.int (G 0 12))]) (st2 := [.int (G 0 12)]) (μ2 := (hMo G6 J)) rfl trivial ?_
      obtain rfl := Option.some.inj h
      exact js_iret hM.1 hp hM.2.2.2.2.2.2.2.1 (by rw [hM.2.2.2.2.2.1]; exact Nat.le_of_ble_eq_true rfl) (by rw [hM.2.2.2.2.2.2.1]; exact Nat.le_of_ble_eq_true rfl) (jat hM.2.1 34 rfl) hq
set_option maxHeartbeats 4000000 in
set_option maxRecDepth 100000 in
theorem t_X6_number {X : jX} {po : Option Value → jH → Prop} {px : String → jH → Prop} {sf : Bool} {B9 : Nat} (hM : jMX X kX6_number RX6 tbX6 4 ⟨2, 0, 0, 42⟩ (some .int) 16) (hp : jPost X sf B9 po px) (N : Nat) (G : Nat → Nat → Int32) (J : Nat → Nat → Int64) (p0 : Int32) (p1 : Int32) {res : Int32 × (Nat → Nat → Int32)} (h : p_X6_number N G J p0 p1 = some res) (hq : po (some (.int res.1)) (hMo res.2 J)) : JW X 0 0 0 [some (.ref 0), some (.int p0), some (.int p1), none] [] (hMo G J) := by
  unfold p_X6_number at h
  refine JW.r hM 0 3 (pc2 := 5) (L2 := [some (.ref 0), some (.int p0), some (.int p1), none]) (st2 := [.int (2 : Int32), .int (G 0 11)]) (μ2 := (hMo G J)) rfl trivial ?_
  refine js_iceq (t := 16) hM.1 (jat hM.2.1 3 rfl) rfl (fun hc25 => ?_) (fun hc25 => ?_)
  · have h := (if_pos hc25).symm.trans h
    refine JW.r hM 8 7 (pc2 := 25) (L2 := [some (.ref 0), some (.int p0), some (.int p1), none]) (st2 := [.long (p1.toInt64), .long (p0.toInt64), .long ((G 0 12).toInt64)]) (μ2 := (hMo G J)) rfl trivial ?_
    obtain ⟨v2, hv1, h⟩ := jbd h
    refine JW.cS (v := some (.int v2)) hM (m_X6_within (jVX X) hM.1.2.2.2.2.2.2.2.2.2.1 N ((G 0 12).toInt64) (p0.toInt64) (p1.toInt64) v2 hv1) (sb_Mo_E_ G J) (bi_Mo_E_ G J) rfl rfl rfl kc_X6_122 rfl rfl rfl (jat hM.2.1 15 rfl) (st := []) rfl ?_
    show JW X 0 0 28 [some (.ref 0), some (.int p0), some (.int p1), none] [.int v2] (hMo G J)
    refine js_ifne (t := 36) hM.1 (jat hM.2.1 16 rfl) rfl (fun hc20 => ?_) (fun hc20 => ?_)
    · have h := (if_neg hc20).symm.trans h
      exact JW.mask [true, true, false, false] (t_X6_number_b36 hM hp N J G p0 h hq)
    · have h := (if_pos hc20).symm.trans h
      refine JW.r hM 17 2 (pc2 := 33) (L2 := [some (.ref 0), some (.int p0), some (.int p1), none]) (st2 := [.int (3 : Int32), .ref 0]) (μ2 := (hMo G J)) rfl trivial ?_
      obtain ⟨v11, hv10, h⟩ := jbd h
      refine JW.cV (v := none) hM (m_X6_blames (jVX X) hM.1.2.2.2.2.2.2.2.2.2.1 N G J (3 : Int32) v11 hv10) (sb_Mo_Mo_0 G J) (bk_Mo_Mo_0 G J v11 J) rfl rfl rfl kc_X6_118 rfl rfl rfl rfl rfl (jat hM.2.1 19 rfl) (st := []) rfl ?_
      show JW X 0 0 36 [some (.ref 0), some (.int p0), some (.int p1), none] [] (hMo v11 J)
      obtain ⟨G12, e13, h⟩ := jlE h
      rw [e13]
      refine JW.r hM 20 5 (pc2 := 45) (L2 := [some (.ref 0), some (.int p0), some (.int p1), some (.int (G12 0 12))]) (st2 := [.int (G12 0 13)]) (μ2 := (hMo G12 J)) rfl trivial ?_
      refine js_ifne (t := 52) hM.1 (jat hM.2.1 25 rfl) rfl (fun hc19 => ?_) (fun hc19 => ?_)
      · have h := (if_neg hc19).symm.trans h
        exact JW.mask [true, true, false, true] (t_X6_number_b52 hM hp N J G12 p0 (G12 0 12) h hq)
      · have h := (if_pos hc19).symm.trans h
        refine JW.r hM 26 1 (pc2 := 49) (L2 := [some (.ref 0), some (.int p0), some (.int p1), some (.int (G12 0 12))]) (st2 := [.ref 0]) (μ2 := (hMo G12 J)) rfl trivial ?_
        obtain ⟨v15, hv14, h⟩ := jbd h
        refine JW.cV (v := none) hM (m_X6_reads (jVX X) hM.1.2.2.2.2.2.2.2.2.2.1 N G12 J v15 hv14) (sb_Mo_Mo_0 G12 J) (bk_Mo_Mo_0 G12 J v15 J) rfl rfl rfl kc_X6_115 rfl rfl rfl rfl rfl (jat hM.2.1 27 rfl) (st := []) rfl ?_
        show JW X 0 0 52 [some (.ref 0), some (.int p0), some (.int p1), some (.int (G12 0 12))] [] (hMo v15 J)
        obtain ⟨G16, e17, h⟩ := jlE h
        rw [e17]
        refine JW.r hM 28 2 (pc2 := 56) (L2 := [some (.ref 0), some (.int p0), some (.int p1), some (.int (G12 0 12))]) (st2 := [.int (G16 0 13)]) (μ2 := (hMo G16 J)) rfl trivial ?_
        refine js_ifne (t := 63) hM.1 (jat hM.2.1 30 rfl) rfl (fun hc18 => ?_) (fun hc18 => ?_)
        · have h := (if_neg hc18).symm.trans h
          refine JW.r hM 33 1 (pc2 := 64) (L2 := [some (.ref 0), some (.int p0), some (.int p1), some (.int (G12 0 12))]) (st2 := [.int p0]) (μ2 := (hMo G16 J)) rfl trivial ?_
          obtain rfl := Option.some.inj h
          exact js_iret hM.1 hp hM.2.2.2.2.2.2.2.1 (by rw [hM.2.2.2.2.2.1]; exact Nat.le_of_ble_eq_true rfl) (by rw [hM.2.2.2.2.2.2.1]; exact Nat.le_of_ble_eq_true rfl) (jat hM.2.1 34 rfl) hq
        · have h := (if_pos hc18).symm.trans h
          refine JW.r hM 31 2 (pc2 := 64) (L2 := [some (.ref 0), some (.int p0), some (.int p1), some (.int (G12 0 12))]) (st2 := [.int (G12 0 12)]) (μ2 := (hMo G16 J)) rfl trivial ?_
          obtain rfl := Option.some.inj h
          exact js_iret hM.1 hp hM.2.2.2.2.2.2.2.1 (by rw [hM.2.2.2.2.2.1]; exact Nat.le_of_ble_eq_true rfl) (by rw [hM.2.2.2.2.2.2.1]; exact Nat.le_of_ble_eq_true rfl) (jat hM.2.1 34 rfl) hq
  · have h := (if_neg hc25).symm.trans h
    refine JW.r hM 4 2 (pc2 := 10) (L2 := [some (.ref 0), some (.int p0), some (.int p1), none]) (st2 := [.int (2 : Int32), .ref 0]) (μ2 := (hMo G J)) rfl trivial ?_
    obtain ⟨v22, hv21, h⟩ := jbd h
    refine JW.cV (v := none) hM (m_X6_blames (jVX X) hM.1.2.2.2.2.2.2.2.2.2.1 N G J (2 : Int32) v22 hv21) (sb_Mo_Mo_0 G J) (bk_Mo_Mo_0 G J v22 J) rfl rfl rfl kc_X6_118 rfl rfl rfl rfl rfl (jat hM.2.1 6 rfl) (st := []) rfl ?_
    show JW X 0 0 13 [some (.ref 0), some (.int p0), some (.int p1), none] [] (hMo v22 J)
    obtain ⟨G23, e24, h⟩ := jlE h
    rw [e24]
    refine JW.r hM 7 1 (pc2 := 36) (L2 := [some (.ref 0), some (.int p0), some (.int p1), none]) (st2 := []) (μ2 := (hMo G23 J)) rfl trivial ?_
    exact JW.mask [true, true, false, false] (t_X6_number_b36 hM hp N J G23 p0 h hq)
theorem m_X6_number (V : jV) (hV : V.1.stackTraces = false) (N : Nat) (G : Nat → Nat → Int32) (J : Nat → Nat → Int64) (p0 : Int32) (p1 : Int32) (v : Int32 × (Nat → Nat → Int32)) (h : p_X6_number N G J p0 p1 = some v) : jMet V yX6_number (jws yX6_number cX6_number 4 (some .int)) ⟨2, 0, 0, 42⟩ true 1 [.ref 0, .int p0, .int p1] (hMo G J) (fun o ν => o = some (.int v.1) ∧ ν = (hMo v.2 J)) (fun _ _ => False) := by
  refine jmk (tb := tbX6) (C := kX6_number) hV rfl (by decide) tbX6_ok rfl kX6_number_ok rfl ?_
  intro X hM _ hp _
  exact t_X6_number hM hp N G J p0 p1 h ⟨rfl, rfl⟩
def p_X6_personTold (N : Nat) (G : Nat → Nat → Int32) (J : Nat → Nat → Int64) : Option (Int32 × (Nat → Nat → Int32)) :=
  (p_X6_number N G J (0 : Int32) ((G 2 1) - (1 : Int32))).bind (fun v2 => jlt v2.2 fun G3 => some (v2.1, G3))
set_option maxHeartbeats 4000000 in
set_option maxRecDepth 100000 in
theorem t_X6_personTold {X : jX} {po : Option Value → jH → Prop} {px : String → jH → Prop} {sf : Bool} {B9 : Nat} (hM : jMX X kX6_personTold RX6 tbX6 1 ⟨3, 0, 0, 65⟩ (some .int) 16) (hp : jPost X sf B9 po px) (N : Nat) (G : Nat → Nat → Int32) (J : Nat → Nat → Int64) {res : Int32 × (Nat → Nat → Int32)} (h : p_X6_personTold N G J = some res) (hq : po (some (.int res.1)) (hMo res.2 J)) : JW X 0 0 0 [some (.ref 0)] [] (hMo G J) := by
  unfold p_X6_personTold at h
  refine JW.r hM 0 8 (pc2 := 10) (L2 := [some (.ref 0)]) (st2 := [.int ((G 2 1) - (1 : Int32)), .int (0 : Int32), .ref 0]) (μ2 := (hMo G J)) rfl ⟨rfl, trivial⟩ ?_
  obtain ⟨v2, hv1, h⟩ := jbd h
  refine JW.cV (v := some (.int v2.1)) hM (m_X6_number (jVX X) hM.1.2.2.2.2.2.2.2.2.2.1 N G J (0 : Int32) ((G 2 1) - (1 : Int32)) v2 hv1) (sb_Mo_Mo_0 G J) (bk_Mo_Mo_0 G J v2.2 J) rfl rfl rfl kc_X6_126 rfl rfl rfl rfl rfl (jat hM.2.1 8 rfl) (st := []) rfl ?_
  show JW X 0 0 13 [some (.ref 0)] [.int v2.1] (hMo v2.2 J)
  obtain ⟨G3, e4, h⟩ := jlE h
  rw [e4]
  obtain rfl := Option.some.inj h
  exact js_iret hM.1 hp hM.2.2.2.2.2.2.2.1 (by rw [hM.2.2.2.2.2.1]; exact Nat.le_of_ble_eq_true rfl) (by rw [hM.2.2.2.2.2.2.1]; exact Nat.le_of_ble_eq_true rfl) (jat hM.2.1 9 rfl) hq
theorem m_X6_personTold (V : jV) (hV : V.1.stackTraces = false) (N : Nat) (G : Nat → Nat → Int32) (J : Nat → Nat → Int64) (v : Int32 × (Nat → Nat → Int32)) (h : p_X6_personTold N G J = some v) : jMet V yX6_personTold (jws yX6_personTold cX6_personTold 1 (some .int)) ⟨3, 0, 0, 65⟩ true 1 [.ref 0] (hMo G J) (fun o ν => o = some (.int v.1) ∧ ν = (hMo v.2 J)) (fun _ _ => False) := by
  refine jmk (tb := tbX6) (C := kX6_personTold) hV rfl (by decide) tbX6_ok rfl kX6_personTold_ok rfl ?_
  intro X hM _ hp _
  exact t_X6_personTold hM hp N G J h ⟨rfl, rfl⟩
def p_X6_thingTold (N : Nat) (G : Nat → Nat → Int32) (J : Nat → Nat → Int64) : Option (Int32 × (Nat → Nat → Int32)) :=
  (p_X6_number N G J (0 : Int32) ((G 2 2) - (1 : Int32))).bind (fun v2 => jlt v2.2 fun G3 => some (v2.1, G3))
set_option maxHeartbeats 4000000 in
set_option maxRecDepth 100000 in
theorem t_X6_thingTold {X : jX} {po : Option Value → jH → Prop} {px : String → jH → Prop} {sf : Bool} {B9 : Nat} (hM : jMX X kX6_thingTold RX6 tbX6 1 ⟨3, 0, 0, 65⟩ (some .int) 16) (hp : jPost X sf B9 po px) (N : Nat) (G : Nat → Nat → Int32) (J : Nat → Nat → Int64) {res : Int32 × (Nat → Nat → Int32)} (h : p_X6_thingTold N G J = some res) (hq : po (some (.int res.1)) (hMo res.2 J)) : JW X 0 0 0 [some (.ref 0)] [] (hMo G J) := by
  unfold p_X6_thingTold at h
  refine JW.r hM 0 8 (pc2 := 10) (L2 := [some (.ref 0)]) (st2 := [.int ((G 2 2) - (1 : Int32)), .int (0 : Int32), .ref 0]) (μ2 := (hMo G J)) rfl ⟨rfl, trivial⟩ ?_
  obtain ⟨v2, hv1, h⟩ := jbd h
  refine JW.cV (v := some (.int v2.1)) hM (m_X6_number (jVX X) hM.1.2.2.2.2.2.2.2.2.2.1 N G J (0 : Int32) ((G 2 2) - (1 : Int32)) v2 hv1) (sb_Mo_Mo_0 G J) (bk_Mo_Mo_0 G J v2.2 J) rfl rfl rfl kc_X6_126 rfl rfl rfl rfl rfl (jat hM.2.1 8 rfl) (st := []) rfl ?_
  show JW X 0 0 13 [some (.ref 0)] [.int v2.1] (hMo v2.2 J)
  obtain ⟨G3, e4, h⟩ := jlE h
  rw [e4]
  obtain rfl := Option.some.inj h
  exact js_iret hM.1 hp hM.2.2.2.2.2.2.2.1 (by rw [hM.2.2.2.2.2.1]; exact Nat.le_of_ble_eq_true rfl) (by rw [hM.2.2.2.2.2.2.1]; exact Nat.le_of_ble_eq_true rfl) (jat hM.2.1 9 rfl) hq
theorem m_X6_thingTold (V : jV) (hV : V.1.stackTraces = false) (N : Nat) (G : Nat → Nat → Int32) (J : Nat → Nat → Int64) (v : Int32 × (Nat → Nat → Int32)) (h : p_X6_thingTold N G J = some v) : jMet V yX6_thingTold (jws yX6_thingTold cX6_thingTold 1 (some .int)) ⟨3, 0, 0, 65⟩ true 1 [.ref 0] (hMo G J) (fun o ν => o = some (.int v.1) ∧ ν = (hMo v.2 J)) (fun _ _ => False) := by
  refine jmk (tb := tbX6) (C := kX6_thingTold) hV rfl (by decide) tbX6_ok rfl kX6_thingTold_ok rfl ?_
  intro X hM _ hp _
  exact t_X6_thingTold hM hp N G J h ⟨rfl, rfl⟩
def p_X6_readPeople_b14 (N : Nat) (J : Nat → Nat → Int64) (G : Nat → Nat → Int32) : Option ((Nat → Nat → Int32)) :=
  if (G 0 13) = 0 then ((p_X6_reads N G J).bind (fun v2 => jlt v2 fun G3 => (p_X6_number N G3 J (1 : Int32) (6 : Int32)).bind (fun v6 => jlt v6.2 fun G7 => jlt (jup G7 2 1 v6.1) fun G9 => if (G9 0 13) = 0 then (some G9) else (jlt (jup G9 2 1 (0 : Int32)) fun G11 => some G11)))) else (some G)
def p_X6_readPeople (N : Nat) (G : Nat → Nat → Int32) (J : Nat → Nat → Int64) : Option ((Nat → Nat → Int32)) :=
  if (G 2 1) ≤ 0 then (p_X6_readPeople_b14 N J G) else ((p_X6_blames N G J (4 : Int32)).bind (fun v16 => jlt v16 fun G17 => if (G17 0 13) = 0 then ((p_X6_reads N G17 J).bind (fun v20 => jlt v20 fun G21 => (p_X6_number N G21 J (1 : Int32) (6 : Int32)).bind (fun v24 => jlt v24.2 fun G25 => jlt (jup G25 2 1 v24.1) fun G27 => if (G27 0 13) = 0 then (some G27) else (jlt (jup G27 2 1 (0 : Int32)) fun G29 => some G29)))) else (some G17)))
set_option maxHeartbeats 4000000 in
set_option maxRecDepth 100000 in
theorem t_X6_readPeople_b14 {X : jX} {po : Option Value → jH → Prop} {px : String → jH → Prop} {sf : Bool} {B9 : Nat} (hM : jMX X kX6_readPeople RX6 tbX6 1 ⟨3, 0, 0, 65⟩ none 16) (hp : jPost X sf B9 po px) (N : Nat) (J : Nat → Nat → Int64) {res : (Nat → Nat → Int32)} (G : Nat → Nat → Int32) (h : p_X6_readPeople_b14 N J G = some res) (hq : po none (hMo res J)) : JW X 0 0 14 [some (.ref 0)] [] (hMo G J) := by
  unfold p_X6_readPeople_b14 at h
  refine JW.r hM 8 2 (pc2 := 18) (L2 := [some (.ref 0)]) (st2 := [.int (G 0 13)]) (μ2 := (hMo G J)) rfl trivial ?_
  refine js_ifeq (t := 22) hM.1 (jat hM.2.1 10 rfl) rfl (fun hc14 => ?_) (fun hc14 => ?_)
  · have h := (if_pos hc14).symm.trans h
    refine JW.r hM 12 1 (pc2 := 23) (L2 := [some (.ref 0)]) (st2 := [.ref 0]) (μ2 := (hMo G J)) rfl trivial ?_
    obtain ⟨v2, hv1, h⟩ := jbd h
    refine JW.cV (v := none) hM (m_X6_reads (jVX X) hM.1.2.2.2.2.2.2.2.2.2.1 N G J v2 hv1) (sb_Mo_Mo_0 G J) (bk_Mo_Mo_0 G J v2 J) rfl rfl rfl kc_X6_115 rfl rfl rfl rfl rfl (jat hM.2.1 13 rfl) (st := []) rfl ?_
    show JW X 0 0 26 [some (.ref 0)] [] (hMo v2 J)
    obtain ⟨G3, e4, h⟩ := jlE h
    rw [e4]
    refine JW.r hM 14 6 (pc2 := 35) (L2 := [some (.ref 0)]) (st2 := [.int (6 : Int32), .int (1 : Int32), .ref 0, .int (1 : Int32), .ref 2]) (μ2 := (hMo G3 J)) rfl trivial ?_
    obtain ⟨v6, hv5, h⟩ := jbd h
    refine JW.cV (v := some (.int v6.1)) hM (m_X6_number (jVX X) hM.1.2.2.2.2.2.2.2.2.2.1 N G3 J (1 : Int32) (6 : Int32) v6 hv5) (sb_Mo_Mo_0 G3 J) (bk_Mo_Mo_0 G3 J v6.2 J) rfl rfl rfl kc_X6_126 rfl rfl rfl rfl rfl (jat hM.2.1 20 rfl) (st := [.int (1 : Int32), .ref 2]) rfl ?_
    show JW X 0 0 38 [some (.ref 0)] [.int v6.1, .int (1 : Int32), .ref 2] (hMo v6.2 J)
    obtain ⟨G7, e8, h⟩ := jlE h
    rw [e8]
    obtain ⟨G9, e10, h⟩ := jlE h
    refine JW.r hM 21 1 (pc2 := 39) (L2 := [some (.ref 0)]) (st2 := []) (μ2 := (hMo (jup G7 2 1 v6.1) J)) rfl ⟨rfl, trivial⟩ ?_
    rw [e10]
    refine JW.r hM 22 2 (pc2 := 43) (L2 := [some (.ref 0)]) (st2 := [.int (G9 0 13)]) (μ2 := (hMo G9 J)) rfl trivial ?_
    refine js_ifeq (t := 53) hM.1 (jat hM.2.1 24 rfl) rfl (fun hc13 => ?_) (fun hc13 => ?_)
    · have h := (if_pos hc13).symm.trans h
      obtain rfl := Option.some.inj h
      exact js_vret hM.1 hp hM.2.2.2.2.2.2.2.1 (by rw [hM.2.2.2.2.2.1]; exact Nat.le_of_ble_eq_true rfl) (by rw [hM.2.2.2.2.2.2.1]; exact Nat.le_of_ble_eq_true rfl) (jat hM.2.1 30 rfl) hq
    · have h := (if_neg hc13).symm.trans h
      obtain ⟨G11, e12, h⟩ := jlE h
      refine JW.r hM 25 5 (pc2 := 53) (L2 := [some (.ref 0)]) (st2 := []) (μ2 := (hMo (jup G9 2 1 (0 : Int32)) J)) rfl ⟨rfl, trivial⟩ ?_
      rw [e12]
      obtain rfl := Option.some.inj h
      exact js_vret hM.1 hp hM.2.2.2.2.2.2.2.1 (by rw [hM.2.2.2.2.2.1]; exact Nat.le_of_ble_eq_true rfl) (by rw [hM.2.2.2.2.2.2.1]; exact Nat.le_of_ble_eq_true rfl) (jat hM.2.1 30 rfl) hq
  · have h := (if_neg hc14).symm.trans h
    obtain rfl := Option.some.inj h
    exact js_vret hM.1 hp hM.2.2.2.2.2.2.2.1 (by rw [hM.2.2.2.2.2.1]; exact Nat.le_of_ble_eq_true rfl) (by rw [hM.2.2.2.2.2.2.1]; exact Nat.le_of_ble_eq_true rfl) (jat hM.2.1 11 rfl) hq
set_option maxHeartbeats 4000000 in
set_option maxRecDepth 100000 in
theorem t_X6_readPeople {X : jX} {po : Option Value → jH → Prop} {px : String → jH → Prop} {sf : Bool} {B9 : Nat} (hM : jMX X kX6_readPeople RX6 tbX6 1 ⟨3, 0, 0, 65⟩ none 16) (hp : jPost X sf B9 po px) (N : Nat) (G : Nat → Nat → Int32) (J : Nat → Nat → Int64) {res : (Nat → Nat → Int32)} (h : p_X6_readPeople N G J = some res) (hq : po none (hMo res J)) : JW X 0 0 0 [some (.ref 0)] [] (hMo G J) := by
  unfold p_X6_readPeople at h
  refine JW.r hM 0 4 (pc2 := 6) (L2 := [some (.ref 0)]) (st2 := [.int (G 2 1)]) (μ2 := (hMo G J)) rfl ⟨rfl, trivial⟩ ?_
  refine js_ifle (t := 14) hM.1 (jat hM.2.1 4 rfl) rfl (fun hc33 => ?_) (fun hc33 => ?_)
  · have h := (if_pos hc33).symm.trans h
    exact t_X6_readPeople_b14 hM hp N J G h hq
  · have h := (if_neg hc33).symm.trans h
    refine JW.r hM 5 2 (pc2 := 11) (L2 := [some (.ref 0)]) (st2 := [.int (4 : Int32), .ref 0]) (μ2 := (hMo G J)) rfl trivial ?_
    obtain ⟨v16, hv15, h⟩ := jbd h
    refine JW.cV (v := none) hM (m_X6_blames (jVX X) hM.1.2.2.2.2.2.2.2.2.2.1 N G J (4 : Int32) v16 hv15) (sb_Mo_Mo_0 G J) (bk_Mo_Mo_0 G J v16 J) rfl rfl rfl kc_X6_118 rfl rfl rfl rfl rfl (jat hM.2.1 7 rfl) (st := []) rfl ?_
    show JW X 0 0 14 [some (.ref 0)] [] (hMo v16 J)
    obtain ⟨G17, e18, h⟩ := jlE h
    rw [e18]
    refine JW.r hM 8 2 (pc2 := 18) (L2 := [some (.ref 0)]) (st2 := [.int (G17 0 13)]) (μ2 := (hMo G17 J)) rfl trivial ?_
    refine js_ifeq (t := 22) hM.1 (jat hM.2.1 10 rfl) rfl (fun hc32 => ?_) (fun hc32 => ?_)
    · have h := (if_pos hc32).symm.trans h
      refine JW.r hM 12 1 (pc2 := 23) (L2 := [some (.ref 0)]) (st2 := [.ref 0]) (μ2 := (hMo G17 J)) rfl trivial ?_
      obtain ⟨v20, hv19, h⟩ := jbd h
      refine JW.cV (v := none) hM (m_X6_reads (jVX X) hM.1.2.2.2.2.2.2.2.2.2.1 N G17 J v20 hv19) (sb_Mo_Mo_0 G17 J) (bk_Mo_Mo_0 G17 J v20 J) rfl rfl rfl kc_X6_115 rfl rfl rfl rfl rfl (jat hM.2.1 13 rfl) (st := []) rfl ?_
      show JW X 0 0 26 [some (.ref 0)] [] (hMo v20 J)
      obtain ⟨G21, e22, h⟩ := jlE h
      rw [e22]
      refine JW.r hM 14 6 (pc2 := 35) (L2 := [some (.ref 0)]) (st2 := [.int (6 : Int32), .int (1 : Int32), .ref 0, .int (1 : Int32), .ref 2]) (μ2 := (hMo G21 J)) rfl trivial ?_
      obtain ⟨v24, hv23, h⟩ := jbd h
      refine JW.cV (v := some (.int v24.1)) hM (m_X6_number (jVX X) hM.1.2.2.2.2.2.2.2.2.2.1 N G21 J (1 : Int32) (6 : Int32) v24 hv23) (sb_Mo_Mo_0 G21 J) (bk_Mo_Mo_0 G21 J v24.2 J) rfl rfl rfl kc_X6_126 rfl rfl rfl rfl rfl (jat hM.2.1 20 rfl) (st := [.int (1 : Int32), .ref 2]) rfl ?_
      show JW X 0 0 38 [some (.ref 0)] [.int v24.1, .int (1 : Int32), .ref 2] (hMo v24.2 J)
      obtain ⟨G25, e26, h⟩ := jlE h
      rw [e26]
      obtain ⟨G27, e28, h⟩ := jlE h
      refine JW.r hM 21 1 (pc2 := 39) (L2 := [some (.ref 0)]) (st2 := []) (μ2 := (hMo (jup G25 2 1 v24.1) J)) rfl ⟨rfl, trivial⟩ ?_
      rw [e28]
      refine JW.r hM 22 2 (pc2 := 43) (L2 := [some (.ref 0)]) (st2 := [.int (G27 0 13)]) (μ2 := (hMo G27 J)) rfl trivial ?_
      refine js_ifeq (t := 53) hM.1 (jat hM.2.1 24 rfl) rfl (fun hc31 => ?_) (fun hc31 => ?_)
      · have h := (if_pos hc31).symm.trans h
        obtain rfl := Option.some.inj h
        exact js_vret hM.1 hp hM.2.2.2.2.2.2.2.1 (by rw [hM.2.2.2.2.2.1]; exact Nat.le_of_ble_eq_true rfl) (by rw [hM.2.2.2.2.2.2.1]; exact Nat.le_of_ble_eq_true rfl) (jat hM.2.1 30 rfl) hq
      · have h := (if_neg hc31).symm.trans h
        obtain ⟨G29, e30, h⟩ := jlE h
        refine JW.r hM 25 5 (pc2 := 53) (L2 := [some (.ref 0)]) (st2 := []) (μ2 := (hMo (jup G27 2 1 (0 : Int32)) J)) rfl ⟨rfl, trivial⟩ ?_
        rw [e30]
        obtain rfl := Option.some.inj h
        exact js_vret hM.1 hp hM.2.2.2.2.2.2.2.1 (by rw [hM.2.2.2.2.2.1]; exact Nat.le_of_ble_eq_true rfl) (by rw [hM.2.2.2.2.2.2.1]; exact Nat.le_of_ble_eq_true rfl) (jat hM.2.1 30 rfl) hq
    · have h := (if_neg hc32).symm.trans h
      obtain rfl := Option.some.inj h
      exact js_vret hM.1 hp hM.2.2.2.2.2.2.2.1 (by rw [hM.2.2.2.2.2.1]; exact Nat.le_of_ble_eq_true rfl) (by rw [hM.2.2.2.2.2.2.1]; exact Nat.le_of_ble_eq_true rfl) (jat hM.2.1 11 rfl) hq
theorem m_X6_readPeople (V : jV) (hV : V.1.stackTraces = false) (N : Nat) (G : Nat → Nat → Int32) (J : Nat → Nat → Int64) (v : (Nat → Nat → Int32)) (h : p_X6_readPeople N G J = some v) : jMet V yX6_readPeople (jws yX6_readPeople cX6_readPeople 1 none) ⟨3, 0, 0, 65⟩ true 1 [.ref 0] (hMo G J) (fun o ν => o = none ∧ ν = (hMo v J)) (fun _ _ => False) := by
  refine jmk (tb := tbX6) (C := kX6_readPeople) hV rfl (by decide) tbX6_ok rfl kX6_readPeople_ok rfl ?_
  intro X hM _ hp _
  exact t_X6_readPeople hM hp N G J h ⟨rfl, rfl⟩
def p_X6_readCoins (N : Nat) (G : Nat → Nat → Int32) (J : Nat → Nat → Int64) : Option ((Nat → Nat → Int32)) :=
  (p_X6_personTold N G J).bind (fun v2 => jlt v2.2 fun G3 => (p_X6_number N G3 J (0 : Int32) (9999 : Int32)).bind (fun v6 => jlt v6.2 fun G7 => if (G7 0 13) = 0 then (if jin ((8 : Int32) + v2.1) 264 = true then jlt (jup G7 2 ((8 : Int32) + v2.1).toNatClampNeg v6.1) fun G10 => some G10 else none) else (some G7)))
set_option maxHeartbeats 4000000 in
set_option maxRecDepth 100000 in
theorem t_X6_readCoins {X : jX} {po : Option Value → jH → Prop} {px : String → jH → Prop} {sf : Bool} {B9 : Nat} (hM : jMX X kX6_readCoins RX6 tbX6 3 ⟨4, 0, 0, 85⟩ none 16) (hp : jPost X sf B9 po px) (N : Nat) (G : Nat → Nat → Int32) (J : Nat → Nat → Int64) {res : (Nat → Nat → Int32)} (h : p_X6_readCoins N G J = some res) (hq : po none (hMo res J)) : JW X 0 0 0 [some (.ref 0), none, none] [] (hMo G J) := by
  unfold p_X6_readCoins at h
  refine JW.r hM 0 1 (pc2 := 1) (L2 := [some (.ref 0), none, none]) (st2 := [.ref 0]) (μ2 := (hMo G J)) rfl trivial ?_
  obtain ⟨v2, hv1, h⟩ := jbd h
  refine JW.cV (v := some (.int v2.1)) hM (m_X6_personTold (jVX X) hM.1.2.2.2.2.2.2.2.2.2.1 N G J v2 hv1) (sb_Mo_Mo_0 G J) (bk_Mo_Mo_0 G J v2.2 J) rfl rfl rfl kc_X6_130 rfl rfl rfl rfl rfl (jat hM.2.1 1 rfl) (st := []) rfl ?_
  show JW X 0 0 4 [some (.ref 0), none, none] [.int v2.1] (hMo v2.2 J)
  obtain ⟨G3, e4, h⟩ := jlE h
  rw [e4]
  refine JW.r hM 2 4 (pc2 := 10) (L2 := [some (.ref 0), some (.int v2.1), none]) (st2 := [.int (9999 : Int32), .int (0 : Int32), .ref 0]) (μ2 := (hMo G3 J)) rfl trivial ?_
  obtain ⟨v6, hv5, h⟩ := jbd h
  refine JW.cV (v := some (.int v6.1)) hM (m_X6_number (jVX X) hM.1.2.2.2.2.2.2.2.2.2.1 N G3 J (0 : Int32) (9999 : Int32) v6 hv5) (sb_Mo_Mo_0 G3 J) (bk_Mo_Mo_0 G3 J v6.2 J) rfl rfl rfl kc_X6_126 rfl rfl rfl rfl rfl (jat hM.2.1 6 rfl) (st := []) rfl ?_
  show JW X 0 0 13 [some (.ref 0), some (.int v2.1), none] [.int v6.1] (hMo v6.2 J)
  obtain ⟨G7, e8, h⟩ := jlE h
  rw [e8]
  refine JW.r hM 7 3 (pc2 := 18) (L2 := [some (.ref 0), some (.int v2.1), some (.int v6.1)]) (st2 := [.int (G7 0 13)]) (μ2 := (hMo G7 J)) rfl trivial ?_
  refine js_ifne (t := 31) hM.1 (jat hM.2.1 10 rfl) rfl (fun hc12 => ?_) (fun hc12 => ?_)
  · have h := (if_neg hc12).symm.trans h
    obtain rfl := Option.some.inj h
    exact js_vret hM.1 hp hM.2.2.2.2.2.2.2.1 (by rw [hM.2.2.2.2.2.1]; exact Nat.le_of_ble_eq_true rfl) (by rw [hM.2.2.2.2.2.2.1]; exact Nat.le_of_ble_eq_true rfl) (jat hM.2.1 18 rfl) hq
  · have h := (if_pos hc12).symm.trans h
    obtain ⟨g9, h⟩ := jg h
    obtain ⟨G10, e11, h⟩ := jlE h
    refine JW.r hM 11 7 (pc2 := 31) (L2 := [some (.ref 0), some (.int v2.1), some (.int v6.1)]) (st2 := []) (μ2 := (hMo (jup G7 2 ((8 : Int32) + v2.1).toNatClampNeg v6.1) J)) rfl ⟨g9, trivial⟩ ?_
    rw [e11]
    obtain rfl := Option.some.inj h
    exact js_vret hM.1 hp hM.2.2.2.2.2.2.2.1 (by rw [hM.2.2.2.2.2.1]; exact Nat.le_of_ble_eq_true rfl) (by rw [hM.2.2.2.2.2.2.1]; exact Nat.le_of_ble_eq_true rfl) (jat hM.2.1 18 rfl) hq
theorem m_X6_readCoins (V : jV) (hV : V.1.stackTraces = false) (N : Nat) (G : Nat → Nat → Int32) (J : Nat → Nat → Int64) (v : (Nat → Nat → Int32)) (h : p_X6_readCoins N G J = some v) : jMet V yX6_readCoins (jws yX6_readCoins cX6_readCoins 3 none) ⟨4, 0, 0, 85⟩ true 1 [.ref 0] (hMo G J) (fun o ν => o = none ∧ ν = (hMo v J)) (fun _ _ => False) := by
  refine jmk (tb := tbX6) (C := kX6_readCoins) hV rfl (by decide) tbX6_ok rfl kX6_readCoins_ok rfl ?_
  intro X hM _ hp _
  exact t_X6_readCoins hM hp N G J h ⟨rfl, rfl⟩
def p_X6_readThing_b126 (N : Nat) (J : Nat → Nat → Int64) (G : Nat → Nat → Int32) (x1 : Int32) (x2 : Int32) : Option ((Nat → Nat → Int32)) :=
  if (G 0 13) = 0 then (if jin ((14 : Int32) + x1) 264 = true then jlt (jup G 2 ((14 : Int32) + x1).toNatClampNeg x2) fun G10 => jlt (jup G10 2 2 ((G10 2 2) + (1 : Int32))) fun G12 => some G12 else none) else (some G)
def p_X6_readThing_b120 (N : Nat) (J : Nat → Nat → Int64) (rv42 : (Nat → Nat → Int32) → Int32 → Int32 → Int32 → Option ((Nat → Nat → Int32))) (G : Nat → Nat → Int32) (x1 : Int32) (x2 : Int32) (x3 : Int32) : Option ((Nat → Nat → Int32)) :=
  rv42 G x1 x2 (x3 + 1)
def p_X6_readThing_b87 (N : Nat) (J : Nat → Nat → Int64) (rv42 : (Nat → Nat → Int32) → Int32 → Int32 → Int32 → Option ((Nat → Nat → Int32))) (G : Nat → Nat → Int32) (x1 : Int32) (x2 : Int32) (x3 : Int32) : Option ((Nat → Nat → Int32)) :=
  (p_X6_number N G J (0 : Int32) (999 : Int32)).bind (fun v16 => jlt v16.2 fun G17 => if (G17 0 13) = 0 then (if jin (((24 : Int32) + ((6 : Int32) * x1)) + x3) 264 = true then jlt (jup G17 2 (((24 : Int32) + ((6 : Int32) * x1)) + x3).toNatClampNeg v16.1) fun G20 => p_X6_readThing_b120 N J rv42 G20 x1 x2 x3 else none) else (p_X6_readThing_b120 N J rv42 G17 x1 x2 x3))
def p_X6_readThing_b42 (N : Nat) (J : Nat → Nat → Int64) : Nat → (Nat → Nat → Int32) → (Int32) → (Int32) → (Int32) → Option ((Nat → Nat → Int32))
  | 0, _, _, _, _ => none
  | n + 1, G, x1, x2, x3 => if (G 0 13) = 0 then (if (G 0 11) = (2 : Int32) then (if x3 = (G 2 1) then ((p_X6_within N ((G 0 12).toInt64) (0 : Int64) (999 : Int64)).bind (fun v24 => if v24 = 0 then (p_X6_readThing_b87 N J (p_X6_readThing_b42 N J n) G x1 x2 x3) else ((p_X6_blames N G J (4 : Int32)).bind (fun v26 => jlt v26 fun G27 => (p_X6_number N G27 J (0 : Int32) (999 : Int32)).bind (fun v30 => jlt v30.2 fun G31 => if (G31 0 13) = 0 then (if jin (((24 : Int32) + ((6 : Int32) * x1)) + x3) 264 = true then jlt (jup G31 2 (((24 : Int32) + ((6 : Int32) * x1)) + x3).toNatClampNeg v30.1) fun G34 => p_X6_readThing_b120 N J (p_X6_readThing_b42 N J n) G34 x1 x2 x3 else none) else (p_X6_readThing_b120 N J (p_X6_readThing_b42 N J n) G31 x1 x2 x3)))))) else (p_X6_readThing_b87 N J (p_X6_readThing_b42 N J n) G x1 x2 x3)) else (p_X6_readThing_b126 N J G x1 x2)) else (p_X6_readThing_b126 N J G x1 x2)
def p_X6_readThing_b16 (N : Nat) (J : Nat → Nat → Int64) (G : Nat → Nat → Int32) : Option ((Nat → Nat → Int32)) :=
  if (G 0 13) = 0 then ((p_X6_reads N G J).bind (fun v2 => jlt v2 fun G3 => (p_X6_personTold N G3 J).bind (fun v6 => jlt v6.2 fun G7 => p_X6_readThing_b42 N J N G7 (G3 2 2) v6.1 (0 : Int32)))) else (some G)
def p_X6_readThing (N : Nat) (G : Nat → Nat → Int32) (J : Nat → Nat → Int64) : Option ((Nat → Nat → Int32)) :=
  if (G 2 2) = (10 : Int32) then ((p_X6_blames N G J (4 : Int32)).bind (fun v43 => jlt v43 fun G44 => if (G44 0 13) = 0 then ((p_X6_reads N G44 J).bind (fun v47 => jlt v47 fun G48 => (p_X6_personTold N G48 J).bind (fun v51 => jlt v51.2 fun G52 => p_X6_readThing_b42 N J N G52 (G48 2 2) v51.1 (0 : Int32)))) else (some G44))) else (p_X6_readThing_b16 N J G)
set_option maxHeartbeats 4000000 in
set_option maxRecDepth 100000 in
theorem t_X6_readThing_b126 {X : jX} {po : Option Value → jH → Prop} {px : String → jH → Prop} {sf : Bool} {B9 : Nat} (hM : jMX X kX6_readThing RX6 tbX6 5 ⟨4, 0, 0, 85⟩ none 16) (hp : jPost X sf B9 po px) (N : Nat) (J : Nat → Nat → Int64) {res : (Nat → Nat → Int32)} (G : Nat → Nat → Int32) (x1 : Int32) (x2 : Int32) (h : p_X6_readThing_b126 N J G x1 x2 = some res) (hq : po none (hMo res J)) : JW X 0 0 126 [some (.ref 0), some (.int x1), some (.int x2), none, none] [] (hMo G J) := by
  unfold p_X6_readThing_b126 at h
  refine JW.r hM 69 2 (pc2 := 130) (L2 := [some (.ref 0), some (.int x1), some (.int x2), none, none]) (st2 := [.int (G 0 13)]) (μ2 := (hMo G J)) rfl trivial ?_
  refine js_ifeq (t := 134) hM.1 (jat hM.2.1 71 rfl) rfl (fun hc14 => ?_) (fun hc14 => ?_)
  · have h := (if_pos hc14).symm.trans h
    obtain ⟨g9, h⟩ := jg h
    obtain ⟨G10, e11, h⟩ := jlE h
    refine JW.r hM 73 7 (pc2 := 144) (L2 := [some (.ref 0), some (.int x1), some (.int x2), none, none]) (st2 := []) (μ2 := (hMo (jup G 2 ((14 : Int32) + x1).toNatClampNeg x2) J)) rfl ⟨g9, trivial⟩ ?_
    rw [e11]
    obtain ⟨G12, e13, h⟩ := jlE h
    refine JW.r hM 80 8 (pc2 := 154) (L2 := [some (.ref 0), some (.int x1), some (.int x2), none, none]) (st2 := []) (μ2 := (hMo (jup G10 2 2 ((G10 2 2) + (1 : Int32))) J)) rfl ⟨rfl, rfl, trivial⟩ ?_
    rw [e13]
    obtain rfl := Option.some.inj h
    exact js_vret hM.1 hp hM.2.2.2.2.2.2.2.1 (by rw [hM.2.2.2.2.2.1]; exact Nat.le_of_ble_eq_true rfl) (by rw [hM.2.2.2.2.2.2.1]; exact Nat.le_of_ble_eq_true rfl) (jat hM.2.1 88 rfl) hq
  · have h := (if_neg hc14).symm.trans h
    obtain rfl := Option.some.inj h
    exact js_vret hM.1 hp hM.2.2.2.2.2.2.2.1 (by rw [hM.2.2.2.2.2.1]; exact Nat.le_of_ble_eq_true rfl) (by rw [hM.2.2.2.2.2.2.1]; exact Nat.le_of_ble_eq_true rfl) (jat hM.2.1 72 rfl) hq
set_option maxHeartbeats 4000000 in
set_option maxRecDepth 100000 in
theorem t_X6_readThing_b120 {X : jX} {po : Option Value → jH → Prop} {px : String → jH → Prop} {sf : Bool} {B9 : Nat} (hM : jMX X kX6_readThing RX6 tbX6 5 ⟨4, 0, 0, 85⟩ none 16) (hp : jPost X sf B9 po px) (N : Nat) (J : Nat → Nat → Int64) (rv42 : (Nat → Nat → Int32) → Int32 → Int32 → Int32 → Option ((Nat → Nat → Int32))) {res : (Nat → Nat → Int32)} (ih42 : ∀ (G : Nat → Nat → Int32) (x1 : Int32) (x2 : Int32) (x3 : Int32), rv42 G x1 x2 x3 = some res → JW X 0 0 42 [some (.ref 0), some (.int x1), some (.int x2), some (.int x3), none] [] (hMo G J)) (G : Nat → Nat → Int32) (x1 : Int32) (x2 : Int32) (x3 : Int32) (h : p_X6_readThing_b120 N J rv42 G x1 x2 x3 = some res) (hq : po none (hMo res J)) : JW X 0 0 120 [some (.ref 0), some (.int x1), some (.int x2), some (.int x3), none] [] (hMo G J) := by
  unfold p_X6_readThing_b120 at h
  refine JW.r hM 67 2 (pc2 := 42) (L2 := [some (.ref 0), some (.int x1), some (.int x2), some (.int (x3 + 1)), none]) (st2 := []) (μ2 := (hMo G J)) rfl trivial ?_
  exact ih42 G x1 x2 (x3 + 1) h
set_option maxHeartbeats 4000000 in
set_option maxRecDepth 100000 in
theorem t_X6_readThing_b87 {X : jX} {po : Option Value → jH → Prop} {px : String → jH → Prop} {sf : Bool} {B9 : Nat} (hM : jMX X kX6_readThing RX6 tbX6 5 ⟨4, 0, 0, 85⟩ none 16) (hp : jPost X sf B9 po px) (N : Nat) (J : Nat → Nat → Int64) (rv42 : (Nat → Nat → Int32) → Int32 → Int32 → Int32 → Option ((Nat → Nat → Int32))) {res : (Nat → Nat → Int32)} (ih42 : ∀ (G : Nat → Nat → Int32) (x1 : Int32) (x2 : Int32) (x3 : Int32), rv42 G x1 x2 x3 = some res → JW X 0 0 42 [some (.ref 0), some (.int x1), some (.int x2), some (.int x3), none] [] (hMo G J)) (G : Nat → Nat → Int32) (x1 : Int32) (x2 : Int32) (x3 : Int32) (h : p_X6_readThing_b87 N J rv42 G x1 x2 x3 = some res) (hq : po none (hMo res J)) : JW X 0 0 87 [some (.ref 0), some (.int x1), some (.int x2), some (.int x3), none] [] (hMo G J) := by
  unfold p_X6_readThing_b87 at h
  refine JW.r hM 48 3 (pc2 := 92) (L2 := [some (.ref 0), some (.int x1), some (.int x2), some (.int x3), none]) (st2 := [.int (999 : Int32), .int (0 : Int32), .ref 0]) (μ2 := (hMo G J)) rfl trivial ?_
  obtain ⟨v16, hv15, h⟩ := jbd h
  refine JW.cV (v := some (.int v16.1)) hM (m_X6_number (jVX X) hM.1.2.2.2.2.2.2.2.2.2.1 N G J (0 : Int32) (999 : Int32) v16 hv15) (sb_Mo_Mo_0 G J) (bk_Mo_Mo_0 G J v16.2 J) rfl rfl rfl kc_X6_126 rfl rfl rfl rfl rfl (jat hM.2.1 51 rfl) (st := []) rfl ?_
  show JW X 0 0 95 [some (.ref 0), some (.int x1), some (.int x2), some (.int x3), none] [.int v16.1] (hMo v16.2 J)
  obtain ⟨G17, e18, h⟩ := jlE h
  rw [e18]
  refine JW.r hM 52 3 (pc2 := 101) (L2 := [some (.ref 0), some (.int x1), some (.int x2), some (.int x3), some (.int v16.1)]) (st2 := [.int (G17 0 13)]) (μ2 := (hMo G17 J)) rfl trivial ?_
  refine js_ifne (t := 120) hM.1 (jat hM.2.1 55 rfl) rfl (fun hc22 => ?_) (fun hc22 => ?_)
  · have h := (if_neg hc22).symm.trans h
    exact JW.mask [true, true, true, true, false] (t_X6_readThing_b120 hM hp N J rv42 ih42 G17 x1 x2 x3 h hq)
  · have h := (if_pos hc22).symm.trans h
    obtain ⟨g19, h⟩ := jg h
    obtain ⟨G20, e21, h⟩ := jlE h
    refine JW.r hM 56 11 (pc2 := 120) (L2 := [some (.ref 0), some (.int x1), some (.int x2), some (.int x3), some (.int v16.1)]) (st2 := []) (μ2 := (hMo (jup G17 2 (((24 : Int32) + ((6 : Int32) * x1)) + x3).toNatClampNeg v16.1) J)) rfl ⟨g19, trivial⟩ ?_
    rw [e21]
    exact JW.mask [true, true, true, true, false] (t_X6_readThing_b120 hM hp N J rv42 ih42 G20 x1 x2 x3 h hq)
set_option maxHeartbeats 4000000 in
set_option maxRecDepth 100000 in
theorem t_X6_readThing_b42 {X : jX} {po : Option Value → jH → Prop} {px : String → jH → Prop} {sf : Bool} {B9 : Nat} (hM : jMX X kX6_readThing RX6 tbX6 5 ⟨4, 0, 0, 85⟩ none 16) (hp : jPost X sf B9 po px) (N : Nat) (J : Nat → Nat → Int64) {res : (Nat → Nat → Int32)} : ∀ (n : Nat) (G : Nat → Nat → Int32) (x1 : Int32) (x2 : Int32) (x3 : Int32) (h : p_X6_readThing_b42 N J n G x1 x2 x3 = some res) (hq : po none (hMo res J)), JW X 0 0 42 [some (.ref 0), some (.int x1), some (.int x2), some (.int x3), none] [] (hMo G J) := by
  intro n
  induction n with
  | zero =>
    intro G x1 x2 x3 h hq
    cases (show (none : Option ((Nat → Nat → Int32))) = some res from h)
  | succ n ih42 =>
    intro G x1 x2 x3 h hq
    have ih42 := fun G x1 x2 x3 h9 => ih42 G x1 x2 x3 h9 hq
    rw [p_X6_readThing_b42] at h
    refine JW.r hM 25 2 (pc2 := 46) (L2 := [some (.ref 0), some (.int x1), some (.int x2), some (.int x3), none]) (st2 := [.int (G 0 13)]) (μ2 := (hMo G J)) rfl trivial ?_
    refine js_ifne (t := 126) hM.1 (jat hM.2.1 27 rfl) rfl (fun hc40 => ?_) (fun hc40 => ?_)
    · have h := (if_neg hc40).symm.trans h
      exact JW.mask [true, true, true, false, false] (t_X6_readThing_b126 hM hp N J G x1 x2 h hq)
    · have h := (if_pos hc40).symm.trans h
      refine JW.r hM 28 3 (pc2 := 54) (L2 := [some (.ref 0), some (.int x1), some (.int x2), some (.int x3), none]) (st2 := [.int (2 : Int32), .int (G 0 11)]) (μ2 := (hMo G J)) rfl trivial ?_
      refine js_icne (t := 126) hM.1 (jat hM.2.1 31 rfl) rfl (fun hc39 => ?_) (fun hc39 => ?_)
      · have h := (if_neg hc39).symm.trans h
        exact JW.mask [true, true, true, false, false] (t_X6_readThing_b126 hM hp N J G x1 x2 h hq)
      · have h := (if_pos hc39).symm.trans h
        refine JW.r hM 32 5 (pc2 := 64) (L2 := [some (.ref 0), some (.int x1), some (.int x2), some (.int x3), none]) (st2 := [.int (G 2 1), .int x3]) (μ2 := (hMo G J)) rfl ⟨rfl, trivial⟩ ?_
        refine js_icne (t := 87) hM.1 (jat hM.2.1 37 rfl) rfl (fun hc38 => ?_) (fun hc38 => ?_)
        · have h := (if_neg hc38).symm.trans h
          exact t_X6_readThing_b87 hM hp N J (p_X6_readThing_b42 N J n) ih42 G x1 x2 x3 h hq
        · have h := (if_pos hc38).symm.trans h
          refine JW.r hM 38 5 (pc2 := 76) (L2 := [some (.ref 0), some (.int x1), some (.int x2), some (.int x3), none]) (st2 := [.long (999 : Int64), .long (0 : Int64), .long ((G 0 12).toInt64)]) (μ2 := (hMo G J)) rfl trivial ?_
          obtain ⟨v24, hv23, h⟩ := jbd h
          refine JW.cS (v := some (.int v24)) hM (m_X6_within (jVX X) hM.1.2.2.2.2.2.2.2.2.2.1 N ((G 0 12).toInt64) (0 : Int64) (999 : Int64) v24 hv23) (sb_Mo_E_ G J) (bi_Mo_E_ G J) rfl rfl rfl kc_X6_122 rfl rfl rfl (jat hM.2.1 43 rfl) (st := []) rfl ?_
          show JW X 0 0 79 [some (.ref 0), some (.int x1), some (.int x2), some (.int x3), none] [.int v24] (hMo G J)
          refine js_ifeq (t := 87) hM.1 (jat hM.2.1 44 rfl) rfl (fun hc37 => ?_) (fun hc37 => ?_)
          · have h := (if_pos hc37).symm.trans h
            exact t_X6_readThing_b87 hM hp N J (p_X6_readThing_b42 N J n) ih42 G x1 x2 x3 h hq
          · have h := (if_neg hc37).symm.trans h
            refine JW.r hM 45 2 (pc2 := 84) (L2 := [some (.ref 0), some (.int x1), some (.int x2), some (.int x3), none]) (st2 := [.int (4 : Int32), .ref 0]) (μ2 := (hMo G J)) rfl trivial ?_
            obtain ⟨v26, hv25, h⟩ := jbd h
            refine JW.cV (v := none) hM (m_X6_blames (jVX X) hM.1.2.2.2.2.2.2.2.2.2.1 N G J (4 : Int32) v26 hv25) (sb_Mo_Mo_0 G J) (bk_Mo_Mo_0 G J v26 J) rfl rfl rfl kc_X6_118 rfl rfl rfl rfl rfl (jat hM.2.1 47 rfl) (st := []) rfl ?_
            show JW X 0 0 87 [some (.ref 0), some (.int x1), some (.int x2), some (.int x3), none] [] (hMo v26 J)
            obtain ⟨G27, e28, h⟩ := jlE h
            rw [e28]
            refine JW.r hM 48 3 (pc2 := 92) (L2 := [some (.ref 0), some (.int x1), some (.int x2), some (.int x3), none]) (st2 := [.int (999 : Int32), .int (0 : Int32), .ref 0]) (μ2 := (hMo G27 J)) rfl trivial ?_
            obtain ⟨v30, hv29, h⟩ := jbd h
            refine JW.cV (v := some (.int v30.1)) hM (m_X6_number (jVX X) hM.1.2.2.2.2.2.2.2.2.2.1 N G27 J (0 : Int32) (999 : Int32) v30 hv29) (sb_Mo_Mo_0 G27 J) (bk_Mo_Mo_0 G27 J v30.2 J) rfl rfl rfl kc_X6_126 rfl rfl rfl rfl rfl (jat hM.2.1 51 rfl) (st := []) rfl ?_
            show JW X 0 0 95 [some (.ref 0), some (.int x1), some (.int x2), some (.int x3), none] [.int v30.1] (hMo v30.2 J)
            obtain ⟨G31, e32, h⟩ := jlE h
            rw [e32]
            refine JW.r hM 52 3 (pc2 := 101) (L2 := [some (.ref 0), some (.int x1), some (.int x2), some (.int x3), some (.int v30.1)]) (st2 := [.int (G31 0 13)]) (μ2 := (hMo G31 J)) rfl trivial ?_
            refine js_ifne (t := 120) hM.1 (jat hM.2.1 55 rfl) rfl (fun hc36 => ?_) (fun hc36 => ?_)
            · have h := (if_neg hc36).symm.trans h
              exact JW.mask [true, true, true, true, false] (t_X6_readThing_b120 hM hp N J (p_X6_readThing_b42 N J n) ih42 G31 x1 x2 x3 h hq)
            · have h := (if_pos hc36).symm.trans h
              obtain ⟨g33, h⟩ := jg h
              obtain ⟨G34, e35, h⟩ := jlE h
              refine JW.r hM 56 11 (pc2 := 120) (L2 := [some (.ref 0), some (.int x1), some (.int x2), some (.int x3), some (.int v30.1)]) (st2 := []) (μ2 := (hMo (jup G31 2 (((24 : Int32) + ((6 : Int32) * x1)) + x3).toNatClampNeg v30.1) J)) rfl ⟨g33, trivial⟩ ?_
              rw [e35]
              exact JW.mask [true, true, true, true, false] (t_X6_readThing_b120 hM hp N J (p_X6_readThing_b42 N J n) ih42 G34 x1 x2 x3 h hq)
set_option maxHeartbeats 4000000 in
set_option maxRecDepth 100000 in
theorem t_X6_readThing_b16 {X : jX} {po : Option Value → jH → Prop} {px : String → jH → Prop} {sf : Bool} {B9 : Nat} (hM : jMX X kX6_readThing RX6 tbX6 5 ⟨4, 0, 0, 85⟩ none 16) (hp : jPost X sf B9 po px) (N : Nat) (J : Nat → Nat → Int64) {res : (Nat → Nat → Int32)} (G : Nat → Nat → Int32) (h : p_X6_readThing_b16 N J G = some res) (hq : po none (hMo res J)) : JW X 0 0 16 [some (.ref 0), none, none, none, none] [] (hMo G J) := by
  unfold p_X6_readThing_b16 at h
  refine JW.r hM 9 2 (pc2 := 20) (L2 := [some (.ref 0), none, none, none, none]) (st2 := [.int (G 0 13)]) (μ2 := (hMo G J)) rfl trivial ?_
  refine js_ifeq (t := 24) hM.1 (jat hM.2.1 11 rfl) rfl (fun hc41 => ?_) (fun hc41 => ?_)
  · have h := (if_pos hc41).symm.trans h
    refine JW.r hM 13 1 (pc2 := 25) (L2 := [some (.ref 0), none, none, none, none]) (st2 := [.ref 0]) (μ2 := (hMo G J)) rfl trivial ?_
    obtain ⟨v2, hv1, h⟩ := jbd h
    refine JW.cV (v := none) hM (m_X6_reads (jVX X) hM.1.2.2.2.2.2.2.2.2.2.1 N G J v2 hv1) (sb_Mo_Mo_0 G J) (bk_Mo_Mo_0 G J v2 J) rfl rfl rfl kc_X6_115 rfl rfl rfl rfl rfl (jat hM.2.1 14 rfl) (st := []) rfl ?_
    show JW X 0 0 28 [some (.ref 0), none, none, none, none] [] (hMo v2 J)
    obtain ⟨G3, e4, h⟩ := jlE h
    rw [e4]
    refine JW.r hM 15 6 (pc2 := 36) (L2 := [some (.ref 0), some (.int (G3 2 2)), none, none, none]) (st2 := [.ref 0]) (μ2 := (hMo G3 J)) rfl ⟨rfl, trivial⟩ ?_
    obtain ⟨v6, hv5, h⟩ := jbd h
    refine JW.cV (v := some (.int v6.1)) hM (m_X6_personTold (jVX X) hM.1.2.2.2.2.2.2.2.2.2.1 N G3 J v6 hv5) (sb_Mo_Mo_0 G3 J) (bk_Mo_Mo_0 G3 J v6.2 J) rfl rfl rfl kc_X6_130 rfl rfl rfl rfl rfl (jat hM.2.1 21 rfl) (st := []) rfl ?_
    show JW X 0 0 39 [some (.ref 0), some (.int (G3 2 2)), none, none, none] [.int v6.1] (hMo v6.2 J)
    obtain ⟨G7, e8, h⟩ := jlE h
    rw [e8]
    refine JW.r hM 22 3 (pc2 := 42) (L2 := [some (.ref 0), some (.int (G3 2 2)), some (.int v6.1), some (.int (0 : Int32)), none]) (st2 := []) (μ2 := (hMo G7 J)) rfl trivial ?_
    exact t_X6_readThing_b42 hM hp N J N G7 (G3 2 2) v6.1 (0 : Int32) h hq
  · have h := (if_neg hc41).symm.trans h
    obtain rfl := Option.some.inj h
    exact js_vret hM.1 hp hM.2.2.2.2.2.2.2.1 (by rw [hM.2.2.2.2.2.1]; exact Nat.le_of_ble_eq_true rfl) (by rw [hM.2.2.2.2.2.2.1]; exact Nat.le_of_ble_eq_true rfl) (jat hM.2.1 12 rfl) hq
set_option maxHeartbeats 4000000 in
set_option maxRecDepth 100000 in
theorem t_X6_readThing {X : jX} {po : Option Value → jH → Prop} {px : String → jH → Prop} {sf : Bool} {B9 : Nat} (hM : jMX X kX6_readThing RX6 tbX6 5 ⟨4, 0, 0, 85⟩ none 16) (hp : jPost X sf B9 po px) (N : Nat) (G : Nat → Nat → Int32) (J : Nat → Nat → Int64) {res : (Nat → Nat → Int32)} (h : p_X6_readThing N G J = some res) (hq : po none (hMo res J)) : JW X 0 0 0 [some (.ref 0), none, none, none, none] [] (hMo G J) := by
  unfold p_X6_readThing at h
  refine JW.r hM 0 5 (pc2 := 8) (L2 := [some (.ref 0), none, none, none, none]) (st2 := [.int (10 : Int32), .int (G 2 2)]) (μ2 := (hMo G J)) rfl ⟨rfl, trivial⟩ ?_
  refine js_icne (t := 16) hM.1 (jat hM.2.1 5 rfl) rfl (fun hc55 => ?_) (fun hc55 => ?_)
  · have h := (if_neg hc55).symm.trans h
    exact t_X6_readThing_b16 hM hp N J G h hq
  · have h := (if_pos hc55).symm.trans h
    refine JW.r hM 6 2 (pc2 := 13) (L2 := [some (.ref 0), none, none, none, none]) (st2 := [.int (4 : Int32), .ref 0]) (μ2 := (hMo G J)) rfl trivial ?_
    obtain ⟨v43, hv42, h⟩ := jbd h
    refine JW.cV (v := none) hM (m_X6_blames (jVX X) hM.1.2.2.2.2.2.2.2.2.2.1 N G J (4 : Int32) v43 hv42) (sb_Mo_Mo_0 G J) (bk_Mo_Mo_0 G J v43 J) rfl rfl rfl kc_X6_118 rfl rfl rfl rfl rfl (jat hM.2.1 8 rfl) (st := []) rfl ?_
    show JW X 0 0 16 [some (.ref 0), none, none, none, none] [] (hMo v43 J)
    obtain ⟨G44, e45, h⟩ := jlE h
    rw [e45]
    refine JW.r hM 9 2 (pc2 := 20) (L2 := [some (.ref 0), none, none, none, none]) (st2 := [.int (G44 0 13)]) (μ2 := (hMo G44 J)) rfl trivial ?_
    refine js_ifeq (t := 24) hM.1 (jat hM.2.1 11 rfl) rfl (fun hc54 => ?_) (fun hc54 => ?_)
    · have h := (if_pos hc54).symm.trans h
      refine JW.r hM 13 1 (pc2 := 25) (L2 := [some (.ref 0), none, none, none, none]) (st2 := [.ref 0]) (μ2 := (hMo G44 J)) rfl trivial ?_
      obtain ⟨v47, hv46, h⟩ := jbd h
      refine JW.cV (v := none) hM (m_X6_reads (jVX X) hM.1.2.2.2.2.2.2.2.2.2.1 N G44 J v47 hv46) (sb_Mo_Mo_0 G44 J) (bk_Mo_Mo_0 G44 J v47 J) rfl rfl rfl kc_X6_115 rfl rfl rfl rfl rfl (jat hM.2.1 14 rfl) (st := []) rfl ?_
      show JW X 0 0 28 [some (.ref 0), none, none, none, none] [] (hMo v47 J)
      obtain ⟨G48, e49, h⟩ := jlE h
      rw [e49]
      refine JW.r hM 15 6 (pc2 := 36) (L2 := [some (.ref 0), some (.int (G48 2 2)), none, none, none]) (st2 := [.ref 0]) (μ2 := (hMo G48 J)) rfl ⟨rfl, trivial⟩ ?_
      obtain ⟨v51, hv50, h⟩ := jbd h
      refine JW.cV (v := some (.int v51.1)) hM (m_X6_personTold (jVX X) hM.1.2.2.2.2.2.2.2.2.2.1 N G48 J v51 hv50) (sb_Mo_Mo_0 G48 J) (bk_Mo_Mo_0 G48 J v51.2 J) rfl rfl rfl kc_X6_130 rfl rfl rfl rfl rfl (jat hM.2.1 21 rfl) (st := []) rfl ?_
      show JW X 0 0 39 [some (.ref 0), some (.int (G48 2 2)), none, none, none] [.int v51.1] (hMo v51.2 J)
      obtain ⟨G52, e53, h⟩ := jlE h
      rw [e53]
      refine JW.r hM 22 3 (pc2 := 42) (L2 := [some (.ref 0), some (.int (G48 2 2)), some (.int v51.1), some (.int (0 : Int32)), none]) (st2 := []) (μ2 := (hMo G52 J)) rfl trivial ?_
      exact t_X6_readThing_b42 hM hp N J N G52 (G48 2 2) v51.1 (0 : Int32) h hq
    · have h := (if_neg hc54).symm.trans h
      obtain rfl := Option.some.inj h
      exact js_vret hM.1 hp hM.2.2.2.2.2.2.2.1 (by rw [hM.2.2.2.2.2.1]; exact Nat.le_of_ble_eq_true rfl) (by rw [hM.2.2.2.2.2.2.1]; exact Nat.le_of_ble_eq_true rfl) (jat hM.2.1 12 rfl) hq
theorem m_X6_readThing (V : jV) (hV : V.1.stackTraces = false) (N : Nat) (G : Nat → Nat → Int32) (J : Nat → Nat → Int64) (v : (Nat → Nat → Int32)) (h : p_X6_readThing N G J = some v) : jMet V yX6_readThing (jws yX6_readThing cX6_readThing 5 none) ⟨4, 0, 0, 85⟩ true 1 [.ref 0] (hMo G J) (fun o ν => o = none ∧ ν = (hMo v J)) (fun _ _ => False) := by
  refine jmk (tb := tbX6) (C := kX6_readThing) hV rfl (by decide) tbX6_ok rfl kX6_readThing_ok rfl ?_
  intro X hM _ hp _
  exact t_X6_readThing hM hp N G J h ⟨rfl, rfl⟩
def p_X6_readWorth (N : Nat) (G : Nat → Nat → Int32) (J : Nat → Nat → Int64) : Option ((Nat → Nat → Int32)) :=
  (p_X6_thingTold N G J).bind (fun v2 => jlt v2.2 fun G3 => (p_X6_personTold N G3 J).bind (fun v6 => jlt v6.2 fun G7 => (p_X6_number N G7 J (0 : Int32) (999 : Int32)).bind (fun v10 => jlt v10.2 fun G11 => if (G11 0 13) = 0 then (if jin (((24 : Int32) + ((6 : Int32) * v2.1)) + v6.1) 264 = true then jlt (jup G11 2 (((24 : Int32) + ((6 : Int32) * v2.1)) + v6.1).toNatClampNeg v10.1) fun G14 => some G14 else none) else (some G11))))
set_option maxHeartbeats 4000000 in
set_option maxRecDepth 100000 in
theorem t_X6_readWorth {X : jX} {po : Option Value → jH → Prop} {px : String → jH → Prop} {sf : Bool} {B9 : Nat} (hM : jMX X kX6_readWorth RX6 tbX6 4 ⟨4, 0, 0, 85⟩ none 16) (hp : jPost X sf B9 po px) (N : Nat) (G : Nat → Nat → Int32) (J : Nat → Nat → Int64) {res : (Nat → Nat → Int32)} (h : p_X6_readWorth N G J = some res) (hq : po none (hMo res J)) : JW X 0 0 0 [some (.ref 0), none, none, none] [] (hMo G J) := by
  unfold p_X6_readWorth at h
  refine JW.r hM 0 1 (pc2 := 1) (L2 := [some (.ref 0), none, none, none]) (st2 := [.ref 0]) (μ2 := (hMo G J)) rfl trivial ?_
  obtain ⟨v2, hv1, h⟩ := jbd h
  refine JW.cV (v := some (.int v2.1)) hM (m_X6_thingTold (jVX X) hM.1.2.2.2.2.2.2.2.2.2.1 N G J v2 hv1) (sb_Mo_Mo_0 G J) (bk_Mo_Mo_0 G J v2.2 J) rfl rfl rfl kc_X6_135 rfl rfl rfl rfl rfl (jat hM.2.1 1 rfl) (st := []) rfl ?_
  show JW X 0 0 4 [some (.ref 0), none, none, none] [.int v2.1] (hMo v2.2 J)
  obtain ⟨G3, e4, h⟩ := jlE h
  rw [e4]
  refine JW.r hM 2 2 (pc2 := 6) (L2 := [some (.ref 0), some (.int v2.1), none, none]) (st2 := [.ref 0]) (μ2 := (hMo G3 J)) rfl trivial ?_
  obtain ⟨v6, hv5, h⟩ := jbd h
  refine JW.cV (v := some (.int v6.1)) hM (m_X6_personTold (jVX X) hM.1.2.2.2.2.2.2.2.2.2.1 N G3 J v6 hv5) (sb_Mo_Mo_0 G3 J) (bk_Mo_Mo_0 G3 J v6.2 J) rfl rfl rfl kc_X6_130 rfl rfl rfl rfl rfl (jat hM.2.1 4 rfl) (st := []) rfl ?_
  show JW X 0 0 9 [some (.ref 0), some (.int v2.1), none, none] [.int v6.1] (hMo v6.2 J)
  obtain ⟨G7, e8, h⟩ := jlE h
  rw [e8]
  refine JW.r hM 5 4 (pc2 := 15) (L2 := [some (.ref 0), some (.int v2.1), some (.int v6.1), none]) (st2 := [.int (999 : Int32), .int (0 : Int32), .ref 0]) (μ2 := (hMo G7 J)) rfl trivial ?_
  obtain ⟨v10, hv9, h⟩ := jbd h
  refine JW.cV (v := some (.int v10.1)) hM (m_X6_number (jVX X) hM.1.2.2.2.2.2.2.2.2.2.1 N G7 J (0 : Int32) (999 : Int32) v10 hv9) (sb_Mo_Mo_0 G7 J) (bk_Mo_Mo_0 G7 J v10.2 J) rfl rfl rfl kc_X6_126 rfl rfl rfl rfl rfl (jat hM.2.1 9 rfl) (st := []) rfl ?_
  show JW X 0 0 18 [some (.ref 0), some (.int v2.1), some (.int v6.1), none] [.int v10.1] (hMo v10.2 J)
  obtain ⟨G11, e12, h⟩ := jlE h
  rw [e12]
  refine JW.r hM 10 3 (pc2 := 23) (L2 := [some (.ref 0), some (.int v2.1), some (.int v6.1), some (.int v10.1)]) (st2 := [.int (G11 0 13)]) (μ2 := (hMo G11 J)) rfl trivial ?_
  refine js_ifne (t := 41) hM.1 (jat hM.2.1 13 rfl) rfl (fun hc16 => ?_) (fun hc16 => ?_)
  · have h := (if_neg hc16).symm.trans h
    obtain rfl := Option.some.inj h
    exact js_vret hM.1 hp hM.2.2.2.2.2.2.2.1 (by rw [hM.2.2.2.2.2.1]; exact Nat.le_of_ble_eq_true rfl) (by rw [hM.2.2.2.2.2.2.1]; exact Nat.le_of_ble_eq_true rfl) (jat hM.2.1 25 rfl) hq
  · have h := (if_pos hc16).symm.trans h
    obtain ⟨g13, h⟩ := jg h
    obtain ⟨G14, e15, h⟩ := jlE h
    refine JW.r hM 14 11 (pc2 := 41) (L2 := [some (.ref 0), some (.int v2.1), some (.int v6.1), some (.int v10.1)]) (st2 := []) (μ2 := (hMo (jup G11 2 (((24 : Int32) + ((6 : Int32) * v2.1)) + v6.1).toNatClampNeg v10.1) J)) rfl ⟨g13, trivial⟩ ?_
    rw [e15]
    obtain rfl := Option.some.inj h
    exact js_vret hM.1 hp hM.2.2.2.2.2.2.2.1 (by rw [hM.2.2.2.2.2.1]; exact Nat.le_of_ble_eq_true rfl) (by rw [hM.2.2.2.2.2.2.1]; exact Nat.le_of_ble_eq_true rfl) (jat hM.2.1 25 rfl) hq
theorem m_X6_readWorth (V : jV) (hV : V.1.stackTraces = false) (N : Nat) (G : Nat → Nat → Int32) (J : Nat → Nat → Int64) (v : (Nat → Nat → Int32)) (h : p_X6_readWorth N G J = some v) : jMet V yX6_readWorth (jws yX6_readWorth cX6_readWorth 4 none) ⟨4, 0, 0, 85⟩ true 1 [.ref 0] (hMo G J) (fun o ν => o = none ∧ ν = (hMo v J)) (fun _ _ => False) := by
  refine jmk (tb := tbX6) (C := kX6_readWorth) hV rfl (by decide) tbX6_ok rfl kX6_readWorth_ok rfl ?_
  intro X hM _ hp _
  exact t_X6_readWorth hM hp N G J h ⟨rfl, rfl⟩
def p_X6_readEaten (N : Nat) (G : Nat → Nat → Int32) (J : Nat → Nat → Int64) : Option ((Nat → Nat → Int32)) :=
  (p_X6_thingTold N G J).bind (fun v2 => jlt v2.2 fun G3 => if (G3 0 13) = 0 then (jlt (jup G3 2 3 ((G3 2 3) ||| ((1 : Int32) <<< (v2.1 &&& 31)))) fun G5 => some G5) else (some G3))
set_option maxHeartbeats 4000000 in
set_option maxRecDepth 100000 in
theorem t_X6_readEaten {X : jX} {po : Option Value → jH → Prop} {px : String → jH → Prop} {sf : Bool} {B9 : Nat} (hM : jMX X kX6_readEaten RX6 tbX6 2 ⟨4, 0, 0, 85⟩ none 16) (hp : jPost X sf B9 po px) (N : Nat) (G : Nat → Nat → Int32) (J : Nat → Nat → Int64) {res : (Nat → Nat → Int32)} (h : p_X6_readEaten N G J = some res) (hq : po none (hMo res J)) : JW X 0 0 0 [some (.ref 0), none] [] (hMo G J) := by
  unfold p_X6_readEaten at h
  refine JW.r hM 0 1 (pc2 := 1) (L2 := [some (.ref 0), none]) (st2 := [.ref 0]) (μ2 := (hMo G J)) rfl trivial ?_
  obtain ⟨v2, hv1, h⟩ := jbd h
  refine JW.cV (v := some (.int v2.1)) hM (m_X6_thingTold (jVX X) hM.1.2.2.2.2.2.2.2.2.2.1 N G J v2 hv1) (sb_Mo_Mo_0 G J) (bk_Mo_Mo_0 G J v2.2 J) rfl rfl rfl kc_X6_135 rfl rfl rfl rfl rfl (jat hM.2.1 1 rfl) (st := []) rfl ?_
  show JW X 0 0 4 [some (.ref 0), none] [.int v2.1] (hMo v2.2 J)
  obtain ⟨G3, e4, h⟩ := jlE h
  rw [e4]
  refine JW.r hM 2 3 (pc2 := 9) (L2 := [some (.ref 0), some (.int v2.1)]) (st2 := [.int (G3 0 13)]) (μ2 := (hMo G3 J)) rfl trivial ?_
  refine js_ifne (t := 24) hM.1 (jat hM.2.1 5 rfl) rfl (fun hc7 => ?_) (fun hc7 => ?_)
  · have h := (if_neg hc7).symm.trans h
    obtain rfl := Option.some.inj h
    exact js_vret hM.1 hp hM.2.2.2.2.2.2.2.1 (by rw [hM.2.2.2.2.2.1]; exact Nat.le_of_ble_eq_true rfl) (by rw [hM.2.2.2.2.2.2.1]; exact Nat.le_of_ble_eq_true rfl) (jat hM.2.1 16 rfl) hq
  · have h := (if_pos hc7).symm.trans h
    obtain ⟨G5, e6, h⟩ := jlE h
    refine JW.r hM 6 10 (pc2 := 24) (L2 := [some (.ref 0), some (.int v2.1)]) (st2 := []) (μ2 := (hMo (jup G3 2 3 ((G3 2 3) ||| ((1 : Int32) <<< (v2.1 &&& 31)))) J)) rfl ⟨rfl, rfl, trivial⟩ ?_
    rw [e6]
    obtain rfl := Option.some.inj h
    exact js_vret hM.1 hp hM.2.2.2.2.2.2.2.1 (by rw [hM.2.2.2.2.2.1]; exact Nat.le_of_ble_eq_true rfl) (by rw [hM.2.2.2.2.2.2.1]; exact Nat.le_of_ble_eq_true rfl) (jat hM.2.1 16 rfl) hq
theorem m_X6_readEaten (V : jV) (hV : V.1.stackTraces = false) (N : Nat) (G : Nat → Nat → Int32) (J : Nat → Nat → Int64) (v : (Nat → Nat → Int32)) (h : p_X6_readEaten N G J = some v) : jMet V yX6_readEaten (jws yX6_readEaten cX6_readEaten 2 none) ⟨4, 0, 0, 85⟩ true 1 [.ref 0] (hMo G J) (fun o ν => o = none ∧ ν = (hMo v J)) (fun _ _ => False) := by
  refine jmk (tb := tbX6) (C := kX6_readEaten) hV rfl (by decide) tbX6_ok rfl kX6_readEaten_ok rfl ?_
  intro X hM _ hp _
  exact t_X6_readEaten hM hp N G J h ⟨rfl, rfl⟩
def p_X6_readLine_b177 (N : Nat) (J : Nat → Nat → Int64) (G : Nat → Nat → Int32) : Option ((Nat → Nat → Int32)) :=
  if (G 0 13) = 0 then (jlt (jup G 2 0 ((G 2 0) + (1 : Int32))) fun G29 => some G29) else (some G)
def p_X6_readLine_b166 (N : Nat) (J : Nat → Nat → Int64) (G : Nat → Nat → Int32) : Option ((Nat → Nat → Int32)) :=
  if (G 0 13) = 0 then ((p_X6_reads N G J).bind (fun v33 => jlt v33 fun G34 => if (G34 0 13) = 0 then (jlt (jup G34 2 0 ((G34 2 0) + (1 : Int32))) fun G36 => some G36) else (some G34))) else (p_X6_readLine_b177 N J G)
def p_X6_readLine_b153 (N : Nat) (J : Nat → Nat → Int64) (G : Nat → Nat → Int32) : Option ((Nat → Nat → Int32)) :=
  if (G 0 11) = (3 : Int32) then (p_X6_readLine_b166 N J G) else ((p_X6_blames N G J (2 : Int32)).bind (fun v58 => jlt v58 fun G59 => if (G59 0 13) = 0 then ((p_X6_reads N G59 J).bind (fun v62 => jlt v62 fun G63 => if (G63 0 13) = 0 then (jlt (jup G63 2 0 ((G63 2 0) + (1 : Int32))) fun G65 => some G65) else (some G63))) else (p_X6_readLine_b177 N J G59)))
def p_X6_readLine (N : Nat) (G : Nat → Nat → Int32) (J : Nat → Nat → Int64) : Option ((Nat → Nat → Int32)) :=
  (p_X6_isWord_0 N G J).bind (fun v2 => if v2 = 0 then (if (G 2 1) = 0 then ((p_X6_blames N G J (2 : Int32)).bind (fun v101 => jlt v101 fun G102 => p_X6_readLine_b153 N J G102)) else ((p_X6_took_1 N G J).bind (fun v4 => jlt v4.2 fun G5 => if v4.1 = 0 then ((p_X6_isWord_2 N G5 J).bind (fun v8 => if v8 = 0 then ((p_X6_took_3 N G5 J).bind (fun v10 => jlt v10.2 fun G11 => if v10.1 = 0 then ((p_X6_took_4 N G11 J).bind (fun v14 => jlt v14.2 fun G15 => if v14.1 = 0 then ((p_X6_took_5 N G15 J).bind (fun v18 => jlt v18.2 fun G19 => if v18.1 = 0 then ((p_X6_took_6 N G19 J).bind (fun v22 => jlt v22.2 fun G23 => if v22.1 = 0 then ((p_X6_blames N G23 J (2 : Int32)).bind (fun v26 => jlt v26 fun G27 => if (G27 0 11) = (3 : Int32) then (p_X6_readLine_b166 N J G27) else ((p_X6_blames N G27 J (2 : Int32)).bind (fun v41 => jlt v41 fun G42 => if (G42 0 13) = 0 then ((p_X6_reads N G42 J).bind (fun v45 => jlt v45 fun G46 => if (G46 0 13) = 0 then (jlt (jup G46 2 0 ((G46 2 0) + (1 : Int32))) fun G48 => some G48) else (some G46))) else (p_X6_readLine_b177 N J G42))))) else ((p_X6_readEaten N G23 J).bind (fun v54 => jlt v54 fun G55 => p_X6_readLine_b153 N J G55)))) else ((p_X6_number N G19 J (1 : Int32) (999 : Int32)).bind (fun v72 => jlt v72.2 fun G73 => jlt (jup G73 2 5 v72.1) fun G75 => p_X6_readLine_b153 N J G75)))) else ((p_X6_number N G15 J (0 : Int32) (100 : Int32)).bind (fun v79 => jlt v79.2 fun G80 => jlt (jup G80 2 4 v79.1) fun G82 => p_X6_readLine_b153 N J G82)))) else ((p_X6_readWorth N G11 J).bind (fun v86 => jlt v86 fun G87 => p_X6_readLine_b153 N J G87)))) else ((p_X6_readThing N G5 J).bind (fun v91 => jlt v91 fun G92 => p_X6_readLine_b153 N J G92)))) else ((p_X6_readCoins N G5 J).bind (fun v96 => jlt v96 fun G97 => p_X6_readLine_b153 N J G97))))) else ((p_X6_readPeople N G J).bind (fun v106 => jlt v106 fun G107 => p_X6_readLine_b153 N J G107)))
set_option maxHeartbeats 4000000 in
set_option maxRecDepth 100000 in
theorem t_X6_readLine_b177 {X : jX} {po : Option Value → jH → Prop} {px : String → jH → Prop} {sf : Bool} {B9 : Nat} (hM : jMX X kX6_readLine RX6 tbX6 1 ⟨6, 0, 0, 153⟩ none 16) (hp : jPost X sf B9 po px) (N : Nat) (J : Nat → Nat → Int64) {res : (Nat → Nat → Int32)} (G : Nat → Nat → Int32) (h : p_X6_readLine_b177 N J G = some res) (hq : po none (hMo res J)) : JW X 0 0 177 [some (.ref 0)] [] (hMo G J) := by
  unfold p_X6_readLine_b177 at h
  refine JW.r hM 85 2 (pc2 := 181) (L2 := [some (.ref 0)]) (st2 := [.int (G 0 13)]) (μ2 := (hMo G J)) rfl trivial ?_
  refine js_ifne (t := 194) hM.1 (jat hM.2.1 87 rfl) rfl (fun hc31 => ?_) (fun hc31 => ?_)
  · have h := (if_neg hc31).symm.trans h
    obtain rfl := Option.some.inj h
    exact js_vret hM.1 hp hM.2.2.2.2.2.2.2.1 (by rw [hM.2.2.2.2.2.1]; exact Nat.le_of_ble_eq_true rfl) (by rw [hM.2.2.2.2.2.2.1]; exact Nat.le_of_ble_eq_true rfl) (jat hM.2.1 96 rfl) hq
  · have h := (if_pos hc31).symm.trans h
    obtain ⟨G29, e30, h⟩ := jlE h
    refine JW.r hM 88 8 (pc2 := 194) (L2 := [some (.ref 0)]) (st2 := []) (μ2 := (hMo (jup G 2 0 ((G 2 0) + (1 : Int32))) J)) rfl ⟨rfl, rfl, trivial⟩ ?_
    rw [e30]
    obtain rfl := Option.some.inj h
    exact js_vret hM.1 hp hM.2.2.2.2.2.2.2.1 (by rw [hM.2.2.2.2.2.1]; exact Nat.le_of_ble_eq_true rfl) (by rw [hM.2.2.2.2.2.2.1]; exact Nat.le_of_ble_eq_true rfl) (jat hM.2.1 96 rfl) hq
set_option maxHeartbeats 4000000 in
set_option maxRecDepth 100000 in
theorem t_X6_readLine_b166 {X : jX} {po : Option Value → jH → Prop} {px : String → jH → Prop} {sf : Bool} {B9 : Nat} (hM : jMX X kX6_readLine RX6 tbX6 1 ⟨6, 0, 0, 153⟩ none 16) (hp : jPost X sf B9 po px) (N : Nat) (J : Nat → Nat → Int64) {res : (Nat → Nat → Int32)} (G : Nat → Nat → Int32) (h : p_X6_readLine_b166 N J G = some res) (hq : po none (hMo res J)) : JW X 0 0 166 [some (.ref 0)] [] (hMo G J) := by
  unfold p_X6_readLine_b166 at h
  refine JW.r hM 80 2 (pc2 := 170) (L2 := [some (.ref 0)]) (st2 := [.int (G 0 13)]) (μ2 := (hMo G J)) rfl trivial ?_
  refine js_ifne (t := 177) hM.1 (jat hM.2.1 82 rfl) rfl (fun hc39 => ?_) (fun hc39 => ?_)
  · have h := (if_neg hc39).symm.trans h
    exact t_X6_readLine_b177 hM hp N J G h hq
  · have h := (if_pos hc39).symm.trans h
    refine JW.r hM 83 1 (pc2 := 174) (L2 := [some (.ref 0)]) (st2 := [.ref 0]) (μ2 := (hMo G J)) rfl trivial ?_
    obtain ⟨v33, hv32, h⟩ := jbd h
    refine JW.cV (v := none) hM (m_X6_reads (jVX X) hM.1.2.2.2.2.2.2.2.2.2.1 N G J v33 hv32) (sb_Mo_Mo_0 G J) (bk_Mo_Mo_0 G J v33 J) rfl rfl rfl kc_X6_115 rfl rfl rfl rfl rfl (jat hM.2.1 84 rfl) (st := []) rfl ?_
    show JW X 0 0 177 [some (.ref 0)] [] (hMo v33 J)
    obtain ⟨G34, e35, h⟩ := jlE h
    rw [e35]
    refine JW.r hM 85 2 (pc2 := 181) (L2 := [some (.ref 0)]) (st2 := [.int (G34 0 13)]) (μ2 := (hMo G34 J)) rfl trivial ?_
    refine js_ifne (t := 194) hM.1 (jat hM.2.1 87 rfl) rfl (fun hc38 => ?_) (fun hc38 => ?_)
    · have h := (if_neg hc38).symm.trans h
      obtain rfl := Option.some.inj h
      exact js_vret hM.1 hp hM.2.2.2.2.2.2.2.1 (by rw [hM.2.2.2.2.2.1]; exact Nat.le_of_ble_eq_true rfl) (by rw [hM.2.2.2.2.2.2.1]; exact Nat.le_of_ble_eq_true rfl) (jat hM.2.1 96 rfl) hq
    · have h := (if_pos hc38).symm.trans h
      obtain ⟨G36, e37, h⟩ := jlE h
      refine JW.r hM 88 8 (pc2 := 194) (L2 := [some (.ref 0)]) (st2 := []) (μ2 := (hMo (jup G34 2 0 ((G34 2 0) + (1 : Int32))) J)) rfl ⟨rfl, rfl, trivial⟩ ?_
      rw [e37]
      obtain rfl := Option.some.inj h
      exact js_vret hM.1 hp hM.2.2.2.2.2.2.2.1 (by rw [hM.2.2.2.2.2.1]; exact Nat.le_of_ble_eq_true rfl) (by rw [hM.2.2.2.2.2.2.1]; exact Nat.le_of_ble_eq_true rfl) (jat hM.2.1 96 rfl) hq
set_option maxHeartbeats 4000000 in
set_option maxRecDepth 100000 in
theorem t_X6_readLine_b153 {X : jX} {po : Option Value → jH → Prop} {px : String → jH → Prop} {sf : Bool} {B9 : Nat} (hM : jMX X kX6_readLine RX6 tbX6 1 ⟨6, 0, 0, 153⟩ none 16) (hp : jPost X sf B9 po px) (N : Nat) (J : Nat → Nat → Int64) {res : (Nat → Nat → Int32)} (G : Nat → Nat → Int32) (h : p_X6_readLine_b153 N J G = some res) (hq : po none (hMo res J)) : JW X 0 0 153 [some (.ref 0)] [] (hMo G J) := by
  unfold p_X6_readLine_b153 at h
  refine JW.r hM 73 3 (pc2 := 158) (L2 := [some (.ref 0)]) (st2 := [.int (3 : Int32), .int (G 0 11)]) (μ2 := (hMo G J)) rfl trivial ?_
  refine js_iceq (t := 166) hM.1 (jat hM.2.1 76 rfl) rfl (fun hc69 => ?_) (fun hc69 => ?_)
  · have h := (if_pos hc69).symm.trans h
    exact t_X6_readLine_b166 hM hp N J G h hq
  · have h := (if_neg hc69).symm.trans h
    refine JW.r hM 77 2 (pc2 := 163) (L2 := [some (.ref 0)]) (st2 := [.int (2 : Int32), .ref 0]) (μ2 := (hMo G J)) rfl trivial ?_
    obtain ⟨v58, hv57, h⟩ := jbd h
    refine JW.cV (v := none) hM (m_X6_blames (jVX X) hM.1.2.2.2.2.2.2.2.2.2.1 N G J (2 : Int32) v58 hv57) (sb_Mo_Mo_0 G J) (bk_Mo_Mo_0 G J v58 J) rfl rfl rfl kc_X6_118 rfl rfl rfl rfl rfl (jat hM.2.1 79 rfl) (st := []) rfl ?_
    show JW X 0 0 166 [some (.ref 0)] [] (hMo v58 J)
    obtain ⟨G59, e60, h⟩ := jlE h
    rw [e60]
    refine JW.r hM 80 2 (pc2 := 170) (L2 := [some (.ref 0)]) (st2 := [.int (G59 0 13)]) (μ2 := (hMo G59 J)) rfl trivial ?_
    refine js_ifne (t := 177) hM.1 (jat hM.2.1 82 rfl) rfl (fun hc68 => ?_) (fun hc68 => ?_)
    · have h := (if_neg hc68).symm.trans h
      exact t_X6_readLine_b177 hM hp N J G59 h hq
    · have h := (if_pos hc68).symm.trans h
      refine JW.r hM 83 1 (pc2 := 174) (L2 := [some (.ref 0)]) (st2 := [.ref 0]) (μ2 := (hMo G59 J)) rfl trivial ?_
      obtain ⟨v62, hv61, h⟩ := jbd h
      refine JW.cV (v := none) hM (m_X6_reads (jVX X) hM.1.2.2.2.2.2.2.2.2.2.1 N G59 J v62 hv61) (sb_Mo_Mo_0 G59 J) (bk_Mo_Mo_0 G59 J v62 J) rfl rfl rfl kc_X6_115 rfl rfl rfl rfl rfl (jat hM.2.1 84 rfl) (st := []) rfl ?_
      show JW X 0 0 177 [some (.ref 0)] [] (hMo v62 J)
      obtain ⟨G63, e64, h⟩ := jlE h
      rw [e64]
      refine JW.r hM 85 2 (pc2 := 181) (L2 := [some (.ref 0)]) (st2 := [.int (G63 0 13)]) (μ2 := (hMo G63 J)) rfl trivial ?_
      refine js_ifne (t := 194) hM.1 (jat hM.2.1 87 rfl) rfl (fun hc67 => ?_) (fun hc67 => ?_)
      · have h := (if_neg hc67).symm.trans h
        obtain rfl := Option.some.inj h
        exact js_vret hM.1 hp hM.2.2.2.2.2.2.2.1 (by rw [hM.2.2.2.2.2.1]; exact Nat.le_of_ble_eq_true rfl) (by rw [hM.2.2.2.2.2.2.1]; exact Nat.le_of_ble_eq_true rfl) (jat hM.2.1 96 rfl) hq
      · have h := (if_pos hc67).symm.trans h
        obtain ⟨G65, e66, h⟩ := jlE h
        refine JW.r hM 88 8 (pc2 := 194) (L2 := [some (.ref 0)]) (st2 := []) (μ2 := (hMo (jup G63 2 0 ((G63 2 0) + (1 : Int32))) J)) rfl ⟨rfl, rfl, trivial⟩ ?_
        rw [e66]
        obtain rfl := Option.some.inj h
        exact js_vret hM.1 hp hM.2.2.2.2.2.2.2.1 (by rw [hM.2.2.2.2.2.1]; exact Nat.le_of_ble_eq_true rfl) (by rw [hM.2.2.2.2.2.2.1]; exact Nat.le_of_ble_eq_true rfl) (jat hM.2.1 96 rfl) hq
set_option maxHeartbeats 4000000 in
set_option maxRecDepth 100000 in
theorem t_X6_readLine {X : jX} {po : Option Value → jH → Prop} {px : String → jH → Prop} {sf : Bool} {B9 : Nat} (hM : jMX X kX6_readLine RX6 tbX6 1 ⟨6, 0, 0, 153⟩ none 16) (hp : jPost X sf B9 po px) (N : Nat) (G : Nat → Nat → Int32) (J : Nat → Nat → Int64) {res : (Nat → Nat → Int32)} (h : p_X6_readLine N G J = some res) (hq : po none (hMo res J)) : JW X 0 0 0 [some (.ref 0)] [] (hMo G J) := by
  unfold p_X6_readLine at h
  refine JW.r hM 0 1 (pc2 := 1) (L2 := [some (.ref 0)]) (st2 := [.ref 0]) (μ2 := (hMo G J)) rfl trivial ?_
  refine js_word (w := 0) (tx := "people") hM.1 (by rw [hM.2.2.1]; decide) (jat hM.2.1 1 rfl) ?_
  show JW X 0 0 3 [some (.ref 0)] [.ref 1000000, .ref 0] (hMo G J)
  obtain ⟨v2, hv1, h⟩ := jbd h
  refine JW.cV (v := some (.int v2)) hM (m_X6_isWord_0 (jVX X) hM.1.2.2.2.2.2.2.2.2.2.1 N G J v2 hv1) (sb_Mo_Mo_0 G J) (bi_Mo_Mo_0 G J) rfl rfl rfl kc_X6_111 rfl rfl rfl rfl rfl (jat hM.2.1 2 rfl) (st := []) rfl ?_
  show JW X 0 0 6 [some (.ref 0)] [.int v2] (hMo G J)
  refine js_ifeq (t := 16) hM.1 (jat hM.2.1 3 rfl) rfl (fun hc109 => ?_) (fun hc109 => ?_)
  · have h := (if_pos hc109).symm.trans h
    refine JW.r hM 7 4 (pc2 := 22) (L2 := [some (.ref 0)]) (st2 := [.int (G 2 1)]) (μ2 := (hMo G J)) rfl ⟨rfl, trivial⟩ ?_
    refine js_ifne (t := 33) hM.1 (jat hM.2.1 11 rfl) rfl (fun hc104 => ?_) (fun hc104 => ?_)
    · have h := (if_neg hc104).symm.trans h
      refine JW.r hM 16 1 (pc2 := 34) (L2 := [some (.ref 0)]) (st2 := [.ref 0]) (μ2 := (hMo G J)) rfl trivial ?_
      refine js_word (w := 1) (tx := "coins") hM.1 (by rw [hM.2.2.1]; decide) (jat hM.2.1 17 rfl) ?_
      show JW X 0 0 36 [some (.ref 0)] [.ref 1000001, .ref 0] (hMo G J)
      obtain ⟨v4, hv3, h⟩ := jbd h
      refine JW.cV (v := some (.int v4.1)) hM (m_X6_took_1 (jVX X) hM.1.2.2.2.2.2.2.2.2.2.1 N G J v4 hv3) (sb_Mo_Mo_0 G J) (bk_Mo_Mo_0 G J v4.2 J) rfl rfl rfl kc_X6_145 rfl rfl rfl rfl rfl (jat hM.2.1 18 rfl) (st := []) rfl ?_
      show JW X 0 0 39 [some (.ref 0)] [.int v4.1] (hMo v4.2 J)
      obtain ⟨G5, e6, h⟩ := jlE h
      rw [e6]
      refine js_ifeq (t := 49) hM.1 (jat hM.2.1 19 rfl) rfl (fun hc99 => ?_) (fun hc99 => ?_)
      · have h := (if_pos hc99).symm.trans h
        refine JW.r hM 23 1 (pc2 := 50) (L2 := [some (.ref 0)]) (st2 := [.ref 0]) (μ2 := (hMo G5 J)) rfl trivial ?_
        refine js_word (w := 2) (tx := "thing") hM.1 (by rw [hM.2.2.1]; decide) (jat hM.2.1 24 rfl) ?_
        show JW X 0 0 52 [some (.ref 0)] [.ref 1000002, .ref 0] (hMo G5 J)
        obtain ⟨v8, hv7, h⟩ := jbd h
        refine JW.cV (v := some (.int v8)) hM (m_X6_isWord_2 (jVX X) hM.1.2.2.2.2.2.2.2.2.2.1 N G5 J v8 hv7) (sb_Mo_Mo_0 G5 J) (bi_Mo_Mo_0 G5 J) rfl rfl rfl kc_X6_111 rfl rfl rfl rfl rfl (jat hM.2.1 25 rfl) (st := []) rfl ?_
        show JW X 0 0 55 [some (.ref 0)] [.int v8] (hMo G5 J)
        refine js_ifeq (t := 65) hM.1 (jat hM.2.1 26 rfl) rfl (fun hc94 => ?_) (fun hc94 => ?_)
        · have h := (if_pos hc94).symm.trans h
          refine JW.r hM 30 1 (pc2 := 66) (L2 := [some (.ref 0)]) (st2 := [.ref 0]) (μ2 := (hMo G5 J)) rfl trivial ?_
          refine js_word (w := 3) (tx := "worth") hM.1 (by rw [hM.2.2.1]; decide) (jat hM.2.1 31 rfl) ?_
          show JW X 0 0 68 [some (.ref 0)] [.ref 1000003, .ref 0] (hMo G5 J)
          obtain ⟨v10, hv9, h⟩ := jbd h
          refine JW.cV (v := some (.int v10.1)) hM (m_X6_took_3 (jVX X) hM.1.2.2.2.2.2.2.2.2.2.1 N G5 J v10 hv9) (sb_Mo_Mo_0 G5 J) (bk_Mo_Mo_0 G5 J v10.2 J) rfl rfl rfl kc_X6_145 rfl rfl rfl rfl rfl (jat hM.2.1 32 rfl) (st := []) rfl ?_
          show JW X 0 0 71 [some (.ref 0)] [.int v10.1] (hMo v10.2 J)
          obtain ⟨G11, e12, h⟩ := jlE h
          rw [e12]
          refine js_ifeq (t := 81) hM.1 (jat hM.2.1 33 rfl) rfl (fun hc89 => ?_) (fun hc89 => ?_)
          · have h := (if_pos hc89).symm.trans h
            refine JW.r hM 37 1 (pc2 := 82) (L2 := [some (.ref 0)]) (st2 := [.ref 0]) (μ2 := (hMo G11 J)) rfl trivial ?_
            refine js_word (w := 4) (tx := "share") hM.1 (by rw [hM.2.2.1]; decide) (jat hM.2.1 38 rfl) ?_
            show JW X 0 0 84 [some (.ref 0)] [.ref 1000004, .ref 0] (hMo G11 J)
            obtain ⟨v14, hv13, h⟩ := jbd h
            refine JW.cV (v := some (.int v14.1)) hM (m_X6_took_4 (jVX X) hM.1.2.2.2.2.2.2.2.2.2.1 N G11 J v14 hv13) (sb_Mo_Mo_0 G11 J) (bk_Mo_Mo_0 G11 J v14.2 J) rfl rfl rfl kc_X6_145 rfl rfl rfl rfl rfl (jat hM.2.1 39 rfl) (st := []) rfl ?_
            show JW X 0 0 87 [some (.ref 0)] [.int v14.1] (hMo v14.2 J)
            obtain ⟨G15, e16, h⟩ := jlE h
            rw [e16]
            refine js_ifeq (t := 106) hM.1 (jat hM.2.1 40 rfl) rfl (fun hc84 => ?_) (fun hc84 => ?_)
            · have h := (if_pos hc84).symm.trans h
              refine JW.r hM 50 1 (pc2 := 107) (L2 := [some (.ref 0)]) (st2 := [.ref 0]) (μ2 := (hMo G15 J)) rfl trivial ?_
              refine js_word (w := 5) (tx := "bell") hM.1 (by rw [hM.2.2.1]; decide) (jat hM.2.1 51 rfl) ?_
              show JW X 0 0 109 [some (.ref 0)] [.ref 1000005, .ref 0] (hMo G15 J)
              obtain ⟨v18, hv17, h⟩ := jbd h
              refine JW.cV (v := some (.int v18.1)) hM (m_X6_took_5 (jVX X) hM.1.2.2.2.2.2.2.2.2.2.1 N G15 J v18 hv17) (sb_Mo_Mo_0 G15 J) (bk_Mo_Mo_0 G15 J v18.2 J) rfl rfl rfl kc_X6_145 rfl rfl rfl rfl rfl (jat hM.2.1 52 rfl) (st := []) rfl ?_
              show JW X 0 0 112 [some (.ref 0)] [.int v18.1] (hMo v18.2 J)
              obtain ⟨G19, e20, h⟩ := jlE h
              rw [e20]
              refine js_ifeq (t := 132) hM.1 (jat hM.2.1 53 rfl) rfl (fun hc77 => ?_) (fun hc77 => ?_)
              · have h := (if_pos hc77).symm.trans h
                refine JW.r hM 63 1 (pc2 := 133) (L2 := [some (.ref 0)]) (st2 := [.ref 0]) (μ2 := (hMo G19 J)) rfl trivial ?_
                refine js_word (w := 6) (tx := "eaten") hM.1 (by rw [hM.2.2.1]; decide) (jat hM.2.1 64 rfl) ?_
                show JW X 0 0 135 [some (.ref 0)] [.ref 1000006, .ref 0] (hMo G19 J)
                obtain ⟨v22, hv21, h⟩ := jbd h
                refine JW.cV (v := some (.int v22.1)) hM (m_X6_took_6 (jVX X) hM.1.2.2.2.2.2.2.2.2.2.1 N G19 J v22 hv21) (sb_Mo_Mo_0 G19 J) (bk_Mo_Mo_0 G19 J v22.2 J) rfl rfl rfl kc_X6_145 rfl rfl rfl rfl rfl (jat hM.2.1 65 rfl) (st := []) rfl ?_
                show JW X 0 0 138 [some (.ref 0)] [.int v22.1] (hMo v22.2 J)
                obtain ⟨G23, e24, h⟩ := jlE h
                rw [e24]
                refine js_ifeq (t := 148) hM.1 (jat hM.2.1 66 rfl) rfl (fun hc70 => ?_) (fun hc70 => ?_)
                · have h := (if_pos hc70).symm.trans h
                  refine JW.r hM 70 2 (pc2 := 150) (L2 := [some (.ref 0)]) (st2 := [.int (2 : Int32), .ref 0]) (μ2 := (hMo G23 J)) rfl trivial ?_
                  obtain ⟨v26, hv25, h⟩ := jbd h
                  refine JW.cV (v := none) hM (m_X6_blames (jVX X) hM.1.2.2.2.2.2.2.2.2.2.1 N G23 J (2 : Int32) v26 hv25) (sb_Mo_Mo_0 G23 J) (bk_Mo_Mo_0 G23 J v26 J) rfl rfl rfl kc_X6_118 rfl rfl rfl rfl rfl (jat hM.2.1 72 rfl) (st := []) rfl ?_
                  show JW X 0 0 153 [some (.ref 0)] [] (hMo v26 J)
                  obtain ⟨G27, e28, h⟩ := jlE h
                  rw [e28]
                  refine JW.r hM 73 3 (pc2 := 158) (L2 := [some (.ref 0)]) (st2 := [.int (3 : Int32), .int (G27 0 11)]) (μ2 := (hMo G27 J)) rfl trivial ?_
                  refine js_iceq (t := 166) hM.1 (jat hM.2.1 76 rfl) rfl (fun hc52 => ?_) (fun hc52 => ?_)
                  · have h := (if_pos hc52).symm.trans h
                    exact t_X6_readLine_b166 hM hp N J G27 h hq
                  · have h := (if_neg hc52).symm.trans h
                    refine JW.r hM 77 2 (pc2 := 163) (L2 := [some (.ref 0)]) (st2 := [.int (2 : Int32), .ref 0]) (μ2 := (hMo G27 J)) rfl trivial ?_
                    obtain ⟨v41, hv40, h⟩ := jbd h
                    refine JW.cV (v := none) hM (m_X6_blames (jVX X) hM.1.2.2.2.2.2.2.2.2.2.1 N G27 J (2 : Int32) v41 hv40) (sb_Mo_Mo_0 G27 J) (bk_Mo_Mo_0 G27 J v41 J) rfl rfl rfl kc_X6_118 rfl rfl rfl rfl rfl (jat hM.2.1 79 rfl) (st := []) rfl ?_
                    show JW X 0 0 166 [some (.ref 0)] [] (hMo v41 J)
                    obtain ⟨G42, e43, h⟩ := jlE h
                    rw [e43]
                    refine JW.r hM 80 2 (pc2 := 170) (L2 := [some (.ref 0)]) (st2 := [.int (G42 0 13)]) (μ2 := (hMo G42 J)) rfl trivial ?_
                    refine js_ifne (t := 177) hM.1 (jat hM.2.1 82 rfl) rfl (fun hc51 => ?_) (fun hc51 => ?_)
                    · have h := (if_neg hc51).symm.trans h
                      exact t_X6_readLine_b177 hM hp N J G42 h hq
                    · have h := (if_pos hc51).symm.trans h
                      refine JW.r hM 83 1 (pc2 := 174) (L2 := [some (.ref 0)]) (st2 := [.ref 0]) (μ2 := (hMo G42 J)) rfl trivial ?_
                      obtain ⟨v45, hv44, h⟩ := jbd h
                      refine JW.cV (v := none) hM (m_X6_reads (jVX X) hM.1.2.2.2.2.2.2.2.2.2.1 N G42 J v45 hv44) (sb_Mo_Mo_0 G42 J) (bk_Mo_Mo_0 G42 J v45 J) rfl rfl rfl kc_X6_115 rfl rfl rfl rfl rfl (jat hM.2.1 84 rfl) (st := []) rfl ?_
                      show JW X 0 0 177 [some (.ref 0)] [] (hMo v45 J)
                      obtain ⟨G46, e47, h⟩ := jlE h
                      rw [e47]
                      refine JW.r hM 85 2 (pc2 := 181) (L2 := [some (.ref 0)]) (st2 := [.int (G46 0 13)]) (μ2 := (hMo G46 J)) rfl trivial ?_
                      refine js_ifne (t := 194) hM.1 (jat hM.2.1 87 rfl) rfl (fun hc50 => ?_) (fun hc50 => ?_)
                      · have h := (if_neg hc50).symm.trans h
                        obtain rfl := Option.some.inj h
                        exact js_vret hM.1 hp hM.2.2.2.2.2.2.2.1 (by rw [hM.2.2.2.2.2.1]; exact Nat.le_of_ble_eq_true rfl) (by rw [hM.2.2.2.2.2.2.1]; exact Nat.le_of_ble_eq_true rfl) (jat hM.2.1 96 rfl) hq
                      · have h := (if_pos hc50).symm.trans h
                        obtain ⟨G48, e49, h⟩ := jlE h
                        refine JW.r hM 88 8 (pc2 := 194) (L2 := [some (.ref 0)]) (st2 := []) (μ2 := (hMo (jup G46 2 0 ((G46 2 0) + (1 : Int32))) J)) rfl ⟨rfl, rfl, trivial⟩ ?_
                        rw [e49]
                        obtain rfl := Option.some.inj h
                        exact js_vret hM.1 hp hM.2.2.2.2.2.2.2.1 (by rw [hM.2.2.2.2.2.1]; exact Nat.le_of_ble_eq_true rfl) (by rw [hM.2.2.2.2.2.2.1]; exact Nat.le_of_ble_eq_true rfl) (jat hM.2.1 96 rfl) hq
                · have h := (if_neg hc70).symm.trans h
                  refine JW.r hM 67 1 (pc2 := 142) (L2 := [some (.ref 0)]) (st2 := [.ref 0]) (μ2 := (hMo G23 J)) rfl trivial ?_
                  obtain ⟨v54, hv53, h⟩ := jbd h
                  refine JW.cV (v := none) hM (m_X6_readEaten (jVX X) hM.1.2.2.2.2.2.2.2.2.2.1 N G23 J v54 hv53) (sb_Mo_Mo_0 G23 J) (bk_Mo_Mo_0 G23 J v54 J) rfl rfl rfl kc_X6_167 rfl rfl rfl rfl rfl (jat hM.2.1 68 rfl) (st := []) rfl ?_
                  show JW X 0 0 145 [some (.ref 0)] [] (hMo v54 J)
                  obtain ⟨G55, e56, h⟩ := jlE h
                  rw [e56]
                  refine JW.r hM 69 1 (pc2 := 153) (L2 := [some (.ref 0)]) (st2 := []) (μ2 := (hMo G55 J)) rfl trivial ?_
                  exact t_X6_readLine_b153 hM hp N J G55 h hq
              · have h := (if_neg hc77).symm.trans h
                refine JW.r hM 54 6 (pc2 := 125) (L2 := [some (.ref 0)]) (st2 := [.int (999 : Int32), .int (1 : Int32), .ref 0, .int (5 : Int32), .ref 2]) (μ2 := (hMo G19 J)) rfl trivial ?_
                obtain ⟨v72, hv71, h⟩ := jbd h
                refine JW.cV (v := some (.int v72.1)) hM (m_X6_number (jVX X) hM.1.2.2.2.2.2.2.2.2.2.1 N G19 J (1 : Int32) (999 : Int32) v72 hv71) (sb_Mo_Mo_0 G19 J) (bk_Mo_Mo_0 G19 J v72.2 J) rfl rfl rfl kc_X6_126 rfl rfl rfl rfl rfl (jat hM.2.1 60 rfl) (st := [.int (5 : Int32), .ref 2]) rfl ?_
                show JW X 0 0 128 [some (.ref 0)] [.int v72.1, .int (5 : Int32), .ref 2] (hMo v72.2 J)
                obtain ⟨G73, e74, h⟩ := jlE h
                rw [e74]
                obtain ⟨G75, e76, h⟩ := jlE h
                refine JW.r hM 61 1 (pc2 := 129) (L2 := [some (.ref 0)]) (st2 := []) (μ2 := (hMo (jup G73 2 5 v72.1) J)) rfl ⟨rfl, trivial⟩ ?_
                rw [e76]
                refine JW.r hM 62 1 (pc2 := 153) (L2 := [some (.ref 0)]) (st2 := []) (μ2 := (hMo G75 J)) rfl trivial ?_
                exact t_X6_readLine_b153 hM hp N J G75 h hq
            · have h := (if_neg hc84).symm.trans h
              refine JW.r hM 41 6 (pc2 := 99) (L2 := [some (.ref 0)]) (st2 := [.int (100 : Int32), .int (0 : Int32), .ref 0, .int (4 : Int32), .ref 2]) (μ2 := (hMo G15 J)) rfl trivial ?_
              obtain ⟨v79, hv78, h⟩ := jbd h
              refine JW.cV (v := some (.int v79.1)) hM (m_X6_number (jVX X) hM.1.2.2.2.2.2.2.2.2.2.1 N G15 J (0 : Int32) (100 : Int32) v79 hv78) (sb_Mo_Mo_0 G15 J) (bk_Mo_Mo_0 G15 J v79.2 J) rfl rfl rfl kc_X6_126 rfl rfl rfl rfl rfl (jat hM.2.1 47 rfl) (st := [.int (4 : Int32), .ref 2]) rfl ?_
              show JW X 0 0 102 [some (.ref 0)] [.int v79.1, .int (4 : Int32), .ref 2] (hMo v79.2 J)
              obtain ⟨G80, e81, h⟩ := jlE h
              rw [e81]
              obtain ⟨G82, e83, h⟩ := jlE h
              refine JW.r hM 48 1 (pc2 := 103) (L2 := [some (.ref 0)]) (st2 := []) (μ2 := (hMo (jup G80 2 4 v79.1) J)) rfl ⟨rfl, trivial⟩ ?_
              rw [e83]
              refine JW.r hM 49 1 (pc2 := 153) (L2 := [some (.ref 0)]) (st2 := []) (μ2 := (hMo G82 J)) rfl trivial ?_
              exact t_X6_readLine_b153 hM hp N J G82 h hq
          · have h := (if_neg hc89).symm.trans h
            refine JW.r hM 34 1 (pc2 := 75) (L2 := [some (.ref 0)]) (st2 := [.ref 0]) (μ2 := (hMo G11 J)) rfl trivial ?_
            obtain ⟨v86, hv85, h⟩ := jbd h
            refine JW.cV (v := none) hM (m_X6_readWorth (jVX X) hM.1.2.2.2.2.2.2.2.2.2.1 N G11 J v86 hv85) (sb_Mo_Mo_0 G11 J) (bk_Mo_Mo_0 G11 J v86 J) rfl rfl rfl kc_X6_158 rfl rfl rfl rfl rfl (jat hM.2.1 35 rfl) (st := []) rfl ?_
            show JW X 0 0 78 [some (.ref 0)] [] (hMo v86 J)
            obtain ⟨G87, e88, h⟩ := jlE h
            rw [e88]
            refine JW.r hM 36 1 (pc2 := 153) (L2 := [some (.ref 0)]) (st2 := []) (μ2 := (hMo G87 J)) rfl trivial ?_
            exact t_X6_readLine_b153 hM hp N J G87 h hq
        · have h := (if_neg hc94).symm.trans h
          refine JW.r hM 27 1 (pc2 := 59) (L2 := [some (.ref 0)]) (st2 := [.ref 0]) (μ2 := (hMo G5 J)) rfl trivial ?_
          obtain ⟨v91, hv90, h⟩ := jbd h
          refine JW.cV (v := none) hM (m_X6_readThing (jVX X) hM.1.2.2.2.2.2.2.2.2.2.1 N G5 J v91 hv90) (sb_Mo_Mo_0 G5 J) (bk_Mo_Mo_0 G5 J v91 J) rfl rfl rfl kc_X6_153 rfl rfl rfl rfl rfl (jat hM.2.1 28 rfl) (st := []) rfl ?_
          show JW X 0 0 62 [some (.ref 0)] [] (hMo v91 J)
          obtain ⟨G92, e93, h⟩ := jlE h
          rw [e93]
          refine JW.r hM 29 1 (pc2 := 153) (L2 := [some (.ref 0)]) (st2 := []) (μ2 := (hMo G92 J)) rfl trivial ?_
          exact t_X6_readLine_b153 hM hp N J G92 h hq
      · have h := (if_neg hc99).symm.trans h
        refine JW.r hM 20 1 (pc2 := 43) (L2 := [some (.ref 0)]) (st2 := [.ref 0]) (μ2 := (hMo G5 J)) rfl trivial ?_
        obtain ⟨v96, hv95, h⟩ := jbd h
        refine JW.cV (v := none) hM (m_X6_readCoins (jVX X) hM.1.2.2.2.2.2.2.2.2.2.1 N G5 J v96 hv95) (sb_Mo_Mo_0 G5 J) (bk_Mo_Mo_0 G5 J v96 J) rfl rfl rfl kc_X6_148 rfl rfl rfl rfl rfl (jat hM.2.1 21 rfl) (st := []) rfl ?_
        show JW X 0 0 46 [some (.ref 0)] [] (hMo v96 J)
        obtain ⟨G97, e98, h⟩ := jlE h
        rw [e98]
        refine JW.r hM 22 1 (pc2 := 153) (L2 := [some (.ref 0)]) (st2 := []) (μ2 := (hMo G97 J)) rfl trivial ?_
        exact t_X6_readLine_b153 hM hp N J G97 h hq
    · have h := (if_pos hc104).symm.trans h
      refine JW.r hM 12 2 (pc2 := 27) (L2 := [some (.ref 0)]) (st2 := [.int (2 : Int32), .ref 0]) (μ2 := (hMo G J)) rfl trivial ?_
      obtain ⟨v101, hv100, h⟩ := jbd h
      refine JW.cV (v := none) hM (m_X6_blames (jVX X) hM.1.2.2.2.2.2.2.2.2.2.1 N G J (2 : Int32) v101 hv100) (sb_Mo_Mo_0 G J) (bk_Mo_Mo_0 G J v101 J) rfl rfl rfl kc_X6_118 rfl rfl rfl rfl rfl (jat hM.2.1 14 rfl) (st := []) rfl ?_
      show JW X 0 0 30 [some (.ref 0)] [] (hMo v101 J)
      obtain ⟨G102, e103, h⟩ := jlE h
      rw [e103]
      refine JW.r hM 15 1 (pc2 := 153) (L2 := [some (.ref 0)]) (st2 := []) (μ2 := (hMo G102 J)) rfl trivial ?_
      exact t_X6_readLine_b153 hM hp N J G102 h hq
  · have h := (if_neg hc109).symm.trans h
    refine JW.r hM 4 1 (pc2 := 10) (L2 := [some (.ref 0)]) (st2 := [.ref 0]) (μ2 := (hMo G J)) rfl trivial ?_
    obtain ⟨v106, hv105, h⟩ := jbd h
    refine JW.cV (v := none) hM (m_X6_readPeople (jVX X) hM.1.2.2.2.2.2.2.2.2.2.1 N G J v106 hv105) (sb_Mo_Mo_0 G J) (bk_Mo_Mo_0 G J v106 J) rfl rfl rfl kc_X6_140 rfl rfl rfl rfl rfl (jat hM.2.1 5 rfl) (st := []) rfl ?_
    show JW X 0 0 13 [some (.ref 0)] [] (hMo v106 J)
    obtain ⟨G107, e108, h⟩ := jlE h
    rw [e108]
    refine JW.r hM 6 1 (pc2 := 153) (L2 := [some (.ref 0)]) (st2 := []) (μ2 := (hMo G107 J)) rfl trivial ?_
    exact t_X6_readLine_b153 hM hp N J G107 h hq
theorem m_X6_readLine (V : jV) (hV : V.1.stackTraces = false) (N : Nat) (G : Nat → Nat → Int32) (J : Nat → Nat → Int64) (v : (Nat → Nat → Int32)) (h : p_X6_readLine N G J = some v) : jMet V yX6_readLine (jws yX6_readLine cX6_readLine 1 none) ⟨6, 0, 0, 153⟩ true 1 [.ref 0] (hMo G J) (fun o ν => o = none ∧ ν = (hMo v J)) (fun _ _ => False) := by
  refine jmk (tb := tbX6) (C := kX6_readLine) hV rfl (by decide) tbX6_ok rfl kX6_readLine_ok rfl ?_
  intro X hM _ hp _
  exact t_X6_readLine hM hp N G J h ⟨rfl, rfl⟩
def p_X6_town_b101 (N : Nat) (J : Nat → Nat → Int64) (G : Nat → Nat → Int32) (s0 : Int32) : Option (Int32 × (Nat → Nat → Int32)) :=
  jlt (jup G 0 16 s0) fun G23 => if (G23 0 13) = 0 then ((p_X6_copies N (jv2 G23 2 1 1)).bind (fun v26 => jlt (jp2 G23 2 1 1 1 v26) fun G27 => some ((G27 1 0), G27))) else (some (((-10 : Int32) - (G23 0 13)), G23))
def p_X6_town_b77 (N : Nat) (J : Nat → Nat → Int64) (G : Nat → Nat → Int32) : Option (Int32 × (Nat → Nat → Int32)) :=
  jlt (jup G 0 15 (G 0 13)) fun G21 => if (G21 0 13) = 0 then (p_X6_town_b101 N J G21 (-1 : Int32)) else (p_X6_town_b101 N J G21 (G21 0 14))
def p_X6_town_b56 (N : Nat) (J : Nat → Nat → Int64) : Nat → (Nat → Nat → Int32) → Option (Int32 × (Nat → Nat → Int32))
  | 0, _ => none
  | n + 1, G => if (G 0 13) = 0 then (if (G 0 11) = 0 then (p_X6_town_b77 N J G) else ((p_X6_readLine N G J).bind (fun v36 => jlt v36 fun G37 => (p_X6_town_b56 N J n) G37))) else (p_X6_town_b77 N J G)
def p_X6_town (N : Nat) (G : Nat → Nat → Int32) (J : Nat → Nat → Int64) (p0 : Int32) : Option (Int32 × (Nat → Nat → Int32)) :=
  jlt (jup G 0 5 (0 : Int32)) fun G1 => (p_X6_within N (p0.toInt64) (0 : Int64) ((G1 0 7).toInt64)).bind (fun v4 => if v4 = 0 then ((p_X6_fails N G1 J (1 : Int32)).bind (fun v44 => jlt v44.2 fun G45 => some (v44.1, G45))) else (jlt (jup G1 0 8 p0) fun G5 => jlt (jup G5 0 7 (0 : Int32)) fun G7 => jlt (jup G7 0 9 (0 : Int32)) fun G9 => jlt (jup G9 0 13 (0 : Int32)) fun G11 => (p_X6_begins N (jvw G11 2)).bind (fun v14 => jlt (jpt G11 2 1 v14) fun G15 => (p_X6_reads N G15 J).bind (fun v18 => jlt v18 fun G19 => if (G19 0 13) = 0 then (if (G19 0 11) = 0 then (p_X6_town_b77 N J G19) else ((p_X6_readLine N G19 J).bind (fun v32 => jlt v32 fun G33 => p_X6_town_b56 N J N G33))) else (p_X6_town_b77 N J G19)))))
set_option maxHeartbeats 4000000 in
set_option maxRecDepth 100000 in
theorem t_X6_town_b101 {X : jX} {po : Option Value → jH → Prop} {px : String → jH → Prop} {sf : Bool} {B9 : Nat} (hM : jMX X kX6_town RX6 tbX6 2 ⟨7, 0, 0, 173⟩ (some .int) 16) (hp : jPost X sf B9 po px) (N : Nat) (J : Nat → Nat → Int64) {res : Int32 × (Nat → Nat → Int32)} (G : Nat → Nat → Int32) (s0 : Int32) (h : p_X6_town_b101 N J G s0 = some res) (hq : po (some (.int res.1)) (hMo res.2 J)) : JW X 0 0 101 [some (.ref 0), none] [.int s0, .ref 0] (hMo G J) := by
  unfold p_X6_town_b101 at h
  obtain ⟨G23, e24, h⟩ := jlE h
  refine JW.r hM 53 1 (pc2 := 104) (L2 := [some (.ref 0), none]) (st2 := []) (μ2 := (hMo (jup G 0 16 s0) J)) rfl trivial ?_
  rw [e24]
  refine JW.r hM 54 2 (pc2 := 108) (L2 := [some (.ref 0), none]) (st2 := [.int (G23 0 13)]) (μ2 := (hMo G23 J)) rfl trivial ?_
  refine js_ifeq (t := 119) hM.1 (jat hM.2.1 56 rfl) rfl (fun hc29 => ?_) (fun hc29 => ?_)
  · have h := (if_pos hc29).symm.trans h
    refine JW.r hM 62 4 (pc2 := 127) (L2 := [some (.ref 0), none]) (st2 := [.ref 1, .ref 2]) (μ2 := (hMo G23 J)) rfl trivial ?_
    obtain ⟨v26, hv25, h⟩ := jbd h
    refine JW.cS (v := none) hM (m_X6_copies (jVX X) hM.1.2.2.2.2.2.2.2.2.2.1 N (jv2 G23 2 1 1) v26 hv25) (sb_Mo_B264_2_1 G23 J) (bk_Mo_B264_2_1 G23 J v26) rfl rfl rfl kc_X6_179 rfl rfl rfl (jat hM.2.1 66 rfl) (st := []) rfl ?_
    show JW X 0 0 130 [some (.ref 0), none] [] (hMo (jp2 G23 2 1 1 1 v26) J)
    obtain ⟨G27, e28, h⟩ := jlE h
    rw [e28]
    refine JW.r hM 67 4 (pc2 := 136) (L2 := [some (.ref 0), none]) (st2 := [.int (G27 1 0)]) (μ2 := (hMo G27 J)) rfl ⟨rfl, trivial⟩ ?_
    obtain rfl := Option.some.inj h
    exact js_iret hM.1 hp hM.2.2.2.2.2.2.2.1 (by rw [hM.2.2.2.2.2.1]; exact Nat.le_of_ble_eq_true rfl) (by rw [hM.2.2.2.2.2.2.1]; exact Nat.le_of_ble_eq_true rfl) (jat hM.2.1 71 rfl) hq
  · have h := (if_neg hc29).symm.trans h
    refine JW.r hM 57 4 (pc2 := 118) (L2 := [some (.ref 0), none]) (st2 := [.int ((-10 : Int32) - (G23 0 13))]) (μ2 := (hMo G23 J)) rfl trivial ?_
    obtain rfl := Option.some.inj h
    exact js_iret hM.1 hp hM.2.2.2.2.2.2.2.1 (by rw [hM.2.2.2.2.2.1]; exact Nat.le_of_ble_eq_true rfl) (by rw [hM.2.2.2.2.2.2.1]; exact Nat.le_of_ble_eq_true rfl) (jat hM.2.1 61 rfl) hq
set_option maxHeartbeats 4000000 in
set_option maxRecDepth 100000 in
theorem t_X6_town_b77 {X : jX} {po : Option Value → jH → Prop} {px : String → jH → Prop} {sf : Bool} {B9 : Nat} (hM : jMX X kX6_town RX6 tbX6 2 ⟨7, 0, 0, 173⟩ (some .int) 16) (hp : jPost X sf B9 po px) (N : Nat) (J : Nat → Nat → Int64) {res : Int32 × (Nat → Nat → Int32)} (G : Nat → Nat → Int32) (h : p_X6_town_b77 N J G = some res) (hq : po (some (.int res.1)) (hMo res.2 J)) : JW X 0 0 77 [some (.ref 0), none] [] (hMo G J) := by
  unfold p_X6_town_b77 at h
  obtain ⟨G21, e22, h⟩ := jlE h
  refine JW.r hM 41 4 (pc2 := 85) (L2 := [some (.ref 0), none]) (st2 := []) (μ2 := (hMo (jup G 0 15 (G 0 13)) J)) rfl trivial ?_
  rw [e22]
  refine JW.r hM 45 3 (pc2 := 90) (L2 := [some (.ref 0), none]) (st2 := [.int (G21 0 13), .ref 0]) (μ2 := (hMo G21 J)) rfl trivial ?_
  refine js_ifne (t := 97) hM.1 (jat hM.2.1 48 rfl) rfl (fun hc30 => ?_) (fun hc30 => ?_)
  · have h := (if_neg hc30).symm.trans h
    refine JW.r hM 51 2 (pc2 := 101) (L2 := [some (.ref 0), none]) (st2 := [.int (G21 0 14), .ref 0]) (μ2 := (hMo G21 J)) rfl trivial ?_
    exact t_X6_town_b101 hM hp N J G21 (G21 0 14) h hq
  · have h := (if_pos hc30).symm.trans h
    refine JW.r hM 49 2 (pc2 := 101) (L2 := [some (.ref 0), none]) (st2 := [.int (-1 : Int32), .ref 0]) (μ2 := (hMo G21 J)) rfl trivial ?_
    exact t_X6_town_b101 hM hp N J G21 (-1 : Int32) h hq
set_option maxHeartbeats 4000000 in
set_option maxRecDepth 100000 in
theorem t_X6_town_b56 {X : jX} {po : Option Value → jH → Prop} {px : String → jH → Prop} {sf : Bool} {B9 : Nat} (hM : jMX X kX6_town RX6 tbX6 2 ⟨7, 0, 0, 173⟩ (some .int) 16) (hp : jPost X sf B9 po px) (N : Nat) (J : Nat → Nat → Int64) {res : Int32 × (Nat → Nat → Int32)} : ∀ (n : Nat) (G : Nat → Nat → Int32) (h : p_X6_town_b56 N J n G = some res) (hq : po (some (.int res.1)) (hMo res.2 J)), JW X 0 0 56 [some (.ref 0), none] [] (hMo G J) := by
  intro n
  induction n with
  | zero =>
    intro G h hq
    cases (show (none : Option (Int32 × (Nat → Nat → Int32))) = some res from h)
  | succ n ih56 =>
    intro G h hq
    have ih56 := fun G h9 => ih56 G h9 hq
    rw [p_X6_town_b56] at h
    refine JW.r hM 32 2 (pc2 := 60) (L2 := [some (.ref 0), none]) (st2 := [.int (G 0 13)]) (μ2 := (hMo G J)) rfl trivial ?_
    refine js_ifne (t := 77) hM.1 (jat hM.2.1 34 rfl) rfl (fun hc40 => ?_) (fun hc40 => ?_)
    · have h := (if_neg hc40).symm.trans h
      exact t_X6_town_b77 hM hp N J G h hq
    · have h := (if_pos hc40).symm.trans h
      refine JW.r hM 35 2 (pc2 := 67) (L2 := [some (.ref 0), none]) (st2 := [.int (G 0 11)]) (μ2 := (hMo G J)) rfl trivial ?_
      refine js_ifeq (t := 77) hM.1 (jat hM.2.1 37 rfl) rfl (fun hc39 => ?_) (fun hc39 => ?_)
      · have h := (if_pos hc39).symm.trans h
        exact t_X6_town_b77 hM hp N J G h hq
      · have h := (if_neg hc39).symm.trans h
        refine JW.r hM 38 1 (pc2 := 71) (L2 := [some (.ref 0), none]) (st2 := [.ref 0]) (μ2 := (hMo G J)) rfl trivial ?_
        obtain ⟨v36, hv35, h⟩ := jbd h
        refine JW.cV (v := none) hM (m_X6_readLine (jVX X) hM.1.2.2.2.2.2.2.2.2.2.1 N G J v36 hv35) (sb_Mo_Mo_0 G J) (bk_Mo_Mo_0 G J v36 J) rfl rfl rfl kc_X6_173 rfl rfl rfl rfl rfl (jat hM.2.1 39 rfl) (st := []) rfl ?_
        show JW X 0 0 74 [some (.ref 0), none] [] (hMo v36 J)
        obtain ⟨G37, e38, h⟩ := jlE h
        rw [e38]
        refine JW.r hM 40 1 (pc2 := 56) (L2 := [some (.ref 0), none]) (st2 := []) (μ2 := (hMo G37 J)) rfl trivial ?_
        exact ih56 G37 h
set_option maxHeartbeats 4000000 in
set_option maxRecDepth 100000 in
theorem t_X6_town {X : jX} {po : Option Value → jH → Prop} {px : String → jH → Prop} {sf : Bool} {B9 : Nat} (hM : jMX X kX6_town RX6 tbX6 2 ⟨7, 0, 0, 173⟩ (some .int) 16) (hp : jPost X sf B9 po px) (N : Nat) (G : Nat → Nat → Int32) (J : Nat → Nat → Int64) (p0 : Int32) {res : Int32 × (Nat → Nat → Int32)} (h : p_X6_town N G J p0 = some res) (hq : po (some (.int res.1)) (hMo res.2 J)) : JW X 0 0 0 [some (.ref 0), some (.int p0)] [] (hMo G J) := by
  unfold p_X6_town at h
  obtain ⟨G1, e2, h⟩ := jlE h
  refine JW.r hM 0 3 (pc2 := 5) (L2 := [some (.ref 0), some (.int p0)]) (st2 := []) (μ2 := (hMo (jup G 0 5 (0 : Int32)) J)) rfl trivial ?_
  rw [e2]
  refine JW.r hM 3 6 (pc2 := 13) (L2 := [some (.ref 0), some (.int p0)]) (st2 := [.long ((G1 0 7).toInt64), .long (0 : Int64), .long (p0.toInt64)]) (μ2 := (hMo G1 J)) rfl trivial ?_
  obtain ⟨v4, hv3, h⟩ := jbd h
  refine JW.cS (v := some (.int v4)) hM (m_X6_within (jVX X) hM.1.2.2.2.2.2.2.2.2.2.1 N (p0.toInt64) (0 : Int64) ((G1 0 7).toInt64) v4 hv3) (sb_Mo_E_ G1 J) (bi_Mo_E_ G1 J) rfl rfl rfl kc_X6_122 rfl rfl rfl (jat hM.2.1 9 rfl) (st := []) rfl ?_
  show JW X 0 0 16 [some (.ref 0), some (.int p0)] [.int v4] (hMo G1 J)
  refine js_ifne (t := 25) hM.1 (jat hM.2.1 10 rfl) rfl (fun hc47 => ?_) (fun hc47 => ?_)
  · have h := (if_neg hc47).symm.trans h
    obtain ⟨G5, e6, h⟩ := jlE h
    refine JW.r hM 15 3 (pc2 := 30) (L2 := [some (.ref 0), some (.int p0)]) (st2 := []) (μ2 := (hMo (jup G1 0 8 p0) J)) rfl trivial ?_
    rw [e6]
    obtain ⟨G7, e8, h⟩ := jlE h
    refine JW.r hM 18 3 (pc2 := 35) (L2 := [some (.ref 0), some (.int p0)]) (st2 := []) (μ2 := (hMo (jup G5 0 7 (0 : Int32)) J)) rfl trivial ?_
    rw [e8]
    obtain ⟨G9, e10, h⟩ := jlE h
    refine JW.r hM 21 3 (pc2 := 40) (L2 := [some (.ref 0), some (.int p0)]) (st2 := []) (μ2 := (hMo (jup G7 0 9 (0 : Int32)) J)) rfl trivial ?_
    rw [e10]
    obtain ⟨G11, e12, h⟩ := jlE h
    refine JW.r hM 24 3 (pc2 := 45) (L2 := [some (.ref 0), some (.int p0)]) (st2 := []) (μ2 := (hMo (jup G9 0 13 (0 : Int32)) J)) rfl trivial ?_
    rw [e12]
    refine JW.r hM 27 2 (pc2 := 49) (L2 := [some (.ref 0), some (.int p0)]) (st2 := [.ref 2]) (μ2 := (hMo G11 J)) rfl trivial ?_
    obtain ⟨v14, hv13, h⟩ := jbd h
    refine JW.cS (v := none) hM (m_X6_begins (jVX X) hM.1.2.2.2.2.2.2.2.2.2.1 N (jvw G11 2) v14 hv13) (sb_Mo_A264_2 G11 J) (bk_Mo_A264_2 G11 J v14) rfl rfl rfl kc_X6_59 rfl rfl rfl (jat hM.2.1 29 rfl) (st := []) rfl ?_
    show JW X 0 0 52 [some (.ref 0), some (.int p0)] [] (hMo (jpt G11 2 1 v14) J)
    obtain ⟨G15, e16, h⟩ := jlE h
    rw [e16]
    refine JW.r hM 30 1 (pc2 := 53) (L2 := [some (.ref 0), some (.int p0)]) (st2 := [.ref 0]) (μ2 := (hMo G15 J)) rfl trivial ?_
    obtain ⟨v18, hv17, h⟩ := jbd h
    refine JW.cV (v := none) hM (m_X6_reads (jVX X) hM.1.2.2.2.2.2.2.2.2.2.1 N G15 J v18 hv17) (sb_Mo_Mo_0 G15 J) (bk_Mo_Mo_0 G15 J v18 J) rfl rfl rfl kc_X6_115 rfl rfl rfl rfl rfl (jat hM.2.1 31 rfl) (st := []) rfl ?_
    show JW X 0 0 56 [some (.ref 0), some (.int p0)] [] (hMo v18 J)
    obtain ⟨G19, e20, h⟩ := jlE h
    rw [e20]
    refine JW.r hM 32 2 (pc2 := 60) (L2 := [some (.ref 0), some (.int p0)]) (st2 := [.int (G19 0 13)]) (μ2 := (hMo G19 J)) rfl trivial ?_
    refine js_ifne (t := 77) hM.1 (jat hM.2.1 34 rfl) rfl (fun hc42 => ?_) (fun hc42 => ?_)
    · have h := (if_neg hc42).symm.trans h
      exact JW.mask [true, false] (t_X6_town_b77 hM hp N J G19 h hq)
    · have h := (if_pos hc42).symm.trans h
      refine JW.r hM 35 2 (pc2 := 67) (L2 := [some (.ref 0), some (.int p0)]) (st2 := [.int (G19 0 11)]) (μ2 := (hMo G19 J)) rfl trivial ?_
      refine js_ifeq (t := 77) hM.1 (jat hM.2.1 37 rfl) rfl (fun hc41 => ?_) (fun hc41 => ?_)
      · have h := (if_pos hc41).symm.trans h
        exact JW.mask [true, false] (t_X6_town_b77 hM hp N J G19 h hq)
      · have h := (if_neg hc41).symm.trans h
        refine JW.r hM 38 1 (pc2 := 71) (L2 := [some (.ref 0), some (.int p0)]) (st2 := [.ref 0]) (μ2 := (hMo G19 J)) rfl trivial ?_
        obtain ⟨v32, hv31, h⟩ := jbd h
        refine JW.cV (v := none) hM (m_X6_readLine (jVX X) hM.1.2.2.2.2.2.2.2.2.2.1 N G19 J v32 hv31) (sb_Mo_Mo_0 G19 J) (bk_Mo_Mo_0 G19 J v32 J) rfl rfl rfl kc_X6_173 rfl rfl rfl rfl rfl (jat hM.2.1 39 rfl) (st := []) rfl ?_
        show JW X 0 0 74 [some (.ref 0), some (.int p0)] [] (hMo v32 J)
        obtain ⟨G33, e34, h⟩ := jlE h
        rw [e34]
        refine JW.r hM 40 1 (pc2 := 56) (L2 := [some (.ref 0), some (.int p0)]) (st2 := []) (μ2 := (hMo G33 J)) rfl trivial ?_
        exact JW.mask [true, false] (t_X6_town_b56 hM hp N J N G33 h hq)
  · have h := (if_pos hc47).symm.trans h
    refine JW.r hM 11 2 (pc2 := 21) (L2 := [some (.ref 0), some (.int p0)]) (st2 := [.int (1 : Int32), .ref 0]) (μ2 := (hMo G1 J)) rfl trivial ?_
    obtain ⟨v44, hv43, h⟩ := jbd h
    refine JW.cV (v := some (.int v44.1)) hM (m_X6_fails (jVX X) hM.1.2.2.2.2.2.2.2.2.2.1 N G1 J (1 : Int32) v44 hv43) (sb_Mo_Mo_0 G1 J) (bk_Mo_Mo_0 G1 J v44.2 J) rfl rfl rfl kc_X6_170 rfl rfl rfl rfl rfl (jat hM.2.1 13 rfl) (st := []) rfl ?_
    show JW X 0 0 24 [some (.ref 0), some (.int p0)] [.int v44.1] (hMo v44.2 J)
    obtain ⟨G45, e46, h⟩ := jlE h
    rw [e46]
    obtain rfl := Option.some.inj h
    exact js_iret hM.1 hp hM.2.2.2.2.2.2.2.1 (by rw [hM.2.2.2.2.2.1]; exact Nat.le_of_ble_eq_true rfl) (by rw [hM.2.2.2.2.2.2.1]; exact Nat.le_of_ble_eq_true rfl) (jat hM.2.1 14 rfl) hq
theorem m_X6_town (V : jV) (hV : V.1.stackTraces = false) (N : Nat) (G : Nat → Nat → Int32) (J : Nat → Nat → Int64) (p0 : Int32) (v : Int32 × (Nat → Nat → Int32)) (h : p_X6_town N G J p0 = some v) : jMet V yX6_town (jws yX6_town cX6_town 2 (some .int)) ⟨7, 0, 0, 173⟩ true 1 [.ref 0, .int p0] (hMo G J) (fun o ν => o = some (.int v.1) ∧ ν = (hMo v.2 J)) (fun _ _ => False) := by
  refine jmk (tb := tbX6) (C := kX6_town) hV rfl (by decide) tbX6_ok rfl kX6_town_ok rfl ?_
  intro X hM _ hp _
  exact t_X6_town hM hp N G J p0 h ⟨rfl, rfl⟩
def p_X6_fault (N : Nat) (G : Nat → Nat → Int32) (J : Nat → Nat → Int64) (p0 : Int32) : Option (Int32 × (Nat → Nat → Int32)) :=
  jlt (jup G 0 5 (0 : Int32)) fun G1 => if p0 = 0 then (some ((G1 0 15), G1)) else (if p0 = (1 : Int32) then (some ((G1 0 16), G1)) else (some ((-1 : Int32), G1)))
set_option maxHeartbeats 4000000 in
set_option maxRecDepth 100000 in
theorem t_X6_fault {X : jX} {po : Option Value → jH → Prop} {px : String → jH → Prop} {sf : Bool} {B9 : Nat} (hM : jMX X kX6_fault RX6 tbX6 2 ⟨0, 0, 0, 0⟩ (some .int) 16) (hp : jPost X sf B9 po px) (N : Nat) (G : Nat → Nat → Int32) (J : Nat → Nat → Int64) (p0 : Int32) {res : Int32 × (Nat → Nat → Int32)} (h : p_X6_fault N G J p0 = some res) (hq : po (some (.int res.1)) (hMo res.2 J)) : JW X 0 0 0 [some (.ref 0), some (.int p0)] [] (hMo G J) := by
  unfold p_X6_fault at h
  obtain ⟨G1, e2, h⟩ := jlE h
  refine JW.r hM 0 3 (pc2 := 5) (L2 := [some (.ref 0), some (.int p0)]) (st2 := []) (μ2 := (hMo (jup G 0 5 (0 : Int32)) J)) rfl trivial ?_
  rw [e2]
  refine JW.r hM 3 1 (pc2 := 6) (L2 := [some (.ref 0), some (.int p0)]) (st2 := [.int p0]) (μ2 := (hMo G1 J)) rfl trivial ?_
  refine js_ifne (t := 16) hM.1 (jat hM.2.1 4 rfl) rfl (fun hc4 => ?_) (fun hc4 => ?_)
  · have h := (if_neg hc4).symm.trans h
    refine JW.r hM 8 2 (pc2 := 18) (L2 := [some (.ref 0), some (.int p0)]) (st2 := [.int (1 : Int32), .int p0]) (μ2 := (hMo G1 J)) rfl trivial ?_
    refine js_icne (t := 28) hM.1 (jat hM.2.1 10 rfl) rfl (fun hc3 => ?_) (fun hc3 => ?_)
    · have h := (if_neg hc3).symm.trans h
      refine JW.r hM 14 1 (pc2 := 29) (L2 := [some (.ref 0), some (.int p0)]) (st2 := [.int (-1 : Int32)]) (μ2 := (hMo G1 J)) rfl trivial ?_
      obtain rfl := Option.some.inj h
      exact js_iret hM.1 hp hM.2.2.2.2.2.2.2.1 (by rw [hM.2.2.2.2.2.1]; exact Nat.le_of_ble_eq_true rfl) (by rw [hM.2.2.2.2.2.2.1]; exact Nat.le_of_ble_eq_true rfl) (jat hM.2.1 15 rfl) hq
    · have h := (if_pos hc3).symm.trans h
      refine JW.r hM 11 3 (pc2 := 29) (L2 := [some (.ref 0), some (.int p0)]) (st2 := [.int (G1 0 16)]) (μ2 := (hMo G1 J)) rfl trivial ?_
      obtain rfl := Option.some.inj h
      exact js_iret hM.1 hp hM.2.2.2.2.2.2.2.1 (by rw [hM.2.2.2.2.2.1]; exact Nat.le_of_ble_eq_true rfl) (by rw [hM.2.2.2.2.2.2.1]; exact Nat.le_of_ble_eq_true rfl) (jat hM.2.1 15 rfl) hq
  · have h := (if_pos hc4).symm.trans h
    refine JW.r hM 5 3 (pc2 := 29) (L2 := [some (.ref 0), some (.int p0)]) (st2 := [.int (G1 0 15)]) (μ2 := (hMo G1 J)) rfl trivial ?_
    obtain rfl := Option.some.inj h
    exact js_iret hM.1 hp hM.2.2.2.2.2.2.2.1 (by rw [hM.2.2.2.2.2.1]; exact Nat.le_of_ble_eq_true rfl) (by rw [hM.2.2.2.2.2.2.1]; exact Nat.le_of_ble_eq_true rfl) (jat hM.2.1 15 rfl) hq
theorem m_X6_fault (V : jV) (hV : V.1.stackTraces = false) (N : Nat) (G : Nat → Nat → Int32) (J : Nat → Nat → Int64) (p0 : Int32) (v : Int32 × (Nat → Nat → Int32)) (h : p_X6_fault N G J p0 = some v) : jMet V yX6_fault (jws yX6_fault cX6_fault 2 (some .int)) ⟨0, 0, 0, 0⟩ true 1 [.ref 0, .int p0] (hMo G J) (fun o ν => o = some (.int v.1) ∧ ν = (hMo v.2 J)) (fun _ _ => False) := by
  refine jmk (tb := tbX6) (C := kX6_fault) hV rfl (by decide) tbX6_ok rfl kX6_fault_ok rfl ?_
  intro X hM _ hp _
  exact t_X6_fault hM hp N G J p0 h ⟨rfl, rfl⟩
def p_X6_isPerson (N : Nat) (G : Nat → Nat → Int32) (J : Nat → Nat → Int64) (p0 : Int32) : Option (Int32) :=
  (p_X6_within N (p0.toInt64) (0 : Int64) (((G 1 1) - (1 : Int32)).toInt64)).bind (fun v2 => if jz v2 = true then some v2 else none)
set_option maxHeartbeats 4000000 in
set_option maxRecDepth 100000 in
theorem t_X6_isPerson {X : jX} {po : Option Value → jH → Prop} {px : String → jH → Prop} {sf : Bool} {B9 : Nat} (hM : jMX X kX6_isPerson RX6 tbX6 2 ⟨1, 0, 0, 25⟩ (some .boolean) 16) (hp : jPost X sf B9 po px) (N : Nat) (G : Nat → Nat → Int32) (J : Nat → Nat → Int64) (p0 : Int32) {res : Int32} (h : p_X6_isPerson N G J p0 = some res) (hq : po (some (.int res)) (hMo G J)) : JW X 0 0 0 [some (.ref 0), some (.int p0)] [] (hMo G J) := by
  unfold p_X6_isPerson at h
  refine JW.r hM 0 10 (pc2 := 12) (L2 := [some (.ref 0), some (.int p0)]) (st2 := [.long (((G 1 1) - (1 : Int32)).toInt64), .long (0 : Int64), .long (p0.toInt64)]) (μ2 := (hMo G J)) rfl ⟨rfl, trivial⟩ ?_
  obtain ⟨v2, hv1, h⟩ := jbd h
  refine JW.cS (v := some (.int v2)) hM (m_X6_within (jVX X) hM.1.2.2.2.2.2.2.2.2.2.1 N (p0.toInt64) (0 : Int64) (((G 1 1) - (1 : Int32)).toInt64) v2 hv1) (sb_Mo_E_ G J) (bi_Mo_E_ G J) rfl rfl rfl kc_X6_122 rfl rfl rfl (jat hM.2.1 10 rfl) (st := []) rfl ?_
  show JW X 0 0 15 [some (.ref 0), some (.int p0)] [.int v2] (hMo G J)
  obtain ⟨g3, h⟩ := jg h
  obtain rfl := Option.some.inj h
  exact js_zret hM.1 hp hM.2.2.2.2.2.2.2.1 g3 (by rw [hM.2.2.2.2.2.1]; exact Nat.le_of_ble_eq_true rfl) (by rw [hM.2.2.2.2.2.2.1]; exact Nat.le_of_ble_eq_true rfl) (jat hM.2.1 11 rfl) hq
theorem m_X6_isPerson (V : jV) (hV : V.1.stackTraces = false) (N : Nat) (G : Nat → Nat → Int32) (J : Nat → Nat → Int64) (p0 : Int32) (v : Int32) (h : p_X6_isPerson N G J p0 = some v) : jMet V yX6_isPerson (jws yX6_isPerson cX6_isPerson 2 (some .boolean)) ⟨1, 0, 0, 25⟩ true 1 [.ref 0, .int p0] (hMo G J) (fun o ν => o = some (.int v) ∧ ν = (hMo G J)) (fun _ _ => False) := by
  refine jmk (tb := tbX6) (C := kX6_isPerson) hV rfl (by decide) tbX6_ok rfl kX6_isPerson_ok rfl ?_
  intro X hM _ hp _
  exact t_X6_isPerson hM hp N G J p0 h ⟨rfl, rfl⟩
def p_X6_isThing (N : Nat) (G : Nat → Nat → Int32) (J : Nat → Nat → Int64) (p0 : Int32) : Option (Int32) :=
  (p_X6_within N (p0.toInt64) (0 : Int64) (((G 1 2) - (1 : Int32)).toInt64)).bind (fun v2 => if jz v2 = true then some v2 else none)
set_option maxHeartbeats 4000000 in
set_option maxRecDepth 100000 in
theorem t_X6_isThing {X : jX} {po : Option Value → jH → Prop} {px : String → jH → Prop} {sf : Bool} {B9 : Nat} (hM : jMX X kX6_isThing RX6 tbX6 2 ⟨1, 0, 0, 25⟩ (some .boolean) 16) (hp : jPost X sf B9 po px) (N : Nat) (G : Nat → Nat → Int32) (J : Nat → Nat → Int64) (p0 : Int32) {res : Int32} (h : p_X6_isThing N G J p0 = some res) (hq : po (some (.int res)) (hMo G J)) : JW X 0 0 0 [some (.ref 0), some (.int p0)] [] (hMo G J) := by
  unfold p_X6_isThing at h
  refine JW.r hM 0 10 (pc2 := 12) (L2 := [some (.ref 0), some (.int p0)]) (st2 := [.long (((G 1 2) - (1 : Int32)).toInt64), .long (0 : Int64), .long (p0.toInt64)]) (μ2 := (hMo G J)) rfl ⟨rfl, trivial⟩ ?_
  obtain ⟨v2, hv1, h⟩ := jbd h
  refine JW.cS (v := some (.int v2)) hM (m_X6_within (jVX X) hM.1.2.2.2.2.2.2.2.2.2.1 N (p0.toInt64) (0 : Int64) (((G 1 2) - (1 : Int32)).toInt64) v2 hv1) (sb_Mo_E_ G J) (bi_Mo_E_ G J) rfl rfl rfl kc_X6_122 rfl rfl rfl (jat hM.2.1 10 rfl) (st := []) rfl ?_
  show JW X 0 0 15 [some (.ref 0), some (.int p0)] [.int v2] (hMo G J)
  obtain ⟨g3, h⟩ := jg h
  obtain rfl := Option.some.inj h
  exact js_zret hM.1 hp hM.2.2.2.2.2.2.2.1 g3 (by rw [hM.2.2.2.2.2.1]; exact Nat.le_of_ble_eq_true rfl) (by rw [hM.2.2.2.2.2.2.1]; exact Nat.le_of_ble_eq_true rfl) (jat hM.2.1 11 rfl) hq
theorem m_X6_isThing (V : jV) (hV : V.1.stackTraces = false) (N : Nat) (G : Nat → Nat → Int32) (J : Nat → Nat → Int64) (p0 : Int32) (v : Int32) (h : p_X6_isThing N G J p0 = some v) : jMet V yX6_isThing (jws yX6_isThing cX6_isThing 2 (some .boolean)) ⟨1, 0, 0, 25⟩ true 1 [.ref 0, .int p0] (hMo G J) (fun o ν => o = some (.int v) ∧ ν = (hMo G J)) (fun _ _ => False) := by
  refine jmk (tb := tbX6) (C := kX6_isThing) hV rfl (by decide) tbX6_ok rfl kX6_isThing_ok rfl ?_
  intro X hM _ hp _
  exact t_X6_isThing hM hp N G J p0 h ⟨rfl, rfl⟩
def p_X6_isDeed (N : Nat) (G : Nat → Nat → Int32) (J : Nat → Nat → Int64) (p0 : Int64) : Option (Int32) :=
  (p_X6_within N p0 (0 : Int64) (((G 1 7) - (1 : Int32)).toInt64)).bind (fun v2 => if jz v2 = true then some v2 else none)
set_option maxHeartbeats 4000000 in
set_option maxRecDepth 100000 in
theorem t_X6_isDeed {X : jX} {po : Option Value → jH → Prop} {px : String → jH → Prop} {sf : Bool} {B9 : Nat} (hM : jMX X kX6_isDeed RX6 tbX6 3 ⟨1, 0, 0, 25⟩ (some .boolean) 16) (hp : jPost X sf B9 po px) (N : Nat) (G : Nat → Nat → Int32) (J : Nat → Nat → Int64) (p0 : Int64) {res : Int32} (h : p_X6_isDeed N G J p0 = some res) (hq : po (some (.int res)) (hMo G J)) : JW X 0 0 0 [some (.ref 0), some (.long p0), none] [] (hMo G J) := by
  unfold p_X6_isDeed at h
  refine JW.r hM 0 9 (pc2 := 12) (L2 := [some (.ref 0), some (.long p0), none]) (st2 := [.long (((G 1 7) - (1 : Int32)).toInt64), .long (0 : Int64), .long p0]) (μ2 := (hMo G J)) rfl ⟨rfl, trivial⟩ ?_
  obtain ⟨v2, hv1, h⟩ := jbd h
  refine JW.cS (v := some (.int v2)) hM (m_X6_within (jVX X) hM.1.2.2.2.2.2.2.2.2.2.1 N p0 (0 : Int64) (((G 1 7) - (1 : Int32)).toInt64) v2 hv1) (sb_Mo_E_ G J) (bi_Mo_E_ G J) rfl rfl rfl kc_X6_122 rfl rfl rfl (jat hM.2.1 9 rfl) (st := []) rfl ?_
  show JW X 0 0 15 [some (.ref 0), some (.long p0), none] [.int v2] (hMo G J)
  obtain ⟨g3, h⟩ := jg h
  obtain rfl := Option.some.inj h
  exact js_zret hM.1 hp hM.2.2.2.2.2.2.2.1 g3 (by rw [hM.2.2.2.2.2.1]; exact Nat.le_of_ble_eq_true rfl) (by rw [hM.2.2.2.2.2.2.1]; exact Nat.le_of_ble_eq_true rfl) (jat hM.2.1 10 rfl) hq
theorem m_X6_isDeed (V : jV) (hV : V.1.stackTraces = false) (N : Nat) (G : Nat → Nat → Int32) (J : Nat → Nat → Int64) (p0 : Int64) (v : Int32) (h : p_X6_isDeed N G J p0 = some v) : jMet V yX6_isDeed (jws yX6_isDeed cX6_isDeed 3 (some .boolean)) ⟨1, 0, 0, 25⟩ true 1 [.ref 0, .long p0] (hMo G J) (fun o ν => o = some (.int v) ∧ ν = (hMo G J)) (fun _ _ => False) := by
  refine jmk (tb := tbX6) (C := kX6_isDeed) hV rfl (by decide) tbX6_ok rfl kX6_isDeed_ok rfl ?_
  intro X hM _ hp _
  exact t_X6_isDeed hM hp N G J p0 h ⟨rfl, rfl⟩
def p_X6_worthTo (N : Nat) (G : Nat → Nat → Int32) (J : Nat → Nat → Int64) (p0 : Int32) (p1 : Int32) : Option (Int32) :=
  if jin (((24 : Int32) + ((6 : Int32) * p0)) + p1) 264 = true then some (G 1 (((24 : Int32) + ((6 : Int32) * p0)) + p1).toNatClampNeg) else none
set_option maxHeartbeats 4000000 in
set_option maxRecDepth 100000 in
theorem t_X6_worthTo {X : jX} {po : Option Value → jH → Prop} {px : String → jH → Prop} {sf : Bool} {B9 : Nat} (hM : jMX X kX6_worthTo RX6 tbX6 3 ⟨0, 0, 0, 0⟩ (some .int) 16) (hp : jPost X sf B9 po px) (N : Nat) (G : Nat → Nat → Int32) (J : Nat → Nat → Int64) (p0 : Int32) (p1 : Int32) {res : Int32} (h : p_X6_worthTo N G J p0 p1 = some res) (hq : po (some (.int res)) (hMo G J)) : JW X 0 0 0 [some (.ref 0), some (.int p0), some (.int p1)] [] (hMo G J) := by
  unfold p_X6_worthTo at h
  obtain ⟨g1, h⟩ := jg h
  refine JW.r hM 0 10 (pc2 := 14) (L2 := [some (.ref 0), some (.int p0), some (.int p1)]) (st2 := [.int (G 1 (((24 : Int32) + ((6 : Int32) * p0)) + p1).toNatClampNeg)]) (μ2 := (hMo G J)) rfl ⟨g1, trivial⟩ ?_
  obtain rfl := Option.some.inj h
  exact js_iret hM.1 hp hM.2.2.2.2.2.2.2.1 (by rw [hM.2.2.2.2.2.1]; exact Nat.le_of_ble_eq_true rfl) (by rw [hM.2.2.2.2.2.2.1]; exact Nat.le_of_ble_eq_true rfl) (jat hM.2.1 10 rfl) hq
theorem m_X6_worthTo (V : jV) (hV : V.1.stackTraces = false) (N : Nat) (G : Nat → Nat → Int32) (J : Nat → Nat → Int64) (p0 : Int32) (p1 : Int32) (v : Int32) (h : p_X6_worthTo N G J p0 p1 = some v) : jMet V yX6_worthTo (jws yX6_worthTo cX6_worthTo 3 (some .int)) ⟨0, 0, 0, 0⟩ true 1 [.ref 0, .int p0, .int p1] (hMo G J) (fun o ν => o = some (.int v) ∧ ν = (hMo G J)) (fun _ _ => False) := by
  refine jmk (tb := tbX6) (C := kX6_worthTo) hV rfl (by decide) tbX6_ok rfl kX6_worthTo_ok rfl ?_
  intro X hM _ hp _
  exact t_X6_worthTo hM hp N G J p0 p1 h ⟨rfl, rfl⟩
def p_X6_isEaten (N : Nat) (G : Nat → Nat → Int32) (J : Nat → Nat → Int64) (p0 : Int32) : Option (Int32) :=
  if (((G 1 3) >>> (p0 &&& 31)) &&& (1 : Int32)) = (1 : Int32) then (some (1 : Int32)) else (some (0 : Int32))
set_option maxHeartbeats 4000000 in
set_option maxRecDepth 100000 in
theorem t_X6_isEaten {X : jX} {po : Option Value → jH → Prop} {px : String → jH → Prop} {sf : Bool} {B9 : Nat} (hM : jMX X kX6_isEaten RX6 tbX6 2 ⟨0, 0, 0, 0⟩ (some .boolean) 16) (hp : jPost X sf B9 po px) (N : Nat) (G : Nat → Nat → Int32) (J : Nat → Nat → Int64) (p0 : Int32) {res : Int32} (h : p_X6_isEaten N G J p0 = some res) (hq : po (some (.int res)) (hMo G J)) : JW X 0 0 0 [some (.ref 0), some (.int p0)] [] (hMo G J) := by
  unfold p_X6_isEaten at h
  refine JW.r hM 0 9 (pc2 := 11) (L2 := [some (.ref 0), some (.int p0)]) (st2 := [.int (1 : Int32), .int (((G 1 3) >>> (p0 &&& 31)) &&& (1 : Int32))]) (μ2 := (hMo G J)) rfl ⟨rfl, trivial⟩ ?_
  refine js_icne (t := 18) hM.1 (jat hM.2.1 9 rfl) rfl (fun hc1 => ?_) (fun hc1 => ?_)
  · have h := (if_neg hc1).symm.trans h
    refine JW.r hM 12 1 (pc2 := 19) (L2 := [some (.ref 0), some (.int p0)]) (st2 := [.int (0 : Int32)]) (μ2 := (hMo G J)) rfl trivial ?_
    obtain rfl := Option.some.inj h
    exact js_zret hM.1 hp hM.2.2.2.2.2.2.2.1 rfl (by rw [hM.2.2.2.2.2.1]; exact Nat.le_of_ble_eq_true rfl) (by rw [hM.2.2.2.2.2.2.1]; exact Nat.le_of_ble_eq_true rfl) (jat hM.2.1 13 rfl) hq
  · have h := (if_pos hc1).symm.trans h
    refine JW.r hM 10 2 (pc2 := 19) (L2 := [some (.ref 0), some (.int p0)]) (st2 := [.int (1 : Int32)]) (μ2 := (hMo G J)) rfl trivial ?_
    obtain rfl := Option.some.inj h
    exact js_zret hM.1 hp hM.2.2.2.2.2.2.2.1 rfl (by rw [hM.2.2.2.2.2.1]; exact Nat.le_of_ble_eq_true rfl) (by rw [hM.2.2.2.2.2.2.1]; exact Nat.le_of_ble_eq_true rfl) (jat hM.2.1 13 rfl) hq
theorem m_X6_isEaten (V : jV) (hV : V.1.stackTraces = false) (N : Nat) (G : Nat → Nat → Int32) (J : Nat → Nat → Int64) (p0 : Int32) (v : Int32) (h : p_X6_isEaten N G J p0 = some v) : jMet V yX6_isEaten (jws yX6_isEaten cX6_isEaten 2 (some .boolean)) ⟨0, 0, 0, 0⟩ true 1 [.ref 0, .int p0] (hMo G J) (fun o ν => o = some (.int v) ∧ ν = (hMo G J)) (fun _ _ => False) := by
  refine jmk (tb := tbX6) (C := kX6_isEaten) hV rfl (by decide) tbX6_ok rfl kX6_isEaten_ok rfl ?_
  intro X hM _ hp _
  exact t_X6_isEaten hM hp N G J p0 h ⟨rfl, rfl⟩
def p_X6_hasRung (N : Nat) (G : Nat → Nat → Int32) (J : Nat → Nat → Int64) : Option (Int32) :=
  if (G 1 6) < (G 1 5) then (some (0 : Int32)) else (some (1 : Int32))
set_option maxHeartbeats 4000000 in
set_option maxRecDepth 100000 in
theorem t_X6_hasRung {X : jX} {po : Option Value → jH → Prop} {px : String → jH → Prop} {sf : Bool} {B9 : Nat} (hM : jMX X kX6_hasRung RX6 tbX6 1 ⟨0, 0, 0, 0⟩ (some .boolean) 16) (hp : jPost X sf B9 po px) (N : Nat) (G : Nat → Nat → Int32) (J : Nat → Nat → Int64) {res : Int32} (h : p_X6_hasRung N G J = some res) (hq : po (some (.int res)) (hMo G J)) : JW X 0 0 0 [some (.ref 0)] [] (hMo G J) := by
  unfold p_X6_hasRung at h
  refine JW.r hM 0 8 (pc2 := 13) (L2 := [some (.ref 0)]) (st2 := [.int (G 1 5), .int (G 1 6)]) (μ2 := (hMo G J)) rfl ⟨rfl, rfl, trivial⟩ ?_
  refine js_iclt (t := 20) hM.1 (jat hM.2.1 8 rfl) rfl (fun hc1 => ?_) (fun hc1 => ?_)
  · have h := (if_pos hc1).symm.trans h
    refine JW.r hM 11 1 (pc2 := 21) (L2 := [some (.ref 0)]) (st2 := [.int (0 : Int32)]) (μ2 := (hMo G J)) rfl trivial ?_
    obtain rfl := Option.some.inj h
    exact js_zret hM.1 hp hM.2.2.2.2.2.2.2.1 rfl (by rw [hM.2.2.2.2.2.1]; exact Nat.le_of_ble_eq_true rfl) (by rw [hM.2.2.2.2.2.2.1]; exact Nat.le_of_ble_eq_true rfl) (jat hM.2.1 12 rfl) hq
  · have h := (if_neg hc1).symm.trans h
    refine JW.r hM 9 2 (pc2 := 21) (L2 := [some (.ref 0)]) (st2 := [.int (1 : Int32)]) (μ2 := (hMo G J)) rfl trivial ?_
    obtain rfl := Option.some.inj h
    exact js_zret hM.1 hp hM.2.2.2.2.2.2.2.1 rfl (by rw [hM.2.2.2.2.2.1]; exact Nat.le_of_ble_eq_true rfl) (by rw [hM.2.2.2.2.2.2.1]; exact Nat.le_of_ble_eq_true rfl) (jat hM.2.1 12 rfl) hq
theorem m_X6_hasRung (V : jV) (hV : V.1.stackTraces = false) (N : Nat) (G : Nat → Nat → Int32) (J : Nat → Nat → Int64) (v : Int32) (h : p_X6_hasRung N G J = some v) : jMet V yX6_hasRung (jws yX6_hasRung cX6_hasRung 1 (some .boolean)) ⟨0, 0, 0, 0⟩ true 1 [.ref 0] (hMo G J) (fun o ν => o = some (.int v) ∧ ν = (hMo G J)) (fun _ _ => False) := by
  refine jmk (tb := tbX6) (C := kX6_hasRung) hV rfl (by decide) tbX6_ok rfl kX6_hasRung_ok rfl ?_
  intro X hM _ hp _
  exact t_X6_hasRung hM hp N G J h ⟨rfl, rfl⟩
def p_X6_wealth_b46 (N : Nat) (G : Nat → Nat → Int32) (J : Nat → Nat → Int64) (rv12 : Int32 → Int32 → Int32 → Option (Int32)) (x1 : Int32) (x3 : Int32) (s0 : Int32) (s1 : Int32) : Option (Int32) :=
  rv12 x1 (s1 + s0) (x3 + 1)
def p_X6_wealth_b12 (N : Nat) (G : Nat → Nat → Int32) (J : Nat → Nat → Int64) : Nat → (Int32) → (Int32) → (Int32) → Option (Int32)
  | 0, _, _, _ => none
  | n + 1, x1, x2, x3 => if (G 1 2) ≤ x3 then (some x2) else (if jin ((14 : Int32) + x3) 264 = true then if (G 1 ((14 : Int32) + x3).toNatClampNeg) = x1 then ((p_X6_worthTo N G J x3 x1).bind (fun v4 => p_X6_wealth_b46 N G J (p_X6_wealth_b12 N G J n) x1 x3 v4 x2)) else (p_X6_wealth_b46 N G J (p_X6_wealth_b12 N G J n) x1 x3 (0 : Int32) x2) else none)
def p_X6_wealth (N : Nat) (G : Nat → Nat → Int32) (J : Nat → Nat → Int64) (p0 : Int32) : Option (Int32) :=
  if jin ((8 : Int32) + p0) 264 = true then p_X6_wealth_b12 N G J N p0 (G 1 ((8 : Int32) + p0).toNatClampNeg) (0 : Int32) else none
set_option maxHeartbeats 4000000 in
set_option maxRecDepth 100000 in
theorem t_X6_wealth_b46 {X : jX} {po : Option Value → jH → Prop} {px : String → jH → Prop} {sf : Bool} {B9 : Nat} (hM : jMX X kX6_wealth RX6 tbX6 4 ⟨1, 0, 0, 22⟩ (some .int) 16) (hp : jPost X sf B9 po px) (N : Nat) (G : Nat → Nat → Int32) (J : Nat → Nat → Int64) (rv12 : Int32 → Int32 → Int32 → Option (Int32)) {res : Int32} (ih12 : ∀ (x1 : Int32) (x2 : Int32) (x3 : Int32), rv12 x1 x2 x3 = some res → JW X 0 0 12 [some (.ref 0), some (.int x1), some (.int x2), some (.int x3)] [] (hMo G J)) (x1 : Int32) (x3 : Int32) (s0 : Int32) (s1 : Int32) (h : p_X6_wealth_b46 N G J rv12 x1 x3 s0 s1 = some res) (hq : po (some (.int res)) (hMo G J)) : JW X 0 0 46 [some (.ref 0), some (.int x1), none, some (.int x3)] [.int s0, .int s1] (hMo G J) := by
  unfold p_X6_wealth_b46 at h
  refine JW.r hM 30 4 (pc2 := 12) (L2 := [some (.ref 0), some (.int x1), some (.int (s1 + s0)), some (.int (x3 + 1))]) (st2 := []) (μ2 := (hMo G J)) rfl trivial ?_
  exact ih12 x1 (s1 + s0) (x3 + 1) h
set_option maxHeartbeats 4000000 in
set_option maxRecDepth 100000 in
theorem t_X6_wealth_b12 {X : jX} {po : Option Value → jH → Prop} {px : String → jH → Prop} {sf : Bool} {B9 : Nat} (hM : jMX X kX6_wealth RX6 tbX6 4 ⟨1, 0, 0, 22⟩ (some .int) 16) (hp : jPost X sf B9 po px) (N : Nat) (G : Nat → Nat → Int32) (J : Nat → Nat → Int64) {res : Int32} : ∀ (n : Nat) (x1 : Int32) (x2 : Int32) (x3 : Int32) (h : p_X6_wealth_b12 N G J n x1 x2 x3 = some res) (hq : po (some (.int res)) (hMo G J)), JW X 0 0 12 [some (.ref 0), some (.int x1), some (.int x2), some (.int x3)] [] (hMo G J) := by
  intro n
  induction n with
  | zero =>
    intro x1 x2 x3 h hq
    cases (show (none : Option (Int32)) = some res from h)
  | succ n ih12 =>
    intro x1 x2 x3 h hq
    have ih12 := fun x1 x2 x3 h9 => ih12 x1 x2 x3 h9 hq
    rw [p_X6_wealth_b12] at h
    refine JW.r hM 9 5 (pc2 := 19) (L2 := [some (.ref 0), some (.int x1), some (.int x2), some (.int x3)]) (st2 := [.int (G 1 2), .int x3]) (μ2 := (hMo G J)) rfl ⟨rfl, trivial⟩ ?_
    refine js_icge (t := 54) hM.1 (jat hM.2.1 14 rfl) rfl (fun hc6 => ?_) (fun hc6 => ?_)
    · have h := (if_pos hc6).symm.trans h
      refine JW.r hM 34 1 (pc2 := 55) (L2 := [some (.ref 0), some (.int x1), some (.int x2), some (.int x3)]) (st2 := [.int x2]) (μ2 := (hMo G J)) rfl trivial ?_
      obtain rfl := Option.some.inj h
      exact js_iret hM.1 hp hM.2.2.2.2.2.2.2.1 (by rw [hM.2.2.2.2.2.1]; exact Nat.le_of_ble_eq_true rfl) (by rw [hM.2.2.2.2.2.2.1]; exact Nat.le_of_ble_eq_true rfl) (jat hM.2.1 35 rfl) hq
    · have h := (if_neg hc6).symm.trans h
      obtain ⟨g2, h⟩ := jg h
      refine JW.r hM 15 8 (pc2 := 33) (L2 := [some (.ref 0), some (.int x1), some (.int x2), some (.int x3)]) (st2 := [.int x1, .int (G 1 ((14 : Int32) + x3).toNatClampNeg), .int x2]) (μ2 := (hMo G J)) rfl ⟨g2, trivial⟩ ?_
      refine js_icne (t := 45) hM.1 (jat hM.2.1 23 rfl) rfl (fun hc5 => ?_) (fun hc5 => ?_)
      · have h := (if_neg hc5).symm.trans h
        refine JW.r hM 29 1 (pc2 := 46) (L2 := [some (.ref 0), some (.int x1), some (.int x2), some (.int x3)]) (st2 := [.int (0 : Int32), .int x2]) (μ2 := (hMo G J)) rfl trivial ?_
        exact JW.mask [true, true, false, true] (t_X6_wealth_b46 hM hp N G J (p_X6_wealth_b12 N G J n) ih12 x1 x3 (0 : Int32) x2 h hq)
      · have h := (if_pos hc5).symm.trans h
        refine JW.r hM 24 3 (pc2 := 39) (L2 := [some (.ref 0), some (.int x1), some (.int x2), some (.int x3)]) (st2 := [.int x1, .int x3, .ref 0, .int x2]) (μ2 := (hMo G J)) rfl trivial ?_
        obtain ⟨v4, hv3, h⟩ := jbd h
        refine JW.cV (v := some (.int v4)) hM (m_X6_worthTo (jVX X) hM.1.2.2.2.2.2.2.2.2.2.1 N G J x3 x1 v4 hv3) (sb_Mo_Mo_0 G J) (bi_Mo_Mo_0 G J) rfl rfl rfl kc_X6_183 rfl rfl rfl rfl rfl (jat hM.2.1 27 rfl) (st := [.int x2]) rfl ?_
        show JW X 0 0 42 [some (.ref 0), some (.int x1), some (.int x2), some (.int x3)] [.int v4, .int x2] (hMo G J)
        refine JW.r hM 28 1 (pc2 := 46) (L2 := [some (.ref 0), some (.int x1), some (.int x2), some (.int x3)]) (st2 := [.int v4, .int x2]) (μ2 := (hMo G J)) rfl trivial ?_
        exact JW.mask [true, true, false, true] (t_X6_wealth_b46 hM hp N G J (p_X6_wealth_b12 N G J n) ih12 x1 x3 v4 x2 h hq)
set_option maxHeartbeats 4000000 in
set_option maxRecDepth 100000 in
theorem t_X6_wealth {X : jX} {po : Option Value → jH → Prop} {px : String → jH → Prop} {sf : Bool} {B9 : Nat} (hM : jMX X kX6_wealth RX6 tbX6 4 ⟨1, 0, 0, 22⟩ (some .int) 16) (hp : jPost X sf B9 po px) (N : Nat) (G : Nat → Nat → Int32) (J : Nat → Nat → Int64) (p0 : Int32) {res : Int32} (h : p_X6_wealth N G J p0 = some res) (hq : po (some (.int res)) (hMo G J)) : JW X 0 0 0 [some (.ref 0), some (.int p0), none, none] [] (hMo G J) := by
  unfold p_X6_wealth at h
  obtain ⟨g1, h⟩ := jg h
  refine JW.r hM 0 9 (pc2 := 12) (L2 := [some (.ref 0), some (.int p0), some (.int (G 1 ((8 : Int32) + p0).toNatClampNeg)), some (.int (0 : Int32))]) (st2 := []) (μ2 := (hMo G J)) rfl ⟨g1, trivial⟩ ?_
  exact t_X6_wealth_b12 hM hp N G J N p0 (G 1 ((8 : Int32) + p0).toNatClampNeg) (0 : Int32) h hq
theorem m_X6_wealth (V : jV) (hV : V.1.stackTraces = false) (N : Nat) (G : Nat → Nat → Int32) (J : Nat → Nat → Int64) (p0 : Int32) (v : Int32) (h : p_X6_wealth N G J p0 = some v) : jMet V yX6_wealth (jws yX6_wealth cX6_wealth 4 (some .int)) ⟨1, 0, 0, 22⟩ true 1 [.ref 0, .int p0] (hMo G J) (fun o ν => o = some (.int v) ∧ ν = (hMo G J)) (fun _ _ => False) := by
  refine jmk (tb := tbX6) (C := kX6_wealth) hV rfl (by decide) tbX6_ok rfl kX6_wealth_ok rfl ?_
  intro X hM _ hp _
  exact t_X6_wealth hM hp N G J p0 h ⟨rfl, rfl⟩
def p_X6_holds_b33 (N : Nat) (G : Nat → Nat → Int32) (J : Nat → Nat → Int64) (rv4 : Int32 → Int32 → Int32 → Option (Int32)) (x1 : Int32) (x3 : Int32) (s0 : Int32) (s1 : Int32) : Option (Int32) :=
  rv4 x1 (s1 + s0) (x3 + 1)
def p_X6_holds_b4 (N : Nat) (G : Nat → Nat → Int32) (J : Nat → Nat → Int64) : Nat → (Int32) → (Int32) → (Int32) → Option (Int32)
  | 0, _, _, _ => none
  | n + 1, x1, x2, x3 => if (G 1 2) ≤ x3 then (some x2) else (if jin ((14 : Int32) + x3) 264 = true then if (G 1 ((14 : Int32) + x3).toNatClampNeg) = x1 then (p_X6_holds_b33 N G J (p_X6_holds_b4 N G J n) x1 x3 (1 : Int32) x2) else (p_X6_holds_b33 N G J (p_X6_holds_b4 N G J n) x1 x3 (0 : Int32) x2) else none)
def p_X6_holds (N : Nat) (G : Nat → Nat → Int32) (J : Nat → Nat → Int64) (p0 : Int32) : Option (Int32) :=
  p_X6_holds_b4 N G J N p0 (0 : Int32) (0 : Int32)
set_option maxHeartbeats 4000000 in
set_option maxRecDepth 100000 in
theorem t_X6_holds_b33 {X : jX} {po : Option Value → jH → Prop} {px : String → jH → Prop} {sf : Bool} {B9 : Nat} (hM : jMX X kX6_holds RX6 tbX6 4 ⟨0, 0, 0, 0⟩ (some .int) 16) (hp : jPost X sf B9 po px) (N : Nat) (G : Nat → Nat → Int32) (J : Nat → Nat → Int64) (rv4 : Int32 → Int32 → Int32 → Option (Int32)) {res : Int32} (ih4 : ∀ (x1 : Int32) (x2 : Int32) (x3 : Int32), rv4 x1 x2 x3 = some res → JW X 0 0 4 [some (.ref 0), some (.int x1), some (.int x2), some (.int x3)] [] (hMo G J)) (x1 : Int32) (x3 : Int32) (s0 : Int32) (s1 : Int32) (h : p_X6_holds_b33 N G J rv4 x1 x3 s0 s1 = some res) (hq : po (some (.int res)) (hMo G J)) : JW X 0 0 33 [some (.ref 0), some (.int x1), none, some (.int x3)] [.int s0, .int s1] (hMo G J) := by
  unfold p_X6_holds_b33 at h
  refine JW.r hM 22 4 (pc2 := 4) (L2 := [some (.ref 0), some (.int x1), some (.int (s1 + s0)), some (.int (x3 + 1))]) (st2 := []) (μ2 := (hMo G J)) rfl trivial ?_
  exact ih4 x1 (s1 + s0) (x3 + 1) h
set_option maxHeartbeats 4000000 in
set_option maxRecDepth 100000 in
theorem t_X6_holds_b4 {X : jX} {po : Option Value → jH → Prop} {px : String → jH → Prop} {sf : Bool} {B9 : Nat} (hM : jMX X kX6_holds RX6 tbX6 4 ⟨0, 0, 0, 0⟩ (some .int) 16) (hp : jPost X sf B9 po px) (N : Nat) (G : Nat → Nat → Int32) (J : Nat → Nat → Int64) {res : Int32} : ∀ (n : Nat) (x1 : Int32) (x2 : Int32) (x3 : Int32) (h : p_X6_holds_b4 N G J n x1 x2 x3 = some res) (hq : po (some (.int res)) (hMo G J)), JW X 0 0 4 [some (.ref 0), some (.int x1), some (.int x2), some (.int x3)] [] (hMo G J) := by
  intro n
  induction n with
  | zero =>
    intro x1 x2 x3 h hq
    cases (show (none : Option (Int32)) = some res from h)
  | succ n ih4 =>
    intro x1 x2 x3 h hq
    have ih4 := fun x1 x2 x3 h9 => ih4 x1 x2 x3 h9 hq
    rw [p_X6_holds_b4] at h
    refine JW.r hM 4 5 (pc2 := 11) (L2 := [some (.ref 0), some (.int x1), some (.int x2), some (.int x3)]) (st2 := [.int (G 1 2), .int x3]) (μ2 := (hMo G J)) rfl ⟨rfl, trivial⟩ ?_
    refine js_icge (t := 41) hM.1 (jat hM.2.1 9 rfl) rfl (fun hc3 => ?_) (fun hc3 => ?_)
    · have h := (if_pos hc3).symm.trans h
      refine JW.r hM 26 1 (pc2 := 42) (L2 := [some (.ref 0), some (.int x1), some (.int x2), some (.int x3)]) (st2 := [.int x2]) (μ2 := (hMo G J)) rfl trivial ?_
      obtain rfl := Option.some.inj h
      exact js_iret hM.1 hp hM.2.2.2.2.2.2.2.1 (by rw [hM.2.2.2.2.2.1]; exact Nat.le_of_ble_eq_true rfl) (by rw [hM.2.2.2.2.2.2.1]; exact Nat.le_of_ble_eq_true rfl) (jat hM.2.1 27 rfl) hq
    · have h := (if_neg hc3).symm.trans h
      obtain ⟨g1, h⟩ := jg h
      refine JW.r hM 10 8 (pc2 := 25) (L2 := [some (.ref 0), some (.int x1), some (.int x2), some (.int x3)]) (st2 := [.int x1, .int (G 1 ((14 : Int32) + x3).toNatClampNeg), .int x2]) (μ2 := (hMo G J)) rfl ⟨g1, trivial⟩ ?_
      refine js_icne (t := 32) hM.1 (jat hM.2.1 18 rfl) rfl (fun hc2 => ?_) (fun hc2 => ?_)
      · have h := (if_neg hc2).symm.trans h
        refine JW.r hM 21 1 (pc2 := 33) (L2 := [some (.ref 0), some (.int x1), some (.int x2), some (.int x3)]) (st2 := [.int (0 : Int32), .int x2]) (μ2 := (hMo G J)) rfl trivial ?_
        exact JW.mask [true, true, false, true] (t_X6_holds_b33 hM hp N G J (p_X6_holds_b4 N G J n) ih4 x1 x3 (0 : Int32) x2 h hq)
      · have h := (if_pos hc2).symm.trans h
        refine JW.r hM 19 2 (pc2 := 33) (L2 := [some (.ref 0), some (.int x1), some (.int x2), some (.int x3)]) (st2 := [.int (1 : Int32), .int x2]) (μ2 := (hMo G J)) rfl trivial ?_
        exact JW.mask [true, true, false, true] (t_X6_holds_b33 hM hp N G J (p_X6_holds_b4 N G J n) ih4 x1 x3 (1 : Int32) x2 h hq)
set_option maxHeartbeats 4000000 in
set_option maxRecDepth 100000 in
theorem t_X6_holds {X : jX} {po : Option Value → jH → Prop} {px : String → jH → Prop} {sf : Bool} {B9 : Nat} (hM : jMX X kX6_holds RX6 tbX6 4 ⟨0, 0, 0, 0⟩ (some .int) 16) (hp : jPost X sf B9 po px) (N : Nat) (G : Nat → Nat → Int32) (J : Nat → Nat → Int64) (p0 : Int32) {res : Int32} (h : p_X6_holds N G J p0 = some res) (hq : po (some (.int res)) (hMo G J)) : JW X 0 0 0 [some (.ref 0), some (.int p0), none, none] [] (hMo G J) := by
  unfold p_X6_holds at h
  refine JW.r hM 0 4 (pc2 := 4) (L2 := [some (.ref 0), some (.int p0), some (.int (0 : Int32)), some (.int (0 : Int32))]) (st2 := []) (μ2 := (hMo G J)) rfl trivial ?_
  exact t_X6_holds_b4 hM hp N G J N p0 (0 : Int32) (0 : Int32) h hq
theorem m_X6_holds (V : jV) (hV : V.1.stackTraces = false) (N : Nat) (G : Nat → Nat → Int32) (J : Nat → Nat → Int64) (p0 : Int32) (v : Int32) (h : p_X6_holds N G J p0 = some v) : jMet V yX6_holds (jws yX6_holds cX6_holds 4 (some .int)) ⟨0, 0, 0, 0⟩ true 1 [.ref 0, .int p0] (hMo G J) (fun o ν => o = some (.int v) ∧ ν = (hMo G J)) (fun _ _ => False) := by
  refine jmk (tb := tbX6) (C := kX6_holds) hV rfl (by decide) tbX6_ok rfl kX6_holds_ok rfl ?_
  intro X hM _ hp _
  exact t_X6_holds hM hp N G J p0 h ⟨rfl, rfl⟩
def p_X6_person (N : Nat) (G : Nat → Nat → Int32) (J : Nat → Nat → Int64) (p0 : Int32) (p1 : Int32) : Option (Int32 × (Nat → Nat → Int32)) :=
  jlt (jup G 0 5 (0 : Int32)) fun G1 => (p_X6_isPerson N G1 J p0).bind (fun v4 => if v4 = 0 then ((p_X6_fails N G1 J (1 : Int32)).bind (fun v20 => jlt v20.2 fun G21 => some (v20.1, G21))) else ((p_X6_within N (p1.toInt64) (0 : Int64) (2 : Int64)).bind (fun v6 => if v6 = 0 then ((p_X6_fails N G1 J (2 : Int32)).bind (fun v15 => jlt v15.2 fun G16 => some (v15.1, G16))) else (if p1 = 0 then (if jin ((8 : Int32) + p0) 264 = true then some ((G1 1 ((8 : Int32) + p0).toNatClampNeg), G1) else none) else (if p1 = (1 : Int32) then ((p_X6_wealth N G1 J p0).bind (fun v10 => some (v10, G1))) else ((p_X6_holds N G1 J p0).bind (fun v8 => some (v8, G1))))))))
set_option maxHeartbeats 4000000 in
set_option maxRecDepth 100000 in
theorem t_X6_person {X : jX} {po : Option Value → jH → Prop} {px : String → jH → Prop} {sf : Bool} {B9 : Nat} (hM : jMX X kX6_person RX6 tbX6 3 ⟨2, 0, 0, 46⟩ (some .int) 16) (hp : jPost X sf B9 po px) (N : Nat) (G : Nat → Nat → Int32) (J : Nat → Nat → Int64) (p0 : Int32) (p1 : Int32) {res : Int32 × (Nat → Nat → Int32)} (h : p_X6_person N G J p0 p1 = some res) (hq : po (some (.int res.1)) (hMo res.2 J)) : JW X 0 0 0 [some (.ref 0), some (.int p0), some (.int p1)] [] (hMo G J) := by
  unfold p_X6_person at h
  obtain ⟨G1, e2, h⟩ := jlE h
  refine JW.r hM 0 3 (pc2 := 5) (L2 := [some (.ref 0), some (.int p0), some (.int p1)]) (st2 := []) (μ2 := (hMo (jup G 0 5 (0 : Int32)) J)) rfl trivial ?_
  rw [e2]
  refine JW.r hM 3 2 (pc2 := 7) (L2 := [some (.ref 0), some (.int p0), some (.int p1)]) (st2 := [.int p0, .ref 0]) (μ2 := (hMo G1 J)) rfl trivial ?_
  obtain ⟨v4, hv3, h⟩ := jbd h
  refine JW.cV (v := some (.int v4)) hM (m_X6_isPerson (jVX X) hM.1.2.2.2.2.2.2.2.2.2.1 N G1 J p0 v4 hv3) (sb_Mo_Mo_0 G1 J) (bi_Mo_Mo_0 G1 J) rfl rfl rfl kc_X6_186 rfl rfl rfl rfl rfl (jat hM.2.1 5 rfl) (st := []) rfl ?_
  show JW X 0 0 10 [some (.ref 0), some (.int p0), some (.int p1)] [.int v4] (hMo G1 J)
  refine js_ifne (t := 19) hM.1 (jat hM.2.1 6 rfl) rfl (fun hc23 => ?_) (fun hc23 => ?_)
  · have h := (if_neg hc23).symm.trans h
    refine JW.r hM 11 4 (pc2 := 25) (L2 := [some (.ref 0), some (.int p0), some (.int p1)]) (st2 := [.long (2 : Int64), .long (0 : Int64), .long (p1.toInt64)]) (μ2 := (hMo G1 J)) rfl trivial ?_
    obtain ⟨v6, hv5, h⟩ := jbd h
    refine JW.cS (v := some (.int v6)) hM (m_X6_within (jVX X) hM.1.2.2.2.2.2.2.2.2.2.1 N (p1.toInt64) (0 : Int64) (2 : Int64) v6 hv5) (sb_Mo_E_ G1 J) (bi_Mo_E_ G1 J) rfl rfl rfl kc_X6_122 rfl rfl rfl (jat hM.2.1 15 rfl) (st := []) rfl ?_
    show JW X 0 0 28 [some (.ref 0), some (.int p0), some (.int p1)] [.int v6] (hMo G1 J)
    refine js_ifne (t := 37) hM.1 (jat hM.2.1 16 rfl) rfl (fun hc18 => ?_) (fun hc18 => ?_)
    · have h := (if_neg hc18).symm.trans h
      refine JW.r hM 21 1 (pc2 := 38) (L2 := [some (.ref 0), some (.int p0), some (.int p1)]) (st2 := [.int p1]) (μ2 := (hMo G1 J)) rfl trivial ?_
      refine js_ifne (t := 53) hM.1 (jat hM.2.1 22 rfl) rfl (fun hc13 => ?_) (fun hc13 => ?_)
      · have h := (if_neg hc13).symm.trans h
        refine JW.r hM 30 2 (pc2 := 55) (L2 := [some (.ref 0), some (.int p0), some (.int p1)]) (st2 := [.int (1 : Int32), .int p1]) (μ2 := (hMo G1 J)) rfl trivial ?_
        refine js_icne (t := 66) hM.1 (jat hM.2.1 32 rfl) rfl (fun hc11 => ?_) (fun hc11 => ?_)
        · have h := (if_neg hc11).symm.trans h
          refine JW.r hM 37 2 (pc2 := 68) (L2 := [some (.ref 0), some (.int p0), some (.int p1)]) (st2 := [.int p0, .ref 0]) (μ2 := (hMo G1 J)) rfl trivial ?_
          obtain ⟨v8, hv7, h⟩ := jbd h
          refine JW.cV (v := some (.int v8)) hM (m_X6_holds (jVX X) hM.1.2.2.2.2.2.2.2.2.2.1 N G1 J p0 v8 hv7) (sb_Mo_Mo_0 G1 J) (bi_Mo_Mo_0 G1 J) rfl rfl rfl kc_X6_194 rfl rfl rfl rfl rfl (jat hM.2.1 39 rfl) (st := []) rfl ?_
          show JW X 0 0 71 [some (.ref 0), some (.int p0), some (.int p1)] [.int v8] (hMo G1 J)
          obtain rfl := Option.some.inj h
          exact js_iret hM.1 hp hM.2.2.2.2.2.2.2.1 (by rw [hM.2.2.2.2.2.1]; exact Nat.le_of_ble_eq_true rfl) (by rw [hM.2.2.2.2.2.2.1]; exact Nat.le_of_ble_eq_true rfl) (jat hM.2.1 40 rfl) hq
        · have h := (if_pos hc11).symm.trans h
          refine JW.r hM 33 2 (pc2 := 60) (L2 := [some (.ref 0), some (.int p0), some (.int p1)]) (st2 := [.int p0, .ref 0]) (μ2 := (hMo G1 J)) rfl trivial ?_
          obtain ⟨v10, hv9, h⟩ := jbd h
          refine JW.cV (v := some (.int v10)) hM (m_X6_wealth (jVX X) hM.1.2.2.2.2.2.2.2.2.2.1 N G1 J p0 v10 hv9) (sb_Mo_Mo_0 G1 J) (bi_Mo_Mo_0 G1 J) rfl rfl rfl kc_X6_191 rfl rfl rfl rfl rfl (jat hM.2.1 35 rfl) (st := []) rfl ?_
          show JW X 0 0 63 [some (.ref 0), some (.int p0), some (.int p1)] [.int v10] (hMo G1 J)
          refine JW.r hM 36 1 (pc2 := 71) (L2 := [some (.ref 0), some (.int p0), some (.int p1)]) (st2 := [.int v10]) (μ2 := (hMo G1 J)) rfl trivial ?_
          obtain rfl := Option.some.inj h
          exact js_iret hM.1 hp hM.2.2.2.2.2.2.2.1 (by rw [hM.2.2.2.2.2.1]; exact Nat.le_of_ble_eq_true rfl) (by rw [hM.2.2.2.2.2.2.1]; exact Nat.le_of_ble_eq_true rfl) (jat hM.2.1 40 rfl) hq
      · have h := (if_pos hc13).symm.trans h
        obtain ⟨g12, h⟩ := jg h
        refine JW.r hM 23 7 (pc2 := 71) (L2 := [some (.ref 0), some (.int p0), some (.int p1)]) (st2 := [.int (G1 1 ((8 : Int32) + p0).toNatClampNeg)]) (μ2 := (hMo G1 J)) rfl ⟨g12, trivial⟩ ?_
        obtain rfl := Option.some.inj h
        exact js_iret hM.1 hp hM.2.2.2.2.2.2.2.1 (by rw [hM.2.2.2.2.2.1]; exact Nat.le_of_ble_eq_true rfl) (by rw [hM.2.2.2.2.2.2.1]; exact Nat.le_of_ble_eq_true rfl) (jat hM.2.1 40 rfl) hq
    · have h := (if_pos hc18).symm.trans h
      refine JW.r hM 17 2 (pc2 := 33) (L2 := [some (.ref 0), some (.int p0), some (.int p1)]) (st2 := [.int (2 : Int32), .ref 0]) (μ2 := (hMo G1 J)) rfl trivial ?_
      obtain ⟨v15, hv14, h⟩ := jbd h
      refine JW.cV (v := some (.int v15.1)) hM (m_X6_fails (jVX X) hM.1.2.2.2.2.2.2.2.2.2.1 N G1 J (2 : Int32) v15 hv14) (sb_Mo_Mo_0 G1 J) (bk_Mo_Mo_0 G1 J v15.2 J) rfl rfl rfl kc_X6_170 rfl rfl rfl rfl rfl (jat hM.2.1 19 rfl) (st := []) rfl ?_
      show JW X 0 0 36 [some (.ref 0), some (.int p0), some (.int p1)] [.int v15.1] (hMo v15.2 J)
      obtain ⟨G16, e17, h⟩ := jlE h
      rw [e17]
      obtain rfl := Option.some.inj h
      exact js_iret hM.1 hp hM.2.2.2.2.2.2.2.1 (by rw [hM.2.2.2.2.2.1]; exact Nat.le_of_ble_eq_true rfl) (by rw [hM.2.2.2.2.2.2.1]; exact Nat.le_of_ble_eq_true rfl) (jat hM.2.1 20 rfl) hq
  · have h := (if_pos hc23).symm.trans h
    refine JW.r hM 7 2 (pc2 := 15) (L2 := [some (.ref 0), some (.int p0), some (.int p1)]) (st2 := [.int (1 : Int32), .ref 0]) (μ2 := (hMo G1 J)) rfl trivial ?_
    obtain ⟨v20, hv19, h⟩ := jbd h
    refine JW.cV (v := some (.int v20.1)) hM (m_X6_fails (jVX X) hM.1.2.2.2.2.2.2.2.2.2.1 N G1 J (1 : Int32) v20 hv19) (sb_Mo_Mo_0 G1 J) (bk_Mo_Mo_0 G1 J v20.2 J) rfl rfl rfl kc_X6_170 rfl rfl rfl rfl rfl (jat hM.2.1 9 rfl) (st := []) rfl ?_
    show JW X 0 0 18 [some (.ref 0), some (.int p0), some (.int p1)] [.int v20.1] (hMo v20.2 J)
    obtain ⟨G21, e22, h⟩ := jlE h
    rw [e22]
    obtain rfl := Option.some.inj h
    exact js_iret hM.1 hp hM.2.2.2.2.2.2.2.1 (by rw [hM.2.2.2.2.2.1]; exact Nat.le_of_ble_eq_true rfl) (by rw [hM.2.2.2.2.2.2.1]; exact Nat.le_of_ble_eq_true rfl) (jat hM.2.1 10 rfl) hq
theorem m_X6_person (V : jV) (hV : V.1.stackTraces = false) (N : Nat) (G : Nat → Nat → Int32) (J : Nat → Nat → Int64) (p0 : Int32) (p1 : Int32) (v : Int32 × (Nat → Nat → Int32)) (h : p_X6_person N G J p0 p1 = some v) : jMet V yX6_person (jws yX6_person cX6_person 3 (some .int)) ⟨2, 0, 0, 46⟩ true 1 [.ref 0, .int p0, .int p1] (hMo G J) (fun o ν => o = some (.int v.1) ∧ ν = (hMo v.2 J)) (fun _ _ => False) := by
  refine jmk (tb := tbX6) (C := kX6_person) hV rfl (by decide) tbX6_ok rfl kX6_person_ok rfl ?_
  intro X hM _ hp _
  exact t_X6_person hM hp N G J p0 p1 h ⟨rfl, rfl⟩
def p_X6_worth_b30 (N : Nat) (J : Nat → Nat → Int64) (G : Nat → Nat → Int32) : Option (Int32 × (Nat → Nat → Int32)) :=
  (p_X6_fails N G J (1 : Int32)).bind (fun v6 => jlt v6.2 fun G7 => some (v6.1, G7))
def p_X6_worth (N : Nat) (G : Nat → Nat → Int32) (J : Nat → Nat → Int64) (p0 : Int32) (p1 : Int32) : Option (Int32 × (Nat → Nat → Int32)) :=
  jlt (jup G 0 5 (0 : Int32)) fun G1 => (p_X6_isThing N G1 J p0).bind (fun v4 => if v4 = 0 then (p_X6_worth_b30 N J G1) else ((p_X6_isPerson N G1 J p1).bind (fun v10 => if v10 = 0 then (p_X6_worth_b30 N J G1) else ((p_X6_worthTo N G1 J p0 p1).bind (fun v12 => some (v12, G1))))))
set_option maxHeartbeats 4000000 in
set_option maxRecDepth 100000 in
theorem t_X6_worth_b30 {X : jX} {po : Option Value → jH → Prop} {px : String → jH → Prop} {sf : Bool} {B9 : Nat} (hM : jMX X kX6_worth RX6 tbX6 3 ⟨2, 0, 0, 46⟩ (some .int) 16) (hp : jPost X sf B9 po px) (N : Nat) (J : Nat → Nat → Int64) {res : Int32 × (Nat → Nat → Int32)} (G : Nat → Nat → Int32) (h : p_X6_worth_b30 N J G = some res) (hq : po (some (.int res.1)) (hMo res.2 J)) : JW X 0 0 30 [some (.ref 0), none, none] [] (hMo G J) := by
  unfold p_X6_worth_b30 at h
  refine JW.r hM 16 2 (pc2 := 32) (L2 := [some (.ref 0), none, none]) (st2 := [.int (1 : Int32), .ref 0]) (μ2 := (hMo G J)) rfl trivial ?_
  obtain ⟨v6, hv5, h⟩ := jbd h
  refine JW.cV (v := some (.int v6.1)) hM (m_X6_fails (jVX X) hM.1.2.2.2.2.2.2.2.2.2.1 N G J (1 : Int32) v6 hv5) (sb_Mo_Mo_0 G J) (bk_Mo_Mo_0 G J v6.2 J) rfl rfl rfl kc_X6_170 rfl rfl rfl rfl rfl (jat hM.2.1 18 rfl) (st := []) rfl ?_
  show JW X 0 0 35 [some (.ref 0), none, none] [.int v6.1] (hMo v6.2 J)
  obtain ⟨G7, e8, h⟩ := jlE h
  rw [e8]
  obtain rfl := Option.some.inj h
  exact js_iret hM.1 hp hM.2.2.2.2.2.2.2.1 (by rw [hM.2.2.2.2.2.1]; exact Nat.le_of_ble_eq_true rfl) (by rw [hM.2.2.2.2.2.2.1]; exact Nat.le_of_ble_eq_true rfl) (jat hM.2.1 19 rfl) hq
set_option maxHeartbeats 4000000 in
set_option maxRecDepth 100000 in
theorem t_X6_worth {X : jX} {po : Option Value → jH → Prop} {px : String → jH → Prop} {sf : Bool} {B9 : Nat} (hM : jMX X kX6_worth RX6 tbX6 3 ⟨2, 0, 0, 46⟩ (some .int) 16) (hp : jPost X sf B9 po px) (N : Nat) (G : Nat → Nat → Int32) (J : Nat → Nat → Int64) (p0 : Int32) (p1 : Int32) {res : Int32 × (Nat → Nat → Int32)} (h : p_X6_worth N G J p0 p1 = some res) (hq : po (some (.int res.1)) (hMo res.2 J)) : JW X 0 0 0 [some (.ref 0), some (.int p0), some (.int p1)] [] (hMo G J) := by
  unfold p_X6_worth at h
  obtain ⟨G1, e2, h⟩ := jlE h
  refine JW.r hM 0 3 (pc2 := 5) (L2 := [some (.ref 0), some (.int p0), some (.int p1)]) (st2 := []) (μ2 := (hMo (jup G 0 5 (0 : Int32)) J)) rfl trivial ?_
  rw [e2]
  refine JW.r hM 3 2 (pc2 := 7) (L2 := [some (.ref 0), some (.int p0), some (.int p1)]) (st2 := [.int p0, .ref 0]) (μ2 := (hMo G1 J)) rfl trivial ?_
  obtain ⟨v4, hv3, h⟩ := jbd h
  refine JW.cV (v := some (.int v4)) hM (m_X6_isThing (jVX X) hM.1.2.2.2.2.2.2.2.2.2.1 N G1 J p0 v4 hv3) (sb_Mo_Mo_0 G1 J) (bi_Mo_Mo_0 G1 J) rfl rfl rfl kc_X6_197 rfl rfl rfl rfl rfl (jat hM.2.1 5 rfl) (st := []) rfl ?_
  show JW X 0 0 10 [some (.ref 0), some (.int p0), some (.int p1)] [.int v4] (hMo G1 J)
  refine js_ifeq (t := 30) hM.1 (jat hM.2.1 6 rfl) rfl (fun hc14 => ?_) (fun hc14 => ?_)
  · have h := (if_pos hc14).symm.trans h
    exact JW.mask [true, false, false] (t_X6_worth_b30 hM hp N J G1 h hq)
  · have h := (if_neg hc14).symm.trans h
    refine JW.r hM 7 2 (pc2 := 15) (L2 := [some (.ref 0), some (.int p0), some (.int p1)]) (st2 := [.int p1, .ref 0]) (μ2 := (hMo G1 J)) rfl trivial ?_
    obtain ⟨v10, hv9, h⟩ := jbd h
    refine JW.cV (v := some (.int v10)) hM (m_X6_isPerson (jVX X) hM.1.2.2.2.2.2.2.2.2.2.1 N G1 J p1 v10 hv9) (sb_Mo_Mo_0 G1 J) (bi_Mo_Mo_0 G1 J) rfl rfl rfl kc_X6_186 rfl rfl rfl rfl rfl (jat hM.2.1 9 rfl) (st := []) rfl ?_
    show JW X 0 0 18 [some (.ref 0), some (.int p0), some (.int p1)] [.int v10] (hMo G1 J)
    refine js_ifeq (t := 30) hM.1 (jat hM.2.1 10 rfl) rfl (fun hc13 => ?_) (fun hc13 => ?_)
    · have h := (if_pos hc13).symm.trans h
      exact JW.mask [true, false, false] (t_X6_worth_b30 hM hp N J G1 h hq)
    · have h := (if_neg hc13).symm.trans h
      refine JW.r hM 11 3 (pc2 := 24) (L2 := [some (.ref 0), some (.int p0), some (.int p1)]) (st2 := [.int p1, .int p0, .ref 0]) (μ2 := (hMo G1 J)) rfl trivial ?_
      obtain ⟨v12, hv11, h⟩ := jbd h
      refine JW.cV (v := some (.int v12)) hM (m_X6_worthTo (jVX X) hM.1.2.2.2.2.2.2.2.2.2.1 N G1 J p0 p1 v12 hv11) (sb_Mo_Mo_0 G1 J) (bi_Mo_Mo_0 G1 J) rfl rfl rfl kc_X6_183 rfl rfl rfl rfl rfl (jat hM.2.1 14 rfl) (st := []) rfl ?_
      show JW X 0 0 27 [some (.ref 0), some (.int p0), some (.int p1)] [.int v12] (hMo G1 J)
      refine JW.r hM 15 1 (pc2 := 35) (L2 := [some (.ref 0), some (.int p0), some (.int p1)]) (st2 := [.int v12]) (μ2 := (hMo G1 J)) rfl trivial ?_
      obtain rfl := Option.some.inj h
      exact js_iret hM.1 hp hM.2.2.2.2.2.2.2.1 (by rw [hM.2.2.2.2.2.1]; exact Nat.le_of_ble_eq_true rfl) (by rw [hM.2.2.2.2.2.2.1]; exact Nat.le_of_ble_eq_true rfl) (jat hM.2.1 19 rfl) hq
theorem m_X6_worth (V : jV) (hV : V.1.stackTraces = false) (N : Nat) (G : Nat → Nat → Int32) (J : Nat → Nat → Int64) (p0 : Int32) (p1 : Int32) (v : Int32 × (Nat → Nat → Int32)) (h : p_X6_worth N G J p0 p1 = some v) : jMet V yX6_worth (jws yX6_worth cX6_worth 3 (some .int)) ⟨2, 0, 0, 46⟩ true 1 [.ref 0, .int p0, .int p1] (hMo G J) (fun o ν => o = some (.int v.1) ∧ ν = (hMo v.2 J)) (fun _ _ => False) := by
  refine jmk (tb := tbX6) (C := kX6_worth) hV rfl (by decide) tbX6_ok rfl kX6_worth_ok rfl ?_
  intro X hM _ hp _
  exact t_X6_worth hM hp N G J p0 p1 h ⟨rfl, rfl⟩
def p_X6_holder (N : Nat) (G : Nat → Nat → Int32) (J : Nat → Nat → Int64) (p0 : Int32) : Option (Int32 × (Nat → Nat → Int32)) :=
  jlt (jup G 0 5 (0 : Int32)) fun G1 => (p_X6_isThing N G1 J p0).bind (fun v4 => if v4 = 0 then ((p_X6_fails N G1 J (1 : Int32)).bind (fun v6 => jlt v6.2 fun G7 => some (v6.1, G7))) else (if jin ((14 : Int32) + p0) 264 = true then some ((G1 1 ((14 : Int32) + p0).toNatClampNeg), G1) else none))
set_option maxHeartbeats 4000000 in
set_option maxRecDepth 100000 in
theorem t_X6_holder {X : jX} {po : Option Value → jH → Prop} {px : String → jH → Prop} {sf : Bool} {B9 : Nat} (hM : jMX X kX6_holder RX6 tbX6 2 ⟨2, 0, 0, 46⟩ (some .int) 16) (hp : jPost X sf B9 po px) (N : Nat) (G : Nat → Nat → Int32) (J : Nat → Nat → Int64) (p0 : Int32) {res : Int32 × (Nat → Nat → Int32)} (h : p_X6_holder N G J p0 = some res) (hq : po (some (.int res.1)) (hMo res.2 J)) : JW X 0 0 0 [some (.ref 0), some (.int p0)] [] (hMo G J) := by
  unfold p_X6_holder at h
  obtain ⟨G1, e2, h⟩ := jlE h
  refine JW.r hM 0 3 (pc2 := 5) (L2 := [some (.ref 0), some (.int p0)]) (st2 := []) (μ2 := (hMo (jup G 0 5 (0 : Int32)) J)) rfl trivial ?_
  rw [e2]
  refine JW.r hM 3 2 (pc2 := 7) (L2 := [some (.ref 0), some (.int p0)]) (st2 := [.int p0, .ref 0]) (μ2 := (hMo G1 J)) rfl trivial ?_
  obtain ⟨v4, hv3, h⟩ := jbd h
  refine JW.cV (v := some (.int v4)) hM (m_X6_isThing (jVX X) hM.1.2.2.2.2.2.2.2.2.2.1 N G1 J p0 v4 hv3) (sb_Mo_Mo_0 G1 J) (bi_Mo_Mo_0 G1 J) rfl rfl rfl kc_X6_197 rfl rfl rfl rfl rfl (jat hM.2.1 5 rfl) (st := []) rfl ?_
  show JW X 0 0 10 [some (.ref 0), some (.int p0)] [.int v4] (hMo G1 J)
  refine js_ifeq (t := 25) hM.1 (jat hM.2.1 6 rfl) rfl (fun hc10 => ?_) (fun hc10 => ?_)
  · have h := (if_pos hc10).symm.trans h
    refine JW.r hM 14 2 (pc2 := 27) (L2 := [some (.ref 0), some (.int p0)]) (st2 := [.int (1 : Int32), .ref 0]) (μ2 := (hMo G1 J)) rfl trivial ?_
    obtain ⟨v6, hv5, h⟩ := jbd h
    refine JW.cV (v := some (.int v6.1)) hM (m_X6_fails (jVX X) hM.1.2.2.2.2.2.2.2.2.2.1 N G1 J (1 : Int32) v6 hv5) (sb_Mo_Mo_0 G1 J) (bk_Mo_Mo_0 G1 J v6.2 J) rfl rfl rfl kc_X6_170 rfl rfl rfl rfl rfl (jat hM.2.1 16 rfl) (st := []) rfl ?_
    show JW X 0 0 30 [some (.ref 0), some (.int p0)] [.int v6.1] (hMo v6.2 J)
    obtain ⟨G7, e8, h⟩ := jlE h
    rw [e8]
    obtain rfl := Option.some.inj h
    exact js_iret hM.1 hp hM.2.2.2.2.2.2.2.1 (by rw [hM.2.2.2.2.2.1]; exact Nat.le_of_ble_eq_true rfl) (by rw [hM.2.2.2.2.2.2.1]; exact Nat.le_of_ble_eq_true rfl) (jat hM.2.1 17 rfl) hq
  · have h := (if_neg hc10).symm.trans h
    obtain ⟨g9, h⟩ := jg h
    refine JW.r hM 7 7 (pc2 := 30) (L2 := [some (.ref 0), some (.int p0)]) (st2 := [.int (G1 1 ((14 : Int32) + p0).toNatClampNeg)]) (μ2 := (hMo G1 J)) rfl ⟨g9, trivial⟩ ?_
    obtain rfl := Option.some.inj h
    exact js_iret hM.1 hp hM.2.2.2.2.2.2.2.1 (by rw [hM.2.2.2.2.2.1]; exact Nat.le_of_ble_eq_true rfl) (by rw [hM.2.2.2.2.2.2.1]; exact Nat.le_of_ble_eq_true rfl) (jat hM.2.1 17 rfl) hq
theorem m_X6_holder (V : jV) (hV : V.1.stackTraces = false) (N : Nat) (G : Nat → Nat → Int32) (J : Nat → Nat → Int64) (p0 : Int32) (v : Int32 × (Nat → Nat → Int32)) (h : p_X6_holder N G J p0 = some v) : jMet V yX6_holder (jws yX6_holder cX6_holder 2 (some .int)) ⟨2, 0, 0, 46⟩ true 1 [.ref 0, .int p0] (hMo G J) (fun o ν => o = some (.int v.1) ∧ ν = (hMo v.2 J)) (fun _ _ => False) := by
  refine jmk (tb := tbX6) (C := kX6_holder) hV rfl (by decide) tbX6_ok rfl kX6_holder_ok rfl ?_
  intro X hM _ hp _
  exact t_X6_holder hM hp N G J p0 h ⟨rfl, rfl⟩

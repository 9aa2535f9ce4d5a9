def p_X4_lay (N : Nat) (G : Nat → Nat → Int32) (J : Nat → Nat → Int64) (p0 : Int32) (p1 : Int32) : Option ((Nat → Nat → Int32) × (Nat → Nat → Int64)) :=
  jlt (jup G 0 0 (0 : Int32)) fun G1 => jlt (jup G1 0 3 p0) fun G3 => jlt (jup G3 0 1 p1) fun G5 => (p_J7_fill_d0a16 N (jvw J 1) (0 : Int64)).bind (fun v8 => jlt (jpt J 1 1 v8) fun J9 => some (G5, J9))
set_option maxHeartbeats 4000000 in
set_option maxRecDepth 100000 in
theorem t_X4_lay {X : jX} {po : Option Value → jH → Prop} {px : String → jH → Prop} {sf : Bool} {B9 : Nat} (hM : jMX X kX4_lay RX4 tbX4 3 ⟨1, 0, 0, 24⟩ none 3) (hp : jPost X sf B9 po px) (N : Nat) (G : Nat → Nat → Int32) (J : Nat → Nat → Int64) (p0 : Int32) (p1 : Int32) {res : (Nat → Nat → Int32) × (Nat → Nat → Int64)} (h : p_X4_lay N G J p0 p1 = some res) (hq : po none (hTray res.1 res.2)) : JW X 0 0 0 [some (.ref 0), some (.int p0), some (.int p1)] [] (hTray G J) := by
  unfold p_X4_lay at h
  obtain ⟨G1, e2, h⟩ := jlE h
  refine JW.r hM 0 3 (pc2 := 5) (L2 := [some (.ref 0), some (.int p0), some (.int p1)]) (st2 := []) (μ2 := (hTray (jup G 0 0 (0 : Int32)) J)) rfl ⟨rfl, trivial⟩ ?_
  rw [e2]
  obtain ⟨G3, e4, h⟩ := jlE h
  refine JW.r hM 3 3 (pc2 := 10) (L2 := [some (.ref 0), some (.int p0), some (.int p1)]) (st2 := []) (μ2 := (hTray (jup G1 0 3 p0) J)) rfl trivial ?_
  rw [e4]
  obtain ⟨G5, e6, h⟩ := jlE h
  refine JW.r hM 6 3 (pc2 := 15) (L2 := [some (.ref 0), some (.int p0), some (.int p1)]) (st2 := []) (μ2 := (hTray (jup G3 0 1 p1) J)) rfl trivial ?_
  rw [e6]
  refine JW.r hM 9 3 (pc2 := 20) (L2 := [some (.ref 0), some (.int p0), some (.int p1)]) (st2 := [.long (0 : Int64), .ref 1]) (μ2 := (hTray G5 J)) rfl trivial ?_
  obtain ⟨v8, hv7, h⟩ := jbd h
  refine JW.cS (v := none) hM (m_J7_fill_d0a16 (jVX X) hM.1.2.2.2.2.2.2.2.2.2.1 N (jvw J 1) (0 : Int64) v8 hv7) (sb_Tray_FL_1 G5 J) (bk_Tray_FL_1 G5 J v8) rfl rfl rfl kc_X4_26 rfl rfl rfl (jat hM.2.1 12 rfl) (st := []) rfl ?_
  show JW X 0 0 23 [some (.ref 0), some (.int p0), some (.int p1)] [] (hTray G5 (jpt J 1 1 v8))
  obtain ⟨J9, e10, h⟩ := jlE h
  rw [e10]
  cases h
  exact js_vret hM.1 hp hM.2.2.2.2.2.2.2.1 (by rw [hM.2.2.2.2.2.1]; exact Nat.le_of_ble_eq_true rfl) (by rw [hM.2.2.2.2.2.2.1]; exact Nat.le_of_ble_eq_true rfl) (jat hM.2.1 13 rfl) hq
theorem m_X4_lay (V : jV) (hV : V.1.stackTraces = false) (N : Nat) (G : Nat → Nat → Int32) (J : Nat → Nat → Int64) (p0 : Int32) (p1 : Int32) (v : (Nat → Nat → Int32) × (Nat → Nat → Int64)) (h : p_X4_lay N G J p0 p1 = some v) : jMet V yX4_lay (jws yX4_lay cX4_lay 3 none) ⟨1, 0, 0, 24⟩ true 1 [.ref 0, .int p0, .int p1] (hTray G J) (fun o ν => o = none ∧ ν = (hTray v.1 v.2)) (fun _ _ => False) := by
  refine jmk (tb := tbX4) (C := kX4_lay) hV rfl (by decide) tbX4_ok rfl kX4_lay_ok rfl ?_
  intro X hM _ hp _
  exact t_X4_lay hM hp N G J p0 p1 h ⟨rfl, rfl⟩
def p_X4_cutToSort (N : Nat) (G : Nat → Nat → Int32) (J : Nat → Nat → Int64) (p0 : Int64) : Option (Int64) :=
  if (G 0 3).toInt = 0 then (some (((p0.toInt32).toInt8.toInt32).toInt64)) else (if (G 0 3).toInt = 1 then (some (((p0.toInt32).toInt16.toInt32).toInt64)) else (if (G 0 3).toInt = 2 then (some ((p0.toInt32).toInt64)) else (some p0)))
set_option maxHeartbeats 4000000 in
set_option maxRecDepth 100000 in
theorem t_X4_cutToSort {X : jX} {po : Option Value → jH → Prop} {px : String → jH → Prop} {sf : Bool} {B9 : Nat} (hM : jMX X kX4_cutToSort RX4 tbX4 3 ⟨0, 0, 0, 0⟩ (some .long) 3) (hp : jPost X sf B9 po px) (N : Nat) (G : Nat → Nat → Int32) (J : Nat → Nat → Int64) (p0 : Int64) {res : Int64} (h : p_X4_cutToSort N G J p0 = some res) (hq : po (some (.long res)) (hTray G J)) : JW X 0 0 0 [some (.ref 0), some (.long p0), none] [] (hTray G J) := by
  unfold p_X4_cutToSort at h
  refine JW.r hM 0 2 (pc2 := 4) (L2 := [some (.ref 0), some (.long p0), none]) (st2 := [.int (G 0 3)]) (μ2 := (hTray G J)) rfl trivial ?_
  refine js_tsw (t0 := 46) hM.1 (jat hM.2.1 2 rfl) (by decide) rfl (by decide) ⟨fun hc1 t ht => ?_, fun hc1 => ⟨fun hc2 t ht => ?_, fun hc2 => ⟨fun hc3 t ht => ?_, fun hc3 => fun t ht => ?_⟩⟩⟩
  · have h := (if_pos hc1).symm.trans h
    obtain rfl : t = 32 := by omega
    refine JW.r hM 3 4 (pc2 := 36) (L2 := [some (.ref 0), some (.long p0), none]) (st2 := [.long (((p0.toInt32).toInt8.toInt32).toInt64)]) (μ2 := (hTray G J)) rfl trivial ?_
    cases h
    exact js_lret hM.1 hp hM.2.2.2.2.2.2.2.1 (by rw [hM.2.2.2.2.2.1]; exact Nat.le_of_ble_eq_true rfl) (by rw [hM.2.2.2.2.2.2.1]; exact Nat.le_of_ble_eq_true rfl) (jat hM.2.1 7 rfl) hq
  · have h := (if_neg hc1).symm.trans h
    have h := (if_pos hc2).symm.trans h
    obtain rfl : t = 37 := by omega
    refine JW.r hM 8 4 (pc2 := 41) (L2 := [some (.ref 0), some (.long p0), none]) (st2 := [.long (((p0.toInt32).toInt16.toInt32).toInt64)]) (μ2 := (hTray G J)) rfl trivial ?_
    cases h
    exact js_lret hM.1 hp hM.2.2.2.2.2.2.2.1 (by rw [hM.2.2.2.2.2.1]; exact Nat.le_of_ble_eq_true rfl) (by rw [hM.2.2.2.2.2.2.1]; exact Nat.le_of_ble_eq_true rfl) (jat hM.2.1 12 rfl) hq
  · have h := (if_neg hc1).symm.trans h
    have h := (if_neg hc2).symm.trans h
    have h := (if_pos hc3).symm.trans h
    obtain rfl : t = 42 := by omega
    refine JW.r hM 13 3 (pc2 := 45) (L2 := [some (.ref 0), some (.long p0), none]) (st2 := [.long ((p0.toInt32).toInt64)]) (μ2 := (hTray G J)) rfl trivial ?_
    cases h
    exact js_lret hM.1 hp hM.2.2.2.2.2.2.2.1 (by rw [hM.2.2.2.2.2.1]; exact Nat.le_of_ble_eq_true rfl) (by rw [hM.2.2.2.2.2.2.1]; exact Nat.le_of_ble_eq_true rfl) (jat hM.2.1 16 rfl) hq
  · have h := (if_neg hc1).symm.trans h
    have h := (if_neg hc2).symm.trans h
    have h := (if_neg hc3).symm.trans h
    obtain rfl : t = 46 := by omega
    refine JW.r hM 17 1 (pc2 := 47) (L2 := [some (.ref 0), some (.long p0), none]) (st2 := [.long p0]) (μ2 := (hTray G J)) rfl trivial ?_
    cases h
    exact js_lret hM.1 hp hM.2.2.2.2.2.2.2.1 (by rw [hM.2.2.2.2.2.1]; exact Nat.le_of_ble_eq_true rfl) (by rw [hM.2.2.2.2.2.2.1]; exact Nat.le_of_ble_eq_true rfl) (jat hM.2.1 18 rfl) hq
theorem m_X4_cutToSort (V : jV) (hV : V.1.stackTraces = false) (N : Nat) (G : Nat → Nat → Int32) (J : Nat → Nat → Int64) (p0 : Int64) (v : Int64) (h : p_X4_cutToSort N G J p0 = some v) : jMet V yX4_cutToSort (jws yX4_cutToSort cX4_cutToSort 3 (some .long)) ⟨0, 0, 0, 0⟩ true 1 [.ref 0, .long p0] (hTray G J) (fun o ν => o = some (.long v) ∧ ν = (hTray G J)) (fun _ _ => False) := by
  refine jmk (tb := tbX4) (C := kX4_cutToSort) hV rfl (by decide) tbX4_ok rfl kX4_cutToSort_ok rfl ?_
  intro X hM _ hp _
  exact t_X4_cutToSort hM hp N G J p0 h ⟨rfl, rfl⟩
def p_X4_put (N : Nat) (G : Nat → Nat → Int32) (J : Nat → Nat → Int64) (p0 : Int32) (p1 : Int64) : Option ((Nat → Nat → Int64)) :=
  (p_X4_cutToSort N G J p1).bind (fun v2 => if jin p0 40 = true then jlt (jupL J 1 p0.toNatClampNeg v2) fun J4 => some J4 else none)
set_option maxHeartbeats 4000000 in
set_option maxRecDepth 100000 in
theorem t_X4_put {X : jX} {po : Option Value → jH → Prop} {px : String → jH → Prop} {sf : Bool} {B9 : Nat} (hM : jMX X kX4_put RX4 tbX4 4 ⟨1, 0, 0, 22⟩ none 3) (hp : jPost X sf B9 po px) (N : Nat) (G : Nat → Nat → Int32) (J : Nat → Nat → Int64) (p0 : Int32) (p1 : Int64) {res : (Nat → Nat → Int64)} (h : p_X4_put N G J p0 p1 = some res) (hq : po none (hTray G res)) : JW X 0 0 0 [some (.ref 0), some (.int p0), some (.long p1), none] [] (hTray G J) := by
  unfold p_X4_put at h
  refine JW.r hM 0 5 (pc2 := 7) (L2 := [some (.ref 0), some (.int p0), some (.long p1), none]) (st2 := [.long p1, .ref 0, .int p0, .ref 1]) (μ2 := (hTray G J)) rfl trivial ?_
  obtain ⟨v2, hv1, h⟩ := jbd h
  refine JW.cV (v := some (.long v2)) hM (m_X4_cutToSort (jVX X) hM.1.2.2.2.2.2.2.2.2.2.1 N G J p1 v2 hv1) (sb_Tray_Tray_0 G J) (bi_Tray_Tray_0 G J) rfl rfl rfl kc_X4_32 rfl rfl rfl rfl rfl (jat hM.2.1 5 rfl) (st := [.int p0, .ref 1]) rfl ?_
  show JW X 0 0 10 [some (.ref 0), some (.int p0), some (.long p1), none] [.long v2, .int p0, .ref 1] (hTray G J)
  obtain ⟨g3, h⟩ := jg h
  obtain ⟨J4, e5, h⟩ := jlE h
  refine JW.r hM 6 1 (pc2 := 11) (L2 := [some (.ref 0), some (.int p0), some (.long p1), none]) (st2 := []) (μ2 := (hTray G (jupL J 1 p0.toNatClampNeg v2))) rfl ⟨g3, trivial⟩ ?_
  rw [e5]
  cases h
  exact js_vret hM.1 hp hM.2.2.2.2.2.2.2.1 (by rw [hM.2.2.2.2.2.1]; exact Nat.le_of_ble_eq_true rfl) (by rw [hM.2.2.2.2.2.2.1]; exact Nat.le_of_ble_eq_true rfl) (jat hM.2.1 7 rfl) hq
theorem m_X4_put (V : jV) (hV : V.1.stackTraces = false) (N : Nat) (G : Nat → Nat → Int32) (J : Nat → Nat → Int64) (p0 : Int32) (p1 : Int64) (v : (Nat → Nat → Int64)) (h : p_X4_put N G J p0 p1 = some v) : jMet V yX4_put (jws yX4_put cX4_put 4 none) ⟨1, 0, 0, 22⟩ true 1 [.ref 0, .int p0, .long p1] (hTray G J) (fun o ν => o = none ∧ ν = (hTray G v)) (fun _ _ => False) := by
  refine jmk (tb := tbX4) (C := kX4_put) hV rfl (by decide) tbX4_ok rfl kX4_put_ok rfl ?_
  intro X hM _ hp _
  exact t_X4_put hM hp N G J p0 p1 h ⟨rfl, rfl⟩
def p_X4_isOffers_b21 (N : Nat) (G : Nat → Nat → Int32) (J : Nat → Nat → Int64) : Nat → (Int32) → Option (Int32)
  | 0, _ => none
  | n + 1, x1 => if (G 0 1) ≤ x1 then (some (1 : Int32)) else (if jin x1 40 = true then if (lg_cmp (J 1 x1.toNatClampNeg) (0 : Int64)) < 0 then (some (0 : Int32)) else (if jin x1 40 = true then if (lg_cmp (J 1 x1.toNatClampNeg) (9999 : Int64)) ≤ 0 then ((p_X4_isOffers_b21 N G J n) (x1 + 1)) else (some (0 : Int32)) else none) else none)
def p_X4_isOffers (N : Nat) (G : Nat → Nat → Int32) (J : Nat → Nat → Int64) : Option (Int32) :=
  if (G 0 1) < (1 : Int32) then (some (0 : Int32)) else (if (G 0 1) ≤ (6 : Int32) then (p_X4_isOffers_b21 N G J N (0 : Int32)) else (some (0 : Int32)))
set_option maxHeartbeats 4000000 in
set_option maxRecDepth 100000 in
theorem t_X4_isOffers_b21 {X : jX} {po : Option Value → jH → Prop} {px : String → jH → Prop} {sf : Bool} {B9 : Nat} (hM : jMX X kX4_isOffers RX4 tbX4 2 ⟨0, 0, 0, 0⟩ (some .boolean) 3) (hp : jPost X sf B9 po px) (N : Nat) (G : Nat → Nat → Int32) (J : Nat → Nat → Int64) {res : Int32} : ∀ (n : Nat) (x1 : Int32) (h : p_X4_isOffers_b21 N G J n x1 = some res) (hq : po (some (.int res)) (hTray G J)), JW X 0 0 21 [some (.ref 0), some (.int x1)] [] (hTray G J) := by
  intro n
  induction n with
  | zero =>
    intro x1 h hq
    cases (show (none : Option (Int32)) = some res from h)
  | succ n ih21 =>
    intro x1 h hq
    have ih21 := fun x1 h9 => ih21 x1 h9 hq
    rw [p_X4_isOffers_b21] at h
    refine JW.r hM 12 3 (pc2 := 26) (L2 := [some (.ref 0), some (.int x1)]) (st2 := [.int (G 0 1), .int x1]) (μ2 := (hTray G J)) rfl trivial ?_
    refine js_icge (t := 61) hM.1 (jat hM.2.1 15 rfl) rfl (fun hc5 => ?_) (fun hc5 => ?_)
    · have h := (if_pos hc5).symm.trans h
      refine JW.r hM 34 1 (pc2 := 62) (L2 := [some (.ref 0), some (.int x1)]) (st2 := [.int (1 : Int32)]) (μ2 := (hTray G J)) rfl trivial ?_
      cases h
      exact js_zret hM.1 hp hM.2.2.2.2.2.2.2.1 rfl (by rw [hM.2.2.2.2.2.1]; exact Nat.le_of_ble_eq_true rfl) (by rw [hM.2.2.2.2.2.2.1]; exact Nat.le_of_ble_eq_true rfl) (jat hM.2.1 35 rfl) hq
    · have h := (if_neg hc5).symm.trans h
      obtain ⟨g1, h⟩ := jg h
      refine JW.r hM 16 6 (pc2 := 37) (L2 := [some (.ref 0), some (.int x1)]) (st2 := [.int (lg_cmp (J 1 x1.toNatClampNeg) (0 : Int64))]) (μ2 := (hTray G J)) rfl ⟨g1, trivial⟩ ?_
      refine js_iflt (t := 53) hM.1 (jat hM.2.1 22 rfl) rfl (fun hc4 => ?_) (fun hc4 => ?_)
      · have h := (if_pos hc4).symm.trans h
        refine JW.r hM 30 1 (pc2 := 54) (L2 := [some (.ref 0), some (.int x1)]) (st2 := [.int (0 : Int32)]) (μ2 := (hTray G J)) rfl trivial ?_
        cases h
        exact js_zret hM.1 hp hM.2.2.2.2.2.2.2.1 rfl (by rw [hM.2.2.2.2.2.1]; exact Nat.le_of_ble_eq_true rfl) (by rw [hM.2.2.2.2.2.2.1]; exact Nat.le_of_ble_eq_true rfl) (jat hM.2.1 31 rfl) hq
      · have h := (if_neg hc4).symm.trans h
        obtain ⟨g2, h⟩ := jg h
        refine JW.r hM 23 6 (pc2 := 50) (L2 := [some (.ref 0), some (.int x1)]) (st2 := [.int (lg_cmp (J 1 x1.toNatClampNeg) (9999 : Int64))]) (μ2 := (hTray G J)) rfl ⟨g2, trivial⟩ ?_
        refine js_ifle (t := 55) hM.1 (jat hM.2.1 29 rfl) rfl (fun hc3 => ?_) (fun hc3 => ?_)
        · have h := (if_pos hc3).symm.trans h
          refine JW.r hM 32 2 (pc2 := 21) (L2 := [some (.ref 0), some (.int (x1 + 1))]) (st2 := []) (μ2 := (hTray G J)) rfl trivial ?_
          exact ih21 (x1 + 1) h
        · have h := (if_neg hc3).symm.trans h
          refine JW.r hM 30 1 (pc2 := 54) (L2 := [some (.ref 0), some (.int x1)]) (st2 := [.int (0 : Int32)]) (μ2 := (hTray G J)) rfl trivial ?_
          cases h
          exact js_zret hM.1 hp hM.2.2.2.2.2.2.2.1 rfl (by rw [hM.2.2.2.2.2.1]; exact Nat.le_of_ble_eq_true rfl) (by rw [hM.2.2.2.2.2.2.1]; exact Nat.le_of_ble_eq_true rfl) (jat hM.2.1 31 rfl) hq
set_option maxHeartbeats 4000000 in
set_option maxRecDepth 100000 in
theorem t_X4_isOffers {X : jX} {po : Option Value → jH → Prop} {px : String → jH → Prop} {sf : Bool} {B9 : Nat} (hM : jMX X kX4_isOffers RX4 tbX4 2 ⟨0, 0, 0, 0⟩ (some .boolean) 3) (hp : jPost X sf B9 po px) (N : Nat) (G : Nat → Nat → Int32) (J : Nat → Nat → Int64) {res : Int32} (h : p_X4_isOffers N G J = some res) (hq : po (some (.int res)) (hTray G J)) : JW X 0 0 0 [some (.ref 0), none] [] (hTray G J) := by
  unfold p_X4_isOffers at h
  refine JW.r hM 0 3 (pc2 := 5) (L2 := [some (.ref 0), none]) (st2 := [.int (1 : Int32), .int (G 0 1)]) (μ2 := (hTray G J)) rfl trivial ?_
  refine js_iclt (t := 17) hM.1 (jat hM.2.1 3 rfl) rfl (fun hc7 => ?_) (fun hc7 => ?_)
  · have h := (if_pos hc7).symm.trans h
    refine JW.r hM 8 1 (pc2 := 18) (L2 := [some (.ref 0), none]) (st2 := [.int (0 : Int32)]) (μ2 := (hTray G J)) rfl trivial ?_
    cases h
    exact js_zret hM.1 hp hM.2.2.2.2.2.2.2.1 rfl (by rw [hM.2.2.2.2.2.1]; exact Nat.le_of_ble_eq_true rfl) (by rw [hM.2.2.2.2.2.2.1]; exact Nat.le_of_ble_eq_true rfl) (jat hM.2.1 9 rfl) hq
  · have h := (if_neg hc7).symm.trans h
    refine JW.r hM 4 3 (pc2 := 14) (L2 := [some (.ref 0), none]) (st2 := [.int (6 : Int32), .int (G 0 1)]) (μ2 := (hTray G J)) rfl trivial ?_
    refine js_icle (t := 19) hM.1 (jat hM.2.1 7 rfl) rfl (fun hc6 => ?_) (fun hc6 => ?_)
    · have h := (if_pos hc6).symm.trans h
      refine JW.r hM 10 2 (pc2 := 21) (L2 := [some (.ref 0), some (.int (0 : Int32))]) (st2 := []) (μ2 := (hTray G J)) rfl trivial ?_
      exact t_X4_isOffers_b21 hM hp N G J N (0 : Int32) h hq
    · have h := (if_neg hc6).symm.trans h
      refine JW.r hM 8 1 (pc2 := 18) (L2 := [some (.ref 0), none]) (st2 := [.int (0 : Int32)]) (μ2 := (hTray G J)) rfl trivial ?_
      cases h
      exact js_zret hM.1 hp hM.2.2.2.2.2.2.2.1 rfl (by rw [hM.2.2.2.2.2.1]; exact Nat.le_of_ble_eq_true rfl) (by rw [hM.2.2.2.2.2.2.1]; exact Nat.le_of_ble_eq_true rfl) (jat hM.2.1 9 rfl) hq
theorem m_X4_isOffers (V : jV) (hV : V.1.stackTraces = false) (N : Nat) (G : Nat → Nat → Int32) (J : Nat → Nat → Int64) (v : Int32) (h : p_X4_isOffers N G J = some v) : jMet V yX4_isOffers (jws yX4_isOffers cX4_isOffers 2 (some .boolean)) ⟨0, 0, 0, 0⟩ true 1 [.ref 0] (hTray G J) (fun o ν => o = some (.int v) ∧ ν = (hTray G J)) (fun _ _ => False) := by
  refine jmk (tb := tbX4) (C := kX4_isOffers) hV rfl (by decide) tbX4_ok rfl kX4_isOffers_ok rfl ?_
  intro X hM _ hp _
  exact t_X4_isOffers hM hp N G J h ⟨rfl, rfl⟩
def p_X4_hopeAhead_b6 (N : Nat) (G : Nat → Nat → Int32) (J : Nat → Nat → Int64) : Nat → (Int64) → (Int64) → (Int64) → (Int64) → (Int32) → Option (Int64)
  | 0, _, _, _, _, _ => none
  | n + 1, x1, x3, x5, x7, x9 => if (G 0 1) ≤ x9 then (some x7) else (if jin x9 40 = true then (p_X4_hopeAhead_b6 N G J n) x1 x3 x5 (x7 + (if (((J 1 x9.toNatClampNeg) + x1) * x3) < x5 then x5 else (((J 1 x9.toNatClampNeg) + x1) * x3))) (x9 + 1) else none)
def p_X4_hopeAhead (N : Nat) (G : Nat → Nat → Int32) (J : Nat → Nat → Int64) (p0 : Int64) (p1 : Int64) (p2 : Int64) : Option (Int64) :=
  p_X4_hopeAhead_b6 N G J N p0 p1 p2 (0 : Int64) (0 : Int32)
set_option maxHeartbeats 4000000 in
set_option maxRecDepth 100000 in
theorem t_X4_hopeAhead_b6 {X : jX} {po : Option Value → jH → Prop} {px : String → jH → Prop} {sf : Bool} {B9 : Nat} (hM : jMX X kX4_hopeAhead RX4 tbX4 10 ⟨1, 0, 0, 23⟩ (some .long) 3) (hp : jPost X sf B9 po px) (N : Nat) (G : Nat → Nat → Int32) (J : Nat → Nat → Int64) {res : Int64} : ∀ (n : Nat) (x1 : Int64) (x3 : Int64) (x5 : Int64) (x7 : Int64) (x9 : Int32) (h : p_X4_hopeAhead_b6 N G J n x1 x3 x5 x7 x9 = some res) (hq : po (some (.long res)) (hTray G J)), JW X 0 0 6 [some (.ref 0), some (.long x1), none, some (.long x3), none, some (.long x5), none, some (.long x7), none, some (.int x9)] [] (hTray G J) := by
  intro n
  induction n with
  | zero =>
    intro x1 x3 x5 x7 x9 h hq
    cases (show (none : Option (Int64)) = some res from h)
  | succ n ih6 =>
    intro x1 x3 x5 x7 x9 h hq
    have ih6 := fun x1 x3 x5 x7 x9 h9 => ih6 x1 x3 x5 x7 x9 h9 hq
    rw [p_X4_hopeAhead_b6] at h
    refine JW.r hM 4 3 (pc2 := 12) (L2 := [some (.ref 0), some (.long x1), none, some (.long x3), none, some (.long x5), none, some (.long x7), none, some (.int x9)]) (st2 := [.int (G 0 1), .int x9]) (μ2 := (hTray G J)) rfl trivial ?_
    refine js_icge (t := 42) hM.1 (jat hM.2.1 7 rfl) rfl (fun hc2 => ?_) (fun hc2 => ?_)
    · have h := (if_pos hc2).symm.trans h
      refine JW.r hM 23 1 (pc2 := 44) (L2 := [some (.ref 0), some (.long x1), none, some (.long x3), none, some (.long x5), none, some (.long x7), none, some (.int x9)]) (st2 := [.long x7]) (μ2 := (hTray G J)) rfl trivial ?_
      cases h
      exact js_lret hM.1 hp hM.2.2.2.2.2.2.2.1 (by rw [hM.2.2.2.2.2.1]; exact Nat.le_of_ble_eq_true rfl) (by rw [hM.2.2.2.2.2.2.1]; exact Nat.le_of_ble_eq_true rfl) (jat hM.2.1 24 rfl) hq
    · have h := (if_neg hc2).symm.trans h
      obtain ⟨g1, h⟩ := jg h
      refine JW.r hM 8 10 (pc2 := 30) (L2 := [some (.ref 0), some (.long x1), none, some (.long x3), none, some (.long x5), none, some (.long x7), none, some (.int x9)]) (st2 := [.long (((J 1 x9.toNatClampNeg) + x1) * x3), .long x5, .long x7]) (μ2 := (hTray G J)) rfl ⟨g1, trivial⟩ ?_
      refine js_maxl hM.1 (by rw [hM.2.2.1]; exact mx_X4_46) (jat hM.2.1 18 rfl) (by rw [hM.2.2.2.2.1]; exact Nat.le_of_ble_eq_true rfl) (by rw [hM.2.2.2.2.1]; exact Nat.le_of_ble_eq_true rfl) (by rw [hM.2.2.2.2.1]; exact Nat.le_of_ble_eq_true rfl) (by rw [hM.2.2.2.2.1]; exact Nat.le_of_ble_eq_true rfl) ?_
      show JW X 0 0 33 [some (.ref 0), some (.long x1), none, some (.long x3), none, some (.long x5), none, some (.long x7), none, some (.int x9)] [.long (if (((J 1 x9.toNatClampNeg) + x1) * x3) < x5 then x5 else (((J 1 x9.toNatClampNeg) + x1) * x3)), .long x7] (hTray G J)
      refine JW.r hM 19 4 (pc2 := 6) (L2 := [some (.ref 0), some (.long x1), none, some (.long x3), none, some (.long x5), none, some (.long (x7 + (if (((J 1 x9.toNatClampNeg) + x1) * x3) < x5 then x5 else (((J 1 x9.toNatClampNeg) + x1) * x3)))), none, some (.int (x9 + 1))]) (st2 := []) (μ2 := (hTray G J)) rfl trivial ?_
      exact ih6 x1 x3 x5 (x7 + (if (((J 1 x9.toNatClampNeg) + x1) * x3) < x5 then x5 else (((J 1 x9.toNatClampNeg) + x1) * x3))) (x9 + 1) h
set_option maxHeartbeats 4000000 in
set_option maxRecDepth 100000 in
theorem t_X4_hopeAhead {X : jX} {po : Option Value → jH → Prop} {px : String → jH → Prop} {sf : Bool} {B9 : Nat} (hM : jMX X kX4_hopeAhead RX4 tbX4 10 ⟨1, 0, 0, 23⟩ (some .long) 3) (hp : jPost X sf B9 po px) (N : Nat) (G : Nat → Nat → Int32) (J : Nat → Nat → Int64) (p0 : Int64) (p1 : Int64) (p2 : Int64) {res : Int64} (h : p_X4_hopeAhead N G J p0 p1 p2 = some res) (hq : po (some (.long res)) (hTray G J)) : JW X 0 0 0 [some (.ref 0), some (.long p0), none, some (.long p1), none, some (.long p2), none, none, none, none] [] (hTray G J) := by
  unfold p_X4_hopeAhead at h
  refine JW.r hM 0 4 (pc2 := 6) (L2 := [some (.ref 0), some (.long p0), none, some (.long p1), none, some (.long p2), none, some (.long (0 : Int64)), none, some (.int (0 : Int32))]) (st2 := []) (μ2 := (hTray G J)) rfl trivial ?_
  exact t_X4_hopeAhead_b6 hM hp N G J N p0 p1 p2 (0 : Int64) (0 : Int32) h hq
theorem m_X4_hopeAhead (V : jV) (hV : V.1.stackTraces = false) (N : Nat) (G : Nat → Nat → Int32) (J : Nat → Nat → Int64) (p0 : Int64) (p1 : Int64) (p2 : Int64) (v : Int64) (h : p_X4_hopeAhead N G J p0 p1 p2 = some v) : jMet V yX4_hopeAhead (jws yX4_hopeAhead cX4_hopeAhead 10 (some .long)) ⟨1, 0, 0, 23⟩ true 1 [.ref 0, .long p0, .long p1, .long p2] (hTray G J) (fun o ν => o = some (.long v) ∧ ν = (hTray G J)) (fun _ _ => False) := by
  refine jmk (tb := tbX4) (C := kX4_hopeAhead) hV rfl (by decide) tbX4_ok rfl kX4_hopeAhead_ok rfl ?_
  intro X hM _ hp _
  exact t_X4_hopeAhead hM hp N G J p0 p1 p2 h ⟨rfl, rfl⟩
def p_X4_leastTaken_b62 (N : Nat) (G : Nat → Nat → Int32) (J : Nat → Nat → Int64) (rv6 : Int64 → Int64 → Int64 → Int32 → Int32 → Option (Int32)) (x1 : Int64) (x3 : Int64) (x5 : Int64) (x7 : Int32) (x8 : Int32) : Option (Int32) :=
  rv6 x1 x3 x5 x7 (x8 + 1)
def p_X4_leastTaken_b52 (N : Nat) (G : Nat → Nat → Int32) (J : Nat → Nat → Int64) (rv6 : Int64 → Int64 → Int64 → Int32 → Int32 → Option (Int32)) (x1 : Int64) (x3 : Int64) (x5 : Int64) (x8 : Int32) : Option (Int32) :=
  if jin x8 40 = true then p_X4_leastTaken_b62 N G J rv6 x1 x3 x5 ((J 1 x8.toNatClampNeg).toInt32) x8 else none
def p_X4_leastTaken_b6 (N : Nat) (G : Nat → Nat → Int32) (J : Nat → Nat → Int64) : Nat → (Int64) → (Int64) → (Int64) → (Int32) → (Int32) → Option (Int32)
  | 0, _, _, _, _, _ => none
  | n + 1, x1, x3, x5, x7, x8 => if (G 0 1) ≤ x8 then (some x7) else (if jin x8 40 = true then if (lg_cmp (((J 1 x8.toNatClampNeg) + x1) * x3) x5) < 0 then (p_X4_leastTaken_b62 N G J (p_X4_leastTaken_b6 N G J n) x1 x3 x5 x7 x8) else (if x7 = (-1 : Int32) then (p_X4_leastTaken_b52 N G J (p_X4_leastTaken_b6 N G J n) x1 x3 x5 x8) else (if jin x8 40 = true then if 0 ≤ (lg_cmp (J 1 x8.toNatClampNeg) (x7.toInt64)) then (p_X4_leastTaken_b62 N G J (p_X4_leastTaken_b6 N G J n) x1 x3 x5 x7 x8) else (p_X4_leastTaken_b52 N G J (p_X4_leastTaken_b6 N G J n) x1 x3 x5 x8) else none)) else none)
def p_X4_leastTaken (N : Nat) (G : Nat → Nat → Int32) (J : Nat → Nat → Int64) (p0 : Int64) (p1 : Int64) (p2 : Int64) : Option (Int32) :=
  p_X4_leastTaken_b6 N G J N p0 p1 p2 (-1 : Int32) (0 : Int32)
set_option maxHeartbeats 4000000 in
set_option maxRecDepth 100000 in
theorem t_X4_leastTaken_b62 {X : jX} {po : Option Value → jH → Prop} {px : String → jH → Prop} {sf : Bool} {B9 : Nat} (hM : jMX X kX4_leastTaken RX4 tbX4 9 ⟨0, 0, 0, 0⟩ (some .int) 3) (hp : jPost X sf B9 po px) (N : Nat) (G : Nat → Nat → Int32) (J : Nat → Nat → Int64) (rv6 : Int64 → Int64 → Int64 → Int32 → Int32 → Option (Int32)) {res : Int32} (ih6 : ∀ (x1 : Int64) (x3 : Int64) (x5 : Int64) (x7 : Int32) (x8 : Int32), rv6 x1 x3 x5 x7 x8 = some res → JW X 0 0 6 [some (.ref 0), some (.long x1), none, some (.long x3), none, some (.long x5), none, some (.int x7), some (.int x8)] [] (hTray G J)) (x1 : Int64) (x3 : Int64) (x5 : Int64) (x7 : Int32) (x8 : Int32) (h : p_X4_leastTaken_b62 N G J rv6 x1 x3 x5 x7 x8 = some res) (hq : po (some (.int res)) (hTray G J)) : JW X 0 0 62 [some (.ref 0), some (.long x1), none, some (.long x3), none, some (.long x5), none, some (.int x7), some (.int x8)] [] (hTray G J) := by
  unfold p_X4_leastTaken_b62 at h
  refine JW.r hM 36 2 (pc2 := 6) (L2 := [some (.ref 0), some (.long x1), none, some (.long x3), none, some (.long x5), none, some (.int x7), some (.int (x8 + 1))]) (st2 := []) (μ2 := (hTray G J)) rfl trivial ?_
  exact ih6 x1 x3 x5 x7 (x8 + 1) h
set_option maxHeartbeats 4000000 in
set_option maxRecDepth 100000 in
theorem t_X4_leastTaken_b52 {X : jX} {po : Option Value → jH → Prop} {px : String → jH → Prop} {sf : Bool} {B9 : Nat} (hM : jMX X kX4_leastTaken RX4 tbX4 9 ⟨0, 0, 0, 0⟩ (some .int) 3) (hp : jPost X sf B9 po px) (N : Nat) (G : Nat → Nat → Int32) (J : Nat → Nat → Int64) (rv6 : Int64 → Int64 → Int64 → Int32 → Int32 → Option (Int32)) {res : Int32} (ih6 : ∀ (x1 : Int64) (x3 : Int64) (x5 : Int64) (x7 : Int32) (x8 : Int32), rv6 x1 x3 x5 x7 x8 = some res → JW X 0 0 6 [some (.ref 0), some (.long x1), none, some (.long x3), none, some (.long x5), none, some (.int x7), some (.int x8)] [] (hTray G J)) (x1 : Int64) (x3 : Int64) (x5 : Int64) (x8 : Int32) (h : p_X4_leastTaken_b52 N G J rv6 x1 x3 x5 x8 = some res) (hq : po (some (.int res)) (hTray G J)) : JW X 0 0 52 [some (.ref 0), some (.long x1), none, some (.long x3), none, some (.long x5), none, none, some (.int x8)] [] (hTray G J) := by
  unfold p_X4_leastTaken_b52 at h
  obtain ⟨g2, h⟩ := jg h
  refine JW.r hM 30 6 (pc2 := 62) (L2 := [some (.ref 0), some (.long x1), none, some (.long x3), none, some (.long x5), none, some (.int ((J 1 x8.toNatClampNeg).toInt32)), some (.int x8)]) (st2 := []) (μ2 := (hTray G J)) rfl ⟨g2, trivial⟩ ?_
  exact t_X4_leastTaken_b62 hM hp N G J rv6 ih6 x1 x3 x5 ((J 1 x8.toNatClampNeg).toInt32) x8 h hq
set_option maxHeartbeats 4000000 in
set_option maxRecDepth 100000 in
theorem t_X4_leastTaken_b6 {X : jX} {po : Option Value → jH → Prop} {px : String → jH → Prop} {sf : Bool} {B9 : Nat} (hM : jMX X kX4_leastTaken RX4 tbX4 9 ⟨0, 0, 0, 0⟩ (some .int) 3) (hp : jPost X sf B9 po px) (N : Nat) (G : Nat → Nat → Int32) (J : Nat → Nat → Int64) {res : Int32} : ∀ (n : Nat) (x1 : Int64) (x3 : Int64) (x5 : Int64) (x7 : Int32) (x8 : Int32) (h : p_X4_leastTaken_b6 N G J n x1 x3 x5 x7 x8 = some res) (hq : po (some (.int res)) (hTray G J)), JW X 0 0 6 [some (.ref 0), some (.long x1), none, some (.long x3), none, some (.long x5), none, some (.int x7), some (.int x8)] [] (hTray G J) := by
  intro n
  induction n with
  | zero =>
    intro x1 x3 x5 x7 x8 h hq
    cases (show (none : Option (Int32)) = some res from h)
  | succ n ih6 =>
    intro x1 x3 x5 x7 x8 h hq
    have ih6 := fun x1 x3 x5 x7 x8 h9 => ih6 x1 x3 x5 x7 x8 h9 hq
    rw [p_X4_leastTaken_b6] at h
    refine JW.r hM 4 3 (pc2 := 12) (L2 := [some (.ref 0), some (.long x1), none, some (.long x3), none, some (.long x5), none, some (.int x7), some (.int x8)]) (st2 := [.int (G 0 1), .int x8]) (μ2 := (hTray G J)) rfl trivial ?_
    refine js_icge (t := 68) hM.1 (jat hM.2.1 7 rfl) rfl (fun hc7 => ?_) (fun hc7 => ?_)
    · have h := (if_pos hc7).symm.trans h
      refine JW.r hM 38 1 (pc2 := 70) (L2 := [some (.ref 0), some (.long x1), none, some (.long x3), none, some (.long x5), none, some (.int x7), some (.int x8)]) (st2 := [.int x7]) (μ2 := (hTray G J)) rfl trivial ?_
      cases h
      exact js_iret hM.1 hp hM.2.2.2.2.2.2.2.1 (by rw [hM.2.2.2.2.2.1]; exact Nat.le_of_ble_eq_true rfl) (by rw [hM.2.2.2.2.2.2.1]; exact Nat.le_of_ble_eq_true rfl) (jat hM.2.1 39 rfl) hq
    · have h := (if_neg hc7).symm.trans h
      obtain ⟨g1, h⟩ := jg h
      refine JW.r hM 8 10 (pc2 := 29) (L2 := [some (.ref 0), some (.long x1), none, some (.long x3), none, some (.long x5), none, some (.int x7), some (.int x8)]) (st2 := [.int (lg_cmp (((J 1 x8.toNatClampNeg) + x1) * x3) x5)]) (μ2 := (hTray G J)) rfl ⟨g1, trivial⟩ ?_
      refine js_iflt (t := 62) hM.1 (jat hM.2.1 18 rfl) rfl (fun hc6 => ?_) (fun hc6 => ?_)
      · have h := (if_pos hc6).symm.trans h
        exact t_X4_leastTaken_b62 hM hp N G J (p_X4_leastTaken_b6 N G J n) ih6 x1 x3 x5 x7 x8 h hq
      · have h := (if_neg hc6).symm.trans h
        refine JW.r hM 19 2 (pc2 := 35) (L2 := [some (.ref 0), some (.long x1), none, some (.long x3), none, some (.long x5), none, some (.int x7), some (.int x8)]) (st2 := [.int (-1 : Int32), .int x7]) (μ2 := (hTray G J)) rfl trivial ?_
        refine js_iceq (t := 52) hM.1 (jat hM.2.1 21 rfl) rfl (fun hc5 => ?_) (fun hc5 => ?_)
        · have h := (if_pos hc5).symm.trans h
          exact JW.mask [true, true, false, true, false, true, false, false, true] (t_X4_leastTaken_b52 hM hp N G J (p_X4_leastTaken_b6 N G J n) ih6 x1 x3 x5 x8 h hq)
        · have h := (if_neg hc5).symm.trans h
          obtain ⟨g3, h⟩ := jg h
          refine JW.r hM 22 7 (pc2 := 49) (L2 := [some (.ref 0), some (.long x1), none, some (.long x3), none, some (.long x5), none, some (.int x7), some (.int x8)]) (st2 := [.int (lg_cmp (J 1 x8.toNatClampNeg) (x7.toInt64))]) (μ2 := (hTray G J)) rfl ⟨g3, trivial⟩ ?_
          refine js_ifge (t := 62) hM.1 (jat hM.2.1 29 rfl) rfl (fun hc4 => ?_) (fun hc4 => ?_)
          · have h := (if_pos hc4).symm.trans h
            exact t_X4_leastTaken_b62 hM hp N G J (p_X4_leastTaken_b6 N G J n) ih6 x1 x3 x5 x7 x8 h hq
          · have h := (if_neg hc4).symm.trans h
            exact JW.mask [true, true, false, true, false, true, false, false, true] (t_X4_leastTaken_b52 hM hp N G J (p_X4_leastTaken_b6 N G J n) ih6 x1 x3 x5 x8 h hq)
set_option maxHeartbeats 4000000 in
set_option maxRecDepth 100000 in
theorem t_X4_leastTaken {X : jX} {po : Option Value → jH → Prop} {px : String → jH → Prop} {sf : Bool} {B9 : Nat} (hM : jMX X kX4_leastTaken RX4 tbX4 9 ⟨0, 0, 0, 0⟩ (some .int) 3) (hp : jPost X sf B9 po px) (N : Nat) (G : Nat → Nat → Int32) (J : Nat → Nat → Int64) (p0 : Int64) (p1 : Int64) (p2 : Int64) {res : Int32} (h : p_X4_leastTaken N G J p0 p1 p2 = some res) (hq : po (some (.int res)) (hTray G J)) : JW X 0 0 0 [some (.ref 0), some (.long p0), none, some (.long p1), none, some (.long p2), none, none, none] [] (hTray G J) := by
  unfold p_X4_leastTaken at h
  refine JW.r hM 0 4 (pc2 := 6) (L2 := [some (.ref 0), some (.long p0), none, some (.long p1), none, some (.long p2), none, some (.int (-1 : Int32)), some (.int (0 : Int32))]) (st2 := []) (μ2 := (hTray G J)) rfl trivial ?_
  exact t_X4_leastTaken_b6 hM hp N G J N p0 p1 p2 (-1 : Int32) (0 : Int32) h hq
theorem m_X4_leastTaken (V : jV) (hV : V.1.stackTraces = false) (N : Nat) (G : Nat → Nat → Int32) (J : Nat → Nat → Int64) (p0 : Int64) (p1 : Int64) (p2 : Int64) (v : Int32) (h : p_X4_leastTaken N G J p0 p1 p2 = some v) : jMet V yX4_leastTaken (jws yX4_leastTaken cX4_leastTaken 9 (some .int)) ⟨0, 0, 0, 0⟩ true 1 [.ref 0, .long p0, .long p1, .long p2] (hTray G J) (fun o ν => o = some (.int v) ∧ ν = (hTray G J)) (fun _ _ => False) := by
  refine jmk (tb := tbX4) (C := kX4_leastTaken) hV rfl (by decide) tbX4_ok rfl kX4_leastTaken_ok rfl ?_
  intro X hM _ hp _
  exact t_X4_leastTaken hM hp N G J p0 p1 p2 h ⟨rfl, rfl⟩
def p_X4_hopeIn_b9 (N : Nat) (G : Nat → Nat → Int32) (J : Nat → Nat → Int64) : Nat → (Int64) → (Int32) → (Int32) → (Int64) → (Int64) → (Int32) → Option (Int32)
  | 0, _, _, _, _, _, _ => none
  | n + 1, x1, x3, x4, x5, x7, x9 => if x3 ≤ x9 then (if x4 = (2 : Int32) then ((p_X4_leastTaken N G J x1 x5 x7).bind (fun v8 => some v8)) else ((p_X4_hopeAhead N G J x1 x5 x7).bind (fun v2 => if 0 < (lg_cmp (x5 * ((G 0 1).toInt64)) (0 : Int64)) then (if x4 = 0 then (if (x5 * ((G 0 1).toInt64)) = 0 then none else some ((v2 / (x5 * ((G 0 1).toInt64))).toInt32)) else (if (x5 * ((G 0 1).toInt64)) = 0 then none else some ((v2 - v2 / (x5 * ((G 0 1).toInt64)) * (x5 * ((G 0 1).toInt64))).toInt32))) else (some (0 : Int32))))) else ((p_X4_hopeAhead N G J x1 x5 x7).bind (fun v11 => (p_X4_hopeIn_b9 N G J n) x1 x3 x4 (x5 * ((G 0 1).toInt64)) v11 (x9 + 1)))
def p_X4_hopeIn (N : Nat) (G : Nat → Nat → Int32) (J : Nat → Nat → Int64) (p0 : Int64) (p1 : Int32) (p2 : Int32) : Option (Int32) :=
  p_X4_hopeIn_b9 N G J N p0 p1 p2 (1 : Int64) (0 : Int64) (1 : Int32)
set_option maxHeartbeats 4000000 in
set_option maxRecDepth 100000 in
theorem t_X4_hopeIn_b9 {X : jX} {po : Option Value → jH → Prop} {px : String → jH → Prop} {sf : Bool} {B9 : Nat} (hM : jMX X kX4_hopeIn RX4 tbX4 10 ⟨2, 0, 0, 52⟩ (some .int) 3) (hp : jPost X sf B9 po px) (N : Nat) (G : Nat → Nat → Int32) (J : Nat → Nat → Int64) {res : Int32} : ∀ (n : Nat) (x1 : Int64) (x3 : Int32) (x4 : Int32) (x5 : Int64) (x7 : Int64) (x9 : Int32) (h : p_X4_hopeIn_b9 N G J n x1 x3 x4 x5 x7 x9 = some res) (hq : po (some (.int res)) (hTray G J)), JW X 0 0 9 [some (.ref 0), some (.long x1), none, some (.int x3), some (.int x4), some (.long x5), none, some (.long x7), none, some (.int x9)] [] (hTray G J) := by
  intro n
  induction n with
  | zero =>
    intro x1 x3 x4 x5 x7 x9 h hq
    cases (show (none : Option (Int32)) = some res from h)
  | succ n ih9 =>
    intro x1 x3 x4 x5 x7 x9 h hq
    have ih9 := fun x1 x3 x4 x5 x7 x9 h9 => ih9 x1 x3 x4 x5 x7 x9 h9 hq
    rw [p_X4_hopeIn_b9] at h
    refine JW.r hM 6 2 (pc2 := 12) (L2 := [some (.ref 0), some (.long x1), none, some (.int x3), some (.int x4), some (.long x5), none, some (.long x7), none, some (.int x9)]) (st2 := [.int x3, .int x9]) (μ2 := (hTray G J)) rfl trivial ?_
    refine js_icge (t := 42) hM.1 (jat hM.2.1 8 rfl) rfl (fun hc12 => ?_) (fun hc12 => ?_)
    · have h := (if_pos hc12).symm.trans h
      refine JW.r hM 23 2 (pc2 := 45) (L2 := [some (.ref 0), some (.long x1), none, some (.int x3), some (.int x4), some (.long x5), none, some (.long x7), none, some (.int x9)]) (st2 := [.int (2 : Int32), .int x4]) (μ2 := (hTray G J)) rfl trivial ?_
      refine js_icne (t := 58) hM.1 (jat hM.2.1 25 rfl) rfl (fun hc9 => ?_) (fun hc9 => ?_)
      · have h := (if_neg hc9).symm.trans h
        refine JW.r hM 32 4 (pc2 := 64) (L2 := [some (.ref 0), some (.long x1), none, some (.int x3), some (.int x4), some (.long x5), none, some (.long x7), none, some (.int x9)]) (st2 := [.long x7, .long x5, .long x1, .ref 0]) (μ2 := (hTray G J)) rfl trivial ?_
        obtain ⟨v2, hv1, h⟩ := jbd h
        refine JW.cV (v := some (.long v2)) hM (m_X4_hopeAhead (jVX X) hM.1.2.2.2.2.2.2.2.2.2.1 N G J x1 x5 x7 v2 hv1) (sb_Tray_Tray_0 G J) (bi_Tray_Tray_0 G J) rfl rfl rfl kc_X4_38 rfl rfl rfl rfl rfl (jat hM.2.1 36 rfl) (st := []) rfl ?_
        show JW X 0 0 67 [some (.ref 0), some (.long x1), none, some (.int x3), some (.int x4), some (.long x5), none, some (.long x7), none, some (.int x9)] [.long v2] (hTray G J)
        refine JW.r hM 37 10 (pc2 := 83) (L2 := [some (.ref 0), some (.long x1), none, some (.int x3), some (.int x4), some (.long (x5 * ((G 0 1).toInt64))), none, some (.long v2), none, some (.int x9)]) (st2 := [.int (lg_cmp (x5 * ((G 0 1).toInt64)) (0 : Int64))]) (μ2 := (hTray G J)) rfl trivial ?_
        refine js_ifgt (t := 90) hM.1 (jat hM.2.1 47 rfl) rfl (fun hc6 => ?_) (fun hc6 => ?_)
        · have h := (if_pos hc6).symm.trans h
          refine JW.r hM 50 1 (pc2 := 92) (L2 := [some (.ref 0), some (.long x1), none, some (.int x3), some (.int x4), some (.long (x5 * ((G 0 1).toInt64))), none, some (.long v2), none, some (.int x9)]) (st2 := [.int x4]) (μ2 := (hTray G J)) rfl trivial ?_
          refine js_ifne (t := 103) hM.1 (jat hM.2.1 51 rfl) rfl (fun hc5 => ?_) (fun hc5 => ?_)
          · have h := (if_neg hc5).symm.trans h
            obtain ⟨g3, h⟩ := jgn h
            refine JW.r hM 56 4 (pc2 := 109) (L2 := [some (.ref 0), some (.long x1), none, some (.int x3), some (.int x4), some (.long (x5 * ((G 0 1).toInt64))), none, some (.long v2), none, some (.int x9)]) (st2 := [.int ((v2 - v2 / (x5 * ((G 0 1).toInt64)) * (x5 * ((G 0 1).toInt64))).toInt32)]) (μ2 := (hTray G J)) rfl ⟨g3, trivial⟩ ?_
            cases h
            exact js_iret hM.1 hp hM.2.2.2.2.2.2.2.1 (by rw [hM.2.2.2.2.2.1]; exact Nat.le_of_ble_eq_true rfl) (by rw [hM.2.2.2.2.2.2.1]; exact Nat.le_of_ble_eq_true rfl) (jat hM.2.1 60 rfl) hq
          · have h := (if_pos hc5).symm.trans h
            obtain ⟨g4, h⟩ := jgn h
            refine JW.r hM 52 4 (pc2 := 108) (L2 := [some (.ref 0), some (.long x1), none, some (.int x3), some (.int x4), some (.long (x5 * ((G 0 1).toInt64))), none, some (.long v2), none, some (.int x9)]) (st2 := [.long (v2 / (x5 * ((G 0 1).toInt64)))]) (μ2 := (hTray G J)) rfl ⟨g4, trivial⟩ ?_
            refine JW.r hM 59 1 (pc2 := 109) (L2 := [some (.ref 0), some (.long x1), none, some (.int x3), some (.int x4), some (.long (x5 * ((G 0 1).toInt64))), none, some (.long v2), none, some (.int x9)]) (st2 := [.int ((v2 / (x5 * ((G 0 1).toInt64))).toInt32)]) (μ2 := (hTray G J)) rfl trivial ?_
            cases h
            exact js_iret hM.1 hp hM.2.2.2.2.2.2.2.1 (by rw [hM.2.2.2.2.2.1]; exact Nat.le_of_ble_eq_true rfl) (by rw [hM.2.2.2.2.2.2.1]; exact Nat.le_of_ble_eq_true rfl) (jat hM.2.1 60 rfl) hq
        · have h := (if_neg hc6).symm.trans h
          refine JW.r hM 48 2 (pc2 := 109) (L2 := [some (.ref 0), some (.long x1), none, some (.int x3), some (.int x4), some (.long (x5 * ((G 0 1).toInt64))), none, some (.long v2), none, some (.int x9)]) (st2 := [.int (0 : Int32)]) (μ2 := (hTray G J)) rfl trivial ?_
          cases h
          exact js_iret hM.1 hp hM.2.2.2.2.2.2.2.1 (by rw [hM.2.2.2.2.2.1]; exact Nat.le_of_ble_eq_true rfl) (by rw [hM.2.2.2.2.2.2.1]; exact Nat.le_of_ble_eq_true rfl) (jat hM.2.1 60 rfl) hq
      · have h := (if_pos hc9).symm.trans h
        refine JW.r hM 26 4 (pc2 := 54) (L2 := [some (.ref 0), some (.long x1), none, some (.int x3), some (.int x4), some (.long x5), none, some (.long x7), none, some (.int x9)]) (st2 := [.long x7, .long x5, .long x1, .ref 0]) (μ2 := (hTray G J)) rfl trivial ?_
        obtain ⟨v8, hv7, h⟩ := jbd h
        refine JW.cV (v := some (.int v8)) hM (m_X4_leastTaken (jVX X) hM.1.2.2.2.2.2.2.2.2.2.1 N G J x1 x5 x7 v8 hv7) (sb_Tray_Tray_0 G J) (bi_Tray_Tray_0 G J) rfl rfl rfl kc_X4_42 rfl rfl rfl rfl rfl (jat hM.2.1 30 rfl) (st := []) rfl ?_
        show JW X 0 0 57 [some (.ref 0), some (.long x1), none, some (.int x3), some (.int x4), some (.long x5), none, some (.long x7), none, some (.int x9)] [.int v8] (hTray G J)
        cases h
        exact js_iret hM.1 hp hM.2.2.2.2.2.2.2.1 (by rw [hM.2.2.2.2.2.1]; exact Nat.le_of_ble_eq_true rfl) (by rw [hM.2.2.2.2.2.2.1]; exact Nat.le_of_ble_eq_true rfl) (jat hM.2.1 31 rfl) hq
    · have h := (if_neg hc12).symm.trans h
      refine JW.r hM 9 4 (pc2 := 21) (L2 := [some (.ref 0), some (.long x1), none, some (.int x3), some (.int x4), some (.long x5), none, some (.long x7), none, some (.int x9)]) (st2 := [.long x7, .long x5, .long x1, .ref 0]) (μ2 := (hTray G J)) rfl trivial ?_
      obtain ⟨v11, hv10, h⟩ := jbd h
      refine JW.cV (v := some (.long v11)) hM (m_X4_hopeAhead (jVX X) hM.1.2.2.2.2.2.2.2.2.2.1 N G J x1 x5 x7 v11 hv10) (sb_Tray_Tray_0 G J) (bi_Tray_Tray_0 G J) rfl rfl rfl kc_X4_38 rfl rfl rfl rfl rfl (jat hM.2.1 13 rfl) (st := []) rfl ?_
      show JW X 0 0 24 [some (.ref 0), some (.long x1), none, some (.int x3), some (.int x4), some (.long x5), none, some (.long x7), none, some (.int x9)] [.long v11] (hTray G J)
      refine JW.r hM 14 9 (pc2 := 9) (L2 := [some (.ref 0), some (.long x1), none, some (.int x3), some (.int x4), some (.long (x5 * ((G 0 1).toInt64))), none, some (.long v11), none, some (.int (x9 + 1))]) (st2 := []) (μ2 := (hTray G J)) rfl trivial ?_
      exact ih9 x1 x3 x4 (x5 * ((G 0 1).toInt64)) v11 (x9 + 1) h
set_option maxHeartbeats 4000000 in
set_option maxRecDepth 100000 in
theorem t_X4_hopeIn {X : jX} {po : Option Value → jH → Prop} {px : String → jH → Prop} {sf : Bool} {B9 : Nat} (hM : jMX X kX4_hopeIn RX4 tbX4 10 ⟨2, 0, 0, 52⟩ (some .int) 3) (hp : jPost X sf B9 po px) (N : Nat) (G : Nat → Nat → Int32) (J : Nat → Nat → Int64) (p0 : Int64) (p1 : Int32) (p2 : Int32) {res : Int32} (h : p_X4_hopeIn N G J p0 p1 p2 = some res) (hq : po (some (.int res)) (hTray G J)) : JW X 0 0 0 [some (.ref 0), some (.long p0), none, some (.int p1), some (.int p2), none, none, none, none, none] [] (hTray G J) := by
  unfold p_X4_hopeIn at h
  refine JW.r hM 0 6 (pc2 := 9) (L2 := [some (.ref 0), some (.long p0), none, some (.int p1), some (.int p2), some (.long (1 : Int64)), none, some (.long (0 : Int64)), none, some (.int (1 : Int32))]) (st2 := []) (μ2 := (hTray G J)) rfl trivial ?_
  exact t_X4_hopeIn_b9 hM hp N G J N p0 p1 p2 (1 : Int64) (0 : Int64) (1 : Int32) h hq
theorem m_X4_hopeIn (V : jV) (hV : V.1.stackTraces = false) (N : Nat) (G : Nat → Nat → Int32) (J : Nat → Nat → Int64) (p0 : Int64) (p1 : Int32) (p2 : Int32) (v : Int32) (h : p_X4_hopeIn N G J p0 p1 p2 = some v) : jMet V yX4_hopeIn (jws yX4_hopeIn cX4_hopeIn 10 (some .int)) ⟨2, 0, 0, 52⟩ true 1 [.ref 0, .long p0, .int p1, .int p2] (hTray G J) (fun o ν => o = some (.int v) ∧ ν = (hTray G J)) (fun _ _ => False) := by
  refine jmk (tb := tbX4) (C := kX4_hopeIn) hV rfl (by decide) tbX4_ok rfl kX4_hopeIn_ok rfl ?_
  intro X hM _ hp _
  exact t_X4_hopeIn hM hp N G J p0 p1 p2 h ⟨rfl, rfl⟩

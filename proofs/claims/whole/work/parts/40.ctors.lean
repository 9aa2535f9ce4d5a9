def jai (t n : Nat) : jc := .inl (t, n, fun _ => 0)
def jal0 (n : Nat) : jc := .inr (.inl (n, fun _ => 0))
def jo_0 : jc := .inr (.inr (.inl (3, [.int 0, .int 0, .int 0, .int 0, .int 0, .int 0, .int 0, .int 0, .int 0, .null, .null, .null, .null, .null, .null, .null, .null])))
def jo_1 : jc := .inr (.inr (.inl (3, [.int 0, .int 0, .int 0, .int 0, .int (50 : Int32), .int (720 : Int32), .int 0, .int 0, .int 0, .null, .null, .null, .null, .null, .null, .null, .null])))
def jo_2 : jc := .inr (.inr (.inl (3, [.int 0, .int 0, .int 0, .int 0, .int (50 : Int32), .int (720 : Int32), .int 0, .int 0, .int 0, .ref 1, .null, .null, .null, .null, .null, .null, .null])))
def jo_3 : jc := .inr (.inr (.inl (3, [.int 0, .int 0, .int 0, .int 0, .int (50 : Int32), .int (720 : Int32), .int 0, .int 0, .int 0, .ref 1, .ref 2, .null, .null, .null, .null, .null, .null])))
def jo_4 : jc := .inr (.inr (.inl (3, [.int 0, .int 0, .int 0, .int 0, .int (50 : Int32), .int (720 : Int32), .int 0, .int 0, .int 0, .ref 1, .ref 2, .ref 3, .null, .null, .null, .null, .null])))
def jo_5 : jc := .inr (.inr (.inl (3, [.int 0, .int 0, .int 0, .int 0, .int (50 : Int32), .int (720 : Int32), .int 0, .int 0, .int 0, .ref 1, .ref 2, .ref 3, .ref 4, .null, .null, .null, .null])))
def jo_6 : jc := .inr (.inr (.inl (3, [.int 0, .int 0, .int 0, .int 0, .int (50 : Int32), .int (720 : Int32), .int 0, .int 0, .int 0, .ref 1, .ref 2, .ref 3, .ref 4, .ref 5, .null, .null, .null])))
def jo_7 : jc := .inr (.inr (.inl (3, [.int 0, .int 0, .int 0, .int 0, .int (50 : Int32), .int (720 : Int32), .int 0, .int 0, .int 0, .ref 1, .ref 2, .ref 3, .ref 4, .ref 5, .ref 6, .null, .null])))
def jo_8 : jc := .inr (.inr (.inl (3, [.int 0, .int 0, .int 0, .int 0, .int (50 : Int32), .int (720 : Int32), .int 0, .int 0, .int 0, .ref 1, .ref 2, .ref 3, .ref 4, .ref 5, .ref 6, .ref 7, .null])))
def jo_9 : jc := .inr (.inr (.inl (3, [.int 0, .int 0, .int 0, .int 0, .int (50 : Int32), .int (720 : Int32), .int 0, .int 0, .int 0, .ref 1, .ref 2, .ref 3, .ref 4, .ref 5, .ref 6, .ref 7, .ref 8])))
def jo_10 : jc := .inr (.inr (.inl (4, [.int 0, .int 0, .null, .int 0])))
def jo_11 : jc := .inr (.inr (.inl (4, [.int (1 : Int32), .int 0, .null, .int 0])))
def jo_12 : jc := .inr (.inr (.inl (4, [.int (1 : Int32), .int 0, .ref 1, .int 0])))
def jo_13 : jc := .inr (.inr (.inl (2, [.int 0, .int 0, .int 0, .null, .int 0, .int 0, .int 0, .int 0, .int 0, .int 0])))
def jo_14 : jc := .inr (.inr (.inl (2, [.int 0, .int 0, .int (-1 : Int32), .null, .int 0, .int 0, .int 0, .int 0, .int 0, .int 0])))
def jo_15 : jc := .inr (.inr (.inl (2, [.int 0, .int 0, .int (-1 : Int32), .ref 1, .int 0, .int 0, .int 0, .int 0, .int 0, .int 0])))
def jo_16 : jc := .inr (.inr (.inl (1, [.int 0, .int 0, .int 0, .int 0, .int 0, .null, .null, .null, .null, .null, .null, .null, .null, .null, .null])))
def jo_17 : jc := .inr (.inr (.inl (1, [.int 0, .int 0, .int 0, .int 0, .int 0, .ref 1, .null, .null, .null, .null, .null, .null, .null, .null, .null])))
def jo_18 : jc := .inr (.inr (.inl (1, [.int 0, .int 0, .int 0, .int 0, .int 0, .ref 1, .ref 2, .null, .null, .null, .null, .null, .null, .null, .null])))
def jo_19 : jc := .inr (.inr (.inl (1, [.int 0, .int 0, .int 0, .int 0, .int 0, .ref 1, .ref 2, .ref 3, .null, .null, .null, .null, .null, .null, .null])))
def jo_20 : jc := .inr (.inr (.inl (1, [.int 0, .int 0, .int 0, .int 0, .int 0, .ref 1, .ref 2, .ref 3, .ref 4, .null, .null, .null, .null, .null, .null])))
def jo_21 : jc := .inr (.inr (.inl (1, [.int 0, .int 0, .int 0, .int 0, .int 0, .ref 1, .ref 2, .ref 3, .ref 4, .ref 5, .null, .null, .null, .null, .null])))
def jo_22 : jc := .inr (.inr (.inl (1, [.int 0, .int 0, .int 0, .int 0, .int 0, .ref 1, .ref 2, .ref 3, .ref 4, .ref 5, .ref 6, .null, .null, .null, .null])))
def jo_23 : jc := .inr (.inr (.inl (1, [.int 0, .int 0, .int 0, .int 0, .int 0, .ref 1, .ref 2, .ref 3, .ref 4, .ref 5, .ref 6, .ref 7, .null, .null, .null])))
def jo_24 : jc := .inr (.inr (.inl (1, [.int 0, .int 0, .int 0, .int 0, .int 0, .ref 1, .ref 2, .ref 3, .ref 4, .ref 5, .ref 6, .ref 7, .ref 8, .null, .null])))
def jo_25 : jc := .inr (.inr (.inl (1, [.int 0, .int 0, .int 0, .int 0, .int 0, .ref 1, .ref 2, .ref 3, .ref 4, .ref 5, .ref 6, .ref 7, .ref 8, .ref 9, .null])))
def jo_26 : jc := .inr (.inr (.inl (1, [.int 0, .int 0, .int 0, .int 0, .int 0, .ref 1, .ref 2, .ref 3, .ref 4, .ref 5, .ref 6, .ref 7, .ref 8, .ref 9, .ref 10])))
def fX3_init : jH := [jo_9, jai 0 6, jai 0 10, jai 0 60, jai 0 30, jai 0 30, jai 0 30, jai 0 30, jai 0 30]

set_option maxHeartbeats 4000000 in
set_option maxRecDepth 100000 in
theorem m_X3_init_s4 {X : jX} (hM : jMX X kX3_init RX3 tbX3 1 ⟨1, 8, 226, 20⟩ none 10) (hp : jPost X true 10 (fun o ν => o = none ∧ ν = fX3_init) (fun _ _ => False)) (hin : (jme X).name = "<init>") : JW X 8 226 81 [some (.ref 0)] [] [jo_9, jai 0 6, jai 0 10, jai 0 60, jai 0 30, jai 0 30, jai 0 30, jai 0 30, jai 0 30] := by
  have hB : 10 ≤ jal X := hM.2.2.2.2.2.2.2.2.1
  exact js_vret hM.1 hp hM.2.2.2.2.2.2.2.1 (by rw [hM.2.2.2.2.2.1]; exact Nat.le_of_ble_eq_true rfl) (by rw [hM.2.2.2.2.2.2.1]; exact Nat.le_of_ble_eq_true rfl) (jat hM.2.1 40 rfl) ⟨rfl, rfl⟩

set_option maxHeartbeats 4000000 in
set_option maxRecDepth 100000 in
theorem m_X3_init_s3 {X : jX} (hM : jMX X kX3_init RX3 tbX3 1 ⟨1, 8, 226, 20⟩ none 10) (hp : jPost X true 10 (fun o ν => o = none ∧ ν = fX3_init) (fun _ _ => False)) (hin : (jme X).name = "<init>") : JW X 6 166 68 [some (.ref 0)] [.int (30 : Int32), .ref 0] [jo_7, jai 0 6, jai 0 10, jai 0 60, jai 0 30, jai 0 30, jai 0 30] := by
  have hB : 10 ≤ jal X := hM.2.2.2.2.2.2.2.2.1
  refine js_newi (N := 30) hM.1 ac_int (by decide) rfl (by decide) (Nat.lt_of_lt_of_le (show 7 < 10 from by decide) hB) (by rw [hM.2.2.2.2.2.1]; exact Nat.le_of_ble_eq_true rfl) (by rw [hM.2.2.2.2.2.2.1]; exact Nat.le_of_ble_eq_true rfl) (jat hM.2.1 34 rfl) ?_
  show JW X 7 196 70 [some (.ref 0)] [.ref 7, .ref 0] [jo_7, jai 0 6, jai 0 10, jai 0 60, jai 0 30, jai 0 30, jai 0 30, jai 0 30]
  refine js_putF (v := 7) (a := 0) (ci := 3) (s := 15) hM.1 hin (by rw [hM.2.2.2.1.1]; decide) rfl (by decide) (jat hM.2.1 35 rfl) ?_
  show JW X 7 196 73 [some (.ref 0)] [] [jo_8, jai 0 6, jai 0 10, jai 0 60, jai 0 30, jai 0 30, jai 0 30, jai 0 30]
  refine JW.r hM 36 2 (pc2 := 76) (L2 := [some (.ref 0)]) (st2 := [.int (30 : Int32), .ref 0]) (μ2 := [jo_8, jai 0 6, jai 0 10, jai 0 60, jai 0 30, jai 0 30, jai 0 30, jai 0 30]) rfl trivial ?_
  refine js_newi (N := 30) hM.1 ac_int (by decide) rfl (by decide) (Nat.lt_of_lt_of_le (show 8 < 10 from by decide) hB) (by rw [hM.2.2.2.2.2.1]; exact Nat.le_of_ble_eq_true rfl) (by rw [hM.2.2.2.2.2.2.1]; exact Nat.le_of_ble_eq_true rfl) (jat hM.2.1 38 rfl) ?_
  show JW X 8 226 78 [some (.ref 0)] [.ref 8, .ref 0] [jo_8, jai 0 6, jai 0 10, jai 0 60, jai 0 30, jai 0 30, jai 0 30, jai 0 30, jai 0 30]
  refine js_putF (v := 8) (a := 0) (ci := 3) (s := 16) hM.1 hin (by rw [hM.2.2.2.1.1]; decide) rfl (by decide) (jat hM.2.1 39 rfl) ?_
  show JW X 8 226 81 [some (.ref 0)] [] [jo_9, jai 0 6, jai 0 10, jai 0 60, jai 0 30, jai 0 30, jai 0 30, jai 0 30, jai 0 30]
  exact m_X3_init_s4 hM hp hin

set_option maxHeartbeats 4000000 in
set_option maxRecDepth 100000 in
theorem m_X3_init_s2 {X : jX} (hM : jMX X kX3_init RX3 tbX3 1 ⟨1, 8, 226, 20⟩ none 10) (hp : jPost X true 10 (fun o ν => o = none ∧ ν = fX3_init) (fun _ _ => False)) (hin : (jme X).name = "<init>") : JW X 5 136 54 [some (.ref 0)] [.ref 5, .ref 0] [jo_5, jai 0 6, jai 0 10, jai 0 60, jai 0 30, jai 0 30] := by
  have hB : 10 ≤ jal X := hM.2.2.2.2.2.2.2.2.1
  refine js_putF (v := 5) (a := 0) (ci := 3) (s := 13) hM.1 hin (by rw [hM.2.2.2.1.1]; decide) rfl (by decide) (jat hM.2.1 27 rfl) ?_
  show JW X 5 136 57 [some (.ref 0)] [] [jo_6, jai 0 6, jai 0 10, jai 0 60, jai 0 30, jai 0 30]
  refine JW.r hM 28 2 (pc2 := 60) (L2 := [some (.ref 0)]) (st2 := [.int (30 : Int32), .ref 0]) (μ2 := [jo_6, jai 0 6, jai 0 10, jai 0 60, jai 0 30, jai 0 30]) rfl trivial ?_
  refine js_newi (N := 30) hM.1 ac_int (by decide) rfl (by decide) (Nat.lt_of_lt_of_le (show 6 < 10 from by decide) hB) (by rw [hM.2.2.2.2.2.1]; exact Nat.le_of_ble_eq_true rfl) (by rw [hM.2.2.2.2.2.2.1]; exact Nat.le_of_ble_eq_true rfl) (jat hM.2.1 30 rfl) ?_
  show JW X 6 166 62 [some (.ref 0)] [.ref 6, .ref 0] [jo_6, jai 0 6, jai 0 10, jai 0 60, jai 0 30, jai 0 30, jai 0 30]
  refine js_putF (v := 6) (a := 0) (ci := 3) (s := 14) hM.1 hin (by rw [hM.2.2.2.1.1]; decide) rfl (by decide) (jat hM.2.1 31 rfl) ?_
  show JW X 6 166 65 [some (.ref 0)] [] [jo_7, jai 0 6, jai 0 10, jai 0 60, jai 0 30, jai 0 30, jai 0 30]
  refine JW.r hM 32 2 (pc2 := 68) (L2 := [some (.ref 0)]) (st2 := [.int (30 : Int32), .ref 0]) (μ2 := [jo_7, jai 0 6, jai 0 10, jai 0 60, jai 0 30, jai 0 30, jai 0 30]) rfl trivial ?_
  exact m_X3_init_s3 hM hp hin

set_option maxHeartbeats 4000000 in
set_option maxRecDepth 100000 in
theorem m_X3_init_s1 {X : jX} (hM : jMX X kX3_init RX3 tbX3 1 ⟨1, 8, 226, 20⟩ none 10) (hp : jPost X true 10 (fun o ν => o = none ∧ ν = fX3_init) (fun _ _ => False)) (hin : (jme X).name = "<init>") : JW X 3 76 41 [some (.ref 0)] [] [jo_4, jai 0 6, jai 0 10, jai 0 60] := by
  have hB : 10 ≤ jal X := hM.2.2.2.2.2.2.2.2.1
  refine JW.r hM 20 2 (pc2 := 44) (L2 := [some (.ref 0)]) (st2 := [.int (30 : Int32), .ref 0]) (μ2 := [jo_4, jai 0 6, jai 0 10, jai 0 60]) rfl trivial ?_
  refine js_newi (N := 30) hM.1 ac_int (by decide) rfl (by decide) (Nat.lt_of_lt_of_le (show 4 < 10 from by decide) hB) (by rw [hM.2.2.2.2.2.1]; exact Nat.le_of_ble_eq_true rfl) (by rw [hM.2.2.2.2.2.2.1]; exact Nat.le_of_ble_eq_true rfl) (jat hM.2.1 22 rfl) ?_
  show JW X 4 106 46 [some (.ref 0)] [.ref 4, .ref 0] [jo_4, jai 0 6, jai 0 10, jai 0 60, jai 0 30]
  refine js_putF (v := 4) (a := 0) (ci := 3) (s := 12) hM.1 hin (by rw [hM.2.2.2.1.1]; decide) rfl (by decide) (jat hM.2.1 23 rfl) ?_
  show JW X 4 106 49 [some (.ref 0)] [] [jo_5, jai 0 6, jai 0 10, jai 0 60, jai 0 30]
  refine JW.r hM 24 2 (pc2 := 52) (L2 := [some (.ref 0)]) (st2 := [.int (30 : Int32), .ref 0]) (μ2 := [jo_5, jai 0 6, jai 0 10, jai 0 60, jai 0 30]) rfl trivial ?_
  refine js_newi (N := 30) hM.1 ac_int (by decide) rfl (by decide) (Nat.lt_of_lt_of_le (show 5 < 10 from by decide) hB) (by rw [hM.2.2.2.2.2.1]; exact Nat.le_of_ble_eq_true rfl) (by rw [hM.2.2.2.2.2.2.1]; exact Nat.le_of_ble_eq_true rfl) (jat hM.2.1 26 rfl) ?_
  show JW X 5 136 54 [some (.ref 0)] [.ref 5, .ref 0] [jo_5, jai 0 6, jai 0 10, jai 0 60, jai 0 30, jai 0 30]
  exact m_X3_init_s2 hM hp hin

set_option maxHeartbeats 4000000 in
set_option maxRecDepth 100000 in
theorem m_X3_init_s0 {X : jX} (hM : jMX X kX3_init RX3 tbX3 1 ⟨1, 8, 226, 20⟩ none 10) (hp : jPost X true 10 (fun o ν => o = none ∧ ν = fX3_init) (fun _ _ => False)) (hin : (jme X).name = "<init>") : JW X 1 6 28 [some (.ref 0)] [.int (10 : Int32), .ref 0] [jo_2, jai 0 6] := by
  have hB : 10 ≤ jal X := hM.2.2.2.2.2.2.2.2.1
  refine js_newi (N := 10) hM.1 ac_int (by decide) rfl (by decide) (Nat.lt_of_lt_of_le (show 2 < 10 from by decide) hB) (by rw [hM.2.2.2.2.2.1]; exact Nat.le_of_ble_eq_true rfl) (by rw [hM.2.2.2.2.2.2.1]; exact Nat.le_of_ble_eq_true rfl) (jat hM.2.1 14 rfl) ?_
  show JW X 2 16 30 [some (.ref 0)] [.ref 2, .ref 0] [jo_2, jai 0 6, jai 0 10]
  refine js_putF (v := 2) (a := 0) (ci := 3) (s := 10) hM.1 hin (by rw [hM.2.2.2.1.1]; decide) rfl (by decide) (jat hM.2.1 15 rfl) ?_
  show JW X 2 16 33 [some (.ref 0)] [] [jo_3, jai 0 6, jai 0 10]
  refine JW.r hM 16 2 (pc2 := 36) (L2 := [some (.ref 0)]) (st2 := [.int (60 : Int32), .ref 0]) (μ2 := [jo_3, jai 0 6, jai 0 10]) rfl trivial ?_
  refine js_newi (N := 60) hM.1 ac_int (by decide) rfl (by decide) (Nat.lt_of_lt_of_le (show 3 < 10 from by decide) hB) (by rw [hM.2.2.2.2.2.1]; exact Nat.le_of_ble_eq_true rfl) (by rw [hM.2.2.2.2.2.2.1]; exact Nat.le_of_ble_eq_true rfl) (jat hM.2.1 18 rfl) ?_
  show JW X 3 76 38 [some (.ref 0)] [.ref 3, .ref 0] [jo_3, jai 0 6, jai 0 10, jai 0 60]
  refine js_putF (v := 3) (a := 0) (ci := 3) (s := 11) hM.1 hin (by rw [hM.2.2.2.1.1]; decide) rfl (by decide) (jat hM.2.1 19 rfl) ?_
  show JW X 3 76 41 [some (.ref 0)] [] [jo_4, jai 0 6, jai 0 10, jai 0 60]
  exact m_X3_init_s1 hM hp hin

set_option maxHeartbeats 4000000 in
set_option maxRecDepth 100000 in
theorem m_X3_init (V : jV) (hV : V.1.stackTraces = false) : jMet V yX3_init (jws yX3_init cX3_init 1 none) ⟨1, 8, 226, 20⟩ true 9 [.ref 0] [jo_0] (fun o ν => o = none ∧ ν = fX3_init) (fun _ _ => False) := by
  refine jmk (tb := tbX3) (C := kX3_init) hV rfl (by decide) tbX3_ok rfl kX3_init_ok rfl ?_
  intro X hM _ hp hin
  have hin := hin rfl
  have hB : 10 ≤ jal X := hM.2.2.2.2.2.2.2.2.1
  show JW X 0 0 0 [some (.ref 0)] [] [jo_0]
  refine JW.r hM 0 1 (pc2 := 1) (L2 := [some (.ref 0)]) (st2 := [.ref 0]) (μ2 := [jo_0]) rfl trivial ?_
  refine js_objInit hM.1 (by rw [hM.2.2.1]; exact oi_X3) (jat hM.2.1 1 rfl) (by rw [hM.2.2.2.2.1]; exact Nat.le_of_ble_eq_true rfl) (by rw [hM.2.2.2.2.1]; exact Nat.le_of_ble_eq_true rfl) ?_
  refine JW.r hM 2 8 (pc2 := 20) (L2 := [some (.ref 0)]) (st2 := [.int (6 : Int32), .ref 0]) (μ2 := [jo_1]) rfl trivial ?_
  refine js_newi (N := 6) hM.1 ac_int (by decide) rfl (by decide) (Nat.lt_of_lt_of_le (show 1 < 10 from by decide) hB) (by rw [hM.2.2.2.2.2.1]; exact Nat.le_of_ble_eq_true rfl) (by rw [hM.2.2.2.2.2.2.1]; exact Nat.le_of_ble_eq_true rfl) (jat hM.2.1 10 rfl) ?_
  show JW X 1 6 22 [some (.ref 0)] [.ref 1, .ref 0] [jo_1, jai 0 6]
  refine js_putF (v := 1) (a := 0) (ci := 3) (s := 9) hM.1 hin (by rw [hM.2.2.2.1.1]; decide) rfl (by decide) (jat hM.2.1 11 rfl) ?_
  show JW X 1 6 25 [some (.ref 0)] [] [jo_2, jai 0 6]
  refine JW.r hM 12 2 (pc2 := 28) (L2 := [some (.ref 0)]) (st2 := [.int (10 : Int32), .ref 0]) (μ2 := [jo_2, jai 0 6]) rfl trivial ?_
  exact m_X3_init_s0 hM hp hin

set_option maxHeartbeats 4000000 in
set_option maxRecDepth 100000 in
theorem m_X4_init (V : jV) (hV : V.1.stackTraces = false) : jMet V yX4_init (jws yX4_init cX4_init 1 none) ⟨1, 1, 40, 20⟩ true 2 [.ref 0] [jo_10] (fun o ν => o = none ∧ ν = [jo_12, jal0 40]) (fun _ _ => False) := by
  refine jmk (tb := tbX4) (C := kX4_init) hV rfl (by decide) tbX4_ok rfl kX4_init_ok rfl ?_
  intro X hM _ hp hin
  have hin := hin rfl
  have hB : 3 ≤ jal X := hM.2.2.2.2.2.2.2.2.1
  show JW X 0 0 0 [some (.ref 0)] [] [jo_10]
  refine JW.r hM 0 1 (pc2 := 1) (L2 := [some (.ref 0)]) (st2 := [.ref 0]) (μ2 := [jo_10]) rfl trivial ?_
  refine js_objInit hM.1 (by rw [hM.2.2.1]; exact oi_X4) (jat hM.2.1 1 rfl) (by rw [hM.2.2.2.2.1]; exact Nat.le_of_ble_eq_true rfl) (by rw [hM.2.2.2.2.1]; exact Nat.le_of_ble_eq_true rfl) ?_
  refine JW.r hM 2 5 (pc2 := 12) (L2 := [some (.ref 0)]) (st2 := [.int (40 : Int32), .ref 0]) (μ2 := [jo_11]) rfl ⟨rfl, trivial⟩ ?_
  refine js_newl (N := 40) hM.1 ac_long (by decide) rfl (by decide) (Nat.lt_of_lt_of_le (show 1 < 3 from by decide) hB) (by rw [hM.2.2.2.2.2.1]; exact Nat.le_of_ble_eq_true rfl) (by rw [hM.2.2.2.2.2.2.1]; exact Nat.le_of_ble_eq_true rfl) (jat hM.2.1 7 rfl) ?_
  show JW X 1 40 14 [some (.ref 0)] [.ref 1, .ref 0] [jo_11, jal0 40]
  refine js_putF (v := 1) (a := 0) (ci := 4) (s := 2) hM.1 hin (by rw [hM.2.2.2.1.1]; decide) rfl (by decide) (jat hM.2.1 8 rfl) ?_
  show JW X 1 40 17 [some (.ref 0)] [] [jo_12, jal0 40]
  exact js_vret hM.1 hp hM.2.2.2.2.2.2.2.1 (by rw [hM.2.2.2.2.2.1]; exact Nat.le_of_ble_eq_true rfl) (by rw [hM.2.2.2.2.2.2.1]; exact Nat.le_of_ble_eq_true rfl) (jat hM.2.1 9 rfl) ⟨rfl, rfl⟩

set_option maxHeartbeats 4000000 in
set_option maxRecDepth 100000 in
theorem m_X2_init (V : jV) (hV : V.1.stackTraces = false) : jMet V yX2_init (jws yX2_init cX2_init 1 none) ⟨1, 1, 900, 20⟩ true 2 [.ref 0] [jo_13] (fun o ν => o = none ∧ ν = [jo_15, jai 2 900]) (fun _ _ => False) := by
  refine jmk (tb := tbX2) (C := kX2_init) hV rfl (by decide) tbX2_ok rfl kX2_init_ok rfl ?_
  intro X hM _ hp hin
  have hin := hin rfl
  have hB : 3 ≤ jal X := hM.2.2.2.2.2.2.2.2.1
  show JW X 0 0 0 [some (.ref 0)] [] [jo_13]
  refine JW.r hM 0 1 (pc2 := 1) (L2 := [some (.ref 0)]) (st2 := [.ref 0]) (μ2 := [jo_13]) rfl trivial ?_
  refine js_objInit hM.1 (by rw [hM.2.2.1]; exact oi_X2) (jat hM.2.1 1 rfl) (by rw [hM.2.2.2.2.1]; exact Nat.le_of_ble_eq_true rfl) (by rw [hM.2.2.2.2.1]; exact Nat.le_of_ble_eq_true rfl) ?_
  refine JW.r hM 2 5 (pc2 := 13) (L2 := [some (.ref 0)]) (st2 := [.int (900 : Int32), .ref 0]) (μ2 := [jo_14]) rfl trivial ?_
  refine js_newb (N := 900) hM.1 ac_byte (by decide) rfl (by decide) (Nat.lt_of_lt_of_le (show 1 < 3 from by decide) hB) (by rw [hM.2.2.2.2.2.1]; exact Nat.le_of_ble_eq_true rfl) (by rw [hM.2.2.2.2.2.2.1]; exact Nat.le_of_ble_eq_true rfl) (jat hM.2.1 7 rfl) ?_
  show JW X 1 900 15 [some (.ref 0)] [.ref 1, .ref 0] [jo_14, jai 2 900]
  refine js_putF (v := 1) (a := 0) (ci := 2) (s := 3) hM.1 hin (by rw [hM.2.2.2.1.1]; decide) rfl (by decide) (jat hM.2.1 8 rfl) ?_
  show JW X 1 900 18 [some (.ref 0)] [] [jo_15, jai 2 900]
  exact js_vret hM.1 hp hM.2.2.2.2.2.2.2.1 (by rw [hM.2.2.2.2.2.1]; exact Nat.le_of_ble_eq_true rfl) (by rw [hM.2.2.2.2.2.2.1]; exact Nat.le_of_ble_eq_true rfl) (jat hM.2.1 9 rfl) ⟨rfl, rfl⟩

def fX1_init : jH := [jo_26, jai 0 10, jai 0 10, jai 0 60, jai 0 6, jai 0 60, jai 0 60, jai 0 6144, jai 0 1024, jal0 1024, jai 0 12]

set_option maxHeartbeats 4000000 in
set_option maxRecDepth 100000 in
theorem m_X1_init_s5 {X : jX} (hM : jMX X kX1_init RX1 tbX1 1 ⟨1, 10, 8410, 20⟩ none 12) (hp : jPost X true 12 (fun o ν => o = none ∧ ν = fX1_init) (fun _ _ => False)) (hin : (jme X).name = "<init>") : JW X 10 8410 84 [some (.ref 0)] [.ref 10, .ref 0] [jo_25, jai 0 10, jai 0 10, jai 0 60, jai 0 6, jai 0 60, jai 0 60, jai 0 6144, jai 0 1024, jal0 1024, jai 0 12] := by
  have hB : 12 ≤ jal X := hM.2.2.2.2.2.2.2.2.1
  refine js_putF (v := 10) (a := 0) (ci := 1) (s := 14) hM.1 hin (by rw [hM.2.2.2.1.1]; decide) rfl (by decide) (jat hM.2.1 41 rfl) ?_
  show JW X 10 8410 87 [some (.ref 0)] [] [jo_26, jai 0 10, jai 0 10, jai 0 60, jai 0 6, jai 0 60, jai 0 60, jai 0 6144, jai 0 1024, jal0 1024, jai 0 12]
  exact js_vret hM.1 hp hM.2.2.2.2.2.2.2.1 (by rw [hM.2.2.2.2.2.1]; exact Nat.le_of_ble_eq_true rfl) (by rw [hM.2.2.2.2.2.2.1]; exact Nat.le_of_ble_eq_true rfl) (jat hM.2.1 42 rfl) ⟨rfl, rfl⟩

set_option maxHeartbeats 4000000 in
set_option maxRecDepth 100000 in
theorem m_X1_init_s4 {X : jX} (hM : jMX X kX1_init RX1 tbX1 1 ⟨1, 10, 8410, 20⟩ none 12) (hp : jPost X true 12 (fun o ν => o = none ∧ ν = fX1_init) (fun _ _ => False)) (hin : (jme X).name = "<init>") : JW X 8 7374 70 [some (.ref 0)] [] [jo_24, jai 0 10, jai 0 10, jai 0 60, jai 0 6, jai 0 60, jai 0 60, jai 0 6144, jai 0 1024] := by
  have hB : 12 ≤ jal X := hM.2.2.2.2.2.2.2.2.1
  refine JW.r hM 34 2 (pc2 := 74) (L2 := [some (.ref 0)]) (st2 := [.int (1024 : Int32), .ref 0]) (μ2 := [jo_24, jai 0 10, jai 0 10, jai 0 60, jai 0 6, jai 0 60, jai 0 60, jai 0 6144, jai 0 1024]) rfl trivial ?_
  refine js_newl (N := 1024) hM.1 ac_long (by decide) rfl (by decide) (Nat.lt_of_lt_of_le (show 9 < 12 from by decide) hB) (by rw [hM.2.2.2.2.2.1]; exact Nat.le_of_ble_eq_true rfl) (by rw [hM.2.2.2.2.2.2.1]; exact Nat.le_of_ble_eq_true rfl) (jat hM.2.1 36 rfl) ?_
  show JW X 9 8398 76 [some (.ref 0)] [.ref 9, .ref 0] [jo_24, jai 0 10, jai 0 10, jai 0 60, jai 0 6, jai 0 60, jai 0 60, jai 0 6144, jai 0 1024, jal0 1024]
  refine js_putF (v := 9) (a := 0) (ci := 1) (s := 13) hM.1 hin (by rw [hM.2.2.2.1.1]; decide) rfl (by decide) (jat hM.2.1 37 rfl) ?_
  show JW X 9 8398 79 [some (.ref 0)] [] [jo_25, jai 0 10, jai 0 10, jai 0 60, jai 0 6, jai 0 60, jai 0 60, jai 0 6144, jai 0 1024, jal0 1024]
  refine JW.r hM 38 2 (pc2 := 82) (L2 := [some (.ref 0)]) (st2 := [.int (12 : Int32), .ref 0]) (μ2 := [jo_25, jai 0 10, jai 0 10, jai 0 60, jai 0 6, jai 0 60, jai 0 60, jai 0 6144, jai 0 1024, jal0 1024]) rfl trivial ?_
  refine js_newi (N := 12) hM.1 ac_int (by decide) rfl (by decide) (Nat.lt_of_lt_of_le (show 10 < 12 from by decide) hB) (by rw [hM.2.2.2.2.2.1]; exact Nat.le_of_ble_eq_true rfl) (by rw [hM.2.2.2.2.2.2.1]; exact Nat.le_of_ble_eq_true rfl) (jat hM.2.1 40 rfl) ?_
  show JW X 10 8410 84 [some (.ref 0)] [.ref 10, .ref 0] [jo_25, jai 0 10, jai 0 10, jai 0 60, jai 0 6, jai 0 60, jai 0 60, jai 0 6144, jai 0 1024, jal0 1024, jai 0 12]
  exact m_X1_init_s5 hM hp hin

set_option maxHeartbeats 4000000 in
set_option maxRecDepth 100000 in
theorem m_X1_init_s3 {X : jX} (hM : jMX X kX1_init RX1 tbX1 1 ⟨1, 10, 8410, 20⟩ none 12) (hp : jPost X true 12 (fun o ν => o = none ∧ ν = fX1_init) (fun _ _ => False)) (hin : (jme X).name = "<init>") : JW X 6 206 56 [some (.ref 0)] [.int (6144 : Int32), .ref 0] [jo_22, jai 0 10, jai 0 10, jai 0 60, jai 0 6, jai 0 60, jai 0 60] := by
  have hB : 12 ≤ jal X := hM.2.2.2.2.2.2.2.2.1
  refine js_newi (N := 6144) hM.1 ac_int (by decide) rfl (by decide) (Nat.lt_of_lt_of_le (show 7 < 12 from by decide) hB) (by rw [hM.2.2.2.2.2.1]; exact Nat.le_of_ble_eq_true rfl) (by rw [hM.2.2.2.2.2.2.1]; exact Nat.le_of_ble_eq_true rfl) (jat hM.2.1 28 rfl) ?_
  show JW X 7 6350 58 [some (.ref 0)] [.ref 7, .ref 0] [jo_22, jai 0 10, jai 0 10, jai 0 60, jai 0 6, jai 0 60, jai 0 60, jai 0 6144]
  refine js_putF (v := 7) (a := 0) (ci := 1) (s := 11) hM.1 hin (by rw [hM.2.2.2.1.1]; decide) rfl (by decide) (jat hM.2.1 29 rfl) ?_
  show JW X 7 6350 61 [some (.ref 0)] [] [jo_23, jai 0 10, jai 0 10, jai 0 60, jai 0 6, jai 0 60, jai 0 60, jai 0 6144]
  refine JW.r hM 30 2 (pc2 := 65) (L2 := [some (.ref 0)]) (st2 := [.int (1024 : Int32), .ref 0]) (μ2 := [jo_23, jai 0 10, jai 0 10, jai 0 60, jai 0 6, jai 0 60, jai 0 60, jai 0 6144]) rfl trivial ?_
  refine js_newi (N := 1024) hM.1 ac_int (by decide) rfl (by decide) (Nat.lt_of_lt_of_le (show 8 < 12 from by decide) hB) (by rw [hM.2.2.2.2.2.1]; exact Nat.le_of_ble_eq_true rfl) (by rw [hM.2.2.2.2.2.2.1]; exact Nat.le_of_ble_eq_true rfl) (jat hM.2.1 32 rfl) ?_
  show JW X 8 7374 67 [some (.ref 0)] [.ref 8, .ref 0] [jo_23, jai 0 10, jai 0 10, jai 0 60, jai 0 6, jai 0 60, jai 0 60, jai 0 6144, jai 0 1024]
  refine js_putF (v := 8) (a := 0) (ci := 1) (s := 12) hM.1 hin (by rw [hM.2.2.2.1.1]; decide) rfl (by decide) (jat hM.2.1 33 rfl) ?_
  show JW X 8 7374 70 [some (.ref 0)] [] [jo_24, jai 0 10, jai 0 10, jai 0 60, jai 0 6, jai 0 60, jai 0 60, jai 0 6144, jai 0 1024]
  exact m_X1_init_s4 hM hp hin

set_option maxHeartbeats 4000000 in
set_option maxRecDepth 100000 in
theorem m_X1_init_s2 {X : jX} (hM : jMX X kX1_init RX1 tbX1 1 ⟨1, 10, 8410, 20⟩ none 12) (hp : jPost X true 12 (fun o ν => o = none ∧ ν = fX1_init) (fun _ _ => False)) (hin : (jme X).name = "<init>") : JW X 5 146 41 [some (.ref 0)] [.ref 5, .ref 0] [jo_20, jai 0 10, jai 0 10, jai 0 60, jai 0 6, jai 0 60] := by
  have hB : 12 ≤ jal X := hM.2.2.2.2.2.2.2.2.1
  refine js_putF (v := 5) (a := 0) (ci := 1) (s := 9) hM.1 hin (by rw [hM.2.2.2.1.1]; decide) rfl (by decide) (jat hM.2.1 21 rfl) ?_
  show JW X 5 146 44 [some (.ref 0)] [] [jo_21, jai 0 10, jai 0 10, jai 0 60, jai 0 6, jai 0 60]
  refine JW.r hM 22 2 (pc2 := 47) (L2 := [some (.ref 0)]) (st2 := [.int (60 : Int32), .ref 0]) (μ2 := [jo_21, jai 0 10, jai 0 10, jai 0 60, jai 0 6, jai 0 60]) rfl trivial ?_
  refine js_newi (N := 60) hM.1 ac_int (by decide) rfl (by decide) (Nat.lt_of_lt_of_le (show 6 < 12 from by decide) hB) (by rw [hM.2.2.2.2.2.1]; exact Nat.le_of_ble_eq_true rfl) (by rw [hM.2.2.2.2.2.2.1]; exact Nat.le_of_ble_eq_true rfl) (jat hM.2.1 24 rfl) ?_
  show JW X 6 206 49 [some (.ref 0)] [.ref 6, .ref 0] [jo_21, jai 0 10, jai 0 10, jai 0 60, jai 0 6, jai 0 60, jai 0 60]
  refine js_putF (v := 6) (a := 0) (ci := 1) (s := 10) hM.1 hin (by rw [hM.2.2.2.1.1]; decide) rfl (by decide) (jat hM.2.1 25 rfl) ?_
  show JW X 6 206 52 [some (.ref 0)] [] [jo_22, jai 0 10, jai 0 10, jai 0 60, jai 0 6, jai 0 60, jai 0 60]
  refine JW.r hM 26 2 (pc2 := 56) (L2 := [some (.ref 0)]) (st2 := [.int (6144 : Int32), .ref 0]) (μ2 := [jo_22, jai 0 10, jai 0 10, jai 0 60, jai 0 6, jai 0 60, jai 0 60]) rfl trivial ?_
  exact m_X1_init_s3 hM hp hin

set_option maxHeartbeats 4000000 in
set_option maxRecDepth 100000 in
theorem m_X1_init_s1 {X : jX} (hM : jMX X kX1_init RX1 tbX1 1 ⟨1, 10, 8410, 20⟩ none 12) (hp : jPost X true 12 (fun o ν => o = none ∧ ν = fX1_init) (fun _ _ => False)) (hin : (jme X).name = "<init>") : JW X 3 80 28 [some (.ref 0)] [] [jo_19, jai 0 10, jai 0 10, jai 0 60] := by
  have hB : 12 ≤ jal X := hM.2.2.2.2.2.2.2.2.1
  refine JW.r hM 14 2 (pc2 := 31) (L2 := [some (.ref 0)]) (st2 := [.int (6 : Int32), .ref 0]) (μ2 := [jo_19, jai 0 10, jai 0 10, jai 0 60]) rfl trivial ?_
  refine js_newi (N := 6) hM.1 ac_int (by decide) rfl (by decide) (Nat.lt_of_lt_of_le (show 4 < 12 from by decide) hB) (by rw [hM.2.2.2.2.2.1]; exact Nat.le_of_ble_eq_true rfl) (by rw [hM.2.2.2.2.2.2.1]; exact Nat.le_of_ble_eq_true rfl) (jat hM.2.1 16 rfl) ?_
  show JW X 4 86 33 [some (.ref 0)] [.ref 4, .ref 0] [jo_19, jai 0 10, jai 0 10, jai 0 60, jai 0 6]
  refine js_putF (v := 4) (a := 0) (ci := 1) (s := 8) hM.1 hin (by rw [hM.2.2.2.1.1]; decide) rfl (by decide) (jat hM.2.1 17 rfl) ?_
  show JW X 4 86 36 [some (.ref 0)] [] [jo_20, jai 0 10, jai 0 10, jai 0 60, jai 0 6]
  refine JW.r hM 18 2 (pc2 := 39) (L2 := [some (.ref 0)]) (st2 := [.int (60 : Int32), .ref 0]) (μ2 := [jo_20, jai 0 10, jai 0 10, jai 0 60, jai 0 6]) rfl trivial ?_
  refine js_newi (N := 60) hM.1 ac_int (by decide) rfl (by decide) (Nat.lt_of_lt_of_le (show 5 < 12 from by decide) hB) (by rw [hM.2.2.2.2.2.1]; exact Nat.le_of_ble_eq_true rfl) (by rw [hM.2.2.2.2.2.2.1]; exact Nat.le_of_ble_eq_true rfl) (jat hM.2.1 20 rfl) ?_
  show JW X 5 146 41 [some (.ref 0)] [.ref 5, .ref 0] [jo_20, jai 0 10, jai 0 10, jai 0 60, jai 0 6, jai 0 60]
  exact m_X1_init_s2 hM hp hin

set_option maxHeartbeats 4000000 in
set_option maxRecDepth 100000 in
theorem m_X1_init_s0 {X : jX} (hM : jMX X kX1_init RX1 tbX1 1 ⟨1, 10, 8410, 20⟩ none 12) (hp : jPost X true 12 (fun o ν => o = none ∧ ν = fX1_init) (fun _ _ => False)) (hin : (jme X).name = "<init>") : JW X 1 10 15 [some (.ref 0)] [.int (10 : Int32), .ref 0] [jo_17, jai 0 10] := by
  have hB : 12 ≤ jal X := hM.2.2.2.2.2.2.2.2.1
  refine js_newi (N := 10) hM.1 ac_int (by decide) rfl (by decide) (Nat.lt_of_lt_of_le (show 2 < 12 from by decide) hB) (by rw [hM.2.2.2.2.2.1]; exact Nat.le_of_ble_eq_true rfl) (by rw [hM.2.2.2.2.2.2.1]; exact Nat.le_of_ble_eq_true rfl) (jat hM.2.1 8 rfl) ?_
  show JW X 2 20 17 [some (.ref 0)] [.ref 2, .ref 0] [jo_17, jai 0 10, jai 0 10]
  refine js_putF (v := 2) (a := 0) (ci := 1) (s := 6) hM.1 hin (by rw [hM.2.2.2.1.1]; decide) rfl (by decide) (jat hM.2.1 9 rfl) ?_
  show JW X 2 20 20 [some (.ref 0)] [] [jo_18, jai 0 10, jai 0 10]
  refine JW.r hM 10 2 (pc2 := 23) (L2 := [some (.ref 0)]) (st2 := [.int (60 : Int32), .ref 0]) (μ2 := [jo_18, jai 0 10, jai 0 10]) rfl trivial ?_
  refine js_newi (N := 60) hM.1 ac_int (by decide) rfl (by decide) (Nat.lt_of_lt_of_le (show 3 < 12 from by decide) hB) (by rw [hM.2.2.2.2.2.1]; exact Nat.le_of_ble_eq_true rfl) (by rw [hM.2.2.2.2.2.2.1]; exact Nat.le_of_ble_eq_true rfl) (jat hM.2.1 12 rfl) ?_
  show JW X 3 80 25 [some (.ref 0)] [.ref 3, .ref 0] [jo_18, jai 0 10, jai 0 10, jai 0 60]
  refine js_putF (v := 3) (a := 0) (ci := 1) (s := 7) hM.1 hin (by rw [hM.2.2.2.1.1]; decide) rfl (by decide) (jat hM.2.1 13 rfl) ?_
  show JW X 3 80 28 [some (.ref 0)] [] [jo_19, jai 0 10, jai 0 10, jai 0 60]
  exact m_X1_init_s1 hM hp hin

set_option maxHeartbeats 4000000 in
set_option maxRecDepth 100000 in
theorem m_X1_init (V : jV) (hV : V.1.stackTraces = false) : jMet V yX1_init (jws yX1_init cX1_init 1 none) ⟨1, 10, 8410, 20⟩ true 11 [.ref 0] [jo_16] (fun o ν => o = none ∧ ν = fX1_init) (fun _ _ => False) := by
  refine jmk (tb := tbX1) (C := kX1_init) hV rfl (by decide) tbX1_ok rfl kX1_init_ok rfl ?_
  intro X hM _ hp hin
  have hin := hin rfl
  have hB : 12 ≤ jal X := hM.2.2.2.2.2.2.2.2.1
  show JW X 0 0 0 [some (.ref 0)] [] [jo_16]
  refine JW.r hM 0 1 (pc2 := 1) (L2 := [some (.ref 0)]) (st2 := [.ref 0]) (μ2 := [jo_16]) rfl trivial ?_
  refine js_objInit hM.1 (by rw [hM.2.2.1]; exact oi_X1) (jat hM.2.1 1 rfl) (by rw [hM.2.2.2.2.1]; exact Nat.le_of_ble_eq_true rfl) (by rw [hM.2.2.2.2.1]; exact Nat.le_of_ble_eq_true rfl) ?_
  refine JW.r hM 2 2 (pc2 := 7) (L2 := [some (.ref 0)]) (st2 := [.int (10 : Int32), .ref 0]) (μ2 := [jo_16]) rfl trivial ?_
  refine js_newi (N := 10) hM.1 ac_int (by decide) rfl (by decide) (Nat.lt_of_lt_of_le (show 1 < 12 from by decide) hB) (by rw [hM.2.2.2.2.2.1]; exact Nat.le_of_ble_eq_true rfl) (by rw [hM.2.2.2.2.2.2.1]; exact Nat.le_of_ble_eq_true rfl) (jat hM.2.1 4 rfl) ?_
  show JW X 1 10 9 [some (.ref 0)] [.ref 1, .ref 0] [jo_16, jai 0 10]
  refine js_putF (v := 1) (a := 0) (ci := 1) (s := 5) hM.1 hin (by rw [hM.2.2.2.1.1]; decide) rfl (by decide) (jat hM.2.1 5 rfl) ?_
  show JW X 1 10 12 [some (.ref 0)] [] [jo_17, jai 0 10]
  refine JW.r hM 6 2 (pc2 := 15) (L2 := [some (.ref 0)]) (st2 := [.int (10 : Int32), .ref 0]) (μ2 := [jo_17, jai 0 10]) rfl trivial ?_
  exact m_X1_init_s0 hM hp hin

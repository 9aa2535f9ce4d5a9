def jo_55 : jc := .inr (.inr (.inl (6, [.null, .null, .null, .null, .null, .int 0, .null, .int 0, .int 0, .int 0, .int 0, .int 0, .int 0, .int 0, .int 0, .int 0, .int 0, .null, .int 0, .null, .null, .null, .null, .int 0, .int 0, .int 0, .null, .null, .null])))
def jo_56 : jc := .inr (.inr (.inl (6, [.ref 1, .null, .null, .null, .null, .int 0, .null, .int 0, .int 0, .int 0, .int 0, .int 0, .int 0, .int 0, .int 0, .int 0, .int 0, .null, .int 0, .null, .null, .null, .null, .int 0, .int 0, .int 0, .null, .null, .null])))
def jo_57 : jc := .inr (.inr (.inl (6, [.ref 1, .ref 2, .null, .null, .null, .int 0, .null, .int 0, .int 0, .int 0, .int 0, .int 0, .int 0, .int 0, .int 0, .int 0, .int 0, .null, .int 0, .null, .null, .null, .null, .int 0, .int 0, .int 0, .null, .null, .null])))
def jo_58 : jc := .inr (.inr (.inl (6, [.ref 1, .ref 2, .ref 3, .null, .null, .int 0, .null, .int 0, .int 0, .int 0, .int 0, .int 0, .int 0, .int 0, .int 0, .int 0, .int 0, .null, .int 0, .null, .null, .null, .null, .int 0, .int 0, .int 0, .null, .null, .null])))
def jo_59 : jc := .inr (.inr (.inl (6, [.ref 1, .ref 2, .ref 3, .ref 4, .null, .int 0, .null, .int 0, .int 0, .int 0, .int 0, .int 0, .int 0, .int 0, .int 0, .int 0, .int 0, .null, .int 0, .null, .null, .null, .null, .int 0, .int 0, .int 0, .null, .null, .null])))
def jo_60 : jc := .inr (.inr (.inl (6, [.ref 1, .ref 2, .ref 3, .ref 4, .ref 5, .int 0, .null, .int 0, .int 0, .int 0, .int 0, .int 0, .int 0, .int 0, .int 0, .int 0, .int 0, .null, .int 0, .null, .null, .null, .null, .int 0, .int 0, .int 0, .null, .null, .null])))
def jo_61 : jc := .inr (.inr (.inl (6, [.ref 1, .ref 2, .ref 3, .ref 4, .ref 5, .int 0, .ref 6, .int 0, .int 0, .int 0, .int 0, .int 0, .int 0, .int 0, .int 0, .int 0, .int 0, .null, .int 0, .null, .null, .null, .null, .int 0, .int 0, .int 0, .null, .null, .null])))
def jo_62 : jc := .inr (.inr (.inl (6, [.ref 1, .ref 2, .ref 3, .ref 4, .ref 5, .int 0, .ref 6, .int 0, .int 0, .int 0, .int 0, .int 0, .int 0, .int 0, .int 0, .int 0, .int (-1 : Int32), .null, .int 0, .null, .null, .null, .null, .int 0, .int 0, .int 0, .null, .null, .null])))
def jo_63 : jc := .inr (.inr (.inl (6, [.ref 1, .ref 2, .ref 3, .ref 4, .ref 5, .int 0, .ref 6, .int 0, .int 0, .int 0, .int 0, .int 0, .int 0, .int 0, .int 0, .int 0, .int (-1 : Int32), .ref 7, .int 0, .null, .null, .null, .null, .int 0, .int 0, .int 0, .null, .null, .null])))
def jo_64 : jc := .inr (.inr (.inl (6, [.ref 1, .ref 2, .ref 3, .ref 4, .ref 5, .int 0, .ref 6, .int 0, .int 0, .int 0, .int 0, .int 0, .int 0, .int 0, .int 0, .int 0, .int (-1 : Int32), .ref 7, .int 0, .ref 8, .null, .null, .null, .int 0, .int 0, .int 0, .null, .null, .null])))
def jo_65 : jc := .inr (.inr (.inl (6, [.ref 1, .ref 2, .ref 3, .ref 4, .ref 5, .int 0, .ref 6, .int 0, .int 0, .int 0, .int 0, .int 0, .int 0, .int 0, .int 0, .int 0, .int (-1 : Int32), .ref 7, .int 0, .ref 8, .ref 9, .null, .null, .int 0, .int 0, .int 0, .null, .null, .null])))
def jo_66 : jc := .inr (.inr (.inl (6, [.ref 1, .ref 2, .ref 3, .ref 4, .ref 5, .int 0, .ref 6, .int 0, .int 0, .int 0, .int 0, .int 0, .int 0, .int 0, .int 0, .int 0, .int (-1 : Int32), .ref 7, .int 0, .ref 8, .ref 9, .ref 10, .null, .int 0, .int 0, .int 0, .null, .null, .null])))
def jo_67 : jc := .inr (.inr (.inl (6, [.ref 1, .ref 2, .ref 3, .ref 4, .ref 5, .int 0, .ref 6, .int 0, .int 0, .int 0, .int 0, .int 0, .int 0, .int 0, .int 0, .int 0, .int (-1 : Int32), .ref 7, .int 0, .ref 8, .ref 9, .ref 10, .ref 11, .int 0, .int 0, .int 0, .null, .null, .null])))
def jo_68 : jc := .inr (.inr (.inl (6, [.ref 1, .ref 2, .ref 3, .ref 4, .ref 5, .int 0, .ref 6, .int 0, .int 0, .int 0, .int 0, .int 0, .int 0, .int 0, .int 0, .int 0, .int (-1 : Int32), .ref 7, .int 0, .ref 8, .ref 9, .ref 10, .ref 11, .int 0, .int 0, .int 0, .ref 12, .null, .null])))
def jo_69 : jc := .inr (.inr (.inl (6, [.ref 1, .ref 2, .ref 3, .ref 4, .ref 5, .int 0, .ref 6, .int 0, .int 0, .int 0, .int 0, .int 0, .int 0, .int 0, .int 0, .int 0, .int (-1 : Int32), .ref 7, .int 0, .ref 8, .ref 9, .ref 10, .ref 11, .int 0, .int 0, .int 0, .ref 12, .ref 13, .null])))
def jo_70 : jc := .inr (.inr (.inl (6, [.ref 1, .ref 2, .ref 3, .ref 4, .ref 5, .int 0, .ref 6, .int 0, .int 0, .int 0, .int 0, .int 0, .int 0, .int 0, .int 0, .int 0, .int (-1 : Int32), .ref 7, .int 0, .ref 8, .ref 9, .ref 10, .ref 11, .int 0, .int 0, .int 0, .ref 12, .ref 13, .ref 14])))
def fX6_init (v : Nat → Nat → Int32) : jH := [jo_70, .inl (0, 264, (v 0)), jai 0 264, jai 0 264, jai 0 792, jai 3 3, jai 0 900, jai 0 264, jai 0 10, jai 0 79872, jai 0 12288, jai 0 6, .inl (0, 4, (upd (upd (upd (upd (fun _ => 0) 0 (-1 : Int32)) 1 (-1 : Int32)) 2 (-1 : Int32)) 3 (-1 : Int32))), jai 0 4, jal0 160]

set_option maxHeartbeats 4000000 in
set_option maxRecDepth 100000 in
theorem m_X6_init_s8 (N : Nat) (v : Nat → Nat → Int32) (hv : p_X6_begins N (fun _ _ => 0) = some v) {X : jX} (hM : jMX X kX6_init RX6 tbX6 1 ⟨1, 14, 95095, 21⟩ none 16) (hp : jPost X true 16 (fun o ν => o = none ∧ ν = fX6_init v) (fun _ _ => False)) (hin : (jme X).name = "<init>") : JW X 14 95095 146 [some (.ref 0)] [.ref 1] [jo_70, jai 0 264, jai 0 264, jai 0 264, jai 0 792, jai 3 3, jai 0 900, jai 0 264, jai 0 10, jai 0 79872, jai 0 12288, jai 0 6, .inl (0, 4, (upd (upd (upd (upd (fun _ => 0) 0 (-1 : Int32)) 1 (-1 : Int32)) 2 (-1 : Int32)) 3 (-1 : Int32))), jai 0 4, jal0 160] := by
  have hB : 16 ≤ jal X := hM.2.2.2.2.2.2.2.2.1
  refine JW.cS (v := none) hM (m_X6_begins (jVX X) hM.1.2.2.2.2.2.2.2.2.2.1 N (fun _ _ => 0) v hv) (e := [1]) (m := 15) (ν2 := hA264 v) (μ2 := [jo_70, .inl (0, 264, (v 0)), jai 0 264, jai 0 264, jai 0 792, jai 3 3, jai 0 900, jai 0 264, jai 0 10, jai 0 79872, jai 0 12288, jai 0 6, .inl (0, 4, (upd (upd (upd (upd (fun _ => 0) 0 (-1 : Int32)) 1 (-1 : Int32)) 2 (-1 : Int32)) 3 (-1 : Int32))), jai 0 4, jal0 160]) (show jsub [1] (hA264 (fun _ _ => 0)) [jo_70, jai 0 264, jai 0 264, jai 0 264, jai 0 792, jai 3 3, jai 0 900, jai 0 264, jai 0 10, jai 0 79872, jai 0 12288, jai 0 6, .inl (0, 4, (upd (upd (upd (upd (fun _ => 0) 0 (-1 : Int32)) 1 (-1 : Int32)) 2 (-1 : Int32)) 3 (-1 : Int32))), jai 0 4, jal0 160] from rfl) ((jback_eq rfl (Nat.le_of_ble_eq_true rfl)).trans rfl) rfl rfl rfl kc_X6_59 rfl rfl rfl (jat hM.2.1 79 rfl) (st := []) rfl ?_
  show JW X 14 95095 149 [some (.ref 0)] [] [jo_70, .inl (0, 264, (v 0)), jai 0 264, jai 0 264, jai 0 792, jai 3 3, jai 0 900, jai 0 264, jai 0 10, jai 0 79872, jai 0 12288, jai 0 6, .inl (0, 4, (upd (upd (upd (upd (fun _ => 0) 0 (-1 : Int32)) 1 (-1 : Int32)) 2 (-1 : Int32)) 3 (-1 : Int32))), jai 0 4, jal0 160]
  exact js_vret hM.1 hp hM.2.2.2.2.2.2.2.1 (by rw [hM.2.2.2.2.2.1]; exact Nat.le_of_ble_eq_true rfl) (by rw [hM.2.2.2.2.2.2.1]; exact Nat.le_of_ble_eq_true rfl) (jat hM.2.1 80 rfl) ⟨rfl, rfl⟩

set_option maxHeartbeats 4000000 in
set_option maxRecDepth 100000 in
theorem m_X6_init_s7 (N : Nat) (v : Nat → Nat → Int32) (hv : p_X6_begins N (fun _ _ => 0) = some v) {X : jX} (hM : jMX X kX6_init RX6 tbX6 1 ⟨1, 14, 95095, 21⟩ none 16) (hp : jPost X true 16 (fun o ν => o = none ∧ ν = fX6_init v) (fun _ _ => False)) (hin : (jme X).name = "<init>") : JW X 13 94935 130 [some (.ref 0)] [.ref 13, .ref 0] [jo_68, jai 0 264, jai 0 264, jai 0 264, jai 0 792, jai 3 3, jai 0 900, jai 0 264, jai 0 10, jai 0 79872, jai 0 12288, jai 0 6, .inl (0, 4, (upd (upd (upd (upd (fun _ => 0) 0 (-1 : Int32)) 1 (-1 : Int32)) 2 (-1 : Int32)) 3 (-1 : Int32))), jai 0 4] := by
  have hB : 16 ≤ jal X := hM.2.2.2.2.2.2.2.2.1
  refine js_putF (v := 13) (a := 0) (ci := 6) (s := 27) hM.1 hin (by rw [hM.2.2.2.1.1]; decide) rfl (by decide) (jat hM.2.1 72 rfl) ?_
  show JW X 13 94935 133 [some (.ref 0)] [] [jo_69, jai 0 264, jai 0 264, jai 0 264, jai 0 792, jai 3 3, jai 0 900, jai 0 264, jai 0 10, jai 0 79872, jai 0 12288, jai 0 6, .inl (0, 4, (upd (upd (upd (upd (fun _ => 0) 0 (-1 : Int32)) 1 (-1 : Int32)) 2 (-1 : Int32)) 3 (-1 : Int32))), jai 0 4]
  refine JW.r hM 73 2 (pc2 := 137) (L2 := [some (.ref 0)]) (st2 := [.int (160 : Int32), .ref 0]) (μ2 := [jo_69, jai 0 264, jai 0 264, jai 0 264, jai 0 792, jai 3 3, jai 0 900, jai 0 264, jai 0 10, jai 0 79872, jai 0 12288, jai 0 6, .inl (0, 4, (upd (upd (upd (upd (fun _ => 0) 0 (-1 : Int32)) 1 (-1 : Int32)) 2 (-1 : Int32)) 3 (-1 : Int32))), jai 0 4]) rfl trivial ?_
  refine js_newl (N := 160) hM.1 ac_long (by decide) rfl (by decide) (Nat.lt_of_lt_of_le (show 14 < 16 from by decide) hB) (by rw [hM.2.2.2.2.2.1]; exact Nat.le_of_ble_eq_true rfl) (by rw [hM.2.2.2.2.2.2.1]; exact Nat.le_of_ble_eq_true rfl) (jat hM.2.1 75 rfl) ?_
  show JW X 14 95095 139 [some (.ref 0)] [.ref 14, .ref 0] [jo_69, jai 0 264, jai 0 264, jai 0 264, jai 0 792, jai 3 3, jai 0 900, jai 0 264, jai 0 10, jai 0 79872, jai 0 12288, jai 0 6, .inl (0, 4, (upd (upd (upd (upd (fun _ => 0) 0 (-1 : Int32)) 1 (-1 : Int32)) 2 (-1 : Int32)) 3 (-1 : Int32))), jai 0 4, jal0 160]
  refine js_putF (v := 14) (a := 0) (ci := 6) (s := 28) hM.1 hin (by rw [hM.2.2.2.1.1]; decide) rfl (by decide) (jat hM.2.1 76 rfl) ?_
  show JW X 14 95095 142 [some (.ref 0)] [] [jo_70, jai 0 264, jai 0 264, jai 0 264, jai 0 792, jai 3 3, jai 0 900, jai 0 264, jai 0 10, jai 0 79872, jai 0 12288, jai 0 6, .inl (0, 4, (upd (upd (upd (upd (fun _ => 0) 0 (-1 : Int32)) 1 (-1 : Int32)) 2 (-1 : Int32)) 3 (-1 : Int32))), jai 0 4, jal0 160]
  refine JW.r hM 77 2 (pc2 := 146) (L2 := [some (.ref 0)]) (st2 := [.ref 1]) (μ2 := [jo_70, jai 0 264, jai 0 264, jai 0 264, jai 0 792, jai 3 3, jai 0 900, jai 0 264, jai 0 10, jai 0 79872, jai 0 12288, jai 0 6, .inl (0, 4, (upd (upd (upd (upd (fun _ => 0) 0 (-1 : Int32)) 1 (-1 : Int32)) 2 (-1 : Int32)) 3 (-1 : Int32))), jai 0 4, jal0 160]) rfl trivial ?_
  exact m_X6_init_s8 N v hv hM hp hin

set_option maxHeartbeats 4000000 in
set_option maxRecDepth 100000 in
theorem m_X6_init_s6 (N : Nat) (v : Nat → Nat → Int32) (hv : p_X6_begins N (fun _ _ => 0) = some v) {X : jX} (hM : jMX X kX6_init RX6 tbX6 1 ⟨1, 14, 95095, 21⟩ none 16) (hp : jPost X true 16 (fun o ν => o = none ∧ ν = fX6_init v) (fun _ _ => False)) (hin : (jme X).name = "<init>") : JW X 11 94927 105 [some (.ref 0)] [.int (4 : Int32), .ref 0] [jo_67, jai 0 264, jai 0 264, jai 0 264, jai 0 792, jai 3 3, jai 0 900, jai 0 264, jai 0 10, jai 0 79872, jai 0 12288, jai 0 6] := by
  have hB : 16 ≤ jal X := hM.2.2.2.2.2.2.2.2.1
  refine js_newi (N := 4) hM.1 ac_int (by decide) rfl (by decide) (Nat.lt_of_lt_of_le (show 12 < 16 from by decide) hB) (by rw [hM.2.2.2.2.2.1]; exact Nat.le_of_ble_eq_true rfl) (by rw [hM.2.2.2.2.2.2.1]; exact Nat.le_of_ble_eq_true rfl) (jat hM.2.1 51 rfl) ?_
  show JW X 12 94931 107 [some (.ref 0)] [.ref 12, .ref 0] [jo_67, jai 0 264, jai 0 264, jai 0 264, jai 0 792, jai 3 3, jai 0 900, jai 0 264, jai 0 10, jai 0 79872, jai 0 12288, jai 0 6, jai 0 4]
  refine JW.r hM 52 16 (pc2 := 123) (L2 := [some (.ref 0)]) (st2 := [.ref 12, .ref 0]) (μ2 := [jo_67, jai 0 264, jai 0 264, jai 0 264, jai 0 792, jai 3 3, jai 0 900, jai 0 264, jai 0 10, jai 0 79872, jai 0 12288, jai 0 6, .inl (0, 4, (upd (upd (upd (upd (fun _ => 0) 0 (-1 : Int32)) 1 (-1 : Int32)) 2 (-1 : Int32)) 3 (-1 : Int32)))]) rfl ⟨rfl, rfl, rfl, rfl, trivial⟩ ?_
  refine js_putF (v := 12) (a := 0) (ci := 6) (s := 26) hM.1 hin (by rw [hM.2.2.2.1.1]; decide) rfl (by decide) (jat hM.2.1 68 rfl) ?_
  show JW X 12 94931 126 [some (.ref 0)] [] [jo_68, jai 0 264, jai 0 264, jai 0 264, jai 0 792, jai 3 3, jai 0 900, jai 0 264, jai 0 10, jai 0 79872, jai 0 12288, jai 0 6, .inl (0, 4, (upd (upd (upd (upd (fun _ => 0) 0 (-1 : Int32)) 1 (-1 : Int32)) 2 (-1 : Int32)) 3 (-1 : Int32)))]
  refine JW.r hM 69 2 (pc2 := 128) (L2 := [some (.ref 0)]) (st2 := [.int (4 : Int32), .ref 0]) (μ2 := [jo_68, jai 0 264, jai 0 264, jai 0 264, jai 0 792, jai 3 3, jai 0 900, jai 0 264, jai 0 10, jai 0 79872, jai 0 12288, jai 0 6, .inl (0, 4, (upd (upd (upd (upd (fun _ => 0) 0 (-1 : Int32)) 1 (-1 : Int32)) 2 (-1 : Int32)) 3 (-1 : Int32)))]) rfl trivial ?_
  refine js_newi (N := 4) hM.1 ac_int (by decide) rfl (by decide) (Nat.lt_of_lt_of_le (show 13 < 16 from by decide) hB) (by rw [hM.2.2.2.2.2.1]; exact Nat.le_of_ble_eq_true rfl) (by rw [hM.2.2.2.2.2.2.1]; exact Nat.le_of_ble_eq_true rfl) (jat hM.2.1 71 rfl) ?_
  show JW X 13 94935 130 [some (.ref 0)] [.ref 13, .ref 0] [jo_68, jai 0 264, jai 0 264, jai 0 264, jai 0 792, jai 3 3, jai 0 900, jai 0 264, jai 0 10, jai 0 79872, jai 0 12288, jai 0 6, .inl (0, 4, (upd (upd (upd (upd (fun _ => 0) 0 (-1 : Int32)) 1 (-1 : Int32)) 2 (-1 : Int32)) 3 (-1 : Int32))), jai 0 4]
  exact m_X6_init_s7 N v hv hM hp hin

set_option maxHeartbeats 4000000 in
set_option maxRecDepth 100000 in
theorem m_X6_init_s5 (N : Nat) (v : Nat → Nat → Int32) (hv : p_X6_begins N (fun _ _ => 0) = some v) {X : jX} (hM : jMX X kX6_init RX6 tbX6 1 ⟨1, 14, 95095, 21⟩ none 16) (hp : jPost X true 16 (fun o ν => o = none ∧ ν = fX6_init v) (fun _ _ => False)) (hin : (jme X).name = "<init>") : JW X 10 94921 92 [some (.ref 0)] [.ref 10, .ref 0] [jo_65, jai 0 264, jai 0 264, jai 0 264, jai 0 792, jai 3 3, jai 0 900, jai 0 264, jai 0 10, jai 0 79872, jai 0 12288] := by
  have hB : 16 ≤ jal X := hM.2.2.2.2.2.2.2.2.1
  refine js_putF (v := 10) (a := 0) (ci := 6) (s := 21) hM.1 hin (by rw [hM.2.2.2.1.1]; decide) rfl (by decide) (jat hM.2.1 44 rfl) ?_
  show JW X 10 94921 95 [some (.ref 0)] [] [jo_66, jai 0 264, jai 0 264, jai 0 264, jai 0 792, jai 3 3, jai 0 900, jai 0 264, jai 0 10, jai 0 79872, jai 0 12288]
  refine JW.r hM 45 2 (pc2 := 98) (L2 := [some (.ref 0)]) (st2 := [.int (6 : Int32), .ref 0]) (μ2 := [jo_66, jai 0 264, jai 0 264, jai 0 264, jai 0 792, jai 3 3, jai 0 900, jai 0 264, jai 0 10, jai 0 79872, jai 0 12288]) rfl trivial ?_
  refine js_newi (N := 6) hM.1 ac_int (by decide) rfl (by decide) (Nat.lt_of_lt_of_le (show 11 < 16 from by decide) hB) (by rw [hM.2.2.2.2.2.1]; exact Nat.le_of_ble_eq_true rfl) (by rw [hM.2.2.2.2.2.2.1]; exact Nat.le_of_ble_eq_true rfl) (jat hM.2.1 47 rfl) ?_
  show JW X 11 94927 100 [some (.ref 0)] [.ref 11, .ref 0] [jo_66, jai 0 264, jai 0 264, jai 0 264, jai 0 792, jai 3 3, jai 0 900, jai 0 264, jai 0 10, jai 0 79872, jai 0 12288, jai 0 6]
  refine js_putF (v := 11) (a := 0) (ci := 6) (s := 22) hM.1 hin (by rw [hM.2.2.2.1.1]; decide) rfl (by decide) (jat hM.2.1 48 rfl) ?_
  show JW X 11 94927 103 [some (.ref 0)] [] [jo_67, jai 0 264, jai 0 264, jai 0 264, jai 0 792, jai 3 3, jai 0 900, jai 0 264, jai 0 10, jai 0 79872, jai 0 12288, jai 0 6]
  refine JW.r hM 49 2 (pc2 := 105) (L2 := [some (.ref 0)]) (st2 := [.int (4 : Int32), .ref 0]) (μ2 := [jo_67, jai 0 264, jai 0 264, jai 0 264, jai 0 792, jai 3 3, jai 0 900, jai 0 264, jai 0 10, jai 0 79872, jai 0 12288, jai 0 6]) rfl trivial ?_
  exact m_X6_init_s6 N v hv hM hp hin

set_option maxHeartbeats 4000000 in
set_option maxRecDepth 100000 in
theorem m_X6_init_s4 (N : Nat) (v : Nat → Nat → Int32) (hv : p_X6_begins N (fun _ _ => 0) = some v) {X : jX} (hM : jMX X kX6_init RX6 tbX6 1 ⟨1, 14, 95095, 21⟩ none 16) (hp : jPost X true 16 (fun o ν => o = none ∧ ν = fX6_init v) (fun _ _ => False)) (hin : (jme X).name = "<init>") : JW X 8 2761 78 [some (.ref 0)] [] [jo_64, jai 0 264, jai 0 264, jai 0 264, jai 0 792, jai 3 3, jai 0 900, jai 0 264, jai 0 10] := by
  have hB : 16 ≤ jal X := hM.2.2.2.2.2.2.2.2.1
  refine JW.r hM 37 2 (pc2 := 81) (L2 := [some (.ref 0)]) (st2 := [.int (79872 : Int32), .ref 0]) (μ2 := [jo_64, jai 0 264, jai 0 264, jai 0 264, jai 0 792, jai 3 3, jai 0 900, jai 0 264, jai 0 10]) rfl trivial ?_
  refine js_newi (N := 79872) hM.1 ac_int (by decide) rfl (by decide) (Nat.lt_of_lt_of_le (show 9 < 16 from by decide) hB) (by rw [hM.2.2.2.2.2.1]; exact Nat.le_of_ble_eq_true rfl) (by rw [hM.2.2.2.2.2.2.1]; exact Nat.le_of_ble_eq_true rfl) (jat hM.2.1 39 rfl) ?_
  show JW X 9 82633 83 [some (.ref 0)] [.ref 9, .ref 0] [jo_64, jai 0 264, jai 0 264, jai 0 264, jai 0 792, jai 3 3, jai 0 900, jai 0 264, jai 0 10, jai 0 79872]
  refine js_putF (v := 9) (a := 0) (ci := 6) (s := 20) hM.1 hin (by rw [hM.2.2.2.1.1]; decide) rfl (by decide) (jat hM.2.1 40 rfl) ?_
  show JW X 9 82633 86 [some (.ref 0)] [] [jo_65, jai 0 264, jai 0 264, jai 0 264, jai 0 792, jai 3 3, jai 0 900, jai 0 264, jai 0 10, jai 0 79872]
  refine JW.r hM 41 2 (pc2 := 90) (L2 := [some (.ref 0)]) (st2 := [.int (12288 : Int32), .ref 0]) (μ2 := [jo_65, jai 0 264, jai 0 264, jai 0 264, jai 0 792, jai 3 3, jai 0 900, jai 0 264, jai 0 10, jai 0 79872]) rfl trivial ?_
  refine js_newi (N := 12288) hM.1 ac_int (by decide) rfl (by decide) (Nat.lt_of_lt_of_le (show 10 < 16 from by decide) hB) (by rw [hM.2.2.2.2.2.1]; exact Nat.le_of_ble_eq_true rfl) (by rw [hM.2.2.2.2.2.2.1]; exact Nat.le_of_ble_eq_true rfl) (jat hM.2.1 43 rfl) ?_
  show JW X 10 94921 92 [some (.ref 0)] [.ref 10, .ref 0] [jo_65, jai 0 264, jai 0 264, jai 0 264, jai 0 792, jai 3 3, jai 0 900, jai 0 264, jai 0 10, jai 0 79872, jai 0 12288]
  exact m_X6_init_s5 N v hv hM hp hin

set_option maxHeartbeats 4000000 in
set_option maxRecDepth 100000 in
theorem m_X6_init_s3 (N : Nat) (v : Nat → Nat → Int32) (hv : p_X6_begins N (fun _ _ => 0) = some v) {X : jX} (hM : jMX X kX6_init RX6 tbX6 1 ⟨1, 14, 95095, 21⟩ none 16) (hp : jPost X true 16 (fun o ν => o = none ∧ ν = fX6_init v) (fun _ _ => False)) (hin : (jme X).name = "<init>") : JW X 6 2487 65 [some (.ref 0)] [.int (264 : Int32), .ref 0] [jo_62, jai 0 264, jai 0 264, jai 0 264, jai 0 792, jai 3 3, jai 0 900] := by
  have hB : 16 ≤ jal X := hM.2.2.2.2.2.2.2.2.1
  refine js_newi (N := 264) hM.1 ac_int (by decide) rfl (by decide) (Nat.lt_of_lt_of_le (show 7 < 16 from by decide) hB) (by rw [hM.2.2.2.2.2.1]; exact Nat.le_of_ble_eq_true rfl) (by rw [hM.2.2.2.2.2.2.1]; exact Nat.le_of_ble_eq_true rfl) (jat hM.2.1 31 rfl) ?_
  show JW X 7 2751 67 [some (.ref 0)] [.ref 7, .ref 0] [jo_62, jai 0 264, jai 0 264, jai 0 264, jai 0 792, jai 3 3, jai 0 900, jai 0 264]
  refine js_putF (v := 7) (a := 0) (ci := 6) (s := 17) hM.1 hin (by rw [hM.2.2.2.1.1]; decide) rfl (by decide) (jat hM.2.1 32 rfl) ?_
  show JW X 7 2751 70 [some (.ref 0)] [] [jo_63, jai 0 264, jai 0 264, jai 0 264, jai 0 792, jai 3 3, jai 0 900, jai 0 264]
  refine JW.r hM 33 2 (pc2 := 73) (L2 := [some (.ref 0)]) (st2 := [.int (10 : Int32), .ref 0]) (μ2 := [jo_63, jai 0 264, jai 0 264, jai 0 264, jai 0 792, jai 3 3, jai 0 900, jai 0 264]) rfl trivial ?_
  refine js_newi (N := 10) hM.1 ac_int (by decide) rfl (by decide) (Nat.lt_of_lt_of_le (show 8 < 16 from by decide) hB) (by rw [hM.2.2.2.2.2.1]; exact Nat.le_of_ble_eq_true rfl) (by rw [hM.2.2.2.2.2.2.1]; exact Nat.le_of_ble_eq_true rfl) (jat hM.2.1 35 rfl) ?_
  show JW X 8 2761 75 [some (.ref 0)] [.ref 8, .ref 0] [jo_63, jai 0 264, jai 0 264, jai 0 264, jai 0 792, jai 3 3, jai 0 900, jai 0 264, jai 0 10]
  refine js_putF (v := 8) (a := 0) (ci := 6) (s := 19) hM.1 hin (by rw [hM.2.2.2.1.1]; decide) rfl (by decide) (jat hM.2.1 36 rfl) ?_
  show JW X 8 2761 78 [some (.ref 0)] [] [jo_64, jai 0 264, jai 0 264, jai 0 264, jai 0 792, jai 3 3, jai 0 900, jai 0 264, jai 0 10]
  exact m_X6_init_s4 N v hv hM hp hin

set_option maxHeartbeats 4000000 in
set_option maxRecDepth 100000 in
theorem m_X6_init_s2 (N : Nat) (v : Nat → Nat → Int32) (hv : p_X6_begins N (fun _ _ => 0) = some v) {X : jX} (hM : jMX X kX6_init RX6 tbX6 1 ⟨1, 14, 95095, 21⟩ none 16) (hp : jPost X true 16 (fun o ν => o = none ∧ ν = fX6_init v) (fun _ _ => False)) (hin : (jme X).name = "<init>") : JW X 5 1587 44 [some (.ref 0)] [.ref 5, .ref 0] [jo_59, jai 0 264, jai 0 264, jai 0 264, jai 0 792, jai 3 3] := by
  have hB : 16 ≤ jal X := hM.2.2.2.2.2.2.2.2.1
  refine js_putF (v := 5) (a := 0) (ci := 6) (s := 4) hM.1 hin (by rw [hM.2.2.2.1.1]; decide) rfl (by decide) (jat hM.2.1 21 rfl) ?_
  show JW X 5 1587 47 [some (.ref 0)] [] [jo_60, jai 0 264, jai 0 264, jai 0 264, jai 0 792, jai 3 3]
  refine JW.r hM 22 2 (pc2 := 51) (L2 := [some (.ref 0)]) (st2 := [.int (900 : Int32), .ref 0]) (μ2 := [jo_60, jai 0 264, jai 0 264, jai 0 264, jai 0 792, jai 3 3]) rfl trivial ?_
  refine js_newi (N := 900) hM.1 ac_int (by decide) rfl (by decide) (Nat.lt_of_lt_of_le (show 6 < 16 from by decide) hB) (by rw [hM.2.2.2.2.2.1]; exact Nat.le_of_ble_eq_true rfl) (by rw [hM.2.2.2.2.2.2.1]; exact Nat.le_of_ble_eq_true rfl) (jat hM.2.1 24 rfl) ?_
  show JW X 6 2487 53 [some (.ref 0)] [.ref 6, .ref 0] [jo_60, jai 0 264, jai 0 264, jai 0 264, jai 0 792, jai 3 3, jai 0 900]
  refine js_putF (v := 6) (a := 0) (ci := 6) (s := 6) hM.1 hin (by rw [hM.2.2.2.1.1]; decide) rfl (by decide) (jat hM.2.1 25 rfl) ?_
  show JW X 6 2487 56 [some (.ref 0)] [] [jo_61, jai 0 264, jai 0 264, jai 0 264, jai 0 792, jai 3 3, jai 0 900]
  refine JW.r hM 26 5 (pc2 := 65) (L2 := [some (.ref 0)]) (st2 := [.int (264 : Int32), .ref 0]) (μ2 := [jo_62, jai 0 264, jai 0 264, jai 0 264, jai 0 792, jai 3 3, jai 0 900]) rfl trivial ?_
  exact m_X6_init_s3 N v hv hM hp hin

set_option maxHeartbeats 4000000 in
set_option maxRecDepth 100000 in
theorem m_X6_init_s1 (N : Nat) (v : Nat → Nat → Int32) (hv : p_X6_begins N (fun _ _ => 0) = some v) {X : jX} (hM : jMX X kX6_init RX6 tbX6 1 ⟨1, 14, 95095, 21⟩ none 16) (hp : jPost X true 16 (fun o ν => o = none ∧ ν = fX6_init v) (fun _ _ => False)) (hin : (jme X).name = "<init>") : JW X 3 792 31 [some (.ref 0)] [] [jo_58, jai 0 264, jai 0 264, jai 0 264] := by
  have hB : 16 ≤ jal X := hM.2.2.2.2.2.2.2.2.1
  refine JW.r hM 14 2 (pc2 := 35) (L2 := [some (.ref 0)]) (st2 := [.int (792 : Int32), .ref 0]) (μ2 := [jo_58, jai 0 264, jai 0 264, jai 0 264]) rfl trivial ?_
  refine js_newi (N := 792) hM.1 ac_int (by decide) rfl (by decide) (Nat.lt_of_lt_of_le (show 4 < 16 from by decide) hB) (by rw [hM.2.2.2.2.2.1]; exact Nat.le_of_ble_eq_true rfl) (by rw [hM.2.2.2.2.2.2.1]; exact Nat.le_of_ble_eq_true rfl) (jat hM.2.1 16 rfl) ?_
  show JW X 4 1584 37 [some (.ref 0)] [.ref 4, .ref 0] [jo_58, jai 0 264, jai 0 264, jai 0 264, jai 0 792]
  refine js_putF (v := 4) (a := 0) (ci := 6) (s := 3) hM.1 hin (by rw [hM.2.2.2.1.1]; decide) rfl (by decide) (jat hM.2.1 17 rfl) ?_
  show JW X 4 1584 40 [some (.ref 0)] [] [jo_59, jai 0 264, jai 0 264, jai 0 264, jai 0 792]
  refine JW.r hM 18 2 (pc2 := 42) (L2 := [some (.ref 0)]) (st2 := [.int (3 : Int32), .ref 0]) (μ2 := [jo_59, jai 0 264, jai 0 264, jai 0 264, jai 0 792]) rfl trivial ?_
  refine js_newz (N := 3) hM.1 ac_boolean (by decide) rfl (by decide) (Nat.lt_of_lt_of_le (show 5 < 16 from by decide) hB) (by rw [hM.2.2.2.2.2.1]; exact Nat.le_of_ble_eq_true rfl) (by rw [hM.2.2.2.2.2.2.1]; exact Nat.le_of_ble_eq_true rfl) (jat hM.2.1 20 rfl) ?_
  show JW X 5 1587 44 [some (.ref 0)] [.ref 5, .ref 0] [jo_59, jai 0 264, jai 0 264, jai 0 264, jai 0 792, jai 3 3]
  exact m_X6_init_s2 N v hv hM hp hin

set_option maxHeartbeats 4000000 in
set_option maxRecDepth 100000 in
theorem m_X6_init_s0 (N : Nat) (v : Nat → Nat → Int32) (hv : p_X6_begins N (fun _ _ => 0) = some v) {X : jX} (hM : jMX X kX6_init RX6 tbX6 1 ⟨1, 14, 95095, 21⟩ none 16) (hp : jPost X true 16 (fun o ν => o = none ∧ ν = fX6_init v) (fun _ _ => False)) (hin : (jme X).name = "<init>") : JW X 1 264 17 [some (.ref 0)] [.int (264 : Int32), .ref 0] [jo_56, jai 0 264] := by
  have hB : 16 ≤ jal X := hM.2.2.2.2.2.2.2.2.1
  refine js_newi (N := 264) hM.1 ac_int (by decide) rfl (by decide) (Nat.lt_of_lt_of_le (show 2 < 16 from by decide) hB) (by rw [hM.2.2.2.2.2.1]; exact Nat.le_of_ble_eq_true rfl) (by rw [hM.2.2.2.2.2.2.1]; exact Nat.le_of_ble_eq_true rfl) (jat hM.2.1 8 rfl) ?_
  show JW X 2 528 19 [some (.ref 0)] [.ref 2, .ref 0] [jo_56, jai 0 264, jai 0 264]
  refine js_putF (v := 2) (a := 0) (ci := 6) (s := 1) hM.1 hin (by rw [hM.2.2.2.1.1]; decide) rfl (by decide) (jat hM.2.1 9 rfl) ?_
  show JW X 2 528 22 [some (.ref 0)] [] [jo_57, jai 0 264, jai 0 264]
  refine JW.r hM 10 2 (pc2 := 26) (L2 := [some (.ref 0)]) (st2 := [.int (264 : Int32), .ref 0]) (μ2 := [jo_57, jai 0 264, jai 0 264]) rfl trivial ?_
  refine js_newi (N := 264) hM.1 ac_int (by decide) rfl (by decide) (Nat.lt_of_lt_of_le (show 3 < 16 from by decide) hB) (by rw [hM.2.2.2.2.2.1]; exact Nat.le_of_ble_eq_true rfl) (by rw [hM.2.2.2.2.2.2.1]; exact Nat.le_of_ble_eq_true rfl) (jat hM.2.1 12 rfl) ?_
  show JW X 3 792 28 [some (.ref 0)] [.ref 3, .ref 0] [jo_57, jai 0 264, jai 0 264, jai 0 264]
  refine js_putF (v := 3) (a := 0) (ci := 6) (s := 2) hM.1 hin (by rw [hM.2.2.2.1.1]; decide) rfl (by decide) (jat hM.2.1 13 rfl) ?_
  show JW X 3 792 31 [some (.ref 0)] [] [jo_58, jai 0 264, jai 0 264, jai 0 264]
  exact m_X6_init_s1 N v hv hM hp hin

set_option maxHeartbeats 4000000 in
set_option maxRecDepth 100000 in
theorem m_X6_init (V : jV) (hV : V.1.stackTraces = false) (N : Nat) (v : Nat → Nat → Int32) (hv : p_X6_begins N (fun _ _ => 0) = some v) : jMet V yX6_init (jws yX6_init cX6_init 1 none) ⟨1, 14, 95095, 21⟩ true 15 [.ref 0] [jo_55] (fun o ν => o = none ∧ ν = fX6_init v) (fun _ _ => False) := by
  refine jmk (tb := tbX6) (C := kX6_init) hV rfl (by decide) tbX6_ok rfl kX6_init_ok rfl ?_
  intro X hM _ hp hin
  have hin := hin rfl
  have hB : 16 ≤ jal X := hM.2.2.2.2.2.2.2.2.1
  show JW X 0 0 0 [some (.ref 0)] [] [jo_55]
  refine JW.r hM 0 1 (pc2 := 1) (L2 := [some (.ref 0)]) (st2 := [.ref 0]) (μ2 := [jo_55]) rfl trivial ?_
  refine js_objInit hM.1 (by rw [hM.2.2.1]; exact oi_X6) (jat hM.2.1 1 rfl) (by rw [hM.2.2.2.2.1]; exact Nat.le_of_ble_eq_true rfl) (by rw [hM.2.2.2.2.1]; exact Nat.le_of_ble_eq_true rfl) ?_
  refine JW.r hM 2 2 (pc2 := 8) (L2 := [some (.ref 0)]) (st2 := [.int (264 : Int32), .ref 0]) (μ2 := [jo_55]) rfl trivial ?_
  refine js_newi (N := 264) hM.1 ac_int (by decide) rfl (by decide) (Nat.lt_of_lt_of_le (show 1 < 16 from by decide) hB) (by rw [hM.2.2.2.2.2.1]; exact Nat.le_of_ble_eq_true rfl) (by rw [hM.2.2.2.2.2.2.1]; exact Nat.le_of_ble_eq_true rfl) (jat hM.2.1 4 rfl) ?_
  show JW X 1 264 10 [some (.ref 0)] [.ref 1, .ref 0] [jo_55, jai 0 264]
  refine js_putF (v := 1) (a := 0) (ci := 6) (s := 0) hM.1 hin (by rw [hM.2.2.2.1.1]; decide) rfl (by decide) (jat hM.2.1 5 rfl) ?_
  show JW X 1 264 13 [some (.ref 0)] [] [jo_56, jai 0 264]
  refine JW.r hM 6 2 (pc2 := 17) (L2 := [some (.ref 0)]) (st2 := [.int (264 : Int32), .ref 0]) (μ2 := [jo_56, jai 0 264]) rfl trivial ?_
  exact m_X6_init_s0 N v hv hM hp hin

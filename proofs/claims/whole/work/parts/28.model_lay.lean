def hMo (G : Nat → Nat → Int32) (J : Nat → Nat → Int64) : jH := [.inr (.inr (.inl (6, [.ref 1, .ref 2, .ref 3, .ref 4, .ref 5, .int (G 0 5), .ref 6, .int (G 0 7), .int (G 0 8), .int (G 0 9), .int (G 0 10), .int (G 0 11), .int (G 0 12), .int (G 0 13), .int (G 0 14), .int (G 0 15), .int (G 0 16), .ref 7, .int (G 0 18), .ref 8, .ref 9, .ref 10, .ref 11, .int (G 0 23), .int (G 0 24), .int (G 0 25), .ref 12, .ref 13, .ref 14]))), .inl (0, 264, G 1), .inl (0, 264, G 2), .inl (0, 264, G 3), .inl (0, 792, G 4), .inl (3, 3, G 5), .inl (0, 900, G 6), .inl (0, 264, G 7), .inl (0, 10, G 8), .inl (0, 79872, G 9), .inl (0, 12288, G 10), .inl (0, 6, G 11), .inl (0, 4, G 12), .inl (0, 4, G 13), .inr (.inl (160, J 14))]
def hA264 (G : Nat → Nat → Int32) : jH := [.inl (0, 264, G 0)]
def hB264 (G : Nat → Nat → Int32) : jH := [.inl (0, 264, G 0), .inl (0, 264, G 1)]
theorem sb_Mo_E_ (G : Nat → Nat → Int32) (J : Nat → Nat → Int64) : jsub [] hE (hMo G J) := rfl
theorem bk_Mo_E_ (G : Nat → Nat → Int32) (J : Nat → Nat → Int64) : jback [] hE (hMo G J) = (hMo G J) := (jback_eq rfl (Nat.le_of_ble_eq_true rfl)).trans rfl
theorem bi_Mo_E_ (G : Nat → Nat → Int32) (J : Nat → Nat → Int64) : jback [] hE (hMo G J) = (hMo G J) := (jback_eq rfl (Nat.le_of_ble_eq_true rfl)).trans rfl
theorem sb_Mo_Mo_0 (G : Nat → Nat → Int32) (J : Nat → Nat → Int64) : jsub [0, 1, 2, 3, 4, 5, 6, 7, 8, 9, 10, 11, 12, 13, 14] (hMo G J) (hMo G J) := rfl
theorem bk_Mo_Mo_0 (G : Nat → Nat → Int32) (J : Nat → Nat → Int64) (G2 : Nat → Nat → Int32) (J2 : Nat → Nat → Int64) : jback [0, 1, 2, 3, 4, 5, 6, 7, 8, 9, 10, 11, 12, 13, 14] (hMo G2 J2) (hMo G J) = (hMo G2 J2) := (jback_eq rfl (Nat.le_of_ble_eq_true rfl)).trans rfl
theorem bi_Mo_Mo_0 (G : Nat → Nat → Int32) (J : Nat → Nat → Int64) : jback [0, 1, 2, 3, 4, 5, 6, 7, 8, 9, 10, 11, 12, 13, 14] (hMo G J) (hMo G J) = (hMo G J) := (jback_eq rfl (Nat.le_of_ble_eq_true rfl)).trans rfl
theorem sb_Mo_A264_2 (G : Nat → Nat → Int32) (J : Nat → Nat → Int64) : jsub [2] (hA264 (jvw G 2)) (hMo G J) := rfl
theorem bk_Mo_A264_2 (G : Nat → Nat → Int32) (J : Nat → Nat → Int64) (G2 : Nat → Nat → Int32) : jback [2] (hA264 G2) (hMo G J) = (hMo (jpt G 2 1 G2) J) := (jback_eq rfl (Nat.le_of_ble_eq_true rfl)).trans rfl
theorem bi_Mo_A264_2 (G : Nat → Nat → Int32) (J : Nat → Nat → Int64) : jback [2] (hA264 (jvw G 2)) (hMo G J) = (hMo G J) := (jback_eq rfl (Nat.le_of_ble_eq_true rfl)).trans rfl
theorem sb_Mo_B264_2_1 (G : Nat → Nat → Int32) (J : Nat → Nat → Int64) : jsub [2, 1] (hB264 (jv2 G 2 1 1)) (hMo G J) := rfl
theorem bk_Mo_B264_2_1 (G : Nat → Nat → Int32) (J : Nat → Nat → Int64) (G2 : Nat → Nat → Int32) : jback [2, 1] (hB264 G2) (hMo G J) = (hMo (jp2 G 2 1 1 1 G2) J) := (jback_eq rfl (Nat.le_of_ble_eq_true rfl)).trans rfl
theorem bi_Mo_B264_2_1 (G : Nat → Nat → Int32) (J : Nat → Nat → Int64) : jback [2, 1] (hB264 (jv2 G 2 1 1)) (hMo G J) = (hMo G J) := (jback_eq rfl (Nat.le_of_ble_eq_true rfl)).trans rfl
theorem sb_Mo_B264_1_3 (G : Nat → Nat → Int32) (J : Nat → Nat → Int64) : jsub [1, 3] (hB264 (jv2 G 1 1 3)) (hMo G J) := rfl
theorem bk_Mo_B264_1_3 (G : Nat → Nat → Int32) (J : Nat → Nat → Int64) (G2 : Nat → Nat → Int32) : jback [1, 3] (hB264 G2) (hMo G J) = (hMo (jp2 G 1 1 3 1 G2) J) := (jback_eq rfl (Nat.le_of_ble_eq_true rfl)).trans rfl
theorem bi_Mo_B264_1_3 (G : Nat → Nat → Int32) (J : Nat → Nat → Int64) : jback [1, 3] (hB264 (jv2 G 1 1 3)) (hMo G J) = (hMo G J) := (jback_eq rfl (Nat.le_of_ble_eq_true rfl)).trans rfl
theorem sb_Mo_B264_3_1 (G : Nat → Nat → Int32) (J : Nat → Nat → Int64) : jsub [3, 1] (hB264 (jv2 G 3 1 1)) (hMo G J) := rfl
theorem bk_Mo_B264_3_1 (G : Nat → Nat → Int32) (J : Nat → Nat → Int64) (G2 : Nat → Nat → Int32) : jback [3, 1] (hB264 G2) (hMo G J) = (hMo (jp2 G 3 1 1 1 G2) J) := (jback_eq rfl (Nat.le_of_ble_eq_true rfl)).trans rfl
theorem bi_Mo_B264_3_1 (G : Nat → Nat → Int32) (J : Nat → Nat → Int64) : jback [3, 1] (hB264 (jv2 G 3 1 1)) (hMo G J) = (hMo G J) := (jback_eq rfl (Nat.le_of_ble_eq_true rfl)).trans rfl
theorem sb_E_E_ : jsub [] hE hE := rfl
theorem bk_E_E_ : jback [] hE hE = hE := (jback_eq rfl (Nat.le_of_ble_eq_true rfl)).trans rfl
theorem bi_E_E_ : jback [] hE hE = hE := (jback_eq rfl (Nat.le_of_ble_eq_true rfl)).trans rfl
theorem sb_Mo_B264_1_7 (G : Nat → Nat → Int32) (J : Nat → Nat → Int64) : jsub [1, 7] (hB264 (jv2 G 1 1 7)) (hMo G J) := rfl
theorem bk_Mo_B264_1_7 (G : Nat → Nat → Int32) (J : Nat → Nat → Int64) (G2 : Nat → Nat → Int32) : jback [1, 7] (hB264 G2) (hMo G J) = (hMo (jp2 G 1 1 7 1 G2) J) := (jback_eq rfl (Nat.le_of_ble_eq_true rfl)).trans rfl
theorem bi_Mo_B264_1_7 (G : Nat → Nat → Int32) (J : Nat → Nat → Int64) : jback [1, 7] (hB264 (jv2 G 1 1 7)) (hMo G J) = (hMo G J) := (jback_eq rfl (Nat.le_of_ble_eq_true rfl)).trans rfl
theorem sb_Mo_B264_7_1 (G : Nat → Nat → Int32) (J : Nat → Nat → Int64) : jsub [7, 1] (hB264 (jv2 G 7 1 1)) (hMo G J) := rfl
theorem bk_Mo_B264_7_1 (G : Nat → Nat → Int32) (J : Nat → Nat → Int64) (G2 : Nat → Nat → Int32) : jback [7, 1] (hB264 G2) (hMo G J) = (hMo (jp2 G 7 1 1 1 G2) J) := (jback_eq rfl (Nat.le_of_ble_eq_true rfl)).trans rfl
theorem bi_Mo_B264_7_1 (G : Nat → Nat → Int32) (J : Nat → Nat → Int64) : jback [7, 1] (hB264 (jv2 G 7 1 1)) (hMo G J) = (hMo G J) := (jback_eq rfl (Nat.le_of_ble_eq_true rfl)).trans rfl

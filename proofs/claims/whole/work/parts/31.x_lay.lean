def hTT (G : Nat → Nat → Int32) (J : Nat → Nat → Int64) : jH := [.inr (.inr (.inl (3, [.int (G 0 0), .int (G 0 1), .int (G 0 2), .int (G 0 3), .int (G 0 4), .int (G 0 5), .int (G 0 6), .int (G 0 7), .int (G 0 8), .ref 1, .ref 2, .ref 3, .ref 4, .ref 5, .ref 6, .ref 7, .ref 8]))), .inl (0, 6, G 1), .inl (0, 10, G 2), .inl (0, 60, G 3), .inl (0, 30, G 4), .inl (0, 30, G 5), .inl (0, 30, G 6), .inl (0, 30, G 7), .inl (0, 30, G 8), .inr (.inr (.inl (4, [.int (G 9 0), .int (G 9 1), .ref 10, .int (G 9 3)]))), .inr (.inl (40, J 10))]
def hX (G : Nat → Nat → Int32) (J : Nat → Nat → Int64) : jH := [.inr (.inr (.inl (5, [.ref 1, .ref 10, .ref 19, .ref 20, .ref 21, .ref 22, .ref 24]))), .inr (.inr (.inl (3, [.int (G 1 0), .int (G 1 1), .int (G 1 2), .int (G 1 3), .int (G 1 4), .int (G 1 5), .int (G 1 6), .int (G 1 7), .int (G 1 8), .ref 2, .ref 3, .ref 4, .ref 5, .ref 6, .ref 7, .ref 8, .ref 9]))), .inl (0, 6, G 2), .inl (0, 10, G 3), .inl (0, 60, G 4), .inl (0, 30, G 5), .inl (0, 30, G 6), .inl (0, 30, G 7), .inl (0, 30, G 8), .inl (0, 30, G 9), .inr (.inr (.inl (3, [.int (G 10 0), .int (G 10 1), .int (G 10 2), .int (G 10 3), .int (G 10 4), .int (G 10 5), .int (G 10 6), .int (G 10 7), .int (G 10 8), .ref 11, .ref 12, .ref 13, .ref 14, .ref 15, .ref 16, .ref 17, .ref 18]))), .inl (0, 6, G 11), .inl (0, 10, G 12), .inl (0, 60, G 13), .inl (0, 30, G 14), .inl (0, 30, G 15), .inl (0, 30, G 16), .inl (0, 30, G 17), .inl (0, 30, G 18), .inr (.inr (.inr (4, [some 35, some 44, some 53]))), .inl (3, 3, G 20), .inr (.inr (.inr (5, [some 62, some 64, some 66, some 68]))), .inr (.inr (.inl (2, [.int (G 22 0), .int (G 22 1), .int (G 22 2), .ref 23, .int (G 22 4), .int (G 22 5), .int (G 22 6), .int (G 22 7), .int (G 22 8), .int (G 22 9)]))), .inl (2, 900, G 23), .inr (.inr (.inl (1, [.int (G 24 0), .int (G 24 1), .int (G 24 2), .int (G 24 3), .int (G 24 4), .ref 25, .ref 26, .ref 27, .ref 28, .ref 29, .ref 30, .ref 31, .ref 32, .ref 33, .ref 34]))), .inl (0, 10, G 25), .inl (0, 10, G 26), .inl (0, 60, G 27), .inl (0, 6, G 28), .inl (0, 60, G 29), .inl (0, 60, G 30), .inl (0, 6144, G 31), .inl (0, 1024, G 32), .inr (.inl (1024, J 33)), .inl (0, 12, G 34), .inr (.inr (.inl (3, [.int (G 35 0), .int (G 35 1), .int (G 35 2), .int (G 35 3), .int (G 35 4), .int (G 35 5), .int (G 35 6), .int (G 35 7), .int (G 35 8), .ref 36, .ref 37, .ref 38, .ref 39, .ref 40, .ref 41, .ref 42, .ref 43]))), .inl (0, 6, G 36), .inl (0, 10, G 37), .inl (0, 60, G 38), .inl (0, 30, G 39), .inl (0, 30, G 40), .inl (0, 30, G 41), .inl (0, 30, G 42), .inl (0, 30, G 43), .inr (.inr (.inl (3, [.int (G 44 0), .int (G 44 1), .int (G 44 2), .int (G 44 3), .int (G 44 4), .int (G 44 5), .int (G 44 6), .int (G 44 7), .int (G 44 8), .ref 45, .ref 46, .ref 47, .ref 48, .ref 49, .ref 50, .ref 51, .ref 52]))), .inl (0, 6, G 45), .inl (0, 10, G 46), .inl (0, 60, G 47), .inl (0, 30, G 48), .inl (0, 30, G 49), .inl (0, 30, G 50), .inl (0, 30, G 51), .inl (0, 30, G 52), .inr (.inr (.inl (3, [.int (G 53 0), .int (G 53 1), .int (G 53 2), .int (G 53 3), .int (G 53 4), .int (G 53 5), .int (G 53 6), .int (G 53 7), .int (G 53 8), .ref 54, .ref 55, .ref 56, .ref 57, .ref 58, .ref 59, .ref 60, .ref 61]))), .inl (0, 6, G 54), .inl (0, 10, G 55), .inl (0, 60, G 56), .inl (0, 30, G 57), .inl (0, 30, G 58), .inl (0, 30, G 59), .inl (0, 30, G 60), .inl (0, 30, G 61), .inr (.inr (.inl (4, [.int (G 62 0), .int (G 62 1), .ref 63, .int (G 62 3)]))), .inr (.inl (40, J 63)), .inr (.inr (.inl (4, [.int (G 64 0), .int (G 64 1), .ref 65, .int (G 64 3)]))), .inr (.inl (40, J 65)), .inr (.inr (.inl (4, [.int (G 66 0), .int (G 66 1), .ref 67, .int (G 66 3)]))), .inr (.inl (40, J 67)), .inr (.inr (.inl (4, [.int (G 68 0), .int (G 68 1), .ref 69, .int (G 68 3)]))), .inr (.inl (40, J 69))]
set_option maxRecDepth 100000 in
theorem sb_X_Rd_22 (G : Nat → Nat → Int32) (J : Nat → Nat → Int64) : jsub [22, 23] (hRd (jvw G 22)) (hX G J) := rfl
set_option maxRecDepth 100000 in
theorem bk_X_Rd_22 (G : Nat → Nat → Int32) (J : Nat → Nat → Int64) (G2 : Nat → Nat → Int32) : jback [22, 23] (hRd G2) (hX G J) = (hX (jpt G 22 2 G2) J) := (jback_eq rfl (Nat.le_of_ble_eq_true rfl)).trans rfl
set_option maxRecDepth 100000 in
theorem bi_X_Rd_22 (G : Nat → Nat → Int32) (J : Nat → Nat → Int64) : jback [22, 23] (hRd (jvw G 22)) (hX G J) = (hX G J) := (jback_eq rfl (Nat.le_of_ble_eq_true rfl)).trans rfl
set_option maxRecDepth 100000 in
theorem sb_X_RT_22_10 (G : Nat → Nat → Int32) (J : Nat → Nat → Int64) : jsub [22, 23, 10, 11, 12, 13, 14, 15, 16, 17, 18] (hRT (jv2 G 22 2 10)) (hX G J) := rfl
set_option maxRecDepth 100000 in
theorem bk_X_RT_22_10 (G : Nat → Nat → Int32) (J : Nat → Nat → Int64) (G2 : Nat → Nat → Int32) : jback [22, 23, 10, 11, 12, 13, 14, 15, 16, 17, 18] (hRT G2) (hX G J) = (hX (jp2 G 22 2 10 9 G2) J) := (jback_eq rfl (Nat.le_of_ble_eq_true rfl)).trans rfl
set_option maxRecDepth 100000 in
theorem bi_X_RT_22_10 (G : Nat → Nat → Int32) (J : Nat → Nat → Int64) : jback [22, 23, 10, 11, 12, 13, 14, 15, 16, 17, 18] (hRT (jv2 G 22 2 10)) (hX G J) = (hX G J) := (jback_eq rfl (Nat.le_of_ble_eq_true rfl)).trans rfl
set_option maxRecDepth 100000 in
theorem sb_X_T2_1_10 (G : Nat → Nat → Int32) (J : Nat → Nat → Int64) : jsub [1, 2, 3, 4, 5, 6, 7, 8, 9, 10, 11, 12, 13, 14, 15, 16, 17, 18] (hT2 (jv2 G 1 9 10)) (hX G J) := rfl
set_option maxRecDepth 100000 in
theorem bk_X_T2_1_10 (G : Nat → Nat → Int32) (J : Nat → Nat → Int64) (G2 : Nat → Nat → Int32) : jback [1, 2, 3, 4, 5, 6, 7, 8, 9, 10, 11, 12, 13, 14, 15, 16, 17, 18] (hT2 G2) (hX G J) = (hX (jp2 G 1 9 10 9 G2) J) := (jback_eq rfl (Nat.le_of_ble_eq_true rfl)).trans rfl
set_option maxRecDepth 100000 in
theorem bi_X_T2_1_10 (G : Nat → Nat → Int32) (J : Nat → Nat → Int64) : jback [1, 2, 3, 4, 5, 6, 7, 8, 9, 10, 11, 12, 13, 14, 15, 16, 17, 18] (hT2 (jv2 G 1 9 10)) (hX G J) = (hX G J) := (jback_eq rfl (Nat.le_of_ble_eq_true rfl)).trans rfl
set_option maxRecDepth 100000 in
theorem sb_X_Town_1 (G : Nat → Nat → Int32) (J : Nat → Nat → Int64) : jsub [1, 2, 3, 4, 5, 6, 7, 8, 9] (hTown (jvw G 1)) (hX G J) := rfl
set_option maxRecDepth 100000 in
theorem bk_X_Town_1 (G : Nat → Nat → Int32) (J : Nat → Nat → Int64) (G2 : Nat → Nat → Int32) : jback [1, 2, 3, 4, 5, 6, 7, 8, 9] (hTown G2) (hX G J) = (hX (jpt G 1 9 G2) J) := (jback_eq rfl (Nat.le_of_ble_eq_true rfl)).trans rfl
set_option maxRecDepth 100000 in
theorem bi_X_Town_1 (G : Nat → Nat → Int32) (J : Nat → Nat → Int64) : jback [1, 2, 3, 4, 5, 6, 7, 8, 9] (hTown (jvw G 1)) (hX G J) = (hX G J) := (jback_eq rfl (Nat.le_of_ble_eq_true rfl)).trans rfl
set_option maxRecDepth 100000 in
theorem sb_X_X_0 (G : Nat → Nat → Int32) (J : Nat → Nat → Int64) : jsub [0, 1, 2, 3, 4, 5, 6, 7, 8, 9, 10, 11, 12, 13, 14, 15, 16, 17, 18, 19, 20, 21, 22, 23, 24, 25, 26, 27, 28, 29, 30, 31, 32, 33, 34, 35, 36, 37, 38, 39, 40, 41, 42, 43, 44, 45, 46, 47, 48, 49, 50, 51, 52, 53, 54, 55, 56, 57, 58, 59, 60, 61, 62, 63, 64, 65, 66, 67, 68, 69] (hX G J) (hX G J) := rfl
set_option maxRecDepth 100000 in
theorem bk_X_X_0 (G : Nat → Nat → Int32) (J : Nat → Nat → Int64) (G2 : Nat → Nat → Int32) (J2 : Nat → Nat → Int64) : jback [0, 1, 2, 3, 4, 5, 6, 7, 8, 9, 10, 11, 12, 13, 14, 15, 16, 17, 18, 19, 20, 21, 22, 23, 24, 25, 26, 27, 28, 29, 30, 31, 32, 33, 34, 35, 36, 37, 38, 39, 40, 41, 42, 43, 44, 45, 46, 47, 48, 49, 50, 51, 52, 53, 54, 55, 56, 57, 58, 59, 60, 61, 62, 63, 64, 65, 66, 67, 68, 69] (hX G2 J2) (hX G J) = (hX G2 J2) := (jback_eq rfl (Nat.le_of_ble_eq_true rfl)).trans rfl
set_option maxRecDepth 100000 in
theorem bi_X_X_0 (G : Nat → Nat → Int32) (J : Nat → Nat → Int64) : jback [0, 1, 2, 3, 4, 5, 6, 7, 8, 9, 10, 11, 12, 13, 14, 15, 16, 17, 18, 19, 20, 21, 22, 23, 24, 25, 26, 27, 28, 29, 30, 31, 32, 33, 34, 35, 36, 37, 38, 39, 40, 41, 42, 43, 44, 45, 46, 47, 48, 49, 50, 51, 52, 53, 54, 55, 56, 57, 58, 59, 60, 61, 62, 63, 64, 65, 66, 67, 68, 69] (hX G J) (hX G J) = (hX G J) := (jback_eq rfl (Nat.le_of_ble_eq_true rfl)).trans rfl
set_option maxRecDepth 100000 in
theorem sb_X_E_ (G : Nat → Nat → Int32) (J : Nat → Nat → Int64) : jsub [] hE (hX G J) := rfl
set_option maxRecDepth 100000 in
theorem bk_X_E_ (G : Nat → Nat → Int32) (J : Nat → Nat → Int64) : jback [] hE (hX G J) = (hX G J) := (jback_eq rfl (Nat.le_of_ble_eq_true rfl)).trans rfl
set_option maxRecDepth 100000 in
theorem bi_X_E_ (G : Nat → Nat → Int32) (J : Nat → Nat → Int64) : jback [] hE (hX G J) = (hX G J) := (jback_eq rfl (Nat.le_of_ble_eq_true rfl)).trans rfl
set_option maxRecDepth 100000 in
theorem sb_TT_Town_0 (G : Nat → Nat → Int32) (J : Nat → Nat → Int64) : jsub [0, 1, 2, 3, 4, 5, 6, 7, 8] (hTown (jvw G 0)) (hTT G J) := rfl
set_option maxRecDepth 100000 in
theorem bk_TT_Town_0 (G : Nat → Nat → Int32) (J : Nat → Nat → Int64) (G2 : Nat → Nat → Int32) : jback [0, 1, 2, 3, 4, 5, 6, 7, 8] (hTown G2) (hTT G J) = (hTT (jpt G 0 9 G2) J) := (jback_eq rfl (Nat.le_of_ble_eq_true rfl)).trans rfl
set_option maxRecDepth 100000 in
theorem bi_TT_Town_0 (G : Nat → Nat → Int32) (J : Nat → Nat → Int64) : jback [0, 1, 2, 3, 4, 5, 6, 7, 8] (hTown (jvw G 0)) (hTT G J) = (hTT G J) := (jback_eq rfl (Nat.le_of_ble_eq_true rfl)).trans rfl
set_option maxRecDepth 100000 in
theorem sb_X_T2_10_1 (G : Nat → Nat → Int32) (J : Nat → Nat → Int64) : jsub [10, 11, 12, 13, 14, 15, 16, 17, 18, 1, 2, 3, 4, 5, 6, 7, 8, 9] (hT2 (jv2 G 10 9 1)) (hX G J) := rfl
set_option maxRecDepth 100000 in
theorem bk_X_T2_10_1 (G : Nat → Nat → Int32) (J : Nat → Nat → Int64) (G2 : Nat → Nat → Int32) : jback [10, 11, 12, 13, 14, 15, 16, 17, 18, 1, 2, 3, 4, 5, 6, 7, 8, 9] (hT2 G2) (hX G J) = (hX (jp2 G 10 9 1 9 G2) J) := (jback_eq rfl (Nat.le_of_ble_eq_true rfl)).trans rfl
set_option maxRecDepth 100000 in
theorem bi_X_T2_10_1 (G : Nat → Nat → Int32) (J : Nat → Nat → Int64) : jback [10, 11, 12, 13, 14, 15, 16, 17, 18, 1, 2, 3, 4, 5, 6, 7, 8, 9] (hT2 (jv2 G 10 9 1)) (hX G J) = (hX G J) := (jback_eq rfl (Nat.le_of_ble_eq_true rfl)).trans rfl
set_option maxRecDepth 100000 in
theorem sb_X_TT_10_62 (G : Nat → Nat → Int32) (J : Nat → Nat → Int64) : jsub [10, 11, 12, 13, 14, 15, 16, 17, 18, 62, 63] (hTT (jv2 G 10 9 62) (jv2 J 10 9 62)) (hX G J) := rfl
set_option maxRecDepth 100000 in
theorem bk_X_TT_10_62 (G : Nat → Nat → Int32) (J : Nat → Nat → Int64) (G2 : Nat → Nat → Int32) (J2 : Nat → Nat → Int64) : jback [10, 11, 12, 13, 14, 15, 16, 17, 18, 62, 63] (hTT G2 J2) (hX G J) = (hX (jp2 G 10 9 62 2 G2) (jp2 J 10 9 62 2 J2)) := (jback_eq rfl (Nat.le_of_ble_eq_true rfl)).trans rfl
set_option maxRecDepth 100000 in
theorem bi_X_TT_10_62 (G : Nat → Nat → Int32) (J : Nat → Nat → Int64) : jback [10, 11, 12, 13, 14, 15, 16, 17, 18, 62, 63] (hTT (jv2 G 10 9 62) (jv2 J 10 9 62)) (hX G J) = (hX G J) := (jback_eq rfl (Nat.le_of_ble_eq_true rfl)).trans rfl
set_option maxRecDepth 100000 in
theorem sb_X_Town_10 (G : Nat → Nat → Int32) (J : Nat → Nat → Int64) : jsub [10, 11, 12, 13, 14, 15, 16, 17, 18] (hTown (jvw G 10)) (hX G J) := rfl
set_option maxRecDepth 100000 in
theorem bk_X_Town_10 (G : Nat → Nat → Int32) (J : Nat → Nat → Int64) (G2 : Nat → Nat → Int32) : jback [10, 11, 12, 13, 14, 15, 16, 17, 18] (hTown G2) (hX G J) = (hX (jpt G 10 9 G2) J) := (jback_eq rfl (Nat.le_of_ble_eq_true rfl)).trans rfl
set_option maxRecDepth 100000 in
theorem bi_X_Town_10 (G : Nat → Nat → Int32) (J : Nat → Nat → Int64) : jback [10, 11, 12, 13, 14, 15, 16, 17, 18] (hTown (jvw G 10)) (hX G J) = (hX G J) := (jback_eq rfl (Nat.le_of_ble_eq_true rfl)).trans rfl
set_option maxRecDepth 100000 in
theorem sb_X_TT_10_64 (G : Nat → Nat → Int32) (J : Nat → Nat → Int64) : jsub [10, 11, 12, 13, 14, 15, 16, 17, 18, 64, 65] (hTT (jv2 G 10 9 64) (jv2 J 10 9 64)) (hX G J) := rfl
set_option maxRecDepth 100000 in
theorem bk_X_TT_10_64 (G : Nat → Nat → Int32) (J : Nat → Nat → Int64) (G2 : Nat → Nat → Int32) (J2 : Nat → Nat → Int64) : jback [10, 11, 12, 13, 14, 15, 16, 17, 18, 64, 65] (hTT G2 J2) (hX G J) = (hX (jp2 G 10 9 64 2 G2) (jp2 J 10 9 64 2 J2)) := (jback_eq rfl (Nat.le_of_ble_eq_true rfl)).trans rfl
set_option maxRecDepth 100000 in
theorem bi_X_TT_10_64 (G : Nat → Nat → Int32) (J : Nat → Nat → Int64) : jback [10, 11, 12, 13, 14, 15, 16, 17, 18, 64, 65] (hTT (jv2 G 10 9 64) (jv2 J 10 9 64)) (hX G J) = (hX G J) := (jback_eq rfl (Nat.le_of_ble_eq_true rfl)).trans rfl
set_option maxRecDepth 100000 in
theorem sb_X_TT_10_66 (G : Nat → Nat → Int32) (J : Nat → Nat → Int64) : jsub [10, 11, 12, 13, 14, 15, 16, 17, 18, 66, 67] (hTT (jv2 G 10 9 66) (jv2 J 10 9 66)) (hX G J) := rfl
set_option maxRecDepth 100000 in
theorem bk_X_TT_10_66 (G : Nat → Nat → Int32) (J : Nat → Nat → Int64) (G2 : Nat → Nat → Int32) (J2 : Nat → Nat → Int64) : jback [10, 11, 12, 13, 14, 15, 16, 17, 18, 66, 67] (hTT G2 J2) (hX G J) = (hX (jp2 G 10 9 66 2 G2) (jp2 J 10 9 66 2 J2)) := (jback_eq rfl (Nat.le_of_ble_eq_true rfl)).trans rfl
set_option maxRecDepth 100000 in
theorem bi_X_TT_10_66 (G : Nat → Nat → Int32) (J : Nat → Nat → Int64) : jback [10, 11, 12, 13, 14, 15, 16, 17, 18, 66, 67] (hTT (jv2 G 10 9 66) (jv2 J 10 9 66)) (hX G J) = (hX G J) := (jback_eq rfl (Nat.le_of_ble_eq_true rfl)).trans rfl
set_option maxRecDepth 100000 in
theorem sb_X_TT_10_68 (G : Nat → Nat → Int32) (J : Nat → Nat → Int64) : jsub [10, 11, 12, 13, 14, 15, 16, 17, 18, 68, 69] (hTT (jv2 G 10 9 68) (jv2 J 10 9 68)) (hX G J) := rfl
set_option maxRecDepth 100000 in
theorem bk_X_TT_10_68 (G : Nat → Nat → Int32) (J : Nat → Nat → Int64) (G2 : Nat → Nat → Int32) (J2 : Nat → Nat → Int64) : jback [10, 11, 12, 13, 14, 15, 16, 17, 18, 68, 69] (hTT G2 J2) (hX G J) = (hX (jp2 G 10 9 68 2 G2) (jp2 J 10 9 68 2 J2)) := (jback_eq rfl (Nat.le_of_ble_eq_true rfl)).trans rfl
set_option maxRecDepth 100000 in
theorem bi_X_TT_10_68 (G : Nat → Nat → Int32) (J : Nat → Nat → Int64) : jback [10, 11, 12, 13, 14, 15, 16, 17, 18, 68, 69] (hTT (jv2 G 10 9 68) (jv2 J 10 9 68)) (hX G J) = (hX G J) := (jback_eq rfl (Nat.le_of_ble_eq_true rfl)).trans rfl
set_option maxRecDepth 100000 in
theorem sb_X_TT_1_62 (G : Nat → Nat → Int32) (J : Nat → Nat → Int64) : jsub [1, 2, 3, 4, 5, 6, 7, 8, 9, 62, 63] (hTT (jv2 G 1 9 62) (jv2 J 1 9 62)) (hX G J) := rfl
set_option maxRecDepth 100000 in
theorem bk_X_TT_1_62 (G : Nat → Nat → Int32) (J : Nat → Nat → Int64) (G2 : Nat → Nat → Int32) (J2 : Nat → Nat → Int64) : jback [1, 2, 3, 4, 5, 6, 7, 8, 9, 62, 63] (hTT G2 J2) (hX G J) = (hX (jp2 G 1 9 62 2 G2) (jp2 J 1 9 62 2 J2)) := (jback_eq rfl (Nat.le_of_ble_eq_true rfl)).trans rfl
set_option maxRecDepth 100000 in
theorem bi_X_TT_1_62 (G : Nat → Nat → Int32) (J : Nat → Nat → Int64) : jback [1, 2, 3, 4, 5, 6, 7, 8, 9, 62, 63] (hTT (jv2 G 1 9 62) (jv2 J 1 9 62)) (hX G J) = (hX G J) := (jback_eq rfl (Nat.le_of_ble_eq_true rfl)).trans rfl
set_option maxRecDepth 100000 in
theorem sb_X_TT_1_64 (G : Nat → Nat → Int32) (J : Nat → Nat → Int64) : jsub [1, 2, 3, 4, 5, 6, 7, 8, 9, 64, 65] (hTT (jv2 G 1 9 64) (jv2 J 1 9 64)) (hX G J) := rfl
set_option maxRecDepth 100000 in
theorem bk_X_TT_1_64 (G : Nat → Nat → Int32) (J : Nat → Nat → Int64) (G2 : Nat → Nat → Int32) (J2 : Nat → Nat → Int64) : jback [1, 2, 3, 4, 5, 6, 7, 8, 9, 64, 65] (hTT G2 J2) (hX G J) = (hX (jp2 G 1 9 64 2 G2) (jp2 J 1 9 64 2 J2)) := (jback_eq rfl (Nat.le_of_ble_eq_true rfl)).trans rfl
set_option maxRecDepth 100000 in
theorem bi_X_TT_1_64 (G : Nat → Nat → Int32) (J : Nat → Nat → Int64) : jback [1, 2, 3, 4, 5, 6, 7, 8, 9, 64, 65] (hTT (jv2 G 1 9 64) (jv2 J 1 9 64)) (hX G J) = (hX G J) := (jback_eq rfl (Nat.le_of_ble_eq_true rfl)).trans rfl
set_option maxRecDepth 100000 in
theorem sb_X_TT_1_66 (G : Nat → Nat → Int32) (J : Nat → Nat → Int64) : jsub [1, 2, 3, 4, 5, 6, 7, 8, 9, 66, 67] (hTT (jv2 G 1 9 66) (jv2 J 1 9 66)) (hX G J) := rfl
set_option maxRecDepth 100000 in
theorem bk_X_TT_1_66 (G : Nat → Nat → Int32) (J : Nat → Nat → Int64) (G2 : Nat → Nat → Int32) (J2 : Nat → Nat → Int64) : jback [1, 2, 3, 4, 5, 6, 7, 8, 9, 66, 67] (hTT G2 J2) (hX G J) = (hX (jp2 G 1 9 66 2 G2) (jp2 J 1 9 66 2 J2)) := (jback_eq rfl (Nat.le_of_ble_eq_true rfl)).trans rfl
set_option maxRecDepth 100000 in
theorem bi_X_TT_1_66 (G : Nat → Nat → Int32) (J : Nat → Nat → Int64) : jback [1, 2, 3, 4, 5, 6, 7, 8, 9, 66, 67] (hTT (jv2 G 1 9 66) (jv2 J 1 9 66)) (hX G J) = (hX G J) := (jback_eq rfl (Nat.le_of_ble_eq_true rfl)).trans rfl
set_option maxRecDepth 100000 in
theorem sb_X_TT_1_68 (G : Nat → Nat → Int32) (J : Nat → Nat → Int64) : jsub [1, 2, 3, 4, 5, 6, 7, 8, 9, 68, 69] (hTT (jv2 G 1 9 68) (jv2 J 1 9 68)) (hX G J) := rfl
set_option maxRecDepth 100000 in
theorem bk_X_TT_1_68 (G : Nat → Nat → Int32) (J : Nat → Nat → Int64) (G2 : Nat → Nat → Int32) (J2 : Nat → Nat → Int64) : jback [1, 2, 3, 4, 5, 6, 7, 8, 9, 68, 69] (hTT G2 J2) (hX G J) = (hX (jp2 G 1 9 68 2 G2) (jp2 J 1 9 68 2 J2)) := (jback_eq rfl (Nat.le_of_ble_eq_true rfl)).trans rfl
set_option maxRecDepth 100000 in
theorem bi_X_TT_1_68 (G : Nat → Nat → Int32) (J : Nat → Nat → Int64) : jback [1, 2, 3, 4, 5, 6, 7, 8, 9, 68, 69] (hTT (jv2 G 1 9 68) (jv2 J 1 9 68)) (hX G J) = (hX G J) := (jback_eq rfl (Nat.le_of_ble_eq_true rfl)).trans rfl
set_option maxRecDepth 100000 in
theorem sb_X_ET_24_1 (G : Nat → Nat → Int32) (J : Nat → Nat → Int64) : jsub [24, 25, 26, 27, 28, 29, 30, 31, 32, 33, 34, 1, 2, 3, 4, 5, 6, 7, 8, 9] (hET (jv2 G 24 11 1) (jv2 J 24 11 1)) (hX G J) := rfl
set_option maxRecDepth 100000 in
theorem bk_X_ET_24_1 (G : Nat → Nat → Int32) (J : Nat → Nat → Int64) (G2 : Nat → Nat → Int32) (J2 : Nat → Nat → Int64) : jback [24, 25, 26, 27, 28, 29, 30, 31, 32, 33, 34, 1, 2, 3, 4, 5, 6, 7, 8, 9] (hET G2 J2) (hX G J) = (hX (jp2 G 24 11 1 9 G2) (jp2 J 24 11 1 9 J2)) := (jback_eq rfl (Nat.le_of_ble_eq_true rfl)).trans rfl
set_option maxRecDepth 100000 in
theorem bi_X_ET_24_1 (G : Nat → Nat → Int32) (J : Nat → Nat → Int64) : jback [24, 25, 26, 27, 28, 29, 30, 31, 32, 33, 34, 1, 2, 3, 4, 5, 6, 7, 8, 9] (hET (jv2 G 24 11 1) (jv2 J 24 11 1)) (hX G J) = (hX G J) := (jback_eq rfl (Nat.le_of_ble_eq_true rfl)).trans rfl
set_option maxRecDepth 100000 in
theorem sb_X_ET_24_10 (G : Nat → Nat → Int32) (J : Nat → Nat → Int64) : jsub [24, 25, 26, 27, 28, 29, 30, 31, 32, 33, 34, 10, 11, 12, 13, 14, 15, 16, 17, 18] (hET (jv2 G 24 11 10) (jv2 J 24 11 10)) (hX G J) := rfl
set_option maxRecDepth 100000 in
theorem bk_X_ET_24_10 (G : Nat → Nat → Int32) (J : Nat → Nat → Int64) (G2 : Nat → Nat → Int32) (J2 : Nat → Nat → Int64) : jback [24, 25, 26, 27, 28, 29, 30, 31, 32, 33, 34, 10, 11, 12, 13, 14, 15, 16, 17, 18] (hET G2 J2) (hX G J) = (hX (jp2 G 24 11 10 9 G2) (jp2 J 24 11 10 9 J2)) := (jback_eq rfl (Nat.le_of_ble_eq_true rfl)).trans rfl
set_option maxRecDepth 100000 in
theorem bi_X_ET_24_10 (G : Nat → Nat → Int32) (J : Nat → Nat → Int64) : jback [24, 25, 26, 27, 28, 29, 30, 31, 32, 33, 34, 10, 11, 12, 13, 14, 15, 16, 17, 18] (hET (jv2 G 24 11 10) (jv2 J 24 11 10)) (hX G J) = (hX G J) := (jback_eq rfl (Nat.le_of_ble_eq_true rfl)).trans rfl
set_option maxRecDepth 100000 in
theorem sb_X_En_24 (G : Nat → Nat → Int32) (J : Nat → Nat → Int64) : jsub [24, 25, 26, 27, 28, 29, 30, 31, 32, 33, 34] (hEn (jvw G 24) (jvw J 24)) (hX G J) := rfl
set_option maxRecDepth 100000 in
theorem bk_X_En_24 (G : Nat → Nat → Int32) (J : Nat → Nat → Int64) (G2 : Nat → Nat → Int32) (J2 : Nat → Nat → Int64) : jback [24, 25, 26, 27, 28, 29, 30, 31, 32, 33, 34] (hEn G2 J2) (hX G J) = (hX (jpt G 24 11 G2) (jpt J 24 11 J2)) := (jback_eq rfl (Nat.le_of_ble_eq_true rfl)).trans rfl
set_option maxRecDepth 100000 in
theorem bi_X_En_24 (G : Nat → Nat → Int32) (J : Nat → Nat → Int64) : jback [24, 25, 26, 27, 28, 29, 30, 31, 32, 33, 34] (hEn (jvw G 24) (jvw J 24)) (hX G J) = (hX G J) := (jback_eq rfl (Nat.le_of_ble_eq_true rfl)).trans rfl
set_option maxRecDepth 100000 in
theorem sb_X_Tray_62 (G : Nat → Nat → Int32) (J : Nat → Nat → Int64) : jsub [62, 63] (hTray (jvw G 62) (jvw J 62)) (hX G J) := rfl
set_option maxRecDepth 100000 in
theorem bk_X_Tray_62 (G : Nat → Nat → Int32) (J : Nat → Nat → Int64) (G2 : Nat → Nat → Int32) (J2 : Nat → Nat → Int64) : jback [62, 63] (hTray G2 J2) (hX G J) = (hX (jpt G 62 2 G2) (jpt J 62 2 J2)) := (jback_eq rfl (Nat.le_of_ble_eq_true rfl)).trans rfl
set_option maxRecDepth 100000 in
theorem bi_X_Tray_62 (G : Nat → Nat → Int32) (J : Nat → Nat → Int64) : jback [62, 63] (hTray (jvw G 62) (jvw J 62)) (hX G J) = (hX G J) := (jback_eq rfl (Nat.le_of_ble_eq_true rfl)).trans rfl
set_option maxRecDepth 100000 in
theorem sb_X_Tray_64 (G : Nat → Nat → Int32) (J : Nat → Nat → Int64) : jsub [64, 65] (hTray (jvw G 64) (jvw J 64)) (hX G J) := rfl
set_option maxRecDepth 100000 in
theorem bk_X_Tray_64 (G : Nat → Nat → Int32) (J : Nat → Nat → Int64) (G2 : Nat → Nat → Int32) (J2 : Nat → Nat → Int64) : jback [64, 65] (hTray G2 J2) (hX G J) = (hX (jpt G 64 2 G2) (jpt J 64 2 J2)) := (jback_eq rfl (Nat.le_of_ble_eq_true rfl)).trans rfl
set_option maxRecDepth 100000 in
theorem bi_X_Tray_64 (G : Nat → Nat → Int32) (J : Nat → Nat → Int64) : jback [64, 65] (hTray (jvw G 64) (jvw J 64)) (hX G J) = (hX G J) := (jback_eq rfl (Nat.le_of_ble_eq_true rfl)).trans rfl
set_option maxRecDepth 100000 in
theorem sb_X_Tray_66 (G : Nat → Nat → Int32) (J : Nat → Nat → Int64) : jsub [66, 67] (hTray (jvw G 66) (jvw J 66)) (hX G J) := rfl
set_option maxRecDepth 100000 in
theorem bk_X_Tray_66 (G : Nat → Nat → Int32) (J : Nat → Nat → Int64) (G2 : Nat → Nat → Int32) (J2 : Nat → Nat → Int64) : jback [66, 67] (hTray G2 J2) (hX G J) = (hX (jpt G 66 2 G2) (jpt J 66 2 J2)) := (jback_eq rfl (Nat.le_of_ble_eq_true rfl)).trans rfl
set_option maxRecDepth 100000 in
theorem bi_X_Tray_66 (G : Nat → Nat → Int32) (J : Nat → Nat → Int64) : jback [66, 67] (hTray (jvw G 66) (jvw J 66)) (hX G J) = (hX G J) := (jback_eq rfl (Nat.le_of_ble_eq_true rfl)).trans rfl
set_option maxRecDepth 100000 in
theorem sb_X_Tray_68 (G : Nat → Nat → Int32) (J : Nat → Nat → Int64) : jsub [68, 69] (hTray (jvw G 68) (jvw J 68)) (hX G J) := rfl
set_option maxRecDepth 100000 in
theorem bk_X_Tray_68 (G : Nat → Nat → Int32) (J : Nat → Nat → Int64) (G2 : Nat → Nat → Int32) (J2 : Nat → Nat → Int64) : jback [68, 69] (hTray G2 J2) (hX G J) = (hX (jpt G 68 2 G2) (jpt J 68 2 J2)) := (jback_eq rfl (Nat.le_of_ble_eq_true rfl)).trans rfl
set_option maxRecDepth 100000 in
theorem bi_X_Tray_68 (G : Nat → Nat → Int32) (J : Nat → Nat → Int64) : jback [68, 69] (hTray (jvw G 68) (jvw J 68)) (hX G J) = (hX G J) := (jback_eq rfl (Nat.le_of_ble_eq_true rfl)).trans rfl
set_option maxRecDepth 100000 in
theorem sb_X_T2_35_1 (G : Nat → Nat → Int32) (J : Nat → Nat → Int64) : jsub [35, 36, 37, 38, 39, 40, 41, 42, 43, 1, 2, 3, 4, 5, 6, 7, 8, 9] (hT2 (jv2 G 35 9 1)) (hX G J) := rfl
set_option maxRecDepth 100000 in
theorem bk_X_T2_35_1 (G : Nat → Nat → Int32) (J : Nat → Nat → Int64) (G2 : Nat → Nat → Int32) : jback [35, 36, 37, 38, 39, 40, 41, 42, 43, 1, 2, 3, 4, 5, 6, 7, 8, 9] (hT2 G2) (hX G J) = (hX (jp2 G 35 9 1 9 G2) J) := (jback_eq rfl (Nat.le_of_ble_eq_true rfl)).trans rfl
set_option maxRecDepth 100000 in
theorem bi_X_T2_35_1 (G : Nat → Nat → Int32) (J : Nat → Nat → Int64) : jback [35, 36, 37, 38, 39, 40, 41, 42, 43, 1, 2, 3, 4, 5, 6, 7, 8, 9] (hT2 (jv2 G 35 9 1)) (hX G J) = (hX G J) := (jback_eq rfl (Nat.le_of_ble_eq_true rfl)).trans rfl
set_option maxRecDepth 100000 in
theorem sb_X_T2_44_1 (G : Nat → Nat → Int32) (J : Nat → Nat → Int64) : jsub [44, 45, 46, 47, 48, 49, 50, 51, 52, 1, 2, 3, 4, 5, 6, 7, 8, 9] (hT2 (jv2 G 44 9 1)) (hX G J) := rfl
set_option maxRecDepth 100000 in
theorem bk_X_T2_44_1 (G : Nat → Nat → Int32) (J : Nat → Nat → Int64) (G2 : Nat → Nat → Int32) : jback [44, 45, 46, 47, 48, 49, 50, 51, 52, 1, 2, 3, 4, 5, 6, 7, 8, 9] (hT2 G2) (hX G J) = (hX (jp2 G 44 9 1 9 G2) J) := (jback_eq rfl (Nat.le_of_ble_eq_true rfl)).trans rfl
set_option maxRecDepth 100000 in
theorem bi_X_T2_44_1 (G : Nat → Nat → Int32) (J : Nat → Nat → Int64) : jback [44, 45, 46, 47, 48, 49, 50, 51, 52, 1, 2, 3, 4, 5, 6, 7, 8, 9] (hT2 (jv2 G 44 9 1)) (hX G J) = (hX G J) := (jback_eq rfl (Nat.le_of_ble_eq_true rfl)).trans rfl
set_option maxRecDepth 100000 in
theorem sb_X_T2_53_1 (G : Nat → Nat → Int32) (J : Nat → Nat → Int64) : jsub [53, 54, 55, 56, 57, 58, 59, 60, 61, 1, 2, 3, 4, 5, 6, 7, 8, 9] (hT2 (jv2 G 53 9 1)) (hX G J) := rfl
set_option maxRecDepth 100000 in
theorem bk_X_T2_53_1 (G : Nat → Nat → Int32) (J : Nat → Nat → Int64) (G2 : Nat → Nat → Int32) : jback [53, 54, 55, 56, 57, 58, 59, 60, 61, 1, 2, 3, 4, 5, 6, 7, 8, 9] (hT2 G2) (hX G J) = (hX (jp2 G 53 9 1 9 G2) J) := (jback_eq rfl (Nat.le_of_ble_eq_true rfl)).trans rfl
set_option maxRecDepth 100000 in
theorem bi_X_T2_53_1 (G : Nat → Nat → Int32) (J : Nat → Nat → Int64) : jback [53, 54, 55, 56, 57, 58, 59, 60, 61, 1, 2, 3, 4, 5, 6, 7, 8, 9] (hT2 (jv2 G 53 9 1)) (hX G J) = (hX G J) := (jback_eq rfl (Nat.le_of_ble_eq_true rfl)).trans rfl
set_option maxRecDepth 100000 in
theorem sb_X_T2_1_35 (G : Nat → Nat → Int32) (J : Nat → Nat → Int64) : jsub [1, 2, 3, 4, 5, 6, 7, 8, 9, 35, 36, 37, 38, 39, 40, 41, 42, 43] (hT2 (jv2 G 1 9 35)) (hX G J) := rfl
set_option maxRecDepth 100000 in
theorem bk_X_T2_1_35 (G : Nat → Nat → Int32) (J : Nat → Nat → Int64) (G2 : Nat → Nat → Int32) : jback [1, 2, 3, 4, 5, 6, 7, 8, 9, 35, 36, 37, 38, 39, 40, 41, 42, 43] (hT2 G2) (hX G J) = (hX (jp2 G 1 9 35 9 G2) J) := (jback_eq rfl (Nat.le_of_ble_eq_true rfl)).trans rfl
set_option maxRecDepth 100000 in
theorem bi_X_T2_1_35 (G : Nat → Nat → Int32) (J : Nat → Nat → Int64) : jback [1, 2, 3, 4, 5, 6, 7, 8, 9, 35, 36, 37, 38, 39, 40, 41, 42, 43] (hT2 (jv2 G 1 9 35)) (hX G J) = (hX G J) := (jback_eq rfl (Nat.le_of_ble_eq_true rfl)).trans rfl
set_option maxRecDepth 100000 in
theorem sb_X_T2_1_44 (G : Nat → Nat → Int32) (J : Nat → Nat → Int64) : jsub [1, 2, 3, 4, 5, 6, 7, 8, 9, 44, 45, 46, 47, 48, 49, 50, 51, 52] (hT2 (jv2 G 1 9 44)) (hX G J) := rfl
set_option maxRecDepth 100000 in
theorem bk_X_T2_1_44 (G : Nat → Nat → Int32) (J : Nat → Nat → Int64) (G2 : Nat → Nat → Int32) : jback [1, 2, 3, 4, 5, 6, 7, 8, 9, 44, 45, 46, 47, 48, 49, 50, 51, 52] (hT2 G2) (hX G J) = (hX (jp2 G 1 9 44 9 G2) J) := (jback_eq rfl (Nat.le_of_ble_eq_true rfl)).trans rfl
set_option maxRecDepth 100000 in
theorem bi_X_T2_1_44 (G : Nat → Nat → Int32) (J : Nat → Nat → Int64) : jback [1, 2, 3, 4, 5, 6, 7, 8, 9, 44, 45, 46, 47, 48, 49, 50, 51, 52] (hT2 (jv2 G 1 9 44)) (hX G J) = (hX G J) := (jback_eq rfl (Nat.le_of_ble_eq_true rfl)).trans rfl
set_option maxRecDepth 100000 in
theorem sb_X_T2_1_53 (G : Nat → Nat → Int32) (J : Nat → Nat → Int64) : jsub [1, 2, 3, 4, 5, 6, 7, 8, 9, 53, 54, 55, 56, 57, 58, 59, 60, 61] (hT2 (jv2 G 1 9 53)) (hX G J) := rfl
set_option maxRecDepth 100000 in
theorem bk_X_T2_1_53 (G : Nat → Nat → Int32) (J : Nat → Nat → Int64) (G2 : Nat → Nat → Int32) : jback [1, 2, 3, 4, 5, 6, 7, 8, 9, 53, 54, 55, 56, 57, 58, 59, 60, 61] (hT2 G2) (hX G J) = (hX (jp2 G 1 9 53 9 G2) J) := (jback_eq rfl (Nat.le_of_ble_eq_true rfl)).trans rfl
set_option maxRecDepth 100000 in
theorem bi_X_T2_1_53 (G : Nat → Nat → Int32) (J : Nat → Nat → Int64) : jback [1, 2, 3, 4, 5, 6, 7, 8, 9, 53, 54, 55, 56, 57, 58, 59, 60, 61] (hT2 (jv2 G 1 9 53)) (hX G J) = (hX G J) := (jback_eq rfl (Nat.le_of_ble_eq_true rfl)).trans rfl

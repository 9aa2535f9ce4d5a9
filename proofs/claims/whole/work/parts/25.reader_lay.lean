def hRd (G : Nat → Nat → Int32) : jH := [.inr (.inr (.inl (2, [.int (G 0 0), .int (G 0 1), .int (G 0 2), .ref 1, .int (G 0 4), .int (G 0 5), .int (G 0 6), .int (G 0 7), .int (G 0 8), .int (G 0 9)]))), .inl (2, 900, G 1)]
def hRT (G : Nat → Nat → Int32) : jH := [.inr (.inr (.inl (2, [.int (G 0 0), .int (G 0 1), .int (G 0 2), .ref 1, .int (G 0 4), .int (G 0 5), .int (G 0 6), .int (G 0 7), .int (G 0 8), .int (G 0 9)]))), .inl (2, 900, G 1), .inr (.inr (.inl (3, [.int (G 2 0), .int (G 2 1), .int (G 2 2), .int (G 2 3), .int (G 2 4), .int (G 2 5), .int (G 2 6), .int (G 2 7), .int (G 2 8), .ref 3, .ref 4, .ref 5, .ref 6, .ref 7, .ref 8, .ref 9, .ref 10]))), .inl (0, 6, G 3), .inl (0, 10, G 4), .inl (0, 60, G 5), .inl (0, 30, G 6), .inl (0, 30, G 7), .inl (0, 30, G 8), .inl (0, 30, G 9), .inl (0, 30, G 10)]
theorem sb_Rd_Rd_0 (G : Nat → Nat → Int32) : jsub [0, 1] (hRd G) (hRd G) := rfl
theorem bk_Rd_Rd_0 (G : Nat → Nat → Int32) (G2 : Nat → Nat → Int32) : jback [0, 1] (hRd G2) (hRd G) = (hRd G2) := (jback_eq rfl (Nat.le_of_ble_eq_true rfl)).trans rfl
theorem bi_Rd_Rd_0 (G : Nat → Nat → Int32) : jback [0, 1] (hRd G) (hRd G) = (hRd G) := (jback_eq rfl (Nat.le_of_ble_eq_true rfl)).trans rfl
theorem sb_RT_Rd_0 (G : Nat → Nat → Int32) : jsub [0, 1] (hRd (jvw G 0)) (hRT G) := rfl
theorem bk_RT_Rd_0 (G : Nat → Nat → Int32) (G2 : Nat → Nat → Int32) : jback [0, 1] (hRd G2) (hRT G) = (hRT (jpt G 0 2 G2)) := (jback_eq rfl (Nat.le_of_ble_eq_true rfl)).trans rfl
theorem bi_RT_Rd_0 (G : Nat → Nat → Int32) : jback [0, 1] (hRd (jvw G 0)) (hRT G) = (hRT G) := (jback_eq rfl (Nat.le_of_ble_eq_true rfl)).trans rfl
theorem sb_RT_Town_2 (G : Nat → Nat → Int32) : jsub [2, 3, 4, 5, 6, 7, 8, 9, 10] (hTown (jvw G 2)) (hRT G) := rfl
theorem bk_RT_Town_2 (G : Nat → Nat → Int32) (G2 : Nat → Nat → Int32) : jback [2, 3, 4, 5, 6, 7, 8, 9, 10] (hTown G2) (hRT G) = (hRT (jpt G 2 9 G2)) := (jback_eq rfl (Nat.le_of_ble_eq_true rfl)).trans rfl
theorem bi_RT_Town_2 (G : Nat → Nat → Int32) : jback [2, 3, 4, 5, 6, 7, 8, 9, 10] (hTown (jvw G 2)) (hRT G) = (hRT G) := (jback_eq rfl (Nat.le_of_ble_eq_true rfl)).trans rfl
theorem sb_RT_RT_0_2 (G : Nat → Nat → Int32) : jsub [0, 1, 2, 3, 4, 5, 6, 7, 8, 9, 10] (hRT G) (hRT G) := rfl
theorem bk_RT_RT_0_2 (G : Nat → Nat → Int32) (G2 : Nat → Nat → Int32) : jback [0, 1, 2, 3, 4, 5, 6, 7, 8, 9, 10] (hRT G2) (hRT G) = (hRT G2) := (jback_eq rfl (Nat.le_of_ble_eq_true rfl)).trans rfl
theorem bi_RT_RT_0_2 (G : Nat → Nat → Int32) : jback [0, 1, 2, 3, 4, 5, 6, 7, 8, 9, 10] (hRT G) (hRT G) = (hRT G) := (jback_eq rfl (Nat.le_of_ble_eq_true rfl)).trans rfl

def hDr (G : Nat → Nat → Int32) : jH := [.inr (.inr (.inl (0, [.int (G 0 0)])))]
def hDT (G : Nat → Nat → Int32) : jH := [.inr (.inr (.inl (0, [.int (G 0 0)]))), .inr (.inr (.inl (3, [.int (G 1 0), .int (G 1 1), .int (G 1 2), .int (G 1 3), .int (G 1 4), .int (G 1 5), .int (G 1 6), .int (G 1 7), .int (G 1 8), .ref 2, .ref 3, .ref 4, .ref 5, .ref 6, .ref 7, .ref 8, .ref 9]))), .inl (0, 6, G 2), .inl (0, 10, G 3), .inl (0, 60, G 4), .inl (0, 30, G 5), .inl (0, 30, G 6), .inl (0, 30, G 7), .inl (0, 30, G 8), .inl (0, 30, G 9)]
theorem sb_DT_Dr_0 (G : Nat → Nat → Int32) : jsub [0] (hDr (jvw G 0)) (hDT G) := rfl
theorem bk_DT_Dr_0 (G : Nat → Nat → Int32) (G2 : Nat → Nat → Int32) : jback [0] (hDr G2) (hDT G) = (hDT (jpt G 0 1 G2)) := (jback_eq rfl (Nat.le_of_ble_eq_true rfl)).trans rfl
theorem bi_DT_Dr_0 (G : Nat → Nat → Int32) : jback [0] (hDr (jvw G 0)) (hDT G) = (hDT G) := (jback_eq rfl (Nat.le_of_ble_eq_true rfl)).trans rfl
theorem sb_DT_Town_1 (G : Nat → Nat → Int32) : jsub [1, 2, 3, 4, 5, 6, 7, 8, 9] (hTown (jvw G 1)) (hDT G) := rfl
theorem bk_DT_Town_1 (G : Nat → Nat → Int32) (G2 : Nat → Nat → Int32) : jback [1, 2, 3, 4, 5, 6, 7, 8, 9] (hTown G2) (hDT G) = (hDT (jpt G 1 9 G2)) := (jback_eq rfl (Nat.le_of_ble_eq_true rfl)).trans rfl
theorem bi_DT_Town_1 (G : Nat → Nat → Int32) : jback [1, 2, 3, 4, 5, 6, 7, 8, 9] (hTown (jvw G 1)) (hDT G) = (hDT G) := (jback_eq rfl (Nat.le_of_ble_eq_true rfl)).trans rfl
theorem sb_DT_DT_0_1 (G : Nat → Nat → Int32) : jsub [0, 1, 2, 3, 4, 5, 6, 7, 8, 9] (hDT G) (hDT G) := rfl
theorem bk_DT_DT_0_1 (G : Nat → Nat → Int32) (G2 : Nat → Nat → Int32) : jback [0, 1, 2, 3, 4, 5, 6, 7, 8, 9] (hDT G2) (hDT G) = (hDT G2) := (jback_eq rfl (Nat.le_of_ble_eq_true rfl)).trans rfl
theorem bi_DT_DT_0_1 (G : Nat → Nat → Int32) : jback [0, 1, 2, 3, 4, 5, 6, 7, 8, 9] (hDT G) (hDT G) = (hDT G) := (jback_eq rfl (Nat.le_of_ble_eq_true rfl)).trans rfl

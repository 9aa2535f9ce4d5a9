def hE : jH := []
def hTown (G : Nat → Nat → Int32) : jH := [.inr (.inr (.inl (3, [.int (G 0 0), .int (G 0 1), .int (G 0 2), .int (G 0 3), .int (G 0 4), .int (G 0 5), .int (G 0 6), .int (G 0 7), .int (G 0 8), .ref 1, .ref 2, .ref 3, .ref 4, .ref 5, .ref 6, .ref 7, .ref 8]))), .inl (0, 6, G 1), .inl (0, 10, G 2), .inl (0, 60, G 3), .inl (0, 30, G 4), .inl (0, 30, G 5), .inl (0, 30, G 6), .inl (0, 30, G 7), .inl (0, 30, G 8)]
def hF6 (G : Nat → Nat → Int32) : jH := [.inl (0, 6, G 0)]
def hF60 (G : Nat → Nat → Int32) : jH := [.inl (0, 60, G 0)]
def hFL (J : Nat → Nat → Int64) : jH := [.inr (.inl (40, J 0))]
def hT2 (G : Nat → Nat → Int32) : jH := [.inr (.inr (.inl (3, [.int (G 0 0), .int (G 0 1), .int (G 0 2), .int (G 0 3), .int (G 0 4), .int (G 0 5), .int (G 0 6), .int (G 0 7), .int (G 0 8), .ref 1, .ref 2, .ref 3, .ref 4, .ref 5, .ref 6, .ref 7, .ref 8]))), .inl (0, 6, G 1), .inl (0, 10, G 2), .inl (0, 60, G 3), .inl (0, 30, G 4), .inl (0, 30, G 5), .inl (0, 30, G 6), .inl (0, 30, G 7), .inl (0, 30, G 8), .inr (.inr (.inl (3, [.int (G 9 0), .int (G 9 1), .int (G 9 2), .int (G 9 3), .int (G 9 4), .int (G 9 5), .int (G 9 6), .int (G 9 7), .int (G 9 8), .ref 10, .ref 11, .ref 12, .ref 13, .ref 14, .ref 15, .ref 16, .ref 17]))), .inl (0, 6, G 10), .inl (0, 10, G 11), .inl (0, 60, G 12), .inl (0, 30, G 13), .inl (0, 30, G 14), .inl (0, 30, G 15), .inl (0, 30, G 16), .inl (0, 30, G 17)]
theorem sb_Town_F6_1 (G : Nat → Nat → Int32) : jsub [1] (hF6 (jvw G 1)) (hTown G) := rfl
theorem bk_Town_F6_1 (G : Nat → Nat → Int32) (G2 : Nat → Nat → Int32) : jback [1] (hF6 G2) (hTown G) = (hTown (jpt G 1 1 G2)) := (jback_eq rfl (Nat.le_of_ble_eq_true rfl)).trans rfl
theorem bi_Town_F6_1 (G : Nat → Nat → Int32) : jback [1] (hF6 (jvw G 1)) (hTown G) = (hTown G) := (jback_eq rfl (Nat.le_of_ble_eq_true rfl)).trans rfl
theorem sb_Town_F60_3 (G : Nat → Nat → Int32) : jsub [3] (hF60 (jvw G 3)) (hTown G) := rfl
theorem bk_Town_F60_3 (G : Nat → Nat → Int32) (G2 : Nat → Nat → Int32) : jback [3] (hF60 G2) (hTown G) = (hTown (jpt G 3 1 G2)) := (jback_eq rfl (Nat.le_of_ble_eq_true rfl)).trans rfl
theorem bi_Town_F60_3 (G : Nat → Nat → Int32) : jback [3] (hF60 (jvw G 3)) (hTown G) = (hTown G) := (jback_eq rfl (Nat.le_of_ble_eq_true rfl)).trans rfl
theorem sb_Town_Town_0 (G : Nat → Nat → Int32) : jsub [0, 1, 2, 3, 4, 5, 6, 7, 8] (hTown G) (hTown G) := rfl
theorem bk_Town_Town_0 (G : Nat → Nat → Int32) (G2 : Nat → Nat → Int32) : jback [0, 1, 2, 3, 4, 5, 6, 7, 8] (hTown G2) (hTown G) = (hTown G2) := (jback_eq rfl (Nat.le_of_ble_eq_true rfl)).trans rfl
theorem bi_Town_Town_0 (G : Nat → Nat → Int32) : jback [0, 1, 2, 3, 4, 5, 6, 7, 8] (hTown G) (hTown G) = (hTown G) := (jback_eq rfl (Nat.le_of_ble_eq_true rfl)).trans rfl
theorem sb_Town_E_ (G : Nat → Nat → Int32) : jsub [] hE (hTown G) := rfl
theorem bk_Town_E_ (G : Nat → Nat → Int32) : jback [] hE (hTown G) = (hTown G) := (jback_eq rfl (Nat.le_of_ble_eq_true rfl)).trans rfl
theorem bi_Town_E_ (G : Nat → Nat → Int32) : jback [] hE (hTown G) = (hTown G) := (jback_eq rfl (Nat.le_of_ble_eq_true rfl)).trans rfl

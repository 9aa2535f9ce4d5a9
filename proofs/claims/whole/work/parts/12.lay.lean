def hE : jH := []
def hTown (G : Nat → Nat → Int32) : jH := [.inr (.inr (.inl (3, [.int (G 0 0), .int (G 0 1), .int (G 0 2), .int (G 0 3), .int (G 0 4), .int (G 0 5), .int (G 0 6), .int (G 0 7), .int (G 0 8), .ref 1, .ref 2, .ref 3, .ref 4, .ref 5, .ref 6, .ref 7, .ref 8]))), .inl (0, 6, G 1), .inl (0, 10, G 2), .inl (0, 60, G 3), .inl (0, 30, G 4), .inl (0, 30, G 5), .inl (0, 30, G 6), .inl (0, 30, G 7), .inl (0, 30, G 8)]
theorem sb_Town_Town_0 (G : Nat → Nat → Int32) : jsub [0, 1, 2, 3, 4, 5, 6, 7, 8] (hTown G) (hTown G) := rfl
theorem bk_Town_Town_0 (G : Nat → Nat → Int32) (G2 : Nat → Nat → Int32) : jback [0, 1, 2, 3, 4, 5, 6, 7, 8] (hTown G2) (hTown G) = (hTown G2) := rfl
theorem bi_Town_Town_0 (G : Nat → Nat → Int32) : jback [0, 1, 2, 3, 4, 5, 6, 7, 8] (hTown G) (hTown G) = (hTown G) := rfl
theorem sb_Town_E_ (G : Nat → Nat → Int32) : jsub [] hE (hTown G) := rfl
theorem bk_Town_E_ (G : Nat → Nat → Int32) : jback [] hE (hTown G) = (hTown G) := rfl
theorem bi_Town_E_ (G : Nat → Nat → Int32) : jback [] hE (hTown G) = (hTown G) := rfl

def hTray (G : Nat → Nat → Int32) (J : Nat → Nat → Int64) : jH := [.inr (.inr (.inl (4, [.int (G 0 0), .int (G 0 1), .ref 1, .int (G 0 3)]))), .inr (.inl (40, J 1))]
theorem sb_Tray_FL_1 (G : Nat → Nat → Int32) (J : Nat → Nat → Int64) : jsub [1] (hFL (jvw J 1)) (hTray G J) := rfl
theorem bk_Tray_FL_1 (G : Nat → Nat → Int32) (J : Nat → Nat → Int64) (J2 : Nat → Nat → Int64) : jback [1] (hFL J2) (hTray G J) = (hTray G (jpt J 1 1 J2)) := (jback_eq rfl (Nat.le_of_ble_eq_true rfl)).trans rfl
theorem bi_Tray_FL_1 (G : Nat → Nat → Int32) (J : Nat → Nat → Int64) : jback [1] (hFL (jvw J 1)) (hTray G J) = (hTray G J) := (jback_eq rfl (Nat.le_of_ble_eq_true rfl)).trans rfl
theorem sb_Tray_Tray_0 (G : Nat → Nat → Int32) (J : Nat → Nat → Int64) : jsub [0, 1] (hTray G J) (hTray G J) := rfl
theorem bk_Tray_Tray_0 (G : Nat → Nat → Int32) (J : Nat → Nat → Int64) (G2 : Nat → Nat → Int32) (J2 : Nat → Nat → Int64) : jback [0, 1] (hTray G2 J2) (hTray G J) = (hTray G2 J2) := (jback_eq rfl (Nat.le_of_ble_eq_true rfl)).trans rfl
theorem bi_Tray_Tray_0 (G : Nat → Nat → Int32) (J : Nat → Nat → Int64) : jback [0, 1] (hTray G J) (hTray G J) = (hTray G J) := (jback_eq rfl (Nat.le_of_ble_eq_true rfl)).trans rfl

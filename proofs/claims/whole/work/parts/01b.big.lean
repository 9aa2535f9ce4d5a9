/-- the words of all methods -/
def jbig : List Cond := lw_tbl.filter goodWord
theorem jbig_good {w : Cond} (h : w ∈ jbig) : goodWord w = true := (List.mem_filter.mp h).2
theorem jbig_of {w : Cond} (i : Nat) (h : lw_tbl[i]? = some w) (g : goodWord w = true) : w ∈ jbig := List.mem_filter.mpr ⟨List.mem_of_getElem? h, g⟩
def jws (y : MethodName) (b : ByteArray) (n : Nat) (r : Option FieldType) : List Cond := .code y b n r :: jbig
def jwsH (y : MethodName) (b : ByteArray) (n : Nat) (r : Option FieldType) (hh : List (Nat × Nat × Nat × Nat)) : List Cond := .codeWith y b n r hh :: jbig
theorem jbig_in {w : Cond} (h : w ∈ lw_tbl) (g : goodWord w = true) : w ∈ jbig := List.mem_filter.mpr ⟨h, g⟩
theorem jtb_0 {w : Cond} (h : w ∈ tables_1) : w ∈ lw_tbl := List.mem_append_right _ h
theorem jtb_1 (w : Cond) (h : w ∈ tables_1_1) : w ∈ lw_tbl := jtb_0 (show w ∈ tables_1 from List.mem_append_left _ h)
theorem jtb_2 (w : Cond) (h : w ∈ tables_1_2) : w ∈ lw_tbl := jtb_0 (show w ∈ tables_1 from List.mem_append_right _ (List.mem_append_left _ h))
theorem jtb_3 (w : Cond) (h : w ∈ tables_1_3) : w ∈ lw_tbl := jtb_0 (show w ∈ tables_1 from List.mem_append_right _ (List.mem_append_right _ (List.mem_append_left _ h)))
theorem jtb_4 (w : Cond) (h : w ∈ tables_1_4) : w ∈ lw_tbl := jtb_0 (show w ∈ tables_1 from List.mem_append_right _ (List.mem_append_right _ (List.mem_append_right _ (List.mem_append_left _ h))))
theorem jtb_5 (w : Cond) (h : w ∈ tables_1_5) : w ∈ lw_tbl := jtb_0 (show w ∈ tables_1 from List.mem_append_right _ (List.mem_append_right _ (List.mem_append_right _ (List.mem_append_right _ (List.mem_append_left _ h)))))
theorem jtb_6 (w : Cond) (h : w ∈ tables_1_6) : w ∈ lw_tbl := jtb_0 (show w ∈ tables_1 from List.mem_append_right _ (List.mem_append_right _ (List.mem_append_right _ (List.mem_append_right _ (List.mem_append_right _ (List.mem_append_left _ h))))))
theorem jtb_7 (w : Cond) (h : w ∈ tables_1_7) : w ∈ lw_tbl := jtb_0 (show w ∈ tables_1 from List.mem_append_right _ (List.mem_append_right _ (List.mem_append_right _ (List.mem_append_right _ (List.mem_append_right _ (List.mem_append_right _ (List.mem_append_left _ h)))))))
theorem jtb_8 (w : Cond) (h : w ∈ tables_1_8) : w ∈ lw_tbl := jtb_0 (show w ∈ tables_1 from List.mem_append_right _ (List.mem_append_right _ (List.mem_append_right _ (List.mem_append_right _ (List.mem_append_right _ (List.mem_append_right _ (List.mem_append_right _ (h))))))))

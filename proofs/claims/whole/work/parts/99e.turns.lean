/-! all turns; the start -/
section turns
variable {N : Nat} {G : Nat → Nat → Int32} {J : Nat → Nat → Int64} {s : SA} {xs : Nat → Int32} {i : Int32}
set_option maxRecDepth 100000 in
theorem turn_ok (hN : 2000 ≤ N) (hL : LR G J s) : Ok (p_turn N xs G J i) (fun r => ∃ s, LR r.1 r.2 s) := by
  unfold p_turn
  generalize (xs i.toNatClampNeg &&& (63 : Int32)).toInt = z
  by_cases h0 : z = 0
  · rw [if_pos h0]; exact case_0 hN hL
  rw [if_neg h0]
  by_cases h1 : z = 1
  · rw [if_pos h1]; exact case_1 hN hL
  rw [if_neg h1]
  by_cases h2 : z = 2
  · rw [if_pos h2]; exact case_2 hL
  rw [if_neg h2]
  by_cases h3 : z = 3
  · rw [if_pos h3]; exact case_3 hN hL
  rw [if_neg h3]
  by_cases h4 : z = 4
  · rw [if_pos h4]; exact case_4 hN hL
  rw [if_neg h4]
  by_cases h5 : z = 5
  · rw [if_pos h5]; exact case_5 hN hL
  rw [if_neg h5]
  by_cases h6 : z = 6
  · rw [if_pos h6]; exact case_6 hN hL
  rw [if_neg h6]
  by_cases h7 : z = 7
  · rw [if_pos h7]; exact case_7 hN hL
  rw [if_neg h7]
  by_cases h8 : z = 8
  · rw [if_pos h8]; exact case_8 hN hL
  rw [if_neg h8]
  by_cases h9 : z = 9
  · rw [if_pos h9]; exact case_9 hN hL
  rw [if_neg h9]
  by_cases h10 : z = 10
  · rw [if_pos h10]; exact case_10 hN hL
  rw [if_neg h10]
  by_cases h11 : z = 11
  · rw [if_pos h11]; exact case_11 hN hL
  rw [if_neg h11]
  by_cases h12 : z = 12
  · rw [if_pos h12]; exact case_12 hN hL
  rw [if_neg h12]
  by_cases h13 : z = 13
  · rw [if_pos h13]; exact case_13 hN hL
  rw [if_neg h13]
  by_cases h14 : z = 14
  · rw [if_pos h14]; exact case_14 hN hL
  rw [if_neg h14]
  by_cases h15 : z = 15
  · rw [if_pos h15]; exact case_15 hN hL
  rw [if_neg h15]
  by_cases h16 : z = 16
  · rw [if_pos h16]; exact case_16 hN hL
  rw [if_neg h16]
  by_cases h17 : z = 17
  · rw [if_pos h17]; exact case_17 hN hL
  rw [if_neg h17]
  by_cases h18 : z = 18
  · rw [if_pos h18]; exact case_18 hN hL
  rw [if_neg h18]
  by_cases h19 : z = 19
  · rw [if_pos h19]; exact case_19 hN hL
  rw [if_neg h19]
  by_cases h20 : z = 20
  · rw [if_pos h20]; exact case_20 hN hL
  rw [if_neg h20]
  by_cases h21 : z = 21
  · rw [if_pos h21]; exact case_21 hN hL
  rw [if_neg h21]
  by_cases h22 : z = 22
  · rw [if_pos h22]; exact case_22 hN hL
  rw [if_neg h22]
  by_cases h23 : z = 23
  · rw [if_pos h23]; exact case_23 hN hL
  rw [if_neg h23]
  by_cases h24 : z = 24
  · rw [if_pos h24]; exact case_24 hN hL
  rw [if_neg h24]
  by_cases h25 : z = 25
  · rw [if_pos h25]; exact case_25 hN hL
  rw [if_neg h25]
  by_cases h26 : z = 26
  · rw [if_pos h26]; exact case_26 hN hL
  rw [if_neg h26]
  by_cases h27 : z = 27
  · rw [if_pos h27]; exact case_27 hN hL
  rw [if_neg h27]
  by_cases h28 : z = 28
  · rw [if_pos h28]; exact case_28 hN hL
  rw [if_neg h28]
  by_cases h29 : z = 29
  · rw [if_pos h29]; exact case_29 hN hL
  rw [if_neg h29]
  by_cases h30 : z = 30
  · rw [if_pos h30]; exact case_30 hN hL
  rw [if_neg h30]
  by_cases h31 : z = 31
  · rw [if_pos h31]; exact case_31 hN hL
  rw [if_neg h31]
  by_cases h32 : z = 32
  · rw [if_pos h32]; exact case_32 hN hL
  rw [if_neg h32]
  by_cases h33 : z = 33
  · rw [if_pos h33]; exact case_33 hN hL
  rw [if_neg h33]
  by_cases h34 : z = 34
  · rw [if_pos h34]; exact case_34 hN hL
  rw [if_neg h34]
  by_cases h35 : z = 35
  · rw [if_pos h35]; exact case_35 hN hL
  rw [if_neg h35]
  by_cases h36 : z = 36
  · rw [if_pos h36]; exact case_36 hN hL
  rw [if_neg h36]
  by_cases h37 : z = 37
  · rw [if_pos h37]; exact case_37 hN hL
  rw [if_neg h37]
  by_cases h38 : z = 38
  · rw [if_pos h38]; exact case_38 hN hL
  rw [if_neg h38]
  by_cases h39 : z = 39
  · rw [if_pos h39]; exact case_39 hN hL
  rw [if_neg h39]
  by_cases h40 : z = 40
  · rw [if_pos h40]; exact case_40 hN hL
  rw [if_neg h40]
  by_cases h41 : z = 41
  · rw [if_pos h41]; exact case_41 hN hL
  rw [if_neg h41]
  by_cases h42 : z = 42
  · rw [if_pos h42]; exact case_42 hN hL
  rw [if_neg h42]
  by_cases h43 : z = 43
  · rw [if_pos h43]; exact case_43 hN hL
  rw [if_neg h43]
  by_cases h44 : z = 44
  · rw [if_pos h44]; exact case_44 hN hL
  rw [if_neg h44]
  by_cases h45 : z = 45
  · rw [if_pos h45]; exact case_45 hN hL
  rw [if_neg h45]
  exact Ok.s ⟨s, hL⟩
theorem loop_ok (hN : 2000 ≤ N) {Ln : Nat} (hln : Ln ≤ 3072) : ∀ (f q : Nat) (G : Nat → Nat → Int32) (J : Nat → Nat → Int64) (s : SA), 6 * q ≤ Ln → Ln < 6 * (q + f) → LR G J s → 0 < f → ∃ res, p_loop N Ln xs f G J (nI (6 * q)) = some res := by
  intro f
  induction f with
  | zero => intro q G J s _ _ _ h; exact absurd h (Nat.lt_irrefl _)
  | succ f ih =>
    intro q G J s hq0 hq hL _
    have t1 : (Int32.ofNat Ln).toInt = (Ln : Int) := nI_toInt (n := Ln) (by omega)
    have t6 : (Int32.ofNat Ln - 6).toInt = (Ln : Int) - 6 := by
      have e : Int32.ofNat Ln - 6 = nI Ln - nI 6 := by rw [show (6 : Int32) = nI 6 by decide]; rfl
      rw [e, pk_sub_toInt (by omega) (by omega)]
      rfl
    unfold p_loop
    by_cases c : Int32.ofNat Ln - 6 < nI (6 * q)
    · rw [if_pos c]; exact ⟨(G, J), rfl⟩
    · rw [if_neg c]
      by_cases hbig : 6 * q < 2147483648
      · rw [Int32.lt_iff_toInt_lt, t6, nI_toInt hbig] at c
        have hle : 6 * q + 6 ≤ Ln := by omega
        obtain ⟨r, hr, s2, hL2⟩ := turn_ok (xs := xs) (i := nI (6 * q)) hN hL
        rw [zd1, zd2, zd3, zd4, zd5, if_pos (jinT (by omega) (by omega)), if_pos (jinT (by omega) (by omega)), if_pos (jinT (by omega) (by omega)), if_pos (jinT (by omega) (by omega)), if_pos (jinT (by omega) (by omega)), if_pos (jinT (by omega) (by omega)), hr, Option.bind_some]
        have e6 : nI (6 * q) + 6 = nI (6 * (q + 1)) := by
          rw [show (6 : Int32) = nI 6 by decide, nI_add]
          congr 1
        rw [e6]
        have hf : 0 < f := by
          rcases Nat.eq_zero_or_pos f with h | h
          · rw [h] at hq; omega
          · exact h
        exact ih (q + 1) r.1 r.2 s2 (by omega) (by omega) hL2 hf
      · omega
end turns

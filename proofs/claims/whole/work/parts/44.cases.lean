def p_case_0 (N : Nat) (xs : Nat → Int32) (G : Nat → Nat → Int32) (J : Nat → Nat → Int64) (i : Int32) : Option ((Nat → Nat → Int32) × (Nat → Nat → Int64)) :=
  (p_X5_feed N (jvw G 0) (jvw J 0) (xs (i + (1 : Int32)).toNatClampNeg) (xs (i + (2 : Int32)).toNatClampNeg) (xs (i + (3 : Int32)).toNatClampNeg) (xs (i + (4 : Int32)).toNatClampNeg) (xs (i + (5 : Int32)).toNatClampNeg)).bind (fun v1 => jlt (jpt G 0 70 v1.2) fun G3 => (p_X6_feed N (jvw G3 70) (jvw J 70) (xs (i + (1 : Int32)).toNatClampNeg) (xs (i + (2 : Int32)).toNatClampNeg) (xs (i + (3 : Int32)).toNatClampNeg) (xs (i + (4 : Int32)).toNatClampNeg) (xs (i + (5 : Int32)).toNatClampNeg)).bind (fun v5 => jlt (jpt G3 70 15 v5.2) fun G7 => if v1.1 = v5.1 then (some (G7, J)) else (none)))
set_option maxHeartbeats 4000000 in
set_option maxRecDepth 100000 in
theorem t_case_0 {Tz : jX → Prop} (hT1 : ∀ X ad al, Tz X → Tz (jxa X ad al)) (hT2 : ∀ X, Tz X → Tz (jof X)) {Ln : Nat} {xs : Nat → Int32} {X : jX} {k n : Nat} (hM : jMZ Tz X kL_c0 RL (tbLZ Ln xs) 8 ⟨12, 601024, 7293034, 436⟩ (some .boolean) 94) (hk : k + 40 ≤ 601024) (hn : n + 240 ≤ 7293034) (N : Nat) (G : Nat → Nat → Int32) (J : Nat → Nat → Int64) (i : Int32) (hj1 : jin (i + 1) Ln = true) (hj2 : jin (i + 2) Ln = true) (hj3 : jin (i + 3) Ln = true) (hj4 : jin (i + 4) Ln = true) (hj5 : jin (i + 5) Ln = true) (res : (Nat → Nat → Int32) × (Nat → Nat → Int64)) (h : p_case_0 N xs G J i = some res) (K : ∀ X9, jMZ Tz X9 kL_c0 RL (tbLZ Ln xs) 8 ⟨12, 601024, 7293034, 436⟩ (some .boolean) 94 → JW X9 (k + 40) (n + 240) 2667 [some (.ref 2000000), some (.ref 0), some (.ref 70), some (.ref 85), some (.int i), none, none, none] [] (hLaw res.1 res.2)) : JW X k n 240 [some (.ref 2000000), some (.ref 0), some (.ref 70), some (.ref 85), some (.int i), none, none, none] [] (hLaw G J) := by
  unfold p_case_0 at h
  refine JW.rZ hM 0 26 (pc2 := 271) (L2 := [some (.ref 2000000), some (.ref 0), some (.ref 70), some (.ref 85), some (.int i), none, none, none]) (st2 := [.int (xs (i + (5 : Int32)).toNatClampNeg), .int (xs (i + (4 : Int32)).toNatClampNeg), .int (xs (i + (3 : Int32)).toNatClampNeg), .int (xs (i + (2 : Int32)).toNatClampNeg), .int (xs (i + (1 : Int32)).toNatClampNeg), .ref 0]) (μ2 := (hLaw G J)) rfl ⟨hj1, hj2, hj3, hj4, hj5, trivial⟩ ?_
  obtain ⟨v1, hv2, h⟩ := jbd h
  refine JW.cVZ (v := some (.int v1.1)) hM (m_X5_feed (jVX X) hM.1.2.2.2.2.2.2.2.2.2.1 N (jvw G 0) (jvw J 0) (xs (i + (1 : Int32)).toNatClampNeg) (xs (i + (2 : Int32)).toNatClampNeg) (xs (i + (3 : Int32)).toNatClampNeg) (xs (i + (4 : Int32)).toNatClampNeg) (xs (i + (5 : Int32)).toNatClampNeg) v1 hv2) (sb_Law_X_0 G J) (bk_Law_X_0 G J v1.2 (jvw J 0)) rfl rfl rfl kc_L_129 rfl rfl rfl rfl (show k + 0 ≤ 601024 from by omega) (show n + 0 ≤ 7293034 from by omega) rfl (jat hM.2.1 26 rfl) (st := []) rfl ?_
  show JW X (k + 0) (n + 0) 274 [some (.ref 2000000), some (.ref 0), some (.ref 70), some (.ref 85), some (.int i), none, none, none] [.int v1.1] (hLaw (jpt G 0 70 v1.2) J)
  obtain ⟨G3, e4, h⟩ := jlE h
  rw [e4]
  refine JW.rZ hM 27 26 (pc2 := 305) (L2 := [some (.ref 2000000), some (.ref 0), some (.ref 70), some (.ref 85), some (.int i), none, none, none]) (st2 := [.int (xs (i + (5 : Int32)).toNatClampNeg), .int (xs (i + (4 : Int32)).toNatClampNeg), .int (xs (i + (3 : Int32)).toNatClampNeg), .int (xs (i + (2 : Int32)).toNatClampNeg), .int (xs (i + (1 : Int32)).toNatClampNeg), .ref 70, .int v1.1]) (μ2 := (hLaw G3 J)) rfl ⟨hj1, hj2, hj3, hj4, hj5, trivial⟩ ?_
  obtain ⟨v5, hv6, h⟩ := jbd h
  refine JW.cVZ (v := some (.int v5.1)) hM (m_X6_feed (jVX X) hM.1.2.2.2.2.2.2.2.2.2.1 N (jvw G3 70) (jvw J 70) (xs (i + (1 : Int32)).toNatClampNeg) (xs (i + (2 : Int32)).toNatClampNeg) (xs (i + (3 : Int32)).toNatClampNeg) (xs (i + (4 : Int32)).toNatClampNeg) (xs (i + (5 : Int32)).toNatClampNeg) v5 hv6) (sb_Law_Mo_70 G3 J) (bk_Law_Mo_70 G3 J v5.2 (jvw J 70)) rfl rfl rfl kc_L_133 rfl rfl rfl rfl (show k + 0 + 0 ≤ 601024 from by omega) (show n + 0 + 0 ≤ 7293034 from by omega) rfl (jat hM.2.1 53 rfl) (st := [.int v1.1]) rfl ?_
  show JW X (k + 0 + 0) (n + 0 + 0) 308 [some (.ref 2000000), some (.ref 0), some (.ref 70), some (.ref 85), some (.int i), none, none, none] [.int v5.1, .int v1.1] (hLaw (jpt G3 70 15 v5.2) J)
  obtain ⟨G7, e8, h⟩ := jlE h
  rw [e8]
  refine js_iceq (t := 2667) hM.1 (jat hM.2.1 54 rfl) rfl (fun hc9 => ?_) (fun hc9 => ?_)
  · have h := (if_pos hc9).symm.trans h
    obtain rfl := Option.some.inj h
    refine JW.widen (k2 := k + 40) (n2 := n + 240) (by omega) (by omega) (JW.mask [true, true, true, true, true, false, false, false] ?_)
    exact K X hM
  · have h := (if_neg hc9).symm.trans h
    cases h

def p_case_1 (N : Nat) (xs : Nat → Int32) (G : Nat → Nat → Int32) (J : Nat → Nat → Int64) (i : Int32) : Option ((Nat → Nat → Int32) × (Nat → Nat → Int64)) :=
  (p_L_town N (jv2 G 0 70 85) (jv2 J 0 70 85) (xs (i + (1 : Int32)).toNatClampNeg)).bind (fun v1 => jlt (jp2 G 0 70 85 1 v1.2.1) fun G3 => jlt (jp2 J 0 70 85 1 v1.2.2) fun J5 => (p_X6_town N (jvw G3 70) (jvw J5 70) (xs (i + (1 : Int32)).toNatClampNeg)).bind (fun v7 => jlt (jpt G3 70 15 v7.2) fun G9 => (p_X6_thrown N (jvw G9 70) (jvw J5 70)).bind (fun v11 => if v11 = v1.1 then (if v1.1 = 0 then (if (lg_cmp (J5 85 0) (v7.1.toInt64)) = 0 then (some (G9, J5)) else (none)) else (some (G9, J5))) else (none))))
set_option maxHeartbeats 4000000 in
set_option maxRecDepth 100000 in
theorem t_case_1 {Tz : jX → Prop} (hT1 : ∀ X ad al, Tz X → Tz (jxa X ad al)) (hT2 : ∀ X, Tz X → Tz (jof X)) {Ln : Nat} {xs : Nat → Int32} {X : jX} {k n : Nat} (hM : jMZ Tz X kL_c1 RL (tbLZ Ln xs) 8 ⟨12, 601024, 7293034, 436⟩ (some .boolean) 94) (hk : k + 40 ≤ 601024) (hn : n + 240 ≤ 7293034) (N : Nat) (G : Nat → Nat → Int32) (J : Nat → Nat → Int64) (i : Int32) (hj1 : jin (i + 1) Ln = true) (hj2 : jin (i + 2) Ln = true) (hj3 : jin (i + 3) Ln = true) (hj4 : jin (i + 4) Ln = true) (hj5 : jin (i + 5) Ln = true) (res : (Nat → Nat → Int32) × (Nat → Nat → Int64)) (h : p_case_1 N xs G J i = some res) (K : ∀ X9, jMZ Tz X9 kL_c1 RL (tbLZ Ln xs) 8 ⟨12, 601024, 7293034, 436⟩ (some .boolean) 94 → JW X9 (k + 40) (n + 240) 2667 [some (.ref 2000000), some (.ref 0), some (.ref 70), some (.ref 85), some (.int i), none, none, none] [] (hLaw res.1 res.2)) : JW X k n 313 [some (.ref 2000000), some (.ref 0), some (.ref 70), some (.ref 85), some (.int i), none, none, none] [] (hLaw G J) := by
  unfold p_case_1 at h
  refine JW.rZ hM 0 7 (pc2 := 321) (L2 := [some (.ref 2000000), some (.ref 0), some (.ref 70), some (.ref 85), some (.int i), none, none, none]) (st2 := [.ref 85, .int (xs (i + (1 : Int32)).toNatClampNeg), .ref 0]) (μ2 := (hLaw G J)) rfl ⟨hj1, trivial⟩ ?_
  obtain ⟨v1, hv2, h⟩ := jbd h
  refine JW.cHZ (v := some (.int v1.1)) hM (m_L_town (jVX X) hM.1.2.2.2.2.2.2.2.2.2.1 N (jv2 G 0 70 85) (jv2 J 0 70 85) (xs (i + (1 : Int32)).toNatClampNeg) v1 hv2) (sb_Law_W_0_85 G J) (bk_Law_W_0_85 G J v1.2.1 v1.2.2) rfl rfl rfl kh_L_134 rfl rfl (show k + 1 ≤ 601024 from by omega) (show n + 6 ≤ 7293034 from by omega) rfl (jat hM.2.1 7 rfl) (st := []) rfl ?_
  show JW (jof X) (k + 1) (n + 6) 324 [some (.ref 2000000), some (.ref 0), some (.ref 70), some (.ref 85), some (.int i), none, none, none] [.int v1.1] (hLaw (jp2 G 0 70 85 1 v1.2.1) (jp2 J 0 70 85 1 v1.2.2))
  obtain ⟨G3, e4, h⟩ := jlE h
  rw [e4]
  obtain ⟨J5, e6, h⟩ := jlE h
  rw [e6]
  refine JW.rebY (hM.off (hT2 _)) (hT1 _) (B := 94) (Nat.le_of_ble_eq_true rfl) (Nat.le_of_ble_eq_true rfl) rfl rfl rfl ?_
  clear hM
  intro X hM
  refine JW.rZ hM 8 7 (pc2 := 333) (L2 := [some (.ref 2000000), some (.ref 0), some (.ref 70), some (.ref 85), some (.int i), some (.int v1.1), none, none]) (st2 := [.int (xs (i + (1 : Int32)).toNatClampNeg), .ref 70]) (μ2 := (hLaw G3 J5)) rfl ⟨hj1, trivial⟩ ?_
  obtain ⟨v7, hv8, h⟩ := jbd h
  refine JW.cVZ (v := some (.int v7.1)) hM (m_X6_town (jVX X) hM.1.2.2.2.2.2.2.2.2.2.1 N (jvw G3 70) (jvw J5 70) (xs (i + (1 : Int32)).toNatClampNeg) v7 hv8) (sb_Law_Mo_70 G3 J5) (bk_Law_Mo_70 G3 J5 v7.2 (jvw J5 70)) rfl rfl rfl kc_L_139 rfl rfl rfl rfl (show k + 1 + 0 ≤ 601024 from by omega) (show n + 6 + 0 ≤ 7293034 from by omega) rfl (jat hM.2.1 15 rfl) (st := []) rfl ?_
  show JW X (k + 1 + 0) (n + 6 + 0) 336 [some (.ref 2000000), some (.ref 0), some (.ref 70), some (.ref 85), some (.int i), some (.int v1.1), none, none] [.int v7.1] (hLaw (jpt G3 70 15 v7.2) J5)
  obtain ⟨G9, e10, h⟩ := jlE h
  rw [e10]
  refine JW.rZ hM 16 2 (pc2 := 339) (L2 := [some (.ref 2000000), some (.ref 0), some (.ref 70), some (.ref 85), some (.int i), some (.int v1.1), some (.int v7.1), none]) (st2 := [.ref 70]) (μ2 := (hLaw G9 J5)) rfl trivial ?_
  obtain ⟨v11, hv12, h⟩ := jbd h
  refine JW.cVZ (v := some (.int v11)) hM (m_X6_thrown (jVX X) hM.1.2.2.2.2.2.2.2.2.2.1 N (jvw G9 70) (jvw J5 70) v11 hv12) (sb_Law_Mo_70 G9 J5) (bi_Law_Mo_70 G9 J5) rfl rfl rfl kc_L_140 rfl rfl rfl rfl (show k + 1 + 0 + 0 ≤ 601024 from by omega) (show n + 6 + 0 + 0 ≤ 7293034 from by omega) rfl (jat hM.2.1 18 rfl) (st := []) rfl ?_
  show JW X (k + 1 + 0 + 0) (n + 6 + 0 + 0) 342 [some (.ref 2000000), some (.ref 0), some (.ref 70), some (.ref 85), some (.int i), some (.int v1.1), some (.int v7.1), none] [.int v11] (hLaw G9 J5)
  refine JW.rZ hM 19 1 (pc2 := 344) (L2 := [some (.ref 2000000), some (.ref 0), some (.ref 70), some (.ref 85), some (.int i), some (.int v1.1), some (.int v7.1), none]) (st2 := [.int v1.1, .int v11]) (μ2 := (hLaw G9 J5)) rfl trivial ?_
  refine js_iceq (t := 349) hM.1 (jat hM.2.1 20 rfl) rfl (fun hc15 => ?_) (fun hc15 => ?_)
  · have h := (if_pos hc15).symm.trans h
    refine JW.rZ hM 23 1 (pc2 := 351) (L2 := [some (.ref 2000000), some (.ref 0), some (.ref 70), some (.ref 85), some (.int i), some (.int v1.1), some (.int v7.1), none]) (st2 := [.int v1.1]) (μ2 := (hLaw G9 J5)) rfl trivial ?_
    refine js_ifne (t := 366) hM.1 (jat hM.2.1 24 rfl) rfl (fun hc14 => ?_) (fun hc14 => ?_)
    · have h := (if_neg hc14).symm.trans h
      refine JW.rZ hM 34 1 (pc2 := 2667) (L2 := [some (.ref 2000000), some (.ref 0), some (.ref 70), some (.ref 85), some (.int i), some (.int v1.1), some (.int v7.1), none]) (st2 := []) (μ2 := (hLaw G9 J5)) rfl trivial ?_
      obtain rfl := Option.some.inj h
      refine JW.widen (k2 := k + 40) (n2 := n + 240) (by omega) (by omega) (JW.mask [true, true, true, true, true, false, false, false] ?_)
      exact K X hM
    · have h := (if_pos hc14).symm.trans h
      refine JW.rZ hM 25 6 (pc2 := 361) (L2 := [some (.ref 2000000), some (.ref 0), some (.ref 70), some (.ref 85), some (.int i), some (.int v1.1), some (.int v7.1), none]) (st2 := [.int (lg_cmp (J5 85 0) (v7.1.toInt64))]) (μ2 := (hLaw G9 J5)) rfl ⟨rfl, trivial⟩ ?_
      refine js_ifeq (t := 366) hM.1 (jat hM.2.1 31 rfl) rfl (fun hc13 => ?_) (fun hc13 => ?_)
      · have h := (if_pos hc13).symm.trans h
        refine JW.rZ hM 34 1 (pc2 := 2667) (L2 := [some (.ref 2000000), some (.ref 0), some (.ref 70), some (.ref 85), some (.int i), some (.int v1.1), some (.int v7.1), none]) (st2 := []) (μ2 := (hLaw G9 J5)) rfl trivial ?_
        obtain rfl := Option.some.inj h
        refine JW.widen (k2 := k + 40) (n2 := n + 240) (by omega) (by omega) (JW.mask [true, true, true, true, true, false, false, false] ?_)
        exact K X hM
      · have h := (if_neg hc13).symm.trans h
        cases h
  · have h := (if_neg hc15).symm.trans h
    cases h

def p_case_2 (N : Nat) (xs : Nat → Int32) (G : Nat → Nat → Int32) (J : Nat → Nat → Int64) (i : Int32) : Option ((Nat → Nat → Int32) × (Nat → Nat → Int64)) :=
  (p_X5_fault N (jvw G 0) (jvw J 0) (xs (i + (1 : Int32)).toNatClampNeg)).bind (fun v1 => (p_X6_fault N (jvw G 70) (jvw J 70) (xs (i + (1 : Int32)).toNatClampNeg)).bind (fun v3 => jlt (jpt G 70 15 v3.2) fun G5 => if v1 = v3.1 then (some (G5, J)) else (none)))
set_option maxHeartbeats 4000000 in
set_option maxRecDepth 100000 in
theorem t_case_2 {Tz : jX → Prop} (hT1 : ∀ X ad al, Tz X → Tz (jxa X ad al)) (hT2 : ∀ X, Tz X → Tz (jof X)) {Ln : Nat} {xs : Nat → Int32} {X : jX} {k n : Nat} (hM : jMZ Tz X kL_c2 RL (tbLZ Ln xs) 8 ⟨12, 601024, 7293034, 436⟩ (some .boolean) 94) (hk : k + 40 ≤ 601024) (hn : n + 240 ≤ 7293034) (N : Nat) (G : Nat → Nat → Int32) (J : Nat → Nat → Int64) (i : Int32) (hj1 : jin (i + 1) Ln = true) (hj2 : jin (i + 2) Ln = true) (hj3 : jin (i + 3) Ln = true) (hj4 : jin (i + 4) Ln = true) (hj5 : jin (i + 5) Ln = true) (res : (Nat → Nat → Int32) × (Nat → Nat → Int64)) (h : p_case_2 N xs G J i = some res) (K : ∀ X9, jMZ Tz X9 kL_c2 RL (tbLZ Ln xs) 8 ⟨12, 601024, 7293034, 436⟩ (some .boolean) 94 → JW X9 (k + 40) (n + 240) 2667 [some (.ref 2000000), some (.ref 0), some (.ref 70), some (.ref 85), some (.int i), none, none, none] [] (hLaw res.1 res.2)) : JW X k n 369 [some (.ref 2000000), some (.ref 0), some (.ref 70), some (.ref 85), some (.int i), none, none, none] [] (hLaw G J) := by
  unfold p_case_2 at h
  refine JW.rZ hM 0 6 (pc2 := 376) (L2 := [some (.ref 2000000), some (.ref 0), some (.ref 70), some (.ref 85), some (.int i), none, none, none]) (st2 := [.int (xs (i + (1 : Int32)).toNatClampNeg), .ref 0]) (μ2 := (hLaw G J)) rfl ⟨hj1, trivial⟩ ?_
  obtain ⟨v1, hv2, h⟩ := jbd h
  refine JW.cVZ (v := some (.int v1)) hM (m_X5_fault (jVX X) hM.1.2.2.2.2.2.2.2.2.2.1 N (jvw G 0) (jvw J 0) (xs (i + (1 : Int32)).toNatClampNeg) v1 hv2) (sb_Law_X_0 G J) (bi_Law_X_0 G J) rfl rfl rfl kc_L_143 rfl rfl rfl rfl (show k + 0 ≤ 601024 from by omega) (show n + 0 ≤ 7293034 from by omega) rfl (jat hM.2.1 6 rfl) (st := []) rfl ?_
  show JW X (k + 0) (n + 0) 379 [some (.ref 2000000), some (.ref 0), some (.ref 70), some (.ref 85), some (.int i), none, none, none] [.int v1] (hLaw G J)
  refine JW.rZ hM 7 6 (pc2 := 386) (L2 := [some (.ref 2000000), some (.ref 0), some (.ref 70), some (.ref 85), some (.int i), none, none, none]) (st2 := [.int (xs (i + (1 : Int32)).toNatClampNeg), .ref 70, .int v1]) (μ2 := (hLaw G J)) rfl ⟨hj1, trivial⟩ ?_
  obtain ⟨v3, hv4, h⟩ := jbd h
  refine JW.cVZ (v := some (.int v3.1)) hM (m_X6_fault (jVX X) hM.1.2.2.2.2.2.2.2.2.2.1 N (jvw G 70) (jvw J 70) (xs (i + (1 : Int32)).toNatClampNeg) v3 hv4) (sb_Law_Mo_70 G J) (bk_Law_Mo_70 G J v3.2 (jvw J 70)) rfl rfl rfl kc_L_146 rfl rfl rfl rfl (show k + 0 + 0 ≤ 601024 from by omega) (show n + 0 + 0 ≤ 7293034 from by omega) rfl (jat hM.2.1 13 rfl) (st := [.int v1]) rfl ?_
  show JW X (k + 0 + 0) (n + 0 + 0) 389 [some (.ref 2000000), some (.ref 0), some (.ref 70), some (.ref 85), some (.int i), none, none, none] [.int v3.1, .int v1] (hLaw (jpt G 70 15 v3.2) J)
  obtain ⟨G5, e6, h⟩ := jlE h
  rw [e6]
  refine js_iceq (t := 2667) hM.1 (jat hM.2.1 14 rfl) rfl (fun hc7 => ?_) (fun hc7 => ?_)
  · have h := (if_pos hc7).symm.trans h
    obtain rfl := Option.some.inj h
    refine JW.widen (k2 := k + 40) (n2 := n + 240) (by omega) (by omega) (JW.mask [true, true, true, true, true, false, false, false] ?_)
    exact K X hM
  · have h := (if_neg hc7).symm.trans h
    cases h

def p_case_3 (N : Nat) (xs : Nat → Int32) (G : Nat → Nat → Int32) (J : Nat → Nat → Int64) (i : Int32) : Option ((Nat → Nat → Int32) × (Nat → Nat → Int64)) :=
  (p_L_person N (jv2 G 0 70 85) (jv2 J 0 70 85) (xs (i + (1 : Int32)).toNatClampNeg) (xs (i + (2 : Int32)).toNatClampNeg)).bind (fun v1 => jlt (jp2 J 0 70 85 1 v1.2) fun J3 => (p_X6_person N (jvw G 70) (jvw J3 70) (xs (i + (1 : Int32)).toNatClampNeg) (xs (i + (2 : Int32)).toNatClampNeg)).bind (fun v5 => jlt (jpt G 70 15 v5.2) fun G7 => (p_X6_thrown N (jvw G7 70) (jvw J3 70)).bind (fun v9 => if v9 = v1.1 then (if v1.1 = 0 then (if (lg_cmp (J3 85 0) (v5.1.toInt64)) = 0 then (some (G7, J3)) else (none)) else (some (G7, J3))) else (none))))
set_option maxHeartbeats 4000000 in
set_option maxRecDepth 100000 in
theorem t_case_3 {Tz : jX → Prop} (hT1 : ∀ X ad al, Tz X → Tz (jxa X ad al)) (hT2 : ∀ X, Tz X → Tz (jof X)) {Ln : Nat} {xs : Nat → Int32} {X : jX} {k n : Nat} (hM : jMZ Tz X kL_c3 RL (tbLZ Ln xs) 8 ⟨12, 601024, 7293034, 436⟩ (some .boolean) 94) (hk : k + 40 ≤ 601024) (hn : n + 240 ≤ 7293034) (N : Nat) (G : Nat → Nat → Int32) (J : Nat → Nat → Int64) (i : Int32) (hj1 : jin (i + 1) Ln = true) (hj2 : jin (i + 2) Ln = true) (hj3 : jin (i + 3) Ln = true) (hj4 : jin (i + 4) Ln = true) (hj5 : jin (i + 5) Ln = true) (res : (Nat → Nat → Int32) × (Nat → Nat → Int64)) (h : p_case_3 N xs G J i = some res) (K : ∀ X9, jMZ Tz X9 kL_c3 RL (tbLZ Ln xs) 8 ⟨12, 601024, 7293034, 436⟩ (some .boolean) 94 → JW X9 (k + 40) (n + 240) 2667 [some (.ref 2000000), some (.ref 0), some (.ref 70), some (.ref 85), some (.int i), none, none, none] [] (hLaw res.1 res.2)) : JW X k n 394 [some (.ref 2000000), some (.ref 0), some (.ref 70), some (.ref 85), some (.int i), none, none, none] [] (hLaw G J) := by
  unfold p_case_3 at h
  refine JW.rZ hM 0 12 (pc2 := 408) (L2 := [some (.ref 2000000), some (.ref 0), some (.ref 70), some (.ref 85), some (.int i), none, none, none]) (st2 := [.ref 85, .int (xs (i + (2 : Int32)).toNatClampNeg), .int (xs (i + (1 : Int32)).toNatClampNeg), .ref 0]) (μ2 := (hLaw G J)) rfl ⟨hj1, hj2, trivial⟩ ?_
  obtain ⟨v1, hv2, h⟩ := jbd h
  refine JW.cHZ (v := some (.int v1.1)) hM (m_L_person (jVX X) hM.1.2.2.2.2.2.2.2.2.2.1 N (jv2 G 0 70 85) (jv2 J 0 70 85) (xs (i + (1 : Int32)).toNatClampNeg) (xs (i + (2 : Int32)).toNatClampNeg) v1 hv2) (sb_Law_W_0_85 G J) (bk_Law_W_0_85 G J (jv2 G 0 70 85) v1.2) rfl rfl rfl kh_L_147 rfl rfl (show k + 2 ≤ 601024 from by omega) (show n + 12 ≤ 7293034 from by omega) rfl (jat hM.2.1 12 rfl) (st := []) rfl ?_
  show JW (jof X) (k + 2) (n + 12) 411 [some (.ref 2000000), some (.ref 0), some (.ref 70), some (.ref 85), some (.int i), none, none, none] [.int v1.1] (hLaw G (jp2 J 0 70 85 1 v1.2))
  obtain ⟨J3, e4, h⟩ := jlE h
  rw [e4]
  refine JW.rebY (hM.off (hT2 _)) (hT1 _) (B := 94) (Nat.le_of_ble_eq_true rfl) (Nat.le_of_ble_eq_true rfl) rfl rfl rfl ?_
  clear hM
  intro X hM
  refine JW.rZ hM 13 12 (pc2 := 426) (L2 := [some (.ref 2000000), some (.ref 0), some (.ref 70), some (.ref 85), some (.int i), some (.int v1.1), none, none]) (st2 := [.int (xs (i + (2 : Int32)).toNatClampNeg), .int (xs (i + (1 : Int32)).toNatClampNeg), .ref 70]) (μ2 := (hLaw G J3)) rfl ⟨hj1, hj2, trivial⟩ ?_
  obtain ⟨v5, hv6, h⟩ := jbd h
  refine JW.cVZ (v := some (.int v5.1)) hM (m_X6_person (jVX X) hM.1.2.2.2.2.2.2.2.2.2.1 N (jvw G 70) (jvw J3 70) (xs (i + (1 : Int32)).toNatClampNeg) (xs (i + (2 : Int32)).toNatClampNeg) v5 hv6) (sb_Law_Mo_70 G J3) (bk_Law_Mo_70 G J3 v5.2 (jvw J3 70)) rfl rfl rfl kc_L_150 rfl rfl rfl rfl (show k + 2 + 0 ≤ 601024 from by omega) (show n + 12 + 0 ≤ 7293034 from by omega) rfl (jat hM.2.1 25 rfl) (st := []) rfl ?_
  show JW X (k + 2 + 0) (n + 12 + 0) 429 [some (.ref 2000000), some (.ref 0), some (.ref 70), some (.ref 85), some (.int i), some (.int v1.1), none, none] [.int v5.1] (hLaw (jpt G 70 15 v5.2) J3)
  obtain ⟨G7, e8, h⟩ := jlE h
  rw [e8]
  refine JW.rZ hM 26 2 (pc2 := 432) (L2 := [some (.ref 2000000), some (.ref 0), some (.ref 70), some (.ref 85), some (.int i), some (.int v1.1), some (.int v5.1), none]) (st2 := [.ref 70]) (μ2 := (hLaw G7 J3)) rfl trivial ?_
  obtain ⟨v9, hv10, h⟩ := jbd h
  refine JW.cVZ (v := some (.int v9)) hM (m_X6_thrown (jVX X) hM.1.2.2.2.2.2.2.2.2.2.1 N (jvw G7 70) (jvw J3 70) v9 hv10) (sb_Law_Mo_70 G7 J3) (bi_Law_Mo_70 G7 J3) rfl rfl rfl kc_L_140 rfl rfl rfl rfl (show k + 2 + 0 + 0 ≤ 601024 from by omega) (show n + 12 + 0 + 0 ≤ 7293034 from by omega) rfl (jat hM.2.1 28 rfl) (st := []) rfl ?_
  show JW X (k + 2 + 0 + 0) (n + 12 + 0 + 0) 435 [some (.ref 2000000), some (.ref 0), some (.ref 70), some (.ref 85), some (.int i), some (.int v1.1), some (.int v5.1), none] [.int v9] (hLaw G7 J3)
  refine JW.rZ hM 29 1 (pc2 := 437) (L2 := [some (.ref 2000000), some (.ref 0), some (.ref 70), some (.ref 85), some (.int i), some (.int v1.1), some (.int v5.1), none]) (st2 := [.int v1.1, .int v9]) (μ2 := (hLaw G7 J3)) rfl trivial ?_
  refine js_iceq (t := 442) hM.1 (jat hM.2.1 30 rfl) rfl (fun hc13 => ?_) (fun hc13 => ?_)
  · have h := (if_pos hc13).symm.trans h
    refine JW.rZ hM 33 1 (pc2 := 444) (L2 := [some (.ref 2000000), some (.ref 0), some (.ref 70), some (.ref 85), some (.int i), some (.int v1.1), some (.int v5.1), none]) (st2 := [.int v1.1]) (μ2 := (hLaw G7 J3)) rfl trivial ?_
    refine js_ifne (t := 459) hM.1 (jat hM.2.1 34 rfl) rfl (fun hc12 => ?_) (fun hc12 => ?_)
    · have h := (if_neg hc12).symm.trans h
      refine JW.rZ hM 44 1 (pc2 := 2667) (L2 := [some (.ref 2000000), some (.ref 0), some (.ref 70), some (.ref 85), some (.int i), some (.int v1.1), some (.int v5.1), none]) (st2 := []) (μ2 := (hLaw G7 J3)) rfl trivial ?_
      obtain rfl := Option.some.inj h
      refine JW.widen (k2 := k + 40) (n2 := n + 240) (by omega) (by omega) (JW.mask [true, true, true, true, true, false, false, false] ?_)
      exact K X hM
    · have h := (if_pos hc12).symm.trans h
      refine JW.rZ hM 35 6 (pc2 := 454) (L2 := [some (.ref 2000000), some (.ref 0), some (.ref 70), some (.ref 85), some (.int i), some (.int v1.1), some (.int v5.1), none]) (st2 := [.int (lg_cmp (J3 85 0) (v5.1.toInt64))]) (μ2 := (hLaw G7 J3)) rfl ⟨rfl, trivial⟩ ?_
      refine js_ifeq (t := 459) hM.1 (jat hM.2.1 41 rfl) rfl (fun hc11 => ?_) (fun hc11 => ?_)
      · have h := (if_pos hc11).symm.trans h
        refine JW.rZ hM 44 1 (pc2 := 2667) (L2 := [some (.ref 2000000), some (.ref 0), some (.ref 70), some (.ref 85), some (.int i), some (.int v1.1), some (.int v5.1), none]) (st2 := []) (μ2 := (hLaw G7 J3)) rfl trivial ?_
        obtain rfl := Option.some.inj h
        refine JW.widen (k2 := k + 40) (n2 := n + 240) (by omega) (by omega) (JW.mask [true, true, true, true, true, false, false, false] ?_)
        exact K X hM
      · have h := (if_neg hc11).symm.trans h
        cases h
  · have h := (if_neg hc13).symm.trans h
    cases h

def p_case_4 (N : Nat) (xs : Nat → Int32) (G : Nat → Nat → Int32) (J : Nat → Nat → Int64) (i : Int32) : Option ((Nat → Nat → Int32) × (Nat → Nat → Int64)) :=
  (p_L_worth N (jv2 G 0 70 85) (jv2 J 0 70 85) (xs (i + (1 : Int32)).toNatClampNeg) (xs (i + (2 : Int32)).toNatClampNeg)).bind (fun v1 => jlt (jp2 J 0 70 85 1 v1.2) fun J3 => (p_X6_worth N (jvw G 70) (jvw J3 70) (xs (i + (1 : Int32)).toNatClampNeg) (xs (i + (2 : Int32)).toNatClampNeg)).bind (fun v5 => jlt (jpt G 70 15 v5.2) fun G7 => (p_X6_thrown N (jvw G7 70) (jvw J3 70)).bind (fun v9 => if v9 = v1.1 then (if v1.1 = 0 then (if (lg_cmp (J3 85 0) (v5.1.toInt64)) = 0 then (some (G7, J3)) else (none)) else (some (G7, J3))) else (none))))
set_option maxHeartbeats 4000000 in
set_option maxRecDepth 100000 in
theorem t_case_4 {Tz : jX → Prop} (hT1 : ∀ X ad al, Tz X → Tz (jxa X ad al)) (hT2 : ∀ X, Tz X → Tz (jof X)) {Ln : Nat} {xs : Nat → Int32} {X : jX} {k n : Nat} (hM : jMZ Tz X kL_c4 RL (tbLZ Ln xs) 8 ⟨12, 601024, 7293034, 436⟩ (some .boolean) 94) (hk : k + 40 ≤ 601024) (hn : n + 240 ≤ 7293034) (N : Nat) (G : Nat → Nat → Int32) (J : Nat → Nat → Int64) (i : Int32) (hj1 : jin (i + 1) Ln = true) (hj2 : jin (i + 2) Ln = true) (hj3 : jin (i + 3) Ln = true) (hj4 : jin (i + 4) Ln = true) (hj5 : jin (i + 5) Ln = true) (res : (Nat → Nat → Int32) × (Nat → Nat → Int64)) (h : p_case_4 N xs G J i = some res) (K : ∀ X9, jMZ Tz X9 kL_c4 RL (tbLZ Ln xs) 8 ⟨12, 601024, 7293034, 436⟩ (some .boolean) 94 → JW X9 (k + 40) (n + 240) 2667 [some (.ref 2000000), some (.ref 0), some (.ref 70), some (.ref 85), some (.int i), none, none, none] [] (hLaw res.1 res.2)) : JW X k n 462 [some (.ref 2000000), some (.ref 0), some (.ref 70), some (.ref 85), some (.int i), none, none, none] [] (hLaw G J) := by
  unfold p_case_4 at h
  refine JW.rZ hM 0 12 (pc2 := 476) (L2 := [some (.ref 2000000), some (.ref 0), some (.ref 70), some (.ref 85), some (.int i), none, none, none]) (st2 := [.ref 85, .int (xs (i + (2 : Int32)).toNatClampNeg), .int (xs (i + (1 : Int32)).toNatClampNeg), .ref 0]) (μ2 := (hLaw G J)) rfl ⟨hj1, hj2, trivial⟩ ?_
  obtain ⟨v1, hv2, h⟩ := jbd h
  refine JW.cHZ (v := some (.int v1.1)) hM (m_L_worth (jVX X) hM.1.2.2.2.2.2.2.2.2.2.1 N (jv2 G 0 70 85) (jv2 J 0 70 85) (xs (i + (1 : Int32)).toNatClampNeg) (xs (i + (2 : Int32)).toNatClampNeg) v1 hv2) (sb_Law_W_0_85 G J) (bk_Law_W_0_85 G J (jv2 G 0 70 85) v1.2) rfl rfl rfl kh_L_151 rfl rfl (show k + 2 ≤ 601024 from by omega) (show n + 12 ≤ 7293034 from by omega) rfl (jat hM.2.1 12 rfl) (st := []) rfl ?_
  show JW (jof X) (k + 2) (n + 12) 479 [some (.ref 2000000), some (.ref 0), some (.ref 70), some (.ref 85), some (.int i), none, none, none] [.int v1.1] (hLaw G (jp2 J 0 70 85 1 v1.2))
  obtain ⟨J3, e4, h⟩ := jlE h
  rw [e4]
  refine JW.rebY (hM.off (hT2 _)) (hT1 _) (B := 94) (Nat.le_of_ble_eq_true rfl) (Nat.le_of_ble_eq_true rfl) rfl rfl rfl ?_
  clear hM
  intro X hM
  refine JW.rZ hM 13 12 (pc2 := 494) (L2 := [some (.ref 2000000), some (.ref 0), some (.ref 70), some (.ref 85), some (.int i), some (.int v1.1), none, none]) (st2 := [.int (xs (i + (2 : Int32)).toNatClampNeg), .int (xs (i + (1 : Int32)).toNatClampNeg), .ref 70]) (μ2 := (hLaw G J3)) rfl ⟨hj1, hj2, trivial⟩ ?_
  obtain ⟨v5, hv6, h⟩ := jbd h
  refine JW.cVZ (v := some (.int v5.1)) hM (m_X6_worth (jVX X) hM.1.2.2.2.2.2.2.2.2.2.1 N (jvw G 70) (jvw J3 70) (xs (i + (1 : Int32)).toNatClampNeg) (xs (i + (2 : Int32)).toNatClampNeg) v5 hv6) (sb_Law_Mo_70 G J3) (bk_Law_Mo_70 G J3 v5.2 (jvw J3 70)) rfl rfl rfl kc_L_153 rfl rfl rfl rfl (show k + 2 + 0 ≤ 601024 from by omega) (show n + 12 + 0 ≤ 7293034 from by omega) rfl (jat hM.2.1 25 rfl) (st := []) rfl ?_
  show JW X (k + 2 + 0) (n + 12 + 0) 497 [some (.ref 2000000), some (.ref 0), some (.ref 70), some (.ref 85), some (.int i), some (.int v1.1), none, none] [.int v5.1] (hLaw (jpt G 70 15 v5.2) J3)
  obtain ⟨G7, e8, h⟩ := jlE h
  rw [e8]
  refine JW.rZ hM 26 2 (pc2 := 500) (L2 := [some (.ref 2000000), some (.ref 0), some (.ref 70), some (.ref 85), some (.int i), some (.int v1.1), some (.int v5.1), none]) (st2 := [.ref 70]) (μ2 := (hLaw G7 J3)) rfl trivial ?_
  obtain ⟨v9, hv10, h⟩ := jbd h
  refine JW.cVZ (v := some (.int v9)) hM (m_X6_thrown (jVX X) hM.1.2.2.2.2.2.2.2.2.2.1 N (jvw G7 70) (jvw J3 70) v9 hv10) (sb_Law_Mo_70 G7 J3) (bi_Law_Mo_70 G7 J3) rfl rfl rfl kc_L_140 rfl rfl rfl rfl (show k + 2 + 0 + 0 ≤ 601024 from by omega) (show n + 12 + 0 + 0 ≤ 7293034 from by omega) rfl (jat hM.2.1 28 rfl) (st := []) rfl ?_
  show JW X (k + 2 + 0 + 0) (n + 12 + 0 + 0) 503 [some (.ref 2000000), some (.ref 0), some (.ref 70), some (.ref 85), some (.int i), some (.int v1.1), some (.int v5.1), none] [.int v9] (hLaw G7 J3)
  refine JW.rZ hM 29 1 (pc2 := 505) (L2 := [some (.ref 2000000), some (.ref 0), some (.ref 70), some (.ref 85), some (.int i), some (.int v1.1), some (.int v5.1), none]) (st2 := [.int v1.1, .int v9]) (μ2 := (hLaw G7 J3)) rfl trivial ?_
  refine js_iceq (t := 510) hM.1 (jat hM.2.1 30 rfl) rfl (fun hc13 => ?_) (fun hc13 => ?_)
  · have h := (if_pos hc13).symm.trans h
    refine JW.rZ hM 33 1 (pc2 := 512) (L2 := [some (.ref 2000000), some (.ref 0), some (.ref 70), some (.ref 85), some (.int i), some (.int v1.1), some (.int v5.1), none]) (st2 := [.int v1.1]) (μ2 := (hLaw G7 J3)) rfl trivial ?_
    refine js_ifne (t := 527) hM.1 (jat hM.2.1 34 rfl) rfl (fun hc12 => ?_) (fun hc12 => ?_)
    · have h := (if_neg hc12).symm.trans h
      refine JW.rZ hM 44 1 (pc2 := 2667) (L2 := [some (.ref 2000000), some (.ref 0), some (.ref 70), some (.ref 85), some (.int i), some (.int v1.1), some (.int v5.1), none]) (st2 := []) (μ2 := (hLaw G7 J3)) rfl trivial ?_
      obtain rfl := Option.some.inj h
      refine JW.widen (k2 := k + 40) (n2 := n + 240) (by omega) (by omega) (JW.mask [true, true, true, true, true, false, false, false] ?_)
      exact K X hM
    · have h := (if_pos hc12).symm.trans h
      refine JW.rZ hM 35 6 (pc2 := 522) (L2 := [some (.ref 2000000), some (.ref 0), some (.ref 70), some (.ref 85), some (.int i), some (.int v1.1), some (.int v5.1), none]) (st2 := [.int (lg_cmp (J3 85 0) (v5.1.toInt64))]) (μ2 := (hLaw G7 J3)) rfl ⟨rfl, trivial⟩ ?_
      refine js_ifeq (t := 527) hM.1 (jat hM.2.1 41 rfl) rfl (fun hc11 => ?_) (fun hc11 => ?_)
      · have h := (if_pos hc11).symm.trans h
        refine JW.rZ hM 44 1 (pc2 := 2667) (L2 := [some (.ref 2000000), some (.ref 0), some (.ref 70), some (.ref 85), some (.int i), some (.int v1.1), some (.int v5.1), none]) (st2 := []) (μ2 := (hLaw G7 J3)) rfl trivial ?_
        obtain rfl := Option.some.inj h
        refine JW.widen (k2 := k + 40) (n2 := n + 240) (by omega) (by omega) (JW.mask [true, true, true, true, true, false, false, false] ?_)
        exact K X hM
      · have h := (if_neg hc11).symm.trans h
        cases h
  · have h := (if_neg hc13).symm.trans h
    cases h

def p_case_5 (N : Nat) (xs : Nat → Int32) (G : Nat → Nat → Int32) (J : Nat → Nat → Int64) (i : Int32) : Option ((Nat → Nat → Int32) × (Nat → Nat → Int64)) :=
  (p_L_holder N (jv2 G 0 70 85) (jv2 J 0 70 85) (xs (i + (1 : Int32)).toNatClampNeg)).bind (fun v1 => jlt (jp2 J 0 70 85 1 v1.2) fun J3 => (p_X6_holder N (jvw G 70) (jvw J3 70) (xs (i + (1 : Int32)).toNatClampNeg)).bind (fun v5 => jlt (jpt G 70 15 v5.2) fun G7 => (p_X6_thrown N (jvw G7 70) (jvw J3 70)).bind (fun v9 => if v9 = v1.1 then (if v1.1 = 0 then (if (lg_cmp (J3 85 0) (v5.1.toInt64)) = 0 then (some (G7, J3)) else (none)) else (some (G7, J3))) else (none))))
set_option maxHeartbeats 4000000 in
set_option maxRecDepth 100000 in
theorem t_case_5 {Tz : jX → Prop} (hT1 : ∀ X ad al, Tz X → Tz (jxa X ad al)) (hT2 : ∀ X, Tz X → Tz (jof X)) {Ln : Nat} {xs : Nat → Int32} {X : jX} {k n : Nat} (hM : jMZ Tz X kL_c5 RL (tbLZ Ln xs) 8 ⟨12, 601024, 7293034, 436⟩ (some .boolean) 94) (hk : k + 40 ≤ 601024) (hn : n + 240 ≤ 7293034) (N : Nat) (G : Nat → Nat → Int32) (J : Nat → Nat → Int64) (i : Int32) (hj1 : jin (i + 1) Ln = true) (hj2 : jin (i + 2) Ln = true) (hj3 : jin (i + 3) Ln = true) (hj4 : jin (i + 4) Ln = true) (hj5 : jin (i + 5) Ln = true) (res : (Nat → Nat → Int32) × (Nat → Nat → Int64)) (h : p_case_5 N xs G J i = some res) (K : ∀ X9, jMZ Tz X9 kL_c5 RL (tbLZ Ln xs) 8 ⟨12, 601024, 7293034, 436⟩ (some .boolean) 94 → JW X9 (k + 40) (n + 240) 2667 [some (.ref 2000000), some (.ref 0), some (.ref 70), some (.ref 85), some (.int i), none, none, none] [] (hLaw res.1 res.2)) : JW X k n 530 [some (.ref 2000000), some (.ref 0), some (.ref 70), some (.ref 85), some (.int i), none, none, none] [] (hLaw G J) := by
  unfold p_case_5 at h
  refine JW.rZ hM 0 7 (pc2 := 538) (L2 := [some (.ref 2000000), some (.ref 0), some (.ref 70), some (.ref 85), some (.int i), none, none, none]) (st2 := [.ref 85, .int (xs (i + (1 : Int32)).toNatClampNeg), .ref 0]) (μ2 := (hLaw G J)) rfl ⟨hj1, trivial⟩ ?_
  obtain ⟨v1, hv2, h⟩ := jbd h
  refine JW.cHZ (v := some (.int v1.1)) hM (m_L_holder (jVX X) hM.1.2.2.2.2.2.2.2.2.2.1 N (jv2 G 0 70 85) (jv2 J 0 70 85) (xs (i + (1 : Int32)).toNatClampNeg) v1 hv2) (sb_Law_W_0_85 G J) (bk_Law_W_0_85 G J (jv2 G 0 70 85) v1.2) rfl rfl rfl kh_L_154 rfl rfl (show k + 1 ≤ 601024 from by omega) (show n + 6 ≤ 7293034 from by omega) rfl (jat hM.2.1 7 rfl) (st := []) rfl ?_
  show JW (jof X) (k + 1) (n + 6) 541 [some (.ref 2000000), some (.ref 0), some (.ref 70), some (.ref 85), some (.int i), none, none, none] [.int v1.1] (hLaw G (jp2 J 0 70 85 1 v1.2))
  obtain ⟨J3, e4, h⟩ := jlE h
  rw [e4]
  refine JW.rebY (hM.off (hT2 _)) (hT1 _) (B := 94) (Nat.le_of_ble_eq_true rfl) (Nat.le_of_ble_eq_true rfl) rfl rfl rfl ?_
  clear hM
  intro X hM
  refine JW.rZ hM 8 7 (pc2 := 550) (L2 := [some (.ref 2000000), some (.ref 0), some (.ref 70), some (.ref 85), some (.int i), some (.int v1.1), none, none]) (st2 := [.int (xs (i + (1 : Int32)).toNatClampNeg), .ref 70]) (μ2 := (hLaw G J3)) rfl ⟨hj1, trivial⟩ ?_
  obtain ⟨v5, hv6, h⟩ := jbd h
  refine JW.cVZ (v := some (.int v5.1)) hM (m_X6_holder (jVX X) hM.1.2.2.2.2.2.2.2.2.2.1 N (jvw G 70) (jvw J3 70) (xs (i + (1 : Int32)).toNatClampNeg) v5 hv6) (sb_Law_Mo_70 G J3) (bk_Law_Mo_70 G J3 v5.2 (jvw J3 70)) rfl rfl rfl kc_L_156 rfl rfl rfl rfl (show k + 1 + 0 ≤ 601024 from by omega) (show n + 6 + 0 ≤ 7293034 from by omega) rfl (jat hM.2.1 15 rfl) (st := []) rfl ?_
  show JW X (k + 1 + 0) (n + 6 + 0) 553 [some (.ref 2000000), some (.ref 0), some (.ref 70), some (.ref 85), some (.int i), some (.int v1.1), none, none] [.int v5.1] (hLaw (jpt G 70 15 v5.2) J3)
  obtain ⟨G7, e8, h⟩ := jlE h
  rw [e8]
  refine JW.rZ hM 16 2 (pc2 := 556) (L2 := [some (.ref 2000000), some (.ref 0), some (.ref 70), some (.ref 85), some (.int i), some (.int v1.1), some (.int v5.1), none]) (st2 := [.ref 70]) (μ2 := (hLaw G7 J3)) rfl trivial ?_
  obtain ⟨v9, hv10, h⟩ := jbd h
  refine JW.cVZ (v := some (.int v9)) hM (m_X6_thrown (jVX X) hM.1.2.2.2.2.2.2.2.2.2.1 N (jvw G7 70) (jvw J3 70) v9 hv10) (sb_Law_Mo_70 G7 J3) (bi_Law_Mo_70 G7 J3) rfl rfl rfl kc_L_140 rfl rfl rfl rfl (show k + 1 + 0 + 0 ≤ 601024 from by omega) (show n + 6 + 0 + 0 ≤ 7293034 from by omega) rfl (jat hM.2.1 18 rfl) (st := []) rfl ?_
  show JW X (k + 1 + 0 + 0) (n + 6 + 0 + 0) 559 [some (.ref 2000000), some (.ref 0), some (.ref 70), some (.ref 85), some (.int i), some (.int v1.1), some (.int v5.1), none] [.int v9] (hLaw G7 J3)
  refine JW.rZ hM 19 1 (pc2 := 561) (L2 := [some (.ref 2000000), some (.ref 0), some (.ref 70), some (.ref 85), some (.int i), some (.int v1.1), some (.int v5.1), none]) (st2 := [.int v1.1, .int v9]) (μ2 := (hLaw G7 J3)) rfl trivial ?_
  refine js_iceq (t := 566) hM.1 (jat hM.2.1 20 rfl) rfl (fun hc13 => ?_) (fun hc13 => ?_)
  · have h := (if_pos hc13).symm.trans h
    refine JW.rZ hM 23 1 (pc2 := 568) (L2 := [some (.ref 2000000), some (.ref 0), some (.ref 70), some (.ref 85), some (.int i), some (.int v1.1), some (.int v5.1), none]) (st2 := [.int v1.1]) (μ2 := (hLaw G7 J3)) rfl trivial ?_
    refine js_ifne (t := 583) hM.1 (jat hM.2.1 24 rfl) rfl (fun hc12 => ?_) (fun hc12 => ?_)
    · have h := (if_neg hc12).symm.trans h
      refine JW.rZ hM 34 1 (pc2 := 2667) (L2 := [some (.ref 2000000), some (.ref 0), some (.ref 70), some (.ref 85), some (.int i), some (.int v1.1), some (.int v5.1), none]) (st2 := []) (μ2 := (hLaw G7 J3)) rfl trivial ?_
      obtain rfl := Option.some.inj h
      refine JW.widen (k2 := k + 40) (n2 := n + 240) (by omega) (by omega) (JW.mask [true, true, true, true, true, false, false, false] ?_)
      exact K X hM
    · have h := (if_pos hc12).symm.trans h
      refine JW.rZ hM 25 6 (pc2 := 578) (L2 := [some (.ref 2000000), some (.ref 0), some (.ref 70), some (.ref 85), some (.int i), some (.int v1.1), some (.int v5.1), none]) (st2 := [.int (lg_cmp (J3 85 0) (v5.1.toInt64))]) (μ2 := (hLaw G7 J3)) rfl ⟨rfl, trivial⟩ ?_
      refine js_ifeq (t := 583) hM.1 (jat hM.2.1 31 rfl) rfl (fun hc11 => ?_) (fun hc11 => ?_)
      · have h := (if_pos hc11).symm.trans h
        refine JW.rZ hM 34 1 (pc2 := 2667) (L2 := [some (.ref 2000000), some (.ref 0), some (.ref 70), some (.ref 85), some (.int i), some (.int v1.1), some (.int v5.1), none]) (st2 := []) (μ2 := (hLaw G7 J3)) rfl trivial ?_
        obtain rfl := Option.some.inj h
        refine JW.widen (k2 := k + 40) (n2 := n + 240) (by omega) (by omega) (JW.mask [true, true, true, true, true, false, false, false] ?_)
        exact K X hM
      · have h := (if_neg hc11).symm.trans h
        cases h
  · have h := (if_neg hc13).symm.trans h
    cases h

def p_case_6 (N : Nat) (xs : Nat → Int32) (G : Nat → Nat → Int32) (J : Nat → Nat → Int64) (i : Int32) : Option ((Nat → Nat → Int32) × (Nat → Nat → Int64)) :=
  (p_L_eat N (jv2 G 0 70 85) (jv2 J 0 70 85) (xs (i + (1 : Int32)).toNatClampNeg)).bind (fun v1 => jlt (jp2 G 0 70 85 1 v1.2.1) fun G3 => jlt (jp2 J 0 70 85 1 v1.2.2) fun J5 => (p_X6_eat N (jvw G3 70) (jvw J5 70) (xs (i + (1 : Int32)).toNatClampNeg)).bind (fun v7 => jlt (jpt G3 70 15 v7.2) fun G9 => (p_X6_thrown N (jvw G9 70) (jvw J5 70)).bind (fun v11 => if v11 = v1.1 then (if v1.1 = 0 then (if v7.1 = 0 then (if (lg_cmp (J5 85 0) (0 : Int64)) = 0 then (some (G9, J5)) else (none)) else (if (lg_cmp (J5 85 0) (1 : Int64)) = 0 then (some (G9, J5)) else (none))) else (some (G9, J5))) else (none))))
set_option maxHeartbeats 4000000 in
set_option maxRecDepth 100000 in
theorem t_case_6 {Tz : jX → Prop} (hT1 : ∀ X ad al, Tz X → Tz (jxa X ad al)) (hT2 : ∀ X, Tz X → Tz (jof X)) {Ln : Nat} {xs : Nat → Int32} {X : jX} {k n : Nat} (hM : jMZ Tz X kL_c6 RL (tbLZ Ln xs) 8 ⟨12, 601024, 7293034, 436⟩ (some .boolean) 94) (hk : k + 40 ≤ 601024) (hn : n + 240 ≤ 7293034) (N : Nat) (G : Nat → Nat → Int32) (J : Nat → Nat → Int64) (i : Int32) (hj1 : jin (i + 1) Ln = true) (hj2 : jin (i + 2) Ln = true) (hj3 : jin (i + 3) Ln = true) (hj4 : jin (i + 4) Ln = true) (hj5 : jin (i + 5) Ln = true) (res : (Nat → Nat → Int32) × (Nat → Nat → Int64)) (h : p_case_6 N xs G J i = some res) (K : ∀ X9, jMZ Tz X9 kL_c6 RL (tbLZ Ln xs) 8 ⟨12, 601024, 7293034, 436⟩ (some .boolean) 94 → JW X9 (k + 40) (n + 240) 2667 [some (.ref 2000000), some (.ref 0), some (.ref 70), some (.ref 85), some (.int i), none, none, none] [] (hLaw res.1 res.2)) : JW X k n 586 [some (.ref 2000000), some (.ref 0), some (.ref 70), some (.ref 85), some (.int i), none, none, none] [] (hLaw G J) := by
  unfold p_case_6 at h
  refine JW.rZ hM 0 7 (pc2 := 594) (L2 := [some (.ref 2000000), some (.ref 0), some (.ref 70), some (.ref 85), some (.int i), none, none, none]) (st2 := [.ref 85, .int (xs (i + (1 : Int32)).toNatClampNeg), .ref 0]) (μ2 := (hLaw G J)) rfl ⟨hj1, trivial⟩ ?_
  obtain ⟨v1, hv2, h⟩ := jbd h
  refine JW.cHZ (v := some (.int v1.1)) hM (m_L_eat (jVX X) hM.1.2.2.2.2.2.2.2.2.2.1 N (jv2 G 0 70 85) (jv2 J 0 70 85) (xs (i + (1 : Int32)).toNatClampNeg) v1 hv2) (sb_Law_W_0_85 G J) (bk_Law_W_0_85 G J v1.2.1 v1.2.2) rfl rfl rfl kh_L_157 rfl rfl (show k + 1 ≤ 601024 from by omega) (show n + 6 ≤ 7293034 from by omega) rfl (jat hM.2.1 7 rfl) (st := []) rfl ?_
  show JW (jof X) (k + 1) (n + 6) 597 [some (.ref 2000000), some (.ref 0), some (.ref 70), some (.ref 85), some (.int i), none, none, none] [.int v1.1] (hLaw (jp2 G 0 70 85 1 v1.2.1) (jp2 J 0 70 85 1 v1.2.2))
  obtain ⟨G3, e4, h⟩ := jlE h
  rw [e4]
  obtain ⟨J5, e6, h⟩ := jlE h
  rw [e6]
  refine JW.rebY (hM.off (hT2 _)) (hT1 _) (B := 94) (Nat.le_of_ble_eq_true rfl) (Nat.le_of_ble_eq_true rfl) rfl rfl rfl ?_
  clear hM
  intro X hM
  refine JW.rZ hM 8 7 (pc2 := 606) (L2 := [some (.ref 2000000), some (.ref 0), some (.ref 70), some (.ref 85), some (.int i), some (.int v1.1), none, none]) (st2 := [.int (xs (i + (1 : Int32)).toNatClampNeg), .ref 70]) (μ2 := (hLaw G3 J5)) rfl ⟨hj1, trivial⟩ ?_
  obtain ⟨v7, hv8, h⟩ := jbd h
  refine JW.cVZ (v := some (.int v7.1)) hM (m_X6_eat (jVX X) hM.1.2.2.2.2.2.2.2.2.2.1 N (jvw G3 70) (jvw J5 70) (xs (i + (1 : Int32)).toNatClampNeg) v7 hv8) (sb_Law_Mo_70 G3 J5) (bk_Law_Mo_70 G3 J5 v7.2 (jvw J5 70)) rfl rfl rfl kc_L_159 rfl rfl rfl rfl (show k + 1 + 0 ≤ 601024 from by omega) (show n + 6 + 0 ≤ 7293034 from by omega) rfl (jat hM.2.1 15 rfl) (st := []) rfl ?_
  show JW X (k + 1 + 0) (n + 6 + 0) 609 [some (.ref 2000000), some (.ref 0), some (.ref 70), some (.ref 85), some (.int i), some (.int v1.1), none, none] [.int v7.1] (hLaw (jpt G3 70 15 v7.2) J5)
  obtain ⟨G9, e10, h⟩ := jlE h
  rw [e10]
  refine JW.rZ hM 16 2 (pc2 := 612) (L2 := [some (.ref 2000000), some (.ref 0), some (.ref 70), some (.ref 85), some (.int i), some (.int v1.1), some (.int v7.1), none]) (st2 := [.ref 70]) (μ2 := (hLaw G9 J5)) rfl trivial ?_
  obtain ⟨v11, hv12, h⟩ := jbd h
  refine JW.cVZ (v := some (.int v11)) hM (m_X6_thrown (jVX X) hM.1.2.2.2.2.2.2.2.2.2.1 N (jvw G9 70) (jvw J5 70) v11 hv12) (sb_Law_Mo_70 G9 J5) (bi_Law_Mo_70 G9 J5) rfl rfl rfl kc_L_140 rfl rfl rfl rfl (show k + 1 + 0 + 0 ≤ 601024 from by omega) (show n + 6 + 0 + 0 ≤ 7293034 from by omega) rfl (jat hM.2.1 18 rfl) (st := []) rfl ?_
  show JW X (k + 1 + 0 + 0) (n + 6 + 0 + 0) 615 [some (.ref 2000000), some (.ref 0), some (.ref 70), some (.ref 85), some (.int i), some (.int v1.1), some (.int v7.1), none] [.int v11] (hLaw G9 J5)
  refine JW.rZ hM 19 1 (pc2 := 617) (L2 := [some (.ref 2000000), some (.ref 0), some (.ref 70), some (.ref 85), some (.int i), some (.int v1.1), some (.int v7.1), none]) (st2 := [.int v1.1, .int v11]) (μ2 := (hLaw G9 J5)) rfl trivial ?_
  refine js_iceq (t := 622) hM.1 (jat hM.2.1 20 rfl) rfl (fun hc17 => ?_) (fun hc17 => ?_)
  · have h := (if_pos hc17).symm.trans h
    refine JW.rZ hM 23 1 (pc2 := 624) (L2 := [some (.ref 2000000), some (.ref 0), some (.ref 70), some (.ref 85), some (.int i), some (.int v1.1), some (.int v7.1), none]) (st2 := [.int v1.1]) (μ2 := (hLaw G9 J5)) rfl trivial ?_
    refine js_ifne (t := 646) hM.1 (jat hM.2.1 24 rfl) rfl (fun hc16 => ?_) (fun hc16 => ?_)
    · have h := (if_neg hc16).symm.trans h
      refine JW.rZ hM 37 1 (pc2 := 2667) (L2 := [some (.ref 2000000), some (.ref 0), some (.ref 70), some (.ref 85), some (.int i), some (.int v1.1), some (.int v7.1), none]) (st2 := []) (μ2 := (hLaw G9 J5)) rfl trivial ?_
      obtain rfl := Option.some.inj h
      refine JW.widen (k2 := k + 40) (n2 := n + 240) (by omega) (by omega) (JW.mask [true, true, true, true, true, false, false, false] ?_)
      exact K X hM
    · have h := (if_pos hc16).symm.trans h
      refine JW.rZ hM 25 4 (pc2 := 632) (L2 := [some (.ref 2000000), some (.ref 0), some (.ref 70), some (.ref 85), some (.int i), some (.int v1.1), some (.int v7.1), none]) (st2 := [.int v7.1, .long (J5 85 0)]) (μ2 := (hLaw G9 J5)) rfl ⟨rfl, trivial⟩ ?_
      refine js_ifeq (t := 639) hM.1 (jat hM.2.1 29 rfl) rfl (fun hc15 => ?_) (fun hc15 => ?_)
      · have h := (if_pos hc15).symm.trans h
        refine JW.rZ hM 32 2 (pc2 := 641) (L2 := [some (.ref 2000000), some (.ref 0), some (.ref 70), some (.ref 85), some (.int i), some (.int v1.1), some (.int v7.1), none]) (st2 := [.int (lg_cmp (J5 85 0) (0 : Int64))]) (μ2 := (hLaw G9 J5)) rfl trivial ?_
        refine js_ifeq (t := 646) hM.1 (jat hM.2.1 34 rfl) rfl (fun hc13 => ?_) (fun hc13 => ?_)
        · have h := (if_pos hc13).symm.trans h
          refine JW.rZ hM 37 1 (pc2 := 2667) (L2 := [some (.ref 2000000), some (.ref 0), some (.ref 70), some (.ref 85), some (.int i), some (.int v1.1), some (.int v7.1), none]) (st2 := []) (μ2 := (hLaw G9 J5)) rfl trivial ?_
          obtain rfl := Option.some.inj h
          refine JW.widen (k2 := k + 40) (n2 := n + 240) (by omega) (by omega) (JW.mask [true, true, true, true, true, false, false, false] ?_)
          exact K X hM
        · have h := (if_neg hc13).symm.trans h
          cases h
      · have h := (if_neg hc15).symm.trans h
        refine JW.rZ hM 30 2 (pc2 := 640) (L2 := [some (.ref 2000000), some (.ref 0), some (.ref 70), some (.ref 85), some (.int i), some (.int v1.1), some (.int v7.1), none]) (st2 := [.long (1 : Int64), .long (J5 85 0)]) (μ2 := (hLaw G9 J5)) rfl trivial ?_
        refine JW.rZ hM 33 1 (pc2 := 641) (L2 := [some (.ref 2000000), some (.ref 0), some (.ref 70), some (.ref 85), some (.int i), some (.int v1.1), some (.int v7.1), none]) (st2 := [.int (lg_cmp (J5 85 0) (1 : Int64))]) (μ2 := (hLaw G9 J5)) rfl trivial ?_
        refine js_ifeq (t := 646) hM.1 (jat hM.2.1 34 rfl) rfl (fun hc14 => ?_) (fun hc14 => ?_)
        · have h := (if_pos hc14).symm.trans h
          refine JW.rZ hM 37 1 (pc2 := 2667) (L2 := [some (.ref 2000000), some (.ref 0), some (.ref 70), some (.ref 85), some (.int i), some (.int v1.1), some (.int v7.1), none]) (st2 := []) (μ2 := (hLaw G9 J5)) rfl trivial ?_
          obtain rfl := Option.some.inj h
          refine JW.widen (k2 := k + 40) (n2 := n + 240) (by omega) (by omega) (JW.mask [true, true, true, true, true, false, false, false] ?_)
          exact K X hM
        · have h := (if_neg hc14).symm.trans h
          cases h
  · have h := (if_neg hc17).symm.trans h
    cases h

def p_case_7 (N : Nat) (xs : Nat → Int32) (G : Nat → Nat → Int32) (J : Nat → Nat → Int64) (i : Int32) : Option ((Nat → Nat → Int32) × (Nat → Nat → Int64)) :=
  (p_L_pass N (jv2 G 0 70 85) (jv2 J 0 70 85) (xs (i + (1 : Int32)).toNatClampNeg)).bind (fun v1 => jlt (jp2 G 0 70 85 1 v1.2.1) fun G3 => jlt (jp2 J 0 70 85 1 v1.2.2) fun J5 => (p_X6_pass N (jvw G3 70) (jvw J5 70) (xs (i + (1 : Int32)).toNatClampNeg)).bind (fun v7 => jlt (jpt G3 70 15 v7.2) fun G9 => (p_X6_thrown N (jvw G9 70) (jvw J5 70)).bind (fun v11 => if v11 = v1.1 then (if v1.1 = 0 then (if (lg_cmp (J5 85 0) (v7.1.toInt64)) = 0 then (some (G9, J5)) else (none)) else (some (G9, J5))) else (none))))
set_option maxHeartbeats 4000000 in
set_option maxRecDepth 100000 in
theorem t_case_7 {Tz : jX → Prop} (hT1 : ∀ X ad al, Tz X → Tz (jxa X ad al)) (hT2 : ∀ X, Tz X → Tz (jof X)) {Ln : Nat} {xs : Nat → Int32} {X : jX} {k n : Nat} (hM : jMZ Tz X kL_c7 RL (tbLZ Ln xs) 8 ⟨12, 601024, 7293034, 436⟩ (some .boolean) 94) (hk : k + 40 ≤ 601024) (hn : n + 240 ≤ 7293034) (N : Nat) (G : Nat → Nat → Int32) (J : Nat → Nat → Int64) (i : Int32) (hj1 : jin (i + 1) Ln = true) (hj2 : jin (i + 2) Ln = true) (hj3 : jin (i + 3) Ln = true) (hj4 : jin (i + 4) Ln = true) (hj5 : jin (i + 5) Ln = true) (res : (Nat → Nat → Int32) × (Nat → Nat → Int64)) (h : p_case_7 N xs G J i = some res) (K : ∀ X9, jMZ Tz X9 kL_c7 RL (tbLZ Ln xs) 8 ⟨12, 601024, 7293034, 436⟩ (some .boolean) 94 → JW X9 (k + 40) (n + 240) 2667 [some (.ref 2000000), some (.ref 0), some (.ref 70), some (.ref 85), some (.int i), none, none, none] [] (hLaw res.1 res.2)) : JW X k n 649 [some (.ref 2000000), some (.ref 0), some (.ref 70), some (.ref 85), some (.int i), none, none, none] [] (hLaw G J) := by
  unfold p_case_7 at h
  refine JW.rZ hM 0 7 (pc2 := 657) (L2 := [some (.ref 2000000), some (.ref 0), some (.ref 70), some (.ref 85), some (.int i), none, none, none]) (st2 := [.ref 85, .int (xs (i + (1 : Int32)).toNatClampNeg), .ref 0]) (μ2 := (hLaw G J)) rfl ⟨hj1, trivial⟩ ?_
  obtain ⟨v1, hv2, h⟩ := jbd h
  refine JW.cHZ (v := some (.int v1.1)) hM (m_L_pass (jVX X) hM.1.2.2.2.2.2.2.2.2.2.1 N (jv2 G 0 70 85) (jv2 J 0 70 85) (xs (i + (1 : Int32)).toNatClampNeg) v1 hv2) (sb_Law_W_0_85 G J) (bk_Law_W_0_85 G J v1.2.1 v1.2.2) rfl rfl rfl kh_L_160 rfl rfl (show k + 1 ≤ 601024 from by omega) (show n + 6 ≤ 7293034 from by omega) rfl (jat hM.2.1 7 rfl) (st := []) rfl ?_
  show JW (jof X) (k + 1) (n + 6) 660 [some (.ref 2000000), some (.ref 0), some (.ref 70), some (.ref 85), some (.int i), none, none, none] [.int v1.1] (hLaw (jp2 G 0 70 85 1 v1.2.1) (jp2 J 0 70 85 1 v1.2.2))
  obtain ⟨G3, e4, h⟩ := jlE h
  rw [e4]
  obtain ⟨J5, e6, h⟩ := jlE h
  rw [e6]
  refine JW.rebY (hM.off (hT2 _)) (hT1 _) (B := 94) (Nat.le_of_ble_eq_true rfl) (Nat.le_of_ble_eq_true rfl) rfl rfl rfl ?_
  clear hM
  intro X hM
  refine JW.rZ hM 8 7 (pc2 := 669) (L2 := [some (.ref 2000000), some (.ref 0), some (.ref 70), some (.ref 85), some (.int i), some (.int v1.1), none, none]) (st2 := [.int (xs (i + (1 : Int32)).toNatClampNeg), .ref 70]) (μ2 := (hLaw G3 J5)) rfl ⟨hj1, trivial⟩ ?_
  obtain ⟨v7, hv8, h⟩ := jbd h
  refine JW.cVZ (v := some (.int v7.1)) hM (m_X6_pass (jVX X) hM.1.2.2.2.2.2.2.2.2.2.1 N (jvw G3 70) (jvw J5 70) (xs (i + (1 : Int32)).toNatClampNeg) v7 hv8) (sb_Law_Mo_70 G3 J5) (bk_Law_Mo_70 G3 J5 v7.2 (jvw J5 70)) rfl rfl rfl kc_L_162 rfl rfl rfl rfl (show k + 1 + 0 ≤ 601024 from by omega) (show n + 6 + 0 ≤ 7293034 from by omega) rfl (jat hM.2.1 15 rfl) (st := []) rfl ?_
  show JW X (k + 1 + 0) (n + 6 + 0) 672 [some (.ref 2000000), some (.ref 0), some (.ref 70), some (.ref 85), some (.int i), some (.int v1.1), none, none] [.int v7.1] (hLaw (jpt G3 70 15 v7.2) J5)
  obtain ⟨G9, e10, h⟩ := jlE h
  rw [e10]
  refine JW.rZ hM 16 2 (pc2 := 675) (L2 := [some (.ref 2000000), some (.ref 0), some (.ref 70), some (.ref 85), some (.int i), some (.int v1.1), some (.int v7.1), none]) (st2 := [.ref 70]) (μ2 := (hLaw G9 J5)) rfl trivial ?_
  obtain ⟨v11, hv12, h⟩ := jbd h
  refine JW.cVZ (v := some (.int v11)) hM (m_X6_thrown (jVX X) hM.1.2.2.2.2.2.2.2.2.2.1 N (jvw G9 70) (jvw J5 70) v11 hv12) (sb_Law_Mo_70 G9 J5) (bi_Law_Mo_70 G9 J5) rfl rfl rfl kc_L_140 rfl rfl rfl rfl (show k + 1 + 0 + 0 ≤ 601024 from by omega) (show n + 6 + 0 + 0 ≤ 7293034 from by omega) rfl (jat hM.2.1 18 rfl) (st := []) rfl ?_
  show JW X (k + 1 + 0 + 0) (n + 6 + 0 + 0) 678 [some (.ref 2000000), some (.ref 0), some (.ref 70), some (.ref 85), some (.int i), some (.int v1.1), some (.int v7.1), none] [.int v11] (hLaw G9 J5)
  refine JW.rZ hM 19 1 (pc2 := 680) (L2 := [some (.ref 2000000), some (.ref 0), some (.ref 70), some (.ref 85), some (.int i), some (.int v1.1), some (.int v7.1), none]) (st2 := [.int v1.1, .int v11]) (μ2 := (hLaw G9 J5)) rfl trivial ?_
  refine js_iceq (t := 685) hM.1 (jat hM.2.1 20 rfl) rfl (fun hc15 => ?_) (fun hc15 => ?_)
  · have h := (if_pos hc15).symm.trans h
    refine JW.rZ hM 23 1 (pc2 := 687) (L2 := [some (.ref 2000000), some (.ref 0), some (.ref 70), some (.ref 85), some (.int i), some (.int v1.1), some (.int v7.1), none]) (st2 := [.int v1.1]) (μ2 := (hLaw G9 J5)) rfl trivial ?_
    refine js_ifne (t := 702) hM.1 (jat hM.2.1 24 rfl) rfl (fun hc14 => ?_) (fun hc14 => ?_)
    · have h := (if_neg hc14).symm.trans h
      refine JW.rZ hM 34 1 (pc2 := 2667) (L2 := [some (.ref 2000000), some (.ref 0), some (.ref 70), some (.ref 85), some (.int i), some (.int v1.1), some (.int v7.1), none]) (st2 := []) (μ2 := (hLaw G9 J5)) rfl trivial ?_
      obtain rfl := Option.some.inj h
      refine JW.widen (k2 := k + 40) (n2 := n + 240) (by omega) (by omega) (JW.mask [true, true, true, true, true, false, false, false] ?_)
      exact K X hM
    · have h := (if_pos hc14).symm.trans h
      refine JW.rZ hM 25 6 (pc2 := 697) (L2 := [some (.ref 2000000), some (.ref 0), some (.ref 70), some (.ref 85), some (.int i), some (.int v1.1), some (.int v7.1), none]) (st2 := [.int (lg_cmp (J5 85 0) (v7.1.toInt64))]) (μ2 := (hLaw G9 J5)) rfl ⟨rfl, trivial⟩ ?_
      refine js_ifeq (t := 702) hM.1 (jat hM.2.1 31 rfl) rfl (fun hc13 => ?_) (fun hc13 => ?_)
      · have h := (if_pos hc13).symm.trans h
        refine JW.rZ hM 34 1 (pc2 := 2667) (L2 := [some (.ref 2000000), some (.ref 0), some (.ref 70), some (.ref 85), some (.int i), some (.int v1.1), some (.int v7.1), none]) (st2 := []) (μ2 := (hLaw G9 J5)) rfl trivial ?_
        obtain rfl := Option.some.inj h
        refine JW.widen (k2 := k + 40) (n2 := n + 240) (by omega) (by omega) (JW.mask [true, true, true, true, true, false, false, false] ?_)
        exact K X hM
      · have h := (if_neg hc13).symm.trans h
        cases h
  · have h := (if_neg hc15).symm.trans h
    cases h

def p_case_8 (N : Nat) (xs : Nat → Int32) (G : Nat → Nat → Int32) (J : Nat → Nat → Int64) (i : Int32) : Option ((Nat → Nat → Int32) × (Nat → Nat → Int64)) :=
  (p_L_morning N (jv2 G 0 70 85) (jv2 J 0 70 85)).bind (fun v1 => jlt (jp2 G 0 70 85 1 v1.2.1) fun G3 => jlt (jp2 J 0 70 85 1 v1.2.2) fun J5 => (p_X6_morning N (jvw G3 70) (jvw J5 70)).bind (fun v7 => jlt (jpt G3 70 15 v7.2) fun G9 => (p_X6_thrown N (jvw G9 70) (jvw J5 70)).bind (fun v11 => if v11 = v1.1 then (if v1.1 = 0 then (if (lg_cmp (J5 85 0) (v7.1.toInt64)) = 0 then (some (G9, J5)) else (none)) else (some (G9, J5))) else (none))))
set_option maxHeartbeats 4000000 in
set_option maxRecDepth 100000 in
theorem t_case_8 {Tz : jX → Prop} (hT1 : ∀ X ad al, Tz X → Tz (jxa X ad al)) (hT2 : ∀ X, Tz X → Tz (jof X)) {Ln : Nat} {xs : Nat → Int32} {X : jX} {k n : Nat} (hM : jMZ Tz X kL_c8 RL (tbLZ Ln xs) 8 ⟨12, 601024, 7293034, 436⟩ (some .boolean) 94) (hk : k + 40 ≤ 601024) (hn : n + 240 ≤ 7293034) (N : Nat) (G : Nat → Nat → Int32) (J : Nat → Nat → Int64) (i : Int32) (hj1 : jin (i + 1) Ln = true) (hj2 : jin (i + 2) Ln = true) (hj3 : jin (i + 3) Ln = true) (hj4 : jin (i + 4) Ln = true) (hj5 : jin (i + 5) Ln = true) (res : (Nat → Nat → Int32) × (Nat → Nat → Int64)) (h : p_case_8 N xs G J i = some res) (K : ∀ X9, jMZ Tz X9 kL_c8 RL (tbLZ Ln xs) 8 ⟨12, 601024, 7293034, 436⟩ (some .boolean) 94 → JW X9 (k + 40) (n + 240) 2667 [some (.ref 2000000), some (.ref 0), some (.ref 70), some (.ref 85), some (.int i), none, none, none] [] (hLaw res.1 res.2)) : JW X k n 705 [some (.ref 2000000), some (.ref 0), some (.ref 70), some (.ref 85), some (.int i), none, none, none] [] (hLaw G J) := by
  unfold p_case_8 at h
  refine JW.rZ hM 0 2 (pc2 := 707) (L2 := [some (.ref 2000000), some (.ref 0), some (.ref 70), some (.ref 85), some (.int i), none, none, none]) (st2 := [.ref 85, .ref 0]) (μ2 := (hLaw G J)) rfl trivial ?_
  obtain ⟨v1, hv2, h⟩ := jbd h
  refine JW.cHZ (v := some (.int v1.1)) hM (m_L_morning (jVX X) hM.1.2.2.2.2.2.2.2.2.2.1 N (jv2 G 0 70 85) (jv2 J 0 70 85) v1 hv2) (sb_Law_W_0_85 G J) (bk_Law_W_0_85 G J v1.2.1 v1.2.2) rfl rfl rfl kh_L_163 rfl rfl (show k + 1 ≤ 601024 from by omega) (show n + 6 ≤ 7293034 from by omega) rfl (jat hM.2.1 2 rfl) (st := []) rfl ?_
  show JW (jof X) (k + 1) (n + 6) 710 [some (.ref 2000000), some (.ref 0), some (.ref 70), some (.ref 85), some (.int i), none, none, none] [.int v1.1] (hLaw (jp2 G 0 70 85 1 v1.2.1) (jp2 J 0 70 85 1 v1.2.2))
  obtain ⟨G3, e4, h⟩ := jlE h
  rw [e4]
  obtain ⟨J5, e6, h⟩ := jlE h
  rw [e6]
  refine JW.rebY (hM.off (hT2 _)) (hT1 _) (B := 94) (Nat.le_of_ble_eq_true rfl) (Nat.le_of_ble_eq_true rfl) rfl rfl rfl ?_
  clear hM
  intro X hM
  refine JW.rZ hM 3 2 (pc2 := 713) (L2 := [some (.ref 2000000), some (.ref 0), some (.ref 70), some (.ref 85), some (.int i), some (.int v1.1), none, none]) (st2 := [.ref 70]) (μ2 := (hLaw G3 J5)) rfl trivial ?_
  obtain ⟨v7, hv8, h⟩ := jbd h
  refine JW.cVZ (v := some (.int v7.1)) hM (m_X6_morning (jVX X) hM.1.2.2.2.2.2.2.2.2.2.1 N (jvw G3 70) (jvw J5 70) v7 hv8) (sb_Law_Mo_70 G3 J5) (bk_Law_Mo_70 G3 J5 v7.2 (jvw J5 70)) rfl rfl rfl kc_L_166 rfl rfl rfl rfl (show k + 1 + 0 ≤ 601024 from by omega) (show n + 6 + 0 ≤ 7293034 from by omega) rfl (jat hM.2.1 5 rfl) (st := []) rfl ?_
  show JW X (k + 1 + 0) (n + 6 + 0) 716 [some (.ref 2000000), some (.ref 0), some (.ref 70), some (.ref 85), some (.int i), some (.int v1.1), none, none] [.int v7.1] (hLaw (jpt G3 70 15 v7.2) J5)
  obtain ⟨G9, e10, h⟩ := jlE h
  rw [e10]
  refine JW.rZ hM 6 2 (pc2 := 719) (L2 := [some (.ref 2000000), some (.ref 0), some (.ref 70), some (.ref 85), some (.int i), some (.int v1.1), some (.int v7.1), none]) (st2 := [.ref 70]) (μ2 := (hLaw G9 J5)) rfl trivial ?_
  obtain ⟨v11, hv12, h⟩ := jbd h
  refine JW.cVZ (v := some (.int v11)) hM (m_X6_thrown (jVX X) hM.1.2.2.2.2.2.2.2.2.2.1 N (jvw G9 70) (jvw J5 70) v11 hv12) (sb_Law_Mo_70 G9 J5) (bi_Law_Mo_70 G9 J5) rfl rfl rfl kc_L_140 rfl rfl rfl rfl (show k + 1 + 0 + 0 ≤ 601024 from by omega) (show n + 6 + 0 + 0 ≤ 7293034 from by omega) rfl (jat hM.2.1 8 rfl) (st := []) rfl ?_
  show JW X (k + 1 + 0 + 0) (n + 6 + 0 + 0) 722 [some (.ref 2000000), some (.ref 0), some (.ref 70), some (.ref 85), some (.int i), some (.int v1.1), some (.int v7.1), none] [.int v11] (hLaw G9 J5)
  refine JW.rZ hM 9 1 (pc2 := 724) (L2 := [some (.ref 2000000), some (.ref 0), some (.ref 70), some (.ref 85), some (.int i), some (.int v1.1), some (.int v7.1), none]) (st2 := [.int v1.1, .int v11]) (μ2 := (hLaw G9 J5)) rfl trivial ?_
  refine js_iceq (t := 729) hM.1 (jat hM.2.1 10 rfl) rfl (fun hc15 => ?_) (fun hc15 => ?_)
  · have h := (if_pos hc15).symm.trans h
    refine JW.rZ hM 13 1 (pc2 := 731) (L2 := [some (.ref 2000000), some (.ref 0), some (.ref 70), some (.ref 85), some (.int i), some (.int v1.1), some (.int v7.1), none]) (st2 := [.int v1.1]) (μ2 := (hLaw G9 J5)) rfl trivial ?_
    refine js_ifne (t := 746) hM.1 (jat hM.2.1 14 rfl) rfl (fun hc14 => ?_) (fun hc14 => ?_)
    · have h := (if_neg hc14).symm.trans h
      refine JW.rZ hM 24 1 (pc2 := 2667) (L2 := [some (.ref 2000000), some (.ref 0), some (.ref 70), some (.ref 85), some (.int i), some (.int v1.1), some (.int v7.1), none]) (st2 := []) (μ2 := (hLaw G9 J5)) rfl trivial ?_
      obtain rfl := Option.some.inj h
      refine JW.widen (k2 := k + 40) (n2 := n + 240) (by omega) (by omega) (JW.mask [true, true, true, true, true, false, false, false] ?_)
      exact K X hM
    · have h := (if_pos hc14).symm.trans h
      refine JW.rZ hM 15 6 (pc2 := 741) (L2 := [some (.ref 2000000), some (.ref 0), some (.ref 70), some (.ref 85), some (.int i), some (.int v1.1), some (.int v7.1), none]) (st2 := [.int (lg_cmp (J5 85 0) (v7.1.toInt64))]) (μ2 := (hLaw G9 J5)) rfl ⟨rfl, trivial⟩ ?_
      refine js_ifeq (t := 746) hM.1 (jat hM.2.1 21 rfl) rfl (fun hc13 => ?_) (fun hc13 => ?_)
      · have h := (if_pos hc13).symm.trans h
        refine JW.rZ hM 24 1 (pc2 := 2667) (L2 := [some (.ref 2000000), some (.ref 0), some (.ref 70), some (.ref 85), some (.int i), some (.int v1.1), some (.int v7.1), none]) (st2 := []) (μ2 := (hLaw G9 J5)) rfl trivial ?_
        obtain rfl := Option.some.inj h
        refine JW.widen (k2 := k + 40) (n2 := n + 240) (by omega) (by omega) (JW.mask [true, true, true, true, true, false, false, false] ?_)
        exact K X hM
      · have h := (if_neg hc13).symm.trans h
        cases h
  · have h := (if_neg hc15).symm.trans h
    cases h

def p_case_9 (N : Nat) (xs : Nat → Int32) (G : Nat → Nat → Int32) (J : Nat → Nat → Int64) (i : Int32) : Option ((Nat → Nat → Int32) × (Nat → Nat → Int64)) :=
  (p_X5_sell N (jvw G 0) (jvw J 0) (xs (i + (1 : Int32)).toNatClampNeg) (xs (i + (2 : Int32)).toNatClampNeg) (xs (i + (3 : Int32)).toNatClampNeg)).bind (fun v1 => jlt (jpt G 0 70 v1.2) fun G3 => (p_X6_sell N (jvw G3 70) (jvw J 70) (xs (i + (1 : Int32)).toNatClampNeg) (xs (i + (2 : Int32)).toNatClampNeg) (xs (i + (3 : Int32)).toNatClampNeg)).bind (fun v5 => jlt (jpt G3 70 15 v5.2) fun G7 => if v1.1 = v5.1 then (some (G7, J)) else (none)))
set_option maxHeartbeats 4000000 in
set_option maxRecDepth 100000 in
theorem t_case_9 {Tz : jX → Prop} (hT1 : ∀ X ad al, Tz X → Tz (jxa X ad al)) (hT2 : ∀ X, Tz X → Tz (jof X)) {Ln : Nat} {xs : Nat → Int32} {X : jX} {k n : Nat} (hM : jMZ Tz X kL_c9 RL (tbLZ Ln xs) 8 ⟨12, 601024, 7293034, 436⟩ (some .boolean) 94) (hk : k + 40 ≤ 601024) (hn : n + 240 ≤ 7293034) (N : Nat) (G : Nat → Nat → Int32) (J : Nat → Nat → Int64) (i : Int32) (hj1 : jin (i + 1) Ln = true) (hj2 : jin (i + 2) Ln = true) (hj3 : jin (i + 3) Ln = true) (hj4 : jin (i + 4) Ln = true) (hj5 : jin (i + 5) Ln = true) (res : (Nat → Nat → Int32) × (Nat → Nat → Int64)) (h : p_case_9 N xs G J i = some res) (K : ∀ X9, jMZ Tz X9 kL_c9 RL (tbLZ Ln xs) 8 ⟨12, 601024, 7293034, 436⟩ (some .boolean) 94 → JW X9 (k + 40) (n + 240) 2667 [some (.ref 2000000), some (.ref 0), some (.ref 70), some (.ref 85), some (.int i), none, none, none] [] (hLaw res.1 res.2)) : JW X k n 749 [some (.ref 2000000), some (.ref 0), some (.ref 70), some (.ref 85), some (.int i), none, none, none] [] (hLaw G J) := by
  unfold p_case_9 at h
  refine JW.rZ hM 0 16 (pc2 := 768) (L2 := [some (.ref 2000000), some (.ref 0), some (.ref 70), some (.ref 85), some (.int i), none, none, none]) (st2 := [.int (xs (i + (3 : Int32)).toNatClampNeg), .int (xs (i + (2 : Int32)).toNatClampNeg), .int (xs (i + (1 : Int32)).toNatClampNeg), .ref 0]) (μ2 := (hLaw G J)) rfl ⟨hj1, hj2, hj3, trivial⟩ ?_
  obtain ⟨v1, hv2, h⟩ := jbd h
  refine JW.cVZ (v := some (.int v1.1)) hM (m_X5_sell (jVX X) hM.1.2.2.2.2.2.2.2.2.2.1 N (jvw G 0) (jvw J 0) (xs (i + (1 : Int32)).toNatClampNeg) (xs (i + (2 : Int32)).toNatClampNeg) (xs (i + (3 : Int32)).toNatClampNeg) v1 hv2) (sb_Law_X_0 G J) (bk_Law_X_0 G J v1.2 (jvw J 0)) rfl rfl rfl kc_L_167 rfl rfl rfl rfl (show k + 0 ≤ 601024 from by omega) (show n + 0 ≤ 7293034 from by omega) rfl (jat hM.2.1 16 rfl) (st := []) rfl ?_
  show JW X (k + 0) (n + 0) 771 [some (.ref 2000000), some (.ref 0), some (.ref 70), some (.ref 85), some (.int i), none, none, none] [.int v1.1] (hLaw (jpt G 0 70 v1.2) J)
  obtain ⟨G3, e4, h⟩ := jlE h
  rw [e4]
  refine JW.rZ hM 17 16 (pc2 := 790) (L2 := [some (.ref 2000000), some (.ref 0), some (.ref 70), some (.ref 85), some (.int i), none, none, none]) (st2 := [.int (xs (i + (3 : Int32)).toNatClampNeg), .int (xs (i + (2 : Int32)).toNatClampNeg), .int (xs (i + (1 : Int32)).toNatClampNeg), .ref 70, .int v1.1]) (μ2 := (hLaw G3 J)) rfl ⟨hj1, hj2, hj3, trivial⟩ ?_
  obtain ⟨v5, hv6, h⟩ := jbd h
  refine JW.cVZ (v := some (.int v5.1)) hM (m_X6_sell (jVX X) hM.1.2.2.2.2.2.2.2.2.2.1 N (jvw G3 70) (jvw J 70) (xs (i + (1 : Int32)).toNatClampNeg) (xs (i + (2 : Int32)).toNatClampNeg) (xs (i + (3 : Int32)).toNatClampNeg) v5 hv6) (sb_Law_Mo_70 G3 J) (bk_Law_Mo_70 G3 J v5.2 (jvw J 70)) rfl rfl rfl kc_L_170 rfl rfl rfl rfl (show k + 0 + 0 ≤ 601024 from by omega) (show n + 0 + 0 ≤ 7293034 from by omega) rfl (jat hM.2.1 33 rfl) (st := [.int v1.1]) rfl ?_
  show JW X (k + 0 + 0) (n + 0 + 0) 793 [some (.ref 2000000), some (.ref 0), some (.ref 70), some (.ref 85), some (.int i), none, none, none] [.int v5.1, .int v1.1] (hLaw (jpt G3 70 15 v5.2) J)
  obtain ⟨G7, e8, h⟩ := jlE h
  rw [e8]
  refine js_iceq (t := 2667) hM.1 (jat hM.2.1 34 rfl) rfl (fun hc9 => ?_) (fun hc9 => ?_)
  · have h := (if_pos hc9).symm.trans h
    obtain rfl := Option.some.inj h
    refine JW.widen (k2 := k + 40) (n2 := n + 240) (by omega) (by omega) (JW.mask [true, true, true, true, true, false, false, false] ?_)
    exact K X hM
  · have h := (if_neg hc9).symm.trans h
    cases h

def p_case_10 (N : Nat) (xs : Nat → Int32) (G : Nat → Nat → Int32) (J : Nat → Nat → Int64) (i : Int32) : Option ((Nat → Nat → Int32) × (Nat → Nat → Int64)) :=
  (p_L_deed N (jv2 G 0 70 85) (jv2 J 0 70 85) (xs (i + (1 : Int32)).toNatClampNeg) (xs (i + (2 : Int32)).toNatClampNeg)).bind (fun v1 => jlt (jp2 J 0 70 85 1 v1.2) fun J3 => (p_X6_deed N (jvw G 70) (jvw J3 70) (xs (i + (1 : Int32)).toNatClampNeg) (xs (i + (2 : Int32)).toNatClampNeg)).bind (fun v5 => jlt (jpt G 70 15 v5.2) fun G7 => (p_X6_thrown N (jvw G7 70) (jvw J3 70)).bind (fun v9 => if v9 = v1.1 then (if v1.1 = 0 then (if (lg_cmp (J3 85 0) (v5.1.toInt64)) = 0 then (some (G7, J3)) else (none)) else (some (G7, J3))) else (none))))
set_option maxHeartbeats 4000000 in
set_option maxRecDepth 100000 in
theorem t_case_10 {Tz : jX → Prop} (hT1 : ∀ X ad al, Tz X → Tz (jxa X ad al)) (hT2 : ∀ X, Tz X → Tz (jof X)) {Ln : Nat} {xs : Nat → Int32} {X : jX} {k n : Nat} (hM : jMZ Tz X kL_c10 RL (tbLZ Ln xs) 8 ⟨12, 601024, 7293034, 436⟩ (some .boolean) 94) (hk : k + 40 ≤ 601024) (hn : n + 240 ≤ 7293034) (N : Nat) (G : Nat → Nat → Int32) (J : Nat → Nat → Int64) (i : Int32) (hj1 : jin (i + 1) Ln = true) (hj2 : jin (i + 2) Ln = true) (hj3 : jin (i + 3) Ln = true) (hj4 : jin (i + 4) Ln = true) (hj5 : jin (i + 5) Ln = true) (res : (Nat → Nat → Int32) × (Nat → Nat → Int64)) (h : p_case_10 N xs G J i = some res) (K : ∀ X9, jMZ Tz X9 kL_c10 RL (tbLZ Ln xs) 8 ⟨12, 601024, 7293034, 436⟩ (some .boolean) 94 → JW X9 (k + 40) (n + 240) 2667 [some (.ref 2000000), some (.ref 0), some (.ref 70), some (.ref 85), some (.int i), none, none, none] [] (hLaw res.1 res.2)) : JW X k n 798 [some (.ref 2000000), some (.ref 0), some (.ref 70), some (.ref 85), some (.int i), none, none, none] [] (hLaw G J) := by
  unfold p_case_10 at h
  refine JW.rZ hM 0 12 (pc2 := 812) (L2 := [some (.ref 2000000), some (.ref 0), some (.ref 70), some (.ref 85), some (.int i), none, none, none]) (st2 := [.ref 85, .int (xs (i + (2 : Int32)).toNatClampNeg), .int (xs (i + (1 : Int32)).toNatClampNeg), .ref 0]) (μ2 := (hLaw G J)) rfl ⟨hj1, hj2, trivial⟩ ?_
  obtain ⟨v1, hv2, h⟩ := jbd h
  refine JW.cHZ (v := some (.int v1.1)) hM (m_L_deed (jVX X) hM.1.2.2.2.2.2.2.2.2.2.1 N (jv2 G 0 70 85) (jv2 J 0 70 85) (xs (i + (1 : Int32)).toNatClampNeg) (xs (i + (2 : Int32)).toNatClampNeg) v1 hv2) (sb_Law_W_0_85 G J) (bk_Law_W_0_85 G J (jv2 G 0 70 85) v1.2) rfl rfl rfl kh_L_171 rfl rfl (show k + 2 ≤ 601024 from by omega) (show n + 12 ≤ 7293034 from by omega) rfl (jat hM.2.1 12 rfl) (st := []) rfl ?_
  show JW (jof X) (k + 2) (n + 12) 815 [some (.ref 2000000), some (.ref 0), some (.ref 70), some (.ref 85), some (.int i), none, none, none] [.int v1.1] (hLaw G (jp2 J 0 70 85 1 v1.2))
  obtain ⟨J3, e4, h⟩ := jlE h
  rw [e4]
  refine JW.rebY (hM.off (hT2 _)) (hT1 _) (B := 94) (Nat.le_of_ble_eq_true rfl) (Nat.le_of_ble_eq_true rfl) rfl rfl rfl ?_
  clear hM
  intro X hM
  refine JW.rZ hM 13 12 (pc2 := 830) (L2 := [some (.ref 2000000), some (.ref 0), some (.ref 70), some (.ref 85), some (.int i), some (.int v1.1), none, none]) (st2 := [.int (xs (i + (2 : Int32)).toNatClampNeg), .int (xs (i + (1 : Int32)).toNatClampNeg), .ref 70]) (μ2 := (hLaw G J3)) rfl ⟨hj1, hj2, trivial⟩ ?_
  obtain ⟨v5, hv6, h⟩ := jbd h
  refine JW.cVZ (v := some (.int v5.1)) hM (m_X6_deed (jVX X) hM.1.2.2.2.2.2.2.2.2.2.1 N (jvw G 70) (jvw J3 70) (xs (i + (1 : Int32)).toNatClampNeg) (xs (i + (2 : Int32)).toNatClampNeg) v5 hv6) (sb_Law_Mo_70 G J3) (bk_Law_Mo_70 G J3 v5.2 (jvw J3 70)) rfl rfl rfl kc_L_173 rfl rfl rfl rfl (show k + 2 + 0 ≤ 601024 from by omega) (show n + 12 + 0 ≤ 7293034 from by omega) rfl (jat hM.2.1 25 rfl) (st := []) rfl ?_
  show JW X (k + 2 + 0) (n + 12 + 0) 833 [some (.ref 2000000), some (.ref 0), some (.ref 70), some (.ref 85), some (.int i), some (.int v1.1), none, none] [.int v5.1] (hLaw (jpt G 70 15 v5.2) J3)
  obtain ⟨G7, e8, h⟩ := jlE h
  rw [e8]
  refine JW.rZ hM 26 2 (pc2 := 836) (L2 := [some (.ref 2000000), some (.ref 0), some (.ref 70), some (.ref 85), some (.int i), some (.int v1.1), some (.int v5.1), none]) (st2 := [.ref 70]) (μ2 := (hLaw G7 J3)) rfl trivial ?_
  obtain ⟨v9, hv10, h⟩ := jbd h
  refine JW.cVZ (v := some (.int v9)) hM (m_X6_thrown (jVX X) hM.1.2.2.2.2.2.2.2.2.2.1 N (jvw G7 70) (jvw J3 70) v9 hv10) (sb_Law_Mo_70 G7 J3) (bi_Law_Mo_70 G7 J3) rfl rfl rfl kc_L_140 rfl rfl rfl rfl (show k + 2 + 0 + 0 ≤ 601024 from by omega) (show n + 12 + 0 + 0 ≤ 7293034 from by omega) rfl (jat hM.2.1 28 rfl) (st := []) rfl ?_
  show JW X (k + 2 + 0 + 0) (n + 12 + 0 + 0) 839 [some (.ref 2000000), some (.ref 0), some (.ref 70), some (.ref 85), some (.int i), some (.int v1.1), some (.int v5.1), none] [.int v9] (hLaw G7 J3)
  refine JW.rZ hM 29 1 (pc2 := 841) (L2 := [some (.ref 2000000), some (.ref 0), some (.ref 70), some (.ref 85), some (.int i), some (.int v1.1), some (.int v5.1), none]) (st2 := [.int v1.1, .int v9]) (μ2 := (hLaw G7 J3)) rfl trivial ?_
  refine js_iceq (t := 846) hM.1 (jat hM.2.1 30 rfl) rfl (fun hc13 => ?_) (fun hc13 => ?_)
  · have h := (if_pos hc13).symm.trans h
    refine JW.rZ hM 33 1 (pc2 := 848) (L2 := [some (.ref 2000000), some (.ref 0), some (.ref 70), some (.ref 85), some (.int i), some (.int v1.1), some (.int v5.1), none]) (st2 := [.int v1.1]) (μ2 := (hLaw G7 J3)) rfl trivial ?_
    refine js_ifne (t := 863) hM.1 (jat hM.2.1 34 rfl) rfl (fun hc12 => ?_) (fun hc12 => ?_)
    · have h := (if_neg hc12).symm.trans h
      refine JW.rZ hM 44 1 (pc2 := 2667) (L2 := [some (.ref 2000000), some (.ref 0), some (.ref 70), some (.ref 85), some (.int i), some (.int v1.1), some (.int v5.1), none]) (st2 := []) (μ2 := (hLaw G7 J3)) rfl trivial ?_
      obtain rfl := Option.some.inj h
      refine JW.widen (k2 := k + 40) (n2 := n + 240) (by omega) (by omega) (JW.mask [true, true, true, true, true, false, false, false] ?_)
      exact K X hM
    · have h := (if_pos hc12).symm.trans h
      refine JW.rZ hM 35 6 (pc2 := 858) (L2 := [some (.ref 2000000), some (.ref 0), some (.ref 70), some (.ref 85), some (.int i), some (.int v1.1), some (.int v5.1), none]) (st2 := [.int (lg_cmp (J3 85 0) (v5.1.toInt64))]) (μ2 := (hLaw G7 J3)) rfl ⟨rfl, trivial⟩ ?_
      refine js_ifeq (t := 863) hM.1 (jat hM.2.1 41 rfl) rfl (fun hc11 => ?_) (fun hc11 => ?_)
      · have h := (if_pos hc11).symm.trans h
        refine JW.rZ hM 44 1 (pc2 := 2667) (L2 := [some (.ref 2000000), some (.ref 0), some (.ref 70), some (.ref 85), some (.int i), some (.int v1.1), some (.int v5.1), none]) (st2 := []) (μ2 := (hLaw G7 J3)) rfl trivial ?_
        obtain rfl := Option.some.inj h
        refine JW.widen (k2 := k + 40) (n2 := n + 240) (by omega) (by omega) (JW.mask [true, true, true, true, true, false, false, false] ?_)
        exact K X hM
      · have h := (if_neg hc11).symm.trans h
        cases h
  · have h := (if_neg hc13).symm.trans h
    cases h

def p_case_11 (N : Nat) (xs : Nat → Int32) (G : Nat → Nat → Int32) (J : Nat → Nat → Int64) (i : Int32) : Option ((Nat → Nat → Int32) × (Nat → Nat → Int64)) :=
  (p_L_may N (jv2 G 0 70 85) (jv2 J 0 70 85) (xs (i + (1 : Int32)).toNatClampNeg) (xs (i + (2 : Int32)).toNatClampNeg)).bind (fun v1 => jlt (jp2 J 0 70 85 1 v1.2) fun J3 => (p_X6_may N (jvw G 70) (jvw J3 70) (xs (i + (1 : Int32)).toNatClampNeg) (xs (i + (2 : Int32)).toNatClampNeg)).bind (fun v5 => jlt (jpt G 70 15 v5.2) fun G7 => (p_X6_thrown N (jvw G7 70) (jvw J3 70)).bind (fun v9 => if v9 = v1.1 then (if v1.1 = 0 then (if (lg_cmp (J3 85 0) (v5.1.toInt64)) = 0 then (some (G7, J3)) else (none)) else (some (G7, J3))) else (none))))
set_option maxHeartbeats 4000000 in
set_option maxRecDepth 100000 in
theorem t_case_11 {Tz : jX → Prop} (hT1 : ∀ X ad al, Tz X → Tz (jxa X ad al)) (hT2 : ∀ X, Tz X → Tz (jof X)) {Ln : Nat} {xs : Nat → Int32} {X : jX} {k n : Nat} (hM : jMZ Tz X kL_c11 RL (tbLZ Ln xs) 8 ⟨12, 601024, 7293034, 436⟩ (some .boolean) 94) (hk : k + 40 ≤ 601024) (hn : n + 240 ≤ 7293034) (N : Nat) (G : Nat → Nat → Int32) (J : Nat → Nat → Int64) (i : Int32) (hj1 : jin (i + 1) Ln = true) (hj2 : jin (i + 2) Ln = true) (hj3 : jin (i + 3) Ln = true) (hj4 : jin (i + 4) Ln = true) (hj5 : jin (i + 5) Ln = true) (res : (Nat → Nat → Int32) × (Nat → Nat → Int64)) (h : p_case_11 N xs G J i = some res) (K : ∀ X9, jMZ Tz X9 kL_c11 RL (tbLZ Ln xs) 8 ⟨12, 601024, 7293034, 436⟩ (some .boolean) 94 → JW X9 (k + 40) (n + 240) 2667 [some (.ref 2000000), some (.ref 0), some (.ref 70), some (.ref 85), some (.int i), none, none, none] [] (hLaw res.1 res.2)) : JW X k n 866 [some (.ref 2000000), some (.ref 0), some (.ref 70), some (.ref 85), some (.int i), none, none, none] [] (hLaw G J) := by
  unfold p_case_11 at h
  refine JW.rZ hM 0 12 (pc2 := 880) (L2 := [some (.ref 2000000), some (.ref 0), some (.ref 70), some (.ref 85), some (.int i), none, none, none]) (st2 := [.ref 85, .int (xs (i + (2 : Int32)).toNatClampNeg), .int (xs (i + (1 : Int32)).toNatClampNeg), .ref 0]) (μ2 := (hLaw G J)) rfl ⟨hj1, hj2, trivial⟩ ?_
  obtain ⟨v1, hv2, h⟩ := jbd h
  refine JW.cHZ (v := some (.int v1.1)) hM (m_L_may (jVX X) hM.1.2.2.2.2.2.2.2.2.2.1 N (jv2 G 0 70 85) (jv2 J 0 70 85) (xs (i + (1 : Int32)).toNatClampNeg) (xs (i + (2 : Int32)).toNatClampNeg) v1 hv2) (sb_Law_W_0_85 G J) (bk_Law_W_0_85 G J (jv2 G 0 70 85) v1.2) rfl rfl rfl kh_L_174 rfl rfl (show k + 1 ≤ 601024 from by omega) (show n + 6 ≤ 7293034 from by omega) rfl (jat hM.2.1 12 rfl) (st := []) rfl ?_
  show JW (jof X) (k + 1) (n + 6) 883 [some (.ref 2000000), some (.ref 0), some (.ref 70), some (.ref 85), some (.int i), none, none, none] [.int v1.1] (hLaw G (jp2 J 0 70 85 1 v1.2))
  obtain ⟨J3, e4, h⟩ := jlE h
  rw [e4]
  refine JW.rebY (hM.off (hT2 _)) (hT1 _) (B := 94) (Nat.le_of_ble_eq_true rfl) (Nat.le_of_ble_eq_true rfl) rfl rfl rfl ?_
  clear hM
  intro X hM
  refine JW.rZ hM 13 12 (pc2 := 898) (L2 := [some (.ref 2000000), some (.ref 0), some (.ref 70), some (.ref 85), some (.int i), some (.int v1.1), none, none]) (st2 := [.int (xs (i + (2 : Int32)).toNatClampNeg), .int (xs (i + (1 : Int32)).toNatClampNeg), .ref 70]) (μ2 := (hLaw G J3)) rfl ⟨hj1, hj2, trivial⟩ ?_
  obtain ⟨v5, hv6, h⟩ := jbd h
  refine JW.cVZ (v := some (.int v5.1)) hM (m_X6_may (jVX X) hM.1.2.2.2.2.2.2.2.2.2.1 N (jvw G 70) (jvw J3 70) (xs (i + (1 : Int32)).toNatClampNeg) (xs (i + (2 : Int32)).toNatClampNeg) v5 hv6) (sb_Law_Mo_70 G J3) (bk_Law_Mo_70 G J3 v5.2 (jvw J3 70)) rfl rfl rfl kc_L_176 rfl rfl rfl rfl (show k + 1 + 0 ≤ 601024 from by omega) (show n + 6 + 0 ≤ 7293034 from by omega) rfl (jat hM.2.1 25 rfl) (st := []) rfl ?_
  show JW X (k + 1 + 0) (n + 6 + 0) 901 [some (.ref 2000000), some (.ref 0), some (.ref 70), some (.ref 85), some (.int i), some (.int v1.1), none, none] [.int v5.1] (hLaw (jpt G 70 15 v5.2) J3)
  obtain ⟨G7, e8, h⟩ := jlE h
  rw [e8]
  refine JW.rZ hM 26 2 (pc2 := 904) (L2 := [some (.ref 2000000), some (.ref 0), some (.ref 70), some (.ref 85), some (.int i), some (.int v1.1), some (.int v5.1), none]) (st2 := [.ref 70]) (μ2 := (hLaw G7 J3)) rfl trivial ?_
  obtain ⟨v9, hv10, h⟩ := jbd h
  refine JW.cVZ (v := some (.int v9)) hM (m_X6_thrown (jVX X) hM.1.2.2.2.2.2.2.2.2.2.1 N (jvw G7 70) (jvw J3 70) v9 hv10) (sb_Law_Mo_70 G7 J3) (bi_Law_Mo_70 G7 J3) rfl rfl rfl kc_L_140 rfl rfl rfl rfl (show k + 1 + 0 + 0 ≤ 601024 from by omega) (show n + 6 + 0 + 0 ≤ 7293034 from by omega) rfl (jat hM.2.1 28 rfl) (st := []) rfl ?_
  show JW X (k + 1 + 0 + 0) (n + 6 + 0 + 0) 907 [some (.ref 2000000), some (.ref 0), some (.ref 70), some (.ref 85), some (.int i), some (.int v1.1), some (.int v5.1), none] [.int v9] (hLaw G7 J3)
  refine JW.rZ hM 29 1 (pc2 := 909) (L2 := [some (.ref 2000000), some (.ref 0), some (.ref 70), some (.ref 85), some (.int i), some (.int v1.1), some (.int v5.1), none]) (st2 := [.int v1.1, .int v9]) (μ2 := (hLaw G7 J3)) rfl trivial ?_
  refine js_iceq (t := 914) hM.1 (jat hM.2.1 30 rfl) rfl (fun hc13 => ?_) (fun hc13 => ?_)
  · have h := (if_pos hc13).symm.trans h
    refine JW.rZ hM 33 1 (pc2 := 916) (L2 := [some (.ref 2000000), some (.ref 0), some (.ref 70), some (.ref 85), some (.int i), some (.int v1.1), some (.int v5.1), none]) (st2 := [.int v1.1]) (μ2 := (hLaw G7 J3)) rfl trivial ?_
    refine js_ifne (t := 931) hM.1 (jat hM.2.1 34 rfl) rfl (fun hc12 => ?_) (fun hc12 => ?_)
    · have h := (if_neg hc12).symm.trans h
      refine JW.rZ hM 44 1 (pc2 := 2667) (L2 := [some (.ref 2000000), some (.ref 0), some (.ref 70), some (.ref 85), some (.int i), some (.int v1.1), some (.int v5.1), none]) (st2 := []) (μ2 := (hLaw G7 J3)) rfl trivial ?_
      obtain rfl := Option.some.inj h
      refine JW.widen (k2 := k + 40) (n2 := n + 240) (by omega) (by omega) (JW.mask [true, true, true, true, true, false, false, false] ?_)
      exact K X hM
    · have h := (if_pos hc12).symm.trans h
      refine JW.rZ hM 35 6 (pc2 := 926) (L2 := [some (.ref 2000000), some (.ref 0), some (.ref 70), some (.ref 85), some (.int i), some (.int v1.1), some (.int v5.1), none]) (st2 := [.int (lg_cmp (J3 85 0) (v5.1.toInt64))]) (μ2 := (hLaw G7 J3)) rfl ⟨rfl, trivial⟩ ?_
      refine js_ifeq (t := 931) hM.1 (jat hM.2.1 41 rfl) rfl (fun hc11 => ?_) (fun hc11 => ?_)
      · have h := (if_pos hc11).symm.trans h
        refine JW.rZ hM 44 1 (pc2 := 2667) (L2 := [some (.ref 2000000), some (.ref 0), some (.ref 70), some (.ref 85), some (.int i), some (.int v1.1), some (.int v5.1), none]) (st2 := []) (μ2 := (hLaw G7 J3)) rfl trivial ?_
        obtain rfl := Option.some.inj h
        refine JW.widen (k2 := k + 40) (n2 := n + 240) (by omega) (by omega) (JW.mask [true, true, true, true, true, false, false, false] ?_)
        exact K X hM
      · have h := (if_neg hc11).symm.trans h
        cases h
  · have h := (if_neg hc13).symm.trans h
    cases h

def p_case_12 (N : Nat) (xs : Nat → Int32) (G : Nat → Nat → Int32) (J : Nat → Nat → Int64) (i : Int32) : Option ((Nat → Nat → Int32) × (Nat → Nat → Int64)) :=
  (p_L_undo N (jv2 G 0 70 85) (jv2 J 0 70 85) (xs (i + (1 : Int32)).toNatClampNeg) (xs (i + (2 : Int32)).toNatClampNeg)).bind (fun v1 => jlt (jp2 G 0 70 85 1 v1.2.1) fun G3 => jlt (jp2 J 0 70 85 1 v1.2.2) fun J5 => (p_X6_undo N (jvw G3 70) (jvw J5 70) (xs (i + (1 : Int32)).toNatClampNeg) (xs (i + (2 : Int32)).toNatClampNeg)).bind (fun v7 => jlt (jpt G3 70 15 v7.2) fun G9 => (p_X6_thrown N (jvw G9 70) (jvw J5 70)).bind (fun v11 => if v11 = v1.1 then (if v1.1 = 0 then (if (lg_cmp (J5 85 0) (v7.1.toInt64)) = 0 then (some (G9, J5)) else (none)) else (some (G9, J5))) else (none))))
set_option maxHeartbeats 4000000 in
set_option maxRecDepth 100000 in
theorem t_case_12 {Tz : jX → Prop} (hT1 : ∀ X ad al, Tz X → Tz (jxa X ad al)) (hT2 : ∀ X, Tz X → Tz (jof X)) {Ln : Nat} {xs : Nat → Int32} {X : jX} {k n : Nat} (hM : jMZ Tz X kL_c12 RL (tbLZ Ln xs) 8 ⟨12, 601024, 7293034, 436⟩ (some .boolean) 94) (hk : k + 40 ≤ 601024) (hn : n + 240 ≤ 7293034) (N : Nat) (G : Nat → Nat → Int32) (J : Nat → Nat → Int64) (i : Int32) (hj1 : jin (i + 1) Ln = true) (hj2 : jin (i + 2) Ln = true) (hj3 : jin (i + 3) Ln = true) (hj4 : jin (i + 4) Ln = true) (hj5 : jin (i + 5) Ln = true) (res : (Nat → Nat → Int32) × (Nat → Nat → Int64)) (h : p_case_12 N xs G J i = some res) (K : ∀ X9, jMZ Tz X9 kL_c12 RL (tbLZ Ln xs) 8 ⟨12, 601024, 7293034, 436⟩ (some .boolean) 94 → JW X9 (k + 40) (n + 240) 2667 [some (.ref 2000000), some (.ref 0), some (.ref 70), some (.ref 85), some (.int i), none, none, none] [] (hLaw res.1 res.2)) : JW X k n 934 [some (.ref 2000000), some (.ref 0), some (.ref 70), some (.ref 85), some (.int i), none, none, none] [] (hLaw G J) := by
  unfold p_case_12 at h
  refine JW.rZ hM 0 12 (pc2 := 948) (L2 := [some (.ref 2000000), some (.ref 0), some (.ref 70), some (.ref 85), some (.int i), none, none, none]) (st2 := [.ref 85, .int (xs (i + (2 : Int32)).toNatClampNeg), .int (xs (i + (1 : Int32)).toNatClampNeg), .ref 0]) (μ2 := (hLaw G J)) rfl ⟨hj1, hj2, trivial⟩ ?_
  obtain ⟨v1, hv2, h⟩ := jbd h
  refine JW.cHZ (v := some (.int v1.1)) hM (m_L_undo (jVX X) hM.1.2.2.2.2.2.2.2.2.2.1 N (jv2 G 0 70 85) (jv2 J 0 70 85) (xs (i + (1 : Int32)).toNatClampNeg) (xs (i + (2 : Int32)).toNatClampNeg) v1 hv2) (sb_Law_W_0_85 G J) (bk_Law_W_0_85 G J v1.2.1 v1.2.2) rfl rfl rfl kh_L_177 rfl rfl (show k + 1 ≤ 601024 from by omega) (show n + 6 ≤ 7293034 from by omega) rfl (jat hM.2.1 12 rfl) (st := []) rfl ?_
  show JW (jof X) (k + 1) (n + 6) 951 [some (.ref 2000000), some (.ref 0), some (.ref 70), some (.ref 85), some (.int i), none, none, none] [.int v1.1] (hLaw (jp2 G 0 70 85 1 v1.2.1) (jp2 J 0 70 85 1 v1.2.2))
  obtain ⟨G3, e4, h⟩ := jlE h
  rw [e4]
  obtain ⟨J5, e6, h⟩ := jlE h
  rw [e6]
  refine JW.rebY (hM.off (hT2 _)) (hT1 _) (B := 94) (Nat.le_of_ble_eq_true rfl) (Nat.le_of_ble_eq_true rfl) rfl rfl rfl ?_
  clear hM
  intro X hM
  refine JW.rZ hM 13 12 (pc2 := 966) (L2 := [some (.ref 2000000), some (.ref 0), some (.ref 70), some (.ref 85), some (.int i), some (.int v1.1), none, none]) (st2 := [.int (xs (i + (2 : Int32)).toNatClampNeg), .int (xs (i + (1 : Int32)).toNatClampNeg), .ref 70]) (μ2 := (hLaw G3 J5)) rfl ⟨hj1, hj2, trivial⟩ ?_
  obtain ⟨v7, hv8, h⟩ := jbd h
  refine JW.cVZ (v := some (.int v7.1)) hM (m_X6_undo (jVX X) hM.1.2.2.2.2.2.2.2.2.2.1 N (jvw G3 70) (jvw J5 70) (xs (i + (1 : Int32)).toNatClampNeg) (xs (i + (2 : Int32)).toNatClampNeg) v7 hv8) (sb_Law_Mo_70 G3 J5) (bk_Law_Mo_70 G3 J5 v7.2 (jvw J5 70)) rfl rfl rfl kc_L_179 rfl rfl rfl rfl (show k + 1 + 0 ≤ 601024 from by omega) (show n + 6 + 0 ≤ 7293034 from by omega) rfl (jat hM.2.1 25 rfl) (st := []) rfl ?_
  show JW X (k + 1 + 0) (n + 6 + 0) 969 [some (.ref 2000000), some (.ref 0), some (.ref 70), some (.ref 85), some (.int i), some (.int v1.1), none, none] [.int v7.1] (hLaw (jpt G3 70 15 v7.2) J5)
  obtain ⟨G9, e10, h⟩ := jlE h
  rw [e10]
  refine JW.rZ hM 26 2 (pc2 := 972) (L2 := [some (.ref 2000000), some (.ref 0), some (.ref 70), some (.ref 85), some (.int i), some (.int v1.1), some (.int v7.1), none]) (st2 := [.ref 70]) (μ2 := (hLaw G9 J5)) rfl trivial ?_
  obtain ⟨v11, hv12, h⟩ := jbd h
  refine JW.cVZ (v := some (.int v11)) hM (m_X6_thrown (jVX X) hM.1.2.2.2.2.2.2.2.2.2.1 N (jvw G9 70) (jvw J5 70) v11 hv12) (sb_Law_Mo_70 G9 J5) (bi_Law_Mo_70 G9 J5) rfl rfl rfl kc_L_140 rfl rfl rfl rfl (show k + 1 + 0 + 0 ≤ 601024 from by omega) (show n + 6 + 0 + 0 ≤ 7293034 from by omega) rfl (jat hM.2.1 28 rfl) (st := []) rfl ?_
  show JW X (k + 1 + 0 + 0) (n + 6 + 0 + 0) 975 [some (.ref 2000000), some (.ref 0), some (.ref 70), some (.ref 85), some (.int i), some (.int v1.1), some (.int v7.1), none] [.int v11] (hLaw G9 J5)
  refine JW.rZ hM 29 1 (pc2 := 977) (L2 := [some (.ref 2000000), some (.ref 0), some (.ref 70), some (.ref 85), some (.int i), some (.int v1.1), some (.int v7.1), none]) (st2 := [.int v1.1, .int v11]) (μ2 := (hLaw G9 J5)) rfl trivial ?_
  refine js_iceq (t := 982) hM.1 (jat hM.2.1 30 rfl) rfl (fun hc15 => ?_) (fun hc15 => ?_)
  · have h := (if_pos hc15).symm.trans h
    refine JW.rZ hM 33 1 (pc2 := 984) (L2 := [some (.ref 2000000), some (.ref 0), some (.ref 70), some (.ref 85), some (.int i), some (.int v1.1), some (.int v7.1), none]) (st2 := [.int v1.1]) (μ2 := (hLaw G9 J5)) rfl trivial ?_
    refine js_ifne (t := 999) hM.1 (jat hM.2.1 34 rfl) rfl (fun hc14 => ?_) (fun hc14 => ?_)
    · have h := (if_neg hc14).symm.trans h
      refine JW.rZ hM 44 1 (pc2 := 2667) (L2 := [some (.ref 2000000), some (.ref 0), some (.ref 70), some (.ref 85), some (.int i), some (.int v1.1), some (.int v7.1), none]) (st2 := []) (μ2 := (hLaw G9 J5)) rfl trivial ?_
      obtain rfl := Option.some.inj h
      refine JW.widen (k2 := k + 40) (n2 := n + 240) (by omega) (by omega) (JW.mask [true, true, true, true, true, false, false, false] ?_)
      exact K X hM
    · have h := (if_pos hc14).symm.trans h
      refine JW.rZ hM 35 6 (pc2 := 994) (L2 := [some (.ref 2000000), some (.ref 0), some (.ref 70), some (.ref 85), some (.int i), some (.int v1.1), some (.int v7.1), none]) (st2 := [.int (lg_cmp (J5 85 0) (v7.1.toInt64))]) (μ2 := (hLaw G9 J5)) rfl ⟨rfl, trivial⟩ ?_
      refine js_ifeq (t := 999) hM.1 (jat hM.2.1 41 rfl) rfl (fun hc13 => ?_) (fun hc13 => ?_)
      · have h := (if_pos hc13).symm.trans h
        refine JW.rZ hM 44 1 (pc2 := 2667) (L2 := [some (.ref 2000000), some (.ref 0), some (.ref 70), some (.ref 85), some (.int i), some (.int v1.1), some (.int v7.1), none]) (st2 := []) (μ2 := (hLaw G9 J5)) rfl trivial ?_
        obtain rfl := Option.some.inj h
        refine JW.widen (k2 := k + 40) (n2 := n + 240) (by omega) (by omega) (JW.mask [true, true, true, true, true, false, false, false] ?_)
        exact K X hM
      · have h := (if_neg hc13).symm.trans h
        cases h
  · have h := (if_neg hc15).symm.trans h
    cases h

def p_case_13 (N : Nat) (xs : Nat → Int32) (G : Nat → Nat → Int32) (J : Nat → Nat → Int64) (i : Int32) : Option ((Nat → Nat → Int32) × (Nat → Nat → Int64)) :=
  (p_L_falls N (jv2 G 0 70 85) (jv2 J 0 70 85) (xs (i + (1 : Int32)).toNatClampNeg)).bind (fun v1 => jlt (jp2 J 0 70 85 1 v1.2) fun J3 => (p_X6_falls N (jvw G 70) (jvw J3 70) (xs (i + (1 : Int32)).toNatClampNeg)).bind (fun v5 => jlt (jpt G 70 15 v5.2) fun G7 => (p_X6_thrown N (jvw G7 70) (jvw J3 70)).bind (fun v9 => if v9 = v1.1 then (if v1.1 = 0 then (if (lg_cmp (J3 85 0) (v5.1.toInt64)) = 0 then (some (G7, J3)) else (none)) else (some (G7, J3))) else (none))))
set_option maxHeartbeats 4000000 in
set_option maxRecDepth 100000 in
theorem t_case_13 {Tz : jX → Prop} (hT1 : ∀ X ad al, Tz X → Tz (jxa X ad al)) (hT2 : ∀ X, Tz X → Tz (jof X)) {Ln : Nat} {xs : Nat → Int32} {X : jX} {k n : Nat} (hM : jMZ Tz X kL_c13 RL (tbLZ Ln xs) 8 ⟨12, 601024, 7293034, 436⟩ (some .boolean) 94) (hk : k + 40 ≤ 601024) (hn : n + 240 ≤ 7293034) (N : Nat) (G : Nat → Nat → Int32) (J : Nat → Nat → Int64) (i : Int32) (hj1 : jin (i + 1) Ln = true) (hj2 : jin (i + 2) Ln = true) (hj3 : jin (i + 3) Ln = true) (hj4 : jin (i + 4) Ln = true) (hj5 : jin (i + 5) Ln = true) (res : (Nat → Nat → Int32) × (Nat → Nat → Int64)) (h : p_case_13 N xs G J i = some res) (K : ∀ X9, jMZ Tz X9 kL_c13 RL (tbLZ Ln xs) 8 ⟨12, 601024, 7293034, 436⟩ (some .boolean) 94 → JW X9 (k + 40) (n + 240) 2667 [some (.ref 2000000), some (.ref 0), some (.ref 70), some (.ref 85), some (.int i), none, none, none] [] (hLaw res.1 res.2)) : JW X k n 1002 [some (.ref 2000000), some (.ref 0), some (.ref 70), some (.ref 85), some (.int i), none, none, none] [] (hLaw G J) := by
  unfold p_case_13 at h
  refine JW.rZ hM 0 7 (pc2 := 1010) (L2 := [some (.ref 2000000), some (.ref 0), some (.ref 70), some (.ref 85), some (.int i), none, none, none]) (st2 := [.ref 85, .int (xs (i + (1 : Int32)).toNatClampNeg), .ref 0]) (μ2 := (hLaw G J)) rfl ⟨hj1, trivial⟩ ?_
  obtain ⟨v1, hv2, h⟩ := jbd h
  refine JW.cHZ (v := some (.int v1.1)) hM (m_L_falls (jVX X) hM.1.2.2.2.2.2.2.2.2.2.1 N (jv2 G 0 70 85) (jv2 J 0 70 85) (xs (i + (1 : Int32)).toNatClampNeg) v1 hv2) (sb_Law_W_0_85 G J) (bk_Law_W_0_85 G J (jv2 G 0 70 85) v1.2) rfl rfl rfl kh_L_180 rfl rfl (show k + 1 ≤ 601024 from by omega) (show n + 6 ≤ 7293034 from by omega) rfl (jat hM.2.1 7 rfl) (st := []) rfl ?_
  show JW (jof X) (k + 1) (n + 6) 1013 [some (.ref 2000000), some (.ref 0), some (.ref 70), some (.ref 85), some (.int i), none, none, none] [.int v1.1] (hLaw G (jp2 J 0 70 85 1 v1.2))
  obtain ⟨J3, e4, h⟩ := jlE h
  rw [e4]
  refine JW.rebY (hM.off (hT2 _)) (hT1 _) (B := 94) (Nat.le_of_ble_eq_true rfl) (Nat.le_of_ble_eq_true rfl) rfl rfl rfl ?_
  clear hM
  intro X hM
  refine JW.rZ hM 8 7 (pc2 := 1022) (L2 := [some (.ref 2000000), some (.ref 0), some (.ref 70), some (.ref 85), some (.int i), some (.int v1.1), none, none]) (st2 := [.int (xs (i + (1 : Int32)).toNatClampNeg), .ref 70]) (μ2 := (hLaw G J3)) rfl ⟨hj1, trivial⟩ ?_
  obtain ⟨v5, hv6, h⟩ := jbd h
  refine JW.cVZ (v := some (.int v5.1)) hM (m_X6_falls (jVX X) hM.1.2.2.2.2.2.2.2.2.2.1 N (jvw G 70) (jvw J3 70) (xs (i + (1 : Int32)).toNatClampNeg) v5 hv6) (sb_Law_Mo_70 G J3) (bk_Law_Mo_70 G J3 v5.2 (jvw J3 70)) rfl rfl rfl kc_L_182 rfl rfl rfl rfl (show k + 1 + 0 ≤ 601024 from by omega) (show n + 6 + 0 ≤ 7293034 from by omega) rfl (jat hM.2.1 15 rfl) (st := []) rfl ?_
  show JW X (k + 1 + 0) (n + 6 + 0) 1025 [some (.ref 2000000), some (.ref 0), some (.ref 70), some (.ref 85), some (.int i), some (.int v1.1), none, none] [.int v5.1] (hLaw (jpt G 70 15 v5.2) J3)
  obtain ⟨G7, e8, h⟩ := jlE h
  rw [e8]
  refine JW.rZ hM 16 2 (pc2 := 1028) (L2 := [some (.ref 2000000), some (.ref 0), some (.ref 70), some (.ref 85), some (.int i), some (.int v1.1), some (.int v5.1), none]) (st2 := [.ref 70]) (μ2 := (hLaw G7 J3)) rfl trivial ?_
  obtain ⟨v9, hv10, h⟩ := jbd h
  refine JW.cVZ (v := some (.int v9)) hM (m_X6_thrown (jVX X) hM.1.2.2.2.2.2.2.2.2.2.1 N (jvw G7 70) (jvw J3 70) v9 hv10) (sb_Law_Mo_70 G7 J3) (bi_Law_Mo_70 G7 J3) rfl rfl rfl kc_L_140 rfl rfl rfl rfl (show k + 1 + 0 + 0 ≤ 601024 from by omega) (show n + 6 + 0 + 0 ≤ 7293034 from by omega) rfl (jat hM.2.1 18 rfl) (st := []) rfl ?_
  show JW X (k + 1 + 0 + 0) (n + 6 + 0 + 0) 1031 [some (.ref 2000000), some (.ref 0), some (.ref 70), some (.ref 85), some (.int i), some (.int v1.1), some (.int v5.1), none] [.int v9] (hLaw G7 J3)
  refine JW.rZ hM 19 1 (pc2 := 1033) (L2 := [some (.ref 2000000), some (.ref 0), some (.ref 70), some (.ref 85), some (.int i), some (.int v1.1), some (.int v5.1), none]) (st2 := [.int v1.1, .int v9]) (μ2 := (hLaw G7 J3)) rfl trivial ?_
  refine js_iceq (t := 1038) hM.1 (jat hM.2.1 20 rfl) rfl (fun hc13 => ?_) (fun hc13 => ?_)
  · have h := (if_pos hc13).symm.trans h
    refine JW.rZ hM 23 1 (pc2 := 1040) (L2 := [some (.ref 2000000), some (.ref 0), some (.ref 70), some (.ref 85), some (.int i), some (.int v1.1), some (.int v5.1), none]) (st2 := [.int v1.1]) (μ2 := (hLaw G7 J3)) rfl trivial ?_
    refine js_ifne (t := 1055) hM.1 (jat hM.2.1 24 rfl) rfl (fun hc12 => ?_) (fun hc12 => ?_)
    · have h := (if_neg hc12).symm.trans h
      refine JW.rZ hM 34 1 (pc2 := 2667) (L2 := [some (.ref 2000000), some (.ref 0), some (.ref 70), some (.ref 85), some (.int i), some (.int v1.1), some (.int v5.1), none]) (st2 := []) (μ2 := (hLaw G7 J3)) rfl trivial ?_
      obtain rfl := Option.some.inj h
      refine JW.widen (k2 := k + 40) (n2 := n + 240) (by omega) (by omega) (JW.mask [true, true, true, true, true, false, false, false] ?_)
      exact K X hM
    · have h := (if_pos hc12).symm.trans h
      refine JW.rZ hM 25 6 (pc2 := 1050) (L2 := [some (.ref 2000000), some (.ref 0), some (.ref 70), some (.ref 85), some (.int i), some (.int v1.1), some (.int v5.1), none]) (st2 := [.int (lg_cmp (J3 85 0) (v5.1.toInt64))]) (μ2 := (hLaw G7 J3)) rfl ⟨rfl, trivial⟩ ?_
      refine js_ifeq (t := 1055) hM.1 (jat hM.2.1 31 rfl) rfl (fun hc11 => ?_) (fun hc11 => ?_)
      · have h := (if_pos hc11).symm.trans h
        refine JW.rZ hM 34 1 (pc2 := 2667) (L2 := [some (.ref 2000000), some (.ref 0), some (.ref 70), some (.ref 85), some (.int i), some (.int v1.1), some (.int v5.1), none]) (st2 := []) (μ2 := (hLaw G7 J3)) rfl trivial ?_
        obtain rfl := Option.some.inj h
        refine JW.widen (k2 := k + 40) (n2 := n + 240) (by omega) (by omega) (JW.mask [true, true, true, true, true, false, false, false] ?_)
        exact K X hM
      · have h := (if_neg hc11).symm.trans h
        cases h
  · have h := (if_neg hc13).symm.trans h
    cases h

def p_case_14 (N : Nat) (xs : Nat → Int32) (G : Nat → Nat → Int32) (J : Nat → Nat → Int64) (i : Int32) : Option ((Nat → Nat → Int32) × (Nat → Nat → Int64)) :=
  (p_L_owes N (jv2 G 0 70 85) (jv2 J 0 70 85) (xs (i + (1 : Int32)).toNatClampNeg) (xs (i + (2 : Int32)).toNatClampNeg) (xs (i + (3 : Int32)).toNatClampNeg)).bind (fun v1 => jlt (jp2 J 0 70 85 1 v1.2) fun J3 => (p_X6_owes N (jvw G 70) (jvw J3 70) (xs (i + (1 : Int32)).toNatClampNeg) (xs (i + (2 : Int32)).toNatClampNeg) (xs (i + (3 : Int32)).toNatClampNeg)).bind (fun v5 => jlt (jpt G 70 15 v5.2) fun G7 => (p_X6_thrown N (jvw G7 70) (jvw J3 70)).bind (fun v9 => if v9 = v1.1 then (if v1.1 = 0 then (if (lg_cmp (J3 85 0) (v5.1.toInt64)) = 0 then (some (G7, J3)) else (none)) else (some (G7, J3))) else (none))))
set_option maxHeartbeats 4000000 in
set_option maxRecDepth 100000 in
theorem t_case_14 {Tz : jX → Prop} (hT1 : ∀ X ad al, Tz X → Tz (jxa X ad al)) (hT2 : ∀ X, Tz X → Tz (jof X)) {Ln : Nat} {xs : Nat → Int32} {X : jX} {k n : Nat} (hM : jMZ Tz X kL_c14 RL (tbLZ Ln xs) 8 ⟨12, 601024, 7293034, 436⟩ (some .boolean) 94) (hk : k + 40 ≤ 601024) (hn : n + 240 ≤ 7293034) (N : Nat) (G : Nat → Nat → Int32) (J : Nat → Nat → Int64) (i : Int32) (hj1 : jin (i + 1) Ln = true) (hj2 : jin (i + 2) Ln = true) (hj3 : jin (i + 3) Ln = true) (hj4 : jin (i + 4) Ln = true) (hj5 : jin (i + 5) Ln = true) (res : (Nat → Nat → Int32) × (Nat → Nat → Int64)) (h : p_case_14 N xs G J i = some res) (K : ∀ X9, jMZ Tz X9 kL_c14 RL (tbLZ Ln xs) 8 ⟨12, 601024, 7293034, 436⟩ (some .boolean) 94 → JW X9 (k + 40) (n + 240) 2667 [some (.ref 2000000), some (.ref 0), some (.ref 70), some (.ref 85), some (.int i), none, none, none] [] (hLaw res.1 res.2)) : JW X k n 1058 [some (.ref 2000000), some (.ref 0), some (.ref 70), some (.ref 85), some (.int i), none, none, none] [] (hLaw G J) := by
  unfold p_case_14 at h
  refine JW.rZ hM 0 17 (pc2 := 1078) (L2 := [some (.ref 2000000), some (.ref 0), some (.ref 70), some (.ref 85), some (.int i), none, none, none]) (st2 := [.ref 85, .int (xs (i + (3 : Int32)).toNatClampNeg), .int (xs (i + (2 : Int32)).toNatClampNeg), .int (xs (i + (1 : Int32)).toNatClampNeg), .ref 0]) (μ2 := (hLaw G J)) rfl ⟨hj1, hj2, hj3, trivial⟩ ?_
  obtain ⟨v1, hv2, h⟩ := jbd h
  refine JW.cHZ (v := some (.int v1.1)) hM (m_L_owes (jVX X) hM.1.2.2.2.2.2.2.2.2.2.1 N (jv2 G 0 70 85) (jv2 J 0 70 85) (xs (i + (1 : Int32)).toNatClampNeg) (xs (i + (2 : Int32)).toNatClampNeg) (xs (i + (3 : Int32)).toNatClampNeg) v1 hv2) (sb_Law_W_0_85 G J) (bk_Law_W_0_85 G J (jv2 G 0 70 85) v1.2) rfl rfl rfl kh_L_183 rfl rfl (show k + 3 ≤ 601024 from by omega) (show n + 18 ≤ 7293034 from by omega) rfl (jat hM.2.1 17 rfl) (st := []) rfl ?_
  show JW (jof X) (k + 3) (n + 18) 1081 [some (.ref 2000000), some (.ref 0), some (.ref 70), some (.ref 85), some (.int i), none, none, none] [.int v1.1] (hLaw G (jp2 J 0 70 85 1 v1.2))
  obtain ⟨J3, e4, h⟩ := jlE h
  rw [e4]
  refine JW.rebY (hM.off (hT2 _)) (hT1 _) (B := 94) (Nat.le_of_ble_eq_true rfl) (Nat.le_of_ble_eq_true rfl) rfl rfl rfl ?_
  clear hM
  intro X hM
  refine JW.rZ hM 18 17 (pc2 := 1102) (L2 := [some (.ref 2000000), some (.ref 0), some (.ref 70), some (.ref 85), some (.int i), some (.int v1.1), none, none]) (st2 := [.int (xs (i + (3 : Int32)).toNatClampNeg), .int (xs (i + (2 : Int32)).toNatClampNeg), .int (xs (i + (1 : Int32)).toNatClampNeg), .ref 70]) (μ2 := (hLaw G J3)) rfl ⟨hj1, hj2, hj3, trivial⟩ ?_
  obtain ⟨v5, hv6, h⟩ := jbd h
  refine JW.cVZ (v := some (.int v5.1)) hM (m_X6_owes (jVX X) hM.1.2.2.2.2.2.2.2.2.2.1 N (jvw G 70) (jvw J3 70) (xs (i + (1 : Int32)).toNatClampNeg) (xs (i + (2 : Int32)).toNatClampNeg) (xs (i + (3 : Int32)).toNatClampNeg) v5 hv6) (sb_Law_Mo_70 G J3) (bk_Law_Mo_70 G J3 v5.2 (jvw J3 70)) rfl rfl rfl kc_L_186 rfl rfl rfl rfl (show k + 3 + 0 ≤ 601024 from by omega) (show n + 18 + 0 ≤ 7293034 from by omega) rfl (jat hM.2.1 35 rfl) (st := []) rfl ?_
  show JW X (k + 3 + 0) (n + 18 + 0) 1105 [some (.ref 2000000), some (.ref 0), some (.ref 70), some (.ref 85), some (.int i), some (.int v1.1), none, none] [.int v5.1] (hLaw (jpt G 70 15 v5.2) J3)
  obtain ⟨G7, e8, h⟩ := jlE h
  rw [e8]
  refine JW.rZ hM 36 2 (pc2 := 1108) (L2 := [some (.ref 2000000), some (.ref 0), some (.ref 70), some (.ref 85), some (.int i), some (.int v1.1), some (.int v5.1), none]) (st2 := [.ref 70]) (μ2 := (hLaw G7 J3)) rfl trivial ?_
  obtain ⟨v9, hv10, h⟩ := jbd h
  refine JW.cVZ (v := some (.int v9)) hM (m_X6_thrown (jVX X) hM.1.2.2.2.2.2.2.2.2.2.1 N (jvw G7 70) (jvw J3 70) v9 hv10) (sb_Law_Mo_70 G7 J3) (bi_Law_Mo_70 G7 J3) rfl rfl rfl kc_L_140 rfl rfl rfl rfl (show k + 3 + 0 + 0 ≤ 601024 from by omega) (show n + 18 + 0 + 0 ≤ 7293034 from by omega) rfl (jat hM.2.1 38 rfl) (st := []) rfl ?_
  show JW X (k + 3 + 0 + 0) (n + 18 + 0 + 0) 1111 [some (.ref 2000000), some (.ref 0), some (.ref 70), some (.ref 85), some (.int i), some (.int v1.1), some (.int v5.1), none] [.int v9] (hLaw G7 J3)
  refine JW.rZ hM 39 1 (pc2 := 1113) (L2 := [some (.ref 2000000), some (.ref 0), some (.ref 70), some (.ref 85), some (.int i), some (.int v1.1), some (.int v5.1), none]) (st2 := [.int v1.1, .int v9]) (μ2 := (hLaw G7 J3)) rfl trivial ?_
  refine js_iceq (t := 1118) hM.1 (jat hM.2.1 40 rfl) rfl (fun hc13 => ?_) (fun hc13 => ?_)
  · have h := (if_pos hc13).symm.trans h
    refine JW.rZ hM 43 1 (pc2 := 1120) (L2 := [some (.ref 2000000), some (.ref 0), some (.ref 70), some (.ref 85), some (.int i), some (.int v1.1), some (.int v5.1), none]) (st2 := [.int v1.1]) (μ2 := (hLaw G7 J3)) rfl trivial ?_
    refine js_ifne (t := 1135) hM.1 (jat hM.2.1 44 rfl) rfl (fun hc12 => ?_) (fun hc12 => ?_)
    · have h := (if_neg hc12).symm.trans h
      refine JW.rZ hM 54 1 (pc2 := 2667) (L2 := [some (.ref 2000000), some (.ref 0), some (.ref 70), some (.ref 85), some (.int i), some (.int v1.1), some (.int v5.1), none]) (st2 := []) (μ2 := (hLaw G7 J3)) rfl trivial ?_
      obtain rfl := Option.some.inj h
      refine JW.widen (k2 := k + 40) (n2 := n + 240) (by omega) (by omega) (JW.mask [true, true, true, true, true, false, false, false] ?_)
      exact K X hM
    · have h := (if_pos hc12).symm.trans h
      refine JW.rZ hM 45 6 (pc2 := 1130) (L2 := [some (.ref 2000000), some (.ref 0), some (.ref 70), some (.ref 85), some (.int i), some (.int v1.1), some (.int v5.1), none]) (st2 := [.int (lg_cmp (J3 85 0) (v5.1.toInt64))]) (μ2 := (hLaw G7 J3)) rfl ⟨rfl, trivial⟩ ?_
      refine js_ifeq (t := 1135) hM.1 (jat hM.2.1 51 rfl) rfl (fun hc11 => ?_) (fun hc11 => ?_)
      · have h := (if_pos hc11).symm.trans h
        refine JW.rZ hM 54 1 (pc2 := 2667) (L2 := [some (.ref 2000000), some (.ref 0), some (.ref 70), some (.ref 85), some (.int i), some (.int v1.1), some (.int v5.1), none]) (st2 := []) (μ2 := (hLaw G7 J3)) rfl trivial ?_
        obtain rfl := Option.some.inj h
        refine JW.widen (k2 := k + 40) (n2 := n + 240) (by omega) (by omega) (JW.mask [true, true, true, true, true, false, false, false] ?_)
        exact K X hM
      · have h := (if_neg hc11).symm.trans h
        cases h
  · have h := (if_neg hc13).symm.trans h
    cases h

def p_case_15 (N : Nat) (xs : Nat → Int32) (G : Nat → Nat → Int32) (J : Nat → Nat → Int64) (i : Int32) : Option ((Nat → Nat → Int32) × (Nat → Nat → Int64)) :=
  (p_L_chain N (jv2 G 0 70 85) (jv2 J 0 70 85) (xs (i + (1 : Int32)).toNatClampNeg) (xs (i + (2 : Int32)).toNatClampNeg)).bind (fun v1 => jlt (jp2 J 0 70 85 1 v1.2) fun J3 => (p_X6_chain N (jvw G 70) (jvw J3 70) (xs (i + (1 : Int32)).toNatClampNeg) (xs (i + (2 : Int32)).toNatClampNeg)).bind (fun v5 => jlt (jpt G 70 15 v5.2) fun G7 => (p_X6_thrown N (jvw G7 70) (jvw J3 70)).bind (fun v9 => if v9 = v1.1 then (if v1.1 = 0 then (if (lg_cmp (J3 85 0) (v5.1.toInt64)) = 0 then (some (G7, J3)) else (none)) else (some (G7, J3))) else (none))))
set_option maxHeartbeats 4000000 in
set_option maxRecDepth 100000 in
theorem t_case_15 {Tz : jX → Prop} (hT1 : ∀ X ad al, Tz X → Tz (jxa X ad al)) (hT2 : ∀ X, Tz X → Tz (jof X)) {Ln : Nat} {xs : Nat → Int32} {X : jX} {k n : Nat} (hM : jMZ Tz X kL_c15 RL (tbLZ Ln xs) 8 ⟨12, 601024, 7293034, 436⟩ (some .boolean) 94) (hk : k + 40 ≤ 601024) (hn : n + 240 ≤ 7293034) (N : Nat) (G : Nat → Nat → Int32) (J : Nat → Nat → Int64) (i : Int32) (hj1 : jin (i + 1) Ln = true) (hj2 : jin (i + 2) Ln = true) (hj3 : jin (i + 3) Ln = true) (hj4 : jin (i + 4) Ln = true) (hj5 : jin (i + 5) Ln = true) (res : (Nat → Nat → Int32) × (Nat → Nat → Int64)) (h : p_case_15 N xs G J i = some res) (K : ∀ X9, jMZ Tz X9 kL_c15 RL (tbLZ Ln xs) 8 ⟨12, 601024, 7293034, 436⟩ (some .boolean) 94 → JW X9 (k + 40) (n + 240) 2667 [some (.ref 2000000), some (.ref 0), some (.ref 70), some (.ref 85), some (.int i), none, none, none] [] (hLaw res.1 res.2)) : JW X k n 1138 [some (.ref 2000000), some (.ref 0), some (.ref 70), some (.ref 85), some (.int i), none, none, none] [] (hLaw G J) := by
  unfold p_case_15 at h
  refine JW.rZ hM 0 12 (pc2 := 1152) (L2 := [some (.ref 2000000), some (.ref 0), some (.ref 70), some (.ref 85), some (.int i), none, none, none]) (st2 := [.ref 85, .int (xs (i + (2 : Int32)).toNatClampNeg), .int (xs (i + (1 : Int32)).toNatClampNeg), .ref 0]) (μ2 := (hLaw G J)) rfl ⟨hj1, hj2, trivial⟩ ?_
  obtain ⟨v1, hv2, h⟩ := jbd h
  refine JW.cHZ (v := some (.int v1.1)) hM (m_L_chain (jVX X) hM.1.2.2.2.2.2.2.2.2.2.1 N (jv2 G 0 70 85) (jv2 J 0 70 85) (xs (i + (1 : Int32)).toNatClampNeg) (xs (i + (2 : Int32)).toNatClampNeg) v1 hv2) (sb_Law_W_0_85 G J) (bk_Law_W_0_85 G J (jv2 G 0 70 85) v1.2) rfl rfl rfl kh_L_187 rfl rfl (show k + 1 ≤ 601024 from by omega) (show n + 6 ≤ 7293034 from by omega) rfl (jat hM.2.1 12 rfl) (st := []) rfl ?_
  show JW (jof X) (k + 1) (n + 6) 1155 [some (.ref 2000000), some (.ref 0), some (.ref 70), some (.ref 85), some (.int i), none, none, none] [.int v1.1] (hLaw G (jp2 J 0 70 85 1 v1.2))
  obtain ⟨J3, e4, h⟩ := jlE h
  rw [e4]
  refine JW.rebY (hM.off (hT2 _)) (hT1 _) (B := 94) (Nat.le_of_ble_eq_true rfl) (Nat.le_of_ble_eq_true rfl) rfl rfl rfl ?_
  clear hM
  intro X hM
  refine JW.rZ hM 13 12 (pc2 := 1170) (L2 := [some (.ref 2000000), some (.ref 0), some (.ref 70), some (.ref 85), some (.int i), some (.int v1.1), none, none]) (st2 := [.int (xs (i + (2 : Int32)).toNatClampNeg), .int (xs (i + (1 : Int32)).toNatClampNeg), .ref 70]) (μ2 := (hLaw G J3)) rfl ⟨hj1, hj2, trivial⟩ ?_
  obtain ⟨v5, hv6, h⟩ := jbd h
  refine JW.cVZ (v := some (.int v5.1)) hM (m_X6_chain (jVX X) hM.1.2.2.2.2.2.2.2.2.2.1 N (jvw G 70) (jvw J3 70) (xs (i + (1 : Int32)).toNatClampNeg) (xs (i + (2 : Int32)).toNatClampNeg) v5 hv6) (sb_Law_Mo_70 G J3) (bk_Law_Mo_70 G J3 v5.2 (jvw J3 70)) rfl rfl rfl kc_L_189 rfl rfl rfl rfl (show k + 1 + 0 ≤ 601024 from by omega) (show n + 6 + 0 ≤ 7293034 from by omega) rfl (jat hM.2.1 25 rfl) (st := []) rfl ?_
  show JW X (k + 1 + 0) (n + 6 + 0) 1173 [some (.ref 2000000), some (.ref 0), some (.ref 70), some (.ref 85), some (.int i), some (.int v1.1), none, none] [.int v5.1] (hLaw (jpt G 70 15 v5.2) J3)
  obtain ⟨G7, e8, h⟩ := jlE h
  rw [e8]
  refine JW.rZ hM 26 2 (pc2 := 1176) (L2 := [some (.ref 2000000), some (.ref 0), some (.ref 70), some (.ref 85), some (.int i), some (.int v1.1), some (.int v5.1), none]) (st2 := [.ref 70]) (μ2 := (hLaw G7 J3)) rfl trivial ?_
  obtain ⟨v9, hv10, h⟩ := jbd h
  refine JW.cVZ (v := some (.int v9)) hM (m_X6_thrown (jVX X) hM.1.2.2.2.2.2.2.2.2.2.1 N (jvw G7 70) (jvw J3 70) v9 hv10) (sb_Law_Mo_70 G7 J3) (bi_Law_Mo_70 G7 J3) rfl rfl rfl kc_L_140 rfl rfl rfl rfl (show k + 1 + 0 + 0 ≤ 601024 from by omega) (show n + 6 + 0 + 0 ≤ 7293034 from by omega) rfl (jat hM.2.1 28 rfl) (st := []) rfl ?_
  show JW X (k + 1 + 0 + 0) (n + 6 + 0 + 0) 1179 [some (.ref 2000000), some (.ref 0), some (.ref 70), some (.ref 85), some (.int i), some (.int v1.1), some (.int v5.1), none] [.int v9] (hLaw G7 J3)
  refine JW.rZ hM 29 1 (pc2 := 1181) (L2 := [some (.ref 2000000), some (.ref 0), some (.ref 70), some (.ref 85), some (.int i), some (.int v1.1), some (.int v5.1), none]) (st2 := [.int v1.1, .int v9]) (μ2 := (hLaw G7 J3)) rfl trivial ?_
  refine js_iceq (t := 1186) hM.1 (jat hM.2.1 30 rfl) rfl (fun hc13 => ?_) (fun hc13 => ?_)
  · have h := (if_pos hc13).symm.trans h
    refine JW.rZ hM 33 1 (pc2 := 1188) (L2 := [some (.ref 2000000), some (.ref 0), some (.ref 70), some (.ref 85), some (.int i), some (.int v1.1), some (.int v5.1), none]) (st2 := [.int v1.1]) (μ2 := (hLaw G7 J3)) rfl trivial ?_
    refine js_ifne (t := 1203) hM.1 (jat hM.2.1 34 rfl) rfl (fun hc12 => ?_) (fun hc12 => ?_)
    · have h := (if_neg hc12).symm.trans h
      refine JW.rZ hM 44 1 (pc2 := 2667) (L2 := [some (.ref 2000000), some (.ref 0), some (.ref 70), some (.ref 85), some (.int i), some (.int v1.1), some (.int v5.1), none]) (st2 := []) (μ2 := (hLaw G7 J3)) rfl trivial ?_
      obtain rfl := Option.some.inj h
      refine JW.widen (k2 := k + 40) (n2 := n + 240) (by omega) (by omega) (JW.mask [true, true, true, true, true, false, false, false] ?_)
      exact K X hM
    · have h := (if_pos hc12).symm.trans h
      refine JW.rZ hM 35 6 (pc2 := 1198) (L2 := [some (.ref 2000000), some (.ref 0), some (.ref 70), some (.ref 85), some (.int i), some (.int v1.1), some (.int v5.1), none]) (st2 := [.int (lg_cmp (J3 85 0) (v5.1.toInt64))]) (μ2 := (hLaw G7 J3)) rfl ⟨rfl, trivial⟩ ?_
      refine js_ifeq (t := 1203) hM.1 (jat hM.2.1 41 rfl) rfl (fun hc11 => ?_) (fun hc11 => ?_)
      · have h := (if_pos hc11).symm.trans h
        refine JW.rZ hM 44 1 (pc2 := 2667) (L2 := [some (.ref 2000000), some (.ref 0), some (.ref 70), some (.ref 85), some (.int i), some (.int v1.1), some (.int v5.1), none]) (st2 := []) (μ2 := (hLaw G7 J3)) rfl trivial ?_
        obtain rfl := Option.some.inj h
        refine JW.widen (k2 := k + 40) (n2 := n + 240) (by omega) (by omega) (JW.mask [true, true, true, true, true, false, false, false] ?_)
        exact K X hM
      · have h := (if_neg hc11).symm.trans h
        cases h
  · have h := (if_neg hc13).symm.trans h
    cases h

def p_case_16 (N : Nat) (xs : Nat → Int32) (G : Nat → Nat → Int32) (J : Nat → Nat → Int64) (i : Int32) : Option ((Nat → Nat → Int32) × (Nat → Nat → Int64)) :=
  (p_L_judge N (jv2 G 0 70 85) (jv2 J 0 70 85) (xs (i + (1 : Int32)).toNatClampNeg) (xs (i + (2 : Int32)).toNatClampNeg)).bind (fun v1 => jlt (jp2 G 0 70 85 1 v1.2.1) fun G3 => jlt (jp2 J 0 70 85 1 v1.2.2) fun J5 => (p_X6_judge N (jvw G3 70) (jvw J5 70) (xs (i + (1 : Int32)).toNatClampNeg) (xs (i + (2 : Int32)).toNatClampNeg)).bind (fun v7 => jlt (jpt G3 70 15 v7.2) fun G9 => (p_X6_thrown N (jvw G9 70) (jvw J5 70)).bind (fun v11 => if v11 = v1.1 then (if v1.1 = 0 then (if (lg_cmp (J5 85 0) (v7.1.toInt64)) = 0 then (some (G9, J5)) else (none)) else (some (G9, J5))) else (none))))
set_option maxHeartbeats 4000000 in
set_option maxRecDepth 100000 in
theorem t_case_16 {Tz : jX → Prop} (hT1 : ∀ X ad al, Tz X → Tz (jxa X ad al)) (hT2 : ∀ X, Tz X → Tz (jof X)) {Ln : Nat} {xs : Nat → Int32} {X : jX} {k n : Nat} (hM : jMZ Tz X kL_c16 RL (tbLZ Ln xs) 8 ⟨12, 601024, 7293034, 436⟩ (some .boolean) 94) (hk : k + 40 ≤ 601024) (hn : n + 240 ≤ 7293034) (N : Nat) (G : Nat → Nat → Int32) (J : Nat → Nat → Int64) (i : Int32) (hj1 : jin (i + 1) Ln = true) (hj2 : jin (i + 2) Ln = true) (hj3 : jin (i + 3) Ln = true) (hj4 : jin (i + 4) Ln = true) (hj5 : jin (i + 5) Ln = true) (res : (Nat → Nat → Int32) × (Nat → Nat → Int64)) (h : p_case_16 N xs G J i = some res) (K : ∀ X9, jMZ Tz X9 kL_c16 RL (tbLZ Ln xs) 8 ⟨12, 601024, 7293034, 436⟩ (some .boolean) 94 → JW X9 (k + 40) (n + 240) 2667 [some (.ref 2000000), some (.ref 0), some (.ref 70), some (.ref 85), some (.int i), none, none, none] [] (hLaw res.1 res.2)) : JW X k n 1206 [some (.ref 2000000), some (.ref 0), some (.ref 70), some (.ref 85), some (.int i), none, none, none] [] (hLaw G J) := by
  unfold p_case_16 at h
  refine JW.rZ hM 0 12 (pc2 := 1220) (L2 := [some (.ref 2000000), some (.ref 0), some (.ref 70), some (.ref 85), some (.int i), none, none, none]) (st2 := [.ref 85, .int (xs (i + (2 : Int32)).toNatClampNeg), .int (xs (i + (1 : Int32)).toNatClampNeg), .ref 0]) (μ2 := (hLaw G J)) rfl ⟨hj1, hj2, trivial⟩ ?_
  obtain ⟨v1, hv2, h⟩ := jbd h
  refine JW.cHZ (v := some (.int v1.1)) hM (m_L_judge (jVX X) hM.1.2.2.2.2.2.2.2.2.2.1 N (jv2 G 0 70 85) (jv2 J 0 70 85) (xs (i + (1 : Int32)).toNatClampNeg) (xs (i + (2 : Int32)).toNatClampNeg) v1 hv2) (sb_Law_W_0_85 G J) (bk_Law_W_0_85 G J v1.2.1 v1.2.2) rfl rfl rfl kh_L_190 rfl rfl (show k + 2 ≤ 601024 from by omega) (show n + 12 ≤ 7293034 from by omega) rfl (jat hM.2.1 12 rfl) (st := []) rfl ?_
  show JW (jof X) (k + 2) (n + 12) 1223 [some (.ref 2000000), some (.ref 0), some (.ref 70), some (.ref 85), some (.int i), none, none, none] [.int v1.1] (hLaw (jp2 G 0 70 85 1 v1.2.1) (jp2 J 0 70 85 1 v1.2.2))
  obtain ⟨G3, e4, h⟩ := jlE h
  rw [e4]
  obtain ⟨J5, e6, h⟩ := jlE h
  rw [e6]
  refine JW.rebY (hM.off (hT2 _)) (hT1 _) (B := 94) (Nat.le_of_ble_eq_true rfl) (Nat.le_of_ble_eq_true rfl) rfl rfl rfl ?_
  clear hM
  intro X hM
  refine JW.rZ hM 13 12 (pc2 := 1238) (L2 := [some (.ref 2000000), some (.ref 0), some (.ref 70), some (.ref 85), some (.int i), some (.int v1.1), none, none]) (st2 := [.int (xs (i + (2 : Int32)).toNatClampNeg), .int (xs (i + (1 : Int32)).toNatClampNeg), .ref 70]) (μ2 := (hLaw G3 J5)) rfl ⟨hj1, hj2, trivial⟩ ?_
  obtain ⟨v7, hv8, h⟩ := jbd h
  refine JW.cVZ (v := some (.int v7.1)) hM (m_X6_judge (jVX X) hM.1.2.2.2.2.2.2.2.2.2.1 N (jvw G3 70) (jvw J5 70) (xs (i + (1 : Int32)).toNatClampNeg) (xs (i + (2 : Int32)).toNatClampNeg) v7 hv8) (sb_Law_Mo_70 G3 J5) (bk_Law_Mo_70 G3 J5 v7.2 (jvw J5 70)) rfl rfl rfl kc_L_192 rfl rfl rfl rfl (show k + 2 + 0 ≤ 601024 from by omega) (show n + 12 + 0 ≤ 7293034 from by omega) rfl (jat hM.2.1 25 rfl) (st := []) rfl ?_
  show JW X (k + 2 + 0) (n + 12 + 0) 1241 [some (.ref 2000000), some (.ref 0), some (.ref 70), some (.ref 85), some (.int i), some (.int v1.1), none, none] [.int v7.1] (hLaw (jpt G3 70 15 v7.2) J5)
  obtain ⟨G9, e10, h⟩ := jlE h
  rw [e10]
  refine JW.rZ hM 26 2 (pc2 := 1244) (L2 := [some (.ref 2000000), some (.ref 0), some (.ref 70), some (.ref 85), some (.int i), some (.int v1.1), some (.int v7.1), none]) (st2 := [.ref 70]) (μ2 := (hLaw G9 J5)) rfl trivial ?_
  obtain ⟨v11, hv12, h⟩ := jbd h
  refine JW.cVZ (v := some (.int v11)) hM (m_X6_thrown (jVX X) hM.1.2.2.2.2.2.2.2.2.2.1 N (jvw G9 70) (jvw J5 70) v11 hv12) (sb_Law_Mo_70 G9 J5) (bi_Law_Mo_70 G9 J5) rfl rfl rfl kc_L_140 rfl rfl rfl rfl (show k + 2 + 0 + 0 ≤ 601024 from by omega) (show n + 12 + 0 + 0 ≤ 7293034 from by omega) rfl (jat hM.2.1 28 rfl) (st := []) rfl ?_
  show JW X (k + 2 + 0 + 0) (n + 12 + 0 + 0) 1247 [some (.ref 2000000), some (.ref 0), some (.ref 70), some (.ref 85), some (.int i), some (.int v1.1), some (.int v7.1), none] [.int v11] (hLaw G9 J5)
  refine JW.rZ hM 29 1 (pc2 := 1249) (L2 := [some (.ref 2000000), some (.ref 0), some (.ref 70), some (.ref 85), some (.int i), some (.int v1.1), some (.int v7.1), none]) (st2 := [.int v1.1, .int v11]) (μ2 := (hLaw G9 J5)) rfl trivial ?_
  refine js_iceq (t := 1254) hM.1 (jat hM.2.1 30 rfl) rfl (fun hc15 => ?_) (fun hc15 => ?_)
  · have h := (if_pos hc15).symm.trans h
    refine JW.rZ hM 33 1 (pc2 := 1256) (L2 := [some (.ref 2000000), some (.ref 0), some (.ref 70), some (.ref 85), some (.int i), some (.int v1.1), some (.int v7.1), none]) (st2 := [.int v1.1]) (μ2 := (hLaw G9 J5)) rfl trivial ?_
    refine js_ifne (t := 1271) hM.1 (jat hM.2.1 34 rfl) rfl (fun hc14 => ?_) (fun hc14 => ?_)
    · have h := (if_neg hc14).symm.trans h
      refine JW.rZ hM 44 1 (pc2 := 2667) (L2 := [some (.ref 2000000), some (.ref 0), some (.ref 70), some (.ref 85), some (.int i), some (.int v1.1), some (.int v7.1), none]) (st2 := []) (μ2 := (hLaw G9 J5)) rfl trivial ?_
      obtain rfl := Option.some.inj h
      refine JW.widen (k2 := k + 40) (n2 := n + 240) (by omega) (by omega) (JW.mask [true, true, true, true, true, false, false, false] ?_)
      exact K X hM
    · have h := (if_pos hc14).symm.trans h
      refine JW.rZ hM 35 6 (pc2 := 1266) (L2 := [some (.ref 2000000), some (.ref 0), some (.ref 70), some (.ref 85), some (.int i), some (.int v1.1), some (.int v7.1), none]) (st2 := [.int (lg_cmp (J5 85 0) (v7.1.toInt64))]) (μ2 := (hLaw G9 J5)) rfl ⟨rfl, trivial⟩ ?_
      refine js_ifeq (t := 1271) hM.1 (jat hM.2.1 41 rfl) rfl (fun hc13 => ?_) (fun hc13 => ?_)
      · have h := (if_pos hc13).symm.trans h
        refine JW.rZ hM 44 1 (pc2 := 2667) (L2 := [some (.ref 2000000), some (.ref 0), some (.ref 70), some (.ref 85), some (.int i), some (.int v1.1), some (.int v7.1), none]) (st2 := []) (μ2 := (hLaw G9 J5)) rfl trivial ?_
        obtain rfl := Option.some.inj h
        refine JW.widen (k2 := k + 40) (n2 := n + 240) (by omega) (by omega) (JW.mask [true, true, true, true, true, false, false, false] ?_)
        exact K X hM
      · have h := (if_neg hc13).symm.trans h
        cases h
  · have h := (if_neg hc15).symm.trans h
    cases h

def p_case_17 (N : Nat) (xs : Nat → Int32) (G : Nat → Nat → Int32) (J : Nat → Nat → Int64) (i : Int32) : Option ((Nat → Nat → Int32) × (Nat → Nat → Int64)) :=
  (p_L_perform N (jv2 G 0 70 85) (jv2 J 0 70 85) (xs (i + (1 : Int32)).toNatClampNeg)).bind (fun v1 => jlt (jp2 G 0 70 85 1 v1.2.1) fun G3 => jlt (jp2 J 0 70 85 1 v1.2.2) fun J5 => (p_X6_perform N (jvw G3 70) (jvw J5 70) (xs (i + (1 : Int32)).toNatClampNeg)).bind (fun v7 => jlt (jpt G3 70 15 v7.2) fun G9 => (p_X6_thrown N (jvw G9 70) (jvw J5 70)).bind (fun v11 => if v11 = v1.1 then (if v1.1 = 0 then (if (lg_cmp (J5 85 0) (v7.1.toInt64)) = 0 then (some (G9, J5)) else (none)) else (some (G9, J5))) else (none))))
set_option maxHeartbeats 4000000 in
set_option maxRecDepth 100000 in
theorem t_case_17 {Tz : jX → Prop} (hT1 : ∀ X ad al, Tz X → Tz (jxa X ad al)) (hT2 : ∀ X, Tz X → Tz (jof X)) {Ln : Nat} {xs : Nat → Int32} {X : jX} {k n : Nat} (hM : jMZ Tz X kL_c17 RL (tbLZ Ln xs) 8 ⟨12, 601024, 7293034, 436⟩ (some .boolean) 94) (hk : k + 40 ≤ 601024) (hn : n + 240 ≤ 7293034) (N : Nat) (G : Nat → Nat → Int32) (J : Nat → Nat → Int64) (i : Int32) (hj1 : jin (i + 1) Ln = true) (hj2 : jin (i + 2) Ln = true) (hj3 : jin (i + 3) Ln = true) (hj4 : jin (i + 4) Ln = true) (hj5 : jin (i + 5) Ln = true) (res : (Nat → Nat → Int32) × (Nat → Nat → Int64)) (h : p_case_17 N xs G J i = some res) (K : ∀ X9, jMZ Tz X9 kL_c17 RL (tbLZ Ln xs) 8 ⟨12, 601024, 7293034, 436⟩ (some .boolean) 94 → JW X9 (k + 40) (n + 240) 2667 [some (.ref 2000000), some (.ref 0), some (.ref 70), some (.ref 85), some (.int i), none, none, none] [] (hLaw res.1 res.2)) : JW X k n 1274 [some (.ref 2000000), some (.ref 0), some (.ref 70), some (.ref 85), some (.int i), none, none, none] [] (hLaw G J) := by
  unfold p_case_17 at h
  refine JW.rZ hM 0 7 (pc2 := 1282) (L2 := [some (.ref 2000000), some (.ref 0), some (.ref 70), some (.ref 85), some (.int i), none, none, none]) (st2 := [.ref 85, .int (xs (i + (1 : Int32)).toNatClampNeg), .ref 0]) (μ2 := (hLaw G J)) rfl ⟨hj1, trivial⟩ ?_
  obtain ⟨v1, hv2, h⟩ := jbd h
  refine JW.cHZ (v := some (.int v1.1)) hM (m_L_perform (jVX X) hM.1.2.2.2.2.2.2.2.2.2.1 N (jv2 G 0 70 85) (jv2 J 0 70 85) (xs (i + (1 : Int32)).toNatClampNeg) v1 hv2) (sb_Law_W_0_85 G J) (bk_Law_W_0_85 G J v1.2.1 v1.2.2) rfl rfl rfl kh_L_193 rfl rfl (show k + 1 ≤ 601024 from by omega) (show n + 6 ≤ 7293034 from by omega) rfl (jat hM.2.1 7 rfl) (st := []) rfl ?_
  show JW (jof X) (k + 1) (n + 6) 1285 [some (.ref 2000000), some (.ref 0), some (.ref 70), some (.ref 85), some (.int i), none, none, none] [.int v1.1] (hLaw (jp2 G 0 70 85 1 v1.2.1) (jp2 J 0 70 85 1 v1.2.2))
  obtain ⟨G3, e4, h⟩ := jlE h
  rw [e4]
  obtain ⟨J5, e6, h⟩ := jlE h
  rw [e6]
  refine JW.rebY (hM.off (hT2 _)) (hT1 _) (B := 94) (Nat.le_of_ble_eq_true rfl) (Nat.le_of_ble_eq_true rfl) rfl rfl rfl ?_
  clear hM
  intro X hM
  refine JW.rZ hM 8 7 (pc2 := 1294) (L2 := [some (.ref 2000000), some (.ref 0), some (.ref 70), some (.ref 85), some (.int i), some (.int v1.1), none, none]) (st2 := [.int (xs (i + (1 : Int32)).toNatClampNeg), .ref 70]) (μ2 := (hLaw G3 J5)) rfl ⟨hj1, trivial⟩ ?_
  obtain ⟨v7, hv8, h⟩ := jbd h
  refine JW.cVZ (v := some (.int v7.1)) hM (m_X6_perform (jVX X) hM.1.2.2.2.2.2.2.2.2.2.1 N (jvw G3 70) (jvw J5 70) (xs (i + (1 : Int32)).toNatClampNeg) v7 hv8) (sb_Law_Mo_70 G3 J5) (bk_Law_Mo_70 G3 J5 v7.2 (jvw J5 70)) rfl rfl rfl kc_L_195 rfl rfl rfl rfl (show k + 1 + 0 ≤ 601024 from by omega) (show n + 6 + 0 ≤ 7293034 from by omega) rfl (jat hM.2.1 15 rfl) (st := []) rfl ?_
  show JW X (k + 1 + 0) (n + 6 + 0) 1297 [some (.ref 2000000), some (.ref 0), some (.ref 70), some (.ref 85), some (.int i), some (.int v1.1), none, none] [.int v7.1] (hLaw (jpt G3 70 15 v7.2) J5)
  obtain ⟨G9, e10, h⟩ := jlE h
  rw [e10]
  refine JW.rZ hM 16 2 (pc2 := 1300) (L2 := [some (.ref 2000000), some (.ref 0), some (.ref 70), some (.ref 85), some (.int i), some (.int v1.1), some (.int v7.1), none]) (st2 := [.ref 70]) (μ2 := (hLaw G9 J5)) rfl trivial ?_
  obtain ⟨v11, hv12, h⟩ := jbd h
  refine JW.cVZ (v := some (.int v11)) hM (m_X6_thrown (jVX X) hM.1.2.2.2.2.2.2.2.2.2.1 N (jvw G9 70) (jvw J5 70) v11 hv12) (sb_Law_Mo_70 G9 J5) (bi_Law_Mo_70 G9 J5) rfl rfl rfl kc_L_140 rfl rfl rfl rfl (show k + 1 + 0 + 0 ≤ 601024 from by omega) (show n + 6 + 0 + 0 ≤ 7293034 from by omega) rfl (jat hM.2.1 18 rfl) (st := []) rfl ?_
  show JW X (k + 1 + 0 + 0) (n + 6 + 0 + 0) 1303 [some (.ref 2000000), some (.ref 0), some (.ref 70), some (.ref 85), some (.int i), some (.int v1.1), some (.int v7.1), none] [.int v11] (hLaw G9 J5)
  refine JW.rZ hM 19 1 (pc2 := 1305) (L2 := [some (.ref 2000000), some (.ref 0), some (.ref 70), some (.ref 85), some (.int i), some (.int v1.1), some (.int v7.1), none]) (st2 := [.int v1.1, .int v11]) (μ2 := (hLaw G9 J5)) rfl trivial ?_
  refine js_iceq (t := 1310) hM.1 (jat hM.2.1 20 rfl) rfl (fun hc15 => ?_) (fun hc15 => ?_)
  · have h := (if_pos hc15).symm.trans h
    refine JW.rZ hM 23 1 (pc2 := 1312) (L2 := [some (.ref 2000000), some (.ref 0), some (.ref 70), some (.ref 85), some (.int i), some (.int v1.1), some (.int v7.1), none]) (st2 := [.int v1.1]) (μ2 := (hLaw G9 J5)) rfl trivial ?_
    refine js_ifne (t := 1327) hM.1 (jat hM.2.1 24 rfl) rfl (fun hc14 => ?_) (fun hc14 => ?_)
    · have h := (if_neg hc14).symm.trans h
      refine JW.rZ hM 34 1 (pc2 := 2667) (L2 := [some (.ref 2000000), some (.ref 0), some (.ref 70), some (.ref 85), some (.int i), some (.int v1.1), some (.int v7.1), none]) (st2 := []) (μ2 := (hLaw G9 J5)) rfl trivial ?_
      obtain rfl := Option.some.inj h
      refine JW.widen (k2 := k + 40) (n2 := n + 240) (by omega) (by omega) (JW.mask [true, true, true, true, true, false, false, false] ?_)
      exact K X hM
    · have h := (if_pos hc14).symm.trans h
      refine JW.rZ hM 25 6 (pc2 := 1322) (L2 := [some (.ref 2000000), some (.ref 0), some (.ref 70), some (.ref 85), some (.int i), some (.int v1.1), some (.int v7.1), none]) (st2 := [.int (lg_cmp (J5 85 0) (v7.1.toInt64))]) (μ2 := (hLaw G9 J5)) rfl ⟨rfl, trivial⟩ ?_
      refine js_ifeq (t := 1327) hM.1 (jat hM.2.1 31 rfl) rfl (fun hc13 => ?_) (fun hc13 => ?_)
      · have h := (if_pos hc13).symm.trans h
        refine JW.rZ hM 34 1 (pc2 := 2667) (L2 := [some (.ref 2000000), some (.ref 0), some (.ref 70), some (.ref 85), some (.int i), some (.int v1.1), some (.int v7.1), none]) (st2 := []) (μ2 := (hLaw G9 J5)) rfl trivial ?_
        obtain rfl := Option.some.inj h
        refine JW.widen (k2 := k + 40) (n2 := n + 240) (by omega) (by omega) (JW.mask [true, true, true, true, true, false, false, false] ?_)
        exact K X hM
      · have h := (if_neg hc13).symm.trans h
        cases h
  · have h := (if_neg hc15).symm.trans h
    cases h

def p_case_18 (N : Nat) (xs : Nat → Int32) (G : Nat → Nat → Int32) (J : Nat → Nat → Int64) (i : Int32) : Option ((Nat → Nat → Int32) × (Nat → Nat → Int64)) :=
  (p_L_day N (jv2 G 0 70 85) (jv2 J 0 70 85) (xs (i + (1 : Int32)).toNatClampNeg) (xs (i + (2 : Int32)).toNatClampNeg)).bind (fun v1 => jlt (jp2 G 0 70 85 1 v1.2.1) fun G3 => jlt (jp2 J 0 70 85 1 v1.2.2) fun J5 => (p_X6_day N (jvw G3 70) (jvw J5 70) (xs (i + (1 : Int32)).toNatClampNeg) (xs (i + (2 : Int32)).toNatClampNeg)).bind (fun v7 => jlt (jpt G3 70 15 v7.2) fun G9 => (p_X6_thrown N (jvw G9 70) (jvw J5 70)).bind (fun v11 => if v11 = v1.1 then (if v1.1 = 0 then (if (lg_cmp (J5 85 0) (v7.1.toInt64)) = 0 then (some (G9, J5)) else (none)) else (some (G9, J5))) else (none))))
set_option maxHeartbeats 4000000 in
set_option maxRecDepth 100000 in
theorem t_case_18 {Tz : jX → Prop} (hT1 : ∀ X ad al, Tz X → Tz (jxa X ad al)) (hT2 : ∀ X, Tz X → Tz (jof X)) {Ln : Nat} {xs : Nat → Int32} {X : jX} {k n : Nat} (hM : jMZ Tz X kL_c18 RL (tbLZ Ln xs) 8 ⟨12, 601024, 7293034, 436⟩ (some .boolean) 94) (hk : k + 40 ≤ 601024) (hn : n + 240 ≤ 7293034) (N : Nat) (G : Nat → Nat → Int32) (J : Nat → Nat → Int64) (i : Int32) (hj1 : jin (i + 1) Ln = true) (hj2 : jin (i + 2) Ln = true) (hj3 : jin (i + 3) Ln = true) (hj4 : jin (i + 4) Ln = true) (hj5 : jin (i + 5) Ln = true) (res : (Nat → Nat → Int32) × (Nat → Nat → Int64)) (h : p_case_18 N xs G J i = some res) (K : ∀ X9, jMZ Tz X9 kL_c18 RL (tbLZ Ln xs) 8 ⟨12, 601024, 7293034, 436⟩ (some .boolean) 94 → JW X9 (k + 40) (n + 240) 2667 [some (.ref 2000000), some (.ref 0), some (.ref 70), some (.ref 85), some (.int i), none, none, none] [] (hLaw res.1 res.2)) : JW X k n 1330 [some (.ref 2000000), some (.ref 0), some (.ref 70), some (.ref 85), some (.int i), none, none, none] [] (hLaw G J) := by
  unfold p_case_18 at h
  refine JW.rZ hM 0 12 (pc2 := 1344) (L2 := [some (.ref 2000000), some (.ref 0), some (.ref 70), some (.ref 85), some (.int i), none, none, none]) (st2 := [.ref 85, .int (xs (i + (2 : Int32)).toNatClampNeg), .int (xs (i + (1 : Int32)).toNatClampNeg), .ref 0]) (μ2 := (hLaw G J)) rfl ⟨hj1, hj2, trivial⟩ ?_
  obtain ⟨v1, hv2, h⟩ := jbd h
  refine JW.cHZ (v := some (.int v1.1)) hM (m_L_day (jVX X) hM.1.2.2.2.2.2.2.2.2.2.1 N (jv2 G 0 70 85) (jv2 J 0 70 85) (xs (i + (1 : Int32)).toNatClampNeg) (xs (i + (2 : Int32)).toNatClampNeg) v1 hv2) (sb_Law_W_0_85 G J) (bk_Law_W_0_85 G J v1.2.1 v1.2.2) rfl rfl rfl kh_L_196 rfl rfl (show k + 1 ≤ 601024 from by omega) (show n + 6 ≤ 7293034 from by omega) rfl (jat hM.2.1 12 rfl) (st := []) rfl ?_
  show JW (jof X) (k + 1) (n + 6) 1347 [some (.ref 2000000), some (.ref 0), some (.ref 70), some (.ref 85), some (.int i), none, none, none] [.int v1.1] (hLaw (jp2 G 0 70 85 1 v1.2.1) (jp2 J 0 70 85 1 v1.2.2))
  obtain ⟨G3, e4, h⟩ := jlE h
  rw [e4]
  obtain ⟨J5, e6, h⟩ := jlE h
  rw [e6]
  refine JW.rebY (hM.off (hT2 _)) (hT1 _) (B := 94) (Nat.le_of_ble_eq_true rfl) (Nat.le_of_ble_eq_true rfl) rfl rfl rfl ?_
  clear hM
  intro X hM
  refine JW.rZ hM 13 12 (pc2 := 1362) (L2 := [some (.ref 2000000), some (.ref 0), some (.ref 70), some (.ref 85), some (.int i), some (.int v1.1), none, none]) (st2 := [.int (xs (i + (2 : Int32)).toNatClampNeg), .int (xs (i + (1 : Int32)).toNatClampNeg), .ref 70]) (μ2 := (hLaw G3 J5)) rfl ⟨hj1, hj2, trivial⟩ ?_
  obtain ⟨v7, hv8, h⟩ := jbd h
  refine JW.cVZ (v := some (.int v7.1)) hM (m_X6_day (jVX X) hM.1.2.2.2.2.2.2.2.2.2.1 N (jvw G3 70) (jvw J5 70) (xs (i + (1 : Int32)).toNatClampNeg) (xs (i + (2 : Int32)).toNatClampNeg) v7 hv8) (sb_Law_Mo_70 G3 J5) (bk_Law_Mo_70 G3 J5 v7.2 (jvw J5 70)) rfl rfl rfl kc_L_198 rfl rfl rfl rfl (show k + 1 + 0 ≤ 601024 from by omega) (show n + 6 + 0 ≤ 7293034 from by omega) rfl (jat hM.2.1 25 rfl) (st := []) rfl ?_
  show JW X (k + 1 + 0) (n + 6 + 0) 1365 [some (.ref 2000000), some (.ref 0), some (.ref 70), some (.ref 85), some (.int i), some (.int v1.1), none, none] [.int v7.1] (hLaw (jpt G3 70 15 v7.2) J5)
  obtain ⟨G9, e10, h⟩ := jlE h
  rw [e10]
  refine JW.rZ hM 26 2 (pc2 := 1368) (L2 := [some (.ref 2000000), some (.ref 0), some (.ref 70), some (.ref 85), some (.int i), some (.int v1.1), some (.int v7.1), none]) (st2 := [.ref 70]) (μ2 := (hLaw G9 J5)) rfl trivial ?_
  obtain ⟨v11, hv12, h⟩ := jbd h
  refine JW.cVZ (v := some (.int v11)) hM (m_X6_thrown (jVX X) hM.1.2.2.2.2.2.2.2.2.2.1 N (jvw G9 70) (jvw J5 70) v11 hv12) (sb_Law_Mo_70 G9 J5) (bi_Law_Mo_70 G9 J5) rfl rfl rfl kc_L_140 rfl rfl rfl rfl (show k + 1 + 0 + 0 ≤ 601024 from by omega) (show n + 6 + 0 + 0 ≤ 7293034 from by omega) rfl (jat hM.2.1 28 rfl) (st := []) rfl ?_
  show JW X (k + 1 + 0 + 0) (n + 6 + 0 + 0) 1371 [some (.ref 2000000), some (.ref 0), some (.ref 70), some (.ref 85), some (.int i), some (.int v1.1), some (.int v7.1), none] [.int v11] (hLaw G9 J5)
  refine JW.rZ hM 29 1 (pc2 := 1373) (L2 := [some (.ref 2000000), some (.ref 0), some (.ref 70), some (.ref 85), some (.int i), some (.int v1.1), some (.int v7.1), none]) (st2 := [.int v1.1, .int v11]) (μ2 := (hLaw G9 J5)) rfl trivial ?_
  refine js_iceq (t := 1378) hM.1 (jat hM.2.1 30 rfl) rfl (fun hc15 => ?_) (fun hc15 => ?_)
  · have h := (if_pos hc15).symm.trans h
    refine JW.rZ hM 33 1 (pc2 := 1380) (L2 := [some (.ref 2000000), some (.ref 0), some (.ref 70), some (.ref 85), some (.int i), some (.int v1.1), some (.int v7.1), none]) (st2 := [.int v1.1]) (μ2 := (hLaw G9 J5)) rfl trivial ?_
    refine js_ifne (t := 1395) hM.1 (jat hM.2.1 34 rfl) rfl (fun hc14 => ?_) (fun hc14 => ?_)
    · have h := (if_neg hc14).symm.trans h
      refine JW.rZ hM 44 1 (pc2 := 2667) (L2 := [some (.ref 2000000), some (.ref 0), some (.ref 70), some (.ref 85), some (.int i), some (.int v1.1), some (.int v7.1), none]) (st2 := []) (μ2 := (hLaw G9 J5)) rfl trivial ?_
      obtain rfl := Option.some.inj h
      refine JW.widen (k2 := k + 40) (n2 := n + 240) (by omega) (by omega) (JW.mask [true, true, true, true, true, false, false, false] ?_)
      exact K X hM
    · have h := (if_pos hc14).symm.trans h
      refine JW.rZ hM 35 6 (pc2 := 1390) (L2 := [some (.ref 2000000), some (.ref 0), some (.ref 70), some (.ref 85), some (.int i), some (.int v1.1), some (.int v7.1), none]) (st2 := [.int (lg_cmp (J5 85 0) (v7.1.toInt64))]) (μ2 := (hLaw G9 J5)) rfl ⟨rfl, trivial⟩ ?_
      refine js_ifeq (t := 1395) hM.1 (jat hM.2.1 41 rfl) rfl (fun hc13 => ?_) (fun hc13 => ?_)
      · have h := (if_pos hc13).symm.trans h
        refine JW.rZ hM 44 1 (pc2 := 2667) (L2 := [some (.ref 2000000), some (.ref 0), some (.ref 70), some (.ref 85), some (.int i), some (.int v1.1), some (.int v7.1), none]) (st2 := []) (μ2 := (hLaw G9 J5)) rfl trivial ?_
        obtain rfl := Option.some.inj h
        refine JW.widen (k2 := k + 40) (n2 := n + 240) (by omega) (by omega) (JW.mask [true, true, true, true, true, false, false, false] ?_)
        exact K X hM
      · have h := (if_neg hc13).symm.trans h
        cases h
  · have h := (if_neg hc15).symm.trans h
    cases h

def p_case_19 (N : Nat) (xs : Nat → Int32) (G : Nat → Nat → Int32) (J : Nat → Nat → Int64) (i : Int32) : Option ((Nat → Nat → Int32) × (Nat → Nat → Int64)) :=
  (p_X5_open N (jvw G 0) (jvw J 0)).bind (fun v1 => (p_X6_open N (jvw G 70) (jvw J 70)).bind (fun v3 => jlt (jpt G 70 15 v3.2) fun G5 => if v1 = v3.1 then (some (G5, J)) else (none)))
set_option maxHeartbeats 4000000 in
set_option maxRecDepth 100000 in
theorem t_case_19 {Tz : jX → Prop} (hT1 : ∀ X ad al, Tz X → Tz (jxa X ad al)) (hT2 : ∀ X, Tz X → Tz (jof X)) {Ln : Nat} {xs : Nat → Int32} {X : jX} {k n : Nat} (hM : jMZ Tz X kL_c19 RL (tbLZ Ln xs) 8 ⟨12, 601024, 7293034, 436⟩ (some .boolean) 94) (hk : k + 40 ≤ 601024) (hn : n + 240 ≤ 7293034) (N : Nat) (G : Nat → Nat → Int32) (J : Nat → Nat → Int64) (i : Int32) (hj1 : jin (i + 1) Ln = true) (hj2 : jin (i + 2) Ln = true) (hj3 : jin (i + 3) Ln = true) (hj4 : jin (i + 4) Ln = true) (hj5 : jin (i + 5) Ln = true) (res : (Nat → Nat → Int32) × (Nat → Nat → Int64)) (h : p_case_19 N xs G J i = some res) (K : ∀ X9, jMZ Tz X9 kL_c19 RL (tbLZ Ln xs) 8 ⟨12, 601024, 7293034, 436⟩ (some .boolean) 94 → JW X9 (k + 40) (n + 240) 2667 [some (.ref 2000000), some (.ref 0), some (.ref 70), some (.ref 85), some (.int i), none, none, none] [] (hLaw res.1 res.2)) : JW X k n 1398 [some (.ref 2000000), some (.ref 0), some (.ref 70), some (.ref 85), some (.int i), none, none, none] [] (hLaw G J) := by
  unfold p_case_19 at h
  refine JW.rZ hM 0 1 (pc2 := 1399) (L2 := [some (.ref 2000000), some (.ref 0), some (.ref 70), some (.ref 85), some (.int i), none, none, none]) (st2 := [.ref 0]) (μ2 := (hLaw G J)) rfl trivial ?_
  obtain ⟨v1, hv2, h⟩ := jbd h
  refine JW.cVZ (v := some (.int v1)) hM (m_X5_open (jVX X) hM.1.2.2.2.2.2.2.2.2.2.1 N (jvw G 0) (jvw J 0) v1 hv2) (sb_Law_X_0 G J) (bi_Law_X_0 G J) rfl rfl rfl kc_L_199 rfl rfl rfl rfl (show k + 0 ≤ 601024 from by omega) (show n + 0 ≤ 7293034 from by omega) rfl (jat hM.2.1 1 rfl) (st := []) rfl ?_
  show JW X (k + 0) (n + 0) 1402 [some (.ref 2000000), some (.ref 0), some (.ref 70), some (.ref 85), some (.int i), none, none, none] [.int v1] (hLaw G J)
  refine JW.rZ hM 2 1 (pc2 := 1403) (L2 := [some (.ref 2000000), some (.ref 0), some (.ref 70), some (.ref 85), some (.int i), none, none, none]) (st2 := [.ref 70, .int v1]) (μ2 := (hLaw G J)) rfl trivial ?_
  obtain ⟨v3, hv4, h⟩ := jbd h
  refine JW.cVZ (v := some (.int v3.1)) hM (m_X6_open (jVX X) hM.1.2.2.2.2.2.2.2.2.2.1 N (jvw G 70) (jvw J 70) v3 hv4) (sb_Law_Mo_70 G J) (bk_Law_Mo_70 G J v3.2 (jvw J 70)) rfl rfl rfl kc_L_202 rfl rfl rfl rfl (show k + 0 + 0 ≤ 601024 from by omega) (show n + 0 + 0 ≤ 7293034 from by omega) rfl (jat hM.2.1 3 rfl) (st := [.int v1]) rfl ?_
  show JW X (k + 0 + 0) (n + 0 + 0) 1406 [some (.ref 2000000), some (.ref 0), some (.ref 70), some (.ref 85), some (.int i), none, none, none] [.int v3.1, .int v1] (hLaw (jpt G 70 15 v3.2) J)
  obtain ⟨G5, e6, h⟩ := jlE h
  rw [e6]
  refine js_iceq (t := 2667) hM.1 (jat hM.2.1 4 rfl) rfl (fun hc7 => ?_) (fun hc7 => ?_)
  · have h := (if_pos hc7).symm.trans h
    obtain rfl := Option.some.inj h
    refine JW.widen (k2 := k + 40) (n2 := n + 240) (by omega) (by omega) (JW.mask [true, true, true, true, true, false, false, false] ?_)
    exact K X hM
  · have h := (if_neg hc7).symm.trans h
    cases h

def p_case_20 (N : Nat) (xs : Nat → Int32) (G : Nat → Nat → Int32) (J : Nat → Nat → Int64) (i : Int32) : Option ((Nat → Nat → Int32) × (Nat → Nat → Int64)) :=
  (p_L_gain N (jv2 G 0 70 85) (jv2 J 0 70 85) (xs (i + (1 : Int32)).toNatClampNeg) (xs (i + (2 : Int32)).toNatClampNeg)).bind (fun v1 => jlt (jp2 J 0 70 85 1 v1.2) fun J3 => (p_X6_gain N (jvw G 70) (jvw J3 70) (xs (i + (1 : Int32)).toNatClampNeg) (xs (i + (2 : Int32)).toNatClampNeg)).bind (fun v5 => jlt (jpt G 70 15 v5.2) fun G7 => (p_X6_thrown N (jvw G7 70) (jvw J3 70)).bind (fun v9 => if v9 = v1.1 then (if v1.1 = 0 then (if (lg_cmp (J3 85 0) (v5.1.toInt64)) = 0 then (some (G7, J3)) else (none)) else (some (G7, J3))) else (none))))
set_option maxHeartbeats 4000000 in
set_option maxRecDepth 100000 in
theorem t_case_20 {Tz : jX → Prop} (hT1 : ∀ X ad al, Tz X → Tz (jxa X ad al)) (hT2 : ∀ X, Tz X → Tz (jof X)) {Ln : Nat} {xs : Nat → Int32} {X : jX} {k n : Nat} (hM : jMZ Tz X kL_c20 RL (tbLZ Ln xs) 8 ⟨12, 601024, 7293034, 436⟩ (some .boolean) 94) (hk : k + 40 ≤ 601024) (hn : n + 240 ≤ 7293034) (N : Nat) (G : Nat → Nat → Int32) (J : Nat → Nat → Int64) (i : Int32) (hj1 : jin (i + 1) Ln = true) (hj2 : jin (i + 2) Ln = true) (hj3 : jin (i + 3) Ln = true) (hj4 : jin (i + 4) Ln = true) (hj5 : jin (i + 5) Ln = true) (res : (Nat → Nat → Int32) × (Nat → Nat → Int64)) (h : p_case_20 N xs G J i = some res) (K : ∀ X9, jMZ Tz X9 kL_c20 RL (tbLZ Ln xs) 8 ⟨12, 601024, 7293034, 436⟩ (some .boolean) 94 → JW X9 (k + 40) (n + 240) 2667 [some (.ref 2000000), some (.ref 0), some (.ref 70), some (.ref 85), some (.int i), none, none, none] [] (hLaw res.1 res.2)) : JW X k n 1411 [some (.ref 2000000), some (.ref 0), some (.ref 70), some (.ref 85), some (.int i), none, none, none] [] (hLaw G J) := by
  unfold p_case_20 at h
  refine JW.rZ hM 0 12 (pc2 := 1425) (L2 := [some (.ref 2000000), some (.ref 0), some (.ref 70), some (.ref 85), some (.int i), none, none, none]) (st2 := [.ref 85, .int (xs (i + (2 : Int32)).toNatClampNeg), .int (xs (i + (1 : Int32)).toNatClampNeg), .ref 0]) (μ2 := (hLaw G J)) rfl ⟨hj1, hj2, trivial⟩ ?_
  obtain ⟨v1, hv2, h⟩ := jbd h
  refine JW.cHZ (v := some (.int v1.1)) hM (m_L_gain (jVX X) hM.1.2.2.2.2.2.2.2.2.2.1 N (jv2 G 0 70 85) (jv2 J 0 70 85) (xs (i + (1 : Int32)).toNatClampNeg) (xs (i + (2 : Int32)).toNatClampNeg) v1 hv2) (sb_Law_W_0_85 G J) (bk_Law_W_0_85 G J (jv2 G 0 70 85) v1.2) rfl rfl rfl kh_L_203 rfl rfl (show k + 2 ≤ 601024 from by omega) (show n + 12 ≤ 7293034 from by omega) rfl (jat hM.2.1 12 rfl) (st := []) rfl ?_
  show JW (jof X) (k + 2) (n + 12) 1428 [some (.ref 2000000), some (.ref 0), some (.ref 70), some (.ref 85), some (.int i), none, none, none] [.int v1.1] (hLaw G (jp2 J 0 70 85 1 v1.2))
  obtain ⟨J3, e4, h⟩ := jlE h
  rw [e4]
  refine JW.rebY (hM.off (hT2 _)) (hT1 _) (B := 94) (Nat.le_of_ble_eq_true rfl) (Nat.le_of_ble_eq_true rfl) rfl rfl rfl ?_
  clear hM
  intro X hM
  refine JW.rZ hM 13 12 (pc2 := 1443) (L2 := [some (.ref 2000000), some (.ref 0), some (.ref 70), some (.ref 85), some (.int i), some (.int v1.1), none, none]) (st2 := [.int (xs (i + (2 : Int32)).toNatClampNeg), .int (xs (i + (1 : Int32)).toNatClampNeg), .ref 70]) (μ2 := (hLaw G J3)) rfl ⟨hj1, hj2, trivial⟩ ?_
  obtain ⟨v5, hv6, h⟩ := jbd h
  refine JW.cVZ (v := some (.int v5.1)) hM (m_X6_gain (jVX X) hM.1.2.2.2.2.2.2.2.2.2.1 N (jvw G 70) (jvw J3 70) (xs (i + (1 : Int32)).toNatClampNeg) (xs (i + (2 : Int32)).toNatClampNeg) v5 hv6) (sb_Law_Mo_70 G J3) (bk_Law_Mo_70 G J3 v5.2 (jvw J3 70)) rfl rfl rfl kc_L_205 rfl rfl rfl rfl (show k + 2 + 0 ≤ 601024 from by omega) (show n + 12 + 0 ≤ 7293034 from by omega) rfl (jat hM.2.1 25 rfl) (st := []) rfl ?_
  show JW X (k + 2 + 0) (n + 12 + 0) 1446 [some (.ref 2000000), some (.ref 0), some (.ref 70), some (.ref 85), some (.int i), some (.int v1.1), none, none] [.int v5.1] (hLaw (jpt G 70 15 v5.2) J3)
  obtain ⟨G7, e8, h⟩ := jlE h
  rw [e8]
  refine JW.rZ hM 26 2 (pc2 := 1449) (L2 := [some (.ref 2000000), some (.ref 0), some (.ref 70), some (.ref 85), some (.int i), some (.int v1.1), some (.int v5.1), none]) (st2 := [.ref 70]) (μ2 := (hLaw G7 J3)) rfl trivial ?_
  obtain ⟨v9, hv10, h⟩ := jbd h
  refine JW.cVZ (v := some (.int v9)) hM (m_X6_thrown (jVX X) hM.1.2.2.2.2.2.2.2.2.2.1 N (jvw G7 70) (jvw J3 70) v9 hv10) (sb_Law_Mo_70 G7 J3) (bi_Law_Mo_70 G7 J3) rfl rfl rfl kc_L_140 rfl rfl rfl rfl (show k + 2 + 0 + 0 ≤ 601024 from by omega) (show n + 12 + 0 + 0 ≤ 7293034 from by omega) rfl (jat hM.2.1 28 rfl) (st := []) rfl ?_
  show JW X (k + 2 + 0 + 0) (n + 12 + 0 + 0) 1452 [some (.ref 2000000), some (.ref 0), some (.ref 70), some (.ref 85), some (.int i), some (.int v1.1), some (.int v5.1), none] [.int v9] (hLaw G7 J3)
  refine JW.rZ hM 29 1 (pc2 := 1454) (L2 := [some (.ref 2000000), some (.ref 0), some (.ref 70), some (.ref 85), some (.int i), some (.int v1.1), some (.int v5.1), none]) (st2 := [.int v1.1, .int v9]) (μ2 := (hLaw G7 J3)) rfl trivial ?_
  refine js_iceq (t := 1459) hM.1 (jat hM.2.1 30 rfl) rfl (fun hc13 => ?_) (fun hc13 => ?_)
  · have h := (if_pos hc13).symm.trans h
    refine JW.rZ hM 33 1 (pc2 := 1461) (L2 := [some (.ref 2000000), some (.ref 0), some (.ref 70), some (.ref 85), some (.int i), some (.int v1.1), some (.int v5.1), none]) (st2 := [.int v1.1]) (μ2 := (hLaw G7 J3)) rfl trivial ?_
    refine js_ifne (t := 1476) hM.1 (jat hM.2.1 34 rfl) rfl (fun hc12 => ?_) (fun hc12 => ?_)
    · have h := (if_neg hc12).symm.trans h
      refine JW.rZ hM 44 1 (pc2 := 2667) (L2 := [some (.ref 2000000), some (.ref 0), some (.ref 70), some (.ref 85), some (.int i), some (.int v1.1), some (.int v5.1), none]) (st2 := []) (μ2 := (hLaw G7 J3)) rfl trivial ?_
      obtain rfl := Option.some.inj h
      refine JW.widen (k2 := k + 40) (n2 := n + 240) (by omega) (by omega) (JW.mask [true, true, true, true, true, false, false, false] ?_)
      exact K X hM
    · have h := (if_pos hc12).symm.trans h
      refine JW.rZ hM 35 6 (pc2 := 1471) (L2 := [some (.ref 2000000), some (.ref 0), some (.ref 70), some (.ref 85), some (.int i), some (.int v1.1), some (.int v5.1), none]) (st2 := [.int (lg_cmp (J3 85 0) (v5.1.toInt64))]) (μ2 := (hLaw G7 J3)) rfl ⟨rfl, trivial⟩ ?_
      refine js_ifeq (t := 1476) hM.1 (jat hM.2.1 41 rfl) rfl (fun hc11 => ?_) (fun hc11 => ?_)
      · have h := (if_pos hc11).symm.trans h
        refine JW.rZ hM 44 1 (pc2 := 2667) (L2 := [some (.ref 2000000), some (.ref 0), some (.ref 70), some (.ref 85), some (.int i), some (.int v1.1), some (.int v5.1), none]) (st2 := []) (μ2 := (hLaw G7 J3)) rfl trivial ?_
        obtain rfl := Option.some.inj h
        refine JW.widen (k2 := k + 40) (n2 := n + 240) (by omega) (by omega) (JW.mask [true, true, true, true, true, false, false, false] ?_)
        exact K X hM
      · have h := (if_neg hc11).symm.trans h
        cases h
  · have h := (if_neg hc13).symm.trans h
    cases h

def p_case_21 (N : Nat) (xs : Nat → Int32) (G : Nat → Nat → Int32) (J : Nat → Nat → Int64) (i : Int32) : Option ((Nat → Nat → Int32) × (Nat → Nat → Int64)) :=
  (p_X5_safe N (jvw G 0) (jvw J 0)).bind (fun v1 => (p_X6_safe N (jvw G 70) (jvw J 70)).bind (fun v3 => jlt (jpt G 70 15 v3.2) fun G5 => if v1 = v3.1 then (some (G5, J)) else (none)))
set_option maxHeartbeats 4000000 in
set_option maxRecDepth 100000 in
theorem t_case_21 {Tz : jX → Prop} (hT1 : ∀ X ad al, Tz X → Tz (jxa X ad al)) (hT2 : ∀ X, Tz X → Tz (jof X)) {Ln : Nat} {xs : Nat → Int32} {X : jX} {k n : Nat} (hM : jMZ Tz X kL_c21 RL (tbLZ Ln xs) 8 ⟨12, 601024, 7293034, 436⟩ (some .boolean) 94) (hk : k + 40 ≤ 601024) (hn : n + 240 ≤ 7293034) (N : Nat) (G : Nat → Nat → Int32) (J : Nat → Nat → Int64) (i : Int32) (hj1 : jin (i + 1) Ln = true) (hj2 : jin (i + 2) Ln = true) (hj3 : jin (i + 3) Ln = true) (hj4 : jin (i + 4) Ln = true) (hj5 : jin (i + 5) Ln = true) (res : (Nat → Nat → Int32) × (Nat → Nat → Int64)) (h : p_case_21 N xs G J i = some res) (K : ∀ X9, jMZ Tz X9 kL_c21 RL (tbLZ Ln xs) 8 ⟨12, 601024, 7293034, 436⟩ (some .boolean) 94 → JW X9 (k + 40) (n + 240) 2667 [some (.ref 2000000), some (.ref 0), some (.ref 70), some (.ref 85), some (.int i), none, none, none] [] (hLaw res.1 res.2)) : JW X k n 1479 [some (.ref 2000000), some (.ref 0), some (.ref 70), some (.ref 85), some (.int i), none, none, none] [] (hLaw G J) := by
  unfold p_case_21 at h
  refine JW.rZ hM 0 1 (pc2 := 1480) (L2 := [some (.ref 2000000), some (.ref 0), some (.ref 70), some (.ref 85), some (.int i), none, none, none]) (st2 := [.ref 0]) (μ2 := (hLaw G J)) rfl trivial ?_
  obtain ⟨v1, hv2, h⟩ := jbd h
  refine JW.cVZ (v := some (.int v1)) hM (m_X5_safe (jVX X) hM.1.2.2.2.2.2.2.2.2.2.1 N (jvw G 0) (jvw J 0) v1 hv2) (sb_Law_X_0 G J) (bi_Law_X_0 G J) rfl rfl rfl kc_L_206 rfl rfl rfl rfl (show k + 0 ≤ 601024 from by omega) (show n + 0 ≤ 7293034 from by omega) rfl (jat hM.2.1 1 rfl) (st := []) rfl ?_
  show JW X (k + 0) (n + 0) 1483 [some (.ref 2000000), some (.ref 0), some (.ref 70), some (.ref 85), some (.int i), none, none, none] [.int v1] (hLaw G J)
  refine JW.rZ hM 2 1 (pc2 := 1484) (L2 := [some (.ref 2000000), some (.ref 0), some (.ref 70), some (.ref 85), some (.int i), none, none, none]) (st2 := [.ref 70, .int v1]) (μ2 := (hLaw G J)) rfl trivial ?_
  obtain ⟨v3, hv4, h⟩ := jbd h
  refine JW.cVZ (v := some (.int v3.1)) hM (m_X6_safe (jVX X) hM.1.2.2.2.2.2.2.2.2.2.1 N (jvw G 70) (jvw J 70) v3 hv4) (sb_Law_Mo_70 G J) (bk_Law_Mo_70 G J v3.2 (jvw J 70)) rfl rfl rfl kc_L_209 rfl rfl rfl rfl (show k + 0 + 0 ≤ 601024 from by omega) (show n + 0 + 0 ≤ 7293034 from by omega) rfl (jat hM.2.1 3 rfl) (st := [.int v1]) rfl ?_
  show JW X (k + 0 + 0) (n + 0 + 0) 1487 [some (.ref 2000000), some (.ref 0), some (.ref 70), some (.ref 85), some (.int i), none, none, none] [.int v3.1, .int v1] (hLaw (jpt G 70 15 v3.2) J)
  obtain ⟨G5, e6, h⟩ := jlE h
  rw [e6]
  refine js_iceq (t := 2667) hM.1 (jat hM.2.1 4 rfl) rfl (fun hc7 => ?_) (fun hc7 => ?_)
  · have h := (if_pos hc7).symm.trans h
    obtain rfl := Option.some.inj h
    refine JW.widen (k2 := k + 40) (n2 := n + 240) (by omega) (by omega) (JW.mask [true, true, true, true, true, false, false, false] ?_)
    exact K X hM
  · have h := (if_neg hc7).symm.trans h
    cases h

def p_case_22 (N : Nat) (xs : Nat → Int32) (G : Nat → Nat → Int32) (J : Nat → Nat → Int64) (i : Int32) : Option ((Nat → Nat → Int32) × (Nat → Nat → Int64)) :=
  (p_L_pledge N (jv2 G 0 70 85) (jv2 J 0 70 85) (xs (i + (1 : Int32)).toNatClampNeg)).bind (fun v1 => jlt (jp2 J 0 70 85 1 v1.2) fun J3 => (p_X6_pledge N (jvw G 70) (jvw J3 70) (xs (i + (1 : Int32)).toNatClampNeg)).bind (fun v5 => jlt (jpt G 70 15 v5.2) fun G7 => (p_X6_thrown N (jvw G7 70) (jvw J3 70)).bind (fun v9 => if v9 = v1.1 then (if v1.1 = 0 then (if (lg_cmp (J3 85 0) (v5.1.toInt64)) = 0 then (some (G7, J3)) else (none)) else (some (G7, J3))) else (none))))
set_option maxHeartbeats 4000000 in
set_option maxRecDepth 100000 in
theorem t_case_22 {Tz : jX → Prop} (hT1 : ∀ X ad al, Tz X → Tz (jxa X ad al)) (hT2 : ∀ X, Tz X → Tz (jof X)) {Ln : Nat} {xs : Nat → Int32} {X : jX} {k n : Nat} (hM : jMZ Tz X kL_c22 RL (tbLZ Ln xs) 8 ⟨12, 601024, 7293034, 436⟩ (some .boolean) 94) (hk : k + 40 ≤ 601024) (hn : n + 240 ≤ 7293034) (N : Nat) (G : Nat → Nat → Int32) (J : Nat → Nat → Int64) (i : Int32) (hj1 : jin (i + 1) Ln = true) (hj2 : jin (i + 2) Ln = true) (hj3 : jin (i + 3) Ln = true) (hj4 : jin (i + 4) Ln = true) (hj5 : jin (i + 5) Ln = true) (res : (Nat → Nat → Int32) × (Nat → Nat → Int64)) (h : p_case_22 N xs G J i = some res) (K : ∀ X9, jMZ Tz X9 kL_c22 RL (tbLZ Ln xs) 8 ⟨12, 601024, 7293034, 436⟩ (some .boolean) 94 → JW X9 (k + 40) (n + 240) 2667 [some (.ref 2000000), some (.ref 0), some (.ref 70), some (.ref 85), some (.int i), none, none, none] [] (hLaw res.1 res.2)) : JW X k n 1492 [some (.ref 2000000), some (.ref 0), some (.ref 70), some (.ref 85), some (.int i), none, none, none] [] (hLaw G J) := by
  unfold p_case_22 at h
  refine JW.rZ hM 0 7 (pc2 := 1500) (L2 := [some (.ref 2000000), some (.ref 0), some (.ref 70), some (.ref 85), some (.int i), none, none, none]) (st2 := [.ref 85, .int (xs (i + (1 : Int32)).toNatClampNeg), .ref 0]) (μ2 := (hLaw G J)) rfl ⟨hj1, trivial⟩ ?_
  obtain ⟨v1, hv2, h⟩ := jbd h
  refine JW.cHZ (v := some (.int v1.1)) hM (m_L_pledge (jVX X) hM.1.2.2.2.2.2.2.2.2.2.1 N (jv2 G 0 70 85) (jv2 J 0 70 85) (xs (i + (1 : Int32)).toNatClampNeg) v1 hv2) (sb_Law_W_0_85 G J) (bk_Law_W_0_85 G J (jv2 G 0 70 85) v1.2) rfl rfl rfl kh_L_210 rfl rfl (show k + 1 ≤ 601024 from by omega) (show n + 6 ≤ 7293034 from by omega) rfl (jat hM.2.1 7 rfl) (st := []) rfl ?_
  show JW (jof X) (k + 1) (n + 6) 1503 [some (.ref 2000000), some (.ref 0), some (.ref 70), some (.ref 85), some (.int i), none, none, none] [.int v1.1] (hLaw G (jp2 J 0 70 85 1 v1.2))
  obtain ⟨J3, e4, h⟩ := jlE h
  rw [e4]
  refine JW.rebY (hM.off (hT2 _)) (hT1 _) (B := 94) (Nat.le_of_ble_eq_true rfl) (Nat.le_of_ble_eq_true rfl) rfl rfl rfl ?_
  clear hM
  intro X hM
  refine JW.rZ hM 8 7 (pc2 := 1512) (L2 := [some (.ref 2000000), some (.ref 0), some (.ref 70), some (.ref 85), some (.int i), some (.int v1.1), none, none]) (st2 := [.int (xs (i + (1 : Int32)).toNatClampNeg), .ref 70]) (μ2 := (hLaw G J3)) rfl ⟨hj1, trivial⟩ ?_
  obtain ⟨v5, hv6, h⟩ := jbd h
  refine JW.cVZ (v := some (.int v5.1)) hM (m_X6_pledge (jVX X) hM.1.2.2.2.2.2.2.2.2.2.1 N (jvw G 70) (jvw J3 70) (xs (i + (1 : Int32)).toNatClampNeg) v5 hv6) (sb_Law_Mo_70 G J3) (bk_Law_Mo_70 G J3 v5.2 (jvw J3 70)) rfl rfl rfl kc_L_212 rfl rfl rfl rfl (show k + 1 + 0 ≤ 601024 from by omega) (show n + 6 + 0 ≤ 7293034 from by omega) rfl (jat hM.2.1 15 rfl) (st := []) rfl ?_
  show JW X (k + 1 + 0) (n + 6 + 0) 1515 [some (.ref 2000000), some (.ref 0), some (.ref 70), some (.ref 85), some (.int i), some (.int v1.1), none, none] [.int v5.1] (hLaw (jpt G 70 15 v5.2) J3)
  obtain ⟨G7, e8, h⟩ := jlE h
  rw [e8]
  refine JW.rZ hM 16 2 (pc2 := 1518) (L2 := [some (.ref 2000000), some (.ref 0), some (.ref 70), some (.ref 85), some (.int i), some (.int v1.1), some (.int v5.1), none]) (st2 := [.ref 70]) (μ2 := (hLaw G7 J3)) rfl trivial ?_
  obtain ⟨v9, hv10, h⟩ := jbd h
  refine JW.cVZ (v := some (.int v9)) hM (m_X6_thrown (jVX X) hM.1.2.2.2.2.2.2.2.2.2.1 N (jvw G7 70) (jvw J3 70) v9 hv10) (sb_Law_Mo_70 G7 J3) (bi_Law_Mo_70 G7 J3) rfl rfl rfl kc_L_140 rfl rfl rfl rfl (show k + 1 + 0 + 0 ≤ 601024 from by omega) (show n + 6 + 0 + 0 ≤ 7293034 from by omega) rfl (jat hM.2.1 18 rfl) (st := []) rfl ?_
  show JW X (k + 1 + 0 + 0) (n + 6 + 0 + 0) 1521 [some (.ref 2000000), some (.ref 0), some (.ref 70), some (.ref 85), some (.int i), some (.int v1.1), some (.int v5.1), none] [.int v9] (hLaw G7 J3)
  refine JW.rZ hM 19 1 (pc2 := 1523) (L2 := [some (.ref 2000000), some (.ref 0), some (.ref 70), some (.ref 85), some (.int i), some (.int v1.1), some (.int v5.1), none]) (st2 := [.int v1.1, .int v9]) (μ2 := (hLaw G7 J3)) rfl trivial ?_
  refine js_iceq (t := 1528) hM.1 (jat hM.2.1 20 rfl) rfl (fun hc13 => ?_) (fun hc13 => ?_)
  · have h := (if_pos hc13).symm.trans h
    refine JW.rZ hM 23 1 (pc2 := 1530) (L2 := [some (.ref 2000000), some (.ref 0), some (.ref 70), some (.ref 85), some (.int i), some (.int v1.1), some (.int v5.1), none]) (st2 := [.int v1.1]) (μ2 := (hLaw G7 J3)) rfl trivial ?_
    refine js_ifne (t := 1545) hM.1 (jat hM.2.1 24 rfl) rfl (fun hc12 => ?_) (fun hc12 => ?_)
    · have h := (if_neg hc12).symm.trans h
      refine JW.rZ hM 34 1 (pc2 := 2667) (L2 := [some (.ref 2000000), some (.ref 0), some (.ref 70), some (.ref 85), some (.int i), some (.int v1.1), some (.int v5.1), none]) (st2 := []) (μ2 := (hLaw G7 J3)) rfl trivial ?_
      obtain rfl := Option.some.inj h
      refine JW.widen (k2 := k + 40) (n2 := n + 240) (by omega) (by omega) (JW.mask [true, true, true, true, true, false, false, false] ?_)
      exact K X hM
    · have h := (if_pos hc12).symm.trans h
      refine JW.rZ hM 25 6 (pc2 := 1540) (L2 := [some (.ref 2000000), some (.ref 0), some (.ref 70), some (.ref 85), some (.int i), some (.int v1.1), some (.int v5.1), none]) (st2 := [.int (lg_cmp (J3 85 0) (v5.1.toInt64))]) (μ2 := (hLaw G7 J3)) rfl ⟨rfl, trivial⟩ ?_
      refine js_ifeq (t := 1545) hM.1 (jat hM.2.1 31 rfl) rfl (fun hc11 => ?_) (fun hc11 => ?_)
      · have h := (if_pos hc11).symm.trans h
        refine JW.rZ hM 34 1 (pc2 := 2667) (L2 := [some (.ref 2000000), some (.ref 0), some (.ref 70), some (.ref 85), some (.int i), some (.int v1.1), some (.int v5.1), none]) (st2 := []) (μ2 := (hLaw G7 J3)) rfl trivial ?_
        obtain rfl := Option.some.inj h
        refine JW.widen (k2 := k + 40) (n2 := n + 240) (by omega) (by omega) (JW.mask [true, true, true, true, true, false, false, false] ?_)
        exact K X hM
      · have h := (if_neg hc11).symm.trans h
        cases h
  · have h := (if_neg hc13).symm.trans h
    cases h

def p_case_23 (N : Nat) (xs : Nat → Int32) (G : Nat → Nat → Int32) (J : Nat → Nat → Int64) (i : Int32) : Option ((Nat → Nat → Int32) × (Nat → Nat → Int64)) :=
  (p_X5_tempted N (jvw G 0) (jvw J 0)).bind (fun v1 => (p_X6_tempted N (jvw G 70) (jvw J 70)).bind (fun v3 => jlt (jpt G 70 15 v3.2) fun G5 => if v1 = v3.1 then (some (G5, J)) else (none)))
set_option maxHeartbeats 4000000 in
set_option maxRecDepth 100000 in
theorem t_case_23 {Tz : jX → Prop} (hT1 : ∀ X ad al, Tz X → Tz (jxa X ad al)) (hT2 : ∀ X, Tz X → Tz (jof X)) {Ln : Nat} {xs : Nat → Int32} {X : jX} {k n : Nat} (hM : jMZ Tz X kL_c23 RL (tbLZ Ln xs) 8 ⟨12, 601024, 7293034, 436⟩ (some .boolean) 94) (hk : k + 40 ≤ 601024) (hn : n + 240 ≤ 7293034) (N : Nat) (G : Nat → Nat → Int32) (J : Nat → Nat → Int64) (i : Int32) (hj1 : jin (i + 1) Ln = true) (hj2 : jin (i + 2) Ln = true) (hj3 : jin (i + 3) Ln = true) (hj4 : jin (i + 4) Ln = true) (hj5 : jin (i + 5) Ln = true) (res : (Nat → Nat → Int32) × (Nat → Nat → Int64)) (h : p_case_23 N xs G J i = some res) (K : ∀ X9, jMZ Tz X9 kL_c23 RL (tbLZ Ln xs) 8 ⟨12, 601024, 7293034, 436⟩ (some .boolean) 94 → JW X9 (k + 40) (n + 240) 2667 [some (.ref 2000000), some (.ref 0), some (.ref 70), some (.ref 85), some (.int i), none, none, none] [] (hLaw res.1 res.2)) : JW X k n 1548 [some (.ref 2000000), some (.ref 0), some (.ref 70), some (.ref 85), some (.int i), none, none, none] [] (hLaw G J) := by
  unfold p_case_23 at h
  refine JW.rZ hM 0 1 (pc2 := 1549) (L2 := [some (.ref 2000000), some (.ref 0), some (.ref 70), some (.ref 85), some (.int i), none, none, none]) (st2 := [.ref 0]) (μ2 := (hLaw G J)) rfl trivial ?_
  obtain ⟨v1, hv2, h⟩ := jbd h
  refine JW.cVZ (v := some (.int v1)) hM (m_X5_tempted (jVX X) hM.1.2.2.2.2.2.2.2.2.2.1 N (jvw G 0) (jvw J 0) v1 hv2) (sb_Law_X_0 G J) (bi_Law_X_0 G J) rfl rfl rfl kc_L_213 rfl rfl rfl rfl (show k + 0 ≤ 601024 from by omega) (show n + 0 ≤ 7293034 from by omega) rfl (jat hM.2.1 1 rfl) (st := []) rfl ?_
  show JW X (k + 0) (n + 0) 1552 [some (.ref 2000000), some (.ref 0), some (.ref 70), some (.ref 85), some (.int i), none, none, none] [.int v1] (hLaw G J)
  refine JW.rZ hM 2 1 (pc2 := 1553) (L2 := [some (.ref 2000000), some (.ref 0), some (.ref 70), some (.ref 85), some (.int i), none, none, none]) (st2 := [.ref 70, .int v1]) (μ2 := (hLaw G J)) rfl trivial ?_
  obtain ⟨v3, hv4, h⟩ := jbd h
  refine JW.cVZ (v := some (.int v3.1)) hM (m_X6_tempted (jVX X) hM.1.2.2.2.2.2.2.2.2.2.1 N (jvw G 70) (jvw J 70) v3 hv4) (sb_Law_Mo_70 G J) (bk_Law_Mo_70 G J v3.2 (jvw J 70)) rfl rfl rfl kc_L_216 rfl rfl rfl rfl (show k + 0 + 0 ≤ 601024 from by omega) (show n + 0 + 0 ≤ 7293034 from by omega) rfl (jat hM.2.1 3 rfl) (st := [.int v1]) rfl ?_
  show JW X (k + 0 + 0) (n + 0 + 0) 1556 [some (.ref 2000000), some (.ref 0), some (.ref 70), some (.ref 85), some (.int i), none, none, none] [.int v3.1, .int v1] (hLaw (jpt G 70 15 v3.2) J)
  obtain ⟨G5, e6, h⟩ := jlE h
  rw [e6]
  refine js_iceq (t := 2667) hM.1 (jat hM.2.1 4 rfl) rfl (fun hc7 => ?_) (fun hc7 => ?_)
  · have h := (if_pos hc7).symm.trans h
    obtain rfl := Option.some.inj h
    refine JW.widen (k2 := k + 40) (n2 := n + 240) (by omega) (by omega) (JW.mask [true, true, true, true, true, false, false, false] ?_)
    exact K X hM
  · have h := (if_neg hc7).symm.trans h
    cases h

def p_case_24 (N : Nat) (xs : Nat → Int32) (G : Nat → Nat → Int32) (J : Nat → Nat → Int64) (i : Int32) : Option ((Nat → Nat → Int32) × (Nat → Nat → Int64)) :=
  (p_X5_unravel N (jvw G 0) (jvw J 0)).bind (fun v1 => jlt (jpt G 0 70 v1.2) fun G3 => (p_X6_unravel N (jvw G3 70) (jvw J 70)).bind (fun v5 => jlt (jpt G3 70 15 v5.2) fun G7 => if v1.1 = v5.1 then (some (G7, J)) else (none)))
set_option maxHeartbeats 4000000 in
set_option maxRecDepth 100000 in
theorem t_case_24 {Tz : jX → Prop} (hT1 : ∀ X ad al, Tz X → Tz (jxa X ad al)) (hT2 : ∀ X, Tz X → Tz (jof X)) {Ln : Nat} {xs : Nat → Int32} {X : jX} {k n : Nat} (hM : jMZ Tz X kL_c24 RL (tbLZ Ln xs) 8 ⟨12, 601024, 7293034, 436⟩ (some .boolean) 94) (hk : k + 40 ≤ 601024) (hn : n + 240 ≤ 7293034) (N : Nat) (G : Nat → Nat → Int32) (J : Nat → Nat → Int64) (i : Int32) (hj1 : jin (i + 1) Ln = true) (hj2 : jin (i + 2) Ln = true) (hj3 : jin (i + 3) Ln = true) (hj4 : jin (i + 4) Ln = true) (hj5 : jin (i + 5) Ln = true) (res : (Nat → Nat → Int32) × (Nat → Nat → Int64)) (h : p_case_24 N xs G J i = some res) (K : ∀ X9, jMZ Tz X9 kL_c24 RL (tbLZ Ln xs) 8 ⟨12, 601024, 7293034, 436⟩ (some .boolean) 94 → JW X9 (k + 40) (n + 240) 2667 [some (.ref 2000000), some (.ref 0), some (.ref 70), some (.ref 85), some (.int i), none, none, none] [] (hLaw res.1 res.2)) : JW X k n 1561 [some (.ref 2000000), some (.ref 0), some (.ref 70), some (.ref 85), some (.int i), none, none, none] [] (hLaw G J) := by
  unfold p_case_24 at h
  refine JW.rZ hM 0 1 (pc2 := 1562) (L2 := [some (.ref 2000000), some (.ref 0), some (.ref 70), some (.ref 85), some (.int i), none, none, none]) (st2 := [.ref 0]) (μ2 := (hLaw G J)) rfl trivial ?_
  obtain ⟨v1, hv2, h⟩ := jbd h
  refine JW.cVZ (v := some (.int v1.1)) hM (m_X5_unravel (jVX X) hM.1.2.2.2.2.2.2.2.2.2.1 N (jvw G 0) (jvw J 0) v1 hv2) (sb_Law_X_0 G J) (bk_Law_X_0 G J v1.2 (jvw J 0)) rfl rfl rfl kc_L_217 rfl rfl rfl rfl (show k + 0 ≤ 601024 from by omega) (show n + 0 ≤ 7293034 from by omega) rfl (jat hM.2.1 1 rfl) (st := []) rfl ?_
  show JW X (k + 0) (n + 0) 1565 [some (.ref 2000000), some (.ref 0), some (.ref 70), some (.ref 85), some (.int i), none, none, none] [.int v1.1] (hLaw (jpt G 0 70 v1.2) J)
  obtain ⟨G3, e4, h⟩ := jlE h
  rw [e4]
  refine JW.rZ hM 2 1 (pc2 := 1566) (L2 := [some (.ref 2000000), some (.ref 0), some (.ref 70), some (.ref 85), some (.int i), none, none, none]) (st2 := [.ref 70, .int v1.1]) (μ2 := (hLaw G3 J)) rfl trivial ?_
  obtain ⟨v5, hv6, h⟩ := jbd h
  refine JW.cVZ (v := some (.int v5.1)) hM (m_X6_unravel (jVX X) hM.1.2.2.2.2.2.2.2.2.2.1 N (jvw G3 70) (jvw J 70) v5 hv6) (sb_Law_Mo_70 G3 J) (bk_Law_Mo_70 G3 J v5.2 (jvw J 70)) rfl rfl rfl kc_L_220 rfl rfl rfl rfl (show k + 0 + 0 ≤ 601024 from by omega) (show n + 0 + 0 ≤ 7293034 from by omega) rfl (jat hM.2.1 3 rfl) (st := [.int v1.1]) rfl ?_
  show JW X (k + 0 + 0) (n + 0 + 0) 1569 [some (.ref 2000000), some (.ref 0), some (.ref 70), some (.ref 85), some (.int i), none, none, none] [.int v5.1, .int v1.1] (hLaw (jpt G3 70 15 v5.2) J)
  obtain ⟨G7, e8, h⟩ := jlE h
  rw [e8]
  refine js_iceq (t := 2667) hM.1 (jat hM.2.1 4 rfl) rfl (fun hc9 => ?_) (fun hc9 => ?_)
  · have h := (if_pos hc9).symm.trans h
    obtain rfl := Option.some.inj h
    refine JW.widen (k2 := k + 40) (n2 := n + 240) (by omega) (by omega) (JW.mask [true, true, true, true, true, false, false, false] ?_)
    exact K X hM
  · have h := (if_neg hc9).symm.trans h
    cases h

def p_case_25 (N : Nat) (xs : Nat → Int32) (G : Nat → Nat → Int32) (J : Nat → Nat → Int64) (i : Int32) : Option ((Nat → Nat → Int32) × (Nat → Nat → Int64)) :=
  (p_L_debt N (jv2 G 0 70 85) (jv2 J 0 70 85) (xs (i + (1 : Int32)).toNatClampNeg) (xs (i + (2 : Int32)).toNatClampNeg)).bind (fun v1 => jlt (jp2 J 0 70 85 1 v1.2) fun J3 => (p_X6_debt N (jvw G 70) (jvw J3 70) (xs (i + (1 : Int32)).toNatClampNeg) (xs (i + (2 : Int32)).toNatClampNeg)).bind (fun v5 => jlt (jpt G 70 15 v5.2) fun G7 => (p_X6_thrown N (jvw G7 70) (jvw J3 70)).bind (fun v9 => if v9 = v1.1 then (if v1.1 = 0 then (if (lg_cmp (J3 85 0) (v5.1.toInt64)) = 0 then (some (G7, J3)) else (none)) else (some (G7, J3))) else (none))))
set_option maxHeartbeats 4000000 in
set_option maxRecDepth 100000 in
theorem t_case_25 {Tz : jX → Prop} (hT1 : ∀ X ad al, Tz X → Tz (jxa X ad al)) (hT2 : ∀ X, Tz X → Tz (jof X)) {Ln : Nat} {xs : Nat → Int32} {X : jX} {k n : Nat} (hM : jMZ Tz X kL_c25 RL (tbLZ Ln xs) 8 ⟨12, 601024, 7293034, 436⟩ (some .boolean) 94) (hk : k + 40 ≤ 601024) (hn : n + 240 ≤ 7293034) (N : Nat) (G : Nat → Nat → Int32) (J : Nat → Nat → Int64) (i : Int32) (hj1 : jin (i + 1) Ln = true) (hj2 : jin (i + 2) Ln = true) (hj3 : jin (i + 3) Ln = true) (hj4 : jin (i + 4) Ln = true) (hj5 : jin (i + 5) Ln = true) (res : (Nat → Nat → Int32) × (Nat → Nat → Int64)) (h : p_case_25 N xs G J i = some res) (K : ∀ X9, jMZ Tz X9 kL_c25 RL (tbLZ Ln xs) 8 ⟨12, 601024, 7293034, 436⟩ (some .boolean) 94 → JW X9 (k + 40) (n + 240) 2667 [some (.ref 2000000), some (.ref 0), some (.ref 70), some (.ref 85), some (.int i), none, none, none] [] (hLaw res.1 res.2)) : JW X k n 1574 [some (.ref 2000000), some (.ref 0), some (.ref 70), some (.ref 85), some (.int i), none, none, none] [] (hLaw G J) := by
  unfold p_case_25 at h
  refine JW.rZ hM 0 12 (pc2 := 1588) (L2 := [some (.ref 2000000), some (.ref 0), some (.ref 70), some (.ref 85), some (.int i), none, none, none]) (st2 := [.ref 85, .int (xs (i + (2 : Int32)).toNatClampNeg), .int (xs (i + (1 : Int32)).toNatClampNeg), .ref 0]) (μ2 := (hLaw G J)) rfl ⟨hj1, hj2, trivial⟩ ?_
  obtain ⟨v1, hv2, h⟩ := jbd h
  refine JW.cHZ (v := some (.int v1.1)) hM (m_L_debt (jVX X) hM.1.2.2.2.2.2.2.2.2.2.1 N (jv2 G 0 70 85) (jv2 J 0 70 85) (xs (i + (1 : Int32)).toNatClampNeg) (xs (i + (2 : Int32)).toNatClampNeg) v1 hv2) (sb_Law_W_0_85 G J) (bk_Law_W_0_85 G J (jv2 G 0 70 85) v1.2) rfl rfl rfl kh_L_221 rfl rfl (show k + 2 ≤ 601024 from by omega) (show n + 12 ≤ 7293034 from by omega) rfl (jat hM.2.1 12 rfl) (st := []) rfl ?_
  show JW (jof X) (k + 2) (n + 12) 1591 [some (.ref 2000000), some (.ref 0), some (.ref 70), some (.ref 85), some (.int i), none, none, none] [.int v1.1] (hLaw G (jp2 J 0 70 85 1 v1.2))
  obtain ⟨J3, e4, h⟩ := jlE h
  rw [e4]
  refine JW.rebY (hM.off (hT2 _)) (hT1 _) (B := 94) (Nat.le_of_ble_eq_true rfl) (Nat.le_of_ble_eq_true rfl) rfl rfl rfl ?_
  clear hM
  intro X hM
  refine JW.rZ hM 13 12 (pc2 := 1606) (L2 := [some (.ref 2000000), some (.ref 0), some (.ref 70), some (.ref 85), some (.int i), some (.int v1.1), none, none]) (st2 := [.int (xs (i + (2 : Int32)).toNatClampNeg), .int (xs (i + (1 : Int32)).toNatClampNeg), .ref 70]) (μ2 := (hLaw G J3)) rfl ⟨hj1, hj2, trivial⟩ ?_
  obtain ⟨v5, hv6, h⟩ := jbd h
  refine JW.cVZ (v := some (.int v5.1)) hM (m_X6_debt (jVX X) hM.1.2.2.2.2.2.2.2.2.2.1 N (jvw G 70) (jvw J3 70) (xs (i + (1 : Int32)).toNatClampNeg) (xs (i + (2 : Int32)).toNatClampNeg) v5 hv6) (sb_Law_Mo_70 G J3) (bk_Law_Mo_70 G J3 v5.2 (jvw J3 70)) rfl rfl rfl kc_L_223 rfl rfl rfl rfl (show k + 2 + 0 ≤ 601024 from by omega) (show n + 12 + 0 ≤ 7293034 from by omega) rfl (jat hM.2.1 25 rfl) (st := []) rfl ?_
  show JW X (k + 2 + 0) (n + 12 + 0) 1609 [some (.ref 2000000), some (.ref 0), some (.ref 70), some (.ref 85), some (.int i), some (.int v1.1), none, none] [.int v5.1] (hLaw (jpt G 70 15 v5.2) J3)
  obtain ⟨G7, e8, h⟩ := jlE h
  rw [e8]
  refine JW.rZ hM 26 2 (pc2 := 1612) (L2 := [some (.ref 2000000), some (.ref 0), some (.ref 70), some (.ref 85), some (.int i), some (.int v1.1), some (.int v5.1), none]) (st2 := [.ref 70]) (μ2 := (hLaw G7 J3)) rfl trivial ?_
  obtain ⟨v9, hv10, h⟩ := jbd h
  refine JW.cVZ (v := some (.int v9)) hM (m_X6_thrown (jVX X) hM.1.2.2.2.2.2.2.2.2.2.1 N (jvw G7 70) (jvw J3 70) v9 hv10) (sb_Law_Mo_70 G7 J3) (bi_Law_Mo_70 G7 J3) rfl rfl rfl kc_L_140 rfl rfl rfl rfl (show k + 2 + 0 + 0 ≤ 601024 from by omega) (show n + 12 + 0 + 0 ≤ 7293034 from by omega) rfl (jat hM.2.1 28 rfl) (st := []) rfl ?_
  show JW X (k + 2 + 0 + 0) (n + 12 + 0 + 0) 1615 [some (.ref 2000000), some (.ref 0), some (.ref 70), some (.ref 85), some (.int i), some (.int v1.1), some (.int v5.1), none] [.int v9] (hLaw G7 J3)
  refine JW.rZ hM 29 1 (pc2 := 1617) (L2 := [some (.ref 2000000), some (.ref 0), some (.ref 70), some (.ref 85), some (.int i), some (.int v1.1), some (.int v5.1), none]) (st2 := [.int v1.1, .int v9]) (μ2 := (hLaw G7 J3)) rfl trivial ?_
  refine js_iceq (t := 1622) hM.1 (jat hM.2.1 30 rfl) rfl (fun hc13 => ?_) (fun hc13 => ?_)
  · have h := (if_pos hc13).symm.trans h
    refine JW.rZ hM 33 1 (pc2 := 1624) (L2 := [some (.ref 2000000), some (.ref 0), some (.ref 70), some (.ref 85), some (.int i), some (.int v1.1), some (.int v5.1), none]) (st2 := [.int v1.1]) (μ2 := (hLaw G7 J3)) rfl trivial ?_
    refine js_ifne (t := 1639) hM.1 (jat hM.2.1 34 rfl) rfl (fun hc12 => ?_) (fun hc12 => ?_)
    · have h := (if_neg hc12).symm.trans h
      refine JW.rZ hM 44 1 (pc2 := 2667) (L2 := [some (.ref 2000000), some (.ref 0), some (.ref 70), some (.ref 85), some (.int i), some (.int v1.1), some (.int v5.1), none]) (st2 := []) (μ2 := (hLaw G7 J3)) rfl trivial ?_
      obtain rfl := Option.some.inj h
      refine JW.widen (k2 := k + 40) (n2 := n + 240) (by omega) (by omega) (JW.mask [true, true, true, true, true, false, false, false] ?_)
      exact K X hM
    · have h := (if_pos hc12).symm.trans h
      refine JW.rZ hM 35 6 (pc2 := 1634) (L2 := [some (.ref 2000000), some (.ref 0), some (.ref 70), some (.ref 85), some (.int i), some (.int v1.1), some (.int v5.1), none]) (st2 := [.int (lg_cmp (J3 85 0) (v5.1.toInt64))]) (μ2 := (hLaw G7 J3)) rfl ⟨rfl, trivial⟩ ?_
      refine js_ifeq (t := 1639) hM.1 (jat hM.2.1 41 rfl) rfl (fun hc11 => ?_) (fun hc11 => ?_)
      · have h := (if_pos hc11).symm.trans h
        refine JW.rZ hM 44 1 (pc2 := 2667) (L2 := [some (.ref 2000000), some (.ref 0), some (.ref 70), some (.ref 85), some (.int i), some (.int v1.1), some (.int v5.1), none]) (st2 := []) (μ2 := (hLaw G7 J3)) rfl trivial ?_
        obtain rfl := Option.some.inj h
        refine JW.widen (k2 := k + 40) (n2 := n + 240) (by omega) (by omega) (JW.mask [true, true, true, true, true, false, false, false] ?_)
        exact K X hM
      · have h := (if_neg hc11).symm.trans h
        cases h
  · have h := (if_neg hc13).symm.trans h
    cases h

def p_case_26 (N : Nat) (xs : Nat → Int32) (G : Nat → Nat → Int32) (J : Nat → Nat → Int64) (i : Int32) : Option ((Nat → Nat → Int32) × (Nat → Nat → Int64)) :=
  (p_L_safePrice N (jv2 G 0 70 85) (jv2 J 0 70 85) (xs (i + (1 : Int32)).toNatClampNeg) (xs (i + (2 : Int32)).toNatClampNeg) (xs (i + (3 : Int32)).toNatClampNeg)).bind (fun v1 => jlt (jp2 J 0 70 85 1 v1.2) fun J3 => (p_X6_safePrice N (jvw G 70) (jvw J3 70) (xs (i + (1 : Int32)).toNatClampNeg) (xs (i + (2 : Int32)).toNatClampNeg) (xs (i + (3 : Int32)).toNatClampNeg)).bind (fun v5 => jlt (jpt G 70 15 v5.2) fun G7 => (p_X6_thrown N (jvw G7 70) (jvw J3 70)).bind (fun v9 => if v9 = v1.1 then (if v1.1 = 0 then (if (lg_cmp (J3 85 0) (v5.1.toInt64)) = 0 then (some (G7, J3)) else (none)) else (some (G7, J3))) else (none))))
set_option maxHeartbeats 4000000 in
set_option maxRecDepth 100000 in
theorem t_case_26 {Tz : jX → Prop} (hT1 : ∀ X ad al, Tz X → Tz (jxa X ad al)) (hT2 : ∀ X, Tz X → Tz (jof X)) {Ln : Nat} {xs : Nat → Int32} {X : jX} {k n : Nat} (hM : jMZ Tz X kL_c26 RL (tbLZ Ln xs) 8 ⟨12, 601024, 7293034, 436⟩ (some .boolean) 94) (hk : k + 40 ≤ 601024) (hn : n + 240 ≤ 7293034) (N : Nat) (G : Nat → Nat → Int32) (J : Nat → Nat → Int64) (i : Int32) (hj1 : jin (i + 1) Ln = true) (hj2 : jin (i + 2) Ln = true) (hj3 : jin (i + 3) Ln = true) (hj4 : jin (i + 4) Ln = true) (hj5 : jin (i + 5) Ln = true) (res : (Nat → Nat → Int32) × (Nat → Nat → Int64)) (h : p_case_26 N xs G J i = some res) (K : ∀ X9, jMZ Tz X9 kL_c26 RL (tbLZ Ln xs) 8 ⟨12, 601024, 7293034, 436⟩ (some .boolean) 94 → JW X9 (k + 40) (n + 240) 2667 [some (.ref 2000000), some (.ref 0), some (.ref 70), some (.ref 85), some (.int i), none, none, none] [] (hLaw res.1 res.2)) : JW X k n 1642 [some (.ref 2000000), some (.ref 0), some (.ref 70), some (.ref 85), some (.int i), none, none, none] [] (hLaw G J) := by
  unfold p_case_26 at h
  refine JW.rZ hM 0 17 (pc2 := 1662) (L2 := [some (.ref 2000000), some (.ref 0), some (.ref 70), some (.ref 85), some (.int i), none, none, none]) (st2 := [.ref 85, .int (xs (i + (3 : Int32)).toNatClampNeg), .int (xs (i + (2 : Int32)).toNatClampNeg), .int (xs (i + (1 : Int32)).toNatClampNeg), .ref 0]) (μ2 := (hLaw G J)) rfl ⟨hj1, hj2, hj3, trivial⟩ ?_
  obtain ⟨v1, hv2, h⟩ := jbd h
  refine JW.cHZ (v := some (.int v1.1)) hM (m_L_safePrice (jVX X) hM.1.2.2.2.2.2.2.2.2.2.1 N (jv2 G 0 70 85) (jv2 J 0 70 85) (xs (i + (1 : Int32)).toNatClampNeg) (xs (i + (2 : Int32)).toNatClampNeg) (xs (i + (3 : Int32)).toNatClampNeg) v1 hv2) (sb_Law_W_0_85 G J) (bk_Law_W_0_85 G J (jv2 G 0 70 85) v1.2) rfl rfl rfl kh_L_224 rfl rfl (show k + 3 ≤ 601024 from by omega) (show n + 18 ≤ 7293034 from by omega) rfl (jat hM.2.1 17 rfl) (st := []) rfl ?_
  show JW (jof X) (k + 3) (n + 18) 1665 [some (.ref 2000000), some (.ref 0), some (.ref 70), some (.ref 85), some (.int i), none, none, none] [.int v1.1] (hLaw G (jp2 J 0 70 85 1 v1.2))
  obtain ⟨J3, e4, h⟩ := jlE h
  rw [e4]
  refine JW.rebY (hM.off (hT2 _)) (hT1 _) (B := 94) (Nat.le_of_ble_eq_true rfl) (Nat.le_of_ble_eq_true rfl) rfl rfl rfl ?_
  clear hM
  intro X hM
  refine JW.rZ hM 18 17 (pc2 := 1686) (L2 := [some (.ref 2000000), some (.ref 0), some (.ref 70), some (.ref 85), some (.int i), some (.int v1.1), none, none]) (st2 := [.int (xs (i + (3 : Int32)).toNatClampNeg), .int (xs (i + (2 : Int32)).toNatClampNeg), .int (xs (i + (1 : Int32)).toNatClampNeg), .ref 70]) (μ2 := (hLaw G J3)) rfl ⟨hj1, hj2, hj3, trivial⟩ ?_
  obtain ⟨v5, hv6, h⟩ := jbd h
  refine JW.cVZ (v := some (.int v5.1)) hM (m_X6_safePrice (jVX X) hM.1.2.2.2.2.2.2.2.2.2.1 N (jvw G 70) (jvw J3 70) (xs (i + (1 : Int32)).toNatClampNeg) (xs (i + (2 : Int32)).toNatClampNeg) (xs (i + (3 : Int32)).toNatClampNeg) v5 hv6) (sb_Law_Mo_70 G J3) (bk_Law_Mo_70 G J3 v5.2 (jvw J3 70)) rfl rfl rfl kc_L_226 rfl rfl rfl rfl (show k + 3 + 0 ≤ 601024 from by omega) (show n + 18 + 0 ≤ 7293034 from by omega) rfl (jat hM.2.1 35 rfl) (st := []) rfl ?_
  show JW X (k + 3 + 0) (n + 18 + 0) 1689 [some (.ref 2000000), some (.ref 0), some (.ref 70), some (.ref 85), some (.int i), some (.int v1.1), none, none] [.int v5.1] (hLaw (jpt G 70 15 v5.2) J3)
  obtain ⟨G7, e8, h⟩ := jlE h
  rw [e8]
  refine JW.rZ hM 36 2 (pc2 := 1692) (L2 := [some (.ref 2000000), some (.ref 0), some (.ref 70), some (.ref 85), some (.int i), some (.int v1.1), some (.int v5.1), none]) (st2 := [.ref 70]) (μ2 := (hLaw G7 J3)) rfl trivial ?_
  obtain ⟨v9, hv10, h⟩ := jbd h
  refine JW.cVZ (v := some (.int v9)) hM (m_X6_thrown (jVX X) hM.1.2.2.2.2.2.2.2.2.2.1 N (jvw G7 70) (jvw J3 70) v9 hv10) (sb_Law_Mo_70 G7 J3) (bi_Law_Mo_70 G7 J3) rfl rfl rfl kc_L_140 rfl rfl rfl rfl (show k + 3 + 0 + 0 ≤ 601024 from by omega) (show n + 18 + 0 + 0 ≤ 7293034 from by omega) rfl (jat hM.2.1 38 rfl) (st := []) rfl ?_
  show JW X (k + 3 + 0 + 0) (n + 18 + 0 + 0) 1695 [some (.ref 2000000), some (.ref 0), some (.ref 70), some (.ref 85), some (.int i), some (.int v1.1), some (.int v5.1), none] [.int v9] (hLaw G7 J3)
  refine JW.rZ hM 39 1 (pc2 := 1697) (L2 := [some (.ref 2000000), some (.ref 0), some (.ref 70), some (.ref 85), some (.int i), some (.int v1.1), some (.int v5.1), none]) (st2 := [.int v1.1, .int v9]) (μ2 := (hLaw G7 J3)) rfl trivial ?_
  refine js_iceq (t := 1702) hM.1 (jat hM.2.1 40 rfl) rfl (fun hc13 => ?_) (fun hc13 => ?_)
  · have h := (if_pos hc13).symm.trans h
    refine JW.rZ hM 43 1 (pc2 := 1704) (L2 := [some (.ref 2000000), some (.ref 0), some (.ref 70), some (.ref 85), some (.int i), some (.int v1.1), some (.int v5.1), none]) (st2 := [.int v1.1]) (μ2 := (hLaw G7 J3)) rfl trivial ?_
    refine js_ifne (t := 1719) hM.1 (jat hM.2.1 44 rfl) rfl (fun hc12 => ?_) (fun hc12 => ?_)
    · have h := (if_neg hc12).symm.trans h
      refine JW.rZ hM 54 1 (pc2 := 2667) (L2 := [some (.ref 2000000), some (.ref 0), some (.ref 70), some (.ref 85), some (.int i), some (.int v1.1), some (.int v5.1), none]) (st2 := []) (μ2 := (hLaw G7 J3)) rfl trivial ?_
      obtain rfl := Option.some.inj h
      refine JW.widen (k2 := k + 40) (n2 := n + 240) (by omega) (by omega) (JW.mask [true, true, true, true, true, false, false, false] ?_)
      exact K X hM
    · have h := (if_pos hc12).symm.trans h
      refine JW.rZ hM 45 6 (pc2 := 1714) (L2 := [some (.ref 2000000), some (.ref 0), some (.ref 70), some (.ref 85), some (.int i), some (.int v1.1), some (.int v5.1), none]) (st2 := [.int (lg_cmp (J3 85 0) (v5.1.toInt64))]) (μ2 := (hLaw G7 J3)) rfl ⟨rfl, trivial⟩ ?_
      refine js_ifeq (t := 1719) hM.1 (jat hM.2.1 51 rfl) rfl (fun hc11 => ?_) (fun hc11 => ?_)
      · have h := (if_pos hc11).symm.trans h
        refine JW.rZ hM 54 1 (pc2 := 2667) (L2 := [some (.ref 2000000), some (.ref 0), some (.ref 70), some (.ref 85), some (.int i), some (.int v1.1), some (.int v5.1), none]) (st2 := []) (μ2 := (hLaw G7 J3)) rfl trivial ?_
        obtain rfl := Option.some.inj h
        refine JW.widen (k2 := k + 40) (n2 := n + 240) (by omega) (by omega) (JW.mask [true, true, true, true, true, false, false, false] ?_)
        exact K X hM
      · have h := (if_neg hc11).symm.trans h
        cases h
  · have h := (if_neg hc13).symm.trans h
    cases h

def p_case_27 (N : Nat) (xs : Nat → Int32) (G : Nat → Nat → Int32) (J : Nat → Nat → Int64) (i : Int32) : Option ((Nat → Nat → Int32) × (Nat → Nat → Int64)) :=
  (p_X5_longest N (jvw G 0) (jvw J 0)).bind (fun v1 => (p_X6_longest N (jvw G 70) (jvw J 70)).bind (fun v3 => jlt (jpt G 70 15 v3.2) fun G5 => if v1 = v3.1 then (some (G5, J)) else (none)))
set_option maxHeartbeats 4000000 in
set_option maxRecDepth 100000 in
theorem t_case_27 {Tz : jX → Prop} (hT1 : ∀ X ad al, Tz X → Tz (jxa X ad al)) (hT2 : ∀ X, Tz X → Tz (jof X)) {Ln : Nat} {xs : Nat → Int32} {X : jX} {k n : Nat} (hM : jMZ Tz X kL_c27 RL (tbLZ Ln xs) 8 ⟨12, 601024, 7293034, 436⟩ (some .boolean) 94) (hk : k + 40 ≤ 601024) (hn : n + 240 ≤ 7293034) (N : Nat) (G : Nat → Nat → Int32) (J : Nat → Nat → Int64) (i : Int32) (hj1 : jin (i + 1) Ln = true) (hj2 : jin (i + 2) Ln = true) (hj3 : jin (i + 3) Ln = true) (hj4 : jin (i + 4) Ln = true) (hj5 : jin (i + 5) Ln = true) (res : (Nat → Nat → Int32) × (Nat → Nat → Int64)) (h : p_case_27 N xs G J i = some res) (K : ∀ X9, jMZ Tz X9 kL_c27 RL (tbLZ Ln xs) 8 ⟨12, 601024, 7293034, 436⟩ (some .boolean) 94 → JW X9 (k + 40) (n + 240) 2667 [some (.ref 2000000), some (.ref 0), some (.ref 70), some (.ref 85), some (.int i), none, none, none] [] (hLaw res.1 res.2)) : JW X k n 1722 [some (.ref 2000000), some (.ref 0), some (.ref 70), some (.ref 85), some (.int i), none, none, none] [] (hLaw G J) := by
  unfold p_case_27 at h
  refine JW.rZ hM 0 1 (pc2 := 1723) (L2 := [some (.ref 2000000), some (.ref 0), some (.ref 70), some (.ref 85), some (.int i), none, none, none]) (st2 := [.ref 0]) (μ2 := (hLaw G J)) rfl trivial ?_
  obtain ⟨v1, hv2, h⟩ := jbd h
  refine JW.cVZ (v := some (.int v1)) hM (m_X5_longest (jVX X) hM.1.2.2.2.2.2.2.2.2.2.1 N (jvw G 0) (jvw J 0) v1 hv2) (sb_Law_X_0 G J) (bi_Law_X_0 G J) rfl rfl rfl kc_L_227 rfl rfl rfl rfl (show k + 0 ≤ 601024 from by omega) (show n + 0 ≤ 7293034 from by omega) rfl (jat hM.2.1 1 rfl) (st := []) rfl ?_
  show JW X (k + 0) (n + 0) 1726 [some (.ref 2000000), some (.ref 0), some (.ref 70), some (.ref 85), some (.int i), none, none, none] [.int v1] (hLaw G J)
  refine JW.rZ hM 2 1 (pc2 := 1727) (L2 := [some (.ref 2000000), some (.ref 0), some (.ref 70), some (.ref 85), some (.int i), none, none, none]) (st2 := [.ref 70, .int v1]) (μ2 := (hLaw G J)) rfl trivial ?_
  obtain ⟨v3, hv4, h⟩ := jbd h
  refine JW.cVZ (v := some (.int v3.1)) hM (m_X6_longest (jVX X) hM.1.2.2.2.2.2.2.2.2.2.1 N (jvw G 70) (jvw J 70) v3 hv4) (sb_Law_Mo_70 G J) (bk_Law_Mo_70 G J v3.2 (jvw J 70)) rfl rfl rfl kc_L_230 rfl rfl rfl rfl (show k + 0 + 0 ≤ 601024 from by omega) (show n + 0 + 0 ≤ 7293034 from by omega) rfl (jat hM.2.1 3 rfl) (st := [.int v1]) rfl ?_
  show JW X (k + 0 + 0) (n + 0 + 0) 1730 [some (.ref 2000000), some (.ref 0), some (.ref 70), some (.ref 85), some (.int i), none, none, none] [.int v3.1, .int v1] (hLaw (jpt G 70 15 v3.2) J)
  obtain ⟨G5, e6, h⟩ := jlE h
  rw [e6]
  refine js_iceq (t := 2667) hM.1 (jat hM.2.1 4 rfl) rfl (fun hc7 => ?_) (fun hc7 => ?_)
  · have h := (if_pos hc7).symm.trans h
    obtain rfl := Option.some.inj h
    refine JW.widen (k2 := k + 40) (n2 := n + 240) (by omega) (by omega) (JW.mask [true, true, true, true, true, false, false, false] ?_)
    exact K X hM
  · have h := (if_neg hc7).symm.trans h
    cases h

def p_case_28 (N : Nat) (xs : Nat → Int32) (G : Nat → Nat → Int32) (J : Nat → Nat → Int64) (i : Int32) : Option ((Nat → Nat → Int32) × (Nat → Nat → Int64)) :=
  (p_L_bidder N (jv2 G 0 70 85) (jv2 J 0 70 85) (xs (i + (1 : Int32)).toNatClampNeg)).bind (fun v1 => jlt (jp2 J 0 70 85 1 v1.2) fun J3 => (p_X6_bidder N (jvw G 70) (jvw J3 70) (xs (i + (1 : Int32)).toNatClampNeg)).bind (fun v5 => jlt (jpt G 70 15 v5.2) fun G7 => (p_X6_thrown N (jvw G7 70) (jvw J3 70)).bind (fun v9 => if v9 = v1.1 then (if v1.1 = 0 then (if (lg_cmp (J3 85 0) (v5.1.toInt64)) = 0 then (some (G7, J3)) else (none)) else (some (G7, J3))) else (none))))
set_option maxHeartbeats 4000000 in
set_option maxRecDepth 100000 in
theorem t_case_28 {Tz : jX → Prop} (hT1 : ∀ X ad al, Tz X → Tz (jxa X ad al)) (hT2 : ∀ X, Tz X → Tz (jof X)) {Ln : Nat} {xs : Nat → Int32} {X : jX} {k n : Nat} (hM : jMZ Tz X kL_c28 RL (tbLZ Ln xs) 8 ⟨12, 601024, 7293034, 436⟩ (some .boolean) 94) (hk : k + 40 ≤ 601024) (hn : n + 240 ≤ 7293034) (N : Nat) (G : Nat → Nat → Int32) (J : Nat → Nat → Int64) (i : Int32) (hj1 : jin (i + 1) Ln = true) (hj2 : jin (i + 2) Ln = true) (hj3 : jin (i + 3) Ln = true) (hj4 : jin (i + 4) Ln = true) (hj5 : jin (i + 5) Ln = true) (res : (Nat → Nat → Int32) × (Nat → Nat → Int64)) (h : p_case_28 N xs G J i = some res) (K : ∀ X9, jMZ Tz X9 kL_c28 RL (tbLZ Ln xs) 8 ⟨12, 601024, 7293034, 436⟩ (some .boolean) 94 → JW X9 (k + 40) (n + 240) 2667 [some (.ref 2000000), some (.ref 0), some (.ref 70), some (.ref 85), some (.int i), none, none, none] [] (hLaw res.1 res.2)) : JW X k n 1735 [some (.ref 2000000), some (.ref 0), some (.ref 70), some (.ref 85), some (.int i), none, none, none] [] (hLaw G J) := by
  unfold p_case_28 at h
  refine JW.rZ hM 0 7 (pc2 := 1743) (L2 := [some (.ref 2000000), some (.ref 0), some (.ref 70), some (.ref 85), some (.int i), none, none, none]) (st2 := [.ref 85, .int (xs (i + (1 : Int32)).toNatClampNeg), .ref 0]) (μ2 := (hLaw G J)) rfl ⟨hj1, trivial⟩ ?_
  obtain ⟨v1, hv2, h⟩ := jbd h
  refine JW.cHZ (v := some (.int v1.1)) hM (m_L_bidder (jVX X) hM.1.2.2.2.2.2.2.2.2.2.1 N (jv2 G 0 70 85) (jv2 J 0 70 85) (xs (i + (1 : Int32)).toNatClampNeg) v1 hv2) (sb_Law_W_0_85 G J) (bk_Law_W_0_85 G J (jv2 G 0 70 85) v1.2) rfl rfl rfl kh_L_231 rfl rfl (show k + 1 ≤ 601024 from by omega) (show n + 6 ≤ 7293034 from by omega) rfl (jat hM.2.1 7 rfl) (st := []) rfl ?_
  show JW (jof X) (k + 1) (n + 6) 1746 [some (.ref 2000000), some (.ref 0), some (.ref 70), some (.ref 85), some (.int i), none, none, none] [.int v1.1] (hLaw G (jp2 J 0 70 85 1 v1.2))
  obtain ⟨J3, e4, h⟩ := jlE h
  rw [e4]
  refine JW.rebY (hM.off (hT2 _)) (hT1 _) (B := 94) (Nat.le_of_ble_eq_true rfl) (Nat.le_of_ble_eq_true rfl) rfl rfl rfl ?_
  clear hM
  intro X hM
  refine JW.rZ hM 8 7 (pc2 := 1755) (L2 := [some (.ref 2000000), some (.ref 0), some (.ref 70), some (.ref 85), some (.int i), some (.int v1.1), none, none]) (st2 := [.int (xs (i + (1 : Int32)).toNatClampNeg), .ref 70]) (μ2 := (hLaw G J3)) rfl ⟨hj1, trivial⟩ ?_
  obtain ⟨v5, hv6, h⟩ := jbd h
  refine JW.cVZ (v := some (.int v5.1)) hM (m_X6_bidder (jVX X) hM.1.2.2.2.2.2.2.2.2.2.1 N (jvw G 70) (jvw J3 70) (xs (i + (1 : Int32)).toNatClampNeg) v5 hv6) (sb_Law_Mo_70 G J3) (bk_Law_Mo_70 G J3 v5.2 (jvw J3 70)) rfl rfl rfl kc_L_233 rfl rfl rfl rfl (show k + 1 + 0 ≤ 601024 from by omega) (show n + 6 + 0 ≤ 7293034 from by omega) rfl (jat hM.2.1 15 rfl) (st := []) rfl ?_
  show JW X (k + 1 + 0) (n + 6 + 0) 1758 [some (.ref 2000000), some (.ref 0), some (.ref 70), some (.ref 85), some (.int i), some (.int v1.1), none, none] [.int v5.1] (hLaw (jpt G 70 15 v5.2) J3)
  obtain ⟨G7, e8, h⟩ := jlE h
  rw [e8]
  refine JW.rZ hM 16 2 (pc2 := 1761) (L2 := [some (.ref 2000000), some (.ref 0), some (.ref 70), some (.ref 85), some (.int i), some (.int v1.1), some (.int v5.1), none]) (st2 := [.ref 70]) (μ2 := (hLaw G7 J3)) rfl trivial ?_
  obtain ⟨v9, hv10, h⟩ := jbd h
  refine JW.cVZ (v := some (.int v9)) hM (m_X6_thrown (jVX X) hM.1.2.2.2.2.2.2.2.2.2.1 N (jvw G7 70) (jvw J3 70) v9 hv10) (sb_Law_Mo_70 G7 J3) (bi_Law_Mo_70 G7 J3) rfl rfl rfl kc_L_140 rfl rfl rfl rfl (show k + 1 + 0 + 0 ≤ 601024 from by omega) (show n + 6 + 0 + 0 ≤ 7293034 from by omega) rfl (jat hM.2.1 18 rfl) (st := []) rfl ?_
  show JW X (k + 1 + 0 + 0) (n + 6 + 0 + 0) 1764 [some (.ref 2000000), some (.ref 0), some (.ref 70), some (.ref 85), some (.int i), some (.int v1.1), some (.int v5.1), none] [.int v9] (hLaw G7 J3)
  refine JW.rZ hM 19 1 (pc2 := 1766) (L2 := [some (.ref 2000000), some (.ref 0), some (.ref 70), some (.ref 85), some (.int i), some (.int v1.1), some (.int v5.1), none]) (st2 := [.int v1.1, .int v9]) (μ2 := (hLaw G7 J3)) rfl trivial ?_
  refine js_iceq (t := 1771) hM.1 (jat hM.2.1 20 rfl) rfl (fun hc13 => ?_) (fun hc13 => ?_)
  · have h := (if_pos hc13).symm.trans h
    refine JW.rZ hM 23 1 (pc2 := 1773) (L2 := [some (.ref 2000000), some (.ref 0), some (.ref 70), some (.ref 85), some (.int i), some (.int v1.1), some (.int v5.1), none]) (st2 := [.int v1.1]) (μ2 := (hLaw G7 J3)) rfl trivial ?_
    refine js_ifne (t := 1788) hM.1 (jat hM.2.1 24 rfl) rfl (fun hc12 => ?_) (fun hc12 => ?_)
    · have h := (if_neg hc12).symm.trans h
      refine JW.rZ hM 34 1 (pc2 := 2667) (L2 := [some (.ref 2000000), some (.ref 0), some (.ref 70), some (.ref 85), some (.int i), some (.int v1.1), some (.int v5.1), none]) (st2 := []) (μ2 := (hLaw G7 J3)) rfl trivial ?_
      obtain rfl := Option.some.inj h
      refine JW.widen (k2 := k + 40) (n2 := n + 240) (by omega) (by omega) (JW.mask [true, true, true, true, true, false, false, false] ?_)
      exact K X hM
    · have h := (if_pos hc12).symm.trans h
      refine JW.rZ hM 25 6 (pc2 := 1783) (L2 := [some (.ref 2000000), some (.ref 0), some (.ref 70), some (.ref 85), some (.int i), some (.int v1.1), some (.int v5.1), none]) (st2 := [.int (lg_cmp (J3 85 0) (v5.1.toInt64))]) (μ2 := (hLaw G7 J3)) rfl ⟨rfl, trivial⟩ ?_
      refine js_ifeq (t := 1788) hM.1 (jat hM.2.1 31 rfl) rfl (fun hc11 => ?_) (fun hc11 => ?_)
      · have h := (if_pos hc11).symm.trans h
        refine JW.rZ hM 34 1 (pc2 := 2667) (L2 := [some (.ref 2000000), some (.ref 0), some (.ref 70), some (.ref 85), some (.int i), some (.int v1.1), some (.int v5.1), none]) (st2 := []) (μ2 := (hLaw G7 J3)) rfl trivial ?_
        obtain rfl := Option.some.inj h
        refine JW.widen (k2 := k + 40) (n2 := n + 240) (by omega) (by omega) (JW.mask [true, true, true, true, true, false, false, false] ?_)
        exact K X hM
      · have h := (if_neg hc11).symm.trans h
        cases h
  · have h := (if_neg hc13).symm.trans h
    cases h

def p_case_29 (N : Nat) (xs : Nat → Int32) (G : Nat → Nat → Int32) (J : Nat → Nat → Int64) (i : Int32) : Option ((Nat → Nat → Int32) × (Nat → Nat → Int64)) :=
  (p_L_keeper N (jv2 G 0 70 85) (jv2 J 0 70 85) (xs (i + (1 : Int32)).toNatClampNeg) (xs (i + (2 : Int32)).toNatClampNeg)).bind (fun v1 => jlt (jp2 G 0 70 85 1 v1.2.1) fun G3 => jlt (jp2 J 0 70 85 1 v1.2.2) fun J5 => (p_X6_keeper N (jvw G3 70) (jvw J5 70) (xs (i + (1 : Int32)).toNatClampNeg) (xs (i + (2 : Int32)).toNatClampNeg)).bind (fun v7 => jlt (jpt G3 70 15 v7.2) fun G9 => (p_X6_thrown N (jvw G9 70) (jvw J5 70)).bind (fun v11 => if v11 = v1.1 then (if v1.1 = 0 then (if (lg_cmp (J5 85 0) (v7.1.toInt64)) = 0 then (some (G9, J5)) else (none)) else (some (G9, J5))) else (none))))
set_option maxHeartbeats 4000000 in
set_option maxRecDepth 100000 in
theorem t_case_29 {Tz : jX → Prop} (hT1 : ∀ X ad al, Tz X → Tz (jxa X ad al)) (hT2 : ∀ X, Tz X → Tz (jof X)) {Ln : Nat} {xs : Nat → Int32} {X : jX} {k n : Nat} (hM : jMZ Tz X kL_c29 RL (tbLZ Ln xs) 8 ⟨12, 601024, 7293034, 436⟩ (some .boolean) 94) (hk : k + 40 ≤ 601024) (hn : n + 240 ≤ 7293034) (N : Nat) (G : Nat → Nat → Int32) (J : Nat → Nat → Int64) (i : Int32) (hj1 : jin (i + 1) Ln = true) (hj2 : jin (i + 2) Ln = true) (hj3 : jin (i + 3) Ln = true) (hj4 : jin (i + 4) Ln = true) (hj5 : jin (i + 5) Ln = true) (res : (Nat → Nat → Int32) × (Nat → Nat → Int64)) (h : p_case_29 N xs G J i = some res) (K : ∀ X9, jMZ Tz X9 kL_c29 RL (tbLZ Ln xs) 8 ⟨12, 601024, 7293034, 436⟩ (some .boolean) 94 → JW X9 (k + 40) (n + 240) 2667 [some (.ref 2000000), some (.ref 0), some (.ref 70), some (.ref 85), some (.int i), none, none, none] [] (hLaw res.1 res.2)) : JW X k n 1791 [some (.ref 2000000), some (.ref 0), some (.ref 70), some (.ref 85), some (.int i), none, none, none] [] (hLaw G J) := by
  unfold p_case_29 at h
  refine JW.rZ hM 0 12 (pc2 := 1805) (L2 := [some (.ref 2000000), some (.ref 0), some (.ref 70), some (.ref 85), some (.int i), none, none, none]) (st2 := [.ref 85, .int (xs (i + (2 : Int32)).toNatClampNeg), .int (xs (i + (1 : Int32)).toNatClampNeg), .ref 0]) (μ2 := (hLaw G J)) rfl ⟨hj1, hj2, trivial⟩ ?_
  obtain ⟨v1, hv2, h⟩ := jbd h
  refine JW.cHZ (v := some (.int v1.1)) hM (m_L_keeper (jVX X) hM.1.2.2.2.2.2.2.2.2.2.1 N (jv2 G 0 70 85) (jv2 J 0 70 85) (xs (i + (1 : Int32)).toNatClampNeg) (xs (i + (2 : Int32)).toNatClampNeg) v1 hv2) (sb_Law_W_0_85 G J) (bk_Law_W_0_85 G J v1.2.1 v1.2.2) rfl rfl rfl kh_L_234 rfl rfl (show k + 2 ≤ 601024 from by omega) (show n + 12 ≤ 7293034 from by omega) rfl (jat hM.2.1 12 rfl) (st := []) rfl ?_
  show JW (jof X) (k + 2) (n + 12) 1808 [some (.ref 2000000), some (.ref 0), some (.ref 70), some (.ref 85), some (.int i), none, none, none] [.int v1.1] (hLaw (jp2 G 0 70 85 1 v1.2.1) (jp2 J 0 70 85 1 v1.2.2))
  obtain ⟨G3, e4, h⟩ := jlE h
  rw [e4]
  obtain ⟨J5, e6, h⟩ := jlE h
  rw [e6]
  refine JW.rebY (hM.off (hT2 _)) (hT1 _) (B := 94) (Nat.le_of_ble_eq_true rfl) (Nat.le_of_ble_eq_true rfl) rfl rfl rfl ?_
  clear hM
  intro X hM
  refine JW.rZ hM 13 12 (pc2 := 1823) (L2 := [some (.ref 2000000), some (.ref 0), some (.ref 70), some (.ref 85), some (.int i), some (.int v1.1), none, none]) (st2 := [.int (xs (i + (2 : Int32)).toNatClampNeg), .int (xs (i + (1 : Int32)).toNatClampNeg), .ref 70]) (μ2 := (hLaw G3 J5)) rfl ⟨hj1, hj2, trivial⟩ ?_
  obtain ⟨v7, hv8, h⟩ := jbd h
  refine JW.cVZ (v := some (.int v7.1)) hM (m_X6_keeper (jVX X) hM.1.2.2.2.2.2.2.2.2.2.1 N (jvw G3 70) (jvw J5 70) (xs (i + (1 : Int32)).toNatClampNeg) (xs (i + (2 : Int32)).toNatClampNeg) v7 hv8) (sb_Law_Mo_70 G3 J5) (bk_Law_Mo_70 G3 J5 v7.2 (jvw J5 70)) rfl rfl rfl kc_L_236 rfl rfl rfl rfl (show k + 2 + 0 ≤ 601024 from by omega) (show n + 12 + 0 ≤ 7293034 from by omega) rfl (jat hM.2.1 25 rfl) (st := []) rfl ?_
  show JW X (k + 2 + 0) (n + 12 + 0) 1826 [some (.ref 2000000), some (.ref 0), some (.ref 70), some (.ref 85), some (.int i), some (.int v1.1), none, none] [.int v7.1] (hLaw (jpt G3 70 15 v7.2) J5)
  obtain ⟨G9, e10, h⟩ := jlE h
  rw [e10]
  refine JW.rZ hM 26 2 (pc2 := 1829) (L2 := [some (.ref 2000000), some (.ref 0), some (.ref 70), some (.ref 85), some (.int i), some (.int v1.1), some (.int v7.1), none]) (st2 := [.ref 70]) (μ2 := (hLaw G9 J5)) rfl trivial ?_
  obtain ⟨v11, hv12, h⟩ := jbd h
  refine JW.cVZ (v := some (.int v11)) hM (m_X6_thrown (jVX X) hM.1.2.2.2.2.2.2.2.2.2.1 N (jvw G9 70) (jvw J5 70) v11 hv12) (sb_Law_Mo_70 G9 J5) (bi_Law_Mo_70 G9 J5) rfl rfl rfl kc_L_140 rfl rfl rfl rfl (show k + 2 + 0 + 0 ≤ 601024 from by omega) (show n + 12 + 0 + 0 ≤ 7293034 from by omega) rfl (jat hM.2.1 28 rfl) (st := []) rfl ?_
  show JW X (k + 2 + 0 + 0) (n + 12 + 0 + 0) 1832 [some (.ref 2000000), some (.ref 0), some (.ref 70), some (.ref 85), some (.int i), some (.int v1.1), some (.int v7.1), none] [.int v11] (hLaw G9 J5)
  refine JW.rZ hM 29 1 (pc2 := 1834) (L2 := [some (.ref 2000000), some (.ref 0), some (.ref 70), some (.ref 85), some (.int i), some (.int v1.1), some (.int v7.1), none]) (st2 := [.int v1.1, .int v11]) (μ2 := (hLaw G9 J5)) rfl trivial ?_
  refine js_iceq (t := 1839) hM.1 (jat hM.2.1 30 rfl) rfl (fun hc15 => ?_) (fun hc15 => ?_)
  · have h := (if_pos hc15).symm.trans h
    refine JW.rZ hM 33 1 (pc2 := 1841) (L2 := [some (.ref 2000000), some (.ref 0), some (.ref 70), some (.ref 85), some (.int i), some (.int v1.1), some (.int v7.1), none]) (st2 := [.int v1.1]) (μ2 := (hLaw G9 J5)) rfl trivial ?_
    refine js_ifne (t := 1856) hM.1 (jat hM.2.1 34 rfl) rfl (fun hc14 => ?_) (fun hc14 => ?_)
    · have h := (if_neg hc14).symm.trans h
      refine JW.rZ hM 44 1 (pc2 := 2667) (L2 := [some (.ref 2000000), some (.ref 0), some (.ref 70), some (.ref 85), some (.int i), some (.int v1.1), some (.int v7.1), none]) (st2 := []) (μ2 := (hLaw G9 J5)) rfl trivial ?_
      obtain rfl := Option.some.inj h
      refine JW.widen (k2 := k + 40) (n2 := n + 240) (by omega) (by omega) (JW.mask [true, true, true, true, true, false, false, false] ?_)
      exact K X hM
    · have h := (if_pos hc14).symm.trans h
      refine JW.rZ hM 35 6 (pc2 := 1851) (L2 := [some (.ref 2000000), some (.ref 0), some (.ref 70), some (.ref 85), some (.int i), some (.int v1.1), some (.int v7.1), none]) (st2 := [.int (lg_cmp (J5 85 0) (v7.1.toInt64))]) (μ2 := (hLaw G9 J5)) rfl ⟨rfl, trivial⟩ ?_
      refine js_ifeq (t := 1856) hM.1 (jat hM.2.1 41 rfl) rfl (fun hc13 => ?_) (fun hc13 => ?_)
      · have h := (if_pos hc13).symm.trans h
        refine JW.rZ hM 44 1 (pc2 := 2667) (L2 := [some (.ref 2000000), some (.ref 0), some (.ref 70), some (.ref 85), some (.int i), some (.int v1.1), some (.int v7.1), none]) (st2 := []) (μ2 := (hLaw G9 J5)) rfl trivial ?_
        obtain rfl := Option.some.inj h
        refine JW.widen (k2 := k + 40) (n2 := n + 240) (by omega) (by omega) (JW.mask [true, true, true, true, true, false, false, false] ?_)
        exact K X hM
      · have h := (if_neg hc13).symm.trans h
        cases h
  · have h := (if_neg hc15).symm.trans h
    cases h

def p_case_30 (N : Nat) (xs : Nat → Int32) (G : Nat → Nat → Int32) (J : Nat → Nat → Int64) (i : Int32) : Option ((Nat → Nat → Int32) × (Nat → Nat → Int64)) :=
  (p_L_endFrom N (jv2 G 0 70 85) (jv2 J 0 70 85) (xs (i + (1 : Int32)).toNatClampNeg)).bind (fun v1 => jlt (jp2 G 0 70 85 1 v1.2.1) fun G3 => jlt (jp2 J 0 70 85 1 v1.2.2) fun J5 => (p_X6_endFrom N (jvw G3 70) (jvw J5 70) (xs (i + (1 : Int32)).toNatClampNeg)).bind (fun v7 => jlt (jpt G3 70 15 v7.2) fun G9 => (p_X6_thrown N (jvw G9 70) (jvw J5 70)).bind (fun v11 => if v11 = v1.1 then (if v1.1 = 0 then (if (lg_cmp (J5 85 0) (v7.1.toInt64)) = 0 then (some (G9, J5)) else (none)) else (some (G9, J5))) else (none))))
set_option maxHeartbeats 4000000 in
set_option maxRecDepth 100000 in
theorem t_case_30 {Tz : jX → Prop} (hT1 : ∀ X ad al, Tz X → Tz (jxa X ad al)) (hT2 : ∀ X, Tz X → Tz (jof X)) {Ln : Nat} {xs : Nat → Int32} {X : jX} {k n : Nat} (hM : jMZ Tz X kL_c30 RL (tbLZ Ln xs) 8 ⟨12, 601024, 7293034, 436⟩ (some .boolean) 94) (hk : k + 40 ≤ 601024) (hn : n + 240 ≤ 7293034) (N : Nat) (G : Nat → Nat → Int32) (J : Nat → Nat → Int64) (i : Int32) (hj1 : jin (i + 1) Ln = true) (hj2 : jin (i + 2) Ln = true) (hj3 : jin (i + 3) Ln = true) (hj4 : jin (i + 4) Ln = true) (hj5 : jin (i + 5) Ln = true) (res : (Nat → Nat → Int32) × (Nat → Nat → Int64)) (h : p_case_30 N xs G J i = some res) (K : ∀ X9, jMZ Tz X9 kL_c30 RL (tbLZ Ln xs) 8 ⟨12, 601024, 7293034, 436⟩ (some .boolean) 94 → JW X9 (k + 40) (n + 240) 2667 [some (.ref 2000000), some (.ref 0), some (.ref 70), some (.ref 85), some (.int i), none, none, none] [] (hLaw res.1 res.2)) : JW X k n 1859 [some (.ref 2000000), some (.ref 0), some (.ref 70), some (.ref 85), some (.int i), none, none, none] [] (hLaw G J) := by
  unfold p_case_30 at h
  refine JW.rZ hM 0 7 (pc2 := 1867) (L2 := [some (.ref 2000000), some (.ref 0), some (.ref 70), some (.ref 85), some (.int i), none, none, none]) (st2 := [.ref 85, .int (xs (i + (1 : Int32)).toNatClampNeg), .ref 0]) (μ2 := (hLaw G J)) rfl ⟨hj1, trivial⟩ ?_
  obtain ⟨v1, hv2, h⟩ := jbd h
  refine JW.cHZ (v := some (.int v1.1)) hM (m_L_endFrom (jVX X) hM.1.2.2.2.2.2.2.2.2.2.1 N (jv2 G 0 70 85) (jv2 J 0 70 85) (xs (i + (1 : Int32)).toNatClampNeg) v1 hv2) (sb_Law_W_0_85 G J) (bk_Law_W_0_85 G J v1.2.1 v1.2.2) rfl rfl rfl kh_L_237 rfl rfl (show k + 1 ≤ 601024 from by omega) (show n + 6 ≤ 7293034 from by omega) rfl (jat hM.2.1 7 rfl) (st := []) rfl ?_
  show JW (jof X) (k + 1) (n + 6) 1870 [some (.ref 2000000), some (.ref 0), some (.ref 70), some (.ref 85), some (.int i), none, none, none] [.int v1.1] (hLaw (jp2 G 0 70 85 1 v1.2.1) (jp2 J 0 70 85 1 v1.2.2))
  obtain ⟨G3, e4, h⟩ := jlE h
  rw [e4]
  obtain ⟨J5, e6, h⟩ := jlE h
  rw [e6]
  refine JW.rebY (hM.off (hT2 _)) (hT1 _) (B := 94) (Nat.le_of_ble_eq_true rfl) (Nat.le_of_ble_eq_true rfl) rfl rfl rfl ?_
  clear hM
  intro X hM
  refine JW.rZ hM 8 7 (pc2 := 1879) (L2 := [some (.ref 2000000), some (.ref 0), some (.ref 70), some (.ref 85), some (.int i), some (.int v1.1), none, none]) (st2 := [.int (xs (i + (1 : Int32)).toNatClampNeg), .ref 70]) (μ2 := (hLaw G3 J5)) rfl ⟨hj1, trivial⟩ ?_
  obtain ⟨v7, hv8, h⟩ := jbd h
  refine JW.cVZ (v := some (.int v7.1)) hM (m_X6_endFrom (jVX X) hM.1.2.2.2.2.2.2.2.2.2.1 N (jvw G3 70) (jvw J5 70) (xs (i + (1 : Int32)).toNatClampNeg) v7 hv8) (sb_Law_Mo_70 G3 J5) (bk_Law_Mo_70 G3 J5 v7.2 (jvw J5 70)) rfl rfl rfl kc_L_239 rfl rfl rfl rfl (show k + 1 + 0 ≤ 601024 from by omega) (show n + 6 + 0 ≤ 7293034 from by omega) rfl (jat hM.2.1 15 rfl) (st := []) rfl ?_
  show JW X (k + 1 + 0) (n + 6 + 0) 1882 [some (.ref 2000000), some (.ref 0), some (.ref 70), some (.ref 85), some (.int i), some (.int v1.1), none, none] [.int v7.1] (hLaw (jpt G3 70 15 v7.2) J5)
  obtain ⟨G9, e10, h⟩ := jlE h
  rw [e10]
  refine JW.rZ hM 16 2 (pc2 := 1885) (L2 := [some (.ref 2000000), some (.ref 0), some (.ref 70), some (.ref 85), some (.int i), some (.int v1.1), some (.int v7.1), none]) (st2 := [.ref 70]) (μ2 := (hLaw G9 J5)) rfl trivial ?_
  obtain ⟨v11, hv12, h⟩ := jbd h
  refine JW.cVZ (v := some (.int v11)) hM (m_X6_thrown (jVX X) hM.1.2.2.2.2.2.2.2.2.2.1 N (jvw G9 70) (jvw J5 70) v11 hv12) (sb_Law_Mo_70 G9 J5) (bi_Law_Mo_70 G9 J5) rfl rfl rfl kc_L_140 rfl rfl rfl rfl (show k + 1 + 0 + 0 ≤ 601024 from by omega) (show n + 6 + 0 + 0 ≤ 7293034 from by omega) rfl (jat hM.2.1 18 rfl) (st := []) rfl ?_
  show JW X (k + 1 + 0 + 0) (n + 6 + 0 + 0) 1888 [some (.ref 2000000), some (.ref 0), some (.ref 70), some (.ref 85), some (.int i), some (.int v1.1), some (.int v7.1), none] [.int v11] (hLaw G9 J5)
  refine JW.rZ hM 19 1 (pc2 := 1890) (L2 := [some (.ref 2000000), some (.ref 0), some (.ref 70), some (.ref 85), some (.int i), some (.int v1.1), some (.int v7.1), none]) (st2 := [.int v1.1, .int v11]) (μ2 := (hLaw G9 J5)) rfl trivial ?_
  refine js_iceq (t := 1895) hM.1 (jat hM.2.1 20 rfl) rfl (fun hc15 => ?_) (fun hc15 => ?_)
  · have h := (if_pos hc15).symm.trans h
    refine JW.rZ hM 23 1 (pc2 := 1897) (L2 := [some (.ref 2000000), some (.ref 0), some (.ref 70), some (.ref 85), some (.int i), some (.int v1.1), some (.int v7.1), none]) (st2 := [.int v1.1]) (μ2 := (hLaw G9 J5)) rfl trivial ?_
    refine js_ifne (t := 1912) hM.1 (jat hM.2.1 24 rfl) rfl (fun hc14 => ?_) (fun hc14 => ?_)
    · have h := (if_neg hc14).symm.trans h
      refine JW.rZ hM 34 1 (pc2 := 2667) (L2 := [some (.ref 2000000), some (.ref 0), some (.ref 70), some (.ref 85), some (.int i), some (.int v1.1), some (.int v7.1), none]) (st2 := []) (μ2 := (hLaw G9 J5)) rfl trivial ?_
      obtain rfl := Option.some.inj h
      refine JW.widen (k2 := k + 40) (n2 := n + 240) (by omega) (by omega) (JW.mask [true, true, true, true, true, false, false, false] ?_)
      exact K X hM
    · have h := (if_pos hc14).symm.trans h
      refine JW.rZ hM 25 6 (pc2 := 1907) (L2 := [some (.ref 2000000), some (.ref 0), some (.ref 70), some (.ref 85), some (.int i), some (.int v1.1), some (.int v7.1), none]) (st2 := [.int (lg_cmp (J5 85 0) (v7.1.toInt64))]) (μ2 := (hLaw G9 J5)) rfl ⟨rfl, trivial⟩ ?_
      refine js_ifeq (t := 1912) hM.1 (jat hM.2.1 31 rfl) rfl (fun hc13 => ?_) (fun hc13 => ?_)
      · have h := (if_pos hc13).symm.trans h
        refine JW.rZ hM 34 1 (pc2 := 2667) (L2 := [some (.ref 2000000), some (.ref 0), some (.ref 70), some (.ref 85), some (.int i), some (.int v1.1), some (.int v7.1), none]) (st2 := []) (μ2 := (hLaw G9 J5)) rfl trivial ?_
        obtain rfl := Option.some.inj h
        refine JW.widen (k2 := k + 40) (n2 := n + 240) (by omega) (by omega) (JW.mask [true, true, true, true, true, false, false, false] ?_)
        exact K X hM
      · have h := (if_neg hc13).symm.trans h
        cases h
  · have h := (if_neg hc15).symm.trans h
    cases h

def p_case_31 (N : Nat) (xs : Nat → Int32) (G : Nat → Nat → Int32) (J : Nat → Nat → Int64) (i : Int32) : Option ((Nat → Nat → Int32) × (Nat → Nat → Int64)) :=
  (p_L_end N (jv2 G 0 70 85) (jv2 J 0 70 85) (xs (i + (1 : Int32)).toNatClampNeg) (xs (i + (2 : Int32)).toNatClampNeg)).bind (fun v1 => jlt (jp2 G 0 70 85 1 v1.2.1) fun G3 => jlt (jp2 J 0 70 85 1 v1.2.2) fun J5 => (p_X6_end N (jvw G3 70) (jvw J5 70) (xs (i + (1 : Int32)).toNatClampNeg) (xs (i + (2 : Int32)).toNatClampNeg)).bind (fun v7 => jlt (jpt G3 70 15 v7.2) fun G9 => (p_X6_thrown N (jvw G9 70) (jvw J5 70)).bind (fun v11 => if v11 = v1.1 then (if v1.1 = 0 then (if (lg_cmp (J5 85 0) (v7.1.toInt64)) = 0 then (some (G9, J5)) else (none)) else (some (G9, J5))) else (none))))
set_option maxHeartbeats 4000000 in
set_option maxRecDepth 100000 in
theorem t_case_31 {Tz : jX → Prop} (hT1 : ∀ X ad al, Tz X → Tz (jxa X ad al)) (hT2 : ∀ X, Tz X → Tz (jof X)) {Ln : Nat} {xs : Nat → Int32} {X : jX} {k n : Nat} (hM : jMZ Tz X kL_c31 RL (tbLZ Ln xs) 8 ⟨12, 601024, 7293034, 436⟩ (some .boolean) 94) (hk : k + 40 ≤ 601024) (hn : n + 240 ≤ 7293034) (N : Nat) (G : Nat → Nat → Int32) (J : Nat → Nat → Int64) (i : Int32) (hj1 : jin (i + 1) Ln = true) (hj2 : jin (i + 2) Ln = true) (hj3 : jin (i + 3) Ln = true) (hj4 : jin (i + 4) Ln = true) (hj5 : jin (i + 5) Ln = true) (res : (Nat → Nat → Int32) × (Nat → Nat → Int64)) (h : p_case_31 N xs G J i = some res) (K : ∀ X9, jMZ Tz X9 kL_c31 RL (tbLZ Ln xs) 8 ⟨12, 601024, 7293034, 436⟩ (some .boolean) 94 → JW X9 (k + 40) (n + 240) 2667 [some (.ref 2000000), some (.ref 0), some (.ref 70), some (.ref 85), some (.int i), none, none, none] [] (hLaw res.1 res.2)) : JW X k n 1915 [some (.ref 2000000), some (.ref 0), some (.ref 70), some (.ref 85), some (.int i), none, none, none] [] (hLaw G J) := by
  unfold p_case_31 at h
  refine JW.rZ hM 0 12 (pc2 := 1929) (L2 := [some (.ref 2000000), some (.ref 0), some (.ref 70), some (.ref 85), some (.int i), none, none, none]) (st2 := [.ref 85, .int (xs (i + (2 : Int32)).toNatClampNeg), .int (xs (i + (1 : Int32)).toNatClampNeg), .ref 0]) (μ2 := (hLaw G J)) rfl ⟨hj1, hj2, trivial⟩ ?_
  obtain ⟨v1, hv2, h⟩ := jbd h
  refine JW.cHZ (v := some (.int v1.1)) hM (m_L_end (jVX X) hM.1.2.2.2.2.2.2.2.2.2.1 N (jv2 G 0 70 85) (jv2 J 0 70 85) (xs (i + (1 : Int32)).toNatClampNeg) (xs (i + (2 : Int32)).toNatClampNeg) v1 hv2) (sb_Law_W_0_85 G J) (bk_Law_W_0_85 G J v1.2.1 v1.2.2) rfl rfl rfl kh_L_240 rfl rfl (show k + 2 ≤ 601024 from by omega) (show n + 12 ≤ 7293034 from by omega) rfl (jat hM.2.1 12 rfl) (st := []) rfl ?_
  show JW (jof X) (k + 2) (n + 12) 1932 [some (.ref 2000000), some (.ref 0), some (.ref 70), some (.ref 85), some (.int i), none, none, none] [.int v1.1] (hLaw (jp2 G 0 70 85 1 v1.2.1) (jp2 J 0 70 85 1 v1.2.2))
  obtain ⟨G3, e4, h⟩ := jlE h
  rw [e4]
  obtain ⟨J5, e6, h⟩ := jlE h
  rw [e6]
  refine JW.rebY (hM.off (hT2 _)) (hT1 _) (B := 94) (Nat.le_of_ble_eq_true rfl) (Nat.le_of_ble_eq_true rfl) rfl rfl rfl ?_
  clear hM
  intro X hM
  refine JW.rZ hM 13 12 (pc2 := 1947) (L2 := [some (.ref 2000000), some (.ref 0), some (.ref 70), some (.ref 85), some (.int i), some (.int v1.1), none, none]) (st2 := [.int (xs (i + (2 : Int32)).toNatClampNeg), .int (xs (i + (1 : Int32)).toNatClampNeg), .ref 70]) (μ2 := (hLaw G3 J5)) rfl ⟨hj1, hj2, trivial⟩ ?_
  obtain ⟨v7, hv8, h⟩ := jbd h
  refine JW.cVZ (v := some (.int v7.1)) hM (m_X6_end (jVX X) hM.1.2.2.2.2.2.2.2.2.2.1 N (jvw G3 70) (jvw J5 70) (xs (i + (1 : Int32)).toNatClampNeg) (xs (i + (2 : Int32)).toNatClampNeg) v7 hv8) (sb_Law_Mo_70 G3 J5) (bk_Law_Mo_70 G3 J5 v7.2 (jvw J5 70)) rfl rfl rfl kc_L_242 rfl rfl rfl rfl (show k + 2 + 0 ≤ 601024 from by omega) (show n + 12 + 0 ≤ 7293034 from by omega) rfl (jat hM.2.1 25 rfl) (st := []) rfl ?_
  show JW X (k + 2 + 0) (n + 12 + 0) 1950 [some (.ref 2000000), some (.ref 0), some (.ref 70), some (.ref 85), some (.int i), some (.int v1.1), none, none] [.int v7.1] (hLaw (jpt G3 70 15 v7.2) J5)
  obtain ⟨G9, e10, h⟩ := jlE h
  rw [e10]
  refine JW.rZ hM 26 2 (pc2 := 1953) (L2 := [some (.ref 2000000), some (.ref 0), some (.ref 70), some (.ref 85), some (.int i), some (.int v1.1), some (.int v7.1), none]) (st2 := [.ref 70]) (μ2 := (hLaw G9 J5)) rfl trivial ?_
  obtain ⟨v11, hv12, h⟩ := jbd h
  refine JW.cVZ (v := some (.int v11)) hM (m_X6_thrown (jVX X) hM.1.2.2.2.2.2.2.2.2.2.1 N (jvw G9 70) (jvw J5 70) v11 hv12) (sb_Law_Mo_70 G9 J5) (bi_Law_Mo_70 G9 J5) rfl rfl rfl kc_L_140 rfl rfl rfl rfl (show k + 2 + 0 + 0 ≤ 601024 from by omega) (show n + 12 + 0 + 0 ≤ 7293034 from by omega) rfl (jat hM.2.1 28 rfl) (st := []) rfl ?_
  show JW X (k + 2 + 0 + 0) (n + 12 + 0 + 0) 1956 [some (.ref 2000000), some (.ref 0), some (.ref 70), some (.ref 85), some (.int i), some (.int v1.1), some (.int v7.1), none] [.int v11] (hLaw G9 J5)
  refine JW.rZ hM 29 1 (pc2 := 1958) (L2 := [some (.ref 2000000), some (.ref 0), some (.ref 70), some (.ref 85), some (.int i), some (.int v1.1), some (.int v7.1), none]) (st2 := [.int v1.1, .int v11]) (μ2 := (hLaw G9 J5)) rfl trivial ?_
  refine js_iceq (t := 1963) hM.1 (jat hM.2.1 30 rfl) rfl (fun hc15 => ?_) (fun hc15 => ?_)
  · have h := (if_pos hc15).symm.trans h
    refine JW.rZ hM 33 1 (pc2 := 1965) (L2 := [some (.ref 2000000), some (.ref 0), some (.ref 70), some (.ref 85), some (.int i), some (.int v1.1), some (.int v7.1), none]) (st2 := [.int v1.1]) (μ2 := (hLaw G9 J5)) rfl trivial ?_
    refine js_ifne (t := 1980) hM.1 (jat hM.2.1 34 rfl) rfl (fun hc14 => ?_) (fun hc14 => ?_)
    · have h := (if_neg hc14).symm.trans h
      refine JW.rZ hM 44 1 (pc2 := 2667) (L2 := [some (.ref 2000000), some (.ref 0), some (.ref 70), some (.ref 85), some (.int i), some (.int v1.1), some (.int v7.1), none]) (st2 := []) (μ2 := (hLaw G9 J5)) rfl trivial ?_
      obtain rfl := Option.some.inj h
      refine JW.widen (k2 := k + 40) (n2 := n + 240) (by omega) (by omega) (JW.mask [true, true, true, true, true, false, false, false] ?_)
      exact K X hM
    · have h := (if_pos hc14).symm.trans h
      refine JW.rZ hM 35 6 (pc2 := 1975) (L2 := [some (.ref 2000000), some (.ref 0), some (.ref 70), some (.ref 85), some (.int i), some (.int v1.1), some (.int v7.1), none]) (st2 := [.int (lg_cmp (J5 85 0) (v7.1.toInt64))]) (μ2 := (hLaw G9 J5)) rfl ⟨rfl, trivial⟩ ?_
      refine js_ifeq (t := 1980) hM.1 (jat hM.2.1 41 rfl) rfl (fun hc13 => ?_) (fun hc13 => ?_)
      · have h := (if_pos hc13).symm.trans h
        refine JW.rZ hM 44 1 (pc2 := 2667) (L2 := [some (.ref 2000000), some (.ref 0), some (.ref 70), some (.ref 85), some (.int i), some (.int v1.1), some (.int v7.1), none]) (st2 := []) (μ2 := (hLaw G9 J5)) rfl trivial ?_
        obtain rfl := Option.some.inj h
        refine JW.widen (k2 := k + 40) (n2 := n + 240) (by omega) (by omega) (JW.mask [true, true, true, true, true, false, false, false] ?_)
        exact K X hM
      · have h := (if_neg hc13).symm.trans h
        cases h
  · have h := (if_neg hc15).symm.trans h
    cases h

def p_case_32 (N : Nat) (xs : Nat → Int32) (G : Nat → Nat → Int32) (J : Nat → Nat → Int64) (i : Int32) : Option ((Nat → Nat → Int32) × (Nat → Nat → Int64)) :=
  (p_L_ringer N (jv2 G 0 70 85) (jv2 J 0 70 85) (xs (i + (1 : Int32)).toNatClampNeg)).bind (fun v1 => jlt (jp2 G 0 70 85 1 v1.2.1) fun G3 => jlt (jp2 J 0 70 85 1 v1.2.2) fun J5 => (p_X6_ringer N (jvw G3 70) (jvw J5 70) (xs (i + (1 : Int32)).toNatClampNeg)).bind (fun v7 => jlt (jpt G3 70 15 v7.2) fun G9 => (p_X6_thrown N (jvw G9 70) (jvw J5 70)).bind (fun v11 => if v11 = v1.1 then (if v1.1 = 0 then (if (lg_cmp (J5 85 0) (v7.1.toInt64)) = 0 then (some (G9, J5)) else (none)) else (some (G9, J5))) else (none))))
set_option maxHeartbeats 4000000 in
set_option maxRecDepth 100000 in
theorem t_case_32 {Tz : jX → Prop} (hT1 : ∀ X ad al, Tz X → Tz (jxa X ad al)) (hT2 : ∀ X, Tz X → Tz (jof X)) {Ln : Nat} {xs : Nat → Int32} {X : jX} {k n : Nat} (hM : jMZ Tz X kL_c32 RL (tbLZ Ln xs) 8 ⟨12, 601024, 7293034, 436⟩ (some .boolean) 94) (hk : k + 40 ≤ 601024) (hn : n + 240 ≤ 7293034) (N : Nat) (G : Nat → Nat → Int32) (J : Nat → Nat → Int64) (i : Int32) (hj1 : jin (i + 1) Ln = true) (hj2 : jin (i + 2) Ln = true) (hj3 : jin (i + 3) Ln = true) (hj4 : jin (i + 4) Ln = true) (hj5 : jin (i + 5) Ln = true) (res : (Nat → Nat → Int32) × (Nat → Nat → Int64)) (h : p_case_32 N xs G J i = some res) (K : ∀ X9, jMZ Tz X9 kL_c32 RL (tbLZ Ln xs) 8 ⟨12, 601024, 7293034, 436⟩ (some .boolean) 94 → JW X9 (k + 40) (n + 240) 2667 [some (.ref 2000000), some (.ref 0), some (.ref 70), some (.ref 85), some (.int i), none, none, none] [] (hLaw res.1 res.2)) : JW X k n 1983 [some (.ref 2000000), some (.ref 0), some (.ref 70), some (.ref 85), some (.int i), none, none, none] [] (hLaw G J) := by
  unfold p_case_32 at h
  refine JW.rZ hM 0 7 (pc2 := 1991) (L2 := [some (.ref 2000000), some (.ref 0), some (.ref 70), some (.ref 85), some (.int i), none, none, none]) (st2 := [.ref 85, .int (xs (i + (1 : Int32)).toNatClampNeg), .ref 0]) (μ2 := (hLaw G J)) rfl ⟨hj1, trivial⟩ ?_
  obtain ⟨v1, hv2, h⟩ := jbd h
  refine JW.cHZ (v := some (.int v1.1)) hM (m_L_ringer (jVX X) hM.1.2.2.2.2.2.2.2.2.2.1 N (jv2 G 0 70 85) (jv2 J 0 70 85) (xs (i + (1 : Int32)).toNatClampNeg) v1 hv2) (sb_Law_W_0_85 G J) (bk_Law_W_0_85 G J v1.2.1 v1.2.2) rfl rfl rfl kh_L_243 rfl rfl (show k + 1 ≤ 601024 from by omega) (show n + 6 ≤ 7293034 from by omega) rfl (jat hM.2.1 7 rfl) (st := []) rfl ?_
  show JW (jof X) (k + 1) (n + 6) 1994 [some (.ref 2000000), some (.ref 0), some (.ref 70), some (.ref 85), some (.int i), none, none, none] [.int v1.1] (hLaw (jp2 G 0 70 85 1 v1.2.1) (jp2 J 0 70 85 1 v1.2.2))
  obtain ⟨G3, e4, h⟩ := jlE h
  rw [e4]
  obtain ⟨J5, e6, h⟩ := jlE h
  rw [e6]
  refine JW.rebY (hM.off (hT2 _)) (hT1 _) (B := 94) (Nat.le_of_ble_eq_true rfl) (Nat.le_of_ble_eq_true rfl) rfl rfl rfl ?_
  clear hM
  intro X hM
  refine JW.rZ hM 8 7 (pc2 := 2003) (L2 := [some (.ref 2000000), some (.ref 0), some (.ref 70), some (.ref 85), some (.int i), some (.int v1.1), none, none]) (st2 := [.int (xs (i + (1 : Int32)).toNatClampNeg), .ref 70]) (μ2 := (hLaw G3 J5)) rfl ⟨hj1, trivial⟩ ?_
  obtain ⟨v7, hv8, h⟩ := jbd h
  refine JW.cVZ (v := some (.int v7.1)) hM (m_X6_ringer (jVX X) hM.1.2.2.2.2.2.2.2.2.2.1 N (jvw G3 70) (jvw J5 70) (xs (i + (1 : Int32)).toNatClampNeg) v7 hv8) (sb_Law_Mo_70 G3 J5) (bk_Law_Mo_70 G3 J5 v7.2 (jvw J5 70)) rfl rfl rfl kc_L_245 rfl rfl rfl rfl (show k + 1 + 0 ≤ 601024 from by omega) (show n + 6 + 0 ≤ 7293034 from by omega) rfl (jat hM.2.1 15 rfl) (st := []) rfl ?_
  show JW X (k + 1 + 0) (n + 6 + 0) 2006 [some (.ref 2000000), some (.ref 0), some (.ref 70), some (.ref 85), some (.int i), some (.int v1.1), none, none] [.int v7.1] (hLaw (jpt G3 70 15 v7.2) J5)
  obtain ⟨G9, e10, h⟩ := jlE h
  rw [e10]
  refine JW.rZ hM 16 2 (pc2 := 2009) (L2 := [some (.ref 2000000), some (.ref 0), some (.ref 70), some (.ref 85), some (.int i), some (.int v1.1), some (.int v7.1), none]) (st2 := [.ref 70]) (μ2 := (hLaw G9 J5)) rfl trivial ?_
  obtain ⟨v11, hv12, h⟩ := jbd h
  refine JW.cVZ (v := some (.int v11)) hM (m_X6_thrown (jVX X) hM.1.2.2.2.2.2.2.2.2.2.1 N (jvw G9 70) (jvw J5 70) v11 hv12) (sb_Law_Mo_70 G9 J5) (bi_Law_Mo_70 G9 J5) rfl rfl rfl kc_L_140 rfl rfl rfl rfl (show k + 1 + 0 + 0 ≤ 601024 from by omega) (show n + 6 + 0 + 0 ≤ 7293034 from by omega) rfl (jat hM.2.1 18 rfl) (st := []) rfl ?_
  show JW X (k + 1 + 0 + 0) (n + 6 + 0 + 0) 2012 [some (.ref 2000000), some (.ref 0), some (.ref 70), some (.ref 85), some (.int i), some (.int v1.1), some (.int v7.1), none] [.int v11] (hLaw G9 J5)
  refine JW.rZ hM 19 1 (pc2 := 2014) (L2 := [some (.ref 2000000), some (.ref 0), some (.ref 70), some (.ref 85), some (.int i), some (.int v1.1), some (.int v7.1), none]) (st2 := [.int v1.1, .int v11]) (μ2 := (hLaw G9 J5)) rfl trivial ?_
  refine js_iceq (t := 2019) hM.1 (jat hM.2.1 20 rfl) rfl (fun hc15 => ?_) (fun hc15 => ?_)
  · have h := (if_pos hc15).symm.trans h
    refine JW.rZ hM 23 1 (pc2 := 2021) (L2 := [some (.ref 2000000), some (.ref 0), some (.ref 70), some (.ref 85), some (.int i), some (.int v1.1), some (.int v7.1), none]) (st2 := [.int v1.1]) (μ2 := (hLaw G9 J5)) rfl trivial ?_
    refine js_ifne (t := 2036) hM.1 (jat hM.2.1 24 rfl) rfl (fun hc14 => ?_) (fun hc14 => ?_)
    · have h := (if_neg hc14).symm.trans h
      refine JW.rZ hM 34 1 (pc2 := 2667) (L2 := [some (.ref 2000000), some (.ref 0), some (.ref 70), some (.ref 85), some (.int i), some (.int v1.1), some (.int v7.1), none]) (st2 := []) (μ2 := (hLaw G9 J5)) rfl trivial ?_
      obtain rfl := Option.some.inj h
      refine JW.widen (k2 := k + 40) (n2 := n + 240) (by omega) (by omega) (JW.mask [true, true, true, true, true, false, false, false] ?_)
      exact K X hM
    · have h := (if_pos hc14).symm.trans h
      refine JW.rZ hM 25 6 (pc2 := 2031) (L2 := [some (.ref 2000000), some (.ref 0), some (.ref 70), some (.ref 85), some (.int i), some (.int v1.1), some (.int v7.1), none]) (st2 := [.int (lg_cmp (J5 85 0) (v7.1.toInt64))]) (μ2 := (hLaw G9 J5)) rfl ⟨rfl, trivial⟩ ?_
      refine js_ifeq (t := 2036) hM.1 (jat hM.2.1 31 rfl) rfl (fun hc13 => ?_) (fun hc13 => ?_)
      · have h := (if_pos hc13).symm.trans h
        refine JW.rZ hM 34 1 (pc2 := 2667) (L2 := [some (.ref 2000000), some (.ref 0), some (.ref 70), some (.ref 85), some (.int i), some (.int v1.1), some (.int v7.1), none]) (st2 := []) (μ2 := (hLaw G9 J5)) rfl trivial ?_
        obtain rfl := Option.some.inj h
        refine JW.widen (k2 := k + 40) (n2 := n + 240) (by omega) (by omega) (JW.mask [true, true, true, true, true, false, false, false] ?_)
        exact K X hM
      · have h := (if_neg hc13).symm.trans h
        cases h
  · have h := (if_neg hc15).symm.trans h
    cases h

def p_case_33 (N : Nat) (xs : Nat → Int32) (G : Nat → Nat → Int32) (J : Nat → Nat → Int64) (i : Int32) : Option ((Nat → Nat → Int32) × (Nat → Nat → Int64)) :=
  (p_L_news N (jv2 G 0 70 85) (jv2 J 0 70 85) (xs (i + (1 : Int32)).toNatClampNeg) (xs (i + (2 : Int32)).toNatClampNeg) (xs (i + (3 : Int32)).toNatClampNeg)).bind (fun v1 => jlt (jp2 G 0 70 85 1 v1.2.1) fun G3 => jlt (jp2 J 0 70 85 1 v1.2.2) fun J5 => (p_X6_news N (jvw G3 70) (jvw J5 70) (xs (i + (1 : Int32)).toNatClampNeg) (xs (i + (2 : Int32)).toNatClampNeg) (xs (i + (3 : Int32)).toNatClampNeg)).bind (fun v7 => jlt (jpt G3 70 15 v7.2) fun G9 => (p_X6_thrown N (jvw G9 70) (jvw J5 70)).bind (fun v11 => if v11 = v1.1 then (if v1.1 = 0 then (if (lg_cmp (J5 85 0) (v7.1.toInt64)) = 0 then (some (G9, J5)) else (none)) else (some (G9, J5))) else (none))))
set_option maxHeartbeats 4000000 in
set_option maxRecDepth 100000 in
theorem t_case_33 {Tz : jX → Prop} (hT1 : ∀ X ad al, Tz X → Tz (jxa X ad al)) (hT2 : ∀ X, Tz X → Tz (jof X)) {Ln : Nat} {xs : Nat → Int32} {X : jX} {k n : Nat} (hM : jMZ Tz X kL_c33 RL (tbLZ Ln xs) 8 ⟨12, 601024, 7293034, 436⟩ (some .boolean) 94) (hk : k + 40 ≤ 601024) (hn : n + 240 ≤ 7293034) (N : Nat) (G : Nat → Nat → Int32) (J : Nat → Nat → Int64) (i : Int32) (hj1 : jin (i + 1) Ln = true) (hj2 : jin (i + 2) Ln = true) (hj3 : jin (i + 3) Ln = true) (hj4 : jin (i + 4) Ln = true) (hj5 : jin (i + 5) Ln = true) (res : (Nat → Nat → Int32) × (Nat → Nat → Int64)) (h : p_case_33 N xs G J i = some res) (K : ∀ X9, jMZ Tz X9 kL_c33 RL (tbLZ Ln xs) 8 ⟨12, 601024, 7293034, 436⟩ (some .boolean) 94 → JW X9 (k + 40) (n + 240) 2667 [some (.ref 2000000), some (.ref 0), some (.ref 70), some (.ref 85), some (.int i), none, none, none] [] (hLaw res.1 res.2)) : JW X k n 2039 [some (.ref 2000000), some (.ref 0), some (.ref 70), some (.ref 85), some (.int i), none, none, none] [] (hLaw G J) := by
  unfold p_case_33 at h
  refine JW.rZ hM 0 17 (pc2 := 2059) (L2 := [some (.ref 2000000), some (.ref 0), some (.ref 70), some (.ref 85), some (.int i), none, none, none]) (st2 := [.ref 85, .int (xs (i + (3 : Int32)).toNatClampNeg), .int (xs (i + (2 : Int32)).toNatClampNeg), .int (xs (i + (1 : Int32)).toNatClampNeg), .ref 0]) (μ2 := (hLaw G J)) rfl ⟨hj1, hj2, hj3, trivial⟩ ?_
  obtain ⟨v1, hv2, h⟩ := jbd h
  refine JW.cHZ (v := some (.int v1.1)) hM (m_L_news (jVX X) hM.1.2.2.2.2.2.2.2.2.2.1 N (jv2 G 0 70 85) (jv2 J 0 70 85) (xs (i + (1 : Int32)).toNatClampNeg) (xs (i + (2 : Int32)).toNatClampNeg) (xs (i + (3 : Int32)).toNatClampNeg) v1 hv2) (sb_Law_W_0_85 G J) (bk_Law_W_0_85 G J v1.2.1 v1.2.2) rfl rfl rfl kh_L_246 rfl rfl (show k + 3 ≤ 601024 from by omega) (show n + 18 ≤ 7293034 from by omega) rfl (jat hM.2.1 17 rfl) (st := []) rfl ?_
  show JW (jof X) (k + 3) (n + 18) 2062 [some (.ref 2000000), some (.ref 0), some (.ref 70), some (.ref 85), some (.int i), none, none, none] [.int v1.1] (hLaw (jp2 G 0 70 85 1 v1.2.1) (jp2 J 0 70 85 1 v1.2.2))
  obtain ⟨G3, e4, h⟩ := jlE h
  rw [e4]
  obtain ⟨J5, e6, h⟩ := jlE h
  rw [e6]
  refine JW.rebY (hM.off (hT2 _)) (hT1 _) (B := 94) (Nat.le_of_ble_eq_true rfl) (Nat.le_of_ble_eq_true rfl) rfl rfl rfl ?_
  clear hM
  intro X hM
  refine JW.rZ hM 18 17 (pc2 := 2083) (L2 := [some (.ref 2000000), some (.ref 0), some (.ref 70), some (.ref 85), some (.int i), some (.int v1.1), none, none]) (st2 := [.int (xs (i + (3 : Int32)).toNatClampNeg), .int (xs (i + (2 : Int32)).toNatClampNeg), .int (xs (i + (1 : Int32)).toNatClampNeg), .ref 70]) (μ2 := (hLaw G3 J5)) rfl ⟨hj1, hj2, hj3, trivial⟩ ?_
  obtain ⟨v7, hv8, h⟩ := jbd h
  refine JW.cVZ (v := some (.int v7.1)) hM (m_X6_news (jVX X) hM.1.2.2.2.2.2.2.2.2.2.1 N (jvw G3 70) (jvw J5 70) (xs (i + (1 : Int32)).toNatClampNeg) (xs (i + (2 : Int32)).toNatClampNeg) (xs (i + (3 : Int32)).toNatClampNeg) v7 hv8) (sb_Law_Mo_70 G3 J5) (bk_Law_Mo_70 G3 J5 v7.2 (jvw J5 70)) rfl rfl rfl kc_L_248 rfl rfl rfl rfl (show k + 3 + 0 ≤ 601024 from by omega) (show n + 18 + 0 ≤ 7293034 from by omega) rfl (jat hM.2.1 35 rfl) (st := []) rfl ?_
  show JW X (k + 3 + 0) (n + 18 + 0) 2086 [some (.ref 2000000), some (.ref 0), some (.ref 70), some (.ref 85), some (.int i), some (.int v1.1), none, none] [.int v7.1] (hLaw (jpt G3 70 15 v7.2) J5)
  obtain ⟨G9, e10, h⟩ := jlE h
  rw [e10]
  refine JW.rZ hM 36 2 (pc2 := 2089) (L2 := [some (.ref 2000000), some (.ref 0), some (.ref 70), some (.ref 85), some (.int i), some (.int v1.1), some (.int v7.1), none]) (st2 := [.ref 70]) (μ2 := (hLaw G9 J5)) rfl trivial ?_
  obtain ⟨v11, hv12, h⟩ := jbd h
  refine JW.cVZ (v := some (.int v11)) hM (m_X6_thrown (jVX X) hM.1.2.2.2.2.2.2.2.2.2.1 N (jvw G9 70) (jvw J5 70) v11 hv12) (sb_Law_Mo_70 G9 J5) (bi_Law_Mo_70 G9 J5) rfl rfl rfl kc_L_140 rfl rfl rfl rfl (show k + 3 + 0 + 0 ≤ 601024 from by omega) (show n + 18 + 0 + 0 ≤ 7293034 from by omega) rfl (jat hM.2.1 38 rfl) (st := []) rfl ?_
  show JW X (k + 3 + 0 + 0) (n + 18 + 0 + 0) 2092 [some (.ref 2000000), some (.ref 0), some (.ref 70), some (.ref 85), some (.int i), some (.int v1.1), some (.int v7.1), none] [.int v11] (hLaw G9 J5)
  refine JW.rZ hM 39 1 (pc2 := 2094) (L2 := [some (.ref 2000000), some (.ref 0), some (.ref 70), some (.ref 85), some (.int i), some (.int v1.1), some (.int v7.1), none]) (st2 := [.int v1.1, .int v11]) (μ2 := (hLaw G9 J5)) rfl trivial ?_
  refine js_iceq (t := 2099) hM.1 (jat hM.2.1 40 rfl) rfl (fun hc15 => ?_) (fun hc15 => ?_)
  · have h := (if_pos hc15).symm.trans h
    refine JW.rZ hM 43 1 (pc2 := 2101) (L2 := [some (.ref 2000000), some (.ref 0), some (.ref 70), some (.ref 85), some (.int i), some (.int v1.1), some (.int v7.1), none]) (st2 := [.int v1.1]) (μ2 := (hLaw G9 J5)) rfl trivial ?_
    refine js_ifne (t := 2116) hM.1 (jat hM.2.1 44 rfl) rfl (fun hc14 => ?_) (fun hc14 => ?_)
    · have h := (if_neg hc14).symm.trans h
      refine JW.rZ hM 54 1 (pc2 := 2667) (L2 := [some (.ref 2000000), some (.ref 0), some (.ref 70), some (.ref 85), some (.int i), some (.int v1.1), some (.int v7.1), none]) (st2 := []) (μ2 := (hLaw G9 J5)) rfl trivial ?_
      obtain rfl := Option.some.inj h
      refine JW.widen (k2 := k + 40) (n2 := n + 240) (by omega) (by omega) (JW.mask [true, true, true, true, true, false, false, false] ?_)
      exact K X hM
    · have h := (if_pos hc14).symm.trans h
      refine JW.rZ hM 45 6 (pc2 := 2111) (L2 := [some (.ref 2000000), some (.ref 0), some (.ref 70), some (.ref 85), some (.int i), some (.int v1.1), some (.int v7.1), none]) (st2 := [.int (lg_cmp (J5 85 0) (v7.1.toInt64))]) (μ2 := (hLaw G9 J5)) rfl ⟨rfl, trivial⟩ ?_
      refine js_ifeq (t := 2116) hM.1 (jat hM.2.1 51 rfl) rfl (fun hc13 => ?_) (fun hc13 => ?_)
      · have h := (if_pos hc13).symm.trans h
        refine JW.rZ hM 54 1 (pc2 := 2667) (L2 := [some (.ref 2000000), some (.ref 0), some (.ref 70), some (.ref 85), some (.int i), some (.int v1.1), some (.int v7.1), none]) (st2 := []) (μ2 := (hLaw G9 J5)) rfl trivial ?_
        obtain rfl := Option.some.inj h
        refine JW.widen (k2 := k + 40) (n2 := n + 240) (by omega) (by omega) (JW.mask [true, true, true, true, true, false, false, false] ?_)
        exact K X hM
      · have h := (if_neg hc13).symm.trans h
        cases h
  · have h := (if_neg hc15).symm.trans h
    cases h

def p_case_34 (N : Nat) (xs : Nat → Int32) (G : Nat → Nat → Int32) (J : Nat → Nat → Int64) (i : Int32) : Option ((Nat → Nat → Int32) × (Nat → Nat → Int64)) :=
  (p_X5_bestShare N (jvw G 0) (jvw J 0)).bind (fun v1 => jlt (jpt G 0 70 v1.2.1) fun G3 => jlt (jpt J 0 70 v1.2.2) fun J5 => (p_X6_bestShare N (jvw G3 70) (jvw J5 70)).bind (fun v7 => jlt (jpt G3 70 15 v7.2) fun G9 => if v1.1 = v7.1 then (some (G9, J5)) else (none)))
set_option maxHeartbeats 4000000 in
set_option maxRecDepth 100000 in
theorem t_case_34 {Tz : jX → Prop} (hT1 : ∀ X ad al, Tz X → Tz (jxa X ad al)) (hT2 : ∀ X, Tz X → Tz (jof X)) {Ln : Nat} {xs : Nat → Int32} {X : jX} {k n : Nat} (hM : jMZ Tz X kL_c34 RL (tbLZ Ln xs) 8 ⟨12, 601024, 7293034, 436⟩ (some .boolean) 94) (hk : k + 40 ≤ 601024) (hn : n + 240 ≤ 7293034) (N : Nat) (G : Nat → Nat → Int32) (J : Nat → Nat → Int64) (i : Int32) (hj1 : jin (i + 1) Ln = true) (hj2 : jin (i + 2) Ln = true) (hj3 : jin (i + 3) Ln = true) (hj4 : jin (i + 4) Ln = true) (hj5 : jin (i + 5) Ln = true) (res : (Nat → Nat → Int32) × (Nat → Nat → Int64)) (h : p_case_34 N xs G J i = some res) (K : ∀ X9, jMZ Tz X9 kL_c34 RL (tbLZ Ln xs) 8 ⟨12, 601024, 7293034, 436⟩ (some .boolean) 94 → JW X9 (k + 40) (n + 240) 2667 [some (.ref 2000000), some (.ref 0), some (.ref 70), some (.ref 85), some (.int i), none, none, none] [] (hLaw res.1 res.2)) : JW X k n 2119 [some (.ref 2000000), some (.ref 0), some (.ref 70), some (.ref 85), some (.int i), none, none, none] [] (hLaw G J) := by
  unfold p_case_34 at h
  refine JW.rZ hM 0 1 (pc2 := 2120) (L2 := [some (.ref 2000000), some (.ref 0), some (.ref 70), some (.ref 85), some (.int i), none, none, none]) (st2 := [.ref 0]) (μ2 := (hLaw G J)) rfl trivial ?_
  obtain ⟨v1, hv2, h⟩ := jbd h
  refine JW.cVZ (v := some (.int v1.1)) hM (m_X5_bestShare (jVX X) hM.1.2.2.2.2.2.2.2.2.2.1 N (jvw G 0) (jvw J 0) v1 hv2) (sb_Law_X_0 G J) (bk_Law_X_0 G J v1.2.1 v1.2.2) rfl rfl rfl kc_L_249 rfl rfl rfl rfl (show k + 0 ≤ 601024 from by omega) (show n + 0 ≤ 7293034 from by omega) rfl (jat hM.2.1 1 rfl) (st := []) rfl ?_
  show JW X (k + 0) (n + 0) 2123 [some (.ref 2000000), some (.ref 0), some (.ref 70), some (.ref 85), some (.int i), none, none, none] [.int v1.1] (hLaw (jpt G 0 70 v1.2.1) (jpt J 0 70 v1.2.2))
  obtain ⟨G3, e4, h⟩ := jlE h
  rw [e4]
  obtain ⟨J5, e6, h⟩ := jlE h
  rw [e6]
  refine JW.rZ hM 2 1 (pc2 := 2124) (L2 := [some (.ref 2000000), some (.ref 0), some (.ref 70), some (.ref 85), some (.int i), none, none, none]) (st2 := [.ref 70, .int v1.1]) (μ2 := (hLaw G3 J5)) rfl trivial ?_
  obtain ⟨v7, hv8, h⟩ := jbd h
  refine JW.cVZ (v := some (.int v7.1)) hM (m_X6_bestShare (jVX X) hM.1.2.2.2.2.2.2.2.2.2.1 N (jvw G3 70) (jvw J5 70) v7 hv8) (sb_Law_Mo_70 G3 J5) (bk_Law_Mo_70 G3 J5 v7.2 (jvw J5 70)) rfl rfl rfl kc_L_252 rfl rfl rfl rfl (show k + 0 + 0 ≤ 601024 from by omega) (show n + 0 + 0 ≤ 7293034 from by omega) rfl (jat hM.2.1 3 rfl) (st := [.int v1.1]) rfl ?_
  show JW X (k + 0 + 0) (n + 0 + 0) 2127 [some (.ref 2000000), some (.ref 0), some (.ref 70), some (.ref 85), some (.int i), none, none, none] [.int v7.1, .int v1.1] (hLaw (jpt G3 70 15 v7.2) J5)
  obtain ⟨G9, e10, h⟩ := jlE h
  rw [e10]
  refine js_iceq (t := 2667) hM.1 (jat hM.2.1 4 rfl) rfl (fun hc11 => ?_) (fun hc11 => ?_)
  · have h := (if_pos hc11).symm.trans h
    obtain rfl := Option.some.inj h
    refine JW.widen (k2 := k + 40) (n2 := n + 240) (by omega) (by omega) (JW.mask [true, true, true, true, true, false, false, false] ?_)
    exact K X hM
  · have h := (if_neg hc11).symm.trans h
    cases h

def p_case_35 (N : Nat) (xs : Nat → Int32) (G : Nat → Nat → Int32) (J : Nat → Nat → Int64) (i : Int32) : Option ((Nat → Nat → Int32) × (Nat → Nat → Int64)) :=
  (p_L_share N (jv2 G 0 70 85) (jv2 J 0 70 85) (xs (i + (1 : Int32)).toNatClampNeg)).bind (fun v1 => jlt (jp2 G 0 70 85 1 v1.2.1) fun G3 => jlt (jp2 J 0 70 85 1 v1.2.2) fun J5 => (p_X6_share N (jvw G3 70) (jvw J5 70) (xs (i + (1 : Int32)).toNatClampNeg)).bind (fun v7 => jlt (jpt G3 70 15 v7.2) fun G9 => (p_X6_thrown N (jvw G9 70) (jvw J5 70)).bind (fun v11 => if v11 = v1.1 then (if v1.1 = 0 then (if (lg_cmp (J5 85 0) (v7.1.toInt64)) = 0 then (some (G9, J5)) else (none)) else (some (G9, J5))) else (none))))
set_option maxHeartbeats 4000000 in
set_option maxRecDepth 100000 in
theorem t_case_35 {Tz : jX → Prop} (hT1 : ∀ X ad al, Tz X → Tz (jxa X ad al)) (hT2 : ∀ X, Tz X → Tz (jof X)) {Ln : Nat} {xs : Nat → Int32} {X : jX} {k n : Nat} (hM : jMZ Tz X kL_c35 RL (tbLZ Ln xs) 8 ⟨12, 601024, 7293034, 436⟩ (some .boolean) 94) (hk : k + 40 ≤ 601024) (hn : n + 240 ≤ 7293034) (N : Nat) (G : Nat → Nat → Int32) (J : Nat → Nat → Int64) (i : Int32) (hj1 : jin (i + 1) Ln = true) (hj2 : jin (i + 2) Ln = true) (hj3 : jin (i + 3) Ln = true) (hj4 : jin (i + 4) Ln = true) (hj5 : jin (i + 5) Ln = true) (res : (Nat → Nat → Int32) × (Nat → Nat → Int64)) (h : p_case_35 N xs G J i = some res) (K : ∀ X9, jMZ Tz X9 kL_c35 RL (tbLZ Ln xs) 8 ⟨12, 601024, 7293034, 436⟩ (some .boolean) 94 → JW X9 (k + 40) (n + 240) 2667 [some (.ref 2000000), some (.ref 0), some (.ref 70), some (.ref 85), some (.int i), none, none, none] [] (hLaw res.1 res.2)) : JW X k n 2132 [some (.ref 2000000), some (.ref 0), some (.ref 70), some (.ref 85), some (.int i), none, none, none] [] (hLaw G J) := by
  unfold p_case_35 at h
  refine JW.rZ hM 0 7 (pc2 := 2140) (L2 := [some (.ref 2000000), some (.ref 0), some (.ref 70), some (.ref 85), some (.int i), none, none, none]) (st2 := [.ref 85, .int (xs (i + (1 : Int32)).toNatClampNeg), .ref 0]) (μ2 := (hLaw G J)) rfl ⟨hj1, trivial⟩ ?_
  obtain ⟨v1, hv2, h⟩ := jbd h
  refine JW.cHZ (v := some (.int v1.1)) hM (m_L_share (jVX X) hM.1.2.2.2.2.2.2.2.2.2.1 N (jv2 G 0 70 85) (jv2 J 0 70 85) (xs (i + (1 : Int32)).toNatClampNeg) v1 hv2) (sb_Law_W_0_85 G J) (bk_Law_W_0_85 G J v1.2.1 v1.2.2) rfl rfl rfl kh_L_253 rfl rfl (show k + 1 ≤ 601024 from by omega) (show n + 6 ≤ 7293034 from by omega) rfl (jat hM.2.1 7 rfl) (st := []) rfl ?_
  show JW (jof X) (k + 1) (n + 6) 2143 [some (.ref 2000000), some (.ref 0), some (.ref 70), some (.ref 85), some (.int i), none, none, none] [.int v1.1] (hLaw (jp2 G 0 70 85 1 v1.2.1) (jp2 J 0 70 85 1 v1.2.2))
  obtain ⟨G3, e4, h⟩ := jlE h
  rw [e4]
  obtain ⟨J5, e6, h⟩ := jlE h
  rw [e6]
  refine JW.rebY (hM.off (hT2 _)) (hT1 _) (B := 94) (Nat.le_of_ble_eq_true rfl) (Nat.le_of_ble_eq_true rfl) rfl rfl rfl ?_
  clear hM
  intro X hM
  refine JW.rZ hM 8 7 (pc2 := 2152) (L2 := [some (.ref 2000000), some (.ref 0), some (.ref 70), some (.ref 85), some (.int i), some (.int v1.1), none, none]) (st2 := [.int (xs (i + (1 : Int32)).toNatClampNeg), .ref 70]) (μ2 := (hLaw G3 J5)) rfl ⟨hj1, trivial⟩ ?_
  obtain ⟨v7, hv8, h⟩ := jbd h
  refine JW.cVZ (v := some (.int v7.1)) hM (m_X6_share (jVX X) hM.1.2.2.2.2.2.2.2.2.2.1 N (jvw G3 70) (jvw J5 70) (xs (i + (1 : Int32)).toNatClampNeg) v7 hv8) (sb_Law_Mo_70 G3 J5) (bk_Law_Mo_70 G3 J5 v7.2 (jvw J5 70)) rfl rfl rfl kc_L_255 rfl rfl rfl rfl (show k + 1 + 0 ≤ 601024 from by omega) (show n + 6 + 0 ≤ 7293034 from by omega) rfl (jat hM.2.1 15 rfl) (st := []) rfl ?_
  show JW X (k + 1 + 0) (n + 6 + 0) 2155 [some (.ref 2000000), some (.ref 0), some (.ref 70), some (.ref 85), some (.int i), some (.int v1.1), none, none] [.int v7.1] (hLaw (jpt G3 70 15 v7.2) J5)
  obtain ⟨G9, e10, h⟩ := jlE h
  rw [e10]
  refine JW.rZ hM 16 2 (pc2 := 2158) (L2 := [some (.ref 2000000), some (.ref 0), some (.ref 70), some (.ref 85), some (.int i), some (.int v1.1), some (.int v7.1), none]) (st2 := [.ref 70]) (μ2 := (hLaw G9 J5)) rfl trivial ?_
  obtain ⟨v11, hv12, h⟩ := jbd h
  refine JW.cVZ (v := some (.int v11)) hM (m_X6_thrown (jVX X) hM.1.2.2.2.2.2.2.2.2.2.1 N (jvw G9 70) (jvw J5 70) v11 hv12) (sb_Law_Mo_70 G9 J5) (bi_Law_Mo_70 G9 J5) rfl rfl rfl kc_L_140 rfl rfl rfl rfl (show k + 1 + 0 + 0 ≤ 601024 from by omega) (show n + 6 + 0 + 0 ≤ 7293034 from by omega) rfl (jat hM.2.1 18 rfl) (st := []) rfl ?_
  show JW X (k + 1 + 0 + 0) (n + 6 + 0 + 0) 2161 [some (.ref 2000000), some (.ref 0), some (.ref 70), some (.ref 85), some (.int i), some (.int v1.1), some (.int v7.1), none] [.int v11] (hLaw G9 J5)
  refine JW.rZ hM 19 1 (pc2 := 2163) (L2 := [some (.ref 2000000), some (.ref 0), some (.ref 70), some (.ref 85), some (.int i), some (.int v1.1), some (.int v7.1), none]) (st2 := [.int v1.1, .int v11]) (μ2 := (hLaw G9 J5)) rfl trivial ?_
  refine js_iceq (t := 2168) hM.1 (jat hM.2.1 20 rfl) rfl (fun hc15 => ?_) (fun hc15 => ?_)
  · have h := (if_pos hc15).symm.trans h
    refine JW.rZ hM 23 1 (pc2 := 2170) (L2 := [some (.ref 2000000), some (.ref 0), some (.ref 70), some (.ref 85), some (.int i), some (.int v1.1), some (.int v7.1), none]) (st2 := [.int v1.1]) (μ2 := (hLaw G9 J5)) rfl trivial ?_
    refine js_ifne (t := 2185) hM.1 (jat hM.2.1 24 rfl) rfl (fun hc14 => ?_) (fun hc14 => ?_)
    · have h := (if_neg hc14).symm.trans h
      refine JW.rZ hM 34 1 (pc2 := 2667) (L2 := [some (.ref 2000000), some (.ref 0), some (.ref 70), some (.ref 85), some (.int i), some (.int v1.1), some (.int v7.1), none]) (st2 := []) (μ2 := (hLaw G9 J5)) rfl trivial ?_
      obtain rfl := Option.some.inj h
      refine JW.widen (k2 := k + 40) (n2 := n + 240) (by omega) (by omega) (JW.mask [true, true, true, true, true, false, false, false] ?_)
      exact K X hM
    · have h := (if_pos hc14).symm.trans h
      refine JW.rZ hM 25 6 (pc2 := 2180) (L2 := [some (.ref 2000000), some (.ref 0), some (.ref 70), some (.ref 85), some (.int i), some (.int v1.1), some (.int v7.1), none]) (st2 := [.int (lg_cmp (J5 85 0) (v7.1.toInt64))]) (μ2 := (hLaw G9 J5)) rfl ⟨rfl, trivial⟩ ?_
      refine js_ifeq (t := 2185) hM.1 (jat hM.2.1 31 rfl) rfl (fun hc13 => ?_) (fun hc13 => ?_)
      · have h := (if_pos hc13).symm.trans h
        refine JW.rZ hM 34 1 (pc2 := 2667) (L2 := [some (.ref 2000000), some (.ref 0), some (.ref 70), some (.ref 85), some (.int i), some (.int v1.1), some (.int v7.1), none]) (st2 := []) (μ2 := (hLaw G9 J5)) rfl trivial ?_
        obtain rfl := Option.some.inj h
        refine JW.widen (k2 := k + 40) (n2 := n + 240) (by omega) (by omega) (JW.mask [true, true, true, true, true, false, false, false] ?_)
        exact K X hM
      · have h := (if_neg hc13).symm.trans h
        cases h
  · have h := (if_neg hc15).symm.trans h
    cases h

def p_case_36 (N : Nat) (xs : Nat → Int32) (G : Nat → Nat → Int32) (J : Nat → Nat → Int64) (i : Int32) : Option ((Nat → Nat → Int32) × (Nat → Nat → Int64)) :=
  (p_L_hope N (jv2 G 0 70 85) (jv2 J 0 70 85) (xs (i + (1 : Int32)).toNatClampNeg) (xs (i + (2 : Int32)).toNatClampNeg) (xs (i + (3 : Int32)).toNatClampNeg) (xs (i + (4 : Int32)).toNatClampNeg)).bind (fun v1 => jlt (jp2 J 0 70 85 1 v1.2) fun J3 => (p_X6_hope N (jvw G 70) (jvw J3 70) (xs (i + (1 : Int32)).toNatClampNeg) (xs (i + (2 : Int32)).toNatClampNeg) (xs (i + (3 : Int32)).toNatClampNeg) (xs (i + (4 : Int32)).toNatClampNeg)).bind (fun v5 => jlt (jpt G 70 15 v5.2) fun G7 => (p_X6_thrown N (jvw G7 70) (jvw J3 70)).bind (fun v9 => if v9 = v1.1 then (if v1.1 = 0 then (if (lg_cmp (J3 85 0) (v5.1.toInt64)) = 0 then (some (G7, J3)) else (none)) else (some (G7, J3))) else (none))))
set_option maxHeartbeats 4000000 in
set_option maxRecDepth 100000 in
theorem t_case_36 {Tz : jX → Prop} (hT1 : ∀ X ad al, Tz X → Tz (jxa X ad al)) (hT2 : ∀ X, Tz X → Tz (jof X)) {Ln : Nat} {xs : Nat → Int32} {X : jX} {k n : Nat} (hM : jMZ Tz X kL_c36 RL (tbLZ Ln xs) 8 ⟨12, 601024, 7293034, 436⟩ (some .boolean) 94) (hk : k + 40 ≤ 601024) (hn : n + 240 ≤ 7293034) (N : Nat) (G : Nat → Nat → Int32) (J : Nat → Nat → Int64) (i : Int32) (hj1 : jin (i + 1) Ln = true) (hj2 : jin (i + 2) Ln = true) (hj3 : jin (i + 3) Ln = true) (hj4 : jin (i + 4) Ln = true) (hj5 : jin (i + 5) Ln = true) (res : (Nat → Nat → Int32) × (Nat → Nat → Int64)) (h : p_case_36 N xs G J i = some res) (K : ∀ X9, jMZ Tz X9 kL_c36 RL (tbLZ Ln xs) 8 ⟨12, 601024, 7293034, 436⟩ (some .boolean) 94 → JW X9 (k + 40) (n + 240) 2667 [some (.ref 2000000), some (.ref 0), some (.ref 70), some (.ref 85), some (.int i), none, none, none] [] (hLaw res.1 res.2)) : JW X k n 2188 [some (.ref 2000000), some (.ref 0), some (.ref 70), some (.ref 85), some (.int i), none, none, none] [] (hLaw G J) := by
  unfold p_case_36 at h
  refine JW.rZ hM 0 22 (pc2 := 2214) (L2 := [some (.ref 2000000), some (.ref 0), some (.ref 70), some (.ref 85), some (.int i), none, none, none]) (st2 := [.ref 85, .int (xs (i + (4 : Int32)).toNatClampNeg), .int (xs (i + (3 : Int32)).toNatClampNeg), .int (xs (i + (2 : Int32)).toNatClampNeg), .int (xs (i + (1 : Int32)).toNatClampNeg), .ref 0]) (μ2 := (hLaw G J)) rfl ⟨hj1, hj2, hj3, hj4, trivial⟩ ?_
  obtain ⟨v1, hv2, h⟩ := jbd h
  refine JW.cHZ (v := some (.int v1.1)) hM (m_L_hope (jVX X) hM.1.2.2.2.2.2.2.2.2.2.1 N (jv2 G 0 70 85) (jv2 J 0 70 85) (xs (i + (1 : Int32)).toNatClampNeg) (xs (i + (2 : Int32)).toNatClampNeg) (xs (i + (3 : Int32)).toNatClampNeg) (xs (i + (4 : Int32)).toNatClampNeg) v1 hv2) (sb_Law_W_0_85 G J) (bk_Law_W_0_85 G J (jv2 G 0 70 85) v1.2) rfl rfl rfl kh_L_256 rfl rfl (show k + 3 ≤ 601024 from by omega) (show n + 18 ≤ 7293034 from by omega) rfl (jat hM.2.1 22 rfl) (st := []) rfl ?_
  show JW (jof X) (k + 3) (n + 18) 2217 [some (.ref 2000000), some (.ref 0), some (.ref 70), some (.ref 85), some (.int i), none, none, none] [.int v1.1] (hLaw G (jp2 J 0 70 85 1 v1.2))
  obtain ⟨J3, e4, h⟩ := jlE h
  rw [e4]
  refine JW.rebY (hM.off (hT2 _)) (hT1 _) (B := 94) (Nat.le_of_ble_eq_true rfl) (Nat.le_of_ble_eq_true rfl) rfl rfl rfl ?_
  clear hM
  intro X hM
  refine JW.rZ hM 23 22 (pc2 := 2244) (L2 := [some (.ref 2000000), some (.ref 0), some (.ref 70), some (.ref 85), some (.int i), some (.int v1.1), none, none]) (st2 := [.int (xs (i + (4 : Int32)).toNatClampNeg), .int (xs (i + (3 : Int32)).toNatClampNeg), .int (xs (i + (2 : Int32)).toNatClampNeg), .int (xs (i + (1 : Int32)).toNatClampNeg), .ref 70]) (μ2 := (hLaw G J3)) rfl ⟨hj1, hj2, hj3, hj4, trivial⟩ ?_
  obtain ⟨v5, hv6, h⟩ := jbd h
  refine JW.cVZ (v := some (.int v5.1)) hM (m_X6_hope (jVX X) hM.1.2.2.2.2.2.2.2.2.2.1 N (jvw G 70) (jvw J3 70) (xs (i + (1 : Int32)).toNatClampNeg) (xs (i + (2 : Int32)).toNatClampNeg) (xs (i + (3 : Int32)).toNatClampNeg) (xs (i + (4 : Int32)).toNatClampNeg) v5 hv6) (sb_Law_Mo_70 G J3) (bk_Law_Mo_70 G J3 v5.2 (jvw J3 70)) rfl rfl rfl kc_L_259 rfl rfl rfl rfl (show k + 3 + 0 ≤ 601024 from by omega) (show n + 18 + 0 ≤ 7293034 from by omega) rfl (jat hM.2.1 45 rfl) (st := []) rfl ?_
  show JW X (k + 3 + 0) (n + 18 + 0) 2247 [some (.ref 2000000), some (.ref 0), some (.ref 70), some (.ref 85), some (.int i), some (.int v1.1), none, none] [.int v5.1] (hLaw (jpt G 70 15 v5.2) J3)
  obtain ⟨G7, e8, h⟩ := jlE h
  rw [e8]
  refine JW.rZ hM 46 2 (pc2 := 2250) (L2 := [some (.ref 2000000), some (.ref 0), some (.ref 70), some (.ref 85), some (.int i), some (.int v1.1), some (.int v5.1), none]) (st2 := [.ref 70]) (μ2 := (hLaw G7 J3)) rfl trivial ?_
  obtain ⟨v9, hv10, h⟩ := jbd h
  refine JW.cVZ (v := some (.int v9)) hM (m_X6_thrown (jVX X) hM.1.2.2.2.2.2.2.2.2.2.1 N (jvw G7 70) (jvw J3 70) v9 hv10) (sb_Law_Mo_70 G7 J3) (bi_Law_Mo_70 G7 J3) rfl rfl rfl kc_L_140 rfl rfl rfl rfl (show k + 3 + 0 + 0 ≤ 601024 from by omega) (show n + 18 + 0 + 0 ≤ 7293034 from by omega) rfl (jat hM.2.1 48 rfl) (st := []) rfl ?_
  show JW X (k + 3 + 0 + 0) (n + 18 + 0 + 0) 2253 [some (.ref 2000000), some (.ref 0), some (.ref 70), some (.ref 85), some (.int i), some (.int v1.1), some (.int v5.1), none] [.int v9] (hLaw G7 J3)
  refine JW.rZ hM 49 1 (pc2 := 2255) (L2 := [some (.ref 2000000), some (.ref 0), some (.ref 70), some (.ref 85), some (.int i), some (.int v1.1), some (.int v5.1), none]) (st2 := [.int v1.1, .int v9]) (μ2 := (hLaw G7 J3)) rfl trivial ?_
  refine js_iceq (t := 2260) hM.1 (jat hM.2.1 50 rfl) rfl (fun hc13 => ?_) (fun hc13 => ?_)
  · have h := (if_pos hc13).symm.trans h
    refine JW.rZ hM 53 1 (pc2 := 2262) (L2 := [some (.ref 2000000), some (.ref 0), some (.ref 70), some (.ref 85), some (.int i), some (.int v1.1), some (.int v5.1), none]) (st2 := [.int v1.1]) (μ2 := (hLaw G7 J3)) rfl trivial ?_
    refine js_ifne (t := 2277) hM.1 (jat hM.2.1 54 rfl) rfl (fun hc12 => ?_) (fun hc12 => ?_)
    · have h := (if_neg hc12).symm.trans h
      refine JW.rZ hM 64 1 (pc2 := 2667) (L2 := [some (.ref 2000000), some (.ref 0), some (.ref 70), some (.ref 85), some (.int i), some (.int v1.1), some (.int v5.1), none]) (st2 := []) (μ2 := (hLaw G7 J3)) rfl trivial ?_
      obtain rfl := Option.some.inj h
      refine JW.widen (k2 := k + 40) (n2 := n + 240) (by omega) (by omega) (JW.mask [true, true, true, true, true, false, false, false] ?_)
      exact K X hM
    · have h := (if_pos hc12).symm.trans h
      refine JW.rZ hM 55 6 (pc2 := 2272) (L2 := [some (.ref 2000000), some (.ref 0), some (.ref 70), some (.ref 85), some (.int i), some (.int v1.1), some (.int v5.1), none]) (st2 := [.int (lg_cmp (J3 85 0) (v5.1.toInt64))]) (μ2 := (hLaw G7 J3)) rfl ⟨rfl, trivial⟩ ?_
      refine js_ifeq (t := 2277) hM.1 (jat hM.2.1 61 rfl) rfl (fun hc11 => ?_) (fun hc11 => ?_)
      · have h := (if_pos hc11).symm.trans h
        refine JW.rZ hM 64 1 (pc2 := 2667) (L2 := [some (.ref 2000000), some (.ref 0), some (.ref 70), some (.ref 85), some (.int i), some (.int v1.1), some (.int v5.1), none]) (st2 := []) (μ2 := (hLaw G7 J3)) rfl trivial ?_
        obtain rfl := Option.some.inj h
        refine JW.widen (k2 := k + 40) (n2 := n + 240) (by omega) (by omega) (JW.mask [true, true, true, true, true, false, false, false] ?_)
        exact K X hM
      · have h := (if_neg hc11).symm.trans h
        cases h
  · have h := (if_neg hc13).symm.trans h
    cases h

def p_case_37 (N : Nat) (xs : Nat → Int32) (G : Nat → Nat → Int32) (J : Nat → Nat → Int64) (i : Int32) : Option ((Nat → Nat → Int32) × (Nat → Nat → Int64)) :=
  (p_X5_swaps N (jvw G 0) (jvw J 0) (xs (i + (1 : Int32)).toNatClampNeg)).bind (fun v1 => (p_X6_swaps N (jvw G 70) (jvw J 70) (xs (i + (1 : Int32)).toNatClampNeg)).bind (fun v3 => jlt (jpt G 70 15 v3.2) fun G5 => if v1 = v3.1 then (some (G5, J)) else (none)))
set_option maxHeartbeats 4000000 in
set_option maxRecDepth 100000 in
theorem t_case_37 {Tz : jX → Prop} (hT1 : ∀ X ad al, Tz X → Tz (jxa X ad al)) (hT2 : ∀ X, Tz X → Tz (jof X)) {Ln : Nat} {xs : Nat → Int32} {X : jX} {k n : Nat} (hM : jMZ Tz X kL_c37 RL (tbLZ Ln xs) 8 ⟨12, 601024, 7293034, 436⟩ (some .boolean) 94) (hk : k + 40 ≤ 601024) (hn : n + 240 ≤ 7293034) (N : Nat) (G : Nat → Nat → Int32) (J : Nat → Nat → Int64) (i : Int32) (hj1 : jin (i + 1) Ln = true) (hj2 : jin (i + 2) Ln = true) (hj3 : jin (i + 3) Ln = true) (hj4 : jin (i + 4) Ln = true) (hj5 : jin (i + 5) Ln = true) (res : (Nat → Nat → Int32) × (Nat → Nat → Int64)) (h : p_case_37 N xs G J i = some res) (K : ∀ X9, jMZ Tz X9 kL_c37 RL (tbLZ Ln xs) 8 ⟨12, 601024, 7293034, 436⟩ (some .boolean) 94 → JW X9 (k + 40) (n + 240) 2667 [some (.ref 2000000), some (.ref 0), some (.ref 70), some (.ref 85), some (.int i), none, none, none] [] (hLaw res.1 res.2)) : JW X k n 2280 [some (.ref 2000000), some (.ref 0), some (.ref 70), some (.ref 85), some (.int i), none, none, none] [] (hLaw G J) := by
  unfold p_case_37 at h
  refine JW.rZ hM 0 6 (pc2 := 2287) (L2 := [some (.ref 2000000), some (.ref 0), some (.ref 70), some (.ref 85), some (.int i), none, none, none]) (st2 := [.int (xs (i + (1 : Int32)).toNatClampNeg), .ref 0]) (μ2 := (hLaw G J)) rfl ⟨hj1, trivial⟩ ?_
  obtain ⟨v1, hv2, h⟩ := jbd h
  refine JW.cVZ (v := some (.int v1)) hM (m_X5_swaps (jVX X) hM.1.2.2.2.2.2.2.2.2.2.1 N (jvw G 0) (jvw J 0) (xs (i + (1 : Int32)).toNatClampNeg) v1 hv2) (sb_Law_X_0 G J) (bi_Law_X_0 G J) rfl rfl rfl kc_L_260 rfl rfl rfl rfl (show k + 0 ≤ 601024 from by omega) (show n + 0 ≤ 7293034 from by omega) rfl (jat hM.2.1 6 rfl) (st := []) rfl ?_
  show JW X (k + 0) (n + 0) 2290 [some (.ref 2000000), some (.ref 0), some (.ref 70), some (.ref 85), some (.int i), none, none, none] [.int v1] (hLaw G J)
  refine JW.rZ hM 7 6 (pc2 := 2297) (L2 := [some (.ref 2000000), some (.ref 0), some (.ref 70), some (.ref 85), some (.int i), none, none, none]) (st2 := [.int (xs (i + (1 : Int32)).toNatClampNeg), .ref 70, .int v1]) (μ2 := (hLaw G J)) rfl ⟨hj1, trivial⟩ ?_
  obtain ⟨v3, hv4, h⟩ := jbd h
  refine JW.cVZ (v := some (.int v3.1)) hM (m_X6_swaps (jVX X) hM.1.2.2.2.2.2.2.2.2.2.1 N (jvw G 70) (jvw J 70) (xs (i + (1 : Int32)).toNatClampNeg) v3 hv4) (sb_Law_Mo_70 G J) (bk_Law_Mo_70 G J v3.2 (jvw J 70)) rfl rfl rfl kc_L_263 rfl rfl rfl rfl (show k + 0 + 0 ≤ 601024 from by omega) (show n + 0 + 0 ≤ 7293034 from by omega) rfl (jat hM.2.1 13 rfl) (st := [.int v1]) rfl ?_
  show JW X (k + 0 + 0) (n + 0 + 0) 2300 [some (.ref 2000000), some (.ref 0), some (.ref 70), some (.ref 85), some (.int i), none, none, none] [.int v3.1, .int v1] (hLaw (jpt G 70 15 v3.2) J)
  obtain ⟨G5, e6, h⟩ := jlE h
  rw [e6]
  refine js_iceq (t := 2667) hM.1 (jat hM.2.1 14 rfl) rfl (fun hc7 => ?_) (fun hc7 => ?_)
  · have h := (if_pos hc7).symm.trans h
    obtain rfl := Option.some.inj h
    refine JW.widen (k2 := k + 40) (n2 := n + 240) (by omega) (by omega) (JW.mask [true, true, true, true, true, false, false, false] ?_)
    exact K X hM
  · have h := (if_neg hc7).symm.trans h
    cases h

def p_case_38 (N : Nat) (xs : Nat → Int32) (G : Nat → Nat → Int32) (J : Nat → Nat → Int64) (i : Int32) : Option ((Nat → Nat → Int32) × (Nat → Nat → Int64)) :=
  (p_X5_threes N (jvw G 0) (jvw J 0) (xs (i + (1 : Int32)).toNatClampNeg)).bind (fun v1 => (p_X6_threes N (jvw G 70) (jvw J 70) (xs (i + (1 : Int32)).toNatClampNeg)).bind (fun v3 => jlt (jpt G 70 15 v3.2) fun G5 => if v1 = v3.1 then (some (G5, J)) else (none)))
set_option maxHeartbeats 4000000 in
set_option maxRecDepth 100000 in
theorem t_case_38 {Tz : jX → Prop} (hT1 : ∀ X ad al, Tz X → Tz (jxa X ad al)) (hT2 : ∀ X, Tz X → Tz (jof X)) {Ln : Nat} {xs : Nat → Int32} {X : jX} {k n : Nat} (hM : jMZ Tz X kL_c38 RL (tbLZ Ln xs) 8 ⟨12, 601024, 7293034, 436⟩ (some .boolean) 94) (hk : k + 40 ≤ 601024) (hn : n + 240 ≤ 7293034) (N : Nat) (G : Nat → Nat → Int32) (J : Nat → Nat → Int64) (i : Int32) (hj1 : jin (i + 1) Ln = true) (hj2 : jin (i + 2) Ln = true) (hj3 : jin (i + 3) Ln = true) (hj4 : jin (i + 4) Ln = true) (hj5 : jin (i + 5) Ln = true) (res : (Nat → Nat → Int32) × (Nat → Nat → Int64)) (h : p_case_38 N xs G J i = some res) (K : ∀ X9, jMZ Tz X9 kL_c38 RL (tbLZ Ln xs) 8 ⟨12, 601024, 7293034, 436⟩ (some .boolean) 94 → JW X9 (k + 40) (n + 240) 2667 [some (.ref 2000000), some (.ref 0), some (.ref 70), some (.ref 85), some (.int i), none, none, none] [] (hLaw res.1 res.2)) : JW X k n 2305 [some (.ref 2000000), some (.ref 0), some (.ref 70), some (.ref 85), some (.int i), none, none, none] [] (hLaw G J) := by
  unfold p_case_38 at h
  refine JW.rZ hM 0 6 (pc2 := 2312) (L2 := [some (.ref 2000000), some (.ref 0), some (.ref 70), some (.ref 85), some (.int i), none, none, none]) (st2 := [.int (xs (i + (1 : Int32)).toNatClampNeg), .ref 0]) (μ2 := (hLaw G J)) rfl ⟨hj1, trivial⟩ ?_
  obtain ⟨v1, hv2, h⟩ := jbd h
  refine JW.cVZ (v := some (.int v1)) hM (m_X5_threes (jVX X) hM.1.2.2.2.2.2.2.2.2.2.1 N (jvw G 0) (jvw J 0) (xs (i + (1 : Int32)).toNatClampNeg) v1 hv2) (sb_Law_X_0 G J) (bi_Law_X_0 G J) rfl rfl rfl kc_L_264 rfl rfl rfl rfl (show k + 0 ≤ 601024 from by omega) (show n + 0 ≤ 7293034 from by omega) rfl (jat hM.2.1 6 rfl) (st := []) rfl ?_
  show JW X (k + 0) (n + 0) 2315 [some (.ref 2000000), some (.ref 0), some (.ref 70), some (.ref 85), some (.int i), none, none, none] [.int v1] (hLaw G J)
  refine JW.rZ hM 7 6 (pc2 := 2322) (L2 := [some (.ref 2000000), some (.ref 0), some (.ref 70), some (.ref 85), some (.int i), none, none, none]) (st2 := [.int (xs (i + (1 : Int32)).toNatClampNeg), .ref 70, .int v1]) (μ2 := (hLaw G J)) rfl ⟨hj1, trivial⟩ ?_
  obtain ⟨v3, hv4, h⟩ := jbd h
  refine JW.cVZ (v := some (.int v3.1)) hM (m_X6_threes (jVX X) hM.1.2.2.2.2.2.2.2.2.2.1 N (jvw G 70) (jvw J 70) (xs (i + (1 : Int32)).toNatClampNeg) v3 hv4) (sb_Law_Mo_70 G J) (bk_Law_Mo_70 G J v3.2 (jvw J 70)) rfl rfl rfl kc_L_267 rfl rfl rfl rfl (show k + 0 + 0 ≤ 601024 from by omega) (show n + 0 + 0 ≤ 7293034 from by omega) rfl (jat hM.2.1 13 rfl) (st := [.int v1]) rfl ?_
  show JW X (k + 0 + 0) (n + 0 + 0) 2325 [some (.ref 2000000), some (.ref 0), some (.ref 70), some (.ref 85), some (.int i), none, none, none] [.int v3.1, .int v1] (hLaw (jpt G 70 15 v3.2) J)
  obtain ⟨G5, e6, h⟩ := jlE h
  rw [e6]
  refine js_iceq (t := 2667) hM.1 (jat hM.2.1 14 rfl) rfl (fun hc7 => ?_) (fun hc7 => ?_)
  · have h := (if_pos hc7).symm.trans h
    obtain rfl := Option.some.inj h
    refine JW.widen (k2 := k + 40) (n2 := n + 240) (by omega) (by omega) (JW.mask [true, true, true, true, true, false, false, false] ?_)
    exact K X hM
  · have h := (if_neg hc7).symm.trans h
    cases h

def p_case_39 (N : Nat) (xs : Nat → Int32) (G : Nat → Nat → Int32) (J : Nat → Nat → Int64) (i : Int32) : Option ((Nat → Nat → Int32) × (Nat → Nat → Int64)) :=
  (p_X5_misplaced N (jvw G 0) (jvw J 0)).bind (fun v1 => (p_X6_misplaced N (jvw G 70) (jvw J 70)).bind (fun v3 => jlt (jpt G 70 15 v3.2) fun G5 => if v1 = v3.1 then (some (G5, J)) else (none)))
set_option maxHeartbeats 4000000 in
set_option maxRecDepth 100000 in
theorem t_case_39 {Tz : jX → Prop} (hT1 : ∀ X ad al, Tz X → Tz (jxa X ad al)) (hT2 : ∀ X, Tz X → Tz (jof X)) {Ln : Nat} {xs : Nat → Int32} {X : jX} {k n : Nat} (hM : jMZ Tz X kL_c39 RL (tbLZ Ln xs) 8 ⟨12, 601024, 7293034, 436⟩ (some .boolean) 94) (hk : k + 40 ≤ 601024) (hn : n + 240 ≤ 7293034) (N : Nat) (G : Nat → Nat → Int32) (J : Nat → Nat → Int64) (i : Int32) (hj1 : jin (i + 1) Ln = true) (hj2 : jin (i + 2) Ln = true) (hj3 : jin (i + 3) Ln = true) (hj4 : jin (i + 4) Ln = true) (hj5 : jin (i + 5) Ln = true) (res : (Nat → Nat → Int32) × (Nat → Nat → Int64)) (h : p_case_39 N xs G J i = some res) (K : ∀ X9, jMZ Tz X9 kL_c39 RL (tbLZ Ln xs) 8 ⟨12, 601024, 7293034, 436⟩ (some .boolean) 94 → JW X9 (k + 40) (n + 240) 2667 [some (.ref 2000000), some (.ref 0), some (.ref 70), some (.ref 85), some (.int i), none, none, none] [] (hLaw res.1 res.2)) : JW X k n 2330 [some (.ref 2000000), some (.ref 0), some (.ref 70), some (.ref 85), some (.int i), none, none, none] [] (hLaw G J) := by
  unfold p_case_39 at h
  refine JW.rZ hM 0 1 (pc2 := 2331) (L2 := [some (.ref 2000000), some (.ref 0), some (.ref 70), some (.ref 85), some (.int i), none, none, none]) (st2 := [.ref 0]) (μ2 := (hLaw G J)) rfl trivial ?_
  obtain ⟨v1, hv2, h⟩ := jbd h
  refine JW.cVZ (v := some (.int v1)) hM (m_X5_misplaced (jVX X) hM.1.2.2.2.2.2.2.2.2.2.1 N (jvw G 0) (jvw J 0) v1 hv2) (sb_Law_X_0 G J) (bi_Law_X_0 G J) rfl rfl rfl kc_L_268 rfl rfl rfl rfl (show k + 0 ≤ 601024 from by omega) (show n + 0 ≤ 7293034 from by omega) rfl (jat hM.2.1 1 rfl) (st := []) rfl ?_
  show JW X (k + 0) (n + 0) 2334 [some (.ref 2000000), some (.ref 0), some (.ref 70), some (.ref 85), some (.int i), none, none, none] [.int v1] (hLaw G J)
  refine JW.rZ hM 2 1 (pc2 := 2335) (L2 := [some (.ref 2000000), some (.ref 0), some (.ref 70), some (.ref 85), some (.int i), none, none, none]) (st2 := [.ref 70, .int v1]) (μ2 := (hLaw G J)) rfl trivial ?_
  obtain ⟨v3, hv4, h⟩ := jbd h
  refine JW.cVZ (v := some (.int v3.1)) hM (m_X6_misplaced (jVX X) hM.1.2.2.2.2.2.2.2.2.2.1 N (jvw G 70) (jvw J 70) v3 hv4) (sb_Law_Mo_70 G J) (bk_Law_Mo_70 G J v3.2 (jvw J 70)) rfl rfl rfl kc_L_271 rfl rfl rfl rfl (show k + 0 + 0 ≤ 601024 from by omega) (show n + 0 + 0 ≤ 7293034 from by omega) rfl (jat hM.2.1 3 rfl) (st := [.int v1]) rfl ?_
  show JW X (k + 0 + 0) (n + 0 + 0) 2338 [some (.ref 2000000), some (.ref 0), some (.ref 70), some (.ref 85), some (.int i), none, none, none] [.int v3.1, .int v1] (hLaw (jpt G 70 15 v3.2) J)
  obtain ⟨G5, e6, h⟩ := jlE h
  rw [e6]
  refine js_iceq (t := 2667) hM.1 (jat hM.2.1 4 rfl) rfl (fun hc7 => ?_) (fun hc7 => ?_)
  · have h := (if_pos hc7).symm.trans h
    obtain rfl := Option.some.inj h
    refine JW.widen (k2 := k + 40) (n2 := n + 240) (by omega) (by omega) (JW.mask [true, true, true, true, true, false, false, false] ?_)
    exact K X hM
  · have h := (if_neg hc7).symm.trans h
    cases h

def p_case_40 (N : Nat) (xs : Nat → Int32) (G : Nat → Nat → Int32) (J : Nat → Nat → Int64) (i : Int32) : Option ((Nat → Nat → Int32) × (Nat → Nat → Int64)) :=
  (p_L_tray N (jv2 G 0 70 85) (jv2 J 0 70 85) (xs (i + (1 : Int32)).toNatClampNeg) (xs (i + (2 : Int32)).toNatClampNeg) (xs (i + (3 : Int32)).toNatClampNeg)).bind (fun v1 => jlt (jp2 G 0 70 85 1 v1.2.1) fun G3 => jlt (jp2 J 0 70 85 1 v1.2.2) fun J5 => (p_X6_tray N (jvw G3 70) (jvw J5 70) (xs (i + (1 : Int32)).toNatClampNeg) (xs (i + (2 : Int32)).toNatClampNeg) (xs (i + (3 : Int32)).toNatClampNeg)).bind (fun v7 => jlt (jpt G3 70 15 v7.1) fun G9 => jlt (jpt J5 70 15 v7.2) fun J11 => (p_X6_thrown N (jvw G9 70) (jvw J11 70)).bind (fun v13 => if v13 = v1.1 then (some (G9, J11)) else (none))))
set_option maxHeartbeats 4000000 in
set_option maxRecDepth 100000 in
theorem t_case_40 {Tz : jX → Prop} (hT1 : ∀ X ad al, Tz X → Tz (jxa X ad al)) (hT2 : ∀ X, Tz X → Tz (jof X)) {Ln : Nat} {xs : Nat → Int32} {X : jX} {k n : Nat} (hM : jMZ Tz X kL_c40 RL (tbLZ Ln xs) 8 ⟨12, 601024, 7293034, 436⟩ (some .boolean) 94) (hk : k + 40 ≤ 601024) (hn : n + 240 ≤ 7293034) (N : Nat) (G : Nat → Nat → Int32) (J : Nat → Nat → Int64) (i : Int32) (hj1 : jin (i + 1) Ln = true) (hj2 : jin (i + 2) Ln = true) (hj3 : jin (i + 3) Ln = true) (hj4 : jin (i + 4) Ln = true) (hj5 : jin (i + 5) Ln = true) (res : (Nat → Nat → Int32) × (Nat → Nat → Int64)) (h : p_case_40 N xs G J i = some res) (K : ∀ X9, jMZ Tz X9 kL_c40 RL (tbLZ Ln xs) 8 ⟨12, 601024, 7293034, 436⟩ (some .boolean) 94 → JW X9 (k + 40) (n + 240) 2667 [some (.ref 2000000), some (.ref 0), some (.ref 70), some (.ref 85), some (.int i), none, none, none] [] (hLaw res.1 res.2)) : JW X k n 2343 [some (.ref 2000000), some (.ref 0), some (.ref 70), some (.ref 85), some (.int i), none, none, none] [] (hLaw G J) := by
  unfold p_case_40 at h
  refine JW.rZ hM 0 16 (pc2 := 2362) (L2 := [some (.ref 2000000), some (.ref 0), some (.ref 70), some (.ref 85), some (.int i), none, none, none]) (st2 := [.int (xs (i + (3 : Int32)).toNatClampNeg), .int (xs (i + (2 : Int32)).toNatClampNeg), .int (xs (i + (1 : Int32)).toNatClampNeg), .ref 0]) (μ2 := (hLaw G J)) rfl ⟨hj1, hj2, hj3, trivial⟩ ?_
  obtain ⟨v1, hv2, h⟩ := jbd h
  refine JW.cHZ (v := some (.int v1.1)) hM (m_L_tray (jVX X) hM.1.2.2.2.2.2.2.2.2.2.1 N (jv2 G 0 70 85) (jv2 J 0 70 85) (xs (i + (1 : Int32)).toNatClampNeg) (xs (i + (2 : Int32)).toNatClampNeg) (xs (i + (3 : Int32)).toNatClampNeg) v1 hv2) (sb_Law_W_0_85 G J) (bk_Law_W_0_85 G J v1.2.1 v1.2.2) rfl rfl rfl kh_L_272 rfl rfl (show k + 1 ≤ 601024 from by omega) (show n + 6 ≤ 7293034 from by omega) rfl (jat hM.2.1 16 rfl) (st := []) rfl ?_
  show JW (jof X) (k + 1) (n + 6) 2365 [some (.ref 2000000), some (.ref 0), some (.ref 70), some (.ref 85), some (.int i), none, none, none] [.int v1.1] (hLaw (jp2 G 0 70 85 1 v1.2.1) (jp2 J 0 70 85 1 v1.2.2))
  obtain ⟨G3, e4, h⟩ := jlE h
  rw [e4]
  obtain ⟨J5, e6, h⟩ := jlE h
  rw [e6]
  refine JW.rebY (hM.off (hT2 _)) (hT1 _) (B := 94) (Nat.le_of_ble_eq_true rfl) (Nat.le_of_ble_eq_true rfl) rfl rfl rfl ?_
  clear hM
  intro X hM
  refine JW.rZ hM 17 17 (pc2 := 2386) (L2 := [some (.ref 2000000), some (.ref 0), some (.ref 70), some (.ref 85), some (.int i), some (.int v1.1), none, none]) (st2 := [.int (xs (i + (3 : Int32)).toNatClampNeg), .int (xs (i + (2 : Int32)).toNatClampNeg), .int (xs (i + (1 : Int32)).toNatClampNeg), .ref 70]) (μ2 := (hLaw G3 J5)) rfl ⟨hj1, hj2, hj3, trivial⟩ ?_
  obtain ⟨v7, hv8, h⟩ := jbd h
  refine JW.cVZ (v := none) hM (m_X6_tray (jVX X) hM.1.2.2.2.2.2.2.2.2.2.1 N (jvw G3 70) (jvw J5 70) (xs (i + (1 : Int32)).toNatClampNeg) (xs (i + (2 : Int32)).toNatClampNeg) (xs (i + (3 : Int32)).toNatClampNeg) v7 hv8) (sb_Law_Mo_70 G3 J5) (bk_Law_Mo_70 G3 J5 v7.1 v7.2) rfl rfl rfl kc_L_275 rfl rfl rfl rfl (show k + 1 + 0 ≤ 601024 from by omega) (show n + 6 + 0 ≤ 7293034 from by omega) rfl (jat hM.2.1 34 rfl) (st := []) rfl ?_
  show JW X (k + 1 + 0) (n + 6 + 0) 2389 [some (.ref 2000000), some (.ref 0), some (.ref 70), some (.ref 85), some (.int i), some (.int v1.1), none, none] [] (hLaw (jpt G3 70 15 v7.1) (jpt J5 70 15 v7.2))
  obtain ⟨G9, e10, h⟩ := jlE h
  rw [e10]
  obtain ⟨J11, e12, h⟩ := jlE h
  rw [e12]
  refine JW.rZ hM 35 1 (pc2 := 2390) (L2 := [some (.ref 2000000), some (.ref 0), some (.ref 70), some (.ref 85), some (.int i), some (.int v1.1), none, none]) (st2 := [.ref 70]) (μ2 := (hLaw G9 J11)) rfl trivial ?_
  obtain ⟨v13, hv14, h⟩ := jbd h
  refine JW.cVZ (v := some (.int v13)) hM (m_X6_thrown (jVX X) hM.1.2.2.2.2.2.2.2.2.2.1 N (jvw G9 70) (jvw J11 70) v13 hv14) (sb_Law_Mo_70 G9 J11) (bi_Law_Mo_70 G9 J11) rfl rfl rfl kc_L_140 rfl rfl rfl rfl (show k + 1 + 0 + 0 ≤ 601024 from by omega) (show n + 6 + 0 + 0 ≤ 7293034 from by omega) rfl (jat hM.2.1 36 rfl) (st := []) rfl ?_
  show JW X (k + 1 + 0 + 0) (n + 6 + 0 + 0) 2393 [some (.ref 2000000), some (.ref 0), some (.ref 70), some (.ref 85), some (.int i), some (.int v1.1), none, none] [.int v13] (hLaw G9 J11)
  refine JW.rZ hM 37 1 (pc2 := 2395) (L2 := [some (.ref 2000000), some (.ref 0), some (.ref 70), some (.ref 85), some (.int i), some (.int v1.1), none, none]) (st2 := [.int v1.1, .int v13]) (μ2 := (hLaw G9 J11)) rfl trivial ?_
  refine js_iceq (t := 2400) hM.1 (jat hM.2.1 38 rfl) rfl (fun hc15 => ?_) (fun hc15 => ?_)
  · have h := (if_pos hc15).symm.trans h
    refine JW.rZ hM 41 1 (pc2 := 2667) (L2 := [some (.ref 2000000), some (.ref 0), some (.ref 70), some (.ref 85), some (.int i), some (.int v1.1), none, none]) (st2 := []) (μ2 := (hLaw G9 J11)) rfl trivial ?_
    obtain rfl := Option.some.inj h
    refine JW.widen (k2 := k + 40) (n2 := n + 240) (by omega) (by omega) (JW.mask [true, true, true, true, true, false, false, false] ?_)
    exact K X hM
  · have h := (if_neg hc15).symm.trans h
    cases h

def p_case_41 (N : Nat) (xs : Nat → Int32) (G : Nat → Nat → Int32) (J : Nat → Nat → Int64) (i : Int32) : Option ((Nat → Nat → Int32) × (Nat → Nat → Int64)) :=
  (p_L_write N (jv2 G 0 70 85) (jv2 J 0 70 85) (xs (i + (1 : Int32)).toNatClampNeg) (xs (i + (2 : Int32)).toNatClampNeg) ((((xs (i + (3 : Int32)).toNatClampNeg).toInt64) <<< ((32 : Int32).toInt64 &&& 63)) ||| (((xs (i + (4 : Int32)).toNatClampNeg).toInt64) &&& (4294967295 : Int64)))).bind (fun v1 => jlt (jp2 J 0 70 85 1 v1.2) fun J3 => (p_X6_write N (jvw G 70) (jvw J3 70) (xs (i + (1 : Int32)).toNatClampNeg) (xs (i + (2 : Int32)).toNatClampNeg) ((((xs (i + (3 : Int32)).toNatClampNeg).toInt64) <<< ((32 : Int32).toInt64 &&& 63)) ||| (((xs (i + (4 : Int32)).toNatClampNeg).toInt64) &&& (4294967295 : Int64)))).bind (fun v5 => jlt (jpt G 70 15 v5.2.1) fun G7 => jlt (jpt J3 70 15 v5.2.2) fun J9 => (p_X6_thrown N (jvw G7 70) (jvw J9 70)).bind (fun v11 => if v11 = v1.1 then (if v1.1 = 0 then (if (lg_cmp (J9 85 0) v5.1) = 0 then (some (G7, J9)) else (none)) else (some (G7, J9))) else (none))))
set_option maxHeartbeats 4000000 in
set_option maxRecDepth 100000 in
theorem t_case_41 {Tz : jX → Prop} (hT1 : ∀ X ad al, Tz X → Tz (jxa X ad al)) (hT2 : ∀ X, Tz X → Tz (jof X)) {Ln : Nat} {xs : Nat → Int32} {X : jX} {k n : Nat} (hM : jMZ Tz X kL_c41 RL (tbLZ Ln xs) 8 ⟨12, 601024, 7293034, 436⟩ (some .boolean) 94) (hk : k + 40 ≤ 601024) (hn : n + 240 ≤ 7293034) (N : Nat) (G : Nat → Nat → Int32) (J : Nat → Nat → Int64) (i : Int32) (hj1 : jin (i + 1) Ln = true) (hj2 : jin (i + 2) Ln = true) (hj3 : jin (i + 3) Ln = true) (hj4 : jin (i + 4) Ln = true) (hj5 : jin (i + 5) Ln = true) (res : (Nat → Nat → Int32) × (Nat → Nat → Int64)) (h : p_case_41 N xs G J i = some res) (K : ∀ X9, jMZ Tz X9 kL_c41 RL (tbLZ Ln xs) 8 ⟨12, 601024, 7293034, 436⟩ (some .boolean) 94 → JW X9 (k + 40) (n + 240) 2667 [some (.ref 2000000), some (.ref 0), some (.ref 70), some (.ref 85), some (.int i), none, none, none] [] (hLaw res.1 res.2)) : JW X k n 2403 [some (.ref 2000000), some (.ref 0), some (.ref 70), some (.ref 85), some (.int i), none, none, none] [] (hLaw G J) := by
  unfold p_case_41 at h
  refine JW.rZ hM 0 29 (pc2 := 2439) (L2 := [some (.ref 2000000), some (.ref 0), some (.ref 70), some (.ref 85), some (.int i), none, none, none]) (st2 := [.ref 85, .long ((((xs (i + (3 : Int32)).toNatClampNeg).toInt64) <<< ((32 : Int32).toInt64 &&& 63)) ||| (((xs (i + (4 : Int32)).toNatClampNeg).toInt64) &&& (4294967295 : Int64))), .int (xs (i + (2 : Int32)).toNatClampNeg), .int (xs (i + (1 : Int32)).toNatClampNeg), .ref 0]) (μ2 := (hLaw G J)) rfl ⟨hj1, hj2, hj3, hj4, trivial⟩ ?_
  obtain ⟨v1, hv2, h⟩ := jbd h
  refine JW.cHZ (v := some (.int v1.1)) hM (m_L_write (jVX X) hM.1.2.2.2.2.2.2.2.2.2.1 N (jv2 G 0 70 85) (jv2 J 0 70 85) (xs (i + (1 : Int32)).toNatClampNeg) (xs (i + (2 : Int32)).toNatClampNeg) ((((xs (i + (3 : Int32)).toNatClampNeg).toInt64) <<< ((32 : Int32).toInt64 &&& 63)) ||| (((xs (i + (4 : Int32)).toNatClampNeg).toInt64) &&& (4294967295 : Int64))) v1 hv2) (sb_Law_W_0_85 G J) (bk_Law_W_0_85 G J (jv2 G 0 70 85) v1.2) rfl rfl rfl kh_L_278 rfl rfl (show k + 2 ≤ 601024 from by omega) (show n + 12 ≤ 7293034 from by omega) rfl (jat hM.2.1 29 rfl) (st := []) rfl ?_
  show JW (jof X) (k + 2) (n + 12) 2442 [some (.ref 2000000), some (.ref 0), some (.ref 70), some (.ref 85), some (.int i), none, none, none] [.int v1.1] (hLaw G (jp2 J 0 70 85 1 v1.2))
  obtain ⟨J3, e4, h⟩ := jlE h
  rw [e4]
  refine JW.rebY (hM.off (hT2 _)) (hT1 _) (B := 94) (Nat.le_of_ble_eq_true rfl) (Nat.le_of_ble_eq_true rfl) rfl rfl rfl ?_
  clear hM
  intro X hM
  refine JW.rZ hM 30 29 (pc2 := 2479) (L2 := [some (.ref 2000000), some (.ref 0), some (.ref 70), some (.ref 85), some (.int i), some (.int v1.1), none, none]) (st2 := [.long ((((xs (i + (3 : Int32)).toNatClampNeg).toInt64) <<< ((32 : Int32).toInt64 &&& 63)) ||| (((xs (i + (4 : Int32)).toNatClampNeg).toInt64) &&& (4294967295 : Int64))), .int (xs (i + (2 : Int32)).toNatClampNeg), .int (xs (i + (1 : Int32)).toNatClampNeg), .ref 70]) (μ2 := (hLaw G J3)) rfl ⟨hj1, hj2, hj3, hj4, trivial⟩ ?_
  obtain ⟨v5, hv6, h⟩ := jbd h
  refine JW.cVZ (v := some (.long v5.1)) hM (m_X6_write (jVX X) hM.1.2.2.2.2.2.2.2.2.2.1 N (jvw G 70) (jvw J3 70) (xs (i + (1 : Int32)).toNatClampNeg) (xs (i + (2 : Int32)).toNatClampNeg) ((((xs (i + (3 : Int32)).toNatClampNeg).toInt64) <<< ((32 : Int32).toInt64 &&& 63)) ||| (((xs (i + (4 : Int32)).toNatClampNeg).toInt64) &&& (4294967295 : Int64))) v5 hv6) (sb_Law_Mo_70 G J3) (bk_Law_Mo_70 G J3 v5.2.1 v5.2.2) rfl rfl rfl kc_L_281 rfl rfl rfl rfl (show k + 2 + 0 ≤ 601024 from by omega) (show n + 12 + 0 ≤ 7293034 from by omega) rfl (jat hM.2.1 59 rfl) (st := []) rfl ?_
  show JW X (k + 2 + 0) (n + 12 + 0) 2482 [some (.ref 2000000), some (.ref 0), some (.ref 70), some (.ref 85), some (.int i), some (.int v1.1), none, none] [.long v5.1] (hLaw (jpt G 70 15 v5.2.1) (jpt J3 70 15 v5.2.2))
  obtain ⟨G7, e8, h⟩ := jlE h
  rw [e8]
  obtain ⟨J9, e10, h⟩ := jlE h
  rw [e10]
  refine JW.rZ hM 60 2 (pc2 := 2485) (L2 := [some (.ref 2000000), some (.ref 0), some (.ref 70), some (.ref 85), some (.int i), some (.int v1.1), some (.long v5.1), none]) (st2 := [.ref 70]) (μ2 := (hLaw G7 J9)) rfl trivial ?_
  obtain ⟨v11, hv12, h⟩ := jbd h
  refine JW.cVZ (v := some (.int v11)) hM (m_X6_thrown (jVX X) hM.1.2.2.2.2.2.2.2.2.2.1 N (jvw G7 70) (jvw J9 70) v11 hv12) (sb_Law_Mo_70 G7 J9) (bi_Law_Mo_70 G7 J9) rfl rfl rfl kc_L_140 rfl rfl rfl rfl (show k + 2 + 0 + 0 ≤ 601024 from by omega) (show n + 12 + 0 + 0 ≤ 7293034 from by omega) rfl (jat hM.2.1 62 rfl) (st := []) rfl ?_
  show JW X (k + 2 + 0 + 0) (n + 12 + 0 + 0) 2488 [some (.ref 2000000), some (.ref 0), some (.ref 70), some (.ref 85), some (.int i), some (.int v1.1), some (.long v5.1), none] [.int v11] (hLaw G7 J9)
  refine JW.rZ hM 63 1 (pc2 := 2490) (L2 := [some (.ref 2000000), some (.ref 0), some (.ref 70), some (.ref 85), some (.int i), some (.int v1.1), some (.long v5.1), none]) (st2 := [.int v1.1, .int v11]) (μ2 := (hLaw G7 J9)) rfl trivial ?_
  refine js_iceq (t := 2495) hM.1 (jat hM.2.1 64 rfl) rfl (fun hc15 => ?_) (fun hc15 => ?_)
  · have h := (if_pos hc15).symm.trans h
    refine JW.rZ hM 67 1 (pc2 := 2497) (L2 := [some (.ref 2000000), some (.ref 0), some (.ref 70), some (.ref 85), some (.int i), some (.int v1.1), some (.long v5.1), none]) (st2 := [.int v1.1]) (μ2 := (hLaw G7 J9)) rfl trivial ?_
    refine js_ifne (t := 2511) hM.1 (jat hM.2.1 68 rfl) rfl (fun hc14 => ?_) (fun hc14 => ?_)
    · have h := (if_neg hc14).symm.trans h
      refine JW.rZ hM 77 1 (pc2 := 2667) (L2 := [some (.ref 2000000), some (.ref 0), some (.ref 70), some (.ref 85), some (.int i), some (.int v1.1), some (.long v5.1), none]) (st2 := []) (μ2 := (hLaw G7 J9)) rfl trivial ?_
      obtain rfl := Option.some.inj h
      refine JW.widen (k2 := k + 40) (n2 := n + 240) (by omega) (by omega) (JW.mask [true, true, true, true, true, false, false, false] ?_)
      exact K X hM
    · have h := (if_pos hc14).symm.trans h
      refine JW.rZ hM 69 5 (pc2 := 2506) (L2 := [some (.ref 2000000), some (.ref 0), some (.ref 70), some (.ref 85), some (.int i), some (.int v1.1), some (.long v5.1), none]) (st2 := [.int (lg_cmp (J9 85 0) v5.1)]) (μ2 := (hLaw G7 J9)) rfl ⟨rfl, trivial⟩ ?_
      refine js_ifeq (t := 2511) hM.1 (jat hM.2.1 74 rfl) rfl (fun hc13 => ?_) (fun hc13 => ?_)
      · have h := (if_pos hc13).symm.trans h
        refine JW.rZ hM 77 1 (pc2 := 2667) (L2 := [some (.ref 2000000), some (.ref 0), some (.ref 70), some (.ref 85), some (.int i), some (.int v1.1), some (.long v5.1), none]) (st2 := []) (μ2 := (hLaw G7 J9)) rfl trivial ?_
        obtain rfl := Option.some.inj h
        refine JW.widen (k2 := k + 40) (n2 := n + 240) (by omega) (by omega) (JW.mask [true, true, true, true, true, false, false, false] ?_)
        exact K X hM
      · have h := (if_neg hc13).symm.trans h
        cases h
  · have h := (if_neg hc15).symm.trans h
    cases h

def p_case_42 (N : Nat) (xs : Nat → Int32) (G : Nat → Nat → Int32) (J : Nat → Nat → Int64) (i : Int32) : Option ((Nat → Nat → Int32) × (Nat → Nat → Int64)) :=
  (p_L_pour N (jv2 G 0 70 85) (jv2 J 0 70 85) (xs (i + (1 : Int32)).toNatClampNeg)).bind (fun v1 => jlt (jp2 J 0 70 85 1 v1.2) fun J3 => (p_X6_pour N (jvw G 70) (jvw J3 70) (xs (i + (1 : Int32)).toNatClampNeg)).bind (fun v5 => jlt (jpt G 70 15 v5.2.1) fun G7 => jlt (jpt J3 70 15 v5.2.2) fun J9 => (p_X6_thrown N (jvw G7 70) (jvw J9 70)).bind (fun v11 => if v11 = v1.1 then (if v1.1 = 0 then (if (lg_cmp (J9 85 0) (v5.1.toInt64)) = 0 then (some (G7, J9)) else (none)) else (some (G7, J9))) else (none))))
set_option maxHeartbeats 4000000 in
set_option maxRecDepth 100000 in
theorem t_case_42 {Tz : jX → Prop} (hT1 : ∀ X ad al, Tz X → Tz (jxa X ad al)) (hT2 : ∀ X, Tz X → Tz (jof X)) {Ln : Nat} {xs : Nat → Int32} {X : jX} {k n : Nat} (hM : jMZ Tz X kL_c42 RL (tbLZ Ln xs) 8 ⟨12, 601024, 7293034, 436⟩ (some .boolean) 94) (hk : k + 40 ≤ 601024) (hn : n + 240 ≤ 7293034) (N : Nat) (G : Nat → Nat → Int32) (J : Nat → Nat → Int64) (i : Int32) (hj1 : jin (i + 1) Ln = true) (hj2 : jin (i + 2) Ln = true) (hj3 : jin (i + 3) Ln = true) (hj4 : jin (i + 4) Ln = true) (hj5 : jin (i + 5) Ln = true) (res : (Nat → Nat → Int32) × (Nat → Nat → Int64)) (h : p_case_42 N xs G J i = some res) (K : ∀ X9, jMZ Tz X9 kL_c42 RL (tbLZ Ln xs) 8 ⟨12, 601024, 7293034, 436⟩ (some .boolean) 94 → JW X9 (k + 40) (n + 240) 2667 [some (.ref 2000000), some (.ref 0), some (.ref 70), some (.ref 85), some (.int i), none, none, none] [] (hLaw res.1 res.2)) : JW X k n 2514 [some (.ref 2000000), some (.ref 0), some (.ref 70), some (.ref 85), some (.int i), none, none, none] [] (hLaw G J) := by
  unfold p_case_42 at h
  refine JW.rZ hM 0 7 (pc2 := 2522) (L2 := [some (.ref 2000000), some (.ref 0), some (.ref 70), some (.ref 85), some (.int i), none, none, none]) (st2 := [.ref 85, .int (xs (i + (1 : Int32)).toNatClampNeg), .ref 0]) (μ2 := (hLaw G J)) rfl ⟨hj1, trivial⟩ ?_
  obtain ⟨v1, hv2, h⟩ := jbd h
  refine JW.cHZ (v := some (.int v1.1)) hM (m_L_pour (jVX X) hM.1.2.2.2.2.2.2.2.2.2.1 N (jv2 G 0 70 85) (jv2 J 0 70 85) (xs (i + (1 : Int32)).toNatClampNeg) v1 hv2) (sb_Law_W_0_85 G J) (bk_Law_W_0_85 G J (jv2 G 0 70 85) v1.2) rfl rfl rfl kh_L_282 rfl rfl (show k + 1 ≤ 601024 from by omega) (show n + 6 ≤ 7293034 from by omega) rfl (jat hM.2.1 7 rfl) (st := []) rfl ?_
  show JW (jof X) (k + 1) (n + 6) 2525 [some (.ref 2000000), some (.ref 0), some (.ref 70), some (.ref 85), some (.int i), none, none, none] [.int v1.1] (hLaw G (jp2 J 0 70 85 1 v1.2))
  obtain ⟨J3, e4, h⟩ := jlE h
  rw [e4]
  refine JW.rebY (hM.off (hT2 _)) (hT1 _) (B := 94) (Nat.le_of_ble_eq_true rfl) (Nat.le_of_ble_eq_true rfl) rfl rfl rfl ?_
  clear hM
  intro X hM
  refine JW.rZ hM 8 7 (pc2 := 2534) (L2 := [some (.ref 2000000), some (.ref 0), some (.ref 70), some (.ref 85), some (.int i), some (.int v1.1), none, none]) (st2 := [.int (xs (i + (1 : Int32)).toNatClampNeg), .ref 70]) (μ2 := (hLaw G J3)) rfl ⟨hj1, trivial⟩ ?_
  obtain ⟨v5, hv6, h⟩ := jbd h
  refine JW.cVZ (v := some (.int v5.1)) hM (m_X6_pour (jVX X) hM.1.2.2.2.2.2.2.2.2.2.1 N (jvw G 70) (jvw J3 70) (xs (i + (1 : Int32)).toNatClampNeg) v5 hv6) (sb_Law_Mo_70 G J3) (bk_Law_Mo_70 G J3 v5.2.1 v5.2.2) rfl rfl rfl kc_L_284 rfl rfl rfl rfl (show k + 1 + 0 ≤ 601024 from by omega) (show n + 6 + 0 ≤ 7293034 from by omega) rfl (jat hM.2.1 15 rfl) (st := []) rfl ?_
  show JW X (k + 1 + 0) (n + 6 + 0) 2537 [some (.ref 2000000), some (.ref 0), some (.ref 70), some (.ref 85), some (.int i), some (.int v1.1), none, none] [.int v5.1] (hLaw (jpt G 70 15 v5.2.1) (jpt J3 70 15 v5.2.2))
  obtain ⟨G7, e8, h⟩ := jlE h
  rw [e8]
  obtain ⟨J9, e10, h⟩ := jlE h
  rw [e10]
  refine JW.rZ hM 16 2 (pc2 := 2540) (L2 := [some (.ref 2000000), some (.ref 0), some (.ref 70), some (.ref 85), some (.int i), some (.int v1.1), some (.int v5.1), none]) (st2 := [.ref 70]) (μ2 := (hLaw G7 J9)) rfl trivial ?_
  obtain ⟨v11, hv12, h⟩ := jbd h
  refine JW.cVZ (v := some (.int v11)) hM (m_X6_thrown (jVX X) hM.1.2.2.2.2.2.2.2.2.2.1 N (jvw G7 70) (jvw J9 70) v11 hv12) (sb_Law_Mo_70 G7 J9) (bi_Law_Mo_70 G7 J9) rfl rfl rfl kc_L_140 rfl rfl rfl rfl (show k + 1 + 0 + 0 ≤ 601024 from by omega) (show n + 6 + 0 + 0 ≤ 7293034 from by omega) rfl (jat hM.2.1 18 rfl) (st := []) rfl ?_
  show JW X (k + 1 + 0 + 0) (n + 6 + 0 + 0) 2543 [some (.ref 2000000), some (.ref 0), some (.ref 70), some (.ref 85), some (.int i), some (.int v1.1), some (.int v5.1), none] [.int v11] (hLaw G7 J9)
  refine JW.rZ hM 19 1 (pc2 := 2545) (L2 := [some (.ref 2000000), some (.ref 0), some (.ref 70), some (.ref 85), some (.int i), some (.int v1.1), some (.int v5.1), none]) (st2 := [.int v1.1, .int v11]) (μ2 := (hLaw G7 J9)) rfl trivial ?_
  refine js_iceq (t := 2550) hM.1 (jat hM.2.1 20 rfl) rfl (fun hc15 => ?_) (fun hc15 => ?_)
  · have h := (if_pos hc15).symm.trans h
    refine JW.rZ hM 23 1 (pc2 := 2552) (L2 := [some (.ref 2000000), some (.ref 0), some (.ref 70), some (.ref 85), some (.int i), some (.int v1.1), some (.int v5.1), none]) (st2 := [.int v1.1]) (μ2 := (hLaw G7 J9)) rfl trivial ?_
    refine js_ifne (t := 2567) hM.1 (jat hM.2.1 24 rfl) rfl (fun hc14 => ?_) (fun hc14 => ?_)
    · have h := (if_neg hc14).symm.trans h
      refine JW.rZ hM 34 1 (pc2 := 2667) (L2 := [some (.ref 2000000), some (.ref 0), some (.ref 70), some (.ref 85), some (.int i), some (.int v1.1), some (.int v5.1), none]) (st2 := []) (μ2 := (hLaw G7 J9)) rfl trivial ?_
      obtain rfl := Option.some.inj h
      refine JW.widen (k2 := k + 40) (n2 := n + 240) (by omega) (by omega) (JW.mask [true, true, true, true, true, false, false, false] ?_)
      exact K X hM
    · have h := (if_pos hc14).symm.trans h
      refine JW.rZ hM 25 6 (pc2 := 2562) (L2 := [some (.ref 2000000), some (.ref 0), some (.ref 70), some (.ref 85), some (.int i), some (.int v1.1), some (.int v5.1), none]) (st2 := [.int (lg_cmp (J9 85 0) (v5.1.toInt64))]) (μ2 := (hLaw G7 J9)) rfl ⟨rfl, trivial⟩ ?_
      refine js_ifeq (t := 2567) hM.1 (jat hM.2.1 31 rfl) rfl (fun hc13 => ?_) (fun hc13 => ?_)
      · have h := (if_pos hc13).symm.trans h
        refine JW.rZ hM 34 1 (pc2 := 2667) (L2 := [some (.ref 2000000), some (.ref 0), some (.ref 70), some (.ref 85), some (.int i), some (.int v1.1), some (.int v5.1), none]) (st2 := []) (μ2 := (hLaw G7 J9)) rfl trivial ?_
        obtain rfl := Option.some.inj h
        refine JW.widen (k2 := k + 40) (n2 := n + 240) (by omega) (by omega) (JW.mask [true, true, true, true, true, false, false, false] ?_)
        exact K X hM
      · have h := (if_neg hc13).symm.trans h
        cases h
  · have h := (if_neg hc15).symm.trans h
    cases h

def p_case_43 (N : Nat) (xs : Nat → Int32) (G : Nat → Nat → Int32) (J : Nat → Nat → Int64) (i : Int32) : Option ((Nat → Nat → Int32) × (Nat → Nat → Int64)) :=
  (p_L_image N (jv2 G 0 70 85) (jv2 J 0 70 85) (xs (i + (1 : Int32)).toNatClampNeg)).bind (fun v1 => jlt (jp2 G 0 70 85 1 v1.2) fun G3 => (p_X6_image N (jvw G3 70) (jvw J 70) (xs (i + (1 : Int32)).toNatClampNeg)).bind (fun v5 => jlt (jpt G3 70 15 v5) fun G7 => (p_X6_thrown N (jvw G7 70) (jvw J 70)).bind (fun v9 => if v9 = v1.1 then (some (G7, J)) else (none))))
set_option maxHeartbeats 4000000 in
set_option maxRecDepth 100000 in
theorem t_case_43 {Tz : jX → Prop} (hT1 : ∀ X ad al, Tz X → Tz (jxa X ad al)) (hT2 : ∀ X, Tz X → Tz (jof X)) {Ln : Nat} {xs : Nat → Int32} {X : jX} {k n : Nat} (hM : jMZ Tz X kL_c43 RL (tbLZ Ln xs) 8 ⟨12, 601024, 7293034, 436⟩ (some .boolean) 94) (hk : k + 40 ≤ 601024) (hn : n + 240 ≤ 7293034) (N : Nat) (G : Nat → Nat → Int32) (J : Nat → Nat → Int64) (i : Int32) (hj1 : jin (i + 1) Ln = true) (hj2 : jin (i + 2) Ln = true) (hj3 : jin (i + 3) Ln = true) (hj4 : jin (i + 4) Ln = true) (hj5 : jin (i + 5) Ln = true) (res : (Nat → Nat → Int32) × (Nat → Nat → Int64)) (h : p_case_43 N xs G J i = some res) (K : ∀ X9, jMZ Tz X9 kL_c43 RL (tbLZ Ln xs) 8 ⟨12, 601024, 7293034, 436⟩ (some .boolean) 94 → JW X9 (k + 40) (n + 240) 2667 [some (.ref 2000000), some (.ref 0), some (.ref 70), some (.ref 85), some (.int i), none, none, none] [] (hLaw res.1 res.2)) : JW X k n 2570 [some (.ref 2000000), some (.ref 0), some (.ref 70), some (.ref 85), some (.int i), none, none, none] [] (hLaw G J) := by
  unfold p_case_43 at h
  refine JW.rZ hM 0 6 (pc2 := 2577) (L2 := [some (.ref 2000000), some (.ref 0), some (.ref 70), some (.ref 85), some (.int i), none, none, none]) (st2 := [.int (xs (i + (1 : Int32)).toNatClampNeg), .ref 0]) (μ2 := (hLaw G J)) rfl ⟨hj1, trivial⟩ ?_
  obtain ⟨v1, hv2, h⟩ := jbd h
  refine JW.cHZ (v := some (.int v1.1)) hM (m_L_image (jVX X) hM.1.2.2.2.2.2.2.2.2.2.1 N (jv2 G 0 70 85) (jv2 J 0 70 85) (xs (i + (1 : Int32)).toNatClampNeg) v1 hv2) (sb_Law_W_0_85 G J) (bk_Law_W_0_85 G J v1.2 (jv2 J 0 70 85)) rfl rfl rfl kh_L_285 rfl rfl (show k + 1 ≤ 601024 from by omega) (show n + 6 ≤ 7293034 from by omega) rfl (jat hM.2.1 6 rfl) (st := []) rfl ?_
  show JW (jof X) (k + 1) (n + 6) 2580 [some (.ref 2000000), some (.ref 0), some (.ref 70), some (.ref 85), some (.int i), none, none, none] [.int v1.1] (hLaw (jp2 G 0 70 85 1 v1.2) J)
  obtain ⟨G3, e4, h⟩ := jlE h
  rw [e4]
  refine JW.rebY (hM.off (hT2 _)) (hT1 _) (B := 94) (Nat.le_of_ble_eq_true rfl) (Nat.le_of_ble_eq_true rfl) rfl rfl rfl ?_
  clear hM
  intro X hM
  refine JW.rZ hM 7 7 (pc2 := 2589) (L2 := [some (.ref 2000000), some (.ref 0), some (.ref 70), some (.ref 85), some (.int i), some (.int v1.1), none, none]) (st2 := [.int (xs (i + (1 : Int32)).toNatClampNeg), .ref 70]) (μ2 := (hLaw G3 J)) rfl ⟨hj1, trivial⟩ ?_
  obtain ⟨v5, hv6, h⟩ := jbd h
  refine JW.cVZ (v := none) hM (m_X6_image (jVX X) hM.1.2.2.2.2.2.2.2.2.2.1 N (jvw G3 70) (jvw J 70) (xs (i + (1 : Int32)).toNatClampNeg) v5 hv6) (sb_Law_Mo_70 G3 J) (bk_Law_Mo_70 G3 J v5 (jvw J 70)) rfl rfl rfl kc_L_288 rfl rfl rfl rfl (show k + 1 + 0 ≤ 601024 from by omega) (show n + 6 + 0 ≤ 7293034 from by omega) rfl (jat hM.2.1 14 rfl) (st := []) rfl ?_
  show JW X (k + 1 + 0) (n + 6 + 0) 2592 [some (.ref 2000000), some (.ref 0), some (.ref 70), some (.ref 85), some (.int i), some (.int v1.1), none, none] [] (hLaw (jpt G3 70 15 v5) J)
  obtain ⟨G7, e8, h⟩ := jlE h
  rw [e8]
  refine JW.rZ hM 15 1 (pc2 := 2593) (L2 := [some (.ref 2000000), some (.ref 0), some (.ref 70), some (.ref 85), some (.int i), some (.int v1.1), none, none]) (st2 := [.ref 70]) (μ2 := (hLaw G7 J)) rfl trivial ?_
  obtain ⟨v9, hv10, h⟩ := jbd h
  refine JW.cVZ (v := some (.int v9)) hM (m_X6_thrown (jVX X) hM.1.2.2.2.2.2.2.2.2.2.1 N (jvw G7 70) (jvw J 70) v9 hv10) (sb_Law_Mo_70 G7 J) (bi_Law_Mo_70 G7 J) rfl rfl rfl kc_L_140 rfl rfl rfl rfl (show k + 1 + 0 + 0 ≤ 601024 from by omega) (show n + 6 + 0 + 0 ≤ 7293034 from by omega) rfl (jat hM.2.1 16 rfl) (st := []) rfl ?_
  show JW X (k + 1 + 0 + 0) (n + 6 + 0 + 0) 2596 [some (.ref 2000000), some (.ref 0), some (.ref 70), some (.ref 85), some (.int i), some (.int v1.1), none, none] [.int v9] (hLaw G7 J)
  refine JW.rZ hM 17 1 (pc2 := 2598) (L2 := [some (.ref 2000000), some (.ref 0), some (.ref 70), some (.ref 85), some (.int i), some (.int v1.1), none, none]) (st2 := [.int v1.1, .int v9]) (μ2 := (hLaw G7 J)) rfl trivial ?_
  refine js_iceq (t := 2603) hM.1 (jat hM.2.1 18 rfl) rfl (fun hc11 => ?_) (fun hc11 => ?_)
  · have h := (if_pos hc11).symm.trans h
    refine JW.rZ hM 21 1 (pc2 := 2667) (L2 := [some (.ref 2000000), some (.ref 0), some (.ref 70), some (.ref 85), some (.int i), some (.int v1.1), none, none]) (st2 := []) (μ2 := (hLaw G7 J)) rfl trivial ?_
    obtain rfl := Option.some.inj h
    refine JW.widen (k2 := k + 40) (n2 := n + 240) (by omega) (by omega) (JW.mask [true, true, true, true, true, false, false, false] ?_)
    exact K X hM
  · have h := (if_neg hc11).symm.trans h
    cases h

def p_case_44 (N : Nat) (xs : Nat → Int32) (G : Nat → Nat → Int32) (J : Nat → Nat → Int64) (i : Int32) : Option ((Nat → Nat → Int32) × (Nat → Nat → Int64)) :=
  (p_L_restore N (jv2 G 0 70 85) (jv2 J 0 70 85) (xs (i + (1 : Int32)).toNatClampNeg)).bind (fun v1 => jlt (jp2 G 0 70 85 1 v1.2) fun G3 => (p_X6_restore N (jvw G3 70) (jvw J 70) (xs (i + (1 : Int32)).toNatClampNeg)).bind (fun v5 => jlt (jpt G3 70 15 v5) fun G7 => (p_X6_thrown N (jvw G7 70) (jvw J 70)).bind (fun v9 => if v9 = v1.1 then (some (G7, J)) else (none))))
set_option maxHeartbeats 4000000 in
set_option maxRecDepth 100000 in
theorem t_case_44 {Tz : jX → Prop} (hT1 : ∀ X ad al, Tz X → Tz (jxa X ad al)) (hT2 : ∀ X, Tz X → Tz (jof X)) {Ln : Nat} {xs : Nat → Int32} {X : jX} {k n : Nat} (hM : jMZ Tz X kL_c44 RL (tbLZ Ln xs) 8 ⟨12, 601024, 7293034, 436⟩ (some .boolean) 94) (hk : k + 40 ≤ 601024) (hn : n + 240 ≤ 7293034) (N : Nat) (G : Nat → Nat → Int32) (J : Nat → Nat → Int64) (i : Int32) (hj1 : jin (i + 1) Ln = true) (hj2 : jin (i + 2) Ln = true) (hj3 : jin (i + 3) Ln = true) (hj4 : jin (i + 4) Ln = true) (hj5 : jin (i + 5) Ln = true) (res : (Nat → Nat → Int32) × (Nat → Nat → Int64)) (h : p_case_44 N xs G J i = some res) (K : ∀ X9, jMZ Tz X9 kL_c44 RL (tbLZ Ln xs) 8 ⟨12, 601024, 7293034, 436⟩ (some .boolean) 94 → JW X9 (k + 40) (n + 240) 2667 [some (.ref 2000000), some (.ref 0), some (.ref 70), some (.ref 85), some (.int i), none, none, none] [] (hLaw res.1 res.2)) : JW X k n 2606 [some (.ref 2000000), some (.ref 0), some (.ref 70), some (.ref 85), some (.int i), none, none, none] [] (hLaw G J) := by
  unfold p_case_44 at h
  refine JW.rZ hM 0 6 (pc2 := 2613) (L2 := [some (.ref 2000000), some (.ref 0), some (.ref 70), some (.ref 85), some (.int i), none, none, none]) (st2 := [.int (xs (i + (1 : Int32)).toNatClampNeg), .ref 0]) (μ2 := (hLaw G J)) rfl ⟨hj1, trivial⟩ ?_
  obtain ⟨v1, hv2, h⟩ := jbd h
  refine JW.cHZ (v := some (.int v1.1)) hM (m_L_restore (jVX X) hM.1.2.2.2.2.2.2.2.2.2.1 N (jv2 G 0 70 85) (jv2 J 0 70 85) (xs (i + (1 : Int32)).toNatClampNeg) v1 hv2) (sb_Law_W_0_85 G J) (bk_Law_W_0_85 G J v1.2 (jv2 J 0 70 85)) rfl rfl rfl kh_L_289 rfl rfl (show k + 2 ≤ 601024 from by omega) (show n + 12 ≤ 7293034 from by omega) rfl (jat hM.2.1 6 rfl) (st := []) rfl ?_
  show JW (jof X) (k + 2) (n + 12) 2616 [some (.ref 2000000), some (.ref 0), some (.ref 70), some (.ref 85), some (.int i), none, none, none] [.int v1.1] (hLaw (jp2 G 0 70 85 1 v1.2) J)
  obtain ⟨G3, e4, h⟩ := jlE h
  rw [e4]
  refine JW.rebY (hM.off (hT2 _)) (hT1 _) (B := 94) (Nat.le_of_ble_eq_true rfl) (Nat.le_of_ble_eq_true rfl) rfl rfl rfl ?_
  clear hM
  intro X hM
  refine JW.rZ hM 7 7 (pc2 := 2625) (L2 := [some (.ref 2000000), some (.ref 0), some (.ref 70), some (.ref 85), some (.int i), some (.int v1.1), none, none]) (st2 := [.int (xs (i + (1 : Int32)).toNatClampNeg), .ref 70]) (μ2 := (hLaw G3 J)) rfl ⟨hj1, trivial⟩ ?_
  obtain ⟨v5, hv6, h⟩ := jbd h
  refine JW.cVZ (v := none) hM (m_X6_restore (jVX X) hM.1.2.2.2.2.2.2.2.2.2.1 N (jvw G3 70) (jvw J 70) (xs (i + (1 : Int32)).toNatClampNeg) v5 hv6) (sb_Law_Mo_70 G3 J) (bk_Law_Mo_70 G3 J v5 (jvw J 70)) rfl rfl rfl kc_L_291 rfl rfl rfl rfl (show k + 2 + 0 ≤ 601024 from by omega) (show n + 12 + 0 ≤ 7293034 from by omega) rfl (jat hM.2.1 14 rfl) (st := []) rfl ?_
  show JW X (k + 2 + 0) (n + 12 + 0) 2628 [some (.ref 2000000), some (.ref 0), some (.ref 70), some (.ref 85), some (.int i), some (.int v1.1), none, none] [] (hLaw (jpt G3 70 15 v5) J)
  obtain ⟨G7, e8, h⟩ := jlE h
  rw [e8]
  refine JW.rZ hM 15 1 (pc2 := 2629) (L2 := [some (.ref 2000000), some (.ref 0), some (.ref 70), some (.ref 85), some (.int i), some (.int v1.1), none, none]) (st2 := [.ref 70]) (μ2 := (hLaw G7 J)) rfl trivial ?_
  obtain ⟨v9, hv10, h⟩ := jbd h
  refine JW.cVZ (v := some (.int v9)) hM (m_X6_thrown (jVX X) hM.1.2.2.2.2.2.2.2.2.2.1 N (jvw G7 70) (jvw J 70) v9 hv10) (sb_Law_Mo_70 G7 J) (bi_Law_Mo_70 G7 J) rfl rfl rfl kc_L_140 rfl rfl rfl rfl (show k + 2 + 0 + 0 ≤ 601024 from by omega) (show n + 12 + 0 + 0 ≤ 7293034 from by omega) rfl (jat hM.2.1 16 rfl) (st := []) rfl ?_
  show JW X (k + 2 + 0 + 0) (n + 12 + 0 + 0) 2632 [some (.ref 2000000), some (.ref 0), some (.ref 70), some (.ref 85), some (.int i), some (.int v1.1), none, none] [.int v9] (hLaw G7 J)
  refine JW.rZ hM 17 1 (pc2 := 2634) (L2 := [some (.ref 2000000), some (.ref 0), some (.ref 70), some (.ref 85), some (.int i), some (.int v1.1), none, none]) (st2 := [.int v1.1, .int v9]) (μ2 := (hLaw G7 J)) rfl trivial ?_
  refine js_iceq (t := 2639) hM.1 (jat hM.2.1 18 rfl) rfl (fun hc11 => ?_) (fun hc11 => ?_)
  · have h := (if_pos hc11).symm.trans h
    refine JW.rZ hM 21 1 (pc2 := 2667) (L2 := [some (.ref 2000000), some (.ref 0), some (.ref 70), some (.ref 85), some (.int i), some (.int v1.1), none, none]) (st2 := []) (μ2 := (hLaw G7 J)) rfl trivial ?_
    obtain rfl := Option.some.inj h
    refine JW.widen (k2 := k + 40) (n2 := n + 240) (by omega) (by omega) (JW.mask [true, true, true, true, true, false, false, false] ?_)
    exact K X hM
  · have h := (if_neg hc11).symm.trans h
    cases h

def p_case_45 (N : Nat) (xs : Nat → Int32) (G : Nat → Nat → Int32) (J : Nat → Nat → Int64) (i : Int32) : Option ((Nat → Nat → Int32) × (Nat → Nat → Int64)) :=
  (p_X5_count N (jvw G 0) (jvw J 0) (xs (i + (1 : Int32)).toNatClampNeg)).bind (fun v1 => (p_X6_count N (jvw G 70) (jvw J 70) (xs (i + (1 : Int32)).toNatClampNeg)).bind (fun v3 => jlt (jpt G 70 15 v3.2) fun G5 => if v1 = v3.1 then (some (G5, J)) else (none)))
set_option maxHeartbeats 4000000 in
set_option maxRecDepth 100000 in
theorem t_case_45 {Tz : jX → Prop} (hT1 : ∀ X ad al, Tz X → Tz (jxa X ad al)) (hT2 : ∀ X, Tz X → Tz (jof X)) {Ln : Nat} {xs : Nat → Int32} {X : jX} {k n : Nat} (hM : jMZ Tz X kL_c45 RL (tbLZ Ln xs) 8 ⟨12, 601024, 7293034, 436⟩ (some .boolean) 94) (hk : k + 40 ≤ 601024) (hn : n + 240 ≤ 7293034) (N : Nat) (G : Nat → Nat → Int32) (J : Nat → Nat → Int64) (i : Int32) (hj1 : jin (i + 1) Ln = true) (hj2 : jin (i + 2) Ln = true) (hj3 : jin (i + 3) Ln = true) (hj4 : jin (i + 4) Ln = true) (hj5 : jin (i + 5) Ln = true) (res : (Nat → Nat → Int32) × (Nat → Nat → Int64)) (h : p_case_45 N xs G J i = some res) (K : ∀ X9, jMZ Tz X9 kL_c45 RL (tbLZ Ln xs) 8 ⟨12, 601024, 7293034, 436⟩ (some .boolean) 94 → JW X9 (k + 40) (n + 240) 2667 [some (.ref 2000000), some (.ref 0), some (.ref 70), some (.ref 85), some (.int i), none, none, none] [] (hLaw res.1 res.2)) : JW X k n 2642 [some (.ref 2000000), some (.ref 0), some (.ref 70), some (.ref 85), some (.int i), none, none, none] [] (hLaw G J) := by
  unfold p_case_45 at h
  refine JW.rZ hM 0 6 (pc2 := 2649) (L2 := [some (.ref 2000000), some (.ref 0), some (.ref 70), some (.ref 85), some (.int i), none, none, none]) (st2 := [.int (xs (i + (1 : Int32)).toNatClampNeg), .ref 0]) (μ2 := (hLaw G J)) rfl ⟨hj1, trivial⟩ ?_
  obtain ⟨v1, hv2, h⟩ := jbd h
  refine JW.cVZ (v := some (.int v1)) hM (m_X5_count (jVX X) hM.1.2.2.2.2.2.2.2.2.2.1 N (jvw G 0) (jvw J 0) (xs (i + (1 : Int32)).toNatClampNeg) v1 hv2) (sb_Law_X_0 G J) (bi_Law_X_0 G J) rfl rfl rfl kc_L_292 rfl rfl rfl rfl (show k + 0 ≤ 601024 from by omega) (show n + 0 ≤ 7293034 from by omega) rfl (jat hM.2.1 6 rfl) (st := []) rfl ?_
  show JW X (k + 0) (n + 0) 2652 [some (.ref 2000000), some (.ref 0), some (.ref 70), some (.ref 85), some (.int i), none, none, none] [.int v1] (hLaw G J)
  refine JW.rZ hM 7 6 (pc2 := 2659) (L2 := [some (.ref 2000000), some (.ref 0), some (.ref 70), some (.ref 85), some (.int i), none, none, none]) (st2 := [.int (xs (i + (1 : Int32)).toNatClampNeg), .ref 70, .int v1]) (μ2 := (hLaw G J)) rfl ⟨hj1, trivial⟩ ?_
  obtain ⟨v3, hv4, h⟩ := jbd h
  refine JW.cVZ (v := some (.int v3.1)) hM (m_X6_count (jVX X) hM.1.2.2.2.2.2.2.2.2.2.1 N (jvw G 70) (jvw J 70) (xs (i + (1 : Int32)).toNatClampNeg) v3 hv4) (sb_Law_Mo_70 G J) (bk_Law_Mo_70 G J v3.2 (jvw J 70)) rfl rfl rfl kc_L_295 rfl rfl rfl rfl (show k + 0 + 0 ≤ 601024 from by omega) (show n + 0 + 0 ≤ 7293034 from by omega) rfl (jat hM.2.1 13 rfl) (st := [.int v1]) rfl ?_
  show JW X (k + 0 + 0) (n + 0 + 0) 2662 [some (.ref 2000000), some (.ref 0), some (.ref 70), some (.ref 85), some (.int i), none, none, none] [.int v3.1, .int v1] (hLaw (jpt G 70 15 v3.2) J)
  obtain ⟨G5, e6, h⟩ := jlE h
  rw [e6]
  refine js_iceq (t := 2667) hM.1 (jat hM.2.1 14 rfl) rfl (fun hc7 => ?_) (fun hc7 => ?_)
  · have h := (if_pos hc7).symm.trans h
    obtain rfl := Option.some.inj h
    refine JW.widen (k2 := k + 40) (n2 := n + 240) (by omega) (by omega) (JW.mask [true, true, true, true, true, false, false, false] ?_)
    exact K X hM
  · have h := (if_neg hc7).symm.trans h
    cases h


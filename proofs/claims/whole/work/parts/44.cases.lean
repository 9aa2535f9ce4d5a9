def p_case_0 (N : Nat) (xs : Nat → Int32) (G : Nat → Nat → Int32) (J : Nat → Nat → Int64) (i : Int32) : Option ((Nat → Nat → Int32) × (Nat → Nat → Int64)) :=
  (p_X5_feed N (jvw G 0) (jvw J 0) (xs (i + (1 : Int32)).toNatClampNeg) (xs (i + (2 : Int32)).toNatClampNeg) (xs (i + (3 : Int32)).toNatClampNeg) (xs (i + (4 : Int32)).toNatClampNeg) (xs (i + (5 : Int32)).toNatClampNeg)).bind (fun v1 => jlt (jpt G 0 70 v1.2) fun G3 => (p_X6_feed N (jvw G3 70) (jvw J 70) (xs (i + (1 : Int32)).toNatClampNeg) (xs (i + (2 : Int32)).toNatClampNeg) (xs (i + (3 : Int32)).toNatClampNeg) (xs (i + (4 : Int32)).toNatClampNeg) (xs (i + (5 : Int32)).toNatClampNeg)).bind (fun v5 => jlt (jpt G3 70 15 v5.2) fun G7 => if v1.1 = v5.1 then (some (G7, J)) else (none)))
set_option maxHeartbeats 4000000 in
set_option maxRecDepth 100000 in
theorem t_case_0 {Tz : jX → Prop} (hT1 : ∀ X ad al, Tz X → Tz (jxa X ad al)) (hT2 : ∀ X, Tz X → Tz (jof X)) {Ln : Nat} {xs : Nat → Int32} {X : jX} {k n : Nat} (hM : jMZ Tz X kL_c0 RL (tbLZ Ln xs) 8 ⟨12, 601024, 7293034, 436⟩ (some .boolean) 94) (hk : k + 40 ≤ 601024) (hn : n + 240 ≤ 7293034) (N : Nat) (G : Nat → Nat → Int32) (J : Nat → Nat → Int64) (i : Int32) (hj1 : jin (i + 1) Ln = true) (hj2 : jin (i + 2) Ln = true) (hj3 : jin (i + 3) Ln = true) (hj4 : jin (i + 4) Ln = true) (hj5 : jin (i + 5) Ln = true) (res : (Nat → Nat → Int32) × (Nat → Nat → Int64)) (h : p_case_0 N xs G J i = some res) (K : ∀ X9, jMZ Tz X9 kL_c0 RL (tbLZ Ln xs) 8 ⟨12, 601024, 7293034, 436⟩ (some .boolean) 94 → JW X9 (k + 40) (n + 240) 2667 [some (.ref 2000000), some (.ref 0), some (.ref 70), some (.ref 85), some (.int i), none, none, none] [] (hLaw res.1 res.2)) : JW X k n 240 [some (.ref 2000000), some (.ref 0), some (.ref 70), some (.ref 85), some (.int i), none, none, none] [] (hLaw G J) := by
  unfold p_case_0 at h
  refine JW.rZ hM 0 26 (pc2 := 271) (L2 := [some (.ref 2000000), some (.ref 0), some (.ref 70), some (.ref 85), some (.int i), none, none, none]) (st2 := [.int (xs (i + (5 : Int32)).toNatClampNeg), .int (xs (i + (4 : Int32)).toNatClampNeg), .int (xs (i + (3 : Int32)).toNatClampNeg), .int (xs (i + (2 : Int32)).toNatClampNeg), .int (xs (i + (1 : Int32)).toNatClampNeg), .ref 0]) (μ2 := (hLaw G J)) rfl ⟨hj1, hj2, hj3, hj4, hj5, trivial⟩ ?_
  obtain ⟨v1, hv2, h⟩ := jbd h
  refine JW.cVZ (v := some (.int v1.1)) hM (m_X5_feed (jVX X) hM.1.2.2.2.2.2.2.2.2.2.1 N (jvw G 0) (jvw J 0) (xs (i + (1 : Int32)).toNatClampNeg) (xs (i + (2 : Int32)).toNatClampNeg) (xs (i + (3 : Int32)).toNatClampNeg) (xs (i + (4 : Int32)).toNatClampNeg) (xs (i + (5 : Int32)).toNatClampNeg) v1 hv2) (sb_Law_X_0 G J) (bk_Law_X_0 G J v1.2 (jvw J 0)) rfl rfl rfl kc_L_129 rfl rfl rfl rfl (show k + 0 ≤ 601024 from by omega) (show n + 0 ≤ 7293034 from by omega) rfl (jat hM.2.1 26 rfl) (st := []) rfl ?_
  show JW X (k + 0) (n + 0) 274 [some (.ref 2000000), some (.ref 0), some (.ref 70), some (.ref 85), some (.int i), none, none, none] [.int v1.1] (hLaw (jpt G 0 70 v1.2) J)
  obtain ⟨G3, e4, h⟩ := jlE h
  rw [e4]
  refine JW.rZ hM 27 26 (pc2 := 305) (L2 := [some (.ref 2000000), some (.ref 0), some (.ref 70), some (.ref 85), some (.int i), none, none, none]) (st2 := [.int (xs (i + (5 : Int32)).toNatClampNeg), .int (xs (i + (4 : Int32)).toNatClampNeg), .int (xs (i + (3 : Int32)).toNatClampNeg), .int (xs (i + (2 : Int32)).toNatClampNeg), .int (xs (i + (1 : Int32)).toNatClampNeg), .ref 70, .int v1.1]) (μ2 := (hLaw G3 J)) rfl ⟨hj1, hj2, hj3, hj4, hj5, trivial⟩ ?_
  obtain ⟨v5, hv6, h⟩ := jbd h
  refine JW.cVZ (v := some (.int v5.1)) hM (m_X6_feed (jVX X) hM.1.2.2.2.2.2.2.2.2.2.1 N (jvw G3 70) (jvw J 70) (xs (i + (1 : Int32)).toNatClampNeg) (xs (i + (2 : Int32)).toNatClampNeg) (xs (i + (3 : Int32)).toNatClampNeg) (xs (i + (4 : Int32)).toNatClampNeg) (xs (i + (5 : Int32)).toNatClampNeg) v5 hv6) (sb_Law_Mo_70 G3 J) (bk_Law_Mo_70 G3 J v5.2 (jvw J 70)) rfl rfl rfl kc_L_133 rfl rfl rfl rfl (show k + 0 + 0 ≤ 601024 from by omega) (show n + 0 + 0 ≤ 7293034 from by omega) rfl (jat hM.2.1 53 rfl) (st := [.int v1.1]) rfl ?_
  show JW X (k + 0 + 0) (n + 0 + 0) 308 [some (.ref 2000000), some (.ref 0), some (.ref 70), some (.ref 85), some (.int i), none, none, none] [.int v5.1, .int v1.1] (hLaw (jpt G3 70 15 v5.2) J)
  obtain ⟨G7, e8, h⟩ := jlE h
  rw [e8]
  refine js_iceq (t := 2667) hM.1 (jat hM.2.1 54 rfl) rfl (fun hc9 => ?_) (fun hc9 => ?_)
  · have h := (if_pos hc9).symm.trans h
    obtain rfl := Option.some.inj h
    refine JW.widen (k2 := k + 40) (n2 := n + 240) (by omega) (by omega) (JW.mask [true, true, true, true, true, false, false, false] ?_)
    exact K X hM
  · have h := (if_neg hc9).symm.trans h
    cases h

def p_case_1 (N : Nat) (xs : Nat → Int32) (G : Nat → Nat → Int32) (J : Nat → Nat → Int64) (i : Int32) : Option ((Nat → Nat → Int32) × (Nat → Nat → Int64)) :=
  (p_L_town N (jv2 G 0 70 85) (jv2 J 0 70 85) (xs (i + (1 : Int32)).toNatClampNeg)).bind (fun v1 => jlt (jp2 G 0 70 85 1 v1.2.1) fun G3 => jlt (jp2 J 0 70 85 1 v1.2.2) fun J5 => (p_X6_town N (jvw G3 70) (jvw J5 70) (xs (i + (1 : Int32)).toNatClampNeg)).bind (fun v7 => jlt (jpt G3 70 15 v7.2) fun G9 => (p_X6_thrown N (jvw G9 70) (jvw J5 70)).bind (fun v11 => if v11 = v1.1 then (if v1.1 = 0 then (if (lg_cmp (J5 85 0) (v7.1.toInt64)) = 0 then (some (G9, J5)) else (none)) else (some (G9, J5))) else (none))))
set_option maxHeartbeats 4000000 in
set_option maxRecDepth 100000 in
theorem t_case_1 {Tz : jX → Prop} (hT1 : ∀ X ad al, Tz X → Tz (jxa X ad al)) (hT2 : ∀ X, Tz X → Tz (jof X)) {Ln : Nat} {xs : Nat → Int32} {X : jX} {k n : Nat} (hM : jMZ Tz X kL_c1 RL (tbLZ Ln xs) 8 ⟨12, 601024, 7293034, 436⟩ (some .boolean) 94) (hk : k + 40 ≤ 601024) (hn : n + 240 ≤ 7293034) (N : Nat) (G : Nat → Nat → Int32) (J : Nat → Nat → Int64) (i : Int32) (hj1 : jin (i + 1) Ln = true) (hj2 : jin (i + 2) Ln = true) (hj3 : jin (i + 3) Ln = true) (hj4 : jin (i + 4) Ln = true) (hj5 : jin (i + 5) Ln = true) (res : (Nat → Nat → Int32) × (Nat → Nat → Int64)) (h : p_case_1 N xs G J i = some res) (K : ∀ X9, jMZ Tz X9 kL_c1 RL (tbLZ Ln xs) 8 ⟨12, 601024, 7293034, 436⟩ (some .boolean) 94 → JW X9 (k + 40) (n + 240) 2667 [some (.ref 2000000), some (.ref 0), some (.ref 70), some (.ref 85), some (.int i), none, none, none] [] (hLaw res.1 res.2)) : JW X k n 313 [some (.ref 2000000), some (.ref 0), some (.ref 70), some (.ref 85), some (.int i), none, none, none] [] (hLaw G J) := by
  unfold p_case_1 at h
  refine JW.rZ hM 0 7 (pc2 := 321) (L2 := [some (.ref 2000000), some (.ref 0), some (.ref 70), some (.ref 85), some (.int i), none, none, none]) (st2 := [.ref 85, .int (xs (i + (1 : Int32)).toNatClampNeg), .ref 0]) (μ2 := (hLaw G J)) rfl ⟨hj1, trivial⟩ ?_
  obtain ⟨v1, hv2, h⟩ := jbd h
  refine JW.cHZ (v := some (.int v1.1)) hM (m_L_town (jVX X) hM.1.2.2.2.2.2.2.2.2.2.1 N (jv2 G 0 70 85) (jv2 J 0 70 85) (xs (i + (1 : Int32)).toNatClampNeg) v1 hv2) (sb_Law_W_0_85 G J) (bk_Law_W_0_85 G J v1.2.1 v1.2.2) rfl rfl rfl kh_L_134 rfl rfl (show k + 1 ≤ 601024 from by omega) (show n + 6 ≤ 7293034 from by omega) rfl (jat hM.2.1 7 rfl) (st := []) rfl ?_
  show JW (jof X) (k + 1) (n + 6) 324 [some (.ref 2000000), some (.ref 0), some (.ref 70), some (.ref 85), some (.int i), none, none, none] [.int v1.1] (hLaw (jp2 G 0 70 85 1 v1.2.1) (jp2 J 0 70 85 1 v1.2.2))
  obtain ⟨G3, e4, h⟩ := jlE h
  rw [e4]
  obtain ⟨J5, e6, h⟩ := jlE h
  rw [e6]
  refine JW.rebY (hM.off (hT2 _)) (hT1 _) (B := 94) (Nat.le_of_ble_eq_true rfl) (Nat.le_of_ble_eq_true rfl) rfl rfl rfl ?_
  clear hM
  intro X hM
  refine JW.rZ hM 8 7 (pc2 := 333) (L2 := [some (.ref 2000000), some (.ref 0), some (.ref 70), some (.ref 85), some (.int i), some (.int v1.1), none, none]) (st2 := [.int (xs (i + (1 : Int32)).toNatClampNeg), .ref 70]) (μ2 := (hLaw G3 J5)) rfl ⟨hj1, trivial⟩ ?_
  obtain ⟨v7, hv8, h⟩ := jbd h
  refine JW.cVZ (v := some (.int v7.1)) hM (m_X6_town (jVX X) hM.1.2.2.2.2.2.2.2.2.2.1 N (jvw G3 70) (jvw J5 70) (xs (i + (1 : Int32)).toNatClampNeg) v7 hv8) (sb_Law_Mo_70 G3 J5) (bk_Law_Mo_70 G3 J5 v7.2 (jvw J5 70)) rfl rfl rfl kc_L_139 rfl rfl rfl rfl (show k + 1 + 0 ≤ 601024 from by omega) (show n + 6 + 0 ≤ 7293034 from by omega) rfl (jat hM.2.1 15 rfl) (st := []) rfl ?_
  show JW X (k + 1 + 0) (n + 6 + 0) 336 [some (.ref 2000000), some (.ref 0), some (.ref 70), some (.ref 85), some (.int i), some (.int v1.1), none, none] [.int v7.1] (hLaw (jpt G3 70 15 v7.2) J5)
  obtain ⟨G9, e10, h⟩ := jlE h
  rw [e10]
  refine JW.rZ hM 16 2 (pc2 := 339) (L2 := [some (.ref 2000000), some (.ref 0), some (.ref 70), some (.ref 85), some (.int i), some (.int v1.1), some (.int v7.1), none]) (st2 := [.ref 70]) (μ2 := (hLaw G9 J5)) rfl trivial ?_
  obtain ⟨v11, hv12, h⟩ := jbd h
  refine JW.cVZ (v := some (.int v11)) hM (m_X6_thrown (jVX X) hM.1.2.2.2.2.2.2.2.2.2.1 N (jvw G9 70) (jvw J5 70) v11 hv12) (sb_Law_Mo_70 G9 J5) (bi_Law_Mo_70 G9 J5) rfl rfl rfl kc_L_140 rfl rfl rfl rfl (show k + 1 + 0 + 0 ≤ 601024 from by omega) (show n + 6 + 0 + 0 ≤ 7293034 from by omega) rfl (jat hM.2.1 18 rfl) (st := []) rfl ?_
  show JW X (k + 1 + 0 + 0) (n + 6 + 0 + 0) 342 [some (.ref 2000000), some (.ref 0), some (.ref 70), some (.ref 85), some (.int i), some (.int v1.1), some (.int v7.1), none] [.int v11] (hLaw G9 J5)
  refine JW.rZ hM 19 1 (pc2 := 344) (L2 := [some (.ref 2000000), some (.ref 0), some (.ref 70), some (.ref 85), some (.int i), some (.int v1.1), some (.int v7.1), none]) (st2 := [.int v1.1, .int v11]) (μ2 := (hLaw G9 J5)) rfl trivial ?_
  refine js_iceq (t := 349) hM.1 (jat hM.2.1 20 rfl) rfl (fun hc15 => ?_) (fun hc15 => ?_)
  · have h := (if_pos hc15).symm.trans h
    refine JW.rZ hM 23 1 (pc2 := 351) (L2 := [some (.ref 2000000), some (.ref 0), some (.ref 70), some (.ref 85), some (.int i), some (.int v1.1), some (.int v7.1), none]) (st2 := [.int v1.1]) (μ2 := (hLaw G9 J5)) rfl trivial ?_
    refine js_ifne (t := 366) hM.1 (jat hM.2.1 24 rfl) rfl (fun hc14 => ?_) (fun hc14 => ?_)
    · have h := (if_neg hc14).symm.trans h
      refine JW.rZ hM 34 1 (pc2 := 2667) (L2 := [some (.ref 2000000), some (.ref 0), some (.ref 70), some (.ref 85), some (.int i), some (.int v1.1), some (.int v7.1), none]) (st2 := []) (μ2 := (hLaw G9 J5)) rfl trivial ?_
      obtain rfl := Option.some.inj h
      refine JW.widen (k2 := k + 40) (n2 := n + 240) (by omega) (by omega) (JW.mask [true, true, true, true, true, false, false, false] ?_)
      exact K X hM
    · have h := (if_pos hc14).symm.trans h
      refine JW.rZ hM 25 6 (pc2 := 361) (L2 := [some (.ref 2000000), some (.ref 0), some (.ref 70), some (.ref 85), some (.int i), some (.int v1.1), some (.int v7.1), none]) (st2 := [.int (lg_cmp (J5 85 0) (v7.1.toInt64))]) (μ2 := (hLaw G9 J5)) rfl ⟨rfl, trivial⟩ ?_
      refine js_ifeq (t := 366) hM.1 (jat hM.2.1 31 rfl) rfl (fun hc13 => ?_) (fun hc13 => ?_)
      · have h := (if_pos hc13).symm.trans h
        refine JW.rZ hM 34 1 (pc2 := 2667) (L2 := [some (.ref 2000000), some (.ref 0), some (.ref 70), some (.ref 85), some (.int i), some (.int v1.1), some (.int v7.1), none]) (st2 := []) (μ2 := (hLaw G9 J5)) rfl trivial ?_
        obtain rfl := Option.some.inj h
        refine JW.widen (k2 := k + 40) (n2 := n + 240) (by omega) (by omega) (JW.mask [true, true, true, true, true, false, false, false] ?_)
        exact K X hM
      · have h := (if_neg hc13).symm.trans h
        cases h
  · have h := (if_neg hc15).symm.trans h
    cases h

def p_case_2 (N : Nat) (xs : Nat → Int32) (G : Nat → Nat → Int32) (J : Nat → Nat → Int64) (i : Int32) : Option ((Nat → Nat → Int32) × (Nat → Nat → Int64)) :=
  (p_X5_fault N (jvw G 0) (jvw J 0) (xs (i + (1 : Int32)).toNatClampNeg)).bind (fun v1 => (p_X6_fault N (jvw G 70) (jvw J 70) (xs (i + (1 : Int32)).toNatClampNeg)).bind (fun v3 => jlt (jpt G 70 15 v3.2) fun G5 => if v1 = v3.1 then (some (G5, J)) else (none)))
set_option maxHeartbeats 4000000 in
set_option maxRecDepth 100000 in
theorem t_case_2 {Tz : jX → Prop} (hT1 : ∀ X ad al, Tz X → Tz (jxa X ad al)) (hT2 : ∀ X, Tz X → Tz (jof X)) {Ln : Nat} {xs : Nat → Int32} {X : jX} {k n : Nat} (hM : jMZ Tz X kL_c2 RL (tbLZ Ln xs) 8 ⟨12, 601024, 7293034, 436⟩ (some .boolean) 94) (hk : k + 40 ≤ 601024) (hn : n + 240 ≤ 7293034) (N : Nat) (G : Nat → Nat → Int32) (J : Nat → Nat → Int64) (i : Int32) (hj1 : jin (i + 1) Ln = true) (hj2 : jin (i + 2) Ln = true) (hj3 : jin (i + 3) Ln = true) (hj4 : jin (i + 4) Ln = true) (hj5 : jin (i + 5) Ln = true) (res : (Nat → Nat → Int32) × (Nat → Nat → Int64)) (h : p_case_2 N xs G J i = some res) (K : ∀ X9, jMZ Tz X9 kL_c2 RL (tbLZ Ln xs) 8 ⟨12, 601024, 7293034, 436⟩ (some .boolean) 94 → JW X9 (k + 40) (n + 240) 2667 [some (.ref 2000000), some (.ref 0), some (.ref 70), some (.ref 85), some (.int i), none, none, none] [] (hLaw res.1 res.2)) : JW X k n 369 [some (.ref 2000000), some (.ref 0), some (.ref 70), some (.ref 85), some (.int i), none, none, none] [] (hLaw G J) := by
  unfold p_case_2 at h
  refine JW.rZ hM 0 6 (pc2 := 376) (L2 := [some (.ref 2000000), some (.ref 0), some (.ref 70), some (.ref 85), some (.int i), none, none, none]) (st2 := [.int (xs (i + (1 : Int32)).toNatClampNeg), .ref 0]) (μ2 := (hLaw G J)) rfl ⟨hj1, trivial⟩ ?_
  obtain ⟨v1, hv2, h⟩ := jbd h
  refine JW.cVZ (v := some (.int v1)) hM (m_X5_fault (jVX X) hM.1.2.2.2.2.2.2.2.2.2.1 N (jvw G 0) (jvw J 0) (xs (i + (1 : Int32)).toNatClampNeg) v1 hv2) (sb_Law_X_0 G J) (bi_Law_X_0 G J) rfl rfl rfl kc_L_143 rfl rfl rfl rfl (show k + 0 ≤ 601024 from by omega) (show n + 0 ≤ 7293034 from by omega) rfl (jat hM.2.1 6 rfl) (st := []) rfl ?_
  show JW X (k + 0) (n + 0) 379 [some (.ref 2000000), some (.ref 0), some (.ref 70), some (.ref 85), some (.int i), none, none, none] [.int v1] (hLaw G J)
  refine JW.rZ hM 7 6 (pc2 := 386) (L2 := [some (.ref 2000000), some (.ref 0), some (.ref 70), some (.ref 85), some (.int i), none, none, none]) (st2 := [.int (xs (i + (1 : Int32)).toNatClampNeg), .ref 70, .int v1]) (μ2 := (hLaw G J)) rfl ⟨hj1, trivial⟩ ?_
  obtain ⟨v3, hv4, h⟩ := jbd h
  refine JW.cVZ (v := some (.int v3.1)) hM (m_X6_fault (jVX X) hM.1.2.2.2.2.2.2.2.2.2.1 N (jvw G 70) (jvw J 70) (xs (i + (1 : Int32)).toNatClampNeg) v3 hv4) (sb_Law_Mo_70 G J) (bk_Law_Mo_70 G J v3.2 (jvw J 70)) rfl rfl rfl kc_L_146 rfl rfl rfl rfl (show k + 0 + 0 ≤ 601024 from by omega) (show n + 0 + 0 ≤ 7293034 from by omega) rfl (jat hM.2.1 13 rfl) (st := [.int v1]) rfl ?_
  show JW X (k + 0 + 0) (n + 0 + 0) 389 [some (.ref 2000000), some (.ref 0), some (.ref 70), some (.ref 85), some (.int i), none, none, none] [.int v3.1, .int v1] (hLaw (jpt G 70 15 v3.2) J)
  obtain ⟨G5, e6, h⟩ := jlE h
  rw [e6]
  refine js_iceq (t := 2667) hM.1 (jat hM.2.1 14 rfl) rfl (fun hc7 => ?_) (fun hc7 => ?_)
  · have h := (if_pos hc7).symm.trans h
    obtain rfl := Option.some.inj h
    refine JW.widen (k2 := k + 40) (n2 := n + 240) (by omega) (by omega) (JW.mask [true, true, true, true, true, false, false, false] ?_)
    exact K X hM
  · have h := (if_neg hc7).symm.trans h
    cases h


def p_L_town (N : Nat) (G : Nat → Nat → Int32) (J : Nat → Nat → Int64) (p0 : Int32) : Option (Int32 × (Nat → Nat → Int32) × (Nat → Nat → Int64)) :=
  jbh (p_X5_town N (jvw G 0) (jvw J 0) p0) (fun v1 => jlt (jupL J 70 0 (v1.1.toInt64)) fun J1 => some ((0 : Int32), (jpt G 0 70 v1.2), J1)) (fun c => if c = 3 then some ((1 : Int32), G, J) else none)
set_option maxHeartbeats 4000000 in
set_option maxRecDepth 100000 in
theorem m_L_town (V : jV) (hV : V.1.stackTraces = false) (N : Nat) (G : Nat → Nat → Int32) (J : Nat → Nat → Int64) (p0 : Int32) (res : Int32 × (Nat → Nat → Int32) × (Nat → Nat → Int64)) (h : p_L_town N G J p0 = some res) : jMet V yL_town (jwsH yL_town cL_town 4 (some .int) [(0, 9, 12, 13)]) ⟨8, 1, 6, 196⟩ false 4 [.ref 0, .int p0, .ref 70] (hW G J) (fun o ν => o = some (.int res.1) ∧ ν = (hW res.2.1 res.2.2)) (fun _ _ => False) := by
  refine jmkH (tb := tbL) (C := kL_town) hV rfl (by decide) tbL_ok rfl kL_town_ok rfl ?_
  intro X hM _ hp
  unfold p_L_town at h
  show JW X 0 0 0 [some (.ref 0), some (.int p0), some (.ref 70), none] [] (hW G J)
  refine JW.rZ hM 0 4 (pc2 := 4) (L2 := [some (.ref 0), some (.int p0), some (.ref 70), none]) (st2 := [.int p0, .ref 0, .int (0 : Int32), .ref 70]) (μ2 := (hW G J)) rfl trivial ?_
  rcases jbhE h with h | h
  · obtain ⟨v1, hv, h⟩ := h
    refine JW.cVZ (v := some (.int v1.1)) hM (m_X5_town_r (jVX X) hM.1.2.2.2.2.2.2.2.2.2.1 N (jvw G 0) (jvw J 0) p0 v1 hv) (sb_W_X_0 G J) (bk_W_X_0 G J v1.2 (jvw J 0)) rfl rfl rfl kc_L_7 rfl rfl rfl rfl (Nat.le_of_ble_eq_true rfl) (Nat.le_of_ble_eq_true rfl) rfl (jat hM.2.1 4 rfl) (st := [.int (0 : Int32), .ref 70]) rfl ?_
    show JW X 1 6 7 [some (.ref 0), some (.int p0), some (.ref 70), none] [.int v1.1, .int (0 : Int32), .ref 70] (hW (jpt G 0 70 v1.2) J)
    obtain ⟨J1, eJ, h⟩ := jlE h
    refine JW.rZ hM 5 2 (pc2 := 9) (L2 := [some (.ref 0), some (.int p0), some (.ref 70), none]) (st2 := []) (μ2 := (hW (jpt G 0 70 v1.2) (jupL J 70 0 (v1.1.toInt64)))) rfl ⟨rfl, trivial⟩ ?_
    rw [eJ]
    refine JW.rZ hM 7 1 (pc2 := 15) (L2 := [some (.ref 0), some (.int p0), some (.ref 70), none]) (st2 := []) (μ2 := (hW (jpt G 0 70 v1.2) J1)) rfl trivial ?_
    refine JW.rZ hM 11 1 (pc2 := 16) (L2 := [some (.ref 0), some (.int p0), some (.ref 70), none]) (st2 := [.int (0 : Int32)]) (μ2 := (hW (jpt G 0 70 v1.2) J1)) rfl trivial ?_
    obtain rfl := Option.some.inj h
    exact js_iret hM.1 hp hM.2.2.2.2.2.2.2.1 (by rw [hM.2.2.2.2.2.1]; exact Nat.le_of_ble_eq_true rfl) (by rw [hM.2.2.2.2.2.2.1]; exact Nat.le_of_ble_eq_true rfl) (jat hM.2.1 12 rfl) ⟨rfl, rfl⟩
  · obtain ⟨c, hv, h⟩ := h
    by_cases hc0 : c = 3
    · subst hc0
      have h := (if_pos rfl).symm.trans h
      obtain rfl := Option.some.inj h
      refine JW.hVZ hM (E := jEn 3) (m_X5_town_x (jVX X) hM.1.2.2.2.2.2.2.2.2.2.1 N (jvw G 0) (jvw J 0) p0 3 hv) (sb_W_X_0 G J) (bi_W_X_0 G J) rfl rfl kc_L_7 rfl rfl rfl rfl (Nat.le_of_ble_eq_true rfl) (Nat.le_of_ble_eq_true rfl) rfl (jat hM.2.1 4 rfl) (st := [.int (0 : Int32), .ref 70]) rfl ?_
      exact JX.hret (X := jof X) (i := 3) (c := 1) (p2 := 13) hM.1 hp.off rfl hM.2.2.2.2.2.2.2.1 [(0, 9, 12, 13)] hM.2.2.2.2.2.2.2.2.2 [] ⟨0, 9, 12, 13⟩ [] rfl (fun _ h => absurd h List.not_mem_nil) rfl (by decide) (by rw [show jown (jof X) = RL from hM.2.2.1]; exact wd653) (by decide) (by rw [show jnL (jof X) = 4 from hM.2.2.2.1.2]; decide) (Or.inl ⟨3, rfl, jat hM.2.1 8 rfl, rfl⟩) (jat hM.2.1 9 rfl) (jat hM.2.1 10 rfl) (by rw [show jmc (jof X) = _ from hM.2.2.2.2.2.1]; exact Nat.le_of_ble_eq_true rfl) (by rw [show jms (jof X) = _ from hM.2.2.2.2.2.2.1]; exact Nat.le_of_ble_eq_true rfl) ⟨rfl, rfl⟩
    · have h := (if_neg hc0).symm.trans h
      cases h
def p_L_person (N : Nat) (G : Nat → Nat → Int32) (J : Nat → Nat → Int64) (p0 : Int32) (p1 : Int32) : Option (Int32 × (Nat → Nat → Int64)) :=
  jbh (p_X5_person N (jvw G 0) (jvw J 0) p0 p1) (fun v1 => jlt (jupL J 70 0 (v1.toInt64)) fun J1 => some ((0 : Int32), J1)) (fun c => if c = 1 then some ((1 : Int32), J) else if c = 3 then some ((2 : Int32), J) else none)
set_option maxHeartbeats 4000000 in
set_option maxRecDepth 100000 in
theorem m_L_person (V : jV) (hV : V.1.stackTraces = false) (N : Nat) (G : Nat → Nat → Int32) (J : Nat → Nat → Int64) (p0 : Int32) (p1 : Int32) (res : Int32 × (Nat → Nat → Int64)) (h : p_L_person N G J p0 p1 = some res) : jMet V yL_person (jwsH yL_person cL_person 5 (some .int) [(0, 10, 13, 19), (0, 10, 17, 13)]) ⟨8, 2, 12, 132⟩ false 4 [.ref 0, .int p0, .int p1, .ref 70] (hW G J) (fun o ν => o = some (.int res.1) ∧ ν = (hW G res.2)) (fun _ _ => False) := by
  refine jmkH (tb := tbL) (C := kL_person) hV rfl (by decide) tbL_ok rfl kL_person_ok rfl ?_
  intro X hM _ hp
  unfold p_L_person at h
  show JW X 0 0 0 [some (.ref 0), some (.int p0), some (.int p1), some (.ref 70), none] [] (hW G J)
  refine JW.rZ hM 0 5 (pc2 := 5) (L2 := [some (.ref 0), some (.int p0), some (.int p1), some (.ref 70), none]) (st2 := [.int p1, .int p0, .ref 0, .int (0 : Int32), .ref 70]) (μ2 := (hW G J)) rfl trivial ?_
  rcases jbhE h with h | h
  · obtain ⟨v1, hv, h⟩ := h
    refine JW.cVZ (v := some (.int v1)) hM (m_X5_person_r (jVX X) hM.1.2.2.2.2.2.2.2.2.2.1 N (jvw G 0) (jvw J 0) p0 p1 v1 hv) (sb_W_X_0 G J) (bi_W_X_0 G J) rfl rfl rfl kc_L_15 rfl rfl rfl rfl (Nat.le_of_ble_eq_true rfl) (Nat.le_of_ble_eq_true rfl) rfl (jat hM.2.1 5 rfl) (st := [.int (0 : Int32), .ref 70]) rfl ?_
    show JW X 2 12 8 [some (.ref 0), some (.int p0), some (.int p1), some (.ref 70), none] [.int v1, .int (0 : Int32), .ref 70] (hW G J)
    obtain ⟨J1, eJ, h⟩ := jlE h
    refine JW.rZ hM 6 2 (pc2 := 10) (L2 := [some (.ref 0), some (.int p0), some (.int p1), some (.ref 70), none]) (st2 := []) (μ2 := (hW G (jupL J 70 0 (v1.toInt64)))) rfl ⟨rfl, trivial⟩ ?_
    rw [eJ]
    refine JW.rZ hM 8 1 (pc2 := 21) (L2 := [some (.ref 0), some (.int p0), some (.int p1), some (.ref 70), none]) (st2 := []) (μ2 := (hW G J1)) rfl trivial ?_
    refine JW.rZ hM 15 1 (pc2 := 22) (L2 := [some (.ref 0), some (.int p0), some (.int p1), some (.ref 70), none]) (st2 := [.int (0 : Int32)]) (μ2 := (hW G J1)) rfl trivial ?_
    obtain rfl := Option.some.inj h
    exact js_iret hM.1 hp hM.2.2.2.2.2.2.2.1 (by rw [hM.2.2.2.2.2.1]; exact Nat.le_of_ble_eq_true rfl) (by rw [hM.2.2.2.2.2.2.1]; exact Nat.le_of_ble_eq_true rfl) (jat hM.2.1 16 rfl) ⟨rfl, rfl⟩
  · obtain ⟨c, hv, h⟩ := h
    by_cases hc0 : c = 1
    · subst hc0
      have h := (if_pos rfl).symm.trans h
      obtain rfl := Option.some.inj h
      refine JW.hVZ hM (E := jEn 1) (m_X5_person_x (jVX X) hM.1.2.2.2.2.2.2.2.2.2.1 N (jvw G 0) (jvw J 0) p0 p1 1 hv) (sb_W_X_0 G J) (bi_W_X_0 G J) rfl rfl kc_L_15 rfl rfl rfl rfl (Nat.le_of_ble_eq_true rfl) (Nat.le_of_ble_eq_true rfl) rfl (jat hM.2.1 5 rfl) (st := [.int (0 : Int32), .ref 70]) rfl ?_
      exact JX.hret (X := jof X) (i := 4) (c := 1) (p2 := 15) hM.1 hp.off rfl hM.2.2.2.2.2.2.2.1 [(0, 10, 13, 19), (0, 10, 17, 13)] hM.2.2.2.2.2.2.2.2.2 [] ⟨0, 10, 13, 19⟩ [⟨0, 10, 17, 13⟩] rfl (fun _ h => absurd h List.not_mem_nil) rfl (by decide) (by rw [show jown (jof X) = RL from hM.2.2.1]; exact wd861) (by decide) (by rw [show jnL (jof X) = 5 from hM.2.2.2.1.2]; decide) (Or.inr ⟨jat hM.2.1 9 rfl, rfl⟩) (jat hM.2.1 10 rfl) (jat hM.2.1 11 rfl) (by rw [show jmc (jof X) = _ from hM.2.2.2.2.2.1]; exact Nat.le_of_ble_eq_true rfl) (by rw [show jms (jof X) = _ from hM.2.2.2.2.2.2.1]; exact Nat.le_of_ble_eq_true rfl) ⟨rfl, rfl⟩
    · have h := (if_neg hc0).symm.trans h
      by_cases hc1 : c = 3
      · subst hc1
        have h := (if_pos rfl).symm.trans h
        obtain rfl := Option.some.inj h
        refine JW.hVZ hM (E := jEn 3) (m_X5_person_x (jVX X) hM.1.2.2.2.2.2.2.2.2.2.1 N (jvw G 0) (jvw J 0) p0 p1 3 hv) (sb_W_X_0 G J) (bi_W_X_0 G J) rfl rfl kc_L_15 rfl rfl rfl rfl (Nat.le_of_ble_eq_true rfl) (Nat.le_of_ble_eq_true rfl) rfl (jat hM.2.1 5 rfl) (st := [.int (0 : Int32), .ref 70]) rfl ?_
        exact JX.hret (X := jof X) (i := 4) (c := 2) (p2 := 19) hM.1 hp.off rfl hM.2.2.2.2.2.2.2.1 [(0, 10, 13, 19), (0, 10, 17, 13)] hM.2.2.2.2.2.2.2.2.2 [⟨0, 10, 13, 19⟩] ⟨0, 10, 17, 13⟩ [] rfl (List.forall_mem_cons.mpr ⟨⟨by decide, "java/util/NoSuchElementException", by rw [show jown (jof X) = RL from hM.2.2.1]; exact wd861, by decide⟩, fun _ h => absurd h List.not_mem_nil⟩) rfl (by decide) (by rw [show jown (jof X) = RL from hM.2.2.1]; exact wd653) (by decide) (by rw [show jnL (jof X) = 5 from hM.2.2.2.1.2]; decide) (Or.inr ⟨jat hM.2.1 12 rfl, rfl⟩) (jat hM.2.1 13 rfl) (jat hM.2.1 14 rfl) (by rw [show jmc (jof X) = _ from hM.2.2.2.2.2.1]; exact Nat.le_of_ble_eq_true rfl) (by rw [show jms (jof X) = _ from hM.2.2.2.2.2.2.1]; exact Nat.le_of_ble_eq_true rfl) ⟨rfl, rfl⟩
      · have h := (if_neg hc1).symm.trans h
        cases h
def p_L_worth (N : Nat) (G : Nat → Nat → Int32) (J : Nat → Nat → Int64) (p0 : Int32) (p1 : Int32) : Option (Int32 × (Nat → Nat → Int64)) :=
  jbh (p_X5_worth N (jvw G 0) (jvw J 0) p0 p1) (fun v1 => jlt (jupL J 70 0 (v1.toInt64)) fun J1 => some ((0 : Int32), J1)) (fun c => if c = 1 then some ((1 : Int32), J) else none)
set_option maxHeartbeats 4000000 in
set_option maxRecDepth 100000 in
theorem m_L_worth (V : jV) (hV : V.1.stackTraces = false) (N : Nat) (G : Nat → Nat → Int32) (J : Nat → Nat → Int64) (p0 : Int32) (p1 : Int32) (res : Int32 × (Nat → Nat → Int64)) (h : p_L_worth N G J p0 p1 = some res) : jMet V yL_worth (jwsH yL_worth cL_worth 5 (some .int) [(0, 10, 13, 19)]) ⟨8, 2, 12, 132⟩ false 4 [.ref 0, .int p0, .int p1, .ref 70] (hW G J) (fun o ν => o = some (.int res.1) ∧ ν = (hW G res.2)) (fun _ _ => False) := by
  refine jmkH (tb := tbL) (C := kL_worth) hV rfl (by decide) tbL_ok rfl kL_worth_ok rfl ?_
  intro X hM _ hp
  unfold p_L_worth at h
  show JW X 0 0 0 [some (.ref 0), some (.int p0), some (.int p1), some (.ref 70), none] [] (hW G J)
  refine JW.rZ hM 0 5 (pc2 := 5) (L2 := [some (.ref 0), some (.int p0), some (.int p1), some (.ref 70), none]) (st2 := [.int p1, .int p0, .ref 0, .int (0 : Int32), .ref 70]) (μ2 := (hW G J)) rfl trivial ?_
  rcases jbhE h with h | h
  · obtain ⟨v1, hv, h⟩ := h
    refine JW.cVZ (v := some (.int v1)) hM (m_X5_worth_r (jVX X) hM.1.2.2.2.2.2.2.2.2.2.1 N (jvw G 0) (jvw J 0) p0 p1 v1 hv) (sb_W_X_0 G J) (bi_W_X_0 G J) rfl rfl rfl kc_L_21 rfl rfl rfl rfl (Nat.le_of_ble_eq_true rfl) (Nat.le_of_ble_eq_true rfl) rfl (jat hM.2.1 5 rfl) (st := [.int (0 : Int32), .ref 70]) rfl ?_
    show JW X 2 12 8 [some (.ref 0), some (.int p0), some (.int p1), some (.ref 70), none] [.int v1, .int (0 : Int32), .ref 70] (hW G J)
    obtain ⟨J1, eJ, h⟩ := jlE h
    refine JW.rZ hM 6 2 (pc2 := 10) (L2 := [some (.ref 0), some (.int p0), some (.int p1), some (.ref 70), none]) (st2 := []) (μ2 := (hW G (jupL J 70 0 (v1.toInt64)))) rfl ⟨rfl, trivial⟩ ?_
    rw [eJ]
    refine JW.rZ hM 8 1 (pc2 := 17) (L2 := [some (.ref 0), some (.int p0), some (.int p1), some (.ref 70), none]) (st2 := []) (μ2 := (hW G J1)) rfl trivial ?_
    refine JW.rZ hM 12 1 (pc2 := 18) (L2 := [some (.ref 0), some (.int p0), some (.int p1), some (.ref 70), none]) (st2 := [.int (0 : Int32)]) (μ2 := (hW G J1)) rfl trivial ?_
    obtain rfl := Option.some.inj h
    exact js_iret hM.1 hp hM.2.2.2.2.2.2.2.1 (by rw [hM.2.2.2.2.2.1]; exact Nat.le_of_ble_eq_true rfl) (by rw [hM.2.2.2.2.2.2.1]; exact Nat.le_of_ble_eq_true rfl) (jat hM.2.1 13 rfl) ⟨rfl, rfl⟩
  · obtain ⟨c, hv, h⟩ := h
    by_cases hc0 : c = 1
    · subst hc0
      have h := (if_pos rfl).symm.trans h
      obtain rfl := Option.some.inj h
      refine JW.hVZ hM (E := jEn 1) (m_X5_worth_x (jVX X) hM.1.2.2.2.2.2.2.2.2.2.1 N (jvw G 0) (jvw J 0) p0 p1 1 hv) (sb_W_X_0 G J) (bi_W_X_0 G J) rfl rfl kc_L_21 rfl rfl rfl rfl (Nat.le_of_ble_eq_true rfl) (Nat.le_of_ble_eq_true rfl) rfl (jat hM.2.1 5 rfl) (st := [.int (0 : Int32), .ref 70]) rfl ?_
      exact JX.hret (X := jof X) (i := 4) (c := 1) (p2 := 15) hM.1 hp.off rfl hM.2.2.2.2.2.2.2.1 [(0, 10, 13, 19)] hM.2.2.2.2.2.2.2.2.2 [] ⟨0, 10, 13, 19⟩ [] rfl (fun _ h => absurd h List.not_mem_nil) rfl (by decide) (by rw [show jown (jof X) = RL from hM.2.2.1]; exact wd861) (by decide) (by rw [show jnL (jof X) = 5 from hM.2.2.2.1.2]; decide) (Or.inr ⟨jat hM.2.1 9 rfl, rfl⟩) (jat hM.2.1 10 rfl) (jat hM.2.1 11 rfl) (by rw [show jmc (jof X) = _ from hM.2.2.2.2.2.1]; exact Nat.le_of_ble_eq_true rfl) (by rw [show jms (jof X) = _ from hM.2.2.2.2.2.2.1]; exact Nat.le_of_ble_eq_true rfl) ⟨rfl, rfl⟩
    · have h := (if_neg hc0).symm.trans h
      cases h
def p_L_holder (N : Nat) (G : Nat → Nat → Int32) (J : Nat → Nat → Int64) (p0 : Int32) : Option (Int32 × (Nat → Nat → Int64)) :=
  jbh (p_X5_holder N (jvw G 0) (jvw J 0) p0) (fun v1 => jlt (jupL J 70 0 (v1.toInt64)) fun J1 => some ((0 : Int32), J1)) (fun c => if c = 1 then some ((1 : Int32), J) else none)
set_option maxHeartbeats 4000000 in
set_option maxRecDepth 100000 in
theorem m_L_holder (V : jV) (hV : V.1.stackTraces = false) (N : Nat) (G : Nat → Nat → Int32) (J : Nat → Nat → Int64) (p0 : Int32) (res : Int32 × (Nat → Nat → Int64)) (h : p_L_holder N G J p0 = some res) : jMet V yL_holder (jwsH yL_holder cL_holder 4 (some .int) [(0, 9, 12, 19)]) ⟨8, 1, 6, 131⟩ false 4 [.ref 0, .int p0, .ref 70] (hW G J) (fun o ν => o = some (.int res.1) ∧ ν = (hW G res.2)) (fun _ _ => False) := by
  refine jmkH (tb := tbL) (C := kL_holder) hV rfl (by decide) tbL_ok rfl kL_holder_ok rfl ?_
  intro X hM _ hp
  unfold p_L_holder at h
  show JW X 0 0 0 [some (.ref 0), some (.int p0), some (.ref 70), none] [] (hW G J)
  refine JW.rZ hM 0 4 (pc2 := 4) (L2 := [some (.ref 0), some (.int p0), some (.ref 70), none]) (st2 := [.int p0, .ref 0, .int (0 : Int32), .ref 70]) (μ2 := (hW G J)) rfl trivial ?_
  rcases jbhE h with h | h
  · obtain ⟨v1, hv, h⟩ := h
    refine JW.cVZ (v := some (.int v1)) hM (m_X5_holder_r (jVX X) hM.1.2.2.2.2.2.2.2.2.2.1 N (jvw G 0) (jvw J 0) p0 v1 hv) (sb_W_X_0 G J) (bi_W_X_0 G J) rfl rfl rfl kc_L_24 rfl rfl rfl rfl (Nat.le_of_ble_eq_true rfl) (Nat.le_of_ble_eq_true rfl) rfl (jat hM.2.1 4 rfl) (st := [.int (0 : Int32), .ref 70]) rfl ?_
    show JW X 1 6 7 [some (.ref 0), some (.int p0), some (.ref 70), none] [.int v1, .int (0 : Int32), .ref 70] (hW G J)
    obtain ⟨J1, eJ, h⟩ := jlE h
    refine JW.rZ hM 5 2 (pc2 := 9) (L2 := [some (.ref 0), some (.int p0), some (.ref 70), none]) (st2 := []) (μ2 := (hW G (jupL J 70 0 (v1.toInt64)))) rfl ⟨rfl, trivial⟩ ?_
    rw [eJ]
    refine JW.rZ hM 7 1 (pc2 := 15) (L2 := [some (.ref 0), some (.int p0), some (.ref 70), none]) (st2 := []) (μ2 := (hW G J1)) rfl trivial ?_
    refine JW.rZ hM 11 1 (pc2 := 16) (L2 := [some (.ref 0), some (.int p0), some (.ref 70), none]) (st2 := [.int (0 : Int32)]) (μ2 := (hW G J1)) rfl trivial ?_
    obtain rfl := Option.some.inj h
    exact js_iret hM.1 hp hM.2.2.2.2.2.2.2.1 (by rw [hM.2.2.2.2.2.1]; exact Nat.le_of_ble_eq_true rfl) (by rw [hM.2.2.2.2.2.2.1]; exact Nat.le_of_ble_eq_true rfl) (jat hM.2.1 12 rfl) ⟨rfl, rfl⟩
  · obtain ⟨c, hv, h⟩ := h
    by_cases hc0 : c = 1
    · subst hc0
      have h := (if_pos rfl).symm.trans h
      obtain rfl := Option.some.inj h
      refine JW.hVZ hM (E := jEn 1) (m_X5_holder_x (jVX X) hM.1.2.2.2.2.2.2.2.2.2.1 N (jvw G 0) (jvw J 0) p0 1 hv) (sb_W_X_0 G J) (bi_W_X_0 G J) rfl rfl kc_L_24 rfl rfl rfl rfl (Nat.le_of_ble_eq_true rfl) (Nat.le_of_ble_eq_true rfl) rfl (jat hM.2.1 4 rfl) (st := [.int (0 : Int32), .ref 70]) rfl ?_
      exact JX.hret (X := jof X) (i := 3) (c := 1) (p2 := 13) hM.1 hp.off rfl hM.2.2.2.2.2.2.2.1 [(0, 9, 12, 19)] hM.2.2.2.2.2.2.2.2.2 [] ⟨0, 9, 12, 19⟩ [] rfl (fun _ h => absurd h List.not_mem_nil) rfl (by decide) (by rw [show jown (jof X) = RL from hM.2.2.1]; exact wd861) (by decide) (by rw [show jnL (jof X) = 4 from hM.2.2.2.1.2]; decide) (Or.inl ⟨3, rfl, jat hM.2.1 8 rfl, rfl⟩) (jat hM.2.1 9 rfl) (jat hM.2.1 10 rfl) (by rw [show jmc (jof X) = _ from hM.2.2.2.2.2.1]; exact Nat.le_of_ble_eq_true rfl) (by rw [show jms (jof X) = _ from hM.2.2.2.2.2.2.1]; exact Nat.le_of_ble_eq_true rfl) ⟨rfl, rfl⟩
    · have h := (if_neg hc0).symm.trans h
      cases h
def p_L_eat (N : Nat) (G : Nat → Nat → Int32) (J : Nat → Nat → Int64) (p0 : Int32) : Option (Int32 × (Nat → Nat → Int32) × (Nat → Nat → Int64)) :=
  jbh (p_X5_eat N (jvw G 0) (jvw J 0) p0) (fun v1 => if v1.1 = 0 then (jlt (jupL J 70 0 (0 : Int64)) fun J1 => some ((0 : Int32), (jpt G 0 70 v1.2), J1)) else (jlt (jupL J 70 0 (1 : Int64)) fun J1 => some ((0 : Int32), (jpt G 0 70 v1.2), J1))) (fun c => if c = 1 then some ((1 : Int32), G, J) else none)
set_option maxHeartbeats 4000000 in
set_option maxRecDepth 100000 in
theorem m_L_eat (V : jV) (hV : V.1.stackTraces = false) (N : Nat) (G : Nat → Nat → Int32) (J : Nat → Nat → Int64) (p0 : Int32) (res : Int32 × (Nat → Nat → Int32) × (Nat → Nat → Int64)) (h : p_L_eat N G J p0 = some res) : jMet V yL_eat (jwsH yL_eat cL_eat 4 (some .int) [(0, 16, 19, 19)]) ⟨8, 1, 6, 132⟩ false 4 [.ref 0, .int p0, .ref 70] (hW G J) (fun o ν => o = some (.int res.1) ∧ ν = (hW res.2.1 res.2.2)) (fun _ _ => False) := by
  refine jmkH (tb := tbL) (C := kL_eat) hV rfl (by decide) tbL_ok rfl kL_eat_ok rfl ?_
  intro X hM _ hp
  unfold p_L_eat at h
  show JW X 0 0 0 [some (.ref 0), some (.int p0), some (.ref 70), none] [] (hW G J)
  refine JW.rZ hM 0 4 (pc2 := 4) (L2 := [some (.ref 0), some (.int p0), some (.ref 70), none]) (st2 := [.int p0, .ref 0, .int (0 : Int32), .ref 70]) (μ2 := (hW G J)) rfl trivial ?_
  rcases jbhE h with h | h
  · obtain ⟨v1, hv, h⟩ := h
    refine JW.cVZ (v := some (.int v1.1)) hM (m_X5_eat_r (jVX X) hM.1.2.2.2.2.2.2.2.2.2.1 N (jvw G 0) (jvw J 0) p0 v1 hv) (sb_W_X_0 G J) (bk_W_X_0 G J v1.2 (jvw J 0)) rfl rfl rfl kc_L_27 rfl rfl rfl rfl (Nat.le_of_ble_eq_true rfl) (Nat.le_of_ble_eq_true rfl) rfl (jat hM.2.1 4 rfl) (st := [.int (0 : Int32), .ref 70]) rfl ?_
    show JW X 1 6 7 [some (.ref 0), some (.int p0), some (.ref 70), none] [.int v1.1, .int (0 : Int32), .ref 70] (hW (jpt G 0 70 v1.2) J)
    refine js_ifeq (t := 14) hM.1 (jat hM.2.1 5 rfl) rfl (fun hz => ?_) (fun hz => ?_)
    · have h := (if_pos hz).symm.trans h
      obtain ⟨J1, eJ, h⟩ := jlE h
      refine JW.rZ hM 8 2 (pc2 := 16) (L2 := [some (.ref 0), some (.int p0), some (.ref 70), none]) (st2 := []) (μ2 := (hW (jpt G 0 70 v1.2) (jupL J 70 0 (0 : Int64)))) rfl ⟨rfl, trivial⟩ ?_
      rw [eJ]
      refine JW.rZ hM 10 1 (pc2 := 22) (L2 := [some (.ref 0), some (.int p0), some (.ref 70), none]) (st2 := []) (μ2 := (hW (jpt G 0 70 v1.2) J1)) rfl trivial ?_
      refine JW.rZ hM 14 1 (pc2 := 23) (L2 := [some (.ref 0), some (.int p0), some (.ref 70), none]) (st2 := [.int (0 : Int32)]) (μ2 := (hW (jpt G 0 70 v1.2) J1)) rfl trivial ?_
      obtain rfl := Option.some.inj h
      exact js_iret hM.1 hp hM.2.2.2.2.2.2.2.1 (by rw [hM.2.2.2.2.2.1]; exact Nat.le_of_ble_eq_true rfl) (by rw [hM.2.2.2.2.2.2.1]; exact Nat.le_of_ble_eq_true rfl) (jat hM.2.1 15 rfl) ⟨rfl, rfl⟩
    · have h := (if_neg hz).symm.trans h
      refine JW.rZ hM 6 2 (pc2 := 15) (L2 := [some (.ref 0), some (.int p0), some (.ref 70), none]) (st2 := [.long (1 : Int64), .int (0 : Int32), .ref 70]) (μ2 := (hW (jpt G 0 70 v1.2) J)) rfl trivial ?_
      obtain ⟨J1, eJ, h⟩ := jlE h
      refine JW.rZ hM 9 1 (pc2 := 16) (L2 := [some (.ref 0), some (.int p0), some (.ref 70), none]) (st2 := []) (μ2 := (hW (jpt G 0 70 v1.2) (jupL J 70 0 (1 : Int64)))) rfl ⟨rfl, trivial⟩ ?_
      rw [eJ]
      refine JW.rZ hM 10 1 (pc2 := 22) (L2 := [some (.ref 0), some (.int p0), some (.ref 70), none]) (st2 := []) (μ2 := (hW (jpt G 0 70 v1.2) J1)) rfl trivial ?_
      refine JW.rZ hM 14 1 (pc2 := 23) (L2 := [some (.ref 0), some (.int p0), some (.ref 70), none]) (st2 := [.int (0 : Int32)]) (μ2 := (hW (jpt G 0 70 v1.2) J1)) rfl trivial ?_
      obtain rfl := Option.some.inj h
      exact js_iret hM.1 hp hM.2.2.2.2.2.2.2.1 (by rw [hM.2.2.2.2.2.1]; exact Nat.le_of_ble_eq_true rfl) (by rw [hM.2.2.2.2.2.2.1]; exact Nat.le_of_ble_eq_true rfl) (jat hM.2.1 15 rfl) ⟨rfl, rfl⟩
  · obtain ⟨c, hv, h⟩ := h
    by_cases hc0 : c = 1
    · subst hc0
      have h := (if_pos rfl).symm.trans h
      obtain rfl := Option.some.inj h
      refine JW.hVZ hM (E := jEn 1) (m_X5_eat_x (jVX X) hM.1.2.2.2.2.2.2.2.2.2.1 N (jvw G 0) (jvw J 0) p0 1 hv) (sb_W_X_0 G J) (bi_W_X_0 G J) rfl rfl kc_L_27 rfl rfl rfl rfl (Nat.le_of_ble_eq_true rfl) (Nat.le_of_ble_eq_true rfl) rfl (jat hM.2.1 4 rfl) (st := [.int (0 : Int32), .ref 70]) rfl ?_
      exact JX.hret (X := jof X) (i := 3) (c := 1) (p2 := 20) hM.1 hp.off rfl hM.2.2.2.2.2.2.2.1 [(0, 16, 19, 19)] hM.2.2.2.2.2.2.2.2.2 [] ⟨0, 16, 19, 19⟩ [] rfl (fun _ h => absurd h List.not_mem_nil) rfl (by decide) (by rw [show jown (jof X) = RL from hM.2.2.1]; exact wd861) (by decide) (by rw [show jnL (jof X) = 4 from hM.2.2.2.1.2]; decide) (Or.inl ⟨3, rfl, jat hM.2.1 11 rfl, rfl⟩) (jat hM.2.1 12 rfl) (jat hM.2.1 13 rfl) (by rw [show jmc (jof X) = _ from hM.2.2.2.2.2.1]; exact Nat.le_of_ble_eq_true rfl) (by rw [show jms (jof X) = _ from hM.2.2.2.2.2.2.1]; exact Nat.le_of_ble_eq_true rfl) ⟨rfl, rfl⟩
    · have h := (if_neg hc0).symm.trans h
      cases h
def p_L_pass (N : Nat) (G : Nat → Nat → Int32) (J : Nat → Nat → Int64) (p0 : Int32) : Option (Int32 × (Nat → Nat → Int32) × (Nat → Nat → Int64)) :=
  jbh (p_X5_pass N (jvw G 0) (jvw J 0) p0) (fun v1 => jlt (jupL J 70 0 (v1.1.toInt64)) fun J1 => some ((0 : Int32), (jpt G 0 70 v1.2), J1)) (fun c => if c = 3 then some ((1 : Int32), G, J) else none)
set_option maxHeartbeats 4000000 in
set_option maxRecDepth 100000 in
theorem m_L_pass (V : jV) (hV : V.1.stackTraces = false) (N : Nat) (G : Nat → Nat → Int32) (J : Nat → Nat → Int64) (p0 : Int32) (res : Int32 × (Nat → Nat → Int32) × (Nat → Nat → Int64)) (h : p_L_pass N G J p0 = some res) : jMet V yL_pass (jwsH yL_pass cL_pass 4 (some .int) [(0, 9, 12, 13)]) ⟨7, 1, 6, 110⟩ false 4 [.ref 0, .int p0, .ref 70] (hW G J) (fun o ν => o = some (.int res.1) ∧ ν = (hW res.2.1 res.2.2)) (fun _ _ => False) := by
  refine jmkH (tb := tbL) (C := kL_pass) hV rfl (by decide) tbL_ok rfl kL_pass_ok rfl ?_
  intro X hM _ hp
  unfold p_L_pass at h
  show JW X 0 0 0 [some (.ref 0), some (.int p0), some (.ref 70), none] [] (hW G J)
  refine JW.rZ hM 0 4 (pc2 := 4) (L2 := [some (.ref 0), some (.int p0), some (.ref 70), none]) (st2 := [.int p0, .ref 0, .int (0 : Int32), .ref 70]) (μ2 := (hW G J)) rfl trivial ?_
  rcases jbhE h with h | h
  · obtain ⟨v1, hv, h⟩ := h
    refine JW.cVZ (v := some (.int v1.1)) hM (m_X5_pass_r (jVX X) hM.1.2.2.2.2.2.2.2.2.2.1 N (jvw G 0) (jvw J 0) p0 v1 hv) (sb_W_X_0 G J) (bk_W_X_0 G J v1.2 (jvw J 0)) rfl rfl rfl kc_L_31 rfl rfl rfl rfl (Nat.le_of_ble_eq_true rfl) (Nat.le_of_ble_eq_true rfl) rfl (jat hM.2.1 4 rfl) (st := [.int (0 : Int32), .ref 70]) rfl ?_
    show JW X 1 6 7 [some (.ref 0), some (.int p0), some (.ref 70), none] [.int v1.1, .int (0 : Int32), .ref 70] (hW (jpt G 0 70 v1.2) J)
    obtain ⟨J1, eJ, h⟩ := jlE h
    refine JW.rZ hM 5 2 (pc2 := 9) (L2 := [some (.ref 0), some (.int p0), some (.ref 70), none]) (st2 := []) (μ2 := (hW (jpt G 0 70 v1.2) (jupL J 70 0 (v1.1.toInt64)))) rfl ⟨rfl, trivial⟩ ?_
    rw [eJ]
    refine JW.rZ hM 7 1 (pc2 := 15) (L2 := [some (.ref 0), some (.int p0), some (.ref 70), none]) (st2 := []) (μ2 := (hW (jpt G 0 70 v1.2) J1)) rfl trivial ?_
    refine JW.rZ hM 11 1 (pc2 := 16) (L2 := [some (.ref 0), some (.int p0), some (.ref 70), none]) (st2 := [.int (0 : Int32)]) (μ2 := (hW (jpt G 0 70 v1.2) J1)) rfl trivial ?_
    obtain rfl := Option.some.inj h
    exact js_iret hM.1 hp hM.2.2.2.2.2.2.2.1 (by rw [hM.2.2.2.2.2.1]; exact Nat.le_of_ble_eq_true rfl) (by rw [hM.2.2.2.2.2.2.1]; exact Nat.le_of_ble_eq_true rfl) (jat hM.2.1 12 rfl) ⟨rfl, rfl⟩
  · obtain ⟨c, hv, h⟩ := h
    by_cases hc0 : c = 3
    · subst hc0
      have h := (if_pos rfl).symm.trans h
      obtain rfl := Option.some.inj h
      refine JW.hVZ hM (E := jEn 3) (m_X5_pass_x (jVX X) hM.1.2.2.2.2.2.2.2.2.2.1 N (jvw G 0) (jvw J 0) p0 3 hv) (sb_W_X_0 G J) (bi_W_X_0 G J) rfl rfl kc_L_31 rfl rfl rfl rfl (Nat.le_of_ble_eq_true rfl) (Nat.le_of_ble_eq_true rfl) rfl (jat hM.2.1 4 rfl) (st := [.int (0 : Int32), .ref 70]) rfl ?_
      exact JX.hret (X := jof X) (i := 3) (c := 1) (p2 := 13) hM.1 hp.off rfl hM.2.2.2.2.2.2.2.1 [(0, 9, 12, 13)] hM.2.2.2.2.2.2.2.2.2 [] ⟨0, 9, 12, 13⟩ [] rfl (fun _ h => absurd h List.not_mem_nil) rfl (by decide) (by rw [show jown (jof X) = RL from hM.2.2.1]; exact wd653) (by decide) (by rw [show jnL (jof X) = 4 from hM.2.2.2.1.2]; decide) (Or.inl ⟨3, rfl, jat hM.2.1 8 rfl, rfl⟩) (jat hM.2.1 9 rfl) (jat hM.2.1 10 rfl) (by rw [show jmc (jof X) = _ from hM.2.2.2.2.2.1]; exact Nat.le_of_ble_eq_true rfl) (by rw [show jms (jof X) = _ from hM.2.2.2.2.2.2.1]; exact Nat.le_of_ble_eq_true rfl) ⟨rfl, rfl⟩
    · have h := (if_neg hc0).symm.trans h
      cases h
def p_L_morning (N : Nat) (G : Nat → Nat → Int32) (J : Nat → Nat → Int64) : Option (Int32 × (Nat → Nat → Int32) × (Nat → Nat → Int64)) :=
  jbh (p_X5_morning N (jvw G 0) (jvw J 0)) (fun v1 => jlt (jupL J 70 0 (v1.1.toInt64)) fun J1 => some ((0 : Int32), (jpt G 0 70 v1.2), J1)) (fun c => if c = 2 then some ((1 : Int32), G, J) else none)
set_option maxHeartbeats 4000000 in
set_option maxRecDepth 100000 in
theorem m_L_morning (V : jV) (hV : V.1.stackTraces = false) (N : Nat) (G : Nat → Nat → Int32) (J : Nat → Nat → Int64) (res : Int32 × (Nat → Nat → Int32) × (Nat → Nat → Int64)) (h : p_L_morning N G J = some res) : jMet V yL_morning (jwsH yL_morning cL_morning 3 (some .int) [(0, 8, 11, 38)]) ⟨7, 1, 6, 110⟩ false 4 [.ref 0, .ref 70] (hW G J) (fun o ν => o = some (.int res.1) ∧ ν = (hW res.2.1 res.2.2)) (fun _ _ => False) := by
  refine jmkH (tb := tbL) (C := kL_morning) hV rfl (by decide) tbL_ok rfl kL_morning_ok rfl ?_
  intro X hM _ hp
  unfold p_L_morning at h
  show JW X 0 0 0 [some (.ref 0), some (.ref 70), none] [] (hW G J)
  refine JW.rZ hM 0 3 (pc2 := 3) (L2 := [some (.ref 0), some (.ref 70), none]) (st2 := [.ref 0, .int (0 : Int32), .ref 70]) (μ2 := (hW G J)) rfl trivial ?_
  rcases jbhE h with h | h
  · obtain ⟨v1, hv, h⟩ := h
    refine JW.cVZ (v := some (.int v1.1)) hM (m_X5_morning_r (jVX X) hM.1.2.2.2.2.2.2.2.2.2.1 N (jvw G 0) (jvw J 0) v1 hv) (sb_W_X_0 G J) (bk_W_X_0 G J v1.2 (jvw J 0)) rfl rfl rfl kc_L_34 rfl rfl rfl rfl (Nat.le_of_ble_eq_true rfl) (Nat.le_of_ble_eq_true rfl) rfl (jat hM.2.1 3 rfl) (st := [.int (0 : Int32), .ref 70]) rfl ?_
    show JW X 1 6 6 [some (.ref 0), some (.ref 70), none] [.int v1.1, .int (0 : Int32), .ref 70] (hW (jpt G 0 70 v1.2) J)
    obtain ⟨J1, eJ, h⟩ := jlE h
    refine JW.rZ hM 4 2 (pc2 := 8) (L2 := [some (.ref 0), some (.ref 70), none]) (st2 := []) (μ2 := (hW (jpt G 0 70 v1.2) (jupL J 70 0 (v1.1.toInt64)))) rfl ⟨rfl, trivial⟩ ?_
    rw [eJ]
    refine JW.rZ hM 6 1 (pc2 := 14) (L2 := [some (.ref 0), some (.ref 70), none]) (st2 := []) (μ2 := (hW (jpt G 0 70 v1.2) J1)) rfl trivial ?_
    refine JW.rZ hM 10 1 (pc2 := 15) (L2 := [some (.ref 0), some (.ref 70), none]) (st2 := [.int (0 : Int32)]) (μ2 := (hW (jpt G 0 70 v1.2) J1)) rfl trivial ?_
    obtain rfl := Option.some.inj h
    exact js_iret hM.1 hp hM.2.2.2.2.2.2.2.1 (by rw [hM.2.2.2.2.2.1]; exact Nat.le_of_ble_eq_true rfl) (by rw [hM.2.2.2.2.2.2.1]; exact Nat.le_of_ble_eq_true rfl) (jat hM.2.1 11 rfl) ⟨rfl, rfl⟩
  · obtain ⟨c, hv, h⟩ := h
    by_cases hc0 : c = 2
    · subst hc0
      have h := (if_pos rfl).symm.trans h
      obtain rfl := Option.some.inj h
      refine JW.hVZ hM (E := jEn 2) (m_X5_morning_x (jVX X) hM.1.2.2.2.2.2.2.2.2.2.1 N (jvw G 0) (jvw J 0) 2 hv) (sb_W_X_0 G J) (bi_W_X_0 G J) rfl rfl kc_L_34 rfl rfl rfl rfl (Nat.le_of_ble_eq_true rfl) (Nat.le_of_ble_eq_true rfl) rfl (jat hM.2.1 3 rfl) (st := [.int (0 : Int32), .ref 70]) rfl ?_
      exact JX.hret (X := jof X) (i := 2) (c := 1) (p2 := 12) hM.1 hp.off rfl hM.2.2.2.2.2.2.2.1 [(0, 8, 11, 38)] hM.2.2.2.2.2.2.2.2.2 [] ⟨0, 8, 11, 38⟩ [] rfl (fun _ h => absurd h List.not_mem_nil) rfl (by decide) (by rw [show jown (jof X) = RL from hM.2.2.1]; exact wd931) (by decide) (by rw [show jnL (jof X) = 3 from hM.2.2.2.1.2]; decide) (Or.inl ⟨2, rfl, jat hM.2.1 7 rfl, rfl⟩) (jat hM.2.1 8 rfl) (jat hM.2.1 9 rfl) (by rw [show jmc (jof X) = _ from hM.2.2.2.2.2.1]; exact Nat.le_of_ble_eq_true rfl) (by rw [show jms (jof X) = _ from hM.2.2.2.2.2.2.1]; exact Nat.le_of_ble_eq_true rfl) ⟨rfl, rfl⟩
    · have h := (if_neg hc0).symm.trans h
      cases h
def p_L_deed (N : Nat) (G : Nat → Nat → Int32) (J : Nat → Nat → Int64) (p0 : Int32) (p1 : Int32) : Option (Int32 × (Nat → Nat → Int64)) :=
  jbh (p_X5_deed N (jvw G 0) (jvw J 0) p0 p1) (fun v1 => jlt (jupL J 70 0 (v1.toInt64)) fun J1 => some ((0 : Int32), J1)) (fun c => if c = 1 then some ((1 : Int32), J) else if c = 3 then some ((2 : Int32), J) else none)
set_option maxHeartbeats 4000000 in
set_option maxRecDepth 100000 in
theorem m_L_deed (V : jV) (hV : V.1.stackTraces = false) (N : Nat) (G : Nat → Nat → Int32) (J : Nat → Nat → Int64) (p0 : Int32) (p1 : Int32) (res : Int32 × (Nat → Nat → Int64)) (h : p_L_deed N G J p0 p1 = some res) : jMet V yL_deed (jwsH yL_deed cL_deed 5 (some .int) [(0, 10, 13, 19), (0, 10, 17, 13)]) ⟨8, 2, 12, 132⟩ false 4 [.ref 0, .int p0, .int p1, .ref 70] (hW G J) (fun o ν => o = some (.int res.1) ∧ ν = (hW G res.2)) (fun _ _ => False) := by
  refine jmkH (tb := tbL) (C := kL_deed) hV rfl (by decide) tbL_ok rfl kL_deed_ok rfl ?_
  intro X hM _ hp
  unfold p_L_deed at h
  show JW X 0 0 0 [some (.ref 0), some (.int p0), some (.int p1), some (.ref 70), none] [] (hW G J)
  refine JW.rZ hM 0 5 (pc2 := 5) (L2 := [some (.ref 0), some (.int p0), some (.int p1), some (.ref 70), none]) (st2 := [.int p1, .int p0, .ref 0, .int (0 : Int32), .ref 70]) (μ2 := (hW G J)) rfl trivial ?_
  rcases jbhE h with h | h
  · obtain ⟨v1, hv, h⟩ := h
    refine JW.cVZ (v := some (.int v1)) hM (m_X5_deed_r (jVX X) hM.1.2.2.2.2.2.2.2.2.2.1 N (jvw G 0) (jvw J 0) p0 p1 v1 hv) (sb_W_X_0 G J) (bi_W_X_0 G J) rfl rfl rfl kc_L_40 rfl rfl rfl rfl (Nat.le_of_ble_eq_true rfl) (Nat.le_of_ble_eq_true rfl) rfl (jat hM.2.1 5 rfl) (st := [.int (0 : Int32), .ref 70]) rfl ?_
    show JW X 2 12 8 [some (.ref 0), some (.int p0), some (.int p1), some (.ref 70), none] [.int v1, .int (0 : Int32), .ref 70] (hW G J)
    obtain ⟨J1, eJ, h⟩ := jlE h
    refine JW.rZ hM 6 2 (pc2 := 10) (L2 := [some (.ref 0), some (.int p0), some (.int p1), some (.ref 70), none]) (st2 := []) (μ2 := (hW G (jupL J 70 0 (v1.toInt64)))) rfl ⟨rfl, trivial⟩ ?_
    rw [eJ]
    refine JW.rZ hM 8 1 (pc2 := 21) (L2 := [some (.ref 0), some (.int p0), some (.int p1), some (.ref 70), none]) (st2 := []) (μ2 := (hW G J1)) rfl trivial ?_
    refine JW.rZ hM 15 1 (pc2 := 22) (L2 := [some (.ref 0), some (.int p0), some (.int p1), some (.ref 70), none]) (st2 := [.int (0 : Int32)]) (μ2 := (hW G J1)) rfl trivial ?_
    obtain rfl := Option.some.inj h
    exact js_iret hM.1 hp hM.2.2.2.2.2.2.2.1 (by rw [hM.2.2.2.2.2.1]; exact Nat.le_of_ble_eq_true rfl) (by rw [hM.2.2.2.2.2.2.1]; exact Nat.le_of_ble_eq_true rfl) (jat hM.2.1 16 rfl) ⟨rfl, rfl⟩
  · obtain ⟨c, hv, h⟩ := h
    by_cases hc0 : c = 1
    · subst hc0
      have h := (if_pos rfl).symm.trans h
      obtain rfl := Option.some.inj h
      refine JW.hVZ hM (E := jEn 1) (m_X5_deed_x (jVX X) hM.1.2.2.2.2.2.2.2.2.2.1 N (jvw G 0) (jvw J 0) p0 p1 1 hv) (sb_W_X_0 G J) (bi_W_X_0 G J) rfl rfl kc_L_40 rfl rfl rfl rfl (Nat.le_of_ble_eq_true rfl) (Nat.le_of_ble_eq_true rfl) rfl (jat hM.2.1 5 rfl) (st := [.int (0 : Int32), .ref 70]) rfl ?_
      exact JX.hret (X := jof X) (i := 4) (c := 1) (p2 := 15) hM.1 hp.off rfl hM.2.2.2.2.2.2.2.1 [(0, 10, 13, 19), (0, 10, 17, 13)] hM.2.2.2.2.2.2.2.2.2 [] ⟨0, 10, 13, 19⟩ [⟨0, 10, 17, 13⟩] rfl (fun _ h => absurd h List.not_mem_nil) rfl (by decide) (by rw [show jown (jof X) = RL from hM.2.2.1]; exact wd861) (by decide) (by rw [show jnL (jof X) = 5 from hM.2.2.2.1.2]; decide) (Or.inr ⟨jat hM.2.1 9 rfl, rfl⟩) (jat hM.2.1 10 rfl) (jat hM.2.1 11 rfl) (by rw [show jmc (jof X) = _ from hM.2.2.2.2.2.1]; exact Nat.le_of_ble_eq_true rfl) (by rw [show jms (jof X) = _ from hM.2.2.2.2.2.2.1]; exact Nat.le_of_ble_eq_true rfl) ⟨rfl, rfl⟩
    · have h := (if_neg hc0).symm.trans h
      by_cases hc1 : c = 3
      · subst hc1
        have h := (if_pos rfl).symm.trans h
        obtain rfl := Option.some.inj h
        refine JW.hVZ hM (E := jEn 3) (m_X5_deed_x (jVX X) hM.1.2.2.2.2.2.2.2.2.2.1 N (jvw G 0) (jvw J 0) p0 p1 3 hv) (sb_W_X_0 G J) (bi_W_X_0 G J) rfl rfl kc_L_40 rfl rfl rfl rfl (Nat.le_of_ble_eq_true rfl) (Nat.le_of_ble_eq_true rfl) rfl (jat hM.2.1 5 rfl) (st := [.int (0 : Int32), .ref 70]) rfl ?_
        exact JX.hret (X := jof X) (i := 4) (c := 2) (p2 := 19) hM.1 hp.off rfl hM.2.2.2.2.2.2.2.1 [(0, 10, 13, 19), (0, 10, 17, 13)] hM.2.2.2.2.2.2.2.2.2 [⟨0, 10, 13, 19⟩] ⟨0, 10, 17, 13⟩ [] rfl (List.forall_mem_cons.mpr ⟨⟨by decide, "java/util/NoSuchElementException", by rw [show jown (jof X) = RL from hM.2.2.1]; exact wd861, by decide⟩, fun _ h => absurd h List.not_mem_nil⟩) rfl (by decide) (by rw [show jown (jof X) = RL from hM.2.2.1]; exact wd653) (by decide) (by rw [show jnL (jof X) = 5 from hM.2.2.2.1.2]; decide) (Or.inr ⟨jat hM.2.1 12 rfl, rfl⟩) (jat hM.2.1 13 rfl) (jat hM.2.1 14 rfl) (by rw [show jmc (jof X) = _ from hM.2.2.2.2.2.1]; exact Nat.le_of_ble_eq_true rfl) (by rw [show jms (jof X) = _ from hM.2.2.2.2.2.2.1]; exact Nat.le_of_ble_eq_true rfl) ⟨rfl, rfl⟩
      · have h := (if_neg hc1).symm.trans h
        cases h
def p_L_may (N : Nat) (G : Nat → Nat → Int32) (J : Nat → Nat → Int64) (p0 : Int32) (p1 : Int32) : Option (Int32 × (Nat → Nat → Int64)) :=
  jbh (p_X5_may N (jvw G 0) (jvw J 0) p0 p1) (fun v1 => jlt (jupL J 70 0 (v1.toInt64)) fun J1 => some ((0 : Int32), J1)) (fun c => if c = 1 then some ((1 : Int32), J) else none)
set_option maxHeartbeats 4000000 in
set_option maxRecDepth 100000 in
theorem m_L_may (V : jV) (hV : V.1.stackTraces = false) (N : Nat) (G : Nat → Nat → Int32) (J : Nat → Nat → Int64) (p0 : Int32) (p1 : Int32) (res : Int32 × (Nat → Nat → Int64)) (h : p_L_may N G J p0 p1 = some res) : jMet V yL_may (jwsH yL_may cL_may 5 (some .int) [(0, 10, 13, 19)]) ⟨8, 1, 6, 132⟩ false 4 [.ref 0, .int p0, .int p1, .ref 70] (hW G J) (fun o ν => o = some (.int res.1) ∧ ν = (hW G res.2)) (fun _ _ => False) := by
  refine jmkH (tb := tbL) (C := kL_may) hV rfl (by decide) tbL_ok rfl kL_may_ok rfl ?_
  intro X hM _ hp
  unfold p_L_may at h
  show JW X 0 0 0 [some (.ref 0), some (.int p0), some (.int p1), some (.ref 70), none] [] (hW G J)
  refine JW.rZ hM 0 5 (pc2 := 5) (L2 := [some (.ref 0), some (.int p0), some (.int p1), some (.ref 70), none]) (st2 := [.int p1, .int p0, .ref 0, .int (0 : Int32), .ref 70]) (μ2 := (hW G J)) rfl trivial ?_
  rcases jbhE h with h | h
  · obtain ⟨v1, hv, h⟩ := h
    refine JW.cVZ (v := some (.int v1)) hM (m_X5_may_r (jVX X) hM.1.2.2.2.2.2.2.2.2.2.1 N (jvw G 0) (jvw J 0) p0 p1 v1 hv) (sb_W_X_0 G J) (bi_W_X_0 G J) rfl rfl rfl kc_L_43 rfl rfl rfl rfl (Nat.le_of_ble_eq_true rfl) (Nat.le_of_ble_eq_true rfl) rfl (jat hM.2.1 5 rfl) (st := [.int (0 : Int32), .ref 70]) rfl ?_
    show JW X 1 6 8 [some (.ref 0), some (.int p0), some (.int p1), some (.ref 70), none] [.int v1, .int (0 : Int32), .ref 70] (hW G J)
    obtain ⟨J1, eJ, h⟩ := jlE h
    refine JW.rZ hM 6 2 (pc2 := 10) (L2 := [some (.ref 0), some (.int p0), some (.int p1), some (.ref 70), none]) (st2 := []) (μ2 := (hW G (jupL J 70 0 (v1.toInt64)))) rfl ⟨rfl, trivial⟩ ?_
    rw [eJ]
    refine JW.rZ hM 8 1 (pc2 := 17) (L2 := [some (.ref 0), some (.int p0), some (.int p1), some (.ref 70), none]) (st2 := []) (μ2 := (hW G J1)) rfl trivial ?_
    refine JW.rZ hM 12 1 (pc2 := 18) (L2 := [some (.ref 0), some (.int p0), some (.int p1), some (.ref 70), none]) (st2 := [.int (0 : Int32)]) (μ2 := (hW G J1)) rfl trivial ?_
    obtain rfl := Option.some.inj h
    exact js_iret hM.1 hp hM.2.2.2.2.2.2.2.1 (by rw [hM.2.2.2.2.2.1]; exact Nat.le_of_ble_eq_true rfl) (by rw [hM.2.2.2.2.2.2.1]; exact Nat.le_of_ble_eq_true rfl) (jat hM.2.1 13 rfl) ⟨rfl, rfl⟩
  · obtain ⟨c, hv, h⟩ := h
    by_cases hc0 : c = 1
    · subst hc0
      have h := (if_pos rfl).symm.trans h
      obtain rfl := Option.some.inj h
      refine JW.hVZ hM (E := jEn 1) (m_X5_may_x (jVX X) hM.1.2.2.2.2.2.2.2.2.2.1 N (jvw G 0) (jvw J 0) p0 p1 1 hv) (sb_W_X_0 G J) (bi_W_X_0 G J) rfl rfl kc_L_43 rfl rfl rfl rfl (Nat.le_of_ble_eq_true rfl) (Nat.le_of_ble_eq_true rfl) rfl (jat hM.2.1 5 rfl) (st := [.int (0 : Int32), .ref 70]) rfl ?_
      exact JX.hret (X := jof X) (i := 4) (c := 1) (p2 := 15) hM.1 hp.off rfl hM.2.2.2.2.2.2.2.1 [(0, 10, 13, 19)] hM.2.2.2.2.2.2.2.2.2 [] ⟨0, 10, 13, 19⟩ [] rfl (fun _ h => absurd h List.not_mem_nil) rfl (by decide) (by rw [show jown (jof X) = RL from hM.2.2.1]; exact wd861) (by decide) (by rw [show jnL (jof X) = 5 from hM.2.2.2.1.2]; decide) (Or.inr ⟨jat hM.2.1 9 rfl, rfl⟩) (jat hM.2.1 10 rfl) (jat hM.2.1 11 rfl) (by rw [show jmc (jof X) = _ from hM.2.2.2.2.2.1]; exact Nat.le_of_ble_eq_true rfl) (by rw [show jms (jof X) = _ from hM.2.2.2.2.2.2.1]; exact Nat.le_of_ble_eq_true rfl) ⟨rfl, rfl⟩
    · have h := (if_neg hc0).symm.trans h
      cases h
def p_L_undo (N : Nat) (G : Nat → Nat → Int32) (J : Nat → Nat → Int64) (p0 : Int32) (p1 : Int32) : Option (Int32 × (Nat → Nat → Int32) × (Nat → Nat → Int64)) :=
  jbh (p_X5_undo N (jvw G 0) (jvw J 0) p0 p1) (fun v1 => jlt (jupL J 70 0 (v1.1.toInt64)) fun J1 => some ((0 : Int32), (jpt G 0 70 v1.2), J1)) (fun c => if c = 1 then some ((1 : Int32), G, J) else none)
set_option maxHeartbeats 4000000 in
set_option maxRecDepth 100000 in
theorem m_L_undo (V : jV) (hV : V.1.stackTraces = false) (N : Nat) (G : Nat → Nat → Int32) (J : Nat → Nat → Int64) (p0 : Int32) (p1 : Int32) (res : Int32 × (Nat → Nat → Int32) × (Nat → Nat → Int64)) (h : p_L_undo N G J p0 p1 = some res) : jMet V yL_undo (jwsH yL_undo cL_undo 5 (some .int) [(0, 10, 13, 19)]) ⟨8, 1, 6, 133⟩ false 4 [.ref 0, .int p0, .int p1, .ref 70] (hW G J) (fun o ν => o = some (.int res.1) ∧ ν = (hW res.2.1 res.2.2)) (fun _ _ => False) := by
  refine jmkH (tb := tbL) (C := kL_undo) hV rfl (by decide) tbL_ok rfl kL_undo_ok rfl ?_
  intro X hM _ hp
  unfold p_L_undo at h
  show JW X 0 0 0 [some (.ref 0), some (.int p0), some (.int p1), some (.ref 70), none] [] (hW G J)
  refine JW.rZ hM 0 5 (pc2 := 5) (L2 := [some (.ref 0), some (.int p0), some (.int p1), some (.ref 70), none]) (st2 := [.int p1, .int p0, .ref 0, .int (0 : Int32), .ref 70]) (μ2 := (hW G J)) rfl trivial ?_
  rcases jbhE h with h | h
  · obtain ⟨v1, hv, h⟩ := h
    refine JW.cVZ (v := some (.int v1.1)) hM (m_X5_undo_r (jVX X) hM.1.2.2.2.2.2.2.2.2.2.1 N (jvw G 0) (jvw J 0) p0 p1 v1 hv) (sb_W_X_0 G J) (bk_W_X_0 G J v1.2 (jvw J 0)) rfl rfl rfl kc_L_46 rfl rfl rfl rfl (Nat.le_of_ble_eq_true rfl) (Nat.le_of_ble_eq_true rfl) rfl (jat hM.2.1 5 rfl) (st := [.int (0 : Int32), .ref 70]) rfl ?_
    show JW X 1 6 8 [some (.ref 0), some (.int p0), some (.int p1), some (.ref 70), none] [.int v1.1, .int (0 : Int32), .ref 70] (hW (jpt G 0 70 v1.2) J)
    obtain ⟨J1, eJ, h⟩ := jlE h
    refine JW.rZ hM 6 2 (pc2 := 10) (L2 := [some (.ref 0), some (.int p0), some (.int p1), some (.ref 70), none]) (st2 := []) (μ2 := (hW (jpt G 0 70 v1.2) (jupL J 70 0 (v1.1.toInt64)))) rfl ⟨rfl, trivial⟩ ?_
    rw [eJ]
    refine JW.rZ hM 8 1 (pc2 := 17) (L2 := [some (.ref 0), some (.int p0), some (.int p1), some (.ref 70), none]) (st2 := []) (μ2 := (hW (jpt G 0 70 v1.2) J1)) rfl trivial ?_
    refine JW.rZ hM 12 1 (pc2 := 18) (L2 := [some (.ref 0), some (.int p0), some (.int p1), some (.ref 70), none]) (st2 := [.int (0 : Int32)]) (μ2 := (hW (jpt G 0 70 v1.2) J1)) rfl trivial ?_
    obtain rfl := Option.some.inj h
    exact js_iret hM.1 hp hM.2.2.2.2.2.2.2.1 (by rw [hM.2.2.2.2.2.1]; exact Nat.le_of_ble_eq_true rfl) (by rw [hM.2.2.2.2.2.2.1]; exact Nat.le_of_ble_eq_true rfl) (jat hM.2.1 13 rfl) ⟨rfl, rfl⟩
  · obtain ⟨c, hv, h⟩ := h
    by_cases hc0 : c = 1
    · subst hc0
      have h := (if_pos rfl).symm.trans h
      obtain rfl := Option.some.inj h
      refine JW.hVZ hM (E := jEn 1) (m_X5_undo_x (jVX X) hM.1.2.2.2.2.2.2.2.2.2.1 N (jvw G 0) (jvw J 0) p0 p1 1 hv) (sb_W_X_0 G J) (bi_W_X_0 G J) rfl rfl kc_L_46 rfl rfl rfl rfl (Nat.le_of_ble_eq_true rfl) (Nat.le_of_ble_eq_true rfl) rfl (jat hM.2.1 5 rfl) (st := [.int (0 : Int32), .ref 70]) rfl ?_
      exact JX.hret (X := jof X) (i := 4) (c := 1) (p2 := 15) hM.1 hp.off rfl hM.2.2.2.2.2.2.2.1 [(0, 10, 13, 19)] hM.2.2.2.2.2.2.2.2.2 [] ⟨0, 10, 13, 19⟩ [] rfl (fun _ h => absurd h List.not_mem_nil) rfl (by decide) (by rw [show jown (jof X) = RL from hM.2.2.1]; exact wd861) (by decide) (by rw [show jnL (jof X) = 5 from hM.2.2.2.1.2]; decide) (Or.inr ⟨jat hM.2.1 9 rfl, rfl⟩) (jat hM.2.1 10 rfl) (jat hM.2.1 11 rfl) (by rw [show jmc (jof X) = _ from hM.2.2.2.2.2.1]; exact Nat.le_of_ble_eq_true rfl) (by rw [show jms (jof X) = _ from hM.2.2.2.2.2.2.1]; exact Nat.le_of_ble_eq_true rfl) ⟨rfl, rfl⟩
    · have h := (if_neg hc0).symm.trans h
      cases h
def p_L_falls (N : Nat) (G : Nat → Nat → Int32) (J : Nat → Nat → Int64) (p0 : Int32) : Option (Int32 × (Nat → Nat → Int64)) :=
  jbh (p_X5_falls N (jvw G 0) (jvw J 0) p0) (fun v1 => jlt (jupL J 70 0 (v1.toInt64)) fun J1 => some ((0 : Int32), J1)) (fun c => if c = 1 then some ((1 : Int32), J) else none)
set_option maxHeartbeats 4000000 in
set_option maxRecDepth 100000 in
theorem m_L_falls (V : jV) (hV : V.1.stackTraces = false) (N : Nat) (G : Nat → Nat → Int32) (J : Nat → Nat → Int64) (p0 : Int32) (res : Int32 × (Nat → Nat → Int64)) (h : p_L_falls N G J p0 = some res) : jMet V yL_falls (jwsH yL_falls cL_falls 4 (some .int) [(0, 9, 12, 19)]) ⟨8, 1, 6, 131⟩ false 4 [.ref 0, .int p0, .ref 70] (hW G J) (fun o ν => o = some (.int res.1) ∧ ν = (hW G res.2)) (fun _ _ => False) := by
  refine jmkH (tb := tbL) (C := kL_falls) hV rfl (by decide) tbL_ok rfl kL_falls_ok rfl ?_
  intro X hM _ hp
  unfold p_L_falls at h
  show JW X 0 0 0 [some (.ref 0), some (.int p0), some (.ref 70), none] [] (hW G J)
  refine JW.rZ hM 0 4 (pc2 := 4) (L2 := [some (.ref 0), some (.int p0), some (.ref 70), none]) (st2 := [.int p0, .ref 0, .int (0 : Int32), .ref 70]) (μ2 := (hW G J)) rfl trivial ?_
  rcases jbhE h with h | h
  · obtain ⟨v1, hv, h⟩ := h
    refine JW.cVZ (v := some (.int v1)) hM (m_X5_falls_r (jVX X) hM.1.2.2.2.2.2.2.2.2.2.1 N (jvw G 0) (jvw J 0) p0 v1 hv) (sb_W_X_0 G J) (bi_W_X_0 G J) rfl rfl rfl kc_L_49 rfl rfl rfl rfl (Nat.le_of_ble_eq_true rfl) (Nat.le_of_ble_eq_true rfl) rfl (jat hM.2.1 4 rfl) (st := [.int (0 : Int32), .ref 70]) rfl ?_
    show JW X 1 6 7 [some (.ref 0), some (.int p0), some (.ref 70), none] [.int v1, .int (0 : Int32), .ref 70] (hW G J)
    obtain ⟨J1, eJ, h⟩ := jlE h
    refine JW.rZ hM 5 2 (pc2 := 9) (L2 := [some (.ref 0), some (.int p0), some (.ref 70), none]) (st2 := []) (μ2 := (hW G (jupL J 70 0 (v1.toInt64)))) rfl ⟨rfl, trivial⟩ ?_
    rw [eJ]
    refine JW.rZ hM 7 1 (pc2 := 15) (L2 := [some (.ref 0), some (.int p0), some (.ref 70), none]) (st2 := []) (μ2 := (hW G J1)) rfl trivial ?_
    refine JW.rZ hM 11 1 (pc2 := 16) (L2 := [some (.ref 0), some (.int p0), some (.ref 70), none]) (st2 := [.int (0 : Int32)]) (μ2 := (hW G J1)) rfl trivial ?_
    obtain rfl := Option.some.inj h
    exact js_iret hM.1 hp hM.2.2.2.2.2.2.2.1 (by rw [hM.2.2.2.2.2.1]; exact Nat.le_of_ble_eq_true rfl) (by rw [hM.2.2.2.2.2.2.1]; exact Nat.le_of_ble_eq_true rfl) (jat hM.2.1 12 rfl) ⟨rfl, rfl⟩
  · obtain ⟨c, hv, h⟩ := h
    by_cases hc0 : c = 1
    · subst hc0
      have h := (if_pos rfl).symm.trans h
      obtain rfl := Option.some.inj h
      refine JW.hVZ hM (E := jEn 1) (m_X5_falls_x (jVX X) hM.1.2.2.2.2.2.2.2.2.2.1 N (jvw G 0) (jvw J 0) p0 1 hv) (sb_W_X_0 G J) (bi_W_X_0 G J) rfl rfl kc_L_49 rfl rfl rfl rfl (Nat.le_of_ble_eq_true rfl) (Nat.le_of_ble_eq_true rfl) rfl (jat hM.2.1 4 rfl) (st := [.int (0 : Int32), .ref 70]) rfl ?_
      exact JX.hret (X := jof X) (i := 3) (c := 1) (p2 := 13) hM.1 hp.off rfl hM.2.2.2.2.2.2.2.1 [(0, 9, 12, 19)] hM.2.2.2.2.2.2.2.2.2 [] ⟨0, 9, 12, 19⟩ [] rfl (fun _ h => absurd h List.not_mem_nil) rfl (by decide) (by rw [show jown (jof X) = RL from hM.2.2.1]; exact wd861) (by decide) (by rw [show jnL (jof X) = 4 from hM.2.2.2.1.2]; decide) (Or.inl ⟨3, rfl, jat hM.2.1 8 rfl, rfl⟩) (jat hM.2.1 9 rfl) (jat hM.2.1 10 rfl) (by rw [show jmc (jof X) = _ from hM.2.2.2.2.2.1]; exact Nat.le_of_ble_eq_true rfl) (by rw [show jms (jof X) = _ from hM.2.2.2.2.2.2.1]; exact Nat.le_of_ble_eq_true rfl) ⟨rfl, rfl⟩
    · have h := (if_neg hc0).symm.trans h
      cases h
def p_L_owes (N : Nat) (G : Nat → Nat → Int32) (J : Nat → Nat → Int64) (p0 : Int32) (p1 : Int32) (p2 : Int32) : Option (Int32 × (Nat → Nat → Int64)) :=
  jbh (p_X5_owes N (jvw G 0) (jvw J 0) p0 p1 p2) (fun v1 => jlt (jupL J 70 0 (v1.toInt64)) fun J1 => some ((0 : Int32), J1)) (fun c => if c = 1 then some ((1 : Int32), J) else none)
set_option maxHeartbeats 4000000 in
set_option maxRecDepth 100000 in
theorem m_L_owes (V : jV) (hV : V.1.stackTraces = false) (N : Nat) (G : Nat → Nat → Int32) (J : Nat → Nat → Int64) (p0 : Int32) (p1 : Int32) (p2 : Int32) (res : Int32 × (Nat → Nat → Int64)) (h : p_L_owes N G J p0 p1 p2 = some res) : jMet V yL_owes (jwsH yL_owes cL_owes 6 (some .int) [(0, 12, 15, 19)]) ⟨8, 3, 18, 133⟩ false 4 [.ref 0, .int p0, .int p1, .int p2, .ref 70] (hW G J) (fun o ν => o = some (.int res.1) ∧ ν = (hW G res.2)) (fun _ _ => False) := by
  refine jmkH (tb := tbL) (C := kL_owes) hV rfl (by decide) tbL_ok rfl kL_owes_ok rfl ?_
  intro X hM _ hp
  unfold p_L_owes at h
  show JW X 0 0 0 [some (.ref 0), some (.int p0), some (.int p1), some (.int p2), some (.ref 70), none] [] (hW G J)
  refine JW.rZ hM 0 6 (pc2 := 7) (L2 := [some (.ref 0), some (.int p0), some (.int p1), some (.int p2), some (.ref 70), none]) (st2 := [.int p2, .int p1, .int p0, .ref 0, .int (0 : Int32), .ref 70]) (μ2 := (hW G J)) rfl trivial ?_
  rcases jbhE h with h | h
  · obtain ⟨v1, hv, h⟩ := h
    refine JW.cVZ (v := some (.int v1)) hM (m_X5_owes_r (jVX X) hM.1.2.2.2.2.2.2.2.2.2.1 N (jvw G 0) (jvw J 0) p0 p1 p2 v1 hv) (sb_W_X_0 G J) (bi_W_X_0 G J) rfl rfl rfl kc_L_52 rfl rfl rfl rfl (Nat.le_of_ble_eq_true rfl) (Nat.le_of_ble_eq_true rfl) rfl (jat hM.2.1 6 rfl) (st := [.int (0 : Int32), .ref 70]) rfl ?_
    show JW X 3 18 10 [some (.ref 0), some (.int p0), some (.int p1), some (.int p2), some (.ref 70), none] [.int v1, .int (0 : Int32), .ref 70] (hW G J)
    obtain ⟨J1, eJ, h⟩ := jlE h
    refine JW.rZ hM 7 2 (pc2 := 12) (L2 := [some (.ref 0), some (.int p0), some (.int p1), some (.int p2), some (.ref 70), none]) (st2 := []) (μ2 := (hW G (jupL J 70 0 (v1.toInt64)))) rfl ⟨rfl, trivial⟩ ?_
    rw [eJ]
    refine JW.rZ hM 9 1 (pc2 := 19) (L2 := [some (.ref 0), some (.int p0), some (.int p1), some (.int p2), some (.ref 70), none]) (st2 := []) (μ2 := (hW G J1)) rfl trivial ?_
    refine JW.rZ hM 13 1 (pc2 := 20) (L2 := [some (.ref 0), some (.int p0), some (.int p1), some (.int p2), some (.ref 70), none]) (st2 := [.int (0 : Int32)]) (μ2 := (hW G J1)) rfl trivial ?_
    obtain rfl := Option.some.inj h
    exact js_iret hM.1 hp hM.2.2.2.2.2.2.2.1 (by rw [hM.2.2.2.2.2.1]; exact Nat.le_of_ble_eq_true rfl) (by rw [hM.2.2.2.2.2.2.1]; exact Nat.le_of_ble_eq_true rfl) (jat hM.2.1 14 rfl) ⟨rfl, rfl⟩
  · obtain ⟨c, hv, h⟩ := h
    by_cases hc0 : c = 1
    · subst hc0
      have h := (if_pos rfl).symm.trans h
      obtain rfl := Option.some.inj h
      refine JW.hVZ hM (E := jEn 1) (m_X5_owes_x (jVX X) hM.1.2.2.2.2.2.2.2.2.2.1 N (jvw G 0) (jvw J 0) p0 p1 p2 1 hv) (sb_W_X_0 G J) (bi_W_X_0 G J) rfl rfl kc_L_52 rfl rfl rfl rfl (Nat.le_of_ble_eq_true rfl) (Nat.le_of_ble_eq_true rfl) rfl (jat hM.2.1 6 rfl) (st := [.int (0 : Int32), .ref 70]) rfl ?_
      exact JX.hret (X := jof X) (i := 5) (c := 1) (p2 := 17) hM.1 hp.off rfl hM.2.2.2.2.2.2.2.1 [(0, 12, 15, 19)] hM.2.2.2.2.2.2.2.2.2 [] ⟨0, 12, 15, 19⟩ [] rfl (fun _ h => absurd h List.not_mem_nil) rfl (by decide) (by rw [show jown (jof X) = RL from hM.2.2.1]; exact wd861) (by decide) (by rw [show jnL (jof X) = 6 from hM.2.2.2.1.2]; decide) (Or.inr ⟨jat hM.2.1 10 rfl, rfl⟩) (jat hM.2.1 11 rfl) (jat hM.2.1 12 rfl) (by rw [show jmc (jof X) = _ from hM.2.2.2.2.2.1]; exact Nat.le_of_ble_eq_true rfl) (by rw [show jms (jof X) = _ from hM.2.2.2.2.2.2.1]; exact Nat.le_of_ble_eq_true rfl) ⟨rfl, rfl⟩
    · have h := (if_neg hc0).symm.trans h
      cases h
def p_L_chain (N : Nat) (G : Nat → Nat → Int32) (J : Nat → Nat → Int64) (p0 : Int32) (p1 : Int32) : Option (Int32 × (Nat → Nat → Int64)) :=
  jbh (p_X5_chain N (jvw G 0) (jvw J 0) p0 p1) (fun v1 => jlt (jupL J 70 0 (v1.toInt64)) fun J1 => some ((0 : Int32), J1)) (fun c => if c = 1 then some ((1 : Int32), J) else none)
set_option maxHeartbeats 4000000 in
set_option maxRecDepth 100000 in
theorem m_L_chain (V : jV) (hV : V.1.stackTraces = false) (N : Nat) (G : Nat → Nat → Int32) (J : Nat → Nat → Int64) (p0 : Int32) (p1 : Int32) (res : Int32 × (Nat → Nat → Int64)) (h : p_L_chain N G J p0 p1 = some res) : jMet V yL_chain (jwsH yL_chain cL_chain 5 (some .int) [(0, 10, 13, 19)]) ⟨8, 1, 6, 134⟩ false 4 [.ref 0, .int p0, .int p1, .ref 70] (hW G J) (fun o ν => o = some (.int res.1) ∧ ν = (hW G res.2)) (fun _ _ => False) := by
  refine jmkH (tb := tbL) (C := kL_chain) hV rfl (by decide) tbL_ok rfl kL_chain_ok rfl ?_
  intro X hM _ hp
  unfold p_L_chain at h
  show JW X 0 0 0 [some (.ref 0), some (.int p0), some (.int p1), some (.ref 70), none] [] (hW G J)
  refine JW.rZ hM 0 5 (pc2 := 5) (L2 := [some (.ref 0), some (.int p0), some (.int p1), some (.ref 70), none]) (st2 := [.int p1, .int p0, .ref 0, .int (0 : Int32), .ref 70]) (μ2 := (hW G J)) rfl trivial ?_
  rcases jbhE h with h | h
  · obtain ⟨v1, hv, h⟩ := h
    refine JW.cVZ (v := some (.int v1)) hM (m_X5_chain_r (jVX X) hM.1.2.2.2.2.2.2.2.2.2.1 N (jvw G 0) (jvw J 0) p0 p1 v1 hv) (sb_W_X_0 G J) (bi_W_X_0 G J) rfl rfl rfl kc_L_56 rfl rfl rfl rfl (Nat.le_of_ble_eq_true rfl) (Nat.le_of_ble_eq_true rfl) rfl (jat hM.2.1 5 rfl) (st := [.int (0 : Int32), .ref 70]) rfl ?_
    show JW X 1 6 8 [some (.ref 0), some (.int p0), some (.int p1), some (.ref 70), none] [.int v1, .int (0 : Int32), .ref 70] (hW G J)
    obtain ⟨J1, eJ, h⟩ := jlE h
    refine JW.rZ hM 6 2 (pc2 := 10) (L2 := [some (.ref 0), some (.int p0), some (.int p1), some (.ref 70), none]) (st2 := []) (μ2 := (hW G (jupL J 70 0 (v1.toInt64)))) rfl ⟨rfl, trivial⟩ ?_
    rw [eJ]
    refine JW.rZ hM 8 1 (pc2 := 17) (L2 := [some (.ref 0), some (.int p0), some (.int p1), some (.ref 70), none]) (st2 := []) (μ2 := (hW G J1)) rfl trivial ?_
    refine JW.rZ hM 12 1 (pc2 := 18) (L2 := [some (.ref 0), some (.int p0), some (.int p1), some (.ref 70), none]) (st2 := [.int (0 : Int32)]) (μ2 := (hW G J1)) rfl trivial ?_
    obtain rfl := Option.some.inj h
    exact js_iret hM.1 hp hM.2.2.2.2.2.2.2.1 (by rw [hM.2.2.2.2.2.1]; exact Nat.le_of_ble_eq_true rfl) (by rw [hM.2.2.2.2.2.2.1]; exact Nat.le_of_ble_eq_true rfl) (jat hM.2.1 13 rfl) ⟨rfl, rfl⟩
  · obtain ⟨c, hv, h⟩ := h
    by_cases hc0 : c = 1
    · subst hc0
      have h := (if_pos rfl).symm.trans h
      obtain rfl := Option.some.inj h
      refine JW.hVZ hM (E := jEn 1) (m_X5_chain_x (jVX X) hM.1.2.2.2.2.2.2.2.2.2.1 N (jvw G 0) (jvw J 0) p0 p1 1 hv) (sb_W_X_0 G J) (bi_W_X_0 G J) rfl rfl kc_L_56 rfl rfl rfl rfl (Nat.le_of_ble_eq_true rfl) (Nat.le_of_ble_eq_true rfl) rfl (jat hM.2.1 5 rfl) (st := [.int (0 : Int32), .ref 70]) rfl ?_
      exact JX.hret (X := jof X) (i := 4) (c := 1) (p2 := 15) hM.1 hp.off rfl hM.2.2.2.2.2.2.2.1 [(0, 10, 13, 19)] hM.2.2.2.2.2.2.2.2.2 [] ⟨0, 10, 13, 19⟩ [] rfl (fun _ h => absurd h List.not_mem_nil) rfl (by decide) (by rw [show jown (jof X) = RL from hM.2.2.1]; exact wd861) (by decide) (by rw [show jnL (jof X) = 5 from hM.2.2.2.1.2]; decide) (Or.inr ⟨jat hM.2.1 9 rfl, rfl⟩) (jat hM.2.1 10 rfl) (jat hM.2.1 11 rfl) (by rw [show jmc (jof X) = _ from hM.2.2.2.2.2.1]; exact Nat.le_of_ble_eq_true rfl) (by rw [show jms (jof X) = _ from hM.2.2.2.2.2.2.1]; exact Nat.le_of_ble_eq_true rfl) ⟨rfl, rfl⟩
    · have h := (if_neg hc0).symm.trans h
      cases h
def p_L_judge (N : Nat) (G : Nat → Nat → Int32) (J : Nat → Nat → Int64) (p0 : Int32) (p1 : Int32) : Option (Int32 × (Nat → Nat → Int32) × (Nat → Nat → Int64)) :=
  jbh (p_X5_judge N (jvw G 0) (jvw J 0) p0 p1) (fun v1 => jlt (jupL J 70 0 (v1.1.toInt64)) fun J1 => some ((0 : Int32), (jpt G 0 70 v1.2), J1)) (fun c => if c = 1 then some ((1 : Int32), G, J) else if c = 2 then some ((2 : Int32), G, J) else if c = 3 then some ((3 : Int32), G, J) else none)
set_option maxHeartbeats 4000000 in
set_option maxRecDepth 100000 in
theorem m_L_judge (V : jV) (hV : V.1.stackTraces = false) (N : Nat) (G : Nat → Nat → Int32) (J : Nat → Nat → Int64) (p0 : Int32) (p1 : Int32) (res : Int32 × (Nat → Nat → Int32) × (Nat → Nat → Int64)) (h : p_L_judge N G J p0 p1 = some res) : jMet V yL_judge (jwsH yL_judge cL_judge 5 (some .int) [(0, 10, 13, 19), (0, 10, 17, 38), (0, 10, 21, 13)]) ⟨8, 2, 12, 160⟩ false 4 [.ref 0, .int p0, .int p1, .ref 70] (hW G J) (fun o ν => o = some (.int res.1) ∧ ν = (hW res.2.1 res.2.2)) (fun _ _ => False) := by
  refine jmkH (tb := tbL) (C := kL_judge) hV rfl (by decide) tbL_ok rfl kL_judge_ok rfl ?_
  intro X hM _ hp
  unfold p_L_judge at h
  show JW X 0 0 0 [some (.ref 0), some (.int p0), some (.int p1), some (.ref 70), none] [] (hW G J)
  refine JW.rZ hM 0 5 (pc2 := 5) (L2 := [some (.ref 0), some (.int p0), some (.int p1), some (.ref 70), none]) (st2 := [.int p1, .int p0, .ref 0, .int (0 : Int32), .ref 70]) (μ2 := (hW G J)) rfl trivial ?_
  rcases jbhE h with h | h
  · obtain ⟨v1, hv, h⟩ := h
    refine JW.cVZ (v := some (.int v1.1)) hM (m_X5_judge_r (jVX X) hM.1.2.2.2.2.2.2.2.2.2.1 N (jvw G 0) (jvw J 0) p0 p1 v1 hv) (sb_W_X_0 G J) (bk_W_X_0 G J v1.2 (jvw J 0)) rfl rfl rfl kc_L_59 rfl rfl rfl rfl (Nat.le_of_ble_eq_true rfl) (Nat.le_of_ble_eq_true rfl) rfl (jat hM.2.1 5 rfl) (st := [.int (0 : Int32), .ref 70]) rfl ?_
    show JW X 2 12 8 [some (.ref 0), some (.int p0), some (.int p1), some (.ref 70), none] [.int v1.1, .int (0 : Int32), .ref 70] (hW (jpt G 0 70 v1.2) J)
    obtain ⟨J1, eJ, h⟩ := jlE h
    refine JW.rZ hM 6 2 (pc2 := 10) (L2 := [some (.ref 0), some (.int p0), some (.int p1), some (.ref 70), none]) (st2 := []) (μ2 := (hW (jpt G 0 70 v1.2) (jupL J 70 0 (v1.1.toInt64)))) rfl ⟨rfl, trivial⟩ ?_
    rw [eJ]
    refine JW.rZ hM 8 1 (pc2 := 25) (L2 := [some (.ref 0), some (.int p0), some (.int p1), some (.ref 70), none]) (st2 := []) (μ2 := (hW (jpt G 0 70 v1.2) J1)) rfl trivial ?_
    refine JW.rZ hM 18 1 (pc2 := 26) (L2 := [some (.ref 0), some (.int p0), some (.int p1), some (.ref 70), none]) (st2 := [.int (0 : Int32)]) (μ2 := (hW (jpt G 0 70 v1.2) J1)) rfl trivial ?_
    obtain rfl := Option.some.inj h
    exact js_iret hM.1 hp hM.2.2.2.2.2.2.2.1 (by rw [hM.2.2.2.2.2.1]; exact Nat.le_of_ble_eq_true rfl) (by rw [hM.2.2.2.2.2.2.1]; exact Nat.le_of_ble_eq_true rfl) (jat hM.2.1 19 rfl) ⟨rfl, rfl⟩
  · obtain ⟨c, hv, h⟩ := h
    by_cases hc0 : c = 1
    · subst hc0
      have h := (if_pos rfl).symm.trans h
      obtain rfl := Option.some.inj h
      refine JW.hVZ hM (E := jEn 1) (m_X5_judge_x (jVX X) hM.1.2.2.2.2.2.2.2.2.2.1 N (jvw G 0) (jvw J 0) p0 p1 1 hv) (sb_W_X_0 G J) (bi_W_X_0 G J) rfl rfl kc_L_59 rfl rfl rfl rfl (Nat.le_of_ble_eq_true rfl) (Nat.le_of_ble_eq_true rfl) rfl (jat hM.2.1 5 rfl) (st := [.int (0 : Int32), .ref 70]) rfl ?_
      exact JX.hret (X := jof X) (i := 4) (c := 1) (p2 := 15) hM.1 hp.off rfl hM.2.2.2.2.2.2.2.1 [(0, 10, 13, 19), (0, 10, 17, 38), (0, 10, 21, 13)] hM.2.2.2.2.2.2.2.2.2 [] ⟨0, 10, 13, 19⟩ [⟨0, 10, 17, 38⟩, ⟨0, 10, 21, 13⟩] rfl (fun _ h => absurd h List.not_mem_nil) rfl (by decide) (by rw [show jown (jof X) = RL from hM.2.2.1]; exact wd861) (by decide) (by rw [show jnL (jof X) = 5 from hM.2.2.2.1.2]; decide) (Or.inr ⟨jat hM.2.1 9 rfl, rfl⟩) (jat hM.2.1 10 rfl) (jat hM.2.1 11 rfl) (by rw [show jmc (jof X) = _ from hM.2.2.2.2.2.1]; exact Nat.le_of_ble_eq_true rfl) (by rw [show jms (jof X) = _ from hM.2.2.2.2.2.2.1]; exact Nat.le_of_ble_eq_true rfl) ⟨rfl, rfl⟩
    · have h := (if_neg hc0).symm.trans h
      by_cases hc1 : c = 2
      · subst hc1
        have h := (if_pos rfl).symm.trans h
        obtain rfl := Option.some.inj h
        refine JW.hVZ hM (E := jEn 2) (m_X5_judge_x (jVX X) hM.1.2.2.2.2.2.2.2.2.2.1 N (jvw G 0) (jvw J 0) p0 p1 2 hv) (sb_W_X_0 G J) (bi_W_X_0 G J) rfl rfl kc_L_59 rfl rfl rfl rfl (Nat.le_of_ble_eq_true rfl) (Nat.le_of_ble_eq_true rfl) rfl (jat hM.2.1 5 rfl) (st := [.int (0 : Int32), .ref 70]) rfl ?_
        exact JX.hret (X := jof X) (i := 4) (c := 2) (p2 := 19) hM.1 hp.off rfl hM.2.2.2.2.2.2.2.1 [(0, 10, 13, 19), (0, 10, 17, 38), (0, 10, 21, 13)] hM.2.2.2.2.2.2.2.2.2 [⟨0, 10, 13, 19⟩] ⟨0, 10, 17, 38⟩ [⟨0, 10, 21, 13⟩] rfl (List.forall_mem_cons.mpr ⟨⟨by decide, "java/util/NoSuchElementException", by rw [show jown (jof X) = RL from hM.2.2.1]; exact wd861, by decide⟩, fun _ h => absurd h List.not_mem_nil⟩) rfl (by decide) (by rw [show jown (jof X) = RL from hM.2.2.1]; exact wd931) (by decide) (by rw [show jnL (jof X) = 5 from hM.2.2.2.1.2]; decide) (Or.inr ⟨jat hM.2.1 12 rfl, rfl⟩) (jat hM.2.1 13 rfl) (jat hM.2.1 14 rfl) (by rw [show jmc (jof X) = _ from hM.2.2.2.2.2.1]; exact Nat.le_of_ble_eq_true rfl) (by rw [show jms (jof X) = _ from hM.2.2.2.2.2.2.1]; exact Nat.le_of_ble_eq_true rfl) ⟨rfl, rfl⟩
      · have h := (if_neg hc1).symm.trans h
        by_cases hc2 : c = 3
        · subst hc2
          have h := (if_pos rfl).symm.trans h
          obtain rfl := Option.some.inj h
          refine JW.hVZ hM (E := jEn 3) (m_X5_judge_x (jVX X) hM.1.2.2.2.2.2.2.2.2.2.1 N (jvw G 0) (jvw J 0) p0 p1 3 hv) (sb_W_X_0 G J) (bi_W_X_0 G J) rfl rfl kc_L_59 rfl rfl rfl rfl (Nat.le_of_ble_eq_true rfl) (Nat.le_of_ble_eq_true rfl) rfl (jat hM.2.1 5 rfl) (st := [.int (0 : Int32), .ref 70]) rfl ?_
          exact JX.hret (X := jof X) (i := 4) (c := 3) (p2 := 23) hM.1 hp.off rfl hM.2.2.2.2.2.2.2.1 [(0, 10, 13, 19), (0, 10, 17, 38), (0, 10, 21, 13)] hM.2.2.2.2.2.2.2.2.2 [⟨0, 10, 13, 19⟩, ⟨0, 10, 17, 38⟩] ⟨0, 10, 21, 13⟩ [] rfl (List.forall_mem_cons.mpr ⟨⟨by decide, "java/util/NoSuchElementException", by rw [show jown (jof X) = RL from hM.2.2.1]; exact wd861, by decide⟩, List.forall_mem_cons.mpr ⟨⟨by decide, "java/lang/IllegalStateException", by rw [show jown (jof X) = RL from hM.2.2.1]; exact wd931, by decide⟩, fun _ h => absurd h List.not_mem_nil⟩⟩) rfl (by decide) (by rw [show jown (jof X) = RL from hM.2.2.1]; exact wd653) (by decide) (by rw [show jnL (jof X) = 5 from hM.2.2.2.1.2]; decide) (Or.inr ⟨jat hM.2.1 15 rfl, rfl⟩) (jat hM.2.1 16 rfl) (jat hM.2.1 17 rfl) (by rw [show jmc (jof X) = _ from hM.2.2.2.2.2.1]; exact Nat.le_of_ble_eq_true rfl) (by rw [show jms (jof X) = _ from hM.2.2.2.2.2.2.1]; exact Nat.le_of_ble_eq_true rfl) ⟨rfl, rfl⟩
        · have h := (if_neg hc2).symm.trans h
          cases h
def p_L_perform (N : Nat) (G : Nat → Nat → Int32) (J : Nat → Nat → Int64) (p0 : Int32) : Option (Int32 × (Nat → Nat → Int32) × (Nat → Nat → Int64)) :=
  jbh (p_X5_perform N (jvw G 0) (jvw J 0) p0) (fun v1 => jlt (jupL J 70 0 (v1.1.toInt64)) fun J1 => some ((0 : Int32), (jpt G 0 70 v1.2), J1)) (fun c => if c = 1 then some ((1 : Int32), G, J) else if c = 2 then some ((2 : Int32), G, J) else none)
set_option maxHeartbeats 4000000 in
set_option maxRecDepth 100000 in
theorem m_L_perform (V : jV) (hV : V.1.stackTraces = false) (N : Nat) (G : Nat → Nat → Int32) (J : Nat → Nat → Int64) (p0 : Int32) (res : Int32 × (Nat → Nat → Int32) × (Nat → Nat → Int64)) (h : p_L_perform N G J p0 = some res) : jMet V yL_perform (jwsH yL_perform cL_perform 4 (some .int) [(0, 9, 12, 19), (0, 9, 15, 38)]) ⟨8, 1, 6, 157⟩ false 4 [.ref 0, .int p0, .ref 70] (hW G J) (fun o ν => o = some (.int res.1) ∧ ν = (hW res.2.1 res.2.2)) (fun _ _ => False) := by
  refine jmkH (tb := tbL) (C := kL_perform) hV rfl (by decide) tbL_ok rfl kL_perform_ok rfl ?_
  intro X hM _ hp
  unfold p_L_perform at h
  show JW X 0 0 0 [some (.ref 0), some (.int p0), some (.ref 70), none] [] (hW G J)
  refine JW.rZ hM 0 4 (pc2 := 4) (L2 := [some (.ref 0), some (.int p0), some (.ref 70), none]) (st2 := [.int p0, .ref 0, .int (0 : Int32), .ref 70]) (μ2 := (hW G J)) rfl trivial ?_
  rcases jbhE h with h | h
  · obtain ⟨v1, hv, h⟩ := h
    refine JW.cVZ (v := some (.int v1.1)) hM (m_X5_perform_r (jVX X) hM.1.2.2.2.2.2.2.2.2.2.1 N (jvw G 0) (jvw J 0) p0 v1 hv) (sb_W_X_0 G J) (bk_W_X_0 G J v1.2 (jvw J 0)) rfl rfl rfl kc_L_62 rfl rfl rfl rfl (Nat.le_of_ble_eq_true rfl) (Nat.le_of_ble_eq_true rfl) rfl (jat hM.2.1 4 rfl) (st := [.int (0 : Int32), .ref 70]) rfl ?_
    show JW X 1 6 7 [some (.ref 0), some (.int p0), some (.ref 70), none] [.int v1.1, .int (0 : Int32), .ref 70] (hW (jpt G 0 70 v1.2) J)
    obtain ⟨J1, eJ, h⟩ := jlE h
    refine JW.rZ hM 5 2 (pc2 := 9) (L2 := [some (.ref 0), some (.int p0), some (.ref 70), none]) (st2 := []) (μ2 := (hW (jpt G 0 70 v1.2) (jupL J 70 0 (v1.1.toInt64)))) rfl ⟨rfl, trivial⟩ ?_
    rw [eJ]
    refine JW.rZ hM 7 1 (pc2 := 18) (L2 := [some (.ref 0), some (.int p0), some (.ref 70), none]) (st2 := []) (μ2 := (hW (jpt G 0 70 v1.2) J1)) rfl trivial ?_
    refine JW.rZ hM 14 1 (pc2 := 19) (L2 := [some (.ref 0), some (.int p0), some (.ref 70), none]) (st2 := [.int (0 : Int32)]) (μ2 := (hW (jpt G 0 70 v1.2) J1)) rfl trivial ?_
    obtain rfl := Option.some.inj h
    exact js_iret hM.1 hp hM.2.2.2.2.2.2.2.1 (by rw [hM.2.2.2.2.2.1]; exact Nat.le_of_ble_eq_true rfl) (by rw [hM.2.2.2.2.2.2.1]; exact Nat.le_of_ble_eq_true rfl) (jat hM.2.1 15 rfl) ⟨rfl, rfl⟩
  · obtain ⟨c, hv, h⟩ := h
    by_cases hc0 : c = 1
    · subst hc0
      have h := (if_pos rfl).symm.trans h
      obtain rfl := Option.some.inj h
      refine JW.hVZ hM (E := jEn 1) (m_X5_perform_x (jVX X) hM.1.2.2.2.2.2.2.2.2.2.1 N (jvw G 0) (jvw J 0) p0 1 hv) (sb_W_X_0 G J) (bi_W_X_0 G J) rfl rfl kc_L_62 rfl rfl rfl rfl (Nat.le_of_ble_eq_true rfl) (Nat.le_of_ble_eq_true rfl) rfl (jat hM.2.1 4 rfl) (st := [.int (0 : Int32), .ref 70]) rfl ?_
      exact JX.hret (X := jof X) (i := 3) (c := 1) (p2 := 13) hM.1 hp.off rfl hM.2.2.2.2.2.2.2.1 [(0, 9, 12, 19), (0, 9, 15, 38)] hM.2.2.2.2.2.2.2.2.2 [] ⟨0, 9, 12, 19⟩ [⟨0, 9, 15, 38⟩] rfl (fun _ h => absurd h List.not_mem_nil) rfl (by decide) (by rw [show jown (jof X) = RL from hM.2.2.1]; exact wd861) (by decide) (by rw [show jnL (jof X) = 4 from hM.2.2.2.1.2]; decide) (Or.inl ⟨3, rfl, jat hM.2.1 8 rfl, rfl⟩) (jat hM.2.1 9 rfl) (jat hM.2.1 10 rfl) (by rw [show jmc (jof X) = _ from hM.2.2.2.2.2.1]; exact Nat.le_of_ble_eq_true rfl) (by rw [show jms (jof X) = _ from hM.2.2.2.2.2.2.1]; exact Nat.le_of_ble_eq_true rfl) ⟨rfl, rfl⟩
    · have h := (if_neg hc0).symm.trans h
      by_cases hc1 : c = 2
      · subst hc1
        have h := (if_pos rfl).symm.trans h
        obtain rfl := Option.some.inj h
        refine JW.hVZ hM (E := jEn 2) (m_X5_perform_x (jVX X) hM.1.2.2.2.2.2.2.2.2.2.1 N (jvw G 0) (jvw J 0) p0 2 hv) (sb_W_X_0 G J) (bi_W_X_0 G J) rfl rfl kc_L_62 rfl rfl rfl rfl (Nat.le_of_ble_eq_true rfl) (Nat.le_of_ble_eq_true rfl) rfl (jat hM.2.1 4 rfl) (st := [.int (0 : Int32), .ref 70]) rfl ?_
        exact JX.hret (X := jof X) (i := 3) (c := 2) (p2 := 16) hM.1 hp.off rfl hM.2.2.2.2.2.2.2.1 [(0, 9, 12, 19), (0, 9, 15, 38)] hM.2.2.2.2.2.2.2.2.2 [⟨0, 9, 12, 19⟩] ⟨0, 9, 15, 38⟩ [] rfl (List.forall_mem_cons.mpr ⟨⟨by decide, "java/util/NoSuchElementException", by rw [show jown (jof X) = RL from hM.2.2.1]; exact wd861, by decide⟩, fun _ h => absurd h List.not_mem_nil⟩) rfl (by decide) (by rw [show jown (jof X) = RL from hM.2.2.1]; exact wd931) (by decide) (by rw [show jnL (jof X) = 4 from hM.2.2.2.1.2]; decide) (Or.inl ⟨3, rfl, jat hM.2.1 11 rfl, rfl⟩) (jat hM.2.1 12 rfl) (jat hM.2.1 13 rfl) (by rw [show jmc (jof X) = _ from hM.2.2.2.2.2.1]; exact Nat.le_of_ble_eq_true rfl) (by rw [show jms (jof X) = _ from hM.2.2.2.2.2.2.1]; exact Nat.le_of_ble_eq_true rfl) ⟨rfl, rfl⟩
      · have h := (if_neg hc1).symm.trans h
        cases h
def p_L_day (N : Nat) (G : Nat → Nat → Int32) (J : Nat → Nat → Int64) (p0 : Int32) (p1 : Int32) : Option (Int32 × (Nat → Nat → Int32) × (Nat → Nat → Int64)) :=
  jbh (p_X5_day N (jvw G 0) (jvw J 0) p0 p1) (fun v1 => jlt (jupL J 70 0 (v1.1.toInt64)) fun J1 => some ((0 : Int32), (jpt G 0 70 v1.2), J1)) (fun c => if c = 3 then some ((1 : Int32), G, J) else none)
set_option maxHeartbeats 4000000 in
set_option maxRecDepth 100000 in
theorem m_L_day (V : jV) (hV : V.1.stackTraces = false) (N : Nat) (G : Nat → Nat → Int32) (J : Nat → Nat → Int64) (p0 : Int32) (p1 : Int32) (res : Int32 × (Nat → Nat → Int32) × (Nat → Nat → Int64)) (h : p_L_day N G J p0 p1 = some res) : jMet V yL_day (jwsH yL_day cL_day 5 (some .int) [(0, 10, 13, 13)]) ⟨7, 1, 6, 163⟩ false 4 [.ref 0, .int p0, .int p1, .ref 70] (hW G J) (fun o ν => o = some (.int res.1) ∧ ν = (hW res.2.1 res.2.2)) (fun _ _ => False) := by
  refine jmkH (tb := tbL) (C := kL_day) hV rfl (by decide) tbL_ok rfl kL_day_ok rfl ?_
  intro X hM _ hp
  unfold p_L_day at h
  show JW X 0 0 0 [some (.ref 0), some (.int p0), some (.int p1), some (.ref 70), none] [] (hW G J)
  refine JW.rZ hM 0 5 (pc2 := 5) (L2 := [some (.ref 0), some (.int p0), some (.int p1), some (.ref 70), none]) (st2 := [.int p1, .int p0, .ref 0, .int (0 : Int32), .ref 70]) (μ2 := (hW G J)) rfl trivial ?_
  rcases jbhE h with h | h
  · obtain ⟨v1, hv, h⟩ := h
    refine JW.cVZ (v := some (.int v1.1)) hM (m_X5_day_r (jVX X) hM.1.2.2.2.2.2.2.2.2.2.1 N (jvw G 0) (jvw J 0) p0 p1 v1 hv) (sb_W_X_0 G J) (bk_W_X_0 G J v1.2 (jvw J 0)) rfl rfl rfl kc_L_65 rfl rfl rfl rfl (Nat.le_of_ble_eq_true rfl) (Nat.le_of_ble_eq_true rfl) rfl (jat hM.2.1 5 rfl) (st := [.int (0 : Int32), .ref 70]) rfl ?_
    show JW (jof X) 1 6 8 [some (.ref 0), some (.int p0), some (.int p1), some (.ref 70), none] [.int v1.1, .int (0 : Int32), .ref 70] (hW (jpt G 0 70 v1.2) J)
    have hM := hM.off (fun h => h)
    have hp := hp.off
    generalize jof X = X at hM hp ⊢
    obtain ⟨J1, eJ, h⟩ := jlE h
    refine JW.rZ hM 6 2 (pc2 := 10) (L2 := [some (.ref 0), some (.int p0), some (.int p1), some (.ref 70), none]) (st2 := []) (μ2 := (hW (jpt G 0 70 v1.2) (jupL J 70 0 (v1.1.toInt64)))) rfl ⟨rfl, trivial⟩ ?_
    rw [eJ]
    refine JW.rZ hM 8 1 (pc2 := 17) (L2 := [some (.ref 0), some (.int p0), some (.int p1), some (.ref 70), none]) (st2 := []) (μ2 := (hW (jpt G 0 70 v1.2) J1)) rfl trivial ?_
    refine JW.rZ hM 12 1 (pc2 := 18) (L2 := [some (.ref 0), some (.int p0), some (.int p1), some (.ref 70), none]) (st2 := [.int (0 : Int32)]) (μ2 := (hW (jpt G 0 70 v1.2) J1)) rfl trivial ?_
    obtain rfl := Option.some.inj h
    exact js_iret hM.1 hp hM.2.2.2.2.2.2.2.1 (by rw [hM.2.2.2.2.2.1]; exact Nat.le_of_ble_eq_true rfl) (by rw [hM.2.2.2.2.2.2.1]; exact Nat.le_of_ble_eq_true rfl) (jat hM.2.1 13 rfl) ⟨rfl, rfl⟩
  · obtain ⟨c, hv, h⟩ := h
    by_cases hc0 : c = 3
    · subst hc0
      have h := (if_pos rfl).symm.trans h
      obtain rfl := Option.some.inj h
      refine JW.hVZ hM (E := jEn 3) (m_X5_day_x (jVX X) hM.1.2.2.2.2.2.2.2.2.2.1 N (jvw G 0) (jvw J 0) p0 p1 3 hv) (sb_W_X_0 G J) (bi_W_X_0 G J) rfl rfl kc_L_65 rfl rfl rfl rfl (Nat.le_of_ble_eq_true rfl) (Nat.le_of_ble_eq_true rfl) rfl (jat hM.2.1 5 rfl) (st := [.int (0 : Int32), .ref 70]) rfl ?_
      exact JX.hret (X := jof X) (i := 4) (c := 1) (p2 := 15) hM.1 hp.off rfl hM.2.2.2.2.2.2.2.1 [(0, 10, 13, 13)] hM.2.2.2.2.2.2.2.2.2 [] ⟨0, 10, 13, 13⟩ [] rfl (fun _ h => absurd h List.not_mem_nil) rfl (by decide) (by rw [show jown (jof X) = RL from hM.2.2.1]; exact wd653) (by decide) (by rw [show jnL (jof X) = 5 from hM.2.2.2.1.2]; decide) (Or.inr ⟨jat hM.2.1 9 rfl, rfl⟩) (jat hM.2.1 10 rfl) (jat hM.2.1 11 rfl) (by rw [show jmc (jof X) = _ from hM.2.2.2.2.2.1]; exact Nat.le_of_ble_eq_true rfl) (by rw [show jms (jof X) = _ from hM.2.2.2.2.2.2.1]; exact Nat.le_of_ble_eq_true rfl) ⟨rfl, rfl⟩
    · have h := (if_neg hc0).symm.trans h
      cases h
def p_L_gain (N : Nat) (G : Nat → Nat → Int32) (J : Nat → Nat → Int64) (p0 : Int32) (p1 : Int32) : Option (Int32 × (Nat → Nat → Int64)) :=
  jbh (p_X5_gain N (jvw G 0) (jvw J 0) p0 p1) (fun v1 => jlt (jupL J 70 0 (v1.toInt64)) fun J1 => some ((0 : Int32), J1)) (fun c => if c = 1 then some ((1 : Int32), J) else none)
set_option maxHeartbeats 4000000 in
set_option maxRecDepth 100000 in
theorem m_L_gain (V : jV) (hV : V.1.stackTraces = false) (N : Nat) (G : Nat → Nat → Int32) (J : Nat → Nat → Int64) (p0 : Int32) (p1 : Int32) (res : Int32 × (Nat → Nat → Int64)) (h : p_L_gain N G J p0 p1 = some res) : jMet V yL_gain (jwsH yL_gain cL_gain 5 (some .int) [(0, 10, 13, 19)]) ⟨8, 2, 12, 132⟩ false 4 [.ref 0, .int p0, .int p1, .ref 70] (hW G J) (fun o ν => o = some (.int res.1) ∧ ν = (hW G res.2)) (fun _ _ => False) := by
  refine jmkH (tb := tbL) (C := kL_gain) hV rfl (by decide) tbL_ok rfl kL_gain_ok rfl ?_
  intro X hM _ hp
  unfold p_L_gain at h
  show JW X 0 0 0 [some (.ref 0), some (.int p0), some (.int p1), some (.ref 70), none] [] (hW G J)
  refine JW.rZ hM 0 5 (pc2 := 5) (L2 := [some (.ref 0), some (.int p0), some (.int p1), some (.ref 70), none]) (st2 := [.int p1, .int p0, .ref 0, .int (0 : Int32), .ref 70]) (μ2 := (hW G J)) rfl trivial ?_
  rcases jbhE h with h | h
  · obtain ⟨v1, hv, h⟩ := h
    refine JW.cVZ (v := some (.int v1)) hM (m_X5_gain_r (jVX X) hM.1.2.2.2.2.2.2.2.2.2.1 N (jvw G 0) (jvw J 0) p0 p1 v1 hv) (sb_W_X_0 G J) (bi_W_X_0 G J) rfl rfl rfl kc_L_68 rfl rfl rfl rfl (Nat.le_of_ble_eq_true rfl) (Nat.le_of_ble_eq_true rfl) rfl (jat hM.2.1 5 rfl) (st := [.int (0 : Int32), .ref 70]) rfl ?_
    show JW X 2 12 8 [some (.ref 0), some (.int p0), some (.int p1), some (.ref 70), none] [.int v1, .int (0 : Int32), .ref 70] (hW G J)
    obtain ⟨J1, eJ, h⟩ := jlE h
    refine JW.rZ hM 6 2 (pc2 := 10) (L2 := [some (.ref 0), some (.int p0), some (.int p1), some (.ref 70), none]) (st2 := []) (μ2 := (hW G (jupL J 70 0 (v1.toInt64)))) rfl ⟨rfl, trivial⟩ ?_
    rw [eJ]
    refine JW.rZ hM 8 1 (pc2 := 17) (L2 := [some (.ref 0), some (.int p0), some (.int p1), some (.ref 70), none]) (st2 := []) (μ2 := (hW G J1)) rfl trivial ?_
    refine JW.rZ hM 12 1 (pc2 := 18) (L2 := [some (.ref 0), some (.int p0), some (.int p1), some (.ref 70), none]) (st2 := [.int (0 : Int32)]) (μ2 := (hW G J1)) rfl trivial ?_
    obtain rfl := Option.some.inj h
    exact js_iret hM.1 hp hM.2.2.2.2.2.2.2.1 (by rw [hM.2.2.2.2.2.1]; exact Nat.le_of_ble_eq_true rfl) (by rw [hM.2.2.2.2.2.2.1]; exact Nat.le_of_ble_eq_true rfl) (jat hM.2.1 13 rfl) ⟨rfl, rfl⟩
  · obtain ⟨c, hv, h⟩ := h
    by_cases hc0 : c = 1
    · subst hc0
      have h := (if_pos rfl).symm.trans h
      obtain rfl := Option.some.inj h
      refine JW.hVZ hM (E := jEn 1) (m_X5_gain_x (jVX X) hM.1.2.2.2.2.2.2.2.2.2.1 N (jvw G 0) (jvw J 0) p0 p1 1 hv) (sb_W_X_0 G J) (bi_W_X_0 G J) rfl rfl kc_L_68 rfl rfl rfl rfl (Nat.le_of_ble_eq_true rfl) (Nat.le_of_ble_eq_true rfl) rfl (jat hM.2.1 5 rfl) (st := [.int (0 : Int32), .ref 70]) rfl ?_
      exact JX.hret (X := jof X) (i := 4) (c := 1) (p2 := 15) hM.1 hp.off rfl hM.2.2.2.2.2.2.2.1 [(0, 10, 13, 19)] hM.2.2.2.2.2.2.2.2.2 [] ⟨0, 10, 13, 19⟩ [] rfl (fun _ h => absurd h List.not_mem_nil) rfl (by decide) (by rw [show jown (jof X) = RL from hM.2.2.1]; exact wd861) (by decide) (by rw [show jnL (jof X) = 5 from hM.2.2.2.1.2]; decide) (Or.inr ⟨jat hM.2.1 9 rfl, rfl⟩) (jat hM.2.1 10 rfl) (jat hM.2.1 11 rfl) (by rw [show jmc (jof X) = _ from hM.2.2.2.2.2.1]; exact Nat.le_of_ble_eq_true rfl) (by rw [show jms (jof X) = _ from hM.2.2.2.2.2.2.1]; exact Nat.le_of_ble_eq_true rfl) ⟨rfl, rfl⟩
    · have h := (if_neg hc0).symm.trans h
      cases h
def p_L_pledge (N : Nat) (G : Nat → Nat → Int32) (J : Nat → Nat → Int64) (p0 : Int32) : Option (Int32 × (Nat → Nat → Int64)) :=
  jbh (p_X5_pledge N (jvw G 0) (jvw J 0) p0) (fun v1 => jlt (jupL J 70 0 (v1.toInt64)) fun J1 => some ((0 : Int32), J1)) (fun c => if c = 1 then some ((1 : Int32), J) else none)
set_option maxHeartbeats 4000000 in
set_option maxRecDepth 100000 in
theorem m_L_pledge (V : jV) (hV : V.1.stackTraces = false) (N : Nat) (G : Nat → Nat → Int32) (J : Nat → Nat → Int64) (p0 : Int32) (res : Int32 × (Nat → Nat → Int64)) (h : p_L_pledge N G J p0 = some res) : jMet V yL_pledge (jwsH yL_pledge cL_pledge 4 (some .int) [(0, 9, 12, 19)]) ⟨8, 1, 6, 135⟩ false 4 [.ref 0, .int p0, .ref 70] (hW G J) (fun o ν => o = some (.int res.1) ∧ ν = (hW G res.2)) (fun _ _ => False) := by
  refine jmkH (tb := tbL) (C := kL_pledge) hV rfl (by decide) tbL_ok rfl kL_pledge_ok rfl ?_
  intro X hM _ hp
  unfold p_L_pledge at h
  show JW X 0 0 0 [some (.ref 0), some (.int p0), some (.ref 70), none] [] (hW G J)
  refine JW.rZ hM 0 4 (pc2 := 4) (L2 := [some (.ref 0), some (.int p0), some (.ref 70), none]) (st2 := [.int p0, .ref 0, .int (0 : Int32), .ref 70]) (μ2 := (hW G J)) rfl trivial ?_
  rcases jbhE h with h | h
  · obtain ⟨v1, hv, h⟩ := h
    refine JW.cVZ (v := some (.int v1)) hM (m_X5_pledge_r (jVX X) hM.1.2.2.2.2.2.2.2.2.2.1 N (jvw G 0) (jvw J 0) p0 v1 hv) (sb_W_X_0 G J) (bi_W_X_0 G J) rfl rfl rfl kc_L_71 rfl rfl rfl rfl (Nat.le_of_ble_eq_true rfl) (Nat.le_of_ble_eq_true rfl) rfl (jat hM.2.1 4 rfl) (st := [.int (0 : Int32), .ref 70]) rfl ?_
    show JW X 1 6 7 [some (.ref 0), some (.int p0), some (.ref 70), none] [.int v1, .int (0 : Int32), .ref 70] (hW G J)
    obtain ⟨J1, eJ, h⟩ := jlE h
    refine JW.rZ hM 5 2 (pc2 := 9) (L2 := [some (.ref 0), some (.int p0), some (.ref 70), none]) (st2 := []) (μ2 := (hW G (jupL J 70 0 (v1.toInt64)))) rfl ⟨rfl, trivial⟩ ?_
    rw [eJ]
    refine JW.rZ hM 7 1 (pc2 := 15) (L2 := [some (.ref 0), some (.int p0), some (.ref 70), none]) (st2 := []) (μ2 := (hW G J1)) rfl trivial ?_
    refine JW.rZ hM 11 1 (pc2 := 16) (L2 := [some (.ref 0), some (.int p0), some (.ref 70), none]) (st2 := [.int (0 : Int32)]) (μ2 := (hW G J1)) rfl trivial ?_
    obtain rfl := Option.some.inj h
    exact js_iret hM.1 hp hM.2.2.2.2.2.2.2.1 (by rw [hM.2.2.2.2.2.1]; exact Nat.le_of_ble_eq_true rfl) (by rw [hM.2.2.2.2.2.2.1]; exact Nat.le_of_ble_eq_true rfl) (jat hM.2.1 12 rfl) ⟨rfl, rfl⟩
  · obtain ⟨c, hv, h⟩ := h
    by_cases hc0 : c = 1
    · subst hc0
      have h := (if_pos rfl).symm.trans h
      obtain rfl := Option.some.inj h
      refine JW.hVZ hM (E := jEn 1) (m_X5_pledge_x (jVX X) hM.1.2.2.2.2.2.2.2.2.2.1 N (jvw G 0) (jvw J 0) p0 1 hv) (sb_W_X_0 G J) (bi_W_X_0 G J) rfl rfl kc_L_71 rfl rfl rfl rfl (Nat.le_of_ble_eq_true rfl) (Nat.le_of_ble_eq_true rfl) rfl (jat hM.2.1 4 rfl) (st := [.int (0 : Int32), .ref 70]) rfl ?_
      exact JX.hret (X := jof X) (i := 3) (c := 1) (p2 := 13) hM.1 hp.off rfl hM.2.2.2.2.2.2.2.1 [(0, 9, 12, 19)] hM.2.2.2.2.2.2.2.2.2 [] ⟨0, 9, 12, 19⟩ [] rfl (fun _ h => absurd h List.not_mem_nil) rfl (by decide) (by rw [show jown (jof X) = RL from hM.2.2.1]; exact wd861) (by decide) (by rw [show jnL (jof X) = 4 from hM.2.2.2.1.2]; decide) (Or.inl ⟨3, rfl, jat hM.2.1 8 rfl, rfl⟩) (jat hM.2.1 9 rfl) (jat hM.2.1 10 rfl) (by rw [show jmc (jof X) = _ from hM.2.2.2.2.2.1]; exact Nat.le_of_ble_eq_true rfl) (by rw [show jms (jof X) = _ from hM.2.2.2.2.2.2.1]; exact Nat.le_of_ble_eq_true rfl) ⟨rfl, rfl⟩
    · have h := (if_neg hc0).symm.trans h
      cases h
def p_L_debt (N : Nat) (G : Nat → Nat → Int32) (J : Nat → Nat → Int64) (p0 : Int32) (p1 : Int32) : Option (Int32 × (Nat → Nat → Int64)) :=
  jbh (p_X5_debt N (jvw G 0) (jvw J 0) p0 p1) (fun v1 => jlt (jupL J 70 0 (v1.toInt64)) fun J1 => some ((0 : Int32), J1)) (fun c => if c = 1 then some ((1 : Int32), J) else if c = 3 then some ((2 : Int32), J) else none)
set_option maxHeartbeats 4000000 in
set_option maxRecDepth 100000 in
theorem m_L_debt (V : jV) (hV : V.1.stackTraces = false) (N : Nat) (G : Nat → Nat → Int32) (J : Nat → Nat → Int64) (p0 : Int32) (p1 : Int32) (res : Int32 × (Nat → Nat → Int64)) (h : p_L_debt N G J p0 p1 = some res) : jMet V yL_debt (jwsH yL_debt cL_debt 5 (some .int) [(0, 10, 13, 19), (0, 10, 17, 13)]) ⟨8, 2, 12, 136⟩ false 4 [.ref 0, .int p0, .int p1, .ref 70] (hW G J) (fun o ν => o = some (.int res.1) ∧ ν = (hW G res.2)) (fun _ _ => False) := by
  refine jmkH (tb := tbL) (C := kL_debt) hV rfl (by decide) tbL_ok rfl kL_debt_ok rfl ?_
  intro X hM _ hp
  unfold p_L_debt at h
  show JW X 0 0 0 [some (.ref 0), some (.int p0), some (.int p1), some (.ref 70), none] [] (hW G J)
  refine JW.rZ hM 0 5 (pc2 := 5) (L2 := [some (.ref 0), some (.int p0), some (.int p1), some (.ref 70), none]) (st2 := [.int p1, .int p0, .ref 0, .int (0 : Int32), .ref 70]) (μ2 := (hW G J)) rfl trivial ?_
  rcases jbhE h with h | h
  · obtain ⟨v1, hv, h⟩ := h
    refine JW.cVZ (v := some (.int v1)) hM (m_X5_debt_r (jVX X) hM.1.2.2.2.2.2.2.2.2.2.1 N (jvw G 0) (jvw J 0) p0 p1 v1 hv) (sb_W_X_0 G J) (bi_W_X_0 G J) rfl rfl rfl kc_L_74 rfl rfl rfl rfl (Nat.le_of_ble_eq_true rfl) (Nat.le_of_ble_eq_true rfl) rfl (jat hM.2.1 5 rfl) (st := [.int (0 : Int32), .ref 70]) rfl ?_
    show JW X 2 12 8 [some (.ref 0), some (.int p0), some (.int p1), some (.ref 70), none] [.int v1, .int (0 : Int32), .ref 70] (hW G J)
    obtain ⟨J1, eJ, h⟩ := jlE h
    refine JW.rZ hM 6 2 (pc2 := 10) (L2 := [some (.ref 0), some (.int p0), some (.int p1), some (.ref 70), none]) (st2 := []) (μ2 := (hW G (jupL J 70 0 (v1.toInt64)))) rfl ⟨rfl, trivial⟩ ?_
    rw [eJ]
    refine JW.rZ hM 8 1 (pc2 := 21) (L2 := [some (.ref 0), some (.int p0), some (.int p1), some (.ref 70), none]) (st2 := []) (μ2 := (hW G J1)) rfl trivial ?_
    refine JW.rZ hM 15 1 (pc2 := 22) (L2 := [some (.ref 0), some (.int p0), some (.int p1), some (.ref 70), none]) (st2 := [.int (0 : Int32)]) (μ2 := (hW G J1)) rfl trivial ?_
    obtain rfl := Option.some.inj h
    exact js_iret hM.1 hp hM.2.2.2.2.2.2.2.1 (by rw [hM.2.2.2.2.2.1]; exact Nat.le_of_ble_eq_true rfl) (by rw [hM.2.2.2.2.2.2.1]; exact Nat.le_of_ble_eq_true rfl) (jat hM.2.1 16 rfl) ⟨rfl, rfl⟩
  · obtain ⟨c, hv, h⟩ := h
    by_cases hc0 : c = 1
    · subst hc0
      have h := (if_pos rfl).symm.trans h
      obtain rfl := Option.some.inj h
      refine JW.hVZ hM (E := jEn 1) (m_X5_debt_x (jVX X) hM.1.2.2.2.2.2.2.2.2.2.1 N (jvw G 0) (jvw J 0) p0 p1 1 hv) (sb_W_X_0 G J) (bi_W_X_0 G J) rfl rfl kc_L_74 rfl rfl rfl rfl (Nat.le_of_ble_eq_true rfl) (Nat.le_of_ble_eq_true rfl) rfl (jat hM.2.1 5 rfl) (st := [.int (0 : Int32), .ref 70]) rfl ?_
      exact JX.hret (X := jof X) (i := 4) (c := 1) (p2 := 15) hM.1 hp.off rfl hM.2.2.2.2.2.2.2.1 [(0, 10, 13, 19), (0, 10, 17, 13)] hM.2.2.2.2.2.2.2.2.2 [] ⟨0, 10, 13, 19⟩ [⟨0, 10, 17, 13⟩] rfl (fun _ h => absurd h List.not_mem_nil) rfl (by decide) (by rw [show jown (jof X) = RL from hM.2.2.1]; exact wd861) (by decide) (by rw [show jnL (jof X) = 5 from hM.2.2.2.1.2]; decide) (Or.inr ⟨jat hM.2.1 9 rfl, rfl⟩) (jat hM.2.1 10 rfl) (jat hM.2.1 11 rfl) (by rw [show jmc (jof X) = _ from hM.2.2.2.2.2.1]; exact Nat.le_of_ble_eq_true rfl) (by rw [show jms (jof X) = _ from hM.2.2.2.2.2.2.1]; exact Nat.le_of_ble_eq_true rfl) ⟨rfl, rfl⟩
    · have h := (if_neg hc0).symm.trans h
      by_cases hc1 : c = 3
      · subst hc1
        have h := (if_pos rfl).symm.trans h
        obtain rfl := Option.some.inj h
        refine JW.hVZ hM (E := jEn 3) (m_X5_debt_x (jVX X) hM.1.2.2.2.2.2.2.2.2.2.1 N (jvw G 0) (jvw J 0) p0 p1 3 hv) (sb_W_X_0 G J) (bi_W_X_0 G J) rfl rfl kc_L_74 rfl rfl rfl rfl (Nat.le_of_ble_eq_true rfl) (Nat.le_of_ble_eq_true rfl) rfl (jat hM.2.1 5 rfl) (st := [.int (0 : Int32), .ref 70]) rfl ?_
        exact JX.hret (X := jof X) (i := 4) (c := 2) (p2 := 19) hM.1 hp.off rfl hM.2.2.2.2.2.2.2.1 [(0, 10, 13, 19), (0, 10, 17, 13)] hM.2.2.2.2.2.2.2.2.2 [⟨0, 10, 13, 19⟩] ⟨0, 10, 17, 13⟩ [] rfl (List.forall_mem_cons.mpr ⟨⟨by decide, "java/util/NoSuchElementException", by rw [show jown (jof X) = RL from hM.2.2.1]; exact wd861, by decide⟩, fun _ h => absurd h List.not_mem_nil⟩) rfl (by decide) (by rw [show jown (jof X) = RL from hM.2.2.1]; exact wd653) (by decide) (by rw [show jnL (jof X) = 5 from hM.2.2.2.1.2]; decide) (Or.inr ⟨jat hM.2.1 12 rfl, rfl⟩) (jat hM.2.1 13 rfl) (jat hM.2.1 14 rfl) (by rw [show jmc (jof X) = _ from hM.2.2.2.2.2.1]; exact Nat.le_of_ble_eq_true rfl) (by rw [show jms (jof X) = _ from hM.2.2.2.2.2.2.1]; exact Nat.le_of_ble_eq_true rfl) ⟨rfl, rfl⟩
      · have h := (if_neg hc1).symm.trans h
        cases h
def p_L_safePrice (N : Nat) (G : Nat → Nat → Int32) (J : Nat → Nat → Int64) (p0 : Int32) (p1 : Int32) (p2 : Int32) : Option (Int32 × (Nat → Nat → Int64)) :=
  jbh (p_X5_safePrice N (jvw G 0) (jvw J 0) p0 p1 p2) (fun v1 => jlt (jupL J 70 0 (v1.toInt64)) fun J1 => some ((0 : Int32), J1)) (fun c => if c = 1 then some ((1 : Int32), J) else if c = 2 then some ((2 : Int32), J) else if c = 3 then some ((3 : Int32), J) else none)
set_option maxHeartbeats 4000000 in
set_option maxRecDepth 100000 in
theorem m_L_safePrice (V : jV) (hV : V.1.stackTraces = false) (N : Nat) (G : Nat → Nat → Int32) (J : Nat → Nat → Int64) (p0 : Int32) (p1 : Int32) (p2 : Int32) (res : Int32 × (Nat → Nat → Int64)) (h : p_L_safePrice N G J p0 p1 p2 = some res) : jMet V yL_safePrice (jwsH yL_safePrice cL_safePrice 6 (some .int) [(0, 12, 15, 19), (0, 12, 19, 38), (0, 12, 23, 13)]) ⟨8, 3, 18, 135⟩ false 4 [.ref 0, .int p0, .int p1, .int p2, .ref 70] (hW G J) (fun o ν => o = some (.int res.1) ∧ ν = (hW G res.2)) (fun _ _ => False) := by
  refine jmkH (tb := tbL) (C := kL_safePrice) hV rfl (by decide) tbL_ok rfl kL_safePrice_ok rfl ?_
  intro X hM _ hp
  unfold p_L_safePrice at h
  show JW X 0 0 0 [some (.ref 0), some (.int p0), some (.int p1), some (.int p2), some (.ref 70), none] [] (hW G J)
  refine JW.rZ hM 0 6 (pc2 := 7) (L2 := [some (.ref 0), some (.int p0), some (.int p1), some (.int p2), some (.ref 70), none]) (st2 := [.int p2, .int p1, .int p0, .ref 0, .int (0 : Int32), .ref 70]) (μ2 := (hW G J)) rfl trivial ?_
  rcases jbhE h with h | h
  · obtain ⟨v1, hv, h⟩ := h
    refine JW.cVZ (v := some (.int v1)) hM (m_X5_safePrice_r (jVX X) hM.1.2.2.2.2.2.2.2.2.2.1 N (jvw G 0) (jvw J 0) p0 p1 p2 v1 hv) (sb_W_X_0 G J) (bi_W_X_0 G J) rfl rfl rfl kc_L_77 rfl rfl rfl rfl (Nat.le_of_ble_eq_true rfl) (Nat.le_of_ble_eq_true rfl) rfl (jat hM.2.1 6 rfl) (st := [.int (0 : Int32), .ref 70]) rfl ?_
    show JW X 3 18 10 [some (.ref 0), some (.int p0), some (.int p1), some (.int p2), some (.ref 70), none] [.int v1, .int (0 : Int32), .ref 70] (hW G J)
    obtain ⟨J1, eJ, h⟩ := jlE h
    refine JW.rZ hM 7 2 (pc2 := 12) (L2 := [some (.ref 0), some (.int p0), some (.int p1), some (.int p2), some (.ref 70), none]) (st2 := []) (μ2 := (hW G (jupL J 70 0 (v1.toInt64)))) rfl ⟨rfl, trivial⟩ ?_
    rw [eJ]
    refine JW.rZ hM 9 1 (pc2 := 27) (L2 := [some (.ref 0), some (.int p0), some (.int p1), some (.int p2), some (.ref 70), none]) (st2 := []) (μ2 := (hW G J1)) rfl trivial ?_
    refine JW.rZ hM 19 1 (pc2 := 28) (L2 := [some (.ref 0), some (.int p0), some (.int p1), some (.int p2), some (.ref 70), none]) (st2 := [.int (0 : Int32)]) (μ2 := (hW G J1)) rfl trivial ?_
    obtain rfl := Option.some.inj h
    exact js_iret hM.1 hp hM.2.2.2.2.2.2.2.1 (by rw [hM.2.2.2.2.2.1]; exact Nat.le_of_ble_eq_true rfl) (by rw [hM.2.2.2.2.2.2.1]; exact Nat.le_of_ble_eq_true rfl) (jat hM.2.1 20 rfl) ⟨rfl, rfl⟩
  · obtain ⟨c, hv, h⟩ := h
    by_cases hc0 : c = 1
    · subst hc0
      have h := (if_pos rfl).symm.trans h
      obtain rfl := Option.some.inj h
      refine JW.hVZ hM (E := jEn 1) (m_X5_safePrice_x (jVX X) hM.1.2.2.2.2.2.2.2.2.2.1 N (jvw G 0) (jvw J 0) p0 p1 p2 1 hv) (sb_W_X_0 G J) (bi_W_X_0 G J) rfl rfl kc_L_77 rfl rfl rfl rfl (Nat.le_of_ble_eq_true rfl) (Nat.le_of_ble_eq_true rfl) rfl (jat hM.2.1 6 rfl) (st := [.int (0 : Int32), .ref 70]) rfl ?_
      exact JX.hret (X := jof X) (i := 5) (c := 1) (p2 := 17) hM.1 hp.off rfl hM.2.2.2.2.2.2.2.1 [(0, 12, 15, 19), (0, 12, 19, 38), (0, 12, 23, 13)] hM.2.2.2.2.2.2.2.2.2 [] ⟨0, 12, 15, 19⟩ [⟨0, 12, 19, 38⟩, ⟨0, 12, 23, 13⟩] rfl (fun _ h => absurd h List.not_mem_nil) rfl (by decide) (by rw [show jown (jof X) = RL from hM.2.2.1]; exact wd861) (by decide) (by rw [show jnL (jof X) = 6 from hM.2.2.2.1.2]; decide) (Or.inr ⟨jat hM.2.1 10 rfl, rfl⟩) (jat hM.2.1 11 rfl) (jat hM.2.1 12 rfl) (by rw [show jmc (jof X) = _ from hM.2.2.2.2.2.1]; exact Nat.le_of_ble_eq_true rfl) (by rw [show jms (jof X) = _ from hM.2.2.2.2.2.2.1]; exact Nat.le_of_ble_eq_true rfl) ⟨rfl, rfl⟩
    · have h := (if_neg hc0).symm.trans h
      by_cases hc1 : c = 2
      · subst hc1
        have h := (if_pos rfl).symm.trans h
        obtain rfl := Option.some.inj h
        refine JW.hVZ hM (E := jEn 2) (m_X5_safePrice_x (jVX X) hM.1.2.2.2.2.2.2.2.2.2.1 N (jvw G 0) (jvw J 0) p0 p1 p2 2 hv) (sb_W_X_0 G J) (bi_W_X_0 G J) rfl rfl kc_L_77 rfl rfl rfl rfl (Nat.le_of_ble_eq_true rfl) (Nat.le_of_ble_eq_true rfl) rfl (jat hM.2.1 6 rfl) (st := [.int (0 : Int32), .ref 70]) rfl ?_
        exact JX.hret (X := jof X) (i := 5) (c := 2) (p2 := 21) hM.1 hp.off rfl hM.2.2.2.2.2.2.2.1 [(0, 12, 15, 19), (0, 12, 19, 38), (0, 12, 23, 13)] hM.2.2.2.2.2.2.2.2.2 [⟨0, 12, 15, 19⟩] ⟨0, 12, 19, 38⟩ [⟨0, 12, 23, 13⟩] rfl (List.forall_mem_cons.mpr ⟨⟨by decide, "java/util/NoSuchElementException", by rw [show jown (jof X) = RL from hM.2.2.1]; exact wd861, by decide⟩, fun _ h => absurd h List.not_mem_nil⟩) rfl (by decide) (by rw [show jown (jof X) = RL from hM.2.2.1]; exact wd931) (by decide) (by rw [show jnL (jof X) = 6 from hM.2.2.2.1.2]; decide) (Or.inr ⟨jat hM.2.1 13 rfl, rfl⟩) (jat hM.2.1 14 rfl) (jat hM.2.1 15 rfl) (by rw [show jmc (jof X) = _ from hM.2.2.2.2.2.1]; exact Nat.le_of_ble_eq_true rfl) (by rw [show jms (jof X) = _ from hM.2.2.2.2.2.2.1]; exact Nat.le_of_ble_eq_true rfl) ⟨rfl, rfl⟩
      · have h := (if_neg hc1).symm.trans h
        by_cases hc2 : c = 3
        · subst hc2
          have h := (if_pos rfl).symm.trans h
          obtain rfl := Option.some.inj h
          refine JW.hVZ hM (E := jEn 3) (m_X5_safePrice_x (jVX X) hM.1.2.2.2.2.2.2.2.2.2.1 N (jvw G 0) (jvw J 0) p0 p1 p2 3 hv) (sb_W_X_0 G J) (bi_W_X_0 G J) rfl rfl kc_L_77 rfl rfl rfl rfl (Nat.le_of_ble_eq_true rfl) (Nat.le_of_ble_eq_true rfl) rfl (jat hM.2.1 6 rfl) (st := [.int (0 : Int32), .ref 70]) rfl ?_
          exact JX.hret (X := jof X) (i := 5) (c := 3) (p2 := 25) hM.1 hp.off rfl hM.2.2.2.2.2.2.2.1 [(0, 12, 15, 19), (0, 12, 19, 38), (0, 12, 23, 13)] hM.2.2.2.2.2.2.2.2.2 [⟨0, 12, 15, 19⟩, ⟨0, 12, 19, 38⟩] ⟨0, 12, 23, 13⟩ [] rfl (List.forall_mem_cons.mpr ⟨⟨by decide, "java/util/NoSuchElementException", by rw [show jown (jof X) = RL from hM.2.2.1]; exact wd861, by decide⟩, List.forall_mem_cons.mpr ⟨⟨by decide, "java/lang/IllegalStateException", by rw [show jown (jof X) = RL from hM.2.2.1]; exact wd931, by decide⟩, fun _ h => absurd h List.not_mem_nil⟩⟩) rfl (by decide) (by rw [show jown (jof X) = RL from hM.2.2.1]; exact wd653) (by decide) (by rw [show jnL (jof X) = 6 from hM.2.2.2.1.2]; decide) (Or.inr ⟨jat hM.2.1 16 rfl, rfl⟩) (jat hM.2.1 17 rfl) (jat hM.2.1 18 rfl) (by rw [show jmc (jof X) = _ from hM.2.2.2.2.2.1]; exact Nat.le_of_ble_eq_true rfl) (by rw [show jms (jof X) = _ from hM.2.2.2.2.2.2.1]; exact Nat.le_of_ble_eq_true rfl) ⟨rfl, rfl⟩
        · have h := (if_neg hc2).symm.trans h
          cases h
def p_L_bidder (N : Nat) (G : Nat → Nat → Int32) (J : Nat → Nat → Int64) (p0 : Int32) : Option (Int32 × (Nat → Nat → Int64)) :=
  jbh (p_X5_bidder N (jvw G 0) (jvw J 0) p0) (fun v1 => jlt (jupL J 70 0 (v1.toInt64)) fun J1 => some ((0 : Int32), J1)) (fun c => if c = 1 then some ((1 : Int32), J) else none)
set_option maxHeartbeats 4000000 in
set_option maxRecDepth 100000 in
theorem m_L_bidder (V : jV) (hV : V.1.stackTraces = false) (N : Nat) (G : Nat → Nat → Int32) (J : Nat → Nat → Int64) (p0 : Int32) (res : Int32 × (Nat → Nat → Int64)) (h : p_L_bidder N G J p0 = some res) : jMet V yL_bidder (jwsH yL_bidder cL_bidder 4 (some .int) [(0, 9, 12, 19)]) ⟨8, 1, 6, 135⟩ false 4 [.ref 0, .int p0, .ref 70] (hW G J) (fun o ν => o = some (.int res.1) ∧ ν = (hW G res.2)) (fun _ _ => False) := by
  refine jmkH (tb := tbL) (C := kL_bidder) hV rfl (by decide) tbL_ok rfl kL_bidder_ok rfl ?_
  intro X hM _ hp
  unfold p_L_bidder at h
  show JW X 0 0 0 [some (.ref 0), some (.int p0), some (.ref 70), none] [] (hW G J)
  refine JW.rZ hM 0 4 (pc2 := 4) (L2 := [some (.ref 0), some (.int p0), some (.ref 70), none]) (st2 := [.int p0, .ref 0, .int (0 : Int32), .ref 70]) (μ2 := (hW G J)) rfl trivial ?_
  rcases jbhE h with h | h
  · obtain ⟨v1, hv, h⟩ := h
    refine JW.cVZ (v := some (.int v1)) hM (m_X5_bidder_r (jVX X) hM.1.2.2.2.2.2.2.2.2.2.1 N (jvw G 0) (jvw J 0) p0 v1 hv) (sb_W_X_0 G J) (bi_W_X_0 G J) rfl rfl rfl kc_L_80 rfl rfl rfl rfl (Nat.le_of_ble_eq_true rfl) (Nat.le_of_ble_eq_true rfl) rfl (jat hM.2.1 4 rfl) (st := [.int (0 : Int32), .ref 70]) rfl ?_
    show JW X 1 6 7 [some (.ref 0), some (.int p0), some (.ref 70), none] [.int v1, .int (0 : Int32), .ref 70] (hW G J)
    obtain ⟨J1, eJ, h⟩ := jlE h
    refine JW.rZ hM 5 2 (pc2 := 9) (L2 := [some (.ref 0), some (.int p0), some (.ref 70), none]) (st2 := []) (μ2 := (hW G (jupL J 70 0 (v1.toInt64)))) rfl ⟨rfl, trivial⟩ ?_
    rw [eJ]
    refine JW.rZ hM 7 1 (pc2 := 15) (L2 := [some (.ref 0), some (.int p0), some (.ref 70), none]) (st2 := []) (μ2 := (hW G J1)) rfl trivial ?_
    refine JW.rZ hM 11 1 (pc2 := 16) (L2 := [some (.ref 0), some (.int p0), some (.ref 70), none]) (st2 := [.int (0 : Int32)]) (μ2 := (hW G J1)) rfl trivial ?_
    obtain rfl := Option.some.inj h
    exact js_iret hM.1 hp hM.2.2.2.2.2.2.2.1 (by rw [hM.2.2.2.2.2.1]; exact Nat.le_of_ble_eq_true rfl) (by rw [hM.2.2.2.2.2.2.1]; exact Nat.le_of_ble_eq_true rfl) (jat hM.2.1 12 rfl) ⟨rfl, rfl⟩
  · obtain ⟨c, hv, h⟩ := h
    by_cases hc0 : c = 1
    · subst hc0
      have h := (if_pos rfl).symm.trans h
      obtain rfl := Option.some.inj h
      refine JW.hVZ hM (E := jEn 1) (m_X5_bidder_x (jVX X) hM.1.2.2.2.2.2.2.2.2.2.1 N (jvw G 0) (jvw J 0) p0 1 hv) (sb_W_X_0 G J) (bi_W_X_0 G J) rfl rfl kc_L_80 rfl rfl rfl rfl (Nat.le_of_ble_eq_true rfl) (Nat.le_of_ble_eq_true rfl) rfl (jat hM.2.1 4 rfl) (st := [.int (0 : Int32), .ref 70]) rfl ?_
      exact JX.hret (X := jof X) (i := 3) (c := 1) (p2 := 13) hM.1 hp.off rfl hM.2.2.2.2.2.2.2.1 [(0, 9, 12, 19)] hM.2.2.2.2.2.2.2.2.2 [] ⟨0, 9, 12, 19⟩ [] rfl (fun _ h => absurd h List.not_mem_nil) rfl (by decide) (by rw [show jown (jof X) = RL from hM.2.2.1]; exact wd861) (by decide) (by rw [show jnL (jof X) = 4 from hM.2.2.2.1.2]; decide) (Or.inl ⟨3, rfl, jat hM.2.1 8 rfl, rfl⟩) (jat hM.2.1 9 rfl) (jat hM.2.1 10 rfl) (by rw [show jmc (jof X) = _ from hM.2.2.2.2.2.1]; exact Nat.le_of_ble_eq_true rfl) (by rw [show jms (jof X) = _ from hM.2.2.2.2.2.2.1]; exact Nat.le_of_ble_eq_true rfl) ⟨rfl, rfl⟩
    · have h := (if_neg hc0).symm.trans h
      cases h
def p_L_keeper (N : Nat) (G : Nat → Nat → Int32) (J : Nat → Nat → Int64) (p0 : Int32) (p1 : Int32) : Option (Int32 × (Nat → Nat → Int32) × (Nat → Nat → Int64)) :=
  jbh (p_X5_keeper N (jvw G 0) (jvw J 0) p0 p1) (fun v1 => jlt (jupL (jpt J 0 70 v1.2.2) 70 0 (v1.1.toInt64)) fun J1 => some ((0 : Int32), (jpt G 0 70 v1.2.1), J1)) (fun c => if c = 1 then some ((1 : Int32), G, J) else if c = 3 then some ((2 : Int32), G, J) else none)
set_option maxHeartbeats 4000000 in
set_option maxRecDepth 100000 in
theorem m_L_keeper (V : jV) (hV : V.1.stackTraces = false) (N : Nat) (G : Nat → Nat → Int32) (J : Nat → Nat → Int64) (p0 : Int32) (p1 : Int32) (res : Int32 × (Nat → Nat → Int32) × (Nat → Nat → Int64)) (h : p_L_keeper N G J p0 p1 = some res) : jMet V yL_keeper (jwsH yL_keeper cL_keeper 5 (some .int) [(0, 10, 13, 19), (0, 10, 17, 13)]) ⟨8, 2, 12, 141⟩ false 4 [.ref 0, .int p0, .int p1, .ref 70] (hW G J) (fun o ν => o = some (.int res.1) ∧ ν = (hW res.2.1 res.2.2)) (fun _ _ => False) := by
  refine jmkH (tb := tbL) (C := kL_keeper) hV rfl (by decide) tbL_ok rfl kL_keeper_ok rfl ?_
  intro X hM _ hp
  unfold p_L_keeper at h
  show JW X 0 0 0 [some (.ref 0), some (.int p0), some (.int p1), some (.ref 70), none] [] (hW G J)
  refine JW.rZ hM 0 5 (pc2 := 5) (L2 := [some (.ref 0), some (.int p0), some (.int p1), some (.ref 70), none]) (st2 := [.int p1, .int p0, .ref 0, .int (0 : Int32), .ref 70]) (μ2 := (hW G J)) rfl trivial ?_
  rcases jbhE h with h | h
  · obtain ⟨v1, hv, h⟩ := h
    refine JW.cVZ (v := some (.int v1.1)) hM (m_X5_keeper_r (jVX X) hM.1.2.2.2.2.2.2.2.2.2.1 N (jvw G 0) (jvw J 0) p0 p1 v1 hv) (sb_W_X_0 G J) (bk_W_X_0 G J v1.2.1 v1.2.2) rfl rfl rfl kc_L_83 rfl rfl rfl rfl (Nat.le_of_ble_eq_true rfl) (Nat.le_of_ble_eq_true rfl) rfl (jat hM.2.1 5 rfl) (st := [.int (0 : Int32), .ref 70]) rfl ?_
    show JW X 2 12 8 [some (.ref 0), some (.int p0), some (.int p1), some (.ref 70), none] [.int v1.1, .int (0 : Int32), .ref 70] (hW (jpt G 0 70 v1.2.1) (jpt J 0 70 v1.2.2))
    obtain ⟨J1, eJ, h⟩ := jlE h
    refine JW.rZ hM 6 2 (pc2 := 10) (L2 := [some (.ref 0), some (.int p0), some (.int p1), some (.ref 70), none]) (st2 := []) (μ2 := (hW (jpt G 0 70 v1.2.1) (jupL (jpt J 0 70 v1.2.2) 70 0 (v1.1.toInt64)))) rfl ⟨rfl, trivial⟩ ?_
    rw [eJ]
    refine JW.rZ hM 8 1 (pc2 := 21) (L2 := [some (.ref 0), some (.int p0), some (.int p1), some (.ref 70), none]) (st2 := []) (μ2 := (hW (jpt G 0 70 v1.2.1) J1)) rfl trivial ?_
    refine JW.rZ hM 15 1 (pc2 := 22) (L2 := [some (.ref 0), some (.int p0), some (.int p1), some (.ref 70), none]) (st2 := [.int (0 : Int32)]) (μ2 := (hW (jpt G 0 70 v1.2.1) J1)) rfl trivial ?_
    obtain rfl := Option.some.inj h
    exact js_iret hM.1 hp hM.2.2.2.2.2.2.2.1 (by rw [hM.2.2.2.2.2.1]; exact Nat.le_of_ble_eq_true rfl) (by rw [hM.2.2.2.2.2.2.1]; exact Nat.le_of_ble_eq_true rfl) (jat hM.2.1 16 rfl) ⟨rfl, rfl⟩
  · obtain ⟨c, hv, h⟩ := h
    by_cases hc0 : c = 1
    · subst hc0
      have h := (if_pos rfl).symm.trans h
      obtain rfl := Option.some.inj h
      refine JW.hVZ hM (E := jEn 1) (m_X5_keeper_x (jVX X) hM.1.2.2.2.2.2.2.2.2.2.1 N (jvw G 0) (jvw J 0) p0 p1 1 hv) (sb_W_X_0 G J) (bi_W_X_0 G J) rfl rfl kc_L_83 rfl rfl rfl rfl (Nat.le_of_ble_eq_true rfl) (Nat.le_of_ble_eq_true rfl) rfl (jat hM.2.1 5 rfl) (st := [.int (0 : Int32), .ref 70]) rfl ?_
      exact JX.hret (X := jof X) (i := 4) (c := 1) (p2 := 15) hM.1 hp.off rfl hM.2.2.2.2.2.2.2.1 [(0, 10, 13, 19), (0, 10, 17, 13)] hM.2.2.2.2.2.2.2.2.2 [] ⟨0, 10, 13, 19⟩ [⟨0, 10, 17, 13⟩] rfl (fun _ h => absurd h List.not_mem_nil) rfl (by decide) (by rw [show jown (jof X) = RL from hM.2.2.1]; exact wd861) (by decide) (by rw [show jnL (jof X) = 5 from hM.2.2.2.1.2]; decide) (Or.inr ⟨jat hM.2.1 9 rfl, rfl⟩) (jat hM.2.1 10 rfl) (jat hM.2.1 11 rfl) (by rw [show jmc (jof X) = _ from hM.2.2.2.2.2.1]; exact Nat.le_of_ble_eq_true rfl) (by rw [show jms (jof X) = _ from hM.2.2.2.2.2.2.1]; exact Nat.le_of_ble_eq_true rfl) ⟨rfl, rfl⟩
    · have h := (if_neg hc0).symm.trans h
      by_cases hc1 : c = 3
      · subst hc1
        have h := (if_pos rfl).symm.trans h
        obtain rfl := Option.some.inj h
        refine JW.hVZ hM (E := jEn 3) (m_X5_keeper_x (jVX X) hM.1.2.2.2.2.2.2.2.2.2.1 N (jvw G 0) (jvw J 0) p0 p1 3 hv) (sb_W_X_0 G J) (bi_W_X_0 G J) rfl rfl kc_L_83 rfl rfl rfl rfl (Nat.le_of_ble_eq_true rfl) (Nat.le_of_ble_eq_true rfl) rfl (jat hM.2.1 5 rfl) (st := [.int (0 : Int32), .ref 70]) rfl ?_
        exact JX.hret (X := jof X) (i := 4) (c := 2) (p2 := 19) hM.1 hp.off rfl hM.2.2.2.2.2.2.2.1 [(0, 10, 13, 19), (0, 10, 17, 13)] hM.2.2.2.2.2.2.2.2.2 [⟨0, 10, 13, 19⟩] ⟨0, 10, 17, 13⟩ [] rfl (List.forall_mem_cons.mpr ⟨⟨by decide, "java/util/NoSuchElementException", by rw [show jown (jof X) = RL from hM.2.2.1]; exact wd861, by decide⟩, fun _ h => absurd h List.not_mem_nil⟩) rfl (by decide) (by rw [show jown (jof X) = RL from hM.2.2.1]; exact wd653) (by decide) (by rw [show jnL (jof X) = 5 from hM.2.2.2.1.2]; decide) (Or.inr ⟨jat hM.2.1 12 rfl, rfl⟩) (jat hM.2.1 13 rfl) (jat hM.2.1 14 rfl) (by rw [show jmc (jof X) = _ from hM.2.2.2.2.2.1]; exact Nat.le_of_ble_eq_true rfl) (by rw [show jms (jof X) = _ from hM.2.2.2.2.2.2.1]; exact Nat.le_of_ble_eq_true rfl) ⟨rfl, rfl⟩
      · have h := (if_neg hc1).symm.trans h
        cases h
def p_L_endFrom (N : Nat) (G : Nat → Nat → Int32) (J : Nat → Nat → Int64) (p0 : Int32) : Option (Int32 × (Nat → Nat → Int32) × (Nat → Nat → Int64)) :=
  jbh (p_X5_endFrom N (jvw G 0) (jvw J 0) p0) (fun v1 => jlt (jupL (jpt J 0 70 v1.2.2) 70 0 (v1.1.toInt64)) fun J1 => some ((0 : Int32), (jpt G 0 70 v1.2.1), J1)) (fun c => if c = 1 then some ((1 : Int32), G, J) else none)
set_option maxHeartbeats 4000000 in
set_option maxRecDepth 100000 in
theorem m_L_endFrom (V : jV) (hV : V.1.stackTraces = false) (N : Nat) (G : Nat → Nat → Int32) (J : Nat → Nat → Int64) (p0 : Int32) (res : Int32 × (Nat → Nat → Int32) × (Nat → Nat → Int64)) (h : p_L_endFrom N G J p0 = some res) : jMet V yL_endFrom (jwsH yL_endFrom cL_endFrom 4 (some .int) [(0, 9, 12, 19)]) ⟨8, 1, 6, 160⟩ false 4 [.ref 0, .int p0, .ref 70] (hW G J) (fun o ν => o = some (.int res.1) ∧ ν = (hW res.2.1 res.2.2)) (fun _ _ => False) := by
  refine jmkH (tb := tbL) (C := kL_endFrom) hV rfl (by decide) tbL_ok rfl kL_endFrom_ok rfl ?_
  intro X hM _ hp
  unfold p_L_endFrom at h
  show JW X 0 0 0 [some (.ref 0), some (.int p0), some (.ref 70), none] [] (hW G J)
  refine JW.rZ hM 0 4 (pc2 := 4) (L2 := [some (.ref 0), some (.int p0), some (.ref 70), none]) (st2 := [.int p0, .ref 0, .int (0 : Int32), .ref 70]) (μ2 := (hW G J)) rfl trivial ?_
  rcases jbhE h with h | h
  · obtain ⟨v1, hv, h⟩ := h
    refine JW.cVZ (v := some (.int v1.1)) hM (m_X5_endFrom_r (jVX X) hM.1.2.2.2.2.2.2.2.2.2.1 N (jvw G 0) (jvw J 0) p0 v1 hv) (sb_W_X_0 G J) (bk_W_X_0 G J v1.2.1 v1.2.2) rfl rfl rfl kc_L_86 rfl rfl rfl rfl (Nat.le_of_ble_eq_true rfl) (Nat.le_of_ble_eq_true rfl) rfl (jat hM.2.1 4 rfl) (st := [.int (0 : Int32), .ref 70]) rfl ?_
    show JW X 1 6 7 [some (.ref 0), some (.int p0), some (.ref 70), none] [.int v1.1, .int (0 : Int32), .ref 70] (hW (jpt G 0 70 v1.2.1) (jpt J 0 70 v1.2.2))
    obtain ⟨J1, eJ, h⟩ := jlE h
    refine JW.rZ hM 5 2 (pc2 := 9) (L2 := [some (.ref 0), some (.int p0), some (.ref 70), none]) (st2 := []) (μ2 := (hW (jpt G 0 70 v1.2.1) (jupL (jpt J 0 70 v1.2.2) 70 0 (v1.1.toInt64)))) rfl ⟨rfl, trivial⟩ ?_
    rw [eJ]
    refine JW.rZ hM 7 1 (pc2 := 15) (L2 := [some (.ref 0), some (.int p0), some (.ref 70), none]) (st2 := []) (μ2 := (hW (jpt G 0 70 v1.2.1) J1)) rfl trivial ?_
    refine JW.rZ hM 11 1 (pc2 := 16) (L2 := [some (.ref 0), some (.int p0), some (.ref 70), none]) (st2 := [.int (0 : Int32)]) (μ2 := (hW (jpt G 0 70 v1.2.1) J1)) rfl trivial ?_
    obtain rfl := Option.some.inj h
    exact js_iret hM.1 hp hM.2.2.2.2.2.2.2.1 (by rw [hM.2.2.2.2.2.1]; exact Nat.le_of_ble_eq_true rfl) (by rw [hM.2.2.2.2.2.2.1]; exact Nat.le_of_ble_eq_true rfl) (jat hM.2.1 12 rfl) ⟨rfl, rfl⟩
  · obtain ⟨c, hv, h⟩ := h
    by_cases hc0 : c = 1
    · subst hc0
      have h := (if_pos rfl).symm.trans h
      obtain rfl := Option.some.inj h
      refine JW.hVZ hM (E := jEn 1) (m_X5_endFrom_x (jVX X) hM.1.2.2.2.2.2.2.2.2.2.1 N (jvw G 0) (jvw J 0) p0 1 hv) (sb_W_X_0 G J) (bi_W_X_0 G J) rfl rfl kc_L_86 rfl rfl rfl rfl (Nat.le_of_ble_eq_true rfl) (Nat.le_of_ble_eq_true rfl) rfl (jat hM.2.1 4 rfl) (st := [.int (0 : Int32), .ref 70]) rfl ?_
      exact JX.hret (X := jof X) (i := 3) (c := 1) (p2 := 13) hM.1 hp.off rfl hM.2.2.2.2.2.2.2.1 [(0, 9, 12, 19)] hM.2.2.2.2.2.2.2.2.2 [] ⟨0, 9, 12, 19⟩ [] rfl (fun _ h => absurd h List.not_mem_nil) rfl (by decide) (by rw [show jown (jof X) = RL from hM.2.2.1]; exact wd861) (by decide) (by rw [show jnL (jof X) = 4 from hM.2.2.2.1.2]; decide) (Or.inl ⟨3, rfl, jat hM.2.1 8 rfl, rfl⟩) (jat hM.2.1 9 rfl) (jat hM.2.1 10 rfl) (by rw [show jmc (jof X) = _ from hM.2.2.2.2.2.1]; exact Nat.le_of_ble_eq_true rfl) (by rw [show jms (jof X) = _ from hM.2.2.2.2.2.2.1]; exact Nat.le_of_ble_eq_true rfl) ⟨rfl, rfl⟩
    · have h := (if_neg hc0).symm.trans h
      cases h
def p_L_end (N : Nat) (G : Nat → Nat → Int32) (J : Nat → Nat → Int64) (p0 : Int32) (p1 : Int32) : Option (Int32 × (Nat → Nat → Int32) × (Nat → Nat → Int64)) :=
  jbh (p_X5_end N (jvw G 0) (jvw J 0) p0 p1) (fun v1 => jlt (jupL (jpt J 0 70 v1.2.2) 70 0 (v1.1.toInt64)) fun J1 => some ((0 : Int32), (jpt G 0 70 v1.2.1), J1)) (fun c => if c = 3 then some ((1 : Int32), G, J) else none)
set_option maxHeartbeats 4000000 in
set_option maxRecDepth 100000 in
theorem m_L_end (V : jV) (hV : V.1.stackTraces = false) (N : Nat) (G : Nat → Nat → Int32) (J : Nat → Nat → Int64) (p0 : Int32) (p1 : Int32) (res : Int32 × (Nat → Nat → Int32) × (Nat → Nat → Int64)) (h : p_L_end N G J p0 p1 = some res) : jMet V yL_end (jwsH yL_end cL_end 5 (some .int) [(0, 10, 13, 13)]) ⟨8, 2, 12, 141⟩ false 4 [.ref 0, .int p0, .int p1, .ref 70] (hW G J) (fun o ν => o = some (.int res.1) ∧ ν = (hW res.2.1 res.2.2)) (fun _ _ => False) := by
  refine jmkH (tb := tbL) (C := kL_end) hV rfl (by decide) tbL_ok rfl kL_end_ok rfl ?_
  intro X hM _ hp
  unfold p_L_end at h
  show JW X 0 0 0 [some (.ref 0), some (.int p0), some (.int p1), some (.ref 70), none] [] (hW G J)
  refine JW.rZ hM 0 5 (pc2 := 5) (L2 := [some (.ref 0), some (.int p0), some (.int p1), some (.ref 70), none]) (st2 := [.int p1, .int p0, .ref 0, .int (0 : Int32), .ref 70]) (μ2 := (hW G J)) rfl trivial ?_
  rcases jbhE h with h | h
  · obtain ⟨v1, hv, h⟩ := h
    refine JW.cVZ (v := some (.int v1.1)) hM (m_X5_end_r (jVX X) hM.1.2.2.2.2.2.2.2.2.2.1 N (jvw G 0) (jvw J 0) p0 p1 v1 hv) (sb_W_X_0 G J) (bk_W_X_0 G J v1.2.1 v1.2.2) rfl rfl rfl kc_L_89 rfl rfl rfl rfl (Nat.le_of_ble_eq_true rfl) (Nat.le_of_ble_eq_true rfl) rfl (jat hM.2.1 5 rfl) (st := [.int (0 : Int32), .ref 70]) rfl ?_
    show JW X 2 12 8 [some (.ref 0), some (.int p0), some (.int p1), some (.ref 70), none] [.int v1.1, .int (0 : Int32), .ref 70] (hW (jpt G 0 70 v1.2.1) (jpt J 0 70 v1.2.2))
    obtain ⟨J1, eJ, h⟩ := jlE h
    refine JW.rZ hM 6 2 (pc2 := 10) (L2 := [some (.ref 0), some (.int p0), some (.int p1), some (.ref 70), none]) (st2 := []) (μ2 := (hW (jpt G 0 70 v1.2.1) (jupL (jpt J 0 70 v1.2.2) 70 0 (v1.1.toInt64)))) rfl ⟨rfl, trivial⟩ ?_
    rw [eJ]
    refine JW.rZ hM 8 1 (pc2 := 17) (L2 := [some (.ref 0), some (.int p0), some (.int p1), some (.ref 70), none]) (st2 := []) (μ2 := (hW (jpt G 0 70 v1.2.1) J1)) rfl trivial ?_
    refine JW.rZ hM 12 1 (pc2 := 18) (L2 := [some (.ref 0), some (.int p0), some (.int p1), some (.ref 70), none]) (st2 := [.int (0 : Int32)]) (μ2 := (hW (jpt G 0 70 v1.2.1) J1)) rfl trivial ?_
    obtain rfl := Option.some.inj h
    exact js_iret hM.1 hp hM.2.2.2.2.2.2.2.1 (by rw [hM.2.2.2.2.2.1]; exact Nat.le_of_ble_eq_true rfl) (by rw [hM.2.2.2.2.2.2.1]; exact Nat.le_of_ble_eq_true rfl) (jat hM.2.1 13 rfl) ⟨rfl, rfl⟩
  · obtain ⟨c, hv, h⟩ := h
    by_cases hc0 : c = 3
    · subst hc0
      have h := (if_pos rfl).symm.trans h
      obtain rfl := Option.some.inj h
      refine JW.hVZ hM (E := jEn 3) (m_X5_end_x (jVX X) hM.1.2.2.2.2.2.2.2.2.2.1 N (jvw G 0) (jvw J 0) p0 p1 3 hv) (sb_W_X_0 G J) (bi_W_X_0 G J) rfl rfl kc_L_89 rfl rfl rfl rfl (Nat.le_of_ble_eq_true rfl) (Nat.le_of_ble_eq_true rfl) rfl (jat hM.2.1 5 rfl) (st := [.int (0 : Int32), .ref 70]) rfl ?_
      exact JX.hret (X := jof X) (i := 4) (c := 1) (p2 := 15) hM.1 hp.off rfl hM.2.2.2.2.2.2.2.1 [(0, 10, 13, 13)] hM.2.2.2.2.2.2.2.2.2 [] ⟨0, 10, 13, 13⟩ [] rfl (fun _ h => absurd h List.not_mem_nil) rfl (by decide) (by rw [show jown (jof X) = RL from hM.2.2.1]; exact wd653) (by decide) (by rw [show jnL (jof X) = 5 from hM.2.2.2.1.2]; decide) (Or.inr ⟨jat hM.2.1 9 rfl, rfl⟩) (jat hM.2.1 10 rfl) (jat hM.2.1 11 rfl) (by rw [show jmc (jof X) = _ from hM.2.2.2.2.2.1]; exact Nat.le_of_ble_eq_true rfl) (by rw [show jms (jof X) = _ from hM.2.2.2.2.2.2.1]; exact Nat.le_of_ble_eq_true rfl) ⟨rfl, rfl⟩
    · have h := (if_neg hc0).symm.trans h
      cases h
def p_L_ringer (N : Nat) (G : Nat → Nat → Int32) (J : Nat → Nat → Int64) (p0 : Int32) : Option (Int32 × (Nat → Nat → Int32) × (Nat → Nat → Int64)) :=
  jbh (p_X5_ringer N (jvw G 0) (jvw J 0) p0) (fun v1 => jlt (jupL (jpt J 0 70 v1.2.2) 70 0 (v1.1.toInt64)) fun J1 => some ((0 : Int32), (jpt G 0 70 v1.2.1), J1)) (fun c => if c = 1 then some ((1 : Int32), G, J) else none)
set_option maxHeartbeats 4000000 in
set_option maxRecDepth 100000 in
theorem m_L_ringer (V : jV) (hV : V.1.stackTraces = false) (N : Nat) (G : Nat → Nat → Int32) (J : Nat → Nat → Int64) (p0 : Int32) (res : Int32 × (Nat → Nat → Int32) × (Nat → Nat → Int64)) (h : p_L_ringer N G J p0 = some res) : jMet V yL_ringer (jwsH yL_ringer cL_ringer 4 (some .int) [(0, 9, 12, 19)]) ⟨8, 1, 6, 138⟩ false 4 [.ref 0, .int p0, .ref 70] (hW G J) (fun o ν => o = some (.int res.1) ∧ ν = (hW res.2.1 res.2.2)) (fun _ _ => False) := by
  refine jmkH (tb := tbL) (C := kL_ringer) hV rfl (by decide) tbL_ok rfl kL_ringer_ok rfl ?_
  intro X hM _ hp
  unfold p_L_ringer at h
  show JW X 0 0 0 [some (.ref 0), some (.int p0), some (.ref 70), none] [] (hW G J)
  refine JW.rZ hM 0 4 (pc2 := 4) (L2 := [some (.ref 0), some (.int p0), some (.ref 70), none]) (st2 := [.int p0, .ref 0, .int (0 : Int32), .ref 70]) (μ2 := (hW G J)) rfl trivial ?_
  rcases jbhE h with h | h
  · obtain ⟨v1, hv, h⟩ := h
    refine JW.cVZ (v := some (.int v1.1)) hM (m_X5_ringer_r (jVX X) hM.1.2.2.2.2.2.2.2.2.2.1 N (jvw G 0) (jvw J 0) p0 v1 hv) (sb_W_X_0 G J) (bk_W_X_0 G J v1.2.1 v1.2.2) rfl rfl rfl kc_L_92 rfl rfl rfl rfl (Nat.le_of_ble_eq_true rfl) (Nat.le_of_ble_eq_true rfl) rfl (jat hM.2.1 4 rfl) (st := [.int (0 : Int32), .ref 70]) rfl ?_
    show JW X 1 6 7 [some (.ref 0), some (.int p0), some (.ref 70), none] [.int v1.1, .int (0 : Int32), .ref 70] (hW (jpt G 0 70 v1.2.1) (jpt J 0 70 v1.2.2))
    obtain ⟨J1, eJ, h⟩ := jlE h
    refine JW.rZ hM 5 2 (pc2 := 9) (L2 := [some (.ref 0), some (.int p0), some (.ref 70), none]) (st2 := []) (μ2 := (hW (jpt G 0 70 v1.2.1) (jupL (jpt J 0 70 v1.2.2) 70 0 (v1.1.toInt64)))) rfl ⟨rfl, trivial⟩ ?_
    rw [eJ]
    refine JW.rZ hM 7 1 (pc2 := 15) (L2 := [some (.ref 0), some (.int p0), some (.ref 70), none]) (st2 := []) (μ2 := (hW (jpt G 0 70 v1.2.1) J1)) rfl trivial ?_
    refine JW.rZ hM 11 1 (pc2 := 16) (L2 := [some (.ref 0), some (.int p0), some (.ref 70), none]) (st2 := [.int (0 : Int32)]) (μ2 := (hW (jpt G 0 70 v1.2.1) J1)) rfl trivial ?_
    obtain rfl := Option.some.inj h
    exact js_iret hM.1 hp hM.2.2.2.2.2.2.2.1 (by rw [hM.2.2.2.2.2.1]; exact Nat.le_of_ble_eq_true rfl) (by rw [hM.2.2.2.2.2.2.1]; exact Nat.le_of_ble_eq_true rfl) (jat hM.2.1 12 rfl) ⟨rfl, rfl⟩
  · obtain ⟨c, hv, h⟩ := h
    by_cases hc0 : c = 1
    · subst hc0
      have h := (if_pos rfl).symm.trans h
      obtain rfl := Option.some.inj h
      refine JW.hVZ hM (E := jEn 1) (m_X5_ringer_x (jVX X) hM.1.2.2.2.2.2.2.2.2.2.1 N (jvw G 0) (jvw J 0) p0 1 hv) (sb_W_X_0 G J) (bi_W_X_0 G J) rfl rfl kc_L_92 rfl rfl rfl rfl (Nat.le_of_ble_eq_true rfl) (Nat.le_of_ble_eq_true rfl) rfl (jat hM.2.1 4 rfl) (st := [.int (0 : Int32), .ref 70]) rfl ?_
      exact JX.hret (X := jof X) (i := 3) (c := 1) (p2 := 13) hM.1 hp.off rfl hM.2.2.2.2.2.2.2.1 [(0, 9, 12, 19)] hM.2.2.2.2.2.2.2.2.2 [] ⟨0, 9, 12, 19⟩ [] rfl (fun _ h => absurd h List.not_mem_nil) rfl (by decide) (by rw [show jown (jof X) = RL from hM.2.2.1]; exact wd861) (by decide) (by rw [show jnL (jof X) = 4 from hM.2.2.2.1.2]; decide) (Or.inl ⟨3, rfl, jat hM.2.1 8 rfl, rfl⟩) (jat hM.2.1 9 rfl) (jat hM.2.1 10 rfl) (by rw [show jmc (jof X) = _ from hM.2.2.2.2.2.1]; exact Nat.le_of_ble_eq_true rfl) (by rw [show jms (jof X) = _ from hM.2.2.2.2.2.2.1]; exact Nat.le_of_ble_eq_true rfl) ⟨rfl, rfl⟩
    · have h := (if_neg hc0).symm.trans h
      cases h
def p_L_news (N : Nat) (G : Nat → Nat → Int32) (J : Nat → Nat → Int64) (p0 : Int32) (p1 : Int32) (p2 : Int32) : Option (Int32 × (Nat → Nat → Int32) × (Nat → Nat → Int64)) :=
  jbh (p_X5_news N (jvw G 0) (jvw J 0) p0 p1 p2) (fun v1 => jlt (jupL (jpt J 0 70 v1.2.2) 70 0 (v1.1.toInt64)) fun J1 => some ((0 : Int32), (jpt G 0 70 v1.2.1), J1)) (fun c => if c = 1 then some ((1 : Int32), G, J) else if c = 3 then some ((2 : Int32), G, J) else none)
set_option maxHeartbeats 4000000 in
set_option maxRecDepth 100000 in
theorem m_L_news (V : jV) (hV : V.1.stackTraces = false) (N : Nat) (G : Nat → Nat → Int32) (J : Nat → Nat → Int64) (p0 : Int32) (p1 : Int32) (p2 : Int32) (res : Int32 × (Nat → Nat → Int32) × (Nat → Nat → Int64)) (h : p_L_news N G J p0 p1 p2 = some res) : jMet V yL_news (jwsH yL_news cL_news 6 (some .int) [(0, 12, 15, 19), (0, 12, 19, 13)]) ⟨8, 3, 18, 162⟩ false 4 [.ref 0, .int p0, .int p1, .int p2, .ref 70] (hW G J) (fun o ν => o = some (.int res.1) ∧ ν = (hW res.2.1 res.2.2)) (fun _ _ => False) := by
  refine jmkH (tb := tbL) (C := kL_news) hV rfl (by decide) tbL_ok rfl kL_news_ok rfl ?_
  intro X hM _ hp
  unfold p_L_news at h
  show JW X 0 0 0 [some (.ref 0), some (.int p0), some (.int p1), some (.int p2), some (.ref 70), none] [] (hW G J)
  refine JW.rZ hM 0 6 (pc2 := 7) (L2 := [some (.ref 0), some (.int p0), some (.int p1), some (.int p2), some (.ref 70), none]) (st2 := [.int p2, .int p1, .int p0, .ref 0, .int (0 : Int32), .ref 70]) (μ2 := (hW G J)) rfl trivial ?_
  rcases jbhE h with h | h
  · obtain ⟨v1, hv, h⟩ := h
    refine JW.cVZ (v := some (.int v1.1)) hM (m_X5_news_r (jVX X) hM.1.2.2.2.2.2.2.2.2.2.1 N (jvw G 0) (jvw J 0) p0 p1 p2 v1 hv) (sb_W_X_0 G J) (bk_W_X_0 G J v1.2.1 v1.2.2) rfl rfl rfl kc_L_95 rfl rfl rfl rfl (Nat.le_of_ble_eq_true rfl) (Nat.le_of_ble_eq_true rfl) rfl (jat hM.2.1 6 rfl) (st := [.int (0 : Int32), .ref 70]) rfl ?_
    show JW X 3 18 10 [some (.ref 0), some (.int p0), some (.int p1), some (.int p2), some (.ref 70), none] [.int v1.1, .int (0 : Int32), .ref 70] (hW (jpt G 0 70 v1.2.1) (jpt J 0 70 v1.2.2))
    obtain ⟨J1, eJ, h⟩ := jlE h
    refine JW.rZ hM 7 2 (pc2 := 12) (L2 := [some (.ref 0), some (.int p0), some (.int p1), some (.int p2), some (.ref 70), none]) (st2 := []) (μ2 := (hW (jpt G 0 70 v1.2.1) (jupL (jpt J 0 70 v1.2.2) 70 0 (v1.1.toInt64)))) rfl ⟨rfl, trivial⟩ ?_
    rw [eJ]
    refine JW.rZ hM 9 1 (pc2 := 23) (L2 := [some (.ref 0), some (.int p0), some (.int p1), some (.int p2), some (.ref 70), none]) (st2 := []) (μ2 := (hW (jpt G 0 70 v1.2.1) J1)) rfl trivial ?_
    refine JW.rZ hM 16 1 (pc2 := 24) (L2 := [some (.ref 0), some (.int p0), some (.int p1), some (.int p2), some (.ref 70), none]) (st2 := [.int (0 : Int32)]) (μ2 := (hW (jpt G 0 70 v1.2.1) J1)) rfl trivial ?_
    obtain rfl := Option.some.inj h
    exact js_iret hM.1 hp hM.2.2.2.2.2.2.2.1 (by rw [hM.2.2.2.2.2.1]; exact Nat.le_of_ble_eq_true rfl) (by rw [hM.2.2.2.2.2.2.1]; exact Nat.le_of_ble_eq_true rfl) (jat hM.2.1 17 rfl) ⟨rfl, rfl⟩
  · obtain ⟨c, hv, h⟩ := h
    by_cases hc0 : c = 1
    · subst hc0
      have h := (if_pos rfl).symm.trans h
      obtain rfl := Option.some.inj h
      refine JW.hVZ hM (E := jEn 1) (m_X5_news_x (jVX X) hM.1.2.2.2.2.2.2.2.2.2.1 N (jvw G 0) (jvw J 0) p0 p1 p2 1 hv) (sb_W_X_0 G J) (bi_W_X_0 G J) rfl rfl kc_L_95 rfl rfl rfl rfl (Nat.le_of_ble_eq_true rfl) (Nat.le_of_ble_eq_true rfl) rfl (jat hM.2.1 6 rfl) (st := [.int (0 : Int32), .ref 70]) rfl ?_
      exact JX.hret (X := jof X) (i := 5) (c := 1) (p2 := 17) hM.1 hp.off rfl hM.2.2.2.2.2.2.2.1 [(0, 12, 15, 19), (0, 12, 19, 13)] hM.2.2.2.2.2.2.2.2.2 [] ⟨0, 12, 15, 19⟩ [⟨0, 12, 19, 13⟩] rfl (fun _ h => absurd h List.not_mem_nil) rfl (by decide) (by rw [show jown (jof X) = RL from hM.2.2.1]; exact wd861) (by decide) (by rw [show jnL (jof X) = 6 from hM.2.2.2.1.2]; decide) (Or.inr ⟨jat hM.2.1 10 rfl, rfl⟩) (jat hM.2.1 11 rfl) (jat hM.2.1 12 rfl) (by rw [show jmc (jof X) = _ from hM.2.2.2.2.2.1]; exact Nat.le_of_ble_eq_true rfl) (by rw [show jms (jof X) = _ from hM.2.2.2.2.2.2.1]; exact Nat.le_of_ble_eq_true rfl) ⟨rfl, rfl⟩
    · have h := (if_neg hc0).symm.trans h
      by_cases hc1 : c = 3
      · subst hc1
        have h := (if_pos rfl).symm.trans h
        obtain rfl := Option.some.inj h
        refine JW.hVZ hM (E := jEn 3) (m_X5_news_x (jVX X) hM.1.2.2.2.2.2.2.2.2.2.1 N (jvw G 0) (jvw J 0) p0 p1 p2 3 hv) (sb_W_X_0 G J) (bi_W_X_0 G J) rfl rfl kc_L_95 rfl rfl rfl rfl (Nat.le_of_ble_eq_true rfl) (Nat.le_of_ble_eq_true rfl) rfl (jat hM.2.1 6 rfl) (st := [.int (0 : Int32), .ref 70]) rfl ?_
        exact JX.hret (X := jof X) (i := 5) (c := 2) (p2 := 21) hM.1 hp.off rfl hM.2.2.2.2.2.2.2.1 [(0, 12, 15, 19), (0, 12, 19, 13)] hM.2.2.2.2.2.2.2.2.2 [⟨0, 12, 15, 19⟩] ⟨0, 12, 19, 13⟩ [] rfl (List.forall_mem_cons.mpr ⟨⟨by decide, "java/util/NoSuchElementException", by rw [show jown (jof X) = RL from hM.2.2.1]; exact wd861, by decide⟩, fun _ h => absurd h List.not_mem_nil⟩) rfl (by decide) (by rw [show jown (jof X) = RL from hM.2.2.1]; exact wd653) (by decide) (by rw [show jnL (jof X) = 6 from hM.2.2.2.1.2]; decide) (Or.inr ⟨jat hM.2.1 13 rfl, rfl⟩) (jat hM.2.1 14 rfl) (jat hM.2.1 15 rfl) (by rw [show jmc (jof X) = _ from hM.2.2.2.2.2.1]; exact Nat.le_of_ble_eq_true rfl) (by rw [show jms (jof X) = _ from hM.2.2.2.2.2.2.1]; exact Nat.le_of_ble_eq_true rfl) ⟨rfl, rfl⟩
      · have h := (if_neg hc1).symm.trans h
        cases h
def p_L_share (N : Nat) (G : Nat → Nat → Int32) (J : Nat → Nat → Int64) (p0 : Int32) : Option (Int32 × (Nat → Nat → Int32) × (Nat → Nat → Int64)) :=
  jbh (p_X5_share N (jvw G 0) (jvw J 0) p0) (fun v1 => jlt (jupL J 70 0 (v1.1.toInt64)) fun J1 => some ((0 : Int32), (jpt G 0 70 v1.2), J1)) (fun c => if c = 3 then some ((1 : Int32), G, J) else none)
set_option maxHeartbeats 4000000 in
set_option maxRecDepth 100000 in
theorem m_L_share (V : jV) (hV : V.1.stackTraces = false) (N : Nat) (G : Nat → Nat → Int32) (J : Nat → Nat → Int64) (p0 : Int32) (res : Int32 × (Nat → Nat → Int32) × (Nat → Nat → Int64)) (h : p_L_share N G J p0 = some res) : jMet V yL_share (jwsH yL_share cL_share 4 (some .int) [(0, 9, 12, 13)]) ⟨7, 1, 6, 111⟩ false 4 [.ref 0, .int p0, .ref 70] (hW G J) (fun o ν => o = some (.int res.1) ∧ ν = (hW res.2.1 res.2.2)) (fun _ _ => False) := by
  refine jmkH (tb := tbL) (C := kL_share) hV rfl (by decide) tbL_ok rfl kL_share_ok rfl ?_
  intro X hM _ hp
  unfold p_L_share at h
  show JW X 0 0 0 [some (.ref 0), some (.int p0), some (.ref 70), none] [] (hW G J)
  refine JW.rZ hM 0 4 (pc2 := 4) (L2 := [some (.ref 0), some (.int p0), some (.ref 70), none]) (st2 := [.int p0, .ref 0, .int (0 : Int32), .ref 70]) (μ2 := (hW G J)) rfl trivial ?_
  rcases jbhE h with h | h
  · obtain ⟨v1, hv, h⟩ := h
    refine JW.cVZ (v := some (.int v1.1)) hM (m_X5_share_r (jVX X) hM.1.2.2.2.2.2.2.2.2.2.1 N (jvw G 0) (jvw J 0) p0 v1 hv) (sb_W_X_0 G J) (bk_W_X_0 G J v1.2 (jvw J 0)) rfl rfl rfl kc_L_98 rfl rfl rfl rfl (Nat.le_of_ble_eq_true rfl) (Nat.le_of_ble_eq_true rfl) rfl (jat hM.2.1 4 rfl) (st := [.int (0 : Int32), .ref 70]) rfl ?_
    show JW X 1 6 7 [some (.ref 0), some (.int p0), some (.ref 70), none] [.int v1.1, .int (0 : Int32), .ref 70] (hW (jpt G 0 70 v1.2) J)
    obtain ⟨J1, eJ, h⟩ := jlE h
    refine JW.rZ hM 5 2 (pc2 := 9) (L2 := [some (.ref 0), some (.int p0), some (.ref 70), none]) (st2 := []) (μ2 := (hW (jpt G 0 70 v1.2) (jupL J 70 0 (v1.1.toInt64)))) rfl ⟨rfl, trivial⟩ ?_
    rw [eJ]
    refine JW.rZ hM 7 1 (pc2 := 15) (L2 := [some (.ref 0), some (.int p0), some (.ref 70), none]) (st2 := []) (μ2 := (hW (jpt G 0 70 v1.2) J1)) rfl trivial ?_
    refine JW.rZ hM 11 1 (pc2 := 16) (L2 := [some (.ref 0), some (.int p0), some (.ref 70), none]) (st2 := [.int (0 : Int32)]) (μ2 := (hW (jpt G 0 70 v1.2) J1)) rfl trivial ?_
    obtain rfl := Option.some.inj h
    exact js_iret hM.1 hp hM.2.2.2.2.2.2.2.1 (by rw [hM.2.2.2.2.2.1]; exact Nat.le_of_ble_eq_true rfl) (by rw [hM.2.2.2.2.2.2.1]; exact Nat.le_of_ble_eq_true rfl) (jat hM.2.1 12 rfl) ⟨rfl, rfl⟩
  · obtain ⟨c, hv, h⟩ := h
    by_cases hc0 : c = 3
    · subst hc0
      have h := (if_pos rfl).symm.trans h
      obtain rfl := Option.some.inj h
      refine JW.hVZ hM (E := jEn 3) (m_X5_share_x (jVX X) hM.1.2.2.2.2.2.2.2.2.2.1 N (jvw G 0) (jvw J 0) p0 3 hv) (sb_W_X_0 G J) (bi_W_X_0 G J) rfl rfl kc_L_98 rfl rfl rfl rfl (Nat.le_of_ble_eq_true rfl) (Nat.le_of_ble_eq_true rfl) rfl (jat hM.2.1 4 rfl) (st := [.int (0 : Int32), .ref 70]) rfl ?_
      exact JX.hret (X := jof X) (i := 3) (c := 1) (p2 := 13) hM.1 hp.off rfl hM.2.2.2.2.2.2.2.1 [(0, 9, 12, 13)] hM.2.2.2.2.2.2.2.2.2 [] ⟨0, 9, 12, 13⟩ [] rfl (fun _ h => absurd h List.not_mem_nil) rfl (by decide) (by rw [show jown (jof X) = RL from hM.2.2.1]; exact wd653) (by decide) (by rw [show jnL (jof X) = 4 from hM.2.2.2.1.2]; decide) (Or.inl ⟨3, rfl, jat hM.2.1 8 rfl, rfl⟩) (jat hM.2.1 9 rfl) (jat hM.2.1 10 rfl) (by rw [show jmc (jof X) = _ from hM.2.2.2.2.2.1]; exact Nat.le_of_ble_eq_true rfl) (by rw [show jms (jof X) = _ from hM.2.2.2.2.2.2.1]; exact Nat.le_of_ble_eq_true rfl) ⟨rfl, rfl⟩
    · have h := (if_neg hc0).symm.trans h
      cases h
def p_L_hope (N : Nat) (G : Nat → Nat → Int32) (J : Nat → Nat → Int64) (p0 : Int32) (p1 : Int32) (p2 : Int32) (p3 : Int32) : Option (Int32 × (Nat → Nat → Int64)) :=
  jbh (p_X5_hope N (jvw G 0) (jvw J 0) p0 p1 p2 p3) (fun v1 => jlt (jupL J 70 0 (v1.toInt64)) fun J1 => some ((0 : Int32), J1)) (fun c => if c = 1 then some ((1 : Int32), J) else if c = 2 then some ((2 : Int32), J) else if c = 3 then some ((3 : Int32), J) else none)
set_option maxHeartbeats 4000000 in
set_option maxRecDepth 100000 in
theorem m_L_hope (V : jV) (hV : V.1.stackTraces = false) (N : Nat) (G : Nat → Nat → Int32) (J : Nat → Nat → Int64) (p0 : Int32) (p1 : Int32) (p2 : Int32) (p3 : Int32) (res : Int32 × (Nat → Nat → Int64)) (h : p_L_hope N G J p0 p1 p2 p3 = some res) : jMet V yL_hope (jwsH yL_hope cL_hope 7 (some .int) [(0, 14, 17, 19), (0, 14, 21, 38), (0, 14, 25, 13)]) ⟨8, 3, 18, 138⟩ false 4 [.ref 0, .int p0, .int p1, .int p2, .int p3, .ref 70] (hW G J) (fun o ν => o = some (.int res.1) ∧ ν = (hW G res.2)) (fun _ _ => False) := by
  refine jmkH (tb := tbL) (C := kL_hope) hV rfl (by decide) tbL_ok rfl kL_hope_ok rfl ?_
  intro X hM _ hp
  unfold p_L_hope at h
  show JW X 0 0 0 [some (.ref 0), some (.int p0), some (.int p1), some (.int p2), some (.int p3), some (.ref 70), none] [] (hW G J)
  refine JW.rZ hM 0 7 (pc2 := 9) (L2 := [some (.ref 0), some (.int p0), some (.int p1), some (.int p2), some (.int p3), some (.ref 70), none]) (st2 := [.int p3, .int p2, .int p1, .int p0, .ref 0, .int (0 : Int32), .ref 70]) (μ2 := (hW G J)) rfl trivial ?_
  rcases jbhE h with h | h
  · obtain ⟨v1, hv, h⟩ := h
    refine JW.cVZ (v := some (.int v1)) hM (m_X5_hope_r (jVX X) hM.1.2.2.2.2.2.2.2.2.2.1 N (jvw G 0) (jvw J 0) p0 p1 p2 p3 v1 hv) (sb_W_X_0 G J) (bi_W_X_0 G J) rfl rfl rfl kc_L_101 rfl rfl rfl rfl (Nat.le_of_ble_eq_true rfl) (Nat.le_of_ble_eq_true rfl) rfl (jat hM.2.1 7 rfl) (st := [.int (0 : Int32), .ref 70]) rfl ?_
    show JW X 3 18 12 [some (.ref 0), some (.int p0), some (.int p1), some (.int p2), some (.int p3), some (.ref 70), none] [.int v1, .int (0 : Int32), .ref 70] (hW G J)
    obtain ⟨J1, eJ, h⟩ := jlE h
    refine JW.rZ hM 8 2 (pc2 := 14) (L2 := [some (.ref 0), some (.int p0), some (.int p1), some (.int p2), some (.int p3), some (.ref 70), none]) (st2 := []) (μ2 := (hW G (jupL J 70 0 (v1.toInt64)))) rfl ⟨rfl, trivial⟩ ?_
    rw [eJ]
    refine JW.rZ hM 10 1 (pc2 := 29) (L2 := [some (.ref 0), some (.int p0), some (.int p1), some (.int p2), some (.int p3), some (.ref 70), none]) (st2 := []) (μ2 := (hW G J1)) rfl trivial ?_
    refine JW.rZ hM 20 1 (pc2 := 30) (L2 := [some (.ref 0), some (.int p0), some (.int p1), some (.int p2), some (.int p3), some (.ref 70), none]) (st2 := [.int (0 : Int32)]) (μ2 := (hW G J1)) rfl trivial ?_
    obtain rfl := Option.some.inj h
    exact js_iret hM.1 hp hM.2.2.2.2.2.2.2.1 (by rw [hM.2.2.2.2.2.1]; exact Nat.le_of_ble_eq_true rfl) (by rw [hM.2.2.2.2.2.2.1]; exact Nat.le_of_ble_eq_true rfl) (jat hM.2.1 21 rfl) ⟨rfl, rfl⟩
  · obtain ⟨c, hv, h⟩ := h
    by_cases hc0 : c = 1
    · subst hc0
      have h := (if_pos rfl).symm.trans h
      obtain rfl := Option.some.inj h
      refine JW.hVZ hM (E := jEn 1) (m_X5_hope_x (jVX X) hM.1.2.2.2.2.2.2.2.2.2.1 N (jvw G 0) (jvw J 0) p0 p1 p2 p3 1 hv) (sb_W_X_0 G J) (bi_W_X_0 G J) rfl rfl kc_L_101 rfl rfl rfl rfl (Nat.le_of_ble_eq_true rfl) (Nat.le_of_ble_eq_true rfl) rfl (jat hM.2.1 7 rfl) (st := [.int (0 : Int32), .ref 70]) rfl ?_
      exact JX.hret (X := jof X) (i := 6) (c := 1) (p2 := 19) hM.1 hp.off rfl hM.2.2.2.2.2.2.2.1 [(0, 14, 17, 19), (0, 14, 21, 38), (0, 14, 25, 13)] hM.2.2.2.2.2.2.2.2.2 [] ⟨0, 14, 17, 19⟩ [⟨0, 14, 21, 38⟩, ⟨0, 14, 25, 13⟩] rfl (fun _ h => absurd h List.not_mem_nil) rfl (by decide) (by rw [show jown (jof X) = RL from hM.2.2.1]; exact wd861) (by decide) (by rw [show jnL (jof X) = 7 from hM.2.2.2.1.2]; decide) (Or.inr ⟨jat hM.2.1 11 rfl, rfl⟩) (jat hM.2.1 12 rfl) (jat hM.2.1 13 rfl) (by rw [show jmc (jof X) = _ from hM.2.2.2.2.2.1]; exact Nat.le_of_ble_eq_true rfl) (by rw [show jms (jof X) = _ from hM.2.2.2.2.2.2.1]; exact Nat.le_of_ble_eq_true rfl) ⟨rfl, rfl⟩
    · have h := (if_neg hc0).symm.trans h
      by_cases hc1 : c = 2
      · subst hc1
        have h := (if_pos rfl).symm.trans h
        obtain rfl := Option.some.inj h
        refine JW.hVZ hM (E := jEn 2) (m_X5_hope_x (jVX X) hM.1.2.2.2.2.2.2.2.2.2.1 N (jvw G 0) (jvw J 0) p0 p1 p2 p3 2 hv) (sb_W_X_0 G J) (bi_W_X_0 G J) rfl rfl kc_L_101 rfl rfl rfl rfl (Nat.le_of_ble_eq_true rfl) (Nat.le_of_ble_eq_true rfl) rfl (jat hM.2.1 7 rfl) (st := [.int (0 : Int32), .ref 70]) rfl ?_
        exact JX.hret (X := jof X) (i := 6) (c := 2) (p2 := 23) hM.1 hp.off rfl hM.2.2.2.2.2.2.2.1 [(0, 14, 17, 19), (0, 14, 21, 38), (0, 14, 25, 13)] hM.2.2.2.2.2.2.2.2.2 [⟨0, 14, 17, 19⟩] ⟨0, 14, 21, 38⟩ [⟨0, 14, 25, 13⟩] rfl (List.forall_mem_cons.mpr ⟨⟨by decide, "java/util/NoSuchElementException", by rw [show jown (jof X) = RL from hM.2.2.1]; exact wd861, by decide⟩, fun _ h => absurd h List.not_mem_nil⟩) rfl (by decide) (by rw [show jown (jof X) = RL from hM.2.2.1]; exact wd931) (by decide) (by rw [show jnL (jof X) = 7 from hM.2.2.2.1.2]; decide) (Or.inr ⟨jat hM.2.1 14 rfl, rfl⟩) (jat hM.2.1 15 rfl) (jat hM.2.1 16 rfl) (by rw [show jmc (jof X) = _ from hM.2.2.2.2.2.1]; exact Nat.le_of_ble_eq_true rfl) (by rw [show jms (jof X) = _ from hM.2.2.2.2.2.2.1]; exact Nat.le_of_ble_eq_true rfl) ⟨rfl, rfl⟩
      · have h := (if_neg hc1).symm.trans h
        by_cases hc2 : c = 3
        · subst hc2
          have h := (if_pos rfl).symm.trans h
          obtain rfl := Option.some.inj h
          refine JW.hVZ hM (E := jEn 3) (m_X5_hope_x (jVX X) hM.1.2.2.2.2.2.2.2.2.2.1 N (jvw G 0) (jvw J 0) p0 p1 p2 p3 3 hv) (sb_W_X_0 G J) (bi_W_X_0 G J) rfl rfl kc_L_101 rfl rfl rfl rfl (Nat.le_of_ble_eq_true rfl) (Nat.le_of_ble_eq_true rfl) rfl (jat hM.2.1 7 rfl) (st := [.int (0 : Int32), .ref 70]) rfl ?_
          exact JX.hret (X := jof X) (i := 6) (c := 3) (p2 := 27) hM.1 hp.off rfl hM.2.2.2.2.2.2.2.1 [(0, 14, 17, 19), (0, 14, 21, 38), (0, 14, 25, 13)] hM.2.2.2.2.2.2.2.2.2 [⟨0, 14, 17, 19⟩, ⟨0, 14, 21, 38⟩] ⟨0, 14, 25, 13⟩ [] rfl (List.forall_mem_cons.mpr ⟨⟨by decide, "java/util/NoSuchElementException", by rw [show jown (jof X) = RL from hM.2.2.1]; exact wd861, by decide⟩, List.forall_mem_cons.mpr ⟨⟨by decide, "java/lang/IllegalStateException", by rw [show jown (jof X) = RL from hM.2.2.1]; exact wd931, by decide⟩, fun _ h => absurd h List.not_mem_nil⟩⟩) rfl (by decide) (by rw [show jown (jof X) = RL from hM.2.2.1]; exact wd653) (by decide) (by rw [show jnL (jof X) = 7 from hM.2.2.2.1.2]; decide) (Or.inr ⟨jat hM.2.1 17 rfl, rfl⟩) (jat hM.2.1 18 rfl) (jat hM.2.1 19 rfl) (by rw [show jmc (jof X) = _ from hM.2.2.2.2.2.1]; exact Nat.le_of_ble_eq_true rfl) (by rw [show jms (jof X) = _ from hM.2.2.2.2.2.2.1]; exact Nat.le_of_ble_eq_true rfl) ⟨rfl, rfl⟩
        · have h := (if_neg hc2).symm.trans h
          cases h
def p_L_tray (N : Nat) (G : Nat → Nat → Int32) (J : Nat → Nat → Int64) (p0 : Int32) (p1 : Int32) (p2 : Int32) : Option (Int32 × (Nat → Nat → Int32) × (Nat → Nat → Int64)) :=
  jbh (p_X5_tray N (jvw G 0) (jvw J 0) p0 p1 p2) (fun v1 => some ((0 : Int32), (jpt G 0 70 v1.1), (jpt J 0 70 v1.2))) (fun c => if c = 1 then some ((1 : Int32), G, J) else if c = 3 then some ((2 : Int32), G, J) else none)
set_option maxHeartbeats 4000000 in
set_option maxRecDepth 100000 in
theorem m_L_tray (V : jV) (hV : V.1.stackTraces = false) (N : Nat) (G : Nat → Nat → Int32) (J : Nat → Nat → Int64) (p0 : Int32) (p1 : Int32) (p2 : Int32) (res : Int32 × (Nat → Nat → Int32) × (Nat → Nat → Int64)) (h : p_L_tray N G J p0 p1 p2 = some res) : jMet V yL_tray (jwsH yL_tray cL_tray 5 (some .int) [(0, 7, 10, 19), (0, 7, 14, 13)]) ⟨7, 1, 6, 112⟩ false 4 [.ref 0, .int p0, .int p1, .int p2] (hW G J) (fun o ν => o = some (.int res.1) ∧ ν = (hW res.2.1 res.2.2)) (fun _ _ => False) := by
  refine jmkH (tb := tbL) (C := kL_tray) hV rfl (by decide) tbL_ok rfl kL_tray_ok rfl ?_
  intro X hM _ hp
  unfold p_L_tray at h
  show JW X 0 0 0 [some (.ref 0), some (.int p0), some (.int p1), some (.int p2), none] [] (hW G J)
  refine JW.rZ hM 0 4 (pc2 := 4) (L2 := [some (.ref 0), some (.int p0), some (.int p1), some (.int p2), none]) (st2 := [.int p2, .int p1, .int p0, .ref 0]) (μ2 := (hW G J)) rfl trivial ?_
  rcases jbhE h with h | h
  · obtain ⟨v1, hv, h⟩ := h
    refine JW.cVZ (v := none) hM (m_X5_tray_r (jVX X) hM.1.2.2.2.2.2.2.2.2.2.1 N (jvw G 0) (jvw J 0) p0 p1 p2 v1 hv) (sb_W_X_0 G J) (bk_W_X_0 G J v1.1 v1.2) rfl rfl rfl kc_L_105 rfl rfl rfl rfl (Nat.le_of_ble_eq_true rfl) (Nat.le_of_ble_eq_true rfl) rfl (jat hM.2.1 4 rfl) (st := []) rfl ?_
    show JW X 1 6 7 [some (.ref 0), some (.int p0), some (.int p1), some (.int p2), none] [] (hW (jpt G 0 70 v1.1) (jpt J 0 70 v1.2))
    refine JW.rZ hM 5 1 (pc2 := 18) (L2 := [some (.ref 0), some (.int p0), some (.int p1), some (.int p2), none]) (st2 := []) (μ2 := (hW (jpt G 0 70 v1.1) (jpt J 0 70 v1.2))) rfl trivial ?_
    refine JW.rZ hM 12 1 (pc2 := 19) (L2 := [some (.ref 0), some (.int p0), some (.int p1), some (.int p2), none]) (st2 := [.int (0 : Int32)]) (μ2 := (hW (jpt G 0 70 v1.1) (jpt J 0 70 v1.2))) rfl trivial ?_
    obtain rfl := Option.some.inj h
    exact js_iret hM.1 hp hM.2.2.2.2.2.2.2.1 (by rw [hM.2.2.2.2.2.1]; exact Nat.le_of_ble_eq_true rfl) (by rw [hM.2.2.2.2.2.2.1]; exact Nat.le_of_ble_eq_true rfl) (jat hM.2.1 13 rfl) ⟨rfl, rfl⟩
  · obtain ⟨c, hv, h⟩ := h
    by_cases hc0 : c = 1
    · subst hc0
      have h := (if_pos rfl).symm.trans h
      obtain rfl := Option.some.inj h
      refine JW.hVZ hM (E := jEn 1) (m_X5_tray_x (jVX X) hM.1.2.2.2.2.2.2.2.2.2.1 N (jvw G 0) (jvw J 0) p0 p1 p2 1 hv) (sb_W_X_0 G J) (bi_W_X_0 G J) rfl rfl kc_L_105 rfl rfl rfl rfl (Nat.le_of_ble_eq_true rfl) (Nat.le_of_ble_eq_true rfl) rfl (jat hM.2.1 4 rfl) (st := []) rfl ?_
      exact JX.hret (X := jof X) (i := 4) (c := 1) (p2 := 12) hM.1 hp.off rfl hM.2.2.2.2.2.2.2.1 [(0, 7, 10, 19), (0, 7, 14, 13)] hM.2.2.2.2.2.2.2.2.2 [] ⟨0, 7, 10, 19⟩ [⟨0, 7, 14, 13⟩] rfl (fun _ h => absurd h List.not_mem_nil) rfl (by decide) (by rw [show jown (jof X) = RL from hM.2.2.1]; exact wd861) (by decide) (by rw [show jnL (jof X) = 5 from hM.2.2.2.1.2]; decide) (Or.inr ⟨jat hM.2.1 6 rfl, rfl⟩) (jat hM.2.1 7 rfl) (jat hM.2.1 8 rfl) (by rw [show jmc (jof X) = _ from hM.2.2.2.2.2.1]; exact Nat.le_of_ble_eq_true rfl) (by rw [show jms (jof X) = _ from hM.2.2.2.2.2.2.1]; exact Nat.le_of_ble_eq_true rfl) ⟨rfl, rfl⟩
    · have h := (if_neg hc0).symm.trans h
      by_cases hc1 : c = 3
      · subst hc1
        have h := (if_pos rfl).symm.trans h
        obtain rfl := Option.some.inj h
        refine JW.hVZ hM (E := jEn 3) (m_X5_tray_x (jVX X) hM.1.2.2.2.2.2.2.2.2.2.1 N (jvw G 0) (jvw J 0) p0 p1 p2 3 hv) (sb_W_X_0 G J) (bi_W_X_0 G J) rfl rfl kc_L_105 rfl rfl rfl rfl (Nat.le_of_ble_eq_true rfl) (Nat.le_of_ble_eq_true rfl) rfl (jat hM.2.1 4 rfl) (st := []) rfl ?_
        exact JX.hret (X := jof X) (i := 4) (c := 2) (p2 := 16) hM.1 hp.off rfl hM.2.2.2.2.2.2.2.1 [(0, 7, 10, 19), (0, 7, 14, 13)] hM.2.2.2.2.2.2.2.2.2 [⟨0, 7, 10, 19⟩] ⟨0, 7, 14, 13⟩ [] rfl (List.forall_mem_cons.mpr ⟨⟨by decide, "java/util/NoSuchElementException", by rw [show jown (jof X) = RL from hM.2.2.1]; exact wd861, by decide⟩, fun _ h => absurd h List.not_mem_nil⟩) rfl (by decide) (by rw [show jown (jof X) = RL from hM.2.2.1]; exact wd653) (by decide) (by rw [show jnL (jof X) = 5 from hM.2.2.2.1.2]; decide) (Or.inr ⟨jat hM.2.1 9 rfl, rfl⟩) (jat hM.2.1 10 rfl) (jat hM.2.1 11 rfl) (by rw [show jmc (jof X) = _ from hM.2.2.2.2.2.1]; exact Nat.le_of_ble_eq_true rfl) (by rw [show jms (jof X) = _ from hM.2.2.2.2.2.2.1]; exact Nat.le_of_ble_eq_true rfl) ⟨rfl, rfl⟩
      · have h := (if_neg hc1).symm.trans h
        cases h
def p_L_write (N : Nat) (G : Nat → Nat → Int32) (J : Nat → Nat → Int64) (p0 : Int32) (p1 : Int32) (p2 : Int64) : Option (Int32 × (Nat → Nat → Int64)) :=
  jbh (p_X5_write N (jvw G 0) (jvw J 0) p0 p1 p2) (fun v1 => jlt (jupL (jpt J 0 70 v1.2) 70 0 v1.1) fun J1 => some ((0 : Int32), J1)) (fun c => if c = 1 then some ((1 : Int32), J) else if c = 2 then some ((2 : Int32), J) else if c = 4 then some ((3 : Int32), J) else none)
set_option maxHeartbeats 4000000 in
set_option maxRecDepth 100000 in
theorem m_L_write (V : jV) (hV : V.1.stackTraces = false) (N : Nat) (G : Nat → Nat → Int32) (J : Nat → Nat → Int64) (p0 : Int32) (p1 : Int32) (p2 : Int64) (res : Int32 × (Nat → Nat → Int64)) (h : p_L_write N G J p0 p1 p2 = some res) : jMet V yL_write (jwsH yL_write cL_write 7 (some .int) [(0, 11, 14, 19), (0, 11, 18, 38), (0, 11, 22, 113)]) ⟨8, 2, 12, 135⟩ false 4 [.ref 0, .int p0, .int p1, .long p2, .ref 70] (hW G J) (fun o ν => o = some (.int res.1) ∧ ν = (hW G res.2)) (fun _ _ => False) := by
  refine jmkH (tb := tbL) (C := kL_write) hV rfl (by decide) tbL_ok rfl kL_write_ok rfl ?_
  intro X hM _ hp
  unfold p_L_write at h
  show JW X 0 0 0 [some (.ref 0), some (.int p0), some (.int p1), some (.long p2), none, some (.ref 70), none] [] (hW G J)
  refine JW.rZ hM 0 6 (pc2 := 7) (L2 := [some (.ref 0), some (.int p0), some (.int p1), some (.long p2), none, some (.ref 70), none]) (st2 := [.long p2, .int p1, .int p0, .ref 0, .int (0 : Int32), .ref 70]) (μ2 := (hW G J)) rfl trivial ?_
  rcases jbhE h with h | h
  · obtain ⟨v1, hv, h⟩ := h
    refine JW.cVZ (v := some (.long v1.1)) hM (m_X5_write_r (jVX X) hM.1.2.2.2.2.2.2.2.2.2.1 N (jvw G 0) (jvw J 0) p0 p1 p2 v1 hv) (sb_W_X_0 G J) (bk_W_X_0 G J (jvw G 0) v1.2) rfl rfl rfl kc_L_109 rfl rfl rfl rfl (Nat.le_of_ble_eq_true rfl) (Nat.le_of_ble_eq_true rfl) rfl (jat hM.2.1 6 rfl) (st := [.int (0 : Int32), .ref 70]) rfl ?_
    show JW X 2 12 10 [some (.ref 0), some (.int p0), some (.int p1), some (.long p2), none, some (.ref 70), none] [.long v1.1, .int (0 : Int32), .ref 70] (hW G (jpt J 0 70 v1.2))
    obtain ⟨J1, eJ, h⟩ := jlE h
    refine JW.rZ hM 7 1 (pc2 := 11) (L2 := [some (.ref 0), some (.int p0), some (.int p1), some (.long p2), none, some (.ref 70), none]) (st2 := []) (μ2 := (hW G (jupL (jpt J 0 70 v1.2) 70 0 v1.1))) rfl ⟨rfl, trivial⟩ ?_
    rw [eJ]
    refine JW.rZ hM 8 1 (pc2 := 26) (L2 := [some (.ref 0), some (.int p0), some (.int p1), some (.long p2), none, some (.ref 70), none]) (st2 := []) (μ2 := (hW G J1)) rfl trivial ?_
    refine JW.rZ hM 18 1 (pc2 := 27) (L2 := [some (.ref 0), some (.int p0), some (.int p1), some (.long p2), none, some (.ref 70), none]) (st2 := [.int (0 : Int32)]) (μ2 := (hW G J1)) rfl trivial ?_
    obtain rfl := Option.some.inj h
    exact js_iret hM.1 hp hM.2.2.2.2.2.2.2.1 (by rw [hM.2.2.2.2.2.1]; exact Nat.le_of_ble_eq_true rfl) (by rw [hM.2.2.2.2.2.2.1]; exact Nat.le_of_ble_eq_true rfl) (jat hM.2.1 19 rfl) ⟨rfl, rfl⟩
  · obtain ⟨c, hv, h⟩ := h
    by_cases hc0 : c = 1
    · subst hc0
      have h := (if_pos rfl).symm.trans h
      obtain rfl := Option.some.inj h
      refine JW.hVZ hM (E := jEn 1) (m_X5_write_x (jVX X) hM.1.2.2.2.2.2.2.2.2.2.1 N (jvw G 0) (jvw J 0) p0 p1 p2 1 hv) (sb_W_X_0 G J) (bi_W_X_0 G J) rfl rfl kc_L_109 rfl rfl rfl rfl (Nat.le_of_ble_eq_true rfl) (Nat.le_of_ble_eq_true rfl) rfl (jat hM.2.1 6 rfl) (st := [.int (0 : Int32), .ref 70]) rfl ?_
      exact JX.hret (X := jof X) (i := 6) (c := 1) (p2 := 16) hM.1 hp.off rfl hM.2.2.2.2.2.2.2.1 [(0, 11, 14, 19), (0, 11, 18, 38), (0, 11, 22, 113)] hM.2.2.2.2.2.2.2.2.2 [] ⟨0, 11, 14, 19⟩ [⟨0, 11, 18, 38⟩, ⟨0, 11, 22, 113⟩] rfl (fun _ h => absurd h List.not_mem_nil) rfl (by decide) (by rw [show jown (jof X) = RL from hM.2.2.1]; exact wd861) (by decide) (by rw [show jnL (jof X) = 7 from hM.2.2.2.1.2]; decide) (Or.inr ⟨jat hM.2.1 9 rfl, rfl⟩) (jat hM.2.1 10 rfl) (jat hM.2.1 11 rfl) (by rw [show jmc (jof X) = _ from hM.2.2.2.2.2.1]; exact Nat.le_of_ble_eq_true rfl) (by rw [show jms (jof X) = _ from hM.2.2.2.2.2.2.1]; exact Nat.le_of_ble_eq_true rfl) ⟨rfl, rfl⟩
    · have h := (if_neg hc0).symm.trans h
      by_cases hc1 : c = 2
      · subst hc1
        have h := (if_pos rfl).symm.trans h
        obtain rfl := Option.some.inj h
        refine JW.hVZ hM (E := jEn 2) (m_X5_write_x (jVX X) hM.1.2.2.2.2.2.2.2.2.2.1 N (jvw G 0) (jvw J 0) p0 p1 p2 2 hv) (sb_W_X_0 G J) (bi_W_X_0 G J) rfl rfl kc_L_109 rfl rfl rfl rfl (Nat.le_of_ble_eq_true rfl) (Nat.le_of_ble_eq_true rfl) rfl (jat hM.2.1 6 rfl) (st := [.int (0 : Int32), .ref 70]) rfl ?_
        exact JX.hret (X := jof X) (i := 6) (c := 2) (p2 := 20) hM.1 hp.off rfl hM.2.2.2.2.2.2.2.1 [(0, 11, 14, 19), (0, 11, 18, 38), (0, 11, 22, 113)] hM.2.2.2.2.2.2.2.2.2 [⟨0, 11, 14, 19⟩] ⟨0, 11, 18, 38⟩ [⟨0, 11, 22, 113⟩] rfl (List.forall_mem_cons.mpr ⟨⟨by decide, "java/util/NoSuchElementException", by rw [show jown (jof X) = RL from hM.2.2.1]; exact wd861, by decide⟩, fun _ h => absurd h List.not_mem_nil⟩) rfl (by decide) (by rw [show jown (jof X) = RL from hM.2.2.1]; exact wd931) (by decide) (by rw [show jnL (jof X) = 7 from hM.2.2.2.1.2]; decide) (Or.inr ⟨jat hM.2.1 12 rfl, rfl⟩) (jat hM.2.1 13 rfl) (jat hM.2.1 14 rfl) (by rw [show jmc (jof X) = _ from hM.2.2.2.2.2.1]; exact Nat.le_of_ble_eq_true rfl) (by rw [show jms (jof X) = _ from hM.2.2.2.2.2.2.1]; exact Nat.le_of_ble_eq_true rfl) ⟨rfl, rfl⟩
      · have h := (if_neg hc1).symm.trans h
        by_cases hc2 : c = 4
        · subst hc2
          have h := (if_pos rfl).symm.trans h
          obtain rfl := Option.some.inj h
          refine JW.hVZ hM (E := jEn 4) (m_X5_write_x (jVX X) hM.1.2.2.2.2.2.2.2.2.2.1 N (jvw G 0) (jvw J 0) p0 p1 p2 4 hv) (sb_W_X_0 G J) (bi_W_X_0 G J) rfl rfl kc_L_109 rfl rfl rfl rfl (Nat.le_of_ble_eq_true rfl) (Nat.le_of_ble_eq_true rfl) rfl (jat hM.2.1 6 rfl) (st := [.int (0 : Int32), .ref 70]) rfl ?_
          exact JX.hret (X := jof X) (i := 6) (c := 3) (p2 := 24) hM.1 hp.off rfl hM.2.2.2.2.2.2.2.1 [(0, 11, 14, 19), (0, 11, 18, 38), (0, 11, 22, 113)] hM.2.2.2.2.2.2.2.2.2 [⟨0, 11, 14, 19⟩, ⟨0, 11, 18, 38⟩] ⟨0, 11, 22, 113⟩ [] rfl (List.forall_mem_cons.mpr ⟨⟨by decide, "java/util/NoSuchElementException", by rw [show jown (jof X) = RL from hM.2.2.1]; exact wd861, by decide⟩, List.forall_mem_cons.mpr ⟨⟨by decide, "java/lang/IllegalStateException", by rw [show jown (jof X) = RL from hM.2.2.1]; exact wd931, by decide⟩, fun _ h => absurd h List.not_mem_nil⟩⟩) rfl (by decide) (by rw [show jown (jof X) = RL from hM.2.2.1]; exact wd1216) (by decide) (by rw [show jnL (jof X) = 7 from hM.2.2.2.1.2]; decide) (Or.inr ⟨jat hM.2.1 15 rfl, rfl⟩) (jat hM.2.1 16 rfl) (jat hM.2.1 17 rfl) (by rw [show jmc (jof X) = _ from hM.2.2.2.2.2.1]; exact Nat.le_of_ble_eq_true rfl) (by rw [show jms (jof X) = _ from hM.2.2.2.2.2.2.1]; exact Nat.le_of_ble_eq_true rfl) ⟨rfl, rfl⟩
        · have h := (if_neg hc2).symm.trans h
          cases h
def p_L_pour (N : Nat) (G : Nat → Nat → Int32) (J : Nat → Nat → Int64) (p0 : Int32) : Option (Int32 × (Nat → Nat → Int64)) :=
  jbh (p_X5_pour N (jvw G 0) (jvw J 0) p0) (fun v1 => jlt (jupL (jpt J 0 70 v1.2) 70 0 (v1.1.toInt64)) fun J1 => some ((0 : Int32), J1)) (fun c => if c = 1 then some ((1 : Int32), J) else if c = 2 then some ((2 : Int32), J) else none)
set_option maxHeartbeats 4000000 in
set_option maxRecDepth 100000 in
theorem m_L_pour (V : jV) (hV : V.1.stackTraces = false) (N : Nat) (G : Nat → Nat → Int32) (J : Nat → Nat → Int64) (p0 : Int32) (res : Int32 × (Nat → Nat → Int64)) (h : p_L_pour N G J p0 = some res) : jMet V yL_pour (jwsH yL_pour cL_pour 4 (some .int) [(0, 9, 12, 19), (0, 9, 15, 38)]) ⟨8, 1, 6, 134⟩ false 4 [.ref 0, .int p0, .ref 70] (hW G J) (fun o ν => o = some (.int res.1) ∧ ν = (hW G res.2)) (fun _ _ => False) := by
  refine jmkH (tb := tbL) (C := kL_pour) hV rfl (by decide) tbL_ok rfl kL_pour_ok rfl ?_
  intro X hM _ hp
  unfold p_L_pour at h
  show JW X 0 0 0 [some (.ref 0), some (.int p0), some (.ref 70), none] [] (hW G J)
  refine JW.rZ hM 0 4 (pc2 := 4) (L2 := [some (.ref 0), some (.int p0), some (.ref 70), none]) (st2 := [.int p0, .ref 0, .int (0 : Int32), .ref 70]) (μ2 := (hW G J)) rfl trivial ?_
  rcases jbhE h with h | h
  · obtain ⟨v1, hv, h⟩ := h
    refine JW.cVZ (v := some (.int v1.1)) hM (m_X5_pour_r (jVX X) hM.1.2.2.2.2.2.2.2.2.2.1 N (jvw G 0) (jvw J 0) p0 v1 hv) (sb_W_X_0 G J) (bk_W_X_0 G J (jvw G 0) v1.2) rfl rfl rfl kc_L_115 rfl rfl rfl rfl (Nat.le_of_ble_eq_true rfl) (Nat.le_of_ble_eq_true rfl) rfl (jat hM.2.1 4 rfl) (st := [.int (0 : Int32), .ref 70]) rfl ?_
    show JW X 1 6 7 [some (.ref 0), some (.int p0), some (.ref 70), none] [.int v1.1, .int (0 : Int32), .ref 70] (hW G (jpt J 0 70 v1.2))
    obtain ⟨J1, eJ, h⟩ := jlE h
    refine JW.rZ hM 5 2 (pc2 := 9) (L2 := [some (.ref 0), some (.int p0), some (.ref 70), none]) (st2 := []) (μ2 := (hW G (jupL (jpt J 0 70 v1.2) 70 0 (v1.1.toInt64)))) rfl ⟨rfl, trivial⟩ ?_
    rw [eJ]
    refine JW.rZ hM 7 1 (pc2 := 18) (L2 := [some (.ref 0), some (.int p0), some (.ref 70), none]) (st2 := []) (μ2 := (hW G J1)) rfl trivial ?_
    refine JW.rZ hM 14 1 (pc2 := 19) (L2 := [some (.ref 0), some (.int p0), some (.ref 70), none]) (st2 := [.int (0 : Int32)]) (μ2 := (hW G J1)) rfl trivial ?_
    obtain rfl := Option.some.inj h
    exact js_iret hM.1 hp hM.2.2.2.2.2.2.2.1 (by rw [hM.2.2.2.2.2.1]; exact Nat.le_of_ble_eq_true rfl) (by rw [hM.2.2.2.2.2.2.1]; exact Nat.le_of_ble_eq_true rfl) (jat hM.2.1 15 rfl) ⟨rfl, rfl⟩
  · obtain ⟨c, hv, h⟩ := h
    by_cases hc0 : c = 1
    · subst hc0
      have h := (if_pos rfl).symm.trans h
      obtain rfl := Option.some.inj h
      refine JW.hVZ hM (E := jEn 1) (m_X5_pour_x (jVX X) hM.1.2.2.2.2.2.2.2.2.2.1 N (jvw G 0) (jvw J 0) p0 1 hv) (sb_W_X_0 G J) (bi_W_X_0 G J) rfl rfl kc_L_115 rfl rfl rfl rfl (Nat.le_of_ble_eq_true rfl) (Nat.le_of_ble_eq_true rfl) rfl (jat hM.2.1 4 rfl) (st := [.int (0 : Int32), .ref 70]) rfl ?_
      exact JX.hret (X := jof X) (i := 3) (c := 1) (p2 := 13) hM.1 hp.off rfl hM.2.2.2.2.2.2.2.1 [(0, 9, 12, 19), (0, 9, 15, 38)] hM.2.2.2.2.2.2.2.2.2 [] ⟨0, 9, 12, 19⟩ [⟨0, 9, 15, 38⟩] rfl (fun _ h => absurd h List.not_mem_nil) rfl (by decide) (by rw [show jown (jof X) = RL from hM.2.2.1]; exact wd861) (by decide) (by rw [show jnL (jof X) = 4 from hM.2.2.2.1.2]; decide) (Or.inl ⟨3, rfl, jat hM.2.1 8 rfl, rfl⟩) (jat hM.2.1 9 rfl) (jat hM.2.1 10 rfl) (by rw [show jmc (jof X) = _ from hM.2.2.2.2.2.1]; exact Nat.le_of_ble_eq_true rfl) (by rw [show jms (jof X) = _ from hM.2.2.2.2.2.2.1]; exact Nat.le_of_ble_eq_true rfl) ⟨rfl, rfl⟩
    · have h := (if_neg hc0).symm.trans h
      by_cases hc1 : c = 2
      · subst hc1
        have h := (if_pos rfl).symm.trans h
        obtain rfl := Option.some.inj h
        refine JW.hVZ hM (E := jEn 2) (m_X5_pour_x (jVX X) hM.1.2.2.2.2.2.2.2.2.2.1 N (jvw G 0) (jvw J 0) p0 2 hv) (sb_W_X_0 G J) (bi_W_X_0 G J) rfl rfl kc_L_115 rfl rfl rfl rfl (Nat.le_of_ble_eq_true rfl) (Nat.le_of_ble_eq_true rfl) rfl (jat hM.2.1 4 rfl) (st := [.int (0 : Int32), .ref 70]) rfl ?_
        exact JX.hret (X := jof X) (i := 3) (c := 2) (p2 := 16) hM.1 hp.off rfl hM.2.2.2.2.2.2.2.1 [(0, 9, 12, 19), (0, 9, 15, 38)] hM.2.2.2.2.2.2.2.2.2 [⟨0, 9, 12, 19⟩] ⟨0, 9, 15, 38⟩ [] rfl (List.forall_mem_cons.mpr ⟨⟨by decide, "java/util/NoSuchElementException", by rw [show jown (jof X) = RL from hM.2.2.1]; exact wd861, by decide⟩, fun _ h => absurd h List.not_mem_nil⟩) rfl (by decide) (by rw [show jown (jof X) = RL from hM.2.2.1]; exact wd931) (by decide) (by rw [show jnL (jof X) = 4 from hM.2.2.2.1.2]; decide) (Or.inl ⟨3, rfl, jat hM.2.1 11 rfl, rfl⟩) (jat hM.2.1 12 rfl) (jat hM.2.1 13 rfl) (by rw [show jmc (jof X) = _ from hM.2.2.2.2.2.1]; exact Nat.le_of_ble_eq_true rfl) (by rw [show jms (jof X) = _ from hM.2.2.2.2.2.2.1]; exact Nat.le_of_ble_eq_true rfl) ⟨rfl, rfl⟩
      · have h := (if_neg hc1).symm.trans h
        cases h
def p_L_image (N : Nat) (G : Nat → Nat → Int32) (J : Nat → Nat → Int64) (p0 : Int32) : Option (Int32 × (Nat → Nat → Int32)) :=
  jbh (p_X5_image N (jvw G 0) (jvw J 0) p0) (fun v1 => some ((0 : Int32), (jpt G 0 70 v1))) (fun c => if c = 1 then some ((1 : Int32), G) else none)
set_option maxHeartbeats 4000000 in
set_option maxRecDepth 100000 in
theorem m_L_image (V : jV) (hV : V.1.stackTraces = false) (N : Nat) (G : Nat → Nat → Int32) (J : Nat → Nat → Int64) (p0 : Int32) (res : Int32 × (Nat → Nat → Int32)) (h : p_L_image N G J p0 = some res) : jMet V yL_image (jwsH yL_image cL_image 3 (some .int) [(0, 5, 8, 19)]) ⟨8, 1, 6, 131⟩ false 4 [.ref 0, .int p0] (hW G J) (fun o ν => o = some (.int res.1) ∧ ν = (hW res.2 J)) (fun _ _ => False) := by
  refine jmkH (tb := tbL) (C := kL_image) hV rfl (by decide) tbL_ok rfl kL_image_ok rfl ?_
  intro X hM _ hp
  unfold p_L_image at h
  show JW X 0 0 0 [some (.ref 0), some (.int p0), none] [] (hW G J)
  refine JW.rZ hM 0 2 (pc2 := 2) (L2 := [some (.ref 0), some (.int p0), none]) (st2 := [.int p0, .ref 0]) (μ2 := (hW G J)) rfl trivial ?_
  rcases jbhE h with h | h
  · obtain ⟨v1, hv, h⟩ := h
    refine JW.cVZ (v := none) hM (m_X5_image_r (jVX X) hM.1.2.2.2.2.2.2.2.2.2.1 N (jvw G 0) (jvw J 0) p0 v1 hv) (sb_W_X_0 G J) (bk_W_X_0 G J v1 (jvw J 0)) rfl rfl rfl kc_L_118 rfl rfl rfl rfl (Nat.le_of_ble_eq_true rfl) (Nat.le_of_ble_eq_true rfl) rfl (jat hM.2.1 2 rfl) (st := []) rfl ?_
    show JW X 1 6 5 [some (.ref 0), some (.int p0), none] [] (hW (jpt G 0 70 v1) J)
    refine JW.rZ hM 3 1 (pc2 := 11) (L2 := [some (.ref 0), some (.int p0), none]) (st2 := []) (μ2 := (hW (jpt G 0 70 v1) J)) rfl trivial ?_
    refine JW.rZ hM 7 1 (pc2 := 12) (L2 := [some (.ref 0), some (.int p0), none]) (st2 := [.int (0 : Int32)]) (μ2 := (hW (jpt G 0 70 v1) J)) rfl trivial ?_
    obtain rfl := Option.some.inj h
    exact js_iret hM.1 hp hM.2.2.2.2.2.2.2.1 (by rw [hM.2.2.2.2.2.1]; exact Nat.le_of_ble_eq_true rfl) (by rw [hM.2.2.2.2.2.2.1]; exact Nat.le_of_ble_eq_true rfl) (jat hM.2.1 8 rfl) ⟨rfl, rfl⟩
  · obtain ⟨c, hv, h⟩ := h
    by_cases hc0 : c = 1
    · subst hc0
      have h := (if_pos rfl).symm.trans h
      obtain rfl := Option.some.inj h
      refine JW.hVZ hM (E := jEn 1) (m_X5_image_x (jVX X) hM.1.2.2.2.2.2.2.2.2.2.1 N (jvw G 0) (jvw J 0) p0 1 hv) (sb_W_X_0 G J) (bi_W_X_0 G J) rfl rfl kc_L_118 rfl rfl rfl rfl (Nat.le_of_ble_eq_true rfl) (Nat.le_of_ble_eq_true rfl) rfl (jat hM.2.1 2 rfl) (st := []) rfl ?_
      exact JX.hret (X := jof X) (i := 2) (c := 1) (p2 := 9) hM.1 hp.off rfl hM.2.2.2.2.2.2.2.1 [(0, 5, 8, 19)] hM.2.2.2.2.2.2.2.2.2 [] ⟨0, 5, 8, 19⟩ [] rfl (fun _ h => absurd h List.not_mem_nil) rfl (by decide) (by rw [show jown (jof X) = RL from hM.2.2.1]; exact wd861) (by decide) (by rw [show jnL (jof X) = 3 from hM.2.2.2.1.2]; decide) (Or.inl ⟨2, rfl, jat hM.2.1 4 rfl, rfl⟩) (jat hM.2.1 5 rfl) (jat hM.2.1 6 rfl) (by rw [show jmc (jof X) = _ from hM.2.2.2.2.2.1]; exact Nat.le_of_ble_eq_true rfl) (by rw [show jms (jof X) = _ from hM.2.2.2.2.2.2.1]; exact Nat.le_of_ble_eq_true rfl) ⟨rfl, rfl⟩
    · have h := (if_neg hc0).symm.trans h
      cases h
def p_L_restore (N : Nat) (G : Nat → Nat → Int32) (J : Nat → Nat → Int64) (p0 : Int32) : Option (Int32 × (Nat → Nat → Int32)) :=
  jbh (p_X5_restore N (jvw G 0) (jvw J 0) p0) (fun v1 => some ((0 : Int32), (jpt G 0 70 v1))) (fun c => if c = 1 then some ((1 : Int32), G) else if c = 2 then some ((2 : Int32), G) else none)
set_option maxHeartbeats 4000000 in
set_option maxRecDepth 100000 in
theorem m_L_restore (V : jV) (hV : V.1.stackTraces = false) (N : Nat) (G : Nat → Nat → Int32) (J : Nat → Nat → Int64) (p0 : Int32) (res : Int32 × (Nat → Nat → Int32)) (h : p_L_restore N G J p0 = some res) : jMet V yL_restore (jwsH yL_restore cL_restore 3 (some .int) [(0, 5, 8, 19), (0, 5, 11, 38)]) ⟨8, 2, 12, 131⟩ false 4 [.ref 0, .int p0] (hW G J) (fun o ν => o = some (.int res.1) ∧ ν = (hW res.2 J)) (fun _ _ => False) := by
  refine jmkH (tb := tbL) (C := kL_restore) hV rfl (by decide) tbL_ok rfl kL_restore_ok rfl ?_
  intro X hM _ hp
  unfold p_L_restore at h
  show JW X 0 0 0 [some (.ref 0), some (.int p0), none] [] (hW G J)
  refine JW.rZ hM 0 2 (pc2 := 2) (L2 := [some (.ref 0), some (.int p0), none]) (st2 := [.int p0, .ref 0]) (μ2 := (hW G J)) rfl trivial ?_
  rcases jbhE h with h | h
  · obtain ⟨v1, hv, h⟩ := h
    refine JW.cVZ (v := none) hM (m_X5_restore_r (jVX X) hM.1.2.2.2.2.2.2.2.2.2.1 N (jvw G 0) (jvw J 0) p0 v1 hv) (sb_W_X_0 G J) (bk_W_X_0 G J v1 (jvw J 0)) rfl rfl rfl kc_L_122 rfl rfl rfl rfl (Nat.le_of_ble_eq_true rfl) (Nat.le_of_ble_eq_true rfl) rfl (jat hM.2.1 2 rfl) (st := []) rfl ?_
    show JW X 2 12 5 [some (.ref 0), some (.int p0), none] [] (hW (jpt G 0 70 v1) J)
    refine JW.rZ hM 3 1 (pc2 := 14) (L2 := [some (.ref 0), some (.int p0), none]) (st2 := []) (μ2 := (hW (jpt G 0 70 v1) J)) rfl trivial ?_
    refine JW.rZ hM 10 1 (pc2 := 15) (L2 := [some (.ref 0), some (.int p0), none]) (st2 := [.int (0 : Int32)]) (μ2 := (hW (jpt G 0 70 v1) J)) rfl trivial ?_
    obtain rfl := Option.some.inj h
    exact js_iret hM.1 hp hM.2.2.2.2.2.2.2.1 (by rw [hM.2.2.2.2.2.1]; exact Nat.le_of_ble_eq_true rfl) (by rw [hM.2.2.2.2.2.2.1]; exact Nat.le_of_ble_eq_true rfl) (jat hM.2.1 11 rfl) ⟨rfl, rfl⟩
  · obtain ⟨c, hv, h⟩ := h
    by_cases hc0 : c = 1
    · subst hc0
      have h := (if_pos rfl).symm.trans h
      obtain rfl := Option.some.inj h
      refine JW.hVZ hM (E := jEn 1) (m_X5_restore_x (jVX X) hM.1.2.2.2.2.2.2.2.2.2.1 N (jvw G 0) (jvw J 0) p0 1 hv) (sb_W_X_0 G J) (bi_W_X_0 G J) rfl rfl kc_L_122 rfl rfl rfl rfl (Nat.le_of_ble_eq_true rfl) (Nat.le_of_ble_eq_true rfl) rfl (jat hM.2.1 2 rfl) (st := []) rfl ?_
      exact JX.hret (X := jof X) (i := 2) (c := 1) (p2 := 9) hM.1 hp.off rfl hM.2.2.2.2.2.2.2.1 [(0, 5, 8, 19), (0, 5, 11, 38)] hM.2.2.2.2.2.2.2.2.2 [] ⟨0, 5, 8, 19⟩ [⟨0, 5, 11, 38⟩] rfl (fun _ h => absurd h List.not_mem_nil) rfl (by decide) (by rw [show jown (jof X) = RL from hM.2.2.1]; exact wd861) (by decide) (by rw [show jnL (jof X) = 3 from hM.2.2.2.1.2]; decide) (Or.inl ⟨2, rfl, jat hM.2.1 4 rfl, rfl⟩) (jat hM.2.1 5 rfl) (jat hM.2.1 6 rfl) (by rw [show jmc (jof X) = _ from hM.2.2.2.2.2.1]; exact Nat.le_of_ble_eq_true rfl) (by rw [show jms (jof X) = _ from hM.2.2.2.2.2.2.1]; exact Nat.le_of_ble_eq_true rfl) ⟨rfl, rfl⟩
    · have h := (if_neg hc0).symm.trans h
      by_cases hc1 : c = 2
      · subst hc1
        have h := (if_pos rfl).symm.trans h
        obtain rfl := Option.some.inj h
        refine JW.hVZ hM (E := jEn 2) (m_X5_restore_x (jVX X) hM.1.2.2.2.2.2.2.2.2.2.1 N (jvw G 0) (jvw J 0) p0 2 hv) (sb_W_X_0 G J) (bi_W_X_0 G J) rfl rfl kc_L_122 rfl rfl rfl rfl (Nat.le_of_ble_eq_true rfl) (Nat.le_of_ble_eq_true rfl) rfl (jat hM.2.1 2 rfl) (st := []) rfl ?_
        exact JX.hret (X := jof X) (i := 2) (c := 2) (p2 := 12) hM.1 hp.off rfl hM.2.2.2.2.2.2.2.1 [(0, 5, 8, 19), (0, 5, 11, 38)] hM.2.2.2.2.2.2.2.2.2 [⟨0, 5, 8, 19⟩] ⟨0, 5, 11, 38⟩ [] rfl (List.forall_mem_cons.mpr ⟨⟨by decide, "java/util/NoSuchElementException", by rw [show jown (jof X) = RL from hM.2.2.1]; exact wd861, by decide⟩, fun _ h => absurd h List.not_mem_nil⟩) rfl (by decide) (by rw [show jown (jof X) = RL from hM.2.2.1]; exact wd931) (by decide) (by rw [show jnL (jof X) = 3 from hM.2.2.2.1.2]; decide) (Or.inl ⟨2, rfl, jat hM.2.1 7 rfl, rfl⟩) (jat hM.2.1 8 rfl) (jat hM.2.1 9 rfl) (by rw [show jmc (jof X) = _ from hM.2.2.2.2.2.1]; exact Nat.le_of_ble_eq_true rfl) (by rw [show jms (jof X) = _ from hM.2.2.2.2.2.2.1]; exact Nat.le_of_ble_eq_true rfl) ⟨rfl, rfl⟩
      · have h := (if_neg hc1).symm.trans h
        cases h

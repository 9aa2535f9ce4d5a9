def tbLZ (Ln : Nat) (xs : Nat → Int32) : jT := (tbL.1, tbL.2.1, tbL.2.2.1, tbL.2.2.2.1, some (Ln, xs))
theorem jbhN {α β : Type} {a : Option (Nat ⊕ α)} {f : α → Option β} {r : β} (h : jbh a f (fun _ => none) = some r) : ∃ v, a = some (.inr v) ∧ f v = some r := by
  rcases jbhE h with h | ⟨_, _, h⟩
  · exact h
  · cases h
theorem JW.rebY {Tz : jX → Prop} {X : jX} {C : List (Nat × Instr × Nat)} {own : String} {tb : jT} {nl : Nat} {R : Room} {rt : Option FieldType} {B0 B : Nat} {k n pc : Nat} {L : List (Option Value)} {st : List Value} {μ : jH} (hM : jMZ Tz X C own tb nl R rt B0) (hT : ∀ ad al, Tz X → Tz (jxa X ad al)) (hm : μ.length + 8 ≤ 1000000) (hB : B ≤ μ.length + 8) (hμ : μ.all (jcc1 μ.length) = true) (hL : L.all (fun o => match o with
    | some v => jcv μ.length v
    | none => true) = true) (hst : st.all (jcv μ.length) = true) (K : ∀ X9 : jX, jMZ Tz X9 C own tb nl R rt B → JW X9 k n pc L st μ) : JW X k n pc L st μ :=
  JW.rebase hM.1 8 hm hμ hL hst fun ad h9 => K _ ⟨h9, hM.2.1, hM.2.2.1, hM.2.2.2.1, hM.2.2.2.2.1, hM.2.2.2.2.2.1, hM.2.2.2.2.2.2.1, hM.2.2.2.2.2.2.2.1, hB, hT _ _ hM.2.2.2.2.2.2.2.2.2⟩
theorem wd368 : Cond.methodLink RL 129 yX5_feed ∈ jbig := jbig_in (jtb_2 _ (List.mem_of_getElem? (i := 25) rfl)) rfl
theorem wd371 : Cond.code yX5_feed cX5_feed 6 (some .int) ∈ jbig := jbig_in (jtb_2 _ (List.mem_of_getElem? (i := 28) rfl)) rfl
theorem wd369 : Cond.instanceMethod yX5_feed ∈ jbig := jbig_in (jtb_2 _ (List.mem_of_getElem? (i := 26) rfl)) rfl
theorem wd370 : Cond.selects yX5_feed.cls yX5_feed yX5_feed ∈ jbig := jbig_in (jtb_2 _ (List.mem_of_getElem? (i := 27) rfl)) rfl
theorem wd1371 : Cond.methodLink RL 133 yX6_feed ∈ jbig := jbig_in (jtb_6 _ (List.mem_of_getElem? (i := 68) rfl)) rfl
theorem wd1374 : Cond.code yX6_feed cX6_feed 8 (some .int) ∈ jbig := jbig_in (jtb_6 _ (List.mem_of_getElem? (i := 71) rfl)) rfl
theorem wd1372 : Cond.instanceMethod yX6_feed ∈ jbig := jbig_in (jtb_6 _ (List.mem_of_getElem? (i := 69) rfl)) rfl
theorem wd1373 : Cond.selects yX6_feed.cls yX6_feed yX6_feed ∈ jbig := jbig_in (jtb_6 _ (List.mem_of_getElem? (i := 70) rfl)) rfl
theorem wd650 : Cond.methodLink RL 134 yL_town ∈ jbig := jbig_in (jtb_3 _ (List.mem_of_getElem? (i := 67) rfl)) rfl
theorem wd652 : Cond.codeWith yL_town cL_town 4 (some .int) [(0, 9, 12, 13)] ∈ jbig := jbig_in (jtb_3 _ (List.mem_of_getElem? (i := 69) rfl)) rfl
theorem wd103 : Cond.initialized RL ∈ jbig := jbig_in (jtb_1 _ (List.mem_of_getElem? (i := 0) rfl)) rfl
theorem wd651 : Cond.static yL_town ∈ jbig := jbig_in (jtb_3 _ (List.mem_of_getElem? (i := 68) rfl)) rfl
theorem wd1375 : Cond.methodLink RL 139 yX6_town ∈ jbig := jbig_in (jtb_6 _ (List.mem_of_getElem? (i := 72) rfl)) rfl
theorem wd1378 : Cond.code yX6_town cX6_town 2 (some .int) ∈ jbig := jbig_in (jtb_6 _ (List.mem_of_getElem? (i := 75) rfl)) rfl
theorem wd1376 : Cond.instanceMethod yX6_town ∈ jbig := jbig_in (jtb_6 _ (List.mem_of_getElem? (i := 73) rfl)) rfl
theorem wd1377 : Cond.selects yX6_town.cls yX6_town yX6_town ∈ jbig := jbig_in (jtb_6 _ (List.mem_of_getElem? (i := 74) rfl)) rfl
theorem wd1367 : Cond.methodLink RL 140 yX6_thrown ∈ jbig := jbig_in (jtb_6 _ (List.mem_of_getElem? (i := 64) rfl)) rfl
theorem wd1370 : Cond.code yX6_thrown cX6_thrown 1 (some .int) ∈ jbig := jbig_in (jtb_6 _ (List.mem_of_getElem? (i := 67) rfl)) rfl
theorem wd1368 : Cond.instanceMethod yX6_thrown ∈ jbig := jbig_in (jtb_6 _ (List.mem_of_getElem? (i := 65) rfl)) rfl
theorem wd1369 : Cond.selects yX6_thrown.cls yX6_thrown yX6_thrown ∈ jbig := jbig_in (jtb_6 _ (List.mem_of_getElem? (i := 66) rfl)) rfl
theorem wd376 : Cond.methodLink RL 143 yX5_fault ∈ jbig := jbig_in (jtb_2 _ (List.mem_of_getElem? (i := 33) rfl)) rfl
theorem wd379 : Cond.code yX5_fault cX5_fault 2 (some .int) ∈ jbig := jbig_in (jtb_2 _ (List.mem_of_getElem? (i := 36) rfl)) rfl
theorem wd377 : Cond.instanceMethod yX5_fault ∈ jbig := jbig_in (jtb_2 _ (List.mem_of_getElem? (i := 34) rfl)) rfl
theorem wd378 : Cond.selects yX5_fault.cls yX5_fault yX5_fault ∈ jbig := jbig_in (jtb_2 _ (List.mem_of_getElem? (i := 35) rfl)) rfl
theorem wd1461 : Cond.methodLink RL 146 yX6_fault ∈ jbig := jbig_in (jtb_6 _ (List.mem_of_getElem? (i := 158) rfl)) rfl
theorem wd1464 : Cond.code yX6_fault cX6_fault 2 (some .int) ∈ jbig := jbig_in (jtb_6 _ (List.mem_of_getElem? (i := 161) rfl)) rfl
theorem wd1462 : Cond.instanceMethod yX6_fault ∈ jbig := jbig_in (jtb_6 _ (List.mem_of_getElem? (i := 159) rfl)) rfl
theorem wd1463 : Cond.selects yX6_fault.cls yX6_fault yX6_fault ∈ jbig := jbig_in (jtb_6 _ (List.mem_of_getElem? (i := 160) rfl)) rfl
theorem wd858 : Cond.methodLink RL 147 yL_person ∈ jbig := jbig_in (jtb_4 _ (List.mem_of_getElem? (i := 35) rfl)) rfl
theorem wd860 : Cond.codeWith yL_person cL_person 5 (some .int) [(0, 10, 13, 19), (0, 10, 17, 13)] ∈ jbig := jbig_in (jtb_4 _ (List.mem_of_getElem? (i := 37) rfl)) rfl
theorem wd859 : Cond.static yL_person ∈ jbig := jbig_in (jtb_4 _ (List.mem_of_getElem? (i := 36) rfl)) rfl
theorem wd1465 : Cond.methodLink RL 150 yX6_person ∈ jbig := jbig_in (jtb_6 _ (List.mem_of_getElem? (i := 162) rfl)) rfl
theorem wd1468 : Cond.code yX6_person cX6_person 3 (some .int) ∈ jbig := jbig_in (jtb_6 _ (List.mem_of_getElem? (i := 165) rfl)) rfl
theorem wd1466 : Cond.instanceMethod yX6_person ∈ jbig := jbig_in (jtb_6 _ (List.mem_of_getElem? (i := 163) rfl)) rfl
theorem wd1467 : Cond.selects yX6_person.cls yX6_person yX6_person ∈ jbig := jbig_in (jtb_6 _ (List.mem_of_getElem? (i := 164) rfl)) rfl
theorem wd891 : Cond.methodLink RL 151 yL_worth ∈ jbig := jbig_in (jtb_4 _ (List.mem_of_getElem? (i := 68) rfl)) rfl
theorem wd893 : Cond.codeWith yL_worth cL_worth 5 (some .int) [(0, 10, 13, 19)] ∈ jbig := jbig_in (jtb_4 _ (List.mem_of_getElem? (i := 70) rfl)) rfl
theorem wd892 : Cond.static yL_worth ∈ jbig := jbig_in (jtb_4 _ (List.mem_of_getElem? (i := 69) rfl)) rfl
theorem wd1486 : Cond.methodLink RL 153 yX6_worth ∈ jbig := jbig_in (jtb_6 _ (List.mem_of_getElem? (i := 183) rfl)) rfl
theorem wd1489 : Cond.code yX6_worth cX6_worth 3 (some .int) ∈ jbig := jbig_in (jtb_6 _ (List.mem_of_getElem? (i := 186) rfl)) rfl
theorem wd1487 : Cond.instanceMethod yX6_worth ∈ jbig := jbig_in (jtb_6 _ (List.mem_of_getElem? (i := 184) rfl)) rfl
theorem wd1488 : Cond.selects yX6_worth.cls yX6_worth yX6_worth ∈ jbig := jbig_in (jtb_6 _ (List.mem_of_getElem? (i := 185) rfl)) rfl
theorem wd903 : Cond.methodLink RL 154 yL_holder ∈ jbig := jbig_in (jtb_4 _ (List.mem_of_getElem? (i := 80) rfl)) rfl
theorem wd905 : Cond.codeWith yL_holder cL_holder 4 (some .int) [(0, 9, 12, 19)] ∈ jbig := jbig_in (jtb_4 _ (List.mem_of_getElem? (i := 82) rfl)) rfl
theorem wd904 : Cond.static yL_holder ∈ jbig := jbig_in (jtb_4 _ (List.mem_of_getElem? (i := 81) rfl)) rfl
theorem wd1494 : Cond.methodLink RL 156 yX6_holder ∈ jbig := jbig_in (jtb_6 _ (List.mem_of_getElem? (i := 191) rfl)) rfl
theorem wd1497 : Cond.code yX6_holder cX6_holder 2 (some .int) ∈ jbig := jbig_in (jtb_6 _ (List.mem_of_getElem? (i := 194) rfl)) rfl
theorem wd1495 : Cond.instanceMethod yX6_holder ∈ jbig := jbig_in (jtb_6 _ (List.mem_of_getElem? (i := 192) rfl)) rfl
theorem wd1496 : Cond.selects yX6_holder.cls yX6_holder yX6_holder ∈ jbig := jbig_in (jtb_6 _ (List.mem_of_getElem? (i := 193) rfl)) rfl
theorem wd910 : Cond.methodLink RL 157 yL_eat ∈ jbig := jbig_in (jtb_4 _ (List.mem_of_getElem? (i := 87) rfl)) rfl
theorem wd912 : Cond.codeWith yL_eat cL_eat 4 (some .int) [(0, 16, 19, 19)] ∈ jbig := jbig_in (jtb_4 _ (List.mem_of_getElem? (i := 89) rfl)) rfl
theorem wd911 : Cond.static yL_eat ∈ jbig := jbig_in (jtb_4 _ (List.mem_of_getElem? (i := 88) rfl)) rfl
theorem wd1498 : Cond.methodLink RL 159 yX6_eat ∈ jbig := jbig_in (jtb_6 _ (List.mem_of_getElem? (i := 195) rfl)) rfl
theorem wd1501 : Cond.code yX6_eat cX6_eat 2 (some .boolean) ∈ jbig := jbig_in (jtb_6 _ (List.mem_of_getElem? (i := 198) rfl)) rfl
theorem wd1499 : Cond.instanceMethod yX6_eat ∈ jbig := jbig_in (jtb_6 _ (List.mem_of_getElem? (i := 196) rfl)) rfl
theorem wd1500 : Cond.selects yX6_eat.cls yX6_eat yX6_eat ∈ jbig := jbig_in (jtb_6 _ (List.mem_of_getElem? (i := 197) rfl)) rfl
theorem wd918 : Cond.methodLink RL 160 yL_pass ∈ jbig := jbig_in (jtb_4 _ (List.mem_of_getElem? (i := 95) rfl)) rfl
theorem wd920 : Cond.codeWith yL_pass cL_pass 4 (some .int) [(0, 9, 12, 13)] ∈ jbig := jbig_in (jtb_4 _ (List.mem_of_getElem? (i := 97) rfl)) rfl
theorem wd919 : Cond.static yL_pass ∈ jbig := jbig_in (jtb_4 _ (List.mem_of_getElem? (i := 96) rfl)) rfl
theorem wd1506 : Cond.methodLink RL 162 yX6_pass ∈ jbig := jbig_in (jtb_6 _ (List.mem_of_getElem? (i := 203) rfl)) rfl
theorem wd1509 : Cond.code yX6_pass cX6_pass 2 (some .int) ∈ jbig := jbig_in (jtb_6 _ (List.mem_of_getElem? (i := 206) rfl)) rfl
theorem wd1507 : Cond.instanceMethod yX6_pass ∈ jbig := jbig_in (jtb_6 _ (List.mem_of_getElem? (i := 204) rfl)) rfl
theorem wd1508 : Cond.selects yX6_pass.cls yX6_pass yX6_pass ∈ jbig := jbig_in (jtb_6 _ (List.mem_of_getElem? (i := 205) rfl)) rfl
theorem wd928 : Cond.methodLink RL 163 yL_morning ∈ jbig := jbig_in (jtb_4 _ (List.mem_of_getElem? (i := 105) rfl)) rfl
theorem wd930 : Cond.codeWith yL_morning cL_morning 3 (some .int) [(0, 8, 11, 38)] ∈ jbig := jbig_in (jtb_4 _ (List.mem_of_getElem? (i := 107) rfl)) rfl
theorem wd929 : Cond.static yL_morning ∈ jbig := jbig_in (jtb_4 _ (List.mem_of_getElem? (i := 106) rfl)) rfl
theorem wd1511 : Cond.methodLink RL 166 yX6_morning ∈ jbig := jbig_in (jtb_6 _ (List.mem_of_getElem? (i := 208) rfl)) rfl
theorem wd1514 : Cond.code yX6_morning cX6_morning 2 (some .int) ∈ jbig := jbig_in (jtb_6 _ (List.mem_of_getElem? (i := 211) rfl)) rfl
theorem wd1512 : Cond.instanceMethod yX6_morning ∈ jbig := jbig_in (jtb_6 _ (List.mem_of_getElem? (i := 209) rfl)) rfl
theorem wd1513 : Cond.selects yX6_morning.cls yX6_morning yX6_morning ∈ jbig := jbig_in (jtb_6 _ (List.mem_of_getElem? (i := 210) rfl)) rfl
theorem wd380 : Cond.methodLink RL 167 yX5_sell ∈ jbig := jbig_in (jtb_2 _ (List.mem_of_getElem? (i := 37) rfl)) rfl
theorem wd383 : Cond.code yX5_sell cX5_sell 5 (some .int) ∈ jbig := jbig_in (jtb_2 _ (List.mem_of_getElem? (i := 40) rfl)) rfl
theorem wd381 : Cond.instanceMethod yX5_sell ∈ jbig := jbig_in (jtb_2 _ (List.mem_of_getElem? (i := 38) rfl)) rfl
theorem wd382 : Cond.selects yX5_sell.cls yX5_sell yX5_sell ∈ jbig := jbig_in (jtb_2 _ (List.mem_of_getElem? (i := 39) rfl)) rfl
theorem wd1527 : Cond.methodLink RL 170 yX6_sell ∈ jbig := jbig_in (jtb_6 _ (List.mem_of_getElem? (i := 224) rfl)) rfl
theorem wd1530 : Cond.code yX6_sell cX6_sell 5 (some .int) ∈ jbig := jbig_in (jtb_6 _ (List.mem_of_getElem? (i := 227) rfl)) rfl
theorem wd1528 : Cond.instanceMethod yX6_sell ∈ jbig := jbig_in (jtb_6 _ (List.mem_of_getElem? (i := 225) rfl)) rfl
theorem wd1529 : Cond.selects yX6_sell.cls yX6_sell yX6_sell ∈ jbig := jbig_in (jtb_6 _ (List.mem_of_getElem? (i := 226) rfl)) rfl
theorem wd952 : Cond.methodLink RL 171 yL_deed ∈ jbig := jbig_in (jtb_4 _ (List.mem_of_getElem? (i := 129) rfl)) rfl
theorem wd954 : Cond.codeWith yL_deed cL_deed 5 (some .int) [(0, 10, 13, 19), (0, 10, 17, 13)] ∈ jbig := jbig_in (jtb_4 _ (List.mem_of_getElem? (i := 131) rfl)) rfl
theorem wd953 : Cond.static yL_deed ∈ jbig := jbig_in (jtb_4 _ (List.mem_of_getElem? (i := 130) rfl)) rfl
theorem wd1540 : Cond.methodLink RL 173 yX6_deed ∈ jbig := jbig_in (jtb_6 _ (List.mem_of_getElem? (i := 237) rfl)) rfl
theorem wd1543 : Cond.code yX6_deed cX6_deed 3 (some .int) ∈ jbig := jbig_in (jtb_7 _ (List.mem_of_getElem? (i := 0) rfl)) rfl
theorem wd1541 : Cond.instanceMethod yX6_deed ∈ jbig := jbig_in (jtb_6 _ (List.mem_of_getElem? (i := 238) rfl)) rfl
theorem wd1542 : Cond.selects yX6_deed.cls yX6_deed yX6_deed ∈ jbig := jbig_in (jtb_6 _ (List.mem_of_getElem? (i := 239) rfl)) rfl
theorem wd967 : Cond.methodLink RL 174 yL_may ∈ jbig := jbig_in (jtb_4 _ (List.mem_of_getElem? (i := 144) rfl)) rfl
theorem wd969 : Cond.codeWith yL_may cL_may 5 (some .int) [(0, 10, 13, 19)] ∈ jbig := jbig_in (jtb_4 _ (List.mem_of_getElem? (i := 146) rfl)) rfl
theorem wd968 : Cond.static yL_may ∈ jbig := jbig_in (jtb_4 _ (List.mem_of_getElem? (i := 145) rfl)) rfl
theorem wd1554 : Cond.methodLink RL 176 yX6_may ∈ jbig := jbig_in (jtb_7 _ (List.mem_of_getElem? (i := 11) rfl)) rfl
theorem wd1557 : Cond.code yX6_may cX6_may 3 (some .int) ∈ jbig := jbig_in (jtb_7 _ (List.mem_of_getElem? (i := 14) rfl)) rfl
theorem wd1555 : Cond.instanceMethod yX6_may ∈ jbig := jbig_in (jtb_7 _ (List.mem_of_getElem? (i := 12) rfl)) rfl
theorem wd1556 : Cond.selects yX6_may.cls yX6_may yX6_may ∈ jbig := jbig_in (jtb_7 _ (List.mem_of_getElem? (i := 13) rfl)) rfl
theorem wd975 : Cond.methodLink RL 177 yL_undo ∈ jbig := jbig_in (jtb_4 _ (List.mem_of_getElem? (i := 152) rfl)) rfl
theorem wd977 : Cond.codeWith yL_undo cL_undo 5 (some .int) [(0, 10, 13, 19)] ∈ jbig := jbig_in (jtb_4 _ (List.mem_of_getElem? (i := 154) rfl)) rfl
theorem wd976 : Cond.static yL_undo ∈ jbig := jbig_in (jtb_4 _ (List.mem_of_getElem? (i := 153) rfl)) rfl
theorem wd1578 : Cond.methodLink RL 179 yX6_undo ∈ jbig := jbig_in (jtb_7 _ (List.mem_of_getElem? (i := 35) rfl)) rfl
theorem wd1581 : Cond.code yX6_undo cX6_undo 4 (some .int) ∈ jbig := jbig_in (jtb_7 _ (List.mem_of_getElem? (i := 38) rfl)) rfl
theorem wd1579 : Cond.instanceMethod yX6_undo ∈ jbig := jbig_in (jtb_7 _ (List.mem_of_getElem? (i := 36) rfl)) rfl
theorem wd1580 : Cond.selects yX6_undo.cls yX6_undo yX6_undo ∈ jbig := jbig_in (jtb_7 _ (List.mem_of_getElem? (i := 37) rfl)) rfl
theorem wd982 : Cond.methodLink RL 180 yL_falls ∈ jbig := jbig_in (jtb_4 _ (List.mem_of_getElem? (i := 159) rfl)) rfl
theorem wd984 : Cond.codeWith yL_falls cL_falls 4 (some .int) [(0, 9, 12, 19)] ∈ jbig := jbig_in (jtb_4 _ (List.mem_of_getElem? (i := 161) rfl)) rfl
theorem wd983 : Cond.static yL_falls ∈ jbig := jbig_in (jtb_4 _ (List.mem_of_getElem? (i := 160) rfl)) rfl
theorem wd1582 : Cond.methodLink RL 182 yX6_falls ∈ jbig := jbig_in (jtb_7 _ (List.mem_of_getElem? (i := 39) rfl)) rfl
theorem wd1585 : Cond.code yX6_falls cX6_falls 2 (some .int) ∈ jbig := jbig_in (jtb_7 _ (List.mem_of_getElem? (i := 42) rfl)) rfl
theorem wd1583 : Cond.instanceMethod yX6_falls ∈ jbig := jbig_in (jtb_7 _ (List.mem_of_getElem? (i := 40) rfl)) rfl
theorem wd1584 : Cond.selects yX6_falls.cls yX6_falls yX6_falls ∈ jbig := jbig_in (jtb_7 _ (List.mem_of_getElem? (i := 41) rfl)) rfl
theorem wd990 : Cond.methodLink RL 183 yL_owes ∈ jbig := jbig_in (jtb_4 _ (List.mem_of_getElem? (i := 167) rfl)) rfl
theorem wd992 : Cond.codeWith yL_owes cL_owes 6 (some .int) [(0, 12, 15, 19)] ∈ jbig := jbig_in (jtb_4 _ (List.mem_of_getElem? (i := 169) rfl)) rfl
theorem wd991 : Cond.static yL_owes ∈ jbig := jbig_in (jtb_4 _ (List.mem_of_getElem? (i := 168) rfl)) rfl
theorem wd1586 : Cond.methodLink RL 186 yX6_owes ∈ jbig := jbig_in (jtb_7 _ (List.mem_of_getElem? (i := 43) rfl)) rfl
theorem wd1589 : Cond.code yX6_owes cX6_owes 4 (some .int) ∈ jbig := jbig_in (jtb_7 _ (List.mem_of_getElem? (i := 46) rfl)) rfl
theorem wd1587 : Cond.instanceMethod yX6_owes ∈ jbig := jbig_in (jtb_7 _ (List.mem_of_getElem? (i := 44) rfl)) rfl
theorem wd1588 : Cond.selects yX6_owes.cls yX6_owes yX6_owes ∈ jbig := jbig_in (jtb_7 _ (List.mem_of_getElem? (i := 45) rfl)) rfl
theorem wd999 : Cond.methodLink RL 187 yL_chain ∈ jbig := jbig_in (jtb_4 _ (List.mem_of_getElem? (i := 176) rfl)) rfl
theorem wd1001 : Cond.codeWith yL_chain cL_chain 5 (some .int) [(0, 10, 13, 19)] ∈ jbig := jbig_in (jtb_4 _ (List.mem_of_getElem? (i := 178) rfl)) rfl
theorem wd1000 : Cond.static yL_chain ∈ jbig := jbig_in (jtb_4 _ (List.mem_of_getElem? (i := 177) rfl)) rfl
theorem wd1590 : Cond.methodLink RL 189 yX6_chain ∈ jbig := jbig_in (jtb_7 _ (List.mem_of_getElem? (i := 47) rfl)) rfl
theorem wd1593 : Cond.code yX6_chain cX6_chain 5 (some .int) ∈ jbig := jbig_in (jtb_7 _ (List.mem_of_getElem? (i := 50) rfl)) rfl
theorem wd1591 : Cond.instanceMethod yX6_chain ∈ jbig := jbig_in (jtb_7 _ (List.mem_of_getElem? (i := 48) rfl)) rfl
theorem wd1592 : Cond.selects yX6_chain.cls yX6_chain yX6_chain ∈ jbig := jbig_in (jtb_7 _ (List.mem_of_getElem? (i := 49) rfl)) rfl
theorem wd1006 : Cond.methodLink RL 190 yL_judge ∈ jbig := jbig_in (jtb_4 _ (List.mem_of_getElem? (i := 183) rfl)) rfl
theorem wd1008 : Cond.codeWith yL_judge cL_judge 5 (some .int) [(0, 10, 13, 19), (0, 10, 17, 38), (0, 10, 21, 13)] ∈ jbig := jbig_in (jtb_4 _ (List.mem_of_getElem? (i := 185) rfl)) rfl
theorem wd1007 : Cond.static yL_judge ∈ jbig := jbig_in (jtb_4 _ (List.mem_of_getElem? (i := 184) rfl)) rfl
theorem wd1594 : Cond.methodLink RL 192 yX6_judge ∈ jbig := jbig_in (jtb_7 _ (List.mem_of_getElem? (i := 51) rfl)) rfl
theorem wd1597 : Cond.code yX6_judge cX6_judge 6 (some .int) ∈ jbig := jbig_in (jtb_7 _ (List.mem_of_getElem? (i := 54) rfl)) rfl
theorem wd1595 : Cond.instanceMethod yX6_judge ∈ jbig := jbig_in (jtb_7 _ (List.mem_of_getElem? (i := 52) rfl)) rfl
theorem wd1596 : Cond.selects yX6_judge.cls yX6_judge yX6_judge ∈ jbig := jbig_in (jtb_7 _ (List.mem_of_getElem? (i := 53) rfl)) rfl
theorem wd1023 : Cond.methodLink RL 193 yL_perform ∈ jbig := jbig_in (jtb_4 _ (List.mem_of_getElem? (i := 200) rfl)) rfl
theorem wd1025 : Cond.codeWith yL_perform cL_perform 4 (some .int) [(0, 9, 12, 19), (0, 9, 15, 38)] ∈ jbig := jbig_in (jtb_4 _ (List.mem_of_getElem? (i := 202) rfl)) rfl
theorem wd1024 : Cond.static yL_perform ∈ jbig := jbig_in (jtb_4 _ (List.mem_of_getElem? (i := 201) rfl)) rfl
theorem wd1618 : Cond.methodLink RL 195 yX6_perform ∈ jbig := jbig_in (jtb_7 _ (List.mem_of_getElem? (i := 75) rfl)) rfl
theorem wd1621 : Cond.code yX6_perform cX6_perform 2 (some .int) ∈ jbig := jbig_in (jtb_7 _ (List.mem_of_getElem? (i := 78) rfl)) rfl
theorem wd1619 : Cond.instanceMethod yX6_perform ∈ jbig := jbig_in (jtb_7 _ (List.mem_of_getElem? (i := 76) rfl)) rfl
theorem wd1620 : Cond.selects yX6_perform.cls yX6_perform yX6_perform ∈ jbig := jbig_in (jtb_7 _ (List.mem_of_getElem? (i := 77) rfl)) rfl
theorem wd1030 : Cond.methodLink RL 196 yL_day ∈ jbig := jbig_in (jtb_4 _ (List.mem_of_getElem? (i := 207) rfl)) rfl
theorem wd1032 : Cond.codeWith yL_day cL_day 5 (some .int) [(0, 10, 13, 13)] ∈ jbig := jbig_in (jtb_4 _ (List.mem_of_getElem? (i := 209) rfl)) rfl
theorem wd1031 : Cond.static yL_day ∈ jbig := jbig_in (jtb_4 _ (List.mem_of_getElem? (i := 208) rfl)) rfl
theorem wd1622 : Cond.methodLink RL 198 yX6_day ∈ jbig := jbig_in (jtb_7 _ (List.mem_of_getElem? (i := 79) rfl)) rfl
theorem wd1625 : Cond.code yX6_day cX6_day 5 (some .int) ∈ jbig := jbig_in (jtb_7 _ (List.mem_of_getElem? (i := 82) rfl)) rfl
theorem wd1623 : Cond.instanceMethod yX6_day ∈ jbig := jbig_in (jtb_7 _ (List.mem_of_getElem? (i := 80) rfl)) rfl
theorem wd1624 : Cond.selects yX6_day.cls yX6_day yX6_day ∈ jbig := jbig_in (jtb_7 _ (List.mem_of_getElem? (i := 81) rfl)) rfl
theorem wd408 : Cond.methodLink RL 199 yX5_open ∈ jbig := jbig_in (jtb_2 _ (List.mem_of_getElem? (i := 65) rfl)) rfl
theorem wd411 : Cond.code yX5_open cX5_open 1 (some .int) ∈ jbig := jbig_in (jtb_2 _ (List.mem_of_getElem? (i := 68) rfl)) rfl
theorem wd409 : Cond.instanceMethod yX5_open ∈ jbig := jbig_in (jtb_2 _ (List.mem_of_getElem? (i := 66) rfl)) rfl
theorem wd410 : Cond.selects yX5_open.cls yX5_open yX5_open ∈ jbig := jbig_in (jtb_2 _ (List.mem_of_getElem? (i := 67) rfl)) rfl
theorem wd1636 : Cond.methodLink RL 202 yX6_open ∈ jbig := jbig_in (jtb_7 _ (List.mem_of_getElem? (i := 93) rfl)) rfl
theorem wd1639 : Cond.code yX6_open cX6_open 1 (some .int) ∈ jbig := jbig_in (jtb_7 _ (List.mem_of_getElem? (i := 96) rfl)) rfl
theorem wd1637 : Cond.instanceMethod yX6_open ∈ jbig := jbig_in (jtb_7 _ (List.mem_of_getElem? (i := 94) rfl)) rfl
theorem wd1638 : Cond.selects yX6_open.cls yX6_open yX6_open ∈ jbig := jbig_in (jtb_7 _ (List.mem_of_getElem? (i := 95) rfl)) rfl
theorem wd1069 : Cond.methodLink RL 203 yL_gain ∈ jbig := jbig_in (jtb_5 _ (List.mem_of_getElem? (i := 6) rfl)) rfl
theorem wd1071 : Cond.codeWith yL_gain cL_gain 5 (some .int) [(0, 10, 13, 19)] ∈ jbig := jbig_in (jtb_5 _ (List.mem_of_getElem? (i := 8) rfl)) rfl
theorem wd1070 : Cond.static yL_gain ∈ jbig := jbig_in (jtb_5 _ (List.mem_of_getElem? (i := 7) rfl)) rfl
theorem wd1648 : Cond.methodLink RL 205 yX6_gain ∈ jbig := jbig_in (jtb_7 _ (List.mem_of_getElem? (i := 105) rfl)) rfl
theorem wd1651 : Cond.code yX6_gain cX6_gain 3 (some .int) ∈ jbig := jbig_in (jtb_7 _ (List.mem_of_getElem? (i := 108) rfl)) rfl
theorem wd1649 : Cond.instanceMethod yX6_gain ∈ jbig := jbig_in (jtb_7 _ (List.mem_of_getElem? (i := 106) rfl)) rfl
theorem wd1650 : Cond.selects yX6_gain.cls yX6_gain yX6_gain ∈ jbig := jbig_in (jtb_7 _ (List.mem_of_getElem? (i := 107) rfl)) rfl
theorem wd424 : Cond.methodLink RL 206 yX5_safe ∈ jbig := jbig_in (jtb_2 _ (List.mem_of_getElem? (i := 81) rfl)) rfl
theorem wd427 : Cond.code yX5_safe cX5_safe 3 (some .int) ∈ jbig := jbig_in (jtb_2 _ (List.mem_of_getElem? (i := 84) rfl)) rfl
theorem wd425 : Cond.instanceMethod yX5_safe ∈ jbig := jbig_in (jtb_2 _ (List.mem_of_getElem? (i := 82) rfl)) rfl
theorem wd426 : Cond.selects yX5_safe.cls yX5_safe yX5_safe ∈ jbig := jbig_in (jtb_2 _ (List.mem_of_getElem? (i := 83) rfl)) rfl
theorem wd1656 : Cond.methodLink RL 209 yX6_safe ∈ jbig := jbig_in (jtb_7 _ (List.mem_of_getElem? (i := 113) rfl)) rfl
theorem wd1659 : Cond.code yX6_safe cX6_safe 3 (some .int) ∈ jbig := jbig_in (jtb_7 _ (List.mem_of_getElem? (i := 116) rfl)) rfl
theorem wd1657 : Cond.instanceMethod yX6_safe ∈ jbig := jbig_in (jtb_7 _ (List.mem_of_getElem? (i := 114) rfl)) rfl
theorem wd1658 : Cond.selects yX6_safe.cls yX6_safe yX6_safe ∈ jbig := jbig_in (jtb_7 _ (List.mem_of_getElem? (i := 115) rfl)) rfl
theorem wd1076 : Cond.methodLink RL 210 yL_pledge ∈ jbig := jbig_in (jtb_5 _ (List.mem_of_getElem? (i := 13) rfl)) rfl
theorem wd1078 : Cond.codeWith yL_pledge cL_pledge 4 (some .int) [(0, 9, 12, 19)] ∈ jbig := jbig_in (jtb_5 _ (List.mem_of_getElem? (i := 15) rfl)) rfl
theorem wd1077 : Cond.static yL_pledge ∈ jbig := jbig_in (jtb_5 _ (List.mem_of_getElem? (i := 14) rfl)) rfl
theorem wd1664 : Cond.methodLink RL 212 yX6_pledge ∈ jbig := jbig_in (jtb_7 _ (List.mem_of_getElem? (i := 121) rfl)) rfl
theorem wd1667 : Cond.code yX6_pledge cX6_pledge 2 (some .int) ∈ jbig := jbig_in (jtb_7 _ (List.mem_of_getElem? (i := 124) rfl)) rfl
theorem wd1665 : Cond.instanceMethod yX6_pledge ∈ jbig := jbig_in (jtb_7 _ (List.mem_of_getElem? (i := 122) rfl)) rfl
theorem wd1666 : Cond.selects yX6_pledge.cls yX6_pledge yX6_pledge ∈ jbig := jbig_in (jtb_7 _ (List.mem_of_getElem? (i := 123) rfl)) rfl
theorem wd464 : Cond.methodLink RL 213 yX5_tempted ∈ jbig := jbig_in (jtb_2 _ (List.mem_of_getElem? (i := 121) rfl)) rfl
theorem wd467 : Cond.code yX5_tempted cX5_tempted 3 (some .int) ∈ jbig := jbig_in (jtb_2 _ (List.mem_of_getElem? (i := 124) rfl)) rfl
theorem wd465 : Cond.instanceMethod yX5_tempted ∈ jbig := jbig_in (jtb_2 _ (List.mem_of_getElem? (i := 122) rfl)) rfl
theorem wd466 : Cond.selects yX5_tempted.cls yX5_tempted yX5_tempted ∈ jbig := jbig_in (jtb_2 _ (List.mem_of_getElem? (i := 123) rfl)) rfl
theorem wd1668 : Cond.methodLink RL 216 yX6_tempted ∈ jbig := jbig_in (jtb_7 _ (List.mem_of_getElem? (i := 125) rfl)) rfl
theorem wd1671 : Cond.code yX6_tempted cX6_tempted 4 (some .int) ∈ jbig := jbig_in (jtb_7 _ (List.mem_of_getElem? (i := 128) rfl)) rfl
theorem wd1669 : Cond.instanceMethod yX6_tempted ∈ jbig := jbig_in (jtb_7 _ (List.mem_of_getElem? (i := 126) rfl)) rfl
theorem wd1670 : Cond.selects yX6_tempted.cls yX6_tempted yX6_tempted ∈ jbig := jbig_in (jtb_7 _ (List.mem_of_getElem? (i := 127) rfl)) rfl
theorem wd473 : Cond.methodLink RL 217 yX5_unravel ∈ jbig := jbig_in (jtb_2 _ (List.mem_of_getElem? (i := 130) rfl)) rfl
theorem wd476 : Cond.code yX5_unravel cX5_unravel 5 (some .int) ∈ jbig := jbig_in (jtb_2 _ (List.mem_of_getElem? (i := 133) rfl)) rfl
theorem wd474 : Cond.instanceMethod yX5_unravel ∈ jbig := jbig_in (jtb_2 _ (List.mem_of_getElem? (i := 131) rfl)) rfl
theorem wd475 : Cond.selects yX5_unravel.cls yX5_unravel yX5_unravel ∈ jbig := jbig_in (jtb_2 _ (List.mem_of_getElem? (i := 132) rfl)) rfl
theorem wd1676 : Cond.methodLink RL 220 yX6_unravel ∈ jbig := jbig_in (jtb_7 _ (List.mem_of_getElem? (i := 133) rfl)) rfl
theorem wd1679 : Cond.code yX6_unravel cX6_unravel 8 (some .int) ∈ jbig := jbig_in (jtb_7 _ (List.mem_of_getElem? (i := 136) rfl)) rfl
theorem wd1677 : Cond.instanceMethod yX6_unravel ∈ jbig := jbig_in (jtb_7 _ (List.mem_of_getElem? (i := 134) rfl)) rfl
theorem wd1678 : Cond.selects yX6_unravel.cls yX6_unravel yX6_unravel ∈ jbig := jbig_in (jtb_7 _ (List.mem_of_getElem? (i := 135) rfl)) rfl
theorem wd1084 : Cond.methodLink RL 221 yL_debt ∈ jbig := jbig_in (jtb_5 _ (List.mem_of_getElem? (i := 21) rfl)) rfl
theorem wd1086 : Cond.codeWith yL_debt cL_debt 5 (some .int) [(0, 10, 13, 19), (0, 10, 17, 13)] ∈ jbig := jbig_in (jtb_5 _ (List.mem_of_getElem? (i := 23) rfl)) rfl
theorem wd1085 : Cond.static yL_debt ∈ jbig := jbig_in (jtb_5 _ (List.mem_of_getElem? (i := 22) rfl)) rfl
theorem wd1680 : Cond.methodLink RL 223 yX6_debt ∈ jbig := jbig_in (jtb_7 _ (List.mem_of_getElem? (i := 137) rfl)) rfl
theorem wd1683 : Cond.code yX6_debt cX6_debt 8 (some .int) ∈ jbig := jbig_in (jtb_7 _ (List.mem_of_getElem? (i := 140) rfl)) rfl
theorem wd1681 : Cond.instanceMethod yX6_debt ∈ jbig := jbig_in (jtb_7 _ (List.mem_of_getElem? (i := 138) rfl)) rfl
theorem wd1682 : Cond.selects yX6_debt.cls yX6_debt yX6_debt ∈ jbig := jbig_in (jtb_7 _ (List.mem_of_getElem? (i := 139) rfl)) rfl
theorem wd1092 : Cond.methodLink RL 224 yL_safePrice ∈ jbig := jbig_in (jtb_5 _ (List.mem_of_getElem? (i := 29) rfl)) rfl
theorem wd1094 : Cond.codeWith yL_safePrice cL_safePrice 6 (some .int) [(0, 12, 15, 19), (0, 12, 19, 38), (0, 12, 23, 13)] ∈ jbig := jbig_in (jtb_5 _ (List.mem_of_getElem? (i := 31) rfl)) rfl
theorem wd1093 : Cond.static yL_safePrice ∈ jbig := jbig_in (jtb_5 _ (List.mem_of_getElem? (i := 30) rfl)) rfl
theorem wd1684 : Cond.methodLink RL 226 yX6_safePrice ∈ jbig := jbig_in (jtb_7 _ (List.mem_of_getElem? (i := 141) rfl)) rfl
theorem wd1687 : Cond.code yX6_safePrice cX6_safePrice 7 (some .int) ∈ jbig := jbig_in (jtb_7 _ (List.mem_of_getElem? (i := 144) rfl)) rfl
theorem wd1685 : Cond.instanceMethod yX6_safePrice ∈ jbig := jbig_in (jtb_7 _ (List.mem_of_getElem? (i := 142) rfl)) rfl
theorem wd1686 : Cond.selects yX6_safePrice.cls yX6_safePrice yX6_safePrice ∈ jbig := jbig_in (jtb_7 _ (List.mem_of_getElem? (i := 143) rfl)) rfl
theorem wd524 : Cond.methodLink RL 227 yX5_longest ∈ jbig := jbig_in (jtb_2 _ (List.mem_of_getElem? (i := 181) rfl)) rfl
theorem wd527 : Cond.code yX5_longest cX5_longest 5 (some .int) ∈ jbig := jbig_in (jtb_2 _ (List.mem_of_getElem? (i := 184) rfl)) rfl
theorem wd525 : Cond.instanceMethod yX5_longest ∈ jbig := jbig_in (jtb_2 _ (List.mem_of_getElem? (i := 182) rfl)) rfl
theorem wd526 : Cond.selects yX5_longest.cls yX5_longest yX5_longest ∈ jbig := jbig_in (jtb_2 _ (List.mem_of_getElem? (i := 183) rfl)) rfl
theorem wd1692 : Cond.methodLink RL 230 yX6_longest ∈ jbig := jbig_in (jtb_7 _ (List.mem_of_getElem? (i := 149) rfl)) rfl
theorem wd1695 : Cond.code yX6_longest cX6_longest 6 (some .int) ∈ jbig := jbig_in (jtb_7 _ (List.mem_of_getElem? (i := 152) rfl)) rfl
theorem wd1693 : Cond.instanceMethod yX6_longest ∈ jbig := jbig_in (jtb_7 _ (List.mem_of_getElem? (i := 150) rfl)) rfl
theorem wd1694 : Cond.selects yX6_longest.cls yX6_longest yX6_longest ∈ jbig := jbig_in (jtb_7 _ (List.mem_of_getElem? (i := 151) rfl)) rfl
theorem wd1103 : Cond.methodLink RL 231 yL_bidder ∈ jbig := jbig_in (jtb_5 _ (List.mem_of_getElem? (i := 40) rfl)) rfl
theorem wd1105 : Cond.codeWith yL_bidder cL_bidder 4 (some .int) [(0, 9, 12, 19)] ∈ jbig := jbig_in (jtb_5 _ (List.mem_of_getElem? (i := 42) rfl)) rfl
theorem wd1104 : Cond.static yL_bidder ∈ jbig := jbig_in (jtb_5 _ (List.mem_of_getElem? (i := 41) rfl)) rfl
theorem wd1696 : Cond.methodLink RL 233 yX6_bidder ∈ jbig := jbig_in (jtb_7 _ (List.mem_of_getElem? (i := 153) rfl)) rfl
theorem wd1699 : Cond.code yX6_bidder cX6_bidder 4 (some .int) ∈ jbig := jbig_in (jtb_7 _ (List.mem_of_getElem? (i := 156) rfl)) rfl
theorem wd1697 : Cond.instanceMethod yX6_bidder ∈ jbig := jbig_in (jtb_7 _ (List.mem_of_getElem? (i := 154) rfl)) rfl
theorem wd1698 : Cond.selects yX6_bidder.cls yX6_bidder yX6_bidder ∈ jbig := jbig_in (jtb_7 _ (List.mem_of_getElem? (i := 155) rfl)) rfl
theorem wd1110 : Cond.methodLink RL 234 yL_keeper ∈ jbig := jbig_in (jtb_5 _ (List.mem_of_getElem? (i := 47) rfl)) rfl
theorem wd1112 : Cond.codeWith yL_keeper cL_keeper 5 (some .int) [(0, 10, 13, 19), (0, 10, 17, 13)] ∈ jbig := jbig_in (jtb_5 _ (List.mem_of_getElem? (i := 49) rfl)) rfl
theorem wd1111 : Cond.static yL_keeper ∈ jbig := jbig_in (jtb_5 _ (List.mem_of_getElem? (i := 48) rfl)) rfl
theorem wd1755 : Cond.methodLink RL 236 yX6_keeper ∈ jbig := jbig_in (jtb_7 _ (List.mem_of_getElem? (i := 212) rfl)) rfl
theorem wd1758 : Cond.code yX6_keeper cX6_keeper 6 (some .int) ∈ jbig := jbig_in (jtb_7 _ (List.mem_of_getElem? (i := 215) rfl)) rfl
theorem wd1756 : Cond.instanceMethod yX6_keeper ∈ jbig := jbig_in (jtb_7 _ (List.mem_of_getElem? (i := 213) rfl)) rfl
theorem wd1757 : Cond.selects yX6_keeper.cls yX6_keeper yX6_keeper ∈ jbig := jbig_in (jtb_7 _ (List.mem_of_getElem? (i := 214) rfl)) rfl
theorem wd1120 : Cond.methodLink RL 237 yL_endFrom ∈ jbig := jbig_in (jtb_5 _ (List.mem_of_getElem? (i := 57) rfl)) rfl
theorem wd1122 : Cond.codeWith yL_endFrom cL_endFrom 4 (some .int) [(0, 9, 12, 19)] ∈ jbig := jbig_in (jtb_5 _ (List.mem_of_getElem? (i := 59) rfl)) rfl
theorem wd1121 : Cond.static yL_endFrom ∈ jbig := jbig_in (jtb_5 _ (List.mem_of_getElem? (i := 58) rfl)) rfl
theorem wd1759 : Cond.methodLink RL 239 yX6_endFrom ∈ jbig := jbig_in (jtb_7 _ (List.mem_of_getElem? (i := 216) rfl)) rfl
theorem wd1762 : Cond.code yX6_endFrom cX6_endFrom 2 (some .int) ∈ jbig := jbig_in (jtb_7 _ (List.mem_of_getElem? (i := 219) rfl)) rfl
theorem wd1760 : Cond.instanceMethod yX6_endFrom ∈ jbig := jbig_in (jtb_7 _ (List.mem_of_getElem? (i := 217) rfl)) rfl
theorem wd1761 : Cond.selects yX6_endFrom.cls yX6_endFrom yX6_endFrom ∈ jbig := jbig_in (jtb_7 _ (List.mem_of_getElem? (i := 218) rfl)) rfl
theorem wd1131 : Cond.methodLink RL 240 yL_end ∈ jbig := jbig_in (jtb_5 _ (List.mem_of_getElem? (i := 68) rfl)) rfl
theorem wd1133 : Cond.codeWith yL_end cL_end 5 (some .int) [(0, 10, 13, 13)] ∈ jbig := jbig_in (jtb_5 _ (List.mem_of_getElem? (i := 70) rfl)) rfl
theorem wd1132 : Cond.static yL_end ∈ jbig := jbig_in (jtb_5 _ (List.mem_of_getElem? (i := 69) rfl)) rfl
theorem wd1700 : Cond.methodLink RL 242 yX6_end ∈ jbig := jbig_in (jtb_7 _ (List.mem_of_getElem? (i := 157) rfl)) rfl
theorem wd1703 : Cond.code yX6_end cX6_end 6 (some .int) ∈ jbig := jbig_in (jtb_7 _ (List.mem_of_getElem? (i := 160) rfl)) rfl
theorem wd1701 : Cond.instanceMethod yX6_end ∈ jbig := jbig_in (jtb_7 _ (List.mem_of_getElem? (i := 158) rfl)) rfl
theorem wd1702 : Cond.selects yX6_end.cls yX6_end yX6_end ∈ jbig := jbig_in (jtb_7 _ (List.mem_of_getElem? (i := 159) rfl)) rfl
theorem wd1150 : Cond.methodLink RL 243 yL_ringer ∈ jbig := jbig_in (jtb_5 _ (List.mem_of_getElem? (i := 87) rfl)) rfl
theorem wd1152 : Cond.codeWith yL_ringer cL_ringer 4 (some .int) [(0, 9, 12, 19)] ∈ jbig := jbig_in (jtb_5 _ (List.mem_of_getElem? (i := 89) rfl)) rfl
theorem wd1151 : Cond.static yL_ringer ∈ jbig := jbig_in (jtb_5 _ (List.mem_of_getElem? (i := 88) rfl)) rfl
theorem wd1751 : Cond.methodLink RL 245 yX6_ringer ∈ jbig := jbig_in (jtb_7 _ (List.mem_of_getElem? (i := 208) rfl)) rfl
theorem wd1754 : Cond.code yX6_ringer cX6_ringer 2 (some .int) ∈ jbig := jbig_in (jtb_7 _ (List.mem_of_getElem? (i := 211) rfl)) rfl
theorem wd1752 : Cond.instanceMethod yX6_ringer ∈ jbig := jbig_in (jtb_7 _ (List.mem_of_getElem? (i := 209) rfl)) rfl
theorem wd1753 : Cond.selects yX6_ringer.cls yX6_ringer yX6_ringer ∈ jbig := jbig_in (jtb_7 _ (List.mem_of_getElem? (i := 210) rfl)) rfl
theorem wd1157 : Cond.methodLink RL 246 yL_news ∈ jbig := jbig_in (jtb_5 _ (List.mem_of_getElem? (i := 94) rfl)) rfl
theorem wd1159 : Cond.codeWith yL_news cL_news 6 (some .int) [(0, 12, 15, 19), (0, 12, 19, 13)] ∈ jbig := jbig_in (jtb_5 _ (List.mem_of_getElem? (i := 96) rfl)) rfl
theorem wd1158 : Cond.static yL_news ∈ jbig := jbig_in (jtb_5 _ (List.mem_of_getElem? (i := 95) rfl)) rfl
theorem wd1763 : Cond.methodLink RL 248 yX6_news ∈ jbig := jbig_in (jtb_7 _ (List.mem_of_getElem? (i := 220) rfl)) rfl
theorem wd1766 : Cond.code yX6_news cX6_news 6 (some .int) ∈ jbig := jbig_in (jtb_7 _ (List.mem_of_getElem? (i := 223) rfl)) rfl
theorem wd1764 : Cond.instanceMethod yX6_news ∈ jbig := jbig_in (jtb_7 _ (List.mem_of_getElem? (i := 221) rfl)) rfl
theorem wd1765 : Cond.selects yX6_news.cls yX6_news yX6_news ∈ jbig := jbig_in (jtb_7 _ (List.mem_of_getElem? (i := 222) rfl)) rfl
theorem wd532 : Cond.methodLink RL 249 yX5_bestShare ∈ jbig := jbig_in (jtb_2 _ (List.mem_of_getElem? (i := 189) rfl)) rfl
theorem wd535 : Cond.code yX5_bestShare cX5_bestShare 6 (some .int) ∈ jbig := jbig_in (jtb_2 _ (List.mem_of_getElem? (i := 192) rfl)) rfl
theorem wd533 : Cond.instanceMethod yX5_bestShare ∈ jbig := jbig_in (jtb_2 _ (List.mem_of_getElem? (i := 190) rfl)) rfl
theorem wd534 : Cond.selects yX5_bestShare.cls yX5_bestShare yX5_bestShare ∈ jbig := jbig_in (jtb_2 _ (List.mem_of_getElem? (i := 191) rfl)) rfl
theorem wd1767 : Cond.methodLink RL 252 yX6_bestShare ∈ jbig := jbig_in (jtb_7 _ (List.mem_of_getElem? (i := 224) rfl)) rfl
theorem wd1770 : Cond.code yX6_bestShare cX6_bestShare 5 (some .int) ∈ jbig := jbig_in (jtb_7 _ (List.mem_of_getElem? (i := 227) rfl)) rfl
theorem wd1768 : Cond.instanceMethod yX6_bestShare ∈ jbig := jbig_in (jtb_7 _ (List.mem_of_getElem? (i := 225) rfl)) rfl
theorem wd1769 : Cond.selects yX6_bestShare.cls yX6_bestShare yX6_bestShare ∈ jbig := jbig_in (jtb_7 _ (List.mem_of_getElem? (i := 226) rfl)) rfl
theorem wd1165 : Cond.methodLink RL 253 yL_share ∈ jbig := jbig_in (jtb_5 _ (List.mem_of_getElem? (i := 102) rfl)) rfl
theorem wd1167 : Cond.codeWith yL_share cL_share 4 (some .int) [(0, 9, 12, 13)] ∈ jbig := jbig_in (jtb_5 _ (List.mem_of_getElem? (i := 104) rfl)) rfl
theorem wd1166 : Cond.static yL_share ∈ jbig := jbig_in (jtb_5 _ (List.mem_of_getElem? (i := 103) rfl)) rfl
theorem wd1774 : Cond.methodLink RL 255 yX6_share ∈ jbig := jbig_in (jtb_7 _ (List.mem_of_getElem? (i := 231) rfl)) rfl
theorem wd1777 : Cond.code yX6_share cX6_share 3 (some .int) ∈ jbig := jbig_in (jtb_7 _ (List.mem_of_getElem? (i := 234) rfl)) rfl
theorem wd1775 : Cond.instanceMethod yX6_share ∈ jbig := jbig_in (jtb_7 _ (List.mem_of_getElem? (i := 232) rfl)) rfl
theorem wd1776 : Cond.selects yX6_share.cls yX6_share yX6_share ∈ jbig := jbig_in (jtb_7 _ (List.mem_of_getElem? (i := 233) rfl)) rfl
theorem wd1172 : Cond.methodLink RL 256 yL_hope ∈ jbig := jbig_in (jtb_5 _ (List.mem_of_getElem? (i := 109) rfl)) rfl
theorem wd1174 : Cond.codeWith yL_hope cL_hope 7 (some .int) [(0, 14, 17, 19), (0, 14, 21, 38), (0, 14, 25, 13)] ∈ jbig := jbig_in (jtb_5 _ (List.mem_of_getElem? (i := 111) rfl)) rfl
theorem wd1173 : Cond.static yL_hope ∈ jbig := jbig_in (jtb_5 _ (List.mem_of_getElem? (i := 110) rfl)) rfl
theorem wd1778 : Cond.methodLink RL 259 yX6_hope ∈ jbig := jbig_in (jtb_7 _ (List.mem_of_getElem? (i := 235) rfl)) rfl
theorem wd1781 : Cond.code yX6_hope cX6_hope 21 (some .int) ∈ jbig := jbig_in (jtb_7 _ (List.mem_of_getElem? (i := 238) rfl)) rfl
theorem wd1779 : Cond.instanceMethod yX6_hope ∈ jbig := jbig_in (jtb_7 _ (List.mem_of_getElem? (i := 236) rfl)) rfl
theorem wd1780 : Cond.selects yX6_hope.cls yX6_hope yX6_hope ∈ jbig := jbig_in (jtb_7 _ (List.mem_of_getElem? (i := 237) rfl)) rfl
theorem wd612 : Cond.methodLink RL 260 yX5_swaps ∈ jbig := jbig_in (jtb_3 _ (List.mem_of_getElem? (i := 29) rfl)) rfl
theorem wd615 : Cond.code yX5_swaps cX5_swaps 5 (some .int) ∈ jbig := jbig_in (jtb_3 _ (List.mem_of_getElem? (i := 32) rfl)) rfl
theorem wd613 : Cond.instanceMethod yX5_swaps ∈ jbig := jbig_in (jtb_3 _ (List.mem_of_getElem? (i := 30) rfl)) rfl
theorem wd614 : Cond.selects yX5_swaps.cls yX5_swaps yX5_swaps ∈ jbig := jbig_in (jtb_3 _ (List.mem_of_getElem? (i := 31) rfl)) rfl
theorem wd1783 : Cond.methodLink RL 263 yX6_swaps ∈ jbig := jbig_in (jtb_8 _ (List.mem_of_getElem? (i := 0) rfl)) rfl
theorem wd1786 : Cond.code yX6_swaps cX6_swaps 5 (some .int) ∈ jbig := jbig_in (jtb_8 _ (List.mem_of_getElem? (i := 3) rfl)) rfl
theorem wd1784 : Cond.instanceMethod yX6_swaps ∈ jbig := jbig_in (jtb_8 _ (List.mem_of_getElem? (i := 1) rfl)) rfl
theorem wd1785 : Cond.selects yX6_swaps.cls yX6_swaps yX6_swaps ∈ jbig := jbig_in (jtb_8 _ (List.mem_of_getElem? (i := 2) rfl)) rfl
theorem wd620 : Cond.methodLink RL 264 yX5_threes ∈ jbig := jbig_in (jtb_3 _ (List.mem_of_getElem? (i := 37) rfl)) rfl
theorem wd623 : Cond.code yX5_threes cX5_threes 6 (some .int) ∈ jbig := jbig_in (jtb_3 _ (List.mem_of_getElem? (i := 40) rfl)) rfl
theorem wd621 : Cond.instanceMethod yX5_threes ∈ jbig := jbig_in (jtb_3 _ (List.mem_of_getElem? (i := 38) rfl)) rfl
theorem wd622 : Cond.selects yX5_threes.cls yX5_threes yX5_threes ∈ jbig := jbig_in (jtb_3 _ (List.mem_of_getElem? (i := 39) rfl)) rfl
theorem wd1795 : Cond.methodLink RL 267 yX6_threes ∈ jbig := jbig_in (jtb_8 _ (List.mem_of_getElem? (i := 12) rfl)) rfl
theorem wd1798 : Cond.code yX6_threes cX6_threes 6 (some .int) ∈ jbig := jbig_in (jtb_8 _ (List.mem_of_getElem? (i := 15) rfl)) rfl
theorem wd1796 : Cond.instanceMethod yX6_threes ∈ jbig := jbig_in (jtb_8 _ (List.mem_of_getElem? (i := 13) rfl)) rfl
theorem wd1797 : Cond.selects yX6_threes.cls yX6_threes yX6_threes ∈ jbig := jbig_in (jtb_8 _ (List.mem_of_getElem? (i := 14) rfl)) rfl
theorem wd629 : Cond.methodLink RL 268 yX5_misplaced ∈ jbig := jbig_in (jtb_3 _ (List.mem_of_getElem? (i := 46) rfl)) rfl
theorem wd632 : Cond.code yX5_misplaced cX5_misplaced 5 (some .int) ∈ jbig := jbig_in (jtb_3 _ (List.mem_of_getElem? (i := 49) rfl)) rfl
theorem wd630 : Cond.instanceMethod yX5_misplaced ∈ jbig := jbig_in (jtb_3 _ (List.mem_of_getElem? (i := 47) rfl)) rfl
theorem wd631 : Cond.selects yX5_misplaced.cls yX5_misplaced yX5_misplaced ∈ jbig := jbig_in (jtb_3 _ (List.mem_of_getElem? (i := 48) rfl)) rfl
theorem wd1803 : Cond.methodLink RL 271 yX6_misplaced ∈ jbig := jbig_in (jtb_8 _ (List.mem_of_getElem? (i := 20) rfl)) rfl
theorem wd1806 : Cond.code yX6_misplaced cX6_misplaced 4 (some .int) ∈ jbig := jbig_in (jtb_8 _ (List.mem_of_getElem? (i := 23) rfl)) rfl
theorem wd1804 : Cond.instanceMethod yX6_misplaced ∈ jbig := jbig_in (jtb_8 _ (List.mem_of_getElem? (i := 21) rfl)) rfl
theorem wd1805 : Cond.selects yX6_misplaced.cls yX6_misplaced yX6_misplaced ∈ jbig := jbig_in (jtb_8 _ (List.mem_of_getElem? (i := 22) rfl)) rfl
theorem wd1199 : Cond.methodLink RL 272 yL_tray ∈ jbig := jbig_in (jtb_5 _ (List.mem_of_getElem? (i := 136) rfl)) rfl
theorem wd1201 : Cond.codeWith yL_tray cL_tray 5 (some .int) [(0, 7, 10, 19), (0, 7, 14, 13)] ∈ jbig := jbig_in (jtb_5 _ (List.mem_of_getElem? (i := 138) rfl)) rfl
theorem wd1200 : Cond.static yL_tray ∈ jbig := jbig_in (jtb_5 _ (List.mem_of_getElem? (i := 137) rfl)) rfl
theorem wd1807 : Cond.methodLink RL 275 yX6_tray ∈ jbig := jbig_in (jtb_8 _ (List.mem_of_getElem? (i := 24) rfl)) rfl
theorem wd1810 : Cond.code yX6_tray cX6_tray 5 none ∈ jbig := jbig_in (jtb_8 _ (List.mem_of_getElem? (i := 27) rfl)) rfl
theorem wd1808 : Cond.instanceMethod yX6_tray ∈ jbig := jbig_in (jtb_8 _ (List.mem_of_getElem? (i := 25) rfl)) rfl
theorem wd1809 : Cond.selects yX6_tray.cls yX6_tray yX6_tray ∈ jbig := jbig_in (jtb_8 _ (List.mem_of_getElem? (i := 26) rfl)) rfl
theorem wd1213 : Cond.methodLink RL 278 yL_write ∈ jbig := jbig_in (jtb_5 _ (List.mem_of_getElem? (i := 150) rfl)) rfl
theorem wd1215 : Cond.codeWith yL_write cL_write 7 (some .int) [(0, 11, 14, 19), (0, 11, 18, 38), (0, 11, 22, 113)] ∈ jbig := jbig_in (jtb_5 _ (List.mem_of_getElem? (i := 152) rfl)) rfl
theorem wd1214 : Cond.static yL_write ∈ jbig := jbig_in (jtb_5 _ (List.mem_of_getElem? (i := 151) rfl)) rfl
theorem wd1811 : Cond.methodLink RL 281 yX6_write ∈ jbig := jbig_in (jtb_8 _ (List.mem_of_getElem? (i := 28) rfl)) rfl
theorem wd1814 : Cond.code yX6_write cX6_write 5 (some .long) ∈ jbig := jbig_in (jtb_8 _ (List.mem_of_getElem? (i := 31) rfl)) rfl
theorem wd1812 : Cond.instanceMethod yX6_write ∈ jbig := jbig_in (jtb_8 _ (List.mem_of_getElem? (i := 29) rfl)) rfl
theorem wd1813 : Cond.selects yX6_write.cls yX6_write yX6_write ∈ jbig := jbig_in (jtb_8 _ (List.mem_of_getElem? (i := 30) rfl)) rfl
theorem wd1244 : Cond.methodLink RL 282 yL_pour ∈ jbig := jbig_in (jtb_5 _ (List.mem_of_getElem? (i := 181) rfl)) rfl
theorem wd1246 : Cond.codeWith yL_pour cL_pour 4 (some .int) [(0, 9, 12, 19), (0, 9, 15, 38)] ∈ jbig := jbig_in (jtb_5 _ (List.mem_of_getElem? (i := 183) rfl)) rfl
theorem wd1245 : Cond.static yL_pour ∈ jbig := jbig_in (jtb_5 _ (List.mem_of_getElem? (i := 182) rfl)) rfl
theorem wd1819 : Cond.methodLink RL 284 yX6_pour ∈ jbig := jbig_in (jtb_8 _ (List.mem_of_getElem? (i := 36) rfl)) rfl
theorem wd1822 : Cond.code yX6_pour cX6_pour 4 (some .int) ∈ jbig := jbig_in (jtb_8 _ (List.mem_of_getElem? (i := 39) rfl)) rfl
theorem wd1820 : Cond.instanceMethod yX6_pour ∈ jbig := jbig_in (jtb_8 _ (List.mem_of_getElem? (i := 37) rfl)) rfl
theorem wd1821 : Cond.selects yX6_pour.cls yX6_pour yX6_pour ∈ jbig := jbig_in (jtb_8 _ (List.mem_of_getElem? (i := 38) rfl)) rfl
theorem wd1251 : Cond.methodLink RL 285 yL_image ∈ jbig := jbig_in (jtb_5 _ (List.mem_of_getElem? (i := 188) rfl)) rfl
theorem wd1253 : Cond.codeWith yL_image cL_image 3 (some .int) [(0, 5, 8, 19)] ∈ jbig := jbig_in (jtb_5 _ (List.mem_of_getElem? (i := 190) rfl)) rfl
theorem wd1252 : Cond.static yL_image ∈ jbig := jbig_in (jtb_5 _ (List.mem_of_getElem? (i := 189) rfl)) rfl
theorem wd1823 : Cond.methodLink RL 288 yX6_image ∈ jbig := jbig_in (jtb_8 _ (List.mem_of_getElem? (i := 40) rfl)) rfl
theorem wd1826 : Cond.code yX6_image cX6_image 3 none ∈ jbig := jbig_in (jtb_8 _ (List.mem_of_getElem? (i := 43) rfl)) rfl
theorem wd1824 : Cond.instanceMethod yX6_image ∈ jbig := jbig_in (jtb_8 _ (List.mem_of_getElem? (i := 41) rfl)) rfl
theorem wd1825 : Cond.selects yX6_image.cls yX6_image yX6_image ∈ jbig := jbig_in (jtb_8 _ (List.mem_of_getElem? (i := 42) rfl)) rfl
theorem wd1262 : Cond.methodLink RL 289 yL_restore ∈ jbig := jbig_in (jtb_5 _ (List.mem_of_getElem? (i := 199) rfl)) rfl
theorem wd1264 : Cond.codeWith yL_restore cL_restore 3 (some .int) [(0, 5, 8, 19), (0, 5, 11, 38)] ∈ jbig := jbig_in (jtb_5 _ (List.mem_of_getElem? (i := 201) rfl)) rfl
theorem wd1263 : Cond.static yL_restore ∈ jbig := jbig_in (jtb_5 _ (List.mem_of_getElem? (i := 200) rfl)) rfl
theorem wd1827 : Cond.methodLink RL 291 yX6_restore ∈ jbig := jbig_in (jtb_8 _ (List.mem_of_getElem? (i := 44) rfl)) rfl
theorem wd1830 : Cond.code yX6_restore cX6_restore 3 none ∈ jbig := jbig_in (jtb_8 _ (List.mem_of_getElem? (i := 47) rfl)) rfl
theorem wd1828 : Cond.instanceMethod yX6_restore ∈ jbig := jbig_in (jtb_8 _ (List.mem_of_getElem? (i := 45) rfl)) rfl
theorem wd1829 : Cond.selects yX6_restore.cls yX6_restore yX6_restore ∈ jbig := jbig_in (jtb_8 _ (List.mem_of_getElem? (i := 46) rfl)) rfl
theorem wd634 : Cond.methodLink RL 292 yX5_count ∈ jbig := jbig_in (jtb_3 _ (List.mem_of_getElem? (i := 51) rfl)) rfl
theorem wd637 : Cond.code yX5_count cX5_count 2 (some .int) ∈ jbig := jbig_in (jtb_3 _ (List.mem_of_getElem? (i := 54) rfl)) rfl
theorem wd635 : Cond.instanceMethod yX5_count ∈ jbig := jbig_in (jtb_3 _ (List.mem_of_getElem? (i := 52) rfl)) rfl
theorem wd636 : Cond.selects yX5_count.cls yX5_count yX5_count ∈ jbig := jbig_in (jtb_3 _ (List.mem_of_getElem? (i := 53) rfl)) rfl
theorem wd1831 : Cond.methodLink RL 295 yX6_count ∈ jbig := jbig_in (jtb_8 _ (List.mem_of_getElem? (i := 48) rfl)) rfl
theorem wd1834 : Cond.code yX6_count cX6_count 5 (some .int) ∈ jbig := jbig_in (jtb_8 _ (List.mem_of_getElem? (i := 51) rfl)) rfl
theorem wd1832 : Cond.instanceMethod yX6_count ∈ jbig := jbig_in (jtb_8 _ (List.mem_of_getElem? (i := 49) rfl)) rfl
theorem wd1833 : Cond.selects yX6_count.cls yX6_count yX6_count ∈ jbig := jbig_in (jtb_8 _ (List.mem_of_getElem? (i := 50) rfl)) rfl
theorem kc_L_129 : jcy RL 129 yX5_feed cX5_feed 6 (some .int) 5 ∧ Cond.instanceMethod yX5_feed ∈ jbig ∧ Cond.selects yX5_feed.cls yX5_feed yX5_feed ∈ jbig := ⟨⟨wd368, wd371, wd104, by decide, by decide, by decide⟩, wd369, wd370⟩
theorem kc_L_133 : jcy RL 133 yX6_feed cX6_feed 8 (some .int) 5 ∧ Cond.instanceMethod yX6_feed ∈ jbig ∧ Cond.selects yX6_feed.cls yX6_feed yX6_feed ∈ jbig := ⟨⟨wd1371, wd1374, wd109, by decide, by decide, by decide⟩, wd1372, wd1373⟩
theorem kc_L_139 : jcy RL 139 yX6_town cX6_town 2 (some .int) 1 ∧ Cond.instanceMethod yX6_town ∈ jbig ∧ Cond.selects yX6_town.cls yX6_town yX6_town ∈ jbig := ⟨⟨wd1375, wd1378, wd109, by decide, by decide, by decide⟩, wd1376, wd1377⟩
theorem kc_L_140 : jcy RL 140 yX6_thrown cX6_thrown 1 (some .int) 0 ∧ Cond.instanceMethod yX6_thrown ∈ jbig ∧ Cond.selects yX6_thrown.cls yX6_thrown yX6_thrown ∈ jbig := ⟨⟨wd1367, wd1370, wd109, by decide, by decide, by decide⟩, wd1368, wd1369⟩
theorem kc_L_143 : jcy RL 143 yX5_fault cX5_fault 2 (some .int) 1 ∧ Cond.instanceMethod yX5_fault ∈ jbig ∧ Cond.selects yX5_fault.cls yX5_fault yX5_fault ∈ jbig := ⟨⟨wd376, wd379, wd104, by decide, by decide, by decide⟩, wd377, wd378⟩
theorem kc_L_146 : jcy RL 146 yX6_fault cX6_fault 2 (some .int) 1 ∧ Cond.instanceMethod yX6_fault ∈ jbig ∧ Cond.selects yX6_fault.cls yX6_fault yX6_fault ∈ jbig := ⟨⟨wd1461, wd1464, wd109, by decide, by decide, by decide⟩, wd1462, wd1463⟩
theorem kc_L_150 : jcy RL 150 yX6_person cX6_person 3 (some .int) 2 ∧ Cond.instanceMethod yX6_person ∈ jbig ∧ Cond.selects yX6_person.cls yX6_person yX6_person ∈ jbig := ⟨⟨wd1465, wd1468, wd109, by decide, by decide, by decide⟩, wd1466, wd1467⟩
theorem kc_L_153 : jcy RL 153 yX6_worth cX6_worth 3 (some .int) 2 ∧ Cond.instanceMethod yX6_worth ∈ jbig ∧ Cond.selects yX6_worth.cls yX6_worth yX6_worth ∈ jbig := ⟨⟨wd1486, wd1489, wd109, by decide, by decide, by decide⟩, wd1487, wd1488⟩
theorem kc_L_156 : jcy RL 156 yX6_holder cX6_holder 2 (some .int) 1 ∧ Cond.instanceMethod yX6_holder ∈ jbig ∧ Cond.selects yX6_holder.cls yX6_holder yX6_holder ∈ jbig := ⟨⟨wd1494, wd1497, wd109, by decide, by decide, by decide⟩, wd1495, wd1496⟩
theorem kc_L_159 : jcy RL 159 yX6_eat cX6_eat 2 (some .boolean) 1 ∧ Cond.instanceMethod yX6_eat ∈ jbig ∧ Cond.selects yX6_eat.cls yX6_eat yX6_eat ∈ jbig := ⟨⟨wd1498, wd1501, wd109, by decide, by decide, by decide⟩, wd1499, wd1500⟩
theorem kc_L_162 : jcy RL 162 yX6_pass cX6_pass 2 (some .int) 1 ∧ Cond.instanceMethod yX6_pass ∈ jbig ∧ Cond.selects yX6_pass.cls yX6_pass yX6_pass ∈ jbig := ⟨⟨wd1506, wd1509, wd109, by decide, by decide, by decide⟩, wd1507, wd1508⟩
theorem kc_L_166 : jcy RL 166 yX6_morning cX6_morning 2 (some .int) 0 ∧ Cond.instanceMethod yX6_morning ∈ jbig ∧ Cond.selects yX6_morning.cls yX6_morning yX6_morning ∈ jbig := ⟨⟨wd1511, wd1514, wd109, by decide, by decide, by decide⟩, wd1512, wd1513⟩
theorem kc_L_167 : jcy RL 167 yX5_sell cX5_sell 5 (some .int) 3 ∧ Cond.instanceMethod yX5_sell ∈ jbig ∧ Cond.selects yX5_sell.cls yX5_sell yX5_sell ∈ jbig := ⟨⟨wd380, wd383, wd104, by decide, by decide, by decide⟩, wd381, wd382⟩
theorem kc_L_170 : jcy RL 170 yX6_sell cX6_sell 5 (some .int) 3 ∧ Cond.instanceMethod yX6_sell ∈ jbig ∧ Cond.selects yX6_sell.cls yX6_sell yX6_sell ∈ jbig := ⟨⟨wd1527, wd1530, wd109, by decide, by decide, by decide⟩, wd1528, wd1529⟩
theorem kc_L_173 : jcy RL 173 yX6_deed cX6_deed 3 (some .int) 2 ∧ Cond.instanceMethod yX6_deed ∈ jbig ∧ Cond.selects yX6_deed.cls yX6_deed yX6_deed ∈ jbig := ⟨⟨wd1540, wd1543, wd109, by decide, by decide, by decide⟩, wd1541, wd1542⟩
theorem kc_L_176 : jcy RL 176 yX6_may cX6_may 3 (some .int) 2 ∧ Cond.instanceMethod yX6_may ∈ jbig ∧ Cond.selects yX6_may.cls yX6_may yX6_may ∈ jbig := ⟨⟨wd1554, wd1557, wd109, by decide, by decide, by decide⟩, wd1555, wd1556⟩
theorem kc_L_179 : jcy RL 179 yX6_undo cX6_undo 4 (some .int) 2 ∧ Cond.instanceMethod yX6_undo ∈ jbig ∧ Cond.selects yX6_undo.cls yX6_undo yX6_undo ∈ jbig := ⟨⟨wd1578, wd1581, wd109, by decide, by decide, by decide⟩, wd1579, wd1580⟩
theorem kc_L_182 : jcy RL 182 yX6_falls cX6_falls 2 (some .int) 1 ∧ Cond.instanceMethod yX6_falls ∈ jbig ∧ Cond.selects yX6_falls.cls yX6_falls yX6_falls ∈ jbig := ⟨⟨wd1582, wd1585, wd109, by decide, by decide, by decide⟩, wd1583, wd1584⟩
theorem kc_L_186 : jcy RL 186 yX6_owes cX6_owes 4 (some .int) 3 ∧ Cond.instanceMethod yX6_owes ∈ jbig ∧ Cond.selects yX6_owes.cls yX6_owes yX6_owes ∈ jbig := ⟨⟨wd1586, wd1589, wd109, by decide, by decide, by decide⟩, wd1587, wd1588⟩
theorem kc_L_189 : jcy RL 189 yX6_chain cX6_chain 5 (some .int) 2 ∧ Cond.instanceMethod yX6_chain ∈ jbig ∧ Cond.selects yX6_chain.cls yX6_chain yX6_chain ∈ jbig := ⟨⟨wd1590, wd1593, wd109, by decide, by decide, by decide⟩, wd1591, wd1592⟩
theorem kc_L_192 : jcy RL 192 yX6_judge cX6_judge 6 (some .int) 2 ∧ Cond.instanceMethod yX6_judge ∈ jbig ∧ Cond.selects yX6_judge.cls yX6_judge yX6_judge ∈ jbig := ⟨⟨wd1594, wd1597, wd109, by decide, by decide, by decide⟩, wd1595, wd1596⟩
theorem kc_L_195 : jcy RL 195 yX6_perform cX6_perform 2 (some .int) 1 ∧ Cond.instanceMethod yX6_perform ∈ jbig ∧ Cond.selects yX6_perform.cls yX6_perform yX6_perform ∈ jbig := ⟨⟨wd1618, wd1621, wd109, by decide, by decide, by decide⟩, wd1619, wd1620⟩
theorem kc_L_198 : jcy RL 198 yX6_day cX6_day 5 (some .int) 2 ∧ Cond.instanceMethod yX6_day ∈ jbig ∧ Cond.selects yX6_day.cls yX6_day yX6_day ∈ jbig := ⟨⟨wd1622, wd1625, wd109, by decide, by decide, by decide⟩, wd1623, wd1624⟩
theorem kc_L_199 : jcy RL 199 yX5_open cX5_open 1 (some .int) 0 ∧ Cond.instanceMethod yX5_open ∈ jbig ∧ Cond.selects yX5_open.cls yX5_open yX5_open ∈ jbig := ⟨⟨wd408, wd411, wd104, by decide, by decide, by decide⟩, wd409, wd410⟩
theorem kc_L_202 : jcy RL 202 yX6_open cX6_open 1 (some .int) 0 ∧ Cond.instanceMethod yX6_open ∈ jbig ∧ Cond.selects yX6_open.cls yX6_open yX6_open ∈ jbig := ⟨⟨wd1636, wd1639, wd109, by decide, by decide, by decide⟩, wd1637, wd1638⟩
theorem kc_L_205 : jcy RL 205 yX6_gain cX6_gain 3 (some .int) 2 ∧ Cond.instanceMethod yX6_gain ∈ jbig ∧ Cond.selects yX6_gain.cls yX6_gain yX6_gain ∈ jbig := ⟨⟨wd1648, wd1651, wd109, by decide, by decide, by decide⟩, wd1649, wd1650⟩
theorem kc_L_206 : jcy RL 206 yX5_safe cX5_safe 3 (some .int) 0 ∧ Cond.instanceMethod yX5_safe ∈ jbig ∧ Cond.selects yX5_safe.cls yX5_safe yX5_safe ∈ jbig := ⟨⟨wd424, wd427, wd104, by decide, by decide, by decide⟩, wd425, wd426⟩
theorem kc_L_209 : jcy RL 209 yX6_safe cX6_safe 3 (some .int) 0 ∧ Cond.instanceMethod yX6_safe ∈ jbig ∧ Cond.selects yX6_safe.cls yX6_safe yX6_safe ∈ jbig := ⟨⟨wd1656, wd1659, wd109, by decide, by decide, by decide⟩, wd1657, wd1658⟩
theorem kc_L_212 : jcy RL 212 yX6_pledge cX6_pledge 2 (some .int) 1 ∧ Cond.instanceMethod yX6_pledge ∈ jbig ∧ Cond.selects yX6_pledge.cls yX6_pledge yX6_pledge ∈ jbig := ⟨⟨wd1664, wd1667, wd109, by decide, by decide, by decide⟩, wd1665, wd1666⟩
theorem kc_L_213 : jcy RL 213 yX5_tempted cX5_tempted 3 (some .int) 0 ∧ Cond.instanceMethod yX5_tempted ∈ jbig ∧ Cond.selects yX5_tempted.cls yX5_tempted yX5_tempted ∈ jbig := ⟨⟨wd464, wd467, wd104, by decide, by decide, by decide⟩, wd465, wd466⟩
theorem kc_L_216 : jcy RL 216 yX6_tempted cX6_tempted 4 (some .int) 0 ∧ Cond.instanceMethod yX6_tempted ∈ jbig ∧ Cond.selects yX6_tempted.cls yX6_tempted yX6_tempted ∈ jbig := ⟨⟨wd1668, wd1671, wd109, by decide, by decide, by decide⟩, wd1669, wd1670⟩
theorem kc_L_217 : jcy RL 217 yX5_unravel cX5_unravel 5 (some .int) 0 ∧ Cond.instanceMethod yX5_unravel ∈ jbig ∧ Cond.selects yX5_unravel.cls yX5_unravel yX5_unravel ∈ jbig := ⟨⟨wd473, wd476, wd104, by decide, by decide, by decide⟩, wd474, wd475⟩
theorem kc_L_220 : jcy RL 220 yX6_unravel cX6_unravel 8 (some .int) 0 ∧ Cond.instanceMethod yX6_unravel ∈ jbig ∧ Cond.selects yX6_unravel.cls yX6_unravel yX6_unravel ∈ jbig := ⟨⟨wd1676, wd1679, wd109, by decide, by decide, by decide⟩, wd1677, wd1678⟩
theorem kc_L_223 : jcy RL 223 yX6_debt cX6_debt 8 (some .int) 2 ∧ Cond.instanceMethod yX6_debt ∈ jbig ∧ Cond.selects yX6_debt.cls yX6_debt yX6_debt ∈ jbig := ⟨⟨wd1680, wd1683, wd109, by decide, by decide, by decide⟩, wd1681, wd1682⟩
theorem kc_L_226 : jcy RL 226 yX6_safePrice cX6_safePrice 7 (some .int) 3 ∧ Cond.instanceMethod yX6_safePrice ∈ jbig ∧ Cond.selects yX6_safePrice.cls yX6_safePrice yX6_safePrice ∈ jbig := ⟨⟨wd1684, wd1687, wd109, by decide, by decide, by decide⟩, wd1685, wd1686⟩
theorem kc_L_227 : jcy RL 227 yX5_longest cX5_longest 5 (some .int) 0 ∧ Cond.instanceMethod yX5_longest ∈ jbig ∧ Cond.selects yX5_longest.cls yX5_longest yX5_longest ∈ jbig := ⟨⟨wd524, wd527, wd104, by decide, by decide, by decide⟩, wd525, wd526⟩
theorem kc_L_230 : jcy RL 230 yX6_longest cX6_longest 6 (some .int) 0 ∧ Cond.instanceMethod yX6_longest ∈ jbig ∧ Cond.selects yX6_longest.cls yX6_longest yX6_longest ∈ jbig := ⟨⟨wd1692, wd1695, wd109, by decide, by decide, by decide⟩, wd1693, wd1694⟩
theorem kc_L_233 : jcy RL 233 yX6_bidder cX6_bidder 4 (some .int) 1 ∧ Cond.instanceMethod yX6_bidder ∈ jbig ∧ Cond.selects yX6_bidder.cls yX6_bidder yX6_bidder ∈ jbig := ⟨⟨wd1696, wd1699, wd109, by decide, by decide, by decide⟩, wd1697, wd1698⟩
theorem kc_L_236 : jcy RL 236 yX6_keeper cX6_keeper 6 (some .int) 2 ∧ Cond.instanceMethod yX6_keeper ∈ jbig ∧ Cond.selects yX6_keeper.cls yX6_keeper yX6_keeper ∈ jbig := ⟨⟨wd1755, wd1758, wd109, by decide, by decide, by decide⟩, wd1756, wd1757⟩
theorem kc_L_239 : jcy RL 239 yX6_endFrom cX6_endFrom 2 (some .int) 1 ∧ Cond.instanceMethod yX6_endFrom ∈ jbig ∧ Cond.selects yX6_endFrom.cls yX6_endFrom yX6_endFrom ∈ jbig := ⟨⟨wd1759, wd1762, wd109, by decide, by decide, by decide⟩, wd1760, wd1761⟩
theorem kc_L_242 : jcy RL 242 yX6_end cX6_end 6 (some .int) 2 ∧ Cond.instanceMethod yX6_end ∈ jbig ∧ Cond.selects yX6_end.cls yX6_end yX6_end ∈ jbig := ⟨⟨wd1700, wd1703, wd109, by decide, by decide, by decide⟩, wd1701, wd1702⟩
theorem kc_L_245 : jcy RL 245 yX6_ringer cX6_ringer 2 (some .int) 1 ∧ Cond.instanceMethod yX6_ringer ∈ jbig ∧ Cond.selects yX6_ringer.cls yX6_ringer yX6_ringer ∈ jbig := ⟨⟨wd1751, wd1754, wd109, by decide, by decide, by decide⟩, wd1752, wd1753⟩
theorem kc_L_248 : jcy RL 248 yX6_news cX6_news 6 (some .int) 3 ∧ Cond.instanceMethod yX6_news ∈ jbig ∧ Cond.selects yX6_news.cls yX6_news yX6_news ∈ jbig := ⟨⟨wd1763, wd1766, wd109, by decide, by decide, by decide⟩, wd1764, wd1765⟩
theorem kc_L_249 : jcy RL 249 yX5_bestShare cX5_bestShare 6 (some .int) 0 ∧ Cond.instanceMethod yX5_bestShare ∈ jbig ∧ Cond.selects yX5_bestShare.cls yX5_bestShare yX5_bestShare ∈ jbig := ⟨⟨wd532, wd535, wd104, by decide, by decide, by decide⟩, wd533, wd534⟩
theorem kc_L_252 : jcy RL 252 yX6_bestShare cX6_bestShare 5 (some .int) 0 ∧ Cond.instanceMethod yX6_bestShare ∈ jbig ∧ Cond.selects yX6_bestShare.cls yX6_bestShare yX6_bestShare ∈ jbig := ⟨⟨wd1767, wd1770, wd109, by decide, by decide, by decide⟩, wd1768, wd1769⟩
theorem kc_L_255 : jcy RL 255 yX6_share cX6_share 3 (some .int) 1 ∧ Cond.instanceMethod yX6_share ∈ jbig ∧ Cond.selects yX6_share.cls yX6_share yX6_share ∈ jbig := ⟨⟨wd1774, wd1777, wd109, by decide, by decide, by decide⟩, wd1775, wd1776⟩
theorem kc_L_259 : jcy RL 259 yX6_hope cX6_hope 21 (some .int) 4 ∧ Cond.instanceMethod yX6_hope ∈ jbig ∧ Cond.selects yX6_hope.cls yX6_hope yX6_hope ∈ jbig := ⟨⟨wd1778, wd1781, wd109, by decide, by decide, by decide⟩, wd1779, wd1780⟩
theorem kc_L_260 : jcy RL 260 yX5_swaps cX5_swaps 5 (some .int) 1 ∧ Cond.instanceMethod yX5_swaps ∈ jbig ∧ Cond.selects yX5_swaps.cls yX5_swaps yX5_swaps ∈ jbig := ⟨⟨wd612, wd615, wd104, by decide, by decide, by decide⟩, wd613, wd614⟩
theorem kc_L_263 : jcy RL 263 yX6_swaps cX6_swaps 5 (some .int) 1 ∧ Cond.instanceMethod yX6_swaps ∈ jbig ∧ Cond.selects yX6_swaps.cls yX6_swaps yX6_swaps ∈ jbig := ⟨⟨wd1783, wd1786, wd109, by decide, by decide, by decide⟩, wd1784, wd1785⟩
theorem kc_L_264 : jcy RL 264 yX5_threes cX5_threes 6 (some .int) 1 ∧ Cond.instanceMethod yX5_threes ∈ jbig ∧ Cond.selects yX5_threes.cls yX5_threes yX5_threes ∈ jbig := ⟨⟨wd620, wd623, wd104, by decide, by decide, by decide⟩, wd621, wd622⟩
theorem kc_L_267 : jcy RL 267 yX6_threes cX6_threes 6 (some .int) 1 ∧ Cond.instanceMethod yX6_threes ∈ jbig ∧ Cond.selects yX6_threes.cls yX6_threes yX6_threes ∈ jbig := ⟨⟨wd1795, wd1798, wd109, by decide, by decide, by decide⟩, wd1796, wd1797⟩
theorem kc_L_268 : jcy RL 268 yX5_misplaced cX5_misplaced 5 (some .int) 0 ∧ Cond.instanceMethod yX5_misplaced ∈ jbig ∧ Cond.selects yX5_misplaced.cls yX5_misplaced yX5_misplaced ∈ jbig := ⟨⟨wd629, wd632, wd104, by decide, by decide, by decide⟩, wd630, wd631⟩
theorem kc_L_271 : jcy RL 271 yX6_misplaced cX6_misplaced 4 (some .int) 0 ∧ Cond.instanceMethod yX6_misplaced ∈ jbig ∧ Cond.selects yX6_misplaced.cls yX6_misplaced yX6_misplaced ∈ jbig := ⟨⟨wd1803, wd1806, wd109, by decide, by decide, by decide⟩, wd1804, wd1805⟩
theorem kc_L_275 : jcy RL 275 yX6_tray cX6_tray 5 none 3 ∧ Cond.instanceMethod yX6_tray ∈ jbig ∧ Cond.selects yX6_tray.cls yX6_tray yX6_tray ∈ jbig := ⟨⟨wd1807, wd1810, wd109, by decide, by decide, by decide⟩, wd1808, wd1809⟩
theorem kc_L_281 : jcy RL 281 yX6_write cX6_write 5 (some .long) 3 ∧ Cond.instanceMethod yX6_write ∈ jbig ∧ Cond.selects yX6_write.cls yX6_write yX6_write ∈ jbig := ⟨⟨wd1811, wd1814, wd109, by decide, by decide, by decide⟩, wd1812, wd1813⟩
theorem kc_L_284 : jcy RL 284 yX6_pour cX6_pour 4 (some .int) 1 ∧ Cond.instanceMethod yX6_pour ∈ jbig ∧ Cond.selects yX6_pour.cls yX6_pour yX6_pour ∈ jbig := ⟨⟨wd1819, wd1822, wd109, by decide, by decide, by decide⟩, wd1820, wd1821⟩
theorem kc_L_288 : jcy RL 288 yX6_image cX6_image 3 none 1 ∧ Cond.instanceMethod yX6_image ∈ jbig ∧ Cond.selects yX6_image.cls yX6_image yX6_image ∈ jbig := ⟨⟨wd1823, wd1826, wd109, by decide, by decide, by decide⟩, wd1824, wd1825⟩
theorem kc_L_291 : jcy RL 291 yX6_restore cX6_restore 3 none 1 ∧ Cond.instanceMethod yX6_restore ∈ jbig ∧ Cond.selects yX6_restore.cls yX6_restore yX6_restore ∈ jbig := ⟨⟨wd1827, wd1830, wd109, by decide, by decide, by decide⟩, wd1828, wd1829⟩
theorem kc_L_292 : jcy RL 292 yX5_count cX5_count 2 (some .int) 1 ∧ Cond.instanceMethod yX5_count ∈ jbig ∧ Cond.selects yX5_count.cls yX5_count yX5_count ∈ jbig := ⟨⟨wd634, wd637, wd104, by decide, by decide, by decide⟩, wd635, wd636⟩
theorem kc_L_295 : jcy RL 295 yX6_count cX6_count 5 (some .int) 1 ∧ Cond.instanceMethod yX6_count ∈ jbig ∧ Cond.selects yX6_count.cls yX6_count yX6_count ∈ jbig := ⟨⟨wd1831, wd1834, wd109, by decide, by decide, by decide⟩, wd1832, wd1833⟩
theorem kh_L_134 : Cond.methodLink RL 134 yL_town ∈ jbig ∧ Cond.codeWith yL_town cL_town 4 (some .int) [(0, 9, 12, 13)] ∈ jbig ∧ Cond.initialized yL_town.cls ∈ jbig ∧ (yL_town.cls ≠ "java/lang/invoke/MethodHandle" ∧ yL_town.cls ≠ "java/lang/invoke/VarHandle" ∧ (parseMethodDescriptor yL_town.desc).map (fun d => d.parameters.length) = some 3) ∧ Cond.static yL_town ∈ jbig := ⟨wd650, wd652, wd103, by decide, wd651⟩
theorem kh_L_147 : Cond.methodLink RL 147 yL_person ∈ jbig ∧ Cond.codeWith yL_person cL_person 5 (some .int) [(0, 10, 13, 19), (0, 10, 17, 13)] ∈ jbig ∧ Cond.initialized yL_person.cls ∈ jbig ∧ (yL_person.cls ≠ "java/lang/invoke/MethodHandle" ∧ yL_person.cls ≠ "java/lang/invoke/VarHandle" ∧ (parseMethodDescriptor yL_person.desc).map (fun d => d.parameters.length) = some 4) ∧ Cond.static yL_person ∈ jbig := ⟨wd858, wd860, wd103, by decide, wd859⟩
theorem kh_L_151 : Cond.methodLink RL 151 yL_worth ∈ jbig ∧ Cond.codeWith yL_worth cL_worth 5 (some .int) [(0, 10, 13, 19)] ∈ jbig ∧ Cond.initialized yL_worth.cls ∈ jbig ∧ (yL_worth.cls ≠ "java/lang/invoke/MethodHandle" ∧ yL_worth.cls ≠ "java/lang/invoke/VarHandle" ∧ (parseMethodDescriptor yL_worth.desc).map (fun d => d.parameters.length) = some 4) ∧ Cond.static yL_worth ∈ jbig := ⟨wd891, wd893, wd103, by decide, wd892⟩
theorem kh_L_154 : Cond.methodLink RL 154 yL_holder ∈ jbig ∧ Cond.codeWith yL_holder cL_holder 4 (some .int) [(0, 9, 12, 19)] ∈ jbig ∧ Cond.initialized yL_holder.cls ∈ jbig ∧ (yL_holder.cls ≠ "java/lang/invoke/MethodHandle" ∧ yL_holder.cls ≠ "java/lang/invoke/VarHandle" ∧ (parseMethodDescriptor yL_holder.desc).map (fun d => d.parameters.length) = some 3) ∧ Cond.static yL_holder ∈ jbig := ⟨wd903, wd905, wd103, by decide, wd904⟩
theorem kh_L_157 : Cond.methodLink RL 157 yL_eat ∈ jbig ∧ Cond.codeWith yL_eat cL_eat 4 (some .int) [(0, 16, 19, 19)] ∈ jbig ∧ Cond.initialized yL_eat.cls ∈ jbig ∧ (yL_eat.cls ≠ "java/lang/invoke/MethodHandle" ∧ yL_eat.cls ≠ "java/lang/invoke/VarHandle" ∧ (parseMethodDescriptor yL_eat.desc).map (fun d => d.parameters.length) = some 3) ∧ Cond.static yL_eat ∈ jbig := ⟨wd910, wd912, wd103, by decide, wd911⟩
theorem kh_L_160 : Cond.methodLink RL 160 yL_pass ∈ jbig ∧ Cond.codeWith yL_pass cL_pass 4 (some .int) [(0, 9, 12, 13)] ∈ jbig ∧ Cond.initialized yL_pass.cls ∈ jbig ∧ (yL_pass.cls ≠ "java/lang/invoke/MethodHandle" ∧ yL_pass.cls ≠ "java/lang/invoke/VarHandle" ∧ (parseMethodDescriptor yL_pass.desc).map (fun d => d.parameters.length) = some 3) ∧ Cond.static yL_pass ∈ jbig := ⟨wd918, wd920, wd103, by decide, wd919⟩
theorem kh_L_163 : Cond.methodLink RL 163 yL_morning ∈ jbig ∧ Cond.codeWith yL_morning cL_morning 3 (some .int) [(0, 8, 11, 38)] ∈ jbig ∧ Cond.initialized yL_morning.cls ∈ jbig ∧ (yL_morning.cls ≠ "java/lang/invoke/MethodHandle" ∧ yL_morning.cls ≠ "java/lang/invoke/VarHandle" ∧ (parseMethodDescriptor yL_morning.desc).map (fun d => d.parameters.length) = some 2) ∧ Cond.static yL_morning ∈ jbig := ⟨wd928, wd930, wd103, by decide, wd929⟩
theorem kh_L_171 : Cond.methodLink RL 171 yL_deed ∈ jbig ∧ Cond.codeWith yL_deed cL_deed 5 (some .int) [(0, 10, 13, 19), (0, 10, 17, 13)] ∈ jbig ∧ Cond.initialized yL_deed.cls ∈ jbig ∧ (yL_deed.cls ≠ "java/lang/invoke/MethodHandle" ∧ yL_deed.cls ≠ "java/lang/invoke/VarHandle" ∧ (parseMethodDescriptor yL_deed.desc).map (fun d => d.parameters.length) = some 4) ∧ Cond.static yL_deed ∈ jbig := ⟨wd952, wd954, wd103, by decide, wd953⟩
theorem kh_L_174 : Cond.methodLink RL 174 yL_may ∈ jbig ∧ Cond.codeWith yL_may cL_may 5 (some .int) [(0, 10, 13, 19)] ∈ jbig ∧ Cond.initialized yL_may.cls ∈ jbig ∧ (yL_may.cls ≠ "java/lang/invoke/MethodHandle" ∧ yL_may.cls ≠ "java/lang/invoke/VarHandle" ∧ (parseMethodDescriptor yL_may.desc).map (fun d => d.parameters.length) = some 4) ∧ Cond.static yL_may ∈ jbig := ⟨wd967, wd969, wd103, by decide, wd968⟩
theorem kh_L_177 : Cond.methodLink RL 177 yL_undo ∈ jbig ∧ Cond.codeWith yL_undo cL_undo 5 (some .int) [(0, 10, 13, 19)] ∈ jbig ∧ Cond.initialized yL_undo.cls ∈ jbig ∧ (yL_undo.cls ≠ "java/lang/invoke/MethodHandle" ∧ yL_undo.cls ≠ "java/lang/invoke/VarHandle" ∧ (parseMethodDescriptor yL_undo.desc).map (fun d => d.parameters.length) = some 4) ∧ Cond.static yL_undo ∈ jbig := ⟨wd975, wd977, wd103, by decide, wd976⟩
theorem kh_L_180 : Cond.methodLink RL 180 yL_falls ∈ jbig ∧ Cond.codeWith yL_falls cL_falls 4 (some .int) [(0, 9, 12, 19)] ∈ jbig ∧ Cond.initialized yL_falls.cls ∈ jbig ∧ (yL_falls.cls ≠ "java/lang/invoke/MethodHandle" ∧ yL_falls.cls ≠ "java/lang/invoke/VarHandle" ∧ (parseMethodDescriptor yL_falls.desc).map (fun d => d.parameters.length) = some 3) ∧ Cond.static yL_falls ∈ jbig := ⟨wd982, wd984, wd103, by decide, wd983⟩
theorem kh_L_183 : Cond.methodLink RL 183 yL_owes ∈ jbig ∧ Cond.codeWith yL_owes cL_owes 6 (some .int) [(0, 12, 15, 19)] ∈ jbig ∧ Cond.initialized yL_owes.cls ∈ jbig ∧ (yL_owes.cls ≠ "java/lang/invoke/MethodHandle" ∧ yL_owes.cls ≠ "java/lang/invoke/VarHandle" ∧ (parseMethodDescriptor yL_owes.desc).map (fun d => d.parameters.length) = some 5) ∧ Cond.static yL_owes ∈ jbig := ⟨wd990, wd992, wd103, by decide, wd991⟩
theorem kh_L_187 : Cond.methodLink RL 187 yL_chain ∈ jbig ∧ Cond.codeWith yL_chain cL_chain 5 (some .int) [(0, 10, 13, 19)] ∈ jbig ∧ Cond.initialized yL_chain.cls ∈ jbig ∧ (yL_chain.cls ≠ "java/lang/invoke/MethodHandle" ∧ yL_chain.cls ≠ "java/lang/invoke/VarHandle" ∧ (parseMethodDescriptor yL_chain.desc).map (fun d => d.parameters.length) = some 4) ∧ Cond.static yL_chain ∈ jbig := ⟨wd999, wd1001, wd103, by decide, wd1000⟩
theorem kh_L_190 : Cond.methodLink RL 190 yL_judge ∈ jbig ∧ Cond.codeWith yL_judge cL_judge 5 (some .int) [(0, 10, 13, 19), (0, 10, 17, 38), (0, 10, 21, 13)] ∈ jbig ∧ Cond.initialized yL_judge.cls ∈ jbig ∧ (yL_judge.cls ≠ "java/lang/invoke/MethodHandle" ∧ yL_judge.cls ≠ "java/lang/invoke/VarHandle" ∧ (parseMethodDescriptor yL_judge.desc).map (fun d => d.parameters.length) = some 4) ∧ Cond.static yL_judge ∈ jbig := ⟨wd1006, wd1008, wd103, by decide, wd1007⟩
theorem kh_L_193 : Cond.methodLink RL 193 yL_perform ∈ jbig ∧ Cond.codeWith yL_perform cL_perform 4 (some .int) [(0, 9, 12, 19), (0, 9, 15, 38)] ∈ jbig ∧ Cond.initialized yL_perform.cls ∈ jbig ∧ (yL_perform.cls ≠ "java/lang/invoke/MethodHandle" ∧ yL_perform.cls ≠ "java/lang/invoke/VarHandle" ∧ (parseMethodDescriptor yL_perform.desc).map (fun d => d.parameters.length) = some 3) ∧ Cond.static yL_perform ∈ jbig := ⟨wd1023, wd1025, wd103, by decide, wd1024⟩
theorem kh_L_196 : Cond.methodLink RL 196 yL_day ∈ jbig ∧ Cond.codeWith yL_day cL_day 5 (some .int) [(0, 10, 13, 13)] ∈ jbig ∧ Cond.initialized yL_day.cls ∈ jbig ∧ (yL_day.cls ≠ "java/lang/invoke/MethodHandle" ∧ yL_day.cls ≠ "java/lang/invoke/VarHandle" ∧ (parseMethodDescriptor yL_day.desc).map (fun d => d.parameters.length) = some 4) ∧ Cond.static yL_day ∈ jbig := ⟨wd1030, wd1032, wd103, by decide, wd1031⟩
theorem kh_L_203 : Cond.methodLink RL 203 yL_gain ∈ jbig ∧ Cond.codeWith yL_gain cL_gain 5 (some .int) [(0, 10, 13, 19)] ∈ jbig ∧ Cond.initialized yL_gain.cls ∈ jbig ∧ (yL_gain.cls ≠ "java/lang/invoke/MethodHandle" ∧ yL_gain.cls ≠ "java/lang/invoke/VarHandle" ∧ (parseMethodDescriptor yL_gain.desc).map (fun d => d.parameters.length) = some 4) ∧ Cond.static yL_gain ∈ jbig := ⟨wd1069, wd1071, wd103, by decide, wd1070⟩
theorem kh_L_210 : Cond.methodLink RL 210 yL_pledge ∈ jbig ∧ Cond.codeWith yL_pledge cL_pledge 4 (some .int) [(0, 9, 12, 19)] ∈ jbig ∧ Cond.initialized yL_pledge.cls ∈ jbig ∧ (yL_pledge.cls ≠ "java/lang/invoke/MethodHandle" ∧ yL_pledge.cls ≠ "java/lang/invoke/VarHandle" ∧ (parseMethodDescriptor yL_pledge.desc).map (fun d => d.parameters.length) = some 3) ∧ Cond.static yL_pledge ∈ jbig := ⟨wd1076, wd1078, wd103, by decide, wd1077⟩
theorem kh_L_221 : Cond.methodLink RL 221 yL_debt ∈ jbig ∧ Cond.codeWith yL_debt cL_debt 5 (some .int) [(0, 10, 13, 19), (0, 10, 17, 13)] ∈ jbig ∧ Cond.initialized yL_debt.cls ∈ jbig ∧ (yL_debt.cls ≠ "java/lang/invoke/MethodHandle" ∧ yL_debt.cls ≠ "java/lang/invoke/VarHandle" ∧ (parseMethodDescriptor yL_debt.desc).map (fun d => d.parameters.length) = some 4) ∧ Cond.static yL_debt ∈ jbig := ⟨wd1084, wd1086, wd103, by decide, wd1085⟩
theorem kh_L_224 : Cond.methodLink RL 224 yL_safePrice ∈ jbig ∧ Cond.codeWith yL_safePrice cL_safePrice 6 (some .int) [(0, 12, 15, 19), (0, 12, 19, 38), (0, 12, 23, 13)] ∈ jbig ∧ Cond.initialized yL_safePrice.cls ∈ jbig ∧ (yL_safePrice.cls ≠ "java/lang/invoke/MethodHandle" ∧ yL_safePrice.cls ≠ "java/lang/invoke/VarHandle" ∧ (parseMethodDescriptor yL_safePrice.desc).map (fun d => d.parameters.length) = some 5) ∧ Cond.static yL_safePrice ∈ jbig := ⟨wd1092, wd1094, wd103, by decide, wd1093⟩
theorem kh_L_231 : Cond.methodLink RL 231 yL_bidder ∈ jbig ∧ Cond.codeWith yL_bidder cL_bidder 4 (some .int) [(0, 9, 12, 19)] ∈ jbig ∧ Cond.initialized yL_bidder.cls ∈ jbig ∧ (yL_bidder.cls ≠ "java/lang/invoke/MethodHandle" ∧ yL_bidder.cls ≠ "java/lang/invoke/VarHandle" ∧ (parseMethodDescriptor yL_bidder.desc).map (fun d => d.parameters.length) = some 3) ∧ Cond.static yL_bidder ∈ jbig := ⟨wd1103, wd1105, wd103, by decide, wd1104⟩
theorem kh_L_234 : Cond.methodLink RL 234 yL_keeper ∈ jbig ∧ Cond.codeWith yL_keeper cL_keeper 5 (some .int) [(0, 10, 13, 19), (0, 10, 17, 13)] ∈ jbig ∧ Cond.initialized yL_keeper.cls ∈ jbig ∧ (yL_keeper.cls ≠ "java/lang/invoke/MethodHandle" ∧ yL_keeper.cls ≠ "java/lang/invoke/VarHandle" ∧ (parseMethodDescriptor yL_keeper.desc).map (fun d => d.parameters.length) = some 4) ∧ Cond.static yL_keeper ∈ jbig := ⟨wd1110, wd1112, wd103, by decide, wd1111⟩
theorem kh_L_237 : Cond.methodLink RL 237 yL_endFrom ∈ jbig ∧ Cond.codeWith yL_endFrom cL_endFrom 4 (some .int) [(0, 9, 12, 19)] ∈ jbig ∧ Cond.initialized yL_endFrom.cls ∈ jbig ∧ (yL_endFrom.cls ≠ "java/lang/invoke/MethodHandle" ∧ yL_endFrom.cls ≠ "java/lang/invoke/VarHandle" ∧ (parseMethodDescriptor yL_endFrom.desc).map (fun d => d.parameters.length) = some 3) ∧ Cond.static yL_endFrom ∈ jbig := ⟨wd1120, wd1122, wd103, by decide, wd1121⟩
theorem kh_L_240 : Cond.methodLink RL 240 yL_end ∈ jbig ∧ Cond.codeWith yL_end cL_end 5 (some .int) [(0, 10, 13, 13)] ∈ jbig ∧ Cond.initialized yL_end.cls ∈ jbig ∧ (yL_end.cls ≠ "java/lang/invoke/MethodHandle" ∧ yL_end.cls ≠ "java/lang/invoke/VarHandle" ∧ (parseMethodDescriptor yL_end.desc).map (fun d => d.parameters.length) = some 4) ∧ Cond.static yL_end ∈ jbig := ⟨wd1131, wd1133, wd103, by decide, wd1132⟩
theorem kh_L_243 : Cond.methodLink RL 243 yL_ringer ∈ jbig ∧ Cond.codeWith yL_ringer cL_ringer 4 (some .int) [(0, 9, 12, 19)] ∈ jbig ∧ Cond.initialized yL_ringer.cls ∈ jbig ∧ (yL_ringer.cls ≠ "java/lang/invoke/MethodHandle" ∧ yL_ringer.cls ≠ "java/lang/invoke/VarHandle" ∧ (parseMethodDescriptor yL_ringer.desc).map (fun d => d.parameters.length) = some 3) ∧ Cond.static yL_ringer ∈ jbig := ⟨wd1150, wd1152, wd103, by decide, wd1151⟩
theorem kh_L_246 : Cond.methodLink RL 246 yL_news ∈ jbig ∧ Cond.codeWith yL_news cL_news 6 (some .int) [(0, 12, 15, 19), (0, 12, 19, 13)] ∈ jbig ∧ Cond.initialized yL_news.cls ∈ jbig ∧ (yL_news.cls ≠ "java/lang/invoke/MethodHandle" ∧ yL_news.cls ≠ "java/lang/invoke/VarHandle" ∧ (parseMethodDescriptor yL_news.desc).map (fun d => d.parameters.length) = some 5) ∧ Cond.static yL_news ∈ jbig := ⟨wd1157, wd1159, wd103, by decide, wd1158⟩
theorem kh_L_253 : Cond.methodLink RL 253 yL_share ∈ jbig ∧ Cond.codeWith yL_share cL_share 4 (some .int) [(0, 9, 12, 13)] ∈ jbig ∧ Cond.initialized yL_share.cls ∈ jbig ∧ (yL_share.cls ≠ "java/lang/invoke/MethodHandle" ∧ yL_share.cls ≠ "java/lang/invoke/VarHandle" ∧ (parseMethodDescriptor yL_share.desc).map (fun d => d.parameters.length) = some 3) ∧ Cond.static yL_share ∈ jbig := ⟨wd1165, wd1167, wd103, by decide, wd1166⟩
theorem kh_L_256 : Cond.methodLink RL 256 yL_hope ∈ jbig ∧ Cond.codeWith yL_hope cL_hope 7 (some .int) [(0, 14, 17, 19), (0, 14, 21, 38), (0, 14, 25, 13)] ∈ jbig ∧ Cond.initialized yL_hope.cls ∈ jbig ∧ (yL_hope.cls ≠ "java/lang/invoke/MethodHandle" ∧ yL_hope.cls ≠ "java/lang/invoke/VarHandle" ∧ (parseMethodDescriptor yL_hope.desc).map (fun d => d.parameters.length) = some 6) ∧ Cond.static yL_hope ∈ jbig := ⟨wd1172, wd1174, wd103, by decide, wd1173⟩
theorem kh_L_272 : Cond.methodLink RL 272 yL_tray ∈ jbig ∧ Cond.codeWith yL_tray cL_tray 5 (some .int) [(0, 7, 10, 19), (0, 7, 14, 13)] ∈ jbig ∧ Cond.initialized yL_tray.cls ∈ jbig ∧ (yL_tray.cls ≠ "java/lang/invoke/MethodHandle" ∧ yL_tray.cls ≠ "java/lang/invoke/VarHandle" ∧ (parseMethodDescriptor yL_tray.desc).map (fun d => d.parameters.length) = some 4) ∧ Cond.static yL_tray ∈ jbig := ⟨wd1199, wd1201, wd103, by decide, wd1200⟩
theorem kh_L_278 : Cond.methodLink RL 278 yL_write ∈ jbig ∧ Cond.codeWith yL_write cL_write 7 (some .int) [(0, 11, 14, 19), (0, 11, 18, 38), (0, 11, 22, 113)] ∈ jbig ∧ Cond.initialized yL_write.cls ∈ jbig ∧ (yL_write.cls ≠ "java/lang/invoke/MethodHandle" ∧ yL_write.cls ≠ "java/lang/invoke/VarHandle" ∧ (parseMethodDescriptor yL_write.desc).map (fun d => d.parameters.length) = some 5) ∧ Cond.static yL_write ∈ jbig := ⟨wd1213, wd1215, wd103, by decide, wd1214⟩
theorem kh_L_282 : Cond.methodLink RL 282 yL_pour ∈ jbig ∧ Cond.codeWith yL_pour cL_pour 4 (some .int) [(0, 9, 12, 19), (0, 9, 15, 38)] ∈ jbig ∧ Cond.initialized yL_pour.cls ∈ jbig ∧ (yL_pour.cls ≠ "java/lang/invoke/MethodHandle" ∧ yL_pour.cls ≠ "java/lang/invoke/VarHandle" ∧ (parseMethodDescriptor yL_pour.desc).map (fun d => d.parameters.length) = some 3) ∧ Cond.static yL_pour ∈ jbig := ⟨wd1244, wd1246, wd103, by decide, wd1245⟩
theorem kh_L_285 : Cond.methodLink RL 285 yL_image ∈ jbig ∧ Cond.codeWith yL_image cL_image 3 (some .int) [(0, 5, 8, 19)] ∈ jbig ∧ Cond.initialized yL_image.cls ∈ jbig ∧ (yL_image.cls ≠ "java/lang/invoke/MethodHandle" ∧ yL_image.cls ≠ "java/lang/invoke/VarHandle" ∧ (parseMethodDescriptor yL_image.desc).map (fun d => d.parameters.length) = some 2) ∧ Cond.static yL_image ∈ jbig := ⟨wd1251, wd1253, wd103, by decide, wd1252⟩
theorem kh_L_289 : Cond.methodLink RL 289 yL_restore ∈ jbig ∧ Cond.codeWith yL_restore cL_restore 3 (some .int) [(0, 5, 8, 19), (0, 5, 11, 38)] ∈ jbig ∧ Cond.initialized yL_restore.cls ∈ jbig ∧ (yL_restore.cls ≠ "java/lang/invoke/MethodHandle" ∧ yL_restore.cls ≠ "java/lang/invoke/VarHandle" ∧ (parseMethodDescriptor yL_restore.desc).map (fun d => d.parameters.length) = some 2) ∧ Cond.static yL_restore ∈ jbig := ⟨wd1262, wd1264, wd103, by decide, wd1263⟩

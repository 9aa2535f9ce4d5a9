theorem wd521 : Cond.constant RJ6 265 (1431655765) ∈ jbig := jbig_in (jtb_2 _ (List.mem_of_getElem? (i := 178) rfl)) rfl
theorem wd522 : Cond.constant RJ6 266 (858993459) ∈ jbig := jbig_in (jtb_2 _ (List.mem_of_getElem? (i := 179) rfl)) rfl
theorem wd523 : Cond.constant RJ6 267 (252645135) ∈ jbig := jbig_in (jtb_2 _ (List.mem_of_getElem? (i := 180) rfl)) rfl
theorem wd155 : Cond.fieldLink RX3 9 "TillTheBell$Town" "share" "I" ∈ jbig := jbig_in (jtb_1 _ (List.mem_of_getElem? (i := 52) rfl)) rfl
theorem wd158 : Cond.fieldLink RX3 15 "TillTheBell$Town" "bell" "I" ∈ jbig := jbig_in (jtb_1 _ (List.mem_of_getElem? (i := 55) rfl)) rfl
theorem wd170 : Cond.fieldLink RX3 18 "TillTheBell$Town" "coins" "[I" ∈ jbig := jbig_in (jtb_1 _ (List.mem_of_getElem? (i := 67) rfl)) rfl
theorem wd173 : Cond.fieldLink RX3 22 "TillTheBell$Town" "holders" "[I" ∈ jbig := jbig_in (jtb_1 _ (List.mem_of_getElem? (i := 70) rfl)) rfl
theorem wd176 : Cond.fieldLink RX3 25 "TillTheBell$Town" "worths" "[I" ∈ jbig := jbig_in (jtb_1 _ (List.mem_of_getElem? (i := 73) rfl)) rfl
theorem wd177 : Cond.fieldLink RX3 28 "TillTheBell$Town" "thingOf" "[I" ∈ jbig := jbig_in (jtb_1 _ (List.mem_of_getElem? (i := 74) rfl)) rfl
theorem wd180 : Cond.fieldLink RX3 31 "TillTheBell$Town" "giverOf" "[I" ∈ jbig := jbig_in (jtb_1 _ (List.mem_of_getElem? (i := 77) rfl)) rfl
theorem wd183 : Cond.fieldLink RX3 34 "TillTheBell$Town" "takerOf" "[I" ∈ jbig := jbig_in (jtb_1 _ (List.mem_of_getElem? (i := 80) rfl)) rfl
theorem wd186 : Cond.fieldLink RX3 37 "TillTheBell$Town" "priceOf" "[I" ∈ jbig := jbig_in (jtb_1 _ (List.mem_of_getElem? (i := 83) rfl)) rfl
theorem wd188 : Cond.fieldLink RX3 40 "TillTheBell$Town" "minuteOf" "[I" ∈ jbig := jbig_in (jtb_1 _ (List.mem_of_getElem? (i := 85) rfl)) rfl
theorem wd140 : Cond.fieldLink RX3 43 "TillTheBell$Town" "lines" "I" ∈ jbig := jbig_in (jtb_1 _ (List.mem_of_getElem? (i := 37) rfl)) rfl
theorem wd143 : Cond.fieldLink RX3 46 "TillTheBell$Town" "people" "I" ∈ jbig := jbig_in (jtb_1 _ (List.mem_of_getElem? (i := 40) rfl)) rfl
theorem wd148 : Cond.fieldLink RX3 49 "TillTheBell$Town" "things" "I" ∈ jbig := jbig_in (jtb_1 _ (List.mem_of_getElem? (i := 45) rfl)) rfl
theorem wd152 : Cond.fieldLink RX3 52 "TillTheBell$Town" "eaten" "I" ∈ jbig := jbig_in (jtb_1 _ (List.mem_of_getElem? (i := 49) rfl)) rfl
theorem wd161 : Cond.fieldLink RX3 55 "TillTheBell$Town" "minute" "I" ∈ jbig := jbig_in (jtb_1 _ (List.mem_of_getElem? (i := 58) rfl)) rfl
theorem wd163 : Cond.fieldLink RX3 58 "TillTheBell$Town" "deeds" "I" ∈ jbig := jbig_in (jtb_1 _ (List.mem_of_getElem? (i := 60) rfl)) rfl
theorem wd167 : Cond.fieldLink RX3 61 "TillTheBell$Town" "standing" "I" ∈ jbig := jbig_in (jtb_1 _ (List.mem_of_getElem? (i := 64) rfl)) rfl
theorem wd730 : Cond.methodLink RX3 64 yJ7_fill_53178 ∈ jbig := jbig_in (jtb_3 _ (List.mem_of_getElem? (i := 147) rfl)) rfl
theorem wd544 : Cond.code yJ7_fill_53178 cJ7_fill_53178 4 none ∈ jbig := jbig_in (jtb_2 _ (List.mem_of_getElem? (i := 201) rfl)) rfl
theorem wd114 : Cond.initialized RJ7 ∈ jbig := jbig_in (jtb_1 _ (List.mem_of_getElem? (i := 11) rfl)) rfl
theorem wd543 : Cond.static yJ7_fill_53178 ∈ jbig := jbig_in (jtb_2 _ (List.mem_of_getElem? (i := 200) rfl)) rfl
theorem wd396 : Cond.methodLink RX3 76 yX3_hasRung ∈ jbig := jbig_in (jtb_2 _ (List.mem_of_getElem? (i := 53) rfl)) rfl
theorem wd399 : Cond.code yX3_hasRung cX3_hasRung 1 (some .boolean) ∈ jbig := jbig_in (jtb_2 _ (List.mem_of_getElem? (i := 56) rfl)) rfl
theorem wd105 : Cond.initialized RX3 ∈ jbig := jbig_in (jtb_1 _ (List.mem_of_getElem? (i := 2) rfl)) rfl
theorem wd397 : Cond.instanceMethod yX3_hasRung ∈ jbig := jbig_in (jtb_2 _ (List.mem_of_getElem? (i := 54) rfl)) rfl
theorem wd398 : Cond.selects yX3_hasRung.cls yX3_hasRung yX3_hasRung ∈ jbig := jbig_in (jtb_2 _ (List.mem_of_getElem? (i := 55) rfl)) rfl
theorem wd420 : Cond.methodLink RX3 80 yX3_stands ∈ jbig := jbig_in (jtb_2 _ (List.mem_of_getElem? (i := 77) rfl)) rfl
theorem wd423 : Cond.code yX3_stands cX3_stands 2 (some .boolean) ∈ jbig := jbig_in (jtb_2 _ (List.mem_of_getElem? (i := 80) rfl)) rfl
theorem wd421 : Cond.instanceMethod yX3_stands ∈ jbig := jbig_in (jtb_2 _ (List.mem_of_getElem? (i := 78) rfl)) rfl
theorem wd422 : Cond.selects yX3_stands.cls yX3_stands yX3_stands ∈ jbig := jbig_in (jtb_2 _ (List.mem_of_getElem? (i := 79) rfl)) rfl
theorem wd400 : Cond.methodLink RX3 84 yX3_isEaten ∈ jbig := jbig_in (jtb_2 _ (List.mem_of_getElem? (i := 57) rfl)) rfl
theorem wd403 : Cond.code yX3_isEaten cX3_isEaten 2 (some .boolean) ∈ jbig := jbig_in (jtb_2 _ (List.mem_of_getElem? (i := 60) rfl)) rfl
theorem wd401 : Cond.instanceMethod yX3_isEaten ∈ jbig := jbig_in (jtb_2 _ (List.mem_of_getElem? (i := 58) rfl)) rfl
theorem wd402 : Cond.selects yX3_isEaten.cls yX3_isEaten yX3_isEaten ∈ jbig := jbig_in (jtb_2 _ (List.mem_of_getElem? (i := 59) rfl)) rfl
theorem wd416 : Cond.methodLink RX3 87 yX3_isOpen ∈ jbig := jbig_in (jtb_2 _ (List.mem_of_getElem? (i := 73) rfl)) rfl
theorem wd419 : Cond.code yX3_isOpen cX3_isOpen 2 (some .boolean) ∈ jbig := jbig_in (jtb_2 _ (List.mem_of_getElem? (i := 76) rfl)) rfl
theorem wd417 : Cond.instanceMethod yX3_isOpen ∈ jbig := jbig_in (jtb_2 _ (List.mem_of_getElem? (i := 74) rfl)) rfl
theorem wd418 : Cond.selects yX3_isOpen.cls yX3_isOpen yX3_isOpen ∈ jbig := jbig_in (jtb_2 _ (List.mem_of_getElem? (i := 75) rfl)) rfl
theorem wd445 : Cond.methodLink RX3 90 yX3_worthTo ∈ jbig := jbig_in (jtb_2 _ (List.mem_of_getElem? (i := 102) rfl)) rfl
theorem wd448 : Cond.code yX3_worthTo cX3_worthTo 3 (some .int) ∈ jbig := jbig_in (jtb_2 _ (List.mem_of_getElem? (i := 105) rfl)) rfl
theorem wd446 : Cond.instanceMethod yX3_worthTo ∈ jbig := jbig_in (jtb_2 _ (List.mem_of_getElem? (i := 103) rfl)) rfl
theorem wd447 : Cond.selects yX3_worthTo.cls yX3_worthTo yX3_worthTo ∈ jbig := jbig_in (jtb_2 _ (List.mem_of_getElem? (i := 104) rfl)) rfl
theorem wd646 : Cond.methodLink RX3 94 yX3_wealth ∈ jbig := jbig_in (jtb_3 _ (List.mem_of_getElem? (i := 63) rfl)) rfl
theorem wd649 : Cond.code yX3_wealth cX3_wealth 4 (some .int) ∈ jbig := jbig_in (jtb_3 _ (List.mem_of_getElem? (i := 66) rfl)) rfl
theorem wd647 : Cond.instanceMethod yX3_wealth ∈ jbig := jbig_in (jtb_3 _ (List.mem_of_getElem? (i := 64) rfl)) rfl
theorem wd648 : Cond.selects yX3_wealth.cls yX3_wealth yX3_wealth ∈ jbig := jbig_in (jtb_3 _ (List.mem_of_getElem? (i := 65) rfl)) rfl
theorem wd453 : Cond.methodLink RX3 98 Lib.Math.max.name ∈ jbig := jbig_in (jtb_2 _ (List.mem_of_getElem? (i := 110) rfl)) rfl
theorem wd454 : Cond.static Lib.Math.max.name ∈ jbig := jbig_in (jtb_2 _ (List.mem_of_getElem? (i := 111) rfl)) rfl
theorem wd121 : Cond.initialized "java/lang/Math" ∈ jbig := jbig_in (jtb_1 _ (List.mem_of_getElem? (i := 18) rfl)) rfl
theorem wd455 : Cond.code Lib.Math.max.name Lib.Math.max.code 2 (some .int) ∈ jbig := jbig_in (jtb_2 _ (List.mem_of_getElem? (i := 112) rfl)) rfl
theorem wd388 : Cond.methodLink RX3 103 yX3_hasThing ∈ jbig := jbig_in (jtb_2 _ (List.mem_of_getElem? (i := 45) rfl)) rfl
theorem wd391 : Cond.code yX3_hasThing cX3_hasThing 2 (some .boolean) ∈ jbig := jbig_in (jtb_2 _ (List.mem_of_getElem? (i := 48) rfl)) rfl
theorem wd389 : Cond.instanceMethod yX3_hasThing ∈ jbig := jbig_in (jtb_2 _ (List.mem_of_getElem? (i := 46) rfl)) rfl
theorem wd390 : Cond.selects yX3_hasThing.cls yX3_hasThing yX3_hasThing ∈ jbig := jbig_in (jtb_2 _ (List.mem_of_getElem? (i := 47) rfl)) rfl
theorem wd392 : Cond.methodLink RX3 106 yX3_hasPerson ∈ jbig := jbig_in (jtb_2 _ (List.mem_of_getElem? (i := 49) rfl)) rfl
theorem wd395 : Cond.code yX3_hasPerson cX3_hasPerson 2 (some .boolean) ∈ jbig := jbig_in (jtb_2 _ (List.mem_of_getElem? (i := 52) rfl)) rfl
theorem wd393 : Cond.instanceMethod yX3_hasPerson ∈ jbig := jbig_in (jtb_2 _ (List.mem_of_getElem? (i := 50) rfl)) rfl
theorem wd394 : Cond.selects yX3_hasPerson.cls yX3_hasPerson yX3_hasPerson ∈ jbig := jbig_in (jtb_2 _ (List.mem_of_getElem? (i := 51) rfl)) rfl
theorem wd437 : Cond.methodLink RX3 134 yX3_fallsWith ∈ jbig := jbig_in (jtb_2 _ (List.mem_of_getElem? (i := 94) rfl)) rfl
theorem wd440 : Cond.code yX3_fallsWith cX3_fallsWith 3 (some .boolean) ∈ jbig := jbig_in (jtb_2 _ (List.mem_of_getElem? (i := 97) rfl)) rfl
theorem wd438 : Cond.instanceMethod yX3_fallsWith ∈ jbig := jbig_in (jtb_2 _ (List.mem_of_getElem? (i := 95) rfl)) rfl
theorem wd439 : Cond.selects yX3_fallsWith.cls yX3_fallsWith yX3_fallsWith ∈ jbig := jbig_in (jtb_2 _ (List.mem_of_getElem? (i := 96) rfl)) rfl
theorem wd449 : Cond.methodLink RX3 137 yX3_worthToGiver ∈ jbig := jbig_in (jtb_2 _ (List.mem_of_getElem? (i := 106) rfl)) rfl
theorem wd452 : Cond.code yX3_worthToGiver cX3_worthToGiver 2 (some .int) ∈ jbig := jbig_in (jtb_2 _ (List.mem_of_getElem? (i := 109) rfl)) rfl
theorem wd450 : Cond.instanceMethod yX3_worthToGiver ∈ jbig := jbig_in (jtb_2 _ (List.mem_of_getElem? (i := 107) rfl)) rfl
theorem wd451 : Cond.selects yX3_worthToGiver.cls yX3_worthToGiver yX3_worthToGiver ∈ jbig := jbig_in (jtb_2 _ (List.mem_of_getElem? (i := 108) rfl)) rfl
theorem wd456 : Cond.methodLink RX3 140 yX3_cut ∈ jbig := jbig_in (jtb_2 _ (List.mem_of_getElem? (i := 113) rfl)) rfl
theorem wd459 : Cond.code yX3_cut cX3_cut 2 (some .int) ∈ jbig := jbig_in (jtb_2 _ (List.mem_of_getElem? (i := 116) rfl)) rfl
theorem wd457 : Cond.instanceMethod yX3_cut ∈ jbig := jbig_in (jtb_2 _ (List.mem_of_getElem? (i := 114) rfl)) rfl
theorem wd458 : Cond.selects yX3_cut.cls yX3_cut yX3_cut ∈ jbig := jbig_in (jtb_2 _ (List.mem_of_getElem? (i := 115) rfl)) rfl
theorem wd460 : Cond.methodLink RX3 143 yX3_worthToTaker ∈ jbig := jbig_in (jtb_2 _ (List.mem_of_getElem? (i := 117) rfl)) rfl
theorem wd463 : Cond.code yX3_worthToTaker cX3_worthToTaker 2 (some .int) ∈ jbig := jbig_in (jtb_2 _ (List.mem_of_getElem? (i := 120) rfl)) rfl
theorem wd461 : Cond.instanceMethod yX3_worthToTaker ∈ jbig := jbig_in (jtb_2 _ (List.mem_of_getElem? (i := 118) rfl)) rfl
theorem wd462 : Cond.selects yX3_worthToTaker.cls yX3_worthToTaker yX3_worthToTaker ∈ jbig := jbig_in (jtb_2 _ (List.mem_of_getElem? (i := 119) rfl)) rfl
theorem wd489 : Cond.methodLink RX3 109 yX3_hasDeed ∈ jbig := jbig_in (jtb_2 _ (List.mem_of_getElem? (i := 146) rfl)) rfl
theorem wd492 : Cond.code yX3_hasDeed cX3_hasDeed 2 (some .boolean) ∈ jbig := jbig_in (jtb_2 _ (List.mem_of_getElem? (i := 149) rfl)) rfl
theorem wd490 : Cond.instanceMethod yX3_hasDeed ∈ jbig := jbig_in (jtb_2 _ (List.mem_of_getElem? (i := 147) rfl)) rfl
theorem wd491 : Cond.selects yX3_hasDeed.cls yX3_hasDeed yX3_hasDeed ∈ jbig := jbig_in (jtb_2 _ (List.mem_of_getElem? (i := 148) rfl)) rfl
theorem wd493 : Cond.methodLink RX3 112 yX3_isOf ∈ jbig := jbig_in (jtb_2 _ (List.mem_of_getElem? (i := 150) rfl)) rfl
theorem wd496 : Cond.code yX3_isOf cX3_isOf 3 (some .boolean) ∈ jbig := jbig_in (jtb_2 _ (List.mem_of_getElem? (i := 153) rfl)) rfl
theorem wd494 : Cond.instanceMethod yX3_isOf ∈ jbig := jbig_in (jtb_2 _ (List.mem_of_getElem? (i := 151) rfl)) rfl
theorem wd495 : Cond.selects yX3_isOf.cls yX3_isOf yX3_isOf ∈ jbig := jbig_in (jtb_2 _ (List.mem_of_getElem? (i := 152) rfl)) rfl
theorem wd497 : Cond.methodLink RX3 116 yX3_priceChange ∈ jbig := jbig_in (jtb_2 _ (List.mem_of_getElem? (i := 154) rfl)) rfl
theorem wd500 : Cond.code yX3_priceChange cX3_priceChange 5 (some .int) ∈ jbig := jbig_in (jtb_2 _ (List.mem_of_getElem? (i := 157) rfl)) rfl
theorem wd498 : Cond.instanceMethod yX3_priceChange ∈ jbig := jbig_in (jtb_2 _ (List.mem_of_getElem? (i := 155) rfl)) rfl
theorem wd499 : Cond.selects yX3_priceChange.cls yX3_priceChange yX3_priceChange ∈ jbig := jbig_in (jtb_2 _ (List.mem_of_getElem? (i := 156) rfl)) rfl
theorem wd501 : Cond.methodLink RX3 119 yX3_owedToAll ∈ jbig := jbig_in (jtb_2 _ (List.mem_of_getElem? (i := 158) rfl)) rfl
theorem wd504 : Cond.code yX3_owedToAll cX3_owedToAll 5 (some .int) ∈ jbig := jbig_in (jtb_2 _ (List.mem_of_getElem? (i := 161) rfl)) rfl
theorem wd502 : Cond.instanceMethod yX3_owedToAll ∈ jbig := jbig_in (jtb_2 _ (List.mem_of_getElem? (i := 159) rfl)) rfl
theorem wd503 : Cond.selects yX3_owedToAll.cls yX3_owedToAll yX3_owedToAll ∈ jbig := jbig_in (jtb_2 _ (List.mem_of_getElem? (i := 160) rfl)) rfl
theorem wd510 : Cond.methodLink RX3 122 yX3_fallBits ∈ jbig := jbig_in (jtb_2 _ (List.mem_of_getElem? (i := 167) rfl)) rfl
theorem wd513 : Cond.code yX3_fallBits cX3_fallBits 4 (some .int) ∈ jbig := jbig_in (jtb_2 _ (List.mem_of_getElem? (i := 170) rfl)) rfl
theorem wd511 : Cond.instanceMethod yX3_fallBits ∈ jbig := jbig_in (jtb_2 _ (List.mem_of_getElem? (i := 168) rfl)) rfl
theorem wd512 : Cond.selects yX3_fallBits.cls yX3_fallBits yX3_fallBits ∈ jbig := jbig_in (jtb_2 _ (List.mem_of_getElem? (i := 169) rfl)) rfl
theorem wd518 : Cond.methodLink RX3 129 yJ6_bitCount_0f7a4 ∈ jbig := jbig_in (jtb_2 _ (List.mem_of_getElem? (i := 175) rfl)) rfl
theorem wd520 : Cond.code yJ6_bitCount_0f7a4 cJ6_bitCount_0f7a4 1 (some .int) ∈ jbig := jbig_in (jtb_2 _ (List.mem_of_getElem? (i := 177) rfl)) rfl
theorem wd123 : Cond.initialized RJ6 ∈ jbig := jbig_in (jtb_1 _ (List.mem_of_getElem? (i := 20) rfl)) rfl
theorem wd519 : Cond.static yJ6_bitCount_0f7a4 ∈ jbig := jbig_in (jtb_2 _ (List.mem_of_getElem? (i := 176) rfl)) rfl
theorem wd514 : Cond.methodLink RX3 125 yX3_owedTo ∈ jbig := jbig_in (jtb_2 _ (List.mem_of_getElem? (i := 171) rfl)) rfl
theorem wd517 : Cond.code yX3_owedTo cX3_owedTo 6 (some .int) ∈ jbig := jbig_in (jtb_2 _ (List.mem_of_getElem? (i := 174) rfl)) rfl
theorem wd515 : Cond.instanceMethod yX3_owedTo ∈ jbig := jbig_in (jtb_2 _ (List.mem_of_getElem? (i := 172) rfl)) rfl
theorem wd516 : Cond.selects yX3_owedTo.cls yX3_owedTo yX3_owedTo ∈ jbig := jbig_in (jtb_2 _ (List.mem_of_getElem? (i := 173) rfl)) rfl
theorem wd441 : Cond.methodLink RX3 146 yX3_partOfUndoer ∈ jbig := jbig_in (jtb_2 _ (List.mem_of_getElem? (i := 98) rfl)) rfl
theorem wd444 : Cond.code yX3_partOfUndoer cX3_partOfUndoer 6 (some .int) ∈ jbig := jbig_in (jtb_2 _ (List.mem_of_getElem? (i := 101) rfl)) rfl
theorem wd442 : Cond.instanceMethod yX3_partOfUndoer ∈ jbig := jbig_in (jtb_2 _ (List.mem_of_getElem? (i := 99) rfl)) rfl
theorem wd443 : Cond.selects yX3_partOfUndoer.cls yX3_partOfUndoer yX3_partOfUndoer ∈ jbig := jbig_in (jtb_2 _ (List.mem_of_getElem? (i := 100) rfl)) rfl
theorem wd433 : Cond.methodLink RX3 149 yX3_gainOf ∈ jbig := jbig_in (jtb_2 _ (List.mem_of_getElem? (i := 90) rfl)) rfl
theorem wd436 : Cond.code yX3_gainOf cX3_gainOf 5 (some .int) ∈ jbig := jbig_in (jtb_2 _ (List.mem_of_getElem? (i := 93) rfl)) rfl
theorem wd434 : Cond.instanceMethod yX3_gainOf ∈ jbig := jbig_in (jtb_2 _ (List.mem_of_getElem? (i := 91) rfl)) rfl
theorem wd435 : Cond.selects yX3_gainOf.cls yX3_gainOf yX3_gainOf ∈ jbig := jbig_in (jtb_2 _ (List.mem_of_getElem? (i := 92) rfl)) rfl
theorem wd481 : Cond.methodLink RX3 152 yX3_sideOf ∈ jbig := jbig_in (jtb_2 _ (List.mem_of_getElem? (i := 138) rfl)) rfl
theorem wd484 : Cond.code yX3_sideOf cX3_sideOf 3 (some .int) ∈ jbig := jbig_in (jtb_2 _ (List.mem_of_getElem? (i := 141) rfl)) rfl
theorem wd482 : Cond.instanceMethod yX3_sideOf ∈ jbig := jbig_in (jtb_2 _ (List.mem_of_getElem? (i := 139) rfl)) rfl
theorem wd483 : Cond.selects yX3_sideOf.cls yX3_sideOf yX3_sideOf ∈ jbig := jbig_in (jtb_2 _ (List.mem_of_getElem? (i := 140) rfl)) rfl
theorem wd485 : Cond.methodLink RX3 155 yX3_whyNoUndoing ∈ jbig := jbig_in (jtb_2 _ (List.mem_of_getElem? (i := 142) rfl)) rfl
theorem wd488 : Cond.code yX3_whyNoUndoing cX3_whyNoUndoing 3 (some .int) ∈ jbig := jbig_in (jtb_2 _ (List.mem_of_getElem? (i := 145) rfl)) rfl
theorem wd486 : Cond.instanceMethod yX3_whyNoUndoing ∈ jbig := jbig_in (jtb_2 _ (List.mem_of_getElem? (i := 143) rfl)) rfl
theorem wd487 : Cond.selects yX3_whyNoUndoing.cls yX3_whyNoUndoing yX3_whyNoUndoing ∈ jbig := jbig_in (jtb_2 _ (List.mem_of_getElem? (i := 144) rfl)) rfl
theorem wd628 : Cond.methodLink RX3 158 yX3_wants ∈ jbig := jbig_in (jtb_3 _ (List.mem_of_getElem? (i := 45) rfl)) rfl
theorem wd619 : Cond.code yX3_wants cX3_wants 4 (some .boolean) ∈ jbig := jbig_in (jtb_3 _ (List.mem_of_getElem? (i := 36) rfl)) rfl
theorem wd617 : Cond.instanceMethod yX3_wants ∈ jbig := jbig_in (jtb_3 _ (List.mem_of_getElem? (i := 34) rfl)) rfl
theorem wd618 : Cond.selects yX3_wants.cls yX3_wants yX3_wants ∈ jbig := jbig_in (jtb_3 _ (List.mem_of_getElem? (i := 35) rfl)) rfl
theorem wd574 : Cond.methodLink RX3 70 arraycopyName ∈ jbig := jbig_in (jtb_2 _ (List.mem_of_getElem? (i := 231) rfl)) rfl
theorem wd576 : Cond.native arraycopyName ∈ jbig := jbig_in (jtb_2 _ (List.mem_of_getElem? (i := 233) rfl)) rfl
theorem wd575 : Cond.static arraycopyName ∈ jbig := jbig_in (jtb_2 _ (List.mem_of_getElem? (i := 232) rfl)) rfl
theorem wd119 : Cond.initialized "java/lang/System" ∈ jbig := jbig_in (jtb_1 _ (List.mem_of_getElem? (i := 16) rfl)) rfl
theorem wd330 : Cond.fieldLink RX4 9 "TillTheBell$Tray" "missing" "Z" ∈ jbig := jbig_in (jtb_1 _ (List.mem_of_getElem? (i := 227) rfl)) rfl
theorem wd334 : Cond.fieldLink RX4 15 "TillTheBell$Tray" "row" "[J" ∈ jbig := jbig_in (jtb_1 _ (List.mem_of_getElem? (i := 231) rfl)) rfl
theorem wd336 : Cond.fieldLink RX4 19 "TillTheBell$Tray" "sort" "I" ∈ jbig := jbig_in (jtb_1 _ (List.mem_of_getElem? (i := 233) rfl)) rfl
theorem wd332 : Cond.fieldLink RX4 23 "TillTheBell$Tray" "many" "I" ∈ jbig := jbig_in (jtb_1 _ (List.mem_of_getElem? (i := 229) rfl)) rfl
theorem wd1183 : Cond.constantLong RX4 36 (9999) ∈ jbig := jbig_in (jtb_5 _ (List.mem_of_getElem? (i := 120) rfl)) rfl
theorem wd1210 : Cond.methodLink RX4 26 yJ7_fill_d0a16 ∈ jbig := jbig_in (jtb_5 _ (List.mem_of_getElem? (i := 147) rfl)) rfl
theorem wd1212 : Cond.code yJ7_fill_d0a16 cJ7_fill_d0a16 5 none ∈ jbig := jbig_in (jtb_5 _ (List.mem_of_getElem? (i := 149) rfl)) rfl
theorem wd1211 : Cond.static yJ7_fill_d0a16 ∈ jbig := jbig_in (jtb_5 _ (List.mem_of_getElem? (i := 148) rfl)) rfl
theorem wd1240 : Cond.methodLink RX4 32 yX4_cutToSort ∈ jbig := jbig_in (jtb_5 _ (List.mem_of_getElem? (i := 177) rfl)) rfl
theorem wd1243 : Cond.code yX4_cutToSort cX4_cutToSort 3 (some .long) ∈ jbig := jbig_in (jtb_5 _ (List.mem_of_getElem? (i := 180) rfl)) rfl
theorem wd108 : Cond.initialized RX4 ∈ jbig := jbig_in (jtb_1 _ (List.mem_of_getElem? (i := 5) rfl)) rfl
theorem wd1242 : Cond.instanceMethod yX4_cutToSort ∈ jbig := jbig_in (jtb_5 _ (List.mem_of_getElem? (i := 179) rfl)) rfl
theorem wd41 : Cond.selects yX4_cutToSort.cls yX4_cutToSort yX4_cutToSort ∈ jbig := jbig_of 41 rfl rfl
theorem wd1192 : Cond.methodLink RX4 46 Lib.MathLoose.max_long.x ∈ jbig := jbig_in (jtb_5 _ (List.mem_of_getElem? (i := 129) rfl)) rfl
theorem wd1193 : Cond.static Lib.MathLoose.max_long.x ∈ jbig := jbig_in (jtb_5 _ (List.mem_of_getElem? (i := 130) rfl)) rfl
theorem wd1194 : Cond.code Lib.MathLoose.max_long.x Lib.MathLoose.max_long.code 4 (some .long) ∈ jbig := jbig_in (jtb_5 _ (List.mem_of_getElem? (i := 131) rfl)) rfl
theorem wd1188 : Cond.methodLink RX4 38 yX4_hopeAhead ∈ jbig := jbig_in (jtb_5 _ (List.mem_of_getElem? (i := 125) rfl)) rfl
theorem wd1191 : Cond.code yX4_hopeAhead cX4_hopeAhead 10 (some .long) ∈ jbig := jbig_in (jtb_5 _ (List.mem_of_getElem? (i := 128) rfl)) rfl
theorem wd1190 : Cond.instanceMethod yX4_hopeAhead ∈ jbig := jbig_in (jtb_5 _ (List.mem_of_getElem? (i := 127) rfl)) rfl
theorem wd39 : Cond.selects yX4_hopeAhead.cls yX4_hopeAhead yX4_hopeAhead ∈ jbig := jbig_of 39 rfl rfl
theorem wd1195 : Cond.methodLink RX4 42 yX4_leastTaken ∈ jbig := jbig_in (jtb_5 _ (List.mem_of_getElem? (i := 132) rfl)) rfl
theorem wd1198 : Cond.code yX4_leastTaken cX4_leastTaken 9 (some .int) ∈ jbig := jbig_in (jtb_5 _ (List.mem_of_getElem? (i := 135) rfl)) rfl
theorem wd1197 : Cond.instanceMethod yX4_leastTaken ∈ jbig := jbig_in (jtb_5 _ (List.mem_of_getElem? (i := 134) rfl)) rfl
theorem wd40 : Cond.selects yX4_leastTaken.cls yX4_leastTaken yX4_leastTaken ∈ jbig := jbig_of 40 rfl rfl
theorem wd1043 : Cond.fieldLink RX0 7 "TillTheBell$Draws" "x" "I" ∈ jbig := jbig_in (jtb_4 _ (List.mem_of_getElem? (i := 220) rfl)) rfl
theorem wd149 : Cond.fieldLink RX0 25 "TillTheBell$Town" "things" "I" ∈ jbig := jbig_in (jtb_1 _ (List.mem_of_getElem? (i := 46) rfl)) rfl
theorem wd145 : Cond.fieldLink RX0 30 "TillTheBell$Town" "people" "I" ∈ jbig := jbig_in (jtb_1 _ (List.mem_of_getElem? (i := 42) rfl)) rfl
theorem wd165 : Cond.fieldLink RX0 40 "TillTheBell$Town" "deeds" "I" ∈ jbig := jbig_in (jtb_1 _ (List.mem_of_getElem? (i := 62) rfl)) rfl
theorem wd1055 : Cond.constant RX0 13 (1103515245) ∈ jbig := jbig_in (jtb_4 _ (List.mem_of_getElem? (i := 232) rfl)) rfl
theorem wd1051 : Cond.methodLink RX0 14 yX0_draw ∈ jbig := jbig_in (jtb_4 _ (List.mem_of_getElem? (i := 228) rfl)) rfl
theorem wd1054 : Cond.code yX0_draw cX0_draw 2 (some .int) ∈ jbig := jbig_in (jtb_4 _ (List.mem_of_getElem? (i := 231) rfl)) rfl
theorem wd124 : Cond.initialized RX0 ∈ jbig := jbig_in (jtb_1 _ (List.mem_of_getElem? (i := 21) rfl)) rfl
theorem wd1053 : Cond.instanceMethod yX0_draw ∈ jbig := jbig_in (jtb_4 _ (List.mem_of_getElem? (i := 230) rfl)) rfl
theorem wd35 : Cond.selects yX0_draw.cls yX0_draw yX0_draw ∈ jbig := jbig_of 35 rfl rfl
theorem wd1067 : Cond.methodLink RX0 33 yX3_whyNoDeed ∈ jbig := jbig_in (jtb_5 _ (List.mem_of_getElem? (i := 4) rfl)) rfl
theorem wd387 : Cond.code yX3_whyNoDeed cX3_whyNoDeed 4 (some .int) ∈ jbig := jbig_in (jtb_2 _ (List.mem_of_getElem? (i := 44) rfl)) rfl
theorem wd385 : Cond.instanceMethod yX3_whyNoDeed ∈ jbig := jbig_in (jtb_2 _ (List.mem_of_getElem? (i := 42) rfl)) rfl
theorem wd386 : Cond.selects yX3_whyNoDeed.cls yX3_whyNoDeed yX3_whyNoDeed ∈ jbig := jbig_in (jtb_2 _ (List.mem_of_getElem? (i := 43) rfl)) rfl
theorem wd1068 : Cond.methodLink RX0 37 yX3_make ∈ jbig := jbig_in (jtb_5 _ (List.mem_of_getElem? (i := 5) rfl)) rfl
theorem wd407 : Cond.code yX3_make cX3_make 5 (some .int) ∈ jbig := jbig_in (jtb_2 _ (List.mem_of_getElem? (i := 64) rfl)) rfl
theorem wd405 : Cond.instanceMethod yX3_make ∈ jbig := jbig_in (jtb_2 _ (List.mem_of_getElem? (i := 62) rfl)) rfl
theorem wd406 : Cond.selects yX3_make.cls yX3_make yX3_make ∈ jbig := jbig_in (jtb_2 _ (List.mem_of_getElem? (i := 63) rfl)) rfl
theorem wd1060 : Cond.methodLink RX0 43 yX3_sideOf ∈ jbig := jbig_in (jtb_4 _ (List.mem_of_getElem? (i := 237) rfl)) rfl
theorem wd1061 : Cond.methodLink RX0 47 yX3_whyNoUndoing ∈ jbig := jbig_in (jtb_4 _ (List.mem_of_getElem? (i := 238) rfl)) rfl
theorem wd1062 : Cond.methodLink RX0 50 yX3_fell ∈ jbig := jbig_in (jtb_4 _ (List.mem_of_getElem? (i := 239) rfl)) rfl
theorem wd509 : Cond.code yX3_fell cX3_fell 6 (some .int) ∈ jbig := jbig_in (jtb_2 _ (List.mem_of_getElem? (i := 166) rfl)) rfl
theorem wd507 : Cond.instanceMethod yX3_fell ∈ jbig := jbig_in (jtb_2 _ (List.mem_of_getElem? (i := 164) rfl)) rfl
theorem wd508 : Cond.selects yX3_fell.cls yX3_fell yX3_fell ∈ jbig := jbig_in (jtb_2 _ (List.mem_of_getElem? (i := 165) rfl)) rfl
theorem wd1063 : Cond.methodLink RX0 22 yX0_deals ∈ jbig := jbig_in (jtb_5 _ (List.mem_of_getElem? (i := 0) rfl)) rfl
theorem wd1066 : Cond.code yX0_deals cX0_deals 5 (some .boolean) ∈ jbig := jbig_in (jtb_5 _ (List.mem_of_getElem? (i := 3) rfl)) rfl
theorem wd1065 : Cond.instanceMethod yX0_deals ∈ jbig := jbig_in (jtb_5 _ (List.mem_of_getElem? (i := 2) rfl)) rfl
theorem wd37 : Cond.selects yX0_deals.cls yX0_deals yX0_deals ∈ jbig := jbig_of 37 rfl rfl
theorem wd1056 : Cond.methodLink RX0 18 yX0_undoes ∈ jbig := jbig_in (jtb_4 _ (List.mem_of_getElem? (i := 233) rfl)) rfl
theorem wd1059 : Cond.code yX0_undoes cX0_undoes 4 (some .boolean) ∈ jbig := jbig_in (jtb_4 _ (List.mem_of_getElem? (i := 236) rfl)) rfl
theorem wd1058 : Cond.instanceMethod yX0_undoes ∈ jbig := jbig_in (jtb_4 _ (List.mem_of_getElem? (i := 235) rfl)) rfl
theorem wd36 : Cond.selects yX0_undoes.cls yX0_undoes yX0_undoes ∈ jbig := jbig_of 36 rfl rfl
theorem wd283 : Cond.fieldLink RX1 9 "TillTheBell$Ending" "deedAt" "[I" ∈ jbig := jbig_in (jtb_1 _ (List.mem_of_getElem? (i := 180) rfl)) rfl
theorem wd284 : Cond.fieldLink RX1 15 "TillTheBell$Ending" "withIt" "[I" ∈ jbig := jbig_in (jtb_1 _ (List.mem_of_getElem? (i := 181) rfl)) rfl
theorem wd285 : Cond.fieldLink RX1 18 "TillTheBell$Ending" "mine" "[I" ∈ jbig := jbig_in (jtb_1 _ (List.mem_of_getElem? (i := 182) rfl)) rfl
theorem wd286 : Cond.fieldLink RX1 21 "TillTheBell$Ending" "mineMany" "[I" ∈ jbig := jbig_in (jtb_1 _ (List.mem_of_getElem? (i := 183) rfl)) rfl
theorem wd287 : Cond.fieldLink RX1 24 "TillTheBell$Ending" "undoerParts" "[I" ∈ jbig := jbig_in (jtb_1 _ (List.mem_of_getElem? (i := 184) rfl)) rfl
theorem wd288 : Cond.fieldLink RX1 27 "TillTheBell$Ending" "otherParts" "[I" ∈ jbig := jbig_in (jtb_1 _ (List.mem_of_getElem? (i := 185) rfl)) rfl
theorem wd289 : Cond.fieldLink RX1 30 "TillTheBell$Ending" "ahead" "[I" ∈ jbig := jbig_in (jtb_1 _ (List.mem_of_getElem? (i := 186) rfl)) rfl
theorem wd290 : Cond.fieldLink RX1 33 "TillTheBell$Ending" "reached" "[I" ∈ jbig := jbig_in (jtb_1 _ (List.mem_of_getElem? (i := 187) rfl)) rfl
theorem wd291 : Cond.fieldLink RX1 36 "TillTheBell$Ending" "choices" "[J" ∈ jbig := jbig_in (jtb_1 _ (List.mem_of_getElem? (i := 188) rfl)) rfl
theorem wd292 : Cond.fieldLink RX1 40 "TillTheBell$Ending" "undone" "[I" ∈ jbig := jbig_in (jtb_1 _ (List.mem_of_getElem? (i := 189) rfl)) rfl
theorem wd144 : Cond.fieldLink RX1 55 "TillTheBell$Town" "people" "I" ∈ jbig := jbig_in (jtb_1 _ (List.mem_of_getElem? (i := 41) rfl)) rfl
theorem wd279 : Cond.fieldLink RX1 59 "TillTheBell$Ending" "people" "I" ∈ jbig := jbig_in (jtb_1 _ (List.mem_of_getElem? (i := 176) rfl)) rfl
theorem wd280 : Cond.fieldLink RX1 60 "TillTheBell$Ending" "first" "I" ∈ jbig := jbig_in (jtb_1 _ (List.mem_of_getElem? (i := 177) rfl)) rfl
theorem wd281 : Cond.fieldLink RX1 63 "TillTheBell$Ending" "turns" "I" ∈ jbig := jbig_in (jtb_1 _ (List.mem_of_getElem? (i := 178) rfl)) rfl
theorem wd282 : Cond.fieldLink RX1 66 "TillTheBell$Ending" "many" "I" ∈ jbig := jbig_in (jtb_1 _ (List.mem_of_getElem? (i := 179) rfl)) rfl
theorem wd164 : Cond.fieldLink RX1 75 "TillTheBell$Town" "deeds" "I" ∈ jbig := jbig_in (jtb_1 _ (List.mem_of_getElem? (i := 61) rfl)) rfl
theorem wd178 : Cond.fieldLink RX1 85 "TillTheBell$Town" "thingOf" "[I" ∈ jbig := jbig_in (jtb_1 _ (List.mem_of_getElem? (i := 75) rfl)) rfl
theorem wd181 : Cond.fieldLink RX1 88 "TillTheBell$Town" "giverOf" "[I" ∈ jbig := jbig_in (jtb_1 _ (List.mem_of_getElem? (i := 78) rfl)) rfl
theorem wd184 : Cond.fieldLink RX1 95 "TillTheBell$Town" "takerOf" "[I" ∈ jbig := jbig_in (jtb_1 _ (List.mem_of_getElem? (i := 81) rfl)) rfl
theorem wd169 : Cond.fieldLink RX1 137 "TillTheBell$Town" "standing" "I" ∈ jbig := jbig_in (jtb_1 _ (List.mem_of_getElem? (i := 66) rfl)) rfl
theorem wd277 : Cond.fieldLink RX1 140 "TillTheBell$Ending" "left" "I" ∈ jbig := jbig_in (jtb_1 _ (List.mem_of_getElem? (i := 174) rfl)) rfl
theorem wd611 : Cond.constantLong RX1 135 (15) ∈ jbig := jbig_in (jtb_3 _ (List.mem_of_getElem? (i := 28) rfl)) rfl
theorem wd549 : Cond.methodLink RX1 91 yX1_layFor ∈ jbig := jbig_in (jtb_2 _ (List.mem_of_getElem? (i := 206) rfl)) rfl
theorem wd552 : Cond.code yX1_layFor cX1_layFor 2 none ∈ jbig := jbig_in (jtb_2 _ (List.mem_of_getElem? (i := 209) rfl)) rfl
theorem wd107 : Cond.initialized RX1 ∈ jbig := jbig_in (jtb_1 _ (List.mem_of_getElem? (i := 4) rfl)) rfl
theorem wd551 : Cond.instanceMethod yX1_layFor ∈ jbig := jbig_in (jtb_2 _ (List.mem_of_getElem? (i := 208) rfl)) rfl
theorem wd2 : Cond.selects yX1_layFor.cls yX1_layFor yX1_layFor ∈ jbig := jbig_of 2 rfl rfl
theorem wd557 : Cond.methodLink RX1 98 yX1_whole ∈ jbig := jbig_in (jtb_2 _ (List.mem_of_getElem? (i := 214) rfl)) rfl
theorem wd560 : Cond.code yX1_whole cX1_whole 1 (some .int) ∈ jbig := jbig_in (jtb_2 _ (List.mem_of_getElem? (i := 217) rfl)) rfl
theorem wd559 : Cond.instanceMethod yX1_whole ∈ jbig := jbig_in (jtb_2 _ (List.mem_of_getElem? (i := 216) rfl)) rfl
theorem wd4 : Cond.selects yX1_whole.cls yX1_whole yX1_whole ∈ jbig := jbig_of 4 rfl rfl
theorem wd561 : Cond.methodLink RX1 101 yX1_personIn ∈ jbig := jbig_in (jtb_2 _ (List.mem_of_getElem? (i := 218) rfl)) rfl
theorem wd564 : Cond.code yX1_personIn cX1_personIn 2 (some .int) ∈ jbig := jbig_in (jtb_2 _ (List.mem_of_getElem? (i := 221) rfl)) rfl
theorem wd563 : Cond.instanceMethod yX1_personIn ∈ jbig := jbig_in (jtb_2 _ (List.mem_of_getElem? (i := 220) rfl)) rfl
theorem wd5 : Cond.selects yX1_personIn.cls yX1_personIn yX1_personIn ∈ jbig := jbig_of 5 rfl rfl
theorem wd565 : Cond.methodLink RX1 104 yX1_reachFrom ∈ jbig := jbig_in (jtb_2 _ (List.mem_of_getElem? (i := 222) rfl)) rfl
theorem wd568 : Cond.code yX1_reachFrom cX1_reachFrom 7 none ∈ jbig := jbig_in (jtb_2 _ (List.mem_of_getElem? (i := 225) rfl)) rfl
theorem wd567 : Cond.instanceMethod yX1_reachFrom ∈ jbig := jbig_in (jtb_2 _ (List.mem_of_getElem? (i := 224) rfl)) rfl
theorem wd6 : Cond.selects yX1_reachFrom.cls yX1_reachFrom yX1_reachFrom ∈ jbig := jbig_of 6 rfl rfl
theorem wd540 : Cond.methodLink RX1 43 yX3_openBits ∈ jbig := jbig_in (jtb_2 _ (List.mem_of_getElem? (i := 197) rfl)) rfl
theorem wd415 : Cond.code yX3_openBits cX3_openBits 3 (some .int) ∈ jbig := jbig_in (jtb_2 _ (List.mem_of_getElem? (i := 72) rfl)) rfl
theorem wd413 : Cond.instanceMethod yX3_openBits ∈ jbig := jbig_in (jtb_2 _ (List.mem_of_getElem? (i := 70) rfl)) rfl
theorem wd414 : Cond.selects yX3_openBits.cls yX3_openBits yX3_openBits ∈ jbig := jbig_in (jtb_2 _ (List.mem_of_getElem? (i := 71) rfl)) rfl
theorem wd541 : Cond.methodLink RX1 49 yJ6_bitCount_0f7a4 ∈ jbig := jbig_in (jtb_2 _ (List.mem_of_getElem? (i := 198) rfl)) rfl
theorem wd542 : Cond.methodLink RX1 69 yJ7_fill_53178 ∈ jbig := jbig_in (jtb_2 _ (List.mem_of_getElem? (i := 199) rfl)) rfl
theorem wd553 : Cond.methodLink RX1 82 yX1_reach ∈ jbig := jbig_in (jtb_2 _ (List.mem_of_getElem? (i := 210) rfl)) rfl
theorem wd556 : Cond.code yX1_reach cX1_reach 5 none ∈ jbig := jbig_in (jtb_2 _ (List.mem_of_getElem? (i := 213) rfl)) rfl
theorem wd555 : Cond.instanceMethod yX1_reach ∈ jbig := jbig_in (jtb_2 _ (List.mem_of_getElem? (i := 212) rfl)) rfl
theorem wd3 : Cond.selects yX1_reach.cls yX1_reach yX1_reach ∈ jbig := jbig_of 3 rfl rfl
theorem wd545 : Cond.methodLink RX1 78 yX1_layDeed ∈ jbig := jbig_in (jtb_2 _ (List.mem_of_getElem? (i := 202) rfl)) rfl
theorem wd548 : Cond.code yX1_layDeed cX1_layDeed 4 none ∈ jbig := jbig_in (jtb_2 _ (List.mem_of_getElem? (i := 205) rfl)) rfl
theorem wd547 : Cond.instanceMethod yX1_layDeed ∈ jbig := jbig_in (jtb_2 _ (List.mem_of_getElem? (i := 204) rfl)) rfl
theorem wd1 : Cond.selects yX1_layDeed.cls yX1_layDeed yX1_layDeed ∈ jbig := jbig_of 1 rfl rfl
theorem wd586 : Cond.methodLink RX1 121 yX3_partOfUndoer ∈ jbig := jbig_in (jtb_3 _ (List.mem_of_getElem? (i := 3) rfl)) rfl
theorem wd587 : Cond.methodLink RX1 125 yX3_partOfOther ∈ jbig := jbig_in (jtb_3 _ (List.mem_of_getElem? (i := 4) rfl)) rfl
theorem wd590 : Cond.code yX3_partOfOther cX3_partOfOther 6 (some .int) ∈ jbig := jbig_in (jtb_3 _ (List.mem_of_getElem? (i := 7) rfl)) rfl
theorem wd588 : Cond.instanceMethod yX3_partOfOther ∈ jbig := jbig_in (jtb_3 _ (List.mem_of_getElem? (i := 5) rfl)) rfl
theorem wd589 : Cond.selects yX3_partOfOther.cls yX3_partOfOther yX3_partOfOther ∈ jbig := jbig_in (jtb_3 _ (List.mem_of_getElem? (i := 6) rfl)) rfl
theorem wd599 : Cond.methodLink RX1 128 yX1_sumOf ∈ jbig := jbig_in (jtb_3 _ (List.mem_of_getElem? (i := 16) rfl)) rfl
theorem wd602 : Cond.code yX1_sumOf cX1_sumOf 7 (some .int) ∈ jbig := jbig_in (jtb_3 _ (List.mem_of_getElem? (i := 19) rfl)) rfl
theorem wd601 : Cond.instanceMethod yX1_sumOf ∈ jbig := jbig_in (jtb_3 _ (List.mem_of_getElem? (i := 18) rfl)) rfl
theorem wd10 : Cond.selects yX1_sumOf.cls yX1_sumOf yX1_sumOf ∈ jbig := jbig_of 10 rfl rfl
theorem wd603 : Cond.methodLink RX1 132 yX1_settle ∈ jbig := jbig_in (jtb_3 _ (List.mem_of_getElem? (i := 20) rfl)) rfl
theorem wd606 : Cond.code yX1_settle cX1_settle 8 none ∈ jbig := jbig_in (jtb_3 _ (List.mem_of_getElem? (i := 23) rfl)) rfl
theorem wd605 : Cond.instanceMethod yX1_settle ∈ jbig := jbig_in (jtb_3 _ (List.mem_of_getElem? (i := 22) rfl)) rfl
theorem wd11 : Cond.selects yX1_settle.cls yX1_settle yX1_settle ∈ jbig := jbig_of 11 rfl rfl
theorem wd582 : Cond.methodLink RX1 108 yX1_weigh ∈ jbig := jbig_in (jtb_2 _ (List.mem_of_getElem? (i := 239) rfl)) rfl
theorem wd585 : Cond.code yX1_weigh cX1_weigh 4 none ∈ jbig := jbig_in (jtb_3 _ (List.mem_of_getElem? (i := 2) rfl)) rfl
theorem wd584 : Cond.instanceMethod yX1_weigh ∈ jbig := jbig_in (jtb_3 _ (List.mem_of_getElem? (i := 1) rfl)) rfl
theorem wd7 : Cond.selects yX1_weigh.cls yX1_weigh yX1_weigh ∈ jbig := jbig_of 7 rfl rfl
theorem wd607 : Cond.methodLink RX1 118 yX1_walk ∈ jbig := jbig_in (jtb_3 _ (List.mem_of_getElem? (i := 24) rfl)) rfl
theorem wd610 : Cond.code yX1_walk cX1_walk 5 none ∈ jbig := jbig_in (jtb_3 _ (List.mem_of_getElem? (i := 27) rfl)) rfl
theorem wd609 : Cond.instanceMethod yX1_walk ∈ jbig := jbig_in (jtb_3 _ (List.mem_of_getElem? (i := 26) rfl)) rfl
theorem wd12 : Cond.selects yX1_walk.cls yX1_walk yX1_walk ∈ jbig := jbig_of 12 rfl rfl
theorem wd595 : Cond.methodLink RX1 115 yX1_choose ∈ jbig := jbig_in (jtb_3 _ (List.mem_of_getElem? (i := 12) rfl)) rfl
theorem wd598 : Cond.code yX1_choose cX1_choose 10 none ∈ jbig := jbig_in (jtb_3 _ (List.mem_of_getElem? (i := 15) rfl)) rfl
theorem wd597 : Cond.instanceMethod yX1_choose ∈ jbig := jbig_in (jtb_3 _ (List.mem_of_getElem? (i := 14) rfl)) rfl
theorem wd9 : Cond.selects yX1_choose.cls yX1_choose yX1_choose ∈ jbig := jbig_of 9 rfl rfl
theorem wd591 : Cond.methodLink RX1 112 yX1_forget ∈ jbig := jbig_in (jtb_3 _ (List.mem_of_getElem? (i := 8) rfl)) rfl
theorem wd594 : Cond.code yX1_forget cX1_forget 3 none ∈ jbig := jbig_in (jtb_3 _ (List.mem_of_getElem? (i := 11) rfl)) rfl
theorem wd593 : Cond.instanceMethod yX1_forget ∈ jbig := jbig_in (jtb_3 _ (List.mem_of_getElem? (i := 10) rfl)) rfl
theorem wd8 : Cond.selects yX1_forget.cls yX1_forget yX1_forget ∈ jbig := jbig_of 8 rfl rfl
theorem wd239 : Cond.fieldLink RX2 9 "TillTheBell$Reader" "place" "I" ∈ jbig := jbig_in (jtb_1 _ (List.mem_of_getElem? (i := 136) rfl)) rfl
theorem wd241 : Cond.fieldLink RX2 15 "TillTheBell$Reader" "tape" "[B" ∈ jbig := jbig_in (jtb_1 _ (List.mem_of_getElem? (i := 138) rfl)) rfl
theorem wd236 : Cond.fieldLink RX2 19 "TillTheBell$Reader" "length" "I" ∈ jbig := jbig_in (jtb_1 _ (List.mem_of_getElem? (i := 133) rfl)) rfl
theorem wd242 : Cond.fieldLink RX2 22 "TillTheBell$Reader" "limit" "I" ∈ jbig := jbig_in (jtb_1 _ (List.mem_of_getElem? (i := 139) rfl)) rfl
theorem wd245 : Cond.fieldLink RX2 25 "TillTheBell$Reader" "after" "I" ∈ jbig := jbig_in (jtb_1 _ (List.mem_of_getElem? (i := 142) rfl)) rfl
theorem wd237 : Cond.fieldLink RX2 28 "TillTheBell$Reader" "wrong" "I" ∈ jbig := jbig_in (jtb_1 _ (List.mem_of_getElem? (i := 134) rfl)) rfl
theorem wd243 : Cond.fieldLink RX2 39 "TillTheBell$Reader" "sort" "I" ∈ jbig := jbig_in (jtb_1 _ (List.mem_of_getElem? (i := 140) rfl)) rfl
theorem wd142 : Cond.fieldLink RX2 57 "TillTheBell$Town" "lines" "I" ∈ jbig := jbig_in (jtb_1 _ (List.mem_of_getElem? (i := 39) rfl)) rfl
theorem wd146 : Cond.fieldLink RX2 78 "TillTheBell$Town" "people" "I" ∈ jbig := jbig_in (jtb_1 _ (List.mem_of_getElem? (i := 43) rfl)) rfl
theorem wd150 : Cond.fieldLink RX2 84 "TillTheBell$Town" "things" "I" ∈ jbig := jbig_in (jtb_1 _ (List.mem_of_getElem? (i := 47) rfl)) rfl
theorem wd247 : Cond.fieldLink RX2 113 "TillTheBell$Reader" "taken" "I" ∈ jbig := jbig_in (jtb_1 _ (List.mem_of_getElem? (i := 144) rfl)) rfl
theorem wd172 : Cond.fieldLink RX2 116 "TillTheBell$Town" "coins" "[I" ∈ jbig := jbig_in (jtb_1 _ (List.mem_of_getElem? (i := 69) rfl)) rfl
theorem wd175 : Cond.fieldLink RX2 119 "TillTheBell$Town" "holders" "[I" ∈ jbig := jbig_in (jtb_1 _ (List.mem_of_getElem? (i := 72) rfl)) rfl
theorem wd246 : Cond.fieldLink RX2 126 "TillTheBell$Reader" "value" "I" ∈ jbig := jbig_in (jtb_1 _ (List.mem_of_getElem? (i := 143) rfl)) rfl
theorem wd156 : Cond.fieldLink RX2 129 "TillTheBell$Town" "share" "I" ∈ jbig := jbig_in (jtb_1 _ (List.mem_of_getElem? (i := 53) rfl)) rfl
theorem wd159 : Cond.fieldLink RX2 131 "TillTheBell$Town" "bell" "I" ∈ jbig := jbig_in (jtb_1 _ (List.mem_of_getElem? (i := 56) rfl)) rfl
theorem wd154 : Cond.fieldLink RX2 133 "TillTheBell$Town" "eaten" "I" ∈ jbig := jbig_in (jtb_1 _ (List.mem_of_getElem? (i := 51) rfl)) rfl
theorem wd244 : Cond.fieldLink RX2 135 "TillTheBell$Reader" "start" "I" ∈ jbig := jbig_in (jtb_1 _ (List.mem_of_getElem? (i := 141) rfl)) rfl
theorem wd735 : Cond.methodLink RX2 146 yX2_takeRun ∈ jbig := jbig_in (jtb_3 _ (List.mem_of_getElem? (i := 152) rfl)) rfl
theorem wd738 : Cond.code yX2_takeRun cX2_takeRun 3 (some .boolean) ∈ jbig := jbig_in (jtb_3 _ (List.mem_of_getElem? (i := 155) rfl)) rfl
theorem wd106 : Cond.initialized RX2 ∈ jbig := jbig_in (jtb_1 _ (List.mem_of_getElem? (i := 3) rfl)) rfl
theorem wd737 : Cond.instanceMethod yX2_takeRun ∈ jbig := jbig_in (jtb_3 _ (List.mem_of_getElem? (i := 154) rfl)) rfl
theorem wd15 : Cond.selects yX2_takeRun.cls yX2_takeRun yX2_takeRun ∈ jbig := jbig_of 15 rfl rfl
theorem wd739 : Cond.methodLink RX2 149 yX2_valueOfRun ∈ jbig := jbig_in (jtb_3 _ (List.mem_of_getElem? (i := 156) rfl)) rfl
theorem wd742 : Cond.code yX2_valueOfRun cX2_valueOfRun 3 (some .int) ∈ jbig := jbig_in (jtb_3 _ (List.mem_of_getElem? (i := 159) rfl)) rfl
theorem wd741 : Cond.instanceMethod yX2_valueOfRun ∈ jbig := jbig_in (jtb_3 _ (List.mem_of_getElem? (i := 158) rfl)) rfl
theorem wd16 : Cond.selects yX2_valueOfRun.cls yX2_valueOfRun yX2_valueOfRun ∈ jbig := jbig_of 16 rfl rfl
theorem wd752 : Cond.methodLink RX2 138 yJ0_length_8abf5 ∈ jbig := jbig_in (jtb_3 _ (List.mem_of_getElem? (i := 169) rfl)) rfl
theorem wd762 : Cond.methodLink RX2 142 yJ0_charAt_5068e ∈ jbig := jbig_in (jtb_3 _ (List.mem_of_getElem? (i := 179) rfl)) rfl
theorem wd748 : Cond.methodLink RX2 62 yX2_isWord ∈ jbig := jbig_in (jtb_3 _ (List.mem_of_getElem? (i := 165) rfl)) rfl
theorem wd751 : Cond.code yX2_isWord cX2_isWord 3 (some .boolean) ∈ jbig := jbig_in (jtb_3 _ (List.mem_of_getElem? (i := 168) rfl)) rfl
theorem wd750 : Cond.instanceMethod yX2_isWord ∈ jbig := jbig_in (jtb_3 _ (List.mem_of_getElem? (i := 167) rfl)) rfl
theorem wd18 : Cond.selects yX2_isWord.cls yX2_isWord yX2_isWord ∈ jbig := jbig_of 18 rfl rfl
theorem wd810 : Cond.methodLink RX2 80 yX2_fails ∈ jbig := jbig_in (jtb_3 _ (List.mem_of_getElem? (i := 227) rfl)) rfl
theorem wd813 : Cond.code yX2_fails cX2_fails 2 (some .boolean) ∈ jbig := jbig_in (jtb_3 _ (List.mem_of_getElem? (i := 230) rfl)) rfl
theorem wd812 : Cond.instanceMethod yX2_fails ∈ jbig := jbig_in (jtb_3 _ (List.mem_of_getElem? (i := 229) rfl)) rfl
theorem wd20 : Cond.selects yX2_fails.cls yX2_fails yX2_fails ∈ jbig := jbig_of 20 rfl rfl
theorem wd731 : Cond.methodLink RX2 36 yX2_next ∈ jbig := jbig_in (jtb_3 _ (List.mem_of_getElem? (i := 148) rfl)) rfl
theorem wd734 : Cond.code yX2_next cX2_next 1 none ∈ jbig := jbig_in (jtb_3 _ (List.mem_of_getElem? (i := 151) rfl)) rfl
theorem wd733 : Cond.instanceMethod yX2_next ∈ jbig := jbig_in (jtb_3 _ (List.mem_of_getElem? (i := 150) rfl)) rfl
theorem wd14 : Cond.selects yX2_next.cls yX2_next yX2_next ∈ jbig := jbig_of 14 rfl rfl
theorem wd822 : Cond.methodLink RX2 109 yX2_takes ∈ jbig := jbig_in (jtb_3 _ (List.mem_of_getElem? (i := 239) rfl)) rfl
theorem wd825 : Cond.code yX2_takes cX2_takes 3 (some .boolean) ∈ jbig := jbig_in (jtb_4 _ (List.mem_of_getElem? (i := 2) rfl)) rfl
theorem wd824 : Cond.instanceMethod yX2_takes ∈ jbig := jbig_in (jtb_4 _ (List.mem_of_getElem? (i := 1) rfl)) rfl
theorem wd23 : Cond.selects yX2_takes.cls yX2_takes yX2_takes ∈ jbig := jbig_of 23 rfl rfl
theorem wd834 : Cond.methodLink RX2 122 yX3_setWorth ∈ jbig := jbig_in (jtb_4 _ (List.mem_of_getElem? (i := 11) rfl)) rfl
theorem wd837 : Cond.code yX3_setWorth cX3_setWorth 4 none ∈ jbig := jbig_in (jtb_4 _ (List.mem_of_getElem? (i := 14) rfl)) rfl
theorem wd835 : Cond.instanceMethod yX3_setWorth ∈ jbig := jbig_in (jtb_4 _ (List.mem_of_getElem? (i := 12) rfl)) rfl
theorem wd836 : Cond.selects yX3_setWorth.cls yX3_setWorth yX3_setWorth ∈ jbig := jbig_in (jtb_4 _ (List.mem_of_getElem? (i := 13) rfl)) rfl
theorem wd818 : Cond.methodLink RX2 87 yX2_readPeople ∈ jbig := jbig_in (jtb_3 _ (List.mem_of_getElem? (i := 235) rfl)) rfl
theorem wd821 : Cond.code yX2_readPeople cX2_readPeople 2 (some .boolean) ∈ jbig := jbig_in (jtb_3 _ (List.mem_of_getElem? (i := 238) rfl)) rfl
theorem wd820 : Cond.instanceMethod yX2_readPeople ∈ jbig := jbig_in (jtb_3 _ (List.mem_of_getElem? (i := 237) rfl)) rfl
theorem wd22 : Cond.selects yX2_readPeople.cls yX2_readPeople yX2_readPeople ∈ jbig := jbig_of 22 rfl rfl
theorem wd826 : Cond.methodLink RX2 91 yX2_readCoins ∈ jbig := jbig_in (jtb_4 _ (List.mem_of_getElem? (i := 3) rfl)) rfl
theorem wd829 : Cond.code yX2_readCoins cX2_readCoins 3 (some .boolean) ∈ jbig := jbig_in (jtb_4 _ (List.mem_of_getElem? (i := 6) rfl)) rfl
theorem wd828 : Cond.instanceMethod yX2_readCoins ∈ jbig := jbig_in (jtb_4 _ (List.mem_of_getElem? (i := 5) rfl)) rfl
theorem wd24 : Cond.selects yX2_readCoins.cls yX2_readCoins yX2_readCoins ∈ jbig := jbig_of 24 rfl rfl
theorem wd830 : Cond.methodLink RX2 94 yX2_readThing ∈ jbig := jbig_in (jtb_4 _ (List.mem_of_getElem? (i := 7) rfl)) rfl
theorem wd833 : Cond.code yX2_readThing cX2_readThing 3 (some .boolean) ∈ jbig := jbig_in (jtb_4 _ (List.mem_of_getElem? (i := 10) rfl)) rfl
theorem wd832 : Cond.instanceMethod yX2_readThing ∈ jbig := jbig_in (jtb_4 _ (List.mem_of_getElem? (i := 9) rfl)) rfl
theorem wd25 : Cond.selects yX2_readThing.cls yX2_readThing yX2_readThing ∈ jbig := jbig_of 25 rfl rfl
theorem wd838 : Cond.methodLink RX2 97 yX2_readWorth ∈ jbig := jbig_in (jtb_4 _ (List.mem_of_getElem? (i := 15) rfl)) rfl
theorem wd841 : Cond.code yX2_readWorth cX2_readWorth 4 (some .boolean) ∈ jbig := jbig_in (jtb_4 _ (List.mem_of_getElem? (i := 18) rfl)) rfl
theorem wd840 : Cond.instanceMethod yX2_readWorth ∈ jbig := jbig_in (jtb_4 _ (List.mem_of_getElem? (i := 17) rfl)) rfl
theorem wd26 : Cond.selects yX2_readWorth.cls yX2_readWorth yX2_readWorth ∈ jbig := jbig_of 26 rfl rfl
theorem wd842 : Cond.methodLink RX2 100 yX2_readShare ∈ jbig := jbig_in (jtb_4 _ (List.mem_of_getElem? (i := 19) rfl)) rfl
theorem wd845 : Cond.code yX2_readShare cX2_readShare 2 (some .boolean) ∈ jbig := jbig_in (jtb_4 _ (List.mem_of_getElem? (i := 22) rfl)) rfl
theorem wd844 : Cond.instanceMethod yX2_readShare ∈ jbig := jbig_in (jtb_4 _ (List.mem_of_getElem? (i := 21) rfl)) rfl
theorem wd27 : Cond.selects yX2_readShare.cls yX2_readShare yX2_readShare ∈ jbig := jbig_of 27 rfl rfl
theorem wd846 : Cond.methodLink RX2 103 yX2_readBell ∈ jbig := jbig_in (jtb_4 _ (List.mem_of_getElem? (i := 23) rfl)) rfl
theorem wd849 : Cond.code yX2_readBell cX2_readBell 2 (some .boolean) ∈ jbig := jbig_in (jtb_4 _ (List.mem_of_getElem? (i := 26) rfl)) rfl
theorem wd848 : Cond.instanceMethod yX2_readBell ∈ jbig := jbig_in (jtb_4 _ (List.mem_of_getElem? (i := 25) rfl)) rfl
theorem wd28 : Cond.selects yX2_readBell.cls yX2_readBell yX2_readBell ∈ jbig := jbig_of 28 rfl rfl
theorem wd850 : Cond.methodLink RX2 106 yX2_readEaten ∈ jbig := jbig_in (jtb_4 _ (List.mem_of_getElem? (i := 27) rfl)) rfl
theorem wd853 : Cond.code yX2_readEaten cX2_readEaten 2 (some .boolean) ∈ jbig := jbig_in (jtb_4 _ (List.mem_of_getElem? (i := 30) rfl)) rfl
theorem wd852 : Cond.instanceMethod yX2_readEaten ∈ jbig := jbig_in (jtb_4 _ (List.mem_of_getElem? (i := 29) rfl)) rfl
theorem wd29 : Cond.selects yX2_readEaten.cls yX2_readEaten yX2_readEaten ∈ jbig := jbig_of 29 rfl rfl
theorem wd726 : Cond.methodLink RX2 31 yX3_clear ∈ jbig := jbig_in (jtb_3 _ (List.mem_of_getElem? (i := 143) rfl)) rfl
theorem wd729 : Cond.code yX3_clear cX3_clear 1 none ∈ jbig := jbig_in (jtb_3 _ (List.mem_of_getElem? (i := 146) rfl)) rfl
theorem wd727 : Cond.instanceMethod yX3_clear ∈ jbig := jbig_in (jtb_3 _ (List.mem_of_getElem? (i := 144) rfl)) rfl
theorem wd728 : Cond.selects yX3_clear.cls yX3_clear yX3_clear ∈ jbig := jbig_in (jtb_3 _ (List.mem_of_getElem? (i := 145) rfl)) rfl
theorem wd743 : Cond.methodLink RX2 42 yX2_kindOfLine ∈ jbig := jbig_in (jtb_3 _ (List.mem_of_getElem? (i := 160) rfl)) rfl
theorem wd746 : Cond.code yX2_kindOfLine cX2_kindOfLine 1 (some .int) ∈ jbig := jbig_in (jtb_3 _ (List.mem_of_getElem? (i := 163) rfl)) rfl
theorem wd745 : Cond.instanceMethod yX2_kindOfLine ∈ jbig := jbig_in (jtb_3 _ (List.mem_of_getElem? (i := 162) rfl)) rfl
theorem wd17 : Cond.selects yX2_kindOfLine.cls yX2_kindOfLine yX2_kindOfLine ∈ jbig := jbig_of 17 rfl rfl
theorem wd806 : Cond.methodLink RX2 46 yX2_begins ∈ jbig := jbig_in (jtb_3 _ (List.mem_of_getElem? (i := 223) rfl)) rfl
theorem wd809 : Cond.code yX2_begins cX2_begins 3 (some .boolean) ∈ jbig := jbig_in (jtb_3 _ (List.mem_of_getElem? (i := 226) rfl)) rfl
theorem wd808 : Cond.instanceMethod yX2_begins ∈ jbig := jbig_in (jtb_3 _ (List.mem_of_getElem? (i := 225) rfl)) rfl
theorem wd19 : Cond.selects yX2_begins.cls yX2_begins yX2_begins ∈ jbig := jbig_of 19 rfl rfl
theorem wd814 : Cond.methodLink RX2 50 yX2_readNumbers ∈ jbig := jbig_in (jtb_3 _ (List.mem_of_getElem? (i := 231) rfl)) rfl
theorem wd817 : Cond.code yX2_readNumbers cX2_readNumbers 3 (some .boolean) ∈ jbig := jbig_in (jtb_3 _ (List.mem_of_getElem? (i := 234) rfl)) rfl
theorem wd816 : Cond.instanceMethod yX2_readNumbers ∈ jbig := jbig_in (jtb_3 _ (List.mem_of_getElem? (i := 233) rfl)) rfl
theorem wd21 : Cond.selects yX2_readNumbers.cls yX2_readNumbers yX2_readNumbers ∈ jbig := jbig_of 21 rfl rfl
theorem wd854 : Cond.methodLink RX2 53 yX2_closes ∈ jbig := jbig_in (jtb_4 _ (List.mem_of_getElem? (i := 31) rfl)) rfl
theorem wd857 : Cond.code yX2_closes cX2_closes 1 (some .boolean) ∈ jbig := jbig_in (jtb_4 _ (List.mem_of_getElem? (i := 34) rfl)) rfl
theorem wd856 : Cond.instanceMethod yX2_closes ∈ jbig := jbig_in (jtb_4 _ (List.mem_of_getElem? (i := 33) rfl)) rfl
theorem wd30 : Cond.selects yX2_closes.cls yX2_closes yX2_closes ∈ jbig := jbig_of 30 rfl rfl
theorem wd1279 : Cond.fieldLink RX6 9 "TillTheBellModel" "told" "[I" ∈ jbig := jbig_in (jtb_5 _ (List.mem_of_getElem? (i := 216) rfl)) rfl
theorem wd1280 : Cond.fieldLink RX6 13 "TillTheBellModel" "fresh" "[I" ∈ jbig := jbig_in (jtb_5 _ (List.mem_of_getElem? (i := 217) rfl)) rfl
theorem wd1281 : Cond.fieldLink RX6 16 "TillTheBellModel" "saved" "[I" ∈ jbig := jbig_in (jtb_5 _ (List.mem_of_getElem? (i := 218) rfl)) rfl
theorem wd1282 : Cond.fieldLink RX6 19 "TillTheBellModel" "images" "[I" ∈ jbig := jbig_in (jtb_5 _ (List.mem_of_getElem? (i := 219) rfl)) rfl
theorem wd1283 : Cond.fieldLink RX6 22 "TillTheBellModel" "isImage" "[Z" ∈ jbig := jbig_in (jtb_5 _ (List.mem_of_getElem? (i := 220) rfl)) rfl
theorem wd1285 : Cond.fieldLink RX6 26 "TillTheBellModel" "tape" "[I" ∈ jbig := jbig_in (jtb_5 _ (List.mem_of_getElem? (i := 222) rfl)) rfl
theorem wd1295 : Cond.fieldLink RX6 29 "TillTheBellModel" "faultPlace" "I" ∈ jbig := jbig_in (jtb_5 _ (List.mem_of_getElem? (i := 232) rfl)) rfl
theorem wd1296 : Cond.fieldLink RX6 33 "TillTheBellModel" "kept" "[I" ∈ jbig := jbig_in (jtb_5 _ (List.mem_of_getElem? (i := 233) rfl)) rfl
theorem wd1298 : Cond.fieldLink RX6 36 "TillTheBellModel" "mine" "[I" ∈ jbig := jbig_in (jtb_5 _ (List.mem_of_getElem? (i := 235) rfl)) rfl
theorem wd1299 : Cond.fieldLink RX6 40 "TillTheBellModel" "richer" "[I" ∈ jbig := jbig_in (jtb_5 _ (List.mem_of_getElem? (i := 236) rfl)) rfl
theorem wd1300 : Cond.fieldLink RX6 43 "TillTheBellModel" "choice" "[I" ∈ jbig := jbig_in (jtb_5 _ (List.mem_of_getElem? (i := 237) rfl)) rfl
theorem wd1301 : Cond.fieldLink RX6 46 "TillTheBellModel" "by" "[I" ∈ jbig := jbig_in (jtb_5 _ (List.mem_of_getElem? (i := 238) rfl)) rfl
theorem wd1305 : Cond.fieldLink RX6 49 "TillTheBellModel" "tSort" "[I" ∈ jbig := jbig_in (jtb_6 _ (List.mem_of_getElem? (i := 2) rfl)) rfl
theorem wd1306 : Cond.fieldLink RX6 52 "TillTheBellModel" "tMany" "[I" ∈ jbig := jbig_in (jtb_6 _ (List.mem_of_getElem? (i := 3) rfl)) rfl
theorem wd1307 : Cond.fieldLink RX6 55 "TillTheBellModel" "numbers" "[J" ∈ jbig := jbig_in (jtb_6 _ (List.mem_of_getElem? (i := 4) rfl)) rfl
theorem wd1284 : Cond.fieldLink RX6 63 "TillTheBellModel" "thrown" "I" ∈ jbig := jbig_in (jtb_5 _ (List.mem_of_getElem? (i := 221) rfl)) rfl
theorem wd1286 : Cond.fieldLink RX6 66 "TillTheBellModel" "taped" "I" ∈ jbig := jbig_in (jtb_5 _ (List.mem_of_getElem? (i := 223) rfl)) rfl
theorem wd1287 : Cond.fieldLink RX6 69 "TillTheBellModel" "size" "I" ∈ jbig := jbig_in (jtb_5 _ (List.mem_of_getElem? (i := 224) rfl)) rfl
theorem wd1288 : Cond.fieldLink RX6 72 "TillTheBellModel" "at" "I" ∈ jbig := jbig_in (jtb_5 _ (List.mem_of_getElem? (i := 225) rfl)) rfl
theorem wd1289 : Cond.fieldLink RX6 75 "TillTheBellModel" "begin" "I" ∈ jbig := jbig_in (jtb_5 _ (List.mem_of_getElem? (i := 226) rfl)) rfl
theorem wd1290 : Cond.fieldLink RX6 78 "TillTheBellModel" "token" "I" ∈ jbig := jbig_in (jtb_5 _ (List.mem_of_getElem? (i := 227) rfl)) rfl
theorem wd1291 : Cond.fieldLink RX6 92 "TillTheBellModel" "value" "I" ∈ jbig := jbig_in (jtb_5 _ (List.mem_of_getElem? (i := 228) rfl)) rfl
theorem wd1292 : Cond.fieldLink RX6 95 "TillTheBellModel" "bad" "I" ∈ jbig := jbig_in (jtb_5 _ (List.mem_of_getElem? (i := 229) rfl)) rfl
theorem wd1293 : Cond.fieldLink RX6 98 "TillTheBellModel" "badPlace" "I" ∈ jbig := jbig_in (jtb_5 _ (List.mem_of_getElem? (i := 230) rfl)) rfl
theorem wd1294 : Cond.fieldLink RX6 176 "TillTheBellModel" "faultKind" "I" ∈ jbig := jbig_in (jtb_5 _ (List.mem_of_getElem? (i := 231) rfl)) rfl
theorem wd1297 : Cond.fieldLink RX6 274 "TillTheBellModel" "state" "I" ∈ jbig := jbig_in (jtb_5 _ (List.mem_of_getElem? (i := 234) rfl)) rfl
theorem wd1302 : Cond.fieldLink RX6 304 "TillTheBellModel" "mineMany" "I" ∈ jbig := jbig_in (jtb_5 _ (List.mem_of_getElem? (i := 239) rfl)) rfl
theorem wd1304 : Cond.fieldLink RX6 313 "TillTheBellModel" "firstTurn" "I" ∈ jbig := jbig_in (jtb_6 _ (List.mem_of_getElem? (i := 1) rfl)) rfl
theorem wd1303 : Cond.fieldLink RX6 316 "TillTheBellModel" "turns" "I" ∈ jbig := jbig_in (jtb_6 _ (List.mem_of_getElem? (i := 0) rfl)) rfl
theorem wd1275 : Cond.constant RX6 39 (79872) ∈ jbig := jbig_in (jtb_5 _ (List.mem_of_getElem? (i := 212) rfl)) rfl
theorem wd1635 : Cond.constant RX6 273 (1103515245) ∈ jbig := jbig_in (jtb_7 _ (List.mem_of_getElem? (i := 92) rfl)) rfl
theorem wd1730 : Cond.constant RX6 343 (-100000) ∈ jbig := jbig_in (jtb_7 _ (List.mem_of_getElem? (i := 187) rfl)) rfl
theorem wd1441 : Cond.constantLong RX6 133 (999) ∈ jbig := jbig_in (jtb_6 _ (List.mem_of_getElem? (i := 138) rfl)) rfl
theorem wd1473 : Cond.constantLong RX6 189 (2) ∈ jbig := jbig_in (jtb_6 _ (List.mem_of_getElem? (i := 170) rfl)) rfl
theorem wd1535 : Cond.constantLong RX6 218 (9999) ∈ jbig := jbig_in (jtb_6 _ (List.mem_of_getElem? (i := 232) rfl)) rfl
theorem wd1548 : Cond.constantLong RX6 234 (7) ∈ jbig := jbig_in (jtb_7 _ (List.mem_of_getElem? (i := 5) rfl)) rfl
theorem wd1626 : Cond.constantLong RX6 280 (40) ∈ jbig := jbig_in (jtb_7 _ (List.mem_of_getElem? (i := 83) rfl)) rfl
theorem wd1704 : Cond.constantLong RX6 336 (10) ∈ jbig := jbig_in (jtb_7 _ (List.mem_of_getElem? (i := 161) rfl)) rfl
theorem wd1705 : Cond.constantLong RX6 338 (100) ∈ jbig := jbig_in (jtb_7 _ (List.mem_of_getElem? (i := 162) rfl)) rfl
theorem wd1782 : Cond.constantLong RX6 355 (6) ∈ jbig := jbig_in (jtb_7 _ (List.mem_of_getElem? (i := 239) rfl)) rfl
theorem wd1605 : Cond.constantLong RX6 367 (3) ∈ jbig := jbig_in (jtb_7 _ (List.mem_of_getElem? (i := 62) rfl)) rfl
theorem wd1390 : Cond.methodLink RX6 81 yX6_isLetter ∈ jbig := jbig_in (jtb_6 _ (List.mem_of_getElem? (i := 87) rfl)) rfl
theorem wd1392 : Cond.code yX6_isLetter cX6_isLetter 1 (some .boolean) ∈ jbig := jbig_in (jtb_6 _ (List.mem_of_getElem? (i := 89) rfl)) rfl
theorem wd109 : Cond.initialized RX6 ∈ jbig := jbig_in (jtb_1 _ (List.mem_of_getElem? (i := 6) rfl)) rfl
theorem wd1391 : Cond.static yX6_isLetter ∈ jbig := jbig_in (jtb_6 _ (List.mem_of_getElem? (i := 88) rfl)) rfl
theorem wd1397 : Cond.methodLink RX6 89 yX6_isDigit ∈ jbig := jbig_in (jtb_6 _ (List.mem_of_getElem? (i := 94) rfl)) rfl
theorem wd1399 : Cond.code yX6_isDigit cX6_isDigit 1 (some .boolean) ∈ jbig := jbig_in (jtb_6 _ (List.mem_of_getElem? (i := 96) rfl)) rfl
theorem wd1398 : Cond.static yX6_isDigit ∈ jbig := jbig_in (jtb_6 _ (List.mem_of_getElem? (i := 95) rfl)) rfl
theorem wd1393 : Cond.methodLink RX6 85 yX6_see ∈ jbig := jbig_in (jtb_6 _ (List.mem_of_getElem? (i := 90) rfl)) rfl
theorem wd1396 : Cond.code yX6_see cX6_see 2 (some .int) ∈ jbig := jbig_in (jtb_6 _ (List.mem_of_getElem? (i := 93) rfl)) rfl
theorem wd1395 : Cond.instanceMethod yX6_see ∈ jbig := jbig_in (jtb_6 _ (List.mem_of_getElem? (i := 92) rfl)) rfl
theorem wd45 : Cond.selects yX6_see.cls yX6_see yX6_see ∈ jbig := jbig_of 45 rfl rfl
theorem wd1409 : Cond.methodLink RX6 101 yJ0_length_8abf5 ∈ jbig := jbig_in (jtb_6 _ (List.mem_of_getElem? (i := 106) rfl)) rfl
theorem wd1410 : Cond.methodLink RX6 107 yJ0_charAt_5068e ∈ jbig := jbig_in (jtb_6 _ (List.mem_of_getElem? (i := 107) rfl)) rfl
theorem wd1405 : Cond.methodLink RX6 111 yX6_isWord ∈ jbig := jbig_in (jtb_6 _ (List.mem_of_getElem? (i := 102) rfl)) rfl
theorem wd1408 : Cond.code yX6_isWord cX6_isWord 4 (some .boolean) ∈ jbig := jbig_in (jtb_6 _ (List.mem_of_getElem? (i := 105) rfl)) rfl
theorem wd1407 : Cond.instanceMethod yX6_isWord ∈ jbig := jbig_in (jtb_6 _ (List.mem_of_getElem? (i := 104) rfl)) rfl
theorem wd47 : Cond.selects yX6_isWord.cls yX6_isWord yX6_isWord ∈ jbig := jbig_of 47 rfl rfl
theorem wd1386 : Cond.methodLink RX6 115 yX6_reads ∈ jbig := jbig_in (jtb_6 _ (List.mem_of_getElem? (i := 83) rfl)) rfl
theorem wd1389 : Cond.code yX6_reads cX6_reads 2 none ∈ jbig := jbig_in (jtb_6 _ (List.mem_of_getElem? (i := 86) rfl)) rfl
theorem wd1388 : Cond.instanceMethod yX6_reads ∈ jbig := jbig_in (jtb_6 _ (List.mem_of_getElem? (i := 85) rfl)) rfl
theorem wd44 : Cond.selects yX6_reads.cls yX6_reads yX6_reads ∈ jbig := jbig_of 44 rfl rfl
theorem wd1379 : Cond.methodLink RX6 122 yX6_within ∈ jbig := jbig_in (jtb_6 _ (List.mem_of_getElem? (i := 76) rfl)) rfl
theorem wd1381 : Cond.code yX6_within cX6_within 6 (some .boolean) ∈ jbig := jbig_in (jtb_6 _ (List.mem_of_getElem? (i := 78) rfl)) rfl
theorem wd1380 : Cond.static yX6_within ∈ jbig := jbig_in (jtb_6 _ (List.mem_of_getElem? (i := 77) rfl)) rfl
theorem wd1415 : Cond.methodLink RX6 118 yX6_blames ∈ jbig := jbig_in (jtb_6 _ (List.mem_of_getElem? (i := 112) rfl)) rfl
theorem wd1418 : Cond.code yX6_blames cX6_blames 2 none ∈ jbig := jbig_in (jtb_6 _ (List.mem_of_getElem? (i := 115) rfl)) rfl
theorem wd1417 : Cond.instanceMethod yX6_blames ∈ jbig := jbig_in (jtb_6 _ (List.mem_of_getElem? (i := 114) rfl)) rfl
theorem wd49 : Cond.selects yX6_blames.cls yX6_blames yX6_blames ∈ jbig := jbig_of 49 rfl rfl
theorem wd1419 : Cond.methodLink RX6 126 yX6_number ∈ jbig := jbig_in (jtb_6 _ (List.mem_of_getElem? (i := 116) rfl)) rfl
theorem wd1422 : Cond.code yX6_number cX6_number 4 (some .int) ∈ jbig := jbig_in (jtb_6 _ (List.mem_of_getElem? (i := 119) rfl)) rfl
theorem wd1421 : Cond.instanceMethod yX6_number ∈ jbig := jbig_in (jtb_6 _ (List.mem_of_getElem? (i := 118) rfl)) rfl
theorem wd50 : Cond.selects yX6_number.cls yX6_number yX6_number ∈ jbig := jbig_of 50 rfl rfl
theorem wd1432 : Cond.methodLink RX6 130 yX6_personTold ∈ jbig := jbig_in (jtb_6 _ (List.mem_of_getElem? (i := 129) rfl)) rfl
theorem wd1435 : Cond.code yX6_personTold cX6_personTold 1 (some .int) ∈ jbig := jbig_in (jtb_6 _ (List.mem_of_getElem? (i := 132) rfl)) rfl
theorem wd1434 : Cond.instanceMethod yX6_personTold ∈ jbig := jbig_in (jtb_6 _ (List.mem_of_getElem? (i := 131) rfl)) rfl
theorem wd53 : Cond.selects yX6_personTold.cls yX6_personTold yX6_personTold ∈ jbig := jbig_of 53 rfl rfl
theorem wd1447 : Cond.methodLink RX6 135 yX6_thingTold ∈ jbig := jbig_in (jtb_6 _ (List.mem_of_getElem? (i := 144) rfl)) rfl
theorem wd1450 : Cond.code yX6_thingTold cX6_thingTold 1 (some .int) ∈ jbig := jbig_in (jtb_6 _ (List.mem_of_getElem? (i := 147) rfl)) rfl
theorem wd1449 : Cond.instanceMethod yX6_thingTold ∈ jbig := jbig_in (jtb_6 _ (List.mem_of_getElem? (i := 146) rfl)) rfl
theorem wd56 : Cond.selects yX6_thingTold.cls yX6_thingTold yX6_thingTold ∈ jbig := jbig_of 56 rfl rfl
theorem wd1424 : Cond.methodLink RX6 145 yX6_took ∈ jbig := jbig_in (jtb_6 _ (List.mem_of_getElem? (i := 121) rfl)) rfl
theorem wd1427 : Cond.code yX6_took cX6_took 3 (some .boolean) ∈ jbig := jbig_in (jtb_6 _ (List.mem_of_getElem? (i := 124) rfl)) rfl
theorem wd1426 : Cond.instanceMethod yX6_took ∈ jbig := jbig_in (jtb_6 _ (List.mem_of_getElem? (i := 123) rfl)) rfl
theorem wd51 : Cond.selects yX6_took.cls yX6_took yX6_took ∈ jbig := jbig_of 51 rfl rfl
theorem wd1454 : Cond.methodLink RX6 167 yX6_readEaten ∈ jbig := jbig_in (jtb_6 _ (List.mem_of_getElem? (i := 151) rfl)) rfl
theorem wd1457 : Cond.code yX6_readEaten cX6_readEaten 2 none ∈ jbig := jbig_in (jtb_6 _ (List.mem_of_getElem? (i := 154) rfl)) rfl
theorem wd1456 : Cond.instanceMethod yX6_readEaten ∈ jbig := jbig_in (jtb_6 _ (List.mem_of_getElem? (i := 153) rfl)) rfl
theorem wd57 : Cond.selects yX6_readEaten.cls yX6_readEaten yX6_readEaten ∈ jbig := jbig_of 57 rfl rfl
theorem wd1443 : Cond.methodLink RX6 158 yX6_readWorth ∈ jbig := jbig_in (jtb_6 _ (List.mem_of_getElem? (i := 140) rfl)) rfl
theorem wd1446 : Cond.code yX6_readWorth cX6_readWorth 4 none ∈ jbig := jbig_in (jtb_6 _ (List.mem_of_getElem? (i := 143) rfl)) rfl
theorem wd1445 : Cond.instanceMethod yX6_readWorth ∈ jbig := jbig_in (jtb_6 _ (List.mem_of_getElem? (i := 142) rfl)) rfl
theorem wd55 : Cond.selects yX6_readWorth.cls yX6_readWorth yX6_readWorth ∈ jbig := jbig_of 55 rfl rfl
theorem wd1437 : Cond.methodLink RX6 153 yX6_readThing ∈ jbig := jbig_in (jtb_6 _ (List.mem_of_getElem? (i := 134) rfl)) rfl
theorem wd1440 : Cond.code yX6_readThing cX6_readThing 5 none ∈ jbig := jbig_in (jtb_6 _ (List.mem_of_getElem? (i := 137) rfl)) rfl
theorem wd1439 : Cond.instanceMethod yX6_readThing ∈ jbig := jbig_in (jtb_6 _ (List.mem_of_getElem? (i := 136) rfl)) rfl
theorem wd54 : Cond.selects yX6_readThing.cls yX6_readThing yX6_readThing ∈ jbig := jbig_of 54 rfl rfl
theorem wd1428 : Cond.methodLink RX6 148 yX6_readCoins ∈ jbig := jbig_in (jtb_6 _ (List.mem_of_getElem? (i := 125) rfl)) rfl
theorem wd1431 : Cond.code yX6_readCoins cX6_readCoins 3 none ∈ jbig := jbig_in (jtb_6 _ (List.mem_of_getElem? (i := 128) rfl)) rfl
theorem wd1430 : Cond.instanceMethod yX6_readCoins ∈ jbig := jbig_in (jtb_6 _ (List.mem_of_getElem? (i := 127) rfl)) rfl
theorem wd52 : Cond.selects yX6_readCoins.cls yX6_readCoins yX6_readCoins ∈ jbig := jbig_of 52 rfl rfl
theorem wd1411 : Cond.methodLink RX6 140 yX6_readPeople ∈ jbig := jbig_in (jtb_6 _ (List.mem_of_getElem? (i := 108) rfl)) rfl
theorem wd1414 : Cond.code yX6_readPeople cX6_readPeople 1 none ∈ jbig := jbig_in (jtb_6 _ (List.mem_of_getElem? (i := 111) rfl)) rfl
theorem wd1413 : Cond.instanceMethod yX6_readPeople ∈ jbig := jbig_in (jtb_6 _ (List.mem_of_getElem? (i := 110) rfl)) rfl
theorem wd48 : Cond.selects yX6_readPeople.cls yX6_readPeople yX6_readPeople ∈ jbig := jbig_of 48 rfl rfl
theorem wd1276 : Cond.methodLink RX6 59 yX6_begins ∈ jbig := jbig_in (jtb_5 _ (List.mem_of_getElem? (i := 213) rfl)) rfl
theorem wd1278 : Cond.code yX6_begins cX6_begins 2 none ∈ jbig := jbig_in (jtb_5 _ (List.mem_of_getElem? (i := 215) rfl)) rfl
theorem wd1277 : Cond.static yX6_begins ∈ jbig := jbig_in (jtb_5 _ (List.mem_of_getElem? (i := 214) rfl)) rfl
theorem wd1458 : Cond.methodLink RX6 179 yX6_copies ∈ jbig := jbig_in (jtb_6 _ (List.mem_of_getElem? (i := 155) rfl)) rfl
theorem wd1460 : Cond.code yX6_copies cX6_copies 3 none ∈ jbig := jbig_in (jtb_6 _ (List.mem_of_getElem? (i := 157) rfl)) rfl
theorem wd1459 : Cond.static yX6_copies ∈ jbig := jbig_in (jtb_6 _ (List.mem_of_getElem? (i := 156) rfl)) rfl
theorem wd1400 : Cond.methodLink RX6 173 yX6_readLine ∈ jbig := jbig_in (jtb_6 _ (List.mem_of_getElem? (i := 97) rfl)) rfl
theorem wd1403 : Cond.code yX6_readLine cX6_readLine 1 none ∈ jbig := jbig_in (jtb_6 _ (List.mem_of_getElem? (i := 100) rfl)) rfl
theorem wd1402 : Cond.instanceMethod yX6_readLine ∈ jbig := jbig_in (jtb_6 _ (List.mem_of_getElem? (i := 99) rfl)) rfl
theorem wd46 : Cond.selects yX6_readLine.cls yX6_readLine yX6_readLine ∈ jbig := jbig_of 46 rfl rfl
theorem wd1382 : Cond.methodLink RX6 170 yX6_fails ∈ jbig := jbig_in (jtb_6 _ (List.mem_of_getElem? (i := 79) rfl)) rfl
theorem wd1385 : Cond.code yX6_fails cX6_fails 2 (some .int) ∈ jbig := jbig_in (jtb_6 _ (List.mem_of_getElem? (i := 82) rfl)) rfl
theorem wd1384 : Cond.instanceMethod yX6_fails ∈ jbig := jbig_in (jtb_6 _ (List.mem_of_getElem? (i := 81) rfl)) rfl
theorem wd43 : Cond.selects yX6_fails.cls yX6_fails yX6_fails ∈ jbig := jbig_of 43 rfl rfl
theorem wd1478 : Cond.methodLink RX6 183 yX6_worthTo ∈ jbig := jbig_in (jtb_6 _ (List.mem_of_getElem? (i := 175) rfl)) rfl
theorem wd1481 : Cond.code yX6_worthTo cX6_worthTo 3 (some .int) ∈ jbig := jbig_in (jtb_6 _ (List.mem_of_getElem? (i := 178) rfl)) rfl
theorem wd1480 : Cond.instanceMethod yX6_worthTo ∈ jbig := jbig_in (jtb_6 _ (List.mem_of_getElem? (i := 177) rfl)) rfl
theorem wd60 : Cond.selects yX6_worthTo.cls yX6_worthTo yX6_worthTo ∈ jbig := jbig_of 60 rfl rfl
theorem wd1469 : Cond.methodLink RX6 186 yX6_isPerson ∈ jbig := jbig_in (jtb_6 _ (List.mem_of_getElem? (i := 166) rfl)) rfl
theorem wd1472 : Cond.code yX6_isPerson cX6_isPerson 2 (some .boolean) ∈ jbig := jbig_in (jtb_6 _ (List.mem_of_getElem? (i := 169) rfl)) rfl
theorem wd1471 : Cond.instanceMethod yX6_isPerson ∈ jbig := jbig_in (jtb_6 _ (List.mem_of_getElem? (i := 168) rfl)) rfl
theorem wd58 : Cond.selects yX6_isPerson.cls yX6_isPerson yX6_isPerson ∈ jbig := jbig_of 58 rfl rfl
theorem wd1482 : Cond.methodLink RX6 194 yX6_holds ∈ jbig := jbig_in (jtb_6 _ (List.mem_of_getElem? (i := 179) rfl)) rfl
theorem wd1485 : Cond.code yX6_holds cX6_holds 4 (some .int) ∈ jbig := jbig_in (jtb_6 _ (List.mem_of_getElem? (i := 182) rfl)) rfl
theorem wd1484 : Cond.instanceMethod yX6_holds ∈ jbig := jbig_in (jtb_6 _ (List.mem_of_getElem? (i := 181) rfl)) rfl
theorem wd61 : Cond.selects yX6_holds.cls yX6_holds yX6_holds ∈ jbig := jbig_of 61 rfl rfl
theorem wd1474 : Cond.methodLink RX6 191 yX6_wealth ∈ jbig := jbig_in (jtb_6 _ (List.mem_of_getElem? (i := 171) rfl)) rfl
theorem wd1477 : Cond.code yX6_wealth cX6_wealth 4 (some .int) ∈ jbig := jbig_in (jtb_6 _ (List.mem_of_getElem? (i := 174) rfl)) rfl
theorem wd1476 : Cond.instanceMethod yX6_wealth ∈ jbig := jbig_in (jtb_6 _ (List.mem_of_getElem? (i := 173) rfl)) rfl
theorem wd59 : Cond.selects yX6_wealth.cls yX6_wealth yX6_wealth ∈ jbig := jbig_of 59 rfl rfl
theorem wd1490 : Cond.methodLink RX6 197 yX6_isThing ∈ jbig := jbig_in (jtb_6 _ (List.mem_of_getElem? (i := 187) rfl)) rfl
theorem wd1493 : Cond.code yX6_isThing cX6_isThing 2 (some .boolean) ∈ jbig := jbig_in (jtb_6 _ (List.mem_of_getElem? (i := 190) rfl)) rfl
theorem wd1492 : Cond.instanceMethod yX6_isThing ∈ jbig := jbig_in (jtb_6 _ (List.mem_of_getElem? (i := 189) rfl)) rfl
theorem wd62 : Cond.selects yX6_isThing.cls yX6_isThing yX6_isThing ∈ jbig := jbig_of 62 rfl rfl
theorem wd1502 : Cond.methodLink RX6 200 yX6_isEaten ∈ jbig := jbig_in (jtb_6 _ (List.mem_of_getElem? (i := 199) rfl)) rfl
theorem wd1505 : Cond.code yX6_isEaten cX6_isEaten 2 (some .boolean) ∈ jbig := jbig_in (jtb_6 _ (List.mem_of_getElem? (i := 202) rfl)) rfl
theorem wd1504 : Cond.instanceMethod yX6_isEaten ∈ jbig := jbig_in (jtb_6 _ (List.mem_of_getElem? (i := 201) rfl)) rfl
theorem wd63 : Cond.selects yX6_isEaten.cls yX6_isEaten yX6_isEaten ∈ jbig := jbig_of 63 rfl rfl
theorem wd1510 : Cond.methodLink RX6 203 Lib.Math.min.name ∈ jbig := jbig_in (jtb_6 _ (List.mem_of_getElem? (i := 207) rfl)) rfl
theorem wd926 : Cond.static Lib.Math.min.name ∈ jbig := jbig_in (jtb_4 _ (List.mem_of_getElem? (i := 103) rfl)) rfl
theorem wd927 : Cond.code Lib.Math.min.name Lib.Math.min.code 2 (some .int) ∈ jbig := jbig_in (jtb_4 _ (List.mem_of_getElem? (i := 104) rfl)) rfl
theorem wd1523 : Cond.methodLink RX6 208 yX6_of ∈ jbig := jbig_in (jtb_6 _ (List.mem_of_getElem? (i := 220) rfl)) rfl
theorem wd1526 : Cond.code yX6_of cX6_of 3 (some .int) ∈ jbig := jbig_in (jtb_6 _ (List.mem_of_getElem? (i := 223) rfl)) rfl
theorem wd1525 : Cond.instanceMethod yX6_of ∈ jbig := jbig_in (jtb_6 _ (List.mem_of_getElem? (i := 222) rfl)) rfl
theorem wd66 : Cond.selects yX6_of.cls yX6_of yX6_of ∈ jbig := jbig_of 66 rfl rfl
theorem wd1515 : Cond.methodLink RX6 211 yX6_hasRung ∈ jbig := jbig_in (jtb_6 _ (List.mem_of_getElem? (i := 212) rfl)) rfl
theorem wd1518 : Cond.code yX6_hasRung cX6_hasRung 1 (some .boolean) ∈ jbig := jbig_in (jtb_6 _ (List.mem_of_getElem? (i := 215) rfl)) rfl
theorem wd1517 : Cond.instanceMethod yX6_hasRung ∈ jbig := jbig_in (jtb_6 _ (List.mem_of_getElem? (i := 214) rfl)) rfl
theorem wd64 : Cond.selects yX6_hasRung.cls yX6_hasRung yX6_hasRung ∈ jbig := jbig_of 64 rfl rfl
theorem wd1519 : Cond.methodLink RX6 215 yX6_standMany ∈ jbig := jbig_in (jtb_6 _ (List.mem_of_getElem? (i := 216) rfl)) rfl
theorem wd1522 : Cond.code yX6_standMany cX6_standMany 3 (some .int) ∈ jbig := jbig_in (jtb_6 _ (List.mem_of_getElem? (i := 219) rfl)) rfl
theorem wd1521 : Cond.instanceMethod yX6_standMany ∈ jbig := jbig_in (jtb_6 _ (List.mem_of_getElem? (i := 218) rfl)) rfl
theorem wd65 : Cond.selects yX6_standMany.cls yX6_standMany yX6_standMany ∈ jbig := jbig_of 65 rfl rfl
theorem wd1531 : Cond.methodLink RX6 220 yX6_whyNoSale ∈ jbig := jbig_in (jtb_6 _ (List.mem_of_getElem? (i := 228) rfl)) rfl
theorem wd1534 : Cond.code yX6_whyNoSale cX6_whyNoSale 4 (some .int) ∈ jbig := jbig_in (jtb_6 _ (List.mem_of_getElem? (i := 231) rfl)) rfl
theorem wd1533 : Cond.instanceMethod yX6_whyNoSale ∈ jbig := jbig_in (jtb_6 _ (List.mem_of_getElem? (i := 230) rfl)) rfl
theorem wd67 : Cond.selects yX6_whyNoSale.cls yX6_whyNoSale yX6_whyNoSale ∈ jbig := jbig_of 67 rfl rfl
theorem wd1536 : Cond.methodLink RX6 224 yX6_sells ∈ jbig := jbig_in (jtb_6 _ (List.mem_of_getElem? (i := 233) rfl)) rfl
theorem wd1539 : Cond.code yX6_sells cX6_sells 6 (some .int) ∈ jbig := jbig_in (jtb_6 _ (List.mem_of_getElem? (i := 236) rfl)) rfl
theorem wd1538 : Cond.instanceMethod yX6_sells ∈ jbig := jbig_in (jtb_6 _ (List.mem_of_getElem? (i := 235) rfl)) rfl
theorem wd68 : Cond.selects yX6_sells.cls yX6_sells yX6_sells ∈ jbig := jbig_of 68 rfl rfl
theorem wd1553 : Cond.methodLink RX6 227 Lib.Math.max.name ∈ jbig := jbig_in (jtb_7 _ (List.mem_of_getElem? (i := 10) rfl)) rfl
theorem wd1544 : Cond.methodLink RX6 230 yX6_isDeed ∈ jbig := jbig_in (jtb_7 _ (List.mem_of_getElem? (i := 1) rfl)) rfl
theorem wd1547 : Cond.code yX6_isDeed cX6_isDeed 3 (some .boolean) ∈ jbig := jbig_in (jtb_7 _ (List.mem_of_getElem? (i := 4) rfl)) rfl
theorem wd1546 : Cond.instanceMethod yX6_isDeed ∈ jbig := jbig_in (jtb_7 _ (List.mem_of_getElem? (i := 3) rfl)) rfl
theorem wd69 : Cond.selects yX6_isDeed.cls yX6_isDeed yX6_isDeed ∈ jbig := jbig_of 69 rfl rfl
theorem wd1549 : Cond.methodLink RX6 236 yX6_worthOf ∈ jbig := jbig_in (jtb_7 _ (List.mem_of_getElem? (i := 6) rfl)) rfl
theorem wd1552 : Cond.code yX6_worthOf cX6_worthOf 4 (some .int) ∈ jbig := jbig_in (jtb_7 _ (List.mem_of_getElem? (i := 9) rfl)) rfl
theorem wd1551 : Cond.instanceMethod yX6_worthOf ∈ jbig := jbig_in (jtb_7 _ (List.mem_of_getElem? (i := 8) rfl)) rfl
theorem wd70 : Cond.selects yX6_worthOf.cls yX6_worthOf yX6_worthOf ∈ jbig := jbig_of 70 rfl rfl
theorem wd1570 : Cond.methodLink RX6 240 yX6_fallsOf ∈ jbig := jbig_in (jtb_7 _ (List.mem_of_getElem? (i := 27) rfl)) rfl
theorem wd1573 : Cond.code yX6_fallsOf cX6_fallsOf 4 (some .int) ∈ jbig := jbig_in (jtb_7 _ (List.mem_of_getElem? (i := 30) rfl)) rfl
theorem wd1572 : Cond.instanceMethod yX6_fallsOf ∈ jbig := jbig_in (jtb_7 _ (List.mem_of_getElem? (i := 29) rfl)) rfl
theorem wd74 : Cond.selects yX6_fallsOf.cls yX6_fallsOf yX6_fallsOf ∈ jbig := jbig_of 74 rfl rfl
theorem wd1574 : Cond.methodLink RX6 243 yX6_pays ∈ jbig := jbig_in (jtb_7 _ (List.mem_of_getElem? (i := 31) rfl)) rfl
theorem wd1577 : Cond.code yX6_pays cX6_pays 6 (some .int) ∈ jbig := jbig_in (jtb_7 _ (List.mem_of_getElem? (i := 34) rfl)) rfl
theorem wd1576 : Cond.instanceMethod yX6_pays ∈ jbig := jbig_in (jtb_7 _ (List.mem_of_getElem? (i := 33) rfl)) rfl
theorem wd75 : Cond.selects yX6_pays.cls yX6_pays yX6_pays ∈ jbig := jbig_of 75 rfl rfl
theorem wd1562 : Cond.methodLink RX6 246 yX6_isOf ∈ jbig := jbig_in (jtb_7 _ (List.mem_of_getElem? (i := 19) rfl)) rfl
theorem wd1565 : Cond.code yX6_isOf cX6_isOf 3 (some .boolean) ∈ jbig := jbig_in (jtb_7 _ (List.mem_of_getElem? (i := 22) rfl)) rfl
theorem wd1564 : Cond.instanceMethod yX6_isOf ∈ jbig := jbig_in (jtb_7 _ (List.mem_of_getElem? (i := 21) rfl)) rfl
theorem wd72 : Cond.selects yX6_isOf.cls yX6_isOf yX6_isOf ∈ jbig := jbig_of 72 rfl rfl
theorem wd1566 : Cond.methodLink RX6 250 yX6_undoes ∈ jbig := jbig_in (jtb_7 _ (List.mem_of_getElem? (i := 23) rfl)) rfl
theorem wd1569 : Cond.code yX6_undoes cX6_undoes 7 (some .int) ∈ jbig := jbig_in (jtb_7 _ (List.mem_of_getElem? (i := 26) rfl)) rfl
theorem wd1568 : Cond.instanceMethod yX6_undoes ∈ jbig := jbig_in (jtb_7 _ (List.mem_of_getElem? (i := 25) rfl)) rfl
theorem wd73 : Cond.selects yX6_undoes.cls yX6_undoes yX6_undoes ∈ jbig := jbig_of 73 rfl rfl
theorem wd1558 : Cond.methodLink RX6 253 yX6_whyNot ∈ jbig := jbig_in (jtb_7 _ (List.mem_of_getElem? (i := 15) rfl)) rfl
theorem wd1561 : Cond.code yX6_whyNot cX6_whyNot 6 (some .int) ∈ jbig := jbig_in (jtb_7 _ (List.mem_of_getElem? (i := 18) rfl)) rfl
theorem wd1560 : Cond.instanceMethod yX6_whyNot ∈ jbig := jbig_in (jtb_7 _ (List.mem_of_getElem? (i := 17) rfl)) rfl
theorem wd71 : Cond.selects yX6_whyNot.cls yX6_whyNot yX6_whyNot ∈ jbig := jbig_of 71 rfl rfl
theorem wd1602 : Cond.methodLink RX6 257 yX6_isTray ∈ jbig := jbig_in (jtb_7 _ (List.mem_of_getElem? (i := 59) rfl)) rfl
theorem wd1604 : Cond.code yX6_isTray cX6_isTray 1 (some .boolean) ∈ jbig := jbig_in (jtb_7 _ (List.mem_of_getElem? (i := 61) rfl)) rfl
theorem wd1603 : Cond.static yX6_isTray ∈ jbig := jbig_in (jtb_7 _ (List.mem_of_getElem? (i := 60) rfl)) rfl
theorem wd1614 : Cond.methodLink RX6 260 yX6_byTold ∈ jbig := jbig_in (jtb_7 _ (List.mem_of_getElem? (i := 71) rfl)) rfl
theorem wd1617 : Cond.code yX6_byTold cX6_byTold 2 (some .int) ∈ jbig := jbig_in (jtb_7 _ (List.mem_of_getElem? (i := 74) rfl)) rfl
theorem wd1616 : Cond.instanceMethod yX6_byTold ∈ jbig := jbig_in (jtb_7 _ (List.mem_of_getElem? (i := 73) rfl)) rfl
theorem wd79 : Cond.selects yX6_byTold.cls yX6_byTold yX6_byTold ∈ jbig := jbig_of 79 rfl rfl
theorem wd1610 : Cond.methodLink RX6 263 yX6_whyTold ∈ jbig := jbig_in (jtb_7 _ (List.mem_of_getElem? (i := 67) rfl)) rfl
theorem wd1613 : Cond.code yX6_whyTold cX6_whyTold 3 (some .int) ∈ jbig := jbig_in (jtb_7 _ (List.mem_of_getElem? (i := 70) rfl)) rfl
theorem wd1612 : Cond.instanceMethod yX6_whyTold ∈ jbig := jbig_in (jtb_7 _ (List.mem_of_getElem? (i := 69) rfl)) rfl
theorem wd78 : Cond.selects yX6_whyTold.cls yX6_whyTold yX6_whyTold ∈ jbig := jbig_of 78 rfl rfl
theorem wd1598 : Cond.methodLink RX6 267 yX6_trayFault ∈ jbig := jbig_in (jtb_7 _ (List.mem_of_getElem? (i := 55) rfl)) rfl
theorem wd1601 : Cond.code yX6_trayFault cX6_trayFault 2 (some .int) ∈ jbig := jbig_in (jtb_7 _ (List.mem_of_getElem? (i := 58) rfl)) rfl
theorem wd1600 : Cond.instanceMethod yX6_trayFault ∈ jbig := jbig_in (jtb_7 _ (List.mem_of_getElem? (i := 57) rfl)) rfl
theorem wd76 : Cond.selects yX6_trayFault.cls yX6_trayFault yX6_trayFault ∈ jbig := jbig_of 76 rfl rfl
theorem wd1606 : Cond.methodLink RX6 270 yX6_goesBy ∈ jbig := jbig_in (jtb_7 _ (List.mem_of_getElem? (i := 63) rfl)) rfl
theorem wd1609 : Cond.code yX6_goesBy cX6_goesBy 4 (some .int) ∈ jbig := jbig_in (jtb_7 _ (List.mem_of_getElem? (i := 66) rfl)) rfl
theorem wd1608 : Cond.instanceMethod yX6_goesBy ∈ jbig := jbig_in (jtb_7 _ (List.mem_of_getElem? (i := 65) rfl)) rfl
theorem wd77 : Cond.selects yX6_goesBy.cls yX6_goesBy yX6_goesBy ∈ jbig := jbig_of 77 rfl rfl
theorem wd1631 : Cond.methodLink RX6 277 yX6_draw ∈ jbig := jbig_in (jtb_7 _ (List.mem_of_getElem? (i := 88) rfl)) rfl
theorem wd1634 : Cond.code yX6_draw cX6_draw 2 (some .int) ∈ jbig := jbig_in (jtb_7 _ (List.mem_of_getElem? (i := 91) rfl)) rfl
theorem wd1633 : Cond.instanceMethod yX6_draw ∈ jbig := jbig_in (jtb_7 _ (List.mem_of_getElem? (i := 90) rfl)) rfl
theorem wd81 : Cond.selects yX6_draw.cls yX6_draw yX6_draw ∈ jbig := jbig_of 81 rfl rfl
theorem wd1627 : Cond.methodLink RX6 282 yX6_drawn ∈ jbig := jbig_in (jtb_7 _ (List.mem_of_getElem? (i := 84) rfl)) rfl
theorem wd1630 : Cond.code yX6_drawn cX6_drawn 4 (some .boolean) ∈ jbig := jbig_in (jtb_7 _ (List.mem_of_getElem? (i := 87) rfl)) rfl
theorem wd1629 : Cond.instanceMethod yX6_drawn ∈ jbig := jbig_in (jtb_7 _ (List.mem_of_getElem? (i := 86) rfl)) rfl
theorem wd80 : Cond.selects yX6_drawn.cls yX6_drawn yX6_drawn ∈ jbig := jbig_of 80 rfl rfl
theorem wd1644 : Cond.methodLink RX6 285 yX6_isOpen ∈ jbig := jbig_in (jtb_7 _ (List.mem_of_getElem? (i := 101) rfl)) rfl
theorem wd1647 : Cond.code yX6_isOpen cX6_isOpen 2 (some .boolean) ∈ jbig := jbig_in (jtb_7 _ (List.mem_of_getElem? (i := 104) rfl)) rfl
theorem wd1646 : Cond.instanceMethod yX6_isOpen ∈ jbig := jbig_in (jtb_7 _ (List.mem_of_getElem? (i := 103) rfl)) rfl
theorem wd83 : Cond.selects yX6_isOpen.cls yX6_isOpen yX6_isOpen ∈ jbig := jbig_of 83 rfl rfl
theorem wd1640 : Cond.methodLink RX6 288 yX6_openSet ∈ jbig := jbig_in (jtb_7 _ (List.mem_of_getElem? (i := 97) rfl)) rfl
theorem wd1643 : Cond.code yX6_openSet cX6_openSet 3 (some .int) ∈ jbig := jbig_in (jtb_7 _ (List.mem_of_getElem? (i := 100) rfl)) rfl
theorem wd1642 : Cond.instanceMethod yX6_openSet ∈ jbig := jbig_in (jtb_7 _ (List.mem_of_getElem? (i := 99) rfl)) rfl
theorem wd82 : Cond.selects yX6_openSet.cls yX6_openSet yX6_openSet ∈ jbig := jbig_of 82 rfl rfl
theorem wd1652 : Cond.methodLink RX6 291 yX6_gainOf ∈ jbig := jbig_in (jtb_7 _ (List.mem_of_getElem? (i := 109) rfl)) rfl
theorem wd1655 : Cond.code yX6_gainOf cX6_gainOf 5 (some .int) ∈ jbig := jbig_in (jtb_7 _ (List.mem_of_getElem? (i := 112) rfl)) rfl
theorem wd1654 : Cond.instanceMethod yX6_gainOf ∈ jbig := jbig_in (jtb_7 _ (List.mem_of_getElem? (i := 111) rfl)) rfl
theorem wd84 : Cond.selects yX6_gainOf.cls yX6_gainOf yX6_gainOf ∈ jbig := jbig_of 84 rfl rfl
theorem wd1660 : Cond.methodLink RX6 294 yX6_pledgeOf ∈ jbig := jbig_in (jtb_7 _ (List.mem_of_getElem? (i := 117) rfl)) rfl
theorem wd1663 : Cond.code yX6_pledgeOf cX6_pledgeOf 2 (some .int) ∈ jbig := jbig_in (jtb_7 _ (List.mem_of_getElem? (i := 120) rfl)) rfl
theorem wd1662 : Cond.instanceMethod yX6_pledgeOf ∈ jbig := jbig_in (jtb_7 _ (List.mem_of_getElem? (i := 119) rfl)) rfl
theorem wd85 : Cond.selects yX6_pledgeOf.cls yX6_pledgeOf yX6_pledgeOf ∈ jbig := jbig_of 85 rfl rfl
theorem wd1672 : Cond.methodLink RX6 297 yX6_isTempted ∈ jbig := jbig_in (jtb_7 _ (List.mem_of_getElem? (i := 129) rfl)) rfl
theorem wd1675 : Cond.code yX6_isTempted cX6_isTempted 3 (some .boolean) ∈ jbig := jbig_in (jtb_7 _ (List.mem_of_getElem? (i := 132) rfl)) rfl
theorem wd1674 : Cond.instanceMethod yX6_isTempted ∈ jbig := jbig_in (jtb_7 _ (List.mem_of_getElem? (i := 131) rfl)) rfl
theorem wd86 : Cond.selects yX6_isTempted.cls yX6_isTempted yX6_isTempted ∈ jbig := jbig_of 86 rfl rfl
theorem wd1688 : Cond.methodLink RX6 300 yX6_isSafePrice ∈ jbig := jbig_in (jtb_7 _ (List.mem_of_getElem? (i := 145) rfl)) rfl
theorem wd1691 : Cond.code yX6_isSafePrice cX6_isSafePrice 7 (some .boolean) ∈ jbig := jbig_in (jtb_7 _ (List.mem_of_getElem? (i := 148) rfl)) rfl
theorem wd1690 : Cond.instanceMethod yX6_isSafePrice ∈ jbig := jbig_in (jtb_7 _ (List.mem_of_getElem? (i := 147) rfl)) rfl
theorem wd87 : Cond.selects yX6_isSafePrice.cls yX6_isSafePrice yX6_isSafePrice ∈ jbig := jbig_of 87 rfl rfl
theorem wd1726 : Cond.methodLink RX6 307 yX6_fallIn ∈ jbig := jbig_in (jtb_7 _ (List.mem_of_getElem? (i := 183) rfl)) rfl
theorem wd1729 : Cond.code yX6_fallIn cX6_fallIn 5 (some .int) ∈ jbig := jbig_in (jtb_7 _ (List.mem_of_getElem? (i := 186) rfl)) rfl
theorem wd1728 : Cond.instanceMethod yX6_fallIn ∈ jbig := jbig_in (jtb_7 _ (List.mem_of_getElem? (i := 185) rfl)) rfl
theorem wd93 : Cond.selects yX6_fallIn.cls yX6_fallIn yX6_fallIn ∈ jbig := jbig_of 93 rfl rfl
theorem wd1722 : Cond.methodLink RX6 326 yX6_laysUndoing ∈ jbig := jbig_in (jtb_7 _ (List.mem_of_getElem? (i := 179) rfl)) rfl
theorem wd1725 : Cond.code yX6_laysUndoing cX6_laysUndoing 10 none ∈ jbig := jbig_in (jtb_7 _ (List.mem_of_getElem? (i := 182) rfl)) rfl
theorem wd1724 : Cond.instanceMethod yX6_laysUndoing ∈ jbig := jbig_in (jtb_7 _ (List.mem_of_getElem? (i := 181) rfl)) rfl
theorem wd92 : Cond.selects yX6_laysUndoing.cls yX6_laysUndoing yX6_laysUndoing ∈ jbig := jbig_of 92 rfl rfl
theorem wd1714 : Cond.methodLink RX6 319 yX6_seat ∈ jbig := jbig_in (jtb_7 _ (List.mem_of_getElem? (i := 171) rfl)) rfl
theorem wd1717 : Cond.code yX6_seat cX6_seat 4 (some .int) ∈ jbig := jbig_in (jtb_7 _ (List.mem_of_getElem? (i := 174) rfl)) rfl
theorem wd1716 : Cond.instanceMethod yX6_seat ∈ jbig := jbig_in (jtb_7 _ (List.mem_of_getElem? (i := 173) rfl)) rfl
theorem wd90 : Cond.selects yX6_seat.cls yX6_seat yX6_seat ∈ jbig := jbig_of 90 rfl rfl
theorem wd1718 : Cond.methodLink RX6 322 yX6_laysTurn ∈ jbig := jbig_in (jtb_7 _ (List.mem_of_getElem? (i := 175) rfl)) rfl
theorem wd1721 : Cond.code yX6_laysTurn cX6_laysTurn 7 none ∈ jbig := jbig_in (jtb_7 _ (List.mem_of_getElem? (i := 178) rfl)) rfl
theorem wd1720 : Cond.instanceMethod yX6_laysTurn ∈ jbig := jbig_in (jtb_7 _ (List.mem_of_getElem? (i := 177) rfl)) rfl
theorem wd91 : Cond.selects yX6_laysTurn.cls yX6_laysTurn yX6_laysTurn ∈ jbig := jbig_of 91 rfl rfl
theorem wd1710 : Cond.methodLink RX6 310 yX6_laysFrom ∈ jbig := jbig_in (jtb_7 _ (List.mem_of_getElem? (i := 167) rfl)) rfl
theorem wd1713 : Cond.code yX6_laysFrom cX6_laysFrom 5 (some .boolean) ∈ jbig := jbig_in (jtb_7 _ (List.mem_of_getElem? (i := 170) rfl)) rfl
theorem wd1712 : Cond.instanceMethod yX6_laysFrom ∈ jbig := jbig_in (jtb_7 _ (List.mem_of_getElem? (i := 169) rfl)) rfl
theorem wd89 : Cond.selects yX6_laysFrom.cls yX6_laysFrom yX6_laysFrom ∈ jbig := jbig_of 89 rfl rfl
theorem wd1739 : Cond.methodLink RX6 330 yX6_full ∈ jbig := jbig_in (jtb_7 _ (List.mem_of_getElem? (i := 196) rfl)) rfl
theorem wd1742 : Cond.code yX6_full cX6_full 1 (some .int) ∈ jbig := jbig_in (jtb_7 _ (List.mem_of_getElem? (i := 199) rfl)) rfl
theorem wd1741 : Cond.instanceMethod yX6_full ∈ jbig := jbig_in (jtb_7 _ (List.mem_of_getElem? (i := 198) rfl)) rfl
theorem wd96 : Cond.selects yX6_full.cls yX6_full yX6_full ∈ jbig := jbig_of 96 rfl rfl
theorem wd1735 : Cond.methodLink RX6 333 yX6_setBehind ∈ jbig := jbig_in (jtb_7 _ (List.mem_of_getElem? (i := 192) rfl)) rfl
theorem wd1738 : Cond.code yX6_setBehind cX6_setBehind 5 (some .int) ∈ jbig := jbig_in (jtb_7 _ (List.mem_of_getElem? (i := 195) rfl)) rfl
theorem wd1737 : Cond.instanceMethod yX6_setBehind ∈ jbig := jbig_in (jtb_7 _ (List.mem_of_getElem? (i := 194) rfl)) rfl
theorem wd95 : Cond.selects yX6_setBehind.cls yX6_setBehind yX6_setBehind ∈ jbig := jbig_of 95 rfl rfl
theorem wd1706 : Cond.methodLink RX6 340 yX6_laysEnd ∈ jbig := jbig_in (jtb_7 _ (List.mem_of_getElem? (i := 163) rfl)) rfl
theorem wd1709 : Cond.code yX6_laysEnd cX6_laysEnd 2 (some .boolean) ∈ jbig := jbig_in (jtb_7 _ (List.mem_of_getElem? (i := 166) rfl)) rfl
theorem wd1708 : Cond.instanceMethod yX6_laysEnd ∈ jbig := jbig_in (jtb_7 _ (List.mem_of_getElem? (i := 165) rfl)) rfl
theorem wd88 : Cond.selects yX6_laysEnd.cls yX6_laysEnd yX6_laysEnd ∈ jbig := jbig_of 88 rfl rfl
theorem wd1743 : Cond.methodLink RX6 347 yX6_chosen ∈ jbig := jbig_in (jtb_7 _ (List.mem_of_getElem? (i := 200) rfl)) rfl
theorem wd1746 : Cond.code yX6_chosen cX6_chosen 3 (some .int) ∈ jbig := jbig_in (jtb_7 _ (List.mem_of_getElem? (i := 203) rfl)) rfl
theorem wd1745 : Cond.instanceMethod yX6_chosen ∈ jbig := jbig_in (jtb_7 _ (List.mem_of_getElem? (i := 202) rfl)) rfl
theorem wd97 : Cond.selects yX6_chosen.cls yX6_chosen yX6_chosen ∈ jbig := jbig_of 97 rfl rfl
theorem wd1747 : Cond.methodLink RX6 350 yX6_wealthIn ∈ jbig := jbig_in (jtb_7 _ (List.mem_of_getElem? (i := 204) rfl)) rfl
theorem wd1750 : Cond.code yX6_wealthIn cX6_wealthIn 2 (some .int) ∈ jbig := jbig_in (jtb_7 _ (List.mem_of_getElem? (i := 207) rfl)) rfl
theorem wd1749 : Cond.instanceMethod yX6_wealthIn ∈ jbig := jbig_in (jtb_7 _ (List.mem_of_getElem? (i := 206) rfl)) rfl
theorem wd98 : Cond.selects yX6_wealthIn.cls yX6_wealthIn yX6_wealthIn ∈ jbig := jbig_of 98 rfl rfl
theorem wd1731 : Cond.methodLink RX6 344 yX6_standIn ∈ jbig := jbig_in (jtb_7 _ (List.mem_of_getElem? (i := 188) rfl)) rfl
theorem wd1734 : Cond.code yX6_standIn cX6_standIn 4 (some .int) ∈ jbig := jbig_in (jtb_7 _ (List.mem_of_getElem? (i := 191) rfl)) rfl
theorem wd1733 : Cond.instanceMethod yX6_standIn ∈ jbig := jbig_in (jtb_7 _ (List.mem_of_getElem? (i := 190) rfl)) rfl
theorem wd94 : Cond.selects yX6_standIn.cls yX6_standIn yX6_standIn ∈ jbig := jbig_of 94 rfl rfl
theorem wd1771 : Cond.methodLink RX6 353 yX6_size ∈ jbig := jbig_in (jtb_7 _ (List.mem_of_getElem? (i := 228) rfl)) rfl
theorem wd1773 : Cond.code yX6_size cX6_size 3 (some .int) ∈ jbig := jbig_in (jtb_7 _ (List.mem_of_getElem? (i := 230) rfl)) rfl
theorem wd1772 : Cond.static yX6_size ∈ jbig := jbig_in (jtb_7 _ (List.mem_of_getElem? (i := 229) rfl)) rfl
theorem wd1787 : Cond.methodLink RX6 357 yX6_isHeld ∈ jbig := jbig_in (jtb_8 _ (List.mem_of_getElem? (i := 4) rfl)) rfl
theorem wd1790 : Cond.code yX6_isHeld cX6_isHeld 2 (some .boolean) ∈ jbig := jbig_in (jtb_8 _ (List.mem_of_getElem? (i := 7) rfl)) rfl
theorem wd1789 : Cond.instanceMethod yX6_isHeld ∈ jbig := jbig_in (jtb_8 _ (List.mem_of_getElem? (i := 6) rfl)) rfl
theorem wd99 : Cond.selects yX6_isHeld.cls yX6_isHeld yX6_isHeld ∈ jbig := jbig_of 99 rfl rfl
theorem wd1791 : Cond.methodLink RX6 360 yX6_rather ∈ jbig := jbig_in (jtb_8 _ (List.mem_of_getElem? (i := 8) rfl)) rfl
theorem wd1794 : Cond.code yX6_rather cX6_rather 3 (some .boolean) ∈ jbig := jbig_in (jtb_8 _ (List.mem_of_getElem? (i := 11) rfl)) rfl
theorem wd1793 : Cond.instanceMethod yX6_rather ∈ jbig := jbig_in (jtb_8 _ (List.mem_of_getElem? (i := 10) rfl)) rfl
theorem wd100 : Cond.selects yX6_rather.cls yX6_rather yX6_rather ∈ jbig := jbig_of 100 rfl rfl
theorem wd1799 : Cond.methodLink RX6 363 yX6_isThree ∈ jbig := jbig_in (jtb_8 _ (List.mem_of_getElem? (i := 16) rfl)) rfl
theorem wd1802 : Cond.code yX6_isThree cX6_isThree 7 (some .boolean) ∈ jbig := jbig_in (jtb_8 _ (List.mem_of_getElem? (i := 19) rfl)) rfl
theorem wd1801 : Cond.instanceMethod yX6_isThree ∈ jbig := jbig_in (jtb_8 _ (List.mem_of_getElem? (i := 18) rfl)) rfl
theorem wd101 : Cond.selects yX6_isThree.cls yX6_isThree yX6_isThree ∈ jbig := jbig_of 101 rfl rfl
theorem wd1815 : Cond.methodLink RX6 369 yX6_cut ∈ jbig := jbig_in (jtb_8 _ (List.mem_of_getElem? (i := 32) rfl)) rfl
theorem wd1818 : Cond.code yX6_cut cX6_cut 6 (some .long) ∈ jbig := jbig_in (jtb_8 _ (List.mem_of_getElem? (i := 35) rfl)) rfl
theorem wd1817 : Cond.instanceMethod yX6_cut ∈ jbig := jbig_in (jtb_8 _ (List.mem_of_getElem? (i := 34) rfl)) rfl
theorem wd102 : Cond.selects yX6_cut.cls yX6_cut yX6_cut ∈ jbig := jbig_of 102 rfl rfl
theorem wd346 : Cond.fieldLink RX5 10 "TillTheBell" "now" "LTillTheBell$Town;" ∈ jbig := jbig_in (jtb_2 _ (List.mem_of_getElem? (i := 3) rfl)) rfl
theorem wd347 : Cond.fieldLink RX5 16 "TillTheBell" "trial" "LTillTheBell$Town;" ∈ jbig := jbig_in (jtb_2 _ (List.mem_of_getElem? (i := 4) rfl)) rfl
theorem wd348 : Cond.fieldLink RX5 19 "TillTheBell" "images" "[LTillTheBell$Town;" ∈ jbig := jbig_in (jtb_2 _ (List.mem_of_getElem? (i := 5) rfl)) rfl
theorem wd349 : Cond.fieldLink RX5 23 "TillTheBell" "imaged" "[Z" ∈ jbig := jbig_in (jtb_2 _ (List.mem_of_getElem? (i := 6) rfl)) rfl
theorem wd350 : Cond.fieldLink RX5 29 "TillTheBell" "trays" "[LTillTheBell$Tray;" ∈ jbig := jbig_in (jtb_2 _ (List.mem_of_getElem? (i := 7) rfl)) rfl
theorem wd351 : Cond.fieldLink RX5 36 "TillTheBell" "reader" "LTillTheBell$Reader;" ∈ jbig := jbig_in (jtb_2 _ (List.mem_of_getElem? (i := 8) rfl)) rfl
theorem wd352 : Cond.fieldLink RX5 43 "TillTheBell" "ending" "LTillTheBell$Ending;" ∈ jbig := jbig_in (jtb_2 _ (List.mem_of_getElem? (i := 9) rfl)) rfl
theorem wd235 : Cond.fieldLink RX5 48 "TillTheBell$Reader" "length" "I" ∈ jbig := jbig_in (jtb_1 _ (List.mem_of_getElem? (i := 132) rfl)) rfl
theorem wd238 : Cond.fieldLink RX5 63 "TillTheBell$Reader" "wrong" "I" ∈ jbig := jbig_in (jtb_1 _ (List.mem_of_getElem? (i := 135) rfl)) rfl
theorem wd141 : Cond.fieldLink RX5 70 "TillTheBell$Town" "lines" "I" ∈ jbig := jbig_in (jtb_1 _ (List.mem_of_getElem? (i := 38) rfl)) rfl
theorem wd240 : Cond.fieldLink RX5 73 "TillTheBell$Reader" "place" "I" ∈ jbig := jbig_in (jtb_1 _ (List.mem_of_getElem? (i := 137) rfl)) rfl
theorem wd171 : Cond.fieldLink RX5 79 "TillTheBell$Town" "coins" "[I" ∈ jbig := jbig_in (jtb_1 _ (List.mem_of_getElem? (i := 68) rfl)) rfl
theorem wd174 : Cond.fieldLink RX5 97 "TillTheBell$Town" "holders" "[I" ∈ jbig := jbig_in (jtb_1 _ (List.mem_of_getElem? (i := 71) rfl)) rfl
theorem wd153 : Cond.fieldLink RX5 104 "TillTheBell$Town" "eaten" "I" ∈ jbig := jbig_in (jtb_1 _ (List.mem_of_getElem? (i := 50) rfl)) rfl
theorem wd162 : Cond.fieldLink RX5 107 "TillTheBell$Town" "minute" "I" ∈ jbig := jbig_in (jtb_1 _ (List.mem_of_getElem? (i := 59) rfl)) rfl
theorem wd168 : Cond.fieldLink RX5 122 "TillTheBell$Town" "standing" "I" ∈ jbig := jbig_in (jtb_1 _ (List.mem_of_getElem? (i := 65) rfl)) rfl
theorem wd166 : Cond.fieldLink RX5 130 "TillTheBell$Town" "deeds" "I" ∈ jbig := jbig_in (jtb_1 _ (List.mem_of_getElem? (i := 63) rfl)) rfl
theorem wd179 : Cond.fieldLink RX5 143 "TillTheBell$Town" "thingOf" "[I" ∈ jbig := jbig_in (jtb_1 _ (List.mem_of_getElem? (i := 76) rfl)) rfl
theorem wd182 : Cond.fieldLink RX5 146 "TillTheBell$Town" "giverOf" "[I" ∈ jbig := jbig_in (jtb_1 _ (List.mem_of_getElem? (i := 79) rfl)) rfl
theorem wd185 : Cond.fieldLink RX5 149 "TillTheBell$Town" "takerOf" "[I" ∈ jbig := jbig_in (jtb_1 _ (List.mem_of_getElem? (i := 82) rfl)) rfl
theorem wd187 : Cond.fieldLink RX5 152 "TillTheBell$Town" "priceOf" "[I" ∈ jbig := jbig_in (jtb_1 _ (List.mem_of_getElem? (i := 84) rfl)) rfl
theorem wd189 : Cond.fieldLink RX5 158 "TillTheBell$Town" "minuteOf" "[I" ∈ jbig := jbig_in (jtb_1 _ (List.mem_of_getElem? (i := 86) rfl)) rfl
theorem wd333 : Cond.fieldLink RX5 191 "TillTheBell$Tray" "many" "I" ∈ jbig := jbig_in (jtb_1 _ (List.mem_of_getElem? (i := 230) rfl)) rfl
theorem wd335 : Cond.fieldLink RX5 194 "TillTheBell$Tray" "row" "[J" ∈ jbig := jbig_in (jtb_1 _ (List.mem_of_getElem? (i := 232) rfl)) rfl
theorem wd151 : Cond.fieldLink RX5 202 "TillTheBell$Town" "things" "I" ∈ jbig := jbig_in (jtb_1 _ (List.mem_of_getElem? (i := 48) rfl)) rfl
theorem wd147 : Cond.fieldLink RX5 248 "TillTheBell$Town" "people" "I" ∈ jbig := jbig_in (jtb_1 _ (List.mem_of_getElem? (i := 44) rfl)) rfl
theorem wd278 : Cond.fieldLink RX5 262 "TillTheBell$Ending" "left" "I" ∈ jbig := jbig_in (jtb_1 _ (List.mem_of_getElem? (i := 175) rfl)) rfl
theorem wd157 : Cond.fieldLink RX5 284 "TillTheBell$Town" "share" "I" ∈ jbig := jbig_in (jtb_1 _ (List.mem_of_getElem? (i := 54) rfl)) rfl
theorem wd160 : Cond.fieldLink RX5 316 "TillTheBell$Town" "bell" "I" ∈ jbig := jbig_in (jtb_1 _ (List.mem_of_getElem? (i := 57) rfl)) rfl
theorem wd331 : Cond.fieldLink RX5 331 "TillTheBell$Tray" "missing" "Z" ∈ jbig := jbig_in (jtb_1 _ (List.mem_of_getElem? (i := 228) rfl)) rfl
theorem wd569 : Cond.constant RX5 258 (-100000) ∈ jbig := jbig_in (jtb_2 _ (List.mem_of_getElem? (i := 226) rfl)) rfl
theorem wd372 : Cond.methodLink RX5 52 yX2_add ∈ jbig := jbig_in (jtb_2 _ (List.mem_of_getElem? (i := 29) rfl)) rfl
theorem wd375 : Cond.code yX2_add cX2_add 3 none ∈ jbig := jbig_in (jtb_2 _ (List.mem_of_getElem? (i := 32) rfl)) rfl
theorem wd373 : Cond.instanceMethod yX2_add ∈ jbig := jbig_in (jtb_2 _ (List.mem_of_getElem? (i := 30) rfl)) rfl
theorem wd374 : Cond.selects yX2_add.cls yX2_add yX2_add ∈ jbig := jbig_in (jtb_2 _ (List.mem_of_getElem? (i := 31) rfl)) rfl
theorem wd722 : Cond.methodLink RX5 59 yX2_read ∈ jbig := jbig_in (jtb_3 _ (List.mem_of_getElem? (i := 139) rfl)) rfl
theorem wd725 : Cond.code yX2_read cX2_read 5 (some .boolean) ∈ jbig := jbig_in (jtb_3 _ (List.mem_of_getElem? (i := 142) rfl)) rfl
theorem wd723 : Cond.instanceMethod yX2_read ∈ jbig := jbig_in (jtb_3 _ (List.mem_of_getElem? (i := 140) rfl)) rfl
theorem wd724 : Cond.selects yX2_read.cls yX2_read yX2_read ∈ jbig := jbig_in (jtb_3 _ (List.mem_of_getElem? (i := 141) rfl)) rfl
theorem wd570 : Cond.methodLink RX5 66 yX3_copyFrom ∈ jbig := jbig_in (jtb_2 _ (List.mem_of_getElem? (i := 227) rfl)) rfl
theorem wd573 : Cond.code yX3_copyFrom cX3_copyFrom 2 none ∈ jbig := jbig_in (jtb_2 _ (List.mem_of_getElem? (i := 230) rfl)) rfl
theorem wd571 : Cond.instanceMethod yX3_copyFrom ∈ jbig := jbig_in (jtb_2 _ (List.mem_of_getElem? (i := 228) rfl)) rfl
theorem wd572 : Cond.selects yX3_copyFrom.cls yX3_copyFrom yX3_copyFrom ∈ jbig := jbig_in (jtb_2 _ (List.mem_of_getElem? (i := 229) rfl)) rfl
theorem wd870 : Cond.methodLink RX5 268 yX3_hasPerson ∈ jbig := jbig_in (jtb_4 _ (List.mem_of_getElem? (i := 47) rfl)) rfl
theorem wd866 : Cond.methodLink RX5 76 yX5_needPerson ∈ jbig := jbig_in (jtb_4 _ (List.mem_of_getElem? (i := 43) rfl)) rfl
theorem wd869 : Cond.code yX5_needPerson cX5_needPerson 2 none ∈ jbig := jbig_in (jtb_4 _ (List.mem_of_getElem? (i := 46) rfl)) rfl
theorem wd104 : Cond.initialized RX5 ∈ jbig := jbig_in (jtb_1 _ (List.mem_of_getElem? (i := 1) rfl)) rfl
theorem wd868 : Cond.instanceMethod yX5_needPerson ∈ jbig := jbig_in (jtb_4 _ (List.mem_of_getElem? (i := 45) rfl)) rfl
theorem wd31 : Cond.selects yX5_needPerson.cls yX5_needPerson yX5_needPerson ∈ jbig := jbig_of 31 rfl rfl
theorem wd886 : Cond.methodLink RX5 83 yX3_wealth ∈ jbig := jbig_in (jtb_4 _ (List.mem_of_getElem? (i := 63) rfl)) rfl
theorem wd887 : Cond.methodLink RX5 87 yX3_held ∈ jbig := jbig_in (jtb_4 _ (List.mem_of_getElem? (i := 64) rfl)) rfl
theorem wd890 : Cond.code yX3_held cX3_held 4 (some .int) ∈ jbig := jbig_in (jtb_4 _ (List.mem_of_getElem? (i := 67) rfl)) rfl
theorem wd888 : Cond.instanceMethod yX3_held ∈ jbig := jbig_in (jtb_4 _ (List.mem_of_getElem? (i := 65) rfl)) rfl
theorem wd889 : Cond.selects yX3_held.cls yX3_held yX3_held ∈ jbig := jbig_in (jtb_4 _ (List.mem_of_getElem? (i := 66) rfl)) rfl
theorem wd902 : Cond.methodLink RX5 325 yX3_hasThing ∈ jbig := jbig_in (jtb_4 _ (List.mem_of_getElem? (i := 79) rfl)) rfl
theorem wd898 : Cond.methodLink RX5 90 yX5_needThing ∈ jbig := jbig_in (jtb_4 _ (List.mem_of_getElem? (i := 75) rfl)) rfl
theorem wd901 : Cond.code yX5_needThing cX5_needThing 2 none ∈ jbig := jbig_in (jtb_4 _ (List.mem_of_getElem? (i := 78) rfl)) rfl
theorem wd900 : Cond.instanceMethod yX5_needThing ∈ jbig := jbig_in (jtb_4 _ (List.mem_of_getElem? (i := 77) rfl)) rfl
theorem wd32 : Cond.selects yX5_needThing.cls yX5_needThing yX5_needThing ∈ jbig := jbig_of 32 rfl rfl
theorem wd633 : Cond.methodLink RX5 93 yX3_worthTo ∈ jbig := jbig_in (jtb_3 _ (List.mem_of_getElem? (i := 50) rfl)) rfl
theorem wd917 : Cond.methodLink RX5 100 yX3_isEaten ∈ jbig := jbig_in (jtb_4 _ (List.mem_of_getElem? (i := 94) rfl)) rfl
theorem wd925 : Cond.methodLink RX5 110 Lib.Math.min.name ∈ jbig := jbig_in (jtb_4 _ (List.mem_of_getElem? (i := 102) rfl)) rfl
theorem wd936 : Cond.methodLink RX5 115 yX3_hasRung ∈ jbig := jbig_in (jtb_4 _ (List.mem_of_getElem? (i := 113) rfl)) rfl
theorem wd577 : Cond.methodLink RX5 125 yJ6_bitCount_0f7a4 ∈ jbig := jbig_in (jtb_2 _ (List.mem_of_getElem? (i := 234) rfl)) rfl
theorem wd384 : Cond.methodLink RX5 133 yX3_whyNoDeed ∈ jbig := jbig_in (jtb_2 _ (List.mem_of_getElem? (i := 41) rfl)) rfl
theorem wd404 : Cond.methodLink RX5 137 yX3_make ∈ jbig := jbig_in (jtb_2 _ (List.mem_of_getElem? (i := 61) rfl)) rfl
theorem wd963 : Cond.methodLink RX5 328 yX3_hasDeed ∈ jbig := jbig_in (jtb_4 _ (List.mem_of_getElem? (i := 140) rfl)) rfl
theorem wd959 : Cond.methodLink RX5 140 yX5_needDeed ∈ jbig := jbig_in (jtb_4 _ (List.mem_of_getElem? (i := 136) rfl)) rfl
theorem wd962 : Cond.code yX5_needDeed cX5_needDeed 2 none ∈ jbig := jbig_in (jtb_4 _ (List.mem_of_getElem? (i := 139) rfl)) rfl
theorem wd961 : Cond.instanceMethod yX5_needDeed ∈ jbig := jbig_in (jtb_4 _ (List.mem_of_getElem? (i := 138) rfl)) rfl
theorem wd33 : Cond.selects yX5_needDeed.cls yX5_needDeed yX5_needDeed ∈ jbig := jbig_of 33 rfl rfl
theorem wd964 : Cond.methodLink RX5 155 yX3_stands ∈ jbig := jbig_in (jtb_4 _ (List.mem_of_getElem? (i := 141) rfl)) rfl
theorem wd965 : Cond.methodLink RX5 161 yX3_worthToGiver ∈ jbig := jbig_in (jtb_4 _ (List.mem_of_getElem? (i := 142) rfl)) rfl
theorem wd966 : Cond.methodLink RX5 164 yX3_worthToTaker ∈ jbig := jbig_in (jtb_4 _ (List.mem_of_getElem? (i := 143) rfl)) rfl
theorem wd974 : Cond.methodLink RX5 167 yX3_whyNoUndoing ∈ jbig := jbig_in (jtb_4 _ (List.mem_of_getElem? (i := 151) rfl)) rfl
theorem wd506 : Cond.methodLink RX5 170 yX3_fell ∈ jbig := jbig_in (jtb_2 _ (List.mem_of_getElem? (i := 163) rfl)) rfl
theorem wd989 : Cond.methodLink RX5 173 yX3_fallBits ∈ jbig := jbig_in (jtb_4 _ (List.mem_of_getElem? (i := 166) rfl)) rfl
theorem wd997 : Cond.methodLink RX5 176 yX3_isOf ∈ jbig := jbig_in (jtb_4 _ (List.mem_of_getElem? (i := 174) rfl)) rfl
theorem wd998 : Cond.methodLink RX5 180 yX3_owedTo ∈ jbig := jbig_in (jtb_4 _ (List.mem_of_getElem? (i := 175) rfl)) rfl
theorem wd505 : Cond.methodLink RX5 235 yX3_sideOf ∈ jbig := jbig_in (jtb_2 _ (List.mem_of_getElem? (i := 162) rfl)) rfl
theorem wd1020 : Cond.methodLink RX5 198 yX5_whyNoTold ∈ jbig := jbig_in (jtb_4 _ (List.mem_of_getElem? (i := 197) rfl)) rfl
theorem wd1022 : Cond.code yX5_whyNoTold cX5_whyNoTold 4 (some .int) ∈ jbig := jbig_in (jtb_4 _ (List.mem_of_getElem? (i := 199) rfl)) rfl
theorem wd1021 : Cond.static yX5_whyNoTold ∈ jbig := jbig_in (jtb_4 _ (List.mem_of_getElem? (i := 198) rfl)) rfl
theorem wd1013 : Cond.methodLink RX5 183 yX5_needTray ∈ jbig := jbig_in (jtb_4 _ (List.mem_of_getElem? (i := 190) rfl)) rfl
theorem wd1016 : Cond.code yX5_needTray cX5_needTray 2 (some (.object "TillTheBell$Tray")) ∈ jbig := jbig_in (jtb_4 _ (List.mem_of_getElem? (i := 193) rfl)) rfl
theorem wd1015 : Cond.instanceMethod yX5_needTray ∈ jbig := jbig_in (jtb_4 _ (List.mem_of_getElem? (i := 192) rfl)) rfl
theorem wd34 : Cond.selects yX5_needTray.cls yX5_needTray yX5_needTray ∈ jbig := jbig_of 34 rfl rfl
theorem wd1017 : Cond.methodLink RX5 187 yX5_doTold ∈ jbig := jbig_in (jtb_4 _ (List.mem_of_getElem? (i := 194) rfl)) rfl
theorem wd1019 : Cond.code yX5_doTold cX5_doTold 4 (some .int) ∈ jbig := jbig_in (jtb_4 _ (List.mem_of_getElem? (i := 196) rfl)) rfl
theorem wd1018 : Cond.static yX5_doTold ∈ jbig := jbig_in (jtb_4 _ (List.mem_of_getElem? (i := 195) rfl)) rfl
theorem wd412 : Cond.methodLink RX5 213 yX3_openBits ∈ jbig := jbig_in (jtb_2 _ (List.mem_of_getElem? (i := 69) rfl)) rfl
theorem wd428 : Cond.methodLink RX5 217 yX3_isOpen ∈ jbig := jbig_in (jtb_2 _ (List.mem_of_getElem? (i := 85) rfl)) rfl
theorem wd472 : Cond.methodLink RX5 220 yX3_gainOf ∈ jbig := jbig_in (jtb_2 _ (List.mem_of_getElem? (i := 129) rfl)) rfl
theorem wd429 : Cond.methodLink RX5 223 yX3_topGain ∈ jbig := jbig_in (jtb_2 _ (List.mem_of_getElem? (i := 86) rfl)) rfl
theorem wd432 : Cond.code yX3_topGain cX3_topGain 2 (some .int) ∈ jbig := jbig_in (jtb_2 _ (List.mem_of_getElem? (i := 89) rfl)) rfl
theorem wd430 : Cond.instanceMethod yX3_topGain ∈ jbig := jbig_in (jtb_2 _ (List.mem_of_getElem? (i := 87) rfl)) rfl
theorem wd431 : Cond.selects yX3_topGain.cls yX3_topGain yX3_topGain ∈ jbig := jbig_in (jtb_2 _ (List.mem_of_getElem? (i := 88) rfl)) rfl
theorem wd1083 : Cond.methodLink RX5 226 Lib.Math.max.name ∈ jbig := jbig_in (jtb_5 _ (List.mem_of_getElem? (i := 20) rfl)) rfl
theorem wd468 : Cond.methodLink RX5 229 yX5_temptedBit ∈ jbig := jbig_in (jtb_2 _ (List.mem_of_getElem? (i := 125) rfl)) rfl
theorem wd471 : Cond.code yX5_temptedBit cX5_temptedBit 3 (some .int) ∈ jbig := jbig_in (jtb_2 _ (List.mem_of_getElem? (i := 128) rfl)) rfl
theorem wd470 : Cond.instanceMethod yX5_temptedBit ∈ jbig := jbig_in (jtb_2 _ (List.mem_of_getElem? (i := 127) rfl)) rfl
theorem wd0 : Cond.selects yX5_temptedBit.cls yX5_temptedBit yX5_temptedBit ∈ jbig := jbig_of 0 rfl rfl
theorem wd477 : Cond.methodLink RX5 232 yX3_bestUndoing ∈ jbig := jbig_in (jtb_2 _ (List.mem_of_getElem? (i := 134) rfl)) rfl
theorem wd480 : Cond.code yX3_bestUndoing cX3_bestUndoing 7 (some .int) ∈ jbig := jbig_in (jtb_2 _ (List.mem_of_getElem? (i := 137) rfl)) rfl
theorem wd478 : Cond.instanceMethod yX3_bestUndoing ∈ jbig := jbig_in (jtb_2 _ (List.mem_of_getElem? (i := 135) rfl)) rfl
theorem wd479 : Cond.selects yX3_bestUndoing.cls yX3_bestUndoing yX3_bestUndoing ∈ jbig := jbig_in (jtb_2 _ (List.mem_of_getElem? (i := 136) rfl)) rfl
theorem wd1091 : Cond.methodLink RX5 238 yX3_owedToAll ∈ jbig := jbig_in (jtb_5 _ (List.mem_of_getElem? (i := 28) rfl)) rfl
theorem wd1099 : Cond.methodLink RX5 241 yX3_wouldBeSafe ∈ jbig := jbig_in (jtb_5 _ (List.mem_of_getElem? (i := 36) rfl)) rfl
theorem wd1102 : Cond.code yX3_wouldBeSafe cX3_wouldBeSafe 8 (some .boolean) ∈ jbig := jbig_in (jtb_5 _ (List.mem_of_getElem? (i := 39) rfl)) rfl
theorem wd1100 : Cond.instanceMethod yX3_wouldBeSafe ∈ jbig := jbig_in (jtb_5 _ (List.mem_of_getElem? (i := 37) rfl)) rfl
theorem wd1101 : Cond.selects yX3_wouldBeSafe.cls yX3_wouldBeSafe yX3_wouldBeSafe ∈ jbig := jbig_in (jtb_5 _ (List.mem_of_getElem? (i := 38) rfl)) rfl
theorem wd528 : Cond.methodLink RX5 245 yX3_chainLength ∈ jbig := jbig_in (jtb_2 _ (List.mem_of_getElem? (i := 185) rfl)) rfl
theorem wd531 : Cond.code yX3_chainLength cX3_chainLength 4 (some .int) ∈ jbig := jbig_in (jtb_2 _ (List.mem_of_getElem? (i := 188) rfl)) rfl
theorem wd529 : Cond.instanceMethod yX3_chainLength ∈ jbig := jbig_in (jtb_2 _ (List.mem_of_getElem? (i := 186) rfl)) rfl
theorem wd530 : Cond.selects yX3_chainLength.cls yX3_chainLength yX3_chainLength ∈ jbig := jbig_in (jtb_2 _ (List.mem_of_getElem? (i := 187) rfl)) rfl
theorem wd1117 : Cond.methodLink RX5 251 yX5_needRounds ∈ jbig := jbig_in (jtb_5 _ (List.mem_of_getElem? (i := 54) rfl)) rfl
theorem wd1119 : Cond.code yX5_needRounds cX5_needRounds 1 none ∈ jbig := jbig_in (jtb_5 _ (List.mem_of_getElem? (i := 56) rfl)) rfl
theorem wd1118 : Cond.static yX5_needRounds ∈ jbig := jbig_in (jtb_5 _ (List.mem_of_getElem? (i := 55) rfl)) rfl
theorem wd536 : Cond.methodLink RX5 254 yX1_lay ∈ jbig := jbig_in (jtb_2 _ (List.mem_of_getElem? (i := 193) rfl)) rfl
theorem wd539 : Cond.code yX1_lay cX1_lay 6 (some .boolean) ∈ jbig := jbig_in (jtb_2 _ (List.mem_of_getElem? (i := 196) rfl)) rfl
theorem wd537 : Cond.instanceMethod yX1_lay ∈ jbig := jbig_in (jtb_2 _ (List.mem_of_getElem? (i := 194) rfl)) rfl
theorem wd538 : Cond.selects yX1_lay.cls yX1_lay yX1_lay ∈ jbig := jbig_in (jtb_2 _ (List.mem_of_getElem? (i := 195) rfl)) rfl
theorem wd578 : Cond.methodLink RX5 259 yX1_play ∈ jbig := jbig_in (jtb_2 _ (List.mem_of_getElem? (i := 235) rfl)) rfl
theorem wd581 : Cond.code yX1_play cX1_play 6 none ∈ jbig := jbig_in (jtb_2 _ (List.mem_of_getElem? (i := 238) rfl)) rfl
theorem wd579 : Cond.instanceMethod yX1_play ∈ jbig := jbig_in (jtb_2 _ (List.mem_of_getElem? (i := 236) rfl)) rfl
theorem wd580 : Cond.selects yX1_play.cls yX1_play yX1_play ∈ jbig := jbig_in (jtb_2 _ (List.mem_of_getElem? (i := 237) rfl)) rfl
theorem wd1127 : Cond.methodLink RX5 265 yX5_leftIn ∈ jbig := jbig_in (jtb_5 _ (List.mem_of_getElem? (i := 64) rfl)) rfl
theorem wd1130 : Cond.code yX5_leftIn cX5_leftIn 3 (some .int) ∈ jbig := jbig_in (jtb_5 _ (List.mem_of_getElem? (i := 67) rfl)) rfl
theorem wd1129 : Cond.instanceMethod yX5_leftIn ∈ jbig := jbig_in (jtb_5 _ (List.mem_of_getElem? (i := 66) rfl)) rfl
theorem wd38 : Cond.selects yX5_leftIn.cls yX5_leftIn yX5_leftIn ∈ jbig := jbig_of 38 rfl rfl
theorem wd1146 : Cond.methodLink RX5 277 yX1_undoings ∈ jbig := jbig_in (jtb_5 _ (List.mem_of_getElem? (i := 83) rfl)) rfl
theorem wd1149 : Cond.code yX1_undoings cX1_undoings 3 (some .int) ∈ jbig := jbig_in (jtb_5 _ (List.mem_of_getElem? (i := 86) rfl)) rfl
theorem wd1147 : Cond.instanceMethod yX1_undoings ∈ jbig := jbig_in (jtb_5 _ (List.mem_of_getElem? (i := 84) rfl)) rfl
theorem wd1148 : Cond.selects yX1_undoings.cls yX1_undoings yX1_undoings ∈ jbig := jbig_in (jtb_5 _ (List.mem_of_getElem? (i := 85) rfl)) rfl
theorem wd1142 : Cond.methodLink RX5 274 yX1_undoneIn ∈ jbig := jbig_in (jtb_5 _ (List.mem_of_getElem? (i := 79) rfl)) rfl
theorem wd1145 : Cond.code yX1_undoneIn cX1_undoneIn 2 (some .int) ∈ jbig := jbig_in (jtb_5 _ (List.mem_of_getElem? (i := 82) rfl)) rfl
theorem wd1143 : Cond.instanceMethod yX1_undoneIn ∈ jbig := jbig_in (jtb_5 _ (List.mem_of_getElem? (i := 80) rfl)) rfl
theorem wd1144 : Cond.selects yX1_undoneIn.cls yX1_undoneIn yX1_undoneIn ∈ jbig := jbig_in (jtb_5 _ (List.mem_of_getElem? (i := 81) rfl)) rfl
theorem wd1138 : Cond.methodLink RX5 271 yX1_change ∈ jbig := jbig_in (jtb_5 _ (List.mem_of_getElem? (i := 75) rfl)) rfl
theorem wd1141 : Cond.code yX1_change cX1_change 2 (some .int) ∈ jbig := jbig_in (jtb_5 _ (List.mem_of_getElem? (i := 78) rfl)) rfl
theorem wd1139 : Cond.instanceMethod yX1_change ∈ jbig := jbig_in (jtb_5 _ (List.mem_of_getElem? (i := 76) rfl)) rfl
theorem wd1140 : Cond.selects yX1_change.cls yX1_change yX1_change ∈ jbig := jbig_in (jtb_5 _ (List.mem_of_getElem? (i := 77) rfl)) rfl
theorem wd1164 : Cond.methodLink RX5 280 yX3_setWorth ∈ jbig := jbig_in (jtb_5 _ (List.mem_of_getElem? (i := 101) rfl)) rfl
theorem wd1179 : Cond.methodLink RX5 287 yX4_isOffers ∈ jbig := jbig_in (jtb_5 _ (List.mem_of_getElem? (i := 116) rfl)) rfl
theorem wd1182 : Cond.code yX4_isOffers cX4_isOffers 2 (some .boolean) ∈ jbig := jbig_in (jtb_5 _ (List.mem_of_getElem? (i := 119) rfl)) rfl
theorem wd1180 : Cond.instanceMethod yX4_isOffers ∈ jbig := jbig_in (jtb_5 _ (List.mem_of_getElem? (i := 117) rfl)) rfl
theorem wd1181 : Cond.selects yX4_isOffers.cls yX4_isOffers yX4_isOffers ∈ jbig := jbig_in (jtb_5 _ (List.mem_of_getElem? (i := 118) rfl)) rfl
theorem wd1184 : Cond.methodLink RX5 290 yX4_hopeIn ∈ jbig := jbig_in (jtb_5 _ (List.mem_of_getElem? (i := 121) rfl)) rfl
theorem wd1187 : Cond.code yX4_hopeIn cX4_hopeIn 10 (some .int) ∈ jbig := jbig_in (jtb_5 _ (List.mem_of_getElem? (i := 124) rfl)) rfl
theorem wd1185 : Cond.instanceMethod yX4_hopeIn ∈ jbig := jbig_in (jtb_5 _ (List.mem_of_getElem? (i := 122) rfl)) rfl
theorem wd1186 : Cond.selects yX4_hopeIn.cls yX4_hopeIn yX4_hopeIn ∈ jbig := jbig_in (jtb_5 _ (List.mem_of_getElem? (i := 123) rfl)) rfl
theorem wd616 : Cond.methodLink RX5 294 yX3_wants ∈ jbig := jbig_in (jtb_3 _ (List.mem_of_getElem? (i := 33) rfl)) rfl
theorem wd624 : Cond.methodLink RX5 297 yX3_isRing ∈ jbig := jbig_in (jtb_3 _ (List.mem_of_getElem? (i := 41) rfl)) rfl
theorem wd627 : Cond.code yX3_isRing cX3_isRing 4 (some .boolean) ∈ jbig := jbig_in (jtb_3 _ (List.mem_of_getElem? (i := 44) rfl)) rfl
theorem wd625 : Cond.instanceMethod yX3_isRing ∈ jbig := jbig_in (jtb_3 _ (List.mem_of_getElem? (i := 42) rfl)) rfl
theorem wd626 : Cond.selects yX3_isRing.cls yX3_isRing yX3_isRing ∈ jbig := jbig_in (jtb_3 _ (List.mem_of_getElem? (i := 43) rfl)) rfl
theorem wd1206 : Cond.methodLink RX5 303 yX4_lay ∈ jbig := jbig_in (jtb_5 _ (List.mem_of_getElem? (i := 143) rfl)) rfl
theorem wd1209 : Cond.code yX4_lay cX4_lay 3 none ∈ jbig := jbig_in (jtb_5 _ (List.mem_of_getElem? (i := 146) rfl)) rfl
theorem wd1207 : Cond.instanceMethod yX4_lay ∈ jbig := jbig_in (jtb_5 _ (List.mem_of_getElem? (i := 144) rfl)) rfl
theorem wd1208 : Cond.selects yX4_lay.cls yX4_lay yX4_lay ∈ jbig := jbig_in (jtb_5 _ (List.mem_of_getElem? (i := 145) rfl)) rfl
theorem wd1236 : Cond.methodLink RX5 309 yX4_put ∈ jbig := jbig_in (jtb_5 _ (List.mem_of_getElem? (i := 173) rfl)) rfl
theorem wd1239 : Cond.code yX4_put cX4_put 4 none ∈ jbig := jbig_in (jtb_5 _ (List.mem_of_getElem? (i := 176) rfl)) rfl
theorem wd1237 : Cond.instanceMethod yX4_put ∈ jbig := jbig_in (jtb_5 _ (List.mem_of_getElem? (i := 174) rfl)) rfl
theorem wd1238 : Cond.selects yX4_put.cls yX4_put yX4_put ∈ jbig := jbig_in (jtb_5 _ (List.mem_of_getElem? (i := 175) rfl)) rfl
theorem wd1258 : Cond.methodLink RX5 313 yX5_needImage ∈ jbig := jbig_in (jtb_5 _ (List.mem_of_getElem? (i := 195) rfl)) rfl
theorem wd1261 : Cond.code yX5_needImage cX5_needImage 2 none ∈ jbig := jbig_in (jtb_5 _ (List.mem_of_getElem? (i := 198) rfl)) rfl
theorem wd1260 : Cond.instanceMethod yX5_needImage ∈ jbig := jbig_in (jtb_5 _ (List.mem_of_getElem? (i := 197) rfl)) rfl
theorem wd42 : Cond.selects yX5_needImage.cls yX5_needImage yX5_needImage ∈ jbig := jbig_of 42 rfl rfl
theorem wd638 : Cond.methodLink RX5 319 yX3_coinsOfAll ∈ jbig := jbig_in (jtb_3 _ (List.mem_of_getElem? (i := 55) rfl)) rfl
theorem wd641 : Cond.code yX3_coinsOfAll cX3_coinsOfAll 3 (some .int) ∈ jbig := jbig_in (jtb_3 _ (List.mem_of_getElem? (i := 58) rfl)) rfl
theorem wd639 : Cond.instanceMethod yX3_coinsOfAll ∈ jbig := jbig_in (jtb_3 _ (List.mem_of_getElem? (i := 56) rfl)) rfl
theorem wd640 : Cond.selects yX3_coinsOfAll.cls yX3_coinsOfAll yX3_coinsOfAll ∈ jbig := jbig_in (jtb_3 _ (List.mem_of_getElem? (i := 57) rfl)) rfl
theorem wd642 : Cond.methodLink RX5 322 yX3_wealthOfAll ∈ jbig := jbig_in (jtb_3 _ (List.mem_of_getElem? (i := 59) rfl)) rfl
theorem wd645 : Cond.code yX3_wealthOfAll cX3_wealthOfAll 3 (some .int) ∈ jbig := jbig_in (jtb_3 _ (List.mem_of_getElem? (i := 62) rfl)) rfl
theorem wd643 : Cond.instanceMethod yX3_wealthOfAll ∈ jbig := jbig_in (jtb_3 _ (List.mem_of_getElem? (i := 60) rfl)) rfl
theorem wd644 : Cond.selects yX3_wealthOfAll.cls yX3_wealthOfAll yX3_wealthOfAll ∈ jbig := jbig_in (jtb_3 _ (List.mem_of_getElem? (i := 61) rfl)) rfl

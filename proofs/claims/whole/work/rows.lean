section
-- ===== PART A: goes FIRST, ahead of the names: the tables' words, and 'selects' of the private methods out of them =====
/-- a private method of a class that the tables say can be made, by its rows of tables_1 -/
def lw_okq (q : MethodName × Nat) : Prop := (q.1.cls ≠ "java/lang/invoke/MethodHandle" ∧ q.1.cls ≠ "java/lang/invoke/VarHandle") ∧ Cond.instantiable q.1.cls q.2 ∈ tables_1 ∧ Cond.privateMethod q.1 ∈ tables_1 ∧ Cond.instanceMethod q.1 ∈ tables_1
theorem lw_p0 : lw_okq (⟨"TillTheBell", "temptedBit", "(II)I"⟩, 7) := ⟨⟨by decide +kernel, by decide +kernel⟩, List.mem_of_getElem? (i := 24) (by decide +kernel), List.mem_of_getElem? (i := 366) (by decide +kernel), List.mem_of_getElem? (i := 367) (by decide +kernel)⟩
theorem lw_p1 : lw_okq (⟨"TillTheBell$Ending", "layDeed", "(LTillTheBell$Town;I)V"⟩, 15) := ⟨⟨by decide +kernel, by decide +kernel⟩, List.mem_of_getElem? (i := 169) (by decide +kernel), List.mem_of_getElem? (i := 443) (by decide +kernel), List.mem_of_getElem? (i := 444) (by decide +kernel)⟩
theorem lw_p2 : lw_okq (⟨"TillTheBell$Ending", "layFor", "(I)V"⟩, 15) := ⟨⟨by decide +kernel, by decide +kernel⟩, List.mem_of_getElem? (i := 169) (by decide +kernel), List.mem_of_getElem? (i := 447) (by decide +kernel), List.mem_of_getElem? (i := 448) (by decide +kernel)⟩
theorem lw_p3 : lw_okq (⟨"TillTheBell$Ending", "reach", "()V"⟩, 15) := ⟨⟨by decide +kernel, by decide +kernel⟩, List.mem_of_getElem? (i := 169) (by decide +kernel), List.mem_of_getElem? (i := 451) (by decide +kernel), List.mem_of_getElem? (i := 452) (by decide +kernel)⟩
theorem lw_p4 : lw_okq (⟨"TillTheBell$Ending", "whole", "()I"⟩, 15) := ⟨⟨by decide +kernel, by decide +kernel⟩, List.mem_of_getElem? (i := 169) (by decide +kernel), List.mem_of_getElem? (i := 455) (by decide +kernel), List.mem_of_getElem? (i := 456) (by decide +kernel)⟩
theorem lw_p5 : lw_okq (⟨"TillTheBell$Ending", "personIn", "(I)I"⟩, 15) := ⟨⟨by decide +kernel, by decide +kernel⟩, List.mem_of_getElem? (i := 169) (by decide +kernel), List.mem_of_getElem? (i := 459) (by decide +kernel), List.mem_of_getElem? (i := 460) (by decide +kernel)⟩
theorem lw_p6 : lw_okq (⟨"TillTheBell$Ending", "reachFrom", "(III)V"⟩, 15) := ⟨⟨by decide +kernel, by decide +kernel⟩, List.mem_of_getElem? (i := 169) (by decide +kernel), List.mem_of_getElem? (i := 463) (by decide +kernel), List.mem_of_getElem? (i := 464) (by decide +kernel)⟩
theorem lw_p7 : lw_okq (⟨"TillTheBell$Ending", "weigh", "(LTillTheBell$Town;)V"⟩, 15) := ⟨⟨by decide +kernel, by decide +kernel⟩, List.mem_of_getElem? (i := 169) (by decide +kernel), List.mem_of_getElem? (i := 480) (by decide +kernel), List.mem_of_getElem? (i := 481) (by decide +kernel)⟩
theorem lw_p8 : lw_okq (⟨"TillTheBell$Ending", "forget", "(I)V"⟩, 15) := ⟨⟨by decide +kernel, by decide +kernel⟩, List.mem_of_getElem? (i := 169) (by decide +kernel), List.mem_of_getElem? (i := 489) (by decide +kernel), List.mem_of_getElem? (i := 490) (by decide +kernel)⟩
theorem lw_p9 : lw_okq (⟨"TillTheBell$Ending", "choose", "(III)V"⟩, 15) := ⟨⟨by decide +kernel, by decide +kernel⟩, List.mem_of_getElem? (i := 169) (by decide +kernel), List.mem_of_getElem? (i := 493) (by decide +kernel), List.mem_of_getElem? (i := 494) (by decide +kernel)⟩
theorem lw_p10 : lw_okq (⟨"TillTheBell$Ending", "sumOf", "([IIII)I"⟩, 15) := ⟨⟨by decide +kernel, by decide +kernel⟩, List.mem_of_getElem? (i := 169) (by decide +kernel), List.mem_of_getElem? (i := 497) (by decide +kernel), List.mem_of_getElem? (i := 498) (by decide +kernel)⟩
theorem lw_p11 : lw_okq (⟨"TillTheBell$Ending", "settle", "(III)V"⟩, 15) := ⟨⟨by decide +kernel, by decide +kernel⟩, List.mem_of_getElem? (i := 169) (by decide +kernel), List.mem_of_getElem? (i := 501) (by decide +kernel), List.mem_of_getElem? (i := 502) (by decide +kernel)⟩
theorem lw_p12 : lw_okq (⟨"TillTheBell$Ending", "walk", "(LTillTheBell$Town;)V"⟩, 15) := ⟨⟨by decide +kernel, by decide +kernel⟩, List.mem_of_getElem? (i := 169) (by decide +kernel), List.mem_of_getElem? (i := 505) (by decide +kernel), List.mem_of_getElem? (i := 506) (by decide +kernel)⟩
theorem lw_p13 : lw_okq (⟨"java/lang/Throwable", "fillInStackTrace", "(I)Ljava/lang/Throwable;"⟩, 6) := ⟨⟨by decide +kernel, by decide +kernel⟩, List.mem_of_getElem? (i := 595) (by decide +kernel), List.mem_of_getElem? (i := 593) (by decide +kernel), List.mem_of_getElem? (i := 594) (by decide +kernel)⟩
theorem lw_p14 : lw_okq (⟨"TillTheBell$Reader", "next", "()V"⟩, 10) := ⟨⟨by decide +kernel, by decide +kernel⟩, List.mem_of_getElem? (i := 127) (by decide +kernel), List.mem_of_getElem? (i := 629) (by decide +kernel), List.mem_of_getElem? (i := 630) (by decide +kernel)⟩
theorem lw_p15 : lw_okq (⟨"TillTheBell$Reader", "takeRun", "(II)Z"⟩, 10) := ⟨⟨by decide +kernel, by decide +kernel⟩, List.mem_of_getElem? (i := 127) (by decide +kernel), List.mem_of_getElem? (i := 633) (by decide +kernel), List.mem_of_getElem? (i := 634) (by decide +kernel)⟩
def lw_privs_1 : List (MethodName × Nat) := [(⟨"TillTheBell", "temptedBit", "(II)I"⟩, 7), (⟨"TillTheBell$Ending", "layDeed", "(LTillTheBell$Town;I)V"⟩, 15), (⟨"TillTheBell$Ending", "layFor", "(I)V"⟩, 15), (⟨"TillTheBell$Ending", "reach", "()V"⟩, 15), (⟨"TillTheBell$Ending", "whole", "()I"⟩, 15), (⟨"TillTheBell$Ending", "personIn", "(I)I"⟩, 15), (⟨"TillTheBell$Ending", "reachFrom", "(III)V"⟩, 15), (⟨"TillTheBell$Ending", "weigh", "(LTillTheBell$Town;)V"⟩, 15), (⟨"TillTheBell$Ending", "forget", "(I)V"⟩, 15), (⟨"TillTheBell$Ending", "choose", "(III)V"⟩, 15), (⟨"TillTheBell$Ending", "sumOf", "([IIII)I"⟩, 15), (⟨"TillTheBell$Ending", "settle", "(III)V"⟩, 15), (⟨"TillTheBell$Ending", "walk", "(LTillTheBell$Town;)V"⟩, 15), (⟨"java/lang/Throwable", "fillInStackTrace", "(I)Ljava/lang/Throwable;"⟩, 6), (⟨"TillTheBell$Reader", "next", "()V"⟩, 10), (⟨"TillTheBell$Reader", "takeRun", "(II)Z"⟩, 10)]
theorem lw_r1 : ∀ q ∈ lw_privs_1, lw_okq q := List.forall_mem_cons.mpr ⟨lw_p0, List.forall_mem_cons.mpr ⟨lw_p1, List.forall_mem_cons.mpr ⟨lw_p2, List.forall_mem_cons.mpr ⟨lw_p3, List.forall_mem_cons.mpr ⟨lw_p4, List.forall_mem_cons.mpr ⟨lw_p5, List.forall_mem_cons.mpr ⟨lw_p6, List.forall_mem_cons.mpr ⟨lw_p7, List.forall_mem_cons.mpr ⟨lw_p8, List.forall_mem_cons.mpr ⟨lw_p9, List.forall_mem_cons.mpr ⟨lw_p10, List.forall_mem_cons.mpr ⟨lw_p11, List.forall_mem_cons.mpr ⟨lw_p12, List.forall_mem_cons.mpr ⟨lw_p13, List.forall_mem_cons.mpr ⟨lw_p14, List.forall_mem_cons.mpr ⟨lw_p15, fun _ h => absurd h List.not_mem_nil⟩⟩⟩⟩⟩⟩⟩⟩⟩⟩⟩⟩⟩⟩⟩⟩
theorem lw_p16 : lw_okq (⟨"TillTheBell$Reader", "valueOfRun", "()I"⟩, 10) := ⟨⟨by decide +kernel, by decide +kernel⟩, List.mem_of_getElem? (i := 127) (by decide +kernel), List.mem_of_getElem? (i := 637) (by decide +kernel), List.mem_of_getElem? (i := 638) (by decide +kernel)⟩
theorem lw_p17 : lw_okq (⟨"TillTheBell$Reader", "kindOfLine", "()I"⟩, 10) := ⟨⟨by decide +kernel, by decide +kernel⟩, List.mem_of_getElem? (i := 127) (by decide +kernel), List.mem_of_getElem? (i := 641) (by decide +kernel), List.mem_of_getElem? (i := 642) (by decide +kernel)⟩
theorem lw_p18 : lw_okq (⟨"TillTheBell$Reader", "isWord", "(Ljava/lang/String;)Z"⟩, 10) := ⟨⟨by decide +kernel, by decide +kernel⟩, List.mem_of_getElem? (i := 127) (by decide +kernel), List.mem_of_getElem? (i := 646) (by decide +kernel), List.mem_of_getElem? (i := 647) (by decide +kernel)⟩
theorem lw_p19 : lw_okq (⟨"TillTheBell$Reader", "begins", "(ILTillTheBell$Town;)Z"⟩, 10) := ⟨⟨by decide +kernel, by decide +kernel⟩, List.mem_of_getElem? (i := 127) (by decide +kernel), List.mem_of_getElem? (i := 704) (by decide +kernel), List.mem_of_getElem? (i := 705) (by decide +kernel)⟩
theorem lw_p20 : lw_okq (⟨"TillTheBell$Reader", "fails", "(I)Z"⟩, 10) := ⟨⟨by decide +kernel, by decide +kernel⟩, List.mem_of_getElem? (i := 127) (by decide +kernel), List.mem_of_getElem? (i := 708) (by decide +kernel), List.mem_of_getElem? (i := 709) (by decide +kernel)⟩
theorem lw_p21 : lw_okq (⟨"TillTheBell$Reader", "readNumbers", "(ILTillTheBell$Town;)Z"⟩, 10) := ⟨⟨by decide +kernel, by decide +kernel⟩, List.mem_of_getElem? (i := 127) (by decide +kernel), List.mem_of_getElem? (i := 712) (by decide +kernel), List.mem_of_getElem? (i := 713) (by decide +kernel)⟩
theorem lw_p22 : lw_okq (⟨"TillTheBell$Reader", "readPeople", "(LTillTheBell$Town;)Z"⟩, 10) := ⟨⟨by decide +kernel, by decide +kernel⟩, List.mem_of_getElem? (i := 127) (by decide +kernel), List.mem_of_getElem? (i := 716) (by decide +kernel), List.mem_of_getElem? (i := 717) (by decide +kernel)⟩
theorem lw_p23 : lw_okq (⟨"TillTheBell$Reader", "takes", "(II)Z"⟩, 10) := ⟨⟨by decide +kernel, by decide +kernel⟩, List.mem_of_getElem? (i := 127) (by decide +kernel), List.mem_of_getElem? (i := 720) (by decide +kernel), List.mem_of_getElem? (i := 721) (by decide +kernel)⟩
theorem lw_p24 : lw_okq (⟨"TillTheBell$Reader", "readCoins", "(LTillTheBell$Town;)Z"⟩, 10) := ⟨⟨by decide +kernel, by decide +kernel⟩, List.mem_of_getElem? (i := 127) (by decide +kernel), List.mem_of_getElem? (i := 724) (by decide +kernel), List.mem_of_getElem? (i := 725) (by decide +kernel)⟩
theorem lw_p25 : lw_okq (⟨"TillTheBell$Reader", "readThing", "(LTillTheBell$Town;)Z"⟩, 10) := ⟨⟨by decide +kernel, by decide +kernel⟩, List.mem_of_getElem? (i := 127) (by decide +kernel), List.mem_of_getElem? (i := 728) (by decide +kernel), List.mem_of_getElem? (i := 729) (by decide +kernel)⟩
theorem lw_p26 : lw_okq (⟨"TillTheBell$Reader", "readWorth", "(LTillTheBell$Town;)Z"⟩, 10) := ⟨⟨by decide +kernel, by decide +kernel⟩, List.mem_of_getElem? (i := 127) (by decide +kernel), List.mem_of_getElem? (i := 736) (by decide +kernel), List.mem_of_getElem? (i := 737) (by decide +kernel)⟩
theorem lw_p27 : lw_okq (⟨"TillTheBell$Reader", "readShare", "(LTillTheBell$Town;)Z"⟩, 10) := ⟨⟨by decide +kernel, by decide +kernel⟩, List.mem_of_getElem? (i := 127) (by decide +kernel), List.mem_of_getElem? (i := 740) (by decide +kernel), List.mem_of_getElem? (i := 741) (by decide +kernel)⟩
theorem lw_p28 : lw_okq (⟨"TillTheBell$Reader", "readBell", "(LTillTheBell$Town;)Z"⟩, 10) := ⟨⟨by decide +kernel, by decide +kernel⟩, List.mem_of_getElem? (i := 127) (by decide +kernel), List.mem_of_getElem? (i := 744) (by decide +kernel), List.mem_of_getElem? (i := 745) (by decide +kernel)⟩
theorem lw_p29 : lw_okq (⟨"TillTheBell$Reader", "readEaten", "(LTillTheBell$Town;)Z"⟩, 10) := ⟨⟨by decide +kernel, by decide +kernel⟩, List.mem_of_getElem? (i := 127) (by decide +kernel), List.mem_of_getElem? (i := 748) (by decide +kernel), List.mem_of_getElem? (i := 749) (by decide +kernel)⟩
theorem lw_p30 : lw_okq (⟨"TillTheBell$Reader", "closes", "()Z"⟩, 10) := ⟨⟨by decide +kernel, by decide +kernel⟩, List.mem_of_getElem? (i := 127) (by decide +kernel), List.mem_of_getElem? (i := 752) (by decide +kernel), List.mem_of_getElem? (i := 753) (by decide +kernel)⟩
theorem lw_p31 : lw_okq (⟨"TillTheBell", "needPerson", "(I)V"⟩, 7) := ⟨⟨by decide +kernel, by decide +kernel⟩, List.mem_of_getElem? (i := 24) (by decide +kernel), List.mem_of_getElem? (i := 764) (by decide +kernel), List.mem_of_getElem? (i := 765) (by decide +kernel)⟩
def lw_privs_2 : List (MethodName × Nat) := [(⟨"TillTheBell$Reader", "valueOfRun", "()I"⟩, 10), (⟨"TillTheBell$Reader", "kindOfLine", "()I"⟩, 10), (⟨"TillTheBell$Reader", "isWord", "(Ljava/lang/String;)Z"⟩, 10), (⟨"TillTheBell$Reader", "begins", "(ILTillTheBell$Town;)Z"⟩, 10), (⟨"TillTheBell$Reader", "fails", "(I)Z"⟩, 10), (⟨"TillTheBell$Reader", "readNumbers", "(ILTillTheBell$Town;)Z"⟩, 10), (⟨"TillTheBell$Reader", "readPeople", "(LTillTheBell$Town;)Z"⟩, 10), (⟨"TillTheBell$Reader", "takes", "(II)Z"⟩, 10), (⟨"TillTheBell$Reader", "readCoins", "(LTillTheBell$Town;)Z"⟩, 10), (⟨"TillTheBell$Reader", "readThing", "(LTillTheBell$Town;)Z"⟩, 10), (⟨"TillTheBell$Reader", "readWorth", "(LTillTheBell$Town;)Z"⟩, 10), (⟨"TillTheBell$Reader", "readShare", "(LTillTheBell$Town;)Z"⟩, 10), (⟨"TillTheBell$Reader", "readBell", "(LTillTheBell$Town;)Z"⟩, 10), (⟨"TillTheBell$Reader", "readEaten", "(LTillTheBell$Town;)Z"⟩, 10), (⟨"TillTheBell$Reader", "closes", "()Z"⟩, 10), (⟨"TillTheBell", "needPerson", "(I)V"⟩, 7)]
theorem lw_r2 : ∀ q ∈ lw_privs_2, lw_okq q := List.forall_mem_cons.mpr ⟨lw_p16, List.forall_mem_cons.mpr ⟨lw_p17, List.forall_mem_cons.mpr ⟨lw_p18, List.forall_mem_cons.mpr ⟨lw_p19, List.forall_mem_cons.mpr ⟨lw_p20, List.forall_mem_cons.mpr ⟨lw_p21, List.forall_mem_cons.mpr ⟨lw_p22, List.forall_mem_cons.mpr ⟨lw_p23, List.forall_mem_cons.mpr ⟨lw_p24, List.forall_mem_cons.mpr ⟨lw_p25, List.forall_mem_cons.mpr ⟨lw_p26, List.forall_mem_cons.mpr ⟨lw_p27, List.forall_mem_cons.mpr ⟨lw_p28, List.forall_mem_cons.mpr ⟨lw_p29, List.forall_mem_cons.mpr ⟨lw_p30, List.forall_mem_cons.mpr ⟨lw_p31, fun _ h => absurd h List.not_mem_nil⟩⟩⟩⟩⟩⟩⟩⟩⟩⟩⟩⟩⟩⟩⟩⟩
theorem lw_p32 : lw_okq (⟨"TillTheBell", "needThing", "(I)V"⟩, 7) := ⟨⟨by decide +kernel, by decide +kernel⟩, List.mem_of_getElem? (i := 24) (by decide +kernel), List.mem_of_getElem? (i := 796) (by decide +kernel), List.mem_of_getElem? (i := 797) (by decide +kernel)⟩
theorem lw_p33 : lw_okq (⟨"TillTheBell", "needDeed", "(I)V"⟩, 7) := ⟨⟨by decide +kernel, by decide +kernel⟩, List.mem_of_getElem? (i := 24) (by decide +kernel), List.mem_of_getElem? (i := 857) (by decide +kernel), List.mem_of_getElem? (i := 858) (by decide +kernel)⟩
theorem lw_p34 : lw_okq (⟨"TillTheBell", "needTray", "(I)LTillTheBell$Tray;"⟩, 7) := ⟨⟨by decide +kernel, by decide +kernel⟩, List.mem_of_getElem? (i := 24) (by decide +kernel), List.mem_of_getElem? (i := 911) (by decide +kernel), List.mem_of_getElem? (i := 912) (by decide +kernel)⟩
theorem lw_p35 : lw_okq (⟨"TillTheBell$Draws", "draw", "(I)I"⟩, 1) := ⟨⟨by decide +kernel, by decide +kernel⟩, List.mem_of_getElem? (i := 935) (by decide +kernel), List.mem_of_getElem? (i := 949) (by decide +kernel), List.mem_of_getElem? (i := 950) (by decide +kernel)⟩
theorem lw_p36 : lw_okq (⟨"TillTheBell$Draws", "undoes", "(LTillTheBell$Town;)Z"⟩, 1) := ⟨⟨by decide +kernel, by decide +kernel⟩, List.mem_of_getElem? (i := 935) (by decide +kernel), List.mem_of_getElem? (i := 954) (by decide +kernel), List.mem_of_getElem? (i := 955) (by decide +kernel)⟩
theorem lw_p37 : lw_okq (⟨"TillTheBell$Draws", "deals", "(LTillTheBell$Town;)Z"⟩, 1) := ⟨⟨by decide +kernel, by decide +kernel⟩, List.mem_of_getElem? (i := 935) (by decide +kernel), List.mem_of_getElem? (i := 961) (by decide +kernel), List.mem_of_getElem? (i := 962) (by decide +kernel)⟩
theorem lw_p38 : lw_okq (⟨"TillTheBell", "leftIn", "(LTillTheBell$Town;I)I"⟩, 7) := ⟨⟨by decide +kernel, by decide +kernel⟩, List.mem_of_getElem? (i := 24) (by decide +kernel), List.mem_of_getElem? (i := 1025) (by decide +kernel), List.mem_of_getElem? (i := 1026) (by decide +kernel)⟩
theorem lw_p39 : lw_okq (⟨"TillTheBell$Tray", "hopeAhead", "(JJJ)J"⟩, 4) := ⟨⟨by decide +kernel, by decide +kernel⟩, List.mem_of_getElem? (i := 222) (by decide +kernel), List.mem_of_getElem? (i := 1086) (by decide +kernel), List.mem_of_getElem? (i := 1087) (by decide +kernel)⟩
theorem lw_p40 : lw_okq (⟨"TillTheBell$Tray", "leastTaken", "(JJJ)I"⟩, 4) := ⟨⟨by decide +kernel, by decide +kernel⟩, List.mem_of_getElem? (i := 222) (by decide +kernel), List.mem_of_getElem? (i := 1093) (by decide +kernel), List.mem_of_getElem? (i := 1094) (by decide +kernel)⟩
theorem lw_p41 : lw_okq (⟨"TillTheBell$Tray", "cutToSort", "(J)J"⟩, 4) := ⟨⟨by decide +kernel, by decide +kernel⟩, List.mem_of_getElem? (i := 222) (by decide +kernel), List.mem_of_getElem? (i := 1138) (by decide +kernel), List.mem_of_getElem? (i := 1139) (by decide +kernel)⟩
theorem lw_p42 : lw_okq (⟨"TillTheBell", "needImage", "(I)V"⟩, 7) := ⟨⟨by decide +kernel, by decide +kernel⟩, List.mem_of_getElem? (i := 24) (by decide +kernel), List.mem_of_getElem? (i := 1156) (by decide +kernel), List.mem_of_getElem? (i := 1157) (by decide +kernel)⟩
theorem lw_p43 : lw_okq (⟨"TillTheBellModel", "fails", "(I)I"⟩, 29) := ⟨⟨by decide +kernel, by decide +kernel⟩, List.mem_of_getElem? (i := 1167) (by decide +kernel), List.mem_of_getElem? (i := 1280) (by decide +kernel), List.mem_of_getElem? (i := 1281) (by decide +kernel)⟩
theorem lw_p44 : lw_okq (⟨"TillTheBellModel", "reads", "()V"⟩, 29) := ⟨⟨by decide +kernel, by decide +kernel⟩, List.mem_of_getElem? (i := 1167) (by decide +kernel), List.mem_of_getElem? (i := 1284) (by decide +kernel), List.mem_of_getElem? (i := 1285) (by decide +kernel)⟩
theorem lw_p45 : lw_okq (⟨"TillTheBellModel", "see", "(I)I"⟩, 29) := ⟨⟨by decide +kernel, by decide +kernel⟩, List.mem_of_getElem? (i := 1167) (by decide +kernel), List.mem_of_getElem? (i := 1291) (by decide +kernel), List.mem_of_getElem? (i := 1292) (by decide +kernel)⟩
theorem lw_p46 : lw_okq (⟨"TillTheBellModel", "readLine", "()V"⟩, 29) := ⟨⟨by decide +kernel, by decide +kernel⟩, List.mem_of_getElem? (i := 1167) (by decide +kernel), List.mem_of_getElem? (i := 1298) (by decide +kernel), List.mem_of_getElem? (i := 1299) (by decide +kernel)⟩
theorem lw_p47 : lw_okq (⟨"TillTheBellModel", "isWord", "(Ljava/lang/String;)Z"⟩, 29) := ⟨⟨by decide +kernel, by decide +kernel⟩, List.mem_of_getElem? (i := 1167) (by decide +kernel), List.mem_of_getElem? (i := 1303) (by decide +kernel), List.mem_of_getElem? (i := 1304) (by decide +kernel)⟩
def lw_privs_3 : List (MethodName × Nat) := [(⟨"TillTheBell", "needThing", "(I)V"⟩, 7), (⟨"TillTheBell", "needDeed", "(I)V"⟩, 7), (⟨"TillTheBell", "needTray", "(I)LTillTheBell$Tray;"⟩, 7), (⟨"TillTheBell$Draws", "draw", "(I)I"⟩, 1), (⟨"TillTheBell$Draws", "undoes", "(LTillTheBell$Town;)Z"⟩, 1), (⟨"TillTheBell$Draws", "deals", "(LTillTheBell$Town;)Z"⟩, 1), (⟨"TillTheBell", "leftIn", "(LTillTheBell$Town;I)I"⟩, 7), (⟨"TillTheBell$Tray", "hopeAhead", "(JJJ)J"⟩, 4), (⟨"TillTheBell$Tray", "leastTaken", "(JJJ)I"⟩, 4), (⟨"TillTheBell$Tray", "cutToSort", "(J)J"⟩, 4), (⟨"TillTheBell", "needImage", "(I)V"⟩, 7), (⟨"TillTheBellModel", "fails", "(I)I"⟩, 29), (⟨"TillTheBellModel", "reads", "()V"⟩, 29), (⟨"TillTheBellModel", "see", "(I)I"⟩, 29), (⟨"TillTheBellModel", "readLine", "()V"⟩, 29), (⟨"TillTheBellModel", "isWord", "(Ljava/lang/String;)Z"⟩, 29)]
theorem lw_r3 : ∀ q ∈ lw_privs_3, lw_okq q := List.forall_mem_cons.mpr ⟨lw_p32, List.forall_mem_cons.mpr ⟨lw_p33, List.forall_mem_cons.mpr ⟨lw_p34, List.forall_mem_cons.mpr ⟨lw_p35, List.forall_mem_cons.mpr ⟨lw_p36, List.forall_mem_cons.mpr ⟨lw_p37, List.forall_mem_cons.mpr ⟨lw_p38, List.forall_mem_cons.mpr ⟨lw_p39, List.forall_mem_cons.mpr ⟨lw_p40, List.forall_mem_cons.mpr ⟨lw_p41, List.forall_mem_cons.mpr ⟨lw_p42, List.forall_mem_cons.mpr ⟨lw_p43, List.forall_mem_cons.mpr ⟨lw_p44, List.forall_mem_cons.mpr ⟨lw_p45, List.forall_mem_cons.mpr ⟨lw_p46, List.forall_mem_cons.mpr ⟨lw_p47, fun _ h => absurd h List.not_mem_nil⟩⟩⟩⟩⟩⟩⟩⟩⟩⟩⟩⟩⟩⟩⟩⟩
theorem lw_p48 : lw_okq (⟨"TillTheBellModel", "readPeople", "()V"⟩, 29) := ⟨⟨by decide +kernel, by decide +kernel⟩, List.mem_of_getElem? (i := 1167) (by decide +kernel), List.mem_of_getElem? (i := 1309) (by decide +kernel), List.mem_of_getElem? (i := 1310) (by decide +kernel)⟩
theorem lw_p49 : lw_okq (⟨"TillTheBellModel", "blames", "(I)V"⟩, 29) := ⟨⟨by decide +kernel, by decide +kernel⟩, List.mem_of_getElem? (i := 1167) (by decide +kernel), List.mem_of_getElem? (i := 1313) (by decide +kernel), List.mem_of_getElem? (i := 1314) (by decide +kernel)⟩
theorem lw_p50 : lw_okq (⟨"TillTheBellModel", "number", "(II)I"⟩, 29) := ⟨⟨by decide +kernel, by decide +kernel⟩, List.mem_of_getElem? (i := 1167) (by decide +kernel), List.mem_of_getElem? (i := 1317) (by decide +kernel), List.mem_of_getElem? (i := 1318) (by decide +kernel)⟩
theorem lw_p51 : lw_okq (⟨"TillTheBellModel", "took", "(Ljava/lang/String;)Z"⟩, 29) := ⟨⟨by decide +kernel, by decide +kernel⟩, List.mem_of_getElem? (i := 1167) (by decide +kernel), List.mem_of_getElem? (i := 1322) (by decide +kernel), List.mem_of_getElem? (i := 1323) (by decide +kernel)⟩
theorem lw_p52 : lw_okq (⟨"TillTheBellModel", "readCoins", "()V"⟩, 29) := ⟨⟨by decide +kernel, by decide +kernel⟩, List.mem_of_getElem? (i := 1167) (by decide +kernel), List.mem_of_getElem? (i := 1326) (by decide +kernel), List.mem_of_getElem? (i := 1327) (by decide +kernel)⟩
theorem lw_p53 : lw_okq (⟨"TillTheBellModel", "personTold", "()I"⟩, 29) := ⟨⟨by decide +kernel, by decide +kernel⟩, List.mem_of_getElem? (i := 1167) (by decide +kernel), List.mem_of_getElem? (i := 1330) (by decide +kernel), List.mem_of_getElem? (i := 1331) (by decide +kernel)⟩
theorem lw_p54 : lw_okq (⟨"TillTheBellModel", "readThing", "()V"⟩, 29) := ⟨⟨by decide +kernel, by decide +kernel⟩, List.mem_of_getElem? (i := 1167) (by decide +kernel), List.mem_of_getElem? (i := 1335) (by decide +kernel), List.mem_of_getElem? (i := 1336) (by decide +kernel)⟩
theorem lw_p55 : lw_okq (⟨"TillTheBellModel", "readWorth", "()V"⟩, 29) := ⟨⟨by decide +kernel, by decide +kernel⟩, List.mem_of_getElem? (i := 1167) (by decide +kernel), List.mem_of_getElem? (i := 1341) (by decide +kernel), List.mem_of_getElem? (i := 1342) (by decide +kernel)⟩
theorem lw_p56 : lw_okq (⟨"TillTheBellModel", "thingTold", "()I"⟩, 29) := ⟨⟨by decide +kernel, by decide +kernel⟩, List.mem_of_getElem? (i := 1167) (by decide +kernel), List.mem_of_getElem? (i := 1345) (by decide +kernel), List.mem_of_getElem? (i := 1346) (by decide +kernel)⟩
theorem lw_p57 : lw_okq (⟨"TillTheBellModel", "readEaten", "()V"⟩, 29) := ⟨⟨by decide +kernel, by decide +kernel⟩, List.mem_of_getElem? (i := 1167) (by decide +kernel), List.mem_of_getElem? (i := 1352) (by decide +kernel), List.mem_of_getElem? (i := 1353) (by decide +kernel)⟩
theorem lw_p58 : lw_okq (⟨"TillTheBellModel", "isPerson", "(I)Z"⟩, 29) := ⟨⟨by decide +kernel, by decide +kernel⟩, List.mem_of_getElem? (i := 1167) (by decide +kernel), List.mem_of_getElem? (i := 1367) (by decide +kernel), List.mem_of_getElem? (i := 1368) (by decide +kernel)⟩
theorem lw_p59 : lw_okq (⟨"TillTheBellModel", "wealth", "(I)I"⟩, 29) := ⟨⟨by decide +kernel, by decide +kernel⟩, List.mem_of_getElem? (i := 1167) (by decide +kernel), List.mem_of_getElem? (i := 1372) (by decide +kernel), List.mem_of_getElem? (i := 1373) (by decide +kernel)⟩
theorem lw_p60 : lw_okq (⟨"TillTheBellModel", "worthTo", "(II)I"⟩, 29) := ⟨⟨by decide +kernel, by decide +kernel⟩, List.mem_of_getElem? (i := 1167) (by decide +kernel), List.mem_of_getElem? (i := 1376) (by decide +kernel), List.mem_of_getElem? (i := 1377) (by decide +kernel)⟩
theorem lw_p61 : lw_okq (⟨"TillTheBellModel", "holds", "(I)I"⟩, 29) := ⟨⟨by decide +kernel, by decide +kernel⟩, List.mem_of_getElem? (i := 1167) (by decide +kernel), List.mem_of_getElem? (i := 1380) (by decide +kernel), List.mem_of_getElem? (i := 1381) (by decide +kernel)⟩
theorem lw_p62 : lw_okq (⟨"TillTheBellModel", "isThing", "(I)Z"⟩, 29) := ⟨⟨by decide +kernel, by decide +kernel⟩, List.mem_of_getElem? (i := 1167) (by decide +kernel), List.mem_of_getElem? (i := 1388) (by decide +kernel), List.mem_of_getElem? (i := 1389) (by decide +kernel)⟩
theorem lw_p63 : lw_okq (⟨"TillTheBellModel", "isEaten", "(I)Z"⟩, 29) := ⟨⟨by decide +kernel, by decide +kernel⟩, List.mem_of_getElem? (i := 1167) (by decide +kernel), List.mem_of_getElem? (i := 1400) (by decide +kernel), List.mem_of_getElem? (i := 1401) (by decide +kernel)⟩
def lw_privs_4 : List (MethodName × Nat) := [(⟨"TillTheBellModel", "readPeople", "()V"⟩, 29), (⟨"TillTheBellModel", "blames", "(I)V"⟩, 29), (⟨"TillTheBellModel", "number", "(II)I"⟩, 29), (⟨"TillTheBellModel", "took", "(Ljava/lang/String;)Z"⟩, 29), (⟨"TillTheBellModel", "readCoins", "()V"⟩, 29), (⟨"TillTheBellModel", "personTold", "()I"⟩, 29), (⟨"TillTheBellModel", "readThing", "()V"⟩, 29), (⟨"TillTheBellModel", "readWorth", "()V"⟩, 29), (⟨"TillTheBellModel", "thingTold", "()I"⟩, 29), (⟨"TillTheBellModel", "readEaten", "()V"⟩, 29), (⟨"TillTheBellModel", "isPerson", "(I)Z"⟩, 29), (⟨"TillTheBellModel", "wealth", "(I)I"⟩, 29), (⟨"TillTheBellModel", "worthTo", "(II)I"⟩, 29), (⟨"TillTheBellModel", "holds", "(I)I"⟩, 29), (⟨"TillTheBellModel", "isThing", "(I)Z"⟩, 29), (⟨"TillTheBellModel", "isEaten", "(I)Z"⟩, 29)]
theorem lw_r4 : ∀ q ∈ lw_privs_4, lw_okq q := List.forall_mem_cons.mpr ⟨lw_p48, List.forall_mem_cons.mpr ⟨lw_p49, List.forall_mem_cons.mpr ⟨lw_p50, List.forall_mem_cons.mpr ⟨lw_p51, List.forall_mem_cons.mpr ⟨lw_p52, List.forall_mem_cons.mpr ⟨lw_p53, List.forall_mem_cons.mpr ⟨lw_p54, List.forall_mem_cons.mpr ⟨lw_p55, List.forall_mem_cons.mpr ⟨lw_p56, List.forall_mem_cons.mpr ⟨lw_p57, List.forall_mem_cons.mpr ⟨lw_p58, List.forall_mem_cons.mpr ⟨lw_p59, List.forall_mem_cons.mpr ⟨lw_p60, List.forall_mem_cons.mpr ⟨lw_p61, List.forall_mem_cons.mpr ⟨lw_p62, List.forall_mem_cons.mpr ⟨lw_p63, fun _ h => absurd h List.not_mem_nil⟩⟩⟩⟩⟩⟩⟩⟩⟩⟩⟩⟩⟩⟩⟩⟩
theorem lw_p64 : lw_okq (⟨"TillTheBellModel", "hasRung", "()Z"⟩, 29) := ⟨⟨by decide +kernel, by decide +kernel⟩, List.mem_of_getElem? (i := 1167) (by decide +kernel), List.mem_of_getElem? (i := 1413) (by decide +kernel), List.mem_of_getElem? (i := 1414) (by decide +kernel)⟩
theorem lw_p65 : lw_okq (⟨"TillTheBellModel", "standMany", "()I"⟩, 29) := ⟨⟨by decide +kernel, by decide +kernel⟩, List.mem_of_getElem? (i := 1167) (by decide +kernel), List.mem_of_getElem? (i := 1417) (by decide +kernel), List.mem_of_getElem? (i := 1418) (by decide +kernel)⟩
theorem lw_p66 : lw_okq (⟨"TillTheBellModel", "of", "(II)I"⟩, 29) := ⟨⟨by decide +kernel, by decide +kernel⟩, List.mem_of_getElem? (i := 1167) (by decide +kernel), List.mem_of_getElem? (i := 1421) (by decide +kernel), List.mem_of_getElem? (i := 1422) (by decide +kernel)⟩
theorem lw_p67 : lw_okq (⟨"TillTheBellModel", "whyNoSale", "(III)I"⟩, 29) := ⟨⟨by decide +kernel, by decide +kernel⟩, List.mem_of_getElem? (i := 1167) (by decide +kernel), List.mem_of_getElem? (i := 1429) (by decide +kernel), List.mem_of_getElem? (i := 1430) (by decide +kernel)⟩
theorem lw_p68 : lw_okq (⟨"TillTheBellModel", "sells", "(III)I"⟩, 29) := ⟨⟨by decide +kernel, by decide +kernel⟩, List.mem_of_getElem? (i := 1167) (by decide +kernel), List.mem_of_getElem? (i := 1434) (by decide +kernel), List.mem_of_getElem? (i := 1435) (by decide +kernel)⟩
theorem lw_p69 : lw_okq (⟨"TillTheBellModel", "isDeed", "(J)Z"⟩, 29) := ⟨⟨by decide +kernel, by decide +kernel⟩, List.mem_of_getElem? (i := 1167) (by decide +kernel), List.mem_of_getElem? (i := 1442) (by decide +kernel), List.mem_of_getElem? (i := 1443) (by decide +kernel)⟩
theorem lw_p70 : lw_okq (⟨"TillTheBellModel", "worthOf", "(IZ)I"⟩, 29) := ⟨⟨by decide +kernel, by decide +kernel⟩, List.mem_of_getElem? (i := 1167) (by decide +kernel), List.mem_of_getElem? (i := 1447) (by decide +kernel), List.mem_of_getElem? (i := 1448) (by decide +kernel)⟩
theorem lw_p71 : lw_okq (⟨"TillTheBellModel", "whyNot", "(JI)I"⟩, 29) := ⟨⟨by decide +kernel, by decide +kernel⟩, List.mem_of_getElem? (i := 1167) (by decide +kernel), List.mem_of_getElem? (i := 1456) (by decide +kernel), List.mem_of_getElem? (i := 1457) (by decide +kernel)⟩
theorem lw_p72 : lw_okq (⟨"TillTheBellModel", "isOf", "(II)Z"⟩, 29) := ⟨⟨by decide +kernel, by decide +kernel⟩, List.mem_of_getElem? (i := 1167) (by decide +kernel), List.mem_of_getElem? (i := 1460) (by decide +kernel), List.mem_of_getElem? (i := 1461) (by decide +kernel)⟩
theorem lw_p73 : lw_okq (⟨"TillTheBellModel", "undoes", "(II)I"⟩, 29) := ⟨⟨by decide +kernel, by decide +kernel⟩, List.mem_of_getElem? (i := 1167) (by decide +kernel), List.mem_of_getElem? (i := 1464) (by decide +kernel), List.mem_of_getElem? (i := 1465) (by decide +kernel)⟩
theorem lw_p74 : lw_okq (⟨"TillTheBellModel", "fallsOf", "(I)I"⟩, 29) := ⟨⟨by decide +kernel, by decide +kernel⟩, List.mem_of_getElem? (i := 1167) (by decide +kernel), List.mem_of_getElem? (i := 1468) (by decide +kernel), List.mem_of_getElem? (i := 1469) (by decide +kernel)⟩
theorem lw_p75 : lw_okq (⟨"TillTheBellModel", "pays", "(III)I"⟩, 29) := ⟨⟨by decide +kernel, by decide +kernel⟩, List.mem_of_getElem? (i := 1167) (by decide +kernel), List.mem_of_getElem? (i := 1472) (by decide +kernel), List.mem_of_getElem? (i := 1473) (by decide +kernel)⟩
theorem lw_p76 : lw_okq (⟨"TillTheBellModel", "trayFault", "(I)I"⟩, 29) := ⟨⟨by decide +kernel, by decide +kernel⟩, List.mem_of_getElem? (i := 1167) (by decide +kernel), List.mem_of_getElem? (i := 1496) (by decide +kernel), List.mem_of_getElem? (i := 1497) (by decide +kernel)⟩
theorem lw_p77 : lw_okq (⟨"TillTheBellModel", "goesBy", "(I)I"⟩, 29) := ⟨⟨by decide +kernel, by decide +kernel⟩, List.mem_of_getElem? (i := 1167) (by decide +kernel), List.mem_of_getElem? (i := 1504) (by decide +kernel), List.mem_of_getElem? (i := 1505) (by decide +kernel)⟩
theorem lw_p78 : lw_okq (⟨"TillTheBellModel", "whyTold", "(J)I"⟩, 29) := ⟨⟨by decide +kernel, by decide +kernel⟩, List.mem_of_getElem? (i := 1167) (by decide +kernel), List.mem_of_getElem? (i := 1508) (by decide +kernel), List.mem_of_getElem? (i := 1509) (by decide +kernel)⟩
theorem lw_p79 : lw_okq (⟨"TillTheBellModel", "byTold", "(I)I"⟩, 29) := ⟨⟨by decide +kernel, by decide +kernel⟩, List.mem_of_getElem? (i := 1167) (by decide +kernel), List.mem_of_getElem? (i := 1512) (by decide +kernel), List.mem_of_getElem? (i := 1513) (by decide +kernel)⟩
def lw_privs_5 : List (MethodName × Nat) := [(⟨"TillTheBellModel", "hasRung", "()Z"⟩, 29), (⟨"TillTheBellModel", "standMany", "()I"⟩, 29), (⟨"TillTheBellModel", "of", "(II)I"⟩, 29), (⟨"TillTheBellModel", "whyNoSale", "(III)I"⟩, 29), (⟨"TillTheBellModel", "sells", "(III)I"⟩, 29), (⟨"TillTheBellModel", "isDeed", "(J)Z"⟩, 29), (⟨"TillTheBellModel", "worthOf", "(IZ)I"⟩, 29), (⟨"TillTheBellModel", "whyNot", "(JI)I"⟩, 29), (⟨"TillTheBellModel", "isOf", "(II)Z"⟩, 29), (⟨"TillTheBellModel", "undoes", "(II)I"⟩, 29), (⟨"TillTheBellModel", "fallsOf", "(I)I"⟩, 29), (⟨"TillTheBellModel", "pays", "(III)I"⟩, 29), (⟨"TillTheBellModel", "trayFault", "(I)I"⟩, 29), (⟨"TillTheBellModel", "goesBy", "(I)I"⟩, 29), (⟨"TillTheBellModel", "whyTold", "(J)I"⟩, 29), (⟨"TillTheBellModel", "byTold", "(I)I"⟩, 29)]
theorem lw_r5 : ∀ q ∈ lw_privs_5, lw_okq q := List.forall_mem_cons.mpr ⟨lw_p64, List.forall_mem_cons.mpr ⟨lw_p65, List.forall_mem_cons.mpr ⟨lw_p66, List.forall_mem_cons.mpr ⟨lw_p67, List.forall_mem_cons.mpr ⟨lw_p68, List.forall_mem_cons.mpr ⟨lw_p69, List.forall_mem_cons.mpr ⟨lw_p70, List.forall_mem_cons.mpr ⟨lw_p71, List.forall_mem_cons.mpr ⟨lw_p72, List.forall_mem_cons.mpr ⟨lw_p73, List.forall_mem_cons.mpr ⟨lw_p74, List.forall_mem_cons.mpr ⟨lw_p75, List.forall_mem_cons.mpr ⟨lw_p76, List.forall_mem_cons.mpr ⟨lw_p77, List.forall_mem_cons.mpr ⟨lw_p78, List.forall_mem_cons.mpr ⟨lw_p79, fun _ h => absurd h List.not_mem_nil⟩⟩⟩⟩⟩⟩⟩⟩⟩⟩⟩⟩⟩⟩⟩⟩
theorem lw_p80 : lw_okq (⟨"TillTheBellModel", "drawn", "()Z"⟩, 29) := ⟨⟨by decide +kernel, by decide +kernel⟩, List.mem_of_getElem? (i := 1167) (by decide +kernel), List.mem_of_getElem? (i := 1525) (by decide +kernel), List.mem_of_getElem? (i := 1526) (by decide +kernel)⟩
theorem lw_p81 : lw_okq (⟨"TillTheBellModel", "draw", "(I)I"⟩, 29) := ⟨⟨by decide +kernel, by decide +kernel⟩, List.mem_of_getElem? (i := 1167) (by decide +kernel), List.mem_of_getElem? (i := 1529) (by decide +kernel), List.mem_of_getElem? (i := 1530) (by decide +kernel)⟩
theorem lw_p82 : lw_okq (⟨"TillTheBellModel", "openSet", "()I"⟩, 29) := ⟨⟨by decide +kernel, by decide +kernel⟩, List.mem_of_getElem? (i := 1167) (by decide +kernel), List.mem_of_getElem? (i := 1538) (by decide +kernel), List.mem_of_getElem? (i := 1539) (by decide +kernel)⟩
theorem lw_p83 : lw_okq (⟨"TillTheBellModel", "isOpen", "(I)Z"⟩, 29) := ⟨⟨by decide +kernel, by decide +kernel⟩, List.mem_of_getElem? (i := 1167) (by decide +kernel), List.mem_of_getElem? (i := 1542) (by decide +kernel), List.mem_of_getElem? (i := 1543) (by decide +kernel)⟩
theorem lw_p84 : lw_okq (⟨"TillTheBellModel", "gainOf", "(II)I"⟩, 29) := ⟨⟨by decide +kernel, by decide +kernel⟩, List.mem_of_getElem? (i := 1167) (by decide +kernel), List.mem_of_getElem? (i := 1550) (by decide +kernel), List.mem_of_getElem? (i := 1551) (by decide +kernel)⟩
theorem lw_p85 : lw_okq (⟨"TillTheBellModel", "pledgeOf", "(I)I"⟩, 29) := ⟨⟨by decide +kernel, by decide +kernel⟩, List.mem_of_getElem? (i := 1167) (by decide +kernel), List.mem_of_getElem? (i := 1558) (by decide +kernel), List.mem_of_getElem? (i := 1559) (by decide +kernel)⟩
theorem lw_p86 : lw_okq (⟨"TillTheBellModel", "isTempted", "(II)Z"⟩, 29) := ⟨⟨by decide +kernel, by decide +kernel⟩, List.mem_of_getElem? (i := 1167) (by decide +kernel), List.mem_of_getElem? (i := 1570) (by decide +kernel), List.mem_of_getElem? (i := 1571) (by decide +kernel)⟩
theorem lw_p87 : lw_okq (⟨"TillTheBellModel", "isSafePrice", "(IIII)Z"⟩, 29) := ⟨⟨by decide +kernel, by decide +kernel⟩, List.mem_of_getElem? (i := 1167) (by decide +kernel), List.mem_of_getElem? (i := 1586) (by decide +kernel), List.mem_of_getElem? (i := 1587) (by decide +kernel)⟩
theorem lw_p88 : lw_okq (⟨"TillTheBellModel", "laysEnd", "(I)Z"⟩, 29) := ⟨⟨by decide +kernel, by decide +kernel⟩, List.mem_of_getElem? (i := 1167) (by decide +kernel), List.mem_of_getElem? (i := 1604) (by decide +kernel), List.mem_of_getElem? (i := 1605) (by decide +kernel)⟩
theorem lw_p89 : lw_okq (⟨"TillTheBellModel", "laysFrom", "(II)Z"⟩, 29) := ⟨⟨by decide +kernel, by decide +kernel⟩, List.mem_of_getElem? (i := 1167) (by decide +kernel), List.mem_of_getElem? (i := 1608) (by decide +kernel), List.mem_of_getElem? (i := 1609) (by decide +kernel)⟩
theorem lw_p90 : lw_okq (⟨"TillTheBellModel", "seat", "(III)I"⟩, 29) := ⟨⟨by decide +kernel, by decide +kernel⟩, List.mem_of_getElem? (i := 1167) (by decide +kernel), List.mem_of_getElem? (i := 1612) (by decide +kernel), List.mem_of_getElem? (i := 1613) (by decide +kernel)⟩
theorem lw_p91 : lw_okq (⟨"TillTheBellModel", "laysTurn", "(II)V"⟩, 29) := ⟨⟨by decide +kernel, by decide +kernel⟩, List.mem_of_getElem? (i := 1167) (by decide +kernel), List.mem_of_getElem? (i := 1616) (by decide +kernel), List.mem_of_getElem? (i := 1617) (by decide +kernel)⟩
theorem lw_p92 : lw_okq (⟨"TillTheBellModel", "laysUndoing", "(III)V"⟩, 29) := ⟨⟨by decide +kernel, by decide +kernel⟩, List.mem_of_getElem? (i := 1167) (by decide +kernel), List.mem_of_getElem? (i := 1620) (by decide +kernel), List.mem_of_getElem? (i := 1621) (by decide +kernel)⟩
theorem lw_p93 : lw_okq (⟨"TillTheBellModel", "fallIn", "(II)I"⟩, 29) := ⟨⟨by decide +kernel, by decide +kernel⟩, List.mem_of_getElem? (i := 1167) (by decide +kernel), List.mem_of_getElem? (i := 1624) (by decide +kernel), List.mem_of_getElem? (i := 1625) (by decide +kernel)⟩
theorem lw_p94 : lw_okq (⟨"TillTheBellModel", "standIn", "()I"⟩, 29) := ⟨⟨by decide +kernel, by decide +kernel⟩, List.mem_of_getElem? (i := 1167) (by decide +kernel), List.mem_of_getElem? (i := 1629) (by decide +kernel), List.mem_of_getElem? (i := 1630) (by decide +kernel)⟩
theorem lw_p95 : lw_okq (⟨"TillTheBellModel", "setBehind", "(I)I"⟩, 29) := ⟨⟨by decide +kernel, by decide +kernel⟩, List.mem_of_getElem? (i := 1167) (by decide +kernel), List.mem_of_getElem? (i := 1633) (by decide +kernel), List.mem_of_getElem? (i := 1634) (by decide +kernel)⟩
def lw_privs_6 : List (MethodName × Nat) := [(⟨"TillTheBellModel", "drawn", "()Z"⟩, 29), (⟨"TillTheBellModel", "draw", "(I)I"⟩, 29), (⟨"TillTheBellModel", "openSet", "()I"⟩, 29), (⟨"TillTheBellModel", "isOpen", "(I)Z"⟩, 29), (⟨"TillTheBellModel", "gainOf", "(II)I"⟩, 29), (⟨"TillTheBellModel", "pledgeOf", "(I)I"⟩, 29), (⟨"TillTheBellModel", "isTempted", "(II)Z"⟩, 29), (⟨"TillTheBellModel", "isSafePrice", "(IIII)Z"⟩, 29), (⟨"TillTheBellModel", "laysEnd", "(I)Z"⟩, 29), (⟨"TillTheBellModel", "laysFrom", "(II)Z"⟩, 29), (⟨"TillTheBellModel", "seat", "(III)I"⟩, 29), (⟨"TillTheBellModel", "laysTurn", "(II)V"⟩, 29), (⟨"TillTheBellModel", "laysUndoing", "(III)V"⟩, 29), (⟨"TillTheBellModel", "fallIn", "(II)I"⟩, 29), (⟨"TillTheBellModel", "standIn", "()I"⟩, 29), (⟨"TillTheBellModel", "setBehind", "(I)I"⟩, 29)]
theorem lw_r6 : ∀ q ∈ lw_privs_6, lw_okq q := List.forall_mem_cons.mpr ⟨lw_p80, List.forall_mem_cons.mpr ⟨lw_p81, List.forall_mem_cons.mpr ⟨lw_p82, List.forall_mem_cons.mpr ⟨lw_p83, List.forall_mem_cons.mpr ⟨lw_p84, List.forall_mem_cons.mpr ⟨lw_p85, List.forall_mem_cons.mpr ⟨lw_p86, List.forall_mem_cons.mpr ⟨lw_p87, List.forall_mem_cons.mpr ⟨lw_p88, List.forall_mem_cons.mpr ⟨lw_p89, List.forall_mem_cons.mpr ⟨lw_p90, List.forall_mem_cons.mpr ⟨lw_p91, List.forall_mem_cons.mpr ⟨lw_p92, List.forall_mem_cons.mpr ⟨lw_p93, List.forall_mem_cons.mpr ⟨lw_p94, List.forall_mem_cons.mpr ⟨lw_p95, fun _ h => absurd h List.not_mem_nil⟩⟩⟩⟩⟩⟩⟩⟩⟩⟩⟩⟩⟩⟩⟩⟩
theorem lw_p96 : lw_okq (⟨"TillTheBellModel", "full", "()I"⟩, 29) := ⟨⟨by decide +kernel, by decide +kernel⟩, List.mem_of_getElem? (i := 1167) (by decide +kernel), List.mem_of_getElem? (i := 1637) (by decide +kernel), List.mem_of_getElem? (i := 1638) (by decide +kernel)⟩
theorem lw_p97 : lw_okq (⟨"TillTheBellModel", "chosen", "(I)I"⟩, 29) := ⟨⟨by decide +kernel, by decide +kernel⟩, List.mem_of_getElem? (i := 1167) (by decide +kernel), List.mem_of_getElem? (i := 1641) (by decide +kernel), List.mem_of_getElem? (i := 1642) (by decide +kernel)⟩
theorem lw_p98 : lw_okq (⟨"TillTheBellModel", "wealthIn", "(I)I"⟩, 29) := ⟨⟨by decide +kernel, by decide +kernel⟩, List.mem_of_getElem? (i := 1167) (by decide +kernel), List.mem_of_getElem? (i := 1645) (by decide +kernel), List.mem_of_getElem? (i := 1646) (by decide +kernel)⟩
theorem lw_p99 : lw_okq (⟨"TillTheBellModel", "isHeld", "(I)Z"⟩, 29) := ⟨⟨by decide +kernel, by decide +kernel⟩, List.mem_of_getElem? (i := 1167) (by decide +kernel), List.mem_of_getElem? (i := 1685) (by decide +kernel), List.mem_of_getElem? (i := 1686) (by decide +kernel)⟩
theorem lw_p100 : lw_okq (⟨"TillTheBellModel", "rather", "(II)Z"⟩, 29) := ⟨⟨by decide +kernel, by decide +kernel⟩, List.mem_of_getElem? (i := 1167) (by decide +kernel), List.mem_of_getElem? (i := 1689) (by decide +kernel), List.mem_of_getElem? (i := 1690) (by decide +kernel)⟩
theorem lw_p101 : lw_okq (⟨"TillTheBellModel", "isThree", "(III)Z"⟩, 29) := ⟨⟨by decide +kernel, by decide +kernel⟩, List.mem_of_getElem? (i := 1167) (by decide +kernel), List.mem_of_getElem? (i := 1697) (by decide +kernel), List.mem_of_getElem? (i := 1698) (by decide +kernel)⟩
theorem lw_p102 : lw_okq (⟨"TillTheBellModel", "cut", "(IIJ)J"⟩, 29) := ⟨⟨by decide +kernel, by decide +kernel⟩, List.mem_of_getElem? (i := 1167) (by decide +kernel), List.mem_of_getElem? (i := 1713) (by decide +kernel), List.mem_of_getElem? (i := 1714) (by decide +kernel)⟩
def lw_privs_7 : List (MethodName × Nat) := [(⟨"TillTheBellModel", "full", "()I"⟩, 29), (⟨"TillTheBellModel", "chosen", "(I)I"⟩, 29), (⟨"TillTheBellModel", "wealthIn", "(I)I"⟩, 29), (⟨"TillTheBellModel", "isHeld", "(I)Z"⟩, 29), (⟨"TillTheBellModel", "rather", "(II)Z"⟩, 29), (⟨"TillTheBellModel", "isThree", "(III)Z"⟩, 29), (⟨"TillTheBellModel", "cut", "(IIJ)J"⟩, 29)]
theorem lw_r7 : ∀ q ∈ lw_privs_7, lw_okq q := List.forall_mem_cons.mpr ⟨lw_p96, List.forall_mem_cons.mpr ⟨lw_p97, List.forall_mem_cons.mpr ⟨lw_p98, List.forall_mem_cons.mpr ⟨lw_p99, List.forall_mem_cons.mpr ⟨lw_p100, List.forall_mem_cons.mpr ⟨lw_p101, List.forall_mem_cons.mpr ⟨lw_p102, fun _ h => absurd h List.not_mem_nil⟩⟩⟩⟩⟩⟩⟩
def lw_privs : List (MethodName × Nat) := lw_privs_1 ++ (lw_privs_2 ++ (lw_privs_3 ++ (lw_privs_4 ++ (lw_privs_5 ++ (lw_privs_6 ++ (lw_privs_7))))))
def lw_tbl : List Cond := k2_sels lw_privs ++ tables_1
theorem lw_privs_ok : ∀ q ∈ lw_privs, lw_okq q := by
  show ∀ q ∈ lw_privs_1 ++ (lw_privs_2 ++ (lw_privs_3 ++ (lw_privs_4 ++ (lw_privs_5 ++ (lw_privs_6 ++ (lw_privs_7)))))), lw_okq q
  exact List.forall_mem_append.mpr ⟨lw_r1, List.forall_mem_append.mpr ⟨lw_r2, List.forall_mem_append.mpr ⟨lw_r3, List.forall_mem_append.mpr ⟨lw_r4, List.forall_mem_append.mpr ⟨lw_r5, List.forall_mem_append.mpr ⟨lw_r6, lw_r7⟩⟩⟩⟩⟩⟩

/-! ===== BEGIN words of one list among another's, by their places ===== -/
theorem goodIn_r {big : List Cond} (ws : List Cond) (ps : List Nat) (hp : ws = ps.filterMap (fun i => big[i]?)) (h : ws.all goodWord = true) : GoodIn big ws := by
  intro w hw
  have h1 := List.all_eq_true.mp h w hw
  rw [hp] at hw
  obtain ⟨i, -, hi⟩ := List.mem_filterMap.mp hw
  have hm : w ∈ big := by first | exact List.mem_of_getElem? hi | exact List.getElem?_mem hi
  exact ⟨hm, good_of_word h1⟩
theorem goodIn_app {big a b : List Cond} (ha : GoodIn big a) (hb : GoodIn big b) : GoodIn big (a ++ b) := fun w h => (List.mem_append.mp h).elim (ha w) (hb w)
theorem goodIn_ca {big a b : List Cond} {c : Cond} (ha : GoodIn big (c :: a)) (hb : GoodIn big b) : GoodIn big (c :: (a ++ b)) := fun w h => (List.mem_cons.mp h).elim (fun e => ha w (List.mem_cons.mpr (Or.inl e))) (fun h => (List.mem_append.mp h).elim (fun h => ha w (List.mem_cons.mpr (Or.inr h))) (hb w))
theorem goodIn_sub {big ws : List Cond} (hm : ∀ w ∈ ws, w ∈ big) (h : ws.all goodWord = true) : GoodIn big ws := fun w hw => ⟨hm w hw, good_of_word (List.all_eq_true.mp h w hw)⟩
/-! ===== END ===== -/

/-! ===== BEGIN exceptions that leave a method, and their catching by the caller (launches without stack traces) ===== -/
section VXA
/-! The laws vx_back, vx_callV, vx_callS, vx_callSW, vx_throw0, vx_throwS follow proofs of the library, with one case more: JvmDerived/Free/Laws.lean (Back.of_free), Shelf42/LK1.lean (callV, callS), Shelf/KitTraced.lean (throwNew0V, throwNewS). -/
/-- where a method has thrown q: the class by its name, the cell, what was written, the world -/
def vx_T (XC : String → State → State → Prop) (st : State) (q : Addr) (t : State) (mc ms : Nat) (free : Addr → Prop) : Prop :=
  ∃ (E : String) (ce : Cell) (L : List Loc), XC E st t ∧ t.heap[q]? = some ce ∧ ce.vm = .none ∧ st.vm.findClass E = some ce.cls ∧ st.WarmedH t.vm ∧ st.sameButNew ({ t with vm := st.vm } : State) L mc ms ∧ ∀ z ∈ L, free z.base
def vx_Q (Qc : Array Value → State → Outcome → State → Prop) (XC : String → State → State → Prop) (mc ms : Nat) (free : Addr → Prop) : Array Value → State → Outcome → State → Prop := fun a st o t =>
  (Qc a st o t ∧ ∃ L, FrameEnd st o t L mc ms ∧ ∀ q ∈ L, free q.base) ∨ ∃ q, o = .threw q ∧ vx_T XC st q t mc ms free
/-- a callee that returns or throws -/
def vx_Met (l : Launch) (y : MethodName) (ws : List Cond) (rm : Room) (Pc : Array Value → State → Prop) (Qc : Array Value → State → Outcome → State → Prop) (XC : String → State → State → Prop) (mc ms : Nat) (free : Addr → Prop) : Prop :=
  MetFree l y (headSpec ws rm) Pc (fun _ _ _ _ _ => True) (vx_Q Qc XC mc ms free)
def vx_Post (XC : String → State → State → Prop) (mc ms : Nat) (free : Addr → Prop) : Pt → Array Value → Addr → Pt → Prop := fun A a q B =>
  ∃ (g : JFrame) (mk : MethodId) (t : State) (L : List Loc) (E : String) (ce : Cell), B.U.heap = t.heap ∧ B.U.vm = t.vm ∧ XC E (A.U.calling g mk a) t ∧ t.heap[q]? = some ce ∧ ce.vm = .none ∧ A.U.vm.findClass E = some ce.cls ∧ B.locs = A.locs ++ L ∧ (∀ z ∈ L, free z.base) ∧ B.cells = A.cells + mc ∧ B.slots = A.slots + ms
def vx_Back (l : Launch) (R : Room) (p : Program) (e : Env) (below : List Frame) (s : State) (sargs : Array Value) (y : MethodName) (len W9 : Nat)
    (Pre : Pt → Array Value → Prop) (Post : Pt → Array Value → Option Value → Pt → Prop) (PostX : Pt → Array Value → Addr → Pt → Prop) : Prop :=
  ∀ (m : MethodId) (meth : Method) (c : Code) (A : Pt) (g : JFrame) (ig : Instr) (mk : MethodId) (a : Array Value),
    Stand p l e R s m sargs below meth c A.U A.locs A.cells A.slots → g.method = m → g.locals.size = c.maxLocals → decode c.code g.pc = .ok (ig, len) →
    2 * g.monitorRoom + (g.stack.map fun v => v.category).sum ≤ W9 → A.U.methodNamed? y = some mk → Pre A a →
    (∃ (v : Option Value) (B : Pt), Stand p l e R s m sargs below meth c B.U B.locs B.cells B.slots ∧ Post A a v B ∧
      Steps p.tables e below (doInvoke e (A.U.setTop g) [] mk a).1 (B.U.setTop { g with pc := g.pc + len, stack := v.toList ++ g.stack })) ∨
    (∃ (q : Addr) (B : Pt), Stand p l e R s m sargs below meth c B.U B.locs B.cells B.slots ∧ PostX A a q B ∧
      Steps p.tables e below (doInvoke e (A.U.setTop g) [] mk a).1 ((B.U.setTop g).pushFrame (.throwing q)))
section Payer
variable {l : Launch} {R : Room} {p : Program} {e : Env} {below : List Frame} {s : State} {sargs : Array Value} {y : MethodName} {len W9 : Nat}
theorem vx_back {ws : List Cond} {rm : Room} {Pc : Array Value → State → Prop} {Qc : Array Value → State → Outcome → State → Prop} {XC : String → State → State → Prop} {mc ms : Nat} {free : Addr → Prop} {bytes : ByteArray} {maxL : Nat} {ret : Option FieldType}
    (hM : vx_Met l y ws rm Pc Qc XC mc ms free) (hblind : FrameBlind Pc) (hrc : rm.cells = mc) (hrs : rm.slots = ms)
    (hframes : rm.frames + 1 ≤ R.frames) (hlocals : W9 + (maxL + 11) + rm.locals ≤ R.locals)
    (hws : ∀ w ∈ ws, ∀ a' U, s.WarmedH U.vm → w.before a' U = true) (hcode : Cond.code y bytes maxL ret ∈ ws) (hinit : ∀ a' U, s.WarmedH U.vm → (Cond.initialized y.cls).before a' U = true) :
    vx_Back l R p e below s sargs y len W9 (PreOf R mc ms Pc) (PostOf Qc mc ms free) (vx_Post XC mc ms free) := by
  intro m meth c A g ig mk a X hg hsize hdg hW hn hp
  have h1 : (headSpec ws rm).pre.before a A.U = true := atoms_intro fun w hw => hws w hw _ _ X.warmed
  have h2 : (Cond.code y bytes maxL ret).before a A.U = true := hws _ hcode _ _ X.warmed
  have h3 : (Cond.initialized y.cls).before a A.U = true := hinit _ _ X.warmed
  have h4 : A.cells + (headSpec ws rm).room.cells ≤ R.cells := by rw [show (headSpec ws rm).room.cells = mc from hrc]; exact hp.1
  have h5 : A.slots + (headSpec ws rm).room.slots ≤ R.slots := by rw [show (headSpec ws rm).room.slots = ms from hrs]; exact hp.2.1
  have hPc : Pc a (A.U.calling g mk a) := hblind _ _ _ _ hp.2.2
  obtain ⟨U, Ls, c0, s0⟩ := A
  dsimp only [Pt.U, Pt.locs, Pt.cells, Pt.slots] at h1 h2 h3 h4 h5 X hn hPc ⊢
  obtain ⟨methY, cY, hmY, hcY, -, hlY, -, -, -, -⟩ := Cond.code_spec hn h2
  obtain ⟨kY, hkY, -⟩ := className_of_methodNamed hn
  have hinitY : kY.init = .initialized := Cond.initialized_spec (findClass_of_methodNamed hn) hkY h3
  have h : At U g.method c below := by rw [hg]; exact X.here
  have hlocals9 : W9 + (maxL + 11) + (headSpec ws rm).room.locals ≤ R.locals := hlocals
  have happ : (headSpec ws rm).appliesLoose y e.platform (U.calling g mk a) = true :=
    Spec.appliesLoose_calling (g := g) h hdg hn hkY hinitY
      (X.room_calling (g := g) (R' := (headSpec ws rm).room) hsize hmY hcY hframes (by rw [hlY]; omega) h4 h5) h1
  obtain ⟨mid, hmid⟩ := h.above
  have hfr : (U.setTop g).frames = (.java g :: mid) ++ below := by rw [State.frames_setTop' g h.top, hmid]; rfl
  obtain ⟨o, s₂, hsteps, -, hend, hq⟩ := Steps.callFree hM p X.admits X.cas X.clock (acts := []) hfr happ hPc trivial
  have hq' : vx_Q Qc XC mc ms free a (U.calling g mk a) o s₂ := hq
  rw [State.frames_setTop' g h.top] at hend
  obtain ⟨g₀, hg0⟩ := Option.isSome_iff_exists.mp h.top
  obtain ⟨r, hr⟩ := State.topJava?_eq_some.mp hg0
  have hr' : (({ U with heap := s₂.heap, slotsUsed := s₂.slotsUsed } : State).setVm s₂.vm).frames = .java g₀ :: r := hr
  rcases hq' with ⟨hqc, L, hfe, hL⟩ | ⟨q, rfl, E, ce, L, hx, hce, hcv, hcl, hW₂, hsm, hL⟩
  · obtain ⟨⟨v, rfl⟩, hW₂, e2, q2, q3, q4, q5, q6⟩ := id hfe
    have e3 : s₂ = ({ (U.calling g mk a).setFrames s₂.frames with heap := s₂.heap, slotsUsed := s₂.slotsUsed } : State).setVm s₂.vm := by
      have : s₂ = ({ s₂ with vm := (U.calling g mk a).vm } : State).setVm s₂.vm := rfl
      rw [e2] at this
      exact this
    obtain ⟨c₂, i₂, len₂, hc₂, hd₂, hf₂⟩ := hend
    have hW' : U.WarmedH s₂.vm := hW₂
    have hcc : c₂ = c := by
      have h1 : s₂.code? g.method = U.code? g.method := by
        rw [State.code?_eq, State.code?_eq, hW'.alike.method?]
      exact Option.some.inj (hc₂.symm.trans (h1.trans h.code))
    subst hcc
    have hlen : len₂ = len := by rw [hdg] at hd₂; cases hd₂; rfl
    subst hlen
    have hs₂ : s₂ = (({ U with heap := s₂.heap, slotsUsed := s₂.slotsUsed } : State).setVm s₂.vm).setTop { g with pc := g.pc + len₂, stack := v.toList ++ g.stack } := by
      refine e3.trans ?_
      rw [hf₂, State.calling_eq h.top, State.setFrames_setFrames, State.setTop_of_frames _ hr', hr]
      rfl
    have hsame : U.sameButNew ({ U with heap := s₂.heap, slotsUsed := s₂.slotsUsed } : State) L mc ms := by
      refine ⟨?_, q2, q3, q4, q5, q6⟩
      obtain ⟨t, ht, -⟩ := State.frames_cons hr
      show ({ U with heap := s₂.heap, slotsUsed := s₂.slotsUsed } : State) = { U.setFrames U.frames with heap := s₂.heap, slotsUsed := s₂.slotsUsed }
      rw [State.setFrames_self ht]
    subst hg
    refine Or.inl ⟨v, ⟨(({ U with heap := s₂.heap, slotsUsed := s₂.slotsUsed } : State).setVm s₂.vm), Ls ++ L, c0 + mc, s0 + ms⟩,
      ⟨X.admits, X.cas, X.clock, X.frames, X.room, X.hears, X.method, X.code, (X.here.setHeapUsed s₂.heap s₂.slotsUsed).setVm hW'.alike, X.tail, State.WarmedH.trans X.warmed hW', X.limits, X.bytes, X.same.trans (hsame.setVm s.vm)⟩,
      ⟨g, mk, s₂, L, rfl, rfl, hqc, rfl, hL, rfl, rfl⟩, ?_⟩
    show Steps p.tables e below _ ((({ U with heap := s₂.heap, slotsUsed := s₂.slotsUsed } : State).setVm s₂.vm).setTop { g with pc := g.pc + len₂, stack := v.toList ++ g.stack })
    rw [← hs₂]
    exact hsteps
  · obtain ⟨e2, q2, q3, q4, q5, q6⟩ := id hsm
    have e3 : s₂ = ({ (U.calling g mk a).setFrames s₂.frames with heap := s₂.heap, slotsUsed := s₂.slotsUsed } : State).setVm s₂.vm := by
      have : s₂ = ({ s₂ with vm := (U.calling g mk a).vm } : State).setVm s₂.vm := rfl
      rw [e2] at this
      exact this
    have hf₂ : s₂.frames = .throwing q :: .java g :: U.frames.tail := hend
    have hW' : U.WarmedH s₂.vm := hW₂
    have hs₂ : s₂ = ((({ U with heap := s₂.heap, slotsUsed := s₂.slotsUsed } : State).setVm s₂.vm).setTop g).pushFrame (.throwing q) := by
      refine e3.trans ?_
      rw [hf₂, State.calling_eq h.top, State.setFrames_setFrames, State.pushFrame, State.frames_setTop _ hr', State.setTop_of_frames _ hr', State.setFrames_setFrames, hr]
      rfl
    have hsame : U.sameButNew ({ U with heap := s₂.heap, slotsUsed := s₂.slotsUsed } : State) L mc ms := by
      refine ⟨?_, q2, q3, q4, q5, q6⟩
      obtain ⟨t, ht, -⟩ := State.frames_cons hr
      show ({ U with heap := s₂.heap, slotsUsed := s₂.slotsUsed } : State) = { U.setFrames U.frames with heap := s₂.heap, slotsUsed := s₂.slotsUsed }
      rw [State.setFrames_self ht]
    subst hg
    refine Or.inr ⟨q, ⟨(({ U with heap := s₂.heap, slotsUsed := s₂.slotsUsed } : State).setVm s₂.vm), Ls ++ L, c0 + mc, s0 + ms⟩,
      ⟨X.admits, X.cas, X.clock, X.frames, X.room, X.hears, X.method, X.code, (X.here.setHeapUsed s₂.heap s₂.slotsUsed).setVm hW'.alike, X.tail, State.WarmedH.trans X.warmed hW', X.limits, X.bytes, X.same.trans (hsame.setVm s.vm)⟩,
      ⟨g, mk, s₂, L, E, ce, rfl, rfl, hx, hce, hcv, hcl, rfl, hL, rfl, rfl⟩, ?_⟩
    show Steps p.tables e below _ (((({ U with heap := s₂.heap, slotsUsed := s₂.slotsUsed } : State).setVm s₂.vm).setTop g).pushFrame (.throwing q))
    rw [← hs₂]
    exact hsteps
end Payer
section Calls
variable {p : Program} {l : Launch} {e : Env} {R : Room} {s : State} {m : MethodId} {args : Array Value} {below : List Frame} {meth : Method} {c : Code} {T : State} {locs : List Loc} {cells slots : Nat}
theorem vx_callV (X : Stand p l e R s m args below meth c T locs cells slots) (hexec : p.tables.exec = Jvm.exec) {own C : String} {index : Nat} {y : MethodName} {bytes : ByteArray} {maxL : Nat} {ret : Option FieldType}
    (hown : s.vm.findClass own = some m.cls) (hlink : (Cond.methodLink own index y).before args s = true) (hinst : (Cond.instanceMethod y).before args s = true) (hsel : (Cond.selects C y y).before args s = true)
    (hcode : (Cond.code y bytes maxL ret).before args s = true) (hy : y.cls ≠ "java/lang/invoke/MethodHandle" ∧ y.cls ≠ "java/lang/invoke/VarHandle")
    {W9 : Nat} {Pre : Pt → Array Value → Prop} {Post : Pt → Array Value → Option Value → Pt → Prop} {PostX : Pt → Array Value → Addr → Pt → Prop} (hK : vx_Back l R p e below s args y 3 W9 Pre Post PostX)
    {b : Addr} {cellB : Cell} (hcell : T.heap[b]? = some cellB) (hobj : cellB.vm.isStatics = false) (hcls : s.vm.findClass C = some cellB.cls)
    {g : JFrame} (hg : g.method = m) (hsize : g.locals.size = c.maxLocals) {argsL rest : List Value} (hlen : ∀ sig, parseMethodDescriptor y.desc = some sig → argsL.length = sig.parameters.length)
    (hstack : g.stack = argsL.reverse ++ .ref b :: rest) (hW : 2 * g.monitorRoom + (rest.map fun v => v.category).sum ≤ W9) (hdg : decode c.code g.pc = .ok (.invokevirtual index, 3))
    (hpre : ∀ vm₁, s.WarmedH vm₁ → Pre ⟨T.setVm vm₁, locs, cells, slots⟩ (Value.ref b :: argsL).toArray) :
    (∃ (v : Option Value) (vm₁ : Vm) (B : Pt), s.WarmedH vm₁ ∧ Stand p l e R s m args below meth c B.U B.locs B.cells B.slots ∧ Post ⟨T.setVm vm₁, locs, cells, slots⟩ (Value.ref b :: argsL).toArray v B ∧
      ∀ target, Steps p.tables e below (B.U.setTop { g with pc := g.pc + 3, stack := v.toList ++ rest }) target → Steps p.tables e below (T.setTop g) target) ∨
    (∃ (q : Addr) (vm₁ : Vm) (B : Pt), s.WarmedH vm₁ ∧ Stand p l e R s m args below meth c B.U B.locs B.cells B.slots ∧ PostX ⟨T.setVm vm₁, locs, cells, slots⟩ (Value.ref b :: argsL).toArray q B ∧
      Steps p.tables e below (T.setTop g) ((B.U.setTop { g with stack := rest }).pushFrame (.throwing q))) := by
  obtain ⟨mk, methM, hnamed, hmethM, hstM, habM⟩ := Cond.instanceMethod_spec hinst
  obtain ⟨methM', cM, hmethM', -, -, -, -, -, -, hsigM⟩ := Cond.code_spec hnamed hcode
  cases hmethM.symm.trans hmethM'
  obtain ⟨c2, r2, m2, q1, q2, q3, q4, kP, hkP, hkPi⟩ := Cond.selects_spec hsel
  cases hcls.symm.trans q1
  cases (State.methodFound?_of_named hnamed hy).symm.trans q2
  cases hnamed.symm.trans q3
  have hselP : selectMethod e.platform s.vm cellB.cls mk = .method mk := by rw [Launch.admits_selectMethod X.admits]; exact q4
  obtain ⟨vm₁, X₁, hstep₁⟩ := X.invokevirtual hexec hown hlink hnamed hmethM hstM hkP hkPi hy (a := b) (cell := cellB) hcell
    (fun z h => by rw [h] at hobj; cases hobj) hselP hmethM habM hkP hkPi (g := g) hg (argsL := argsL) (rest := rest) (hlen _ hsigM) hstack hdg
  rcases hK m meth c ⟨T.setVm vm₁, locs, cells, slots⟩ { g with stack := rest } (.invokevirtual index) mk (Value.ref b :: argsL).toArray X₁ hg hsize hdg hW (X₁.named hnamed) (hpre vm₁ X₁.warmed) with ⟨v, B, X', hpost, hsteps⟩ | ⟨q, B, X', hpost, hsteps⟩
  · exact Or.inl ⟨v, vm₁, B, X₁.warmed, X', hpost, fun target h => hstep₁ _ fun acts => by rw [doInvoke_state]; exact hsteps.trans h⟩
  · exact Or.inr ⟨q, vm₁, B, X₁.warmed, X', hpost, hstep₁ _ fun acts => by rw [doInvoke_state]; exact hsteps⟩
theorem vx_callS (X : Stand p l e R s m args below meth c T locs cells slots) (hexec : p.tables.exec = Jvm.exec) {own : String} {index : Nat} {y : MethodName} {bytes : ByteArray} {maxL : Nat} {ret : Option FieldType}
    (hown : s.vm.findClass own = some m.cls) (hlink : (Cond.methodLink own index y).before args s = true) (hstat : (Cond.static y).before args s = true) (hinit : (Cond.initialized y.cls).before args s = true)
    (hcode : (Cond.code y bytes maxL ret).before args s = true) (hy : y.cls ≠ "java/lang/invoke/MethodHandle" ∧ y.cls ≠ "java/lang/invoke/VarHandle")
    {W9 : Nat} {Pre : Pt → Array Value → Prop} {Post : Pt → Array Value → Option Value → Pt → Prop} {PostX : Pt → Array Value → Addr → Pt → Prop} (hK : vx_Back l R p e below s args y 3 W9 Pre Post PostX)
    {g : JFrame} (hg : g.method = m) (hsize : g.locals.size = c.maxLocals) {argsL rest : List Value} (hlen : ∀ sig, parseMethodDescriptor y.desc = some sig → argsL.length = sig.parameters.length)
    (hstack : g.stack = argsL.reverse ++ rest) (hW : 2 * g.monitorRoom + (rest.map fun v => v.category).sum ≤ W9) (hdg : decode c.code g.pc = .ok (.invokestatic index, 3))
    (hpre : ∀ vm₁, s.WarmedH vm₁ → Pre ⟨T.setVm vm₁, locs, cells, slots⟩ argsL.toArray) :
    (∃ (v : Option Value) (vm₁ : Vm) (B : Pt), s.WarmedH vm₁ ∧ Stand p l e R s m args below meth c B.U B.locs B.cells B.slots ∧ Post ⟨T.setVm vm₁, locs, cells, slots⟩ argsL.toArray v B ∧
      ∀ target, Steps p.tables e below (B.U.setTop { g with pc := g.pc + 3, stack := v.toList ++ rest }) target → Steps p.tables e below (T.setTop g) target) ∨
    (∃ (q : Addr) (vm₁ : Vm) (B : Pt), s.WarmedH vm₁ ∧ Stand p l e R s m args below meth c B.U B.locs B.cells B.slots ∧ PostX ⟨T.setVm vm₁, locs, cells, slots⟩ argsL.toArray q B ∧
      Steps p.tables e below (T.setTop g) ((B.U.setTop { g with stack := rest }).pushFrame (.throwing q))) := by
  obtain ⟨mk, hnamed⟩ := Cond.code_named hcode
  obtain ⟨methM, cM, hmethM, -, -, -, -, -, -, hsigM⟩ := Cond.code_spec hnamed hcode
  have hstatic : methM.isStatic = true := Cond.static_spec hnamed hmethM hstat
  obtain ⟨kP, hkP, -⟩ := className_of_methodNamed hnamed
  have hinitP : kP.init = .initialized := Cond.initialized_spec (findClass_of_methodNamed hnamed) hkP hinit
  obtain ⟨vm₁, X₁, hstep₁⟩ := X.invokestatic hexec hown hlink hnamed hmethM hstatic hkP hinitP hy (g := g) hg (argsL := argsL) (rest := rest) (hlen _ hsigM) hstack hdg
  rcases hK m meth c ⟨T.setVm vm₁, locs, cells, slots⟩ { g with stack := rest } (.invokestatic index) mk argsL.toArray X₁ hg hsize hdg hW (X₁.named hnamed) (hpre vm₁ X₁.warmed) with ⟨v, B, X', hpost, hsteps⟩ | ⟨q, B, X', hpost, hsteps⟩
  · exact Or.inl ⟨v, vm₁, B, X₁.warmed, X', hpost, fun target h => hstep₁ _ fun acts => by rw [doInvoke_state]; exact hsteps.trans h⟩
  · exact Or.inr ⟨q, vm₁, B, X₁.warmed, X', hpost, hstep₁ _ fun acts => by rw [doInvoke_state]; exact hsteps⟩
end Calls
theorem vx_cls {s : State} {T : State} {vm₁ : Vm} {E : String} {k : ClassId} (hW : s.WarmedH vm₁) (h : (T.setVm vm₁).vm.findClass E = some k) : s.vm.findClass E = some k := by
  have h1 : vm₁.findClass E = some k := h
  rw [hW.alike.findClass] at h1
  exact h1
/-- the method's frame g, with q thrown over it -/
def vx_W (p : Program) (l : Launch) (e : Env) (R : Room) (s : State) (m : MethodId) (args : Array Value) (below : List Frame) (meth : Method) (c : Code) (H : Heap) (locs : List Loc) (cells slots : Nat) (Q : State → Prop) (g : JFrame) (q : Addr) : Prop :=
  ∀ T : State, T.heap = H → Stand p l e R s m args below meth c T locs cells slots → ∃ t, Steps p.tables e below ((T.setTop g).pushFrame (.throwing q)) t ∧ Q t
def vx_Run (p : Program) (l : Launch) (e : Env) (R : Room) (s : State) (m : MethodId) (args : Array Value) (below : List Frame) (meth : Method) (c : Code) (H : Heap) (locs : List Loc) (cells slots mc ms : Nat) (g : JFrame) (rest : List Value) (Qa : State → Outcome → State → Prop) (XC : String → State → State → Prop) (free : Addr → Prop) : Prop :=
  ∀ T : State, T.heap = H → Stand p l e R s m args below meth c T locs cells slots →
    (∃ (v : Option Value) (st₀ t T' : State) (L : List Loc), st₀.heap = H ∧ Stand p l e R s m args below meth c T' (locs ++ L) (cells + mc) (slots + ms) ∧ (∀ q ∈ L, free q.base) ∧ T'.heap = t.heap ∧ T'.vm = t.vm ∧ Qa st₀ (.returned v) t ∧
      Goes p e below T g T' { g with pc := g.pc + 3, stack := v.toList ++ rest }) ∨
    (∃ (q : Addr) (st₀ t T' : State) (L : List Loc) (E : String) (ce : Cell), st₀.heap = H ∧ Stand p l e R s m args below meth c T' (locs ++ L) (cells + mc) (slots + ms) ∧ (∀ z ∈ L, free z.base) ∧ T'.heap = t.heap ∧ T'.vm = t.vm ∧ XC E st₀ t ∧ t.heap[q]? = some ce ∧ ce.vm = .none ∧ s.vm.findClass E = some ce.cls ∧
      Steps p.tables e below (T.setTop g) ((T'.setTop { g with stack := rest }).pushFrame (.throwing q)))
def vx_X {S : Type} (px : S → Prop) (B : String → S → State → Prop) (A : Nat → Prop) : String → State → State → Prop := fun E st t => ∃ u : S, px u ∧ B E u t ∧ va_F A st t
section Runs
variable {p : Program} {l : Launch} {e : Env} {R : Room} {s : State} {m : MethodId} {args : Array Value} {below : List Frame} {meth : Method} {c : Code} {H : Heap} {locs : List Loc} {cells slots : Nat}
variable {y : MethodName} {bytes cc : ByteArray} {maxL nL mc ms n index : Nat} {ret : Option FieldType} {ws : List Cond} {rm : Room} {Pc : Array Value → State → Prop} {Qc : Array Value → State → Outcome → State → Prop} {XC : String → State → State → Prop} {free : Addr → Prop} {Ts : List Cond} {own C : String} {b : Addr} {As rest : List Value} {g : JFrame}
theorem vx_callBack (cb : CallB R s args own index y bytes maxL ret ws rm mc ms n) (hM : vx_Met l y ws rm Pc Qc XC mc ms free) (hbl : FrameBlind Pc) : vx_Back l R p e below s args y 3 8 (PreOf R mc ms Pc) (PostOf Qc mc ms free) (vx_Post XC mc ms free) := by
  obtain ⟨hrc, hrs, hfr, hlo, hws, hcw, -, hini, -⟩ := cb
  exact vx_back (bytes := bytes) (maxL := maxL) (ret := ret) hM hbl hrc hrs hfr hlo hws hcw (fun a' U hW => word_at hW (Or.inl (by first | rfl | simp [Cond.onTables, Cond.keeps, Cond.steady])) hini)
theorem vx_runV (S : CallFix p m c cc nL s args Ts own) (hM : vx_Met l y ws rm Pc Qc XC mc ms free) (cw : CallW R s args own C index y bytes maxL ret ws rm mc ms n) (hp : PreV s H C b Pc As)
    (hg : g.method = m) (hn : As.length = n) (hsize : g.locals.size = nL) (hstack : g.stack = As.reverse ++ .ref b :: rest) (hW : 2 * g.monitorRoom + (rest.map fun v => v.category).sum ≤ 8) (hdg : decode cc g.pc = .ok (.invokevirtual index, 3)) (hf : cells + mc ≤ R.cells ∧ slots + ms ≤ R.slots) :
    vx_Run p l e R s m args below meth c H locs cells slots mc ms g rest (Qc (Value.ref b :: As).toArray) XC free := by
  have hK : vx_Back l R p e below s args y 3 8 (PreOf R mc ms Pc) (PostOf Qc mc ms free) (vx_Post XC mc ms free) := vx_callBack cw.1 hM hp.1
  obtain ⟨⟨-, -, -, -, -, -, hcode, -, hy, hlen, hl⟩, hin, hse⟩ := cw
  obtain ⟨hx, hb, hml, ho, -⟩ := S
  obtain ⟨-, ⟨cellB, hcB, hoB, hclB⟩, hPc⟩ := hp
  intro T hT X
  rcases vx_callV X hx (C := C) (bytes := bytes) (maxL := maxL) (ret := ret) ho hl hin hse hcode hy hK (by rw [hT]; exact hcB) hoB hclB hg (hsize.trans hml.symm) (argsL := As) (rest := rest) (fun sig h => hn.trans (hlen sig h)) hstack hW (by rw [hb]; exact hdg)
    (fun vm₁ hW₁ => ⟨hf.1, hf.2, hPc (T.setVm vm₁) hT hW₁⟩) with ⟨v, vm₁, ⟨U', l2, c2, s2⟩, hW₁, X', ⟨g', mk, t, L, e1, e2, hq, h1, hL, h2, h3⟩, st⟩ | ⟨q, vm₁, ⟨U', l2, c2, s2⟩, hW₁, X', ⟨g', mk, t, L, E, ce, e1, e2, hq, hce, hcv, hcl, h1, hL, h2, h3⟩, st⟩
  · dsimp only [Pt.U, Pt.locs, Pt.cells, Pt.slots] at X' e1 e2 h1 h2 h3 st
    subst h1; subst h2; subst h3
    exact Or.inl ⟨v, (T.setVm vm₁).calling g' mk (Value.ref b :: As).toArray, t, U', L, hT, X', hL, e1, e2, hq, st⟩
  · dsimp only [Pt.U, Pt.locs, Pt.cells, Pt.slots] at X' e1 e2 h1 h2 h3 st hcl
    subst h1; subst h2; subst h3
    exact Or.inr ⟨q, (T.setVm vm₁).calling g' mk (Value.ref b :: As).toArray, t, U', L, E, ce, hT, X', hL, e1, e2, hq, hce, hcv, vx_cls hW₁ hcl, st⟩
theorem vx_runS (S : CallFix p m c cc nL s args Ts own) (hM : vx_Met l y ws rm Pc Qc XC mc ms free) (cw : CallB R s args own index y bytes maxL ret ws rm mc ms n ∧ (Cond.static y).before args s = true) (hp : PreS s H Pc As)
    (hg : g.method = m) (hn : As.length = n) (hsize : g.locals.size = nL) (hstack : g.stack = As.reverse ++ rest) (hW : 2 * g.monitorRoom + (rest.map fun v => v.category).sum ≤ 8) (hdg : decode cc g.pc = .ok (.invokestatic index, 3)) (hf : cells + mc ≤ R.cells ∧ slots + ms ≤ R.slots) :
    vx_Run p l e R s m args below meth c H locs cells slots mc ms g rest (Qc As.toArray) XC free := by
  have hK : vx_Back l R p e below s args y 3 8 (PreOf R mc ms Pc) (PostOf Qc mc ms free) (vx_Post XC mc ms free) := vx_callBack cw.1 hM hp.1
  obtain ⟨⟨-, -, -, -, -, -, hcode, hini, hy, hlen, hl⟩, hstt⟩ := cw
  obtain ⟨hx, hb, hml, ho, -⟩ := S
  intro T hT X
  rcases vx_callS X hx (bytes := bytes) (maxL := maxL) (ret := ret) ho hl hstt hini hcode hy hK hg (hsize.trans hml.symm) (argsL := As) (rest := rest) (fun sig h => hn.trans (hlen sig h)) hstack hW (by rw [hb]; exact hdg)
    (fun vm₁ hW₁ => ⟨hf.1, hf.2, hp.2 (T.setVm vm₁) hT hW₁⟩) with ⟨v, vm₁, ⟨U', l2, c2, s2⟩, hW₁, X', ⟨g', mk, t, L, e1, e2, hq, h1, hL, h2, h3⟩, st⟩ | ⟨q, vm₁, ⟨U', l2, c2, s2⟩, hW₁, X', ⟨g', mk, t, L, E, ce, e1, e2, hq, hce, hcv, hcl, h1, hL, h2, h3⟩, st⟩
  · dsimp only [Pt.U, Pt.locs, Pt.cells, Pt.slots] at X' e1 e2 h1 h2 h3 st
    subst h1; subst h2; subst h3
    exact Or.inl ⟨v, (T.setVm vm₁).calling g' mk As.toArray, t, U', L, hT, X', hL, e1, e2, hq, st⟩
  · dsimp only [Pt.U, Pt.locs, Pt.cells, Pt.slots] at X' e1 e2 h1 h2 h3 st hcl
    subst h1; subst h2; subst h3
    exact Or.inr ⟨q, (T.setVm vm₁).calling g' mk As.toArray, t, U', L, E, ce, hT, X', hL, e1, e2, hq, hce, hcv, vx_cls hW₁ hcl, st⟩
end Runs
section Rows
variable {p : Program} {l : Launch} {e : Env} {R : Room} {s : State} {m : MethodId} {args : Array Value} {below : List Frame} {meth : Method} {c : Code} {H : Heap} {locs : List Loc} {cells slots : Nat} {Q : State → Prop}
variable {mc ms : Nat} {free : Addr → Prop} {A0 A1 : Nat → Prop} {H0 : Heap} {a : Array Value} {pc : Nat} {ls : Array Slot} {st0 rest : List Value}
theorem vx_keep {st₀ t T' : State} {L : List Loc} (h0 : st₀.heap = H) (e1 : T'.heap = t.heap) (hS : va_S A0 H0 H locs) (hA : ∀ q, q < H.size → A1 q → A0 q) (hf : ∀ q, free q → A0 q) (hL : ∀ q ∈ L, free q.base) (hF : va_F A1 st₀ t) :
    H.size ≤ T'.heap.size ∧ (∀ q : Nat, q < H.size → ¬ A1 q → T'.heap[q]? = H[q]?) ∧ va_S A0 H0 T'.heap (locs ++ L) := by
  obtain ⟨hz, hk⟩ := hF
  rw [h0] at hz hk
  exact ⟨by rw [e1]; exact hz, fun q h1 h2 => by rw [e1]; exact hk q h1 h2,
    ⟨Nat.le_trans hS.1 (by rw [e1]; exact hz), fun q h1 h2 => by rw [e1, hk q (Nat.lt_of_lt_of_le h1 hS.1) (fun z => h2 (hA q (Nat.lt_of_lt_of_le h1 hS.1) z))]; exact hS.2.1 q h1 h2, fun q hq => by
      rcases List.mem_append.mp hq with h | h
      · exact hS.2.2 q h
      · exact hf _ (hL q h)⟩⟩
theorem vx_calli {S SX : Type} {post : Int32 → S → Prop} {px : SX → Prop} {B : S → State → Prop} {BX : String → SX → State → Prop} {AX : Nat → Prop} (hr : vx_Run p l e R s m args below meth c H locs cells slots mc ms (F0 m pc ls st0) rest (va_Qi post B A1 a) (vx_X px BX AX) free) (hS : va_S A0 H0 H locs) (hA : ∀ q, q < H.size → A1 q → A0 q) (hf : ∀ q, free q → A0 q) (hAX : ∀ q, q < H.size → AX q → A0 q)
    (kx : ∀ (E : String) (ce : Cell) (q9 : Addr) (u : SX) (t : State) (H1 : Heap) (locs1 : List Loc), t.heap = H1 → s.vm.Alike t.vm → px u → BX E u t → H.size ≤ H1.size → (∀ q : Nat, q < H.size → ¬ AX q → H1[q]? = H[q]?) → va_S A0 H0 H1 locs1 → H1[q9]? = some ce → ce.vm = .none → s.vm.findClass E = some ce.cls → vx_W p l e R s m args below meth c H1 locs1 (cells + mc) (slots + ms) Q (F0 m pc ls rest) q9)
    (kk : ∀ (r : Int32) (u : S) (t : State) (H1 : Heap) (locs1 : List Loc), t.heap = H1 → s.vm.Alike t.vm → post r u → B u t → H.size ≤ H1.size → (∀ q : Nat, q < H.size → ¬ A1 q → H1[q]? = H[q]?) → va_S A0 H0 H1 locs1 → W p l e R s m args below meth c H1 locs1 (cells + mc) (slots + ms) Q (F0 m (pc + 3) ls (.int r :: rest))) : W p l e R s m args below meth c H locs cells slots Q (F0 m pc ls st0) := by
  intro T hT X
  rcases hr T hT X with ⟨v, st₀, t, T', L, h0, X', hL, e1, e2, ⟨⟨r, u, hv, hp, hb⟩, hF⟩, st⟩ | ⟨q, st₀, t, T', L, E, ce, h0, X', hL, e1, e2, ⟨u, hp, hb, hF⟩, hce, hcv, hcl, st⟩
  · cases hv
    obtain ⟨k1, k2, k3⟩ := vx_keep h0 e1 hS hA hf hL hF
    obtain ⟨t2, a1, b1⟩ := kk r u t T'.heap (locs ++ L) e1.symm (by rw [← e2]; exact X'.warmed.alike) hp hb k1 k2 k3 T' rfl X'
    exact ⟨t2, st t2 a1, b1⟩
  · obtain ⟨k1, k2, k3⟩ := vx_keep h0 e1 hS hAX hf hL hF
    obtain ⟨t2, a1, b1⟩ := kx E ce q u t T'.heap (locs ++ L) e1.symm (by rw [← e2]; exact X'.warmed.alike) hp hb k1 k2 k3 (by rw [e1]; exact hce) hcv hcl T' rfl X'
    exact ⟨t2, st.trans a1, b1⟩
theorem vx_calll {S SX : Type} {post : Int64 → S → Prop} {px : SX → Prop} {B : S → State → Prop} {BX : String → SX → State → Prop} {AX : Nat → Prop} (hr : vx_Run p l e R s m args below meth c H locs cells slots mc ms (F0 m pc ls st0) rest (va_Ql post B A1 a) (vx_X px BX AX) free) (hS : va_S A0 H0 H locs) (hA : ∀ q, q < H.size → A1 q → A0 q) (hf : ∀ q, free q → A0 q) (hAX : ∀ q, q < H.size → AX q → A0 q)
    (kx : ∀ (E : String) (ce : Cell) (q9 : Addr) (u : SX) (t : State) (H1 : Heap) (locs1 : List Loc), t.heap = H1 → s.vm.Alike t.vm → px u → BX E u t → H.size ≤ H1.size → (∀ q : Nat, q < H.size → ¬ AX q → H1[q]? = H[q]?) → va_S A0 H0 H1 locs1 → H1[q9]? = some ce → ce.vm = .none → s.vm.findClass E = some ce.cls → vx_W p l e R s m args below meth c H1 locs1 (cells + mc) (slots + ms) Q (F0 m pc ls rest) q9)
    (kk : ∀ (r : Int64) (u : S) (t : State) (H1 : Heap) (locs1 : List Loc), t.heap = H1 → s.vm.Alike t.vm → post r u → B u t → H.size ≤ H1.size → (∀ q : Nat, q < H.size → ¬ A1 q → H1[q]? = H[q]?) → va_S A0 H0 H1 locs1 → W p l e R s m args below meth c H1 locs1 (cells + mc) (slots + ms) Q (F0 m (pc + 3) ls (.long r :: rest))) : W p l e R s m args below meth c H locs cells slots Q (F0 m pc ls st0) := by
  intro T hT X
  rcases hr T hT X with ⟨v, st₀, t, T', L, h0, X', hL, e1, e2, ⟨⟨r, u, hv, hp, hb⟩, hF⟩, st⟩ | ⟨q, st₀, t, T', L, E, ce, h0, X', hL, e1, e2, ⟨u, hp, hb, hF⟩, hce, hcv, hcl, st⟩
  · cases hv
    obtain ⟨k1, k2, k3⟩ := vx_keep h0 e1 hS hA hf hL hF
    obtain ⟨t2, a1, b1⟩ := kk r u t T'.heap (locs ++ L) e1.symm (by rw [← e2]; exact X'.warmed.alike) hp hb k1 k2 k3 T' rfl X'
    exact ⟨t2, st t2 a1, b1⟩
  · obtain ⟨k1, k2, k3⟩ := vx_keep h0 e1 hS hAX hf hL hF
    obtain ⟨t2, a1, b1⟩ := kx E ce q u t T'.heap (locs ++ L) e1.symm (by rw [← e2]; exact X'.warmed.alike) hp hb k1 k2 k3 (by rw [e1]; exact hce) hcv hcl T' rfl X'
    exact ⟨t2, st.trans a1, b1⟩
theorem vx_callf {S SX : Type} {post : UInt32 → S → Prop} {px : SX → Prop} {B : S → State → Prop} {BX : String → SX → State → Prop} {AX : Nat → Prop} (hr : vx_Run p l e R s m args below meth c H locs cells slots mc ms (F0 m pc ls st0) rest (va_Qf post B A1 a) (vx_X px BX AX) free) (hS : va_S A0 H0 H locs) (hA : ∀ q, q < H.size → A1 q → A0 q) (hf : ∀ q, free q → A0 q) (hAX : ∀ q, q < H.size → AX q → A0 q)
    (kx : ∀ (E : String) (ce : Cell) (q9 : Addr) (u : SX) (t : State) (H1 : Heap) (locs1 : List Loc), t.heap = H1 → s.vm.Alike t.vm → px u → BX E u t → H.size ≤ H1.size → (∀ q : Nat, q < H.size → ¬ AX q → H1[q]? = H[q]?) → va_S A0 H0 H1 locs1 → H1[q9]? = some ce → ce.vm = .none → s.vm.findClass E = some ce.cls → vx_W p l e R s m args below meth c H1 locs1 (cells + mc) (slots + ms) Q (F0 m pc ls rest) q9)
    (kk : ∀ (r : UInt32) (u : S) (t : State) (H1 : Heap) (locs1 : List Loc), t.heap = H1 → s.vm.Alike t.vm → post r u → B u t → H.size ≤ H1.size → (∀ q : Nat, q < H.size → ¬ A1 q → H1[q]? = H[q]?) → va_S A0 H0 H1 locs1 → W p l e R s m args below meth c H1 locs1 (cells + mc) (slots + ms) Q (F0 m (pc + 3) ls (.float r :: rest))) : W p l e R s m args below meth c H locs cells slots Q (F0 m pc ls st0) := by
  intro T hT X
  rcases hr T hT X with ⟨v, st₀, t, T', L, h0, X', hL, e1, e2, ⟨⟨r, u, hv, hp, hb⟩, hF⟩, st⟩ | ⟨q, st₀, t, T', L, E, ce, h0, X', hL, e1, e2, ⟨u, hp, hb, hF⟩, hce, hcv, hcl, st⟩
  · cases hv
    obtain ⟨k1, k2, k3⟩ := vx_keep h0 e1 hS hA hf hL hF
    obtain ⟨t2, a1, b1⟩ := kk r u t T'.heap (locs ++ L) e1.symm (by rw [← e2]; exact X'.warmed.alike) hp hb k1 k2 k3 T' rfl X'
    exact ⟨t2, st t2 a1, b1⟩
  · obtain ⟨k1, k2, k3⟩ := vx_keep h0 e1 hS hAX hf hL hF
    obtain ⟨t2, a1, b1⟩ := kx E ce q u t T'.heap (locs ++ L) e1.symm (by rw [← e2]; exact X'.warmed.alike) hp hb k1 k2 k3 (by rw [e1]; exact hce) hcv hcl T' rfl X'
    exact ⟨t2, st.trans a1, b1⟩
theorem vx_calld {S SX : Type} {post : UInt64 → S → Prop} {px : SX → Prop} {B : S → State → Prop} {BX : String → SX → State → Prop} {AX : Nat → Prop} (hr : vx_Run p l e R s m args below meth c H locs cells slots mc ms (F0 m pc ls st0) rest (va_Qd post B A1 a) (vx_X px BX AX) free) (hS : va_S A0 H0 H locs) (hA : ∀ q, q < H.size → A1 q → A0 q) (hf : ∀ q, free q → A0 q) (hAX : ∀ q, q < H.size → AX q → A0 q)
    (kx : ∀ (E : String) (ce : Cell) (q9 : Addr) (u : SX) (t : State) (H1 : Heap) (locs1 : List Loc), t.heap = H1 → s.vm.Alike t.vm → px u → BX E u t → H.size ≤ H1.size → (∀ q : Nat, q < H.size → ¬ AX q → H1[q]? = H[q]?) → va_S A0 H0 H1 locs1 → H1[q9]? = some ce → ce.vm = .none → s.vm.findClass E = some ce.cls → vx_W p l e R s m args below meth c H1 locs1 (cells + mc) (slots + ms) Q (F0 m pc ls rest) q9)
    (kk : ∀ (r : UInt64) (u : S) (t : State) (H1 : Heap) (locs1 : List Loc), t.heap = H1 → s.vm.Alike t.vm → post r u → B u t → H.size ≤ H1.size → (∀ q : Nat, q < H.size → ¬ A1 q → H1[q]? = H[q]?) → va_S A0 H0 H1 locs1 → W p l e R s m args below meth c H1 locs1 (cells + mc) (slots + ms) Q (F0 m (pc + 3) ls (.double r :: rest))) : W p l e R s m args below meth c H locs cells slots Q (F0 m pc ls st0) := by
  intro T hT X
  rcases hr T hT X with ⟨v, st₀, t, T', L, h0, X', hL, e1, e2, ⟨⟨r, u, hv, hp, hb⟩, hF⟩, st⟩ | ⟨q, st₀, t, T', L, E, ce, h0, X', hL, e1, e2, ⟨u, hp, hb, hF⟩, hce, hcv, hcl, st⟩
  · cases hv
    obtain ⟨k1, k2, k3⟩ := vx_keep h0 e1 hS hA hf hL hF
    obtain ⟨t2, a1, b1⟩ := kk r u t T'.heap (locs ++ L) e1.symm (by rw [← e2]; exact X'.warmed.alike) hp hb k1 k2 k3 T' rfl X'
    exact ⟨t2, st t2 a1, b1⟩
  · obtain ⟨k1, k2, k3⟩ := vx_keep h0 e1 hS hAX hf hL hF
    obtain ⟨t2, a1, b1⟩ := kx E ce q u t T'.heap (locs ++ L) e1.symm (by rw [← e2]; exact X'.warmed.alike) hp hb k1 k2 k3 (by rw [e1]; exact hce) hcv hcl T' rfl X'
    exact ⟨t2, st.trans a1, b1⟩
theorem vx_callv {S SX : Type} {post : S → Prop} {px : SX → Prop} {B : S → State → Prop} {BX : String → SX → State → Prop} {AX : Nat → Prop} (hr : vx_Run p l e R s m args below meth c H locs cells slots mc ms (F0 m pc ls st0) rest (va_Qv post B A1 a) (vx_X px BX AX) free) (hS : va_S A0 H0 H locs) (hA : ∀ q, q < H.size → A1 q → A0 q) (hf : ∀ q, free q → A0 q) (hAX : ∀ q, q < H.size → AX q → A0 q)
    (kx : ∀ (E : String) (ce : Cell) (q9 : Addr) (u : SX) (t : State) (H1 : Heap) (locs1 : List Loc), t.heap = H1 → s.vm.Alike t.vm → px u → BX E u t → H.size ≤ H1.size → (∀ q : Nat, q < H.size → ¬ AX q → H1[q]? = H[q]?) → va_S A0 H0 H1 locs1 → H1[q9]? = some ce → ce.vm = .none → s.vm.findClass E = some ce.cls → vx_W p l e R s m args below meth c H1 locs1 (cells + mc) (slots + ms) Q (F0 m pc ls rest) q9)
    (kk : ∀ (u : S) (t : State) (H1 : Heap) (locs1 : List Loc), t.heap = H1 → s.vm.Alike t.vm → post u → B u t → H.size ≤ H1.size → (∀ q : Nat, q < H.size → ¬ A1 q → H1[q]? = H[q]?) → va_S A0 H0 H1 locs1 → W p l e R s m args below meth c H1 locs1 (cells + mc) (slots + ms) Q (F0 m (pc + 3) ls (rest))) : W p l e R s m args below meth c H locs cells slots Q (F0 m pc ls st0) := by
  intro T hT X
  rcases hr T hT X with ⟨v, st₀, t, T', L, h0, X', hL, e1, e2, ⟨⟨u, hv, hp, hb⟩, hF⟩, st⟩ | ⟨q, st₀, t, T', L, E, ce, h0, X', hL, e1, e2, ⟨u, hp, hb, hF⟩, hce, hcv, hcl, st⟩
  · cases hv
    obtain ⟨k1, k2, k3⟩ := vx_keep h0 e1 hS hA hf hL hF
    obtain ⟨t2, a1, b1⟩ := kk u t T'.heap (locs ++ L) e1.symm (by rw [← e2]; exact X'.warmed.alike) hp hb k1 k2 k3 T' rfl X'
    exact ⟨t2, st t2 a1, b1⟩
  · obtain ⟨k1, k2, k3⟩ := vx_keep h0 e1 hS hAX hf hL hF
    obtain ⟨t2, a1, b1⟩ := kx E ce q u t T'.heap (locs ++ L) e1.symm (by rw [← e2]; exact X'.warmed.alike) hp hb k1 k2 k3 (by rw [e1]; exact hce) hcv hcl T' rfl X'
    exact ⟨t2, st.trans a1, b1⟩
/-- caught by the row x of this method's table; the rows ahead don't take it -/
theorem vx_catch {own name : String} {E : String} {ce : Cell} {q : Addr} (hown : s.vm.findClass own = some m.cls) (pre : List ExceptionTableEntry) (x : ExceptionTableEntry) (suf : List ExceptionTableEntry) (hsplit : c.exceptionTable.toList = pre ++ x :: suf)
    (hpass : ∀ z ∈ pre, covers z pc = false ∨ (z.catchType ≠ 0 ∧ ∃ nm : String, (Cond.classLink own z.catchType nm).before args s = true ∧ va_Nc E nm s)) (hx : covers x pc = true) (h0 : x.catchType ≠ 0)
    (hlink : (Cond.classLink own x.catchType name).before args s = true) (hcast : (Cond.castable E name).before args s = true) (hcell : H[q]? = some ce) (hv : ce.vm = .none) (hcl : s.vm.findClass E = some ce.cls)
    (kk : W p l e R s m args below meth c H locs cells slots Q (F0 m x.handlerPc ls [.ref q])) : vx_W p l e R s m args below meth c H locs cells slots Q (F0 m pc ls rest) q := by
  intro T hT X
  have hpl : e.platform.magicAccessors = ({} : Platform).magicAccessors := by rw [X.admits.platform]
  obtain ⟨c3, c4, hc3, hc4, hasg⟩ := Cond.castable_spec hcast
  cases Option.some.inj (hc3.symm.trans hcl)
  obtain ⟨c5, hc5, hcl5⟩ := Cond.classLink_spec hown hlink e.platform hpl
  cases Option.some.inj (hc4.symm.trans hc5)
  obtain ⟨vm', X', st⟩ := Stand.thenCaughtThrough X q (g := F0 m pc ls rest) rfl (Steps.refl _) (by rw [hT]; exact hcell) (by rw [hv]; rfl) (by obtain ⟨k9, h9, -⟩ := Vm.findClass_spec hcl; exact ⟨k9, h9⟩) pre x suf hsplit
    (fun z hz => by
      rcases hpass z hz with h | ⟨hz0, nm, hl1, hn1⟩
      · exact Or.inl h
      · obtain ⟨c6, hc6, hcl6⟩ := Cond.classLink_spec hown hl1 e.platform hpl
        obtain ⟨a8, b8, h1, h2, h3⟩ := hn1
        cases Option.some.inj (h1.symm.trans hcl)
        cases Option.some.inj (h2.symm.trans hc6)
        exact Or.inr ⟨hz0, _, hcl6, h3⟩) hx (Or.inr ⟨h0, c4, hcl5, hasg⟩)
  obtain ⟨t, a1, b1⟩ := kk (T.setVm vm') hT X'
  exact ⟨t, st.trans a1, b1⟩
end Rows
section Ends
variable {p : Program} {l : Launch} {e : Env} {R : Room} {s : State} {m : MethodId} {args : Array Value} {below : List Frame} {meth : Method} {c : Code} {H : Heap} {locs : List Loc} {cells slots : Nat} {Q : State → Prop}
variable {mc ms : Nat} {free : Addr → Prop} {A0 A1 : Nat → Prop} {H0 : Heap} {a : Array Value} {ls : Array Slot} {st0 rest : List Value}
variable {Qc : Array Value → State → Outcome → State → Prop} {XC : String → State → State → Prop}
/-- what a body that may throw owes at its end -/
def vx_MQ (below : List Frame) (Qc : Array Value → State → Outcome → State → Prop) (XC : String → State → State → Prop) (a : Array Value) (s : State) (mc ms : Nat) (free : Addr → Prop) : State → Prop := fun t =>
  ∃ o, t.status = .running ∧ Ended t below o ∧ vx_Q Qc XC mc ms free a s o t
theorem vx_ret {g : JFrame} {mc ms : Nat} (k : W p l e R s m args below meth c H locs cells slots (MQ below Qc args s mc ms free) g) : W p l e R s m args below meth c H locs cells slots (vx_MQ below Qc XC args s mc ms free) g := by
  intro T hT X
  obtain ⟨t, a1, o, b1, b2, b3, b4⟩ := k T hT X
  exact ⟨t, a1, o, b1, b2, Or.inl ⟨b3, b4⟩⟩
/-- not caught here: it goes on to the caller -/
theorem vx_widen {g : JFrame} {q : Addr} {k n : Nat} (h1 : cells ≤ k) (h2 : slots ≤ n) (kk : vx_W p l e R s m args below meth c H locs k n Q g q) : vx_W p l e R s m args below meth c H locs cells slots Q g q := fun T hT X => kk T hT (stand_widen X h1 h2)
theorem vx_out {pc : Nat} {E : String} {ce : Cell} {q : Addr} {mc ms : Nat} (hout : ∀ x ∈ c.exceptionTable.toList, covers x pc = false) (hlocks : meth.locks = false) (hcell : H[q]? = some ce) (hv : ce.vm = .none) (hcl : s.vm.findClass E = some ce.cls)
    (hx : ∀ t : State, t.heap = H → s.vm.Alike t.vm → XC E s t) (hf : ∀ z ∈ locs, free z.base) (hc : cells ≤ mc) (hs : slots ≤ ms) :
    vx_W p l e R s m args below meth c H locs cells slots (vx_MQ below Qc XC args s mc ms free) (F0 m pc ls rest) q := by
  intro T hT X
  obtain ⟨st1, hrun, hend, hW, hsm⟩ := X.leaveThrown q (g := F0 m pc ls rest) rfl rfl rfl hout hlocks
  have hcell9 : (T.setFrames (.throwing q :: below)).heap[q]? = some ce := by
    show T.heap[q]? = some ce
    rw [hT]; exact hcell
  exact ⟨_, st1, .threw q, hrun, hend, Or.inr ⟨q, rfl, E, ce, locs, hx _ hT hW.alike, hcell9, hv, hcl, hW, hsm.mono hc hs, hf⟩⟩
theorem vx_frame {U : State} {k n : Nat} (h : s.sameButNew ({ U with vm := s.vm } : State) locs k n) : s.heap.size ≤ U.heap.size ∧ ∀ q : Nat, q < s.heap.size → (∀ z ∈ locs, z.base ≠ q) → U.heap[q]? = s.heap[q]? := by
  obtain ⟨-, h2, -, -, -, h6⟩ := h
  refine ⟨h2, fun q hq hz => ?_⟩
  obtain ⟨c9, e1, e2, e3, e4⟩ := h6 q _ (Array.getElem?_eq_getElem hq)
  have hs : c9.slots = (s.heap[q]).slots := Array.ext_getElem? fun i => e4 i fun hm => hz _ hm rfl
  have h9 : c9 = s.heap[q] := by
    rw [hs] at e2
    exact e2
  have e5 : U.heap[q]? = some c9 := e1
  rw [e5, h9, Array.getElem?_eq_getElem hq]
/-- the words of a throw but the four that speak of the heap -/
def vx_no (w : Cond) : Bool := decide (w ≠ .isRef (.static Bundle.tN "UNASSIGNED_STACK" Bundle.steD)) && decide (w ≠ .isRef (.static Bundle.tN "SUPPRESSED_SENTINEL" Bundle.listD)) && decide (w ≠ .laysStatic Bundle.tN "UNASSIGNED_STACK" Bundle.steD) && decide (w ≠ .laysStatic Bundle.tN "SUPPRESSED_SENTINEL" Bundle.listD)
def vx_at0 (own : String) (ic : Nat) (X : String) (names : List String) : List Cond := (Bundle.ownAtoms0 own ic X names).filter vx_no
def vx_atS (own : String) (ic : Nat) (X : String) (names : List String) : List Cond := (Bundle.ownAtoms own ic X names).filter vx_no
/-- a word that the tables alone decide, or a good one -/
def vx_ot (w : Cond) : Bool := w.onTables || goodWord w
theorem vx_ot_at {args a' : Array Value} {s U : State} {w : Cond} (hW : s.WarmedH U.vm) (hvm : s.vm = U.vm) (hg : vx_ot w = true) (h : w.before args s = true) : w.before a' U = true := by
  simp only [vx_ot, Bool.or_eq_true] at hg
  rcases hg with hg | hg
  · exact va_tabs hg hvm h
  · exact word_at hW (good_of_word hg) h
/-- a list's words: the good ones out of the method's own list, the others by premises of their own -/
theorem vx_hat {args : Array Value} {s : State} {L B : List Cond} (h1 : ∀ w ∈ L.filter goodWord, w.before args s = true) (h2 : ∀ w ∈ L.filter (fun w => !goodWord w), w ∈ B) (h3 : ∀ w ∈ B, w.before args s = true) : ∀ w ∈ L, w.before args s = true := by
  intro w hw
  by_cases g : goodWord w = true
  · exact h1 w (List.mem_filter.mpr ⟨hw, g⟩)
  · refine h3 w (h2 w (List.mem_filter.mpr ⟨hw, ?_⟩))
    show (!goodWord w) = true
    cases hgw : goodWord w
    · rfl
    · exact absurd hgw g
theorem vx_c {args : Array Value} {s : State} {w : Cond} {B : List Cond} (h : w.before args s = true) (t : ∀ w ∈ B, w.before args s = true) : ∀ w' ∈ w :: B, w'.before args s = true := fun w' h' => (List.mem_cons.mp h').elim (fun e => by rw [e]; exact h) (t w')
theorem vx_n {args : Array Value} {s : State} : ∀ w ∈ ([] : List Cond), w.before args s = true := fun _ h => nomatch h
theorem vx_own {args : Array Value} {s : State} {L : List Cond} (h1 : ∀ w ∈ L.filter vx_no, w.before args s = true)
    (hU : (Cond.isRef (.static Bundle.tN "UNASSIGNED_STACK" Bundle.steD)).before args s = true) (hN : (Cond.isRef (.static Bundle.tN "SUPPRESSED_SENTINEL" Bundle.listD)).before args s = true)
    (lU : (Cond.laysStatic Bundle.tN "UNASSIGNED_STACK" Bundle.steD).before args s = true) (lN : (Cond.laysStatic Bundle.tN "SUPPRESSED_SENTINEL" Bundle.listD).before args s = true) : ∀ w ∈ L, w.before args s = true := by
  intro w hw
  by_cases e1 : w = .isRef (.static Bundle.tN "UNASSIGNED_STACK" Bundle.steD)
  · rw [e1]; exact hU
  · by_cases e2 : w = .isRef (.static Bundle.tN "SUPPRESSED_SENTINEL" Bundle.listD)
    · rw [e2]; exact hN
    · by_cases e3 : w = .laysStatic Bundle.tN "UNASSIGNED_STACK" Bundle.steD
      · rw [e3]; exact lU
      · by_cases e4 : w = .laysStatic Bundle.tN "SUPPRESSED_SENTINEL" Bundle.listD
        · rw [e4]; exact lN
        · exact h1 w (List.mem_filter.mpr ⟨hw, by unfold vx_no; rw [decide_eq_true e1, decide_eq_true e2, decide_eq_true e3, decide_eq_true e4]; rfl⟩)
/-- where a static field lies, its class's statics cell in H -/
def vx_L (C n d : String) (A : Nat → Prop) (U : State) (H : Heap) : Prop := ∃ (c : ClassId) (k : Class) (i : Nat) (f : Field) (a : Nat) (cell : Cell), U.vm.findClass C = some c ∧ U.fieldFound? C n d = some (c, k, i, f) ∧ f.isStatic = true ∧ k.statics = some a ∧ H[a]? = some cell ∧ cell.vm.isStatics = true ∧ cell.cls = c ∧ f.slot < cell.slots.size ∧ k.staticTypes[f.slot]? = some f.type ∧ ¬ A a
theorem vx_L.moved {C n d : String} {A : Nat → Prop} {u U : State} {H : Heap} (hvm : u.vm.Alike U.vm) (h : vx_L C n d A u H) : vx_L C n d A U H := by
  obtain ⟨c, k, i, f, a, cell, h1, h2, h3, h4, h5, h6, h7, h8, h9, h10⟩ := h
  obtain ⟨k', hi', he⟩ := State.fieldFound?_setVm hvm h2
  exact ⟨c, k', i, f, a, cell, by rw [hvm.findClass]; exact h1, hi', h3, by rw [he]; exact h4, h5, h6, h7, h8, by rw [he]; exact h9, h10⟩
theorem vx_L.kept {C n d : String} {A : Nat → Prop} {U : State} {H H1 : Heap} (h : vx_L C n d A U H) (hq : ∀ a : Nat, a < H.size → ¬ A a → H1[a]? = H[a]?) : vx_L C n d A U H1 := by
  obtain ⟨c, k, i, f, a, cell, h1, h2, h3, h4, h5, h6, h7, h8, h9, h10⟩ := h
  exact ⟨c, k, i, f, a, cell, h1, h2, h3, h4, by rw [hq a (Array.getElem?_eq_some_iff.mp h5).1 h10]; exact h5, h6, h7, h8, h9, h10⟩
theorem vx_L.narrow {C n d : String} {A B : Nat → Prop} {U : State} {H : Heap} (h : vx_L C n d A U H) (hAB : ∀ q, B q → A q) : vx_L C n d B U H := by
  obtain ⟨c, k, i, f, a, cell, h1, h2, h3, h4, h5, h6, h7, h8, h9, h10⟩ := h
  exact ⟨c, k, i, f, a, cell, h1, h2, h3, h4, h5, h6, h7, h8, h9, fun z => h10 (hAB _ z)⟩
theorem vx_L.word {C n d : String} {A : Nat → Prop} {s : State} {args : Array Value} (h : vx_L C n d A s s.heap) : (Cond.laysStatic C n d).before args s = true := by
  obtain ⟨c, k, i, f, a, cell, h1, h2, h3, h4, h5, h6, h7, h8, h9, -⟩ := h
  show (Cond.laysStatic C n d).holds args s none s [] = true
  exact Cond.laysStatic_of h1 h2 h3 h4 h5 h6 h7 h8 h9
/-- .. and what it holds: null or some reference -/
def vx_Zq (C n d : String) (A : Nat → Prop) (U : State) (H : Heap) : Prop := va_Zq C n d A U H ∧ vx_L C n d A U H
theorem vx_Zq.moved {C n d : String} {A : Nat → Prop} {u U : State} {H : Heap} (hvm : u.vm.Alike U.vm) (h : vx_Zq C n d A u H) : vx_Zq C n d A U H := ⟨va_Zq.moved hvm h.1, vx_L.moved hvm h.2⟩
theorem vx_Zq.kept {C n d : String} {A : Nat → Prop} {U : State} {H H1 : Heap} (h : vx_Zq C n d A U H) (hq : ∀ a : Nat, a < H.size → ¬ A a → H1[a]? = H[a]?) : vx_Zq C n d A U H1 := ⟨va_Zq.kept h.1 hq, vx_L.kept h.2 hq⟩
theorem vx_Zq.narrow {C n d : String} {A B : Nat → Prop} {U : State} {H : Heap} (h : vx_Zq C n d A U H) (hAB : ∀ q, B q → A q) : vx_Zq C n d B U H := ⟨va_Zq.narrow h.1 hAB, vx_L.narrow h.2 hAB⟩
theorem vx_Zqof {args : Array Value} {s : State} {C n d : String} {A : Nat → Prop} (hl : (Cond.laysStatic C n d).before args s = true) (hini : (Cond.initialized C).before args s = true) (h : (Cond.isRef (.static C n d)).before args s = true) (hA : ∀ a : Nat, a < s.heap.size → ¬ A a) : vx_Zq C n d A s s.heap := by
  refine ⟨va_Zqof hl hini h hA, ?_⟩
  obtain ⟨c, k, i, f, a, cell, h1, h2, h3, h4, h5, h6, h7, h8, h9⟩ := Cond.laysStatic_spec hl
  exact ⟨c, k, i, f, a, cell, h1, h2, h3, h4, h5, h6, h7, h8, h9, hA a (Array.getElem?_eq_some_iff.mp h5).1⟩
theorem vx_isRef {C n d : String} {v : Value} {A : Nat → Prop} {s : State} {args : Array Value} (h : va_Z C n d v A s s.heap) (hv : v.isRef = true) : (Cond.isRef (.static C n d)).before args s = true := by
  obtain ⟨cf, kf, fi, f, a, cell, h1, h2, h3, h4, h5, h6, h7, -⟩ := h
  have he : (Term.static C n d).eval args s none [] s = some v := by
    simp [Term.eval, State.fieldNamed?, h1, h2, h4, h5, h6, h7]
  simp only [Cond.before, Cond.holds, Cond.value, he]
  cases v <;> simp_all [Value.isRef]
theorem vx_isRefq {C n d : String} {A : Nat → Prop} {s : State} {args : Array Value} (h : va_Zq C n d A s s.heap) : (Cond.isRef (.static C n d)).before args s = true := by
  rcases h with h | ⟨t, h⟩
  · exact vx_isRef h rfl
  · exact vx_isRef h rfl
/-- the same frame, seen from here: as if the method were called anew in this heap -/
theorem vx_rebase {T : State} (X : Stand p l e R s m args below meth c T locs cells slots) {R' : Room} (hf : R'.frames ≤ R.frames) (hl : R'.locals ≤ R.locals) (hc : cells + R'.cells ≤ R.cells) (hs : slots + R'.slots ≤ R.slots) :
    Stand p l e R' ((T.setVm s.vm).setFrames (.invoking m args :: below)) m args below meth c T [] 0 0 := by
  have htop : (T.setVm s.vm).topJava?.isSome := X.here.top
  have hF : ((T.setVm s.vm).setFrames (.invoking m args :: below)).frames = .invoking m args :: below := State.frames_setFrames _ (State.cur_lt_of_top htop)
  obtain ⟨g₀, hg0⟩ := Option.isSome_iff_exists.mp htop
  obtain ⟨r, hr⟩ := State.topJava?_eq_some.mp hg0
  have hl9 : e.platform.stackLimits (T.setVm s.vm).me = e.platform.stackLimits s.me := X.limits
  have hb9 : (T.setVm s.vm).me.stackBytes = s.me.stackBytes := X.bytes
  refine ⟨X.admits, X.cas, X.clock, hF, ?_, X.hears, X.method, X.code, X.here, X.tail, X.warmed, ?_, ?_, ?_⟩
  · have h := X.room
    have hU : ((T.setVm s.vm).setFrames (.invoking m args :: below)).localsInUse = s.localsInUse := by
      rw [State.localsInUse_invoking hF (meth := meth) (c := c) X.method X.code, State.localsInUse_invoking X.frames X.method X.code]
    simp only [State.hasRoom, Bool.and_eq_true, decide_eq_true_eq] at h ⊢
    obtain ⟨⟨⟨⟨h1, h2, h3, h4, h5, h6⟩, h7⟩, h8⟩, h9⟩ := h
    rw [X.frames, List.length_cons] at h2 h3
    have q1 := X.heapSize
    have q2 := X.used
    simp only [hF, hU, List.length_cons, State.stackLimits_setFrames, State.stackBytes_setFrames, hl9, hb9]
    refine ⟨⟨⟨⟨by omega, by omega, by omega, by omega, by omega, h6⟩, ?_⟩, ?_⟩, X.book⟩
    · show T.heap.size + R'.cells ≤ e.platform.maxCells
      omega
    · show T.slotsUsed + R'.slots ≤ e.platform.maxSlots
      omega
  · rw [State.stackLimits_setFrames]; rfl
  · rw [State.stackBytes_setFrames]; rfl
  · refine ⟨?_, Nat.le_refl _, Nat.le_refl _, ?_, ?_, fun a c9 h9 => ⟨c9, h9, rfl, rfl, fun _ _ => rfl⟩⟩
    · obtain ⟨t, ht, -⟩ := State.frames_cons hr
      show T.setVm s.vm = { ((T.setVm s.vm).setFrames (.invoking m args :: below)).setFrames (T.setVm s.vm).frames with heap := T.heap, slotsUsed := T.slotsUsed }
      rw [State.setFrames_setFrames, State.setFrames_self ht]
      rfl
    · show T.slotsUsed = T.slotsUsed + ((T.heap.toList.drop T.heap.size).map (·.slots.size)).sum
      rw [List.drop_eq_nil_of_le (Nat.le_of_eq Array.length_toList)]
      rfl
    · show ((T.heap.toList.drop T.heap.size).map (·.slots.size)).sum ≤ 0
      rw [List.drop_eq_nil_of_le (Nat.le_of_eq Array.length_toList)]
      exact Nat.le_refl _
/-- 'throw new E()': new; dup; invokespecial; athrow -/
theorem vx_throw0 {cc : ByteArray} {pc : Nat} (hexec : p.tables.exec = Jvm.exec) (hb : c.code = cc) (hl : l.stackTraces = false) {own cls : String} {names : List String} {ik ic mc ms : Nat} {A : Nat → Prop}
    (hown : s.vm.findClass own = some m.cls) (hcls : Bundle.fit cls = true) (hnames : ∀ n ∈ names, Bundle.fit n = true)
    (hk : (Cond.classLink own ik cls).before args s = true) (hini : (Cond.initialized cls).before args s = true) (hat : ∀ w ∈ vx_at0 own ic cls names, w.before args s = true)
    (hgood : ∀ w ∈ Cond.classLink own ik cls :: Cond.initialized cls :: vx_at0 own ic cls names, vx_ot w = true)
    (hU : vx_Zq Bundle.tN "UNASSIGNED_STACK" Bundle.steD A s s.heap) (hN : vx_Zq Bundle.tN "SUPPRESSED_SENTINEL" Bundle.listD A s s.heap) (hS : va_S A s.heap H locs) (hsize : ls.size = c.maxLocals)
    (d0 : decode cc pc = .ok (.new ik, 3)) (d3 : decode cc (pc + 3) = .ok (.dup, 1)) (d4 : decode cc (pc + 4) = .ok (.invokespecial ic, 3)) (d7 : decode cc (pc + 7) = .ok (.athrow, 1))
    (hout : ∀ x ∈ c.exceptionTable.toList, covers x (pc + 7) = false)
    (hRframes : names.length + 3 < R.frames) (hRlocals : (rest.map fun v => v.category).sum + (13 * (names.length + 1) + 42) ≤ R.locals) (hRcells : cells + 1 ≤ R.cells) (hRslots : slots + 6 ≤ R.slots) (hlocks : meth.locks = false)
    (hx : ∀ t : State, s.vm.Alike t.vm → H.size ≤ t.heap.size → (∀ q : Nat, q < H.size → t.heap[q]? = H[q]?) → XC cls s t)
    (hf : ∀ z ∈ locs, free z.base) (hc : cells + 1 ≤ mc) (hs : slots + 6 ≤ ms) :
    W p l e R s m args below meth c H locs cells slots (vx_MQ below Qc XC args s mc ms free) (F0 m pc ls rest) := by
  intro T hT X
  have htr : e.platform.stackTraces = false := (show e.platform.stackTraces = l.stackTraces by rw [X.admits.platform]).trans hl
  have Y := vx_rebase X (R' := { frames := R.frames, locals := R.locals, cells := 1, slots := 6 }) (Nat.le_refl _) (Nat.le_refl _) hRcells hRslots
  obtain ⟨s', hA⟩ : ∃ z, z = (T.setVm s.vm).setFrames (.invoking m args :: below) := ⟨_, rfl⟩
  rw [← hA] at Y
  have hvm : s'.vm = s.vm := by rw [hA]; rfl
  have hhp : s'.heap = H := by rw [hA]; exact hT
  have hW0 : s.WarmedH s'.vm := by rw [hvm]; exact State.WarmedH.refl s
  have hat' : ∀ w ∈ vx_at0 own ic cls names, w.before args s' = true := fun w hw => vx_ot_at hW0 hvm.symm (hgood w (List.mem_cons_of_mem _ (List.mem_cons_of_mem _ hw))) (hat w hw)
  have hk' : (Cond.classLink own ik cls).before args s' = true := vx_ot_at hW0 hvm.symm (hgood _ List.mem_cons_self) hk
  have hini' : (Cond.initialized cls).before args s' = true := vx_ot_at hW0 hvm.symm (hgood _ (List.mem_cons_of_mem _ List.mem_cons_self)) hini
  have hU' : vx_Zq Bundle.tN "UNASSIGNED_STACK" Bundle.steD A s' s'.heap := by rw [hhp]; exact vx_Zq.moved hW0.alike (hU.kept hS.2.1)
  have hN' : vx_Zq Bundle.tN "SUPPRESSED_SENTINEL" Bundle.listD A s' s'.heap := by rw [hhp]; exact vx_Zq.moved hW0.alike (hN.kept hS.2.1)
  have h : ∀ w ∈ Bundle.ownAtoms0 own ic cls names, w.before args s' = true := vx_own hat' (vx_isRefq hU'.1) (vx_isRefq hN'.1) hU'.2.word hN'.2.word
  have hown' : s'.vm.findClass own = some m.cls := by rw [hvm]; exact hown
  have hins : (Cond.instantiable cls 6).before args s' = true := h _ (by simp [Bundle.ownAtoms0])
  obtain ⟨vm₁, cX, kX, hfX, hkX, -, -, X₁, st1⟩ := Y.newCold hexec (own := own) (C := cls) (index := ik) (n := 6) hown' hk' hins hini'
    (g := F0 m pc ls rest) rfl (by rw [hb]; exact d0) (Nat.le_refl _) (Nat.le_refl _)
  generalize hT1 : (T.setVm vm₁).pushCell { cls := cX, slots := kX.instanceTypes.map defaultValue, vm := .none } = T1 at X₁ st1
  have hcat : (Value.ref T.heap.size).category = 1 := rfl
  have hcellA : T1.heap[T.heap.size]? = some (freshCell cX kX) := by rw [← hT1]; exact State.heap_pushCell_size _ _
  have d3' : decode c.code (pc + 3) = .ok (.dup, 1) := by rw [hb]; exact d3
  obtain ⟨U, hsteps, hrun, hend, hW, hsame, ce, hce, hO⟩ := X₁.ctorThrow0 hexec htr (own := own) (cls := cls) (names := names) (ic := ic) hown' hcls hnames h (fun x hx => nomatch hx) hfX hkX hcellA (by rw [hhp, hT]; exact Nat.le_refl _)
    (g := { method := m, pc := pc + 4, locals := ls, stack := .ref T.heap.size :: .ref T.heap.size :: rest, locked := none }) rfl hsize rfl rfl (rest := rest) rfl
    (by rw [hb]; exact d4) (by rw [hb]; exact d7) hout hRframes (by simp only [List.map_cons, List.sum_cons, hcat]; omega) hlocks
  obtain ⟨f1, f2⟩ := vx_frame hsame
  rw [hhp] at f1 f2
  have hWs : s.WarmedH U.vm := State.WarmedH.trans hW0 hW
  have hcl : s.vm.findClass cls = some ce.cls := by
    have h9 := hO.cls
    rw [hvm] at h9
    exact h9
  have hall : s.sameButNew ({ U with vm := s.vm } : State) locs mc ms := by
    subst hA
    obtain ⟨e1, e2⟩ := hsame
    rw [State.setFrames_setFrames] at e1
    have h2 : (T.setVm s.vm).sameButNew ({ U with vm := s.vm } : State) [] (0 + 1) (0 + 6) := ⟨e1, e2⟩
    have h3 := X.same.trans h2
    rw [List.append_nil] at h3
    exact h3.mono hc hs
  refine ⟨U, ?_, .threw T.heap.size, hrun, hend, Or.inr ⟨T.heap.size, rfl, cls, ce, locs, hx U hWs.alike f1 (fun q hq => f2 q hq (fun z hz => nomatch hz)), hce, hO.vm, hcl, hWs, hall, hf⟩⟩
  refine st1 _ ?_
  show Steps p.tables e below (T1.setTop { method := m, pc := pc + 3, locals := ls, stack := .ref T.heap.size :: rest, locked := none }) _
  jvm_step X₁.here [X₁.here.top, hexec, d3', Value.category]
  exact hsteps
/-- 'throw new E("text")': new; dup; ldc; invokespecial; athrow -/
theorem vx_throwS {cc : ByteArray} {pc : Nat} (hexec : p.tables.exec = Jvm.exec) (hb : c.code = cc) (hl : l.stackTraces = false) {own cls text : String} {names : List String} {ik is ic mc ms sa : Nat} {A : Nat → Prop}
    (hown : s.vm.findClass own = some m.cls) (hcls : Bundle.fit cls = true) (hnames : ∀ n ∈ names, Bundle.fit n = true)
    (hk : (Cond.classLink own ik cls).before args s = true) (hini : (Cond.initialized cls).before args s = true) (hstr : vk_R own is text sa s) (hat : ∀ w ∈ vx_atS own ic cls names, w.before args s = true)
    (hgood : ∀ w ∈ Cond.classLink own ik cls :: Cond.initialized cls :: vx_atS own ic cls names, vx_ot w = true)
    (hU : vx_Zq Bundle.tN "UNASSIGNED_STACK" Bundle.steD A s s.heap) (hN : vx_Zq Bundle.tN "SUPPRESSED_SENTINEL" Bundle.listD A s s.heap) (hS : va_S A s.heap H locs) (hsize : ls.size = c.maxLocals)
    (d0 : decode cc pc = .ok (.new ik, 3)) (d3 : decode cc (pc + 3) = .ok (.dup, 1)) (d4 : decode cc (pc + 4) = .ok (.ldc is, 2)) (d6 : decode cc (pc + 6) = .ok (.invokespecial ic, 3)) (d9 : decode cc (pc + 9) = .ok (.athrow, 1))
    (hout : ∀ x ∈ c.exceptionTable.toList, covers x (pc + 9) = false)
    (hRframes : names.length + 3 < R.frames) (hRlocals : (rest.map fun v => v.category).sum + (13 * (names.length + 1) + 43) ≤ R.locals) (hRcells : cells + 1 ≤ R.cells) (hRslots : slots + 6 ≤ R.slots) (hlocks : meth.locks = false)
    (hx : ∀ t : State, s.vm.Alike t.vm → H.size ≤ t.heap.size → (∀ q : Nat, q < H.size → t.heap[q]? = H[q]?) → XC cls s t)
    (hf : ∀ z ∈ locs, free z.base) (hc : cells + 1 ≤ mc) (hs : slots + 6 ≤ ms) :
    W p l e R s m args below meth c H locs cells slots (vx_MQ below Qc XC args s mc ms free) (F0 m pc ls rest) := by
  intro T hT X
  have htr : e.platform.stackTraces = false := (show e.platform.stackTraces = l.stackTraces by rw [X.admits.platform]).trans hl
  have Y := vx_rebase X (R' := { frames := R.frames, locals := R.locals, cells := 1, slots := 6 }) (Nat.le_refl _) (Nat.le_refl _) hRcells hRslots
  obtain ⟨s', hA⟩ : ∃ z, z = (T.setVm s.vm).setFrames (.invoking m args :: below) := ⟨_, rfl⟩
  rw [← hA] at Y
  have hvm : s'.vm = s.vm := by rw [hA]; rfl
  have hhp : s'.heap = H := by rw [hA]; exact hT
  have hW0 : s.WarmedH s'.vm := by rw [hvm]; exact State.WarmedH.refl s
  have hat' : ∀ w ∈ vx_atS own ic cls names, w.before args s' = true := fun w hw => vx_ot_at hW0 hvm.symm (hgood w (List.mem_cons_of_mem _ (List.mem_cons_of_mem _ hw))) (hat w hw)
  have hk' : (Cond.classLink own ik cls).before args s' = true := vx_ot_at hW0 hvm.symm (hgood _ List.mem_cons_self) hk
  have hini' : (Cond.initialized cls).before args s' = true := vx_ot_at hW0 hvm.symm (hgood _ (List.mem_cons_of_mem _ List.mem_cons_self)) hini
  have hU' : vx_Zq Bundle.tN "UNASSIGNED_STACK" Bundle.steD A s' s'.heap := by rw [hhp]; exact vx_Zq.moved hW0.alike (hU.kept hS.2.1)
  have hN' : vx_Zq Bundle.tN "SUPPRESSED_SENTINEL" Bundle.listD A s' s'.heap := by rw [hhp]; exact vx_Zq.moved hW0.alike (hN.kept hS.2.1)
  have h : ∀ w ∈ Bundle.ownAtoms own ic cls names, w.before args s' = true := vx_own hat' (vx_isRefq hU'.1) (vx_isRefq hN'.1) hU'.2.word hN'.2.word
  have hown' : s'.vm.findClass own = some m.cls := by rw [hvm]; exact hown
  have hins : (Cond.instantiable cls 6).before args s' = true := h _ (by simp [Bundle.ownAtoms])
  obtain ⟨vm₁, cX, kX, hfX, hkX, -, -, X₁, st1⟩ := Y.newCold hexec (own := own) (C := cls) (index := ik) (n := 6) hown' hk' hins hini'
    (g := F0 m pc ls rest) rfl (by rw [hb]; exact d0) (Nat.le_refl _) (Nat.le_refl _)
  generalize hT1 : (T.setVm vm₁).pushCell { cls := cX, slots := kX.instanceTypes.map defaultValue, vm := .none } = T1 at X₁ st1
  have hcat : (Value.ref T.heap.size).category = 1 := rfl
  have hcellA : T1.heap[T.heap.size]? = some (freshCell cX kX) := by rw [← hT1]; exact State.heap_pushCell_size _ _
  have d3' : decode c.code (pc + 3) = .ok (.dup, 1) := by rw [hb]; exact d3
  have d4' : decode c.code (pc + 4) = .ok (.ldc is, 2) := by rw [hb]; exact d4
  have hstr' : vk_R own is text sa s' := vk_R.warm hW0 hstr
  obtain ⟨U, hsteps, hrun, hend, hW, hsame, ce, hce, hO⟩ := X₁.ctorThrowS hexec htr (own := own) (cls := cls) (names := names) (ic := ic) hown' hcls hnames h (fun x hx => nomatch hx) hfX hkX hcellA (by rw [hhp, hT]; exact Nat.le_refl _) (msg := .ref sa) rfl
    (g := { method := m, pc := pc + 6, locals := ls, stack := .ref sa :: .ref T.heap.size :: .ref T.heap.size :: rest, locked := none }) rfl hsize rfl rfl (rest := rest) rfl
    (by rw [hb]; exact d6) (by rw [hb]; exact d9) hout hRframes (by simp only [List.map_cons, List.sum_cons, hcat]; omega) hlocks
  obtain ⟨f1, f2⟩ := vx_frame hsame
  rw [hhp] at f1 f2
  have hWs : s.WarmedH U.vm := State.WarmedH.trans hW0 hW
  have hcl : s.vm.findClass cls = some ce.cls := by
    have h9 := hO.cls
    rw [hvm] at h9
    exact h9
  have hall : s.sameButNew ({ U with vm := s.vm } : State) locs mc ms := by
    subst hA
    obtain ⟨e1, e2⟩ := hsame
    rw [State.setFrames_setFrames] at e1
    have h2 : (T.setVm s.vm).sameButNew ({ U with vm := s.vm } : State) [] (0 + 1) (0 + 6) := ⟨e1, e2⟩
    have h3 := X.same.trans h2
    rw [List.append_nil] at h3
    exact h3.mono hc hs
  refine ⟨U, ?_, .threw T.heap.size, hrun, hend, Or.inr ⟨T.heap.size, rfl, cls, ce, locs, hx U hWs.alike f1 (fun q hq => f2 q hq (fun z hz => nomatch hz)), hce, hO.vm, hcl, hWs, hall, hf⟩⟩
  refine st1 _ ?_
  show Steps p.tables e below (T1.setTop { method := m, pc := pc + 3, locals := ls, stack := .ref T.heap.size :: rest, locked := none }) _
  jvm_step X₁.here [X₁.here.top, hexec, d3', Value.category]
  exact X₁.ldcString hexec (own := own) (text := text) (index := is) (a := sa) hown' hstr'.1 hstr'.2
    (g := { method := m, pc := pc + 4, locals := ls, stack := .ref T.heap.size :: .ref T.heap.size :: rest, locked := none }) rfl d4' _ hsteps
/-- 'throw new E("text")', the text by a wide index -/
theorem vx_throwSW {cc : ByteArray} {pc : Nat} (hexec : p.tables.exec = Jvm.exec) (hb : c.code = cc) (hl : l.stackTraces = false) {own cls text : String} {names : List String} {ik is ic mc ms sa : Nat} {A : Nat → Prop}
    (hown : s.vm.findClass own = some m.cls) (hcls : Bundle.fit cls = true) (hnames : ∀ n ∈ names, Bundle.fit n = true)
    (hk : (Cond.classLink own ik cls).before args s = true) (hini : (Cond.initialized cls).before args s = true) (hstr : vk_R own is text sa s) (hat : ∀ w ∈ vx_atS own ic cls names, w.before args s = true)
    (hgood : ∀ w ∈ Cond.classLink own ik cls :: Cond.initialized cls :: vx_atS own ic cls names, vx_ot w = true)
    (hU : vx_Zq Bundle.tN "UNASSIGNED_STACK" Bundle.steD A s s.heap) (hN : vx_Zq Bundle.tN "SUPPRESSED_SENTINEL" Bundle.listD A s s.heap) (hS : va_S A s.heap H locs) (hsize : ls.size = c.maxLocals)
    (d0 : decode cc pc = .ok (.new ik, 3)) (d3 : decode cc (pc + 3) = .ok (.dup, 1)) (d4 : decode cc (pc + 4) = .ok (.ldc_w is, 3)) (d7 : decode cc (pc + 7) = .ok (.invokespecial ic, 3)) (d10 : decode cc (pc + 10) = .ok (.athrow, 1))
    (hout : ∀ x ∈ c.exceptionTable.toList, covers x (pc + 10) = false)
    (hRframes : names.length + 3 < R.frames) (hRlocals : (rest.map fun v => v.category).sum + (13 * (names.length + 1) + 43) ≤ R.locals) (hRcells : cells + 1 ≤ R.cells) (hRslots : slots + 6 ≤ R.slots) (hlocks : meth.locks = false)
    (hx : ∀ t : State, s.vm.Alike t.vm → H.size ≤ t.heap.size → (∀ q : Nat, q < H.size → t.heap[q]? = H[q]?) → XC cls s t)
    (hf : ∀ z ∈ locs, free z.base) (hc : cells + 1 ≤ mc) (hs : slots + 6 ≤ ms) :
    W p l e R s m args below meth c H locs cells slots (vx_MQ below Qc XC args s mc ms free) (F0 m pc ls rest) := by
  intro T hT X
  have htr : e.platform.stackTraces = false := (show e.platform.stackTraces = l.stackTraces by rw [X.admits.platform]).trans hl
  have Y := vx_rebase X (R' := { frames := R.frames, locals := R.locals, cells := 1, slots := 6 }) (Nat.le_refl _) (Nat.le_refl _) hRcells hRslots
  obtain ⟨s', hA⟩ : ∃ z, z = (T.setVm s.vm).setFrames (.invoking m args :: below) := ⟨_, rfl⟩
  rw [← hA] at Y
  have hvm : s'.vm = s.vm := by rw [hA]; rfl
  have hhp : s'.heap = H := by rw [hA]; exact hT
  have hW0 : s.WarmedH s'.vm := by rw [hvm]; exact State.WarmedH.refl s
  have hat' : ∀ w ∈ vx_atS own ic cls names, w.before args s' = true := fun w hw => vx_ot_at hW0 hvm.symm (hgood w (List.mem_cons_of_mem _ (List.mem_cons_of_mem _ hw))) (hat w hw)
  have hk' : (Cond.classLink own ik cls).before args s' = true := vx_ot_at hW0 hvm.symm (hgood _ List.mem_cons_self) hk
  have hini' : (Cond.initialized cls).before args s' = true := vx_ot_at hW0 hvm.symm (hgood _ (List.mem_cons_of_mem _ List.mem_cons_self)) hini
  have hU' : vx_Zq Bundle.tN "UNASSIGNED_STACK" Bundle.steD A s' s'.heap := by rw [hhp]; exact vx_Zq.moved hW0.alike (hU.kept hS.2.1)
  have hN' : vx_Zq Bundle.tN "SUPPRESSED_SENTINEL" Bundle.listD A s' s'.heap := by rw [hhp]; exact vx_Zq.moved hW0.alike (hN.kept hS.2.1)
  have h : ∀ w ∈ Bundle.ownAtoms own ic cls names, w.before args s' = true := vx_own hat' (vx_isRefq hU'.1) (vx_isRefq hN'.1) hU'.2.word hN'.2.word
  have hown' : s'.vm.findClass own = some m.cls := by rw [hvm]; exact hown
  have hins : (Cond.instantiable cls 6).before args s' = true := h _ (by simp [Bundle.ownAtoms])
  obtain ⟨vm₁, cX, kX, hfX, hkX, -, -, X₁, st1⟩ := Y.newCold hexec (own := own) (C := cls) (index := ik) (n := 6) hown' hk' hins hini'
    (g := F0 m pc ls rest) rfl (by rw [hb]; exact d0) (Nat.le_refl _) (Nat.le_refl _)
  generalize hT1 : (T.setVm vm₁).pushCell { cls := cX, slots := kX.instanceTypes.map defaultValue, vm := .none } = T1 at X₁ st1
  have hcat : (Value.ref T.heap.size).category = 1 := rfl
  have hcellA : T1.heap[T.heap.size]? = some (freshCell cX kX) := by rw [← hT1]; exact State.heap_pushCell_size _ _
  have d3' : decode c.code (pc + 3) = .ok (.dup, 1) := by rw [hb]; exact d3
  have d4' : decode c.code (pc + 4) = .ok (.ldc_w is, 3) := by rw [hb]; exact d4
  have hstr' : vk_R own is text sa s' := vk_R.warm hW0 hstr
  obtain ⟨U, hsteps, hrun, hend, hW, hsame, ce, hce, hO⟩ := X₁.ctorThrowS hexec htr (own := own) (cls := cls) (names := names) (ic := ic) hown' hcls hnames h (fun x hx => nomatch hx) hfX hkX hcellA (by rw [hhp, hT]; exact Nat.le_refl _) (msg := .ref sa) rfl
    (g := { method := m, pc := pc + 7, locals := ls, stack := .ref sa :: .ref T.heap.size :: .ref T.heap.size :: rest, locked := none }) rfl hsize rfl rfl (rest := rest) rfl
    (by rw [hb]; exact d7) (by rw [hb]; exact d10) hout hRframes (by simp only [List.map_cons, List.sum_cons, hcat]; omega) hlocks
  obtain ⟨f1, f2⟩ := vx_frame hsame
  rw [hhp] at f1 f2
  have hWs : s.WarmedH U.vm := State.WarmedH.trans hW0 hW
  have hcl : s.vm.findClass cls = some ce.cls := by
    have h9 := hO.cls
    rw [hvm] at h9
    exact h9
  have hall : s.sameButNew ({ U with vm := s.vm } : State) locs mc ms := by
    subst hA
    obtain ⟨e1, e2⟩ := hsame
    rw [State.setFrames_setFrames] at e1
    have h2 : (T.setVm s.vm).sameButNew ({ U with vm := s.vm } : State) [] (0 + 1) (0 + 6) := ⟨e1, e2⟩
    have h3 := X.same.trans h2
    rw [List.append_nil] at h3
    exact h3.mono hc hs
  refine ⟨U, ?_, .threw T.heap.size, hrun, hend, Or.inr ⟨T.heap.size, rfl, cls, ce, locs, hx U hWs.alike f1 (fun q hq => f2 q hq (fun z hz => nomatch hz)), hce, hO.vm, hcl, hWs, hall, hf⟩⟩
  refine st1 _ ?_
  show Steps p.tables e below (T1.setTop { method := m, pc := pc + 3, locals := ls, stack := .ref T.heap.size :: rest, locked := none }) _
  jvm_step X₁.here [X₁.here.top, hexec, d3', Value.category]
  exact X₁.ldcStringW hexec (own := own) (text := text) (index := is) (a := sa) hown' hstr'.1 hstr'.2
    (g := { method := m, pc := pc + 4, locals := ls, stack := .ref T.heap.size :: .ref T.heap.size :: rest, locked := none }) rfl d4' _ hsteps
end Ends
section Bodies
variable {l : Launch}
theorem vx_ofW {y : MethodName} {ws ws' : List Cond} {rm : Room} {Pc : Array Value → State → Prop} {Qc : Array Value → State → Outcome → State → Prop} {XC : String → State → State → Prop} {mc ms : Nat} {free : Addr → Prop} {cc : ByteArray} {maxL : Nat} {ret : Option FieldType}
    (hy : plainName y.cls = true) (hw : ws = Cond.code y cc maxL ret :: ws')
    (body : ∀ p e s m args below meth c s₁, BodyLoose p l y (headSpec ws rm) cc maxL ret e s m args below meth c s₁ → c.maxLocals = maxL → (∀ x ∈ c.exceptionTable.toList, False) → Pc args s →
      W p l e (headSpec ws rm).room s m args below meth c s.heap [] 0 0 (vx_MQ below Qc XC args s mc ms free) (entryFrame m args maxL)) : vx_Met l y ws rm Pc Qc XC mc ms free := by
  refine MetFree.of_bodyS (code := cc) (maxLocals := maxL) (ret := ret) hy ?_ ?_
  · intro args s m h hn
    obtain ⟨meth, c, h1, h2, h3, h4, h5, h6, -, -⟩ := Cond.code_spec hn (atoms_spec (ws := ws) h _ (by rw [hw]; exact List.mem_cons_self))
    exact ⟨meth, c, h1, h2, h3, h4, h5, h6⟩
  · intro p e s m args below meth c s₁ B hml hP _
    have hh0 : s₁.heap = s.heap := by rw [B.state]; rfl
    have ht : ∀ x ∈ c.exceptionTable.toList, False := by
      obtain ⟨meth9, c9, h1, h2, -, -, -, -, h7, -⟩ := Cond.code_spec B.named (atoms_spec (ws := ws) B.pre _ (by rw [hw]; exact List.mem_cons_self))
      cases Option.some.inj (h1.symm.trans B.method)
      cases Option.some.inj (h2.symm.trans (Stand.of_body B).code)
      intro x hx
      rw [Array.isEmpty_iff.mp h7] at hx
      cases hx
    obtain ⟨t, a1, o, b1, b2, b3⟩ := body p e s m args below meth c s₁ B hml ht hP s₁ hh0 (Stand.of_body B)
    exact ⟨t, o, a1, b1, b2, b3⟩
/-- the table of a body with handlers -/
theorem vx_table {p : Program} {x y : MethodName} {S : Spec} {cc bytes : ByteArray} {maxL maxL' : Nat} {ret ret' : Option FieldType} {e : Env} {s s₁ : State} {m : MethodId} {args : Array Value} {below : List Frame} {meth : Method} {c : Code} {hh : List (Nat × Nat × Nat × Nat)}
    (B : BodyLoose p l y S cc maxL ret e s m args below meth c s₁) (h : (Cond.codeWith y bytes maxL' ret' hh).before args s = true) : c.exceptionTable.toList = tableOf hh := by
  obtain ⟨m9, meth9, c9, hn9, h1, h2, -, -, h6, -⟩ := Cond.codeWith_spec h
  cases Option.some.inj (hn9.symm.trans B.named)
  cases Option.some.inj (h1.symm.trans B.method)
  cases Option.some.inj (h2.symm.trans (Stand.of_body B).code)
  rw [← h6, table_eq]
end Bodies
end VXA
/-! ===== END ===== -/
/-! ===== BEGIN a static call of a method with an exception table ===== -/
section VXS
variable {p : Program} {l : Launch} {e : Env} {R : Room} {s : State} {m : MethodId} {args : Array Value} {below : List Frame} {meth : Method} {c : Code} {T : State} {H : Heap} {locs : List Loc} {cells slots : Nat}
abbrev vx_CSW (R : Room) (s : State) (args : Array Value) (own : String) (index : Nat) (y : MethodName) (bytes : ByteArray) (maxL : Nat) (ret : Option FieldType) (hh : List (Nat × Nat × Nat × Nat)) (ws : List Cond) (rm : Room) (mc ms n : Nat) : Prop :=
  (rm.cells = mc ∧ rm.slots = ms ∧ rm.frames + 1 ≤ R.frames ∧ 8 + (maxL + 11) + rm.locals ≤ R.locals ∧ (∀ w ∈ ws, ∀ (a' : Array Value) (U : State), s.WarmedH U.vm → w.before a' U = true) ∧ Cond.codeWith y bytes maxL ret hh ∈ ws) ∧
  (Cond.codeWith y bytes maxL ret hh).before args s = true ∧ (Cond.initialized y.cls).before args s = true ∧ (y.cls ≠ "java/lang/invoke/MethodHandle" ∧ y.cls ≠ "java/lang/invoke/VarHandle") ∧
  (∀ sig, parseMethodDescriptor y.desc = some sig → n = sig.parameters.length) ∧ (Cond.methodLink own index y).before args s = true ∧ (Cond.static y).before args s = true
theorem vx_cwSW {own : String} {index maxL mc ms : Nat} {y : MethodName} {bytes : ByteArray} {ret : Option FieldType} {hh : List (Nat × Nat × Nat × Nat)} {Ts ws ws' : List Cond} {rm : Room} (n : Nat) (ht : ∀ w ∈ Ts, w.before args s = true) (hT : GoodIn Ts (va_wsS own index y ws)) (hw : ws = Cond.codeWith y bytes maxL ret hh :: ws') (hrc : rm.cells = mc) (hrs : rm.slots = ms)
    (hd : y.cls ≠ "java/lang/invoke/MethodHandle" ∧ y.cls ≠ "java/lang/invoke/VarHandle" ∧ (parseMethodDescriptor y.desc).map (fun d => d.parameters.length) = some n) (hR : rm.frames + 1 ≤ R.frames ∧ 8 + (maxL + 11) + rm.locals ≤ R.locals) :
    vx_CSW R s args own index y bytes maxL ret hh ws rm mc ms n := by
  have ok : ∀ w ∈ va_wsS own index y ws, w.before args s = true := fun w h => ht w (hT w h).1
  have hG : GoodIn Ts ws := fun w h => hT w (by unfold va_wsS; exact List.mem_append_right _ h)
  have hc : Cond.codeWith y bytes maxL ret hh ∈ ws := by rw [hw]; exact List.mem_cons_self
  refine ⟨⟨hrc, hrs, hR.1, hR.2, pay_in ht hG, hc⟩, ht _ (hG _ hc).1, ok _ (by simp [va_wsS]), ⟨hd.1, hd.2.1⟩, fun sig h => ?_, ok _ (by simp [va_wsS]), ok _ (by simp [va_wsS])⟩
  have h2 := hd.2.2
  rw [h] at h2
  exact (Option.some.inj h2).symm
theorem vx_callSW (X : Stand p l e R s m args below meth c T locs cells slots) (hexec : p.tables.exec = Jvm.exec) {own : String} {index : Nat} {y : MethodName} {bytes : ByteArray} {maxL : Nat} {ret : Option FieldType} {hh : List (Nat × Nat × Nat × Nat)}
    (hown : s.vm.findClass own = some m.cls) (hlink : (Cond.methodLink own index y).before args s = true) (hstat : (Cond.static y).before args s = true) (hinit : (Cond.initialized y.cls).before args s = true)
    (hcode : (Cond.codeWith y bytes maxL ret hh).before args s = true) (hy : y.cls ≠ "java/lang/invoke/MethodHandle" ∧ y.cls ≠ "java/lang/invoke/VarHandle")
    {W9 : Nat} {Pre : Pt → Array Value → Prop} {Post : Pt → Array Value → Option Value → Pt → Prop} (hK : Back l R p e below s args y 3 W9 Pre Post)
    {g : JFrame} (hg : g.method = m) (hsize : g.locals.size = c.maxLocals) {argsL rest : List Value} (hlen : ∀ sig, parseMethodDescriptor y.desc = some sig → argsL.length = sig.parameters.length)
    (hstack : g.stack = argsL.reverse ++ rest) (hW : 2 * g.monitorRoom + (rest.map fun v => v.category).sum ≤ W9) (hdg : decode c.code g.pc = .ok (.invokestatic index, 3))
    (hpre : ∀ vm₁, s.WarmedH vm₁ → Pre ⟨T.setVm vm₁, locs, cells, slots⟩ argsL.toArray) :
    ∃ (v : Option Value) (vm₁ : Vm) (B : Pt), s.WarmedH vm₁ ∧ Stand p l e R s m args below meth c B.U B.locs B.cells B.slots ∧ Post ⟨T.setVm vm₁, locs, cells, slots⟩ argsL.toArray v B ∧
      ∀ target, Steps p.tables e below (B.U.setTop { g with pc := g.pc + 3, stack := v.toList ++ rest }) target → Steps p.tables e below (T.setTop g) target := by
  obtain ⟨mk, methM, cM, hnamed, hmethM, -, -, -, -, -, -, hsigM⟩ := Cond.codeWith_spec hcode
  have hstatic : methM.isStatic = true := Cond.static_spec hnamed hmethM hstat
  obtain ⟨kP, hkP, -⟩ := className_of_methodNamed hnamed
  have hinitP : kP.init = .initialized := Cond.initialized_spec (findClass_of_methodNamed hnamed) hkP hinit
  obtain ⟨vm₁, X₁, hstep₁⟩ := X.invokestatic hexec hown hlink hnamed hmethM hstatic hkP hinitP hy (g := g) hg (argsL := argsL) (rest := rest) (hlen _ hsigM) hstack hdg
  obtain ⟨v, B, X', hpost, hsteps⟩ := hK m meth c ⟨T.setVm vm₁, locs, cells, slots⟩ { g with stack := rest } (.invokestatic index) mk argsL.toArray X₁ hg hsize hdg hW (X₁.named hnamed) (hpre vm₁ X₁.warmed)
  exact ⟨v, vm₁, B, X₁.warmed, X', hpost, fun target h => hstep₁ _ fun acts => by rw [doInvoke_state]; exact hsteps.trans h⟩
theorem vx_runSW {y : MethodName} {bytes cc : ByteArray} {maxL nL mc ms n index : Nat} {ret : Option FieldType} {hh : List (Nat × Nat × Nat × Nat)} {ws : List Cond} {rm : Room} {Pc : Array Value → State → Prop} {Qc : Array Value → State → Outcome → State → Prop} {free : Addr → Prop} {Ts : List Cond} {own : String} {As rest : List Value} {g : JFrame}
    (S : CallFix p m c cc nL s args Ts own) (hM : Met l y ws rm Pc Qc mc ms free) (cw : vx_CSW R s args own index y bytes maxL ret hh ws rm mc ms n) (hp : PreS s H Pc As)
    (hg : g.method = m) (hn : As.length = n) (hsize : g.locals.size = nL) (hstack : g.stack = As.reverse ++ rest) (hW : 2 * g.monitorRoom + (rest.map fun v => v.category).sum ≤ 8) (hdg : decode cc g.pc = .ok (.invokestatic index, 3)) (hf : cells + mc ≤ R.cells ∧ slots + ms ≤ R.slots) :
    va_Run p l e R s m args below meth c H locs cells slots mc ms g rest (Qc As.toArray) (free) := by
  obtain ⟨⟨hrc, hrs, hfr, hlo, hws, hcw⟩, hcode, hini, hy, hlen, hl, hstt⟩ := cw
  have hK : Back l R p e below s args y 3 8 (PreOf R mc ms Pc) (PostOf Qc mc ms free) := va_backW (hh := hh) (bytes := bytes) (maxL := maxL) (ret := ret) hM hp.1 hrc hrs hfr hlo hws hcw (fun a' U hW => word_at hW (Or.inl (by first | rfl | simp [Cond.onTables, Cond.keeps, Cond.steady])) hini)
  obtain ⟨hx, hb, hml, ho, -⟩ := S
  intro T hT X
  obtain ⟨v, vm₁, ⟨U', l2, c2, s2⟩, hW₁, X', ⟨g', mk, t, L, e1, e2, hq, h1, hL, h2, h3⟩, st⟩ := vx_callSW X hx (hh := hh) (bytes := bytes) (maxL := maxL) (ret := ret) ho hl hstt hini hcode hy hK hg (hsize.trans hml.symm) (argsL := As) (rest := rest) (fun sig h => hn.trans (hlen sig h)) hstack hW (by rw [hb]; exact hdg)
    (fun vm₁ hW₁ => ⟨hf.1, hf.2, hp.2 (T.setVm vm₁) hT hW₁⟩)
  dsimp only [Pt.U, Pt.locs, Pt.cells, Pt.slots] at X' e1 e2 h1 h2 h3 st
  subst h1; subst h2; subst h3
  exact ⟨v, (T.setVm vm₁).calling g' mk As.toArray, t, U', L, hT, X', hL, e1, e2, hq, st⟩
/-- not caught here, past rows that name other classes: it goes on to the caller -/
theorem vx_outP {p : Program} {l : Launch} {e : Env} {R : Room} {s : State} {m : MethodId} {args : Array Value} {below : List Frame} {meth : Method} {c : Code} {H : Heap} {locs : List Loc} {cells slots : Nat} {free : Addr → Prop} {ls : Array Slot} {rest : List Value} {Qc : Array Value → State → Outcome → State → Prop} {XC : String → State → State → Prop}
    {pc : Nat} {own E : String} {ce : Cell} {q : Addr} {mc ms : Nat} (hown : s.vm.findClass own = some m.cls) (hlocks : meth.locks = false)
    (hpass : ∀ z ∈ c.exceptionTable.toList, covers z pc = false ∨ (z.catchType ≠ 0 ∧ ∃ nm : String, (Cond.classLink own z.catchType nm).before args s = true ∧ va_Nc E nm s)) (hcell : H[q]? = some ce) (hv : ce.vm = .none) (hcl : s.vm.findClass E = some ce.cls)
    (hx : ∀ t : State, t.heap = H → s.vm.Alike t.vm → XC E s t) (hf : ∀ z ∈ locs, free z.base) (hc : cells ≤ mc) (hs : slots ≤ ms) :
    vx_W p l e R s m args below meth c H locs cells slots (vx_MQ below Qc XC args s mc ms free) (F0 m pc ls rest) q := by
  intro T hT X
  have hpl : e.platform.magicAccessors = ({} : Platform).magicAccessors := by rw [X.admits.platform]
  obtain ⟨vm', hW', X', st⟩ := Stand.outThrough X hlocks q (g := F0 m pc ls rest) rfl rfl rfl (cell := ce) (by rw [hT]; exact hcell) (by rw [hv]; rfl)
    (by obtain ⟨k9, h9, -⟩ := Vm.findClass_spec hcl; exact ⟨k9, h9⟩) (fun z hz => by
      rcases hpass z hz with h | ⟨hz0, nm, hl1, hn1⟩
      · exact Or.inl h
      · obtain ⟨c6, hc6, hcl6⟩ := Cond.classLink_spec hown hl1 e.platform hpl
        obtain ⟨a8, b8, h1, h2, h3⟩ := hn1
        cases Option.some.inj (h1.symm.trans hcl)
        cases Option.some.inj (h2.symm.trans hc6)
        exact Or.inr ⟨hz0, _, hcl6, h3⟩)
  obtain ⟨g₀, hfr⟩ := X'.frames_eq
  have hcell9 : ((T.setVm vm').setFrames (.throwing q :: below)).heap[q]? = some ce := by
    show T.heap[q]? = some ce
    rw [hT]; exact hcell
  have hend : Ended ((T.setVm vm').setFrames (.throwing q :: below)) below (.threw q) := State.frames_setFrames _ (State.cur_lt_of_frames hfr)
  refine ⟨(T.setVm vm').setFrames (.throwing q :: below), ?_, .threw q, X'.here.running, hend, Or.inr ⟨q, rfl, E, ce, locs, hx _ hT (X'.ends _).1.alike, hcell9, hv, hcl, (X'.ends _).1, (X'.ends _).2.mono hc hs, hf⟩⟩
  rw [X.pushThrowing_eq]
  exact st
/-- a thing of a world lies in the heap -/
theorem vx_lt {D : va_G} {cl : List vw_C} {ws : va_W} {H1 : Heap} (h : va_P D cl ws H1) {k : Nat} {q : Nat × va_E} (hk : ws[k]? = some q) : q.1 < H1.size := (h k q hk).lt
end VXS
/-! ===== END ===== -/
/-! ===== BEGIN methods with a table of their own: called by a name, returning or throwing ===== -/
section VXH
/-! vx_backW, vx_callVX, vx_callSX, vx_callVW, vx_runVW, vx_runVX, vx_runSX, vx_ofWH follow the same proofs as their sisters above (Free/Laws.lean, Shelf42/LK1.lean); vx_outP calls Shelf42/NT130.lean (outThrough). -/
section
variable {l : Launch} {R : Room} {p : Program} {e : Env} {below : List Frame} {s : State} {sargs : Array Value} {y : MethodName} {len W9 : Nat}
theorem vx_backW {ws : List Cond} {rm : Room} {Pc : Array Value → State → Prop} {Qc : Array Value → State → Outcome → State → Prop} {XC : String → State → State → Prop} {mc ms : Nat} {free : Addr → Prop} {bytes : ByteArray} {maxL : Nat} {ret : Option FieldType} {hh : List (Nat × Nat × Nat × Nat)}
    (hM : vx_Met l y ws rm Pc Qc XC mc ms free) (hblind : FrameBlind Pc) (hrc : rm.cells = mc) (hrs : rm.slots = ms)
    (hframes : rm.frames + 1 ≤ R.frames) (hlocals : W9 + (maxL + 11) + rm.locals ≤ R.locals)
    (hws : ∀ w ∈ ws, ∀ a' U, s.WarmedH U.vm → w.before a' U = true) (hcode : Cond.codeWith y bytes maxL ret hh ∈ ws) (hinit : ∀ a' U, s.WarmedH U.vm → (Cond.initialized y.cls).before a' U = true) :
    vx_Back l R p e below s sargs y len W9 (PreOf R mc ms Pc) (PostOf Qc mc ms free) (vx_Post XC mc ms free) := by
  intro m meth c A g ig mk a X hg hsize hdg hW hn hp
  have h1 : (headSpec ws rm).pre.before a A.U = true := atoms_intro fun w hw => hws w hw _ _ X.warmed
  have h2 : (Cond.codeWith y bytes maxL ret hh).before a A.U = true := hws _ hcode _ _ X.warmed
  have h3 : (Cond.initialized y.cls).before a A.U = true := hinit _ _ X.warmed
  have h4 : A.cells + (headSpec ws rm).room.cells ≤ R.cells := by rw [show (headSpec ws rm).room.cells = mc from hrc]; exact hp.1
  have h5 : A.slots + (headSpec ws rm).room.slots ≤ R.slots := by rw [show (headSpec ws rm).room.slots = ms from hrs]; exact hp.2.1
  have hPc : Pc a (A.U.calling g mk a) := hblind _ _ _ _ hp.2.2
  obtain ⟨U, Ls, c0, s0⟩ := A
  dsimp only [Pt.U, Pt.locs, Pt.cells, Pt.slots] at h1 h2 h3 h4 h5 X hn hPc ⊢
  obtain ⟨m9, methY, cY, hn9, hmY, hcY, -, hlY, -⟩ := Cond.codeWith_spec h2
  cases Option.some.inj (hn9.symm.trans hn)
  obtain ⟨kY, hkY, -⟩ := className_of_methodNamed hn
  have hinitY : kY.init = .initialized := Cond.initialized_spec (findClass_of_methodNamed hn) hkY h3
  have h : At U g.method c below := by rw [hg]; exact X.here
  have hlocals9 : W9 + (maxL + 11) + (headSpec ws rm).room.locals ≤ R.locals := hlocals
  have happ : (headSpec ws rm).appliesLoose y e.platform (U.calling g mk a) = true :=
    Spec.appliesLoose_calling (g := g) h hdg hn hkY hinitY
      (X.room_calling (g := g) (R' := (headSpec ws rm).room) hsize hmY hcY hframes (by rw [hlY]; omega) h4 h5) h1
  obtain ⟨mid, hmid⟩ := h.above
  have hfr : (U.setTop g).frames = (.java g :: mid) ++ below := by rw [State.frames_setTop' g h.top, hmid]; rfl
  obtain ⟨o, s₂, hsteps, -, hend, hq⟩ := Steps.callFree hM p X.admits X.cas X.clock (acts := []) hfr happ hPc trivial
  have hq' : vx_Q Qc XC mc ms free a (U.calling g mk a) o s₂ := hq
  rw [State.frames_setTop' g h.top] at hend
  obtain ⟨g₀, hg0⟩ := Option.isSome_iff_exists.mp h.top
  obtain ⟨r, hr⟩ := State.topJava?_eq_some.mp hg0
  have hr' : (({ U with heap := s₂.heap, slotsUsed := s₂.slotsUsed } : State).setVm s₂.vm).frames = .java g₀ :: r := hr
  rcases hq' with ⟨hqc, L, hfe, hL⟩ | ⟨q, rfl, E, ce, L, hx, hce, hcv, hcl, hW₂, hsm, hL⟩
  · obtain ⟨⟨v, rfl⟩, hW₂, e2, q2, q3, q4, q5, q6⟩ := id hfe
    have e3 : s₂ = ({ (U.calling g mk a).setFrames s₂.frames with heap := s₂.heap, slotsUsed := s₂.slotsUsed } : State).setVm s₂.vm := by
      have : s₂ = ({ s₂ with vm := (U.calling g mk a).vm } : State).setVm s₂.vm := rfl
      rw [e2] at this
      exact this
    obtain ⟨c₂, i₂, len₂, hc₂, hd₂, hf₂⟩ := hend
    have hW' : U.WarmedH s₂.vm := hW₂
    have hcc : c₂ = c := by
      have h1 : s₂.code? g.method = U.code? g.method := by
        rw [State.code?_eq, State.code?_eq, hW'.alike.method?]
      exact Option.some.inj (hc₂.symm.trans (h1.trans h.code))
    subst hcc
    have hlen : len₂ = len := by rw [hdg] at hd₂; cases hd₂; rfl
    subst hlen
    have hs₂ : s₂ = (({ U with heap := s₂.heap, slotsUsed := s₂.slotsUsed } : State).setVm s₂.vm).setTop { g with pc := g.pc + len₂, stack := v.toList ++ g.stack } := by
      refine e3.trans ?_
      rw [hf₂, State.calling_eq h.top, State.setFrames_setFrames, State.setTop_of_frames _ hr', hr]
      rfl
    have hsame : U.sameButNew ({ U with heap := s₂.heap, slotsUsed := s₂.slotsUsed } : State) L mc ms := by
      refine ⟨?_, q2, q3, q4, q5, q6⟩
      obtain ⟨t, ht, -⟩ := State.frames_cons hr
      show ({ U with heap := s₂.heap, slotsUsed := s₂.slotsUsed } : State) = { U.setFrames U.frames with heap := s₂.heap, slotsUsed := s₂.slotsUsed }
      rw [State.setFrames_self ht]
    subst hg
    refine Or.inl ⟨v, ⟨(({ U with heap := s₂.heap, slotsUsed := s₂.slotsUsed } : State).setVm s₂.vm), Ls ++ L, c0 + mc, s0 + ms⟩,
      ⟨X.admits, X.cas, X.clock, X.frames, X.room, X.hears, X.method, X.code, (X.here.setHeapUsed s₂.heap s₂.slotsUsed).setVm hW'.alike, X.tail, State.WarmedH.trans X.warmed hW', X.limits, X.bytes, X.same.trans (hsame.setVm s.vm)⟩,
      ⟨g, mk, s₂, L, rfl, rfl, hqc, rfl, hL, rfl, rfl⟩, ?_⟩
    show Steps p.tables e below _ ((({ U with heap := s₂.heap, slotsUsed := s₂.slotsUsed } : State).setVm s₂.vm).setTop { g with pc := g.pc + len₂, stack := v.toList ++ g.stack })
    rw [← hs₂]
    exact hsteps
  · obtain ⟨e2, q2, q3, q4, q5, q6⟩ := id hsm
    have e3 : s₂ = ({ (U.calling g mk a).setFrames s₂.frames with heap := s₂.heap, slotsUsed := s₂.slotsUsed } : State).setVm s₂.vm := by
      have : s₂ = ({ s₂ with vm := (U.calling g mk a).vm } : State).setVm s₂.vm := rfl
      rw [e2] at this
      exact this
    have hf₂ : s₂.frames = .throwing q :: .java g :: U.frames.tail := hend
    have hW' : U.WarmedH s₂.vm := hW₂
    have hs₂ : s₂ = ((({ U with heap := s₂.heap, slotsUsed := s₂.slotsUsed } : State).setVm s₂.vm).setTop g).pushFrame (.throwing q) := by
      refine e3.trans ?_
      rw [hf₂, State.calling_eq h.top, State.setFrames_setFrames, State.pushFrame, State.frames_setTop _ hr', State.setTop_of_frames _ hr', State.setFrames_setFrames, hr]
      rfl
    have hsame : U.sameButNew ({ U with heap := s₂.heap, slotsUsed := s₂.slotsUsed } : State) L mc ms := by
      refine ⟨?_, q2, q3, q4, q5, q6⟩
      obtain ⟨t, ht, -⟩ := State.frames_cons hr
      show ({ U with heap := s₂.heap, slotsUsed := s₂.slotsUsed } : State) = { U.setFrames U.frames with heap := s₂.heap, slotsUsed := s₂.slotsUsed }
      rw [State.setFrames_self ht]
    subst hg
    refine Or.inr ⟨q, ⟨(({ U with heap := s₂.heap, slotsUsed := s₂.slotsUsed } : State).setVm s₂.vm), Ls ++ L, c0 + mc, s0 + ms⟩,
      ⟨X.admits, X.cas, X.clock, X.frames, X.room, X.hears, X.method, X.code, (X.here.setHeapUsed s₂.heap s₂.slotsUsed).setVm hW'.alike, X.tail, State.WarmedH.trans X.warmed hW', X.limits, X.bytes, X.same.trans (hsame.setVm s.vm)⟩,
      ⟨g, mk, s₂, L, E, ce, rfl, rfl, hx, hce, hcv, hcl, rfl, hL, rfl, rfl⟩, ?_⟩
    show Steps p.tables e below _ (((({ U with heap := s₂.heap, slotsUsed := s₂.slotsUsed } : State).setVm s₂.vm).setTop g).pushFrame (.throwing q))
    rw [← hs₂]
    exact hsteps
end
variable {p : Program} {l : Launch} {e : Env} {R : Room} {s : State} {m : MethodId} {args : Array Value} {below : List Frame} {meth : Method} {c : Code} {T : State} {H : Heap} {locs : List Loc} {cells slots : Nat}
theorem vx_callVX (X : Stand p l e R s m args below meth c T locs cells slots) (hexec : p.tables.exec = Jvm.exec) {own C : String} {index : Nat} {y : MethodName} {bytes : ByteArray} {maxL : Nat} {ret : Option FieldType} {hh : List (Nat × Nat × Nat × Nat)}
    (hown : s.vm.findClass own = some m.cls) (hlink : (Cond.methodLink own index y).before args s = true) (hinst : (Cond.instanceMethod y).before args s = true) (hsel : (Cond.selects C y y).before args s = true)
    (hcode : (Cond.codeWith y bytes maxL ret hh).before args s = true) (hy : y.cls ≠ "java/lang/invoke/MethodHandle" ∧ y.cls ≠ "java/lang/invoke/VarHandle")
    {W9 : Nat} {Pre : Pt → Array Value → Prop} {Post : Pt → Array Value → Option Value → Pt → Prop} {PostX : Pt → Array Value → Addr → Pt → Prop} (hK : vx_Back l R p e below s args y 3 W9 Pre Post PostX)
    {b : Addr} {cellB : Cell} (hcell : T.heap[b]? = some cellB) (hobj : cellB.vm.isStatics = false) (hcls : s.vm.findClass C = some cellB.cls)
    {g : JFrame} (hg : g.method = m) (hsize : g.locals.size = c.maxLocals) {argsL rest : List Value} (hlen : ∀ sig, parseMethodDescriptor y.desc = some sig → argsL.length = sig.parameters.length)
    (hstack : g.stack = argsL.reverse ++ .ref b :: rest) (hW : 2 * g.monitorRoom + (rest.map fun v => v.category).sum ≤ W9) (hdg : decode c.code g.pc = .ok (.invokevirtual index, 3))
    (hpre : ∀ vm₁, s.WarmedH vm₁ → Pre ⟨T.setVm vm₁, locs, cells, slots⟩ (Value.ref b :: argsL).toArray) :
    (∃ (v : Option Value) (vm₁ : Vm) (B : Pt), s.WarmedH vm₁ ∧ Stand p l e R s m args below meth c B.U B.locs B.cells B.slots ∧ Post ⟨T.setVm vm₁, locs, cells, slots⟩ (Value.ref b :: argsL).toArray v B ∧
      ∀ target, Steps p.tables e below (B.U.setTop { g with pc := g.pc + 3, stack := v.toList ++ rest }) target → Steps p.tables e below (T.setTop g) target) ∨
    (∃ (q : Addr) (vm₁ : Vm) (B : Pt), s.WarmedH vm₁ ∧ Stand p l e R s m args below meth c B.U B.locs B.cells B.slots ∧ PostX ⟨T.setVm vm₁, locs, cells, slots⟩ (Value.ref b :: argsL).toArray q B ∧
      Steps p.tables e below (T.setTop g) ((B.U.setTop { g with stack := rest }).pushFrame (.throwing q))) := by
  obtain ⟨mk, methM, hnamed, hmethM, hstM, habM⟩ := Cond.instanceMethod_spec hinst
  obtain ⟨m8, methM', cM, hn8, hmethM', -, -, -, -, -, -, hsigM⟩ := Cond.codeWith_spec hcode
  cases Option.some.inj (hn8.symm.trans hnamed)
  cases hmethM.symm.trans hmethM'
  obtain ⟨c2, r2, m2, q1, q2, q3, q4, kP, hkP, hkPi⟩ := Cond.selects_spec hsel
  cases hcls.symm.trans q1
  cases (State.methodFound?_of_named hnamed hy).symm.trans q2
  cases hnamed.symm.trans q3
  have hselP : selectMethod e.platform s.vm cellB.cls mk = .method mk := by rw [Launch.admits_selectMethod X.admits]; exact q4
  obtain ⟨vm₁, X₁, hstep₁⟩ := X.invokevirtual hexec hown hlink hnamed hmethM hstM hkP hkPi hy (a := b) (cell := cellB) hcell
    (fun z h => by rw [h] at hobj; cases hobj) hselP hmethM habM hkP hkPi (g := g) hg (argsL := argsL) (rest := rest) (hlen _ hsigM) hstack hdg
  rcases hK m meth c ⟨T.setVm vm₁, locs, cells, slots⟩ { g with stack := rest } (.invokevirtual index) mk (Value.ref b :: argsL).toArray X₁ hg hsize hdg hW (X₁.named hnamed) (hpre vm₁ X₁.warmed) with ⟨v, B, X', hpost, hsteps⟩ | ⟨q, B, X', hpost, hsteps⟩
  · exact Or.inl ⟨v, vm₁, B, X₁.warmed, X', hpost, fun target h => hstep₁ _ fun acts => by rw [doInvoke_state]; exact hsteps.trans h⟩
  · exact Or.inr ⟨q, vm₁, B, X₁.warmed, X', hpost, hstep₁ _ fun acts => by rw [doInvoke_state]; exact hsteps⟩
theorem vx_callSX (X : Stand p l e R s m args below meth c T locs cells slots) (hexec : p.tables.exec = Jvm.exec) {own : String} {index : Nat} {y : MethodName} {bytes : ByteArray} {maxL : Nat} {ret : Option FieldType} {hh : List (Nat × Nat × Nat × Nat)}
    (hown : s.vm.findClass own = some m.cls) (hlink : (Cond.methodLink own index y).before args s = true) (hstat : (Cond.static y).before args s = true) (hinit : (Cond.initialized y.cls).before args s = true)
    (hcode : (Cond.codeWith y bytes maxL ret hh).before args s = true) (hy : y.cls ≠ "java/lang/invoke/MethodHandle" ∧ y.cls ≠ "java/lang/invoke/VarHandle")
    {W9 : Nat} {Pre : Pt → Array Value → Prop} {Post : Pt → Array Value → Option Value → Pt → Prop} {PostX : Pt → Array Value → Addr → Pt → Prop} (hK : vx_Back l R p e below s args y 3 W9 Pre Post PostX)
    {g : JFrame} (hg : g.method = m) (hsize : g.locals.size = c.maxLocals) {argsL rest : List Value} (hlen : ∀ sig, parseMethodDescriptor y.desc = some sig → argsL.length = sig.parameters.length)
    (hstack : g.stack = argsL.reverse ++ rest) (hW : 2 * g.monitorRoom + (rest.map fun v => v.category).sum ≤ W9) (hdg : decode c.code g.pc = .ok (.invokestatic index, 3))
    (hpre : ∀ vm₁, s.WarmedH vm₁ → Pre ⟨T.setVm vm₁, locs, cells, slots⟩ argsL.toArray) :
    (∃ (v : Option Value) (vm₁ : Vm) (B : Pt), s.WarmedH vm₁ ∧ Stand p l e R s m args below meth c B.U B.locs B.cells B.slots ∧ Post ⟨T.setVm vm₁, locs, cells, slots⟩ argsL.toArray v B ∧
      ∀ target, Steps p.tables e below (B.U.setTop { g with pc := g.pc + 3, stack := v.toList ++ rest }) target → Steps p.tables e below (T.setTop g) target) ∨
    (∃ (q : Addr) (vm₁ : Vm) (B : Pt), s.WarmedH vm₁ ∧ Stand p l e R s m args below meth c B.U B.locs B.cells B.slots ∧ PostX ⟨T.setVm vm₁, locs, cells, slots⟩ argsL.toArray q B ∧
      Steps p.tables e below (T.setTop g) ((B.U.setTop { g with stack := rest }).pushFrame (.throwing q))) := by
  obtain ⟨mk, methM, cM, hnamed, hmethM, -, -, -, -, -, -, hsigM⟩ := Cond.codeWith_spec hcode
  have hstatic : methM.isStatic = true := Cond.static_spec hnamed hmethM hstat
  obtain ⟨kP, hkP, -⟩ := className_of_methodNamed hnamed
  have hinitP : kP.init = .initialized := Cond.initialized_spec (findClass_of_methodNamed hnamed) hkP hinit
  obtain ⟨vm₁, X₁, hstep₁⟩ := X.invokestatic hexec hown hlink hnamed hmethM hstatic hkP hinitP hy (g := g) hg (argsL := argsL) (rest := rest) (hlen _ hsigM) hstack hdg
  rcases hK m meth c ⟨T.setVm vm₁, locs, cells, slots⟩ { g with stack := rest } (.invokestatic index) mk argsL.toArray X₁ hg hsize hdg hW (X₁.named hnamed) (hpre vm₁ X₁.warmed) with ⟨v, B, X', hpost, hsteps⟩ | ⟨q, B, X', hpost, hsteps⟩
  · exact Or.inl ⟨v, vm₁, B, X₁.warmed, X', hpost, fun target h => hstep₁ _ fun acts => by rw [doInvoke_state]; exact hsteps.trans h⟩
  · exact Or.inr ⟨q, vm₁, B, X₁.warmed, X', hpost, hstep₁ _ fun acts => by rw [doInvoke_state]; exact hsteps⟩
theorem vx_callVW (X : Stand p l e R s m args below meth c T locs cells slots) (hexec : p.tables.exec = Jvm.exec) {own C : String} {index : Nat} {y : MethodName} {bytes : ByteArray} {maxL : Nat} {ret : Option FieldType} {hh : List (Nat × Nat × Nat × Nat)}
    (hown : s.vm.findClass own = some m.cls) (hlink : (Cond.methodLink own index y).before args s = true) (hinst : (Cond.instanceMethod y).before args s = true) (hsel : (Cond.selects C y y).before args s = true)
    (hcode : (Cond.codeWith y bytes maxL ret hh).before args s = true) (hy : y.cls ≠ "java/lang/invoke/MethodHandle" ∧ y.cls ≠ "java/lang/invoke/VarHandle")
    {W9 : Nat} {Pre : Pt → Array Value → Prop} {Post : Pt → Array Value → Option Value → Pt → Prop} (hK : Back l R p e below s args y 3 W9 Pre Post)
    {b : Addr} {cellB : Cell} (hcell : T.heap[b]? = some cellB) (hobj : cellB.vm.isStatics = false) (hcls : s.vm.findClass C = some cellB.cls)
    {g : JFrame} (hg : g.method = m) (hsize : g.locals.size = c.maxLocals) {argsL rest : List Value} (hlen : ∀ sig, parseMethodDescriptor y.desc = some sig → argsL.length = sig.parameters.length)
    (hstack : g.stack = argsL.reverse ++ .ref b :: rest) (hW : 2 * g.monitorRoom + (rest.map fun v => v.category).sum ≤ W9) (hdg : decode c.code g.pc = .ok (.invokevirtual index, 3))
    (hpre : ∀ vm₁, s.WarmedH vm₁ → Pre ⟨T.setVm vm₁, locs, cells, slots⟩ (Value.ref b :: argsL).toArray) :
    ∃ (v : Option Value) (vm₁ : Vm) (B : Pt), s.WarmedH vm₁ ∧ Stand p l e R s m args below meth c B.U B.locs B.cells B.slots ∧ Post ⟨T.setVm vm₁, locs, cells, slots⟩ (Value.ref b :: argsL).toArray v B ∧
      ∀ target, Steps p.tables e below (B.U.setTop { g with pc := g.pc + 3, stack := v.toList ++ rest }) target → Steps p.tables e below (T.setTop g) target := by
  obtain ⟨mk, methM, hnamed, hmethM, hstM, habM⟩ := Cond.instanceMethod_spec hinst
  obtain ⟨m8, methM', cM, hn8, hmethM', -, -, -, -, -, -, hsigM⟩ := Cond.codeWith_spec hcode
  cases Option.some.inj (hn8.symm.trans hnamed)
  cases hmethM.symm.trans hmethM'
  obtain ⟨c2, r2, m2, q1, q2, q3, q4, kP, hkP, hkPi⟩ := Cond.selects_spec hsel
  cases hcls.symm.trans q1
  cases (State.methodFound?_of_named hnamed hy).symm.trans q2
  cases hnamed.symm.trans q3
  have hselP : selectMethod e.platform s.vm cellB.cls mk = .method mk := by rw [Launch.admits_selectMethod X.admits]; exact q4
  obtain ⟨vm₁, X₁, hstep₁⟩ := X.invokevirtual hexec hown hlink hnamed hmethM hstM hkP hkPi hy (a := b) (cell := cellB) hcell
    (fun z h => by rw [h] at hobj; cases hobj) hselP hmethM habM hkP hkPi (g := g) hg (argsL := argsL) (rest := rest) (hlen _ hsigM) hstack hdg
  obtain ⟨v, B, X', hpost, hsteps⟩ := hK m meth c ⟨T.setVm vm₁, locs, cells, slots⟩ { g with stack := rest } (.invokevirtual index) mk (Value.ref b :: argsL).toArray X₁ hg hsize hdg hW (X₁.named hnamed) (hpre vm₁ X₁.warmed)
  exact ⟨v, vm₁, B, X₁.warmed, X', hpost, fun target h => hstep₁ _ fun acts => by rw [doInvoke_state]; exact hsteps.trans h⟩
abbrev vx_CVW (R : Room) (s : State) (args : Array Value) (own C : String) (index : Nat) (y : MethodName) (bytes : ByteArray) (maxL : Nat) (ret : Option FieldType) (hh : List (Nat × Nat × Nat × Nat)) (ws : List Cond) (rm : Room) (mc ms n : Nat) : Prop :=
  (rm.cells = mc ∧ rm.slots = ms ∧ rm.frames + 1 ≤ R.frames ∧ 8 + (maxL + 11) + rm.locals ≤ R.locals ∧ (∀ w ∈ ws, ∀ (a' : Array Value) (U : State), s.WarmedH U.vm → w.before a' U = true) ∧ Cond.codeWith y bytes maxL ret hh ∈ ws) ∧
  (Cond.codeWith y bytes maxL ret hh).before args s = true ∧ (Cond.initialized y.cls).before args s = true ∧ (y.cls ≠ "java/lang/invoke/MethodHandle" ∧ y.cls ≠ "java/lang/invoke/VarHandle") ∧
  (∀ sig, parseMethodDescriptor y.desc = some sig → n = sig.parameters.length) ∧ (Cond.methodLink own index y).before args s = true ∧ (Cond.instanceMethod y).before args s = true ∧ (Cond.selects C y y).before args s = true
theorem vx_cwVW {own C : String} {index maxL mc ms : Nat} {y : MethodName} {bytes : ByteArray} {ret : Option FieldType} {hh : List (Nat × Nat × Nat × Nat)} {Ts ws ws' : List Cond} {rm : Room} (n : Nat) (ht : ∀ w ∈ Ts, w.before args s = true) (hT : GoodIn Ts (wsV own index C y ws)) (hw : ws = Cond.codeWith y bytes maxL ret hh :: ws') (hrc : rm.cells = mc) (hrs : rm.slots = ms)
    (hd : y.cls = C ∧ y.cls ≠ "java/lang/invoke/MethodHandle" ∧ y.cls ≠ "java/lang/invoke/VarHandle" ∧ (parseMethodDescriptor y.desc).map (fun d => d.parameters.length) = some n) (hR : rm.frames + 1 ≤ R.frames ∧ 8 + (maxL + 11) + rm.locals ≤ R.locals) :
    vx_CVW R s args own C index y bytes maxL ret hh ws rm mc ms n := by
  obtain ⟨hC, hd⟩ := hd
  subst hC
  have ok : ∀ w ∈ wsV own index y.cls y ws, w.before args s = true := fun w h => ht w (hT w h).1
  have hG : GoodIn Ts ws := fun w h => hT w (by unfold wsV; exact List.mem_append_right _ h)
  have hc : Cond.codeWith y bytes maxL ret hh ∈ ws := by rw [hw]; exact List.mem_cons_self
  refine ⟨⟨hrc, hrs, hR.1, hR.2, pay_in ht hG, hc⟩, ht _ (hG _ hc).1, ok _ (by simp [wsV]), ⟨hd.1, hd.2.1⟩, fun sig h => ?_, ok _ (by simp [wsV]), ok _ (by simp [wsV]), ok _ (by simp [wsV])⟩
  have h2 := hd.2.2
  rw [h] at h2
  exact (Option.some.inj h2).symm
theorem vx_runVW {y : MethodName} {bytes cc : ByteArray} {maxL nL mc ms n index : Nat} {ret : Option FieldType} {hh : List (Nat × Nat × Nat × Nat)} {ws : List Cond} {rm : Room} {Pc : Array Value → State → Prop} {Qc : Array Value → State → Outcome → State → Prop} {free : Addr → Prop} {Ts : List Cond} {own C : String} {b : Addr} {As rest : List Value} {g : JFrame}
    (S : CallFix p m c cc nL s args Ts own) (hM : Met l y ws rm Pc Qc mc ms free) (cw : vx_CVW R s args own C index y bytes maxL ret hh ws rm mc ms n) (hp : PreV s H C b Pc As)
    (hg : g.method = m) (hn : As.length = n) (hsize : g.locals.size = nL) (hstack : g.stack = As.reverse ++ .ref b :: rest) (hW : 2 * g.monitorRoom + (rest.map fun v => v.category).sum ≤ 8) (hdg : decode cc g.pc = .ok (.invokevirtual index, 3)) (hf : cells + mc ≤ R.cells ∧ slots + ms ≤ R.slots) :
    va_Run p l e R s m args below meth c H locs cells slots mc ms g rest (Qc (Value.ref b :: As).toArray) free := by
  obtain ⟨⟨hrc, hrs, hfr, hlo, hws, hcw⟩, hcode, hini, hy, hlen, hl, hin, hse⟩ := cw
  have hK : Back l R p e below s args y 3 8 (PreOf R mc ms Pc) (PostOf Qc mc ms free) := va_backW (hh := hh) (bytes := bytes) (maxL := maxL) (ret := ret) hM hp.1 hrc hrs hfr hlo hws hcw (fun a' U hW => word_at hW (Or.inl (by first | rfl | simp [Cond.onTables, Cond.keeps, Cond.steady])) hini)
  obtain ⟨hx, hb, hml, ho, -⟩ := S
  obtain ⟨-, ⟨cellB, hcB, hoB, hclB⟩, hPc⟩ := hp
  intro T hT X
  obtain ⟨v, vm₁, ⟨U', l2, c2, s2⟩, hW₁, X', ⟨g', mk, t, L, e1, e2, hq, h1, hL, h2, h3⟩, st⟩ := vx_callVW X hx (C := C) (hh := hh) (bytes := bytes) (maxL := maxL) (ret := ret) ho hl hin hse hcode hy hK (by rw [hT]; exact hcB) hoB hclB hg (hsize.trans hml.symm) (argsL := As) (rest := rest) (fun sig h => hn.trans (hlen sig h)) hstack hW (by rw [hb]; exact hdg)
    (fun vm₁ hW₁ => ⟨hf.1, hf.2, hPc (T.setVm vm₁) hT hW₁⟩)
  dsimp only [Pt.U, Pt.locs, Pt.cells, Pt.slots] at X' e1 e2 h1 h2 h3 st
  subst h1; subst h2; subst h3
  exact ⟨v, (T.setVm vm₁).calling g' mk (Value.ref b :: As).toArray, t, U', L, hT, X', hL, e1, e2, hq, st⟩
section
variable {y : MethodName} {bytes cc : ByteArray} {maxL nL mc ms n index : Nat} {ret : Option FieldType} {ws : List Cond} {rm : Room} {Pc : Array Value → State → Prop} {Qc : Array Value → State → Outcome → State → Prop} {XC : String → State → State → Prop} {free : Addr → Prop} {Ts : List Cond} {own C : String} {b : Addr} {As rest : List Value} {g : JFrame}
theorem vx_runVX {hh : List (Nat × Nat × Nat × Nat)} (S : CallFix p m c cc nL s args Ts own) (hM : vx_Met l y ws rm Pc Qc XC mc ms free) (cw : vx_CVW R s args own C index y bytes maxL ret hh ws rm mc ms n) (hp : PreV s H C b Pc As)
    (hg : g.method = m) (hn : As.length = n) (hsize : g.locals.size = nL) (hstack : g.stack = As.reverse ++ .ref b :: rest) (hW : 2 * g.monitorRoom + (rest.map fun v => v.category).sum ≤ 8) (hdg : decode cc g.pc = .ok (.invokevirtual index, 3)) (hf : cells + mc ≤ R.cells ∧ slots + ms ≤ R.slots) :
    vx_Run p l e R s m args below meth c H locs cells slots mc ms g rest (Qc (Value.ref b :: As).toArray) XC free := by
  obtain ⟨⟨hrc, hrs, hfr, hlo, hws, hcw⟩, hcode, hini, hy, hlen, hl, hin, hse⟩ := cw
  have hK : vx_Back l R p e below s args y 3 8 (PreOf R mc ms Pc) (PostOf Qc mc ms free) (vx_Post XC mc ms free) := vx_backW (hh := hh) (bytes := bytes) (maxL := maxL) (ret := ret) hM hp.1 hrc hrs hfr hlo hws hcw (fun a' U hW => word_at hW (Or.inl (by first | rfl | simp [Cond.onTables, Cond.keeps, Cond.steady])) hini)
  obtain ⟨hx, hb, hml, ho, -⟩ := S
  obtain ⟨-, ⟨cellB, hcB, hoB, hclB⟩, hPc⟩ := hp
  intro T hT X
  rcases vx_callVX X hx (C := C) (hh := hh) (bytes := bytes) (maxL := maxL) (ret := ret) ho hl hin hse hcode hy hK (by rw [hT]; exact hcB) hoB hclB hg (hsize.trans hml.symm) (argsL := As) (rest := rest) (fun sig h => hn.trans (hlen sig h)) hstack hW (by rw [hb]; exact hdg)
    (fun vm₁ hW₁ => ⟨hf.1, hf.2, hPc (T.setVm vm₁) hT hW₁⟩) with ⟨v, vm₁, ⟨U', l2, c2, s2⟩, hW₁, X', ⟨g', mk, t, L, e1, e2, hq, h1, hL, h2, h3⟩, st⟩ | ⟨q, vm₁, ⟨U', l2, c2, s2⟩, hW₁, X', ⟨g', mk, t, L, E, ce, e1, e2, hq, hce, hcv, hcl, h1, hL, h2, h3⟩, st⟩
  · dsimp only [Pt.U, Pt.locs, Pt.cells, Pt.slots] at X' e1 e2 h1 h2 h3 st
    subst h1; subst h2; subst h3
    exact Or.inl ⟨v, (T.setVm vm₁).calling g' mk (Value.ref b :: As).toArray, t, U', L, hT, X', hL, e1, e2, hq, st⟩
  · dsimp only [Pt.U, Pt.locs, Pt.cells, Pt.slots] at X' e1 e2 h1 h2 h3 st hcl
    subst h1; subst h2; subst h3
    exact Or.inr ⟨q, (T.setVm vm₁).calling g' mk (Value.ref b :: As).toArray, t, U', L, E, ce, hT, X', hL, e1, e2, hq, hce, hcv, vx_cls hW₁ hcl, st⟩
theorem vx_runSX {hh : List (Nat × Nat × Nat × Nat)} (S : CallFix p m c cc nL s args Ts own) (hM : vx_Met l y ws rm Pc Qc XC mc ms free) (cw : vx_CSW R s args own index y bytes maxL ret hh ws rm mc ms n) (hp : PreS s H Pc As)
    (hg : g.method = m) (hn : As.length = n) (hsize : g.locals.size = nL) (hstack : g.stack = As.reverse ++ rest) (hW : 2 * g.monitorRoom + (rest.map fun v => v.category).sum ≤ 8) (hdg : decode cc g.pc = .ok (.invokestatic index, 3)) (hf : cells + mc ≤ R.cells ∧ slots + ms ≤ R.slots) :
    vx_Run p l e R s m args below meth c H locs cells slots mc ms g rest (Qc As.toArray) XC free := by
  obtain ⟨⟨hrc, hrs, hfr, hlo, hws, hcw⟩, hcode, hini, hy, hlen, hl, hstt⟩ := cw
  have hK : vx_Back l R p e below s args y 3 8 (PreOf R mc ms Pc) (PostOf Qc mc ms free) (vx_Post XC mc ms free) := vx_backW (hh := hh) (bytes := bytes) (maxL := maxL) (ret := ret) hM hp.1 hrc hrs hfr hlo hws hcw (fun a' U hW => word_at hW (Or.inl (by first | rfl | simp [Cond.onTables, Cond.keeps, Cond.steady])) hini)
  obtain ⟨hx, hb, hml, ho, -⟩ := S
  intro T hT X
  rcases vx_callSX X hx (hh := hh) (bytes := bytes) (maxL := maxL) (ret := ret) ho hl hstt hini hcode hy hK hg (hsize.trans hml.symm) (argsL := As) (rest := rest) (fun sig h => hn.trans (hlen sig h)) hstack hW (by rw [hb]; exact hdg)
    (fun vm₁ hW₁ => ⟨hf.1, hf.2, hp.2 (T.setVm vm₁) hT hW₁⟩) with ⟨v, vm₁, ⟨U', l2, c2, s2⟩, hW₁, X', ⟨g', mk, t, L, e1, e2, hq, h1, hL, h2, h3⟩, st⟩ | ⟨q, vm₁, ⟨U', l2, c2, s2⟩, hW₁, X', ⟨g', mk, t, L, E, ce, e1, e2, hq, hce, hcv, hcl, h1, hL, h2, h3⟩, st⟩
  · dsimp only [Pt.U, Pt.locs, Pt.cells, Pt.slots] at X' e1 e2 h1 h2 h3 st
    subst h1; subst h2; subst h3
    exact Or.inl ⟨v, (T.setVm vm₁).calling g' mk As.toArray, t, U', L, hT, X', hL, e1, e2, hq, st⟩
  · dsimp only [Pt.U, Pt.locs, Pt.cells, Pt.slots] at X' e1 e2 h1 h2 h3 st hcl
    subst h1; subst h2; subst h3
    exact Or.inr ⟨q, (T.setVm vm₁).calling g' mk As.toArray, t, U', L, E, ce, hT, X', hL, e1, e2, hq, hce, hcv, vx_cls hW₁ hcl, st⟩
end
end VXH
theorem vx_ofWH {l : Launch} {y : MethodName} {ws ws' : List Cond} {rm : Room} {Pc : Array Value → State → Prop} {Qc : Array Value → State → Outcome → State → Prop} {XC : String → State → State → Prop} {mc ms : Nat} {free : Addr → Prop} {cc : ByteArray} {maxL : Nat} {ret : Option FieldType} {hh : List (Nat × Nat × Nat × Nat)}
    (hy : plainName y.cls = true) (hw : ws = Cond.codeWith y cc maxL ret hh :: ws')
    (body : ∀ p e s m args below meth c s₁, BodyLoose p l y (headSpec ws rm) cc maxL ret e s m args below meth c s₁ → c.maxLocals = maxL → Pc args s →
      W p l e (headSpec ws rm).room s m args below meth c s.heap [] 0 0 (vx_MQ below Qc XC args s mc ms free) (entryFrame m args maxL)) : vx_Met l y ws rm Pc Qc XC mc ms free := by
  refine MetFree.of_bodyS (code := cc) (maxLocals := maxL) (ret := ret) hy ?_ ?_
  · intro args s m h hn
    obtain ⟨m9, meth, c, hn9, h1, h2, h3, h4, -, h5, h6, -⟩ := Cond.codeWith_spec (atoms_spec (ws := ws) h _ (by rw [hw]; exact List.mem_cons_self))
    cases hn.symm.trans hn9
    exact ⟨meth, c, h1, h2, h3, h4, h5, h6⟩
  · intro p e s m args below meth c s₁ B hml hP _
    have hh0 : s₁.heap = s.heap := by rw [B.state]; rfl
    obtain ⟨t, a1, o, b1, b2, b3⟩ := body p e s m args below meth c s₁ B hml hP s₁ hh0 (Stand.of_body B)
    exact ⟨t, o, a1, b1, b2, b3⟩
/-! ===== END ===== -/

def RX0 : String := "TillTheBell$Draws"
def TX0 : u_T := fun k => match k with
  | _ => ("TillTheBell$Draws", "x", "I", false)
def tyX0 : Nat → FieldType := fun k => match k with
  | _ => .int
abbrev wsX00 : List Cond := u_ws RX0 TX0 1
theorem nmX0 : ∀ a, a < 1 → ∀ b, b < 1 → a ≠ b → (TX0 a).2.1 ≠ (TX0 b).2.1 := by decide +kernel
theorem tyX0_ok : ∀ k, k < 1 → parseFieldDescriptor (TX0 k).2.2.1 = some (tyX0 k) := by decide +kernel
abbrev cX0_init : ByteArray := prog_2_method_1_code
def yX0_init : MethodName := ⟨RX0, "<init>", "(I)V"⟩
abbrev cX0_draw : ByteArray := prog_2_method_2_code
def yX0_draw : MethodName := ⟨RX0, "draw", "(I)I"⟩
abbrev cX0_spend : ByteArray := prog_2_method_3_code
def yX0_spend : MethodName := ⟨RX0, "spend", "(LTillTheBell$Town;I)I"⟩
abbrev cX0_deals : ByteArray := prog_2_method_4_code
def yX0_deals : MethodName := ⟨RX0, "deals", "(LTillTheBell$Town;)Z"⟩
abbrev cX0_undoes : ByteArray := prog_2_method_5_code
def yX0_undoes : MethodName := ⟨RX0, "undoes", "(LTillTheBell$Town;)Z"⟩
def RX1 : String := "TillTheBell$Ending"
def TX1 : u_T := fun k => match k with
  | 0 => ("TillTheBell$Ending", "left", "I", false)
  | 1 => ("TillTheBell$Ending", "people", "I", false)
  | 2 => ("TillTheBell$Ending", "first", "I", false)
  | 3 => ("TillTheBell$Ending", "turns", "I", false)
  | 4 => ("TillTheBell$Ending", "many", "I", false)
  | 5 => ("TillTheBell$Ending", "deedAt", "[I", true)
  | 6 => ("TillTheBell$Ending", "withIt", "[I", true)
  | 7 => ("TillTheBell$Ending", "mine", "[I", true)
  | 8 => ("TillTheBell$Ending", "mineMany", "[I", true)
  | 9 => ("TillTheBell$Ending", "undoerParts", "[I", true)
  | 10 => ("TillTheBell$Ending", "otherParts", "[I", true)
  | 11 => ("TillTheBell$Ending", "ahead", "[I", true)
  | 12 => ("TillTheBell$Ending", "reached", "[I", true)
  | 13 => ("TillTheBell$Ending", "choices", "[J", true)
  | _ => ("TillTheBell$Ending", "undone", "[I", true)
def tyX1 : Nat → FieldType := fun k => match k with
  | 0 => .int
  | 1 => .int
  | 2 => .int
  | 3 => .int
  | 4 => .int
  | 5 => .array .int
  | 6 => .array .int
  | 7 => .array .int
  | 8 => .array .int
  | 9 => .array .int
  | 10 => .array .int
  | 11 => .array .int
  | 12 => .array .int
  | 13 => .array .long
  | _ => .array .int
abbrev wsX10 : List Cond := u_ws RX1 TX1 15
theorem nmX1 : ∀ a, a < 15 → ∀ b, b < 15 → a ≠ b → (TX1 a).2.1 ≠ (TX1 b).2.1 := by decide +kernel
theorem tyX1_ok : ∀ k, k < 15 → parseFieldDescriptor (TX1 k).2.2.1 = some (tyX1 k) := by decide +kernel
abbrev cX1_init : ByteArray := prog_3_method_1_code
def yX1_init : MethodName := ⟨RX1, "<init>", "()V"⟩
abbrev cX1_lay : ByteArray := prog_3_method_2_code
def yX1_lay : MethodName := ⟨RX1, "lay", "(LTillTheBell$Town;II)Z"⟩
abbrev cX1_layDeed : ByteArray := prog_3_method_3_code
def yX1_layDeed : MethodName := ⟨RX1, "layDeed", "(LTillTheBell$Town;I)V"⟩
abbrev cX1_layFor : ByteArray := prog_3_method_4_code
def yX1_layFor : MethodName := ⟨RX1, "layFor", "(I)V"⟩
abbrev cX1_whole : ByteArray := prog_3_method_5_code
def yX1_whole : MethodName := ⟨RX1, "whole", "()I"⟩
abbrev cX1_personIn : ByteArray := prog_3_method_6_code
def yX1_personIn : MethodName := ⟨RX1, "personIn", "(I)I"⟩
abbrev cX1_reach : ByteArray := prog_3_method_7_code
def yX1_reach : MethodName := ⟨RX1, "reach", "()V"⟩
abbrev cX1_reachFrom : ByteArray := prog_3_method_8_code
def yX1_reachFrom : MethodName := ⟨RX1, "reachFrom", "(III)V"⟩
abbrev cX1_play : ByteArray := prog_3_method_9_code
def yX1_play : MethodName := ⟨RX1, "play", "(LTillTheBell$Town;)V"⟩
abbrev cX1_forget : ByteArray := prog_3_method_10_code
def yX1_forget : MethodName := ⟨RX1, "forget", "(I)V"⟩
abbrev cX1_weigh : ByteArray := prog_3_method_11_code
def yX1_weigh : MethodName := ⟨RX1, "weigh", "(LTillTheBell$Town;)V"⟩
abbrev cX1_choose : ByteArray := prog_3_method_12_code
def yX1_choose : MethodName := ⟨RX1, "choose", "(III)V"⟩
abbrev cX1_settle : ByteArray := prog_3_method_13_code
def yX1_settle : MethodName := ⟨RX1, "settle", "(III)V"⟩
abbrev cX1_sumOf : ByteArray := prog_3_method_14_code
def yX1_sumOf : MethodName := ⟨RX1, "sumOf", "([IIII)I"⟩
abbrev cX1_walk : ByteArray := prog_3_method_15_code
def yX1_walk : MethodName := ⟨RX1, "walk", "(LTillTheBell$Town;)V"⟩
abbrev cX1_change : ByteArray := prog_3_method_16_code
def yX1_change : MethodName := ⟨RX1, "change", "(I)I"⟩
abbrev cX1_undoneIn : ByteArray := prog_3_method_17_code
def yX1_undoneIn : MethodName := ⟨RX1, "undoneIn", "(I)I"⟩
abbrev cX1_undoings : ByteArray := prog_3_method_18_code
def yX1_undoings : MethodName := ⟨RX1, "undoings", "()I"⟩
def RX2 : String := "TillTheBell$Reader"
def TX2 : u_T := fun k => match k with
  | 0 => ("TillTheBell$Reader", "length", "I", false)
  | 1 => ("TillTheBell$Reader", "wrong", "I", false)
  | 2 => ("TillTheBell$Reader", "place", "I", false)
  | 3 => ("TillTheBell$Reader", "tape", "[B", true)
  | 4 => ("TillTheBell$Reader", "limit", "I", false)
  | 5 => ("TillTheBell$Reader", "sort", "I", false)
  | 6 => ("TillTheBell$Reader", "start", "I", false)
  | 7 => ("TillTheBell$Reader", "after", "I", false)
  | 8 => ("TillTheBell$Reader", "value", "I", false)
  | _ => ("TillTheBell$Reader", "taken", "I", false)
def tyX2 : Nat → FieldType := fun k => match k with
  | 0 => .int
  | 1 => .int
  | 2 => .int
  | 3 => .array .byte
  | 4 => .int
  | 5 => .int
  | 6 => .int
  | 7 => .int
  | 8 => .int
  | _ => .int
abbrev wsX20 : List Cond := u_ws RX2 TX2 10
theorem nmX2 : ∀ a, a < 10 → ∀ b, b < 10 → a ≠ b → (TX2 a).2.1 ≠ (TX2 b).2.1 := by decide +kernel
theorem tyX2_ok : ∀ k, k < 10 → parseFieldDescriptor (TX2 k).2.2.1 = some (tyX2 k) := by decide +kernel
abbrev cX2_init : ByteArray := prog_4_method_1_code
def yX2_init : MethodName := ⟨RX2, "<init>", "()V"⟩
abbrev cX2_add : ByteArray := prog_4_method_2_code
def yX2_add : MethodName := ⟨RX2, "add", "(I)V"⟩
abbrev cX2_read : ByteArray := prog_4_method_3_code
def yX2_read : MethodName := ⟨RX2, "read", "(ILTillTheBell$Town;)Z"⟩
abbrev cX2_kindOfLine : ByteArray := prog_4_method_4_code
def yX2_kindOfLine : MethodName := ⟨RX2, "kindOfLine", "()I"⟩
abbrev cX2_begins : ByteArray := prog_4_method_5_code
def yX2_begins : MethodName := ⟨RX2, "begins", "(ILTillTheBell$Town;)Z"⟩
abbrev cX2_closes : ByteArray := prog_4_method_6_code
def yX2_closes : MethodName := ⟨RX2, "closes", "()Z"⟩
abbrev cX2_readNumbers : ByteArray := prog_4_method_7_code
def yX2_readNumbers : MethodName := ⟨RX2, "readNumbers", "(ILTillTheBell$Town;)Z"⟩
abbrev cX2_readPeople : ByteArray := prog_4_method_8_code
def yX2_readPeople : MethodName := ⟨RX2, "readPeople", "(LTillTheBell$Town;)Z"⟩
abbrev cX2_readCoins : ByteArray := prog_4_method_9_code
def yX2_readCoins : MethodName := ⟨RX2, "readCoins", "(LTillTheBell$Town;)Z"⟩
abbrev cX2_readThing : ByteArray := prog_4_method_10_code
def yX2_readThing : MethodName := ⟨RX2, "readThing", "(LTillTheBell$Town;)Z"⟩
abbrev cX2_readWorth : ByteArray := prog_4_method_11_code
def yX2_readWorth : MethodName := ⟨RX2, "readWorth", "(LTillTheBell$Town;)Z"⟩
abbrev cX2_readShare : ByteArray := prog_4_method_12_code
def yX2_readShare : MethodName := ⟨RX2, "readShare", "(LTillTheBell$Town;)Z"⟩
abbrev cX2_readBell : ByteArray := prog_4_method_13_code
def yX2_readBell : MethodName := ⟨RX2, "readBell", "(LTillTheBell$Town;)Z"⟩
abbrev cX2_readEaten : ByteArray := prog_4_method_14_code
def yX2_readEaten : MethodName := ⟨RX2, "readEaten", "(LTillTheBell$Town;)Z"⟩
abbrev cX2_takes : ByteArray := prog_4_method_15_code
def yX2_takes : MethodName := ⟨RX2, "takes", "(II)Z"⟩
abbrev cX2_fails : ByteArray := prog_4_method_16_code
def yX2_fails : MethodName := ⟨RX2, "fails", "(I)Z"⟩
abbrev cX2_isWord : ByteArray := prog_4_method_17_code
def yX2_isWord : MethodName := ⟨RX2, "isWord", "(Ljava/lang/String;)Z"⟩
abbrev cX2_next : ByteArray := prog_4_method_18_code
def yX2_next : MethodName := ⟨RX2, "next", "()V"⟩
abbrev cX2_takeRun : ByteArray := prog_4_method_19_code
def yX2_takeRun : MethodName := ⟨RX2, "takeRun", "(II)Z"⟩
abbrev cX2_valueOfRun : ByteArray := prog_4_method_20_code
def yX2_valueOfRun : MethodName := ⟨RX2, "valueOfRun", "()I"⟩
def RX3 : String := "TillTheBell$Town"
def TX3 : u_T := fun k => match k with
  | 0 => ("TillTheBell$Town", "lines", "I", false)
  | 1 => ("TillTheBell$Town", "people", "I", false)
  | 2 => ("TillTheBell$Town", "things", "I", false)
  | 3 => ("TillTheBell$Town", "eaten", "I", false)
  | 4 => ("TillTheBell$Town", "share", "I", false)
  | 5 => ("TillTheBell$Town", "bell", "I", false)
  | 6 => ("TillTheBell$Town", "minute", "I", false)
  | 7 => ("TillTheBell$Town", "deeds", "I", false)
  | 8 => ("TillTheBell$Town", "standing", "I", false)
  | 9 => ("TillTheBell$Town", "coins", "[I", true)
  | 10 => ("TillTheBell$Town", "holders", "[I", true)
  | 11 => ("TillTheBell$Town", "worths", "[I", true)
  | 12 => ("TillTheBell$Town", "thingOf", "[I", true)
  | 13 => ("TillTheBell$Town", "giverOf", "[I", true)
  | 14 => ("TillTheBell$Town", "takerOf", "[I", true)
  | 15 => ("TillTheBell$Town", "priceOf", "[I", true)
  | _ => ("TillTheBell$Town", "minuteOf", "[I", true)
def tyX3 : Nat → FieldType := fun k => match k with
  | 0 => .int
  | 1 => .int
  | 2 => .int
  | 3 => .int
  | 4 => .int
  | 5 => .int
  | 6 => .int
  | 7 => .int
  | 8 => .int
  | 9 => .array .int
  | 10 => .array .int
  | 11 => .array .int
  | 12 => .array .int
  | 13 => .array .int
  | 14 => .array .int
  | 15 => .array .int
  | _ => .array .int
abbrev wsX30 : List Cond := u_ws RX3 TX3 17
theorem nmX3 : ∀ a, a < 17 → ∀ b, b < 17 → a ≠ b → (TX3 a).2.1 ≠ (TX3 b).2.1 := by decide +kernel
theorem tyX3_ok : ∀ k, k < 17 → parseFieldDescriptor (TX3 k).2.2.1 = some (tyX3 k) := by decide +kernel
abbrev cX3_init : ByteArray := prog_5_method_1_code
def yX3_init : MethodName := ⟨RX3, "<init>", "()V"⟩
abbrev cX3_clear : ByteArray := prog_5_method_2_code
def yX3_clear : MethodName := ⟨RX3, "clear", "()V"⟩
abbrev cX3_copyFrom : ByteArray := prog_5_method_3_code
def yX3_copyFrom : MethodName := ⟨RX3, "copyFrom", "(LTillTheBell$Town;)V"⟩
abbrev cX3_hasPerson : ByteArray := prog_5_method_4_code
def yX3_hasPerson : MethodName := ⟨RX3, "hasPerson", "(I)Z"⟩
abbrev cX3_hasThing : ByteArray := prog_5_method_5_code
def yX3_hasThing : MethodName := ⟨RX3, "hasThing", "(I)Z"⟩
abbrev cX3_hasDeed : ByteArray := prog_5_method_6_code
def yX3_hasDeed : MethodName := ⟨RX3, "hasDeed", "(I)Z"⟩
abbrev cX3_hasRung : ByteArray := prog_5_method_7_code
def yX3_hasRung : MethodName := ⟨RX3, "hasRung", "()Z"⟩
abbrev cX3_isEaten : ByteArray := prog_5_method_8_code
def yX3_isEaten : MethodName := ⟨RX3, "isEaten", "(I)Z"⟩
abbrev cX3_stands : ByteArray := prog_5_method_9_code
def yX3_stands : MethodName := ⟨RX3, "stands", "(I)Z"⟩
abbrev cX3_isOpen : ByteArray := prog_5_method_10_code
def yX3_isOpen : MethodName := ⟨RX3, "isOpen", "(I)Z"⟩
abbrev cX3_isOf : ByteArray := prog_5_method_11_code
def yX3_isOf : MethodName := ⟨RX3, "isOf", "(II)Z"⟩
abbrev cX3_sideOf : ByteArray := prog_5_method_12_code
def yX3_sideOf : MethodName := ⟨RX3, "sideOf", "(II)I"⟩
abbrev cX3_openBits : ByteArray := prog_5_method_13_code
def yX3_openBits : MethodName := ⟨RX3, "openBits", "()I"⟩
abbrev cX3_worthTo : ByteArray := prog_5_method_14_code
def yX3_worthTo : MethodName := ⟨RX3, "worthTo", "(II)I"⟩
abbrev cX3_setWorth : ByteArray := prog_5_method_15_code
def yX3_setWorth : MethodName := ⟨RX3, "setWorth", "(III)V"⟩
abbrev cX3_held : ByteArray := prog_5_method_16_code
def yX3_held : MethodName := ⟨RX3, "held", "(I)I"⟩
abbrev cX3_wealth : ByteArray := prog_5_method_17_code
def yX3_wealth : MethodName := ⟨RX3, "wealth", "(I)I"⟩
abbrev cX3_coinsOfAll : ByteArray := prog_5_method_18_code
def yX3_coinsOfAll : MethodName := ⟨RX3, "coinsOfAll", "()I"⟩
abbrev cX3_wealthOfAll : ByteArray := prog_5_method_19_code
def yX3_wealthOfAll : MethodName := ⟨RX3, "wealthOfAll", "()I"⟩
abbrev cX3_worthToGiver : ByteArray := prog_5_method_20_code
def yX3_worthToGiver : MethodName := ⟨RX3, "worthToGiver", "(I)I"⟩
abbrev cX3_worthToTaker : ByteArray := prog_5_method_21_code
def yX3_worthToTaker : MethodName := ⟨RX3, "worthToTaker", "(I)I"⟩
abbrev cX3_cut : ByteArray := prog_5_method_22_code
def yX3_cut : MethodName := ⟨RX3, "cut", "(I)I"⟩
abbrev cX3_whyNoDeed : ByteArray := prog_5_method_23_code
def yX3_whyNoDeed : MethodName := ⟨RX3, "whyNoDeed", "(III)I"⟩
abbrev cX3_make : ByteArray := prog_5_method_24_code
def yX3_make : MethodName := ⟨RX3, "make", "(III)I"⟩
abbrev cX3_whyNoUndoing : ByteArray := prog_5_method_25_code
def yX3_whyNoUndoing : MethodName := ⟨RX3, "whyNoUndoing", "(II)I"⟩
abbrev cX3_fell : ByteArray := prog_5_method_26_code
def yX3_fell : MethodName := ⟨RX3, "fell", "(II)I"⟩
abbrev cX3_fallsWith : ByteArray := prog_5_method_27_code
def yX3_fallsWith : MethodName := ⟨RX3, "fallsWith", "(II)Z"⟩
abbrev cX3_fallBits : ByteArray := prog_5_method_28_code
def yX3_fallBits : MethodName := ⟨RX3, "fallBits", "(I)I"⟩
abbrev cX3_priceChange : ByteArray := prog_5_method_29_code
def yX3_priceChange : MethodName := ⟨RX3, "priceChange", "(II)I"⟩
abbrev cX3_owedTo : ByteArray := prog_5_method_30_code
def yX3_owedTo : MethodName := ⟨RX3, "owedTo", "(III)I"⟩
abbrev cX3_owedToAll : ByteArray := prog_5_method_31_code
def yX3_owedToAll : MethodName := ⟨RX3, "owedToAll", "(II)I"⟩
abbrev cX3_partOfUndoer : ByteArray := prog_5_method_32_code
def yX3_partOfUndoer : MethodName := ⟨RX3, "partOfUndoer", "(II)I"⟩
abbrev cX3_partOfOther : ByteArray := prog_5_method_33_code
def yX3_partOfOther : MethodName := ⟨RX3, "partOfOther", "(II)I"⟩
abbrev cX3_gainOf : ByteArray := prog_5_method_34_code
def yX3_gainOf : MethodName := ⟨RX3, "gainOf", "(II)I"⟩
abbrev cX3_topGain : ByteArray := prog_5_method_35_code
def yX3_topGain : MethodName := ⟨RX3, "topGain", "(I)I"⟩
abbrev cX3_bestUndoing : ByteArray := prog_5_method_36_code
def yX3_bestUndoing : MethodName := ⟨RX3, "bestUndoing", "()I"⟩
abbrev cX3_wouldBeSafe : ByteArray := prog_5_method_37_code
def yX3_wouldBeSafe : MethodName := ⟨RX3, "wouldBeSafe", "(III)Z"⟩
abbrev cX3_chainLength : ByteArray := prog_5_method_38_code
def yX3_chainLength : MethodName := ⟨RX3, "chainLength", "(I)I"⟩
abbrev cX3_wants : ByteArray := prog_5_method_39_code
def yX3_wants : MethodName := ⟨RX3, "wants", "(II)Z"⟩
abbrev cX3_isRing : ByteArray := prog_5_method_40_code
def yX3_isRing : MethodName := ⟨RX3, "isRing", "(III)Z"⟩
def RX4 : String := "TillTheBell$Tray"
def TX4 : u_T := fun k => match k with
  | 0 => ("TillTheBell$Tray", "missing", "Z", false)
  | 1 => ("TillTheBell$Tray", "many", "I", false)
  | 2 => ("TillTheBell$Tray", "row", "[J", true)
  | _ => ("TillTheBell$Tray", "sort", "I", false)
def tyX4 : Nat → FieldType := fun k => match k with
  | 0 => .boolean
  | 1 => .int
  | 2 => .array .long
  | _ => .int
abbrev wsX40 : List Cond := u_ws RX4 TX4 4
theorem nmX4 : ∀ a, a < 4 → ∀ b, b < 4 → a ≠ b → (TX4 a).2.1 ≠ (TX4 b).2.1 := by decide +kernel
theorem tyX4_ok : ∀ k, k < 4 → parseFieldDescriptor (TX4 k).2.2.1 = some (tyX4 k) := by decide +kernel
abbrev cX4_init : ByteArray := prog_6_method_1_code
def yX4_init : MethodName := ⟨RX4, "<init>", "()V"⟩
abbrev cX4_lay : ByteArray := prog_6_method_2_code
def yX4_lay : MethodName := ⟨RX4, "lay", "(II)V"⟩
abbrev cX4_put : ByteArray := prog_6_method_3_code
def yX4_put : MethodName := ⟨RX4, "put", "(IJ)V"⟩
abbrev cX4_cutToSort : ByteArray := prog_6_method_4_code
def yX4_cutToSort : MethodName := ⟨RX4, "cutToSort", "(J)J"⟩
abbrev cX4_isOffers : ByteArray := prog_6_method_5_code
def yX4_isOffers : MethodName := ⟨RX4, "isOffers", "()Z"⟩
abbrev cX4_hopeIn : ByteArray := prog_6_method_6_code
def yX4_hopeIn : MethodName := ⟨RX4, "hopeIn", "(JII)I"⟩
abbrev cX4_hopeAhead : ByteArray := prog_6_method_7_code
def yX4_hopeAhead : MethodName := ⟨RX4, "hopeAhead", "(JJJ)J"⟩
abbrev cX4_leastTaken : ByteArray := prog_6_method_8_code
def yX4_leastTaken : MethodName := ⟨RX4, "leastTaken", "(JJJ)I"⟩
def RX5 : String := "TillTheBell"
def TX5 : u_T := fun k => match k with
  | 0 => ("TillTheBell", "now", "LTillTheBell$Town;", true)
  | 1 => ("TillTheBell", "trial", "LTillTheBell$Town;", true)
  | 2 => ("TillTheBell", "images", "[LTillTheBell$Town;", true)
  | 3 => ("TillTheBell", "imaged", "[Z", true)
  | 4 => ("TillTheBell", "trays", "[LTillTheBell$Tray;", true)
  | 5 => ("TillTheBell", "reader", "LTillTheBell$Reader;", true)
  | _ => ("TillTheBell", "ending", "LTillTheBell$Ending;", true)
def tyX5 : Nat → FieldType := fun k => match k with
  | 0 => .object "TillTheBell$Town"
  | 1 => .object "TillTheBell$Town"
  | 2 => .array (.object "TillTheBell$Town")
  | 3 => .array .boolean
  | 4 => .array (.object "TillTheBell$Tray")
  | 5 => .object "TillTheBell$Reader"
  | _ => .object "TillTheBell$Ending"
abbrev wsX50 : List Cond := u_ws RX5 TX5 7
theorem nmX5 : ∀ a, a < 7 → ∀ b, b < 7 → a ≠ b → (TX5 a).2.1 ≠ (TX5 b).2.1 := by decide +kernel
theorem tyX5_ok : ∀ k, k < 7 → parseFieldDescriptor (TX5 k).2.2.1 = some (tyX5 k) := by decide +kernel
abbrev cX5_init : ByteArray := prog_1_method_1_code
def yX5_init : MethodName := ⟨RX5, "<init>", "()V"⟩
abbrev cX5_feed : ByteArray := prog_1_method_2_code
def yX5_feed : MethodName := ⟨RX5, "feed", "(IIIII)I"⟩
abbrev cX5_town : ByteArray := prog_1_method_3_code
def yX5_town : MethodName := ⟨RX5, "town", "(I)I"⟩
abbrev cX5_fault : ByteArray := prog_1_method_4_code
def yX5_fault : MethodName := ⟨RX5, "fault", "(I)I"⟩
abbrev cX5_person : ByteArray := prog_1_method_5_code
def yX5_person : MethodName := ⟨RX5, "person", "(II)I"⟩
abbrev cX5_worth : ByteArray := prog_1_method_6_code
def yX5_worth : MethodName := ⟨RX5, "worth", "(II)I"⟩
abbrev cX5_holder : ByteArray := prog_1_method_7_code
def yX5_holder : MethodName := ⟨RX5, "holder", "(I)I"⟩
abbrev cX5_eat : ByteArray := prog_1_method_8_code
def yX5_eat : MethodName := ⟨RX5, "eat", "(I)Z"⟩
abbrev cX5_pass : ByteArray := prog_1_method_9_code
def yX5_pass : MethodName := ⟨RX5, "pass", "(I)I"⟩
abbrev cX5_morning : ByteArray := prog_1_method_10_code
def yX5_morning : MethodName := ⟨RX5, "morning", "()I"⟩
abbrev cX5_sell : ByteArray := prog_1_method_11_code
def yX5_sell : MethodName := ⟨RX5, "sell", "(III)I"⟩
abbrev cX5_deed : ByteArray := prog_1_method_12_code
def yX5_deed : MethodName := ⟨RX5, "deed", "(II)I"⟩
abbrev cX5_may : ByteArray := prog_1_method_13_code
def yX5_may : MethodName := ⟨RX5, "may", "(II)I"⟩
abbrev cX5_undo : ByteArray := prog_1_method_14_code
def yX5_undo : MethodName := ⟨RX5, "undo", "(II)I"⟩
abbrev cX5_falls : ByteArray := prog_1_method_15_code
def yX5_falls : MethodName := ⟨RX5, "falls", "(I)I"⟩
abbrev cX5_owes : ByteArray := prog_1_method_16_code
def yX5_owes : MethodName := ⟨RX5, "owes", "(III)I"⟩
abbrev cX5_chain : ByteArray := prog_1_method_17_code
def yX5_chain : MethodName := ⟨RX5, "chain", "(II)I"⟩
abbrev cX5_judge : ByteArray := prog_1_method_18_code
def yX5_judge : MethodName := ⟨RX5, "judge", "(II)I"⟩
abbrev cX5_perform : ByteArray := prog_1_method_19_code
def yX5_perform : MethodName := ⟨RX5, "perform", "(I)I"⟩
abbrev cX5_day : ByteArray := prog_1_method_20_code
def yX5_day : MethodName := ⟨RX5, "day", "(II)I"⟩
abbrev cX5_open : ByteArray := prog_1_method_21_code
def yX5_open : MethodName := ⟨RX5, "open", "()I"⟩
abbrev cX5_gain : ByteArray := prog_1_method_22_code
def yX5_gain : MethodName := ⟨RX5, "gain", "(II)I"⟩
abbrev cX5_safe : ByteArray := prog_1_method_23_code
def yX5_safe : MethodName := ⟨RX5, "safe", "()I"⟩
abbrev cX5_pledge : ByteArray := prog_1_method_24_code
def yX5_pledge : MethodName := ⟨RX5, "pledge", "(I)I"⟩
abbrev cX5_tempted : ByteArray := prog_1_method_25_code
def yX5_tempted : MethodName := ⟨RX5, "tempted", "()I"⟩
abbrev cX5_unravel : ByteArray := prog_1_method_26_code
def yX5_unravel : MethodName := ⟨RX5, "unravel", "()I"⟩
abbrev cX5_debt : ByteArray := prog_1_method_27_code
def yX5_debt : MethodName := ⟨RX5, "debt", "(II)I"⟩
abbrev cX5_safePrice : ByteArray := prog_1_method_28_code
def yX5_safePrice : MethodName := ⟨RX5, "safePrice", "(III)I"⟩
abbrev cX5_longest : ByteArray := prog_1_method_29_code
def yX5_longest : MethodName := ⟨RX5, "longest", "()I"⟩
abbrev cX5_bidder : ByteArray := prog_1_method_30_code
def yX5_bidder : MethodName := ⟨RX5, "bidder", "(I)I"⟩
abbrev cX5_keeper : ByteArray := prog_1_method_31_code
def yX5_keeper : MethodName := ⟨RX5, "keeper", "(II)I"⟩
abbrev cX5_endFrom : ByteArray := prog_1_method_32_code
def yX5_endFrom : MethodName := ⟨RX5, "endFrom", "(I)I"⟩
abbrev cX5_end : ByteArray := prog_1_method_33_code
def yX5_end : MethodName := ⟨RX5, "end", "(II)I"⟩
abbrev cX5_ringer : ByteArray := prog_1_method_34_code
def yX5_ringer : MethodName := ⟨RX5, "ringer", "(I)I"⟩
abbrev cX5_news : ByteArray := prog_1_method_35_code
def yX5_news : MethodName := ⟨RX5, "news", "(III)I"⟩
abbrev cX5_bestShare : ByteArray := prog_1_method_36_code
def yX5_bestShare : MethodName := ⟨RX5, "bestShare", "()I"⟩
abbrev cX5_share : ByteArray := prog_1_method_37_code
def yX5_share : MethodName := ⟨RX5, "share", "(I)I"⟩
abbrev cX5_hope : ByteArray := prog_1_method_38_code
def yX5_hope : MethodName := ⟨RX5, "hope", "(IIII)I"⟩
abbrev cX5_swaps : ByteArray := prog_1_method_39_code
def yX5_swaps : MethodName := ⟨RX5, "swaps", "(I)I"⟩
abbrev cX5_threes : ByteArray := prog_1_method_40_code
def yX5_threes : MethodName := ⟨RX5, "threes", "(I)I"⟩
abbrev cX5_misplaced : ByteArray := prog_1_method_41_code
def yX5_misplaced : MethodName := ⟨RX5, "misplaced", "()I"⟩
abbrev cX5_tray : ByteArray := prog_1_method_42_code
def yX5_tray : MethodName := ⟨RX5, "tray", "(III)V"⟩
abbrev cX5_write : ByteArray := prog_1_method_43_code
def yX5_write : MethodName := ⟨RX5, "write", "(IIJ)J"⟩
abbrev cX5_pour : ByteArray := prog_1_method_44_code
def yX5_pour : MethodName := ⟨RX5, "pour", "(I)I"⟩
abbrev cX5_image : ByteArray := prog_1_method_45_code
def yX5_image : MethodName := ⟨RX5, "image", "(I)V"⟩
abbrev cX5_restore : ByteArray := prog_1_method_46_code
def yX5_restore : MethodName := ⟨RX5, "restore", "(I)V"⟩
abbrev cX5_count : ByteArray := prog_1_method_47_code
def yX5_count : MethodName := ⟨RX5, "count", "(I)I"⟩
abbrev cX5_needPerson : ByteArray := prog_1_method_48_code
def yX5_needPerson : MethodName := ⟨RX5, "needPerson", "(I)V"⟩
abbrev cX5_needThing : ByteArray := prog_1_method_49_code
def yX5_needThing : MethodName := ⟨RX5, "needThing", "(I)V"⟩
abbrev cX5_needDeed : ByteArray := prog_1_method_50_code
def yX5_needDeed : MethodName := ⟨RX5, "needDeed", "(I)V"⟩
abbrev cX5_needImage : ByteArray := prog_1_method_51_code
def yX5_needImage : MethodName := ⟨RX5, "needImage", "(I)V"⟩
abbrev cX5_needTray : ByteArray := prog_1_method_52_code
def yX5_needTray : MethodName := ⟨RX5, "needTray", "(I)LTillTheBell$Tray;"⟩
abbrev cX5_needRounds : ByteArray := prog_1_method_53_code
def yX5_needRounds : MethodName := ⟨RX5, "needRounds", "(I)V"⟩
abbrev cX5_temptedBit : ByteArray := prog_1_method_54_code
def yX5_temptedBit : MethodName := ⟨RX5, "temptedBit", "(II)I"⟩
abbrev cX5_leftIn : ByteArray := prog_1_method_55_code
def yX5_leftIn : MethodName := ⟨RX5, "leftIn", "(LTillTheBell$Town;I)I"⟩
abbrev cX5_doTold : ByteArray := prog_1_method_56_code
def yX5_doTold : MethodName := ⟨RX5, "doTold", "(LTillTheBell$Town;LTillTheBell$Tray;)I"⟩
abbrev cX5_whyNoTold : ByteArray := prog_1_method_57_code
def yX5_whyNoTold : MethodName := ⟨RX5, "whyNoTold", "(LTillTheBell$Town;J)I"⟩
def RX6 : String := "TillTheBellModel"
def TX6 : u_T := fun k => match k with
  | 0 => ("TillTheBellModel", "told", "[I", true)
  | 1 => ("TillTheBellModel", "fresh", "[I", true)
  | 2 => ("TillTheBellModel", "saved", "[I", true)
  | 3 => ("TillTheBellModel", "images", "[I", true)
  | 4 => ("TillTheBellModel", "isImage", "[Z", true)
  | 5 => ("TillTheBellModel", "thrown", "I", false)
  | 6 => ("TillTheBellModel", "tape", "[I", true)
  | 7 => ("TillTheBellModel", "taped", "I", false)
  | 8 => ("TillTheBellModel", "size", "I", false)
  | 9 => ("TillTheBellModel", "at", "I", false)
  | 10 => ("TillTheBellModel", "begin", "I", false)
  | 11 => ("TillTheBellModel", "token", "I", false)
  | 12 => ("TillTheBellModel", "value", "I", false)
  | 13 => ("TillTheBellModel", "bad", "I", false)
  | 14 => ("TillTheBellModel", "badPlace", "I", false)
  | 15 => ("TillTheBellModel", "faultKind", "I", false)
  | 16 => ("TillTheBellModel", "faultPlace", "I", false)
  | 17 => ("TillTheBellModel", "kept", "[I", true)
  | 18 => ("TillTheBellModel", "state", "I", false)
  | 19 => ("TillTheBellModel", "mine", "[I", true)
  | 20 => ("TillTheBellModel", "richer", "[I", true)
  | 21 => ("TillTheBellModel", "choice", "[I", true)
  | 22 => ("TillTheBellModel", "by", "[I", true)
  | 23 => ("TillTheBellModel", "mineMany", "I", false)
  | 24 => ("TillTheBellModel", "turns", "I", false)
  | 25 => ("TillTheBellModel", "firstTurn", "I", false)
  | 26 => ("TillTheBellModel", "tSort", "[I", true)
  | 27 => ("TillTheBellModel", "tMany", "[I", true)
  | _ => ("TillTheBellModel", "numbers", "[J", true)
def tyX6 : Nat → FieldType := fun k => match k with
  | 0 => .array .int
  | 1 => .array .int
  | 2 => .array .int
  | 3 => .array .int
  | 4 => .array .boolean
  | 5 => .int
  | 6 => .array .int
  | 7 => .int
  | 8 => .int
  | 9 => .int
  | 10 => .int
  | 11 => .int
  | 12 => .int
  | 13 => .int
  | 14 => .int
  | 15 => .int
  | 16 => .int
  | 17 => .array .int
  | 18 => .int
  | 19 => .array .int
  | 20 => .array .int
  | 21 => .array .int
  | 22 => .array .int
  | 23 => .int
  | 24 => .int
  | 25 => .int
  | 26 => .array .int
  | 27 => .array .int
  | _ => .array .long
abbrev wsX60 : List Cond := u_ws RX6 TX6 29
theorem nmX6 : ∀ a, a < 29 → ∀ b, b < 29 → a ≠ b → (TX6 a).2.1 ≠ (TX6 b).2.1 := by decide +kernel
theorem tyX6_ok : ∀ k, k < 29 → parseFieldDescriptor (TX6 k).2.2.1 = some (tyX6 k) := by decide +kernel
abbrev cX6_init : ByteArray := prog_8_method_1_code
def yX6_init : MethodName := ⟨RX6, "<init>", "()V"⟩
abbrev cX6_thrown : ByteArray := prog_8_method_2_code
def yX6_thrown : MethodName := ⟨RX6, "thrown", "()I"⟩
abbrev cX6_fails : ByteArray := prog_8_method_3_code
def yX6_fails : MethodName := ⟨RX6, "fails", "(I)I"⟩
abbrev cX6_within : ByteArray := prog_8_method_4_code
def yX6_within : MethodName := ⟨RX6, "within", "(JJJ)Z"⟩
abbrev cX6_copies : ByteArray := prog_8_method_5_code
def yX6_copies : MethodName := ⟨RX6, "copies", "([I[I)V"⟩
abbrev cX6_begins : ByteArray := prog_8_method_6_code
def yX6_begins : MethodName := ⟨RX6, "begins", "([I)V"⟩
abbrev cX6_feed : ByteArray := prog_8_method_7_code
def yX6_feed : MethodName := ⟨RX6, "feed", "(IIIII)I"⟩
abbrev cX6_see : ByteArray := prog_8_method_8_code
def yX6_see : MethodName := ⟨RX6, "see", "(I)I"⟩
abbrev cX6_isLetter : ByteArray := prog_8_method_9_code
def yX6_isLetter : MethodName := ⟨RX6, "isLetter", "(I)Z"⟩
abbrev cX6_isDigit : ByteArray := prog_8_method_10_code
def yX6_isDigit : MethodName := ⟨RX6, "isDigit", "(I)Z"⟩
abbrev cX6_reads : ByteArray := prog_8_method_11_code
def yX6_reads : MethodName := ⟨RX6, "reads", "()V"⟩
abbrev cX6_blames : ByteArray := prog_8_method_12_code
def yX6_blames : MethodName := ⟨RX6, "blames", "(I)V"⟩
abbrev cX6_isWord : ByteArray := prog_8_method_13_code
def yX6_isWord : MethodName := ⟨RX6, "isWord", "(Ljava/lang/String;)Z"⟩
abbrev cX6_took : ByteArray := prog_8_method_14_code
def yX6_took : MethodName := ⟨RX6, "took", "(Ljava/lang/String;)Z"⟩
abbrev cX6_number : ByteArray := prog_8_method_15_code
def yX6_number : MethodName := ⟨RX6, "number", "(II)I"⟩
abbrev cX6_personTold : ByteArray := prog_8_method_16_code
def yX6_personTold : MethodName := ⟨RX6, "personTold", "()I"⟩
abbrev cX6_thingTold : ByteArray := prog_8_method_17_code
def yX6_thingTold : MethodName := ⟨RX6, "thingTold", "()I"⟩
abbrev cX6_readPeople : ByteArray := prog_8_method_18_code
def yX6_readPeople : MethodName := ⟨RX6, "readPeople", "()V"⟩
abbrev cX6_readCoins : ByteArray := prog_8_method_19_code
def yX6_readCoins : MethodName := ⟨RX6, "readCoins", "()V"⟩
abbrev cX6_readThing : ByteArray := prog_8_method_20_code
def yX6_readThing : MethodName := ⟨RX6, "readThing", "()V"⟩
abbrev cX6_readWorth : ByteArray := prog_8_method_21_code
def yX6_readWorth : MethodName := ⟨RX6, "readWorth", "()V"⟩
abbrev cX6_readEaten : ByteArray := prog_8_method_22_code
def yX6_readEaten : MethodName := ⟨RX6, "readEaten", "()V"⟩
abbrev cX6_readLine : ByteArray := prog_8_method_23_code
def yX6_readLine : MethodName := ⟨RX6, "readLine", "()V"⟩
abbrev cX6_town : ByteArray := prog_8_method_24_code
def yX6_town : MethodName := ⟨RX6, "town", "(I)I"⟩
abbrev cX6_fault : ByteArray := prog_8_method_25_code
def yX6_fault : MethodName := ⟨RX6, "fault", "(I)I"⟩
abbrev cX6_isPerson : ByteArray := prog_8_method_26_code
def yX6_isPerson : MethodName := ⟨RX6, "isPerson", "(I)Z"⟩
abbrev cX6_isThing : ByteArray := prog_8_method_27_code
def yX6_isThing : MethodName := ⟨RX6, "isThing", "(I)Z"⟩
abbrev cX6_isDeed : ByteArray := prog_8_method_28_code
def yX6_isDeed : MethodName := ⟨RX6, "isDeed", "(J)Z"⟩
abbrev cX6_worthTo : ByteArray := prog_8_method_29_code
def yX6_worthTo : MethodName := ⟨RX6, "worthTo", "(II)I"⟩
abbrev cX6_isEaten : ByteArray := prog_8_method_30_code
def yX6_isEaten : MethodName := ⟨RX6, "isEaten", "(I)Z"⟩
abbrev cX6_hasRung : ByteArray := prog_8_method_31_code
def yX6_hasRung : MethodName := ⟨RX6, "hasRung", "()Z"⟩
abbrev cX6_wealth : ByteArray := prog_8_method_32_code
def yX6_wealth : MethodName := ⟨RX6, "wealth", "(I)I"⟩
abbrev cX6_holds : ByteArray := prog_8_method_33_code
def yX6_holds : MethodName := ⟨RX6, "holds", "(I)I"⟩
abbrev cX6_person : ByteArray := prog_8_method_34_code
def yX6_person : MethodName := ⟨RX6, "person", "(II)I"⟩
abbrev cX6_worth : ByteArray := prog_8_method_35_code
def yX6_worth : MethodName := ⟨RX6, "worth", "(II)I"⟩
abbrev cX6_holder : ByteArray := prog_8_method_36_code
def yX6_holder : MethodName := ⟨RX6, "holder", "(I)I"⟩
abbrev cX6_eat : ByteArray := prog_8_method_37_code
def yX6_eat : MethodName := ⟨RX6, "eat", "(I)Z"⟩
abbrev cX6_pass : ByteArray := prog_8_method_38_code
def yX6_pass : MethodName := ⟨RX6, "pass", "(I)I"⟩
abbrev cX6_standMany : ByteArray := prog_8_method_39_code
def yX6_standMany : MethodName := ⟨RX6, "standMany", "()I"⟩
abbrev cX6_morning : ByteArray := prog_8_method_40_code
def yX6_morning : MethodName := ⟨RX6, "morning", "()I"⟩
abbrev cX6_of : ByteArray := prog_8_method_41_code
def yX6_of : MethodName := ⟨RX6, "of", "(II)I"⟩
abbrev cX6_whyNoSale : ByteArray := prog_8_method_42_code
def yX6_whyNoSale : MethodName := ⟨RX6, "whyNoSale", "(III)I"⟩
abbrev cX6_sells : ByteArray := prog_8_method_43_code
def yX6_sells : MethodName := ⟨RX6, "sells", "(III)I"⟩
abbrev cX6_sell : ByteArray := prog_8_method_44_code
def yX6_sell : MethodName := ⟨RX6, "sell", "(III)I"⟩
abbrev cX6_worthOf : ByteArray := prog_8_method_45_code
def yX6_worthOf : MethodName := ⟨RX6, "worthOf", "(IZ)I"⟩
abbrev cX6_deed : ByteArray := prog_8_method_46_code
def yX6_deed : MethodName := ⟨RX6, "deed", "(II)I"⟩
abbrev cX6_fallsOf : ByteArray := prog_8_method_47_code
def yX6_fallsOf : MethodName := ⟨RX6, "fallsOf", "(I)I"⟩
abbrev cX6_isOf : ByteArray := prog_8_method_48_code
def yX6_isOf : MethodName := ⟨RX6, "isOf", "(II)Z"⟩
abbrev cX6_pays : ByteArray := prog_8_method_49_code
def yX6_pays : MethodName := ⟨RX6, "pays", "(III)I"⟩
abbrev cX6_undoes : ByteArray := prog_8_method_50_code
def yX6_undoes : MethodName := ⟨RX6, "undoes", "(II)I"⟩
abbrev cX6_whyNot : ByteArray := prog_8_method_51_code
def yX6_whyNot : MethodName := ⟨RX6, "whyNot", "(JI)I"⟩
abbrev cX6_may : ByteArray := prog_8_method_52_code
def yX6_may : MethodName := ⟨RX6, "may", "(II)I"⟩
abbrev cX6_undo : ByteArray := prog_8_method_53_code
def yX6_undo : MethodName := ⟨RX6, "undo", "(II)I"⟩
abbrev cX6_falls : ByteArray := prog_8_method_54_code
def yX6_falls : MethodName := ⟨RX6, "falls", "(I)I"⟩
abbrev cX6_owes : ByteArray := prog_8_method_55_code
def yX6_owes : MethodName := ⟨RX6, "owes", "(III)I"⟩
abbrev cX6_chain : ByteArray := prog_8_method_56_code
def yX6_chain : MethodName := ⟨RX6, "chain", "(II)I"⟩
abbrev cX6_trayFault : ByteArray := prog_8_method_57_code
def yX6_trayFault : MethodName := ⟨RX6, "trayFault", "(I)I"⟩
abbrev cX6_whyTold : ByteArray := prog_8_method_58_code
def yX6_whyTold : MethodName := ⟨RX6, "whyTold", "(J)I"⟩
abbrev cX6_byTold : ByteArray := prog_8_method_59_code
def yX6_byTold : MethodName := ⟨RX6, "byTold", "(I)I"⟩
abbrev cX6_goesBy : ByteArray := prog_8_method_60_code
def yX6_goesBy : MethodName := ⟨RX6, "goesBy", "(I)I"⟩
abbrev cX6_judge : ByteArray := prog_8_method_61_code
def yX6_judge : MethodName := ⟨RX6, "judge", "(II)I"⟩
abbrev cX6_perform : ByteArray := prog_8_method_62_code
def yX6_perform : MethodName := ⟨RX6, "perform", "(I)I"⟩
abbrev cX6_draw : ByteArray := prog_8_method_63_code
def yX6_draw : MethodName := ⟨RX6, "draw", "(I)I"⟩
abbrev cX6_drawn : ByteArray := prog_8_method_64_code
def yX6_drawn : MethodName := ⟨RX6, "drawn", "()Z"⟩
abbrev cX6_day : ByteArray := prog_8_method_65_code
def yX6_day : MethodName := ⟨RX6, "day", "(II)I"⟩
abbrev cX6_isOpen : ByteArray := prog_8_method_66_code
def yX6_isOpen : MethodName := ⟨RX6, "isOpen", "(I)Z"⟩
abbrev cX6_openSet : ByteArray := prog_8_method_67_code
def yX6_openSet : MethodName := ⟨RX6, "openSet", "()I"⟩
abbrev cX6_open : ByteArray := prog_8_method_68_code
def yX6_open : MethodName := ⟨RX6, "open", "()I"⟩
abbrev cX6_gainOf : ByteArray := prog_8_method_69_code
def yX6_gainOf : MethodName := ⟨RX6, "gainOf", "(II)I"⟩
abbrev cX6_gain : ByteArray := prog_8_method_70_code
def yX6_gain : MethodName := ⟨RX6, "gain", "(II)I"⟩
abbrev cX6_pledgeOf : ByteArray := prog_8_method_71_code
def yX6_pledgeOf : MethodName := ⟨RX6, "pledgeOf", "(I)I"⟩
abbrev cX6_safe : ByteArray := prog_8_method_72_code
def yX6_safe : MethodName := ⟨RX6, "safe", "()I"⟩
abbrev cX6_pledge : ByteArray := prog_8_method_73_code
def yX6_pledge : MethodName := ⟨RX6, "pledge", "(I)I"⟩
abbrev cX6_isTempted : ByteArray := prog_8_method_74_code
def yX6_isTempted : MethodName := ⟨RX6, "isTempted", "(II)Z"⟩
abbrev cX6_tempted : ByteArray := prog_8_method_75_code
def yX6_tempted : MethodName := ⟨RX6, "tempted", "()I"⟩
abbrev cX6_unravel : ByteArray := prog_8_method_76_code
def yX6_unravel : MethodName := ⟨RX6, "unravel", "()I"⟩
abbrev cX6_debt : ByteArray := prog_8_method_77_code
def yX6_debt : MethodName := ⟨RX6, "debt", "(II)I"⟩
abbrev cX6_isSafePrice : ByteArray := prog_8_method_78_code
def yX6_isSafePrice : MethodName := ⟨RX6, "isSafePrice", "(IIII)Z"⟩
abbrev cX6_safePrice : ByteArray := prog_8_method_79_code
def yX6_safePrice : MethodName := ⟨RX6, "safePrice", "(III)I"⟩
abbrev cX6_longest : ByteArray := prog_8_method_80_code
def yX6_longest : MethodName := ⟨RX6, "longest", "()I"⟩
abbrev cX6_bidder : ByteArray := prog_8_method_81_code
def yX6_bidder : MethodName := ⟨RX6, "bidder", "(I)I"⟩
abbrev cX6_seat : ByteArray := prog_8_method_82_code
def yX6_seat : MethodName := ⟨RX6, "seat", "(III)I"⟩
abbrev cX6_fallIn : ByteArray := prog_8_method_83_code
def yX6_fallIn : MethodName := ⟨RX6, "fallIn", "(II)I"⟩
abbrev cX6_laysUndoing : ByteArray := prog_8_method_84_code
def yX6_laysUndoing : MethodName := ⟨RX6, "laysUndoing", "(III)V"⟩
abbrev cX6_laysEnd : ByteArray := prog_8_method_85_code
def yX6_laysEnd : MethodName := ⟨RX6, "laysEnd", "(I)Z"⟩
abbrev cX6_laysFrom : ByteArray := prog_8_method_86_code
def yX6_laysFrom : MethodName := ⟨RX6, "laysFrom", "(II)Z"⟩
abbrev cX6_laysTurn : ByteArray := prog_8_method_87_code
def yX6_laysTurn : MethodName := ⟨RX6, "laysTurn", "(II)V"⟩
abbrev cX6_full : ByteArray := prog_8_method_88_code
def yX6_full : MethodName := ⟨RX6, "full", "()I"⟩
abbrev cX6_setBehind : ByteArray := prog_8_method_89_code
def yX6_setBehind : MethodName := ⟨RX6, "setBehind", "(I)I"⟩
abbrev cX6_standIn : ByteArray := prog_8_method_90_code
def yX6_standIn : MethodName := ⟨RX6, "standIn", "()I"⟩
abbrev cX6_chosen : ByteArray := prog_8_method_91_code
def yX6_chosen : MethodName := ⟨RX6, "chosen", "(I)I"⟩
abbrev cX6_wealthIn : ByteArray := prog_8_method_92_code
def yX6_wealthIn : MethodName := ⟨RX6, "wealthIn", "(I)I"⟩
abbrev cX6_end : ByteArray := prog_8_method_93_code
def yX6_end : MethodName := ⟨RX6, "end", "(II)I"⟩
abbrev cX6_ringer : ByteArray := prog_8_method_94_code
def yX6_ringer : MethodName := ⟨RX6, "ringer", "(I)I"⟩
abbrev cX6_keeper : ByteArray := prog_8_method_95_code
def yX6_keeper : MethodName := ⟨RX6, "keeper", "(II)I"⟩
abbrev cX6_endFrom : ByteArray := prog_8_method_96_code
def yX6_endFrom : MethodName := ⟨RX6, "endFrom", "(I)I"⟩
abbrev cX6_news : ByteArray := prog_8_method_97_code
def yX6_news : MethodName := ⟨RX6, "news", "(III)I"⟩
abbrev cX6_size : ByteArray := prog_8_method_98_code
def yX6_size : MethodName := ⟨RX6, "size", "(I)I"⟩
abbrev cX6_bestShare : ByteArray := prog_8_method_99_code
def yX6_bestShare : MethodName := ⟨RX6, "bestShare", "()I"⟩
abbrev cX6_share : ByteArray := prog_8_method_100_code
def yX6_share : MethodName := ⟨RX6, "share", "(I)I"⟩
abbrev cX6_hope : ByteArray := prog_8_method_101_code
def yX6_hope : MethodName := ⟨RX6, "hope", "(IIII)I"⟩
abbrev cX6_rather : ByteArray := prog_8_method_102_code
def yX6_rather : MethodName := ⟨RX6, "rather", "(II)Z"⟩
abbrev cX6_isHeld : ByteArray := prog_8_method_103_code
def yX6_isHeld : MethodName := ⟨RX6, "isHeld", "(I)Z"⟩
abbrev cX6_swaps : ByteArray := prog_8_method_104_code
def yX6_swaps : MethodName := ⟨RX6, "swaps", "(I)I"⟩
abbrev cX6_isThree : ByteArray := prog_8_method_105_code
def yX6_isThree : MethodName := ⟨RX6, "isThree", "(III)Z"⟩
abbrev cX6_threes : ByteArray := prog_8_method_106_code
def yX6_threes : MethodName := ⟨RX6, "threes", "(I)I"⟩
abbrev cX6_misplaced : ByteArray := prog_8_method_107_code
def yX6_misplaced : MethodName := ⟨RX6, "misplaced", "()I"⟩
abbrev cX6_isTray : ByteArray := prog_8_method_108_code
def yX6_isTray : MethodName := ⟨RX6, "isTray", "(I)Z"⟩
abbrev cX6_tray : ByteArray := prog_8_method_109_code
def yX6_tray : MethodName := ⟨RX6, "tray", "(III)V"⟩
abbrev cX6_cut : ByteArray := prog_8_method_110_code
def yX6_cut : MethodName := ⟨RX6, "cut", "(IIJ)J"⟩
abbrev cX6_write : ByteArray := prog_8_method_111_code
def yX6_write : MethodName := ⟨RX6, "write", "(IIJ)J"⟩
abbrev cX6_pour : ByteArray := prog_8_method_112_code
def yX6_pour : MethodName := ⟨RX6, "pour", "(I)I"⟩
abbrev cX6_image : ByteArray := prog_8_method_113_code
def yX6_image : MethodName := ⟨RX6, "image", "(I)V"⟩
abbrev cX6_restore : ByteArray := prog_8_method_114_code
def yX6_restore : MethodName := ⟨RX6, "restore", "(I)V"⟩
abbrev cX6_count : ByteArray := prog_8_method_115_code
def yX6_count : MethodName := ⟨RX6, "count", "(I)I"⟩
def RJx145de : String := "java/io/Serializable"
def TJx145de : u_T := fun k => match k with
  | _ => ("", "", "", false)
def RJx9f9b0 : String := "java/lang/CharSequence"
def TJx9f9b0 : u_T := fun k => match k with
  | _ => ("", "", "", false)
def RJxb160c : String := "java/lang/Comparable"
def TJxb160c : u_T := fun k => match k with
  | _ => ("", "", "", false)
def RJ6 : String := "java/lang/Integer"
def TJ6 : u_T := fun k => match k with
  | _ => ("", "", "", false)
def tyJ6 : Nat → FieldType := fun k => match k with
  | _ => .int
abbrev wsJ60 : List Cond := u_ws RJ6 TJ6 0
theorem nmJ6 : ∀ a, a < 0 → ∀ b, b < 0 → a ≠ b → (TJ6 a).2.1 ≠ (TJ6 b).2.1 := by decide +kernel
theorem tyJ6_ok : ∀ k, k < 0 → parseFieldDescriptor (TJ6 k).2.2.1 = some (tyJ6 k) := by decide +kernel
abbrev cJ6_bitCount_0f7a4 : ByteArray := prog_16_method_49_code
def yJ6_bitCount_0f7a4 : MethodName := ⟨RJ6, "bitCount", "(I)I"⟩
def RJ9 : String := "java/lang/Math"
def TJ9 : u_T := fun k => match k with
  | _ => ("", "", "", false)
def tyJ9 : Nat → FieldType := fun k => match k with
  | _ => .int
abbrev wsJ90 : List Cond := u_ws RJ9 TJ9 0
theorem nmJ9 : ∀ a, a < 0 → ∀ b, b < 0 → a ≠ b → (TJ9 a).2.1 ≠ (TJ9 b).2.1 := by decide +kernel
theorem tyJ9_ok : ∀ k, k < 0 → parseFieldDescriptor (TJ9 k).2.2.1 = some (tyJ9 k) := by decide +kernel
abbrev cJ9_max_7cf53 : ByteArray := prog_17_method_65_code
def yJ9_max_7cf53 : MethodName := ⟨RJ9, "max", "(II)I"⟩
abbrev cJ9_max_f86c9 : ByteArray := prog_17_method_66_code
def yJ9_max_f86c9 : MethodName := ⟨RJ9, "max", "(JJ)J"⟩
abbrev cJ9_min_7cf53 : ByteArray := prog_17_method_69_code
def yJ9_min_7cf53 : MethodName := ⟨RJ9, "min", "(II)I"⟩
def RJ0 : String := "java/lang/String"
def TJ0 : u_T := fun k => match k with
  | _ => ("", "", "", false)
def tyJ0 : Nat → FieldType := fun k => match k with
  | _ => .int
abbrev wsJ00 : List Cond := u_ws RJ0 TJ0 0
theorem nmJ0 : ∀ a, a < 0 → ∀ b, b < 0 → a ≠ b → (TJ0 a).2.1 ≠ (TJ0 b).2.1 := by decide +kernel
theorem tyJ0_ok : ∀ k, k < 0 → parseFieldDescriptor (TJ0 k).2.2.1 = some (tyJ0 k) := by decide +kernel
abbrev cJ0_length_8abf5 : ByteArray := prog_19_method_54_code
def yJ0_length_8abf5 : MethodName := ⟨RJ0, "length", "()I"⟩
abbrev cJ0_charAt_5068e : ByteArray := prog_19_method_56_code
def yJ0_charAt_5068e : MethodName := ⟨RJ0, "charAt", "(I)C"⟩
abbrev cJ0_coder_7d493 : ByteArray := prog_19_method_152_code
def yJ0_coder_7d493 : MethodName := ⟨RJ0, "coder", "()B"⟩
abbrev cJ0_isLatin1_aae02 : ByteArray := prog_19_method_154_code
def yJ0_isLatin1_aae02 : MethodName := ⟨RJ0, "isLatin1", "()Z"⟩
abbrev cJ0_checkIndex_df160 : ByteArray := prog_19_method_155_code
def yJ0_checkIndex_df160 : MethodName := ⟨RJ0, "checkIndex", "(II)V"⟩
def RJ1 : String := "java/lang/StringLatin1"
def TJ1 : u_T := fun k => match k with
  | _ => ("", "", "", false)
def tyJ1 : Nat → FieldType := fun k => match k with
  | _ => .int
abbrev wsJ10 : List Cond := u_ws RJ1 TJ1 0
theorem nmJ1 : ∀ a, a < 0 → ∀ b, b < 0 → a ≠ b → (TJ1 a).2.1 ≠ (TJ1 b).2.1 := by decide +kernel
theorem tyJ1_ok : ∀ k, k < 0 → parseFieldDescriptor (TJ1 k).2.2.1 = some (tyJ1 k) := by decide +kernel
abbrev cJ1_charAt_3b067 : ByteArray := prog_20_method_2_code
def yJ1_charAt_3b067 : MethodName := ⟨RJ1, "charAt", "([BI)C"⟩
def RJ2 : String := "java/lang/StringUTF16"
def TJ2 : u_T := fun k => match k with
  | _ => ("", "", "", false)
def tyJ2 : Nat → FieldType := fun k => match k with
  | _ => .int
abbrev wsJ20 : List Cond := u_ws RJ2 TJ2 0
theorem nmJ2 : ∀ a, a < 0 → ∀ b, b < 0 → a ≠ b → (TJ2 a).2.1 ≠ (TJ2 b).2.1 := by decide +kernel
theorem tyJ2_ok : ∀ k, k < 0 → parseFieldDescriptor (TJ2 k).2.2.1 = some (tyJ2 k) := by decide +kernel
abbrev cJ2_getChar_3b067 : ByteArray := prog_21_method_5_code
def yJ2_getChar_3b067 : MethodName := ⟨RJ2, "getChar", "([BI)C"⟩
abbrev cJ2_length_9d52b : ByteArray := prog_21_method_6_code
def yJ2_length_9d52b : MethodName := ⟨RJ2, "length", "([B)I"⟩
abbrev cJ2_charAt_3b067 : ByteArray := prog_21_method_83_code
def yJ2_charAt_3b067 : MethodName := ⟨RJ2, "charAt", "([BI)C"⟩
abbrev cJ2_checkIndex_2214a : ByteArray := prog_21_method_91_code
def yJ2_checkIndex_2214a : MethodName := ⟨RJ2, "checkIndex", "(I[B)V"⟩
def RJ10 : String := "java/lang/System"
def TJ10 : u_T := fun k => match k with
  | _ => ("", "", "", false)
def tyJ10 : Nat → FieldType := fun k => match k with
  | _ => .int
abbrev wsJ100 : List Cond := u_ws RJ10 TJ10 0
theorem nmJ10 : ∀ a, a < 0 → ∀ b, b < 0 → a ≠ b → (TJ10 a).2.1 ≠ (TJ10 b).2.1 := by decide +kernel
theorem tyJ10_ok : ∀ k, k < 0 → parseFieldDescriptor (TJ10 k).2.2.1 = some (tyJ10 k) := by decide +kernel
def RJxfd54e : String := "java/lang/constant/Constable"
def TJxfd54e : u_T := fun k => match k with
  | _ => ("", "", "", false)
def RJx3cf43 : String := "java/lang/constant/ConstantDesc"
def TJx3cf43 : u_T := fun k => match k with
  | _ => ("", "", "", false)
def RJ7 : String := "java/util/Arrays"
def TJ7 : u_T := fun k => match k with
  | _ => ("", "", "", false)
def tyJ7 : Nat → FieldType := fun k => match k with
  | _ => .int
abbrev wsJ70 : List Cond := u_ws RJ7 TJ7 0
theorem nmJ7 : ∀ a, a < 0 → ∀ b, b < 0 → a ≠ b → (TJ7 a).2.1 ≠ (TJ7 b).2.1 := by decide +kernel
theorem tyJ7_ok : ∀ k, k < 0 → parseFieldDescriptor (TJ7 k).2.2.1 = some (tyJ7 k) := by decide +kernel
abbrev cJ7_fill_d0a16 : ByteArray := prog_26_method_101_code
def yJ7_fill_d0a16 : MethodName := ⟨RJ7, "fill", "([JJ)V"⟩
abbrev cJ7_fill_53178 : ByteArray := prog_26_method_103_code
def yJ7_fill_53178 : MethodName := ⟨RJ7, "fill", "([II)V"⟩
def RJ3 : String := "jdk/internal/util/Preconditions"
def TJ3 : u_T := fun k => match k with
  | _ => ("", "", "", false)
def tyJ3 : Nat → FieldType := fun k => match k with
  | _ => .int
abbrev wsJ30 : List Cond := u_ws RJ3 TJ3 0
theorem nmJ3 : ∀ a, a < 0 → ∀ b, b < 0 → a ≠ b → (TJ3 a).2.1 ≠ (TJ3 b).2.1 := by decide +kernel
theorem tyJ3_ok : ∀ k, k < 0 → parseFieldDescriptor (TJ3 k).2.2.1 = some (tyJ3 k) := by decide +kernel
abbrev cJ3_checkIndex_8e157 : ByteArray := prog_28_method_11_code
def yJ3_checkIndex_8e157 : MethodName := ⟨RJ3, "checkIndex", "(IILjava/util/function/BiFunction;)I"⟩
def RL : String := "TillTheBellLaw"
abbrev cL_town : ByteArray := method_3_code
def yL_town : MethodName := ⟨RL, "town", "(LTillTheBell;I[J)I"⟩
abbrev cL_person : ByteArray := method_4_code
def yL_person : MethodName := ⟨RL, "person", "(LTillTheBell;II[J)I"⟩
abbrev cL_worth : ByteArray := method_5_code
def yL_worth : MethodName := ⟨RL, "worth", "(LTillTheBell;II[J)I"⟩
abbrev cL_holder : ByteArray := method_6_code
def yL_holder : MethodName := ⟨RL, "holder", "(LTillTheBell;I[J)I"⟩
abbrev cL_eat : ByteArray := method_7_code
def yL_eat : MethodName := ⟨RL, "eat", "(LTillTheBell;I[J)I"⟩
abbrev cL_pass : ByteArray := method_8_code
def yL_pass : MethodName := ⟨RL, "pass", "(LTillTheBell;I[J)I"⟩
abbrev cL_morning : ByteArray := method_9_code
def yL_morning : MethodName := ⟨RL, "morning", "(LTillTheBell;[J)I"⟩
abbrev cL_deed : ByteArray := method_10_code
def yL_deed : MethodName := ⟨RL, "deed", "(LTillTheBell;II[J)I"⟩
abbrev cL_may : ByteArray := method_11_code
def yL_may : MethodName := ⟨RL, "may", "(LTillTheBell;II[J)I"⟩
abbrev cL_undo : ByteArray := method_12_code
def yL_undo : MethodName := ⟨RL, "undo", "(LTillTheBell;II[J)I"⟩
abbrev cL_falls : ByteArray := method_13_code
def yL_falls : MethodName := ⟨RL, "falls", "(LTillTheBell;I[J)I"⟩
abbrev cL_owes : ByteArray := method_14_code
def yL_owes : MethodName := ⟨RL, "owes", "(LTillTheBell;III[J)I"⟩
abbrev cL_chain : ByteArray := method_15_code
def yL_chain : MethodName := ⟨RL, "chain", "(LTillTheBell;II[J)I"⟩
abbrev cL_judge : ByteArray := method_16_code
def yL_judge : MethodName := ⟨RL, "judge", "(LTillTheBell;II[J)I"⟩
abbrev cL_perform : ByteArray := method_17_code
def yL_perform : MethodName := ⟨RL, "perform", "(LTillTheBell;I[J)I"⟩
abbrev cL_day : ByteArray := method_18_code
def yL_day : MethodName := ⟨RL, "day", "(LTillTheBell;II[J)I"⟩
abbrev cL_gain : ByteArray := method_19_code
def yL_gain : MethodName := ⟨RL, "gain", "(LTillTheBell;II[J)I"⟩
abbrev cL_pledge : ByteArray := method_20_code
def yL_pledge : MethodName := ⟨RL, "pledge", "(LTillTheBell;I[J)I"⟩
abbrev cL_debt : ByteArray := method_21_code
def yL_debt : MethodName := ⟨RL, "debt", "(LTillTheBell;II[J)I"⟩
abbrev cL_safePrice : ByteArray := method_22_code
def yL_safePrice : MethodName := ⟨RL, "safePrice", "(LTillTheBell;III[J)I"⟩
abbrev cL_bidder : ByteArray := method_23_code
def yL_bidder : MethodName := ⟨RL, "bidder", "(LTillTheBell;I[J)I"⟩
abbrev cL_keeper : ByteArray := method_24_code
def yL_keeper : MethodName := ⟨RL, "keeper", "(LTillTheBell;II[J)I"⟩
abbrev cL_endFrom : ByteArray := method_25_code
def yL_endFrom : MethodName := ⟨RL, "endFrom", "(LTillTheBell;I[J)I"⟩
abbrev cL_end : ByteArray := method_26_code
def yL_end : MethodName := ⟨RL, "end", "(LTillTheBell;II[J)I"⟩
abbrev cL_ringer : ByteArray := method_27_code
def yL_ringer : MethodName := ⟨RL, "ringer", "(LTillTheBell;I[J)I"⟩
abbrev cL_news : ByteArray := method_28_code
def yL_news : MethodName := ⟨RL, "news", "(LTillTheBell;III[J)I"⟩
abbrev cL_share : ByteArray := method_29_code
def yL_share : MethodName := ⟨RL, "share", "(LTillTheBell;I[J)I"⟩
abbrev cL_hope : ByteArray := method_30_code
def yL_hope : MethodName := ⟨RL, "hope", "(LTillTheBell;IIII[J)I"⟩
abbrev cL_tray : ByteArray := method_31_code
def yL_tray : MethodName := ⟨RL, "tray", "(LTillTheBell;III)I"⟩
abbrev cL_write : ByteArray := method_32_code
def yL_write : MethodName := ⟨RL, "write", "(LTillTheBell;IIJ[J)I"⟩
abbrev cL_pour : ByteArray := method_33_code
def yL_pour : MethodName := ⟨RL, "pour", "(LTillTheBell;I[J)I"⟩
abbrev cL_image : ByteArray := method_34_code
def yL_image : MethodName := ⟨RL, "image", "(LTillTheBell;I)I"⟩
abbrev cL_restore : ByteArray := method_35_code
def yL_restore : MethodName := ⟨RL, "restore", "(LTillTheBell;I)I"⟩
abbrev cL_law : ByteArray := code
def yL_law : MethodName := ⟨RL, "law", "([I)Z"⟩
abbrev vwCl : List vw_C := [(RX0, TX0, 1), (RX1, TX1, 15), (RX2, TX2, 10), (RX3, TX3, 17), (RX4, TX4, 4), (RX5, TX5, 7), (RX6, TX6, 29)]
end
section
/-- the words of all methods -/
def jbig : List Cond := lw_tbl.filter goodWord
theorem jbig_good {w : Cond} (h : w ∈ jbig) : goodWord w = true := (List.mem_filter.mp h).2
theorem jbig_of {w : Cond} (i : Nat) (h : lw_tbl[i]? = some w) (g : goodWord w = true) : w ∈ jbig := List.mem_filter.mpr ⟨List.mem_of_getElem? h, g⟩
def jws (y : MethodName) (b : ByteArray) (n : Nat) (r : Option FieldType) : List Cond := .code y b n r :: jbig
def jwsH (y : MethodName) (b : ByteArray) (n : Nat) (r : Option FieldType) (hh : List (Nat × Nat × Nat × Nat)) : List Cond := .codeWith y b n r hh :: jbig
theorem jbig_in {w : Cond} (h : w ∈ lw_tbl) (g : goodWord w = true) : w ∈ jbig := List.mem_filter.mpr ⟨h, g⟩
theorem jtb_0 {w : Cond} (h : w ∈ tables_1) : w ∈ lw_tbl := List.mem_append_right _ h
theorem jtb_1 (w : Cond) (h : w ∈ tables_1_1) : w ∈ lw_tbl := jtb_0 (show w ∈ tables_1 from List.mem_append_left _ h)
theorem jtb_2 (w : Cond) (h : w ∈ tables_1_2) : w ∈ lw_tbl := jtb_0 (show w ∈ tables_1 from List.mem_append_right _ (List.mem_append_left _ h))
theorem jtb_3 (w : Cond) (h : w ∈ tables_1_3) : w ∈ lw_tbl := jtb_0 (show w ∈ tables_1 from List.mem_append_right _ (List.mem_append_right _ (List.mem_append_left _ h)))
theorem jtb_4 (w : Cond) (h : w ∈ tables_1_4) : w ∈ lw_tbl := jtb_0 (show w ∈ tables_1 from List.mem_append_right _ (List.mem_append_right _ (List.mem_append_right _ (List.mem_append_left _ h))))
theorem jtb_5 (w : Cond) (h : w ∈ tables_1_5) : w ∈ lw_tbl := jtb_0 (show w ∈ tables_1 from List.mem_append_right _ (List.mem_append_right _ (List.mem_append_right _ (List.mem_append_right _ (List.mem_append_left _ h)))))
theorem jtb_6 (w : Cond) (h : w ∈ tables_1_6) : w ∈ lw_tbl := jtb_0 (show w ∈ tables_1 from List.mem_append_right _ (List.mem_append_right _ (List.mem_append_right _ (List.mem_append_right _ (List.mem_append_right _ (List.mem_append_left _ h))))))
theorem jtb_7 (w : Cond) (h : w ∈ tables_1_7) : w ∈ lw_tbl := jtb_0 (show w ∈ tables_1 from List.mem_append_right _ (List.mem_append_right _ (List.mem_append_right _ (List.mem_append_right _ (List.mem_append_right _ (List.mem_append_right _ (List.mem_append_left _ h)))))))
theorem jtb_8 (w : Cond) (h : w ∈ tables_1_8) : w ∈ lw_tbl := jtb_0 (show w ∈ tables_1 from List.mem_append_right _ (List.mem_append_right _ (List.mem_append_right _ (List.mem_append_right _ (List.mem_append_right _ (List.mem_append_right _ (List.mem_append_right _ (h))))))))
end
section
theorem wd521 : Cond.constant RJ6 265 (1431655765) ∈ jbig := jbig_in (jtb_2 _ (List.mem_of_getElem? (i := 178) rfl)) rfl
theorem wd522 : Cond.constant RJ6 266 (858993459) ∈ jbig := jbig_in (jtb_2 _ (List.mem_of_getElem? (i := 179) rfl)) rfl
theorem wd523 : Cond.constant RJ6 267 (252645135) ∈ jbig := jbig_in (jtb_2 _ (List.mem_of_getElem? (i := 180) rfl)) rfl
theorem wd155 : Cond.fieldLink RX3 9 "TillTheBell$Town" "share" "I" ∈ jbig := jbig_in (jtb_1 _ (List.mem_of_getElem? (i := 52) rfl)) rfl
theorem wd158 : Cond.fieldLink RX3 15 "TillTheBell$Town" "bell" "I" ∈ jbig := jbig_in (jtb_1 _ (List.mem_of_getElem? (i := 55) rfl)) rfl
theorem wd170 : Cond.fieldLink RX3 18 "TillTheBell$Town" "coins" "[I" ∈ jbig := jbig_in (jtb_1 _ (List.mem_of_getElem? (i := 67) rfl)) rfl
theorem wd173 : Cond.fieldLink RX3 22 "TillTheBell$Town" "holders" "[I" ∈ jbig := jbig_in (jtb_1 _ (List.mem_of_getElem? (i := 70) rfl)) rfl
theorem wd176 : Cond.fieldLink RX3 25 "TillTheBell$Town" "worths" "[I" ∈ jbig := jbig_in (jtb_1 _ (List.mem_of_getElem? (i := 73) rfl)) rfl
theorem wd177 : Cond.fieldLink RX3 28 "TillTheBell$Town" "thingOf" "[I" ∈ jbig := jbig_in (jtb_1 _ (List.mem_of_getElem? (i := 74) rfl)) rfl
theorem wd180 : Cond.fieldLink RX3 31 "TillTheBell$Town" "giverOf" "[I" ∈ jbig := jbig_in (jtb_1 _ (List.mem_of_getElem? (i := 77) rfl)) rfl
theorem wd183 : Cond.fieldLink RX3 34 "TillTheBell$Town" "takerOf" "[I" ∈ jbig := jbig_in (jtb_1 _ (List.mem_of_getElem? (i := 80) rfl)) rfl
theorem wd186 : Cond.fieldLink RX3 37 "TillTheBell$Town" "priceOf" "[I" ∈ jbig := jbig_in (jtb_1 _ (List.mem_of_getElem? (i := 83) rfl)) rfl
theorem wd188 : Cond.fieldLink RX3 40 "TillTheBell$Town" "minuteOf" "[I" ∈ jbig := jbig_in (jtb_1 _ (List.mem_of_getElem? (i := 85) rfl)) rfl
theorem wd140 : Cond.fieldLink RX3 43 "TillTheBell$Town" "lines" "I" ∈ jbig := jbig_in (jtb_1 _ (List.mem_of_getElem? (i := 37) rfl)) rfl
theorem wd143 : Cond.fieldLink RX3 46 "TillTheBell$Town" "people" "I" ∈ jbig := jbig_in (jtb_1 _ (List.mem_of_getElem? (i := 40) rfl)) rfl
theorem wd148 : Cond.fieldLink RX3 49 "TillTheBell$Town" "things" "I" ∈ jbig := jbig_in (jtb_1 _ (List.mem_of_getElem? (i := 45) rfl)) rfl
theorem wd152 : Cond.fieldLink RX3 52 "TillTheBell$Town" "eaten" "I" ∈ jbig := jbig_in (jtb_1 _ (List.mem_of_getElem? (i := 49) rfl)) rfl
theorem wd161 : Cond.fieldLink RX3 55 "TillTheBell$Town" "minute" "I" ∈ jbig := jbig_in (jtb_1 _ (List.mem_of_getElem? (i := 58) rfl)) rfl
theorem wd163 : Cond.fieldLink RX3 58 "TillTheBell$Town" "deeds" "I" ∈ jbig := jbig_in (jtb_1 _ (List.mem_of_getElem? (i := 60) rfl)) rfl
theorem wd167 : Cond.fieldLink RX3 61 "TillTheBell$Town" "standing" "I" ∈ jbig := jbig_in (jtb_1 _ (List.mem_of_getElem? (i := 64) rfl)) rfl
theorem wd730 : Cond.methodLink RX3 64 yJ7_fill_53178 ∈ jbig := jbig_in (jtb_3 _ (List.mem_of_getElem? (i := 147) rfl)) rfl
theorem wd544 : Cond.code yJ7_fill_53178 cJ7_fill_53178 4 none ∈ jbig := jbig_in (jtb_2 _ (List.mem_of_getElem? (i := 201) rfl)) rfl
theorem wd114 : Cond.initialized RJ7 ∈ jbig := jbig_in (jtb_1 _ (List.mem_of_getElem? (i := 11) rfl)) rfl
theorem wd543 : Cond.static yJ7_fill_53178 ∈ jbig := jbig_in (jtb_2 _ (List.mem_of_getElem? (i := 200) rfl)) rfl
theorem wd396 : Cond.methodLink RX3 76 yX3_hasRung ∈ jbig := jbig_in (jtb_2 _ (List.mem_of_getElem? (i := 53) rfl)) rfl
theorem wd399 : Cond.code yX3_hasRung cX3_hasRung 1 (some .boolean) ∈ jbig := jbig_in (jtb_2 _ (List.mem_of_getElem? (i := 56) rfl)) rfl
theorem wd105 : Cond.initialized RX3 ∈ jbig := jbig_in (jtb_1 _ (List.mem_of_getElem? (i := 2) rfl)) rfl
theorem wd397 : Cond.instanceMethod yX3_hasRung ∈ jbig := jbig_in (jtb_2 _ (List.mem_of_getElem? (i := 54) rfl)) rfl
theorem wd398 : Cond.selects yX3_hasRung.cls yX3_hasRung yX3_hasRung ∈ jbig := jbig_in (jtb_2 _ (List.mem_of_getElem? (i := 55) rfl)) rfl
theorem wd420 : Cond.methodLink RX3 80 yX3_stands ∈ jbig := jbig_in (jtb_2 _ (List.mem_of_getElem? (i := 77) rfl)) rfl
theorem wd423 : Cond.code yX3_stands cX3_stands 2 (some .boolean) ∈ jbig := jbig_in (jtb_2 _ (List.mem_of_getElem? (i := 80) rfl)) rfl
theorem wd421 : Cond.instanceMethod yX3_stands ∈ jbig := jbig_in (jtb_2 _ (List.mem_of_getElem? (i := 78) rfl)) rfl
theorem wd422 : Cond.selects yX3_stands.cls yX3_stands yX3_stands ∈ jbig := jbig_in (jtb_2 _ (List.mem_of_getElem? (i := 79) rfl)) rfl
theorem wd400 : Cond.methodLink RX3 84 yX3_isEaten ∈ jbig := jbig_in (jtb_2 _ (List.mem_of_getElem? (i := 57) rfl)) rfl
theorem wd403 : Cond.code yX3_isEaten cX3_isEaten 2 (some .boolean) ∈ jbig := jbig_in (jtb_2 _ (List.mem_of_getElem? (i := 60) rfl)) rfl
theorem wd401 : Cond.instanceMethod yX3_isEaten ∈ jbig := jbig_in (jtb_2 _ (List.mem_of_getElem? (i := 58) rfl)) rfl
theorem wd402 : Cond.selects yX3_isEaten.cls yX3_isEaten yX3_isEaten ∈ jbig := jbig_in (jtb_2 _ (List.mem_of_getElem? (i := 59) rfl)) rfl
theorem wd416 : Cond.methodLink RX3 87 yX3_isOpen ∈ jbig := jbig_in (jtb_2 _ (List.mem_of_getElem? (i := 73) rfl)) rfl
theorem wd419 : Cond.code yX3_isOpen cX3_isOpen 2 (some .boolean) ∈ jbig := jbig_in (jtb_2 _ (List.mem_of_getElem? (i := 76) rfl)) rfl
theorem wd417 : Cond.instanceMethod yX3_isOpen ∈ jbig := jbig_in (jtb_2 _ (List.mem_of_getElem? (i := 74) rfl)) rfl
theorem wd418 : Cond.selects yX3_isOpen.cls yX3_isOpen yX3_isOpen ∈ jbig := jbig_in (jtb_2 _ (List.mem_of_getElem? (i := 75) rfl)) rfl
theorem wd445 : Cond.methodLink RX3 90 yX3_worthTo ∈ jbig := jbig_in (jtb_2 _ (List.mem_of_getElem? (i := 102) rfl)) rfl
theorem wd448 : Cond.code yX3_worthTo cX3_worthTo 3 (some .int) ∈ jbig := jbig_in (jtb_2 _ (List.mem_of_getElem? (i := 105) rfl)) rfl
theorem wd446 : Cond.instanceMethod yX3_worthTo ∈ jbig := jbig_in (jtb_2 _ (List.mem_of_getElem? (i := 103) rfl)) rfl
theorem wd447 : Cond.selects yX3_worthTo.cls yX3_worthTo yX3_worthTo ∈ jbig := jbig_in (jtb_2 _ (List.mem_of_getElem? (i := 104) rfl)) rfl
theorem wd646 : Cond.methodLink RX3 94 yX3_wealth ∈ jbig := jbig_in (jtb_3 _ (List.mem_of_getElem? (i := 63) rfl)) rfl
theorem wd649 : Cond.code yX3_wealth cX3_wealth 4 (some .int) ∈ jbig := jbig_in (jtb_3 _ (List.mem_of_getElem? (i := 66) rfl)) rfl
theorem wd647 : Cond.instanceMethod yX3_wealth ∈ jbig := jbig_in (jtb_3 _ (List.mem_of_getElem? (i := 64) rfl)) rfl
theorem wd648 : Cond.selects yX3_wealth.cls yX3_wealth yX3_wealth ∈ jbig := jbig_in (jtb_3 _ (List.mem_of_getElem? (i := 65) rfl)) rfl
theorem wd453 : Cond.methodLink RX3 98 Lib.Math.max.name ∈ jbig := jbig_in (jtb_2 _ (List.mem_of_getElem? (i := 110) rfl)) rfl
theorem wd454 : Cond.static Lib.Math.max.name ∈ jbig := jbig_in (jtb_2 _ (List.mem_of_getElem? (i := 111) rfl)) rfl
theorem wd121 : Cond.initialized "java/lang/Math" ∈ jbig := jbig_in (jtb_1 _ (List.mem_of_getElem? (i := 18) rfl)) rfl
theorem wd455 : Cond.code Lib.Math.max.name Lib.Math.max.code 2 (some .int) ∈ jbig := jbig_in (jtb_2 _ (List.mem_of_getElem? (i := 112) rfl)) rfl
theorem wd388 : Cond.methodLink RX3 103 yX3_hasThing ∈ jbig := jbig_in (jtb_2 _ (List.mem_of_getElem? (i := 45) rfl)) rfl
theorem wd391 : Cond.code yX3_hasThing cX3_hasThing 2 (some .boolean) ∈ jbig := jbig_in (jtb_2 _ (List.mem_of_getElem? (i := 48) rfl)) rfl
theorem wd389 : Cond.instanceMethod yX3_hasThing ∈ jbig := jbig_in (jtb_2 _ (List.mem_of_getElem? (i := 46) rfl)) rfl
theorem wd390 : Cond.selects yX3_hasThing.cls yX3_hasThing yX3_hasThing ∈ jbig := jbig_in (jtb_2 _ (List.mem_of_getElem? (i := 47) rfl)) rfl
theorem wd392 : Cond.methodLink RX3 106 yX3_hasPerson ∈ jbig := jbig_in (jtb_2 _ (List.mem_of_getElem? (i := 49) rfl)) rfl
theorem wd395 : Cond.code yX3_hasPerson cX3_hasPerson 2 (some .boolean) ∈ jbig := jbig_in (jtb_2 _ (List.mem_of_getElem? (i := 52) rfl)) rfl
theorem wd393 : Cond.instanceMethod yX3_hasPerson ∈ jbig := jbig_in (jtb_2 _ (List.mem_of_getElem? (i := 50) rfl)) rfl
theorem wd394 : Cond.selects yX3_hasPerson.cls yX3_hasPerson yX3_hasPerson ∈ jbig := jbig_in (jtb_2 _ (List.mem_of_getElem? (i := 51) rfl)) rfl
theorem wd437 : Cond.methodLink RX3 134 yX3_fallsWith ∈ jbig := jbig_in (jtb_2 _ (List.mem_of_getElem? (i := 94) rfl)) rfl
theorem wd440 : Cond.code yX3_fallsWith cX3_fallsWith 3 (some .boolean) ∈ jbig := jbig_in (jtb_2 _ (List.mem_of_getElem? (i := 97) rfl)) rfl
theorem wd438 : Cond.instanceMethod yX3_fallsWith ∈ jbig := jbig_in (jtb_2 _ (List.mem_of_getElem? (i := 95) rfl)) rfl
theorem wd439 : Cond.selects yX3_fallsWith.cls yX3_fallsWith yX3_fallsWith ∈ jbig := jbig_in (jtb_2 _ (List.mem_of_getElem? (i := 96) rfl)) rfl
theorem wd449 : Cond.methodLink RX3 137 yX3_worthToGiver ∈ jbig := jbig_in (jtb_2 _ (List.mem_of_getElem? (i := 106) rfl)) rfl
theorem wd452 : Cond.code yX3_worthToGiver cX3_worthToGiver 2 (some .int) ∈ jbig := jbig_in (jtb_2 _ (List.mem_of_getElem? (i := 109) rfl)) rfl
theorem wd450 : Cond.instanceMethod yX3_worthToGiver ∈ jbig := jbig_in (jtb_2 _ (List.mem_of_getElem? (i := 107) rfl)) rfl
theorem wd451 : Cond.selects yX3_worthToGiver.cls yX3_worthToGiver yX3_worthToGiver ∈ jbig := jbig_in (jtb_2 _ (List.mem_of_getElem? (i := 108) rfl)) rfl
theorem wd456 : Cond.methodLink RX3 140 yX3_cut ∈ jbig := jbig_in (jtb_2 _ (List.mem_of_getElem? (i := 113) rfl)) rfl
theorem wd459 : Cond.code yX3_cut cX3_cut 2 (some .int) ∈ jbig := jbig_in (jtb_2 _ (List.mem_of_getElem? (i := 116) rfl)) rfl
theorem wd457 : Cond.instanceMethod yX3_cut ∈ jbig := jbig_in (jtb_2 _ (List.mem_of_getElem? (i := 114) rfl)) rfl
theorem wd458 : Cond.selects yX3_cut.cls yX3_cut yX3_cut ∈ jbig := jbig_in (jtb_2 _ (List.mem_of_getElem? (i := 115) rfl)) rfl
theorem wd460 : Cond.methodLink RX3 143 yX3_worthToTaker ∈ jbig := jbig_in (jtb_2 _ (List.mem_of_getElem? (i := 117) rfl)) rfl
theorem wd463 : Cond.code yX3_worthToTaker cX3_worthToTaker 2 (some .int) ∈ jbig := jbig_in (jtb_2 _ (List.mem_of_getElem? (i := 120) rfl)) rfl
theorem wd461 : Cond.instanceMethod yX3_worthToTaker ∈ jbig := jbig_in (jtb_2 _ (List.mem_of_getElem? (i := 118) rfl)) rfl
theorem wd462 : Cond.selects yX3_worthToTaker.cls yX3_worthToTaker yX3_worthToTaker ∈ jbig := jbig_in (jtb_2 _ (List.mem_of_getElem? (i := 119) rfl)) rfl
theorem wd489 : Cond.methodLink RX3 109 yX3_hasDeed ∈ jbig := jbig_in (jtb_2 _ (List.mem_of_getElem? (i := 146) rfl)) rfl
theorem wd492 : Cond.code yX3_hasDeed cX3_hasDeed 2 (some .boolean) ∈ jbig := jbig_in (jtb_2 _ (List.mem_of_getElem? (i := 149) rfl)) rfl
theorem wd490 : Cond.instanceMethod yX3_hasDeed ∈ jbig := jbig_in (jtb_2 _ (List.mem_of_getElem? (i := 147) rfl)) rfl
theorem wd491 : Cond.selects yX3_hasDeed.cls yX3_hasDeed yX3_hasDeed ∈ jbig := jbig_in (jtb_2 _ (List.mem_of_getElem? (i := 148) rfl)) rfl
theorem wd493 : Cond.methodLink RX3 112 yX3_isOf ∈ jbig := jbig_in (jtb_2 _ (List.mem_of_getElem? (i := 150) rfl)) rfl
theorem wd496 : Cond.code yX3_isOf cX3_isOf 3 (some .boolean) ∈ jbig := jbig_in (jtb_2 _ (List.mem_of_getElem? (i := 153) rfl)) rfl
theorem wd494 : Cond.instanceMethod yX3_isOf ∈ jbig := jbig_in (jtb_2 _ (List.mem_of_getElem? (i := 151) rfl)) rfl
theorem wd495 : Cond.selects yX3_isOf.cls yX3_isOf yX3_isOf ∈ jbig := jbig_in (jtb_2 _ (List.mem_of_getElem? (i := 152) rfl)) rfl
theorem wd497 : Cond.methodLink RX3 116 yX3_priceChange ∈ jbig := jbig_in (jtb_2 _ (List.mem_of_getElem? (i := 154) rfl)) rfl
theorem wd500 : Cond.code yX3_priceChange cX3_priceChange 5 (some .int) ∈ jbig := jbig_in (jtb_2 _ (List.mem_of_getElem? (i := 157) rfl)) rfl
theorem wd498 : Cond.instanceMethod yX3_priceChange ∈ jbig := jbig_in (jtb_2 _ (List.mem_of_getElem? (i := 155) rfl)) rfl
theorem wd499 : Cond.selects yX3_priceChange.cls yX3_priceChange yX3_priceChange ∈ jbig := jbig_in (jtb_2 _ (List.mem_of_getElem? (i := 156) rfl)) rfl
theorem wd501 : Cond.methodLink RX3 119 yX3_owedToAll ∈ jbig := jbig_in (jtb_2 _ (List.mem_of_getElem? (i := 158) rfl)) rfl
theorem wd504 : Cond.code yX3_owedToAll cX3_owedToAll 5 (some .int) ∈ jbig := jbig_in (jtb_2 _ (List.mem_of_getElem? (i := 161) rfl)) rfl
theorem wd502 : Cond.instanceMethod yX3_owedToAll ∈ jbig := jbig_in (jtb_2 _ (List.mem_of_getElem? (i := 159) rfl)) rfl
theorem wd503 : Cond.selects yX3_owedToAll.cls yX3_owedToAll yX3_owedToAll ∈ jbig := jbig_in (jtb_2 _ (List.mem_of_getElem? (i := 160) rfl)) rfl
theorem wd510 : Cond.methodLink RX3 122 yX3_fallBits ∈ jbig := jbig_in (jtb_2 _ (List.mem_of_getElem? (i := 167) rfl)) rfl
theorem wd513 : Cond.code yX3_fallBits cX3_fallBits 4 (some .int) ∈ jbig := jbig_in (jtb_2 _ (List.mem_of_getElem? (i := 170) rfl)) rfl
theorem wd511 : Cond.instanceMethod yX3_fallBits ∈ jbig := jbig_in (jtb_2 _ (List.mem_of_getElem? (i := 168) rfl)) rfl
theorem wd512 : Cond.selects yX3_fallBits.cls yX3_fallBits yX3_fallBits ∈ jbig := jbig_in (jtb_2 _ (List.mem_of_getElem? (i := 169) rfl)) rfl
theorem wd518 : Cond.methodLink RX3 129 yJ6_bitCount_0f7a4 ∈ jbig := jbig_in (jtb_2 _ (List.mem_of_getElem? (i := 175) rfl)) rfl
theorem wd520 : Cond.code yJ6_bitCount_0f7a4 cJ6_bitCount_0f7a4 1 (some .int) ∈ jbig := jbig_in (jtb_2 _ (List.mem_of_getElem? (i := 177) rfl)) rfl
theorem wd123 : Cond.initialized RJ6 ∈ jbig := jbig_in (jtb_1 _ (List.mem_of_getElem? (i := 20) rfl)) rfl
theorem wd519 : Cond.static yJ6_bitCount_0f7a4 ∈ jbig := jbig_in (jtb_2 _ (List.mem_of_getElem? (i := 176) rfl)) rfl
theorem wd514 : Cond.methodLink RX3 125 yX3_owedTo ∈ jbig := jbig_in (jtb_2 _ (List.mem_of_getElem? (i := 171) rfl)) rfl
theorem wd517 : Cond.code yX3_owedTo cX3_owedTo 6 (some .int) ∈ jbig := jbig_in (jtb_2 _ (List.mem_of_getElem? (i := 174) rfl)) rfl
theorem wd515 : Cond.instanceMethod yX3_owedTo ∈ jbig := jbig_in (jtb_2 _ (List.mem_of_getElem? (i := 172) rfl)) rfl
theorem wd516 : Cond.selects yX3_owedTo.cls yX3_owedTo yX3_owedTo ∈ jbig := jbig_in (jtb_2 _ (List.mem_of_getElem? (i := 173) rfl)) rfl
theorem wd441 : Cond.methodLink RX3 146 yX3_partOfUndoer ∈ jbig := jbig_in (jtb_2 _ (List.mem_of_getElem? (i := 98) rfl)) rfl
theorem wd444 : Cond.code yX3_partOfUndoer cX3_partOfUndoer 6 (some .int) ∈ jbig := jbig_in (jtb_2 _ (List.mem_of_getElem? (i := 101) rfl)) rfl
theorem wd442 : Cond.instanceMethod yX3_partOfUndoer ∈ jbig := jbig_in (jtb_2 _ (List.mem_of_getElem? (i := 99) rfl)) rfl
theorem wd443 : Cond.selects yX3_partOfUndoer.cls yX3_partOfUndoer yX3_partOfUndoer ∈ jbig := jbig_in (jtb_2 _ (List.mem_of_getElem? (i := 100) rfl)) rfl
theorem wd433 : Cond.methodLink RX3 149 yX3_gainOf ∈ jbig := jbig_in (jtb_2 _ (List.mem_of_getElem? (i := 90) rfl)) rfl
theorem wd436 : Cond.code yX3_gainOf cX3_gainOf 5 (some .int) ∈ jbig := jbig_in (jtb_2 _ (List.mem_of_getElem? (i := 93) rfl)) rfl
theorem wd434 : Cond.instanceMethod yX3_gainOf ∈ jbig := jbig_in (jtb_2 _ (List.mem_of_getElem? (i := 91) rfl)) rfl
theorem wd435 : Cond.selects yX3_gainOf.cls yX3_gainOf yX3_gainOf ∈ jbig := jbig_in (jtb_2 _ (List.mem_of_getElem? (i := 92) rfl)) rfl
theorem wd481 : Cond.methodLink RX3 152 yX3_sideOf ∈ jbig := jbig_in (jtb_2 _ (List.mem_of_getElem? (i := 138) rfl)) rfl
theorem wd484 : Cond.code yX3_sideOf cX3_sideOf 3 (some .int) ∈ jbig := jbig_in (jtb_2 _ (List.mem_of_getElem? (i := 141) rfl)) rfl
theorem wd482 : Cond.instanceMethod yX3_sideOf ∈ jbig := jbig_in (jtb_2 _ (List.mem_of_getElem? (i := 139) rfl)) rfl
theorem wd483 : Cond.selects yX3_sideOf.cls yX3_sideOf yX3_sideOf ∈ jbig := jbig_in (jtb_2 _ (List.mem_of_getElem? (i := 140) rfl)) rfl
theorem wd485 : Cond.methodLink RX3 155 yX3_whyNoUndoing ∈ jbig := jbig_in (jtb_2 _ (List.mem_of_getElem? (i := 142) rfl)) rfl
theorem wd488 : Cond.code yX3_whyNoUndoing cX3_whyNoUndoing 3 (some .int) ∈ jbig := jbig_in (jtb_2 _ (List.mem_of_getElem? (i := 145) rfl)) rfl
theorem wd486 : Cond.instanceMethod yX3_whyNoUndoing ∈ jbig := jbig_in (jtb_2 _ (List.mem_of_getElem? (i := 143) rfl)) rfl
theorem wd487 : Cond.selects yX3_whyNoUndoing.cls yX3_whyNoUndoing yX3_whyNoUndoing ∈ jbig := jbig_in (jtb_2 _ (List.mem_of_getElem? (i := 144) rfl)) rfl
theorem wd628 : Cond.methodLink RX3 158 yX3_wants ∈ jbig := jbig_in (jtb_3 _ (List.mem_of_getElem? (i := 45) rfl)) rfl
theorem wd619 : Cond.code yX3_wants cX3_wants 4 (some .boolean) ∈ jbig := jbig_in (jtb_3 _ (List.mem_of_getElem? (i := 36) rfl)) rfl
theorem wd617 : Cond.instanceMethod yX3_wants ∈ jbig := jbig_in (jtb_3 _ (List.mem_of_getElem? (i := 34) rfl)) rfl
theorem wd618 : Cond.selects yX3_wants.cls yX3_wants yX3_wants ∈ jbig := jbig_in (jtb_3 _ (List.mem_of_getElem? (i := 35) rfl)) rfl
theorem wd574 : Cond.methodLink RX3 70 arraycopyName ∈ jbig := jbig_in (jtb_2 _ (List.mem_of_getElem? (i := 231) rfl)) rfl
theorem wd576 : Cond.native arraycopyName ∈ jbig := jbig_in (jtb_2 _ (List.mem_of_getElem? (i := 233) rfl)) rfl
theorem wd575 : Cond.static arraycopyName ∈ jbig := jbig_in (jtb_2 _ (List.mem_of_getElem? (i := 232) rfl)) rfl
theorem wd119 : Cond.initialized "java/lang/System" ∈ jbig := jbig_in (jtb_1 _ (List.mem_of_getElem? (i := 16) rfl)) rfl
theorem wd330 : Cond.fieldLink RX4 9 "TillTheBell$Tray" "missing" "Z" ∈ jbig := jbig_in (jtb_1 _ (List.mem_of_getElem? (i := 227) rfl)) rfl
theorem wd334 : Cond.fieldLink RX4 15 "TillTheBell$Tray" "row" "[J" ∈ jbig := jbig_in (jtb_1 _ (List.mem_of_getElem? (i := 231) rfl)) rfl
theorem wd336 : Cond.fieldLink RX4 19 "TillTheBell$Tray" "sort" "I" ∈ jbig := jbig_in (jtb_1 _ (List.mem_of_getElem? (i := 233) rfl)) rfl
theorem wd332 : Cond.fieldLink RX4 23 "TillTheBell$Tray" "many" "I" ∈ jbig := jbig_in (jtb_1 _ (List.mem_of_getElem? (i := 229) rfl)) rfl
theorem wd1183 : Cond.constantLong RX4 36 (9999) ∈ jbig := jbig_in (jtb_5 _ (List.mem_of_getElem? (i := 120) rfl)) rfl
theorem wd1210 : Cond.methodLink RX4 26 yJ7_fill_d0a16 ∈ jbig := jbig_in (jtb_5 _ (List.mem_of_getElem? (i := 147) rfl)) rfl
theorem wd1212 : Cond.code yJ7_fill_d0a16 cJ7_fill_d0a16 5 none ∈ jbig := jbig_in (jtb_5 _ (List.mem_of_getElem? (i := 149) rfl)) rfl
theorem wd1211 : Cond.static yJ7_fill_d0a16 ∈ jbig := jbig_in (jtb_5 _ (List.mem_of_getElem? (i := 148) rfl)) rfl
theorem wd1240 : Cond.methodLink RX4 32 yX4_cutToSort ∈ jbig := jbig_in (jtb_5 _ (List.mem_of_getElem? (i := 177) rfl)) rfl
theorem wd1243 : Cond.code yX4_cutToSort cX4_cutToSort 3 (some .long) ∈ jbig := jbig_in (jtb_5 _ (List.mem_of_getElem? (i := 180) rfl)) rfl
theorem wd108 : Cond.initialized RX4 ∈ jbig := jbig_in (jtb_1 _ (List.mem_of_getElem? (i := 5) rfl)) rfl
theorem wd1242 : Cond.instanceMethod yX4_cutToSort ∈ jbig := jbig_in (jtb_5 _ (List.mem_of_getElem? (i := 179) rfl)) rfl
theorem wd41 : Cond.selects yX4_cutToSort.cls yX4_cutToSort yX4_cutToSort ∈ jbig := jbig_of 41 rfl rfl
theorem wd1192 : Cond.methodLink RX4 46 Lib.MathLoose.max_long.x ∈ jbig := jbig_in (jtb_5 _ (List.mem_of_getElem? (i := 129) rfl)) rfl
theorem wd1193 : Cond.static Lib.MathLoose.max_long.x ∈ jbig := jbig_in (jtb_5 _ (List.mem_of_getElem? (i := 130) rfl)) rfl
theorem wd1194 : Cond.code Lib.MathLoose.max_long.x Lib.MathLoose.max_long.code 4 (some .long) ∈ jbig := jbig_in (jtb_5 _ (List.mem_of_getElem? (i := 131) rfl)) rfl
theorem wd1188 : Cond.methodLink RX4 38 yX4_hopeAhead ∈ jbig := jbig_in (jtb_5 _ (List.mem_of_getElem? (i := 125) rfl)) rfl
theorem wd1191 : Cond.code yX4_hopeAhead cX4_hopeAhead 10 (some .long) ∈ jbig := jbig_in (jtb_5 _ (List.mem_of_getElem? (i := 128) rfl)) rfl
theorem wd1190 : Cond.instanceMethod yX4_hopeAhead ∈ jbig := jbig_in (jtb_5 _ (List.mem_of_getElem? (i := 127) rfl)) rfl
theorem wd39 : Cond.selects yX4_hopeAhead.cls yX4_hopeAhead yX4_hopeAhead ∈ jbig := jbig_of 39 rfl rfl
theorem wd1195 : Cond.methodLink RX4 42 yX4_leastTaken ∈ jbig := jbig_in (jtb_5 _ (List.mem_of_getElem? (i := 132) rfl)) rfl
theorem wd1198 : Cond.code yX4_leastTaken cX4_leastTaken 9 (some .int) ∈ jbig := jbig_in (jtb_5 _ (List.mem_of_getElem? (i := 135) rfl)) rfl
theorem wd1197 : Cond.instanceMethod yX4_leastTaken ∈ jbig := jbig_in (jtb_5 _ (List.mem_of_getElem? (i := 134) rfl)) rfl
theorem wd40 : Cond.selects yX4_leastTaken.cls yX4_leastTaken yX4_leastTaken ∈ jbig := jbig_of 40 rfl rfl
theorem wd1043 : Cond.fieldLink RX0 7 "TillTheBell$Draws" "x" "I" ∈ jbig := jbig_in (jtb_4 _ (List.mem_of_getElem? (i := 220) rfl)) rfl
theorem wd149 : Cond.fieldLink RX0 25 "TillTheBell$Town" "things" "I" ∈ jbig := jbig_in (jtb_1 _ (List.mem_of_getElem? (i := 46) rfl)) rfl
theorem wd145 : Cond.fieldLink RX0 30 "TillTheBell$Town" "people" "I" ∈ jbig := jbig_in (jtb_1 _ (List.mem_of_getElem? (i := 42) rfl)) rfl
theorem wd165 : Cond.fieldLink RX0 40 "TillTheBell$Town" "deeds" "I" ∈ jbig := jbig_in (jtb_1 _ (List.mem_of_getElem? (i := 62) rfl)) rfl
theorem wd1055 : Cond.constant RX0 13 (1103515245) ∈ jbig := jbig_in (jtb_4 _ (List.mem_of_getElem? (i := 232) rfl)) rfl
theorem wd1051 : Cond.methodLink RX0 14 yX0_draw ∈ jbig := jbig_in (jtb_4 _ (List.mem_of_getElem? (i := 228) rfl)) rfl
theorem wd1054 : Cond.code yX0_draw cX0_draw 2 (some .int) ∈ jbig := jbig_in (jtb_4 _ (List.mem_of_getElem? (i := 231) rfl)) rfl
theorem wd124 : Cond.initialized RX0 ∈ jbig := jbig_in (jtb_1 _ (List.mem_of_getElem? (i := 21) rfl)) rfl
theorem wd1053 : Cond.instanceMethod yX0_draw ∈ jbig := jbig_in (jtb_4 _ (List.mem_of_getElem? (i := 230) rfl)) rfl
theorem wd35 : Cond.selects yX0_draw.cls yX0_draw yX0_draw ∈ jbig := jbig_of 35 rfl rfl
theorem wd1067 : Cond.methodLink RX0 33 yX3_whyNoDeed ∈ jbig := jbig_in (jtb_5 _ (List.mem_of_getElem? (i := 4) rfl)) rfl
theorem wd387 : Cond.code yX3_whyNoDeed cX3_whyNoDeed 4 (some .int) ∈ jbig := jbig_in (jtb_2 _ (List.mem_of_getElem? (i := 44) rfl)) rfl
theorem wd385 : Cond.instanceMethod yX3_whyNoDeed ∈ jbig := jbig_in (jtb_2 _ (List.mem_of_getElem? (i := 42) rfl)) rfl
theorem wd386 : Cond.selects yX3_whyNoDeed.cls yX3_whyNoDeed yX3_whyNoDeed ∈ jbig := jbig_in (jtb_2 _ (List.mem_of_getElem? (i := 43) rfl)) rfl
theorem wd1068 : Cond.methodLink RX0 37 yX3_make ∈ jbig := jbig_in (jtb_5 _ (List.mem_of_getElem? (i := 5) rfl)) rfl
theorem wd407 : Cond.code yX3_make cX3_make 5 (some .int) ∈ jbig := jbig_in (jtb_2 _ (List.mem_of_getElem? (i := 64) rfl)) rfl
theorem wd405 : Cond.instanceMethod yX3_make ∈ jbig := jbig_in (jtb_2 _ (List.mem_of_getElem? (i := 62) rfl)) rfl
theorem wd406 : Cond.selects yX3_make.cls yX3_make yX3_make ∈ jbig := jbig_in (jtb_2 _ (List.mem_of_getElem? (i := 63) rfl)) rfl
theorem wd1060 : Cond.methodLink RX0 43 yX3_sideOf ∈ jbig := jbig_in (jtb_4 _ (List.mem_of_getElem? (i := 237) rfl)) rfl
theorem wd1061 : Cond.methodLink RX0 47 yX3_whyNoUndoing ∈ jbig := jbig_in (jtb_4 _ (List.mem_of_getElem? (i := 238) rfl)) rfl
theorem wd1062 : Cond.methodLink RX0 50 yX3_fell ∈ jbig := jbig_in (jtb_4 _ (List.mem_of_getElem? (i := 239) rfl)) rfl
theorem wd509 : Cond.code yX3_fell cX3_fell 6 (some .int) ∈ jbig := jbig_in (jtb_2 _ (List.mem_of_getElem? (i := 166) rfl)) rfl
theorem wd507 : Cond.instanceMethod yX3_fell ∈ jbig := jbig_in (jtb_2 _ (List.mem_of_getElem? (i := 164) rfl)) rfl
theorem wd508 : Cond.selects yX3_fell.cls yX3_fell yX3_fell ∈ jbig := jbig_in (jtb_2 _ (List.mem_of_getElem? (i := 165) rfl)) rfl
theorem wd1063 : Cond.methodLink RX0 22 yX0_deals ∈ jbig := jbig_in (jtb_5 _ (List.mem_of_getElem? (i := 0) rfl)) rfl
theorem wd1066 : Cond.code yX0_deals cX0_deals 5 (some .boolean) ∈ jbig := jbig_in (jtb_5 _ (List.mem_of_getElem? (i := 3) rfl)) rfl
theorem wd1065 : Cond.instanceMethod yX0_deals ∈ jbig := jbig_in (jtb_5 _ (List.mem_of_getElem? (i := 2) rfl)) rfl
theorem wd37 : Cond.selects yX0_deals.cls yX0_deals yX0_deals ∈ jbig := jbig_of 37 rfl rfl
theorem wd1056 : Cond.methodLink RX0 18 yX0_undoes ∈ jbig := jbig_in (jtb_4 _ (List.mem_of_getElem? (i := 233) rfl)) rfl
theorem wd1059 : Cond.code yX0_undoes cX0_undoes 4 (some .boolean) ∈ jbig := jbig_in (jtb_4 _ (List.mem_of_getElem? (i := 236) rfl)) rfl
theorem wd1058 : Cond.instanceMethod yX0_undoes ∈ jbig := jbig_in (jtb_4 _ (List.mem_of_getElem? (i := 235) rfl)) rfl
theorem wd36 : Cond.selects yX0_undoes.cls yX0_undoes yX0_undoes ∈ jbig := jbig_of 36 rfl rfl
theorem wd283 : Cond.fieldLink RX1 9 "TillTheBell$Ending" "deedAt" "[I" ∈ jbig := jbig_in (jtb_1 _ (List.mem_of_getElem? (i := 180) rfl)) rfl
theorem wd284 : Cond.fieldLink RX1 15 "TillTheBell$Ending" "withIt" "[I" ∈ jbig := jbig_in (jtb_1 _ (List.mem_of_getElem? (i := 181) rfl)) rfl
theorem wd285 : Cond.fieldLink RX1 18 "TillTheBell$Ending" "mine" "[I" ∈ jbig := jbig_in (jtb_1 _ (List.mem_of_getElem? (i := 182) rfl)) rfl
theorem wd286 : Cond.fieldLink RX1 21 "TillTheBell$Ending" "mineMany" "[I" ∈ jbig := jbig_in (jtb_1 _ (List.mem_of_getElem? (i := 183) rfl)) rfl
theorem wd287 : Cond.fieldLink RX1 24 "TillTheBell$Ending" "undoerParts" "[I" ∈ jbig := jbig_in (jtb_1 _ (List.mem_of_getElem? (i := 184) rfl)) rfl
theorem wd288 : Cond.fieldLink RX1 27 "TillTheBell$Ending" "otherParts" "[I" ∈ jbig := jbig_in (jtb_1 _ (List.mem_of_getElem? (i := 185) rfl)) rfl
theorem wd289 : Cond.fieldLink RX1 30 "TillTheBell$Ending" "ahead" "[I" ∈ jbig := jbig_in (jtb_1 _ (List.mem_of_getElem? (i := 186) rfl)) rfl
theorem wd290 : Cond.fieldLink RX1 33 "TillTheBell$Ending" "reached" "[I" ∈ jbig := jbig_in (jtb_1 _ (List.mem_of_getElem? (i := 187) rfl)) rfl
theorem wd291 : Cond.fieldLink RX1 36 "TillTheBell$Ending" "choices" "[J" ∈ jbig := jbig_in (jtb_1 _ (List.mem_of_getElem? (i := 188) rfl)) rfl
theorem wd292 : Cond.fieldLink RX1 40 "TillTheBell$Ending" "undone" "[I" ∈ jbig := jbig_in (jtb_1 _ (List.mem_of_getElem? (i := 189) rfl)) rfl
theorem wd144 : Cond.fieldLink RX1 55 "TillTheBell$Town" "people" "I" ∈ jbig := jbig_in (jtb_1 _ (List.mem_of_getElem? (i := 41) rfl)) rfl
theorem wd279 : Cond.fieldLink RX1 59 "TillTheBell$Ending" "people" "I" ∈ jbig := jbig_in (jtb_1 _ (List.mem_of_getElem? (i := 176) rfl)) rfl
theorem wd280 : Cond.fieldLink RX1 60 "TillTheBell$Ending" "first" "I" ∈ jbig := jbig_in (jtb_1 _ (List.mem_of_getElem? (i := 177) rfl)) rfl
theorem wd281 : Cond.fieldLink RX1 63 "TillTheBell$Ending" "turns" "I" ∈ jbig := jbig_in (jtb_1 _ (List.mem_of_getElem? (i := 178) rfl)) rfl
theorem wd282 : Cond.fieldLink RX1 66 "TillTheBell$Ending" "many" "I" ∈ jbig := jbig_in (jtb_1 _ (List.mem_of_getElem? (i := 179) rfl)) rfl
theorem wd164 : Cond.fieldLink RX1 75 "TillTheBell$Town" "deeds" "I" ∈ jbig := jbig_in (jtb_1 _ (List.mem_of_getElem? (i := 61) rfl)) rfl
theorem wd178 : Cond.fieldLink RX1 85 "TillTheBell$Town" "thingOf" "[I" ∈ jbig := jbig_in (jtb_1 _ (List.mem_of_getElem? (i := 75) rfl)) rfl
theorem wd181 : Cond.fieldLink RX1 88 "TillTheBell$Town" "giverOf" "[I" ∈ jbig := jbig_in (jtb_1 _ (List.mem_of_getElem? (i := 78) rfl)) rfl
theorem wd184 : Cond.fieldLink RX1 95 "TillTheBell$Town" "takerOf" "[I" ∈ jbig := jbig_in (jtb_1 _ (List.mem_of_getElem? (i := 81) rfl)) rfl
theorem wd169 : Cond.fieldLink RX1 137 "TillTheBell$Town" "standing" "I" ∈ jbig := jbig_in (jtb_1 _ (List.mem_of_getElem? (i := 66) rfl)) rfl
theorem wd277 : Cond.fieldLink RX1 140 "TillTheBell$Ending" "left" "I" ∈ jbig := jbig_in (jtb_1 _ (List.mem_of_getElem? (i := 174) rfl)) rfl
theorem wd611 : Cond.constantLong RX1 135 (15) ∈ jbig := jbig_in (jtb_3 _ (List.mem_of_getElem? (i := 28) rfl)) rfl
theorem wd549 : Cond.methodLink RX1 91 yX1_layFor ∈ jbig := jbig_in (jtb_2 _ (List.mem_of_getElem? (i := 206) rfl)) rfl
theorem wd552 : Cond.code yX1_layFor cX1_layFor 2 none ∈ jbig := jbig_in (jtb_2 _ (List.mem_of_getElem? (i := 209) rfl)) rfl
theorem wd107 : Cond.initialized RX1 ∈ jbig := jbig_in (jtb_1 _ (List.mem_of_getElem? (i := 4) rfl)) rfl
theorem wd551 : Cond.instanceMethod yX1_layFor ∈ jbig := jbig_in (jtb_2 _ (List.mem_of_getElem? (i := 208) rfl)) rfl
theorem wd2 : Cond.selects yX1_layFor.cls yX1_layFor yX1_layFor ∈ jbig := jbig_of 2 rfl rfl
theorem wd557 : Cond.methodLink RX1 98 yX1_whole ∈ jbig := jbig_in (jtb_2 _ (List.mem_of_getElem? (i := 214) rfl)) rfl
theorem wd560 : Cond.code yX1_whole cX1_whole 1 (some .int) ∈ jbig := jbig_in (jtb_2 _ (List.mem_of_getElem? (i := 217) rfl)) rfl
theorem wd559 : Cond.instanceMethod yX1_whole ∈ jbig := jbig_in (jtb_2 _ (List.mem_of_getElem? (i := 216) rfl)) rfl
theorem wd4 : Cond.selects yX1_whole.cls yX1_whole yX1_whole ∈ jbig := jbig_of 4 rfl rfl
theorem wd561 : Cond.methodLink RX1 101 yX1_personIn ∈ jbig := jbig_in (jtb_2 _ (List.mem_of_getElem? (i := 218) rfl)) rfl
theorem wd564 : Cond.code yX1_personIn cX1_personIn 2 (some .int) ∈ jbig := jbig_in (jtb_2 _ (List.mem_of_getElem? (i := 221) rfl)) rfl
theorem wd563 : Cond.instanceMethod yX1_personIn ∈ jbig := jbig_in (jtb_2 _ (List.mem_of_getElem? (i := 220) rfl)) rfl
theorem wd5 : Cond.selects yX1_personIn.cls yX1_personIn yX1_personIn ∈ jbig := jbig_of 5 rfl rfl
theorem wd565 : Cond.methodLink RX1 104 yX1_reachFrom ∈ jbig := jbig_in (jtb_2 _ (List.mem_of_getElem? (i := 222) rfl)) rfl
theorem wd568 : Cond.code yX1_reachFrom cX1_reachFrom 7 none ∈ jbig := jbig_in (jtb_2 _ (List.mem_of_getElem? (i := 225) rfl)) rfl
theorem wd567 : Cond.instanceMethod yX1_reachFrom ∈ jbig := jbig_in (jtb_2 _ (List.mem_of_getElem? (i := 224) rfl)) rfl
theorem wd6 : Cond.selects yX1_reachFrom.cls yX1_reachFrom yX1_reachFrom ∈ jbig := jbig_of 6 rfl rfl
theorem wd540 : Cond.methodLink RX1 43 yX3_openBits ∈ jbig := jbig_in (jtb_2 _ (List.mem_of_getElem? (i := 197) rfl)) rfl
theorem wd415 : Cond.code yX3_openBits cX3_openBits 3 (some .int) ∈ jbig := jbig_in (jtb_2 _ (List.mem_of_getElem? (i := 72) rfl)) rfl
theorem wd413 : Cond.instanceMethod yX3_openBits ∈ jbig := jbig_in (jtb_2 _ (List.mem_of_getElem? (i := 70) rfl)) rfl
theorem wd414 : Cond.selects yX3_openBits.cls yX3_openBits yX3_openBits ∈ jbig := jbig_in (jtb_2 _ (List.mem_of_getElem? (i := 71) rfl)) rfl
theorem wd541 : Cond.methodLink RX1 49 yJ6_bitCount_0f7a4 ∈ jbig := jbig_in (jtb_2 _ (List.mem_of_getElem? (i := 198) rfl)) rfl
theorem wd542 : Cond.methodLink RX1 69 yJ7_fill_53178 ∈ jbig := jbig_in (jtb_2 _ (List.mem_of_getElem? (i := 199) rfl)) rfl
theorem wd553 : Cond.methodLink RX1 82 yX1_reach ∈ jbig := jbig_in (jtb_2 _ (List.mem_of_getElem? (i := 210) rfl)) rfl
theorem wd556 : Cond.code yX1_reach cX1_reach 5 none ∈ jbig := jbig_in (jtb_2 _ (List.mem_of_getElem? (i := 213) rfl)) rfl
theorem wd555 : Cond.instanceMethod yX1_reach ∈ jbig := jbig_in (jtb_2 _ (List.mem_of_getElem? (i := 212) rfl)) rfl
theorem wd3 : Cond.selects yX1_reach.cls yX1_reach yX1_reach ∈ jbig := jbig_of 3 rfl rfl
theorem wd545 : Cond.methodLink RX1 78 yX1_layDeed ∈ jbig := jbig_in (jtb_2 _ (List.mem_of_getElem? (i := 202) rfl)) rfl
theorem wd548 : Cond.code yX1_layDeed cX1_layDeed 4 none ∈ jbig := jbig_in (jtb_2 _ (List.mem_of_getElem? (i := 205) rfl)) rfl
theorem wd547 : Cond.instanceMethod yX1_layDeed ∈ jbig := jbig_in (jtb_2 _ (List.mem_of_getElem? (i := 204) rfl)) rfl
theorem wd1 : Cond.selects yX1_layDeed.cls yX1_layDeed yX1_layDeed ∈ jbig := jbig_of 1 rfl rfl
theorem wd586 : Cond.methodLink RX1 121 yX3_partOfUndoer ∈ jbig := jbig_in (jtb_3 _ (List.mem_of_getElem? (i := 3) rfl)) rfl
theorem wd587 : Cond.methodLink RX1 125 yX3_partOfOther ∈ jbig := jbig_in (jtb_3 _ (List.mem_of_getElem? (i := 4) rfl)) rfl
theorem wd590 : Cond.code yX3_partOfOther cX3_partOfOther 6 (some .int) ∈ jbig := jbig_in (jtb_3 _ (List.mem_of_getElem? (i := 7) rfl)) rfl
theorem wd588 : Cond.instanceMethod yX3_partOfOther ∈ jbig := jbig_in (jtb_3 _ (List.mem_of_getElem? (i := 5) rfl)) rfl
theorem wd589 : Cond.selects yX3_partOfOther.cls yX3_partOfOther yX3_partOfOther ∈ jbig := jbig_in (jtb_3 _ (List.mem_of_getElem? (i := 6) rfl)) rfl
theorem wd599 : Cond.methodLink RX1 128 yX1_sumOf ∈ jbig := jbig_in (jtb_3 _ (List.mem_of_getElem? (i := 16) rfl)) rfl
theorem wd602 : Cond.code yX1_sumOf cX1_sumOf 7 (some .int) ∈ jbig := jbig_in (jtb_3 _ (List.mem_of_getElem? (i := 19) rfl)) rfl
theorem wd601 : Cond.instanceMethod yX1_sumOf ∈ jbig := jbig_in (jtb_3 _ (List.mem_of_getElem? (i := 18) rfl)) rfl
theorem wd10 : Cond.selects yX1_sumOf.cls yX1_sumOf yX1_sumOf ∈ jbig := jbig_of 10 rfl rfl
theorem wd603 : Cond.methodLink RX1 132 yX1_settle ∈ jbig := jbig_in (jtb_3 _ (List.mem_of_getElem? (i := 20) rfl)) rfl
theorem wd606 : Cond.code yX1_settle cX1_settle 8 none ∈ jbig := jbig_in (jtb_3 _ (List.mem_of_getElem? (i := 23) rfl)) rfl
theorem wd605 : Cond.instanceMethod yX1_settle ∈ jbig := jbig_in (jtb_3 _ (List.mem_of_getElem? (i := 22) rfl)) rfl
theorem wd11 : Cond.selects yX1_settle.cls yX1_settle yX1_settle ∈ jbig := jbig_of 11 rfl rfl
theorem wd582 : Cond.methodLink RX1 108 yX1_weigh ∈ jbig := jbig_in (jtb_2 _ (List.mem_of_getElem? (i := 239) rfl)) rfl
theorem wd585 : Cond.code yX1_weigh cX1_weigh 4 none ∈ jbig := jbig_in (jtb_3 _ (List.mem_of_getElem? (i := 2) rfl)) rfl
theorem wd584 : Cond.instanceMethod yX1_weigh ∈ jbig := jbig_in (jtb_3 _ (List.mem_of_getElem? (i := 1) rfl)) rfl
theorem wd7 : Cond.selects yX1_weigh.cls yX1_weigh yX1_weigh ∈ jbig := jbig_of 7 rfl rfl
theorem wd607 : Cond.methodLink RX1 118 yX1_walk ∈ jbig := jbig_in (jtb_3 _ (List.mem_of_getElem? (i := 24) rfl)) rfl
theorem wd610 : Cond.code yX1_walk cX1_walk 5 none ∈ jbig := jbig_in (jtb_3 _ (List.mem_of_getElem? (i := 27) rfl)) rfl
theorem wd609 : Cond.instanceMethod yX1_walk ∈ jbig := jbig_in (jtb_3 _ (List.mem_of_getElem? (i := 26) rfl)) rfl
theorem wd12 : Cond.selects yX1_walk.cls yX1_walk yX1_walk ∈ jbig := jbig_of 12 rfl rfl
theorem wd595 : Cond.methodLink RX1 115 yX1_choose ∈ jbig := jbig_in (jtb_3 _ (List.mem_of_getElem? (i := 12) rfl)) rfl
theorem wd598 : Cond.code yX1_choose cX1_choose 10 none ∈ jbig := jbig_in (jtb_3 _ (List.mem_of_getElem? (i := 15) rfl)) rfl
theorem wd597 : Cond.instanceMethod yX1_choose ∈ jbig := jbig_in (jtb_3 _ (List.mem_of_getElem? (i := 14) rfl)) rfl
theorem wd9 : Cond.selects yX1_choose.cls yX1_choose yX1_choose ∈ jbig := jbig_of 9 rfl rfl
theorem wd591 : Cond.methodLink RX1 112 yX1_forget ∈ jbig := jbig_in (jtb_3 _ (List.mem_of_getElem? (i := 8) rfl)) rfl
theorem wd594 : Cond.code yX1_forget cX1_forget 3 none ∈ jbig := jbig_in (jtb_3 _ (List.mem_of_getElem? (i := 11) rfl)) rfl
theorem wd593 : Cond.instanceMethod yX1_forget ∈ jbig := jbig_in (jtb_3 _ (List.mem_of_getElem? (i := 10) rfl)) rfl
theorem wd8 : Cond.selects yX1_forget.cls yX1_forget yX1_forget ∈ jbig := jbig_of 8 rfl rfl
theorem wd239 : Cond.fieldLink RX2 9 "TillTheBell$Reader" "place" "I" ∈ jbig := jbig_in (jtb_1 _ (List.mem_of_getElem? (i := 136) rfl)) rfl
theorem wd241 : Cond.fieldLink RX2 15 "TillTheBell$Reader" "tape" "[B" ∈ jbig := jbig_in (jtb_1 _ (List.mem_of_getElem? (i := 138) rfl)) rfl
theorem wd236 : Cond.fieldLink RX2 19 "TillTheBell$Reader" "length" "I" ∈ jbig := jbig_in (jtb_1 _ (List.mem_of_getElem? (i := 133) rfl)) rfl
theorem wd242 : Cond.fieldLink RX2 22 "TillTheBell$Reader" "limit" "I" ∈ jbig := jbig_in (jtb_1 _ (List.mem_of_getElem? (i := 139) rfl)) rfl
theorem wd245 : Cond.fieldLink RX2 25 "TillTheBell$Reader" "after" "I" ∈ jbig := jbig_in (jtb_1 _ (List.mem_of_getElem? (i := 142) rfl)) rfl
theorem wd237 : Cond.fieldLink RX2 28 "TillTheBell$Reader" "wrong" "I" ∈ jbig := jbig_in (jtb_1 _ (List.mem_of_getElem? (i := 134) rfl)) rfl
theorem wd243 : Cond.fieldLink RX2 39 "TillTheBell$Reader" "sort" "I" ∈ jbig := jbig_in (jtb_1 _ (List.mem_of_getElem? (i := 140) rfl)) rfl
theorem wd142 : Cond.fieldLink RX2 57 "TillTheBell$Town" "lines" "I" ∈ jbig := jbig_in (jtb_1 _ (List.mem_of_getElem? (i := 39) rfl)) rfl
theorem wd146 : Cond.fieldLink RX2 78 "TillTheBell$Town" "people" "I" ∈ jbig := jbig_in (jtb_1 _ (List.mem_of_getElem? (i := 43) rfl)) rfl
theorem wd150 : Cond.fieldLink RX2 84 "TillTheBell$Town" "things" "I" ∈ jbig := jbig_in (jtb_1 _ (List.mem_of_getElem? (i := 47) rfl)) rfl
theorem wd247 : Cond.fieldLink RX2 113 "TillTheBell$Reader" "taken" "I" ∈ jbig := jbig_in (jtb_1 _ (List.mem_of_getElem? (i := 144) rfl)) rfl
theorem wd172 : Cond.fieldLink RX2 116 "TillTheBell$Town" "coins" "[I" ∈ jbig := jbig_in (jtb_1 _ (List.mem_of_getElem? (i := 69) rfl)) rfl
theorem wd175 : Cond.fieldLink RX2 119 "TillTheBell$Town" "holders" "[I" ∈ jbig := jbig_in (jtb_1 _ (List.mem_of_getElem? (i := 72) rfl)) rfl
theorem wd246 : Cond.fieldLink RX2 126 "TillTheBell$Reader" "value" "I" ∈ jbig := jbig_in (jtb_1 _ (List.mem_of_getElem? (i := 143) rfl)) rfl
theorem wd156 : Cond.fieldLink RX2 129 "TillTheBell$Town" "share" "I" ∈ jbig := jbig_in (jtb_1 _ (List.mem_of_getElem? (i := 53) rfl)) rfl
theorem wd159 : Cond.fieldLink RX2 131 "TillTheBell$Town" "bell" "I" ∈ jbig := jbig_in (jtb_1 _ (List.mem_of_getElem? (i := 56) rfl)) rfl
theorem wd154 : Cond.fieldLink RX2 133 "TillTheBell$Town" "eaten" "I" ∈ jbig := jbig_in (jtb_1 _ (List.mem_of_getElem? (i := 51) rfl)) rfl
theorem wd244 : Cond.fieldLink RX2 135 "TillTheBell$Reader" "start" "I" ∈ jbig := jbig_in (jtb_1 _ (List.mem_of_getElem? (i := 141) rfl)) rfl
theorem wd735 : Cond.methodLink RX2 146 yX2_takeRun ∈ jbig := jbig_in (jtb_3 _ (List.mem_of_getElem? (i := 152) rfl)) rfl
theorem wd738 : Cond.code yX2_takeRun cX2_takeRun 3 (some .boolean) ∈ jbig := jbig_in (jtb_3 _ (List.mem_of_getElem? (i := 155) rfl)) rfl
theorem wd106 : Cond.initialized RX2 ∈ jbig := jbig_in (jtb_1 _ (List.mem_of_getElem? (i := 3) rfl)) rfl
theorem wd737 : Cond.instanceMethod yX2_takeRun ∈ jbig := jbig_in (jtb_3 _ (List.mem_of_getElem? (i := 154) rfl)) rfl
theorem wd15 : Cond.selects yX2_takeRun.cls yX2_takeRun yX2_takeRun ∈ jbig := jbig_of 15 rfl rfl
theorem wd739 : Cond.methodLink RX2 149 yX2_valueOfRun ∈ jbig := jbig_in (jtb_3 _ (List.mem_of_getElem? (i := 156) rfl)) rfl
theorem wd742 : Cond.code yX2_valueOfRun cX2_valueOfRun 3 (some .int) ∈ jbig := jbig_in (jtb_3 _ (List.mem_of_getElem? (i := 159) rfl)) rfl
theorem wd741 : Cond.instanceMethod yX2_valueOfRun ∈ jbig := jbig_in (jtb_3 _ (List.mem_of_getElem? (i := 158) rfl)) rfl
theorem wd16 : Cond.selects yX2_valueOfRun.cls yX2_valueOfRun yX2_valueOfRun ∈ jbig := jbig_of 16 rfl rfl
theorem wd752 : Cond.methodLink RX2 138 yJ0_length_8abf5 ∈ jbig := jbig_in (jtb_3 _ (List.mem_of_getElem? (i := 169) rfl)) rfl
theorem wd762 : Cond.methodLink RX2 142 yJ0_charAt_5068e ∈ jbig := jbig_in (jtb_3 _ (List.mem_of_getElem? (i := 179) rfl)) rfl
theorem wd748 : Cond.methodLink RX2 62 yX2_isWord ∈ jbig := jbig_in (jtb_3 _ (List.mem_of_getElem? (i := 165) rfl)) rfl
theorem wd751 : Cond.code yX2_isWord cX2_isWord 3 (some .boolean) ∈ jbig := jbig_in (jtb_3 _ (List.mem_of_getElem? (i := 168) rfl)) rfl
theorem wd750 : Cond.instanceMethod yX2_isWord ∈ jbig := jbig_in (jtb_3 _ (List.mem_of_getElem? (i := 167) rfl)) rfl
theorem wd18 : Cond.selects yX2_isWord.cls yX2_isWord yX2_isWord ∈ jbig := jbig_of 18 rfl rfl
theorem wd810 : Cond.methodLink RX2 80 yX2_fails ∈ jbig := jbig_in (jtb_3 _ (List.mem_of_getElem? (i := 227) rfl)) rfl
theorem wd813 : Cond.code yX2_fails cX2_fails 2 (some .boolean) ∈ jbig := jbig_in (jtb_3 _ (List.mem_of_getElem? (i := 230) rfl)) rfl
theorem wd812 : Cond.instanceMethod yX2_fails ∈ jbig := jbig_in (jtb_3 _ (List.mem_of_getElem? (i := 229) rfl)) rfl
theorem wd20 : Cond.selects yX2_fails.cls yX2_fails yX2_fails ∈ jbig := jbig_of 20 rfl rfl
theorem wd731 : Cond.methodLink RX2 36 yX2_next ∈ jbig := jbig_in (jtb_3 _ (List.mem_of_getElem? (i := 148) rfl)) rfl
theorem wd734 : Cond.code yX2_next cX2_next 1 none ∈ jbig := jbig_in (jtb_3 _ (List.mem_of_getElem? (i := 151) rfl)) rfl
theorem wd733 : Cond.instanceMethod yX2_next ∈ jbig := jbig_in (jtb_3 _ (List.mem_of_getElem? (i := 150) rfl)) rfl
theorem wd14 : Cond.selects yX2_next.cls yX2_next yX2_next ∈ jbig := jbig_of 14 rfl rfl
theorem wd822 : Cond.methodLink RX2 109 yX2_takes ∈ jbig := jbig_in (jtb_3 _ (List.mem_of_getElem? (i := 239) rfl)) rfl
theorem wd825 : Cond.code yX2_takes cX2_takes 3 (some .boolean) ∈ jbig := jbig_in (jtb_4 _ (List.mem_of_getElem? (i := 2) rfl)) rfl
theorem wd824 : Cond.instanceMethod yX2_takes ∈ jbig := jbig_in (jtb_4 _ (List.mem_of_getElem? (i := 1) rfl)) rfl
theorem wd23 : Cond.selects yX2_takes.cls yX2_takes yX2_takes ∈ jbig := jbig_of 23 rfl rfl
theorem wd834 : Cond.methodLink RX2 122 yX3_setWorth ∈ jbig := jbig_in (jtb_4 _ (List.mem_of_getElem? (i := 11) rfl)) rfl
theorem wd837 : Cond.code yX3_setWorth cX3_setWorth 4 none ∈ jbig := jbig_in (jtb_4 _ (List.mem_of_getElem? (i := 14) rfl)) rfl
theorem wd835 : Cond.instanceMethod yX3_setWorth ∈ jbig := jbig_in (jtb_4 _ (List.mem_of_getElem? (i := 12) rfl)) rfl
theorem wd836 : Cond.selects yX3_setWorth.cls yX3_setWorth yX3_setWorth ∈ jbig := jbig_in (jtb_4 _ (List.mem_of_getElem? (i := 13) rfl)) rfl
theorem wd818 : Cond.methodLink RX2 87 yX2_readPeople ∈ jbig := jbig_in (jtb_3 _ (List.mem_of_getElem? (i := 235) rfl)) rfl
theorem wd821 : Cond.code yX2_readPeople cX2_readPeople 2 (some .boolean) ∈ jbig := jbig_in (jtb_3 _ (List.mem_of_getElem? (i := 238) rfl)) rfl
theorem wd820 : Cond.instanceMethod yX2_readPeople ∈ jbig := jbig_in (jtb_3 _ (List.mem_of_getElem? (i := 237) rfl)) rfl
theorem wd22 : Cond.selects yX2_readPeople.cls yX2_readPeople yX2_readPeople ∈ jbig := jbig_of 22 rfl rfl
theorem wd826 : Cond.methodLink RX2 91 yX2_readCoins ∈ jbig := jbig_in (jtb_4 _ (List.mem_of_getElem? (i := 3) rfl)) rfl
theorem wd829 : Cond.code yX2_readCoins cX2_readCoins 3 (some .boolean) ∈ jbig := jbig_in (jtb_4 _ (List.mem_of_getElem? (i := 6) rfl)) rfl
theorem wd828 : Cond.instanceMethod yX2_readCoins ∈ jbig := jbig_in (jtb_4 _ (List.mem_of_getElem? (i := 5) rfl)) rfl
theorem wd24 : Cond.selects yX2_readCoins.cls yX2_readCoins yX2_readCoins ∈ jbig := jbig_of 24 rfl rfl
theorem wd830 : Cond.methodLink RX2 94 yX2_readThing ∈ jbig := jbig_in (jtb_4 _ (List.mem_of_getElem? (i := 7) rfl)) rfl
theorem wd833 : Cond.code yX2_readThing cX2_readThing 3 (some .boolean) ∈ jbig := jbig_in (jtb_4 _ (List.mem_of_getElem? (i := 10) rfl)) rfl
theorem wd832 : Cond.instanceMethod yX2_readThing ∈ jbig := jbig_in (jtb_4 _ (List.mem_of_getElem? (i := 9) rfl)) rfl
theorem wd25 : Cond.selects yX2_readThing.cls yX2_readThing yX2_readThing ∈ jbig := jbig_of 25 rfl rfl
theorem wd838 : Cond.methodLink RX2 97 yX2_readWorth ∈ jbig := jbig_in (jtb_4 _ (List.mem_of_getElem? (i := 15) rfl)) rfl
theorem wd841 : Cond.code yX2_readWorth cX2_readWorth 4 (some .boolean) ∈ jbig := jbig_in (jtb_4 _ (List.mem_of_getElem? (i := 18) rfl)) rfl
theorem wd840 : Cond.instanceMethod yX2_readWorth ∈ jbig := jbig_in (jtb_4 _ (List.mem_of_getElem? (i := 17) rfl)) rfl
theorem wd26 : Cond.selects yX2_readWorth.cls yX2_readWorth yX2_readWorth ∈ jbig := jbig_of 26 rfl rfl
theorem wd842 : Cond.methodLink RX2 100 yX2_readShare ∈ jbig := jbig_in (jtb_4 _ (List.mem_of_getElem? (i := 19) rfl)) rfl
theorem wd845 : Cond.code yX2_readShare cX2_readShare 2 (some .boolean) ∈ jbig := jbig_in (jtb_4 _ (List.mem_of_getElem? (i := 22) rfl)) rfl
theorem wd844 : Cond.instanceMethod yX2_readShare ∈ jbig := jbig_in (jtb_4 _ (List.mem_of_getElem? (i := 21) rfl)) rfl
theorem wd27 : Cond.selects yX2_readShare.cls yX2_readShare yX2_readShare ∈ jbig := jbig_of 27 rfl rfl
theorem wd846 : Cond.methodLink RX2 103 yX2_readBell ∈ jbig := jbig_in (jtb_4 _ (List.mem_of_getElem? (i := 23) rfl)) rfl
theorem wd849 : Cond.code yX2_readBell cX2_readBell 2 (some .boolean) ∈ jbig := jbig_in (jtb_4 _ (List.mem_of_getElem? (i := 26) rfl)) rfl
theorem wd848 : Cond.instanceMethod yX2_readBell ∈ jbig := jbig_in (jtb_4 _ (List.mem_of_getElem? (i := 25) rfl)) rfl
theorem wd28 : Cond.selects yX2_readBell.cls yX2_readBell yX2_readBell ∈ jbig := jbig_of 28 rfl rfl
theorem wd850 : Cond.methodLink RX2 106 yX2_readEaten ∈ jbig := jbig_in (jtb_4 _ (List.mem_of_getElem? (i := 27) rfl)) rfl
theorem wd853 : Cond.code yX2_readEaten cX2_readEaten 2 (some .boolean) ∈ jbig := jbig_in (jtb_4 _ (List.mem_of_getElem? (i := 30) rfl)) rfl
theorem wd852 : Cond.instanceMethod yX2_readEaten ∈ jbig := jbig_in (jtb_4 _ (List.mem_of_getElem? (i := 29) rfl)) rfl
theorem wd29 : Cond.selects yX2_readEaten.cls yX2_readEaten yX2_readEaten ∈ jbig := jbig_of 29 rfl rfl
theorem wd726 : Cond.methodLink RX2 31 yX3_clear ∈ jbig := jbig_in (jtb_3 _ (List.mem_of_getElem? (i := 143) rfl)) rfl
theorem wd729 : Cond.code yX3_clear cX3_clear 1 none ∈ jbig := jbig_in (jtb_3 _ (List.mem_of_getElem? (i := 146) rfl)) rfl
theorem wd727 : Cond.instanceMethod yX3_clear ∈ jbig := jbig_in (jtb_3 _ (List.mem_of_getElem? (i := 144) rfl)) rfl
theorem wd728 : Cond.selects yX3_clear.cls yX3_clear yX3_clear ∈ jbig := jbig_in (jtb_3 _ (List.mem_of_getElem? (i := 145) rfl)) rfl
theorem wd743 : Cond.methodLink RX2 42 yX2_kindOfLine ∈ jbig := jbig_in (jtb_3 _ (List.mem_of_getElem? (i := 160) rfl)) rfl
theorem wd746 : Cond.code yX2_kindOfLine cX2_kindOfLine 1 (some .int) ∈ jbig := jbig_in (jtb_3 _ (List.mem_of_getElem? (i := 163) rfl)) rfl
theorem wd745 : Cond.instanceMethod yX2_kindOfLine ∈ jbig := jbig_in (jtb_3 _ (List.mem_of_getElem? (i := 162) rfl)) rfl
theorem wd17 : Cond.selects yX2_kindOfLine.cls yX2_kindOfLine yX2_kindOfLine ∈ jbig := jbig_of 17 rfl rfl
theorem wd806 : Cond.methodLink RX2 46 yX2_begins ∈ jbig := jbig_in (jtb_3 _ (List.mem_of_getElem? (i := 223) rfl)) rfl
theorem wd809 : Cond.code yX2_begins cX2_begins 3 (some .boolean) ∈ jbig := jbig_in (jtb_3 _ (List.mem_of_getElem? (i := 226) rfl)) rfl
theorem wd808 : Cond.instanceMethod yX2_begins ∈ jbig := jbig_in (jtb_3 _ (List.mem_of_getElem? (i := 225) rfl)) rfl
theorem wd19 : Cond.selects yX2_begins.cls yX2_begins yX2_begins ∈ jbig := jbig_of 19 rfl rfl
theorem wd814 : Cond.methodLink RX2 50 yX2_readNumbers ∈ jbig := jbig_in (jtb_3 _ (List.mem_of_getElem? (i := 231) rfl)) rfl
theorem wd817 : Cond.code yX2_readNumbers cX2_readNumbers 3 (some .boolean) ∈ jbig := jbig_in (jtb_3 _ (List.mem_of_getElem? (i := 234) rfl)) rfl
theorem wd816 : Cond.instanceMethod yX2_readNumbers ∈ jbig := jbig_in (jtb_3 _ (List.mem_of_getElem? (i := 233) rfl)) rfl
theorem wd21 : Cond.selects yX2_readNumbers.cls yX2_readNumbers yX2_readNumbers ∈ jbig := jbig_of 21 rfl rfl
theorem wd854 : Cond.methodLink RX2 53 yX2_closes ∈ jbig := jbig_in (jtb_4 _ (List.mem_of_getElem? (i := 31) rfl)) rfl
theorem wd857 : Cond.code yX2_closes cX2_closes 1 (some .boolean) ∈ jbig := jbig_in (jtb_4 _ (List.mem_of_getElem? (i := 34) rfl)) rfl
theorem wd856 : Cond.instanceMethod yX2_closes ∈ jbig := jbig_in (jtb_4 _ (List.mem_of_getElem? (i := 33) rfl)) rfl
theorem wd30 : Cond.selects yX2_closes.cls yX2_closes yX2_closes ∈ jbig := jbig_of 30 rfl rfl
theorem wd1279 : Cond.fieldLink RX6 9 "TillTheBellModel" "told" "[I" ∈ jbig := jbig_in (jtb_5 _ (List.mem_of_getElem? (i := 216) rfl)) rfl
theorem wd1280 : Cond.fieldLink RX6 13 "TillTheBellModel" "fresh" "[I" ∈ jbig := jbig_in (jtb_5 _ (List.mem_of_getElem? (i := 217) rfl)) rfl
theorem wd1281 : Cond.fieldLink RX6 16 "TillTheBellModel" "saved" "[I" ∈ jbig := jbig_in (jtb_5 _ (List.mem_of_getElem? (i := 218) rfl)) rfl
theorem wd1282 : Cond.fieldLink RX6 19 "TillTheBellModel" "images" "[I" ∈ jbig := jbig_in (jtb_5 _ (List.mem_of_getElem? (i := 219) rfl)) rfl
theorem wd1283 : Cond.fieldLink RX6 22 "TillTheBellModel" "isImage" "[Z" ∈ jbig := jbig_in (jtb_5 _ (List.mem_of_getElem? (i := 220) rfl)) rfl
theorem wd1285 : Cond.fieldLink RX6 26 "TillTheBellModel" "tape" "[I" ∈ jbig := jbig_in (jtb_5 _ (List.mem_of_getElem? (i := 222) rfl)) rfl
theorem wd1295 : Cond.fieldLink RX6 29 "TillTheBellModel" "faultPlace" "I" ∈ jbig := jbig_in (jtb_5 _ (List.mem_of_getElem? (i := 232) rfl)) rfl
theorem wd1296 : Cond.fieldLink RX6 33 "TillTheBellModel" "kept" "[I" ∈ jbig := jbig_in (jtb_5 _ (List.mem_of_getElem? (i := 233) rfl)) rfl
theorem wd1298 : Cond.fieldLink RX6 36 "TillTheBellModel" "mine" "[I" ∈ jbig := jbig_in (jtb_5 _ (List.mem_of_getElem? (i := 235) rfl)) rfl
theorem wd1299 : Cond.fieldLink RX6 40 "TillTheBellModel" "richer" "[I" ∈ jbig := jbig_in (jtb_5 _ (List.mem_of_getElem? (i := 236) rfl)) rfl
theorem wd1300 : Cond.fieldLink RX6 43 "TillTheBellModel" "choice" "[I" ∈ jbig := jbig_in (jtb_5 _ (List.mem_of_getElem? (i := 237) rfl)) rfl
theorem wd1301 : Cond.fieldLink RX6 46 "TillTheBellModel" "by" "[I" ∈ jbig := jbig_in (jtb_5 _ (List.mem_of_getElem? (i := 238) rfl)) rfl
theorem wd1305 : Cond.fieldLink RX6 49 "TillTheBellModel" "tSort" "[I" ∈ jbig := jbig_in (jtb_6 _ (List.mem_of_getElem? (i := 2) rfl)) rfl
theorem wd1306 : Cond.fieldLink RX6 52 "TillTheBellModel" "tMany" "[I" ∈ jbig := jbig_in (jtb_6 _ (List.mem_of_getElem? (i := 3) rfl)) rfl
theorem wd1307 : Cond.fieldLink RX6 55 "TillTheBellModel" "numbers" "[J" ∈ jbig := jbig_in (jtb_6 _ (List.mem_of_getElem? (i := 4) rfl)) rfl
theorem wd1284 : Cond.fieldLink RX6 63 "TillTheBellModel" "thrown" "I" ∈ jbig := jbig_in (jtb_5 _ (List.mem_of_getElem? (i := 221) rfl)) rfl
theorem wd1286 : Cond.fieldLink RX6 66 "TillTheBellModel" "taped" "I" ∈ jbig := jbig_in (jtb_5 _ (List.mem_of_getElem? (i := 223) rfl)) rfl
theorem wd1287 : Cond.fieldLink RX6 69 "TillTheBellModel" "size" "I" ∈ jbig := jbig_in (jtb_5 _ (List.mem_of_getElem? (i := 224) rfl)) rfl
theorem wd1288 : Cond.fieldLink RX6 72 "TillTheBellModel" "at" "I" ∈ jbig := jbig_in (jtb_5 _ (List.mem_of_getElem? (i := 225) rfl)) rfl
theorem wd1289 : Cond.fieldLink RX6 75 "TillTheBellModel" "begin" "I" ∈ jbig := jbig_in (jtb_5 _ (List.mem_of_getElem? (i := 226) rfl)) rfl
theorem wd1290 : Cond.fieldLink RX6 78 "TillTheBellModel" "token" "I" ∈ jbig := jbig_in (jtb_5 _ (List.mem_of_getElem? (i := 227) rfl)) rfl
theorem wd1291 : Cond.fieldLink RX6 92 "TillTheBellModel" "value" "I" ∈ jbig := jbig_in (jtb_5 _ (List.mem_of_getElem? (i := 228) rfl)) rfl
theorem wd1292 : Cond.fieldLink RX6 95 "TillTheBellModel" "bad" "I" ∈ jbig := jbig_in (jtb_5 _ (List.mem_of_getElem? (i := 229) rfl)) rfl
theorem wd1293 : Cond.fieldLink RX6 98 "TillTheBellModel" "badPlace" "I" ∈ jbig := jbig_in (jtb_5 _ (List.mem_of_getElem? (i := 230) rfl)) rfl
theorem wd1294 : Cond.fieldLink RX6 176 "TillTheBellModel" "faultKind" "I" ∈ jbig := jbig_in (jtb_5 _ (List.mem_of_getElem? (i := 231) rfl)) rfl
theorem wd1297 : Cond.fieldLink RX6 274 "TillTheBellModel" "state" "I" ∈ jbig := jbig_in (jtb_5 _ (List.mem_of_getElem? (i := 234) rfl)) rfl
theorem wd1302 : Cond.fieldLink RX6 304 "TillTheBellModel" "mineMany" "I" ∈ jbig := jbig_in (jtb_5 _ (List.mem_of_getElem? (i := 239) rfl)) rfl
theorem wd1304 : Cond.fieldLink RX6 313 "TillTheBellModel" "firstTurn" "I" ∈ jbig := jbig_in (jtb_6 _ (List.mem_of_getElem? (i := 1) rfl)) rfl
theorem wd1303 : Cond.fieldLink RX6 316 "TillTheBellModel" "turns" "I" ∈ jbig := jbig_in (jtb_6 _ (List.mem_of_getElem? (i := 0) rfl)) rfl
theorem wd1275 : Cond.constant RX6 39 (79872) ∈ jbig := jbig_in (jtb_5 _ (List.mem_of_getElem? (i := 212) rfl)) rfl
theorem wd1635 : Cond.constant RX6 273 (1103515245) ∈ jbig := jbig_in (jtb_7 _ (List.mem_of_getElem? (i := 92) rfl)) rfl
theorem wd1730 : Cond.constant RX6 343 (-100000) ∈ jbig := jbig_in (jtb_7 _ (List.mem_of_getElem? (i := 187) rfl)) rfl
theorem wd1441 : Cond.constantLong RX6 133 (999) ∈ jbig := jbig_in (jtb_6 _ (List.mem_of_getElem? (i := 138) rfl)) rfl
theorem wd1473 : Cond.constantLong RX6 189 (2) ∈ jbig := jbig_in (jtb_6 _ (List.mem_of_getElem? (i := 170) rfl)) rfl
theorem wd1535 : Cond.constantLong RX6 218 (9999) ∈ jbig := jbig_in (jtb_6 _ (List.mem_of_getElem? (i := 232) rfl)) rfl
theorem wd1548 : Cond.constantLong RX6 234 (7) ∈ jbig := jbig_in (jtb_7 _ (List.mem_of_getElem? (i := 5) rfl)) rfl
theorem wd1626 : Cond.constantLong RX6 280 (40) ∈ jbig := jbig_in (jtb_7 _ (List.mem_of_getElem? (i := 83) rfl)) rfl
theorem wd1704 : Cond.constantLong RX6 336 (10) ∈ jbig := jbig_in (jtb_7 _ (List.mem_of_getElem? (i := 161) rfl)) rfl
theorem wd1705 : Cond.constantLong RX6 338 (100) ∈ jbig := jbig_in (jtb_7 _ (List.mem_of_getElem? (i := 162) rfl)) rfl
theorem wd1782 : Cond.constantLong RX6 355 (6) ∈ jbig := jbig_in (jtb_7 _ (List.mem_of_getElem? (i := 239) rfl)) rfl
theorem wd1605 : Cond.constantLong RX6 367 (3) ∈ jbig := jbig_in (jtb_7 _ (List.mem_of_getElem? (i := 62) rfl)) rfl
theorem wd1390 : Cond.methodLink RX6 81 yX6_isLetter ∈ jbig := jbig_in (jtb_6 _ (List.mem_of_getElem? (i := 87) rfl)) rfl
theorem wd1392 : Cond.code yX6_isLetter cX6_isLetter 1 (some .boolean) ∈ jbig := jbig_in (jtb_6 _ (List.mem_of_getElem? (i := 89) rfl)) rfl
theorem wd109 : Cond.initialized RX6 ∈ jbig := jbig_in (jtb_1 _ (List.mem_of_getElem? (i := 6) rfl)) rfl
theorem wd1391 : Cond.static yX6_isLetter ∈ jbig := jbig_in (jtb_6 _ (List.mem_of_getElem? (i := 88) rfl)) rfl
theorem wd1397 : Cond.methodLink RX6 89 yX6_isDigit ∈ jbig := jbig_in (jtb_6 _ (List.mem_of_getElem? (i := 94) rfl)) rfl
theorem wd1399 : Cond.code yX6_isDigit cX6_isDigit 1 (some .boolean) ∈ jbig := jbig_in (jtb_6 _ (List.mem_of_getElem? (i := 96) rfl)) rfl
theorem wd1398 : Cond.static yX6_isDigit ∈ jbig := jbig_in (jtb_6 _ (List.mem_of_getElem? (i := 95) rfl)) rfl
theorem wd1393 : Cond.methodLink RX6 85 yX6_see ∈ jbig := jbig_in (jtb_6 _ (List.mem_of_getElem? (i := 90) rfl)) rfl
theorem wd1396 : Cond.code yX6_see cX6_see 2 (some .int) ∈ jbig := jbig_in (jtb_6 _ (List.mem_of_getElem? (i := 93) rfl)) rfl
theorem wd1395 : Cond.instanceMethod yX6_see ∈ jbig := jbig_in (jtb_6 _ (List.mem_of_getElem? (i := 92) rfl)) rfl
theorem wd45 : Cond.selects yX6_see.cls yX6_see yX6_see ∈ jbig := jbig_of 45 rfl rfl
theorem wd1409 : Cond.methodLink RX6 101 yJ0_length_8abf5 ∈ jbig := jbig_in (jtb_6 _ (List.mem_of_getElem? (i := 106) rfl)) rfl
theorem wd1410 : Cond.methodLink RX6 107 yJ0_charAt_5068e ∈ jbig := jbig_in (jtb_6 _ (List.mem_of_getElem? (i := 107) rfl)) rfl
theorem wd1405 : Cond.methodLink RX6 111 yX6_isWord ∈ jbig := jbig_in (jtb_6 _ (List.mem_of_getElem? (i := 102) rfl)) rfl
theorem wd1408 : Cond.code yX6_isWord cX6_isWord 4 (some .boolean) ∈ jbig := jbig_in (jtb_6 _ (List.mem_of_getElem? (i := 105) rfl)) rfl
theorem wd1407 : Cond.instanceMethod yX6_isWord ∈ jbig := jbig_in (jtb_6 _ (List.mem_of_getElem? (i := 104) rfl)) rfl
theorem wd47 : Cond.selects yX6_isWord.cls yX6_isWord yX6_isWord ∈ jbig := jbig_of 47 rfl rfl
theorem wd1386 : Cond.methodLink RX6 115 yX6_reads ∈ jbig := jbig_in (jtb_6 _ (List.mem_of_getElem? (i := 83) rfl)) rfl
theorem wd1389 : Cond.code yX6_reads cX6_reads 2 none ∈ jbig := jbig_in (jtb_6 _ (List.mem_of_getElem? (i := 86) rfl)) rfl
theorem wd1388 : Cond.instanceMethod yX6_reads ∈ jbig := jbig_in (jtb_6 _ (List.mem_of_getElem? (i := 85) rfl)) rfl
theorem wd44 : Cond.selects yX6_reads.cls yX6_reads yX6_reads ∈ jbig := jbig_of 44 rfl rfl
theorem wd1379 : Cond.methodLink RX6 122 yX6_within ∈ jbig := jbig_in (jtb_6 _ (List.mem_of_getElem? (i := 76) rfl)) rfl
theorem wd1381 : Cond.code yX6_within cX6_within 6 (some .boolean) ∈ jbig := jbig_in (jtb_6 _ (List.mem_of_getElem? (i := 78) rfl)) rfl
theorem wd1380 : Cond.static yX6_within ∈ jbig := jbig_in (jtb_6 _ (List.mem_of_getElem? (i := 77) rfl)) rfl
theorem wd1415 : Cond.methodLink RX6 118 yX6_blames ∈ jbig := jbig_in (jtb_6 _ (List.mem_of_getElem? (i := 112) rfl)) rfl
theorem wd1418 : Cond.code yX6_blames cX6_blames 2 none ∈ jbig := jbig_in (jtb_6 _ (List.mem_of_getElem? (i := 115) rfl)) rfl
theorem wd1417 : Cond.instanceMethod yX6_blames ∈ jbig := jbig_in (jtb_6 _ (List.mem_of_getElem? (i := 114) rfl)) rfl
theorem wd49 : Cond.selects yX6_blames.cls yX6_blames yX6_blames ∈ jbig := jbig_of 49 rfl rfl
theorem wd1419 : Cond.methodLink RX6 126 yX6_number ∈ jbig := jbig_in (jtb_6 _ (List.mem_of_getElem? (i := 116) rfl)) rfl
theorem wd1422 : Cond.code yX6_number cX6_number 4 (some .int) ∈ jbig := jbig_in (jtb_6 _ (List.mem_of_getElem? (i := 119) rfl)) rfl
theorem wd1421 : Cond.instanceMethod yX6_number ∈ jbig := jbig_in (jtb_6 _ (List.mem_of_getElem? (i := 118) rfl)) rfl
theorem wd50 : Cond.selects yX6_number.cls yX6_number yX6_number ∈ jbig := jbig_of 50 rfl rfl
theorem wd1432 : Cond.methodLink RX6 130 yX6_personTold ∈ jbig := jbig_in (jtb_6 _ (List.mem_of_getElem? (i := 129) rfl)) rfl
theorem wd1435 : Cond.code yX6_personTold cX6_personTold 1 (some .int) ∈ jbig := jbig_in (jtb_6 _ (List.mem_of_getElem? (i := 132) rfl)) rfl
theorem wd1434 : Cond.instanceMethod yX6_personTold ∈ jbig := jbig_in (jtb_6 _ (List.mem_of_getElem? (i := 131) rfl)) rfl
theorem wd53 : Cond.selects yX6_personTold.cls yX6_personTold yX6_personTold ∈ jbig := jbig_of 53 rfl rfl
theorem wd1447 : Cond.methodLink RX6 135 yX6_thingTold ∈ jbig := jbig_in (jtb_6 _ (List.mem_of_getElem? (i := 144) rfl)) rfl
theorem wd1450 : Cond.code yX6_thingTold cX6_thingTold 1 (some .int) ∈ jbig := jbig_in (jtb_6 _ (List.mem_of_getElem? (i := 147) rfl)) rfl
theorem wd1449 : Cond.instanceMethod yX6_thingTold ∈ jbig := jbig_in (jtb_6 _ (List.mem_of_getElem? (i := 146) rfl)) rfl
theorem wd56 : Cond.selects yX6_thingTold.cls yX6_thingTold yX6_thingTold ∈ jbig := jbig_of 56 rfl rfl
theorem wd1424 : Cond.methodLink RX6 145 yX6_took ∈ jbig := jbig_in (jtb_6 _ (List.mem_of_getElem? (i := 121) rfl)) rfl
theorem wd1427 : Cond.code yX6_took cX6_took 3 (some .boolean) ∈ jbig := jbig_in (jtb_6 _ (List.mem_of_getElem? (i := 124) rfl)) rfl
theorem wd1426 : Cond.instanceMethod yX6_took ∈ jbig := jbig_in (jtb_6 _ (List.mem_of_getElem? (i := 123) rfl)) rfl
theorem wd51 : Cond.selects yX6_took.cls yX6_took yX6_took ∈ jbig := jbig_of 51 rfl rfl
theorem wd1454 : Cond.methodLink RX6 167 yX6_readEaten ∈ jbig := jbig_in (jtb_6 _ (List.mem_of_getElem? (i := 151) rfl)) rfl
theorem wd1457 : Cond.code yX6_readEaten cX6_readEaten 2 none ∈ jbig := jbig_in (jtb_6 _ (List.mem_of_getElem? (i := 154) rfl)) rfl
theorem wd1456 : Cond.instanceMethod yX6_readEaten ∈ jbig := jbig_in (jtb_6 _ (List.mem_of_getElem? (i := 153) rfl)) rfl
theorem wd57 : Cond.selects yX6_readEaten.cls yX6_readEaten yX6_readEaten ∈ jbig := jbig_of 57 rfl rfl
theorem wd1443 : Cond.methodLink RX6 158 yX6_readWorth ∈ jbig := jbig_in (jtb_6 _ (List.mem_of_getElem? (i := 140) rfl)) rfl
theorem wd1446 : Cond.code yX6_readWorth cX6_readWorth 4 none ∈ jbig := jbig_in (jtb_6 _ (List.mem_of_getElem? (i := 143) rfl)) rfl
theorem wd1445 : Cond.instanceMethod yX6_readWorth ∈ jbig := jbig_in (jtb_6 _ (List.mem_of_getElem? (i := 142) rfl)) rfl
theorem wd55 : Cond.selects yX6_readWorth.cls yX6_readWorth yX6_readWorth ∈ jbig := jbig_of 55 rfl rfl
theorem wd1437 : Cond.methodLink RX6 153 yX6_readThing ∈ jbig := jbig_in (jtb_6 _ (List.mem_of_getElem? (i := 134) rfl)) rfl
theorem wd1440 : Cond.code yX6_readThing cX6_readThing 5 none ∈ jbig := jbig_in (jtb_6 _ (List.mem_of_getElem? (i := 137) rfl)) rfl
theorem wd1439 : Cond.instanceMethod yX6_readThing ∈ jbig := jbig_in (jtb_6 _ (List.mem_of_getElem? (i := 136) rfl)) rfl
theorem wd54 : Cond.selects yX6_readThing.cls yX6_readThing yX6_readThing ∈ jbig := jbig_of 54 rfl rfl
theorem wd1428 : Cond.methodLink RX6 148 yX6_readCoins ∈ jbig := jbig_in (jtb_6 _ (List.mem_of_getElem? (i := 125) rfl)) rfl
theorem wd1431 : Cond.code yX6_readCoins cX6_readCoins 3 none ∈ jbig := jbig_in (jtb_6 _ (List.mem_of_getElem? (i := 128) rfl)) rfl
theorem wd1430 : Cond.instanceMethod yX6_readCoins ∈ jbig := jbig_in (jtb_6 _ (List.mem_of_getElem? (i := 127) rfl)) rfl
theorem wd52 : Cond.selects yX6_readCoins.cls yX6_readCoins yX6_readCoins ∈ jbig := jbig_of 52 rfl rfl
theorem wd1411 : Cond.methodLink RX6 140 yX6_readPeople ∈ jbig := jbig_in (jtb_6 _ (List.mem_of_getElem? (i := 108) rfl)) rfl
theorem wd1414 : Cond.code yX6_readPeople cX6_readPeople 1 none ∈ jbig := jbig_in (jtb_6 _ (List.mem_of_getElem? (i := 111) rfl)) rfl
theorem wd1413 : Cond.instanceMethod yX6_readPeople ∈ jbig := jbig_in (jtb_6 _ (List.mem_of_getElem? (i := 110) rfl)) rfl
theorem wd48 : Cond.selects yX6_readPeople.cls yX6_readPeople yX6_readPeople ∈ jbig := jbig_of 48 rfl rfl
theorem wd1276 : Cond.methodLink RX6 59 yX6_begins ∈ jbig := jbig_in (jtb_5 _ (List.mem_of_getElem? (i := 213) rfl)) rfl
theorem wd1278 : Cond.code yX6_begins cX6_begins 2 none ∈ jbig := jbig_in (jtb_5 _ (List.mem_of_getElem? (i := 215) rfl)) rfl
theorem wd1277 : Cond.static yX6_begins ∈ jbig := jbig_in (jtb_5 _ (List.mem_of_getElem? (i := 214) rfl)) rfl
theorem wd1458 : Cond.methodLink RX6 179 yX6_copies ∈ jbig := jbig_in (jtb_6 _ (List.mem_of_getElem? (i := 155) rfl)) rfl
theorem wd1460 : Cond.code yX6_copies cX6_copies 3 none ∈ jbig := jbig_in (jtb_6 _ (List.mem_of_getElem? (i := 157) rfl)) rfl
theorem wd1459 : Cond.static yX6_copies ∈ jbig := jbig_in (jtb_6 _ (List.mem_of_getElem? (i := 156) rfl)) rfl
theorem wd1400 : Cond.methodLink RX6 173 yX6_readLine ∈ jbig := jbig_in (jtb_6 _ (List.mem_of_getElem? (i := 97) rfl)) rfl
theorem wd1403 : Cond.code yX6_readLine cX6_readLine 1 none ∈ jbig := jbig_in (jtb_6 _ (List.mem_of_getElem? (i := 100) rfl)) rfl
theorem wd1402 : Cond.instanceMethod yX6_readLine ∈ jbig := jbig_in (jtb_6 _ (List.mem_of_getElem? (i := 99) rfl)) rfl
theorem wd46 : Cond.selects yX6_readLine.cls yX6_readLine yX6_readLine ∈ jbig := jbig_of 46 rfl rfl
theorem wd1382 : Cond.methodLink RX6 170 yX6_fails ∈ jbig := jbig_in (jtb_6 _ (List.mem_of_getElem? (i := 79) rfl)) rfl
theorem wd1385 : Cond.code yX6_fails cX6_fails 2 (some .int) ∈ jbig := jbig_in (jtb_6 _ (List.mem_of_getElem? (i := 82) rfl)) rfl
theorem wd1384 : Cond.instanceMethod yX6_fails ∈ jbig := jbig_in (jtb_6 _ (List.mem_of_getElem? (i := 81) rfl)) rfl
theorem wd43 : Cond.selects yX6_fails.cls yX6_fails yX6_fails ∈ jbig := jbig_of 43 rfl rfl
theorem wd1478 : Cond.methodLink RX6 183 yX6_worthTo ∈ jbig := jbig_in (jtb_6 _ (List.mem_of_getElem? (i := 175) rfl)) rfl
theorem wd1481 : Cond.code yX6_worthTo cX6_worthTo 3 (some .int) ∈ jbig := jbig_in (jtb_6 _ (List.mem_of_getElem? (i := 178) rfl)) rfl
theorem wd1480 : Cond.instanceMethod yX6_worthTo ∈ jbig := jbig_in (jtb_6 _ (List.mem_of_getElem? (i := 177) rfl)) rfl
theorem wd60 : Cond.selects yX6_worthTo.cls yX6_worthTo yX6_worthTo ∈ jbig := jbig_of 60 rfl rfl
theorem wd1469 : Cond.methodLink RX6 186 yX6_isPerson ∈ jbig := jbig_in (jtb_6 _ (List.mem_of_getElem? (i := 166) rfl)) rfl
theorem wd1472 : Cond.code yX6_isPerson cX6_isPerson 2 (some .boolean) ∈ jbig := jbig_in (jtb_6 _ (List.mem_of_getElem? (i := 169) rfl)) rfl
theorem wd1471 : Cond.instanceMethod yX6_isPerson ∈ jbig := jbig_in (jtb_6 _ (List.mem_of_getElem? (i := 168) rfl)) rfl
theorem wd58 : Cond.selects yX6_isPerson.cls yX6_isPerson yX6_isPerson ∈ jbig := jbig_of 58 rfl rfl
theorem wd1482 : Cond.methodLink RX6 194 yX6_holds ∈ jbig := jbig_in (jtb_6 _ (List.mem_of_getElem? (i := 179) rfl)) rfl
theorem wd1485 : Cond.code yX6_holds cX6_holds 4 (some .int) ∈ jbig := jbig_in (jtb_6 _ (List.mem_of_getElem? (i := 182) rfl)) rfl
theorem wd1484 : Cond.instanceMethod yX6_holds ∈ jbig := jbig_in (jtb_6 _ (List.mem_of_getElem? (i := 181) rfl)) rfl
theorem wd61 : Cond.selects yX6_holds.cls yX6_holds yX6_holds ∈ jbig := jbig_of 61 rfl rfl
theorem wd1474 : Cond.methodLink RX6 191 yX6_wealth ∈ jbig := jbig_in (jtb_6 _ (List.mem_of_getElem? (i := 171) rfl)) rfl
theorem wd1477 : Cond.code yX6_wealth cX6_wealth 4 (some .int) ∈ jbig := jbig_in (jtb_6 _ (List.mem_of_getElem? (i := 174) rfl)) rfl
theorem wd1476 : Cond.instanceMethod yX6_wealth ∈ jbig := jbig_in (jtb_6 _ (List.mem_of_getElem? (i := 173) rfl)) rfl
theorem wd59 : Cond.selects yX6_wealth.cls yX6_wealth yX6_wealth ∈ jbig := jbig_of 59 rfl rfl
theorem wd1490 : Cond.methodLink RX6 197 yX6_isThing ∈ jbig := jbig_in (jtb_6 _ (List.mem_of_getElem? (i := 187) rfl)) rfl
theorem wd1493 : Cond.code yX6_isThing cX6_isThing 2 (some .boolean) ∈ jbig := jbig_in (jtb_6 _ (List.mem_of_getElem? (i := 190) rfl)) rfl
theorem wd1492 : Cond.instanceMethod yX6_isThing ∈ jbig := jbig_in (jtb_6 _ (List.mem_of_getElem? (i := 189) rfl)) rfl
theorem wd62 : Cond.selects yX6_isThing.cls yX6_isThing yX6_isThing ∈ jbig := jbig_of 62 rfl rfl
theorem wd1502 : Cond.methodLink RX6 200 yX6_isEaten ∈ jbig := jbig_in (jtb_6 _ (List.mem_of_getElem? (i := 199) rfl)) rfl
theorem wd1505 : Cond.code yX6_isEaten cX6_isEaten 2 (some .boolean) ∈ jbig := jbig_in (jtb_6 _ (List.mem_of_getElem? (i := 202) rfl)) rfl
theorem wd1504 : Cond.instanceMethod yX6_isEaten ∈ jbig := jbig_in (jtb_6 _ (List.mem_of_getElem? (i := 201) rfl)) rfl
theorem wd63 : Cond.selects yX6_isEaten.cls yX6_isEaten yX6_isEaten ∈ jbig := jbig_of 63 rfl rfl
theorem wd1510 : Cond.methodLink RX6 203 Lib.Math.min.name ∈ jbig := jbig_in (jtb_6 _ (List.mem_of_getElem? (i := 207) rfl)) rfl
theorem wd926 : Cond.static Lib.Math.min.name ∈ jbig := jbig_in (jtb_4 _ (List.mem_of_getElem? (i := 103) rfl)) rfl
theorem wd927 : Cond.code Lib.Math.min.name Lib.Math.min.code 2 (some .int) ∈ jbig := jbig_in (jtb_4 _ (List.mem_of_getElem? (i := 104) rfl)) rfl
theorem wd1523 : Cond.methodLink RX6 208 yX6_of ∈ jbig := jbig_in (jtb_6 _ (List.mem_of_getElem? (i := 220) rfl)) rfl
theorem wd1526 : Cond.code yX6_of cX6_of 3 (some .int) ∈ jbig := jbig_in (jtb_6 _ (List.mem_of_getElem? (i := 223) rfl)) rfl
theorem wd1525 : Cond.instanceMethod yX6_of ∈ jbig := jbig_in (jtb_6 _ (List.mem_of_getElem? (i := 222) rfl)) rfl
theorem wd66 : Cond.selects yX6_of.cls yX6_of yX6_of ∈ jbig := jbig_of 66 rfl rfl
theorem wd1515 : Cond.methodLink RX6 211 yX6_hasRung ∈ jbig := jbig_in (jtb_6 _ (List.mem_of_getElem? (i := 212) rfl)) rfl
theorem wd1518 : Cond.code yX6_hasRung cX6_hasRung 1 (some .boolean) ∈ jbig := jbig_in (jtb_6 _ (List.mem_of_getElem? (i := 215) rfl)) rfl
theorem wd1517 : Cond.instanceMethod yX6_hasRung ∈ jbig := jbig_in (jtb_6 _ (List.mem_of_getElem? (i := 214) rfl)) rfl
theorem wd64 : Cond.selects yX6_hasRung.cls yX6_hasRung yX6_hasRung ∈ jbig := jbig_of 64 rfl rfl
theorem wd1519 : Cond.methodLink RX6 215 yX6_standMany ∈ jbig := jbig_in (jtb_6 _ (List.mem_of_getElem? (i := 216) rfl)) rfl
theorem wd1522 : Cond.code yX6_standMany cX6_standMany 3 (some .int) ∈ jbig := jbig_in (jtb_6 _ (List.mem_of_getElem? (i := 219) rfl)) rfl
theorem wd1521 : Cond.instanceMethod yX6_standMany ∈ jbig := jbig_in (jtb_6 _ (List.mem_of_getElem? (i := 218) rfl)) rfl
theorem wd65 : Cond.selects yX6_standMany.cls yX6_standMany yX6_standMany ∈ jbig := jbig_of 65 rfl rfl
theorem wd1531 : Cond.methodLink RX6 220 yX6_whyNoSale ∈ jbig := jbig_in (jtb_6 _ (List.mem_of_getElem? (i := 228) rfl)) rfl
theorem wd1534 : Cond.code yX6_whyNoSale cX6_whyNoSale 4 (some .int) ∈ jbig := jbig_in (jtb_6 _ (List.mem_of_getElem? (i := 231) rfl)) rfl
theorem wd1533 : Cond.instanceMethod yX6_whyNoSale ∈ jbig := jbig_in (jtb_6 _ (List.mem_of_getElem? (i := 230) rfl)) rfl
theorem wd67 : Cond.selects yX6_whyNoSale.cls yX6_whyNoSale yX6_whyNoSale ∈ jbig := jbig_of 67 rfl rfl
theorem wd1536 : Cond.methodLink RX6 224 yX6_sells ∈ jbig := jbig_in (jtb_6 _ (List.mem_of_getElem? (i := 233) rfl)) rfl
theorem wd1539 : Cond.code yX6_sells cX6_sells 6 (some .int) ∈ jbig := jbig_in (jtb_6 _ (List.mem_of_getElem? (i := 236) rfl)) rfl
theorem wd1538 : Cond.instanceMethod yX6_sells ∈ jbig := jbig_in (jtb_6 _ (List.mem_of_getElem? (i := 235) rfl)) rfl
theorem wd68 : Cond.selects yX6_sells.cls yX6_sells yX6_sells ∈ jbig := jbig_of 68 rfl rfl
theorem wd1553 : Cond.methodLink RX6 227 Lib.Math.max.name ∈ jbig := jbig_in (jtb_7 _ (List.mem_of_getElem? (i := 10) rfl)) rfl
theorem wd1544 : Cond.methodLink RX6 230 yX6_isDeed ∈ jbig := jbig_in (jtb_7 _ (List.mem_of_getElem? (i := 1) rfl)) rfl
theorem wd1547 : Cond.code yX6_isDeed cX6_isDeed 3 (some .boolean) ∈ jbig := jbig_in (jtb_7 _ (List.mem_of_getElem? (i := 4) rfl)) rfl
theorem wd1546 : Cond.instanceMethod yX6_isDeed ∈ jbig := jbig_in (jtb_7 _ (List.mem_of_getElem? (i := 3) rfl)) rfl
theorem wd69 : Cond.selects yX6_isDeed.cls yX6_isDeed yX6_isDeed ∈ jbig := jbig_of 69 rfl rfl
theorem wd1549 : Cond.methodLink RX6 236 yX6_worthOf ∈ jbig := jbig_in (jtb_7 _ (List.mem_of_getElem? (i := 6) rfl)) rfl
theorem wd1552 : Cond.code yX6_worthOf cX6_worthOf 4 (some .int) ∈ jbig := jbig_in (jtb_7 _ (List.mem_of_getElem? (i := 9) rfl)) rfl
theorem wd1551 : Cond.instanceMethod yX6_worthOf ∈ jbig := jbig_in (jtb_7 _ (List.mem_of_getElem? (i := 8) rfl)) rfl
theorem wd70 : Cond.selects yX6_worthOf.cls yX6_worthOf yX6_worthOf ∈ jbig := jbig_of 70 rfl rfl
theorem wd1570 : Cond.methodLink RX6 240 yX6_fallsOf ∈ jbig := jbig_in (jtb_7 _ (List.mem_of_getElem? (i := 27) rfl)) rfl
theorem wd1573 : Cond.code yX6_fallsOf cX6_fallsOf 4 (some .int) ∈ jbig := jbig_in (jtb_7 _ (List.mem_of_getElem? (i := 30) rfl)) rfl
theorem wd1572 : Cond.instanceMethod yX6_fallsOf ∈ jbig := jbig_in (jtb_7 _ (List.mem_of_getElem? (i := 29) rfl)) rfl
theorem wd74 : Cond.selects yX6_fallsOf.cls yX6_fallsOf yX6_fallsOf ∈ jbig := jbig_of 74 rfl rfl
theorem wd1574 : Cond.methodLink RX6 243 yX6_pays ∈ jbig := jbig_in (jtb_7 _ (List.mem_of_getElem? (i := 31) rfl)) rfl
theorem wd1577 : Cond.code yX6_pays cX6_pays 6 (some .int) ∈ jbig := jbig_in (jtb_7 _ (List.mem_of_getElem? (i := 34) rfl)) rfl
theorem wd1576 : Cond.instanceMethod yX6_pays ∈ jbig := jbig_in (jtb_7 _ (List.mem_of_getElem? (i := 33) rfl)) rfl
theorem wd75 : Cond.selects yX6_pays.cls yX6_pays yX6_pays ∈ jbig := jbig_of 75 rfl rfl
theorem wd1562 : Cond.methodLink RX6 246 yX6_isOf ∈ jbig := jbig_in (jtb_7 _ (List.mem_of_getElem? (i := 19) rfl)) rfl
theorem wd1565 : Cond.code yX6_isOf cX6_isOf 3 (some .boolean) ∈ jbig := jbig_in (jtb_7 _ (List.mem_of_getElem? (i := 22) rfl)) rfl
theorem wd1564 : Cond.instanceMethod yX6_isOf ∈ jbig := jbig_in (jtb_7 _ (List.mem_of_getElem? (i := 21) rfl)) rfl
theorem wd72 : Cond.selects yX6_isOf.cls yX6_isOf yX6_isOf ∈ jbig := jbig_of 72 rfl rfl
theorem wd1566 : Cond.methodLink RX6 250 yX6_undoes ∈ jbig := jbig_in (jtb_7 _ (List.mem_of_getElem? (i := 23) rfl)) rfl
theorem wd1569 : Cond.code yX6_undoes cX6_undoes 7 (some .int) ∈ jbig := jbig_in (jtb_7 _ (List.mem_of_getElem? (i := 26) rfl)) rfl
theorem wd1568 : Cond.instanceMethod yX6_undoes ∈ jbig := jbig_in (jtb_7 _ (List.mem_of_getElem? (i := 25) rfl)) rfl
theorem wd73 : Cond.selects yX6_undoes.cls yX6_undoes yX6_undoes ∈ jbig := jbig_of 73 rfl rfl
theorem wd1558 : Cond.methodLink RX6 253 yX6_whyNot ∈ jbig := jbig_in (jtb_7 _ (List.mem_of_getElem? (i := 15) rfl)) rfl
theorem wd1561 : Cond.code yX6_whyNot cX6_whyNot 6 (some .int) ∈ jbig := jbig_in (jtb_7 _ (List.mem_of_getElem? (i := 18) rfl)) rfl
theorem wd1560 : Cond.instanceMethod yX6_whyNot ∈ jbig := jbig_in (jtb_7 _ (List.mem_of_getElem? (i := 17) rfl)) rfl
theorem wd71 : Cond.selects yX6_whyNot.cls yX6_whyNot yX6_whyNot ∈ jbig := jbig_of 71 rfl rfl
theorem wd1602 : Cond.methodLink RX6 257 yX6_isTray ∈ jbig := jbig_in (jtb_7 _ (List.mem_of_getElem? (i := 59) rfl)) rfl
theorem wd1604 : Cond.code yX6_isTray cX6_isTray 1 (some .boolean) ∈ jbig := jbig_in (jtb_7 _ (List.mem_of_getElem? (i := 61) rfl)) rfl
theorem wd1603 : Cond.static yX6_isTray ∈ jbig := jbig_in (jtb_7 _ (List.mem_of_getElem? (i := 60) rfl)) rfl
theorem wd1614 : Cond.methodLink RX6 260 yX6_byTold ∈ jbig := jbig_in (jtb_7 _ (List.mem_of_getElem? (i := 71) rfl)) rfl
theorem wd1617 : Cond.code yX6_byTold cX6_byTold 2 (some .int) ∈ jbig := jbig_in (jtb_7 _ (List.mem_of_getElem? (i := 74) rfl)) rfl
theorem wd1616 : Cond.instanceMethod yX6_byTold ∈ jbig := jbig_in (jtb_7 _ (List.mem_of_getElem? (i := 73) rfl)) rfl
theorem wd79 : Cond.selects yX6_byTold.cls yX6_byTold yX6_byTold ∈ jbig := jbig_of 79 rfl rfl
theorem wd1610 : Cond.methodLink RX6 263 yX6_whyTold ∈ jbig := jbig_in (jtb_7 _ (List.mem_of_getElem? (i := 67) rfl)) rfl
theorem wd1613 : Cond.code yX6_whyTold cX6_whyTold 3 (some .int) ∈ jbig := jbig_in (jtb_7 _ (List.mem_of_getElem? (i := 70) rfl)) rfl
theorem wd1612 : Cond.instanceMethod yX6_whyTold ∈ jbig := jbig_in (jtb_7 _ (List.mem_of_getElem? (i := 69) rfl)) rfl
theorem wd78 : Cond.selects yX6_whyTold.cls yX6_whyTold yX6_whyTold ∈ jbig := jbig_of 78 rfl rfl
theorem wd1598 : Cond.methodLink RX6 267 yX6_trayFault ∈ jbig := jbig_in (jtb_7 _ (List.mem_of_getElem? (i := 55) rfl)) rfl
theorem wd1601 : Cond.code yX6_trayFault cX6_trayFault 2 (some .int) ∈ jbig := jbig_in (jtb_7 _ (List.mem_of_getElem? (i := 58) rfl)) rfl
theorem wd1600 : Cond.instanceMethod yX6_trayFault ∈ jbig := jbig_in (jtb_7 _ (List.mem_of_getElem? (i := 57) rfl)) rfl
theorem wd76 : Cond.selects yX6_trayFault.cls yX6_trayFault yX6_trayFault ∈ jbig := jbig_of 76 rfl rfl
theorem wd1606 : Cond.methodLink RX6 270 yX6_goesBy ∈ jbig := jbig_in (jtb_7 _ (List.mem_of_getElem? (i := 63) rfl)) rfl
theorem wd1609 : Cond.code yX6_goesBy cX6_goesBy 4 (some .int) ∈ jbig := jbig_in (jtb_7 _ (List.mem_of_getElem? (i := 66) rfl)) rfl
theorem wd1608 : Cond.instanceMethod yX6_goesBy ∈ jbig := jbig_in (jtb_7 _ (List.mem_of_getElem? (i := 65) rfl)) rfl
theorem wd77 : Cond.selects yX6_goesBy.cls yX6_goesBy yX6_goesBy ∈ jbig := jbig_of 77 rfl rfl
theorem wd1631 : Cond.methodLink RX6 277 yX6_draw ∈ jbig := jbig_in (jtb_7 _ (List.mem_of_getElem? (i := 88) rfl)) rfl
theorem wd1634 : Cond.code yX6_draw cX6_draw 2 (some .int) ∈ jbig := jbig_in (jtb_7 _ (List.mem_of_getElem? (i := 91) rfl)) rfl
theorem wd1633 : Cond.instanceMethod yX6_draw ∈ jbig := jbig_in (jtb_7 _ (List.mem_of_getElem? (i := 90) rfl)) rfl
theorem wd81 : Cond.selects yX6_draw.cls yX6_draw yX6_draw ∈ jbig := jbig_of 81 rfl rfl
theorem wd1627 : Cond.methodLink RX6 282 yX6_drawn ∈ jbig := jbig_in (jtb_7 _ (List.mem_of_getElem? (i := 84) rfl)) rfl
theorem wd1630 : Cond.code yX6_drawn cX6_drawn 4 (some .boolean) ∈ jbig := jbig_in (jtb_7 _ (List.mem_of_getElem? (i := 87) rfl)) rfl
theorem wd1629 : Cond.instanceMethod yX6_drawn ∈ jbig := jbig_in (jtb_7 _ (List.mem_of_getElem? (i := 86) rfl)) rfl
theorem wd80 : Cond.selects yX6_drawn.cls yX6_drawn yX6_drawn ∈ jbig := jbig_of 80 rfl rfl
theorem wd1644 : Cond.methodLink RX6 285 yX6_isOpen ∈ jbig := jbig_in (jtb_7 _ (List.mem_of_getElem? (i := 101) rfl)) rfl
theorem wd1647 : Cond.code yX6_isOpen cX6_isOpen 2 (some .boolean) ∈ jbig := jbig_in (jtb_7 _ (List.mem_of_getElem? (i := 104) rfl)) rfl
theorem wd1646 : Cond.instanceMethod yX6_isOpen ∈ jbig := jbig_in (jtb_7 _ (List.mem_of_getElem? (i := 103) rfl)) rfl
theorem wd83 : Cond.selects yX6_isOpen.cls yX6_isOpen yX6_isOpen ∈ jbig := jbig_of 83 rfl rfl
theorem wd1640 : Cond.methodLink RX6 288 yX6_openSet ∈ jbig := jbig_in (jtb_7 _ (List.mem_of_getElem? (i := 97) rfl)) rfl
theorem wd1643 : Cond.code yX6_openSet cX6_openSet 3 (some .int) ∈ jbig := jbig_in (jtb_7 _ (List.mem_of_getElem? (i := 100) rfl)) rfl
theorem wd1642 : Cond.instanceMethod yX6_openSet ∈ jbig := jbig_in (jtb_7 _ (List.mem_of_getElem? (i := 99) rfl)) rfl
theorem wd82 : Cond.selects yX6_openSet.cls yX6_openSet yX6_openSet ∈ jbig := jbig_of 82 rfl rfl
theorem wd1652 : Cond.methodLink RX6 291 yX6_gainOf ∈ jbig := jbig_in (jtb_7 _ (List.mem_of_getElem? (i := 109) rfl)) rfl
theorem wd1655 : Cond.code yX6_gainOf cX6_gainOf 5 (some .int) ∈ jbig := jbig_in (jtb_7 _ (List.mem_of_getElem? (i := 112) rfl)) rfl
theorem wd1654 : Cond.instanceMethod yX6_gainOf ∈ jbig := jbig_in (jtb_7 _ (List.mem_of_getElem? (i := 111) rfl)) rfl
theorem wd84 : Cond.selects yX6_gainOf.cls yX6_gainOf yX6_gainOf ∈ jbig := jbig_of 84 rfl rfl
theorem wd1660 : Cond.methodLink RX6 294 yX6_pledgeOf ∈ jbig := jbig_in (jtb_7 _ (List.mem_of_getElem? (i := 117) rfl)) rfl
theorem wd1663 : Cond.code yX6_pledgeOf cX6_pledgeOf 2 (some .int) ∈ jbig := jbig_in (jtb_7 _ (List.mem_of_getElem? (i := 120) rfl)) rfl
theorem wd1662 : Cond.instanceMethod yX6_pledgeOf ∈ jbig := jbig_in (jtb_7 _ (List.mem_of_getElem? (i := 119) rfl)) rfl
theorem wd85 : Cond.selects yX6_pledgeOf.cls yX6_pledgeOf yX6_pledgeOf ∈ jbig := jbig_of 85 rfl rfl
theorem wd1672 : Cond.methodLink RX6 297 yX6_isTempted ∈ jbig := jbig_in (jtb_7 _ (List.mem_of_getElem? (i := 129) rfl)) rfl
theorem wd1675 : Cond.code yX6_isTempted cX6_isTempted 3 (some .boolean) ∈ jbig := jbig_in (jtb_7 _ (List.mem_of_getElem? (i := 132) rfl)) rfl
theorem wd1674 : Cond.instanceMethod yX6_isTempted ∈ jbig := jbig_in (jtb_7 _ (List.mem_of_getElem? (i := 131) rfl)) rfl
theorem wd86 : Cond.selects yX6_isTempted.cls yX6_isTempted yX6_isTempted ∈ jbig := jbig_of 86 rfl rfl
theorem wd1688 : Cond.methodLink RX6 300 yX6_isSafePrice ∈ jbig := jbig_in (jtb_7 _ (List.mem_of_getElem? (i := 145) rfl)) rfl
theorem wd1691 : Cond.code yX6_isSafePrice cX6_isSafePrice 7 (some .boolean) ∈ jbig := jbig_in (jtb_7 _ (List.mem_of_getElem? (i := 148) rfl)) rfl
theorem wd1690 : Cond.instanceMethod yX6_isSafePrice ∈ jbig := jbig_in (jtb_7 _ (List.mem_of_getElem? (i := 147) rfl)) rfl
theorem wd87 : Cond.selects yX6_isSafePrice.cls yX6_isSafePrice yX6_isSafePrice ∈ jbig := jbig_of 87 rfl rfl
theorem wd1726 : Cond.methodLink RX6 307 yX6_fallIn ∈ jbig := jbig_in (jtb_7 _ (List.mem_of_getElem? (i := 183) rfl)) rfl
theorem wd1729 : Cond.code yX6_fallIn cX6_fallIn 5 (some .int) ∈ jbig := jbig_in (jtb_7 _ (List.mem_of_getElem? (i := 186) rfl)) rfl
theorem wd1728 : Cond.instanceMethod yX6_fallIn ∈ jbig := jbig_in (jtb_7 _ (List.mem_of_getElem? (i := 185) rfl)) rfl
theorem wd93 : Cond.selects yX6_fallIn.cls yX6_fallIn yX6_fallIn ∈ jbig := jbig_of 93 rfl rfl
theorem wd1722 : Cond.methodLink RX6 326 yX6_laysUndoing ∈ jbig := jbig_in (jtb_7 _ (List.mem_of_getElem? (i := 179) rfl)) rfl
theorem wd1725 : Cond.code yX6_laysUndoing cX6_laysUndoing 10 none ∈ jbig := jbig_in (jtb_7 _ (List.mem_of_getElem? (i := 182) rfl)) rfl
theorem wd1724 : Cond.instanceMethod yX6_laysUndoing ∈ jbig := jbig_in (jtb_7 _ (List.mem_of_getElem? (i := 181) rfl)) rfl
theorem wd92 : Cond.selects yX6_laysUndoing.cls yX6_laysUndoing yX6_laysUndoing ∈ jbig := jbig_of 92 rfl rfl
theorem wd1714 : Cond.methodLink RX6 319 yX6_seat ∈ jbig := jbig_in (jtb_7 _ (List.mem_of_getElem? (i := 171) rfl)) rfl
theorem wd1717 : Cond.code yX6_seat cX6_seat 4 (some .int) ∈ jbig := jbig_in (jtb_7 _ (List.mem_of_getElem? (i := 174) rfl)) rfl
theorem wd1716 : Cond.instanceMethod yX6_seat ∈ jbig := jbig_in (jtb_7 _ (List.mem_of_getElem? (i := 173) rfl)) rfl
theorem wd90 : Cond.selects yX6_seat.cls yX6_seat yX6_seat ∈ jbig := jbig_of 90 rfl rfl
theorem wd1718 : Cond.methodLink RX6 322 yX6_laysTurn ∈ jbig := jbig_in (jtb_7 _ (List.mem_of_getElem? (i := 175) rfl)) rfl
theorem wd1721 : Cond.code yX6_laysTurn cX6_laysTurn 7 none ∈ jbig := jbig_in (jtb_7 _ (List.mem_of_getElem? (i := 178) rfl)) rfl
theorem wd1720 : Cond.instanceMethod yX6_laysTurn ∈ jbig := jbig_in (jtb_7 _ (List.mem_of_getElem? (i := 177) rfl)) rfl
theorem wd91 : Cond.selects yX6_laysTurn.cls yX6_laysTurn yX6_laysTurn ∈ jbig := jbig_of 91 rfl rfl
theorem wd1710 : Cond.methodLink RX6 310 yX6_laysFrom ∈ jbig := jbig_in (jtb_7 _ (List.mem_of_getElem? (i := 167) rfl)) rfl
theorem wd1713 : Cond.code yX6_laysFrom cX6_laysFrom 5 (some .boolean) ∈ jbig := jbig_in (jtb_7 _ (List.mem_of_getElem? (i := 170) rfl)) rfl
theorem wd1712 : Cond.instanceMethod yX6_laysFrom ∈ jbig := jbig_in (jtb_7 _ (List.mem_of_getElem? (i := 169) rfl)) rfl
theorem wd89 : Cond.selects yX6_laysFrom.cls yX6_laysFrom yX6_laysFrom ∈ jbig := jbig_of 89 rfl rfl
theorem wd1739 : Cond.methodLink RX6 330 yX6_full ∈ jbig := jbig_in (jtb_7 _ (List.mem_of_getElem? (i := 196) rfl)) rfl
theorem wd1742 : Cond.code yX6_full cX6_full 1 (some .int) ∈ jbig := jbig_in (jtb_7 _ (List.mem_of_getElem? (i := 199) rfl)) rfl
theorem wd1741 : Cond.instanceMethod yX6_full ∈ jbig := jbig_in (jtb_7 _ (List.mem_of_getElem? (i := 198) rfl)) rfl
theorem wd96 : Cond.selects yX6_full.cls yX6_full yX6_full ∈ jbig := jbig_of 96 rfl rfl
theorem wd1735 : Cond.methodLink RX6 333 yX6_setBehind ∈ jbig := jbig_in (jtb_7 _ (List.mem_of_getElem? (i := 192) rfl)) rfl
theorem wd1738 : Cond.code yX6_setBehind cX6_setBehind 5 (some .int) ∈ jbig := jbig_in (jtb_7 _ (List.mem_of_getElem? (i := 195) rfl)) rfl
theorem wd1737 : Cond.instanceMethod yX6_setBehind ∈ jbig := jbig_in (jtb_7 _ (List.mem_of_getElem? (i := 194) rfl)) rfl
theorem wd95 : Cond.selects yX6_setBehind.cls yX6_setBehind yX6_setBehind ∈ jbig := jbig_of 95 rfl rfl
theorem wd1706 : Cond.methodLink RX6 340 yX6_laysEnd ∈ jbig := jbig_in (jtb_7 _ (List.mem_of_getElem? (i := 163) rfl)) rfl
theorem wd1709 : Cond.code yX6_laysEnd cX6_laysEnd 2 (some .boolean) ∈ jbig := jbig_in (jtb_7 _ (List.mem_of_getElem? (i := 166) rfl)) rfl
theorem wd1708 : Cond.instanceMethod yX6_laysEnd ∈ jbig := jbig_in (jtb_7 _ (List.mem_of_getElem? (i := 165) rfl)) rfl
theorem wd88 : Cond.selects yX6_laysEnd.cls yX6_laysEnd yX6_laysEnd ∈ jbig := jbig_of 88 rfl rfl
theorem wd1743 : Cond.methodLink RX6 347 yX6_chosen ∈ jbig := jbig_in (jtb_7 _ (List.mem_of_getElem? (i := 200) rfl)) rfl
theorem wd1746 : Cond.code yX6_chosen cX6_chosen 3 (some .int) ∈ jbig := jbig_in (jtb_7 _ (List.mem_of_getElem? (i := 203) rfl)) rfl
theorem wd1745 : Cond.instanceMethod yX6_chosen ∈ jbig := jbig_in (jtb_7 _ (List.mem_of_getElem? (i := 202) rfl)) rfl
theorem wd97 : Cond.selects yX6_chosen.cls yX6_chosen yX6_chosen ∈ jbig := jbig_of 97 rfl rfl
theorem wd1747 : Cond.methodLink RX6 350 yX6_wealthIn ∈ jbig := jbig_in (jtb_7 _ (List.mem_of_getElem? (i := 204) rfl)) rfl
theorem wd1750 : Cond.code yX6_wealthIn cX6_wealthIn 2 (some .int) ∈ jbig := jbig_in (jtb_7 _ (List.mem_of_getElem? (i := 207) rfl)) rfl
theorem wd1749 : Cond.instanceMethod yX6_wealthIn ∈ jbig := jbig_in (jtb_7 _ (List.mem_of_getElem? (i := 206) rfl)) rfl
theorem wd98 : Cond.selects yX6_wealthIn.cls yX6_wealthIn yX6_wealthIn ∈ jbig := jbig_of 98 rfl rfl
theorem wd1731 : Cond.methodLink RX6 344 yX6_standIn ∈ jbig := jbig_in (jtb_7 _ (List.mem_of_getElem? (i := 188) rfl)) rfl
theorem wd1734 : Cond.code yX6_standIn cX6_standIn 4 (some .int) ∈ jbig := jbig_in (jtb_7 _ (List.mem_of_getElem? (i := 191) rfl)) rfl
theorem wd1733 : Cond.instanceMethod yX6_standIn ∈ jbig := jbig_in (jtb_7 _ (List.mem_of_getElem? (i := 190) rfl)) rfl
theorem wd94 : Cond.selects yX6_standIn.cls yX6_standIn yX6_standIn ∈ jbig := jbig_of 94 rfl rfl
theorem wd1771 : Cond.methodLink RX6 353 yX6_size ∈ jbig := jbig_in (jtb_7 _ (List.mem_of_getElem? (i := 228) rfl)) rfl
theorem wd1773 : Cond.code yX6_size cX6_size 3 (some .int) ∈ jbig := jbig_in (jtb_7 _ (List.mem_of_getElem? (i := 230) rfl)) rfl
theorem wd1772 : Cond.static yX6_size ∈ jbig := jbig_in (jtb_7 _ (List.mem_of_getElem? (i := 229) rfl)) rfl
theorem wd1787 : Cond.methodLink RX6 357 yX6_isHeld ∈ jbig := jbig_in (jtb_8 _ (List.mem_of_getElem? (i := 4) rfl)) rfl
theorem wd1790 : Cond.code yX6_isHeld cX6_isHeld 2 (some .boolean) ∈ jbig := jbig_in (jtb_8 _ (List.mem_of_getElem? (i := 7) rfl)) rfl
theorem wd1789 : Cond.instanceMethod yX6_isHeld ∈ jbig := jbig_in (jtb_8 _ (List.mem_of_getElem? (i := 6) rfl)) rfl
theorem wd99 : Cond.selects yX6_isHeld.cls yX6_isHeld yX6_isHeld ∈ jbig := jbig_of 99 rfl rfl
theorem wd1791 : Cond.methodLink RX6 360 yX6_rather ∈ jbig := jbig_in (jtb_8 _ (List.mem_of_getElem? (i := 8) rfl)) rfl
theorem wd1794 : Cond.code yX6_rather cX6_rather 3 (some .boolean) ∈ jbig := jbig_in (jtb_8 _ (List.mem_of_getElem? (i := 11) rfl)) rfl
theorem wd1793 : Cond.instanceMethod yX6_rather ∈ jbig := jbig_in (jtb_8 _ (List.mem_of_getElem? (i := 10) rfl)) rfl
theorem wd100 : Cond.selects yX6_rather.cls yX6_rather yX6_rather ∈ jbig := jbig_of 100 rfl rfl
theorem wd1799 : Cond.methodLink RX6 363 yX6_isThree ∈ jbig := jbig_in (jtb_8 _ (List.mem_of_getElem? (i := 16) rfl)) rfl
theorem wd1802 : Cond.code yX6_isThree cX6_isThree 7 (some .boolean) ∈ jbig := jbig_in (jtb_8 _ (List.mem_of_getElem? (i := 19) rfl)) rfl
theorem wd1801 : Cond.instanceMethod yX6_isThree ∈ jbig := jbig_in (jtb_8 _ (List.mem_of_getElem? (i := 18) rfl)) rfl
theorem wd101 : Cond.selects yX6_isThree.cls yX6_isThree yX6_isThree ∈ jbig := jbig_of 101 rfl rfl
theorem wd1815 : Cond.methodLink RX6 369 yX6_cut ∈ jbig := jbig_in (jtb_8 _ (List.mem_of_getElem? (i := 32) rfl)) rfl
theorem wd1818 : Cond.code yX6_cut cX6_cut 6 (some .long) ∈ jbig := jbig_in (jtb_8 _ (List.mem_of_getElem? (i := 35) rfl)) rfl
theorem wd1817 : Cond.instanceMethod yX6_cut ∈ jbig := jbig_in (jtb_8 _ (List.mem_of_getElem? (i := 34) rfl)) rfl
theorem wd102 : Cond.selects yX6_cut.cls yX6_cut yX6_cut ∈ jbig := jbig_of 102 rfl rfl
theorem wd346 : Cond.fieldLink RX5 10 "TillTheBell" "now" "LTillTheBell$Town;" ∈ jbig := jbig_in (jtb_2 _ (List.mem_of_getElem? (i := 3) rfl)) rfl
theorem wd347 : Cond.fieldLink RX5 16 "TillTheBell" "trial" "LTillTheBell$Town;" ∈ jbig := jbig_in (jtb_2 _ (List.mem_of_getElem? (i := 4) rfl)) rfl
theorem wd348 : Cond.fieldLink RX5 19 "TillTheBell" "images" "[LTillTheBell$Town;" ∈ jbig := jbig_in (jtb_2 _ (List.mem_of_getElem? (i := 5) rfl)) rfl
theorem wd349 : Cond.fieldLink RX5 23 "TillTheBell" "imaged" "[Z" ∈ jbig := jbig_in (jtb_2 _ (List.mem_of_getElem? (i := 6) rfl)) rfl
theorem wd350 : Cond.fieldLink RX5 29 "TillTheBell" "trays" "[LTillTheBell$Tray;" ∈ jbig := jbig_in (jtb_2 _ (List.mem_of_getElem? (i := 7) rfl)) rfl
theorem wd351 : Cond.fieldLink RX5 36 "TillTheBell" "reader" "LTillTheBell$Reader;" ∈ jbig := jbig_in (jtb_2 _ (List.mem_of_getElem? (i := 8) rfl)) rfl
theorem wd352 : Cond.fieldLink RX5 43 "TillTheBell" "ending" "LTillTheBell$Ending;" ∈ jbig := jbig_in (jtb_2 _ (List.mem_of_getElem? (i := 9) rfl)) rfl
theorem wd235 : Cond.fieldLink RX5 48 "TillTheBell$Reader" "length" "I" ∈ jbig := jbig_in (jtb_1 _ (List.mem_of_getElem? (i := 132) rfl)) rfl
theorem wd238 : Cond.fieldLink RX5 63 "TillTheBell$Reader" "wrong" "I" ∈ jbig := jbig_in (jtb_1 _ (List.mem_of_getElem? (i := 135) rfl)) rfl
theorem wd141 : Cond.fieldLink RX5 70 "TillTheBell$Town" "lines" "I" ∈ jbig := jbig_in (jtb_1 _ (List.mem_of_getElem? (i := 38) rfl)) rfl
theorem wd240 : Cond.fieldLink RX5 73 "TillTheBell$Reader" "place" "I" ∈ jbig := jbig_in (jtb_1 _ (List.mem_of_getElem? (i := 137) rfl)) rfl
theorem wd171 : Cond.fieldLink RX5 79 "TillTheBell$Town" "coins" "[I" ∈ jbig := jbig_in (jtb_1 _ (List.mem_of_getElem? (i := 68) rfl)) rfl
theorem wd174 : Cond.fieldLink RX5 97 "TillTheBell$Town" "holders" "[I" ∈ jbig := jbig_in (jtb_1 _ (List.mem_of_getElem? (i := 71) rfl)) rfl
theorem wd153 : Cond.fieldLink RX5 104 "TillTheBell$Town" "eaten" "I" ∈ jbig := jbig_in (jtb_1 _ (List.mem_of_getElem? (i := 50) rfl)) rfl
theorem wd162 : Cond.fieldLink RX5 107 "TillTheBell$Town" "minute" "I" ∈ jbig := jbig_in (jtb_1 _ (List.mem_of_getElem? (i := 59) rfl)) rfl
theorem wd168 : Cond.fieldLink RX5 122 "TillTheBell$Town" "standing" "I" ∈ jbig := jbig_in (jtb_1 _ (List.mem_of_getElem? (i := 65) rfl)) rfl
theorem wd166 : Cond.fieldLink RX5 130 "TillTheBell$Town" "deeds" "I" ∈ jbig := jbig_in (jtb_1 _ (List.mem_of_getElem? (i := 63) rfl)) rfl
theorem wd179 : Cond.fieldLink RX5 143 "TillTheBell$Town" "thingOf" "[I" ∈ jbig := jbig_in (jtb_1 _ (List.mem_of_getElem? (i := 76) rfl)) rfl
theorem wd182 : Cond.fieldLink RX5 146 "TillTheBell$Town" "giverOf" "[I" ∈ jbig := jbig_in (jtb_1 _ (List.mem_of_getElem? (i := 79) rfl)) rfl
theorem wd185 : Cond.fieldLink RX5 149 "TillTheBell$Town" "takerOf" "[I" ∈ jbig := jbig_in (jtb_1 _ (List.mem_of_getElem? (i := 82) rfl)) rfl
theorem wd187 : Cond.fieldLink RX5 152 "TillTheBell$Town" "priceOf" "[I" ∈ jbig := jbig_in (jtb_1 _ (List.mem_of_getElem? (i := 84) rfl)) rfl
theorem wd189 : Cond.fieldLink RX5 158 "TillTheBell$Town" "minuteOf" "[I" ∈ jbig := jbig_in (jtb_1 _ (List.mem_of_getElem? (i := 86) rfl)) rfl
theorem wd333 : Cond.fieldLink RX5 191 "TillTheBell$Tray" "many" "I" ∈ jbig := jbig_in (jtb_1 _ (List.mem_of_getElem? (i := 230) rfl)) rfl
theorem wd335 : Cond.fieldLink RX5 194 "TillTheBell$Tray" "row" "[J" ∈ jbig := jbig_in (jtb_1 _ (List.mem_of_getElem? (i := 232) rfl)) rfl
theorem wd151 : Cond.fieldLink RX5 202 "TillTheBell$Town" "things" "I" ∈ jbig := jbig_in (jtb_1 _ (List.mem_of_getElem? (i := 48) rfl)) rfl
theorem wd147 : Cond.fieldLink RX5 248 "TillTheBell$Town" "people" "I" ∈ jbig := jbig_in (jtb_1 _ (List.mem_of_getElem? (i := 44) rfl)) rfl
theorem wd278 : Cond.fieldLink RX5 262 "TillTheBell$Ending" "left" "I" ∈ jbig := jbig_in (jtb_1 _ (List.mem_of_getElem? (i := 175) rfl)) rfl
theorem wd157 : Cond.fieldLink RX5 284 "TillTheBell$Town" "share" "I" ∈ jbig := jbig_in (jtb_1 _ (List.mem_of_getElem? (i := 54) rfl)) rfl
theorem wd160 : Cond.fieldLink RX5 316 "TillTheBell$Town" "bell" "I" ∈ jbig := jbig_in (jtb_1 _ (List.mem_of_getElem? (i := 57) rfl)) rfl
theorem wd331 : Cond.fieldLink RX5 331 "TillTheBell$Tray" "missing" "Z" ∈ jbig := jbig_in (jtb_1 _ (List.mem_of_getElem? (i := 228) rfl)) rfl
theorem wd569 : Cond.constant RX5 258 (-100000) ∈ jbig := jbig_in (jtb_2 _ (List.mem_of_getElem? (i := 226) rfl)) rfl
theorem wd372 : Cond.methodLink RX5 52 yX2_add ∈ jbig := jbig_in (jtb_2 _ (List.mem_of_getElem? (i := 29) rfl)) rfl
theorem wd375 : Cond.code yX2_add cX2_add 3 none ∈ jbig := jbig_in (jtb_2 _ (List.mem_of_getElem? (i := 32) rfl)) rfl
theorem wd373 : Cond.instanceMethod yX2_add ∈ jbig := jbig_in (jtb_2 _ (List.mem_of_getElem? (i := 30) rfl)) rfl
theorem wd374 : Cond.selects yX2_add.cls yX2_add yX2_add ∈ jbig := jbig_in (jtb_2 _ (List.mem_of_getElem? (i := 31) rfl)) rfl
theorem wd722 : Cond.methodLink RX5 59 yX2_read ∈ jbig := jbig_in (jtb_3 _ (List.mem_of_getElem? (i := 139) rfl)) rfl
theorem wd725 : Cond.code yX2_read cX2_read 5 (some .boolean) ∈ jbig := jbig_in (jtb_3 _ (List.mem_of_getElem? (i := 142) rfl)) rfl
theorem wd723 : Cond.instanceMethod yX2_read ∈ jbig := jbig_in (jtb_3 _ (List.mem_of_getElem? (i := 140) rfl)) rfl
theorem wd724 : Cond.selects yX2_read.cls yX2_read yX2_read ∈ jbig := jbig_in (jtb_3 _ (List.mem_of_getElem? (i := 141) rfl)) rfl
theorem wd570 : Cond.methodLink RX5 66 yX3_copyFrom ∈ jbig := jbig_in (jtb_2 _ (List.mem_of_getElem? (i := 227) rfl)) rfl
theorem wd573 : Cond.code yX3_copyFrom cX3_copyFrom 2 none ∈ jbig := jbig_in (jtb_2 _ (List.mem_of_getElem? (i := 230) rfl)) rfl
theorem wd571 : Cond.instanceMethod yX3_copyFrom ∈ jbig := jbig_in (jtb_2 _ (List.mem_of_getElem? (i := 228) rfl)) rfl
theorem wd572 : Cond.selects yX3_copyFrom.cls yX3_copyFrom yX3_copyFrom ∈ jbig := jbig_in (jtb_2 _ (List.mem_of_getElem? (i := 229) rfl)) rfl
theorem wd870 : Cond.methodLink RX5 268 yX3_hasPerson ∈ jbig := jbig_in (jtb_4 _ (List.mem_of_getElem? (i := 47) rfl)) rfl
theorem wd866 : Cond.methodLink RX5 76 yX5_needPerson ∈ jbig := jbig_in (jtb_4 _ (List.mem_of_getElem? (i := 43) rfl)) rfl
theorem wd869 : Cond.code yX5_needPerson cX5_needPerson 2 none ∈ jbig := jbig_in (jtb_4 _ (List.mem_of_getElem? (i := 46) rfl)) rfl
theorem wd104 : Cond.initialized RX5 ∈ jbig := jbig_in (jtb_1 _ (List.mem_of_getElem? (i := 1) rfl)) rfl
theorem wd868 : Cond.instanceMethod yX5_needPerson ∈ jbig := jbig_in (jtb_4 _ (List.mem_of_getElem? (i := 45) rfl)) rfl
theorem wd31 : Cond.selects yX5_needPerson.cls yX5_needPerson yX5_needPerson ∈ jbig := jbig_of 31 rfl rfl
theorem wd886 : Cond.methodLink RX5 83 yX3_wealth ∈ jbig := jbig_in (jtb_4 _ (List.mem_of_getElem? (i := 63) rfl)) rfl
theorem wd887 : Cond.methodLink RX5 87 yX3_held ∈ jbig := jbig_in (jtb_4 _ (List.mem_of_getElem? (i := 64) rfl)) rfl
theorem wd890 : Cond.code yX3_held cX3_held 4 (some .int) ∈ jbig := jbig_in (jtb_4 _ (List.mem_of_getElem? (i := 67) rfl)) rfl
theorem wd888 : Cond.instanceMethod yX3_held ∈ jbig := jbig_in (jtb_4 _ (List.mem_of_getElem? (i := 65) rfl)) rfl
theorem wd889 : Cond.selects yX3_held.cls yX3_held yX3_held ∈ jbig := jbig_in (jtb_4 _ (List.mem_of_getElem? (i := 66) rfl)) rfl
theorem wd902 : Cond.methodLink RX5 325 yX3_hasThing ∈ jbig := jbig_in (jtb_4 _ (List.mem_of_getElem? (i := 79) rfl)) rfl
theorem wd898 : Cond.methodLink RX5 90 yX5_needThing ∈ jbig := jbig_in (jtb_4 _ (List.mem_of_getElem? (i := 75) rfl)) rfl
theorem wd901 : Cond.code yX5_needThing cX5_needThing 2 none ∈ jbig := jbig_in (jtb_4 _ (List.mem_of_getElem? (i := 78) rfl)) rfl
theorem wd900 : Cond.instanceMethod yX5_needThing ∈ jbig := jbig_in (jtb_4 _ (List.mem_of_getElem? (i := 77) rfl)) rfl
theorem wd32 : Cond.selects yX5_needThing.cls yX5_needThing yX5_needThing ∈ jbig := jbig_of 32 rfl rfl
theorem wd633 : Cond.methodLink RX5 93 yX3_worthTo ∈ jbig := jbig_in (jtb_3 _ (List.mem_of_getElem? (i := 50) rfl)) rfl
theorem wd917 : Cond.methodLink RX5 100 yX3_isEaten ∈ jbig := jbig_in (jtb_4 _ (List.mem_of_getElem? (i := 94) rfl)) rfl
theorem wd925 : Cond.methodLink RX5 110 Lib.Math.min.name ∈ jbig := jbig_in (jtb_4 _ (List.mem_of_getElem? (i := 102) rfl)) rfl
theorem wd936 : Cond.methodLink RX5 115 yX3_hasRung ∈ jbig := jbig_in (jtb_4 _ (List.mem_of_getElem? (i := 113) rfl)) rfl
theorem wd577 : Cond.methodLink RX5 125 yJ6_bitCount_0f7a4 ∈ jbig := jbig_in (jtb_2 _ (List.mem_of_getElem? (i := 234) rfl)) rfl
theorem wd384 : Cond.methodLink RX5 133 yX3_whyNoDeed ∈ jbig := jbig_in (jtb_2 _ (List.mem_of_getElem? (i := 41) rfl)) rfl
theorem wd404 : Cond.methodLink RX5 137 yX3_make ∈ jbig := jbig_in (jtb_2 _ (List.mem_of_getElem? (i := 61) rfl)) rfl
theorem wd963 : Cond.methodLink RX5 328 yX3_hasDeed ∈ jbig := jbig_in (jtb_4 _ (List.mem_of_getElem? (i := 140) rfl)) rfl
theorem wd959 : Cond.methodLink RX5 140 yX5_needDeed ∈ jbig := jbig_in (jtb_4 _ (List.mem_of_getElem? (i := 136) rfl)) rfl
theorem wd962 : Cond.code yX5_needDeed cX5_needDeed 2 none ∈ jbig := jbig_in (jtb_4 _ (List.mem_of_getElem? (i := 139) rfl)) rfl
theorem wd961 : Cond.instanceMethod yX5_needDeed ∈ jbig := jbig_in (jtb_4 _ (List.mem_of_getElem? (i := 138) rfl)) rfl
theorem wd33 : Cond.selects yX5_needDeed.cls yX5_needDeed yX5_needDeed ∈ jbig := jbig_of 33 rfl rfl
theorem wd964 : Cond.methodLink RX5 155 yX3_stands ∈ jbig := jbig_in (jtb_4 _ (List.mem_of_getElem? (i := 141) rfl)) rfl
theorem wd965 : Cond.methodLink RX5 161 yX3_worthToGiver ∈ jbig := jbig_in (jtb_4 _ (List.mem_of_getElem? (i := 142) rfl)) rfl
theorem wd966 : Cond.methodLink RX5 164 yX3_worthToTaker ∈ jbig := jbig_in (jtb_4 _ (List.mem_of_getElem? (i := 143) rfl)) rfl
theorem wd974 : Cond.methodLink RX5 167 yX3_whyNoUndoing ∈ jbig := jbig_in (jtb_4 _ (List.mem_of_getElem? (i := 151) rfl)) rfl
theorem wd506 : Cond.methodLink RX5 170 yX3_fell ∈ jbig := jbig_in (jtb_2 _ (List.mem_of_getElem? (i := 163) rfl)) rfl
theorem wd989 : Cond.methodLink RX5 173 yX3_fallBits ∈ jbig := jbig_in (jtb_4 _ (List.mem_of_getElem? (i := 166) rfl)) rfl
theorem wd997 : Cond.methodLink RX5 176 yX3_isOf ∈ jbig := jbig_in (jtb_4 _ (List.mem_of_getElem? (i := 174) rfl)) rfl
theorem wd998 : Cond.methodLink RX5 180 yX3_owedTo ∈ jbig := jbig_in (jtb_4 _ (List.mem_of_getElem? (i := 175) rfl)) rfl
theorem wd505 : Cond.methodLink RX5 235 yX3_sideOf ∈ jbig := jbig_in (jtb_2 _ (List.mem_of_getElem? (i := 162) rfl)) rfl
theorem wd1020 : Cond.methodLink RX5 198 yX5_whyNoTold ∈ jbig := jbig_in (jtb_4 _ (List.mem_of_getElem? (i := 197) rfl)) rfl
theorem wd1022 : Cond.code yX5_whyNoTold cX5_whyNoTold 4 (some .int) ∈ jbig := jbig_in (jtb_4 _ (List.mem_of_getElem? (i := 199) rfl)) rfl
theorem wd1021 : Cond.static yX5_whyNoTold ∈ jbig := jbig_in (jtb_4 _ (List.mem_of_getElem? (i := 198) rfl)) rfl
theorem wd1013 : Cond.methodLink RX5 183 yX5_needTray ∈ jbig := jbig_in (jtb_4 _ (List.mem_of_getElem? (i := 190) rfl)) rfl
theorem wd1016 : Cond.code yX5_needTray cX5_needTray 2 (some (.object "TillTheBell$Tray")) ∈ jbig := jbig_in (jtb_4 _ (List.mem_of_getElem? (i := 193) rfl)) rfl
theorem wd1015 : Cond.instanceMethod yX5_needTray ∈ jbig := jbig_in (jtb_4 _ (List.mem_of_getElem? (i := 192) rfl)) rfl
theorem wd34 : Cond.selects yX5_needTray.cls yX5_needTray yX5_needTray ∈ jbig := jbig_of 34 rfl rfl
theorem wd1017 : Cond.methodLink RX5 187 yX5_doTold ∈ jbig := jbig_in (jtb_4 _ (List.mem_of_getElem? (i := 194) rfl)) rfl
theorem wd1019 : Cond.code yX5_doTold cX5_doTold 4 (some .int) ∈ jbig := jbig_in (jtb_4 _ (List.mem_of_getElem? (i := 196) rfl)) rfl
theorem wd1018 : Cond.static yX5_doTold ∈ jbig := jbig_in (jtb_4 _ (List.mem_of_getElem? (i := 195) rfl)) rfl
theorem wd412 : Cond.methodLink RX5 213 yX3_openBits ∈ jbig := jbig_in (jtb_2 _ (List.mem_of_getElem? (i := 69) rfl)) rfl
theorem wd428 : Cond.methodLink RX5 217 yX3_isOpen ∈ jbig := jbig_in (jtb_2 _ (List.mem_of_getElem? (i := 85) rfl)) rfl
theorem wd472 : Cond.methodLink RX5 220 yX3_gainOf ∈ jbig := jbig_in (jtb_2 _ (List.mem_of_getElem? (i := 129) rfl)) rfl
theorem wd429 : Cond.methodLink RX5 223 yX3_topGain ∈ jbig := jbig_in (jtb_2 _ (List.mem_of_getElem? (i := 86) rfl)) rfl
theorem wd432 : Cond.code yX3_topGain cX3_topGain 2 (some .int) ∈ jbig := jbig_in (jtb_2 _ (List.mem_of_getElem? (i := 89) rfl)) rfl
theorem wd430 : Cond.instanceMethod yX3_topGain ∈ jbig := jbig_in (jtb_2 _ (List.mem_of_getElem? (i := 87) rfl)) rfl
theorem wd431 : Cond.selects yX3_topGain.cls yX3_topGain yX3_topGain ∈ jbig := jbig_in (jtb_2 _ (List.mem_of_getElem? (i := 88) rfl)) rfl
theorem wd1083 : Cond.methodLink RX5 226 Lib.Math.max.name ∈ jbig := jbig_in (jtb_5 _ (List.mem_of_getElem? (i := 20) rfl)) rfl
theorem wd468 : Cond.methodLink RX5 229 yX5_temptedBit ∈ jbig := jbig_in (jtb_2 _ (List.mem_of_getElem? (i := 125) rfl)) rfl
theorem wd471 : Cond.code yX5_temptedBit cX5_temptedBit 3 (some .int) ∈ jbig := jbig_in (jtb_2 _ (List.mem_of_getElem? (i := 128) rfl)) rfl
theorem wd470 : Cond.instanceMethod yX5_temptedBit ∈ jbig := jbig_in (jtb_2 _ (List.mem_of_getElem? (i := 127) rfl)) rfl
theorem wd0 : Cond.selects yX5_temptedBit.cls yX5_temptedBit yX5_temptedBit ∈ jbig := jbig_of 0 rfl rfl
theorem wd477 : Cond.methodLink RX5 232 yX3_bestUndoing ∈ jbig := jbig_in (jtb_2 _ (List.mem_of_getElem? (i := 134) rfl)) rfl
theorem wd480 : Cond.code yX3_bestUndoing cX3_bestUndoing 7 (some .int) ∈ jbig := jbig_in (jtb_2 _ (List.mem_of_getElem? (i := 137) rfl)) rfl
theorem wd478 : Cond.instanceMethod yX3_bestUndoing ∈ jbig := jbig_in (jtb_2 _ (List.mem_of_getElem? (i := 135) rfl)) rfl
theorem wd479 : Cond.selects yX3_bestUndoing.cls yX3_bestUndoing yX3_bestUndoing ∈ jbig := jbig_in (jtb_2 _ (List.mem_of_getElem? (i := 136) rfl)) rfl
theorem wd1091 : Cond.methodLink RX5 238 yX3_owedToAll ∈ jbig := jbig_in (jtb_5 _ (List.mem_of_getElem? (i := 28) rfl)) rfl
theorem wd1099 : Cond.methodLink RX5 241 yX3_wouldBeSafe ∈ jbig := jbig_in (jtb_5 _ (List.mem_of_getElem? (i := 36) rfl)) rfl
theorem wd1102 : Cond.code yX3_wouldBeSafe cX3_wouldBeSafe 8 (some .boolean) ∈ jbig := jbig_in (jtb_5 _ (List.mem_of_getElem? (i := 39) rfl)) rfl
theorem wd1100 : Cond.instanceMethod yX3_wouldBeSafe ∈ jbig := jbig_in (jtb_5 _ (List.mem_of_getElem? (i := 37) rfl)) rfl
theorem wd1101 : Cond.selects yX3_wouldBeSafe.cls yX3_wouldBeSafe yX3_wouldBeSafe ∈ jbig := jbig_in (jtb_5 _ (List.mem_of_getElem? (i := 38) rfl)) rfl
theorem wd528 : Cond.methodLink RX5 245 yX3_chainLength ∈ jbig := jbig_in (jtb_2 _ (List.mem_of_getElem? (i := 185) rfl)) rfl
theorem wd531 : Cond.code yX3_chainLength cX3_chainLength 4 (some .int) ∈ jbig := jbig_in (jtb_2 _ (List.mem_of_getElem? (i := 188) rfl)) rfl
theorem wd529 : Cond.instanceMethod yX3_chainLength ∈ jbig := jbig_in (jtb_2 _ (List.mem_of_getElem? (i := 186) rfl)) rfl
theorem wd530 : Cond.selects yX3_chainLength.cls yX3_chainLength yX3_chainLength ∈ jbig := jbig_in (jtb_2 _ (List.mem_of_getElem? (i := 187) rfl)) rfl
theorem wd1117 : Cond.methodLink RX5 251 yX5_needRounds ∈ jbig := jbig_in (jtb_5 _ (List.mem_of_getElem? (i := 54) rfl)) rfl
theorem wd1119 : Cond.code yX5_needRounds cX5_needRounds 1 none ∈ jbig := jbig_in (jtb_5 _ (List.mem_of_getElem? (i := 56) rfl)) rfl
theorem wd1118 : Cond.static yX5_needRounds ∈ jbig := jbig_in (jtb_5 _ (List.mem_of_getElem? (i := 55) rfl)) rfl
theorem wd536 : Cond.methodLink RX5 254 yX1_lay ∈ jbig := jbig_in (jtb_2 _ (List.mem_of_getElem? (i := 193) rfl)) rfl
theorem wd539 : Cond.code yX1_lay cX1_lay 6 (some .boolean) ∈ jbig := jbig_in (jtb_2 _ (List.mem_of_getElem? (i := 196) rfl)) rfl
theorem wd537 : Cond.instanceMethod yX1_lay ∈ jbig := jbig_in (jtb_2 _ (List.mem_of_getElem? (i := 194) rfl)) rfl
theorem wd538 : Cond.selects yX1_lay.cls yX1_lay yX1_lay ∈ jbig := jbig_in (jtb_2 _ (List.mem_of_getElem? (i := 195) rfl)) rfl
theorem wd578 : Cond.methodLink RX5 259 yX1_play ∈ jbig := jbig_in (jtb_2 _ (List.mem_of_getElem? (i := 235) rfl)) rfl
theorem wd581 : Cond.code yX1_play cX1_play 6 none ∈ jbig := jbig_in (jtb_2 _ (List.mem_of_getElem? (i := 238) rfl)) rfl
theorem wd579 : Cond.instanceMethod yX1_play ∈ jbig := jbig_in (jtb_2 _ (List.mem_of_getElem? (i := 236) rfl)) rfl
theorem wd580 : Cond.selects yX1_play.cls yX1_play yX1_play ∈ jbig := jbig_in (jtb_2 _ (List.mem_of_getElem? (i := 237) rfl)) rfl
theorem wd1127 : Cond.methodLink RX5 265 yX5_leftIn ∈ jbig := jbig_in (jtb_5 _ (List.mem_of_getElem? (i := 64) rfl)) rfl
theorem wd1130 : Cond.code yX5_leftIn cX5_leftIn 3 (some .int) ∈ jbig := jbig_in (jtb_5 _ (List.mem_of_getElem? (i := 67) rfl)) rfl
theorem wd1129 : Cond.instanceMethod yX5_leftIn ∈ jbig := jbig_in (jtb_5 _ (List.mem_of_getElem? (i := 66) rfl)) rfl
theorem wd38 : Cond.selects yX5_leftIn.cls yX5_leftIn yX5_leftIn ∈ jbig := jbig_of 38 rfl rfl
theorem wd1146 : Cond.methodLink RX5 277 yX1_undoings ∈ jbig := jbig_in (jtb_5 _ (List.mem_of_getElem? (i := 83) rfl)) rfl
theorem wd1149 : Cond.code yX1_undoings cX1_undoings 3 (some .int) ∈ jbig := jbig_in (jtb_5 _ (List.mem_of_getElem? (i := 86) rfl)) rfl
theorem wd1147 : Cond.instanceMethod yX1_undoings ∈ jbig := jbig_in (jtb_5 _ (List.mem_of_getElem? (i := 84) rfl)) rfl
theorem wd1148 : Cond.selects yX1_undoings.cls yX1_undoings yX1_undoings ∈ jbig := jbig_in (jtb_5 _ (List.mem_of_getElem? (i := 85) rfl)) rfl
theorem wd1142 : Cond.methodLink RX5 274 yX1_undoneIn ∈ jbig := jbig_in (jtb_5 _ (List.mem_of_getElem? (i := 79) rfl)) rfl
theorem wd1145 : Cond.code yX1_undoneIn cX1_undoneIn 2 (some .int) ∈ jbig := jbig_in (jtb_5 _ (List.mem_of_getElem? (i := 82) rfl)) rfl
theorem wd1143 : Cond.instanceMethod yX1_undoneIn ∈ jbig := jbig_in (jtb_5 _ (List.mem_of_getElem? (i := 80) rfl)) rfl
theorem wd1144 : Cond.selects yX1_undoneIn.cls yX1_undoneIn yX1_undoneIn ∈ jbig := jbig_in (jtb_5 _ (List.mem_of_getElem? (i := 81) rfl)) rfl
theorem wd1138 : Cond.methodLink RX5 271 yX1_change ∈ jbig := jbig_in (jtb_5 _ (List.mem_of_getElem? (i := 75) rfl)) rfl
theorem wd1141 : Cond.code yX1_change cX1_change 2 (some .int) ∈ jbig := jbig_in (jtb_5 _ (List.mem_of_getElem? (i := 78) rfl)) rfl
theorem wd1139 : Cond.instanceMethod yX1_change ∈ jbig := jbig_in (jtb_5 _ (List.mem_of_getElem? (i := 76) rfl)) rfl
theorem wd1140 : Cond.selects yX1_change.cls yX1_change yX1_change ∈ jbig := jbig_in (jtb_5 _ (List.mem_of_getElem? (i := 77) rfl)) rfl
theorem wd1164 : Cond.methodLink RX5 280 yX3_setWorth ∈ jbig := jbig_in (jtb_5 _ (List.mem_of_getElem? (i := 101) rfl)) rfl
theorem wd1179 : Cond.methodLink RX5 287 yX4_isOffers ∈ jbig := jbig_in (jtb_5 _ (List.mem_of_getElem? (i := 116) rfl)) rfl
theorem wd1182 : Cond.code yX4_isOffers cX4_isOffers 2 (some .boolean) ∈ jbig := jbig_in (jtb_5 _ (List.mem_of_getElem? (i := 119) rfl)) rfl
theorem wd1180 : Cond.instanceMethod yX4_isOffers ∈ jbig := jbig_in (jtb_5 _ (List.mem_of_getElem? (i := 117) rfl)) rfl
theorem wd1181 : Cond.selects yX4_isOffers.cls yX4_isOffers yX4_isOffers ∈ jbig := jbig_in (jtb_5 _ (List.mem_of_getElem? (i := 118) rfl)) rfl
theorem wd1184 : Cond.methodLink RX5 290 yX4_hopeIn ∈ jbig := jbig_in (jtb_5 _ (List.mem_of_getElem? (i := 121) rfl)) rfl
theorem wd1187 : Cond.code yX4_hopeIn cX4_hopeIn 10 (some .int) ∈ jbig := jbig_in (jtb_5 _ (List.mem_of_getElem? (i := 124) rfl)) rfl
theorem wd1185 : Cond.instanceMethod yX4_hopeIn ∈ jbig := jbig_in (jtb_5 _ (List.mem_of_getElem? (i := 122) rfl)) rfl
theorem wd1186 : Cond.selects yX4_hopeIn.cls yX4_hopeIn yX4_hopeIn ∈ jbig := jbig_in (jtb_5 _ (List.mem_of_getElem? (i := 123) rfl)) rfl
theorem wd616 : Cond.methodLink RX5 294 yX3_wants ∈ jbig := jbig_in (jtb_3 _ (List.mem_of_getElem? (i := 33) rfl)) rfl
theorem wd624 : Cond.methodLink RX5 297 yX3_isRing ∈ jbig := jbig_in (jtb_3 _ (List.mem_of_getElem? (i := 41) rfl)) rfl
theorem wd627 : Cond.code yX3_isRing cX3_isRing 4 (some .boolean) ∈ jbig := jbig_in (jtb_3 _ (List.mem_of_getElem? (i := 44) rfl)) rfl
theorem wd625 : Cond.instanceMethod yX3_isRing ∈ jbig := jbig_in (jtb_3 _ (List.mem_of_getElem? (i := 42) rfl)) rfl
theorem wd626 : Cond.selects yX3_isRing.cls yX3_isRing yX3_isRing ∈ jbig := jbig_in (jtb_3 _ (List.mem_of_getElem? (i := 43) rfl)) rfl
theorem wd1206 : Cond.methodLink RX5 303 yX4_lay ∈ jbig := jbig_in (jtb_5 _ (List.mem_of_getElem? (i := 143) rfl)) rfl
theorem wd1209 : Cond.code yX4_lay cX4_lay 3 none ∈ jbig := jbig_in (jtb_5 _ (List.mem_of_getElem? (i := 146) rfl)) rfl
theorem wd1207 : Cond.instanceMethod yX4_lay ∈ jbig := jbig_in (jtb_5 _ (List.mem_of_getElem? (i := 144) rfl)) rfl
theorem wd1208 : Cond.selects yX4_lay.cls yX4_lay yX4_lay ∈ jbig := jbig_in (jtb_5 _ (List.mem_of_getElem? (i := 145) rfl)) rfl
theorem wd1236 : Cond.methodLink RX5 309 yX4_put ∈ jbig := jbig_in (jtb_5 _ (List.mem_of_getElem? (i := 173) rfl)) rfl
theorem wd1239 : Cond.code yX4_put cX4_put 4 none ∈ jbig := jbig_in (jtb_5 _ (List.mem_of_getElem? (i := 176) rfl)) rfl
theorem wd1237 : Cond.instanceMethod yX4_put ∈ jbig := jbig_in (jtb_5 _ (List.mem_of_getElem? (i := 174) rfl)) rfl
theorem wd1238 : Cond.selects yX4_put.cls yX4_put yX4_put ∈ jbig := jbig_in (jtb_5 _ (List.mem_of_getElem? (i := 175) rfl)) rfl
theorem wd1258 : Cond.methodLink RX5 313 yX5_needImage ∈ jbig := jbig_in (jtb_5 _ (List.mem_of_getElem? (i := 195) rfl)) rfl
theorem wd1261 : Cond.code yX5_needImage cX5_needImage 2 none ∈ jbig := jbig_in (jtb_5 _ (List.mem_of_getElem? (i := 198) rfl)) rfl
theorem wd1260 : Cond.instanceMethod yX5_needImage ∈ jbig := jbig_in (jtb_5 _ (List.mem_of_getElem? (i := 197) rfl)) rfl
theorem wd42 : Cond.selects yX5_needImage.cls yX5_needImage yX5_needImage ∈ jbig := jbig_of 42 rfl rfl
theorem wd638 : Cond.methodLink RX5 319 yX3_coinsOfAll ∈ jbig := jbig_in (jtb_3 _ (List.mem_of_getElem? (i := 55) rfl)) rfl
theorem wd641 : Cond.code yX3_coinsOfAll cX3_coinsOfAll 3 (some .int) ∈ jbig := jbig_in (jtb_3 _ (List.mem_of_getElem? (i := 58) rfl)) rfl
theorem wd639 : Cond.instanceMethod yX3_coinsOfAll ∈ jbig := jbig_in (jtb_3 _ (List.mem_of_getElem? (i := 56) rfl)) rfl
theorem wd640 : Cond.selects yX3_coinsOfAll.cls yX3_coinsOfAll yX3_coinsOfAll ∈ jbig := jbig_in (jtb_3 _ (List.mem_of_getElem? (i := 57) rfl)) rfl
theorem wd642 : Cond.methodLink RX5 322 yX3_wealthOfAll ∈ jbig := jbig_in (jtb_3 _ (List.mem_of_getElem? (i := 59) rfl)) rfl
theorem wd645 : Cond.code yX3_wealthOfAll cX3_wealthOfAll 3 (some .int) ∈ jbig := jbig_in (jtb_3 _ (List.mem_of_getElem? (i := 62) rfl)) rfl
theorem wd643 : Cond.instanceMethod yX3_wealthOfAll ∈ jbig := jbig_in (jtb_3 _ (List.mem_of_getElem? (i := 60) rfl)) rfl
theorem wd644 : Cond.selects yX3_wealthOfAll.cls yX3_wealthOfAll yX3_wealthOfAll ∈ jbig := jbig_in (jtb_3 _ (List.mem_of_getElem? (i := 61) rfl)) rfl
end
section
def kX0_draw : List (Nat × Instr × Nat) := [(0, .aload_n 0, 1), (1, .ldc 13, 2), (3, .aload_n 0, 1), (4, .getfield 7, 3), (7, .imul, 1), (8, .sipush 12345, 3), (11, .iadd, 1), (12, .putfield 7, 3), (15, .iload_n 1, 1), (16, .ifCond .gt 7, 3), (19, .iconst 0, 1), (20, .goto 12, 3), (23, .aload_n 0, 1), (24, .getfield 7, 3), (27, .bipush 16, 2), (29, .iushr, 1), (30, .iload_n 1, 1), (31, .irem, 1), (32, .ireturn, 1)]
theorem kX0_draw_ok : ∀ q ∈ kX0_draw, decode cX0_draw q.1 = .ok q.2 := by decide +kernel
def kX0_deals : List (Nat × Instr × Nat) := [(0, .aload_n 0, 1), (1, .aload_n 1, 1), (2, .getfield 25, 3), (5, .invokevirtual 14, 3), (8, .istore_n 2, 1), (9, .aload_n 0, 1), (10, .aload_n 1, 1), (11, .getfield 30, 3), (14, .invokevirtual 14, 3), (17, .istore_n 3, 1), (18, .aload_n 0, 1), (19, .bipush 100, 2), (21, .invokevirtual 14, 3), (24, .istore 4, 2), (26, .aload_n 1, 1), (27, .iload_n 2, 1), (28, .iload_n 3, 1), (29, .iload 4, 2), (31, .invokevirtual 33, 3), (34, .ifCond .eq 5, 3), (37, .iconst 0, 1), (38, .ireturn, 1), (39, .aload_n 1, 1), (40, .iload_n 2, 1), (41, .iload_n 3, 1), (42, .iload 4, 2), (44, .invokevirtual 37, 3), (47, .pop, 1), (48, .iconst 1, 1), (49, .ireturn, 1)]
theorem kX0_deals_ok : ∀ q ∈ kX0_deals, decode cX0_deals q.1 = .ok q.2 := by decide +kernel
def kX0_undoes : List (Nat × Instr × Nat) := [(0, .aload_n 1, 1), (1, .getfield 40, 3), (4, .ifCond .ne 5, 3), (7, .iconst 0, 1), (8, .ireturn, 1), (9, .aload_n 0, 1), (10, .aload_n 1, 1), (11, .getfield 40, 3), (14, .invokevirtual 14, 3), (17, .istore_n 2, 1), (18, .aload_n 1, 1), (19, .iload_n 2, 1), (20, .aload_n 0, 1), (21, .iconst 2, 1), (22, .invokevirtual 14, 3), (25, .invokevirtual 43, 3), (28, .istore_n 3, 1), (29, .aload_n 1, 1), (30, .iload_n 2, 1), (31, .iload_n 3, 1), (32, .invokevirtual 47, 3), (35, .ifCond .eq 5, 3), (38, .iconst 0, 1), (39, .ireturn, 1), (40, .aload_n 1, 1), (41, .iload_n 2, 1), (42, .iload_n 3, 1), (43, .invokevirtual 50, 3), (46, .pop, 1), (47, .iconst 1, 1), (48, .ireturn, 1)]
theorem kX0_undoes_ok : ∀ q ∈ kX0_undoes, decode cX0_undoes q.1 = .ok q.2 := by decide +kernel
def kX0_spend : List (Nat × Instr × Nat) := [(0, .iconst 0, 1), (1, .istore_n 3, 1), (2, .iconst 0, 1), (3, .istore 4, 2), (5, .iload 4, 2), (7, .iload_n 2, 1), (8, .if_icmp .ge 40, 3), (11, .aload_n 0, 1), (12, .iconst 3, 1), (13, .invokevirtual 14, 3), (16, .iconst 2, 1), (17, .if_icmp .ne 14, 3), (20, .aload_n 0, 1), (21, .aload_n 1, 1), (22, .invokevirtual 18, 3), (25, .ifCond .eq 17, 3), (28, .goto 11, 3), (31, .aload_n 0, 1), (32, .aload_n 1, 1), (33, .invokevirtual 22, 3), (36, .ifCond .eq 6, 3), (39, .iinc 3 1, 3), (42, .iinc 4 1, 3), (45, .goto (-40), 3), (48, .iload_n 3, 1), (49, .ireturn, 1)]
theorem kX0_spend_ok : ∀ q ∈ kX0_spend, decode cX0_spend q.1 = .ok q.2 := by decide +kernel
end
section
def kX1_layFor : List (Nat × Instr × Nat) := [(0, .aload_n 0, 1), (1, .getfield 18, 3), (4, .iload_n 1, 1), (5, .bipush 10, 2), (7, .imul, 1), (8, .aload_n 0, 1), (9, .getfield 21, 3), (12, .iload_n 1, 1), (13, .iaload, 1), (14, .iadd, 1), (15, .aload_n 0, 1), (16, .getfield 66, 3), (19, .iastore, 1), (20, .aload_n 0, 1), (21, .getfield 21, 3), (24, .iload_n 1, 1), (25, .dup2, 1), (26, .iaload, 1), (27, .iconst 1, 1), (28, .iadd, 1), (29, .iastore, 1), (30, .return_, 1)]
theorem kX1_layFor_ok : ∀ q ∈ kX1_layFor, decode cX1_layFor q.1 = .ok q.2 := by decide +kernel
def kX1_layDeed : List (Nat × Instr × Nat) := [(0, .aload_n 0, 1), (1, .getfield 9, 3), (4, .aload_n 0, 1), (5, .getfield 66, 3), (8, .iload_n 2, 1), (9, .iastore, 1), (10, .aload_n 0, 1), (11, .getfield 15, 3), (14, .aload_n 0, 1), (15, .getfield 66, 3), (18, .iconst 0, 1), (19, .iastore, 1), (20, .iconst 0, 1), (21, .istore_n 3, 1), (22, .iload_n 3, 1), (23, .aload_n 0, 1), (24, .getfield 66, 3), (27, .if_icmp .gt 44, 3), (30, .aload_n 1, 1), (31, .getfield 85, 3), (34, .aload_n 0, 1), (35, .getfield 9, 3), (38, .iload_n 3, 1), (39, .iaload, 1), (40, .iaload, 1), (41, .aload_n 1, 1), (42, .getfield 85, 3), (45, .iload_n 2, 1), (46, .iaload, 1), (47, .if_icmp .ne 18, 3), (50, .aload_n 0, 1), (51, .getfield 15, 3), (54, .iload_n 3, 1), (55, .dup2, 1), (56, .iaload, 1), (57, .iconst 1, 1), (58, .aload_n 0, 1), (59, .getfield 66, 3), (62, .ishl, 1), (63, .ior, 1), (64, .iastore, 1), (65, .iinc 3 1, 3), (68, .goto (-46), 3), (71, .aload_n 0, 1), (72, .aload_n 1, 1), (73, .getfield 88, 3), (76, .iload_n 2, 1), (77, .iaload, 1), (78, .invokevirtual 91, 3), (81, .aload_n 0, 1), (82, .aload_n 1, 1), (83, .getfield 95, 3), (86, .iload_n 2, 1), (87, .iaload, 1), (88, .invokevirtual 91, 3), (91, .aload_n 0, 1), (92, .dup, 1), (93, .getfield 66, 3), (96, .iconst 1, 1), (97, .iadd, 1), (98, .putfield 66, 3), (101, .return_, 1)]
theorem kX1_layDeed_ok : ∀ q ∈ kX1_layDeed, decode cX1_layDeed q.1 = .ok q.2 := by decide +kernel
def kX1_whole : List (Nat × Instr × Nat) := [(0, .iconst 1, 1), (1, .aload_n 0, 1), (2, .getfield 66, 3), (5, .ishl, 1), (6, .iconst 1, 1), (7, .isub, 1), (8, .ireturn, 1)]
theorem kX1_whole_ok : ∀ q ∈ kX1_whole, decode cX1_whole q.1 = .ok q.2 := by decide +kernel
def kX1_personIn : List (Nat × Instr × Nat) := [(0, .aload_n 0, 1), (1, .getfield 59, 3), (4, .ifCond .gt 7, 3), (7, .iconst 0, 1), (8, .goto 14, 3), (11, .aload_n 0, 1), (12, .getfield 60, 3), (15, .iload_n 1, 1), (16, .iadd, 1), (17, .aload_n 0, 1), (18, .getfield 59, 3), (21, .irem, 1), (22, .ireturn, 1)]
theorem kX1_personIn_ok : ∀ q ∈ kX1_personIn, decode cX1_personIn q.1 = .ok q.2 := by decide +kernel
def kX1_reachFrom : List (Nat × Instr × Nat) := [(0, .iconst 1, 1), (1, .iload_n 2, 1), (2, .iconst 1, 1), (3, .iadd, 1), (4, .ishl, 1), (5, .istore 4, 2), (7, .aload_n 0, 1), (8, .getfield 33, 3), (11, .iload_n 1, 1), (12, .dup2, 1), (13, .iaload, 1), (14, .iload 4, 2), (16, .ior, 1), (17, .iastore, 1), (18, .iconst 0, 1), (19, .istore 5, 2), (21, .iload 5, 2), (23, .aload_n 0, 1), (24, .getfield 21, 3), (27, .iload_n 3, 1), (28, .iaload, 1), (29, .if_icmp .ge 54, 3), (32, .aload_n 0, 1), (33, .getfield 18, 3), (36, .iload_n 3, 1), (37, .bipush 10, 2), (39, .imul, 1), (40, .iload 5, 2), (42, .iadd, 1), (43, .iaload, 1), (44, .istore 6, 2), (46, .iload_n 1, 1), (47, .iload 6, 2), (49, .ishr, 1), (50, .iconst 1, 1), (51, .iand, 1), (52, .iconst 1, 1), (53, .if_icmp .ne 24, 3), (56, .aload_n 0, 1), (57, .getfield 33, 3), (60, .iload_n 1, 1), (61, .aload_n 0, 1), (62, .getfield 15, 3), (65, .iload 6, 2), (67, .iaload, 1), (68, .iconst (-1), 1), (69, .ixor, 1), (70, .iand, 1), (71, .dup2, 1), (72, .iaload, 1), (73, .iload 4, 2), (75, .ior, 1), (76, .iastore, 1), (77, .iinc 5 1, 3), (80, .goto (-59), 3), (83, .return_, 1)]
theorem kX1_reachFrom_ok : ∀ q ∈ kX1_reachFrom, decode cX1_reachFrom q.1 = .ok q.2 := by decide +kernel
def kX1_reach : List (Nat × Instr × Nat) := [(0, .aload_n 0, 1), (1, .invokevirtual 98, 3), (4, .istore_n 1, 1), (5, .iconst 0, 1), (6, .istore_n 2, 1), (7, .iload_n 2, 1), (8, .iload_n 1, 1), (9, .if_icmp .ge 16, 3), (12, .aload_n 0, 1), (13, .getfield 33, 3), (16, .iload_n 2, 1), (17, .iconst 0, 1), (18, .iastore, 1), (19, .iinc 2 1, 3), (22, .goto (-15), 3), (25, .aload_n 0, 1), (26, .getfield 33, 3), (29, .iload_n 1, 1), (30, .iconst 1, 1), (31, .iastore, 1), (32, .iconst 0, 1), (33, .istore_n 2, 1), (34, .iload_n 2, 1), (35, .aload_n 0, 1), (36, .getfield 63, 3), (39, .if_icmp .ge 52, 3), (42, .aload_n 0, 1), (43, .iload_n 2, 1), (44, .invokevirtual 101, 3), (47, .istore_n 3, 1), (48, .iload_n 1, 1), (49, .istore 4, 2), (51, .iload 4, 2), (53, .ifCond .lt 32, 3), (56, .aload_n 0, 1), (57, .getfield 33, 3), (60, .iload 4, 2), (62, .iaload, 1), (63, .iload_n 2, 1), (64, .ishr, 1), (65, .iconst 1, 1), (66, .iand, 1), (67, .iconst 1, 1), (68, .if_icmp .ne 11, 3), (71, .aload_n 0, 1), (72, .iload 4, 2), (74, .iload_n 2, 1), (75, .iload_n 3, 1), (76, .invokevirtual 104, 3), (79, .iinc 4 (-1), 3), (82, .goto (-31), 3), (85, .iinc 2 1, 3), (88, .goto (-54), 3), (91, .return_, 1)]
theorem kX1_reach_ok : ∀ q ∈ kX1_reach, decode cX1_reach q.1 = .ok q.2 := by decide +kernel
def kX1_lay : List (Nat × Instr × Nat) := [(0, .aload_n 1, 1), (1, .invokevirtual 43, 3), (4, .istore 4, 2), (6, .iload 4, 2), (8, .invokestatic 49, 3), (11, .bipush 10, 2), (13, .if_icmp .le 5, 3), (16, .iconst 0, 1), (17, .ireturn, 1), (18, .aload_n 0, 1), (19, .aload_n 1, 1), (20, .getfield 55, 3), (23, .putfield 59, 3), (26, .aload_n 0, 1), (27, .iload_n 3, 1), (28, .putfield 60, 3), (31, .aload_n 0, 1), (32, .iload_n 2, 1), (33, .aload_n 0, 1), (34, .getfield 59, 3), (37, .imul, 1), (38, .putfield 63, 3), (41, .aload_n 0, 1), (42, .iconst 0, 1), (43, .putfield 66, 3), (46, .aload_n 0, 1), (47, .getfield 21, 3), (50, .iconst 0, 1), (51, .invokestatic 69, 3), (54, .iconst 0, 1), (55, .istore 5, 2), (57, .iload 5, 2), (59, .aload_n 1, 1), (60, .getfield 75, 3), (63, .if_icmp .ge 36, 3), (66, .aload_n 0, 1), (67, .getfield 66, 3), (70, .bipush 10, 2), (72, .if_icmp .ge 27, 3), (75, .iload 4, 2), (77, .iload 5, 2), (79, .ishr, 1), (80, .iconst 1, 1), (81, .iand, 1), (82, .iconst 1, 1), (83, .if_icmp .ne 10, 3), (86, .aload_n 0, 1), (87, .aload_n 1, 1), (88, .iload 5, 2), (90, .invokevirtual 78, 3), (93, .iinc 5 1, 3), (96, .goto (-39), 3), (99, .aload_n 0, 1), (100, .invokevirtual 82, 3), (103, .iconst 1, 1), (104, .ireturn, 1)]
theorem kX1_lay_ok : ∀ q ∈ kX1_lay, decode cX1_lay q.1 = .ok q.2 := by decide +kernel
def kX1_weigh : List (Nat × Instr × Nat) := [(0, .iconst 0, 1), (1, .istore_n 2, 1), (2, .iload_n 2, 1), (3, .aload_n 0, 1), (4, .getfield 59, 3), (7, .if_icmp .ge 69, 3), (10, .iconst 0, 1), (11, .istore_n 3, 1), (12, .iload_n 3, 1), (13, .aload_n 0, 1), (14, .getfield 66, 3), (17, .if_icmp .ge 53, 3), (20, .aload_n 0, 1), (21, .getfield 24, 3), (24, .iload_n 2, 1), (25, .bipush 10, 2), (27, .imul, 1), (28, .iload_n 3, 1), (29, .iadd, 1), (30, .aload_n 1, 1), (31, .aload_n 0, 1), (32, .getfield 9, 3), (35, .iload_n 3, 1), (36, .iaload, 1), (37, .iload_n 2, 1), (38, .invokevirtual 121, 3), (41, .iastore, 1), (42, .aload_n 0, 1), (43, .getfield 27, 3), (46, .iload_n 2, 1), (47, .bipush 10, 2), (49, .imul, 1), (50, .iload_n 3, 1), (51, .iadd, 1), (52, .aload_n 1, 1), (53, .aload_n 0, 1), (54, .getfield 9, 3), (57, .iload_n 3, 1), (58, .iaload, 1), (59, .iload_n 2, 1), (60, .invokevirtual 125, 3), (63, .iastore, 1), (64, .iinc 3 1, 3), (67, .goto (-55), 3), (70, .iinc 2 1, 3), (73, .goto (-71), 3), (76, .return_, 1)]
theorem kX1_weigh_ok : ∀ q ∈ kX1_weigh, decode cX1_weigh q.1 = .ok q.2 := by decide +kernel
def kX1_forget : List (Nat × Instr × Nat) := [(0, .aload_n 0, 1), (1, .getfield 36, 3), (4, .iload_n 1, 1), (5, .lconst 0, 1), (6, .lastore, 1), (7, .iconst 0, 1), (8, .istore_n 2, 1), (9, .iload_n 2, 1), (10, .aload_n 0, 1), (11, .getfield 59, 3), (14, .if_icmp .ge 30, 3), (17, .aload_n 0, 1), (18, .getfield 33, 3), (21, .iload_n 1, 1), (22, .iaload, 1), (23, .ifCond .eq 21, 3), (26, .aload_n 0, 1), (27, .getfield 30, 3), (30, .iload_n 1, 1), (31, .bipush 6, 2), (33, .imul, 1), (34, .iload_n 2, 1), (35, .iadd, 1), (36, .iconst 0, 1), (37, .iastore, 1), (38, .iinc 2 1, 3), (41, .goto (-32), 3), (44, .return_, 1)]
theorem kX1_forget_ok : ∀ q ∈ kX1_forget, decode cX1_forget q.1 = .ok q.2 := by decide +kernel
def kX1_sumOf : List (Nat × Instr × Nat) := [(0, .iconst 0, 1), (1, .istore 5, 2), (3, .iload 4, 2), (5, .istore 6, 2), (7, .iload 6, 2), (9, .aload_n 0, 1), (10, .getfield 66, 3), (13, .if_icmp .ge 40, 3), (16, .iload_n 3, 1), (17, .iload 6, 2), (19, .ishr, 1), (20, .ifCond .eq 33, 3), (23, .iload_n 3, 1), (24, .iload 6, 2), (26, .ishr, 1), (27, .iconst 1, 1), (28, .iand, 1), (29, .iconst 1, 1), (30, .if_icmp .ne 17, 3), (33, .iload 5, 2), (35, .aload_n 1, 1), (36, .iload_n 2, 1), (37, .bipush 10, 2), (39, .imul, 1), (40, .iload 6, 2), (42, .iadd, 1), (43, .iaload, 1), (44, .iadd, 1), (45, .istore 5, 2), (47, .iinc 6 1, 3), (50, .goto (-43), 3), (53, .iload 5, 2), (55, .ireturn, 1)]
theorem kX1_sumOf_ok : ∀ q ∈ kX1_sumOf, decode cX1_sumOf q.1 = .ok q.2 := by decide +kernel
def kX1_settle : List (Nat × Instr × Nat) := [(0, .iload_n 1, 1), (1, .aload_n 0, 1), (2, .getfield 15, 3), (5, .iload_n 2, 1), (6, .iaload, 1), (7, .iand, 1), (8, .istore 4, 2), (10, .iload_n 1, 1), (11, .iload 4, 2), (13, .iconst (-1), 1), (14, .ixor, 1), (15, .iand, 1), (16, .bipush 6, 2), (18, .imul, 1), (19, .istore 5, 2), (21, .iconst 0, 1), (22, .istore 6, 2), (24, .iload 6, 2), (26, .aload_n 0, 1), (27, .getfield 59, 3), (30, .if_icmp .ge 62, 3), (33, .aload_n 0, 1), (34, .iload 6, 2), (36, .iload_n 3, 1), (37, .if_icmp .ne 10, 3), (40, .aload_n 0, 1), (41, .getfield 24, 3), (44, .goto 7, 3), (47, .aload_n 0, 1), (48, .getfield 27, 3), (51, .iload 6, 2), (53, .iload 4, 2), (55, .iload_n 2, 1), (56, .invokevirtual 128, 3), (59, .istore 7, 2), (61, .aload_n 0, 1), (62, .getfield 30, 3), (65, .iload_n 1, 1), (66, .bipush 6, 2), (68, .imul, 1), (69, .iload 6, 2), (71, .iadd, 1), (72, .aload_n 0, 1), (73, .getfield 30, 3), (76, .iload 5, 2), (78, .iload 6, 2), (80, .iadd, 1), (81, .iaload, 1), (82, .iload 7, 2), (84, .iadd, 1), (85, .iastore, 1), (86, .iinc 6 1, 3), (89, .goto (-65), 3), (92, .return_, 1)]
theorem kX1_settle_ok : ∀ q ∈ kX1_settle, decode cX1_settle q.1 = .ok q.2 := by decide +kernel
def kX1_choose : List (Nat × Instr × Nat) := [(0, .aload_n 0, 1), (1, .getfield 30, 3), (4, .iload_n 1, 1), (5, .bipush 6, 2), (7, .imul, 1), (8, .iload_n 3, 1), (9, .iadd, 1), (10, .iaload, 1), (11, .istore 4, 2), (13, .iconst (-1), 1), (14, .istore 5, 2), (16, .iconst 0, 1), (17, .istore 6, 2), (19, .iload 6, 2), (21, .aload_n 0, 1), (22, .getfield 21, 3), (25, .iload_n 3, 1), (26, .iaload, 1), (27, .if_icmp .ge 91, 3), (30, .aload_n 0, 1), (31, .getfield 18, 3), (34, .iload_n 3, 1), (35, .bipush 10, 2), (37, .imul, 1), (38, .iload 6, 2), (40, .iadd, 1), (41, .iaload, 1), (42, .istore 7, 2), (44, .iload_n 1, 1), (45, .iload 7, 2), (47, .ishr, 1), (48, .iconst 1, 1), (49, .iand, 1), (50, .iconst 1, 1), (51, .if_icmp .ne 61, 3), (54, .iload_n 1, 1), (55, .aload_n 0, 1), (56, .getfield 15, 3), (59, .iload 7, 2), (61, .iaload, 1), (62, .iand, 1), (63, .istore 8, 2), (65, .aload_n 0, 1), (66, .aload_n 0, 1), (67, .getfield 24, 3), (70, .iload_n 3, 1), (71, .iload 8, 2), (73, .iload 7, 2), (75, .invokevirtual 128, 3), (78, .aload_n 0, 1), (79, .getfield 30, 3), (82, .iload_n 1, 1), (83, .iload 8, 2), (85, .iconst (-1), 1), (86, .ixor, 1), (87, .iand, 1), (88, .bipush 6, 2), (90, .imul, 1), (91, .iload_n 3, 1), (92, .iadd, 1), (93, .iaload, 1), (94, .iadd, 1), (95, .istore 9, 2), (97, .iload 9, 2), (99, .iload 4, 2), (101, .if_icmp .le 11, 3), (104, .iload 9, 2), (106, .istore 4, 2), (108, .iload 7, 2), (110, .istore 5, 2), (112, .iinc 6 1, 3), (115, .goto (-96), 3), (118, .iload 5, 2), (120, .iconst (-1), 1), (121, .if_icmp .eq 29, 3), (124, .aload_n 0, 1), (125, .iload_n 1, 1), (126, .iload 5, 2), (128, .iload_n 3, 1), (129, .invokevirtual 132, 3), (132, .aload_n 0, 1), (133, .getfield 36, 3), (136, .iload_n 1, 1), (137, .dup2, 1), (138, .laload, 1), (139, .iload 5, 2), (141, .iconst 1, 1), (142, .iadd, 1), (143, .i2l, 1), (144, .iconst 4, 1), (145, .iload_n 2, 1), (146, .imul, 1), (147, .lshl, 1), (148, .lor, 1), (149, .lastore, 1), (150, .return_, 1)]
theorem kX1_choose_ok : ∀ q ∈ kX1_choose, decode cX1_choose q.1 = .ok q.2 := by decide +kernel
def kX1_walk : List (Nat × Instr × Nat) := [(0, .aload_n 0, 1), (1, .invokevirtual 98, 3), (4, .istore_n 2, 1), (5, .iconst 0, 1), (6, .istore_n 3, 1), (7, .iload_n 3, 1), (8, .aload_n 0, 1), (9, .getfield 63, 3), (12, .if_icmp .ge 71, 3), (15, .aload_n 0, 1), (16, .getfield 36, 3), (19, .iload_n 2, 1), (20, .laload, 1), (21, .iconst 4, 1), (22, .iload_n 3, 1), (23, .imul, 1), (24, .lushr, 1), (25, .ldc2_w 135, 3), (28, .land, 1), (29, .l2i, 1), (30, .iconst 1, 1), (31, .isub, 1), (32, .istore 4, 2), (34, .aload_n 0, 1), (35, .getfield 40, 3), (38, .iload_n 3, 1), (39, .iload 4, 2), (41, .ifCond .ge 7, 3), (44, .iconst (-1), 1), (45, .goto 10, 3), (48, .aload_n 0, 1), (49, .getfield 9, 3), (52, .iload 4, 2), (54, .iaload, 1), (55, .iastore, 1), (56, .iload 4, 2), (58, .ifCond .ge 7, 3), (61, .iload_n 2, 1), (62, .goto 14, 3), (65, .iload_n 2, 1), (66, .aload_n 0, 1), (67, .getfield 15, 3), (70, .iload 4, 2), (72, .iaload, 1), (73, .iconst (-1), 1), (74, .ixor, 1), (75, .iand, 1), (76, .istore_n 2, 1), (77, .iinc 3 1, 3), (80, .goto (-73), 3), (83, .aload_n 0, 1), (84, .aload_n 1, 1), (85, .getfield 137, 3), (88, .putfield 140, 3), (91, .iconst 0, 1), (92, .istore_n 3, 1), (93, .iload_n 3, 1), (94, .aload_n 0, 1), (95, .getfield 66, 3), (98, .if_icmp .ge 36, 3), (101, .iload_n 2, 1), (102, .iload_n 3, 1), (103, .ishr, 1), (104, .iconst 1, 1), (105, .iand, 1), (106, .ifCond .ne 22, 3), (109, .aload_n 0, 1), (110, .dup, 1), (111, .getfield 140, 3), (114, .iconst 1, 1), (115, .aload_n 0, 1), (116, .getfield 9, 3), (119, .iload_n 3, 1), (120, .iaload, 1), (121, .ishl, 1), (122, .iconst (-1), 1), (123, .ixor, 1), (124, .iand, 1), (125, .putfield 140, 3), (128, .iinc 3 1, 3), (131, .goto (-38), 3), (134, .return_, 1)]
theorem kX1_walk_ok : ∀ q ∈ kX1_walk, decode cX1_walk q.1 = .ok q.2 := by decide +kernel
def kX1_play : List (Nat × Instr × Nat) := [(0, .aload_n 0, 1), (1, .invokevirtual 98, 3), (4, .istore_n 2, 1), (5, .aload_n 0, 1), (6, .aload_n 1, 1), (7, .invokevirtual 108, 3), (10, .iconst 0, 1), (11, .istore_n 3, 1), (12, .iload_n 3, 1), (13, .iload_n 2, 1), (14, .if_icmp .gt 14, 3), (17, .aload_n 0, 1), (18, .iload_n 3, 1), (19, .invokevirtual 112, 3), (22, .iinc 3 1, 3), (25, .goto (-13), 3), (28, .aload_n 0, 1), (29, .getfield 63, 3), (32, .iconst 1, 1), (33, .isub, 1), (34, .istore_n 3, 1), (35, .iload_n 3, 1), (36, .ifCond .lt 54, 3), (39, .aload_n 0, 1), (40, .iload_n 3, 1), (41, .invokevirtual 101, 3), (44, .istore 4, 2), (46, .iload_n 2, 1), (47, .istore 5, 2), (49, .iload 5, 2), (51, .ifCond .lt 33, 3), (54, .aload_n 0, 1), (55, .getfield 33, 3), (58, .iload 5, 2), (60, .iaload, 1), (61, .iload_n 3, 1), (62, .ishr, 1), (63, .iconst 1, 1), (64, .iand, 1), (65, .iconst 1, 1), (66, .if_icmp .ne 12, 3), (69, .aload_n 0, 1), (70, .iload 5, 2), (72, .iload_n 3, 1), (73, .iload 4, 2), (75, .invokevirtual 115, 3), (78, .iinc 5 (-1), 3), (81, .goto (-32), 3), (84, .iinc 3 (-1), 3), (87, .goto (-52), 3), (90, .aload_n 0, 1), (91, .aload_n 1, 1), (92, .invokevirtual 118, 3), (95, .return_, 1)]
theorem kX1_play_ok : ∀ q ∈ kX1_play, decode cX1_play q.1 = .ok q.2 := by decide +kernel
def kX1_change : List (Nat × Instr × Nat) := [(0, .aload_n 0, 1), (1, .getfield 30, 3), (4, .aload_n 0, 1), (5, .invokevirtual 98, 3), (8, .bipush 6, 2), (10, .imul, 1), (11, .iload_n 1, 1), (12, .iadd, 1), (13, .iaload, 1), (14, .ireturn, 1)]
theorem kX1_change_ok : ∀ q ∈ kX1_change, decode cX1_change q.1 = .ok q.2 := by decide +kernel
def kX1_undoneIn : List (Nat × Instr × Nat) := [(0, .iload_n 1, 1), (1, .ifCond .lt 20, 3), (4, .iload_n 1, 1), (5, .aload_n 0, 1), (6, .getfield 63, 3), (9, .if_icmp .ge 12, 3), (12, .aload_n 0, 1), (13, .getfield 40, 3), (16, .iload_n 1, 1), (17, .iaload, 1), (18, .goto 4, 3), (21, .iconst (-1), 1), (22, .ireturn, 1)]
theorem kX1_undoneIn_ok : ∀ q ∈ kX1_undoneIn, decode cX1_undoneIn q.1 = .ok q.2 := by decide +kernel
def kX1_undoings : List (Nat × Instr × Nat) := [(0, .iconst 0, 1), (1, .istore_n 1, 1), (2, .iconst 0, 1), (3, .istore_n 2, 1), (4, .iload_n 2, 1), (5, .aload_n 0, 1), (6, .getfield 63, 3), (9, .if_icmp .ge 27, 3), (12, .iload_n 1, 1), (13, .aload_n 0, 1), (14, .getfield 40, 3), (17, .iload_n 2, 1), (18, .iaload, 1), (19, .iconst (-1), 1), (20, .if_icmp .ne 7, 3), (23, .iconst 0, 1), (24, .goto 4, 3), (27, .iconst 1, 1), (28, .iadd, 1), (29, .istore_n 1, 1), (30, .iinc 2 1, 3), (33, .goto (-29), 3), (36, .iload_n 1, 1), (37, .ireturn, 1)]
theorem kX1_undoings_ok : ∀ q ∈ kX1_undoings, decode cX1_undoings q.1 = .ok q.2 := by decide +kernel
end
section
def kX6_thrown : List (Nat × Instr × Nat) := [(0, .aload_n 0, 1), (1, .getfield 63, 3), (4, .ireturn, 1)]
theorem kX6_thrown_ok : ∀ q ∈ kX6_thrown, decode cX6_thrown q.1 = .ok q.2 := by decide +kernel
def kX6_fails : List (Nat × Instr × Nat) := [(0, .aload_n 0, 1), (1, .iload_n 1, 1), (2, .putfield 63, 3), (5, .iconst 0, 1), (6, .ireturn, 1)]
theorem kX6_fails_ok : ∀ q ∈ kX6_fails, decode cX6_fails q.1 = .ok q.2 := by decide +kernel
def kX6_within : List (Nat × Instr × Nat) := [(0, .lload_n 0, 1), (1, .lload_n 2, 1), (2, .lcmp, 1), (3, .ifCond .lt 14, 3), (6, .lload_n 0, 1), (7, .lload 4, 2), (9, .lcmp, 1), (10, .ifCond .gt 7, 3), (13, .iconst 1, 1), (14, .goto 4, 3), (17, .iconst 0, 1), (18, .ireturn, 1)]
theorem kX6_within_ok : ∀ q ∈ kX6_within, decode cX6_within q.1 = .ok q.2 := by decide +kernel
def kX6_copies : List (Nat × Instr × Nat) := [(0, .iconst 0, 1), (1, .istore_n 2, 1), (2, .iload_n 2, 1), (3, .sipush 264, 3), (6, .if_icmp .ge 15, 3), (9, .aload_n 1, 1), (10, .iload_n 2, 1), (11, .aload_n 0, 1), (12, .iload_n 2, 1), (13, .iaload, 1), (14, .iastore, 1), (15, .iinc 2 1, 3), (18, .goto (-16), 3), (21, .return_, 1)]
theorem kX6_copies_ok : ∀ q ∈ kX6_copies, decode cX6_copies q.1 = .ok q.2 := by decide +kernel
def kX6_begins : List (Nat × Instr × Nat) := [(0, .iconst 0, 1), (1, .istore_n 1, 1), (2, .iload_n 1, 1), (3, .sipush 264, 3), (6, .if_icmp .ge 13, 3), (9, .aload_n 0, 1), (10, .iload_n 1, 1), (11, .iconst 0, 1), (12, .iastore, 1), (13, .iinc 1 1, 3), (16, .goto (-14), 3), (19, .aload_n 0, 1), (20, .iconst 4, 1), (21, .bipush 50, 2), (23, .iastore, 1), (24, .aload_n 0, 1), (25, .iconst 5, 1), (26, .sipush 720, 3), (29, .iastore, 1), (30, .return_, 1)]
theorem kX6_begins_ok : ∀ q ∈ kX6_begins, decode cX6_begins q.1 = .ok q.2 := by decide +kernel
def kX6_feed : List (Nat × Instr × Nat) := [(0, .aload_n 0, 1), (1, .iconst 0, 1), (2, .putfield 63, 3), (5, .aload_n 0, 1), (6, .getfield 66, 3), (9, .bipush 20, 2), (11, .iadd, 1), (12, .sipush 900, 3), (15, .if_icmp .le 5, 3), (18, .iconst (-1), 1), (19, .ireturn, 1), (20, .iconst 0, 1), (21, .istore 6, 2), (23, .iload 6, 2), (25, .bipush 20, 2), (27, .if_icmp .ge 93, 3), (30, .iload 6, 2), (32, .iconst 4, 1), (33, .if_icmp .ge 7, 3), (36, .iload_n 1, 1), (37, .goto 39, 3), (40, .iload 6, 2), (42, .bipush 8, 2), (44, .if_icmp .ge 7, 3), (47, .iload_n 2, 1), (48, .goto 28, 3), (51, .iload 6, 2), (53, .bipush 12, 2), (55, .if_icmp .ge 7, 3), (58, .iload_n 3, 1), (59, .goto 17, 3), (62, .iload 6, 2), (64, .bipush 16, 2), (66, .if_icmp .ge 8, 3), (69, .iload 4, 2), (71, .goto 5, 3), (74, .iload 5, 2), (76, .istore 7, 2), (78, .aload_n 0, 1), (79, .getfield 26, 3), (82, .aload_n 0, 1), (83, .getfield 66, 3), (86, .iload 7, 2), (88, .bipush 24, 2), (90, .bipush 8, 2), (92, .iload 6, 2), (94, .iconst 3, 1), (95, .iand, 1), (96, .imul, 1), (97, .isub, 1), (98, .iushr, 1), (99, .sipush 255, 3), (102, .iand, 1), (103, .iastore, 1), (104, .aload_n 0, 1), (105, .dup, 1), (106, .getfield 66, 3), (109, .iconst 1, 1), (110, .iadd, 1), (111, .putfield 66, 3), (114, .iinc 6 1, 3), (117, .goto (-94), 3), (120, .aload_n 0, 1), (121, .getfield 66, 3), (124, .ireturn, 1)]
theorem kX6_feed_ok : ∀ q ∈ kX6_feed, decode cX6_feed q.1 = .ok q.2 := by decide +kernel
def kX6_see : List (Nat × Instr × Nat) := [(0, .iload_n 1, 1), (1, .aload_n 0, 1), (2, .getfield 69, 3), (5, .if_icmp .ge 12, 3), (8, .aload_n 0, 1), (9, .getfield 26, 3), (12, .iload_n 1, 1), (13, .iaload, 1), (14, .goto 4, 3), (17, .iconst 0, 1), (18, .ireturn, 1)]
theorem kX6_see_ok : ∀ q ∈ kX6_see, decode cX6_see q.1 = .ok q.2 := by decide +kernel
def kX6_isLetter : List (Nat × Instr × Nat) := [(0, .iload_n 0, 1), (1, .bipush 97, 2), (3, .if_icmp .lt 13, 3), (6, .iload_n 0, 1), (7, .bipush 122, 2), (9, .if_icmp .gt 7, 3), (12, .iconst 1, 1), (13, .goto 4, 3), (16, .iconst 0, 1), (17, .ireturn, 1)]
theorem kX6_isLetter_ok : ∀ q ∈ kX6_isLetter, decode cX6_isLetter q.1 = .ok q.2 := by decide +kernel
def kX6_isDigit : List (Nat × Instr × Nat) := [(0, .iload_n 0, 1), (1, .bipush 48, 2), (3, .if_icmp .lt 13, 3), (6, .iload_n 0, 1), (7, .bipush 57, 2), (9, .if_icmp .gt 7, 3), (12, .iconst 1, 1), (13, .goto 4, 3), (16, .iconst 0, 1), (17, .ireturn, 1)]
theorem kX6_isDigit_ok : ∀ q ∈ kX6_isDigit, decode cX6_isDigit q.1 = .ok q.2 := by decide +kernel
def kX6_reads : List (Nat × Instr × Nat) := [(0, .aload_n 0, 1), (1, .getfield 72, 3), (4, .aload_n 0, 1), (5, .getfield 69, 3), (8, .if_icmp .ge 44, 3), (11, .aload_n 0, 1), (12, .getfield 26, 3), (15, .aload_n 0, 1), (16, .getfield 72, 3), (19, .iaload, 1), (20, .bipush 32, 2), (22, .if_icmp .eq 17, 3), (25, .aload_n 0, 1), (26, .getfield 26, 3), (29, .aload_n 0, 1), (30, .getfield 72, 3), (33, .iaload, 1), (34, .bipush 10, 2), (36, .if_icmp .ne 16, 3), (39, .aload_n 0, 1), (40, .dup, 1), (41, .getfield 72, 3), (44, .iconst 1, 1), (45, .iadd, 1), (46, .putfield 72, 3), (49, .goto (-49), 3), (52, .aload_n 0, 1), (53, .aload_n 0, 1), (54, .getfield 72, 3), (57, .putfield 75, 3), (60, .aload_n 0, 1), (61, .getfield 72, 3), (64, .aload_n 0, 1), (65, .getfield 69, 3), (68, .if_icmp .lt 9, 3), (71, .aload_n 0, 1), (72, .iconst 0, 1), (73, .putfield 78, 3), (76, .return_, 1), (77, .aload_n 0, 1), (78, .getfield 26, 3), (81, .aload_n 0, 1), (82, .getfield 72, 3), (85, .iaload, 1), (86, .istore_n 1, 1), (87, .iload_n 1, 1), (88, .invokestatic 81, 3), (91, .ifCond .eq 38, 3), (94, .aload_n 0, 1), (95, .aload_n 0, 1), (96, .getfield 72, 3), (99, .invokevirtual 85, 3), (102, .invokestatic 81, 3), (105, .ifCond .eq 16, 3), (108, .aload_n 0, 1), (109, .dup, 1), (110, .getfield 72, 3), (113, .iconst 1, 1), (114, .iadd, 1), (115, .putfield 72, 3), (118, .goto (-24), 3), (121, .aload_n 0, 1), (122, .iconst 1, 1), (123, .putfield 78, 3), (126, .goto 136, 3), (129, .iload_n 1, 1), (130, .invokestatic 89, 3), (133, .ifCond .eq 104, 3), (136, .aload_n 0, 1), (137, .iconst 0, 1), (138, .putfield 92, 3), (141, .aload_n 0, 1), (142, .aload_n 0, 1), (143, .getfield 72, 3), (146, .invokevirtual 85, 3), (149, .invokestatic 89, 3), (152, .ifCond .eq 60, 3), (155, .aload_n 0, 1), (156, .aload_n 0, 1), (157, .getfield 72, 3), (160, .aload_n 0, 1), (161, .getfield 75, 3), (164, .isub, 1), (165, .iconst 4, 1), (166, .if_icmp .ge 26, 3), (169, .bipush 10, 2), (171, .aload_n 0, 1), (172, .getfield 92, 3), (175, .imul, 1), (176, .aload_n 0, 1), (177, .getfield 26, 3), (180, .aload_n 0, 1), (181, .getfield 72, 3), (184, .iaload, 1), (185, .iadd, 1), (186, .bipush 48, 2), (188, .isub, 1), (189, .goto 7, 3), (192, .aload_n 0, 1), (193, .getfield 92, 3), (196, .putfield 92, 3), (199, .aload_n 0, 1), (200, .dup, 1), (201, .getfield 72, 3), (204, .iconst 1, 1), (205, .iadd, 1), (206, .putfield 72, 3), (209, .goto (-68), 3), (212, .aload_n 0, 1), (213, .aload_n 0, 1), (214, .getfield 72, 3), (217, .aload_n 0, 1), (218, .getfield 75, 3), (221, .isub, 1), (222, .iconst 4, 1), (223, .if_icmp .le 7, 3), (226, .iconst 4, 1), (227, .goto 4, 3), (230, .iconst 2, 1), (231, .putfield 78, 3), (234, .goto 28, 3), (237, .aload_n 0, 1), (238, .iload_n 1, 1), (239, .bipush 59, 2), (241, .if_icmp .ne 7, 3), (244, .iconst 3, 1), (245, .goto 4, 3), (248, .iconst 4, 1), (249, .putfield 78, 3), (252, .aload_n 0, 1), (253, .dup, 1), (254, .getfield 72, 3), (257, .iconst 1, 1), (258, .iadd, 1), (259, .putfield 72, 3), (262, .return_, 1)]
theorem kX6_reads_ok : ∀ q ∈ kX6_reads, decode cX6_reads q.1 = .ok q.2 := by decide +kernel
def kX6_blames : List (Nat × Instr × Nat) := [(0, .aload_n 0, 1), (1, .getfield 95, 3), (4, .ifCond .eq 4, 3), (7, .return_, 1), (8, .aload_n 0, 1), (9, .aload_n 0, 1), (10, .getfield 78, 3), (13, .iconst 4, 1), (14, .if_icmp .ne 7, 3), (17, .iconst 1, 1), (18, .goto 4, 3), (21, .iload_n 1, 1), (22, .putfield 95, 3), (25, .aload_n 0, 1), (26, .aload_n 0, 1), (27, .getfield 75, 3), (30, .putfield 98, 3), (33, .return_, 1)]
theorem kX6_blames_ok : ∀ q ∈ kX6_blames, decode cX6_blames q.1 = .ok q.2 := by decide +kernel
def kX6_isWord : List (Nat × Instr × Nat) := [(0, .aload_n 0, 1), (1, .getfield 95, 3), (4, .ifCond .ne 31, 3), (7, .aload_n 0, 1), (8, .getfield 78, 3), (11, .iconst 1, 1), (12, .if_icmp .ne 23, 3), (15, .aload_n 0, 1), (16, .getfield 72, 3), (19, .aload_n 0, 1), (20, .getfield 75, 3), (23, .isub, 1), (24, .aload_n 1, 1), (25, .invokevirtual 101, 3), (28, .if_icmp .ne 7, 3), (31, .iconst 1, 1), (32, .goto 4, 3), (35, .iconst 0, 1), (36, .istore_n 2, 1), (37, .iconst 0, 1), (38, .istore_n 3, 1), (39, .iload_n 2, 1), (40, .ifCond .eq 42, 3), (43, .iload_n 3, 1), (44, .aload_n 1, 1), (45, .invokevirtual 101, 3), (48, .if_icmp .ge 34, 3), (51, .aload_n 0, 1), (52, .getfield 26, 3), (55, .aload_n 0, 1), (56, .getfield 75, 3), (59, .iload_n 3, 1), (60, .iadd, 1), (61, .iaload, 1), (62, .aload_n 1, 1), (63, .iload_n 3, 1), (64, .invokevirtual 107, 3), (67, .if_icmp .ne 7, 3), (70, .iconst 1, 1), (71, .goto 4, 3), (74, .iconst 0, 1), (75, .istore_n 2, 1), (76, .iinc 3 1, 3), (79, .goto (-40), 3), (82, .iload_n 2, 1), (83, .ireturn, 1)]
theorem kX6_isWord_ok : ∀ q ∈ kX6_isWord, decode cX6_isWord q.1 = .ok q.2 := by decide +kernel
def kX6_took : List (Nat × Instr × Nat) := [(0, .aload_n 0, 1), (1, .aload_n 1, 1), (2, .invokevirtual 111, 3), (5, .istore_n 2, 1), (6, .iload_n 2, 1), (7, .ifCond .eq 7, 3), (10, .aload_n 0, 1), (11, .invokevirtual 115, 3), (14, .iload_n 2, 1), (15, .ireturn, 1)]
theorem kX6_took_ok : ∀ q ∈ kX6_took, decode cX6_took q.1 = .ok q.2 := by decide +kernel
def kX6_number : List (Nat × Instr × Nat) := [(0, .aload_n 0, 1), (1, .getfield 78, 3), (4, .iconst 2, 1), (5, .if_icmp .eq 11, 3), (8, .aload_n 0, 1), (9, .iconst 2, 1), (10, .invokevirtual 118, 3), (13, .goto 23, 3), (16, .aload_n 0, 1), (17, .getfield 92, 3), (20, .i2l, 1), (21, .iload_n 1, 1), (22, .i2l, 1), (23, .iload_n 2, 1), (24, .i2l, 1), (25, .invokestatic 122, 3), (28, .ifCond .ne 8, 3), (31, .aload_n 0, 1), (32, .iconst 3, 1), (33, .invokevirtual 118, 3), (36, .aload_n 0, 1), (37, .getfield 92, 3), (40, .istore_n 3, 1), (41, .aload_n 0, 1), (42, .getfield 95, 3), (45, .ifCond .ne 7, 3), (48, .aload_n 0, 1), (49, .invokevirtual 115, 3), (52, .aload_n 0, 1), (53, .getfield 95, 3), (56, .ifCond .ne 7, 3), (59, .iload_n 3, 1), (60, .goto 4, 3), (63, .iload_n 1, 1), (64, .ireturn, 1)]
theorem kX6_number_ok : ∀ q ∈ kX6_number, decode cX6_number q.1 = .ok q.2 := by decide +kernel
def kX6_personTold : List (Nat × Instr × Nat) := [(0, .aload_n 0, 1), (1, .iconst 0, 1), (2, .aload_n 0, 1), (3, .getfield 13, 3), (6, .iconst 1, 1), (7, .iaload, 1), (8, .iconst 1, 1), (9, .isub, 1), (10, .invokevirtual 126, 3), (13, .ireturn, 1)]
theorem kX6_personTold_ok : ∀ q ∈ kX6_personTold, decode cX6_personTold q.1 = .ok q.2 := by decide +kernel
def kX6_thingTold : List (Nat × Instr × Nat) := [(0, .aload_n 0, 1), (1, .iconst 0, 1), (2, .aload_n 0, 1), (3, .getfield 13, 3), (6, .iconst 2, 1), (7, .iaload, 1), (8, .iconst 1, 1), (9, .isub, 1), (10, .invokevirtual 126, 3), (13, .ireturn, 1)]
theorem kX6_thingTold_ok : ∀ q ∈ kX6_thingTold, decode cX6_thingTold q.1 = .ok q.2 := by decide +kernel
def kX6_readPeople : List (Nat × Instr × Nat) := [(0, .aload_n 0, 1), (1, .getfield 13, 3), (4, .iconst 1, 1), (5, .iaload, 1), (6, .ifCond .le 8, 3), (9, .aload_n 0, 1), (10, .iconst 4, 1), (11, .invokevirtual 118, 3), (14, .aload_n 0, 1), (15, .getfield 95, 3), (18, .ifCond .eq 4, 3), (21, .return_, 1), (22, .aload_n 0, 1), (23, .invokevirtual 115, 3), (26, .aload_n 0, 1), (27, .getfield 13, 3), (30, .iconst 1, 1), (31, .aload_n 0, 1), (32, .iconst 1, 1), (33, .bipush 6, 2), (35, .invokevirtual 126, 3), (38, .iastore, 1), (39, .aload_n 0, 1), (40, .getfield 95, 3), (43, .ifCond .eq 10, 3), (46, .aload_n 0, 1), (47, .getfield 13, 3), (50, .iconst 1, 1), (51, .iconst 0, 1), (52, .iastore, 1), (53, .return_, 1)]
theorem kX6_readPeople_ok : ∀ q ∈ kX6_readPeople, decode cX6_readPeople q.1 = .ok q.2 := by decide +kernel
def kX6_readCoins : List (Nat × Instr × Nat) := [(0, .aload_n 0, 1), (1, .invokevirtual 130, 3), (4, .istore_n 1, 1), (5, .aload_n 0, 1), (6, .iconst 0, 1), (7, .sipush 9999, 3), (10, .invokevirtual 126, 3), (13, .istore_n 2, 1), (14, .aload_n 0, 1), (15, .getfield 95, 3), (18, .ifCond .ne 13, 3), (21, .aload_n 0, 1), (22, .getfield 13, 3), (25, .bipush 8, 2), (27, .iload_n 1, 1), (28, .iadd, 1), (29, .iload_n 2, 1), (30, .iastore, 1), (31, .return_, 1)]
theorem kX6_readCoins_ok : ∀ q ∈ kX6_readCoins, decode cX6_readCoins q.1 = .ok q.2 := by decide +kernel
def kX6_readThing : List (Nat × Instr × Nat) := [(0, .aload_n 0, 1), (1, .getfield 13, 3), (4, .iconst 2, 1), (5, .iaload, 1), (6, .bipush 10, 2), (8, .if_icmp .ne 8, 3), (11, .aload_n 0, 1), (12, .iconst 4, 1), (13, .invokevirtual 118, 3), (16, .aload_n 0, 1), (17, .getfield 95, 3), (20, .ifCond .eq 4, 3), (23, .return_, 1), (24, .aload_n 0, 1), (25, .invokevirtual 115, 3), (28, .aload_n 0, 1), (29, .getfield 13, 3), (32, .iconst 2, 1), (33, .iaload, 1), (34, .istore_n 1, 1), (35, .aload_n 0, 1), (36, .invokevirtual 130, 3), (39, .istore_n 2, 1), (40, .iconst 0, 1), (41, .istore_n 3, 1), (42, .aload_n 0, 1), (43, .getfield 95, 3), (46, .ifCond .ne 80, 3), (49, .aload_n 0, 1), (50, .getfield 78, 3), (53, .iconst 2, 1), (54, .if_icmp .ne 72, 3), (57, .iload_n 3, 1), (58, .aload_n 0, 1), (59, .getfield 13, 3), (62, .iconst 1, 1), (63, .iaload, 1), (64, .if_icmp .ne 23, 3), (67, .aload_n 0, 1), (68, .getfield 92, 3), (71, .i2l, 1), (72, .lconst 0, 1), (73, .ldc2_w 133, 3), (76, .invokestatic 122, 3), (79, .ifCond .eq 8, 3), (82, .aload_n 0, 1), (83, .iconst 4, 1), (84, .invokevirtual 118, 3), (87, .aload_n 0, 1), (88, .iconst 0, 1), (89, .sipush 999, 3), (92, .invokevirtual 126, 3), (95, .istore 4, 2), (97, .aload_n 0, 1), (98, .getfield 95, 3), (101, .ifCond .ne 19, 3), (104, .aload_n 0, 1), (105, .getfield 13, 3), (108, .bipush 24, 2), (110, .bipush 6, 2), (112, .iload_n 1, 1), (113, .imul, 1), (114, .iadd, 1), (115, .iload_n 3, 1), (116, .iadd, 1), (117, .iload 4, 2), (119, .iastore, 1), (120, .iinc 3 1, 3), (123, .goto (-81), 3), (126, .aload_n 0, 1), (127, .getfield 95, 3), (130, .ifCond .eq 4, 3), (133, .return_, 1), (134, .aload_n 0, 1), (135, .getfield 13, 3), (138, .bipush 14, 2), (140, .iload_n 1, 1), (141, .iadd, 1), (142, .iload_n 2, 1), (143, .iastore, 1), (144, .aload_n 0, 1), (145, .getfield 13, 3), (148, .iconst 2, 1), (149, .dup2, 1), (150, .iaload, 1), (151, .iconst 1, 1), (152, .iadd, 1), (153, .iastore, 1), (154, .return_, 1)]
theorem kX6_readThing_ok : ∀ q ∈ kX6_readThing, decode cX6_readThing q.1 = .ok q.2 := by decide +kernel
def kX6_readWorth : List (Nat × Instr × Nat) := [(0, .aload_n 0, 1), (1, .invokevirtual 135, 3), (4, .istore_n 1, 1), (5, .aload_n 0, 1), (6, .invokevirtual 130, 3), (9, .istore_n 2, 1), (10, .aload_n 0, 1), (11, .iconst 0, 1), (12, .sipush 999, 3), (15, .invokevirtual 126, 3), (18, .istore_n 3, 1), (19, .aload_n 0, 1), (20, .getfield 95, 3), (23, .ifCond .ne 18, 3), (26, .aload_n 0, 1), (27, .getfield 13, 3), (30, .bipush 24, 2), (32, .bipush 6, 2), (34, .iload_n 1, 1), (35, .imul, 1), (36, .iadd, 1), (37, .iload_n 2, 1), (38, .iadd, 1), (39, .iload_n 3, 1), (40, .iastore, 1), (41, .return_, 1)]
theorem kX6_readWorth_ok : ∀ q ∈ kX6_readWorth, decode cX6_readWorth q.1 = .ok q.2 := by decide +kernel
def kX6_readEaten : List (Nat × Instr × Nat) := [(0, .aload_n 0, 1), (1, .invokevirtual 135, 3), (4, .istore_n 1, 1), (5, .aload_n 0, 1), (6, .getfield 95, 3), (9, .ifCond .ne 15, 3), (12, .aload_n 0, 1), (13, .getfield 13, 3), (16, .iconst 3, 1), (17, .dup2, 1), (18, .iaload, 1), (19, .iconst 1, 1), (20, .iload_n 1, 1), (21, .ishl, 1), (22, .ior, 1), (23, .iastore, 1), (24, .return_, 1)]
theorem kX6_readEaten_ok : ∀ q ∈ kX6_readEaten, decode cX6_readEaten q.1 = .ok q.2 := by decide +kernel
def kX6_readLine : List (Nat × Instr × Nat) := [(0, .aload_n 0, 1), (1, .ldc 138, 2), (3, .invokevirtual 111, 3), (6, .ifCond .eq 10, 3), (9, .aload_n 0, 1), (10, .invokevirtual 140, 3), (13, .goto 140, 3), (16, .aload_n 0, 1), (17, .getfield 13, 3), (20, .iconst 1, 1), (21, .iaload, 1), (22, .ifCond .ne 11, 3), (25, .aload_n 0, 1), (26, .iconst 2, 1), (27, .invokevirtual 118, 3), (30, .goto 123, 3), (33, .aload_n 0, 1), (34, .ldc 143, 2), (36, .invokevirtual 145, 3), (39, .ifCond .eq 10, 3), (42, .aload_n 0, 1), (43, .invokevirtual 148, 3), (46, .goto 107, 3), (49, .aload_n 0, 1), (50, .ldc 151, 2), (52, .invokevirtual 111, 3), (55, .ifCond .eq 10, 3), (58, .aload_n 0, 1), (59, .invokevirtual 153, 3), (62, .goto 91, 3), (65, .aload_n 0, 1), (66, .ldc 156, 2), (68, .invokevirtual 145, 3), (71, .ifCond .eq 10, 3), (74, .aload_n 0, 1), (75, .invokevirtual 158, 3), (78, .goto 75, 3), (81, .aload_n 0, 1), (82, .ldc 161, 2), (84, .invokevirtual 145, 3), (87, .ifCond .eq 19, 3), (90, .aload_n 0, 1), (91, .getfield 13, 3), (94, .iconst 4, 1), (95, .aload_n 0, 1), (96, .iconst 0, 1), (97, .bipush 100, 2), (99, .invokevirtual 126, 3), (102, .iastore, 1), (103, .goto 50, 3), (106, .aload_n 0, 1), (107, .ldc 163, 2), (109, .invokevirtual 145, 3), (112, .ifCond .eq 20, 3), (115, .aload_n 0, 1), (116, .getfield 13, 3), (119, .iconst 5, 1), (120, .aload_n 0, 1), (121, .iconst 1, 1), (122, .sipush 999, 3), (125, .invokevirtual 126, 3), (128, .iastore, 1), (129, .goto 24, 3), (132, .aload_n 0, 1), (133, .ldc 165, 2), (135, .invokevirtual 145, 3), (138, .ifCond .eq 10, 3), (141, .aload_n 0, 1), (142, .invokevirtual 167, 3), (145, .goto 8, 3), (148, .aload_n 0, 1), (149, .iconst 2, 1), (150, .invokevirtual 118, 3), (153, .aload_n 0, 1), (154, .getfield 78, 3), (157, .iconst 3, 1), (158, .if_icmp .eq 8, 3), (161, .aload_n 0, 1), (162, .iconst 2, 1), (163, .invokevirtual 118, 3), (166, .aload_n 0, 1), (167, .getfield 95, 3), (170, .ifCond .ne 7, 3), (173, .aload_n 0, 1), (174, .invokevirtual 115, 3), (177, .aload_n 0, 1), (178, .getfield 95, 3), (181, .ifCond .ne 13, 3), (184, .aload_n 0, 1), (185, .getfield 13, 3), (188, .iconst 0, 1), (189, .dup2, 1), (190, .iaload, 1), (191, .iconst 1, 1), (192, .iadd, 1), (193, .iastore, 1), (194, .return_, 1)]
theorem kX6_readLine_ok : ∀ q ∈ kX6_readLine, decode cX6_readLine q.1 = .ok q.2 := by decide +kernel
def kX6_town : List (Nat × Instr × Nat) := [(0, .aload_n 0, 1), (1, .iconst 0, 1), (2, .putfield 63, 3), (5, .iload_n 1, 1), (6, .i2l, 1), (7, .lconst 0, 1), (8, .aload_n 0, 1), (9, .getfield 66, 3), (12, .i2l, 1), (13, .invokestatic 122, 3), (16, .ifCond .ne 9, 3), (19, .aload_n 0, 1), (20, .iconst 1, 1), (21, .invokevirtual 170, 3), (24, .ireturn, 1), (25, .aload_n 0, 1), (26, .iload_n 1, 1), (27, .putfield 69, 3), (30, .aload_n 0, 1), (31, .iconst 0, 1), (32, .putfield 66, 3), (35, .aload_n 0, 1), (36, .iconst 0, 1), (37, .putfield 72, 3), (40, .aload_n 0, 1), (41, .iconst 0, 1), (42, .putfield 95, 3), (45, .aload_n 0, 1), (46, .getfield 13, 3), (49, .invokestatic 59, 3), (52, .aload_n 0, 1), (53, .invokevirtual 115, 3), (56, .aload_n 0, 1), (57, .getfield 95, 3), (60, .ifCond .ne 17, 3), (63, .aload_n 0, 1), (64, .getfield 78, 3), (67, .ifCond .eq 10, 3), (70, .aload_n 0, 1), (71, .invokevirtual 173, 3), (74, .goto (-18), 3), (77, .aload_n 0, 1), (78, .aload_n 0, 1), (79, .getfield 95, 3), (82, .putfield 176, 3), (85, .aload_n 0, 1), (86, .aload_n 0, 1), (87, .getfield 95, 3), (90, .ifCond .ne 7, 3), (93, .iconst (-1), 1), (94, .goto 7, 3), (97, .aload_n 0, 1), (98, .getfield 98, 3), (101, .putfield 29, 3), (104, .aload_n 0, 1), (105, .getfield 95, 3), (108, .ifCond .eq 11, 3), (111, .bipush (-10), 2), (113, .aload_n 0, 1), (114, .getfield 95, 3), (117, .isub, 1), (118, .ireturn, 1), (119, .aload_n 0, 1), (120, .getfield 13, 3), (123, .aload_n 0, 1), (124, .getfield 9, 3), (127, .invokestatic 179, 3), (130, .aload_n 0, 1), (131, .getfield 9, 3), (134, .iconst 0, 1), (135, .iaload, 1), (136, .ireturn, 1)]
theorem kX6_town_ok : ∀ q ∈ kX6_town, decode cX6_town q.1 = .ok q.2 := by decide +kernel
def kX6_fault : List (Nat × Instr × Nat) := [(0, .aload_n 0, 1), (1, .iconst 0, 1), (2, .putfield 63, 3), (5, .iload_n 1, 1), (6, .ifCond .ne 10, 3), (9, .aload_n 0, 1), (10, .getfield 176, 3), (13, .goto 16, 3), (16, .iload_n 1, 1), (17, .iconst 1, 1), (18, .if_icmp .ne 10, 3), (21, .aload_n 0, 1), (22, .getfield 29, 3), (25, .goto 4, 3), (28, .iconst (-1), 1), (29, .ireturn, 1)]
theorem kX6_fault_ok : ∀ q ∈ kX6_fault, decode cX6_fault q.1 = .ok q.2 := by decide +kernel
def kX6_isPerson : List (Nat × Instr × Nat) := [(0, .iload_n 1, 1), (1, .i2l, 1), (2, .lconst 0, 1), (3, .aload_n 0, 1), (4, .getfield 9, 3), (7, .iconst 1, 1), (8, .iaload, 1), (9, .iconst 1, 1), (10, .isub, 1), (11, .i2l, 1), (12, .invokestatic 122, 3), (15, .ireturn, 1)]
theorem kX6_isPerson_ok : ∀ q ∈ kX6_isPerson, decode cX6_isPerson q.1 = .ok q.2 := by decide +kernel
def kX6_isThing : List (Nat × Instr × Nat) := [(0, .iload_n 1, 1), (1, .i2l, 1), (2, .lconst 0, 1), (3, .aload_n 0, 1), (4, .getfield 9, 3), (7, .iconst 2, 1), (8, .iaload, 1), (9, .iconst 1, 1), (10, .isub, 1), (11, .i2l, 1), (12, .invokestatic 122, 3), (15, .ireturn, 1)]
theorem kX6_isThing_ok : ∀ q ∈ kX6_isThing, decode cX6_isThing q.1 = .ok q.2 := by decide +kernel
def kX6_isDeed : List (Nat × Instr × Nat) := [(0, .lload_n 1, 1), (1, .lconst 0, 1), (2, .aload_n 0, 1), (3, .getfield 9, 3), (6, .bipush 7, 2), (8, .iaload, 1), (9, .iconst 1, 1), (10, .isub, 1), (11, .i2l, 1), (12, .invokestatic 122, 3), (15, .ireturn, 1)]
theorem kX6_isDeed_ok : ∀ q ∈ kX6_isDeed, decode cX6_isDeed q.1 = .ok q.2 := by decide +kernel
def kX6_worthTo : List (Nat × Instr × Nat) := [(0, .aload_n 0, 1), (1, .getfield 9, 3), (4, .bipush 24, 2), (6, .bipush 6, 2), (8, .iload_n 1, 1), (9, .imul, 1), (10, .iadd, 1), (11, .iload_n 2, 1), (12, .iadd, 1), (13, .iaload, 1), (14, .ireturn, 1)]
theorem kX6_worthTo_ok : ∀ q ∈ kX6_worthTo, decode cX6_worthTo q.1 = .ok q.2 := by decide +kernel
def kX6_isEaten : List (Nat × Instr × Nat) := [(0, .aload_n 0, 1), (1, .getfield 9, 3), (4, .iconst 3, 1), (5, .iaload, 1), (6, .iload_n 1, 1), (7, .ishr, 1), (8, .iconst 1, 1), (9, .iand, 1), (10, .iconst 1, 1), (11, .if_icmp .ne 7, 3), (14, .iconst 1, 1), (15, .goto 4, 3), (18, .iconst 0, 1), (19, .ireturn, 1)]
theorem kX6_isEaten_ok : ∀ q ∈ kX6_isEaten, decode cX6_isEaten q.1 = .ok q.2 := by decide +kernel
def kX6_hasRung : List (Nat × Instr × Nat) := [(0, .aload_n 0, 1), (1, .getfield 9, 3), (4, .bipush 6, 2), (6, .iaload, 1), (7, .aload_n 0, 1), (8, .getfield 9, 3), (11, .iconst 5, 1), (12, .iaload, 1), (13, .if_icmp .lt 7, 3), (16, .iconst 1, 1), (17, .goto 4, 3), (20, .iconst 0, 1), (21, .ireturn, 1)]
theorem kX6_hasRung_ok : ∀ q ∈ kX6_hasRung, decode cX6_hasRung q.1 = .ok q.2 := by decide +kernel
def kX6_wealth : List (Nat × Instr × Nat) := [(0, .aload_n 0, 1), (1, .getfield 9, 3), (4, .bipush 8, 2), (6, .iload_n 1, 1), (7, .iadd, 1), (8, .iaload, 1), (9, .istore_n 2, 1), (10, .iconst 0, 1), (11, .istore_n 3, 1), (12, .iload_n 3, 1), (13, .aload_n 0, 1), (14, .getfield 9, 3), (17, .iconst 2, 1), (18, .iaload, 1), (19, .if_icmp .ge 35, 3), (22, .iload_n 2, 1), (23, .aload_n 0, 1), (24, .getfield 9, 3), (27, .bipush 14, 2), (29, .iload_n 3, 1), (30, .iadd, 1), (31, .iaload, 1), (32, .iload_n 1, 1), (33, .if_icmp .ne 12, 3), (36, .aload_n 0, 1), (37, .iload_n 3, 1), (38, .iload_n 1, 1), (39, .invokevirtual 183, 3), (42, .goto 4, 3), (45, .iconst 0, 1), (46, .iadd, 1), (47, .istore_n 2, 1), (48, .iinc 3 1, 3), (51, .goto (-39), 3), (54, .iload_n 2, 1), (55, .ireturn, 1)]
theorem kX6_wealth_ok : ∀ q ∈ kX6_wealth, decode cX6_wealth q.1 = .ok q.2 := by decide +kernel
def kX6_holds : List (Nat × Instr × Nat) := [(0, .iconst 0, 1), (1, .istore_n 2, 1), (2, .iconst 0, 1), (3, .istore_n 3, 1), (4, .iload_n 3, 1), (5, .aload_n 0, 1), (6, .getfield 9, 3), (9, .iconst 2, 1), (10, .iaload, 1), (11, .if_icmp .ge 30, 3), (14, .iload_n 2, 1), (15, .aload_n 0, 1), (16, .getfield 9, 3), (19, .bipush 14, 2), (21, .iload_n 3, 1), (22, .iadd, 1), (23, .iaload, 1), (24, .iload_n 1, 1), (25, .if_icmp .ne 7, 3), (28, .iconst 1, 1), (29, .goto 4, 3), (32, .iconst 0, 1), (33, .iadd, 1), (34, .istore_n 2, 1), (35, .iinc 3 1, 3), (38, .goto (-34), 3), (41, .iload_n 2, 1), (42, .ireturn, 1)]
theorem kX6_holds_ok : ∀ q ∈ kX6_holds, decode cX6_holds q.1 = .ok q.2 := by decide +kernel
def kX6_person : List (Nat × Instr × Nat) := [(0, .aload_n 0, 1), (1, .iconst 0, 1), (2, .putfield 63, 3), (5, .aload_n 0, 1), (6, .iload_n 1, 1), (7, .invokevirtual 186, 3), (10, .ifCond .ne 9, 3), (13, .aload_n 0, 1), (14, .iconst 1, 1), (15, .invokevirtual 170, 3), (18, .ireturn, 1), (19, .iload_n 2, 1), (20, .i2l, 1), (21, .lconst 0, 1), (22, .ldc2_w 189, 3), (25, .invokestatic 122, 3), (28, .ifCond .ne 9, 3), (31, .aload_n 0, 1), (32, .iconst 2, 1), (33, .invokevirtual 170, 3), (36, .ireturn, 1), (37, .iload_n 2, 1), (38, .ifCond .ne 15, 3), (41, .aload_n 0, 1), (42, .getfield 9, 3), (45, .bipush 8, 2), (47, .iload_n 1, 1), (48, .iadd, 1), (49, .iaload, 1), (50, .goto 21, 3), (53, .iload_n 2, 1), (54, .iconst 1, 1), (55, .if_icmp .ne 11, 3), (58, .aload_n 0, 1), (59, .iload_n 1, 1), (60, .invokevirtual 191, 3), (63, .goto 8, 3), (66, .aload_n 0, 1), (67, .iload_n 1, 1), (68, .invokevirtual 194, 3), (71, .ireturn, 1)]
theorem kX6_person_ok : ∀ q ∈ kX6_person, decode cX6_person q.1 = .ok q.2 := by decide +kernel
def kX6_worth : List (Nat × Instr × Nat) := [(0, .aload_n 0, 1), (1, .iconst 0, 1), (2, .putfield 63, 3), (5, .aload_n 0, 1), (6, .iload_n 1, 1), (7, .invokevirtual 197, 3), (10, .ifCond .eq 20, 3), (13, .aload_n 0, 1), (14, .iload_n 2, 1), (15, .invokevirtual 186, 3), (18, .ifCond .eq 12, 3), (21, .aload_n 0, 1), (22, .iload_n 1, 1), (23, .iload_n 2, 1), (24, .invokevirtual 183, 3), (27, .goto 8, 3), (30, .aload_n 0, 1), (31, .iconst 1, 1), (32, .invokevirtual 170, 3), (35, .ireturn, 1)]
theorem kX6_worth_ok : ∀ q ∈ kX6_worth, decode cX6_worth q.1 = .ok q.2 := by decide +kernel
def kX6_holder : List (Nat × Instr × Nat) := [(0, .aload_n 0, 1), (1, .iconst 0, 1), (2, .putfield 63, 3), (5, .aload_n 0, 1), (6, .iload_n 1, 1), (7, .invokevirtual 197, 3), (10, .ifCond .eq 15, 3), (13, .aload_n 0, 1), (14, .getfield 9, 3), (17, .bipush 14, 2), (19, .iload_n 1, 1), (20, .iadd, 1), (21, .iaload, 1), (22, .goto 8, 3), (25, .aload_n 0, 1), (26, .iconst 1, 1), (27, .invokevirtual 170, 3), (30, .ireturn, 1)]
theorem kX6_holder_ok : ∀ q ∈ kX6_holder, decode cX6_holder q.1 = .ok q.2 := by decide +kernel
def kX6_eat : List (Nat × Instr × Nat) := [(0, .aload_n 0, 1), (1, .aload_n 0, 1), (2, .iload_n 1, 1), (3, .invokevirtual 197, 3), (6, .ifCond .eq 7, 3), (9, .iconst 0, 1), (10, .goto 4, 3), (13, .iconst 1, 1), (14, .putfield 63, 3), (17, .aload_n 0, 1), (18, .getfield 63, 3), (21, .ifCond .gt 11, 3), (24, .aload_n 0, 1), (25, .iload_n 1, 1), (26, .invokevirtual 200, 3), (29, .ifCond .eq 5, 3), (32, .iconst 0, 1), (33, .ireturn, 1), (34, .aload_n 0, 1), (35, .getfield 9, 3), (38, .iconst 3, 1), (39, .dup2, 1), (40, .iaload, 1), (41, .iconst 1, 1), (42, .iload_n 1, 1), (43, .ishl, 1), (44, .ior, 1), (45, .iastore, 1), (46, .iconst 1, 1), (47, .ireturn, 1)]
theorem kX6_eat_ok : ∀ q ∈ kX6_eat, decode cX6_eat q.1 = .ok q.2 := by decide +kernel
def kX6_pass : List (Nat × Instr × Nat) := [(0, .aload_n 0, 1), (1, .iconst 0, 1), (2, .putfield 63, 3), (5, .iload_n 1, 1), (6, .i2l, 1), (7, .lconst 0, 1), (8, .ldc2_w 133, 3), (11, .invokestatic 122, 3), (14, .ifCond .ne 9, 3), (17, .aload_n 0, 1), (18, .iconst 1, 1), (19, .invokevirtual 170, 3), (22, .ireturn, 1), (23, .aload_n 0, 1), (24, .getfield 9, 3), (27, .bipush 6, 2), (29, .sipush 1000, 3), (32, .aload_n 0, 1), (33, .getfield 9, 3), (36, .bipush 6, 2), (38, .iaload, 1), (39, .iload_n 1, 1), (40, .iadd, 1), (41, .invokestatic 203, 3), (44, .iastore, 1), (45, .aload_n 0, 1), (46, .getfield 9, 3), (49, .bipush 6, 2), (51, .iaload, 1), (52, .ireturn, 1)]
theorem kX6_pass_ok : ∀ q ∈ kX6_pass, decode cX6_pass q.1 = .ok q.2 := by decide +kernel
def kX6_of : List (Nat × Instr × Nat) := [(0, .aload_n 0, 1), (1, .getfield 9, 3), (4, .bipush 84, 2), (6, .bipush 6, 2), (8, .iload_n 1, 1), (9, .imul, 1), (10, .iadd, 1), (11, .iload_n 2, 1), (12, .iadd, 1), (13, .iaload, 1), (14, .ireturn, 1)]
theorem kX6_of_ok : ∀ q ∈ kX6_of, decode cX6_of q.1 = .ok q.2 := by decide +kernel
def kX6_standMany : List (Nat × Instr × Nat) := [(0, .iconst 0, 1), (1, .istore_n 1, 1), (2, .iconst 0, 1), (3, .istore_n 2, 1), (4, .iload_n 2, 1), (5, .aload_n 0, 1), (6, .getfield 9, 3), (9, .bipush 7, 2), (11, .iaload, 1), (12, .if_icmp .ge 18, 3), (15, .iload_n 1, 1), (16, .aload_n 0, 1), (17, .iload_n 2, 1), (18, .iconst 4, 1), (19, .invokevirtual 208, 3), (22, .iadd, 1), (23, .istore_n 1, 1), (24, .iinc 2 1, 3), (27, .goto (-23), 3), (30, .iload_n 1, 1), (31, .ireturn, 1)]
theorem kX6_standMany_ok : ∀ q ∈ kX6_standMany, decode cX6_standMany q.1 = .ok q.2 := by decide +kernel
def kX6_morning : List (Nat × Instr × Nat) := [(0, .aload_n 0, 1), (1, .iconst 0, 1), (2, .putfield 63, 3), (5, .aload_n 0, 1), (6, .invokevirtual 211, 3), (9, .ifCond .ne 9, 3), (12, .aload_n 0, 1), (13, .iconst 1, 1), (14, .invokevirtual 170, 3), (17, .ireturn, 1), (18, .aload_n 0, 1), (19, .invokevirtual 215, 3), (22, .istore_n 1, 1), (23, .aload_n 0, 1), (24, .getfield 9, 3), (27, .bipush 6, 2), (29, .iconst 0, 1), (30, .iastore, 1), (31, .aload_n 0, 1), (32, .getfield 9, 3), (35, .bipush 7, 2), (37, .iconst 0, 1), (38, .iastore, 1), (39, .iload_n 1, 1), (40, .ireturn, 1)]
theorem kX6_morning_ok : ∀ q ∈ kX6_morning, decode cX6_morning q.1 = .ok q.2 := by decide +kernel
def kX6_whyNoSale : List (Nat × Instr × Nat) := [(0, .aload_n 0, 1), (1, .iload_n 1, 1), (2, .invokevirtual 197, 3), (5, .ifCond .eq 24, 3), (8, .aload_n 0, 1), (9, .iload_n 2, 1), (10, .invokevirtual 186, 3), (13, .ifCond .eq 16, 3), (16, .aload_n 0, 1), (17, .getfield 9, 3), (20, .bipush 14, 2), (22, .iload_n 1, 1), (23, .iadd, 1), (24, .iaload, 1), (25, .iload_n 2, 1), (26, .if_icmp .ne 5, 3), (29, .iconst 1, 1), (30, .ireturn, 1), (31, .iload_n 3, 1), (32, .i2l, 1), (33, .lconst 0, 1), (34, .ldc2_w 218, 3), (37, .invokestatic 122, 3), (40, .ifCond .ne 5, 3), (43, .iconst 2, 1), (44, .ireturn, 1), (45, .aload_n 0, 1), (46, .getfield 9, 3), (49, .bipush 8, 2), (51, .iload_n 2, 1), (52, .iadd, 1), (53, .iaload, 1), (54, .iload_n 3, 1), (55, .if_icmp .ge 5, 3), (58, .iconst 3, 1), (59, .ireturn, 1), (60, .aload_n 0, 1), (61, .invokevirtual 211, 3), (64, .ifCond .eq 7, 3), (67, .iconst 4, 1), (68, .goto 33, 3), (71, .aload_n 0, 1), (72, .iload_n 1, 1), (73, .invokevirtual 200, 3), (76, .ifCond .eq 7, 3), (79, .iconst 5, 1), (80, .goto 21, 3), (83, .aload_n 0, 1), (84, .getfield 9, 3), (87, .bipush 7, 2), (89, .iaload, 1), (90, .bipush 30, 2), (92, .if_icmp .ne 8, 3), (95, .bipush 6, 2), (97, .goto 4, 3), (100, .iconst 0, 1), (101, .ireturn, 1)]
theorem kX6_whyNoSale_ok : ∀ q ∈ kX6_whyNoSale, decode cX6_whyNoSale q.1 = .ok q.2 := by decide +kernel
def kX6_sells : List (Nat × Instr × Nat) := [(0, .bipush 84, 2), (2, .bipush 6, 2), (4, .aload_n 0, 1), (5, .getfield 9, 3), (8, .bipush 7, 2), (10, .iaload, 1), (11, .imul, 1), (12, .iadd, 1), (13, .istore 4, 2), (15, .aload_n 0, 1), (16, .getfield 9, 3), (19, .bipush 14, 2), (21, .iload_n 1, 1), (22, .iadd, 1), (23, .iaload, 1), (24, .istore 5, 2), (26, .aload_n 0, 1), (27, .getfield 9, 3), (30, .iload 4, 2), (32, .iconst 0, 1), (33, .iadd, 1), (34, .iload_n 1, 1), (35, .iastore, 1), (36, .aload_n 0, 1), (37, .getfield 9, 3), (40, .iload 4, 2), (42, .iconst 1, 1), (43, .iadd, 1), (44, .iload 5, 2), (46, .iastore, 1), (47, .aload_n 0, 1), (48, .getfield 9, 3), (51, .iload 4, 2), (53, .iconst 2, 1), (54, .iadd, 1), (55, .iload_n 2, 1), (56, .iastore, 1), (57, .aload_n 0, 1), (58, .getfield 9, 3), (61, .iload 4, 2), (63, .iconst 3, 1), (64, .iadd, 1), (65, .iload_n 3, 1), (66, .iastore, 1), (67, .aload_n 0, 1), (68, .getfield 9, 3), (71, .iload 4, 2), (73, .iconst 4, 1), (74, .iadd, 1), (75, .iconst 1, 1), (76, .iastore, 1), (77, .aload_n 0, 1), (78, .getfield 9, 3), (81, .iload 4, 2), (83, .iconst 5, 1), (84, .iadd, 1), (85, .aload_n 0, 1), (86, .getfield 9, 3), (89, .bipush 6, 2), (91, .iaload, 1), (92, .iastore, 1), (93, .aload_n 0, 1), (94, .getfield 9, 3), (97, .bipush 14, 2), (99, .iload_n 1, 1), (100, .iadd, 1), (101, .iload_n 2, 1), (102, .iastore, 1), (103, .aload_n 0, 1), (104, .getfield 9, 3), (107, .bipush 8, 2), (109, .iload_n 2, 1), (110, .iadd, 1), (111, .dup2, 1), (112, .iaload, 1), (113, .iload_n 3, 1), (114, .isub, 1), (115, .iastore, 1), (116, .aload_n 0, 1), (117, .getfield 9, 3), (120, .bipush 8, 2), (122, .iload 5, 2), (124, .iadd, 1), (125, .dup2, 1), (126, .iaload, 1), (127, .iload_n 3, 1), (128, .iadd, 1), (129, .iastore, 1), (130, .aload_n 0, 1), (131, .getfield 9, 3), (134, .bipush 7, 2), (136, .dup2, 1), (137, .iaload, 1), (138, .iconst 1, 1), (139, .iadd, 1), (140, .iastore, 1), (141, .aload_n 0, 1), (142, .getfield 9, 3), (145, .bipush 7, 2), (147, .iaload, 1), (148, .iconst 1, 1), (149, .isub, 1), (150, .ireturn, 1)]
theorem kX6_sells_ok : ∀ q ∈ kX6_sells, decode cX6_sells q.1 = .ok q.2 := by decide +kernel
def kX6_sell : List (Nat × Instr × Nat) := [(0, .aload_n 0, 1), (1, .iconst 0, 1), (2, .putfield 63, 3), (5, .aload_n 0, 1), (6, .iload_n 1, 1), (7, .iload_n 2, 1), (8, .iload_n 3, 1), (9, .invokevirtual 220, 3), (12, .istore 4, 2), (14, .iload 4, 2), (16, .ifCond .ne 13, 3), (19, .aload_n 0, 1), (20, .iload_n 1, 1), (21, .iload_n 2, 1), (22, .iload_n 3, 1), (23, .invokevirtual 224, 3), (26, .goto 8, 3), (29, .bipush (-10), 2), (31, .iload 4, 2), (33, .isub, 1), (34, .ireturn, 1)]
theorem kX6_sell_ok : ∀ q ∈ kX6_sell, decode cX6_sell q.1 = .ok q.2 := by decide +kernel
def kX6_worthOf : List (Nat × Instr × Nat) := [(0, .iload_n 2, 1), (1, .ifCond .eq 29, 3), (4, .aload_n 0, 1), (5, .iload_n 1, 1), (6, .iconst 3, 1), (7, .invokevirtual 208, 3), (10, .aload_n 0, 1), (11, .aload_n 0, 1), (12, .iload_n 1, 1), (13, .iconst 0, 1), (14, .invokevirtual 208, 3), (17, .aload_n 0, 1), (18, .iload_n 1, 1), (19, .iconst 1, 1), (20, .invokevirtual 208, 3), (23, .invokevirtual 183, 3), (26, .isub, 1), (27, .goto 26, 3), (30, .aload_n 0, 1), (31, .aload_n 0, 1), (32, .iload_n 1, 1), (33, .iconst 0, 1), (34, .invokevirtual 208, 3), (37, .aload_n 0, 1), (38, .iload_n 1, 1), (39, .iconst 2, 1), (40, .invokevirtual 208, 3), (43, .invokevirtual 183, 3), (46, .aload_n 0, 1), (47, .iload_n 1, 1), (48, .iconst 3, 1), (49, .invokevirtual 208, 3), (52, .isub, 1), (53, .istore_n 3, 1), (54, .iconst 0, 1), (55, .iload_n 3, 1), (56, .invokestatic 227, 3), (59, .ireturn, 1)]
theorem kX6_worthOf_ok : ∀ q ∈ kX6_worthOf, decode cX6_worthOf q.1 = .ok q.2 := by decide +kernel
def kX6_deed : List (Nat × Instr × Nat) := [(0, .aload_n 0, 1), (1, .iconst 0, 1), (2, .putfield 63, 3), (5, .aload_n 0, 1), (6, .iload_n 1, 1), (7, .i2l, 1), (8, .invokevirtual 230, 3), (11, .ifCond .ne 9, 3), (14, .aload_n 0, 1), (15, .iconst 1, 1), (16, .invokevirtual 170, 3), (19, .ireturn, 1), (20, .iload_n 2, 1), (21, .i2l, 1), (22, .lconst 0, 1), (23, .ldc2_w 234, 3), (26, .invokestatic 122, 3), (29, .ifCond .ne 9, 3), (32, .aload_n 0, 1), (33, .iconst 2, 1), (34, .invokevirtual 170, 3), (37, .ireturn, 1), (38, .iload_n 2, 1), (39, .bipush 6, 2), (41, .if_icmp .ge 12, 3), (44, .aload_n 0, 1), (45, .iload_n 1, 1), (46, .iload_n 2, 1), (47, .invokevirtual 208, 3), (50, .goto 19, 3), (53, .aload_n 0, 1), (54, .iload_n 1, 1), (55, .iload_n 2, 1), (56, .bipush 6, 2), (58, .if_icmp .ne 7, 3), (61, .iconst 1, 1), (62, .goto 4, 3), (65, .iconst 0, 1), (66, .invokevirtual 236, 3), (69, .ireturn, 1)]
theorem kX6_deed_ok : ∀ q ∈ kX6_deed, decode cX6_deed q.1 = .ok q.2 := by decide +kernel
def kX6_fallsOf : List (Nat × Instr × Nat) := [(0, .iconst 0, 1), (1, .istore_n 2, 1), (2, .iload_n 1, 1), (3, .istore_n 3, 1), (4, .iload_n 3, 1), (5, .aload_n 0, 1), (6, .getfield 9, 3), (9, .bipush 7, 2), (11, .iaload, 1), (12, .if_icmp .ge 54, 3), (15, .aload_n 0, 1), (16, .iload_n 1, 1), (17, .iconst 4, 1), (18, .invokevirtual 208, 3), (21, .iconst 1, 1), (22, .if_icmp .ne 44, 3), (25, .iload_n 2, 1), (26, .aload_n 0, 1), (27, .iload_n 3, 1), (28, .iconst 0, 1), (29, .invokevirtual 208, 3), (32, .aload_n 0, 1), (33, .iload_n 1, 1), (34, .iconst 0, 1), (35, .invokevirtual 208, 3), (38, .if_icmp .ne 19, 3), (41, .aload_n 0, 1), (42, .iload_n 3, 1), (43, .iconst 4, 1), (44, .invokevirtual 208, 3), (47, .iconst 1, 1), (48, .if_icmp .ne 9, 3), (51, .iconst 1, 1), (52, .iload_n 3, 1), (53, .ishl, 1), (54, .goto 4, 3), (57, .iconst 0, 1), (58, .ior, 1), (59, .istore_n 2, 1), (60, .iinc 3 1, 3), (63, .goto (-59), 3), (66, .iload_n 2, 1), (67, .ireturn, 1)]
theorem kX6_fallsOf_ok : ∀ q ∈ kX6_fallsOf, decode cX6_fallsOf q.1 = .ok q.2 := by decide +kernel
def kX6_isOf : List (Nat × Instr × Nat) := [(0, .aload_n 0, 1), (1, .iload_n 1, 1), (2, .iconst 1, 1), (3, .invokevirtual 208, 3), (6, .iload_n 2, 1), (7, .if_icmp .eq 13, 3), (10, .aload_n 0, 1), (11, .iload_n 1, 1), (12, .iconst 2, 1), (13, .invokevirtual 208, 3), (16, .iload_n 2, 1), (17, .if_icmp .ne 7, 3), (20, .iconst 1, 1), (21, .goto 4, 3), (24, .iconst 0, 1), (25, .ireturn, 1)]
theorem kX6_isOf_ok : ∀ q ∈ kX6_isOf, decode cX6_isOf q.1 = .ok q.2 := by decide +kernel
def kX6_pays : List (Nat × Instr × Nat) := [(0, .iconst 0, 1), (1, .istore 4, 2), (3, .iconst 0, 1), (4, .istore 5, 2), (6, .iload 5, 2), (8, .aload_n 0, 1), (9, .getfield 9, 3), (12, .bipush 7, 2), (14, .iaload, 1), (15, .if_icmp .ge 100, 3), (18, .iload_n 3, 1), (19, .iload_n 2, 1), (20, .if_icmp .eq 95, 3), (23, .iload_n 1, 1), (24, .iload 5, 2), (26, .ishr, 1), (27, .iconst 1, 1), (28, .iand, 1), (29, .ifCond .ne 6, 3), (32, .goto 77, 3), (35, .iload 4, 2), (37, .aload_n 0, 1), (38, .iload 5, 2), (40, .iconst 1, 1), (41, .invokevirtual 208, 3), (44, .iload_n 3, 1), (45, .if_icmp .ne 23, 3), (48, .aload_n 0, 1), (49, .getfield 9, 3), (52, .iconst 4, 1), (53, .iaload, 1), (54, .aload_n 0, 1), (55, .iload 5, 2), (57, .iconst 1, 1), (58, .invokevirtual 236, 3), (61, .imul, 1), (62, .bipush 100, 2), (64, .idiv, 1), (65, .goto 4, 3), (68, .iconst 0, 1), (69, .iadd, 1), (70, .istore 4, 2), (72, .iload 4, 2), (74, .aload_n 0, 1), (75, .iload 5, 2), (77, .iconst 2, 1), (78, .invokevirtual 208, 3), (81, .iload_n 3, 1), (82, .if_icmp .ne 23, 3), (85, .aload_n 0, 1), (86, .getfield 9, 3), (89, .iconst 4, 1), (90, .iaload, 1), (91, .aload_n 0, 1), (92, .iload 5, 2), (94, .iconst 0, 1), (95, .invokevirtual 236, 3), (98, .imul, 1), (99, .bipush 100, 2), (101, .idiv, 1), (102, .goto 4, 3), (105, .iconst 0, 1), (106, .iadd, 1), (107, .istore 4, 2), (109, .iinc 5 1, 3), (112, .goto (-106), 3), (115, .iload 4, 2), (117, .ireturn, 1)]
theorem kX6_pays_ok : ∀ q ∈ kX6_pays, decode cX6_pays q.1 = .ok q.2 := by decide +kernel
def kX6_undoes : List (Nat × Instr × Nat) := [(0, .aload_n 0, 1), (1, .iload_n 1, 1), (2, .invokevirtual 240, 3), (5, .istore_n 3, 1), (6, .iconst 0, 1), (7, .istore 4, 2), (9, .iconst 0, 1), (10, .istore 5, 2), (12, .iload 5, 2), (14, .aload_n 0, 1), (15, .getfield 9, 3), (18, .iconst 1, 1), (19, .iaload, 1), (20, .if_icmp .ge 48, 3), (23, .aload_n 0, 1), (24, .iload_n 3, 1), (25, .iload_n 2, 1), (26, .iload 5, 2), (28, .invokevirtual 243, 3), (31, .istore 6, 2), (33, .aload_n 0, 1), (34, .getfield 9, 3), (37, .bipush 8, 2), (39, .iload 5, 2), (41, .iadd, 1), (42, .dup2, 1), (43, .iaload, 1), (44, .iload 6, 2), (46, .iadd, 1), (47, .iastore, 1), (48, .aload_n 0, 1), (49, .getfield 9, 3), (52, .bipush 8, 2), (54, .iload_n 2, 1), (55, .iadd, 1), (56, .dup2, 1), (57, .iaload, 1), (58, .iload 6, 2), (60, .isub, 1), (61, .iastore, 1), (62, .iinc 5 1, 3), (65, .goto (-53), 3), (68, .aload_n 0, 1), (69, .getfield 9, 3), (72, .bipush 7, 2), (74, .iaload, 1), (75, .iconst 1, 1), (76, .isub, 1), (77, .istore 5, 2), (79, .iload 5, 2), (81, .ifCond .lt 112, 3), (84, .iload_n 3, 1), (85, .iload 5, 2), (87, .ishr, 1), (88, .iconst 1, 1), (89, .iand, 1), (90, .ifCond .ne 6, 3), (93, .goto 94, 3), (96, .aload_n 0, 1), (97, .getfield 9, 3), (100, .bipush 84, 2), (102, .bipush 6, 2), (104, .iload 5, 2), (106, .imul, 1), (107, .iadd, 1), (108, .iconst 4, 1), (109, .iadd, 1), (110, .iconst 0, 1), (111, .iastore, 1), (112, .aload_n 0, 1), (113, .getfield 9, 3), (116, .bipush 14, 2), (118, .aload_n 0, 1), (119, .iload 5, 2), (121, .iconst 0, 1), (122, .invokevirtual 208, 3), (125, .iadd, 1), (126, .aload_n 0, 1), (127, .iload 5, 2), (129, .iconst 1, 1), (130, .invokevirtual 208, 3), (133, .iastore, 1), (134, .aload_n 0, 1), (135, .getfield 9, 3), (138, .bipush 8, 2), (140, .aload_n 0, 1), (141, .iload 5, 2), (143, .iconst 1, 1), (144, .invokevirtual 208, 3), (147, .iadd, 1), (148, .dup2, 1), (149, .iaload, 1), (150, .aload_n 0, 1), (151, .iload 5, 2), (153, .iconst 3, 1), (154, .invokevirtual 208, 3), (157, .isub, 1), (158, .iastore, 1), (159, .aload_n 0, 1), (160, .getfield 9, 3), (163, .bipush 8, 2), (165, .aload_n 0, 1), (166, .iload 5, 2), (168, .iconst 2, 1), (169, .invokevirtual 208, 3), (172, .iadd, 1), (173, .dup2, 1), (174, .iaload, 1), (175, .aload_n 0, 1), (176, .iload 5, 2), (178, .iconst 3, 1), (179, .invokevirtual 208, 3), (182, .iadd, 1), (183, .iastore, 1), (184, .iinc 4 1, 3), (187, .iinc 5 (-1), 3), (190, .goto (-111), 3), (193, .iload 4, 2), (195, .ireturn, 1)]
theorem kX6_undoes_ok : ∀ q ∈ kX6_undoes, decode cX6_undoes q.1 = .ok q.2 := by decide +kernel
def kX6_whyNot : List (Nat × Instr × Nat) := [(0, .aload_n 0, 1), (1, .lload_n 1, 1), (2, .invokevirtual 230, 3), (5, .ifCond .ne 5, 3), (8, .iconst 1, 1), (9, .ireturn, 1), (10, .lload_n 1, 1), (11, .l2i, 1), (12, .istore 4, 2), (14, .aload_n 0, 1), (15, .iload 4, 2), (17, .iconst 4, 1), (18, .invokevirtual 208, 3), (21, .ifCond .ne 5, 3), (24, .iconst 2, 1), (25, .ireturn, 1), (26, .aload_n 0, 1), (27, .iload 4, 2), (29, .iload_n 3, 1), (30, .invokevirtual 246, 3), (33, .ifCond .ne 5, 3), (36, .iconst 3, 1), (37, .ireturn, 1), (38, .aload_n 0, 1), (39, .invokevirtual 211, 3), (42, .ifCond .eq 5, 3), (45, .iconst 4, 1), (46, .ireturn, 1), (47, .aload_n 0, 1), (48, .aload_n 0, 1), (49, .iload 4, 2), (51, .iconst 0, 1), (52, .invokevirtual 208, 3), (55, .invokevirtual 200, 3), (58, .ifCond .eq 5, 3), (61, .iconst 5, 1), (62, .ireturn, 1), (63, .aload_n 0, 1), (64, .getfield 9, 3), (67, .aload_n 0, 1), (68, .getfield 16, 3), (71, .invokestatic 179, 3), (74, .aload_n 0, 1), (75, .iload 4, 2), (77, .iload_n 3, 1), (78, .invokevirtual 250, 3), (81, .pop, 1), (82, .aload_n 0, 1), (83, .getfield 9, 3), (86, .bipush 8, 2), (88, .iload_n 3, 1), (89, .iadd, 1), (90, .iaload, 1), (91, .istore 5, 2), (93, .aload_n 0, 1), (94, .getfield 16, 3), (97, .aload_n 0, 1), (98, .getfield 9, 3), (101, .invokestatic 179, 3), (104, .iload 5, 2), (106, .ifCond .ge 8, 3), (109, .bipush 6, 2), (111, .goto 4, 3), (114, .iconst 0, 1), (115, .ireturn, 1)]
theorem kX6_whyNot_ok : ∀ q ∈ kX6_whyNot, decode cX6_whyNot q.1 = .ok q.2 := by decide +kernel
def kX6_may : List (Nat × Instr × Nat) := [(0, .aload_n 0, 1), (1, .aload_n 0, 1), (2, .iload_n 2, 1), (3, .invokevirtual 186, 3), (6, .ifCond .eq 7, 3), (9, .iconst 0, 1), (10, .goto 4, 3), (13, .iconst 1, 1), (14, .putfield 63, 3), (17, .aload_n 0, 1), (18, .getfield 63, 3), (21, .ifCond .le 7, 3), (24, .iconst 0, 1), (25, .goto 10, 3), (28, .aload_n 0, 1), (29, .iload_n 1, 1), (30, .i2l, 1), (31, .iload_n 2, 1), (32, .invokevirtual 253, 3), (35, .ireturn, 1)]
theorem kX6_may_ok : ∀ q ∈ kX6_may, decode cX6_may q.1 = .ok q.2 := by decide +kernel
def kX6_undo : List (Nat × Instr × Nat) := [(0, .aload_n 0, 1), (1, .aload_n 0, 1), (2, .iload_n 2, 1), (3, .invokevirtual 186, 3), (6, .ifCond .eq 7, 3), (9, .iconst 0, 1), (10, .goto 4, 3), (13, .iconst 1, 1), (14, .putfield 63, 3), (17, .aload_n 0, 1), (18, .getfield 63, 3), (21, .ifCond .le 5, 3), (24, .iconst 0, 1), (25, .ireturn, 1), (26, .aload_n 0, 1), (27, .iload_n 1, 1), (28, .i2l, 1), (29, .iload_n 2, 1), (30, .invokevirtual 253, 3), (33, .istore_n 3, 1), (34, .iload_n 3, 1), (35, .ifCond .ne 12, 3), (38, .aload_n 0, 1), (39, .iload_n 1, 1), (40, .iload_n 2, 1), (41, .invokevirtual 250, 3), (44, .goto 7, 3), (47, .bipush (-10), 2), (49, .iload_n 3, 1), (50, .isub, 1), (51, .ireturn, 1)]
theorem kX6_undo_ok : ∀ q ∈ kX6_undo, decode cX6_undo q.1 = .ok q.2 := by decide +kernel
def kX6_falls : List (Nat × Instr × Nat) := [(0, .aload_n 0, 1), (1, .iconst 0, 1), (2, .putfield 63, 3), (5, .aload_n 0, 1), (6, .iload_n 1, 1), (7, .i2l, 1), (8, .invokevirtual 230, 3), (11, .ifCond .eq 11, 3), (14, .aload_n 0, 1), (15, .iload_n 1, 1), (16, .invokevirtual 240, 3), (19, .goto 8, 3), (22, .aload_n 0, 1), (23, .iconst 1, 1), (24, .invokevirtual 170, 3), (27, .ireturn, 1)]
theorem kX6_falls_ok : ∀ q ∈ kX6_falls, decode cX6_falls q.1 = .ok q.2 := by decide +kernel
def kX6_owes : List (Nat × Instr × Nat) := [(0, .aload_n 0, 1), (1, .aload_n 0, 1), (2, .iload_n 1, 1), (3, .i2l, 1), (4, .invokevirtual 230, 3), (7, .ifCond .eq 23, 3), (10, .aload_n 0, 1), (11, .iload_n 2, 1), (12, .invokevirtual 186, 3), (15, .ifCond .eq 15, 3), (18, .aload_n 0, 1), (19, .iload_n 3, 1), (20, .invokevirtual 186, 3), (23, .ifCond .eq 7, 3), (26, .iconst 0, 1), (27, .goto 4, 3), (30, .iconst 1, 1), (31, .putfield 63, 3), (34, .aload_n 0, 1), (35, .getfield 63, 3), (38, .ifCond .le 5, 3), (41, .iconst 0, 1), (42, .ireturn, 1), (43, .aload_n 0, 1), (44, .iload_n 1, 1), (45, .iload_n 2, 1), (46, .invokevirtual 246, 3), (49, .ifCond .eq 17, 3), (52, .aload_n 0, 1), (53, .aload_n 0, 1), (54, .iload_n 1, 1), (55, .invokevirtual 240, 3), (58, .iload_n 2, 1), (59, .iload_n 3, 1), (60, .invokevirtual 243, 3), (63, .goto 4, 3), (66, .iconst 0, 1), (67, .ireturn, 1)]
theorem kX6_owes_ok : ∀ q ∈ kX6_owes, decode cX6_owes q.1 = .ok q.2 := by decide +kernel
def kX6_chain : List (Nat × Instr × Nat) := [(0, .aload_n 0, 1), (1, .iconst 0, 1), (2, .putfield 63, 3), (5, .aload_n 0, 1), (6, .iload_n 1, 1), (7, .invokevirtual 197, 3), (10, .ifCond .ne 9, 3), (13, .aload_n 0, 1), (14, .iconst 1, 1), (15, .invokevirtual 170, 3), (18, .ireturn, 1), (19, .iload_n 2, 1), (20, .istore_n 3, 1), (21, .iconst 0, 1), (22, .istore 4, 2), (24, .iload 4, 2), (26, .aload_n 0, 1), (27, .getfield 9, 3), (30, .bipush 7, 2), (32, .iaload, 1), (33, .if_icmp .ge 43, 3), (36, .aload_n 0, 1), (37, .iload 4, 2), (39, .iconst 0, 1), (40, .invokevirtual 208, 3), (43, .iload_n 1, 1), (44, .if_icmp .ne 26, 3), (47, .aload_n 0, 1), (48, .iload 4, 2), (50, .iconst 4, 1), (51, .invokevirtual 208, 3), (54, .ifCond .ne 6, 3), (57, .goto 13, 3), (60, .iload_n 3, 1), (61, .ifCond .ne 6, 3), (64, .iload 4, 2), (66, .ireturn, 1), (67, .iinc 3 (-1), 3), (70, .iinc 4 1, 3), (73, .goto (-49), 3), (76, .iconst (-1), 1), (77, .ireturn, 1)]
theorem kX6_chain_ok : ∀ q ∈ kX6_chain, decode cX6_chain q.1 = .ok q.2 := by decide +kernel
def kX6_isTray : List (Nat × Instr × Nat) := [(0, .iload_n 0, 1), (1, .i2l, 1), (2, .lconst 0, 1), (3, .ldc2_w 367, 3), (6, .invokestatic 122, 3), (9, .ireturn, 1)]
theorem kX6_isTray_ok : ∀ q ∈ kX6_isTray, decode cX6_isTray q.1 = .ok q.2 := by decide +kernel
def kX6_trayFault : List (Nat × Instr × Nat) := [(0, .iload_n 1, 1), (1, .invokestatic 257, 3), (4, .ifCond .ne 7, 3), (7, .iconst 1, 1), (8, .goto 18, 3), (11, .aload_n 0, 1), (12, .getfield 49, 3), (15, .iload_n 1, 1), (16, .iaload, 1), (17, .iconst (-1), 1), (18, .if_icmp .ne 7, 3), (21, .iconst 2, 1), (22, .goto 4, 3), (25, .iconst 0, 1), (26, .ireturn, 1)]
theorem kX6_trayFault_ok : ∀ q ∈ kX6_trayFault, decode cX6_trayFault q.1 = .ok q.2 := by decide +kernel
def kX6_byTold : List (Nat × Instr × Nat) := [(0, .aload_n 0, 1), (1, .iload_n 1, 1), (2, .iconst 2, 1), (3, .idiv, 1), (4, .iload_n 1, 1), (5, .iconst 2, 1), (6, .irem, 1), (7, .ifCond .ne 7, 3), (10, .iconst 1, 1), (11, .goto 4, 3), (14, .iconst 2, 1), (15, .invokevirtual 208, 3), (18, .ireturn, 1)]
theorem kX6_byTold_ok : ∀ q ∈ kX6_byTold, decode cX6_byTold q.1 = .ok q.2 := by decide +kernel
def kX6_whyTold : List (Nat × Instr × Nat) := [(0, .lload_n 1, 1), (1, .lconst 0, 1), (2, .lcmp, 1), (3, .ifCond .lt 15, 3), (6, .aload_n 0, 1), (7, .lload_n 1, 1), (8, .ldc2_w 189, 3), (11, .ldiv, 1), (12, .invokevirtual 230, 3), (15, .ifCond .ne 5, 3), (18, .iconst 1, 1), (19, .ireturn, 1), (20, .aload_n 0, 1), (21, .lload_n 1, 1), (22, .ldc2_w 189, 3), (25, .ldiv, 1), (26, .aload_n 0, 1), (27, .lload_n 1, 1), (28, .l2i, 1), (29, .invokevirtual 260, 3), (32, .invokevirtual 253, 3), (35, .ireturn, 1)]
theorem kX6_whyTold_ok : ∀ q ∈ kX6_whyTold, decode cX6_whyTold q.1 = .ok q.2 := by decide +kernel
def kX6_goesBy : List (Nat × Instr × Nat) := [(0, .iconst 0, 1), (1, .istore_n 2, 1), (2, .iload_n 2, 1), (3, .aload_n 0, 1), (4, .getfield 52, 3), (7, .iload_n 1, 1), (8, .iaload, 1), (9, .if_icmp .ge 53, 3), (12, .aload_n 0, 1), (13, .aload_n 0, 1), (14, .getfield 55, 3), (17, .bipush 40, 2), (19, .iload_n 1, 1), (20, .imul, 1), (21, .iload_n 2, 1), (22, .iadd, 1), (23, .laload, 1), (24, .invokevirtual 263, 3), (27, .ifCond .ne 35, 3), (30, .aload_n 0, 1), (31, .getfield 55, 3), (34, .bipush 40, 2), (36, .iload_n 1, 1), (37, .imul, 1), (38, .iload_n 2, 1), (39, .iadd, 1), (40, .laload, 1), (41, .l2i, 1), (42, .istore_n 3, 1), (43, .aload_n 0, 1), (44, .iload_n 3, 1), (45, .iconst 2, 1), (46, .idiv, 1), (47, .aload_n 0, 1), (48, .iload_n 3, 1), (49, .invokevirtual 260, 3), (52, .invokevirtual 250, 3), (55, .pop, 1), (56, .iinc 2 1, 3), (59, .goto (-57), 3), (62, .iload_n 2, 1), (63, .ireturn, 1)]
theorem kX6_goesBy_ok : ∀ q ∈ kX6_goesBy, decode cX6_goesBy q.1 = .ok q.2 := by decide +kernel
def kX6_judge : List (Nat × Instr × Nat) := [(0, .aload_n 0, 1), (1, .aload_n 0, 1), (2, .iload_n 1, 1), (3, .invokevirtual 267, 3), (6, .putfield 63, 3), (9, .aload_n 0, 1), (10, .getfield 63, 3), (13, .ifCond .ne 20, 3), (16, .iload_n 2, 1), (17, .i2l, 1), (18, .lconst 0, 1), (19, .ldc2_w 189, 3), (22, .invokestatic 122, 3), (25, .ifCond .ne 8, 3), (28, .aload_n 0, 1), (29, .iconst 3, 1), (30, .putfield 63, 3), (33, .aload_n 0, 1), (34, .getfield 63, 3), (37, .ifCond .le 5, 3), (40, .iconst 0, 1), (41, .ireturn, 1), (42, .aload_n 0, 1), (43, .getfield 9, 3), (46, .aload_n 0, 1), (47, .getfield 33, 3), (50, .invokestatic 179, 3), (53, .aload_n 0, 1), (54, .iload_n 1, 1), (55, .invokevirtual 270, 3), (58, .istore_n 3, 1), (59, .iload_n 3, 1), (60, .aload_n 0, 1), (61, .getfield 52, 3), (64, .iload_n 1, 1), (65, .iaload, 1), (66, .if_icmp .ne 7, 3), (69, .iconst 0, 1), (70, .goto 18, 3), (73, .aload_n 0, 1), (74, .aload_n 0, 1), (75, .getfield 55, 3), (78, .bipush 40, 2), (80, .iload_n 1, 1), (81, .imul, 1), (82, .iload_n 3, 1), (83, .iadd, 1), (84, .laload, 1), (85, .invokevirtual 263, 3), (88, .istore 4, 2), (90, .aload_n 0, 1), (91, .invokevirtual 215, 3), (94, .istore 5, 2), (96, .aload_n 0, 1), (97, .getfield 33, 3), (100, .aload_n 0, 1), (101, .getfield 9, 3), (104, .invokestatic 179, 3), (107, .iload_n 2, 1), (108, .ifCond .ne 16, 3), (111, .iload 4, 2), (113, .ifCond .ne 7, 3), (116, .iconst (-1), 1), (117, .goto 19, 3), (120, .iload_n 3, 1), (121, .goto 15, 3), (124, .iload_n 2, 1), (125, .iconst 1, 1), (126, .if_icmp .ne 8, 3), (129, .iload 4, 2), (131, .goto 5, 3), (134, .iload 5, 2), (136, .ireturn, 1)]
theorem kX6_judge_ok : ∀ q ∈ kX6_judge, decode cX6_judge q.1 = .ok q.2 := by decide +kernel
def kX6_perform : List (Nat × Instr × Nat) := [(0, .aload_n 0, 1), (1, .aload_n 0, 1), (2, .iload_n 1, 1), (3, .invokevirtual 267, 3), (6, .putfield 63, 3), (9, .aload_n 0, 1), (10, .getfield 63, 3), (13, .ifCond .le 7, 3), (16, .iconst 0, 1), (17, .goto 8, 3), (20, .aload_n 0, 1), (21, .iload_n 1, 1), (22, .invokevirtual 270, 3), (25, .ireturn, 1)]
theorem kX6_perform_ok : ∀ q ∈ kX6_perform, decode cX6_perform q.1 = .ok q.2 := by decide +kernel
def kX6_draw : List (Nat × Instr × Nat) := [(0, .aload_n 0, 1), (1, .ldc_w 273, 3), (4, .aload_n 0, 1), (5, .getfield 274, 3), (8, .imul, 1), (9, .sipush 12345, 3), (12, .iadd, 1), (13, .putfield 274, 3), (16, .aload_n 0, 1), (17, .getfield 274, 3), (20, .bipush 16, 2), (22, .iushr, 1), (23, .iload_n 1, 1), (24, .irem, 1), (25, .ireturn, 1)]
theorem kX6_draw_ok : ∀ q ∈ kX6_draw, decode cX6_draw q.1 = .ok q.2 := by decide +kernel
def kX6_drawn : List (Nat × Instr × Nat) := [(0, .aload_n 0, 1), (1, .iconst 3, 1), (2, .invokevirtual 277, 3), (5, .iconst 2, 1), (6, .if_icmp .ge 54, 3), (9, .aload_n 0, 1), (10, .aload_n 0, 1), (11, .getfield 9, 3), (14, .iconst 2, 1), (15, .iaload, 1), (16, .invokevirtual 277, 3), (19, .istore_n 1, 1), (20, .aload_n 0, 1), (21, .aload_n 0, 1), (22, .getfield 9, 3), (25, .iconst 1, 1), (26, .iaload, 1), (27, .invokevirtual 277, 3), (30, .istore_n 2, 1), (31, .aload_n 0, 1), (32, .bipush 100, 2), (34, .invokevirtual 277, 3), (37, .istore_n 3, 1), (38, .aload_n 0, 1), (39, .iload_n 1, 1), (40, .iload_n 2, 1), (41, .iload_n 3, 1), (42, .invokevirtual 220, 3), (45, .ifCond .eq 5, 3), (48, .iconst 0, 1), (49, .ireturn, 1), (50, .aload_n 0, 1), (51, .iload_n 1, 1), (52, .iload_n 2, 1), (53, .iload_n 3, 1), (54, .invokevirtual 224, 3), (57, .pop, 1), (58, .iconst 1, 1), (59, .ireturn, 1), (60, .aload_n 0, 1), (61, .getfield 9, 3), (64, .bipush 7, 2), (66, .iaload, 1), (67, .ifCond .ne 5, 3), (70, .iconst 0, 1), (71, .ireturn, 1), (72, .aload_n 0, 1), (73, .aload_n 0, 1), (74, .getfield 9, 3), (77, .bipush 7, 2), (79, .iaload, 1), (80, .invokevirtual 277, 3), (83, .istore_n 1, 1), (84, .aload_n 0, 1), (85, .iload_n 1, 1), (86, .aload_n 0, 1), (87, .iconst 2, 1), (88, .invokevirtual 277, 3), (91, .ifCond .ne 7, 3), (94, .iconst 1, 1), (95, .goto 4, 3), (98, .iconst 2, 1), (99, .invokevirtual 208, 3), (102, .istore_n 2, 1), (103, .aload_n 0, 1), (104, .iload_n 1, 1), (105, .i2l, 1), (106, .iload_n 2, 1), (107, .invokevirtual 253, 3), (110, .ifCond .eq 5, 3), (113, .iconst 0, 1), (114, .ireturn, 1), (115, .aload_n 0, 1), (116, .iload_n 1, 1), (117, .iload_n 2, 1), (118, .invokevirtual 250, 3), (121, .pop, 1), (122, .iconst 1, 1), (123, .ireturn, 1)]
theorem kX6_drawn_ok : ∀ q ∈ kX6_drawn, decode cX6_drawn q.1 = .ok q.2 := by decide +kernel
def kX6_day : List (Nat × Instr × Nat) := [(0, .aload_n 0, 1), (1, .iconst 0, 1), (2, .putfield 63, 3), (5, .iload_n 2, 1), (6, .i2l, 1), (7, .lconst 1, 1), (8, .ldc2_w 280, 3), (11, .invokestatic 122, 3), (14, .ifCond .ne 9, 3), (17, .aload_n 0, 1), (18, .iconst 1, 1), (19, .invokevirtual 170, 3), (22, .ireturn, 1), (23, .aload_n 0, 1), (24, .iload_n 1, 1), (25, .putfield 274, 3), (28, .iconst 0, 1), (29, .istore_n 3, 1), (30, .iconst 0, 1), (31, .istore 4, 2), (33, .iload 4, 2), (35, .iload_n 2, 1), (36, .if_icmp .ge 33, 3), (39, .aload_n 0, 1), (40, .getfield 9, 3), (43, .iconst 2, 1), (44, .iaload, 1), (45, .ifCond .le 24, 3), (48, .iload_n 3, 1), (49, .aload_n 0, 1), (50, .invokevirtual 282, 3), (53, .ifCond .eq 7, 3), (56, .iconst 1, 1), (57, .goto 4, 3), (60, .iconst 0, 1), (61, .iadd, 1), (62, .istore_n 3, 1), (63, .iinc 4 1, 3), (66, .goto (-33), 3), (69, .iload_n 3, 1), (70, .ireturn, 1)]
theorem kX6_day_ok : ∀ q ∈ kX6_day, decode cX6_day q.1 = .ok q.2 := by decide +kernel
def kX6_isOpen : List (Nat × Instr × Nat) := [(0, .aload_n 0, 1), (1, .iload_n 1, 1), (2, .iconst 4, 1), (3, .invokevirtual 208, 3), (6, .iconst 1, 1), (7, .if_icmp .ne 27, 3), (10, .aload_n 0, 1), (11, .aload_n 0, 1), (12, .iload_n 1, 1), (13, .iconst 0, 1), (14, .invokevirtual 208, 3), (17, .invokevirtual 200, 3), (20, .ifCond .ne 14, 3), (23, .aload_n 0, 1), (24, .invokevirtual 211, 3), (27, .ifCond .ne 7, 3), (30, .iconst 1, 1), (31, .goto 4, 3), (34, .iconst 0, 1), (35, .ireturn, 1)]
theorem kX6_isOpen_ok : ∀ q ∈ kX6_isOpen, decode cX6_isOpen q.1 = .ok q.2 := by decide +kernel
def kX6_openSet : List (Nat × Instr × Nat) := [(0, .iconst 0, 1), (1, .istore_n 1, 1), (2, .iconst 0, 1), (3, .istore_n 2, 1), (4, .iload_n 2, 1), (5, .aload_n 0, 1), (6, .getfield 9, 3), (9, .bipush 7, 2), (11, .iaload, 1), (12, .if_icmp .ge 27, 3), (15, .iload_n 1, 1), (16, .aload_n 0, 1), (17, .iload_n 2, 1), (18, .invokevirtual 285, 3), (21, .ifCond .eq 9, 3), (24, .iconst 1, 1), (25, .iload_n 2, 1), (26, .ishl, 1), (27, .goto 4, 3), (30, .iconst 0, 1), (31, .ior, 1), (32, .istore_n 1, 1), (33, .iinc 2 1, 3), (36, .goto (-32), 3), (39, .iload_n 1, 1), (40, .ireturn, 1)]
theorem kX6_openSet_ok : ∀ q ∈ kX6_openSet, decode cX6_openSet q.1 = .ok q.2 := by decide +kernel
def kX6_open : List (Nat × Instr × Nat) := [(0, .aload_n 0, 1), (1, .iconst 0, 1), (2, .putfield 63, 3), (5, .aload_n 0, 1), (6, .invokevirtual 288, 3), (9, .ireturn, 1)]
theorem kX6_open_ok : ∀ q ∈ kX6_open, decode cX6_open q.1 = .ok q.2 := by decide +kernel
def kX6_gainOf : List (Nat × Instr × Nat) := [(0, .aload_n 0, 1), (1, .getfield 9, 3), (4, .aload_n 0, 1), (5, .getfield 16, 3), (8, .invokestatic 179, 3), (11, .aload_n 0, 1), (12, .iload_n 2, 1), (13, .invokevirtual 191, 3), (16, .istore_n 3, 1), (17, .aload_n 0, 1), (18, .iload_n 1, 1), (19, .iload_n 2, 1), (20, .invokevirtual 250, 3), (23, .pop, 1), (24, .aload_n 0, 1), (25, .iload_n 2, 1), (26, .invokevirtual 191, 3), (29, .iload_n 3, 1), (30, .isub, 1), (31, .istore 4, 2), (33, .aload_n 0, 1), (34, .getfield 16, 3), (37, .aload_n 0, 1), (38, .getfield 9, 3), (41, .invokestatic 179, 3), (44, .iload 4, 2), (46, .ireturn, 1)]
theorem kX6_gainOf_ok : ∀ q ∈ kX6_gainOf, decode cX6_gainOf q.1 = .ok q.2 := by decide +kernel
def kX6_gain : List (Nat × Instr × Nat) := [(0, .aload_n 0, 1), (1, .aload_n 0, 1), (2, .iload_n 1, 1), (3, .i2l, 1), (4, .invokevirtual 230, 3), (7, .ifCond .eq 15, 3), (10, .aload_n 0, 1), (11, .iload_n 2, 1), (12, .invokevirtual 186, 3), (15, .ifCond .eq 7, 3), (18, .iconst 0, 1), (19, .goto 4, 3), (22, .iconst 1, 1), (23, .putfield 63, 3), (26, .aload_n 0, 1), (27, .getfield 63, 3), (30, .ifCond .le 5, 3), (33, .iconst 0, 1), (34, .ireturn, 1), (35, .aload_n 0, 1), (36, .iload_n 1, 1), (37, .invokevirtual 285, 3), (40, .ifCond .eq 21, 3), (43, .aload_n 0, 1), (44, .iload_n 1, 1), (45, .iload_n 2, 1), (46, .invokevirtual 246, 3), (49, .ifCond .eq 12, 3), (52, .aload_n 0, 1), (53, .iload_n 1, 1), (54, .iload_n 2, 1), (55, .invokevirtual 291, 3), (58, .goto 4, 3), (61, .iconst (-1), 1), (62, .ireturn, 1)]
theorem kX6_gain_ok : ∀ q ∈ kX6_gain, decode cX6_gain q.1 = .ok q.2 := by decide +kernel
def kX6_pledgeOf : List (Nat × Instr × Nat) := [(0, .iconst 0, 1), (1, .aload_n 0, 1), (2, .iload_n 1, 1), (3, .aload_n 0, 1), (4, .iload_n 1, 1), (5, .iconst 1, 1), (6, .invokevirtual 208, 3), (9, .invokevirtual 291, 3), (12, .aload_n 0, 1), (13, .iload_n 1, 1), (14, .aload_n 0, 1), (15, .iload_n 1, 1), (16, .iconst 2, 1), (17, .invokevirtual 208, 3), (20, .invokevirtual 291, 3), (23, .invokestatic 227, 3), (26, .invokestatic 227, 3), (29, .ireturn, 1)]
theorem kX6_pledgeOf_ok : ∀ q ∈ kX6_pledgeOf, decode cX6_pledgeOf q.1 = .ok q.2 := by decide +kernel
def kX6_safe : List (Nat × Instr × Nat) := [(0, .aload_n 0, 1), (1, .iconst 0, 1), (2, .putfield 63, 3), (5, .iconst 0, 1), (6, .istore_n 1, 1), (7, .iconst 0, 1), (8, .istore_n 2, 1), (9, .iload_n 2, 1), (10, .aload_n 0, 1), (11, .getfield 9, 3), (14, .bipush 7, 2), (16, .iaload, 1), (17, .if_icmp .ge 35, 3), (20, .iload_n 1, 1), (21, .aload_n 0, 1), (22, .iload_n 2, 1), (23, .invokevirtual 285, 3), (26, .ifCond .eq 17, 3), (29, .aload_n 0, 1), (30, .iload_n 2, 1), (31, .invokevirtual 294, 3), (34, .ifCond .ne 9, 3), (37, .iconst 1, 1), (38, .iload_n 2, 1), (39, .ishl, 1), (40, .goto 4, 3), (43, .iconst 0, 1), (44, .ior, 1), (45, .istore_n 1, 1), (46, .iinc 2 1, 3), (49, .goto (-40), 3), (52, .iload_n 1, 1), (53, .ireturn, 1)]
theorem kX6_safe_ok : ∀ q ∈ kX6_safe, decode cX6_safe q.1 = .ok q.2 := by decide +kernel
def kX6_pledge : List (Nat × Instr × Nat) := [(0, .aload_n 0, 1), (1, .iconst 0, 1), (2, .putfield 63, 3), (5, .aload_n 0, 1), (6, .iload_n 1, 1), (7, .i2l, 1), (8, .invokevirtual 230, 3), (11, .ifCond .ne 9, 3), (14, .aload_n 0, 1), (15, .iconst 1, 1), (16, .invokevirtual 170, 3), (19, .ireturn, 1), (20, .aload_n 0, 1), (21, .iload_n 1, 1), (22, .invokevirtual 285, 3), (25, .ifCond .eq 11, 3), (28, .aload_n 0, 1), (29, .iload_n 1, 1), (30, .invokevirtual 294, 3), (33, .goto 4, 3), (36, .iconst 0, 1), (37, .ireturn, 1)]
theorem kX6_pledge_ok : ∀ q ∈ kX6_pledge, decode cX6_pledge q.1 = .ok q.2 := by decide +kernel
def kX6_isTempted : List (Nat × Instr × Nat) := [(0, .aload_n 0, 1), (1, .iload_n 1, 1), (2, .invokevirtual 285, 3), (5, .ifCond .eq 25, 3), (8, .aload_n 0, 1), (9, .iload_n 1, 1), (10, .iload_n 2, 1), (11, .invokevirtual 246, 3), (14, .ifCond .eq 16, 3), (17, .aload_n 0, 1), (18, .iload_n 1, 1), (19, .iload_n 2, 1), (20, .invokevirtual 291, 3), (23, .ifCond .le 7, 3), (26, .iconst 1, 1), (27, .goto 4, 3), (30, .iconst 0, 1), (31, .ireturn, 1)]
theorem kX6_isTempted_ok : ∀ q ∈ kX6_isTempted, decode cX6_isTempted q.1 = .ok q.2 := by decide +kernel
def kX6_tempted : List (Nat × Instr × Nat) := [(0, .aload_n 0, 1), (1, .iconst 0, 1), (2, .putfield 63, 3), (5, .iconst 0, 1), (6, .istore_n 1, 1), (7, .iconst 0, 1), (8, .istore_n 2, 1), (9, .iload_n 2, 1), (10, .aload_n 0, 1), (11, .getfield 9, 3), (14, .iconst 1, 1), (15, .iaload, 1), (16, .if_icmp .ge 47, 3), (19, .iconst 0, 1), (20, .istore_n 3, 1), (21, .iload_n 3, 1), (22, .aload_n 0, 1), (23, .getfield 9, 3), (26, .bipush 7, 2), (28, .iaload, 1), (29, .if_icmp .ge 28, 3), (32, .iload_n 1, 1), (33, .aload_n 0, 1), (34, .iload_n 3, 1), (35, .iload_n 2, 1), (36, .invokevirtual 297, 3), (39, .ifCond .eq 9, 3), (42, .iconst 1, 1), (43, .iload_n 2, 1), (44, .ishl, 1), (45, .goto 4, 3), (48, .iconst 0, 1), (49, .ior, 1), (50, .istore_n 1, 1), (51, .iinc 3 1, 3), (54, .goto (-33), 3), (57, .iinc 2 1, 3), (60, .goto (-51), 3), (63, .iload_n 1, 1), (64, .ireturn, 1)]
theorem kX6_tempted_ok : ∀ q ∈ kX6_tempted, decode cX6_tempted q.1 = .ok q.2 := by decide +kernel
def kX6_unravel : List (Nat × Instr × Nat) := [(0, .aload_n 0, 1), (1, .iconst 0, 1), (2, .putfield 63, 3), (5, .iconst 0, 1), (6, .istore_n 1, 1), (7, .iconst (-1), 1), (8, .istore_n 2, 1), (9, .iconst (-1), 1), (10, .istore_n 3, 1), (11, .iconst 0, 1), (12, .istore 4, 2), (14, .iconst 0, 1), (15, .istore 5, 2), (17, .iload 5, 2), (19, .aload_n 0, 1), (20, .getfield 9, 3), (23, .bipush 7, 2), (25, .iaload, 1), (26, .if_icmp .ge 89, 3), (29, .iconst 1, 1), (30, .istore 6, 2), (32, .iload 6, 2), (34, .iconst 2, 1), (35, .if_icmp .gt 74, 3), (38, .aload_n 0, 1), (39, .iload 5, 2), (41, .iload 6, 2), (43, .invokevirtual 208, 3), (46, .istore 7, 2), (48, .aload_n 0, 1), (49, .iload 5, 2), (51, .iload 7, 2), (53, .invokevirtual 297, 3), (56, .ifCond .eq 47, 3), (59, .aload_n 0, 1), (60, .iload 5, 2), (62, .i2l, 1), (63, .iload 7, 2), (65, .invokevirtual 253, 3), (68, .ifCond .ne 35, 3), (71, .aload_n 0, 1), (72, .iload 5, 2), (74, .iload 7, 2), (76, .invokevirtual 291, 3), (79, .iload 4, 2), (81, .if_icmp .gt 6, 3), (84, .goto 19, 3), (87, .aload_n 0, 1), (88, .iload 5, 2), (90, .iload 7, 2), (92, .invokevirtual 291, 3), (95, .istore 4, 2), (97, .iload 5, 2), (99, .istore_n 2, 1), (100, .iload 7, 2), (102, .istore_n 3, 1), (103, .iinc 6 1, 3), (106, .goto (-74), 3), (109, .iinc 5 1, 3), (112, .goto (-95), 3), (115, .iload_n 2, 1), (116, .iconst (-1), 1), (117, .if_icmp .ne 5, 3), (120, .iload_n 1, 1), (121, .ireturn, 1), (122, .aload_n 0, 1), (123, .iload_n 2, 1), (124, .iload_n 3, 1), (125, .invokevirtual 250, 3), (128, .pop, 1), (129, .iinc 1 1, 3), (132, .goto (-125), 3)]
theorem kX6_unravel_ok : ∀ q ∈ kX6_unravel, decode cX6_unravel q.1 = .ok q.2 := by decide +kernel
def kX6_debt : List (Nat × Instr × Nat) := [(0, .aload_n 0, 1), (1, .aload_n 0, 1), (2, .iload_n 1, 1), (3, .invokevirtual 186, 3), (6, .ifCond .ne 7, 3), (9, .iconst 1, 1), (10, .goto 18, 3), (13, .iload_n 2, 1), (14, .i2l, 1), (15, .lconst 0, 1), (16, .lconst 1, 1), (17, .invokestatic 122, 3), (20, .ifCond .eq 7, 3), (23, .iconst 0, 1), (24, .goto 4, 3), (27, .iconst 2, 1), (28, .putfield 63, 3), (31, .aload_n 0, 1), (32, .getfield 63, 3), (35, .ifCond .le 5, 3), (38, .iconst 0, 1), (39, .ireturn, 1), (40, .iconst 0, 1), (41, .istore_n 3, 1), (42, .iconst (-1), 1), (43, .istore 4, 2), (45, .iconst 0, 1), (46, .istore 5, 2), (48, .iload 5, 2), (50, .aload_n 0, 1), (51, .getfield 9, 3), (54, .bipush 7, 2), (56, .iaload, 1), (57, .if_icmp .ge 94, 3), (60, .aload_n 0, 1), (61, .iload 5, 2), (63, .invokevirtual 285, 3), (66, .ifCond .eq 79, 3), (69, .aload_n 0, 1), (70, .iload 5, 2), (72, .iload_n 1, 1), (73, .invokevirtual 246, 3), (76, .ifCond .ne 6, 3), (79, .goto 66, 3), (82, .iconst 0, 1), (83, .istore 6, 2), (85, .iconst 0, 1), (86, .istore 7, 2), (88, .iload 7, 2), (90, .aload_n 0, 1), (91, .getfield 9, 3), (94, .iconst 1, 1), (95, .iaload, 1), (96, .if_icmp .ge 27, 3), (99, .iload 6, 2), (101, .aload_n 0, 1), (102, .aload_n 0, 1), (103, .iload 5, 2), (105, .invokevirtual 240, 3), (108, .iload_n 1, 1), (109, .iload 7, 2), (111, .invokevirtual 243, 3), (114, .iadd, 1), (115, .istore 6, 2), (117, .iinc 7 1, 3), (120, .goto (-32), 3), (123, .iload 4, 2), (125, .iconst (-1), 1), (126, .if_icmp .eq 12, 3), (129, .iload 6, 2), (131, .iload_n 3, 1), (132, .if_icmp .gt 6, 3), (135, .goto 10, 3), (138, .iload 5, 2), (140, .istore 4, 2), (142, .iload 6, 2), (144, .istore_n 3, 1), (145, .iinc 5 1, 3), (148, .goto (-100), 3), (151, .iload_n 2, 1), (152, .ifCond .ne 7, 3), (155, .iload_n 3, 1), (156, .goto 5, 3), (159, .iload 4, 2), (161, .ireturn, 1)]
theorem kX6_debt_ok : ∀ q ∈ kX6_debt, decode cX6_debt q.1 = .ok q.2 := by decide +kernel
def kX6_isSafePrice : List (Nat × Instr × Nat) := [(0, .aload_n 0, 1), (1, .iload_n 1, 1), (2, .iload_n 2, 1), (3, .invokevirtual 183, 3), (6, .iload 4, 2), (8, .isub, 1), (9, .aload_n 0, 1), (10, .getfield 9, 3), (13, .iconst 4, 1), (14, .iaload, 1), (15, .iconst 0, 1), (16, .aload_n 0, 1), (17, .iload_n 1, 1), (18, .iload_n 3, 1), (19, .invokevirtual 183, 3), (22, .iload 4, 2), (24, .isub, 1), (25, .invokestatic 227, 3), (28, .imul, 1), (29, .bipush 100, 2), (31, .idiv, 1), (32, .isub, 1), (33, .istore 5, 2), (35, .iload 4, 2), (37, .aload_n 0, 1), (38, .iload_n 1, 1), (39, .iload_n 3, 1), (40, .invokevirtual 183, 3), (43, .isub, 1), (44, .aload_n 0, 1), (45, .getfield 9, 3), (48, .iconst 4, 1), (49, .iaload, 1), (50, .iconst 0, 1), (51, .iload 4, 2), (53, .aload_n 0, 1), (54, .iload_n 1, 1), (55, .iload_n 2, 1), (56, .invokevirtual 183, 3), (59, .isub, 1), (60, .invokestatic 227, 3), (63, .imul, 1), (64, .bipush 100, 2), (66, .idiv, 1), (67, .isub, 1), (68, .istore 6, 2), (70, .iload 5, 2), (72, .ifCond .gt 12, 3), (75, .iload 6, 2), (77, .ifCond .gt 7, 3), (80, .iconst 1, 1), (81, .goto 4, 3), (84, .iconst 0, 1), (85, .ireturn, 1)]
theorem kX6_isSafePrice_ok : ∀ q ∈ kX6_isSafePrice, decode cX6_isSafePrice q.1 = .ok q.2 := by decide +kernel
def kX6_safePrice : List (Nat × Instr × Nat) := [(0, .aload_n 0, 1), (1, .aload_n 0, 1), (2, .iload_n 1, 1), (3, .invokevirtual 197, 3), (6, .ifCond .eq 11, 3), (9, .aload_n 0, 1), (10, .iload_n 2, 1), (11, .invokevirtual 186, 3), (14, .ifCond .ne 7, 3), (17, .iconst 1, 1), (18, .goto 35, 3), (21, .aload_n 0, 1), (22, .getfield 9, 3), (25, .bipush 14, 2), (27, .iload_n 1, 1), (28, .iadd, 1), (29, .iaload, 1), (30, .iload_n 2, 1), (31, .if_icmp .ne 7, 3), (34, .iconst 2, 1), (35, .goto 18, 3), (38, .iload_n 3, 1), (39, .i2l, 1), (40, .lconst 0, 1), (41, .lconst 1, 1), (42, .invokestatic 122, 3), (45, .ifCond .eq 7, 3), (48, .iconst 0, 1), (49, .goto 4, 3), (52, .iconst 3, 1), (53, .putfield 63, 3), (56, .aload_n 0, 1), (57, .getfield 63, 3), (60, .ifCond .le 5, 3), (63, .iconst 0, 1), (64, .ireturn, 1), (65, .iconst (-1), 1), (66, .istore 4, 2), (68, .iconst (-1), 1), (69, .istore 5, 2), (71, .iconst 0, 1), (72, .istore 6, 2), (74, .iload 6, 2), (76, .sipush 999, 3), (79, .if_icmp .gt 51, 3), (82, .aload_n 0, 1), (83, .iload_n 1, 1), (84, .aload_n 0, 1), (85, .getfield 9, 3), (88, .bipush 14, 2), (90, .iload_n 1, 1), (91, .iadd, 1), (92, .iaload, 1), (93, .iload_n 2, 1), (94, .iload 6, 2), (96, .invokevirtual 300, 3), (99, .ifCond .ne 6, 3), (102, .goto 22, 3), (105, .iload 4, 2), (107, .iconst (-1), 1), (108, .if_icmp .ne 8, 3), (111, .iload 6, 2), (113, .goto 5, 3), (116, .iload 4, 2), (118, .istore 4, 2), (120, .iload 6, 2), (122, .istore 5, 2), (124, .iinc 6 1, 3), (127, .goto (-53), 3), (130, .iload_n 3, 1), (131, .ifCond .ne 8, 3), (134, .iload 4, 2), (136, .goto 5, 3), (139, .iload 5, 2), (141, .ireturn, 1)]
theorem kX6_safePrice_ok : ∀ q ∈ kX6_safePrice, decode cX6_safePrice q.1 = .ok q.2 := by decide +kernel
def kX6_longest : List (Nat × Instr × Nat) := [(0, .aload_n 0, 1), (1, .iconst 0, 1), (2, .putfield 63, 3), (5, .iconst (-1), 1), (6, .istore_n 1, 1), (7, .iconst 0, 1), (8, .istore_n 2, 1), (9, .iconst 0, 1), (10, .istore_n 3, 1), (11, .iload_n 3, 1), (12, .aload_n 0, 1), (13, .getfield 9, 3), (16, .iconst 2, 1), (17, .iaload, 1), (18, .if_icmp .ge 74, 3), (21, .iconst 0, 1), (22, .istore 4, 2), (24, .iconst 0, 1), (25, .istore 5, 2), (27, .iload 5, 2), (29, .aload_n 0, 1), (30, .getfield 9, 3), (33, .bipush 7, 2), (35, .iaload, 1), (36, .if_icmp .ge 36, 3), (39, .iload 4, 2), (41, .aload_n 0, 1), (42, .iload 5, 2), (44, .iconst 0, 1), (45, .invokevirtual 208, 3), (48, .iload_n 3, 1), (49, .if_icmp .ne 13, 3), (52, .aload_n 0, 1), (53, .iload 5, 2), (55, .iconst 4, 1), (56, .invokevirtual 208, 3), (59, .goto 4, 3), (62, .iconst 0, 1), (63, .iadd, 1), (64, .istore 4, 2), (66, .iinc 5 1, 3), (69, .goto (-42), 3), (72, .iload 4, 2), (74, .iload_n 2, 1), (75, .if_icmp .gt 6, 3), (78, .goto 8, 3), (81, .iload_n 3, 1), (82, .istore_n 1, 1), (83, .iload 4, 2), (85, .istore_n 2, 1), (86, .iinc 3 1, 3), (89, .goto (-78), 3), (92, .iload_n 1, 1), (93, .ireturn, 1)]
theorem kX6_longest_ok : ∀ q ∈ kX6_longest, decode cX6_longest q.1 = .ok q.2 := by decide +kernel
def kX6_bidder : List (Nat × Instr × Nat) := [(0, .aload_n 0, 1), (1, .iconst 0, 1), (2, .putfield 63, 3), (5, .aload_n 0, 1), (6, .iload_n 1, 1), (7, .invokevirtual 197, 3), (10, .ifCond .ne 9, 3), (13, .aload_n 0, 1), (14, .iconst 1, 1), (15, .invokevirtual 170, 3), (18, .ireturn, 1), (19, .iconst (-1), 1), (20, .istore_n 2, 1), (21, .iconst 0, 1), (22, .istore_n 3, 1), (23, .iload_n 3, 1), (24, .aload_n 0, 1), (25, .getfield 9, 3), (28, .iconst 1, 1), (29, .iaload, 1), (30, .if_icmp .ge 65, 3), (33, .aload_n 0, 1), (34, .getfield 9, 3), (37, .bipush 14, 2), (39, .iload_n 1, 1), (40, .iadd, 1), (41, .iaload, 1), (42, .iload_n 3, 1), (43, .if_icmp .eq 46, 3), (46, .aload_n 0, 1), (47, .getfield 9, 3), (50, .bipush 8, 2), (52, .iload_n 3, 1), (53, .iadd, 1), (54, .iaload, 1), (55, .aload_n 0, 1), (56, .iload_n 1, 1), (57, .iload_n 3, 1), (58, .invokevirtual 183, 3), (61, .if_icmp .ge 6, 3), (64, .goto 25, 3), (67, .iload_n 2, 1), (68, .iconst (-1), 1), (69, .if_icmp .eq 18, 3), (72, .aload_n 0, 1), (73, .iload_n 1, 1), (74, .iload_n 3, 1), (75, .invokevirtual 183, 3), (78, .aload_n 0, 1), (79, .iload_n 1, 1), (80, .iload_n 2, 1), (81, .invokevirtual 183, 3), (84, .if_icmp .le 5, 3), (87, .iload_n 3, 1), (88, .istore_n 2, 1), (89, .iinc 3 1, 3), (92, .goto (-69), 3), (95, .iload_n 2, 1), (96, .ireturn, 1)]
theorem kX6_bidder_ok : ∀ q ∈ kX6_bidder, decode cX6_bidder q.1 = .ok q.2 := by decide +kernel
def kX6_seat : List (Nat × Instr × Nat) := [(0, .iload_n 1, 1), (1, .sipush 1024, 3), (4, .imul, 1), (5, .iload_n 2, 1), (6, .iadd, 1), (7, .bipush 6, 2), (9, .imul, 1), (10, .iload_n 3, 1), (11, .iadd, 1), (12, .ireturn, 1)]
theorem kX6_seat_ok : ∀ q ∈ kX6_seat, decode cX6_seat q.1 = .ok q.2 := by decide +kernel
def kX6_fallIn : List (Nat × Instr × Nat) := [(0, .iconst 0, 1), (1, .istore_n 3, 1), (2, .iload_n 2, 1), (3, .istore 4, 2), (5, .iload 4, 2), (7, .aload_n 0, 1), (8, .getfield 304, 3), (11, .if_icmp .ge 56, 3), (14, .iload_n 3, 1), (15, .iload_n 1, 1), (16, .iload 4, 2), (18, .ishr, 1), (19, .iconst 1, 1), (20, .iand, 1), (21, .iconst 1, 1), (22, .if_icmp .ne 36, 3), (25, .aload_n 0, 1), (26, .aload_n 0, 1), (27, .getfield 36, 3), (30, .iload 4, 2), (32, .iaload, 1), (33, .iconst 0, 1), (34, .invokevirtual 208, 3), (37, .aload_n 0, 1), (38, .aload_n 0, 1), (39, .getfield 36, 3), (42, .iload_n 2, 1), (43, .iaload, 1), (44, .iconst 0, 1), (45, .invokevirtual 208, 3), (48, .if_icmp .ne 10, 3), (51, .iconst 1, 1), (52, .iload 4, 2), (54, .ishl, 1), (55, .goto 4, 3), (58, .iconst 0, 1), (59, .ior, 1), (60, .istore_n 3, 1), (61, .iinc 4 1, 3), (64, .goto (-59), 3), (67, .iload_n 3, 1), (68, .ireturn, 1)]
theorem kX6_fallIn_ok : ∀ q ∈ kX6_fallIn, decode cX6_fallIn q.1 = .ok q.2 := by decide +kernel
def kX6_laysUndoing : List (Nat × Instr × Nat) := [(0, .iconst 0, 1), (1, .istore 4, 2), (3, .iload 4, 2), (5, .bipush 6, 2), (7, .if_icmp .ge 17, 3), (10, .aload_n 0, 1), (11, .getfield 46, 3), (14, .iload 4, 2), (16, .iconst 0, 1), (17, .iastore, 1), (18, .iinc 4 1, 3), (21, .goto (-18), 3), (24, .aload_n 0, 1), (25, .iload_n 1, 1), (26, .iload_n 2, 1), (27, .invokevirtual 307, 3), (30, .istore 4, 2), (32, .iconst 0, 1), (33, .istore 5, 2), (35, .iload_n 2, 1), (36, .istore 6, 2), (38, .iload_n 2, 1), (39, .istore 7, 2), (41, .iload 7, 2), (43, .aload_n 0, 1), (44, .getfield 304, 3), (47, .if_icmp .ge 104, 3), (50, .iload 4, 2), (52, .iload 7, 2), (54, .ishr, 1), (55, .iconst 1, 1), (56, .iand, 1), (57, .ifCond .ne 6, 3), (60, .goto 85, 3), (63, .iload 5, 2), (65, .iconst 1, 1), (66, .aload_n 0, 1), (67, .getfield 36, 3), (70, .iload 7, 2), (72, .iaload, 1), (73, .ishl, 1), (74, .ior, 1), (75, .istore 5, 2), (77, .aload_n 0, 1), (78, .getfield 46, 3), (81, .aload_n 0, 1), (82, .aload_n 0, 1), (83, .getfield 36, 3), (86, .iload 7, 2), (88, .iaload, 1), (89, .iconst 1, 1), (90, .invokevirtual 208, 3), (93, .dup2, 1), (94, .iaload, 1), (95, .aload_n 0, 1), (96, .aload_n 0, 1), (97, .getfield 36, 3), (100, .iload 7, 2), (102, .iaload, 1), (103, .iconst 3, 1), (104, .invokevirtual 208, 3), (107, .isub, 1), (108, .iastore, 1), (109, .aload_n 0, 1), (110, .getfield 46, 3), (113, .aload_n 0, 1), (114, .aload_n 0, 1), (115, .getfield 36, 3), (118, .iload 7, 2), (120, .iaload, 1), (121, .iconst 2, 1), (122, .invokevirtual 208, 3), (125, .dup2, 1), (126, .iaload, 1), (127, .aload_n 0, 1), (128, .aload_n 0, 1), (129, .getfield 36, 3), (132, .iload 7, 2), (134, .iaload, 1), (135, .iconst 3, 1), (136, .invokevirtual 208, 3), (139, .iadd, 1), (140, .iastore, 1), (141, .iload 7, 2), (143, .istore 6, 2), (145, .iinc 7 1, 3), (148, .goto (-107), 3), (151, .iconst 0, 1), (152, .istore 7, 2), (154, .iload 7, 2), (156, .aload_n 0, 1), (157, .getfield 9, 3), (160, .iconst 1, 1), (161, .iaload, 1), (162, .if_icmp .ge 43, 3), (165, .aload_n 0, 1), (166, .iload 5, 2), (168, .iload_n 3, 1), (169, .iload 7, 2), (171, .invokevirtual 243, 3), (174, .istore 8, 2), (176, .aload_n 0, 1), (177, .getfield 46, 3), (180, .iload 7, 2), (182, .dup2, 1), (183, .iaload, 1), (184, .iload 8, 2), (186, .iadd, 1), (187, .iastore, 1), (188, .aload_n 0, 1), (189, .getfield 46, 3), (192, .iload_n 3, 1), (193, .dup2, 1), (194, .iaload, 1), (195, .iload 8, 2), (197, .isub, 1), (198, .iastore, 1), (199, .iinc 7 1, 3), (202, .goto (-48), 3), (205, .aload_n 0, 1), (206, .aload_n 0, 1), (207, .getfield 36, 3), (210, .iload_n 2, 1), (211, .iaload, 1), (212, .iconst 0, 1), (213, .invokevirtual 208, 3), (216, .istore 7, 2), (218, .aload_n 0, 1), (219, .aload_n 0, 1), (220, .getfield 36, 3), (223, .iload 6, 2), (225, .iaload, 1), (226, .iconst 2, 1), (227, .invokevirtual 208, 3), (230, .istore 8, 2), (232, .aload_n 0, 1), (233, .aload_n 0, 1), (234, .getfield 36, 3), (237, .iload_n 2, 1), (238, .iaload, 1), (239, .iconst 1, 1), (240, .invokevirtual 208, 3), (243, .istore 9, 2), (245, .aload_n 0, 1), (246, .getfield 46, 3), (249, .iload 8, 2), (251, .dup2, 1), (252, .iaload, 1), (253, .aload_n 0, 1), (254, .iload 7, 2), (256, .iload 8, 2), (258, .invokevirtual 183, 3), (261, .isub, 1), (262, .iastore, 1), (263, .aload_n 0, 1), (264, .getfield 46, 3), (267, .iload 9, 2), (269, .dup2, 1), (270, .iaload, 1), (271, .aload_n 0, 1), (272, .iload 7, 2), (274, .iload 9, 2), (276, .invokevirtual 183, 3), (279, .iadd, 1), (280, .iastore, 1), (281, .return_, 1)]
theorem kX6_laysUndoing_ok : ∀ q ∈ kX6_laysUndoing, decode cX6_laysUndoing q.1 = .ok q.2 := by decide +kernel
def kX6_laysTurn : List (Nat × Instr × Nat) := [(0, .aload_n 0, 1), (1, .getfield 313, 3), (4, .iload_n 1, 1), (5, .iadd, 1), (6, .aload_n 0, 1), (7, .getfield 9, 3), (10, .iconst 1, 1), (11, .iaload, 1), (12, .irem, 1), (13, .istore_n 3, 1), (14, .aload_n 0, 1), (15, .getfield 43, 3), (18, .iload_n 1, 1), (19, .sipush 1024, 3), (22, .imul, 1), (23, .iload_n 2, 1), (24, .iadd, 1), (25, .iconst (-1), 1), (26, .iastore, 1), (27, .iconst 0, 1), (28, .istore 4, 2), (30, .iload 4, 2), (32, .bipush 6, 2), (34, .if_icmp .ge 37, 3), (37, .aload_n 0, 1), (38, .getfield 40, 3), (41, .aload_n 0, 1), (42, .iload_n 1, 1), (43, .iload_n 2, 1), (44, .iload 4, 2), (46, .invokevirtual 319, 3), (49, .aload_n 0, 1), (50, .getfield 40, 3), (53, .aload_n 0, 1), (54, .iload_n 1, 1), (55, .iconst 1, 1), (56, .iadd, 1), (57, .iload_n 2, 1), (58, .iload 4, 2), (60, .invokevirtual 319, 3), (63, .iaload, 1), (64, .iastore, 1), (65, .iinc 4 1, 3), (68, .goto (-38), 3), (71, .iconst 0, 1), (72, .istore 4, 2), (74, .iload 4, 2), (76, .aload_n 0, 1), (77, .getfield 304, 3), (80, .if_icmp .ge 164, 3), (83, .iload_n 2, 1), (84, .iload 4, 2), (86, .ishr, 1), (87, .iconst 1, 1), (88, .iand, 1), (89, .ifCond .eq 149, 3), (92, .aload_n 0, 1), (93, .aload_n 0, 1), (94, .getfield 36, 3), (97, .iload 4, 2), (99, .iaload, 1), (100, .iload_n 3, 1), (101, .invokevirtual 246, 3), (104, .ifCond .ne 6, 3), (107, .goto 131, 3), (110, .aload_n 0, 1), (111, .iload_n 2, 1), (112, .iload 4, 2), (114, .iload_n 3, 1), (115, .invokevirtual 326, 3), (118, .iload_n 2, 1), (119, .aload_n 0, 1), (120, .iload_n 2, 1), (121, .iload 4, 2), (123, .invokevirtual 307, 3), (126, .iconst (-1), 1), (127, .ixor, 1), (128, .iand, 1), (129, .istore 5, 2), (131, .aload_n 0, 1), (132, .getfield 46, 3), (135, .iload_n 3, 1), (136, .iaload, 1), (137, .aload_n 0, 1), (138, .getfield 40, 3), (141, .aload_n 0, 1), (142, .iload_n 1, 1), (143, .iconst 1, 1), (144, .iadd, 1), (145, .iload 5, 2), (147, .iload_n 3, 1), (148, .invokevirtual 319, 3), (151, .iaload, 1), (152, .iadd, 1), (153, .aload_n 0, 1), (154, .getfield 40, 3), (157, .aload_n 0, 1), (158, .iload_n 1, 1), (159, .iload_n 2, 1), (160, .iload_n 3, 1), (161, .invokevirtual 319, 3), (164, .iaload, 1), (165, .if_icmp .gt 6, 3), (168, .goto 70, 3), (171, .aload_n 0, 1), (172, .getfield 43, 3), (175, .iload_n 1, 1), (176, .sipush 1024, 3), (179, .imul, 1), (180, .iload_n 2, 1), (181, .iadd, 1), (182, .iload 4, 2), (184, .iastore, 1), (185, .iconst 0, 1), (186, .istore 6, 2), (188, .iload 6, 2), (190, .bipush 6, 2), (192, .if_icmp .ge 46, 3), (195, .aload_n 0, 1), (196, .getfield 40, 3), (199, .aload_n 0, 1), (200, .iload_n 1, 1), (201, .iload_n 2, 1), (202, .iload 6, 2), (204, .invokevirtual 319, 3), (207, .aload_n 0, 1), (208, .getfield 46, 3), (211, .iload 6, 2), (213, .iaload, 1), (214, .aload_n 0, 1), (215, .getfield 40, 3), (218, .aload_n 0, 1), (219, .iload_n 1, 1), (220, .iconst 1, 1), (221, .iadd, 1), (222, .iload 5, 2), (224, .iload 6, 2), (226, .invokevirtual 319, 3), (229, .iaload, 1), (230, .iadd, 1), (231, .iastore, 1), (232, .iinc 6 1, 3), (235, .goto (-47), 3), (238, .iinc 4 1, 3), (241, .goto (-167), 3), (244, .return_, 1)]
theorem kX6_laysTurn_ok : ∀ q ∈ kX6_laysTurn, decode cX6_laysTurn q.1 = .ok q.2 := by decide +kernel
def kX6_laysFrom : List (Nat × Instr × Nat) := [(0, .aload_n 0, 1), (1, .iload_n 2, 1), (2, .putfield 313, 3), (5, .aload_n 0, 1), (6, .iconst 0, 1), (7, .putfield 304, 3), (10, .iconst 0, 1), (11, .istore_n 3, 1), (12, .iload_n 3, 1), (13, .aload_n 0, 1), (14, .getfield 9, 3), (17, .bipush 7, 2), (19, .iaload, 1), (20, .if_icmp .ge 51, 3), (23, .aload_n 0, 1), (24, .iload_n 3, 1), (25, .invokevirtual 285, 3), (28, .ifCond .ne 6, 3), (31, .goto 34, 3), (34, .aload_n 0, 1), (35, .getfield 304, 3), (38, .bipush 10, 2), (40, .if_icmp .ne 5, 3), (43, .iconst 0, 1), (44, .ireturn, 1), (45, .aload_n 0, 1), (46, .getfield 36, 3), (49, .aload_n 0, 1), (50, .getfield 304, 3), (53, .iload_n 3, 1), (54, .iastore, 1), (55, .aload_n 0, 1), (56, .dup, 1), (57, .getfield 304, 3), (60, .iconst 1, 1), (61, .iadd, 1), (62, .putfield 304, 3), (65, .iinc 3 1, 3), (68, .goto (-56), 3), (71, .aload_n 0, 1), (72, .iload_n 1, 1), (73, .aload_n 0, 1), (74, .getfield 9, 3), (77, .iconst 1, 1), (78, .iaload, 1), (79, .imul, 1), (80, .putfield 316, 3), (83, .iconst 0, 1), (84, .istore_n 3, 1), (85, .iload_n 3, 1), (86, .iconst 1, 1), (87, .aload_n 0, 1), (88, .getfield 304, 3), (91, .ishl, 1), (92, .if_icmp .ge 42, 3), (95, .iconst 0, 1), (96, .istore 4, 2), (98, .iload 4, 2), (100, .bipush 6, 2), (102, .if_icmp .ge 26, 3), (105, .aload_n 0, 1), (106, .getfield 40, 3), (109, .aload_n 0, 1), (110, .aload_n 0, 1), (111, .getfield 316, 3), (114, .iload_n 3, 1), (115, .iload 4, 2), (117, .invokevirtual 319, 3), (120, .iconst 0, 1), (121, .iastore, 1), (122, .iinc 4 1, 3), (125, .goto (-27), 3), (128, .iinc 3 1, 3), (131, .goto (-46), 3), (134, .aload_n 0, 1), (135, .getfield 316, 3), (138, .iconst 1, 1), (139, .isub, 1), (140, .istore_n 3, 1), (141, .iload_n 3, 1), (142, .ifCond .lt 36, 3), (145, .iconst 0, 1), (146, .istore 4, 2), (148, .iload 4, 2), (150, .iconst 1, 1), (151, .aload_n 0, 1), (152, .getfield 304, 3), (155, .ishl, 1), (156, .if_icmp .ge 16, 3), (159, .aload_n 0, 1), (160, .iload_n 3, 1), (161, .iload 4, 2), (163, .invokevirtual 322, 3), (166, .iinc 4 1, 3), (169, .goto (-21), 3), (172, .iinc 3 (-1), 3), (175, .goto (-34), 3), (178, .iconst 1, 1), (179, .ireturn, 1)]
theorem kX6_laysFrom_ok : ∀ q ∈ kX6_laysFrom, decode cX6_laysFrom q.1 = .ok q.2 := by decide +kernel
def kX6_laysEnd : List (Nat × Instr × Nat) := [(0, .aload_n 0, 1), (1, .iload_n 1, 1), (2, .iconst 0, 1), (3, .invokevirtual 310, 3), (6, .ireturn, 1)]
theorem kX6_laysEnd_ok : ∀ q ∈ kX6_laysEnd, decode cX6_laysEnd q.1 = .ok q.2 := by decide +kernel
def kX6_full : List (Nat × Instr × Nat) := [(0, .iconst 1, 1), (1, .aload_n 0, 1), (2, .getfield 304, 3), (5, .ishl, 1), (6, .iconst 1, 1), (7, .isub, 1), (8, .ireturn, 1)]
theorem kX6_full_ok : ∀ q ∈ kX6_full, decode cX6_full q.1 = .ok q.2 := by decide +kernel
def kX6_setBehind : List (Nat × Instr × Nat) := [(0, .aload_n 0, 1), (1, .invokevirtual 330, 3), (4, .istore_n 2, 1), (5, .iconst 0, 1), (6, .istore_n 3, 1), (7, .iload_n 3, 1), (8, .iload_n 1, 1), (9, .if_icmp .ge 41, 3), (12, .aload_n 0, 1), (13, .getfield 43, 3), (16, .iload_n 3, 1), (17, .sipush 1024, 3), (20, .imul, 1), (21, .iload_n 2, 1), (22, .iadd, 1), (23, .iaload, 1), (24, .istore 4, 2), (26, .iload 4, 2), (28, .iconst (-1), 1), (29, .if_icmp .eq 15, 3), (32, .iload_n 2, 1), (33, .aload_n 0, 1), (34, .iload_n 2, 1), (35, .iload 4, 2), (37, .invokevirtual 307, 3), (40, .iconst (-1), 1), (41, .ixor, 1), (42, .iand, 1), (43, .istore_n 2, 1), (44, .iinc 3 1, 3), (47, .goto (-40), 3), (50, .iload_n 2, 1), (51, .ireturn, 1)]
theorem kX6_setBehind_ok : ∀ q ∈ kX6_setBehind, decode cX6_setBehind q.1 = .ok q.2 := by decide +kernel
def kX6_standIn : List (Nat × Instr × Nat) := [(0, .iconst 0, 1), (1, .istore_n 1, 1), (2, .iconst 0, 1), (3, .istore_n 2, 1), (4, .iload_n 2, 1), (5, .aload_n 0, 1), (6, .getfield 9, 3), (9, .bipush 7, 2), (11, .iaload, 1), (12, .if_icmp .ge 20, 3), (15, .iload_n 1, 1), (16, .aload_n 0, 1), (17, .iload_n 2, 1), (18, .iconst 4, 1), (19, .invokevirtual 208, 3), (22, .iload_n 2, 1), (23, .ishl, 1), (24, .ior, 1), (25, .istore_n 1, 1), (26, .iinc 2 1, 3), (29, .goto (-25), 3), (32, .aload_n 0, 1), (33, .aload_n 0, 1), (34, .getfield 316, 3), (37, .invokevirtual 333, 3), (40, .istore_n 2, 1), (41, .iconst 0, 1), (42, .istore_n 3, 1), (43, .iload_n 3, 1), (44, .aload_n 0, 1), (45, .getfield 304, 3), (48, .if_icmp .ge 35, 3), (51, .iload_n 1, 1), (52, .iload_n 2, 1), (53, .iload_n 3, 1), (54, .ishr, 1), (55, .iconst 1, 1), (56, .iand, 1), (57, .iconst 1, 1), (58, .if_icmp .ne 7, 3), (61, .iconst (-1), 1), (62, .goto 13, 3), (65, .iconst 1, 1), (66, .aload_n 0, 1), (67, .getfield 36, 3), (70, .iload_n 3, 1), (71, .iaload, 1), (72, .ishl, 1), (73, .iconst (-1), 1), (74, .ixor, 1), (75, .iand, 1), (76, .istore_n 1, 1), (77, .iinc 3 1, 3), (80, .goto (-37), 3), (83, .iload_n 1, 1), (84, .ireturn, 1)]
theorem kX6_standIn_ok : ∀ q ∈ kX6_standIn, decode cX6_standIn q.1 = .ok q.2 := by decide +kernel
def kX6_chosen : List (Nat × Instr × Nat) := [(0, .aload_n 0, 1), (1, .getfield 43, 3), (4, .iload_n 1, 1), (5, .sipush 1024, 3), (8, .imul, 1), (9, .aload_n 0, 1), (10, .iload_n 1, 1), (11, .invokevirtual 333, 3), (14, .iadd, 1), (15, .iaload, 1), (16, .istore_n 2, 1), (17, .iload_n 2, 1), (18, .iconst (-1), 1), (19, .if_icmp .ne 7, 3), (22, .iconst (-1), 1), (23, .goto 9, 3), (26, .aload_n 0, 1), (27, .getfield 36, 3), (30, .iload_n 2, 1), (31, .iaload, 1), (32, .ireturn, 1)]
theorem kX6_chosen_ok : ∀ q ∈ kX6_chosen, decode cX6_chosen q.1 = .ok q.2 := by decide +kernel
def kX6_wealthIn : List (Nat × Instr × Nat) := [(0, .aload_n 0, 1), (1, .iload_n 1, 1), (2, .invokevirtual 191, 3), (5, .aload_n 0, 1), (6, .getfield 40, 3), (9, .aload_n 0, 1), (10, .iconst 0, 1), (11, .aload_n 0, 1), (12, .invokevirtual 330, 3), (15, .iload_n 1, 1), (16, .invokevirtual 319, 3), (19, .iaload, 1), (20, .iadd, 1), (21, .ireturn, 1)]
theorem kX6_wealthIn_ok : ∀ q ∈ kX6_wealthIn, decode cX6_wealthIn q.1 = .ok q.2 := by decide +kernel
def kX6_end : List (Nat × Instr × Nat) := [(0, .aload_n 0, 1), (1, .iconst 0, 1), (2, .putfield 63, 3), (5, .iload_n 1, 1), (6, .i2l, 1), (7, .lconst 1, 1), (8, .ldc2_w 189, 3), (11, .invokestatic 122, 3), (14, .ifCond .eq 61, 3), (17, .iload_n 2, 1), (18, .i2l, 1), (19, .lconst 0, 1), (20, .lconst 1, 1), (21, .invokestatic 122, 3), (24, .ifCond .ne 47, 3), (27, .iload_n 2, 1), (28, .i2l, 1), (29, .ldc2_w 336, 3), (32, .bipush 9, 2), (34, .aload_n 0, 1), (35, .getfield 9, 3), (38, .iconst 1, 1), (39, .iaload, 1), (40, .iadd, 1), (41, .i2l, 1), (42, .invokestatic 122, 3), (45, .ifCond .ne 26, 3), (48, .iload_n 2, 1), (49, .i2l, 1), (50, .ldc2_w 338, 3), (53, .bipush 99, 2), (55, .iload_n 1, 1), (56, .aload_n 0, 1), (57, .getfield 9, 3), (60, .iconst 1, 1), (61, .iaload, 1), (62, .imul, 1), (63, .iadd, 1), (64, .i2l, 1), (65, .invokestatic 122, 3), (68, .ifCond .eq 7, 3), (71, .iconst 1, 1), (72, .goto 4, 3), (75, .iconst 0, 1), (76, .istore_n 3, 1), (77, .iload_n 3, 1), (78, .ifCond .ne 9, 3), (81, .aload_n 0, 1), (82, .iconst 1, 1), (83, .invokevirtual 170, 3), (86, .ireturn, 1), (87, .aload_n 0, 1), (88, .iload_n 1, 1), (89, .invokevirtual 340, 3), (92, .ifCond .ne 7, 3), (95, .ldc_w 343, 3), (98, .ireturn, 1), (99, .iload_n 2, 1), (100, .ifCond .ne 8, 3), (103, .aload_n 0, 1), (104, .invokevirtual 344, 3), (107, .ireturn, 1), (108, .iload_n 2, 1), (109, .bipush 100, 2), (111, .if_icmp .lt 12, 3), (114, .aload_n 0, 1), (115, .iload_n 2, 1), (116, .bipush 100, 2), (118, .isub, 1), (119, .invokevirtual 347, 3), (122, .ireturn, 1), (123, .iload_n 2, 1), (124, .bipush 10, 2), (126, .if_icmp .lt 12, 3), (129, .aload_n 0, 1), (130, .iload_n 2, 1), (131, .bipush 10, 2), (133, .isub, 1), (134, .invokevirtual 350, 3), (137, .ireturn, 1), (138, .iconst 0, 1), (139, .istore 4, 2), (141, .iconst 0, 1), (142, .istore 5, 2), (144, .iload 5, 2), (146, .aload_n 0, 1), (147, .getfield 316, 3), (150, .if_icmp .ge 29, 3), (153, .iload 4, 2), (155, .aload_n 0, 1), (156, .iload 5, 2), (158, .invokevirtual 347, 3), (161, .iconst (-1), 1), (162, .if_icmp .ne 7, 3), (165, .iconst 0, 1), (166, .goto 4, 3), (169, .iconst 1, 1), (170, .iadd, 1), (171, .istore 4, 2), (173, .iinc 5 1, 3), (176, .goto (-32), 3), (179, .iload 4, 2), (181, .ireturn, 1)]
theorem kX6_end_ok : ∀ q ∈ kX6_end, decode cX6_end q.1 = .ok q.2 := by decide +kernel
def kX6_ringer : List (Nat × Instr × Nat) := [(0, .aload_n 0, 1), (1, .iconst 0, 1), (2, .putfield 63, 3), (5, .aload_n 0, 1), (6, .iload_n 1, 1), (7, .invokevirtual 186, 3), (10, .ifCond .ne 9, 3), (13, .aload_n 0, 1), (14, .iconst 1, 1), (15, .invokevirtual 170, 3), (18, .ireturn, 1), (19, .aload_n 0, 1), (20, .iconst 1, 1), (21, .invokevirtual 340, 3), (24, .ifCond .eq 17, 3), (27, .aload_n 0, 1), (28, .iload_n 1, 1), (29, .invokevirtual 191, 3), (32, .aload_n 0, 1), (33, .iload_n 1, 1), (34, .invokevirtual 350, 3), (37, .isub, 1), (38, .goto 6, 3), (41, .ldc_w 343, 3), (44, .ireturn, 1)]
theorem kX6_ringer_ok : ∀ q ∈ kX6_ringer, decode cX6_ringer q.1 = .ok q.2 := by decide +kernel
def kX6_keeper : List (Nat × Instr × Nat) := [(0, .aload_n 0, 1), (1, .aload_n 0, 1), (2, .iload_n 1, 1), (3, .invokevirtual 197, 3), (6, .ifCond .ne 7, 3), (9, .iconst 1, 1), (10, .goto 20, 3), (13, .iload_n 2, 1), (14, .i2l, 1), (15, .lconst 1, 1), (16, .ldc2_w 189, 3), (19, .invokestatic 122, 3), (22, .ifCond .eq 7, 3), (25, .iconst 0, 1), (26, .goto 4, 3), (29, .iconst 2, 1), (30, .putfield 63, 3), (33, .aload_n 0, 1), (34, .getfield 63, 3), (37, .ifCond .le 5, 3), (40, .iconst 0, 1), (41, .ireturn, 1), (42, .aload_n 0, 1), (43, .iload_n 2, 1), (44, .invokevirtual 340, 3), (47, .ifCond .ne 7, 3), (50, .ldc_w 343, 3), (53, .ireturn, 1), (54, .aload_n 0, 1), (55, .aload_n 0, 1), (56, .getfield 316, 3), (59, .invokevirtual 333, 3), (62, .istore_n 3, 1), (63, .aload_n 0, 1), (64, .getfield 9, 3), (67, .bipush 14, 2), (69, .iload_n 1, 1), (70, .iadd, 1), (71, .iaload, 1), (72, .istore 4, 2), (74, .aload_n 0, 1), (75, .getfield 304, 3), (78, .iconst 1, 1), (79, .isub, 1), (80, .istore 5, 2), (82, .iload 5, 2), (84, .ifCond .lt 48, 3), (87, .aload_n 0, 1), (88, .aload_n 0, 1), (89, .getfield 36, 3), (92, .iload 5, 2), (94, .iaload, 1), (95, .iconst 0, 1), (96, .invokevirtual 208, 3), (99, .iload_n 1, 1), (100, .if_icmp .ne 26, 3), (103, .iload_n 3, 1), (104, .iload 5, 2), (106, .ishr, 1), (107, .iconst 1, 1), (108, .iand, 1), (109, .ifCond .ne 17, 3), (112, .aload_n 0, 1), (113, .aload_n 0, 1), (114, .getfield 36, 3), (117, .iload 5, 2), (119, .iaload, 1), (120, .iconst 1, 1), (121, .invokevirtual 208, 3), (124, .istore 4, 2), (126, .iinc 5 (-1), 3), (129, .goto (-47), 3), (132, .iload 4, 2), (134, .ireturn, 1)]
theorem kX6_keeper_ok : ∀ q ∈ kX6_keeper, decode cX6_keeper q.1 = .ok q.2 := by decide +kernel
def kX6_endFrom : List (Nat × Instr × Nat) := [(0, .aload_n 0, 1), (1, .iconst 0, 1), (2, .putfield 63, 3), (5, .aload_n 0, 1), (6, .iload_n 1, 1), (7, .invokevirtual 186, 3), (10, .ifCond .ne 9, 3), (13, .aload_n 0, 1), (14, .iconst 1, 1), (15, .invokevirtual 170, 3), (18, .ireturn, 1), (19, .aload_n 0, 1), (20, .iconst 1, 1), (21, .iload_n 1, 1), (22, .invokevirtual 310, 3), (25, .ifCond .eq 10, 3), (28, .aload_n 0, 1), (29, .invokevirtual 344, 3), (32, .goto 6, 3), (35, .ldc_w 343, 3), (38, .ireturn, 1)]
theorem kX6_endFrom_ok : ∀ q ∈ kX6_endFrom, decode cX6_endFrom q.1 = .ok q.2 := by decide +kernel
def kX6_news : List (Nat × Instr × Nat) := [(0, .aload_n 0, 1), (1, .aload_n 0, 1), (2, .iload_n 1, 1), (3, .invokevirtual 197, 3), (6, .ifCond .eq 11, 3), (9, .aload_n 0, 1), (10, .iload_n 2, 1), (11, .invokevirtual 186, 3), (14, .ifCond .ne 7, 3), (17, .iconst 1, 1), (18, .goto 20, 3), (21, .iload_n 3, 1), (22, .i2l, 1), (23, .lconst 0, 1), (24, .ldc2_w 133, 3), (27, .invokestatic 122, 3), (30, .ifCond .eq 7, 3), (33, .iconst 0, 1), (34, .goto 4, 3), (37, .iconst 2, 1), (38, .putfield 63, 3), (41, .aload_n 0, 1), (42, .getfield 63, 3), (45, .ifCond .le 5, 3), (48, .iconst 0, 1), (49, .ireturn, 1), (50, .aload_n 0, 1), (51, .iload_n 1, 1), (52, .iload_n 2, 1), (53, .invokevirtual 183, 3), (56, .istore 4, 2), (58, .aload_n 0, 1), (59, .getfield 9, 3), (62, .bipush 24, 2), (64, .bipush 6, 2), (66, .iload_n 1, 1), (67, .imul, 1), (68, .iadd, 1), (69, .iload_n 2, 1), (70, .iadd, 1), (71, .iload_n 3, 1), (72, .iastore, 1), (73, .aload_n 0, 1), (74, .iconst 1, 1), (75, .invokevirtual 340, 3), (78, .ifCond .eq 10, 3), (81, .aload_n 0, 1), (82, .invokevirtual 344, 3), (85, .goto 6, 3), (88, .ldc_w 343, 3), (91, .istore 5, 2), (93, .aload_n 0, 1), (94, .getfield 9, 3), (97, .bipush 24, 2), (99, .bipush 6, 2), (101, .iload_n 1, 1), (102, .imul, 1), (103, .iadd, 1), (104, .iload_n 2, 1), (105, .iadd, 1), (106, .iload 4, 2), (108, .iastore, 1), (109, .iload 5, 2), (111, .ireturn, 1)]
theorem kX6_news_ok : ∀ q ∈ kX6_news, decode cX6_news q.1 = .ok q.2 := by decide +kernel
def kX6_size : List (Nat × Instr × Nat) := [(0, .iconst 0, 1), (1, .istore_n 1, 1), (2, .iload_n 0, 1), (3, .istore_n 2, 1), (4, .iload_n 2, 1), (5, .ifCond .eq 15, 3), (8, .iinc 1 1, 3), (11, .iload_n 2, 1), (12, .iload_n 2, 1), (13, .iconst 1, 1), (14, .isub, 1), (15, .iand, 1), (16, .istore_n 2, 1), (17, .goto (-13), 3), (20, .iload_n 1, 1), (21, .ireturn, 1)]
theorem kX6_size_ok : ∀ q ∈ kX6_size, decode cX6_size q.1 = .ok q.2 := by decide +kernel
def kX6_bestShare : List (Nat × Instr × Nat) := [(0, .aload_n 0, 1), (1, .iconst 0, 1), (2, .putfield 63, 3), (5, .aload_n 0, 1), (6, .getfield 9, 3), (9, .iconst 4, 1), (10, .iaload, 1), (11, .istore_n 1, 1), (12, .iconst (-1), 1), (13, .istore_n 2, 1), (14, .iconst (-1), 1), (15, .istore_n 3, 1), (16, .iconst 0, 1), (17, .istore 4, 2), (19, .iload 4, 2), (21, .bipush 100, 2), (23, .if_icmp .gt 57, 3), (26, .aload_n 0, 1), (27, .getfield 9, 3), (30, .iconst 4, 1), (31, .iload 4, 2), (33, .iastore, 1), (34, .aload_n 0, 1), (35, .iconst 1, 1), (36, .invokevirtual 340, 3), (39, .ifCond .ne 10, 3), (42, .ldc_w 343, 3), (45, .istore_n 2, 1), (46, .goto 34, 3), (49, .aload_n 0, 1), (50, .invokevirtual 344, 3), (53, .invokestatic 353, 3), (56, .iload_n 3, 1), (57, .if_icmp .gt 6, 3), (60, .goto 14, 3), (63, .iload 4, 2), (65, .istore_n 2, 1), (66, .aload_n 0, 1), (67, .invokevirtual 344, 3), (70, .invokestatic 353, 3), (73, .istore_n 3, 1), (74, .iinc 4 1, 3), (77, .goto (-58), 3), (80, .aload_n 0, 1), (81, .getfield 9, 3), (84, .iconst 4, 1), (85, .iload_n 1, 1), (86, .iastore, 1), (87, .iload_n 2, 1), (88, .ireturn, 1)]
theorem kX6_bestShare_ok : ∀ q ∈ kX6_bestShare, decode cX6_bestShare q.1 = .ok q.2 := by decide +kernel
def kX6_share : List (Nat × Instr × Nat) := [(0, .aload_n 0, 1), (1, .iconst 0, 1), (2, .putfield 63, 3), (5, .iload_n 1, 1), (6, .i2l, 1), (7, .lconst 0, 1), (8, .ldc2_w 338, 3), (11, .invokestatic 122, 3), (14, .ifCond .ne 9, 3), (17, .aload_n 0, 1), (18, .iconst 1, 1), (19, .invokevirtual 170, 3), (22, .ireturn, 1), (23, .aload_n 0, 1), (24, .getfield 9, 3), (27, .iconst 4, 1), (28, .iaload, 1), (29, .istore_n 2, 1), (30, .aload_n 0, 1), (31, .getfield 9, 3), (34, .iconst 4, 1), (35, .iload_n 1, 1), (36, .iastore, 1), (37, .iload_n 2, 1), (38, .ireturn, 1)]
theorem kX6_share_ok : ∀ q ∈ kX6_share, decode cX6_share q.1 = .ok q.2 := by decide +kernel
def kX6_hope : List (Nat × Instr × Nat) := [(0, .aload_n 0, 1), (1, .aload_n 0, 1), (2, .iload_n 1, 1), (3, .i2l, 1), (4, .invokevirtual 230, 3), (7, .ifCond .eq 10, 3), (10, .iload_n 2, 1), (11, .invokestatic 257, 3), (14, .ifCond .ne 7, 3), (17, .iconst 1, 1), (18, .goto 26, 3), (21, .aload_n 0, 1), (22, .getfield 49, 3), (25, .iload_n 2, 1), (26, .iaload, 1), (27, .iconst (-1), 1), (28, .if_icmp .eq 11, 3), (31, .aload_n 0, 1), (32, .iload_n 1, 1), (33, .invokevirtual 285, 3), (36, .ifCond .ne 7, 3), (39, .iconst 2, 1), (40, .goto 4, 3), (43, .iconst 0, 1), (44, .putfield 63, 3), (47, .aload_n 0, 1), (48, .getfield 63, 3), (51, .ifCond .le 5, 3), (54, .iconst 0, 1), (55, .ireturn, 1), (56, .aload_n 0, 1), (57, .getfield 52, 3), (60, .iload_n 2, 1), (61, .iaload, 1), (62, .istore 5, 2), (64, .iload_n 3, 1), (65, .i2l, 1), (66, .lconst 1, 1), (67, .ldc2_w 355, 3), (70, .invokestatic 122, 3), (73, .ifCond .eq 33, 3), (76, .iload 4, 2), (78, .i2l, 1), (79, .lconst 0, 1), (80, .ldc2_w 189, 3), (83, .invokestatic 122, 3), (86, .ifCond .eq 20, 3), (89, .iload 5, 2), (91, .i2l, 1), (92, .lconst 1, 1), (93, .ldc2_w 355, 3), (96, .invokestatic 122, 3), (99, .ifCond .eq 7, 3), (102, .iconst 1, 1), (103, .goto 4, 3), (106, .iconst 0, 1), (107, .istore 6, 2), (109, .iconst 0, 1), (110, .istore 7, 2), (112, .iload 7, 2), (114, .iload 5, 2), (116, .if_icmp .ge 35, 3), (119, .iload 6, 2), (121, .ifCond .eq 30, 3), (124, .aload_n 0, 1), (125, .getfield 55, 3), (128, .bipush 40, 2), (130, .iload_n 2, 1), (131, .imul, 1), (132, .iload 7, 2), (134, .iadd, 1), (135, .laload, 1), (136, .lconst 0, 1), (137, .ldc2_w 218, 3), (140, .invokestatic 122, 3), (143, .istore 6, 2), (145, .iinc 7 1, 3), (148, .goto (-36), 3), (151, .iload 6, 2), (153, .ifCond .ne 9, 3), (156, .aload_n 0, 1), (157, .iconst 3, 1), (158, .invokevirtual 170, 3), (161, .ireturn, 1), (162, .aload_n 0, 1), (163, .iload_n 1, 1), (164, .aload_n 0, 1), (165, .iload_n 1, 1), (166, .iconst 1, 1), (167, .invokevirtual 208, 3), (170, .invokevirtual 291, 3), (173, .aload_n 0, 1), (174, .aload_n 0, 1), (175, .iload_n 1, 1), (176, .iconst 0, 1), (177, .invokevirtual 208, 3), (180, .aload_n 0, 1), (181, .iload_n 1, 1), (182, .iconst 1, 1), (183, .invokevirtual 208, 3), (186, .invokevirtual 183, 3), (189, .isub, 1), (190, .istore 7, 2), (192, .lconst 0, 1), (193, .lstore 8, 2), (195, .lconst 1, 1), (196, .lstore 10, 2), (198, .iconst (-1), 1), (199, .istore 12, 2), (201, .iconst 1, 1), (202, .istore 13, 2), (204, .iload 13, 2), (206, .iload_n 3, 1), (207, .if_icmp .gt 130, 3), (210, .lconst 0, 1), (211, .lstore 14, 2), (213, .iconst (-1), 1), (214, .istore 12, 2), (216, .iconst 0, 1), (217, .istore 16, 2), (219, .iload 16, 2), (221, .iload 5, 2), (223, .if_icmp .ge 96, 3), (226, .aload_n 0, 1), (227, .getfield 55, 3), (230, .bipush 40, 2), (232, .iload_n 2, 1), (233, .imul, 1), (234, .iload 16, 2), (236, .iadd, 1), (237, .laload, 1), (238, .l2i, 1), (239, .istore 17, 2), (241, .iload 17, 2), (243, .iload 7, 2), (245, .iadd, 1), (246, .i2l, 1), (247, .lload 10, 2), (249, .lmul, 1), (250, .lstore 18, 2), (252, .lload 18, 2), (254, .lload 8, 2), (256, .lcmp, 1), (257, .ifCond .lt 14, 3), (260, .lload 18, 2), (262, .lconst 0, 1), (263, .lcmp, 1), (264, .ifCond .lt 7, 3), (267, .iconst 1, 1), (268, .goto 4, 3), (271, .iconst 0, 1), (272, .istore 20, 2), (274, .lload 14, 2), (276, .iload 20, 2), (278, .ifCond .eq 8, 3), (281, .lload 18, 2), (283, .goto 5, 3), (286, .lload 8, 2), (288, .ladd, 1), (289, .lstore 14, 2), (291, .iload 20, 2), (293, .ifCond .eq 20, 3), (296, .iload 12, 2), (298, .iconst (-1), 1), (299, .if_icmp .eq 10, 3), (302, .iload 17, 2), (304, .iload 12, 2), (306, .if_icmp .ge 7, 3), (309, .iload 17, 2), (311, .istore 12, 2), (313, .iinc 16 1, 3), (316, .goto (-97), 3), (319, .lload 14, 2), (321, .lstore 8, 2), (323, .lload 10, 2), (325, .iload 5, 2), (327, .i2l, 1), (328, .lmul, 1), (329, .lstore 10, 2), (331, .iinc 13 1, 3), (334, .goto (-130), 3), (337, .iload 4, 2), (339, .ifCond .ne 12, 3), (342, .lload 8, 2), (344, .lload 10, 2), (346, .ldiv, 1), (347, .l2i, 1), (348, .goto 20, 3), (351, .iload 4, 2), (353, .iconst 1, 1), (354, .if_icmp .ne 12, 3), (357, .lload 8, 2), (359, .lload 10, 2), (361, .lrem, 1), (362, .l2i, 1), (363, .goto 5, 3), (366, .iload 12, 2), (368, .ireturn, 1)]
theorem kX6_hope_ok : ∀ q ∈ kX6_hope, decode cX6_hope q.1 = .ok q.2 := by decide +kernel
def kX6_rather : List (Nat × Instr × Nat) := [(0, .aload_n 0, 1), (1, .iload_n 2, 1), (2, .aload_n 0, 1), (3, .getfield 9, 3), (6, .bipush 14, 2), (8, .iload_n 1, 1), (9, .iadd, 1), (10, .iaload, 1), (11, .invokevirtual 183, 3), (14, .aload_n 0, 1), (15, .iload_n 1, 1), (16, .aload_n 0, 1), (17, .getfield 9, 3), (20, .bipush 14, 2), (22, .iload_n 1, 1), (23, .iadd, 1), (24, .iaload, 1), (25, .invokevirtual 183, 3), (28, .if_icmp .le 7, 3), (31, .iconst 1, 1), (32, .goto 4, 3), (35, .iconst 0, 1), (36, .ireturn, 1)]
theorem kX6_rather_ok : ∀ q ∈ kX6_rather, decode cX6_rather q.1 = .ok q.2 := by decide +kernel
def kX6_isHeld : List (Nat × Instr × Nat) := [(0, .aload_n 0, 1), (1, .iload_n 1, 1), (2, .invokevirtual 200, 3), (5, .ifCond .ne 7, 3), (8, .iconst 1, 1), (9, .goto 4, 3), (12, .iconst 0, 1), (13, .ireturn, 1)]
theorem kX6_isHeld_ok : ∀ q ∈ kX6_isHeld, decode cX6_isHeld q.1 = .ok q.2 := by decide +kernel
def kX6_swaps : List (Nat × Instr × Nat) := [(0, .aload_n 0, 1), (1, .iconst 0, 1), (2, .putfield 63, 3), (5, .iconst 0, 1), (6, .istore_n 2, 1), (7, .iconst 0, 1), (8, .istore_n 3, 1), (9, .iload_n 3, 1), (10, .aload_n 0, 1), (11, .getfield 9, 3), (14, .iconst 2, 1), (15, .iaload, 1), (16, .if_icmp .ge 109, 3), (19, .iload_n 3, 1), (20, .iconst 1, 1), (21, .iadd, 1), (22, .istore 4, 2), (24, .iload 4, 2), (26, .aload_n 0, 1), (27, .getfield 9, 3), (30, .iconst 2, 1), (31, .iaload, 1), (32, .if_icmp .ge 87, 3), (35, .aload_n 0, 1), (36, .iload_n 3, 1), (37, .invokevirtual 357, 3), (40, .ifCond .eq 73, 3), (43, .aload_n 0, 1), (44, .iload 4, 2), (46, .invokevirtual 357, 3), (49, .ifCond .eq 64, 3), (52, .aload_n 0, 1), (53, .getfield 9, 3), (56, .bipush 14, 2), (58, .iload_n 3, 1), (59, .iadd, 1), (60, .iaload, 1), (61, .aload_n 0, 1), (62, .getfield 9, 3), (65, .bipush 14, 2), (67, .iload 4, 2), (69, .iadd, 1), (70, .iaload, 1), (71, .if_icmp .eq 42, 3), (74, .aload_n 0, 1), (75, .iload_n 3, 1), (76, .iload 4, 2), (78, .invokevirtual 360, 3), (81, .ifCond .eq 32, 3), (84, .aload_n 0, 1), (85, .iload 4, 2), (87, .iload_n 3, 1), (88, .invokevirtual 360, 3), (91, .ifCond .ne 6, 3), (94, .goto 19, 3), (97, .iload_n 2, 1), (98, .iload_n 1, 1), (99, .if_icmp .ne 11, 3), (102, .bipush 100, 2), (104, .iload_n 3, 1), (105, .imul, 1), (106, .iload 4, 2), (108, .iadd, 1), (109, .ireturn, 1), (110, .iinc 2 1, 3), (113, .iinc 4 1, 3), (116, .goto (-92), 3), (119, .iinc 3 1, 3), (122, .goto (-113), 3), (125, .iload_n 1, 1), (126, .iconst (-1), 1), (127, .if_icmp .ne 7, 3), (130, .iload_n 2, 1), (131, .goto 4, 3), (134, .iconst (-1), 1), (135, .ireturn, 1)]
theorem kX6_swaps_ok : ∀ q ∈ kX6_swaps, decode cX6_swaps q.1 = .ok q.2 := by decide +kernel
def kX6_isThree : List (Nat × Instr × Nat) := [(0, .aload_n 0, 1), (1, .getfield 9, 3), (4, .bipush 14, 2), (6, .iload_n 1, 1), (7, .iadd, 1), (8, .iaload, 1), (9, .istore 4, 2), (11, .aload_n 0, 1), (12, .getfield 9, 3), (15, .bipush 14, 2), (17, .iload_n 2, 1), (18, .iadd, 1), (19, .iaload, 1), (20, .istore 5, 2), (22, .aload_n 0, 1), (23, .getfield 9, 3), (26, .bipush 14, 2), (28, .iload_n 3, 1), (29, .iadd, 1), (30, .iaload, 1), (31, .istore 6, 2), (33, .iload 4, 2), (35, .iload 5, 2), (37, .if_icmp .eq 72, 3), (40, .iload 5, 2), (42, .iload 6, 2), (44, .if_icmp .eq 65, 3), (47, .iload 4, 2), (49, .iload 6, 2), (51, .if_icmp .eq 58, 3), (54, .aload_n 0, 1), (55, .iload_n 1, 1), (56, .invokevirtual 357, 3), (59, .ifCond .eq 50, 3), (62, .aload_n 0, 1), (63, .iload_n 2, 1), (64, .invokevirtual 357, 3), (67, .ifCond .eq 42, 3), (70, .aload_n 0, 1), (71, .iload_n 3, 1), (72, .invokevirtual 357, 3), (75, .ifCond .eq 34, 3), (78, .aload_n 0, 1), (79, .iload_n 1, 1), (80, .iload_n 2, 1), (81, .invokevirtual 360, 3), (84, .ifCond .eq 25, 3), (87, .aload_n 0, 1), (88, .iload_n 2, 1), (89, .iload_n 3, 1), (90, .invokevirtual 360, 3), (93, .ifCond .eq 16, 3), (96, .aload_n 0, 1), (97, .iload_n 3, 1), (98, .iload_n 1, 1), (99, .invokevirtual 360, 3), (102, .ifCond .eq 7, 3), (105, .iconst 1, 1), (106, .goto 4, 3), (109, .iconst 0, 1), (110, .ireturn, 1)]
theorem kX6_isThree_ok : ∀ q ∈ kX6_isThree, decode cX6_isThree q.1 = .ok q.2 := by decide +kernel
def kX6_threes : List (Nat × Instr × Nat) := [(0, .aload_n 0, 1), (1, .iconst 0, 1), (2, .putfield 63, 3), (5, .iconst 0, 1), (6, .istore_n 2, 1), (7, .iconst 0, 1), (8, .istore_n 3, 1), (9, .iload_n 3, 1), (10, .aload_n 0, 1), (11, .getfield 9, 3), (14, .iconst 2, 1), (15, .iaload, 1), (16, .if_icmp .ge 91, 3), (19, .iload_n 3, 1), (20, .iconst 1, 1), (21, .iadd, 1), (22, .istore 4, 2), (24, .iload 4, 2), (26, .aload_n 0, 1), (27, .getfield 9, 3), (30, .iconst 2, 1), (31, .iaload, 1), (32, .if_icmp .ge 69, 3), (35, .iload_n 3, 1), (36, .iconst 1, 1), (37, .iadd, 1), (38, .istore 5, 2), (40, .iload 5, 2), (42, .aload_n 0, 1), (43, .getfield 9, 3), (46, .iconst 2, 1), (47, .iaload, 1), (48, .if_icmp .ge 47, 3), (51, .aload_n 0, 1), (52, .iload_n 3, 1), (53, .iload 4, 2), (55, .iload 5, 2), (57, .invokevirtual 363, 3), (60, .ifCond .ne 6, 3), (63, .goto 26, 3), (66, .iload_n 2, 1), (67, .iload_n 1, 1), (68, .if_icmp .ne 18, 3), (71, .sipush 10000, 3), (74, .iload_n 3, 1), (75, .imul, 1), (76, .bipush 100, 2), (78, .iload 4, 2), (80, .imul, 1), (81, .iadd, 1), (82, .iload 5, 2), (84, .iadd, 1), (85, .ireturn, 1), (86, .iinc 2 1, 3), (89, .iinc 5 1, 3), (92, .goto (-52), 3), (95, .iinc 4 1, 3), (98, .goto (-74), 3), (101, .iinc 3 1, 3), (104, .goto (-95), 3), (107, .iload_n 1, 1), (108, .iconst (-1), 1), (109, .if_icmp .ne 7, 3), (112, .iload_n 2, 1), (113, .goto 4, 3), (116, .iconst (-1), 1), (117, .ireturn, 1)]
theorem kX6_threes_ok : ∀ q ∈ kX6_threes, decode cX6_threes q.1 = .ok q.2 := by decide +kernel
def kX6_misplaced : List (Nat × Instr × Nat) := [(0, .aload_n 0, 1), (1, .iconst 0, 1), (2, .putfield 63, 3), (5, .iconst 0, 1), (6, .istore_n 1, 1), (7, .iconst 0, 1), (8, .istore_n 2, 1), (9, .iload_n 2, 1), (10, .aload_n 0, 1), (11, .getfield 9, 3), (14, .iconst 2, 1), (15, .iaload, 1), (16, .if_icmp .ge 60, 3), (19, .iconst 0, 1), (20, .istore_n 3, 1), (21, .iload_n 3, 1), (22, .aload_n 0, 1), (23, .getfield 9, 3), (26, .iconst 1, 1), (27, .iaload, 1), (28, .if_icmp .ge 42, 3), (31, .iload_n 1, 1), (32, .aload_n 0, 1), (33, .iload_n 2, 1), (34, .iload_n 3, 1), (35, .invokevirtual 183, 3), (38, .aload_n 0, 1), (39, .iload_n 2, 1), (40, .aload_n 0, 1), (41, .getfield 9, 3), (44, .bipush 14, 2), (46, .iload_n 2, 1), (47, .iadd, 1), (48, .iaload, 1), (49, .invokevirtual 183, 3), (52, .if_icmp .le 9, 3), (55, .iconst 1, 1), (56, .iload_n 2, 1), (57, .ishl, 1), (58, .goto 4, 3), (61, .iconst 0, 1), (62, .ior, 1), (63, .istore_n 1, 1), (64, .iinc 3 1, 3), (67, .goto (-46), 3), (70, .iinc 2 1, 3), (73, .goto (-64), 3), (76, .iload_n 1, 1), (77, .ireturn, 1)]
theorem kX6_misplaced_ok : ∀ q ∈ kX6_misplaced, decode cX6_misplaced q.1 = .ok q.2 := by decide +kernel
def kX6_tray : List (Nat × Instr × Nat) := [(0, .aload_n 0, 1), (1, .iload_n 1, 1), (2, .invokestatic 257, 3), (5, .ifCond .ne 7, 3), (8, .iconst 1, 1), (9, .goto 32, 3), (12, .iload_n 2, 1), (13, .i2l, 1), (14, .lconst 0, 1), (15, .ldc2_w 367, 3), (18, .invokestatic 122, 3), (21, .ifCond .eq 15, 3), (24, .iload_n 3, 1), (25, .i2l, 1), (26, .lconst 0, 1), (27, .ldc2_w 280, 3), (30, .invokestatic 122, 3), (33, .ifCond .ne 7, 3), (36, .iconst 2, 1), (37, .goto 4, 3), (40, .iconst 0, 1), (41, .putfield 63, 3), (44, .aload_n 0, 1), (45, .getfield 63, 3), (48, .ifCond .le 4, 3), (51, .return_, 1), (52, .aload_n 0, 1), (53, .getfield 49, 3), (56, .iload_n 1, 1), (57, .iload_n 2, 1), (58, .iastore, 1), (59, .aload_n 0, 1), (60, .getfield 52, 3), (63, .iload_n 1, 1), (64, .iload_n 3, 1), (65, .iastore, 1), (66, .iconst 0, 1), (67, .istore 4, 2), (69, .iload 4, 2), (71, .bipush 40, 2), (73, .if_icmp .ge 22, 3), (76, .aload_n 0, 1), (77, .getfield 55, 3), (80, .bipush 40, 2), (82, .iload_n 1, 1), (83, .imul, 1), (84, .iload 4, 2), (86, .iadd, 1), (87, .lconst 0, 1), (88, .lastore, 1), (89, .iinc 4 1, 3), (92, .goto (-23), 3), (95, .return_, 1)]
theorem kX6_tray_ok : ∀ q ∈ kX6_tray, decode cX6_tray q.1 = .ok q.2 := by decide +kernel
def kX6_cut : List (Nat × Instr × Nat) := [(0, .bipush 64, 2), (2, .bipush 8, 2), (4, .aload_n 0, 1), (5, .getfield 49, 3), (8, .iload_n 1, 1), (9, .iaload, 1), (10, .ishl, 1), (11, .isub, 1), (12, .istore 5, 2), (14, .aload_n 0, 1), (15, .getfield 55, 3), (18, .bipush 40, 2), (20, .iload_n 1, 1), (21, .imul, 1), (22, .iload_n 2, 1), (23, .iadd, 1), (24, .lload_n 3, 1), (25, .iload 5, 2), (27, .lshl, 1), (28, .iload 5, 2), (30, .lshr, 1), (31, .lastore, 1), (32, .aload_n 0, 1), (33, .getfield 55, 3), (36, .bipush 40, 2), (38, .iload_n 1, 1), (39, .imul, 1), (40, .iload_n 2, 1), (41, .iadd, 1), (42, .laload, 1), (43, .lreturn, 1)]
theorem kX6_cut_ok : ∀ q ∈ kX6_cut, decode cX6_cut q.1 = .ok q.2 := by decide +kernel
def kX6_write : List (Nat × Instr × Nat) := [(0, .aload_n 0, 1), (1, .aload_n 0, 1), (2, .iload_n 1, 1), (3, .invokevirtual 267, 3), (6, .putfield 63, 3), (9, .aload_n 0, 1), (10, .getfield 63, 3), (13, .ifCond .le 5, 3), (16, .lconst 0, 1), (17, .lreturn, 1), (18, .iload_n 2, 1), (19, .i2l, 1), (20, .lconst 0, 1), (21, .aload_n 0, 1), (22, .getfield 52, 3), (25, .iload_n 1, 1), (26, .iaload, 1), (27, .iconst 1, 1), (28, .isub, 1), (29, .i2l, 1), (30, .invokestatic 122, 3), (33, .ifCond .eq 13, 3), (36, .aload_n 0, 1), (37, .iload_n 1, 1), (38, .iload_n 2, 1), (39, .lload_n 3, 1), (40, .invokevirtual 369, 3), (43, .goto 9, 3), (46, .aload_n 0, 1), (47, .iconst 3, 1), (48, .invokevirtual 170, 3), (51, .i2l, 1), (52, .lreturn, 1)]
theorem kX6_write_ok : ∀ q ∈ kX6_write, decode cX6_write q.1 = .ok q.2 := by decide +kernel
def kX6_pour : List (Nat × Instr × Nat) := [(0, .aload_n 0, 1), (1, .aload_n 0, 1), (2, .iload_n 1, 1), (3, .invokevirtual 267, 3), (6, .putfield 63, 3), (9, .aload_n 0, 1), (10, .getfield 63, 3), (13, .ifCond .le 5, 3), (16, .iconst 0, 1), (17, .ireturn, 1), (18, .iconst 0, 1), (19, .istore_n 2, 1), (20, .iconst 0, 1), (21, .istore_n 3, 1), (22, .iload_n 3, 1), (23, .aload_n 0, 1), (24, .getfield 9, 3), (27, .bipush 7, 2), (29, .iaload, 1), (30, .if_icmp .ge 48, 3), (33, .iload_n 2, 1), (34, .aload_n 0, 1), (35, .getfield 52, 3), (38, .iload_n 1, 1), (39, .iaload, 1), (40, .if_icmp .ge 38, 3), (43, .aload_n 0, 1), (44, .iload_n 3, 1), (45, .iconst 4, 1), (46, .invokevirtual 208, 3), (49, .ifCond .ne 6, 3), (52, .goto 20, 3), (55, .aload_n 0, 1), (56, .iload_n 1, 1), (57, .iload_n 2, 1), (58, .aload_n 0, 1), (59, .iload_n 3, 1), (60, .iconst 3, 1), (61, .invokevirtual 208, 3), (64, .i2l, 1), (65, .invokevirtual 369, 3), (68, .pop2, 1), (69, .iinc 2 1, 3), (72, .iinc 3 1, 3), (75, .goto (-53), 3), (78, .iload_n 2, 1), (79, .ireturn, 1)]
theorem kX6_pour_ok : ∀ q ∈ kX6_pour, decode cX6_pour q.1 = .ok q.2 := by decide +kernel
def kX6_image : List (Nat × Instr × Nat) := [(0, .aload_n 0, 1), (1, .iload_n 1, 1), (2, .i2l, 1), (3, .lconst 0, 1), (4, .ldc2_w 189, 3), (7, .invokestatic 122, 3), (10, .ifCond .eq 7, 3), (13, .iconst 0, 1), (14, .goto 4, 3), (17, .iconst 1, 1), (18, .putfield 63, 3), (21, .aload_n 0, 1), (22, .getfield 63, 3), (25, .ifCond .le 4, 3), (28, .return_, 1), (29, .aload_n 0, 1), (30, .getfield 22, 3), (33, .iload_n 1, 1), (34, .iconst 1, 1), (35, .bastore, 1), (36, .iconst 0, 1), (37, .istore_n 2, 1), (38, .iload_n 2, 1), (39, .sipush 264, 3), (42, .if_icmp .ge 27, 3), (45, .aload_n 0, 1), (46, .getfield 19, 3), (49, .sipush 264, 3), (52, .iload_n 1, 1), (53, .imul, 1), (54, .iload_n 2, 1), (55, .iadd, 1), (56, .aload_n 0, 1), (57, .getfield 9, 3), (60, .iload_n 2, 1), (61, .iaload, 1), (62, .iastore, 1), (63, .iinc 2 1, 3), (66, .goto (-28), 3), (69, .return_, 1)]
theorem kX6_image_ok : ∀ q ∈ kX6_image, decode cX6_image q.1 = .ok q.2 := by decide +kernel
def kX6_restore : List (Nat × Instr × Nat) := [(0, .aload_n 0, 1), (1, .iload_n 1, 1), (2, .i2l, 1), (3, .lconst 0, 1), (4, .ldc2_w 189, 3), (7, .invokestatic 122, 3), (10, .ifCond .ne 7, 3), (13, .iconst 1, 1), (14, .goto 17, 3), (17, .aload_n 0, 1), (18, .getfield 22, 3), (21, .iload_n 1, 1), (22, .baload, 1), (23, .ifCond .ne 7, 3), (26, .iconst 2, 1), (27, .goto 4, 3), (30, .iconst 0, 1), (31, .putfield 63, 3), (34, .aload_n 0, 1), (35, .getfield 63, 3), (38, .ifCond .le 4, 3), (41, .return_, 1), (42, .iconst 0, 1), (43, .istore_n 2, 1), (44, .iload_n 2, 1), (45, .sipush 264, 3), (48, .if_icmp .ge 27, 3), (51, .aload_n 0, 1), (52, .getfield 9, 3), (55, .iload_n 2, 1), (56, .aload_n 0, 1), (57, .getfield 19, 3), (60, .sipush 264, 3), (63, .iload_n 1, 1), (64, .imul, 1), (65, .iload_n 2, 1), (66, .iadd, 1), (67, .iaload, 1), (68, .iastore, 1), (69, .iinc 2 1, 3), (72, .goto (-28), 3), (75, .return_, 1)]
theorem kX6_restore_ok : ∀ q ∈ kX6_restore, decode cX6_restore q.1 = .ok q.2 := by decide +kernel
def kX6_count : List (Nat × Instr × Nat) := [(0, .aload_n 0, 1), (1, .iconst 0, 1), (2, .putfield 63, 3), (5, .iconst 0, 1), (6, .istore_n 2, 1), (7, .iconst 0, 1), (8, .istore_n 3, 1), (9, .iconst 0, 1), (10, .istore 4, 2), (12, .iload 4, 2), (14, .aload_n 0, 1), (15, .getfield 9, 3), (18, .iconst 1, 1), (19, .iaload, 1), (20, .if_icmp .ge 31, 3), (23, .iload_n 2, 1), (24, .aload_n 0, 1), (25, .getfield 9, 3), (28, .bipush 8, 2), (30, .iload 4, 2), (32, .iadd, 1), (33, .iaload, 1), (34, .iadd, 1), (35, .istore_n 2, 1), (36, .iload_n 3, 1), (37, .aload_n 0, 1), (38, .iload 4, 2), (40, .invokevirtual 191, 3), (43, .iadd, 1), (44, .istore_n 3, 1), (45, .iinc 4 1, 3), (48, .goto (-36), 3), (51, .iload_n 1, 1), (52, .tableswitch 136 0 11 #[64, 71, 78, 85, 93, 98, 106, 113, 120, 127, 129, 131], 64), (116, .aload_n 0, 1), (117, .getfield 9, 3), (120, .iconst 0, 1), (121, .iaload, 1), (122, .ireturn, 1), (123, .aload_n 0, 1), (124, .getfield 9, 3), (127, .iconst 1, 1), (128, .iaload, 1), (129, .ireturn, 1), (130, .aload_n 0, 1), (131, .getfield 9, 3), (134, .iconst 2, 1), (135, .iaload, 1), (136, .ireturn, 1), (137, .aload_n 0, 1), (138, .getfield 9, 3), (141, .bipush 7, 2), (143, .iaload, 1), (144, .ireturn, 1), (145, .aload_n 0, 1), (146, .invokevirtual 215, 3), (149, .ireturn, 1), (150, .aload_n 0, 1), (151, .getfield 9, 3), (154, .bipush 6, 2), (156, .iaload, 1), (157, .ireturn, 1), (158, .aload_n 0, 1), (159, .getfield 9, 3), (162, .iconst 4, 1), (163, .iaload, 1), (164, .ireturn, 1), (165, .aload_n 0, 1), (166, .getfield 9, 3), (169, .iconst 5, 1), (170, .iaload, 1), (171, .ireturn, 1), (172, .aload_n 0, 1), (173, .getfield 9, 3), (176, .iconst 3, 1), (177, .iaload, 1), (178, .ireturn, 1), (179, .iload_n 2, 1), (180, .ireturn, 1), (181, .iload_n 3, 1), (182, .ireturn, 1), (183, .aload_n 0, 1), (184, .getfield 66, 3), (187, .ireturn, 1), (188, .iconst (-1), 1), (189, .ireturn, 1)]
theorem kX6_count_ok : ∀ q ∈ kX6_count, decode cX6_count q.1 = .ok q.2 := by decide +kernel
end
section
def kX2_add : List (Nat × Instr × Nat) := [(0, .bipush 24, 2), (2, .istore_n 2, 1), (3, .iload_n 2, 1), (4, .ifCond .lt 42, 3), (7, .aload_n 0, 1), (8, .getfield 19, 3), (11, .sipush 900, 3), (14, .if_icmp .ge 32, 3), (17, .aload_n 0, 1), (18, .getfield 15, 3), (21, .aload_n 0, 1), (22, .getfield 19, 3), (25, .iload_n 1, 1), (26, .iload_n 2, 1), (27, .ishr, 1), (28, .i2b, 1), (29, .bastore, 1), (30, .aload_n 0, 1), (31, .dup, 1), (32, .getfield 19, 3), (35, .iconst 1, 1), (36, .iadd, 1), (37, .putfield 19, 3), (40, .iinc 2 (-8), 3), (43, .goto (-40), 3), (46, .return_, 1)]
theorem kX2_add_ok : ∀ q ∈ kX2_add, decode cX2_add q.1 = .ok q.2 := by decide +kernel
def kX2_takeRun : List (Nat × Instr × Nat) := [(0, .aload_n 0, 1), (1, .getfield 25, 3), (4, .aload_n 0, 1), (5, .getfield 22, 3), (8, .if_icmp .ge 42, 3), (11, .aload_n 0, 1), (12, .getfield 15, 3), (15, .aload_n 0, 1), (16, .getfield 25, 3), (19, .baload, 1), (20, .iload_n 1, 1), (21, .if_icmp .lt 29, 3), (24, .aload_n 0, 1), (25, .getfield 15, 3), (28, .aload_n 0, 1), (29, .getfield 25, 3), (32, .baload, 1), (33, .iload_n 2, 1), (34, .if_icmp .gt 16, 3), (37, .aload_n 0, 1), (38, .dup, 1), (39, .getfield 25, 3), (42, .iconst 1, 1), (43, .iadd, 1), (44, .putfield 25, 3), (47, .goto (-47), 3), (50, .aload_n 0, 1), (51, .getfield 25, 3), (54, .aload_n 0, 1), (55, .getfield 135, 3), (58, .if_icmp .le 7, 3), (61, .iconst 1, 1), (62, .goto 4, 3), (65, .iconst 0, 1), (66, .ireturn, 1)]
theorem kX2_takeRun_ok : ∀ q ∈ kX2_takeRun, decode cX2_takeRun q.1 = .ok q.2 := by decide +kernel
def kX2_valueOfRun : List (Nat × Instr × Nat) := [(0, .iconst 0, 1), (1, .istore_n 1, 1), (2, .aload_n 0, 1), (3, .getfield 135, 3), (6, .istore_n 2, 1), (7, .iload_n 2, 1), (8, .aload_n 0, 1), (9, .getfield 25, 3), (12, .if_icmp .ge 34, 3), (15, .iload_n 2, 1), (16, .aload_n 0, 1), (17, .getfield 135, 3), (20, .iconst 4, 1), (21, .iadd, 1), (22, .if_icmp .ge 24, 3), (25, .iload_n 1, 1), (26, .bipush 10, 2), (28, .imul, 1), (29, .aload_n 0, 1), (30, .getfield 15, 3), (33, .iload_n 2, 1), (34, .baload, 1), (35, .iadd, 1), (36, .bipush 48, 2), (38, .isub, 1), (39, .istore_n 1, 1), (40, .iinc 2 1, 3), (43, .goto (-36), 3), (46, .iload_n 1, 1), (47, .ireturn, 1)]
theorem kX2_valueOfRun_ok : ∀ q ∈ kX2_valueOfRun, decode cX2_valueOfRun q.1 = .ok q.2 := by decide +kernel
def kX2_next : List (Nat × Instr × Nat) := [(0, .aload_n 0, 1), (1, .aload_n 0, 1), (2, .getfield 25, 3), (5, .putfield 135, 3), (8, .aload_n 0, 1), (9, .getfield 135, 3), (12, .aload_n 0, 1), (13, .getfield 22, 3), (16, .if_icmp .ge 44, 3), (19, .aload_n 0, 1), (20, .getfield 15, 3), (23, .aload_n 0, 1), (24, .getfield 135, 3), (27, .baload, 1), (28, .bipush 10, 2), (30, .if_icmp .eq 17, 3), (33, .aload_n 0, 1), (34, .getfield 15, 3), (37, .aload_n 0, 1), (38, .getfield 135, 3), (41, .baload, 1), (42, .bipush 32, 2), (44, .if_icmp .ne 16, 3), (47, .aload_n 0, 1), (48, .dup, 1), (49, .getfield 135, 3), (52, .iconst 1, 1), (53, .iadd, 1), (54, .putfield 135, 3), (57, .goto (-49), 3), (60, .aload_n 0, 1), (61, .aload_n 0, 1), (62, .getfield 135, 3), (65, .putfield 25, 3), (68, .aload_n 0, 1), (69, .getfield 135, 3), (72, .aload_n 0, 1), (73, .getfield 22, 3), (76, .if_icmp .lt 11, 3), (79, .aload_n 0, 1), (80, .iconst 1, 1), (81, .putfield 39, 3), (84, .goto 99, 3), (87, .aload_n 0, 1), (88, .bipush 97, 2), (90, .bipush 122, 2), (92, .invokevirtual 146, 3), (95, .ifCond .eq 11, 3), (98, .aload_n 0, 1), (99, .iconst 2, 1), (100, .putfield 39, 3), (103, .goto 80, 3), (106, .aload_n 0, 1), (107, .bipush 48, 2), (109, .bipush 57, 2), (111, .invokevirtual 146, 3), (114, .ifCond .eq 36, 3), (117, .aload_n 0, 1), (118, .aload_n 0, 1), (119, .getfield 25, 3), (122, .aload_n 0, 1), (123, .getfield 135, 3), (126, .isub, 1), (127, .iconst 4, 1), (128, .if_icmp .le 7, 3), (131, .iconst 0, 1), (132, .goto 4, 3), (135, .iconst 3, 1), (136, .putfield 39, 3), (139, .aload_n 0, 1), (140, .aload_n 0, 1), (141, .invokevirtual 149, 3), (144, .putfield 126, 3), (147, .goto 36, 3), (150, .aload_n 0, 1), (151, .aload_n 0, 1), (152, .getfield 15, 3), (155, .aload_n 0, 1), (156, .getfield 135, 3), (159, .baload, 1), (160, .bipush 59, 2), (162, .if_icmp .ne 7, 3), (165, .iconst 4, 1), (166, .goto 4, 3), (169, .iconst 0, 1), (170, .putfield 39, 3), (173, .aload_n 0, 1), (174, .aload_n 0, 1), (175, .getfield 135, 3), (178, .iconst 1, 1), (179, .iadd, 1), (180, .putfield 25, 3), (183, .return_, 1)]
theorem kX2_next_ok : ∀ q ∈ kX2_next, decode cX2_next q.1 = .ok q.2 := by decide +kernel
def kX2_isWord : List (Nat × Instr × Nat) := [(0, .aload_n 0, 1), (1, .getfield 39, 3), (4, .iconst 2, 1), (5, .if_icmp .ne 19, 3), (8, .aload_n 0, 1), (9, .getfield 25, 3), (12, .aload_n 0, 1), (13, .getfield 135, 3), (16, .isub, 1), (17, .aload_n 1, 1), (18, .invokevirtual 138, 3), (21, .if_icmp .eq 5, 3), (24, .iconst 0, 1), (25, .ireturn, 1), (26, .iconst 0, 1), (27, .istore_n 2, 1), (28, .iload_n 2, 1), (29, .aload_n 1, 1), (30, .invokevirtual 138, 3), (33, .if_icmp .ge 30, 3), (36, .aload_n 0, 1), (37, .getfield 15, 3), (40, .aload_n 0, 1), (41, .getfield 135, 3), (44, .iload_n 2, 1), (45, .iadd, 1), (46, .baload, 1), (47, .aload_n 1, 1), (48, .iload_n 2, 1), (49, .invokevirtual 142, 3), (52, .if_icmp .eq 5, 3), (55, .iconst 0, 1), (56, .ireturn, 1), (57, .iinc 2 1, 3), (60, .goto (-32), 3), (63, .iconst 1, 1), (64, .ireturn, 1)]
theorem kX2_isWord_ok : ∀ q ∈ kX2_isWord, decode cX2_isWord q.1 = .ok q.2 := by decide +kernel
def kX2_kindOfLine : List (Nat × Instr × Nat) := [(0, .aload_n 0, 1), (1, .ldc 60, 2), (3, .invokevirtual 62, 3), (6, .ifCond .eq 5, 3), (9, .iconst 0, 1), (10, .ireturn, 1), (11, .aload_n 0, 1), (12, .ldc 66, 2), (14, .invokevirtual 62, 3), (17, .ifCond .eq 5, 3), (20, .iconst 1, 1), (21, .ireturn, 1), (22, .aload_n 0, 1), (23, .ldc 68, 2), (25, .invokevirtual 62, 3), (28, .ifCond .eq 5, 3), (31, .iconst 2, 1), (32, .ireturn, 1), (33, .aload_n 0, 1), (34, .ldc 70, 2), (36, .invokevirtual 62, 3), (39, .ifCond .eq 5, 3), (42, .iconst 3, 1), (43, .ireturn, 1), (44, .aload_n 0, 1), (45, .ldc 72, 2), (47, .invokevirtual 62, 3), (50, .ifCond .eq 5, 3), (53, .iconst 4, 1), (54, .ireturn, 1), (55, .aload_n 0, 1), (56, .ldc 74, 2), (58, .invokevirtual 62, 3), (61, .ifCond .eq 5, 3), (64, .iconst 5, 1), (65, .ireturn, 1), (66, .aload_n 0, 1), (67, .ldc 76, 2), (69, .invokevirtual 62, 3), (72, .ifCond .eq 8, 3), (75, .bipush 6, 2), (77, .goto 4, 3), (80, .iconst (-1), 1), (81, .ireturn, 1)]
theorem kX2_kindOfLine_ok : ∀ q ∈ kX2_kindOfLine, decode cX2_kindOfLine q.1 = .ok q.2 := by decide +kernel
def kX2_fails : List (Nat × Instr × Nat) := [(0, .aload_n 0, 1), (1, .aload_n 0, 1), (2, .getfield 39, 3), (5, .ifCond .ne 7, 3), (8, .iconst 1, 1), (9, .goto 4, 3), (12, .iload_n 1, 1), (13, .putfield 28, 3), (16, .aload_n 0, 1), (17, .aload_n 0, 1), (18, .getfield 135, 3), (21, .putfield 9, 3), (24, .iconst 0, 1), (25, .ireturn, 1)]
theorem kX2_fails_ok : ∀ q ∈ kX2_fails, decode cX2_fails q.1 = .ok q.2 := by decide +kernel
def kX2_begins : List (Nat × Instr × Nat) := [(0, .iload_n 1, 1), (1, .iconst (-1), 1), (2, .if_icmp .eq 14, 3), (5, .iload_n 1, 1), (6, .ifCond .eq 16, 3), (9, .aload_n 2, 1), (10, .getfield 78, 3), (13, .ifCond .ne 9, 3), (16, .aload_n 0, 1), (17, .iconst 2, 1), (18, .invokevirtual 80, 3), (21, .ireturn, 1), (22, .iload_n 1, 1), (23, .ifCond .ne 10, 3), (26, .aload_n 2, 1), (27, .getfield 78, 3), (30, .ifCond .gt 17, 3), (33, .iload_n 1, 1), (34, .iconst 2, 1), (35, .if_icmp .ne 18, 3), (38, .aload_n 2, 1), (39, .getfield 84, 3), (42, .bipush 10, 2), (44, .if_icmp .ne 9, 3), (47, .aload_n 0, 1), (48, .iconst 4, 1), (49, .invokevirtual 80, 3), (52, .ireturn, 1), (53, .aload_n 0, 1), (54, .invokevirtual 36, 3), (57, .iconst 1, 1), (58, .ireturn, 1)]
theorem kX2_begins_ok : ∀ q ∈ kX2_begins, decode cX2_begins q.1 = .ok q.2 := by decide +kernel
def kX2_takes : List (Nat × Instr × Nat) := [(0, .aload_n 0, 1), (1, .getfield 39, 3), (4, .iconst 3, 1), (5, .if_icmp .eq 9, 3), (8, .aload_n 0, 1), (9, .iconst 2, 1), (10, .invokevirtual 80, 3), (13, .ireturn, 1), (14, .aload_n 0, 1), (15, .getfield 126, 3), (18, .iload_n 1, 1), (19, .if_icmp .lt 11, 3), (22, .aload_n 0, 1), (23, .getfield 126, 3), (26, .iload_n 2, 1), (27, .if_icmp .le 9, 3), (30, .aload_n 0, 1), (31, .iconst 3, 1), (32, .invokevirtual 80, 3), (35, .ireturn, 1), (36, .aload_n 0, 1), (37, .aload_n 0, 1), (38, .getfield 126, 3), (41, .putfield 113, 3), (44, .aload_n 0, 1), (45, .invokevirtual 36, 3), (48, .iconst 1, 1), (49, .ireturn, 1)]
theorem kX2_takes_ok : ∀ q ∈ kX2_takes, decode cX2_takes q.1 = .ok q.2 := by decide +kernel
def kX2_readPeople : List (Nat × Instr × Nat) := [(0, .aload_n 0, 1), (1, .iconst 1, 1), (2, .bipush 6, 2), (4, .invokevirtual 109, 3), (7, .ifCond .ne 5, 3), (10, .iconst 0, 1), (11, .ireturn, 1), (12, .aload_n 1, 1), (13, .aload_n 0, 1), (14, .getfield 113, 3), (17, .putfield 78, 3), (20, .iconst 1, 1), (21, .ireturn, 1)]
theorem kX2_readPeople_ok : ∀ q ∈ kX2_readPeople, decode cX2_readPeople q.1 = .ok q.2 := by decide +kernel
def kX2_readCoins : List (Nat × Instr × Nat) := [(0, .aload_n 0, 1), (1, .iconst 0, 1), (2, .aload_n 1, 1), (3, .getfield 78, 3), (6, .iconst 1, 1), (7, .isub, 1), (8, .invokevirtual 109, 3), (11, .ifCond .ne 5, 3), (14, .iconst 0, 1), (15, .ireturn, 1), (16, .aload_n 0, 1), (17, .getfield 113, 3), (20, .istore_n 2, 1), (21, .aload_n 0, 1), (22, .iconst 0, 1), (23, .sipush 9999, 3), (26, .invokevirtual 109, 3), (29, .ifCond .ne 5, 3), (32, .iconst 0, 1), (33, .ireturn, 1), (34, .aload_n 1, 1), (35, .getfield 116, 3), (38, .iload_n 2, 1), (39, .aload_n 0, 1), (40, .getfield 113, 3), (43, .iastore, 1), (44, .iconst 1, 1), (45, .ireturn, 1)]
theorem kX2_readCoins_ok : ∀ q ∈ kX2_readCoins, decode cX2_readCoins q.1 = .ok q.2 := by decide +kernel
def kX2_readThing : List (Nat × Instr × Nat) := [(0, .aload_n 0, 1), (1, .iconst 0, 1), (2, .aload_n 1, 1), (3, .getfield 78, 3), (6, .iconst 1, 1), (7, .isub, 1), (8, .invokevirtual 109, 3), (11, .ifCond .ne 5, 3), (14, .iconst 0, 1), (15, .ireturn, 1), (16, .aload_n 1, 1), (17, .getfield 119, 3), (20, .aload_n 1, 1), (21, .getfield 84, 3), (24, .aload_n 0, 1), (25, .getfield 113, 3), (28, .iastore, 1), (29, .iconst 0, 1), (30, .istore_n 2, 1), (31, .iload_n 2, 1), (32, .aload_n 1, 1), (33, .getfield 78, 3), (36, .if_icmp .ge 43, 3), (39, .aload_n 0, 1), (40, .getfield 39, 3), (43, .iconst 3, 1), (44, .if_icmp .ne 35, 3), (47, .aload_n 0, 1), (48, .iconst 0, 1), (49, .sipush 999, 3), (52, .invokevirtual 109, 3), (55, .ifCond .ne 5, 3), (58, .iconst 0, 1), (59, .ireturn, 1), (60, .aload_n 1, 1), (61, .aload_n 1, 1), (62, .getfield 84, 3), (65, .iload_n 2, 1), (66, .aload_n 0, 1), (67, .getfield 113, 3), (70, .invokevirtual 122, 3), (73, .iinc 2 1, 3), (76, .goto (-45), 3), (79, .aload_n 1, 1), (80, .dup, 1), (81, .getfield 84, 3), (84, .iconst 1, 1), (85, .iadd, 1), (86, .putfield 84, 3), (89, .aload_n 0, 1), (90, .getfield 39, 3), (93, .iconst 3, 1), (94, .if_icmp .ne 25, 3), (97, .aload_n 0, 1), (98, .aload_n 0, 1), (99, .getfield 126, 3), (102, .sipush 999, 3), (105, .if_icmp .le 7, 3), (108, .iconst 3, 1), (109, .goto 4, 3), (112, .iconst 4, 1), (113, .invokevirtual 80, 3), (116, .ifCond .eq 7, 3), (119, .iconst 1, 1), (120, .goto 4, 3), (123, .iconst 0, 1), (124, .ireturn, 1)]
theorem kX2_readThing_ok : ∀ q ∈ kX2_readThing, decode cX2_readThing q.1 = .ok q.2 := by decide +kernel
def kX2_readWorth : List (Nat × Instr × Nat) := [(0, .aload_n 0, 1), (1, .iconst 0, 1), (2, .aload_n 1, 1), (3, .getfield 84, 3), (6, .iconst 1, 1), (7, .isub, 1), (8, .invokevirtual 109, 3), (11, .ifCond .ne 5, 3), (14, .iconst 0, 1), (15, .ireturn, 1), (16, .aload_n 0, 1), (17, .getfield 113, 3), (20, .istore_n 2, 1), (21, .aload_n 0, 1), (22, .iconst 0, 1), (23, .aload_n 1, 1), (24, .getfield 78, 3), (27, .iconst 1, 1), (28, .isub, 1), (29, .invokevirtual 109, 3), (32, .ifCond .ne 5, 3), (35, .iconst 0, 1), (36, .ireturn, 1), (37, .aload_n 0, 1), (38, .getfield 113, 3), (41, .istore_n 3, 1), (42, .aload_n 0, 1), (43, .iconst 0, 1), (44, .sipush 999, 3), (47, .invokevirtual 109, 3), (50, .ifCond .ne 5, 3), (53, .iconst 0, 1), (54, .ireturn, 1), (55, .aload_n 1, 1), (56, .iload_n 2, 1), (57, .iload_n 3, 1), (58, .aload_n 0, 1), (59, .getfield 113, 3), (62, .invokevirtual 122, 3), (65, .iconst 1, 1), (66, .ireturn, 1)]
theorem kX2_readWorth_ok : ∀ q ∈ kX2_readWorth, decode cX2_readWorth q.1 = .ok q.2 := by decide +kernel
def kX2_readShare : List (Nat × Instr × Nat) := [(0, .aload_n 0, 1), (1, .iconst 0, 1), (2, .bipush 100, 2), (4, .invokevirtual 109, 3), (7, .ifCond .ne 5, 3), (10, .iconst 0, 1), (11, .ireturn, 1), (12, .aload_n 1, 1), (13, .aload_n 0, 1), (14, .getfield 113, 3), (17, .putfield 129, 3), (20, .iconst 1, 1), (21, .ireturn, 1)]
theorem kX2_readShare_ok : ∀ q ∈ kX2_readShare, decode cX2_readShare q.1 = .ok q.2 := by decide +kernel
def kX2_readBell : List (Nat × Instr × Nat) := [(0, .aload_n 0, 1), (1, .iconst 1, 1), (2, .sipush 999, 3), (5, .invokevirtual 109, 3), (8, .ifCond .ne 5, 3), (11, .iconst 0, 1), (12, .ireturn, 1), (13, .aload_n 1, 1), (14, .aload_n 0, 1), (15, .getfield 113, 3), (18, .putfield 131, 3), (21, .iconst 1, 1), (22, .ireturn, 1)]
theorem kX2_readBell_ok : ∀ q ∈ kX2_readBell, decode cX2_readBell q.1 = .ok q.2 := by decide +kernel
def kX2_readEaten : List (Nat × Instr × Nat) := [(0, .aload_n 0, 1), (1, .iconst 0, 1), (2, .aload_n 1, 1), (3, .getfield 84, 3), (6, .iconst 1, 1), (7, .isub, 1), (8, .invokevirtual 109, 3), (11, .ifCond .ne 5, 3), (14, .iconst 0, 1), (15, .ireturn, 1), (16, .aload_n 1, 1), (17, .dup, 1), (18, .getfield 133, 3), (21, .iconst 1, 1), (22, .aload_n 0, 1), (23, .getfield 113, 3), (26, .ishl, 1), (27, .ior, 1), (28, .putfield 133, 3), (31, .iconst 1, 1), (32, .ireturn, 1)]
theorem kX2_readEaten_ok : ∀ q ∈ kX2_readEaten, decode cX2_readEaten q.1 = .ok q.2 := by decide +kernel
def kX2_readNumbers : List (Nat × Instr × Nat) := [(0, .iload_n 1, 1), (1, .tableswitch 75 0 5 #[39, 45, 51, 57, 63, 69], 39), (40, .aload_n 0, 1), (41, .aload_n 2, 1), (42, .invokevirtual 87, 3), (45, .ireturn, 1), (46, .aload_n 0, 1), (47, .aload_n 2, 1), (48, .invokevirtual 91, 3), (51, .ireturn, 1), (52, .aload_n 0, 1), (53, .aload_n 2, 1), (54, .invokevirtual 94, 3), (57, .ireturn, 1), (58, .aload_n 0, 1), (59, .aload_n 2, 1), (60, .invokevirtual 97, 3), (63, .ireturn, 1), (64, .aload_n 0, 1), (65, .aload_n 2, 1), (66, .invokevirtual 100, 3), (69, .ireturn, 1), (70, .aload_n 0, 1), (71, .aload_n 2, 1), (72, .invokevirtual 103, 3), (75, .ireturn, 1), (76, .aload_n 0, 1), (77, .aload_n 2, 1), (78, .invokevirtual 106, 3), (81, .ireturn, 1)]
theorem kX2_readNumbers_ok : ∀ q ∈ kX2_readNumbers, decode cX2_readNumbers q.1 = .ok q.2 := by decide +kernel
def kX2_closes : List (Nat × Instr × Nat) := [(0, .aload_n 0, 1), (1, .getfield 39, 3), (4, .iconst 4, 1), (5, .if_icmp .eq 9, 3), (8, .aload_n 0, 1), (9, .iconst 2, 1), (10, .invokevirtual 80, 3), (13, .ireturn, 1), (14, .aload_n 0, 1), (15, .invokevirtual 36, 3), (18, .iconst 1, 1), (19, .ireturn, 1)]
theorem kX2_closes_ok : ∀ q ∈ kX2_closes, decode cX2_closes q.1 = .ok q.2 := by decide +kernel
def kX2_read : List (Nat × Instr × Nat) := [(0, .aload_n 0, 1), (1, .iload_n 1, 1), (2, .putfield 22, 3), (5, .aload_n 0, 1), (6, .iconst 0, 1), (7, .putfield 25, 3), (10, .aload_n 0, 1), (11, .iconst 0, 1), (12, .putfield 28, 3), (15, .aload_n 0, 1), (16, .iconst (-1), 1), (17, .putfield 9, 3), (20, .aload_n 2, 1), (21, .invokevirtual 31, 3), (24, .aload_n 0, 1), (25, .invokevirtual 36, 3), (28, .iconst 0, 1), (29, .istore_n 3, 1), (30, .iload_n 3, 1), (31, .sipush 900, 3), (34, .if_icmp .ge 62, 3), (37, .aload_n 0, 1), (38, .getfield 39, 3), (41, .iconst 1, 1), (42, .if_icmp .eq 54, 3), (45, .aload_n 0, 1), (46, .invokevirtual 42, 3), (49, .istore 4, 2), (51, .aload_n 0, 1), (52, .iload 4, 2), (54, .aload_n 2, 1), (55, .invokevirtual 46, 3), (58, .ifCond .eq 20, 3), (61, .aload_n 0, 1), (62, .iload 4, 2), (64, .aload_n 2, 1), (65, .invokevirtual 50, 3), (68, .ifCond .eq 10, 3), (71, .aload_n 0, 1), (72, .invokevirtual 53, 3), (75, .ifCond .ne 5, 3), (78, .iconst 0, 1), (79, .ireturn, 1), (80, .aload_n 2, 1), (81, .dup, 1), (82, .getfield 57, 3), (85, .iconst 1, 1), (86, .iadd, 1), (87, .putfield 57, 3), (90, .iinc 3 1, 3), (93, .goto (-63), 3), (96, .iconst 1, 1), (97, .ireturn, 1)]
theorem kX2_read_ok : ∀ q ∈ kX2_read, decode cX2_read q.1 = .ok q.2 := by decide +kernel
end
section
def kJ6_bitCount_0f7a4 : List (Nat × Instr × Nat) := [(0, .iload_n 0, 1), (1, .iload_n 0, 1), (2, .iconst 1, 1), (3, .iushr, 1), (4, .ldc_w 265, 3), (7, .iand, 1), (8, .isub, 1), (9, .istore_n 0, 1), (10, .iload_n 0, 1), (11, .ldc_w 266, 3), (14, .iand, 1), (15, .iload_n 0, 1), (16, .iconst 2, 1), (17, .iushr, 1), (18, .ldc_w 266, 3), (21, .iand, 1), (22, .iadd, 1), (23, .istore_n 0, 1), (24, .iload_n 0, 1), (25, .iload_n 0, 1), (26, .iconst 4, 1), (27, .iushr, 1), (28, .iadd, 1), (29, .ldc_w 267, 3), (32, .iand, 1), (33, .istore_n 0, 1), (34, .iload_n 0, 1), (35, .iload_n 0, 1), (36, .bipush 8, 2), (38, .iushr, 1), (39, .iadd, 1), (40, .istore_n 0, 1), (41, .iload_n 0, 1), (42, .iload_n 0, 1), (43, .bipush 16, 2), (45, .iushr, 1), (46, .iadd, 1), (47, .istore_n 0, 1), (48, .iload_n 0, 1), (49, .bipush 63, 2), (51, .iand, 1), (52, .ireturn, 1)]
theorem kJ6_bitCount_0f7a4_ok : ∀ q ∈ kJ6_bitCount_0f7a4, decode cJ6_bitCount_0f7a4 q.1 = .ok q.2 := by decide +kernel
def kJ7_fill_53178 : List (Nat × Instr × Nat) := [(0, .iconst 0, 1), (1, .istore_n 2, 1), (2, .aload_n 0, 1), (3, .arraylength, 1), (4, .istore_n 3, 1), (5, .iload_n 2, 1), (6, .iload_n 3, 1), (7, .if_icmp .ge 13, 3), (10, .aload_n 0, 1), (11, .iload_n 2, 1), (12, .iload_n 1, 1), (13, .iastore, 1), (14, .iinc 2 1, 3), (17, .goto (-12), 3), (20, .return_, 1)]
theorem kJ7_fill_53178_ok : ∀ q ∈ kJ7_fill_53178, decode cJ7_fill_53178 q.1 = .ok q.2 := by decide +kernel
def kJ7_fill_d0a16 : List (Nat × Instr × Nat) := [(0, .iconst 0, 1), (1, .istore_n 3, 1), (2, .aload_n 0, 1), (3, .arraylength, 1), (4, .istore 4, 2), (6, .iload_n 3, 1), (7, .iload 4, 2), (9, .if_icmp .ge 13, 3), (12, .aload_n 0, 1), (13, .iload_n 3, 1), (14, .lload_n 1, 1), (15, .lastore, 1), (16, .iinc 3 1, 3), (19, .goto (-13), 3), (22, .return_, 1)]
theorem kJ7_fill_d0a16_ok : ∀ q ∈ kJ7_fill_d0a16, decode cJ7_fill_d0a16 q.1 = .ok q.2 := by decide +kernel
def kX3_clear : List (Nat × Instr × Nat) := [(0, .aload_n 0, 1), (1, .iconst 0, 1), (2, .putfield 43, 3), (5, .aload_n 0, 1), (6, .iconst 0, 1), (7, .putfield 46, 3), (10, .aload_n 0, 1), (11, .iconst 0, 1), (12, .putfield 49, 3), (15, .aload_n 0, 1), (16, .iconst 0, 1), (17, .putfield 52, 3), (20, .aload_n 0, 1), (21, .bipush 50, 2), (23, .putfield 9, 3), (26, .aload_n 0, 1), (27, .sipush 720, 3), (30, .putfield 15, 3), (33, .aload_n 0, 1), (34, .iconst 0, 1), (35, .putfield 55, 3), (38, .aload_n 0, 1), (39, .iconst 0, 1), (40, .putfield 58, 3), (43, .aload_n 0, 1), (44, .iconst 0, 1), (45, .putfield 61, 3), (48, .aload_n 0, 1), (49, .getfield 18, 3), (52, .iconst 0, 1), (53, .invokestatic 64, 3), (56, .aload_n 0, 1), (57, .getfield 25, 3), (60, .iconst 0, 1), (61, .invokestatic 64, 3), (64, .return_, 1)]
theorem kX3_clear_ok : ∀ q ∈ kX3_clear, decode cX3_clear q.1 = .ok q.2 := by decide +kernel
def kX3_hasPerson : List (Nat × Instr × Nat) := [(0, .iload_n 1, 1), (1, .ifCond .lt 15, 3), (4, .iload_n 1, 1), (5, .aload_n 0, 1), (6, .getfield 46, 3), (9, .if_icmp .ge 7, 3), (12, .iconst 1, 1), (13, .goto 4, 3), (16, .iconst 0, 1), (17, .ireturn, 1)]
theorem kX3_hasPerson_ok : ∀ q ∈ kX3_hasPerson, decode cX3_hasPerson q.1 = .ok q.2 := by decide +kernel
def kX3_hasThing : List (Nat × Instr × Nat) := [(0, .iload_n 1, 1), (1, .ifCond .lt 15, 3), (4, .iload_n 1, 1), (5, .aload_n 0, 1), (6, .getfield 49, 3), (9, .if_icmp .ge 7, 3), (12, .iconst 1, 1), (13, .goto 4, 3), (16, .iconst 0, 1), (17, .ireturn, 1)]
theorem kX3_hasThing_ok : ∀ q ∈ kX3_hasThing, decode cX3_hasThing q.1 = .ok q.2 := by decide +kernel
def kX3_hasDeed : List (Nat × Instr × Nat) := [(0, .iload_n 1, 1), (1, .ifCond .lt 15, 3), (4, .iload_n 1, 1), (5, .aload_n 0, 1), (6, .getfield 58, 3), (9, .if_icmp .ge 7, 3), (12, .iconst 1, 1), (13, .goto 4, 3), (16, .iconst 0, 1), (17, .ireturn, 1)]
theorem kX3_hasDeed_ok : ∀ q ∈ kX3_hasDeed, decode cX3_hasDeed q.1 = .ok q.2 := by decide +kernel
def kX3_hasRung : List (Nat × Instr × Nat) := [(0, .aload_n 0, 1), (1, .getfield 55, 3), (4, .aload_n 0, 1), (5, .getfield 15, 3), (8, .if_icmp .lt 7, 3), (11, .iconst 1, 1), (12, .goto 4, 3), (15, .iconst 0, 1), (16, .ireturn, 1)]
theorem kX3_hasRung_ok : ∀ q ∈ kX3_hasRung, decode cX3_hasRung q.1 = .ok q.2 := by decide +kernel
def kX3_isEaten : List (Nat × Instr × Nat) := [(0, .aload_n 0, 1), (1, .getfield 52, 3), (4, .iload_n 1, 1), (5, .ishr, 1), (6, .iconst 1, 1), (7, .iand, 1), (8, .iconst 1, 1), (9, .if_icmp .ne 7, 3), (12, .iconst 1, 1), (13, .goto 4, 3), (16, .iconst 0, 1), (17, .ireturn, 1)]
theorem kX3_isEaten_ok : ∀ q ∈ kX3_isEaten, decode cX3_isEaten q.1 = .ok q.2 := by decide +kernel
def kX3_stands : List (Nat × Instr × Nat) := [(0, .aload_n 0, 1), (1, .getfield 61, 3), (4, .iload_n 1, 1), (5, .ishr, 1), (6, .iconst 1, 1), (7, .iand, 1), (8, .iconst 1, 1), (9, .if_icmp .ne 7, 3), (12, .iconst 1, 1), (13, .goto 4, 3), (16, .iconst 0, 1), (17, .ireturn, 1)]
theorem kX3_stands_ok : ∀ q ∈ kX3_stands, decode cX3_stands q.1 = .ok q.2 := by decide +kernel
def kX3_isOpen : List (Nat × Instr × Nat) := [(0, .aload_n 0, 1), (1, .invokevirtual 76, 3), (4, .ifCond .ne 28, 3), (7, .aload_n 0, 1), (8, .iload_n 1, 1), (9, .invokevirtual 80, 3), (12, .ifCond .eq 20, 3), (15, .aload_n 0, 1), (16, .aload_n 0, 1), (17, .getfield 28, 3), (20, .iload_n 1, 1), (21, .iaload, 1), (22, .invokevirtual 84, 3), (25, .ifCond .ne 7, 3), (28, .iconst 1, 1), (29, .goto 4, 3), (32, .iconst 0, 1), (33, .ireturn, 1)]
theorem kX3_isOpen_ok : ∀ q ∈ kX3_isOpen, decode cX3_isOpen q.1 = .ok q.2 := by decide +kernel
def kX3_isOf : List (Nat × Instr × Nat) := [(0, .aload_n 0, 1), (1, .getfield 31, 3), (4, .iload_n 1, 1), (5, .iaload, 1), (6, .iload_n 2, 1), (7, .if_icmp .eq 13, 3), (10, .aload_n 0, 1), (11, .getfield 34, 3), (14, .iload_n 1, 1), (15, .iaload, 1), (16, .iload_n 2, 1), (17, .if_icmp .ne 7, 3), (20, .iconst 1, 1), (21, .goto 4, 3), (24, .iconst 0, 1), (25, .ireturn, 1)]
theorem kX3_isOf_ok : ∀ q ∈ kX3_isOf, decode cX3_isOf q.1 = .ok q.2 := by decide +kernel
def kX3_sideOf : List (Nat × Instr × Nat) := [(0, .iload_n 2, 1), (1, .ifCond .ne 12, 3), (4, .aload_n 0, 1), (5, .getfield 31, 3), (8, .iload_n 1, 1), (9, .iaload, 1), (10, .goto 9, 3), (13, .aload_n 0, 1), (14, .getfield 34, 3), (17, .iload_n 1, 1), (18, .iaload, 1), (19, .ireturn, 1)]
theorem kX3_sideOf_ok : ∀ q ∈ kX3_sideOf, decode cX3_sideOf q.1 = .ok q.2 := by decide +kernel
def kX3_openBits : List (Nat × Instr × Nat) := [(0, .iconst 0, 1), (1, .istore_n 1, 1), (2, .iconst 0, 1), (3, .istore_n 2, 1), (4, .iload_n 2, 1), (5, .aload_n 0, 1), (6, .getfield 58, 3), (9, .if_icmp .ge 23, 3), (12, .aload_n 0, 1), (13, .iload_n 2, 1), (14, .invokevirtual 87, 3), (17, .ifCond .eq 9, 3), (20, .iload_n 1, 1), (21, .iconst 1, 1), (22, .iload_n 2, 1), (23, .ishl, 1), (24, .ior, 1), (25, .istore_n 1, 1), (26, .iinc 2 1, 3), (29, .goto (-25), 3), (32, .iload_n 1, 1), (33, .ireturn, 1)]
theorem kX3_openBits_ok : ∀ q ∈ kX3_openBits, decode cX3_openBits q.1 = .ok q.2 := by decide +kernel
def kX3_worthTo : List (Nat × Instr × Nat) := [(0, .aload_n 0, 1), (1, .getfield 25, 3), (4, .iload_n 1, 1), (5, .bipush 6, 2), (7, .imul, 1), (8, .iload_n 2, 1), (9, .iadd, 1), (10, .iaload, 1), (11, .ireturn, 1)]
theorem kX3_worthTo_ok : ∀ q ∈ kX3_worthTo, decode cX3_worthTo q.1 = .ok q.2 := by decide +kernel
def kX3_setWorth : List (Nat × Instr × Nat) := [(0, .aload_n 0, 1), (1, .getfield 25, 3), (4, .iload_n 1, 1), (5, .bipush 6, 2), (7, .imul, 1), (8, .iload_n 2, 1), (9, .iadd, 1), (10, .iload_n 3, 1), (11, .iastore, 1), (12, .return_, 1)]
theorem kX3_setWorth_ok : ∀ q ∈ kX3_setWorth, decode cX3_setWorth q.1 = .ok q.2 := by decide +kernel
def kX3_held : List (Nat × Instr × Nat) := [(0, .iconst 0, 1), (1, .istore_n 2, 1), (2, .iconst 0, 1), (3, .istore_n 3, 1), (4, .iload_n 3, 1), (5, .aload_n 0, 1), (6, .getfield 49, 3), (9, .if_icmp .ge 22, 3), (12, .aload_n 0, 1), (13, .getfield 22, 3), (16, .iload_n 3, 1), (17, .iaload, 1), (18, .iload_n 1, 1), (19, .if_icmp .ne 6, 3), (22, .iinc 2 1, 3), (25, .iinc 3 1, 3), (28, .goto (-24), 3), (31, .iload_n 2, 1), (32, .ireturn, 1)]
theorem kX3_held_ok : ∀ q ∈ kX3_held, decode cX3_held q.1 = .ok q.2 := by decide +kernel
def kX3_wealth : List (Nat × Instr × Nat) := [(0, .aload_n 0, 1), (1, .getfield 18, 3), (4, .iload_n 1, 1), (5, .iaload, 1), (6, .istore_n 2, 1), (7, .iconst 0, 1), (8, .istore_n 3, 1), (9, .iload_n 3, 1), (10, .aload_n 0, 1), (11, .getfield 49, 3), (14, .if_icmp .ge 28, 3), (17, .aload_n 0, 1), (18, .getfield 22, 3), (21, .iload_n 3, 1), (22, .iaload, 1), (23, .iload_n 1, 1), (24, .if_icmp .ne 12, 3), (27, .iload_n 2, 1), (28, .aload_n 0, 1), (29, .iload_n 3, 1), (30, .iload_n 1, 1), (31, .invokevirtual 90, 3), (34, .iadd, 1), (35, .istore_n 2, 1), (36, .iinc 3 1, 3), (39, .goto (-30), 3), (42, .iload_n 2, 1), (43, .ireturn, 1)]
theorem kX3_wealth_ok : ∀ q ∈ kX3_wealth, decode cX3_wealth q.1 = .ok q.2 := by decide +kernel
def kX3_coinsOfAll : List (Nat × Instr × Nat) := [(0, .iconst 0, 1), (1, .istore_n 1, 1), (2, .iconst 0, 1), (3, .istore_n 2, 1), (4, .iload_n 2, 1), (5, .aload_n 0, 1), (6, .getfield 46, 3), (9, .if_icmp .ge 18, 3), (12, .iload_n 1, 1), (13, .aload_n 0, 1), (14, .getfield 18, 3), (17, .iload_n 2, 1), (18, .iaload, 1), (19, .iadd, 1), (20, .istore_n 1, 1), (21, .iinc 2 1, 3), (24, .goto (-20), 3), (27, .iload_n 1, 1), (28, .ireturn, 1)]
theorem kX3_coinsOfAll_ok : ∀ q ∈ kX3_coinsOfAll, decode cX3_coinsOfAll q.1 = .ok q.2 := by decide +kernel
def kX3_wealthOfAll : List (Nat × Instr × Nat) := [(0, .iconst 0, 1), (1, .istore_n 1, 1), (2, .iconst 0, 1), (3, .istore_n 2, 1), (4, .iload_n 2, 1), (5, .aload_n 0, 1), (6, .getfield 46, 3), (9, .if_icmp .ge 17, 3), (12, .iload_n 1, 1), (13, .aload_n 0, 1), (14, .iload_n 2, 1), (15, .invokevirtual 94, 3), (18, .iadd, 1), (19, .istore_n 1, 1), (20, .iinc 2 1, 3), (23, .goto (-19), 3), (26, .iload_n 1, 1), (27, .ireturn, 1)]
theorem kX3_wealthOfAll_ok : ∀ q ∈ kX3_wealthOfAll, decode cX3_wealthOfAll q.1 = .ok q.2 := by decide +kernel
def kX3_worthToGiver : List (Nat × Instr × Nat) := [(0, .iconst 0, 1), (1, .aload_n 0, 1), (2, .getfield 37, 3), (5, .iload_n 1, 1), (6, .iaload, 1), (7, .aload_n 0, 1), (8, .aload_n 0, 1), (9, .getfield 28, 3), (12, .iload_n 1, 1), (13, .iaload, 1), (14, .aload_n 0, 1), (15, .getfield 31, 3), (18, .iload_n 1, 1), (19, .iaload, 1), (20, .invokevirtual 90, 3), (23, .isub, 1), (24, .invokestatic 98, 3), (27, .ireturn, 1)]
theorem kX3_worthToGiver_ok : ∀ q ∈ kX3_worthToGiver, decode cX3_worthToGiver q.1 = .ok q.2 := by decide +kernel
def kX3_worthToTaker : List (Nat × Instr × Nat) := [(0, .iconst 0, 1), (1, .aload_n 0, 1), (2, .aload_n 0, 1), (3, .getfield 28, 3), (6, .iload_n 1, 1), (7, .iaload, 1), (8, .aload_n 0, 1), (9, .getfield 34, 3), (12, .iload_n 1, 1), (13, .iaload, 1), (14, .invokevirtual 90, 3), (17, .aload_n 0, 1), (18, .getfield 37, 3), (21, .iload_n 1, 1), (22, .iaload, 1), (23, .isub, 1), (24, .invokestatic 98, 3), (27, .ireturn, 1)]
theorem kX3_worthToTaker_ok : ∀ q ∈ kX3_worthToTaker, decode cX3_worthToTaker q.1 = .ok q.2 := by decide +kernel
def kX3_cut : List (Nat × Instr × Nat) := [(0, .aload_n 0, 1), (1, .getfield 9, 3), (4, .iload_n 1, 1), (5, .imul, 1), (6, .bipush 100, 2), (8, .idiv, 1), (9, .ireturn, 1)]
theorem kX3_cut_ok : ∀ q ∈ kX3_cut, decode cX3_cut q.1 = .ok q.2 := by decide +kernel
def kX3_whyNoDeed : List (Nat × Instr × Nat) := [(0, .aload_n 0, 1), (1, .iload_n 1, 1), (2, .invokevirtual 103, 3), (5, .ifCond .eq 21, 3), (8, .aload_n 0, 1), (9, .iload_n 2, 1), (10, .invokevirtual 106, 3), (13, .ifCond .eq 13, 3), (16, .aload_n 0, 1), (17, .getfield 22, 3), (20, .iload_n 1, 1), (21, .iaload, 1), (22, .iload_n 2, 1), (23, .if_icmp .ne 5, 3), (26, .iconst 1, 1), (27, .ireturn, 1), (28, .iload_n 3, 1), (29, .ifCond .lt 10, 3), (32, .iload_n 3, 1), (33, .sipush 9999, 3), (36, .if_icmp .le 5, 3), (39, .iconst 2, 1), (40, .ireturn, 1), (41, .aload_n 0, 1), (42, .getfield 18, 3), (45, .iload_n 2, 1), (46, .iaload, 1), (47, .iload_n 3, 1), (48, .if_icmp .ge 5, 3), (51, .iconst 3, 1), (52, .ireturn, 1), (53, .aload_n 0, 1), (54, .invokevirtual 76, 3), (57, .ifCond .eq 5, 3), (60, .iconst 4, 1), (61, .ireturn, 1), (62, .aload_n 0, 1), (63, .iload_n 1, 1), (64, .invokevirtual 84, 3), (67, .ifCond .eq 5, 3), (70, .iconst 5, 1), (71, .ireturn, 1), (72, .aload_n 0, 1), (73, .getfield 58, 3), (76, .bipush 30, 2), (78, .if_icmp .lt 8, 3), (81, .bipush 6, 2), (83, .goto 4, 3), (86, .iconst 0, 1), (87, .ireturn, 1)]
theorem kX3_whyNoDeed_ok : ∀ q ∈ kX3_whyNoDeed, decode cX3_whyNoDeed q.1 = .ok q.2 := by decide +kernel
def kX3_make : List (Nat × Instr × Nat) := [(0, .aload_n 0, 1), (1, .getfield 58, 3), (4, .istore 4, 2), (6, .aload_n 0, 1), (7, .getfield 28, 3), (10, .iload 4, 2), (12, .iload_n 1, 1), (13, .iastore, 1), (14, .aload_n 0, 1), (15, .getfield 31, 3), (18, .iload 4, 2), (20, .aload_n 0, 1), (21, .getfield 22, 3), (24, .iload_n 1, 1), (25, .iaload, 1), (26, .iastore, 1), (27, .aload_n 0, 1), (28, .getfield 34, 3), (31, .iload 4, 2), (33, .iload_n 2, 1), (34, .iastore, 1), (35, .aload_n 0, 1), (36, .getfield 37, 3), (39, .iload 4, 2), (41, .iload_n 3, 1), (42, .iastore, 1), (43, .aload_n 0, 1), (44, .getfield 40, 3), (47, .iload 4, 2), (49, .aload_n 0, 1), (50, .getfield 55, 3), (53, .iastore, 1), (54, .aload_n 0, 1), (55, .dup, 1), (56, .getfield 61, 3), (59, .iconst 1, 1), (60, .iload 4, 2), (62, .ishl, 1), (63, .ior, 1), (64, .putfield 61, 3), (67, .aload_n 0, 1), (68, .dup, 1), (69, .getfield 58, 3), (72, .iconst 1, 1), (73, .iadd, 1), (74, .putfield 58, 3), (77, .aload_n 0, 1), (78, .getfield 18, 3), (81, .iload_n 2, 1), (82, .dup2, 1), (83, .iaload, 1), (84, .iload_n 3, 1), (85, .isub, 1), (86, .iastore, 1), (87, .aload_n 0, 1), (88, .getfield 18, 3), (91, .aload_n 0, 1), (92, .getfield 22, 3), (95, .iload_n 1, 1), (96, .iaload, 1), (97, .dup2, 1), (98, .iaload, 1), (99, .iload_n 3, 1), (100, .iadd, 1), (101, .iastore, 1), (102, .aload_n 0, 1), (103, .getfield 22, 3), (106, .iload_n 1, 1), (107, .iload_n 2, 1), (108, .iastore, 1), (109, .iload 4, 2), (111, .ireturn, 1)]
theorem kX3_make_ok : ∀ q ∈ kX3_make, decode cX3_make q.1 = .ok q.2 := by decide +kernel
def kX3_fallsWith : List (Nat × Instr × Nat) := [(0, .iload_n 1, 1), (1, .iload_n 2, 1), (2, .if_icmp .lt 38, 3), (5, .aload_n 0, 1), (6, .iload_n 2, 1), (7, .invokevirtual 80, 3), (10, .ifCond .eq 30, 3), (13, .aload_n 0, 1), (14, .iload_n 1, 1), (15, .invokevirtual 80, 3), (18, .ifCond .eq 22, 3), (21, .aload_n 0, 1), (22, .getfield 28, 3), (25, .iload_n 1, 1), (26, .iaload, 1), (27, .aload_n 0, 1), (28, .getfield 28, 3), (31, .iload_n 2, 1), (32, .iaload, 1), (33, .if_icmp .ne 7, 3), (36, .iconst 1, 1), (37, .goto 4, 3), (40, .iconst 0, 1), (41, .ireturn, 1)]
theorem kX3_fallsWith_ok : ∀ q ∈ kX3_fallsWith, decode cX3_fallsWith q.1 = .ok q.2 := by decide +kernel
def kX3_priceChange : List (Nat × Instr × Nat) := [(0, .iconst 0, 1), (1, .istore_n 3, 1), (2, .iload_n 1, 1), (3, .istore 4, 2), (5, .iload 4, 2), (7, .aload_n 0, 1), (8, .getfield 58, 3), (11, .if_icmp .ge 69, 3), (14, .aload_n 0, 1), (15, .iload 4, 2), (17, .iload_n 1, 1), (18, .invokevirtual 134, 3), (21, .ifCond .eq 53, 3), (24, .iload_n 3, 1), (25, .aload_n 0, 1), (26, .getfield 34, 3), (29, .iload 4, 2), (31, .iaload, 1), (32, .iload_n 2, 1), (33, .if_icmp .ne 13, 3), (36, .aload_n 0, 1), (37, .getfield 37, 3), (40, .iload 4, 2), (42, .iaload, 1), (43, .goto 4, 3), (46, .iconst 0, 1), (47, .iadd, 1), (48, .istore_n 3, 1), (49, .iload_n 3, 1), (50, .aload_n 0, 1), (51, .getfield 31, 3), (54, .iload 4, 2), (56, .iaload, 1), (57, .iload_n 2, 1), (58, .if_icmp .ne 13, 3), (61, .aload_n 0, 1), (62, .getfield 37, 3), (65, .iload 4, 2), (67, .iaload, 1), (68, .goto 4, 3), (71, .iconst 0, 1), (72, .isub, 1), (73, .istore_n 3, 1), (74, .iinc 4 1, 3), (77, .goto (-72), 3), (80, .iload_n 3, 1), (81, .ireturn, 1)]
theorem kX3_priceChange_ok : ∀ q ∈ kX3_priceChange, decode cX3_priceChange q.1 = .ok q.2 := by decide +kernel
def kX3_owedToAll : List (Nat × Instr × Nat) := [(0, .iconst 0, 1), (1, .istore_n 3, 1), (2, .iload_n 1, 1), (3, .istore 4, 2), (5, .iload 4, 2), (7, .aload_n 0, 1), (8, .getfield 58, 3), (11, .if_icmp .ge 75, 3), (14, .aload_n 0, 1), (15, .iload 4, 2), (17, .iload_n 1, 1), (18, .invokevirtual 134, 3), (21, .ifCond .eq 59, 3), (24, .iload_n 3, 1), (25, .aload_n 0, 1), (26, .getfield 31, 3), (29, .iload 4, 2), (31, .iaload, 1), (32, .iload_n 2, 1), (33, .if_icmp .ne 7, 3), (36, .iconst 0, 1), (37, .goto 13, 3), (40, .aload_n 0, 1), (41, .aload_n 0, 1), (42, .iload 4, 2), (44, .invokevirtual 137, 3), (47, .invokevirtual 140, 3), (50, .iadd, 1), (51, .istore_n 3, 1), (52, .iload_n 3, 1), (53, .aload_n 0, 1), (54, .getfield 34, 3), (57, .iload 4, 2), (59, .iaload, 1), (60, .iload_n 2, 1), (61, .if_icmp .ne 7, 3), (64, .iconst 0, 1), (65, .goto 13, 3), (68, .aload_n 0, 1), (69, .aload_n 0, 1), (70, .iload 4, 2), (72, .invokevirtual 143, 3), (75, .invokevirtual 140, 3), (78, .iadd, 1), (79, .istore_n 3, 1), (80, .iinc 4 1, 3), (83, .goto (-78), 3), (86, .iload_n 3, 1), (87, .ireturn, 1)]
theorem kX3_owedToAll_ok : ∀ q ∈ kX3_owedToAll, decode cX3_owedToAll q.1 = .ok q.2 := by decide +kernel
def kX3_whyNoUndoing : List (Nat × Instr × Nat) := [(0, .aload_n 0, 1), (1, .iload_n 1, 1), (2, .invokevirtual 109, 3), (5, .ifCond .ne 5, 3), (8, .iconst 1, 1), (9, .ireturn, 1), (10, .aload_n 0, 1), (11, .iload_n 1, 1), (12, .invokevirtual 80, 3), (15, .ifCond .ne 5, 3), (18, .iconst 2, 1), (19, .ireturn, 1), (20, .aload_n 0, 1), (21, .iload_n 1, 1), (22, .iload_n 2, 1), (23, .invokevirtual 112, 3), (26, .ifCond .ne 5, 3), (29, .iconst 3, 1), (30, .ireturn, 1), (31, .aload_n 0, 1), (32, .invokevirtual 76, 3), (35, .ifCond .eq 5, 3), (38, .iconst 4, 1), (39, .ireturn, 1), (40, .aload_n 0, 1), (41, .aload_n 0, 1), (42, .getfield 28, 3), (45, .iload_n 1, 1), (46, .iaload, 1), (47, .invokevirtual 84, 3), (50, .ifCond .eq 5, 3), (53, .iconst 5, 1), (54, .ireturn, 1), (55, .aload_n 0, 1), (56, .getfield 18, 3), (59, .iload_n 2, 1), (60, .iaload, 1), (61, .aload_n 0, 1), (62, .iload_n 1, 1), (63, .iload_n 2, 1), (64, .invokevirtual 116, 3), (67, .iadd, 1), (68, .aload_n 0, 1), (69, .iload_n 1, 1), (70, .iload_n 2, 1), (71, .invokevirtual 119, 3), (74, .isub, 1), (75, .ifCond .ge 8, 3), (78, .bipush 6, 2), (80, .goto 4, 3), (83, .iconst 0, 1), (84, .ireturn, 1)]
theorem kX3_whyNoUndoing_ok : ∀ q ∈ kX3_whyNoUndoing, decode cX3_whyNoUndoing q.1 = .ok q.2 := by decide +kernel
def kX3_fallBits : List (Nat × Instr × Nat) := [(0, .iconst 0, 1), (1, .istore_n 2, 1), (2, .iload_n 1, 1), (3, .istore_n 3, 1), (4, .iload_n 3, 1), (5, .aload_n 0, 1), (6, .getfield 58, 3), (9, .if_icmp .ge 24, 3), (12, .aload_n 0, 1), (13, .iload_n 3, 1), (14, .iload_n 1, 1), (15, .invokevirtual 134, 3), (18, .ifCond .eq 9, 3), (21, .iload_n 2, 1), (22, .iconst 1, 1), (23, .iload_n 3, 1), (24, .ishl, 1), (25, .ior, 1), (26, .istore_n 2, 1), (27, .iinc 3 1, 3), (30, .goto (-26), 3), (33, .iload_n 2, 1), (34, .ireturn, 1)]
theorem kX3_fallBits_ok : ∀ q ∈ kX3_fallBits, decode cX3_fallBits q.1 = .ok q.2 := by decide +kernel
def kX3_owedTo : List (Nat × Instr × Nat) := [(0, .iconst 0, 1), (1, .istore 4, 2), (3, .iload_n 1, 1), (4, .istore 5, 2), (6, .iload 5, 2), (8, .aload_n 0, 1), (9, .getfield 58, 3), (12, .if_icmp .ge 84, 3), (15, .iload_n 3, 1), (16, .iload_n 2, 1), (17, .if_icmp .eq 79, 3), (20, .aload_n 0, 1), (21, .iload 5, 2), (23, .iload_n 1, 1), (24, .invokevirtual 134, 3), (27, .ifCond .eq 63, 3), (30, .iload 4, 2), (32, .aload_n 0, 1), (33, .getfield 31, 3), (36, .iload 5, 2), (38, .iaload, 1), (39, .iload_n 3, 1), (40, .if_icmp .ne 16, 3), (43, .aload_n 0, 1), (44, .aload_n 0, 1), (45, .iload 5, 2), (47, .invokevirtual 137, 3), (50, .invokevirtual 140, 3), (53, .goto 4, 3), (56, .iconst 0, 1), (57, .iadd, 1), (58, .istore 4, 2), (60, .iload 4, 2), (62, .aload_n 0, 1), (63, .getfield 34, 3), (66, .iload 5, 2), (68, .iaload, 1), (69, .iload_n 3, 1), (70, .if_icmp .ne 16, 3), (73, .aload_n 0, 1), (74, .aload_n 0, 1), (75, .iload 5, 2), (77, .invokevirtual 143, 3), (80, .invokevirtual 140, 3), (83, .goto 4, 3), (86, .iconst 0, 1), (87, .iadd, 1), (88, .istore 4, 2), (90, .iinc 5 1, 3), (93, .goto (-87), 3), (96, .iload 4, 2), (98, .ireturn, 1)]
theorem kX3_owedTo_ok : ∀ q ∈ kX3_owedTo, decode cX3_owedTo q.1 = .ok q.2 := by decide +kernel
def kX3_fell : List (Nat × Instr × Nat) := [(0, .aload_n 0, 1), (1, .iload_n 1, 1), (2, .invokevirtual 122, 3), (5, .istore_n 3, 1), (6, .iconst 0, 1), (7, .istore 4, 2), (9, .iload 4, 2), (11, .aload_n 0, 1), (12, .getfield 46, 3), (15, .if_icmp .ge 50, 3), (18, .aload_n 0, 1), (19, .iload_n 1, 1), (20, .iload_n 2, 1), (21, .iload 4, 2), (23, .invokevirtual 125, 3), (26, .istore 5, 2), (28, .aload_n 0, 1), (29, .getfield 18, 3), (32, .iload 4, 2), (34, .dup2, 1), (35, .iaload, 1), (36, .aload_n 0, 1), (37, .iload_n 1, 1), (38, .iload 4, 2), (40, .invokevirtual 116, 3), (43, .iload 5, 2), (45, .iadd, 1), (46, .iadd, 1), (47, .iastore, 1), (48, .aload_n 0, 1), (49, .getfield 18, 3), (52, .iload_n 2, 1), (53, .dup2, 1), (54, .iaload, 1), (55, .iload 5, 2), (57, .isub, 1), (58, .iastore, 1), (59, .iinc 4 1, 3), (62, .goto (-53), 3), (65, .aload_n 0, 1), (66, .getfield 22, 3), (69, .aload_n 0, 1), (70, .getfield 28, 3), (73, .iload_n 1, 1), (74, .iaload, 1), (75, .aload_n 0, 1), (76, .getfield 31, 3), (79, .iload_n 1, 1), (80, .iaload, 1), (81, .iastore, 1), (82, .aload_n 0, 1), (83, .dup, 1), (84, .getfield 61, 3), (87, .iload_n 3, 1), (88, .iconst (-1), 1), (89, .ixor, 1), (90, .iand, 1), (91, .putfield 61, 3), (94, .iload_n 3, 1), (95, .invokestatic 129, 3), (98, .ireturn, 1)]
theorem kX3_fell_ok : ∀ q ∈ kX3_fell, decode cX3_fell q.1 = .ok q.2 := by decide +kernel
def kX3_partOfUndoer : List (Nat × Instr × Nat) := [(0, .aload_n 0, 1), (1, .getfield 28, 3), (4, .iload_n 1, 1), (5, .iaload, 1), (6, .istore_n 3, 1), (7, .aload_n 0, 1), (8, .getfield 31, 3), (11, .iload_n 1, 1), (12, .iaload, 1), (13, .iload_n 2, 1), (14, .if_icmp .ne 19, 3), (17, .aload_n 0, 1), (18, .iload_n 3, 1), (19, .iload_n 2, 1), (20, .invokevirtual 90, 3), (23, .aload_n 0, 1), (24, .getfield 37, 3), (27, .iload_n 1, 1), (28, .iaload, 1), (29, .isub, 1), (30, .goto 13, 3), (33, .aload_n 0, 1), (34, .aload_n 0, 1), (35, .iload_n 1, 1), (36, .invokevirtual 137, 3), (39, .invokevirtual 140, 3), (42, .ineg, 1), (43, .istore 4, 2), (45, .aload_n 0, 1), (46, .getfield 34, 3), (49, .iload_n 1, 1), (50, .iaload, 1), (51, .iload_n 2, 1), (52, .if_icmp .ne 19, 3), (55, .aload_n 0, 1), (56, .getfield 37, 3), (59, .iload_n 1, 1), (60, .iaload, 1), (61, .aload_n 0, 1), (62, .iload_n 3, 1), (63, .iload_n 2, 1), (64, .invokevirtual 90, 3), (67, .isub, 1), (68, .goto 13, 3), (71, .aload_n 0, 1), (72, .aload_n 0, 1), (73, .iload_n 1, 1), (74, .invokevirtual 143, 3), (77, .invokevirtual 140, 3), (80, .ineg, 1), (81, .istore 5, 2), (83, .iload 4, 2), (85, .iload 5, 2), (87, .iadd, 1), (88, .ireturn, 1)]
theorem kX3_partOfUndoer_ok : ∀ q ∈ kX3_partOfUndoer, decode cX3_partOfUndoer q.1 = .ok q.2 := by decide +kernel
def kX3_partOfOther : List (Nat × Instr × Nat) := [(0, .aload_n 0, 1), (1, .getfield 28, 3), (4, .iload_n 1, 1), (5, .iaload, 1), (6, .istore_n 3, 1), (7, .aload_n 0, 1), (8, .getfield 31, 3), (11, .iload_n 1, 1), (12, .iaload, 1), (13, .iload_n 2, 1), (14, .if_icmp .ne 29, 3), (17, .aload_n 0, 1), (18, .iload_n 3, 1), (19, .iload_n 2, 1), (20, .invokevirtual 90, 3), (23, .aload_n 0, 1), (24, .getfield 37, 3), (27, .iload_n 1, 1), (28, .iaload, 1), (29, .isub, 1), (30, .aload_n 0, 1), (31, .aload_n 0, 1), (32, .iload_n 1, 1), (33, .invokevirtual 137, 3), (36, .invokevirtual 140, 3), (39, .iadd, 1), (40, .goto 4, 3), (43, .iconst 0, 1), (44, .istore 4, 2), (46, .aload_n 0, 1), (47, .getfield 34, 3), (50, .iload_n 1, 1), (51, .iaload, 1), (52, .iload_n 2, 1), (53, .if_icmp .ne 29, 3), (56, .aload_n 0, 1), (57, .getfield 37, 3), (60, .iload_n 1, 1), (61, .iaload, 1), (62, .aload_n 0, 1), (63, .iload_n 3, 1), (64, .iload_n 2, 1), (65, .invokevirtual 90, 3), (68, .isub, 1), (69, .aload_n 0, 1), (70, .aload_n 0, 1), (71, .iload_n 1, 1), (72, .invokevirtual 143, 3), (75, .invokevirtual 140, 3), (78, .iadd, 1), (79, .goto 4, 3), (82, .iconst 0, 1), (83, .istore 5, 2), (85, .iload 4, 2), (87, .iload 5, 2), (89, .iadd, 1), (90, .ireturn, 1)]
theorem kX3_partOfOther_ok : ∀ q ∈ kX3_partOfOther, decode cX3_partOfOther q.1 = .ok q.2 := by decide +kernel
def kX3_gainOf : List (Nat × Instr × Nat) := [(0, .iconst 0, 1), (1, .istore_n 3, 1), (2, .iload_n 1, 1), (3, .istore 4, 2), (5, .iload 4, 2), (7, .aload_n 0, 1), (8, .getfield 58, 3), (11, .if_icmp .ge 29, 3), (14, .aload_n 0, 1), (15, .iload 4, 2), (17, .iload_n 1, 1), (18, .invokevirtual 134, 3), (21, .ifCond .eq 13, 3), (24, .iload_n 3, 1), (25, .aload_n 0, 1), (26, .iload 4, 2), (28, .iload_n 2, 1), (29, .invokevirtual 146, 3), (32, .iadd, 1), (33, .istore_n 3, 1), (34, .iinc 4 1, 3), (37, .goto (-32), 3), (40, .iload_n 3, 1), (41, .ireturn, 1)]
theorem kX3_gainOf_ok : ∀ q ∈ kX3_gainOf, decode cX3_gainOf q.1 = .ok q.2 := by decide +kernel
def kX3_topGain : List (Nat × Instr × Nat) := [(0, .aload_n 0, 1), (1, .iload_n 1, 1), (2, .aload_n 0, 1), (3, .getfield 31, 3), (6, .iload_n 1, 1), (7, .iaload, 1), (8, .invokevirtual 149, 3), (11, .aload_n 0, 1), (12, .iload_n 1, 1), (13, .aload_n 0, 1), (14, .getfield 34, 3), (17, .iload_n 1, 1), (18, .iaload, 1), (19, .invokevirtual 149, 3), (22, .invokestatic 98, 3), (25, .ireturn, 1)]
theorem kX3_topGain_ok : ∀ q ∈ kX3_topGain, decode cX3_topGain q.1 = .ok q.2 := by decide +kernel
def kX3_bestUndoing : List (Nat × Instr × Nat) := [(0, .iconst 0, 1), (1, .istore_n 1, 1), (2, .iconst (-1), 1), (3, .istore_n 2, 1), (4, .iconst 0, 1), (5, .istore_n 3, 1), (6, .iload_n 3, 1), (7, .iconst 2, 1), (8, .aload_n 0, 1), (9, .getfield 58, 3), (12, .imul, 1), (13, .if_icmp .ge 57, 3), (16, .iload_n 3, 1), (17, .iconst 1, 1), (18, .ishr, 1), (19, .istore 4, 2), (21, .aload_n 0, 1), (22, .iload 4, 2), (24, .iload_n 3, 1), (25, .iconst 1, 1), (26, .iand, 1), (27, .invokevirtual 152, 3), (30, .istore 5, 2), (32, .aload_n 0, 1), (33, .iload 4, 2), (35, .iload 5, 2), (37, .invokevirtual 149, 3), (40, .istore 6, 2), (42, .iload 6, 2), (44, .iload_n 1, 1), (45, .if_icmp .le 19, 3), (48, .aload_n 0, 1), (49, .iload 4, 2), (51, .iload 5, 2), (53, .invokevirtual 155, 3), (56, .ifCond .ne 8, 3), (59, .iload 6, 2), (61, .istore_n 1, 1), (62, .iload_n 3, 1), (63, .istore_n 2, 1), (64, .iinc 3 1, 3), (67, .goto (-61), 3), (70, .iload_n 2, 1), (71, .ireturn, 1)]
theorem kX3_bestUndoing_ok : ∀ q ∈ kX3_bestUndoing, decode cX3_bestUndoing q.1 = .ok q.2 := by decide +kernel
def kX3_wouldBeSafe : List (Nat × Instr × Nat) := [(0, .aload_n 0, 1), (1, .iload_n 1, 1), (2, .aload_n 0, 1), (3, .getfield 22, 3), (6, .iload_n 1, 1), (7, .iaload, 1), (8, .invokevirtual 90, 3), (11, .istore 4, 2), (13, .aload_n 0, 1), (14, .iload_n 1, 1), (15, .iload_n 2, 1), (16, .invokevirtual 90, 3), (19, .istore 5, 2), (21, .iload 4, 2), (23, .iload_n 3, 1), (24, .isub, 1), (25, .aload_n 0, 1), (26, .iconst 0, 1), (27, .iload 5, 2), (29, .iload_n 3, 1), (30, .isub, 1), (31, .invokestatic 98, 3), (34, .invokevirtual 140, 3), (37, .isub, 1), (38, .istore 6, 2), (40, .iload_n 3, 1), (41, .iload 5, 2), (43, .isub, 1), (44, .aload_n 0, 1), (45, .iconst 0, 1), (46, .iload_n 3, 1), (47, .iload 4, 2), (49, .isub, 1), (50, .invokestatic 98, 3), (53, .invokevirtual 140, 3), (56, .isub, 1), (57, .istore 7, 2), (59, .iload 6, 2), (61, .ifCond .gt 12, 3), (64, .iload 7, 2), (66, .ifCond .gt 7, 3), (69, .iconst 1, 1), (70, .goto 4, 3), (73, .iconst 0, 1), (74, .ireturn, 1)]
theorem kX3_wouldBeSafe_ok : ∀ q ∈ kX3_wouldBeSafe, decode cX3_wouldBeSafe q.1 = .ok q.2 := by decide +kernel
def kX3_chainLength : List (Nat × Instr × Nat) := [(0, .iconst 0, 1), (1, .istore_n 2, 1), (2, .iconst 0, 1), (3, .istore_n 3, 1), (4, .iload_n 3, 1), (5, .aload_n 0, 1), (6, .getfield 58, 3), (9, .if_icmp .ge 30, 3), (12, .aload_n 0, 1), (13, .getfield 28, 3), (16, .iload_n 3, 1), (17, .iaload, 1), (18, .iload_n 1, 1), (19, .if_icmp .ne 14, 3), (22, .aload_n 0, 1), (23, .iload_n 3, 1), (24, .invokevirtual 80, 3), (27, .ifCond .eq 6, 3), (30, .iinc 2 1, 3), (33, .iinc 3 1, 3), (36, .goto (-32), 3), (39, .iload_n 2, 1), (40, .ireturn, 1)]
theorem kX3_chainLength_ok : ∀ q ∈ kX3_chainLength, decode cX3_chainLength q.1 = .ok q.2 := by decide +kernel
def kX3_wants : List (Nat × Instr × Nat) := [(0, .aload_n 0, 1), (1, .getfield 22, 3), (4, .iload_n 1, 1), (5, .iaload, 1), (6, .istore_n 3, 1), (7, .iload_n 3, 1), (8, .aload_n 0, 1), (9, .getfield 22, 3), (12, .iload_n 2, 1), (13, .iaload, 1), (14, .if_icmp .eq 38, 3), (17, .aload_n 0, 1), (18, .iload_n 1, 1), (19, .invokevirtual 84, 3), (22, .ifCond .ne 30, 3), (25, .aload_n 0, 1), (26, .iload_n 2, 1), (27, .invokevirtual 84, 3), (30, .ifCond .ne 22, 3), (33, .aload_n 0, 1), (34, .iload_n 2, 1), (35, .iload_n 3, 1), (36, .invokevirtual 90, 3), (39, .aload_n 0, 1), (40, .iload_n 1, 1), (41, .iload_n 3, 1), (42, .invokevirtual 90, 3), (45, .if_icmp .le 7, 3), (48, .iconst 1, 1), (49, .goto 4, 3), (52, .iconst 0, 1), (53, .ireturn, 1)]
theorem kX3_wants_ok : ∀ q ∈ kX3_wants, decode cX3_wants q.1 = .ok q.2 := by decide +kernel
def kX3_isRing : List (Nat × Instr × Nat) := [(0, .aload_n 0, 1), (1, .iload_n 1, 1), (2, .iload_n 2, 1), (3, .invokevirtual 158, 3), (6, .ifCond .eq 25, 3), (9, .aload_n 0, 1), (10, .iload_n 2, 1), (11, .iload_n 3, 1), (12, .invokevirtual 158, 3), (15, .ifCond .eq 16, 3), (18, .aload_n 0, 1), (19, .iload_n 3, 1), (20, .iload_n 1, 1), (21, .invokevirtual 158, 3), (24, .ifCond .eq 7, 3), (27, .iconst 1, 1), (28, .goto 4, 3), (31, .iconst 0, 1), (32, .ireturn, 1)]
theorem kX3_isRing_ok : ∀ q ∈ kX3_isRing, decode cX3_isRing q.1 = .ok q.2 := by decide +kernel
def kX3_copyFrom : List (Nat × Instr × Nat) := [(0, .aload_n 0, 1), (1, .aload_n 1, 1), (2, .getfield 43, 3), (5, .putfield 43, 3), (8, .aload_n 0, 1), (9, .aload_n 1, 1), (10, .getfield 46, 3), (13, .putfield 46, 3), (16, .aload_n 0, 1), (17, .aload_n 1, 1), (18, .getfield 49, 3), (21, .putfield 49, 3), (24, .aload_n 0, 1), (25, .aload_n 1, 1), (26, .getfield 52, 3), (29, .putfield 52, 3), (32, .aload_n 0, 1), (33, .aload_n 1, 1), (34, .getfield 9, 3), (37, .putfield 9, 3), (40, .aload_n 0, 1), (41, .aload_n 1, 1), (42, .getfield 15, 3), (45, .putfield 15, 3), (48, .aload_n 0, 1), (49, .aload_n 1, 1), (50, .getfield 55, 3), (53, .putfield 55, 3), (56, .aload_n 0, 1), (57, .aload_n 1, 1), (58, .getfield 58, 3), (61, .putfield 58, 3), (64, .aload_n 0, 1), (65, .aload_n 1, 1), (66, .getfield 61, 3), (69, .putfield 61, 3), (72, .aload_n 1, 1), (73, .getfield 18, 3), (76, .iconst 0, 1), (77, .aload_n 0, 1), (78, .getfield 18, 3), (81, .iconst 0, 1), (82, .bipush 6, 2), (84, .invokestatic 70, 3), (87, .aload_n 1, 1), (88, .getfield 22, 3), (91, .iconst 0, 1), (92, .aload_n 0, 1), (93, .getfield 22, 3), (96, .iconst 0, 1), (97, .bipush 10, 2), (99, .invokestatic 70, 3), (102, .aload_n 1, 1), (103, .getfield 25, 3), (106, .iconst 0, 1), (107, .aload_n 0, 1), (108, .getfield 25, 3), (111, .iconst 0, 1), (112, .bipush 60, 2), (114, .invokestatic 70, 3), (117, .aload_n 1, 1), (118, .getfield 28, 3), (121, .iconst 0, 1), (122, .aload_n 0, 1), (123, .getfield 28, 3), (126, .iconst 0, 1), (127, .bipush 30, 2), (129, .invokestatic 70, 3), (132, .aload_n 1, 1), (133, .getfield 31, 3), (136, .iconst 0, 1), (137, .aload_n 0, 1), (138, .getfield 31, 3), (141, .iconst 0, 1), (142, .bipush 30, 2), (144, .invokestatic 70, 3), (147, .aload_n 1, 1), (148, .getfield 34, 3), (151, .iconst 0, 1), (152, .aload_n 0, 1), (153, .getfield 34, 3), (156, .iconst 0, 1), (157, .bipush 30, 2), (159, .invokestatic 70, 3), (162, .aload_n 1, 1), (163, .getfield 37, 3), (166, .iconst 0, 1), (167, .aload_n 0, 1), (168, .getfield 37, 3), (171, .iconst 0, 1), (172, .bipush 30, 2), (174, .invokestatic 70, 3), (177, .aload_n 1, 1), (178, .getfield 40, 3), (181, .iconst 0, 1), (182, .aload_n 0, 1), (183, .getfield 40, 3), (186, .iconst 0, 1), (187, .bipush 30, 2), (189, .invokestatic 70, 3), (192, .return_, 1)]
theorem kX3_copyFrom_ok : ∀ q ∈ kX3_copyFrom, decode cX3_copyFrom q.1 = .ok q.2 := by decide +kernel
end
section
def kX4_lay : List (Nat × Instr × Nat) := [(0, .aload_n 0, 1), (1, .iconst 0, 1), (2, .putfield 9, 3), (5, .aload_n 0, 1), (6, .iload_n 1, 1), (7, .putfield 19, 3), (10, .aload_n 0, 1), (11, .iload_n 2, 1), (12, .putfield 23, 3), (15, .aload_n 0, 1), (16, .getfield 15, 3), (19, .lconst 0, 1), (20, .invokestatic 26, 3), (23, .return_, 1)]
theorem kX4_lay_ok : ∀ q ∈ kX4_lay, decode cX4_lay q.1 = .ok q.2 := by decide +kernel
def kX4_cutToSort : List (Nat × Instr × Nat) := [(0, .aload_n 0, 1), (1, .getfield 19, 3), (4, .tableswitch 42 0 2 #[28, 33, 38], 28), (32, .lload_n 1, 1), (33, .l2i, 1), (34, .i2b, 1), (35, .i2l, 1), (36, .lreturn, 1), (37, .lload_n 1, 1), (38, .l2i, 1), (39, .i2s, 1), (40, .i2l, 1), (41, .lreturn, 1), (42, .lload_n 1, 1), (43, .l2i, 1), (44, .i2l, 1), (45, .lreturn, 1), (46, .lload_n 1, 1), (47, .lreturn, 1)]
theorem kX4_cutToSort_ok : ∀ q ∈ kX4_cutToSort, decode cX4_cutToSort q.1 = .ok q.2 := by decide +kernel
def kX4_put : List (Nat × Instr × Nat) := [(0, .aload_n 0, 1), (1, .getfield 15, 3), (4, .iload_n 1, 1), (5, .aload_n 0, 1), (6, .lload_n 2, 1), (7, .invokevirtual 32, 3), (10, .lastore, 1), (11, .return_, 1)]
theorem kX4_put_ok : ∀ q ∈ kX4_put, decode cX4_put q.1 = .ok q.2 := by decide +kernel
def kX4_isOffers : List (Nat × Instr × Nat) := [(0, .aload_n 0, 1), (1, .getfield 23, 3), (4, .iconst 1, 1), (5, .if_icmp .lt 12, 3), (8, .aload_n 0, 1), (9, .getfield 23, 3), (12, .bipush 6, 2), (14, .if_icmp .le 5, 3), (17, .iconst 0, 1), (18, .ireturn, 1), (19, .iconst 0, 1), (20, .istore_n 1, 1), (21, .iload_n 1, 1), (22, .aload_n 0, 1), (23, .getfield 23, 3), (26, .if_icmp .ge 35, 3), (29, .aload_n 0, 1), (30, .getfield 15, 3), (33, .iload_n 1, 1), (34, .laload, 1), (35, .lconst 0, 1), (36, .lcmp, 1), (37, .ifCond .lt 16, 3), (40, .aload_n 0, 1), (41, .getfield 15, 3), (44, .iload_n 1, 1), (45, .laload, 1), (46, .ldc2_w 36, 3), (49, .lcmp, 1), (50, .ifCond .le 5, 3), (53, .iconst 0, 1), (54, .ireturn, 1), (55, .iinc 1 1, 3), (58, .goto (-37), 3), (61, .iconst 1, 1), (62, .ireturn, 1)]
theorem kX4_isOffers_ok : ∀ q ∈ kX4_isOffers, decode cX4_isOffers q.1 = .ok q.2 := by decide +kernel
def kX4_hopeAhead : List (Nat × Instr × Nat) := [(0, .lconst 0, 1), (1, .lstore 7, 2), (3, .iconst 0, 1), (4, .istore 9, 2), (6, .iload 9, 2), (8, .aload_n 0, 1), (9, .getfield 23, 3), (12, .if_icmp .ge 30, 3), (15, .lload 7, 2), (17, .lload 5, 2), (19, .aload_n 0, 1), (20, .getfield 15, 3), (23, .iload 9, 2), (25, .laload, 1), (26, .lload_n 1, 1), (27, .ladd, 1), (28, .lload_n 3, 1), (29, .lmul, 1), (30, .invokestatic 46, 3), (33, .ladd, 1), (34, .lstore 7, 2), (36, .iinc 9 1, 3), (39, .goto (-33), 3), (42, .lload 7, 2), (44, .lreturn, 1)]
theorem kX4_hopeAhead_ok : ∀ q ∈ kX4_hopeAhead, decode cX4_hopeAhead q.1 = .ok q.2 := by decide +kernel
def kX4_leastTaken : List (Nat × Instr × Nat) := [(0, .iconst (-1), 1), (1, .istore 7, 2), (3, .iconst 0, 1), (4, .istore 8, 2), (6, .iload 8, 2), (8, .aload_n 0, 1), (9, .getfield 23, 3), (12, .if_icmp .ge 56, 3), (15, .aload_n 0, 1), (16, .getfield 15, 3), (19, .iload 8, 2), (21, .laload, 1), (22, .lload_n 1, 1), (23, .ladd, 1), (24, .lload_n 3, 1), (25, .lmul, 1), (26, .lload 5, 2), (28, .lcmp, 1), (29, .ifCond .lt 33, 3), (32, .iload 7, 2), (34, .iconst (-1), 1), (35, .if_icmp .eq 17, 3), (38, .aload_n 0, 1), (39, .getfield 15, 3), (42, .iload 8, 2), (44, .laload, 1), (45, .iload 7, 2), (47, .i2l, 1), (48, .lcmp, 1), (49, .ifCond .ge 13, 3), (52, .aload_n 0, 1), (53, .getfield 15, 3), (56, .iload 8, 2), (58, .laload, 1), (59, .l2i, 1), (60, .istore 7, 2), (62, .iinc 8 1, 3), (65, .goto (-59), 3), (68, .iload 7, 2), (70, .ireturn, 1)]
theorem kX4_leastTaken_ok : ∀ q ∈ kX4_leastTaken, decode cX4_leastTaken q.1 = .ok q.2 := by decide +kernel
def kX4_hopeIn : List (Nat × Instr × Nat) := [(0, .lconst 1, 1), (1, .lstore 5, 2), (3, .lconst 0, 1), (4, .lstore 7, 2), (6, .iconst 1, 1), (7, .istore 9, 2), (9, .iload 9, 2), (11, .iload_n 3, 1), (12, .if_icmp .ge 30, 3), (15, .aload_n 0, 1), (16, .lload_n 1, 1), (17, .lload 5, 2), (19, .lload 7, 2), (21, .invokevirtual 38, 3), (24, .lstore 7, 2), (26, .lload 5, 2), (28, .aload_n 0, 1), (29, .getfield 23, 3), (32, .i2l, 1), (33, .lmul, 1), (34, .lstore 5, 2), (36, .iinc 9 1, 3), (39, .goto (-30), 3), (42, .iload 4, 2), (44, .iconst 2, 1), (45, .if_icmp .ne 13, 3), (48, .aload_n 0, 1), (49, .lload_n 1, 1), (50, .lload 5, 2), (52, .lload 7, 2), (54, .invokevirtual 42, 3), (57, .ireturn, 1), (58, .aload_n 0, 1), (59, .lload_n 1, 1), (60, .lload 5, 2), (62, .lload 7, 2), (64, .invokevirtual 38, 3), (67, .lstore 7, 2), (69, .lload 5, 2), (71, .aload_n 0, 1), (72, .getfield 23, 3), (75, .i2l, 1), (76, .lmul, 1), (77, .lstore 5, 2), (79, .lload 5, 2), (81, .lconst 0, 1), (82, .lcmp, 1), (83, .ifCond .gt 7, 3), (86, .iconst 0, 1), (87, .goto 22, 3), (90, .iload 4, 2), (92, .ifCond .ne 11, 3), (95, .lload 7, 2), (97, .lload 5, 2), (99, .ldiv, 1), (100, .goto 8, 3), (103, .lload 7, 2), (105, .lload 5, 2), (107, .lrem, 1), (108, .l2i, 1), (109, .ireturn, 1)]
theorem kX4_hopeIn_ok : ∀ q ∈ kX4_hopeIn, decode cX4_hopeIn q.1 = .ok q.2 := by decide +kernel
end
section
def kX5_feed : List (Nat × Instr × Nat) := [(0, .aload_n 0, 1), (1, .getfield 36, 3), (4, .getfield 48, 3), (7, .bipush 20, 2), (9, .iadd, 1), (10, .sipush 900, 3), (13, .if_icmp .le 5, 3), (16, .iconst (-1), 1), (17, .ireturn, 1), (18, .aload_n 0, 1), (19, .getfield 36, 3), (22, .iload_n 1, 1), (23, .invokevirtual 52, 3), (26, .aload_n 0, 1), (27, .getfield 36, 3), (30, .iload_n 2, 1), (31, .invokevirtual 52, 3), (34, .aload_n 0, 1), (35, .getfield 36, 3), (38, .iload_n 3, 1), (39, .invokevirtual 52, 3), (42, .aload_n 0, 1), (43, .getfield 36, 3), (46, .iload 4, 2), (48, .invokevirtual 52, 3), (51, .aload_n 0, 1), (52, .getfield 36, 3), (55, .iload 5, 2), (57, .invokevirtual 52, 3), (60, .aload_n 0, 1), (61, .getfield 36, 3), (64, .getfield 48, 3), (67, .ireturn, 1)]
theorem kX5_feed_ok : ∀ q ∈ kX5_feed, decode cX5_feed q.1 = .ok q.2 := by decide +kernel
def kX5_town : List (Nat × Instr × Nat) := [(0, .iload_n 1, 1), (1, .ifCond .lt 14, 3), (4, .iload_n 1, 1), (5, .aload_n 0, 1), (6, .getfield 36, 3), (9, .getfield 48, 3), (12, .if_icmp .le 11, 3), (15, .new 56, 3), (18, .dup, 1), (19, .invokespecial 58, 3), (22, .athrow, 1), (23, .aload_n 0, 1), (24, .getfield 36, 3), (27, .iload_n 1, 1), (28, .aload_n 0, 1), (29, .getfield 16, 3), (32, .invokevirtual 59, 3), (35, .istore_n 2, 1), (36, .aload_n 0, 1), (37, .getfield 36, 3), (40, .iconst 0, 1), (41, .putfield 48, 3), (44, .iload_n 2, 1), (45, .ifCond .ne 14, 3), (48, .bipush (-10), 2), (50, .aload_n 0, 1), (51, .getfield 36, 3), (54, .getfield 63, 3), (57, .isub, 1), (58, .ireturn, 1), (59, .aload_n 0, 1), (60, .getfield 10, 3), (63, .aload_n 0, 1), (64, .getfield 16, 3), (67, .invokevirtual 66, 3), (70, .aload_n 0, 1), (71, .getfield 10, 3), (74, .getfield 70, 3), (77, .ireturn, 1)]
theorem kX5_town_ok : ∀ q ∈ kX5_town, decode cX5_town q.1 = .ok q.2 := by decide +kernel
def kX5_fault : List (Nat × Instr × Nat) := [(0, .iload_n 1, 1), (1, .ifCond .ne 11, 3), (4, .aload_n 0, 1), (5, .getfield 36, 3), (8, .getfield 63, 3), (11, .ireturn, 1), (12, .iload_n 1, 1), (13, .iconst 1, 1), (14, .if_icmp .ne 13, 3), (17, .aload_n 0, 1), (18, .getfield 36, 3), (21, .getfield 73, 3), (24, .goto 4, 3), (27, .iconst (-1), 1), (28, .ireturn, 1)]
theorem kX5_fault_ok : ∀ q ∈ kX5_fault, decode cX5_fault q.1 = .ok q.2 := by decide +kernel
def kX5_needPerson : List (Nat × Instr × Nat) := [(0, .aload_n 0, 1), (1, .getfield 10, 3), (4, .iload_n 1, 1), (5, .invokevirtual 268, 3), (8, .ifCond .ne 11, 3), (11, .new 300, 3), (14, .dup, 1), (15, .invokespecial 302, 3), (18, .athrow, 1), (19, .return_, 1)]
theorem kX5_needPerson_ok : ∀ q ∈ kX5_needPerson, decode cX5_needPerson q.1 = .ok q.2 := by decide +kernel
def kX5_person : List (Nat × Instr × Nat) := [(0, .aload_n 0, 1), (1, .iload_n 1, 1), (2, .invokevirtual 76, 3), (5, .iload_n 2, 1), (6, .tableswitch 54 0 2 #[26, 36, 45], 26), (32, .aload_n 0, 1), (33, .getfield 10, 3), (36, .getfield 79, 3), (39, .iload_n 1, 1), (40, .iaload, 1), (41, .ireturn, 1), (42, .aload_n 0, 1), (43, .getfield 10, 3), (46, .iload_n 1, 1), (47, .invokevirtual 83, 3), (50, .ireturn, 1), (51, .aload_n 0, 1), (52, .getfield 10, 3), (55, .iload_n 1, 1), (56, .invokevirtual 87, 3), (59, .ireturn, 1), (60, .new 56, 3), (63, .dup, 1), (64, .invokespecial 58, 3), (67, .athrow, 1)]
theorem kX5_person_ok : ∀ q ∈ kX5_person, decode cX5_person q.1 = .ok q.2 := by decide +kernel
def kX5_needThing : List (Nat × Instr × Nat) := [(0, .aload_n 0, 1), (1, .getfield 10, 3), (4, .iload_n 1, 1), (5, .invokevirtual 325, 3), (8, .ifCond .ne 11, 3), (11, .new 300, 3), (14, .dup, 1), (15, .invokespecial 302, 3), (18, .athrow, 1), (19, .return_, 1)]
theorem kX5_needThing_ok : ∀ q ∈ kX5_needThing, decode cX5_needThing q.1 = .ok q.2 := by decide +kernel
def kX5_worth : List (Nat × Instr × Nat) := [(0, .aload_n 0, 1), (1, .iload_n 1, 1), (2, .invokevirtual 90, 3), (5, .aload_n 0, 1), (6, .iload_n 2, 1), (7, .invokevirtual 76, 3), (10, .aload_n 0, 1), (11, .getfield 10, 3), (14, .iload_n 1, 1), (15, .iload_n 2, 1), (16, .invokevirtual 93, 3), (19, .ireturn, 1)]
theorem kX5_worth_ok : ∀ q ∈ kX5_worth, decode cX5_worth q.1 = .ok q.2 := by decide +kernel
def kX5_holder : List (Nat × Instr × Nat) := [(0, .aload_n 0, 1), (1, .iload_n 1, 1), (2, .invokevirtual 90, 3), (5, .aload_n 0, 1), (6, .getfield 10, 3), (9, .getfield 97, 3), (12, .iload_n 1, 1), (13, .iaload, 1), (14, .ireturn, 1)]
theorem kX5_holder_ok : ∀ q ∈ kX5_holder, decode cX5_holder q.1 = .ok q.2 := by decide +kernel
def kX5_eat : List (Nat × Instr × Nat) := [(0, .aload_n 0, 1), (1, .iload_n 1, 1), (2, .invokevirtual 90, 3), (5, .aload_n 0, 1), (6, .getfield 10, 3), (9, .iload_n 1, 1), (10, .invokevirtual 100, 3), (13, .ifCond .ne 7, 3), (16, .iconst 1, 1), (17, .goto 4, 3), (20, .iconst 0, 1), (21, .istore_n 2, 1), (22, .aload_n 0, 1), (23, .getfield 10, 3), (26, .dup, 1), (27, .getfield 104, 3), (30, .iconst 1, 1), (31, .iload_n 1, 1), (32, .ishl, 1), (33, .ior, 1), (34, .putfield 104, 3), (37, .iload_n 2, 1), (38, .ireturn, 1)]
theorem kX5_eat_ok : ∀ q ∈ kX5_eat, decode cX5_eat q.1 = .ok q.2 := by decide +kernel
def kX5_pass : List (Nat × Instr × Nat) := [(0, .iload_n 1, 1), (1, .ifCond .lt 10, 3), (4, .iload_n 1, 1), (5, .sipush 999, 3), (8, .if_icmp .le 11, 3), (11, .new 56, 3), (14, .dup, 1), (15, .invokespecial 58, 3), (18, .athrow, 1), (19, .aload_n 0, 1), (20, .getfield 10, 3), (23, .sipush 1000, 3), (26, .aload_n 0, 1), (27, .getfield 10, 3), (30, .getfield 107, 3), (33, .iload_n 1, 1), (34, .iadd, 1), (35, .invokestatic 110, 3), (38, .putfield 107, 3), (41, .aload_n 0, 1), (42, .getfield 10, 3), (45, .getfield 107, 3), (48, .ireturn, 1)]
theorem kX5_pass_ok : ∀ q ∈ kX5_pass, decode cX5_pass q.1 = .ok q.2 := by decide +kernel
def kX5_morning : List (Nat × Instr × Nat) := [(0, .aload_n 0, 1), (1, .getfield 10, 3), (4, .invokevirtual 115, 3), (7, .ifCond .ne 11, 3), (10, .new 119, 3), (13, .dup, 1), (14, .invokespecial 121, 3), (17, .athrow, 1), (18, .aload_n 0, 1), (19, .getfield 10, 3), (22, .getfield 122, 3), (25, .invokestatic 125, 3), (28, .istore_n 1, 1), (29, .aload_n 0, 1), (30, .getfield 10, 3), (33, .iconst 0, 1), (34, .putfield 107, 3), (37, .aload_n 0, 1), (38, .getfield 10, 3), (41, .iconst 0, 1), (42, .putfield 130, 3), (45, .aload_n 0, 1), (46, .getfield 10, 3), (49, .iconst 0, 1), (50, .putfield 122, 3), (53, .iload_n 1, 1), (54, .ireturn, 1)]
theorem kX5_morning_ok : ∀ q ∈ kX5_morning, decode cX5_morning q.1 = .ok q.2 := by decide +kernel
def kX5_sell : List (Nat × Instr × Nat) := [(0, .aload_n 0, 1), (1, .getfield 10, 3), (4, .iload_n 1, 1), (5, .iload_n 2, 1), (6, .iload_n 3, 1), (7, .invokevirtual 133, 3), (10, .istore 4, 2), (12, .iload 4, 2), (14, .ifCond .ne 16, 3), (17, .aload_n 0, 1), (18, .getfield 10, 3), (21, .iload_n 1, 1), (22, .iload_n 2, 1), (23, .iload_n 3, 1), (24, .invokevirtual 137, 3), (27, .goto 8, 3), (30, .bipush (-10), 2), (32, .iload 4, 2), (34, .isub, 1), (35, .ireturn, 1)]
theorem kX5_sell_ok : ∀ q ∈ kX5_sell, decode cX5_sell q.1 = .ok q.2 := by decide +kernel
def kX5_needDeed : List (Nat × Instr × Nat) := [(0, .aload_n 0, 1), (1, .getfield 10, 3), (4, .iload_n 1, 1), (5, .invokevirtual 328, 3), (8, .ifCond .ne 11, 3), (11, .new 300, 3), (14, .dup, 1), (15, .invokespecial 302, 3), (18, .athrow, 1), (19, .return_, 1)]
theorem kX5_needDeed_ok : ∀ q ∈ kX5_needDeed, decode cX5_needDeed q.1 = .ok q.2 := by decide +kernel
def kX5_deed : List (Nat × Instr × Nat) := [(0, .aload_n 0, 1), (1, .iload_n 1, 1), (2, .invokevirtual 140, 3), (5, .iload_n 2, 1), (6, .tableswitch 131 0 7 #[46, 56, 66, 76, 86, 103, 113, 122], 46), (52, .aload_n 0, 1), (53, .getfield 10, 3), (56, .getfield 143, 3), (59, .iload_n 1, 1), (60, .iaload, 1), (61, .ireturn, 1), (62, .aload_n 0, 1), (63, .getfield 10, 3), (66, .getfield 146, 3), (69, .iload_n 1, 1), (70, .iaload, 1), (71, .ireturn, 1), (72, .aload_n 0, 1), (73, .getfield 10, 3), (76, .getfield 149, 3), (79, .iload_n 1, 1), (80, .iaload, 1), (81, .ireturn, 1), (82, .aload_n 0, 1), (83, .getfield 10, 3), (86, .getfield 152, 3), (89, .iload_n 1, 1), (90, .iaload, 1), (91, .ireturn, 1), (92, .aload_n 0, 1), (93, .getfield 10, 3), (96, .iload_n 1, 1), (97, .invokevirtual 155, 3), (100, .ifCond .eq 7, 3), (103, .iconst 1, 1), (104, .goto 4, 3), (107, .iconst 0, 1), (108, .ireturn, 1), (109, .aload_n 0, 1), (110, .getfield 10, 3), (113, .getfield 158, 3), (116, .iload_n 1, 1), (117, .iaload, 1), (118, .ireturn, 1), (119, .aload_n 0, 1), (120, .getfield 10, 3), (123, .iload_n 1, 1), (124, .invokevirtual 161, 3), (127, .ireturn, 1), (128, .aload_n 0, 1), (129, .getfield 10, 3), (132, .iload_n 1, 1), (133, .invokevirtual 164, 3), (136, .ireturn, 1), (137, .new 56, 3), (140, .dup, 1), (141, .invokespecial 58, 3), (144, .athrow, 1)]
theorem kX5_deed_ok : ∀ q ∈ kX5_deed, decode cX5_deed q.1 = .ok q.2 := by decide +kernel
def kX5_may : List (Nat × Instr × Nat) := [(0, .aload_n 0, 1), (1, .iload_n 2, 1), (2, .invokevirtual 76, 3), (5, .aload_n 0, 1), (6, .getfield 10, 3), (9, .iload_n 1, 1), (10, .iload_n 2, 1), (11, .invokevirtual 167, 3), (14, .ireturn, 1)]
theorem kX5_may_ok : ∀ q ∈ kX5_may, decode cX5_may q.1 = .ok q.2 := by decide +kernel
def kX5_undo : List (Nat × Instr × Nat) := [(0, .aload_n 0, 1), (1, .iload_n 2, 1), (2, .invokevirtual 76, 3), (5, .aload_n 0, 1), (6, .getfield 10, 3), (9, .iload_n 1, 1), (10, .iload_n 2, 1), (11, .invokevirtual 167, 3), (14, .istore_n 3, 1), (15, .iload_n 3, 1), (16, .ifCond .ne 15, 3), (19, .aload_n 0, 1), (20, .getfield 10, 3), (23, .iload_n 1, 1), (24, .iload_n 2, 1), (25, .invokevirtual 170, 3), (28, .goto 7, 3), (31, .bipush (-10), 2), (33, .iload_n 3, 1), (34, .isub, 1), (35, .ireturn, 1)]
theorem kX5_undo_ok : ∀ q ∈ kX5_undo, decode cX5_undo q.1 = .ok q.2 := by decide +kernel
def kX5_falls : List (Nat × Instr × Nat) := [(0, .aload_n 0, 1), (1, .iload_n 1, 1), (2, .invokevirtual 140, 3), (5, .aload_n 0, 1), (6, .getfield 10, 3), (9, .iload_n 1, 1), (10, .invokevirtual 173, 3), (13, .ireturn, 1)]
theorem kX5_falls_ok : ∀ q ∈ kX5_falls, decode cX5_falls q.1 = .ok q.2 := by decide +kernel
def kX5_owes : List (Nat × Instr × Nat) := [(0, .aload_n 0, 1), (1, .iload_n 1, 1), (2, .invokevirtual 140, 3), (5, .aload_n 0, 1), (6, .iload_n 2, 1), (7, .invokevirtual 76, 3), (10, .aload_n 0, 1), (11, .iload_n 3, 1), (12, .invokevirtual 76, 3), (15, .aload_n 0, 1), (16, .getfield 10, 3), (19, .iload_n 1, 1), (20, .iload_n 2, 1), (21, .invokevirtual 176, 3), (24, .ifCond .eq 16, 3), (27, .aload_n 0, 1), (28, .getfield 10, 3), (31, .iload_n 1, 1), (32, .iload_n 2, 1), (33, .iload_n 3, 1), (34, .invokevirtual 180, 3), (37, .goto 4, 3), (40, .iconst 0, 1), (41, .ireturn, 1)]
theorem kX5_owes_ok : ∀ q ∈ kX5_owes, decode cX5_owes q.1 = .ok q.2 := by decide +kernel
def kX5_chain : List (Nat × Instr × Nat) := [(0, .aload_n 0, 1), (1, .iload_n 1, 1), (2, .invokevirtual 90, 3), (5, .iconst 0, 1), (6, .istore_n 3, 1), (7, .iconst 0, 1), (8, .istore 4, 2), (10, .iload 4, 2), (12, .aload_n 0, 1), (13, .getfield 10, 3), (16, .getfield 130, 3), (19, .if_icmp .ge 46, 3), (22, .aload_n 0, 1), (23, .getfield 10, 3), (26, .getfield 143, 3), (29, .iload 4, 2), (31, .iaload, 1), (32, .iload_n 1, 1), (33, .if_icmp .ne 26, 3), (36, .aload_n 0, 1), (37, .getfield 10, 3), (40, .iload 4, 2), (42, .invokevirtual 155, 3), (45, .ifCond .eq 14, 3), (48, .iload_n 3, 1), (49, .iload_n 2, 1), (50, .if_icmp .ne 6, 3), (53, .iload 4, 2), (55, .ireturn, 1), (56, .iinc 3 1, 3), (59, .iinc 4 1, 3), (62, .goto (-52), 3), (65, .iconst (-1), 1), (66, .ireturn, 1)]
theorem kX5_chain_ok : ∀ q ∈ kX5_chain, decode cX5_chain q.1 = .ok q.2 := by decide +kernel
def kX5_needTray : List (Nat × Instr × Nat) := [(0, .iload_n 1, 1), (1, .ifCond .lt 8, 3), (4, .iload_n 1, 1), (5, .iconst 4, 1), (6, .if_icmp .lt 11, 3), (9, .new 300, 3), (12, .dup, 1), (13, .invokespecial 302, 3), (16, .athrow, 1), (17, .aload_n 0, 1), (18, .getfield 29, 3), (21, .iload_n 1, 1), (22, .aaload, 1), (23, .getfield 331, 3), (26, .ifCond .eq 11, 3), (29, .new 119, 3), (32, .dup, 1), (33, .invokespecial 121, 3), (36, .athrow, 1), (37, .aload_n 0, 1), (38, .getfield 29, 3), (41, .iload_n 1, 1), (42, .aaload, 1), (43, .areturn, 1)]
theorem kX5_needTray_ok : ∀ q ∈ kX5_needTray, decode cX5_needTray q.1 = .ok q.2 := by decide +kernel
def kX5_whyNoTold : List (Nat × Instr × Nat) := [(0, .lload_n 1, 1), (1, .lconst 0, 1), (2, .lcmp, 1), (3, .ifCond .lt 15, 3), (6, .lload_n 1, 1), (7, .iconst 1, 1), (8, .lshr, 1), (9, .aload_n 0, 1), (10, .getfield 130, 3), (13, .i2l, 1), (14, .lcmp, 1), (15, .ifCond .lt 5, 3), (18, .iconst 1, 1), (19, .ireturn, 1), (20, .lload_n 1, 1), (21, .iconst 1, 1), (22, .lshr, 1), (23, .l2i, 1), (24, .istore_n 3, 1), (25, .aload_n 0, 1), (26, .iload_n 3, 1), (27, .aload_n 0, 1), (28, .iload_n 3, 1), (29, .lload_n 1, 1), (30, .lconst 1, 1), (31, .land, 1), (32, .l2i, 1), (33, .invokevirtual 235, 3), (36, .invokevirtual 167, 3), (39, .ireturn, 1)]
theorem kX5_whyNoTold_ok : ∀ q ∈ kX5_whyNoTold, decode cX5_whyNoTold q.1 = .ok q.2 := by decide +kernel
def kX5_doTold : List (Nat × Instr × Nat) := [(0, .iconst 0, 1), (1, .istore_n 2, 1), (2, .iload_n 2, 1), (3, .aload_n 1, 1), (4, .getfield 191, 3), (7, .if_icmp .ge 52, 3), (10, .aload_n 0, 1), (11, .aload_n 1, 1), (12, .getfield 194, 3), (15, .iload_n 2, 1), (16, .laload, 1), (17, .invokestatic 198, 3), (20, .ifCond .ne 39, 3), (23, .aload_n 1, 1), (24, .getfield 194, 3), (27, .iload_n 2, 1), (28, .laload, 1), (29, .iconst 1, 1), (30, .lshr, 1), (31, .l2i, 1), (32, .istore_n 3, 1), (33, .aload_n 0, 1), (34, .iload_n 3, 1), (35, .aload_n 0, 1), (36, .iload_n 3, 1), (37, .aload_n 1, 1), (38, .getfield 194, 3), (41, .iload_n 2, 1), (42, .laload, 1), (43, .lconst 1, 1), (44, .land, 1), (45, .l2i, 1), (46, .invokevirtual 235, 3), (49, .invokevirtual 170, 3), (52, .pop, 1), (53, .iinc 2 1, 3), (56, .goto (-54), 3), (59, .iload_n 2, 1), (60, .ireturn, 1)]
theorem kX5_doTold_ok : ∀ q ∈ kX5_doTold, decode cX5_doTold q.1 = .ok q.2 := by decide +kernel
def kX5_judge : List (Nat × Instr × Nat) := [(0, .aload_n 0, 1), (1, .iload_n 1, 1), (2, .invokevirtual 183, 3), (5, .astore_n 3, 1), (6, .iload_n 2, 1), (7, .ifCond .lt 8, 3), (10, .iload_n 2, 1), (11, .iconst 2, 1), (12, .if_icmp .le 11, 3), (15, .new 56, 3), (18, .dup, 1), (19, .invokespecial 58, 3), (22, .athrow, 1), (23, .aload_n 0, 1), (24, .getfield 16, 3), (27, .aload_n 0, 1), (28, .getfield 10, 3), (31, .invokevirtual 66, 3), (34, .aload_n 0, 1), (35, .getfield 16, 3), (38, .aload_n 3, 1), (39, .invokestatic 187, 3), (42, .istore 4, 2), (44, .iload_n 2, 1), (45, .iconst 2, 1), (46, .if_icmp .ne 14, 3), (49, .aload_n 0, 1), (50, .getfield 16, 3), (53, .getfield 122, 3), (56, .invokestatic 125, 3), (59, .ireturn, 1), (60, .iload 4, 2), (62, .aload_n 3, 1), (63, .getfield 191, 3), (66, .if_icmp .ne 13, 3), (69, .iload_n 2, 1), (70, .ifCond .ne 7, 3), (73, .iconst (-1), 1), (74, .goto 4, 3), (77, .iconst 0, 1), (78, .ireturn, 1), (79, .iload_n 2, 1), (80, .ifCond .ne 8, 3), (83, .iload 4, 2), (85, .goto 17, 3), (88, .aload_n 0, 1), (89, .getfield 16, 3), (92, .aload_n 3, 1), (93, .getfield 194, 3), (96, .iload 4, 2), (98, .laload, 1), (99, .invokestatic 198, 3), (102, .ireturn, 1)]
theorem kX5_judge_ok : ∀ q ∈ kX5_judge, decode cX5_judge q.1 = .ok q.2 := by decide +kernel
def kX5_perform : List (Nat × Instr × Nat) := [(0, .aload_n 0, 1), (1, .getfield 10, 3), (4, .aload_n 0, 1), (5, .iload_n 1, 1), (6, .invokevirtual 183, 3), (9, .invokestatic 187, 3), (12, .ireturn, 1)]
theorem kX5_perform_ok : ∀ q ∈ kX5_perform, decode cX5_perform q.1 = .ok q.2 := by decide +kernel
def kX5_open : List (Nat × Instr × Nat) := [(0, .aload_n 0, 1), (1, .getfield 10, 3), (4, .invokevirtual 213, 3), (7, .ireturn, 1)]
theorem kX5_open_ok : ∀ q ∈ kX5_open, decode cX5_open q.1 = .ok q.2 := by decide +kernel
def kX5_gain : List (Nat × Instr × Nat) := [(0, .aload_n 0, 1), (1, .iload_n 1, 1), (2, .invokevirtual 140, 3), (5, .aload_n 0, 1), (6, .iload_n 2, 1), (7, .invokevirtual 76, 3), (10, .aload_n 0, 1), (11, .getfield 10, 3), (14, .iload_n 1, 1), (15, .invokevirtual 217, 3), (18, .ifCond .eq 27, 3), (21, .aload_n 0, 1), (22, .getfield 10, 3), (25, .iload_n 1, 1), (26, .iload_n 2, 1), (27, .invokevirtual 176, 3), (30, .ifCond .eq 15, 3), (33, .aload_n 0, 1), (34, .getfield 10, 3), (37, .iload_n 1, 1), (38, .iload_n 2, 1), (39, .invokevirtual 220, 3), (42, .goto 4, 3), (45, .iconst (-1), 1), (46, .ireturn, 1)]
theorem kX5_gain_ok : ∀ q ∈ kX5_gain, decode cX5_gain q.1 = .ok q.2 := by decide +kernel
def kX5_safe : List (Nat × Instr × Nat) := [(0, .iconst 0, 1), (1, .istore_n 1, 1), (2, .iconst 0, 1), (3, .istore_n 2, 1), (4, .iload_n 2, 1), (5, .aload_n 0, 1), (6, .getfield 10, 3), (9, .getfield 130, 3), (12, .if_icmp .ge 37, 3), (15, .aload_n 0, 1), (16, .getfield 10, 3), (19, .iload_n 2, 1), (20, .invokevirtual 217, 3), (23, .ifCond .eq 20, 3), (26, .aload_n 0, 1), (27, .getfield 10, 3), (30, .iload_n 2, 1), (31, .invokevirtual 223, 3), (34, .ifCond .gt 9, 3), (37, .iload_n 1, 1), (38, .iconst 1, 1), (39, .iload_n 2, 1), (40, .ishl, 1), (41, .ior, 1), (42, .istore_n 1, 1), (43, .iinc 2 1, 3), (46, .goto (-42), 3), (49, .iload_n 1, 1), (50, .ireturn, 1)]
theorem kX5_safe_ok : ∀ q ∈ kX5_safe, decode cX5_safe q.1 = .ok q.2 := by decide +kernel
def kX5_pledge : List (Nat × Instr × Nat) := [(0, .aload_n 0, 1), (1, .iload_n 1, 1), (2, .invokevirtual 140, 3), (5, .aload_n 0, 1), (6, .getfield 10, 3), (9, .iload_n 1, 1), (10, .invokevirtual 217, 3), (13, .ifCond .eq 18, 3), (16, .iconst 0, 1), (17, .aload_n 0, 1), (18, .getfield 10, 3), (21, .iload_n 1, 1), (22, .invokevirtual 223, 3), (25, .invokestatic 226, 3), (28, .goto 4, 3), (31, .iconst 0, 1), (32, .ireturn, 1)]
theorem kX5_pledge_ok : ∀ q ∈ kX5_pledge, decode cX5_pledge q.1 = .ok q.2 := by decide +kernel
def kX5_temptedBit : List (Nat × Instr × Nat) := [(0, .aload_n 0, 1), (1, .getfield 10, 3), (4, .iload_n 1, 1), (5, .iload_n 2, 1), (6, .invokevirtual 220, 3), (9, .ifCond .le 9, 3), (12, .iconst 1, 1), (13, .iload_n 2, 1), (14, .ishl, 1), (15, .goto 4, 3), (18, .iconst 0, 1), (19, .ireturn, 1)]
theorem kX5_temptedBit_ok : ∀ q ∈ kX5_temptedBit, decode cX5_temptedBit q.1 = .ok q.2 := by decide +kernel
def kX5_tempted : List (Nat × Instr × Nat) := [(0, .iconst 0, 1), (1, .istore_n 1, 1), (2, .iconst 0, 1), (3, .istore_n 2, 1), (4, .iload_n 2, 1), (5, .aload_n 0, 1), (6, .getfield 10, 3), (9, .getfield 130, 3), (12, .if_icmp .ge 52, 3), (15, .aload_n 0, 1), (16, .getfield 10, 3), (19, .iload_n 2, 1), (20, .invokevirtual 217, 3), (23, .ifCond .eq 35, 3), (26, .iload_n 1, 1), (27, .aload_n 0, 1), (28, .iload_n 2, 1), (29, .aload_n 0, 1), (30, .getfield 10, 3), (33, .getfield 146, 3), (36, .iload_n 2, 1), (37, .iaload, 1), (38, .invokevirtual 229, 3), (41, .aload_n 0, 1), (42, .iload_n 2, 1), (43, .aload_n 0, 1), (44, .getfield 10, 3), (47, .getfield 149, 3), (50, .iload_n 2, 1), (51, .iaload, 1), (52, .invokevirtual 229, 3), (55, .ior, 1), (56, .ior, 1), (57, .istore_n 1, 1), (58, .iinc 2 1, 3), (61, .goto (-57), 3), (64, .iload_n 1, 1), (65, .ireturn, 1)]
theorem kX5_tempted_ok : ∀ q ∈ kX5_tempted, decode cX5_tempted q.1 = .ok q.2 := by decide +kernel
def kX5_unravel : List (Nat × Instr × Nat) := [(0, .iconst 0, 1), (1, .istore_n 1, 1), (2, .iconst 0, 1), (3, .istore_n 2, 1), (4, .iload_n 2, 1), (5, .bipush 30, 2), (7, .if_icmp .ge 55, 3), (10, .aload_n 0, 1), (11, .getfield 10, 3), (14, .invokevirtual 232, 3), (17, .istore_n 3, 1), (18, .iload_n 3, 1), (19, .iconst (-1), 1), (20, .if_icmp .ne 6, 3), (23, .goto 39, 3), (26, .iload_n 3, 1), (27, .iconst 1, 1), (28, .ishr, 1), (29, .istore 4, 2), (31, .aload_n 0, 1), (32, .getfield 10, 3), (35, .iload 4, 2), (37, .aload_n 0, 1), (38, .getfield 10, 3), (41, .iload 4, 2), (43, .iload_n 3, 1), (44, .iconst 1, 1), (45, .iand, 1), (46, .invokevirtual 235, 3), (49, .invokevirtual 170, 3), (52, .pop, 1), (53, .iinc 1 1, 3), (56, .iinc 2 1, 3), (59, .goto (-55), 3), (62, .iload_n 1, 1), (63, .ireturn, 1)]
theorem kX5_unravel_ok : ∀ q ∈ kX5_unravel, decode cX5_unravel q.1 = .ok q.2 := by decide +kernel
def kX5_debt : List (Nat × Instr × Nat) := [(0, .aload_n 0, 1), (1, .iload_n 1, 1), (2, .invokevirtual 76, 3), (5, .iload_n 2, 1), (6, .ifCond .eq 16, 3), (9, .iload_n 2, 1), (10, .iconst 1, 1), (11, .if_icmp .eq 11, 3), (14, .new 56, 3), (17, .dup, 1), (18, .invokespecial 58, 3), (21, .athrow, 1), (22, .iconst 0, 1), (23, .istore_n 3, 1), (24, .iconst (-1), 1), (25, .istore 4, 2), (27, .iconst 0, 1), (28, .istore 5, 2), (30, .iload 5, 2), (32, .aload_n 0, 1), (33, .getfield 10, 3), (36, .getfield 130, 3), (39, .if_icmp .ge 65, 3), (42, .aload_n 0, 1), (43, .getfield 10, 3), (46, .iload 5, 2), (48, .invokevirtual 217, 3), (51, .ifCond .eq 47, 3), (54, .aload_n 0, 1), (55, .getfield 10, 3), (58, .iload 5, 2), (60, .iload_n 1, 1), (61, .invokevirtual 176, 3), (64, .ifCond .eq 34, 3), (67, .aload_n 0, 1), (68, .getfield 10, 3), (71, .iload 5, 2), (73, .iload_n 1, 1), (74, .invokevirtual 238, 3), (77, .istore 6, 2), (79, .iload 4, 2), (81, .iconst (-1), 1), (82, .if_icmp .eq 9, 3), (85, .iload 6, 2), (87, .iload_n 3, 1), (88, .if_icmp .le 10, 3), (91, .iload 6, 2), (93, .istore_n 3, 1), (94, .iload 5, 2), (96, .istore 4, 2), (98, .iinc 5 1, 3), (101, .goto (-71), 3), (104, .iload_n 2, 1), (105, .ifCond .ne 7, 3), (108, .iload_n 3, 1), (109, .goto 5, 3), (112, .iload 4, 2), (114, .ireturn, 1)]
theorem kX5_debt_ok : ∀ q ∈ kX5_debt, decode cX5_debt q.1 = .ok q.2 := by decide +kernel
def kX5_safePrice : List (Nat × Instr × Nat) := [(0, .aload_n 0, 1), (1, .iload_n 1, 1), (2, .invokevirtual 90, 3), (5, .aload_n 0, 1), (6, .iload_n 2, 1), (7, .invokevirtual 76, 3), (10, .aload_n 0, 1), (11, .getfield 10, 3), (14, .getfield 97, 3), (17, .iload_n 1, 1), (18, .iaload, 1), (19, .iload_n 2, 1), (20, .if_icmp .ne 11, 3), (23, .new 119, 3), (26, .dup, 1), (27, .invokespecial 121, 3), (30, .athrow, 1), (31, .iload_n 3, 1), (32, .ifCond .eq 16, 3), (35, .iload_n 3, 1), (36, .iconst 1, 1), (37, .if_icmp .eq 11, 3), (40, .new 56, 3), (43, .dup, 1), (44, .invokespecial 58, 3), (47, .athrow, 1), (48, .iconst (-1), 1), (49, .istore 4, 2), (51, .iconst 0, 1), (52, .istore 5, 2), (54, .iload 5, 2), (56, .sipush 999, 3), (59, .if_icmp .gt 38, 3), (62, .aload_n 0, 1), (63, .getfield 10, 3), (66, .iload_n 1, 1), (67, .iload_n 2, 1), (68, .iload 5, 2), (70, .invokevirtual 241, 3), (73, .ifCond .eq 18, 3), (76, .iload_n 3, 1), (77, .iconst 1, 1), (78, .if_icmp .eq 9, 3), (81, .iload 4, 2), (83, .iconst (-1), 1), (84, .if_icmp .ne 7, 3), (87, .iload 5, 2), (89, .istore 4, 2), (91, .iinc 5 1, 3), (94, .goto (-40), 3), (97, .iload 4, 2), (99, .ireturn, 1)]
theorem kX5_safePrice_ok : ∀ q ∈ kX5_safePrice, decode cX5_safePrice q.1 = .ok q.2 := by decide +kernel
def kX5_longest : List (Nat × Instr × Nat) := [(0, .iconst 0, 1), (1, .istore_n 1, 1), (2, .iconst (-1), 1), (3, .istore_n 2, 1), (4, .iconst 0, 1), (5, .istore_n 3, 1), (6, .iload_n 3, 1), (7, .aload_n 0, 1), (8, .getfield 10, 3), (11, .getfield 202, 3), (14, .if_icmp .ge 30, 3), (17, .aload_n 0, 1), (18, .getfield 10, 3), (21, .iload_n 3, 1), (22, .invokevirtual 245, 3), (25, .istore 4, 2), (27, .iload 4, 2), (29, .iload_n 1, 1), (30, .if_icmp .le 8, 3), (33, .iload 4, 2), (35, .istore_n 1, 1), (36, .iload_n 3, 1), (37, .istore_n 2, 1), (38, .iinc 3 1, 3), (41, .goto (-35), 3), (44, .iload_n 2, 1), (45, .ireturn, 1)]
theorem kX5_longest_ok : ∀ q ∈ kX5_longest, decode cX5_longest q.1 = .ok q.2 := by decide +kernel
def kX5_bidder : List (Nat × Instr × Nat) := [(0, .aload_n 0, 1), (1, .iload_n 1, 1), (2, .invokevirtual 90, 3), (5, .iconst (-1), 1), (6, .istore_n 2, 1), (7, .iconst (-1), 1), (8, .istore_n 3, 1), (9, .iconst 0, 1), (10, .istore 4, 2), (12, .iload 4, 2), (14, .aload_n 0, 1), (15, .getfield 10, 3), (18, .getfield 248, 3), (21, .if_icmp .ge 62, 3), (24, .aload_n 0, 1), (25, .getfield 10, 3), (28, .iload_n 1, 1), (29, .iload 4, 2), (31, .invokevirtual 93, 3), (34, .istore 5, 2), (36, .iload 4, 2), (38, .aload_n 0, 1), (39, .getfield 10, 3), (42, .getfield 97, 3), (45, .iload_n 1, 1), (46, .iaload, 1), (47, .if_icmp .eq 30, 3), (50, .aload_n 0, 1), (51, .getfield 10, 3), (54, .getfield 79, 3), (57, .iload 4, 2), (59, .iaload, 1), (60, .iload 5, 2), (62, .if_icmp .lt 15, 3), (65, .iload 5, 2), (67, .iload_n 2, 1), (68, .if_icmp .le 9, 3), (71, .iload 5, 2), (73, .istore_n 2, 1), (74, .iload 4, 2), (76, .istore_n 3, 1), (77, .iinc 4 1, 3), (80, .goto (-68), 3), (83, .iload_n 3, 1), (84, .ireturn, 1)]
theorem kX5_bidder_ok : ∀ q ∈ kX5_bidder, decode cX5_bidder q.1 = .ok q.2 := by decide +kernel
def kX5_needRounds : List (Nat × Instr × Nat) := [(0, .iload_n 0, 1), (1, .iconst 1, 1), (2, .if_icmp .eq 16, 3), (5, .iload_n 0, 1), (6, .iconst 2, 1), (7, .if_icmp .eq 11, 3), (10, .new 56, 3), (13, .dup, 1), (14, .invokespecial 58, 3), (17, .athrow, 1), (18, .return_, 1)]
theorem kX5_needRounds_ok : ∀ q ∈ kX5_needRounds, decode cX5_needRounds q.1 = .ok q.2 := by decide +kernel
def kX5_keeper : List (Nat × Instr × Nat) := [(0, .aload_n 0, 1), (1, .iload_n 1, 1), (2, .invokevirtual 90, 3), (5, .iload_n 2, 1), (6, .invokestatic 251, 3), (9, .aload_n 0, 1), (10, .getfield 43, 3), (13, .aload_n 0, 1), (14, .getfield 10, 3), (17, .iload_n 2, 1), (18, .iconst 0, 1), (19, .invokevirtual 254, 3), (22, .ifCond .ne 7, 3), (25, .ldc_w 258, 3), (28, .ireturn, 1), (29, .aload_n 0, 1), (30, .getfield 43, 3), (33, .aload_n 0, 1), (34, .getfield 10, 3), (37, .invokevirtual 259, 3), (40, .aload_n 0, 1), (41, .getfield 10, 3), (44, .getfield 122, 3), (47, .aload_n 0, 1), (48, .getfield 43, 3), (51, .getfield 262, 3), (54, .iconst (-1), 1), (55, .ixor, 1), (56, .iand, 1), (57, .istore_n 3, 1), (58, .iconst 0, 1), (59, .istore 4, 2), (61, .iload 4, 2), (63, .aload_n 0, 1), (64, .getfield 10, 3), (67, .getfield 130, 3), (70, .if_icmp .ge 44, 3), (73, .aload_n 0, 1), (74, .getfield 10, 3), (77, .getfield 143, 3), (80, .iload 4, 2), (82, .iaload, 1), (83, .iload_n 1, 1), (84, .if_icmp .ne 24, 3), (87, .iload_n 3, 1), (88, .iload 4, 2), (90, .ishr, 1), (91, .iconst 1, 1), (92, .iand, 1), (93, .iconst 1, 1), (94, .if_icmp .ne 14, 3), (97, .aload_n 0, 1), (98, .getfield 10, 3), (101, .getfield 146, 3), (104, .iload 4, 2), (106, .iaload, 1), (107, .ireturn, 1), (108, .iinc 4 1, 3), (111, .goto (-50), 3), (114, .aload_n 0, 1), (115, .getfield 10, 3), (118, .getfield 97, 3), (121, .iload_n 1, 1), (122, .iaload, 1), (123, .ireturn, 1)]
theorem kX5_keeper_ok : ∀ q ∈ kX5_keeper, decode cX5_keeper q.1 = .ok q.2 := by decide +kernel
def kX5_leftIn : List (Nat × Instr × Nat) := [(0, .aload_n 0, 1), (1, .getfield 43, 3), (4, .aload_n 1, 1), (5, .iconst 1, 1), (6, .iload_n 2, 1), (7, .invokevirtual 254, 3), (10, .ifCond .ne 7, 3), (13, .ldc_w 258, 3), (16, .ireturn, 1), (17, .aload_n 0, 1), (18, .getfield 43, 3), (21, .aload_n 1, 1), (22, .invokevirtual 259, 3), (25, .aload_n 0, 1), (26, .getfield 43, 3), (29, .getfield 262, 3), (32, .ireturn, 1)]
theorem kX5_leftIn_ok : ∀ q ∈ kX5_leftIn, decode cX5_leftIn q.1 = .ok q.2 := by decide +kernel
def kX5_endFrom : List (Nat × Instr × Nat) := [(0, .aload_n 0, 1), (1, .iload_n 1, 1), (2, .invokevirtual 76, 3), (5, .aload_n 0, 1), (6, .aload_n 0, 1), (7, .getfield 10, 3), (10, .iload_n 1, 1), (11, .invokevirtual 265, 3), (14, .ireturn, 1)]
theorem kX5_endFrom_ok : ∀ q ∈ kX5_endFrom, decode cX5_endFrom q.1 = .ok q.2 := by decide +kernel
def kX5_end : List (Nat × Instr × Nat) := [(0, .iload_n 1, 1), (1, .invokestatic 251, 3), (4, .iload_n 2, 1), (5, .bipush 10, 2), (7, .if_icmp .lt 21, 3), (10, .aload_n 0, 1), (11, .getfield 10, 3), (14, .iload_n 2, 1), (15, .bipush 10, 2), (17, .isub, 1), (18, .invokevirtual 268, 3), (21, .ifCond .eq 7, 3), (24, .iconst 1, 1), (25, .goto 4, 3), (28, .iconst 0, 1), (29, .istore_n 3, 1), (30, .iload_n 2, 1), (31, .bipush 100, 2), (33, .if_icmp .lt 23, 3), (36, .iload_n 2, 1), (37, .bipush 100, 2), (39, .isub, 1), (40, .iload_n 1, 1), (41, .aload_n 0, 1), (42, .getfield 10, 3), (45, .getfield 248, 3), (48, .imul, 1), (49, .if_icmp .ge 7, 3), (52, .iconst 1, 1), (53, .goto 4, 3), (56, .iconst 0, 1), (57, .istore 4, 2), (59, .iload_n 2, 1), (60, .ifCond .eq 25, 3), (63, .iload_n 2, 1), (64, .iconst 1, 1), (65, .if_icmp .eq 20, 3), (68, .iload_n 3, 1), (69, .ifCond .ne 16, 3), (72, .iload 4, 2), (74, .ifCond .ne 11, 3), (77, .new 56, 3), (80, .dup, 1), (81, .invokespecial 58, 3), (84, .athrow, 1), (85, .aload_n 0, 1), (86, .getfield 43, 3), (89, .aload_n 0, 1), (90, .getfield 10, 3), (93, .iload_n 1, 1), (94, .iconst 0, 1), (95, .invokevirtual 254, 3), (98, .ifCond .ne 7, 3), (101, .ldc_w 258, 3), (104, .ireturn, 1), (105, .aload_n 0, 1), (106, .getfield 43, 3), (109, .aload_n 0, 1), (110, .getfield 10, 3), (113, .invokevirtual 259, 3), (116, .iload_n 3, 1), (117, .ifCond .eq 27, 3), (120, .aload_n 0, 1), (121, .getfield 10, 3), (124, .iload_n 2, 1), (125, .bipush 10, 2), (127, .isub, 1), (128, .invokevirtual 83, 3), (131, .aload_n 0, 1), (132, .getfield 43, 3), (135, .iload_n 2, 1), (136, .bipush 10, 2), (138, .isub, 1), (139, .invokevirtual 271, 3), (142, .iadd, 1), (143, .ireturn, 1), (144, .iload 4, 2), (146, .ifCond .eq 15, 3), (149, .aload_n 0, 1), (150, .getfield 43, 3), (153, .iload_n 2, 1), (154, .bipush 100, 2), (156, .isub, 1), (157, .invokevirtual 274, 3), (160, .ireturn, 1), (161, .iload_n 2, 1), (162, .ifCond .ne 13, 3), (165, .aload_n 0, 1), (166, .getfield 43, 3), (169, .getfield 262, 3), (172, .goto 10, 3), (175, .aload_n 0, 1), (176, .getfield 43, 3), (179, .invokevirtual 277, 3), (182, .ireturn, 1)]
theorem kX5_end_ok : ∀ q ∈ kX5_end, decode cX5_end q.1 = .ok q.2 := by decide +kernel
def kX5_ringer : List (Nat × Instr × Nat) := [(0, .aload_n 0, 1), (1, .iload_n 1, 1), (2, .invokevirtual 76, 3), (5, .aload_n 0, 1), (6, .getfield 43, 3), (9, .aload_n 0, 1), (10, .getfield 10, 3), (13, .iconst 1, 1), (14, .iconst 0, 1), (15, .invokevirtual 254, 3), (18, .ifCond .ne 7, 3), (21, .ldc_w 258, 3), (24, .ireturn, 1), (25, .aload_n 0, 1), (26, .getfield 43, 3), (29, .aload_n 0, 1), (30, .getfield 10, 3), (33, .invokevirtual 259, 3), (36, .aload_n 0, 1), (37, .getfield 43, 3), (40, .iload_n 1, 1), (41, .invokevirtual 271, 3), (44, .ineg, 1), (45, .ireturn, 1)]
theorem kX5_ringer_ok : ∀ q ∈ kX5_ringer, decode cX5_ringer q.1 = .ok q.2 := by decide +kernel
def kX5_news : List (Nat × Instr × Nat) := [(0, .aload_n 0, 1), (1, .iload_n 1, 1), (2, .invokevirtual 90, 3), (5, .aload_n 0, 1), (6, .iload_n 2, 1), (7, .invokevirtual 76, 3), (10, .iload_n 3, 1), (11, .ifCond .lt 10, 3), (14, .iload_n 3, 1), (15, .sipush 999, 3), (18, .if_icmp .le 11, 3), (21, .new 56, 3), (24, .dup, 1), (25, .invokespecial 58, 3), (28, .athrow, 1), (29, .aload_n 0, 1), (30, .getfield 16, 3), (33, .aload_n 0, 1), (34, .getfield 10, 3), (37, .invokevirtual 66, 3), (40, .aload_n 0, 1), (41, .getfield 16, 3), (44, .iload_n 1, 1), (45, .iload_n 2, 1), (46, .iload_n 3, 1), (47, .invokevirtual 280, 3), (50, .aload_n 0, 1), (51, .aload_n 0, 1), (52, .getfield 16, 3), (55, .iconst 0, 1), (56, .invokevirtual 265, 3), (59, .ireturn, 1)]
theorem kX5_news_ok : ∀ q ∈ kX5_news, decode cX5_news q.1 = .ok q.2 := by decide +kernel
def kX5_bestShare : List (Nat × Instr × Nat) := [(0, .aload_n 0, 1), (1, .getfield 43, 3), (4, .aload_n 0, 1), (5, .getfield 10, 3), (8, .iconst 1, 1), (9, .iconst 0, 1), (10, .invokevirtual 254, 3), (13, .ifCond .ne 7, 3), (16, .ldc_w 258, 3), (19, .ireturn, 1), (20, .aload_n 0, 1), (21, .getfield 16, 3), (24, .aload_n 0, 1), (25, .getfield 10, 3), (28, .invokevirtual 66, 3), (31, .aload_n 0, 1), (32, .getfield 10, 3), (35, .getfield 122, 3), (38, .invokestatic 125, 3), (41, .istore_n 1, 1), (42, .iconst (-1), 1), (43, .istore_n 2, 1), (44, .iconst 0, 1), (45, .istore_n 3, 1), (46, .iconst 0, 1), (47, .istore 4, 2), (49, .iload 4, 2), (51, .bipush 100, 2), (53, .if_icmp .gt 58, 3), (56, .iload_n 2, 1), (57, .iload_n 1, 1), (58, .if_icmp .ge 53, 3), (61, .aload_n 0, 1), (62, .getfield 16, 3), (65, .iload 4, 2), (67, .putfield 284, 3), (70, .aload_n 0, 1), (71, .getfield 43, 3), (74, .aload_n 0, 1), (75, .getfield 16, 3), (78, .invokevirtual 259, 3), (81, .aload_n 0, 1), (82, .getfield 43, 3), (85, .getfield 262, 3), (88, .invokestatic 125, 3), (91, .istore 5, 2), (93, .iload 5, 2), (95, .iload_n 2, 1), (96, .if_icmp .le 9, 3), (99, .iload 5, 2), (101, .istore_n 2, 1), (102, .iload 4, 2), (104, .istore_n 3, 1), (105, .iinc 4 1, 3), (108, .goto (-59), 3), (111, .iload_n 3, 1), (112, .ireturn, 1)]
theorem kX5_bestShare_ok : ∀ q ∈ kX5_bestShare, decode cX5_bestShare q.1 = .ok q.2 := by decide +kernel
def kX5_share : List (Nat × Instr × Nat) := [(0, .iload_n 1, 1), (1, .ifCond .lt 9, 3), (4, .iload_n 1, 1), (5, .bipush 100, 2), (7, .if_icmp .le 11, 3), (10, .new 56, 3), (13, .dup, 1), (14, .invokespecial 58, 3), (17, .athrow, 1), (18, .aload_n 0, 1), (19, .getfield 10, 3), (22, .getfield 284, 3), (25, .istore_n 2, 1), (26, .aload_n 0, 1), (27, .getfield 10, 3), (30, .iload_n 1, 1), (31, .putfield 284, 3), (34, .iload_n 2, 1), (35, .ireturn, 1)]
theorem kX5_share_ok : ∀ q ∈ kX5_share, decode cX5_share q.1 = .ok q.2 := by decide +kernel
def kX5_hope : List (Nat × Instr × Nat) := [(0, .aload_n 0, 1), (1, .iload_n 1, 1), (2, .invokevirtual 140, 3), (5, .aload_n 0, 1), (6, .iload_n 2, 1), (7, .invokevirtual 183, 3), (10, .astore 5, 2), (12, .aload_n 0, 1), (13, .getfield 10, 3), (16, .iload_n 1, 1), (17, .invokevirtual 217, 3), (20, .ifCond .ne 11, 3), (23, .new 119, 3), (26, .dup, 1), (27, .invokespecial 121, 3), (30, .athrow, 1), (31, .iload_n 3, 1), (32, .iconst 1, 1), (33, .if_icmp .lt 28, 3), (36, .iload_n 3, 1), (37, .bipush 6, 2), (39, .if_icmp .gt 22, 3), (42, .iload 4, 2), (44, .ifCond .lt 17, 3), (47, .iload 4, 2), (49, .iconst 2, 1), (50, .if_icmp .gt 11, 3), (53, .aload 5, 2), (55, .invokevirtual 287, 3), (58, .ifCond .ne 11, 3), (61, .new 56, 3), (64, .dup, 1), (65, .invokespecial 58, 3), (68, .athrow, 1), (69, .aload_n 0, 1), (70, .getfield 10, 3), (73, .getfield 146, 3), (76, .iload_n 1, 1), (77, .iaload, 1), (78, .istore 6, 2), (80, .aload_n 0, 1), (81, .getfield 10, 3), (84, .iload_n 1, 1), (85, .iload 6, 2), (87, .invokevirtual 220, 3), (90, .i2l, 1), (91, .aload_n 0, 1), (92, .getfield 10, 3), (95, .aload_n 0, 1), (96, .getfield 10, 3), (99, .getfield 143, 3), (102, .iload_n 1, 1), (103, .iaload, 1), (104, .iload 6, 2), (106, .invokevirtual 93, 3), (109, .i2l, 1), (110, .lsub, 1), (111, .lstore 7, 2), (113, .aload 5, 2), (115, .lload 7, 2), (117, .iload_n 3, 1), (118, .iload 4, 2), (120, .invokevirtual 290, 3), (123, .ireturn, 1)]
theorem kX5_hope_ok : ∀ q ∈ kX5_hope, decode cX5_hope q.1 = .ok q.2 := by decide +kernel
def kX5_swaps : List (Nat × Instr × Nat) := [(0, .iconst 0, 1), (1, .istore_n 2, 1), (2, .iconst 0, 1), (3, .istore_n 3, 1), (4, .iload_n 3, 1), (5, .aload_n 0, 1), (6, .getfield 10, 3), (9, .getfield 202, 3), (12, .if_icmp .ge 74, 3), (15, .iload_n 3, 1), (16, .iconst 1, 1), (17, .iadd, 1), (18, .istore 4, 2), (20, .iload 4, 2), (22, .aload_n 0, 1), (23, .getfield 10, 3), (26, .getfield 202, 3), (29, .if_icmp .ge 51, 3), (32, .aload_n 0, 1), (33, .getfield 10, 3), (36, .iload_n 3, 1), (37, .iload 4, 2), (39, .invokevirtual 294, 3), (42, .ifCond .eq 32, 3), (45, .aload_n 0, 1), (46, .getfield 10, 3), (49, .iload 4, 2), (51, .iload_n 3, 1), (52, .invokevirtual 294, 3), (55, .ifCond .eq 19, 3), (58, .iload_n 2, 1), (59, .iload_n 1, 1), (60, .if_icmp .ne 11, 3), (63, .bipush 100, 2), (65, .iload_n 3, 1), (66, .imul, 1), (67, .iload 4, 2), (69, .iadd, 1), (70, .ireturn, 1), (71, .iinc 2 1, 3), (74, .iinc 4 1, 3), (77, .goto (-57), 3), (80, .iinc 3 1, 3), (83, .goto (-79), 3), (86, .iload_n 1, 1), (87, .iconst (-1), 1), (88, .if_icmp .ne 7, 3), (91, .iload_n 2, 1), (92, .goto 4, 3), (95, .iconst (-1), 1), (96, .ireturn, 1)]
theorem kX5_swaps_ok : ∀ q ∈ kX5_swaps, decode cX5_swaps q.1 = .ok q.2 := by decide +kernel
def kX5_threes : List (Nat × Instr × Nat) := [(0, .iconst 0, 1), (1, .istore_n 2, 1), (2, .iconst 0, 1), (3, .istore_n 3, 1), (4, .iload_n 3, 1), (5, .aload_n 0, 1), (6, .getfield 10, 3), (9, .getfield 202, 3), (12, .if_icmp .ge 93, 3), (15, .iload_n 3, 1), (16, .iconst 1, 1), (17, .iadd, 1), (18, .istore 4, 2), (20, .iload 4, 2), (22, .aload_n 0, 1), (23, .getfield 10, 3), (26, .getfield 202, 3), (29, .if_icmp .ge 70, 3), (32, .iload_n 3, 1), (33, .iconst 1, 1), (34, .iadd, 1), (35, .istore 5, 2), (37, .iload 5, 2), (39, .aload_n 0, 1), (40, .getfield 10, 3), (43, .getfield 202, 3), (46, .if_icmp .ge 47, 3), (49, .aload_n 0, 1), (50, .getfield 10, 3), (53, .iload_n 3, 1), (54, .iload 4, 2), (56, .iload 5, 2), (58, .invokevirtual 297, 3), (61, .ifCond .eq 26, 3), (64, .iload_n 2, 1), (65, .iload_n 1, 1), (66, .if_icmp .ne 18, 3), (69, .sipush 10000, 3), (72, .iload_n 3, 1), (73, .imul, 1), (74, .bipush 100, 2), (76, .iload 4, 2), (78, .imul, 1), (79, .iadd, 1), (80, .iload 5, 2), (82, .iadd, 1), (83, .ireturn, 1), (84, .iinc 2 1, 3), (87, .iinc 5 1, 3), (90, .goto (-53), 3), (93, .iinc 4 1, 3), (96, .goto (-76), 3), (99, .iinc 3 1, 3), (102, .goto (-98), 3), (105, .iload_n 1, 1), (106, .iconst (-1), 1), (107, .if_icmp .ne 7, 3), (110, .iload_n 2, 1), (111, .goto 4, 3), (114, .iconst (-1), 1), (115, .ireturn, 1)]
theorem kX5_threes_ok : ∀ q ∈ kX5_threes, decode cX5_threes q.1 = .ok q.2 := by decide +kernel
def kX5_misplaced : List (Nat × Instr × Nat) := [(0, .iconst 0, 1), (1, .istore_n 1, 1), (2, .iconst 0, 1), (3, .istore_n 2, 1), (4, .iload_n 2, 1), (5, .aload_n 0, 1), (6, .getfield 10, 3), (9, .getfield 202, 3), (12, .if_icmp .ge 68, 3), (15, .aload_n 0, 1), (16, .getfield 10, 3), (19, .iload_n 2, 1), (20, .aload_n 0, 1), (21, .getfield 10, 3), (24, .getfield 97, 3), (27, .iload_n 2, 1), (28, .iaload, 1), (29, .invokevirtual 93, 3), (32, .istore_n 3, 1), (33, .iconst 0, 1), (34, .istore 4, 2), (36, .iload 4, 2), (38, .aload_n 0, 1), (39, .getfield 10, 3), (42, .getfield 248, 3), (45, .if_icmp .ge 29, 3), (48, .aload_n 0, 1), (49, .getfield 10, 3), (52, .iload_n 2, 1), (53, .iload 4, 2), (55, .invokevirtual 93, 3), (58, .iload_n 3, 1), (59, .if_icmp .le 9, 3), (62, .iload_n 1, 1), (63, .iconst 1, 1), (64, .iload_n 2, 1), (65, .ishl, 1), (66, .ior, 1), (67, .istore_n 1, 1), (68, .iinc 4 1, 3), (71, .goto (-35), 3), (74, .iinc 2 1, 3), (77, .goto (-73), 3), (80, .iload_n 1, 1), (81, .ireturn, 1)]
theorem kX5_misplaced_ok : ∀ q ∈ kX5_misplaced, decode cX5_misplaced q.1 = .ok q.2 := by decide +kernel
def kX5_tray : List (Nat × Instr × Nat) := [(0, .iload_n 1, 1), (1, .ifCond .lt 8, 3), (4, .iload_n 1, 1), (5, .iconst 4, 1), (6, .if_icmp .lt 11, 3), (9, .new 300, 3), (12, .dup, 1), (13, .invokespecial 302, 3), (16, .athrow, 1), (17, .iload_n 2, 1), (18, .ifCond .lt 18, 3), (21, .iload_n 2, 1), (22, .iconst 3, 1), (23, .if_icmp .gt 13, 3), (26, .iload_n 3, 1), (27, .ifCond .lt 9, 3), (30, .iload_n 3, 1), (31, .bipush 40, 2), (33, .if_icmp .le 11, 3), (36, .new 56, 3), (39, .dup, 1), (40, .invokespecial 58, 3), (43, .athrow, 1), (44, .aload_n 0, 1), (45, .getfield 29, 3), (48, .iload_n 1, 1), (49, .aaload, 1), (50, .iload_n 2, 1), (51, .iload_n 3, 1), (52, .invokevirtual 303, 3), (55, .return_, 1)]
theorem kX5_tray_ok : ∀ q ∈ kX5_tray, decode cX5_tray q.1 = .ok q.2 := by decide +kernel
def kX5_write : List (Nat × Instr × Nat) := [(0, .aload_n 0, 1), (1, .iload_n 1, 1), (2, .invokevirtual 183, 3), (5, .astore 5, 2), (7, .iload_n 2, 1), (8, .ifCond .lt 12, 3), (11, .iload_n 2, 1), (12, .aload 5, 2), (14, .getfield 191, 3), (17, .if_icmp .lt 11, 3), (20, .new 306, 3), (23, .dup, 1), (24, .invokespecial 308, 3), (27, .athrow, 1), (28, .aload 5, 2), (30, .iload_n 2, 1), (31, .lload_n 3, 1), (32, .invokevirtual 309, 3), (35, .aload 5, 2), (37, .getfield 194, 3), (40, .iload_n 2, 1), (41, .laload, 1), (42, .lreturn, 1)]
theorem kX5_write_ok : ∀ q ∈ kX5_write, decode cX5_write q.1 = .ok q.2 := by decide +kernel
def kX5_pour : List (Nat × Instr × Nat) := [(0, .aload_n 0, 1), (1, .iload_n 1, 1), (2, .invokevirtual 183, 3), (5, .astore_n 2, 1), (6, .iconst 0, 1), (7, .istore_n 3, 1), (8, .iconst 0, 1), (9, .istore 4, 2), (11, .iload 4, 2), (13, .aload_n 0, 1), (14, .getfield 10, 3), (17, .getfield 130, 3), (20, .if_icmp .ge 48, 3), (23, .iload_n 3, 1), (24, .aload_n 2, 1), (25, .getfield 191, 3), (28, .if_icmp .ge 40, 3), (31, .aload_n 0, 1), (32, .getfield 10, 3), (35, .iload 4, 2), (37, .invokevirtual 155, 3), (40, .ifCond .eq 22, 3), (43, .aload_n 2, 1), (44, .iload_n 3, 1), (45, .aload_n 0, 1), (46, .getfield 10, 3), (49, .getfield 152, 3), (52, .iload 4, 2), (54, .iaload, 1), (55, .i2l, 1), (56, .invokevirtual 309, 3), (59, .iinc 3 1, 3), (62, .iinc 4 1, 3), (65, .goto (-54), 3), (68, .iload_n 3, 1), (69, .ireturn, 1)]
theorem kX5_pour_ok : ∀ q ∈ kX5_pour, decode cX5_pour q.1 = .ok q.2 := by decide +kernel
def kX5_needImage : List (Nat × Instr × Nat) := [(0, .iload_n 1, 1), (1, .ifCond .lt 8, 3), (4, .iload_n 1, 1), (5, .iconst 3, 1), (6, .if_icmp .lt 11, 3), (9, .new 300, 3), (12, .dup, 1), (13, .invokespecial 302, 3), (16, .athrow, 1), (17, .return_, 1)]
theorem kX5_needImage_ok : ∀ q ∈ kX5_needImage, decode cX5_needImage q.1 = .ok q.2 := by decide +kernel
def kX5_image : List (Nat × Instr × Nat) := [(0, .aload_n 0, 1), (1, .iload_n 1, 1), (2, .invokevirtual 313, 3), (5, .aload_n 0, 1), (6, .getfield 19, 3), (9, .iload_n 1, 1), (10, .aaload, 1), (11, .aload_n 0, 1), (12, .getfield 10, 3), (15, .invokevirtual 66, 3), (18, .aload_n 0, 1), (19, .getfield 23, 3), (22, .iload_n 1, 1), (23, .iconst 1, 1), (24, .bastore, 1), (25, .return_, 1)]
theorem kX5_image_ok : ∀ q ∈ kX5_image, decode cX5_image q.1 = .ok q.2 := by decide +kernel
def kX5_restore : List (Nat × Instr × Nat) := [(0, .aload_n 0, 1), (1, .iload_n 1, 1), (2, .invokevirtual 313, 3), (5, .aload_n 0, 1), (6, .getfield 23, 3), (9, .iload_n 1, 1), (10, .baload, 1), (11, .ifCond .ne 11, 3), (14, .new 119, 3), (17, .dup, 1), (18, .invokespecial 121, 3), (21, .athrow, 1), (22, .aload_n 0, 1), (23, .getfield 10, 3), (26, .aload_n 0, 1), (27, .getfield 19, 3), (30, .iload_n 1, 1), (31, .aaload, 1), (32, .invokevirtual 66, 3), (35, .return_, 1)]
theorem kX5_restore_ok : ∀ q ∈ kX5_restore, decode cX5_restore q.1 = .ok q.2 := by decide +kernel
def kX5_count : List (Nat × Instr × Nat) := [(0, .iload_n 1, 1), (1, .tableswitch 162 0 11 #[63, 71, 79, 87, 95, 106, 114, 122, 130, 138, 146, 154], 63), (64, .aload_n 0, 1), (65, .getfield 10, 3), (68, .getfield 70, 3), (71, .ireturn, 1), (72, .aload_n 0, 1), (73, .getfield 10, 3), (76, .getfield 248, 3), (79, .ireturn, 1), (80, .aload_n 0, 1), (81, .getfield 10, 3), (84, .getfield 202, 3), (87, .ireturn, 1), (88, .aload_n 0, 1), (89, .getfield 10, 3), (92, .getfield 130, 3), (95, .ireturn, 1), (96, .aload_n 0, 1), (97, .getfield 10, 3), (100, .getfield 122, 3), (103, .invokestatic 125, 3), (106, .ireturn, 1), (107, .aload_n 0, 1), (108, .getfield 10, 3), (111, .getfield 107, 3), (114, .ireturn, 1), (115, .aload_n 0, 1), (116, .getfield 10, 3), (119, .getfield 284, 3), (122, .ireturn, 1), (123, .aload_n 0, 1), (124, .getfield 10, 3), (127, .getfield 316, 3), (130, .ireturn, 1), (131, .aload_n 0, 1), (132, .getfield 10, 3), (135, .getfield 104, 3), (138, .ireturn, 1), (139, .aload_n 0, 1), (140, .getfield 10, 3), (143, .invokevirtual 319, 3), (146, .ireturn, 1), (147, .aload_n 0, 1), (148, .getfield 10, 3), (151, .invokevirtual 322, 3), (154, .ireturn, 1), (155, .aload_n 0, 1), (156, .getfield 36, 3), (159, .getfield 48, 3), (162, .ireturn, 1), (163, .iconst (-1), 1), (164, .ireturn, 1)]
theorem kX5_count_ok : ∀ q ∈ kX5_count, decode cX5_count q.1 = .ok q.2 := by decide +kernel
end

section
-- ===== PART A: goes FIRST, ahead of the names: the tables' words, and 'selects' of the private methods out of them =====
/-- a private method of a class that the tables say can be made, by its rows of tables_1 -/
def lw_okq (q : MethodName × Nat) : Prop := (q.1.cls ≠ "java/lang/invoke/MethodHandle" ∧ q.1.cls ≠ "java/lang/invoke/VarHandle") ∧ Cond.instantiable q.1.cls q.2 ∈ tables_1 ∧ Cond.privateMethod q.1 ∈ tables_1 ∧ Cond.instanceMethod q.1 ∈ tables_1
theorem lw_p0 : lw_okq (⟨"TillTheBell", "temptedBit", "(II)I"⟩, 7) := ⟨⟨by decide +kernel, by decide +kernel⟩, List.mem_of_getElem? (i := 24) (by decide +kernel), List.mem_of_getElem? (i := 366) (by decide +kernel), List.mem_of_getElem? (i := 367) (by decide +kernel)⟩
theorem lw_p1 : lw_okq (⟨"TillTheBell$Ending", "layDeed", "(LTillTheBell$Town;I)V"⟩, 15) := ⟨⟨by decide +kernel, by decide +kernel⟩, List.mem_of_getElem? (i := 169) (by decide +kernel), List.mem_of_getElem? (i := 443) (by decide +kernel), List.mem_of_getElem? (i := 444) (by decide +kernel)⟩
theorem lw_p2 : lw_okq (⟨"TillTheBell$Ending", "layFor", "(I)V"⟩, 15) := ⟨⟨by decide +kernel, by decide +kernel⟩, List.mem_of_getElem? (i := 169) (by decide +kernel), List.mem_of_getElem? (i := 447) (by decide +kernel), List.mem_of_getElem? (i := 448) (by decide +kernel)⟩
theorem lw_p3 : lw_okq (⟨"TillTheBell$Ending", "reach", "()V"⟩, 15) := ⟨⟨by decide +kernel, by decide +kernel⟩, List.mem_of_getElem? (i := 169) (by decide +kernel), List.mem_of_getElem? (i := 451) (by decide +kernel), List.mem_of_getElem? (i := 452) (by decide +kernel)⟩
theorem lw_p4 : lw_okq (⟨"TillTheBell$Ending", "whole", "()I"⟩, 15) := ⟨⟨by decide +kernel, by decide +kernel⟩, List.mem_of_getElem? (i := 169) (by decide +kernel), List.mem_of_getElem? (i := 455) (by decide +kernel), List.mem_of_getElem? (i := 456) (by decide +kernel)⟩
theorem lw_p5 : lw_okq (⟨"TillTheBell$Ending", "personIn", "(I)I"⟩, 15) := ⟨⟨by decide +kernel, by decide +kernel⟩, List.mem_of_getElem? (i := 169) (by decide +kernel), List.mem_of_getElem? (i := 459) (by decide +kernel), List.mem_of_getElem? (i := 460) (by decide +kernel)⟩
theorem lw_p6 : lw_okq (⟨"TillTheBell$Ending", "reachFrom", "(III)V"⟩, 15) := ⟨⟨by decide +kernel, by decide +kernel⟩, List.mem_of_getElem? (i := 169) (by decide +kernel), List.mem_of_getElem? (i := 463) (by decide +kernel), List.mem_of_getElem? (i := 464) (by decide +kernel)⟩
theorem lw_p7 : lw_okq (⟨"TillTheBell$Ending", "weigh", "(LTillTheBell$Town;)V"⟩, 15) := ⟨⟨by decide +kernel, by decide +kernel⟩, List.mem_of_getElem? (i := 169) (by decide +kernel), List.mem_of_getElem? (i := 480) (by decide +kernel), List.mem_of_getElem? (i := 481) (by decide +kernel)⟩
theorem lw_p8 : lw_okq (⟨"TillTheBell$Ending", "forget", "(I)V"⟩, 15) := ⟨⟨by decide +kernel, by decide +kernel⟩, List.mem_of_getElem? (i := 169) (by decide +kernel), List.mem_of_getElem? (i := 489) (by decide +kernel), List.mem_of_getElem? (i := 490) (by decide +kernel)⟩
theorem lw_p9 : lw_okq (⟨"TillTheBell$Ending", "choose", "(III)V"⟩, 15) := ⟨⟨by decide +kernel, by decide +kernel⟩, List.mem_of_getElem? (i := 169) (by decide +kernel), List.mem_of_getElem? (i := 493) (by decide +kernel), List.mem_of_getElem? (i := 494) (by decide +kernel)⟩
theorem lw_p10 : lw_okq (⟨"TillTheBell$Ending", "sumOf", "([IIII)I"⟩, 15) := ⟨⟨by decide +kernel, by decide +kernel⟩, List.mem_of_getElem? (i := 169) (by decide +kernel), List.mem_of_getElem? (i := 497) (by decide +kernel), List.mem_of_getElem? (i := 498) (by decide +kernel)⟩
theorem lw_p11 : lw_okq (⟨"TillTheBell$Ending", "settle", "(III)V"⟩, 15) := ⟨⟨by decide +kernel, by decide +kernel⟩, List.mem_of_getElem? (i := 169) (by decide +kernel), List.mem_of_getElem? (i := 501) (by decide +kernel), List.mem_of_getElem? (i := 502) (by decide +kernel)⟩
theorem lw_p12 : lw_okq (⟨"TillTheBell$Ending", "walk", "(LTillTheBell$Town;)V"⟩, 15) := ⟨⟨by decide +kernel, by decide +kernel⟩, List.mem_of_getElem? (i := 169) (by decide +kernel), List.mem_of_getElem? (i := 505) (by decide +kernel), List.mem_of_getElem? (i := 506) (by decide +kernel)⟩
theorem lw_p13 : lw_okq (⟨"java/lang/Throwable", "fillInStackTrace", "(I)Ljava/lang/Throwable;"⟩, 6) := ⟨⟨by decide +kernel, by decide +kernel⟩, List.mem_of_getElem? (i := 595) (by decide +kernel), List.mem_of_getElem? (i := 593) (by decide +kernel), List.mem_of_getElem? (i := 594) (by decide +kernel)⟩
theorem lw_p14 : lw_okq (⟨"TillTheBell$Reader", "next", "()V"⟩, 10) := ⟨⟨by decide +kernel, by decide +kernel⟩, List.mem_of_getElem? (i := 127) (by decide +kernel), List.mem_of_getElem? (i := 629) (by decide +kernel), List.mem_of_getElem? (i := 630) (by decide +kernel)⟩
theorem lw_p15 : lw_okq (⟨"TillTheBell$Reader", "takeRun", "(II)Z"⟩, 10) := ⟨⟨by decide +kernel, by decide +kernel⟩, List.mem_of_getElem? (i := 127) (by decide +kernel), List.mem_of_getElem? (i := 633) (by decide +kernel), List.mem_of_getElem? (i := 634) (by decide +kernel)⟩
def lw_privs_1 : List (MethodName × Nat) := [(⟨"TillTheBell", "temptedBit", "(II)I"⟩, 7), (⟨"TillTheBell$Ending", "layDeed", "(LTillTheBell$Town;I)V"⟩, 15), (⟨"TillTheBell$Ending", "layFor", "(I)V"⟩, 15), (⟨"TillTheBell$Ending", "reach", "()V"⟩, 15), (⟨"TillTheBell$Ending", "whole", "()I"⟩, 15), (⟨"TillTheBell$Ending", "personIn", "(I)I"⟩, 15), (⟨"TillTheBell$Ending", "reachFrom", "(III)V"⟩, 15), (⟨"TillTheBell$Ending", "weigh", "(LTillTheBell$Town;)V"⟩, 15), (⟨"TillTheBell$Ending", "forget", "(I)V"⟩, 15), (⟨"TillTheBell$Ending", "choose", "(III)V"⟩, 15), (⟨"TillTheBell$Ending", "sumOf", "([IIII)I"⟩, 15), (⟨"TillTheBell$Ending", "settle", "(III)V"⟩, 15), (⟨"TillTheBell$Ending", "walk", "(LTillTheBell$Town;)V"⟩, 15), (⟨"java/lang/Throwable", "fillInStackTrace", "(I)Ljava/lang/Throwable;"⟩, 6), (⟨"TillTheBell$Reader", "next", "()V"⟩, 10), (⟨"TillTheBell$Reader", "takeRun", "(II)Z"⟩, 10)]
theorem lw_r1 : ∀ q ∈ lw_privs_1, lw_okq q := List.forall_mem_cons.mpr ⟨lw_p0, List.forall_mem_cons.mpr ⟨lw_p1, List.forall_mem_cons.mpr ⟨lw_p2, List.forall_mem_cons.mpr ⟨lw_p3, List.forall_mem_cons.mpr ⟨lw_p4, List.forall_mem_cons.mpr ⟨lw_p5, List.forall_mem_cons.mpr ⟨lw_p6, List.forall_mem_cons.mpr ⟨lw_p7, List.forall_mem_cons.mpr ⟨lw_p8, List.forall_mem_cons.mpr ⟨lw_p9, List.forall_mem_cons.mpr ⟨lw_p10, List.forall_mem_cons.mpr ⟨lw_p11, List.forall_mem_cons.mpr ⟨lw_p12, List.forall_mem_cons.mpr ⟨lw_p13, List.forall_mem_cons.mpr ⟨lw_p14, List.forall_mem_cons.mpr ⟨lw_p15, fun _ h => absurd h List.not_mem_nil⟩⟩⟩⟩⟩⟩⟩⟩⟩⟩⟩⟩⟩⟩⟩⟩
theorem lw_p16 : lw_okq (⟨"TillTheBell$Reader", "valueOfRun", "()I"⟩, 10) := ⟨⟨by decide +kernel, by decide +kernel⟩, List.mem_of_getElem? (i := 127) (by decide +kernel), List.mem_of_getElem? (i := 637) (by decide +kernel), List.mem_of_getElem? (i := 638) (by decide +kernel)⟩
theorem lw_p17 : lw_okq (⟨"TillTheBell$Reader", "kindOfLine", "()I"⟩, 10) := ⟨⟨by decide +kernel, by decide +kernel⟩, List.mem_of_getElem? (i := 127) (by decide +kernel), List.mem_of_getElem? (i := 641) (by decide +kernel), List.mem_of_getElem? (i := 642) (by decide +kernel)⟩
theorem lw_p18 : lw_okq (⟨"TillTheBell$Reader", "isWord", "(Ljava/lang/String;)Z"⟩, 10) := ⟨⟨by decide +kernel, by decide +kernel⟩, List.mem_of_getElem? (i := 127) (by decide +kernel), List.mem_of_getElem? (i := 646) (by decide +kernel), List.mem_of_getElem? (i := 647) (by decide +kernel)⟩
theorem lw_p19 : lw_okq (⟨"TillTheBell$Reader", "begins", "(ILTillTheBell$Town;)Z"⟩, 10) := ⟨⟨by decide +kernel, by decide +kernel⟩, List.mem_of_getElem? (i := 127) (by decide +kernel), List.mem_of_getElem? (i := 704) (by decide +kernel), List.mem_of_getElem? (i := 705) (by decide +kernel)⟩
theorem lw_p20 : lw_okq (⟨"TillTheBell$Reader", "fails", "(I)Z"⟩, 10) := ⟨⟨by decide +kernel, by decide +kernel⟩, List.mem_of_getElem? (i := 127) (by decide +kernel), List.mem_of_getElem? (i := 708) (by decide +kernel), List.mem_of_getElem? (i := 709) (by decide +kernel)⟩
theorem lw_p21 : lw_okq (⟨"TillTheBell$Reader", "readNumbers", "(ILTillTheBell$Town;)Z"⟩, 10) := ⟨⟨by decide +kernel, by decide +kernel⟩, List.mem_of_getElem? (i := 127) (by decide +kernel), List.mem_of_getElem? (i := 712) (by decide +kernel), List.mem_of_getElem? (i := 713) (by decide +kernel)⟩
theorem lw_p22 : lw_okq (⟨"TillTheBell$Reader", "readPeople", "(LTillTheBell$Town;)Z"⟩, 10) := ⟨⟨by decide +kernel, by decide +kernel⟩, List.mem_of_getElem? (i := 127) (by decide +kernel), List.mem_of_getElem? (i := 716) (by decide +kernel), List.mem_of_getElem? (i := 717) (by decide +kernel)⟩
theorem lw_p23 : lw_okq (⟨"TillTheBell$Reader", "takes", "(II)Z"⟩, 10) := ⟨⟨by decide +kernel, by decide +kernel⟩, List.mem_of_getElem? (i := 127) (by decide +kernel), List.mem_of_getElem? (i := 720) (by decide +kernel), List.mem_of_getElem? (i := 721) (by decide +kernel)⟩
theorem lw_p24 : lw_okq (⟨"TillTheBell$Reader", "readCoins", "(LTillTheBell$Town;)Z"⟩, 10) := ⟨⟨by decide +kernel, by decide +kernel⟩, List.mem_of_getElem? (i := 127) (by decide +kernel), List.mem_of_getElem? (i := 724) (by decide +kernel), List.mem_of_getElem? (i := 725) (by decide +kernel)⟩
theorem lw_p25 : lw_okq (⟨"TillTheBell$Reader", "readThing", "(LTillTheBell$Town;)Z"⟩, 10) := ⟨⟨by decide +kernel, by decide +kernel⟩, List.mem_of_getElem? (i := 127) (by decide +kernel), List.mem_of_getElem? (i := 728) (by decide +kernel), List.mem_of_getElem? (i := 729) (by decide +kernel)⟩
theorem lw_p26 : lw_okq (⟨"TillTheBell$Reader", "readWorth", "(LTillTheBell$Town;)Z"⟩, 10) := ⟨⟨by decide +kernel, by decide +kernel⟩, List.mem_of_getElem? (i := 127) (by decide +kernel), List.mem_of_getElem? (i := 736) (by decide +kernel), List.mem_of_getElem? (i := 737) (by decide +kernel)⟩
theorem lw_p27 : lw_okq (⟨"TillTheBell$Reader", "readShare", "(LTillTheBell$Town;)Z"⟩, 10) := ⟨⟨by decide +kernel, by decide +kernel⟩, List.mem_of_getElem? (i := 127) (by decide +kernel), List.mem_of_getElem? (i := 740) (by decide +kernel), List.mem_of_getElem? (i := 741) (by decide +kernel)⟩
theorem lw_p28 : lw_okq (⟨"TillTheBell$Reader", "readBell", "(LTillTheBell$Town;)Z"⟩, 10) := ⟨⟨by decide +kernel, by decide +kernel⟩, List.mem_of_getElem? (i := 127) (by decide +kernel), List.mem_of_getElem? (i := 744) (by decide +kernel), List.mem_of_getElem? (i := 745) (by decide +kernel)⟩
theorem lw_p29 : lw_okq (⟨"TillTheBell$Reader", "readEaten", "(LTillTheBell$Town;)Z"⟩, 10) := ⟨⟨by decide +kernel, by decide +kernel⟩, List.mem_of_getElem? (i := 127) (by decide +kernel), List.mem_of_getElem? (i := 748) (by decide +kernel), List.mem_of_getElem? (i := 749) (by decide +kernel)⟩
theorem lw_p30 : lw_okq (⟨"TillTheBell$Reader", "closes", "()Z"⟩, 10) := ⟨⟨by decide +kernel, by decide +kernel⟩, List.mem_of_getElem? (i := 127) (by decide +kernel), List.mem_of_getElem? (i := 752) (by decide +kernel), List.mem_of_getElem? (i := 753) (by decide +kernel)⟩
theorem lw_p31 : lw_okq (⟨"TillTheBell", "needPerson", "(I)V"⟩, 7) := ⟨⟨by decide +kernel, by decide +kernel⟩, List.mem_of_getElem? (i := 24) (by decide +kernel), List.mem_of_getElem? (i := 764) (by decide +kernel), List.mem_of_getElem? (i := 765) (by decide +kernel)⟩
def lw_privs_2 : List (MethodName × Nat) := [(⟨"TillTheBell$Reader", "valueOfRun", "()I"⟩, 10), (⟨"TillTheBell$Reader", "kindOfLine", "()I"⟩, 10), (⟨"TillTheBell$Reader", "isWord", "(Ljava/lang/String;)Z"⟩, 10), (⟨"TillTheBell$Reader", "begins", "(ILTillTheBell$Town;)Z"⟩, 10), (⟨"TillTheBell$Reader", "fails", "(I)Z"⟩, 10), (⟨"TillTheBell$Reader", "readNumbers", "(ILTillTheBell$Town;)Z"⟩, 10), (⟨"TillTheBell$Reader", "readPeople", "(LTillTheBell$Town;)Z"⟩, 10), (⟨"TillTheBell$Reader", "takes", "(II)Z"⟩, 10), (⟨"TillTheBell$Reader", "readCoins", "(LTillTheBell$Town;)Z"⟩, 10), (⟨"TillTheBell$Reader", "readThing", "(LTillTheBell$Town;)Z"⟩, 10), (⟨"TillTheBell$Reader", "readWorth", "(LTillTheBell$Town;)Z"⟩, 10), (⟨"TillTheBell$Reader", "readShare", "(LTillTheBell$Town;)Z"⟩, 10), (⟨"TillTheBell$Reader", "readBell", "(LTillTheBell$Town;)Z"⟩, 10), (⟨"TillTheBell$Reader", "readEaten", "(LTillTheBell$Town;)Z"⟩, 10), (⟨"TillTheBell$Reader", "closes", "()Z"⟩, 10), (⟨"TillTheBell", "needPerson", "(I)V"⟩, 7)]
theorem lw_r2 : ∀ q ∈ lw_privs_2, lw_okq q := List.forall_mem_cons.mpr ⟨lw_p16, List.forall_mem_cons.mpr ⟨lw_p17, List.forall_mem_cons.mpr ⟨lw_p18, List.forall_mem_cons.mpr ⟨lw_p19, List.forall_mem_cons.mpr ⟨lw_p20, List.forall_mem_cons.mpr ⟨lw_p21, List.forall_mem_cons.mpr ⟨lw_p22, List.forall_mem_cons.mpr ⟨lw_p23, List.forall_mem_cons.mpr ⟨lw_p24, List.forall_mem_cons.mpr ⟨lw_p25, List.forall_mem_cons.mpr ⟨lw_p26, List.forall_mem_cons.mpr ⟨lw_p27, List.forall_mem_cons.mpr ⟨lw_p28, List.forall_mem_cons.mpr ⟨lw_p29, List.forall_mem_cons.mpr ⟨lw_p30, List.forall_mem_cons.mpr ⟨lw_p31, fun _ h => absurd h List.not_mem_nil⟩⟩⟩⟩⟩⟩⟩⟩⟩⟩⟩⟩⟩⟩⟩⟩
theorem lw_p32 : lw_okq (⟨"TillTheBell", "needThing", "(I)V"⟩, 7) := ⟨⟨by decide +kernel, by decide +kernel⟩, List.mem_of_getElem? (i := 24) (by decide +kernel), List.mem_of_getElem? (i := 796) (by decide +kernel), List.mem_of_getElem? (i := 797) (by decide +kernel)⟩
theorem lw_p33 : lw_okq (⟨"TillTheBell", "needDeed", "(I)V"⟩, 7) := ⟨⟨by decide +kernel, by decide +kernel⟩, List.mem_of_getElem? (i := 24) (by decide +kernel), List.mem_of_getElem? (i := 857) (by decide +kernel), List.mem_of_getElem? (i := 858) (by decide +kernel)⟩
theorem lw_p34 : lw_okq (⟨"TillTheBell", "needTray", "(I)LTillTheBell$Tray;"⟩, 7) := ⟨⟨by decide +kernel, by decide +kernel⟩, List.mem_of_getElem? (i := 24) (by decide +kernel), List.mem_of_getElem? (i := 911) (by decide +kernel), List.mem_of_getElem? (i := 912) (by decide +kernel)⟩
theorem lw_p35 : lw_okq (⟨"TillTheBell$Draws", "draw", "(I)I"⟩, 1) := ⟨⟨by decide +kernel, by decide +kernel⟩, List.mem_of_getElem? (i := 935) (by decide +kernel), List.mem_of_getElem? (i := 949) (by decide +kernel), List.mem_of_getElem? (i := 950) (by decide +kernel)⟩
theorem lw_p36 : lw_okq (⟨"TillTheBell$Draws", "undoes", "(LTillTheBell$Town;)Z"⟩, 1) := ⟨⟨by decide +kernel, by decide +kernel⟩, List.mem_of_getElem? (i := 935) (by decide +kernel), List.mem_of_getElem? (i := 954) (by decide +kernel), List.mem_of_getElem? (i := 955) (by decide +kernel)⟩
theorem lw_p37 : lw_okq (⟨"TillTheBell$Draws", "deals", "(LTillTheBell$Town;)Z"⟩, 1) := ⟨⟨by decide +kernel, by decide +kernel⟩, List.mem_of_getElem? (i := 935) (by decide +kernel), List.mem_of_getElem? (i := 961) (by decide +kernel), List.mem_of_getElem? (i := 962) (by decide +kernel)⟩
theorem lw_p38 : lw_okq (⟨"TillTheBell", "leftIn", "(LTillTheBell$Town;I)I"⟩, 7) := ⟨⟨by decide +kernel, by decide +kernel⟩, List.mem_of_getElem? (i := 24) (by decide +kernel), List.mem_of_getElem? (i := 1025) (by decide +kernel), List.mem_of_getElem? (i := 1026) (by decide +kernel)⟩
theorem lw_p39 : lw_okq (⟨"TillTheBell$Tray", "hopeAhead", "(JJJ)J"⟩, 4) := ⟨⟨by decide +kernel, by decide +kernel⟩, List.mem_of_getElem? (i := 222) (by decide +kernel), List.mem_of_getElem? (i := 1086) (by decide +kernel), List.mem_of_getElem? (i := 1087) (by decide +kernel)⟩
theorem lw_p40 : lw_okq (⟨"TillTheBell$Tray", "leastTaken", "(JJJ)I"⟩, 4) := ⟨⟨by decide +kernel, by decide +kernel⟩, List.mem_of_getElem? (i := 222) (by decide +kernel), List.mem_of_getElem? (i := 1093) (by decide +kernel), List.mem_of_getElem? (i := 1094) (by decide +kernel)⟩
theorem lw_p41 : lw_okq (⟨"TillTheBell$Tray", "cutToSort", "(J)J"⟩, 4) := ⟨⟨by decide +kernel, by decide +kernel⟩, List.mem_of_getElem? (i := 222) (by decide +kernel), List.mem_of_getElem? (i := 1138) (by decide +kernel), List.mem_of_getElem? (i := 1139) (by decide +kernel)⟩
theorem lw_p42 : lw_okq (⟨"TillTheBell", "needImage", "(I)V"⟩, 7) := ⟨⟨by decide +kernel, by decide +kernel⟩, List.mem_of_getElem? (i := 24) (by decide +kernel), List.mem_of_getElem? (i := 1156) (by decide +kernel), List.mem_of_getElem? (i := 1157) (by decide +kernel)⟩
theorem lw_p43 : lw_okq (⟨"TillTheBellModel", "fails", "(I)I"⟩, 29) := ⟨⟨by decide +kernel, by decide +kernel⟩, List.mem_of_getElem? (i := 1167) (by decide +kernel), List.mem_of_getElem? (i := 1280) (by decide +kernel), List.mem_of_getElem? (i := 1281) (by decide +kernel)⟩
theorem lw_p44 : lw_okq (⟨"TillTheBellModel", "reads", "()V"⟩, 29) := ⟨⟨by decide +kernel, by decide +kernel⟩, List.mem_of_getElem? (i := 1167) (by decide +kernel), List.mem_of_getElem? (i := 1284) (by decide +kernel), List.mem_of_getElem? (i := 1285) (by decide +kernel)⟩
theorem lw_p45 : lw_okq (⟨"TillTheBellModel", "see", "(I)I"⟩, 29) := ⟨⟨by decide +kernel, by decide +kernel⟩, List.mem_of_getElem? (i := 1167) (by decide +kernel), List.mem_of_getElem? (i := 1291) (by decide +kernel), List.mem_of_getElem? (i := 1292) (by decide +kernel)⟩
theorem lw_p46 : lw_okq (⟨"TillTheBellModel", "readLine", "()V"⟩, 29) := ⟨⟨by decide +kernel, by decide +kernel⟩, List.mem_of_getElem? (i := 1167) (by decide +kernel), List.mem_of_getElem? (i := 1298) (by decide +kernel), List.mem_of_getElem? (i := 1299) (by decide +kernel)⟩
theorem lw_p47 : lw_okq (⟨"TillTheBellModel", "isWord", "(Ljava/lang/String;)Z"⟩, 29) := ⟨⟨by decide +kernel, by decide +kernel⟩, List.mem_of_getElem? (i := 1167) (by decide +kernel), List.mem_of_getElem? (i := 1303) (by decide +kernel), List.mem_of_getElem? (i := 1304) (by decide +kernel)⟩
def lw_privs_3 : List (MethodName × Nat) := [(⟨"TillTheBell", "needThing", "(I)V"⟩, 7), (⟨"TillTheBell", "needDeed", "(I)V"⟩, 7), (⟨"TillTheBell", "needTray", "(I)LTillTheBell$Tray;"⟩, 7), (⟨"TillTheBell$Draws", "draw", "(I)I"⟩, 1), (⟨"TillTheBell$Draws", "undoes", "(LTillTheBell$Town;)Z"⟩, 1), (⟨"TillTheBell$Draws", "deals", "(LTillTheBell$Town;)Z"⟩, 1), (⟨"TillTheBell", "leftIn", "(LTillTheBell$Town;I)I"⟩, 7), (⟨"TillTheBell$Tray", "hopeAhead", "(JJJ)J"⟩, 4), (⟨"TillTheBell$Tray", "leastTaken", "(JJJ)I"⟩, 4), (⟨"TillTheBell$Tray", "cutToSort", "(J)J"⟩, 4), (⟨"TillTheBell", "needImage", "(I)V"⟩, 7), (⟨"TillTheBellModel", "fails", "(I)I"⟩, 29), (⟨"TillTheBellModel", "reads", "()V"⟩, 29), (⟨"TillTheBellModel", "see", "(I)I"⟩, 29), (⟨"TillTheBellModel", "readLine", "()V"⟩, 29), (⟨"TillTheBellModel", "isWord", "(Ljava/lang/String;)Z"⟩, 29)]
theorem lw_r3 : ∀ q ∈ lw_privs_3, lw_okq q := List.forall_mem_cons.mpr ⟨lw_p32, List.forall_mem_cons.mpr ⟨lw_p33, List.forall_mem_cons.mpr ⟨lw_p34, List.forall_mem_cons.mpr ⟨lw_p35, List.forall_mem_cons.mpr ⟨lw_p36, List.forall_mem_cons.mpr ⟨lw_p37, List.forall_mem_cons.mpr ⟨lw_p38, List.forall_mem_cons.mpr ⟨lw_p39, List.forall_mem_cons.mpr ⟨lw_p40, List.forall_mem_cons.mpr ⟨lw_p41, List.forall_mem_cons.mpr ⟨lw_p42, List.forall_mem_cons.mpr ⟨lw_p43, List.forall_mem_cons.mpr ⟨lw_p44, List.forall_mem_cons.mpr ⟨lw_p45, List.forall_mem_cons.mpr ⟨lw_p46, List.forall_mem_cons.mpr ⟨lw_p47, fun _ h => absurd h List.not_mem_nil⟩⟩⟩⟩⟩⟩⟩⟩⟩⟩⟩⟩⟩⟩⟩⟩
theorem lw_p48 : lw_okq (⟨"TillTheBellModel", "readPeople", "()V"⟩, 29) := ⟨⟨by decide +kernel, by decide +kernel⟩, List.mem_of_getElem? (i := 1167) (by decide +kernel), List.mem_of_getElem? (i := 1309) (by decide +kernel), List.mem_of_getElem? (i := 1310) (by decide +kernel)⟩
theorem lw_p49 : lw_okq (⟨"TillTheBellModel", "blames", "(I)V"⟩, 29) := ⟨⟨by decide +kernel, by decide +kernel⟩, List.mem_of_getElem? (i := 1167) (by decide +kernel), List.mem_of_getElem? (i := 1313) (by decide +kernel), List.mem_of_getElem? (i := 1314) (by decide +kernel)⟩
theorem lw_p50 : lw_okq (⟨"TillTheBellModel", "number", "(II)I"⟩, 29) := ⟨⟨by decide +kernel, by decide +kernel⟩, List.mem_of_getElem? (i := 1167) (by decide +kernel), List.mem_of_getElem? (i := 1317) (by decide +kernel), List.mem_of_getElem? (i := 1318) (by decide +kernel)⟩
theorem lw_p51 : lw_okq (⟨"TillTheBellModel", "took", "(Ljava/lang/String;)Z"⟩, 29) := ⟨⟨by decide +kernel, by decide +kernel⟩, List.mem_of_getElem? (i := 1167) (by decide +kernel), List.mem_of_getElem? (i := 1322) (by decide +kernel), List.mem_of_getElem? (i := 1323) (by decide +kernel)⟩
theorem lw_p52 : lw_okq (⟨"TillTheBellModel", "readCoins", "()V"⟩, 29) := ⟨⟨by decide +kernel, by decide +kernel⟩, List.mem_of_getElem? (i := 1167) (by decide +kernel), List.mem_of_getElem? (i := 1326) (by decide +kernel), List.mem_of_getElem? (i := 1327) (by decide +kernel)⟩
theorem lw_p53 : lw_okq (⟨"TillTheBellModel", "personTold", "()I"⟩, 29) := ⟨⟨by decide +kernel, by decide +kernel⟩, List.mem_of_getElem? (i := 1167) (by decide +kernel), List.mem_of_getElem? (i := 1330) (by decide +kernel), List.mem_of_getElem? (i := 1331) (by decide +kernel)⟩
theorem lw_p54 : lw_okq (⟨"TillTheBellModel", "readThing", "()V"⟩, 29) := ⟨⟨by decide +kernel, by decide +kernel⟩, List.mem_of_getElem? (i := 1167) (by decide +kernel), List.mem_of_getElem? (i := 1335) (by decide +kernel), List.mem_of_getElem? (i := 1336) (by decide +kernel)⟩
theorem lw_p55 : lw_okq (⟨"TillTheBellModel", "readWorth", "()V"⟩, 29) := ⟨⟨by decide +kernel, by decide +kernel⟩, List.mem_of_getElem? (i := 1167) (by decide +kernel), List.mem_of_getElem? (i := 1341) (by decide +kernel), List.mem_of_getElem? (i := 1342) (by decide +kernel)⟩
theorem lw_p56 : lw_okq (⟨"TillTheBellModel", "thingTold", "()I"⟩, 29) := ⟨⟨by decide +kernel, by decide +kernel⟩, List.mem_of_getElem? (i := 1167) (by decide +kernel), List.mem_of_getElem? (i := 1345) (by decide +kernel), List.mem_of_getElem? (i := 1346) (by decide +kernel)⟩
theorem lw_p57 : lw_okq (⟨"TillTheBellModel", "readEaten", "()V"⟩, 29) := ⟨⟨by decide +kernel, by decide +kernel⟩, List.mem_of_getElem? (i := 1167) (by decide +kernel), List.mem_of_getElem? (i := 1352) (by decide +kernel), List.mem_of_getElem? (i := 1353) (by decide +kernel)⟩
theorem lw_p58 : lw_okq (⟨"TillTheBellModel", "isPerson", "(I)Z"⟩, 29) := ⟨⟨by decide +kernel, by decide +kernel⟩, List.mem_of_getElem? (i := 1167) (by decide +kernel), List.mem_of_getElem? (i := 1367) (by decide +kernel), List.mem_of_getElem? (i := 1368) (by decide +kernel)⟩
theorem lw_p59 : lw_okq (⟨"TillTheBellModel", "wealth", "(I)I"⟩, 29) := ⟨⟨by decide +kernel, by decide +kernel⟩, List.mem_of_getElem? (i := 1167) (by decide +kernel), List.mem_of_getElem? (i := 1372) (by decide +kernel), List.mem_of_getElem? (i := 1373) (by decide +kernel)⟩
theorem lw_p60 : lw_okq (⟨"TillTheBellModel", "worthTo", "(II)I"⟩, 29) := ⟨⟨by decide +kernel, by decide +kernel⟩, List.mem_of_getElem? (i := 1167) (by decide +kernel), List.mem_of_getElem? (i := 1376) (by decide +kernel), List.mem_of_getElem? (i := 1377) (by decide +kernel)⟩
theorem lw_p61 : lw_okq (⟨"TillTheBellModel", "holds", "(I)I"⟩, 29) := ⟨⟨by decide +kernel, by decide +kernel⟩, List.mem_of_getElem? (i := 1167) (by decide +kernel), List.mem_of_getElem? (i := 1380) (by decide +kernel), List.mem_of_getElem? (i := 1381) (by decide +kernel)⟩
theorem lw_p62 : lw_okq (⟨"TillTheBellModel", "isThing", "(I)Z"⟩, 29) := ⟨⟨by decide +kernel, by decide +kernel⟩, List.mem_of_getElem? (i := 1167) (by decide +kernel), List.mem_of_getElem? (i := 1388) (by decide +kernel), List.mem_of_getElem? (i := 1389) (by decide +kernel)⟩
theorem lw_p63 : lw_okq (⟨"TillTheBellModel", "isEaten", "(I)Z"⟩, 29) := ⟨⟨by decide +kernel, by decide +kernel⟩, List.mem_of_getElem? (i := 1167) (by decide +kernel), List.mem_of_getElem? (i := 1400) (by decide +kernel), List.mem_of_getElem? (i := 1401) (by decide +kernel)⟩
def lw_privs_4 : List (MethodName × Nat) := [(⟨"TillTheBellModel", "readPeople", "()V"⟩, 29), (⟨"TillTheBellModel", "blames", "(I)V"⟩, 29), (⟨"TillTheBellModel", "number", "(II)I"⟩, 29), (⟨"TillTheBellModel", "took", "(Ljava/lang/String;)Z"⟩, 29), (⟨"TillTheBellModel", "readCoins", "()V"⟩, 29), (⟨"TillTheBellModel", "personTold", "()I"⟩, 29), (⟨"TillTheBellModel", "readThing", "()V"⟩, 29), (⟨"TillTheBellModel", "readWorth", "()V"⟩, 29), (⟨"TillTheBellModel", "thingTold", "()I"⟩, 29), (⟨"TillTheBellModel", "readEaten", "()V"⟩, 29), (⟨"TillTheBellModel", "isPerson", "(I)Z"⟩, 29), (⟨"TillTheBellModel", "wealth", "(I)I"⟩, 29), (⟨"TillTheBellModel", "worthTo", "(II)I"⟩, 29), (⟨"TillTheBellModel", "holds", "(I)I"⟩, 29), (⟨"TillTheBellModel", "isThing", "(I)Z"⟩, 29), (⟨"TillTheBellModel", "isEaten", "(I)Z"⟩, 29)]
theorem lw_r4 : ∀ q ∈ lw_privs_4, lw_okq q := List.forall_mem_cons.mpr ⟨lw_p48, List.forall_mem_cons.mpr ⟨lw_p49, List.forall_mem_cons.mpr ⟨lw_p50, List.forall_mem_cons.mpr ⟨lw_p51, List.forall_mem_cons.mpr ⟨lw_p52, List.forall_mem_cons.mpr ⟨lw_p53, List.forall_mem_cons.mpr ⟨lw_p54, List.forall_mem_cons.mpr ⟨lw_p55, List.forall_mem_cons.mpr ⟨lw_p56, List.forall_mem_cons.mpr ⟨lw_p57, List.forall_mem_cons.mpr ⟨lw_p58, List.forall_mem_cons.mpr ⟨lw_p59, List.forall_mem_cons.mpr ⟨lw_p60, List.forall_mem_cons.mpr ⟨lw_p61, List.forall_mem_cons.mpr ⟨lw_p62, List.forall_mem_cons.mpr ⟨lw_p63, fun _ h => absurd h List.not_mem_nil⟩⟩⟩⟩⟩⟩⟩⟩⟩⟩⟩⟩⟩⟩⟩⟩
theorem lw_p64 : lw_okq (⟨"TillTheBellModel", "hasRung", "()Z"⟩, 29) := ⟨⟨by decide +kernel, by decide +kernel⟩, List.mem_of_getElem? (i := 1167) (by decide +kernel), List.mem_of_getElem? (i := 1413) (by decide +kernel), List.mem_of_getElem? (i := 1414) (by decide +kernel)⟩
theorem lw_p65 : lw_okq (⟨"TillTheBellModel", "standMany", "()I"⟩, 29) := ⟨⟨by decide +kernel, by decide +kernel⟩, List.mem_of_getElem? (i := 1167) (by decide +kernel), List.mem_of_getElem? (i := 1417) (by decide +kernel), List.mem_of_getElem? (i := 1418) (by decide +kernel)⟩
theorem lw_p66 : lw_okq (⟨"TillTheBellModel", "of", "(II)I"⟩, 29) := ⟨⟨by decide +kernel, by decide +kernel⟩, List.mem_of_getElem? (i := 1167) (by decide +kernel), List.mem_of_getElem? (i := 1421) (by decide +kernel), List.mem_of_getElem? (i := 1422) (by decide +kernel)⟩
theorem lw_p67 : lw_okq (⟨"TillTheBellModel", "whyNoSale", "(III)I"⟩, 29) := ⟨⟨by decide +kernel, by decide +kernel⟩, List.mem_of_getElem? (i := 1167) (by decide +kernel), List.mem_of_getElem? (i := 1429) (by decide +kernel), List.mem_of_getElem? (i := 1430) (by decide +kernel)⟩
theorem lw_p68 : lw_okq (⟨"TillTheBellModel", "sells", "(III)I"⟩, 29) := ⟨⟨by decide +kernel, by decide +kernel⟩, List.mem_of_getElem? (i := 1167) (by decide +kernel), List.mem_of_getElem? (i := 1434) (by decide +kernel), List.mem_of_getElem? (i := 1435) (by decide +kernel)⟩
theorem lw_p69 : lw_okq (⟨"TillTheBellModel", "isDeed", "(J)Z"⟩, 29) := ⟨⟨by decide +kernel, by decide +kernel⟩, List.mem_of_getElem? (i := 1167) (by decide +kernel), List.mem_of_getElem? (i := 1442) (by decide +kernel), List.mem_of_getElem? (i := 1443) (by decide +kernel)⟩
theorem lw_p70 : lw_okq (⟨"TillTheBellModel", "worthOf", "(IZ)I"⟩, 29) := ⟨⟨by decide +kernel, by decide +kernel⟩, List.mem_of_getElem? (i := 1167) (by decide +kernel), List.mem_of_getElem? (i := 1447) (by decide +kernel), List.mem_of_getElem? (i := 1448) (by decide +kernel)⟩
theorem lw_p71 : lw_okq (⟨"TillTheBellModel", "whyNot", "(JI)I"⟩, 29) := ⟨⟨by decide +kernel, by decide +kernel⟩, List.mem_of_getElem? (i := 1167) (by decide +kernel), List.mem_of_getElem? (i := 1456) (by decide +kernel), List.mem_of_getElem? (i := 1457) (by decide +kernel)⟩
theorem lw_p72 : lw_okq (⟨"TillTheBellModel", "isOf", "(II)Z"⟩, 29) := ⟨⟨by decide +kernel, by decide +kernel⟩, List.mem_of_getElem? (i := 1167) (by decide +kernel), List.mem_of_getElem? (i := 1460) (by decide +kernel), List.mem_of_getElem? (i := 1461) (by decide +kernel)⟩
theorem lw_p73 : lw_okq (⟨"TillTheBellModel", "undoes", "(II)I"⟩, 29) := ⟨⟨by decide +kernel, by decide +kernel⟩, List.mem_of_getElem? (i := 1167) (by decide +kernel), List.mem_of_getElem? (i := 1464) (by decide +kernel), List.mem_of_getElem? (i := 1465) (by decide +kernel)⟩
theorem lw_p74 : lw_okq (⟨"TillTheBellModel", "fallsOf", "(I)I"⟩, 29) := ⟨⟨by decide +kernel, by decide +kernel⟩, List.mem_of_getElem? (i := 1167) (by decide +kernel), List.mem_of_getElem? (i := 1468) (by decide +kernel), List.mem_of_getElem? (i := 1469) (by decide +kernel)⟩
theorem lw_p75 : lw_okq (⟨"TillTheBellModel", "pays", "(III)I"⟩, 29) := ⟨⟨by decide +kernel, by decide +kernel⟩, List.mem_of_getElem? (i := 1167) (by decide +kernel), List.mem_of_getElem? (i := 1472) (by decide +kernel), List.mem_of_getElem? (i := 1473) (by decide +kernel)⟩
theorem lw_p76 : lw_okq (⟨"TillTheBellModel", "trayFault", "(I)I"⟩, 29) := ⟨⟨by decide +kernel, by decide +kernel⟩, List.mem_of_getElem? (i := 1167) (by decide +kernel), List.mem_of_getElem? (i := 1496) (by decide +kernel), List.mem_of_getElem? (i := 1497) (by decide +kernel)⟩
theorem lw_p77 : lw_okq (⟨"TillTheBellModel", "goesBy", "(I)I"⟩, 29) := ⟨⟨by decide +kernel, by decide +kernel⟩, List.mem_of_getElem? (i := 1167) (by decide +kernel), List.mem_of_getElem? (i := 1504) (by decide +kernel), List.mem_of_getElem? (i := 1505) (by decide +kernel)⟩
theorem lw_p78 : lw_okq (⟨"TillTheBellModel", "whyTold", "(J)I"⟩, 29) := ⟨⟨by decide +kernel, by decide +kernel⟩, List.mem_of_getElem? (i := 1167) (by decide +kernel), List.mem_of_getElem? (i := 1508) (by decide +kernel), List.mem_of_getElem? (i := 1509) (by decide +kernel)⟩
theorem lw_p79 : lw_okq (⟨"TillTheBellModel", "byTold", "(I)I"⟩, 29) := ⟨⟨by decide +kernel, by decide +kernel⟩, List.mem_of_getElem? (i := 1167) (by decide +kernel), List.mem_of_getElem? (i := 1512) (by decide +kernel), List.mem_of_getElem? (i := 1513) (by decide +kernel)⟩
def lw_privs_5 : List (MethodName × Nat) := [(⟨"TillTheBellModel", "hasRung", "()Z"⟩, 29), (⟨"TillTheBellModel", "standMany", "()I"⟩, 29), (⟨"TillTheBellModel", "of", "(II)I"⟩, 29), (⟨"TillTheBellModel", "whyNoSale", "(III)I"⟩, 29), (⟨"TillTheBellModel", "sells", "(III)I"⟩, 29), (⟨"TillTheBellModel", "isDeed", "(J)Z"⟩, 29), (⟨"TillTheBellModel", "worthOf", "(IZ)I"⟩, 29), (⟨"TillTheBellModel", "whyNot", "(JI)I"⟩, 29), (⟨"TillTheBellModel", "isOf", "(II)Z"⟩, 29), (⟨"TillTheBellModel", "undoes", "(II)I"⟩, 29), (⟨"TillTheBellModel", "fallsOf", "(I)I"⟩, 29), (⟨"TillTheBellModel", "pays", "(III)I"⟩, 29), (⟨"TillTheBellModel", "trayFault", "(I)I"⟩, 29), (⟨"TillTheBellModel", "goesBy", "(I)I"⟩, 29), (⟨"TillTheBellModel", "whyTold", "(J)I"⟩, 29), (⟨"TillTheBellModel", "byTold", "(I)I"⟩, 29)]
theorem lw_r5 : ∀ q ∈ lw_privs_5, lw_okq q := List.forall_mem_cons.mpr ⟨lw_p64, List.forall_mem_cons.mpr ⟨lw_p65, List.forall_mem_cons.mpr ⟨lw_p66, List.forall_mem_cons.mpr ⟨lw_p67, List.forall_mem_cons.mpr ⟨lw_p68, List.forall_mem_cons.mpr ⟨lw_p69, List.forall_mem_cons.mpr ⟨lw_p70, List.forall_mem_cons.mpr ⟨lw_p71, List.forall_mem_cons.mpr ⟨lw_p72, List.forall_mem_cons.mpr ⟨lw_p73, List.forall_mem_cons.mpr ⟨lw_p74, List.forall_mem_cons.mpr ⟨lw_p75, List.forall_mem_cons.mpr ⟨lw_p76, List.forall_mem_cons.mpr ⟨lw_p77, List.forall_mem_cons.mpr ⟨lw_p78, List.forall_mem_cons.mpr ⟨lw_p79, fun _ h => absurd h List.not_mem_nil⟩⟩⟩⟩⟩⟩⟩⟩⟩⟩⟩⟩⟩⟩⟩⟩
theorem lw_p80 : lw_okq (⟨"TillTheBellModel", "drawn", "()Z"⟩, 29) := ⟨⟨by decide +kernel, by decide +kernel⟩, List.mem_of_getElem? (i := 1167) (by decide +kernel), List.mem_of_getElem? (i := 1525) (by decide +kernel), List.mem_of_getElem? (i := 1526) (by decide +kernel)⟩
theorem lw_p81 : lw_okq (⟨"TillTheBellModel", "draw", "(I)I"⟩, 29) := ⟨⟨by decide +kernel, by decide +kernel⟩, List.mem_of_getElem? (i := 1167) (by decide +kernel), List.mem_of_getElem? (i := 1529) (by decide +kernel), List.mem_of_getElem? (i := 1530) (by decide +kernel)⟩
theorem lw_p82 : lw_okq (⟨"TillTheBellModel", "openSet", "()I"⟩, 29) := ⟨⟨by decide +kernel, by decide +kernel⟩, List.mem_of_getElem? (i := 1167) (by decide +kernel), List.mem_of_getElem? (i := 1538) (by decide +kernel), List.mem_of_getElem? (i := 1539) (by decide +kernel)⟩
theorem lw_p83 : lw_okq (⟨"TillTheBellModel", "isOpen", "(I)Z"⟩, 29) := ⟨⟨by decide +kernel, by decide +kernel⟩, List.mem_of_getElem? (i := 1167) (by decide +kernel), List.mem_of_getElem? (i := 1542) (by decide +kernel), List.mem_of_getElem? (i := 1543) (by decide +kernel)⟩
theorem lw_p84 : lw_okq (⟨"TillTheBellModel", "gainOf", "(II)I"⟩, 29) := ⟨⟨by decide +kernel, by decide +kernel⟩, List.mem_of_getElem? (i := 1167) (by decide +kernel), List.mem_of_getElem? (i := 1550) (by decide +kernel), List.mem_of_getElem? (i := 1551) (by decide +kernel)⟩
theorem lw_p85 : lw_okq (⟨"TillTheBellModel", "pledgeOf", "(I)I"⟩, 29) := ⟨⟨by decide +kernel, by decide +kernel⟩, List.mem_of_getElem? (i := 1167) (by decide +kernel), List.mem_of_getElem? (i := 1558) (by decide +kernel), List.mem_of_getElem? (i := 1559) (by decide +kernel)⟩
theorem lw_p86 : lw_okq (⟨"TillTheBellModel", "isTempted", "(II)Z"⟩, 29) := ⟨⟨by decide +kernel, by decide +kernel⟩, List.mem_of_getElem? (i := 1167) (by decide +kernel), List.mem_of_getElem? (i := 1570) (by decide +kernel), List.mem_of_getElem? (i := 1571) (by decide +kernel)⟩
theorem lw_p87 : lw_okq (⟨"TillTheBellModel", "isSafePrice", "(IIII)Z"⟩, 29) := ⟨⟨by decide +kernel, by decide +kernel⟩, List.mem_of_getElem? (i := 1167) (by decide +kernel), List.mem_of_getElem? (i := 1586) (by decide +kernel), List.mem_of_getElem? (i := 1587) (by decide +kernel)⟩
theorem lw_p88 : lw_okq (⟨"TillTheBellModel", "laysEnd", "(I)Z"⟩, 29) := ⟨⟨by decide +kernel, by decide +kernel⟩, List.mem_of_getElem? (i := 1167) (by decide +kernel), List.mem_of_getElem? (i := 1604) (by decide +kernel), List.mem_of_getElem? (i := 1605) (by decide +kernel)⟩
theorem lw_p89 : lw_okq (⟨"TillTheBellModel", "laysFrom", "(II)Z"⟩, 29) := ⟨⟨by decide +kernel, by decide +kernel⟩, List.mem_of_getElem? (i := 1167) (by decide +kernel), List.mem_of_getElem? (i := 1608) (by decide +kernel), List.mem_of_getElem? (i := 1609) (by decide +kernel)⟩
theorem lw_p90 : lw_okq (⟨"TillTheBellModel", "seat", "(III)I"⟩, 29) := ⟨⟨by decide +kernel, by decide +kernel⟩, List.mem_of_getElem? (i := 1167) (by decide +kernel), List.mem_of_getElem? (i := 1612) (by decide +kernel), List.mem_of_getElem? (i := 1613) (by decide +kernel)⟩
theorem lw_p91 : lw_okq (⟨"TillTheBellModel", "laysTurn", "(II)V"⟩, 29) := ⟨⟨by decide +kernel, by decide +kernel⟩, List.mem_of_getElem? (i := 1167) (by decide +kernel), List.mem_of_getElem? (i := 1616) (by decide +kernel), List.mem_of_getElem? (i := 1617) (by decide +kernel)⟩
theorem lw_p92 : lw_okq (⟨"TillTheBellModel", "laysUndoing", "(III)V"⟩, 29) := ⟨⟨by decide +kernel, by decide +kernel⟩, List.mem_of_getElem? (i := 1167) (by decide +kernel), List.mem_of_getElem? (i := 1620) (by decide +kernel), List.mem_of_getElem? (i := 1621) (by decide +kernel)⟩
theorem lw_p93 : lw_okq (⟨"TillTheBellModel", "fallIn", "(II)I"⟩, 29) := ⟨⟨by decide +kernel, by decide +kernel⟩, List.mem_of_getElem? (i := 1167) (by decide +kernel), List.mem_of_getElem? (i := 1624) (by decide +kernel), List.mem_of_getElem? (i := 1625) (by decide +kernel)⟩
theorem lw_p94 : lw_okq (⟨"TillTheBellModel", "standIn", "()I"⟩, 29) := ⟨⟨by decide +kernel, by decide +kernel⟩, List.mem_of_getElem? (i := 1167) (by decide +kernel), List.mem_of_getElem? (i := 1629) (by decide +kernel), List.mem_of_getElem? (i := 1630) (by decide +kernel)⟩
theorem lw_p95 : lw_okq (⟨"TillTheBellModel", "setBehind", "(I)I"⟩, 29) := ⟨⟨by decide +kernel, by decide +kernel⟩, List.mem_of_getElem? (i := 1167) (by decide +kernel), List.mem_of_getElem? (i := 1633) (by decide +kernel), List.mem_of_getElem? (i := 1634) (by decide +kernel)⟩
def lw_privs_6 : List (MethodName × Nat) := [(⟨"TillTheBellModel", "drawn", "()Z"⟩, 29), (⟨"TillTheBellModel", "draw", "(I)I"⟩, 29), (⟨"TillTheBellModel", "openSet", "()I"⟩, 29), (⟨"TillTheBellModel", "isOpen", "(I)Z"⟩, 29), (⟨"TillTheBellModel", "gainOf", "(II)I"⟩, 29), (⟨"TillTheBellModel", "pledgeOf", "(I)I"⟩, 29), (⟨"TillTheBellModel", "isTempted", "(II)Z"⟩, 29), (⟨"TillTheBellModel", "isSafePrice", "(IIII)Z"⟩, 29), (⟨"TillTheBellModel", "laysEnd", "(I)Z"⟩, 29), (⟨"TillTheBellModel", "laysFrom", "(II)Z"⟩, 29), (⟨"TillTheBellModel", "seat", "(III)I"⟩, 29), (⟨"TillTheBellModel", "laysTurn", "(II)V"⟩, 29), (⟨"TillTheBellModel", "laysUndoing", "(III)V"⟩, 29), (⟨"TillTheBellModel", "fallIn", "(II)I"⟩, 29), (⟨"TillTheBellModel", "standIn", "()I"⟩, 29), (⟨"TillTheBellModel", "setBehind", "(I)I"⟩, 29)]
theorem lw_r6 : ∀ q ∈ lw_privs_6, lw_okq q := List.forall_mem_cons.mpr ⟨lw_p80, List.forall_mem_cons.mpr ⟨lw_p81, List.forall_mem_cons.mpr ⟨lw_p82, List.forall_mem_cons.mpr ⟨lw_p83, List.forall_mem_cons.mpr ⟨lw_p84, List.forall_mem_cons.mpr ⟨lw_p85, List.forall_mem_cons.mpr ⟨lw_p86, List.forall_mem_cons.mpr ⟨lw_p87, List.forall_mem_cons.mpr ⟨lw_p88, List.forall_mem_cons.mpr ⟨lw_p89, List.forall_mem_cons.mpr ⟨lw_p90, List.forall_mem_cons.mpr ⟨lw_p91, List.forall_mem_cons.mpr ⟨lw_p92, List.forall_mem_cons.mpr ⟨lw_p93, List.forall_mem_cons.mpr ⟨lw_p94, List.forall_mem_cons.mpr ⟨lw_p95, fun _ h => absurd h List.not_mem_nil⟩⟩⟩⟩⟩⟩⟩⟩⟩⟩⟩⟩⟩⟩⟩⟩
theorem lw_p96 : lw_okq (⟨"TillTheBellModel", "full", "()I"⟩, 29) := ⟨⟨by decide +kernel, by decide +kernel⟩, List.mem_of_getElem? (i := 1167) (by decide +kernel), List.mem_of_getElem? (i := 1637) (by decide +kernel), List.mem_of_getElem? (i := 1638) (by decide +kernel)⟩
theorem lw_p97 : lw_okq (⟨"TillTheBellModel", "chosen", "(I)I"⟩, 29) := ⟨⟨by decide +kernel, by decide +kernel⟩, List.mem_of_getElem? (i := 1167) (by decide +kernel), List.mem_of_getElem? (i := 1641) (by decide +kernel), List.mem_of_getElem? (i := 1642) (by decide +kernel)⟩
theorem lw_p98 : lw_okq (⟨"TillTheBellModel", "wealthIn", "(I)I"⟩, 29) := ⟨⟨by decide +kernel, by decide +kernel⟩, List.mem_of_getElem? (i := 1167) (by decide +kernel), List.mem_of_getElem? (i := 1645) (by decide +kernel), List.mem_of_getElem? (i := 1646) (by decide +kernel)⟩
theorem lw_p99 : lw_okq (⟨"TillTheBellModel", "isHeld", "(I)Z"⟩, 29) := ⟨⟨by decide +kernel, by decide +kernel⟩, List.mem_of_getElem? (i := 1167) (by decide +kernel), List.mem_of_getElem? (i := 1685) (by decide +kernel), List.mem_of_getElem? (i := 1686) (by decide +kernel)⟩
theorem lw_p100 : lw_okq (⟨"TillTheBellModel", "rather", "(II)Z"⟩, 29) := ⟨⟨by decide +kernel, by decide +kernel⟩, List.mem_of_getElem? (i := 1167) (by decide +kernel), List.mem_of_getElem? (i := 1689) (by decide +kernel), List.mem_of_getElem? (i := 1690) (by decide +kernel)⟩
theorem lw_p101 : lw_okq (⟨"TillTheBellModel", "isThree", "(III)Z"⟩, 29) := ⟨⟨by decide +kernel, by decide +kernel⟩, List.mem_of_getElem? (i := 1167) (by decide +kernel), List.mem_of_getElem? (i := 1697) (by decide +kernel), List.mem_of_getElem? (i := 1698) (by decide +kernel)⟩
theorem lw_p102 : lw_okq (⟨"TillTheBellModel", "cut", "(IIJ)J"⟩, 29) := ⟨⟨by decide +kernel, by decide +kernel⟩, List.mem_of_getElem? (i := 1167) (by decide +kernel), List.mem_of_getElem? (i := 1713) (by decide +kernel), List.mem_of_getElem? (i := 1714) (by decide +kernel)⟩
def lw_privs_7 : List (MethodName × Nat) := [(⟨"TillTheBellModel", "full", "()I"⟩, 29), (⟨"TillTheBellModel", "chosen", "(I)I"⟩, 29), (⟨"TillTheBellModel", "wealthIn", "(I)I"⟩, 29), (⟨"TillTheBellModel", "isHeld", "(I)Z"⟩, 29), (⟨"TillTheBellModel", "rather", "(II)Z"⟩, 29), (⟨"TillTheBellModel", "isThree", "(III)Z"⟩, 29), (⟨"TillTheBellModel", "cut", "(IIJ)J"⟩, 29)]
theorem lw_r7 : ∀ q ∈ lw_privs_7, lw_okq q := List.forall_mem_cons.mpr ⟨lw_p96, List.forall_mem_cons.mpr ⟨lw_p97, List.forall_mem_cons.mpr ⟨lw_p98, List.forall_mem_cons.mpr ⟨lw_p99, List.forall_mem_cons.mpr ⟨lw_p100, List.forall_mem_cons.mpr ⟨lw_p101, List.forall_mem_cons.mpr ⟨lw_p102, fun _ h => absurd h List.not_mem_nil⟩⟩⟩⟩⟩⟩⟩
def lw_privs : List (MethodName × Nat) := lw_privs_1 ++ (lw_privs_2 ++ (lw_privs_3 ++ (lw_privs_4 ++ (lw_privs_5 ++ (lw_privs_6 ++ (lw_privs_7))))))
def lw_tbl : List Cond := k2_sels lw_privs ++ tables_1
theorem lw_privs_ok : ∀ q ∈ lw_privs, lw_okq q := by
  show ∀ q ∈ lw_privs_1 ++ (lw_privs_2 ++ (lw_privs_3 ++ (lw_privs_4 ++ (lw_privs_5 ++ (lw_privs_6 ++ (lw_privs_7)))))), lw_okq q
  exact List.forall_mem_append.mpr ⟨lw_r1, List.forall_mem_append.mpr ⟨lw_r2, List.forall_mem_append.mpr ⟨lw_r3, List.forall_mem_append.mpr ⟨lw_r4, List.forall_mem_append.mpr ⟨lw_r5, List.forall_mem_append.mpr ⟨lw_r6, lw_r7⟩⟩⟩⟩⟩⟩

/-! ===== BEGIN words of one list among another's, by their places ===== -/
theorem goodIn_r {big : List Cond} (ws : List Cond) (ps : List Nat) (hp : ws = ps.filterMap (fun i => big[i]?)) (h : ws.all goodWord = true) : GoodIn big ws := by
  intro w hw
  have h1 := List.all_eq_true.mp h w hw
  rw [hp] at hw
  obtain ⟨i, -, hi⟩ := List.mem_filterMap.mp hw
  have hm : w ∈ big := by first | exact List.mem_of_getElem? hi | exact List.getElem?_mem hi
  exact ⟨hm, good_of_word h1⟩
theorem goodIn_app {big a b : List Cond} (ha : GoodIn big a) (hb : GoodIn big b) : GoodIn big (a ++ b) := fun w h => (List.mem_append.mp h).elim (ha w) (hb w)
theorem goodIn_ca {big a b : List Cond} {c : Cond} (ha : GoodIn big (c :: a)) (hb : GoodIn big b) : GoodIn big (c :: (a ++ b)) := fun w h => (List.mem_cons.mp h).elim (fun e => ha w (List.mem_cons.mpr (Or.inl e))) (fun h => (List.mem_append.mp h).elim (fun h => ha w (List.mem_cons.mpr (Or.inr h))) (hb w))
theorem goodIn_sub {big ws : List Cond} (hm : ∀ w ∈ ws, w ∈ big) (h : ws.all goodWord = true) : GoodIn big ws := fun w hw => ⟨hm w hw, good_of_word (List.all_eq_true.mp h w hw)⟩
/-! ===== END ===== -/

/-! ===== BEGIN exceptions that leave a method, and their catching by the caller (launches without stack traces) ===== -/
section VXA
/-! The laws vx_back, vx_callV, vx_callS, vx_callSW, vx_throw0, vx_throwS follow proofs of the library, with one case more: JvmDerived/Free/Laws.lean (Back.of_free), Shelf42/LK1.lean (callV, callS), Shelf/KitTraced.lean (throwNew0V, throwNewS). -/
/-- where a method has thrown q: the class by its name, the cell, what was written, the world -/
def vx_T (XC : String → State → State → Prop) (st : State) (q : Addr) (t : State) (mc ms : Nat) (free : Addr → Prop) : Prop :=
  ∃ (E : String) (ce : Cell) (L : List Loc), XC E st t ∧ t.heap[q]? = some ce ∧ ce.vm = .none ∧ st.vm.findClass E = some ce.cls ∧ st.WarmedH t.vm ∧ st.sameButNew ({ t with vm := st.vm } : State) L mc ms ∧ ∀ z ∈ L, free z.base
def vx_Q (Qc : Array Value → State → Outcome → State → Prop) (XC : String → State → State → Prop) (mc ms : Nat) (free : Addr → Prop) : Array Value → State → Outcome → State → Prop := fun a st o t =>
  (Qc a st o t ∧ ∃ L, FrameEnd st o t L mc ms ∧ ∀ q ∈ L, free q.base) ∨ ∃ q, o = .threw q ∧ vx_T XC st q t mc ms free
/-- a callee that returns or throws -/
def vx_Met (l : Launch) (y : MethodName) (ws : List Cond) (rm : Room) (Pc : Array Value → State → Prop) (Qc : Array Value → State → Outcome → State → Prop) (XC : String → State → State → Prop) (mc ms : Nat) (free : Addr → Prop) : Prop :=
  MetFree l y (headSpec ws rm) Pc (fun _ _ _ _ _ => True) (vx_Q Qc XC mc ms free)
def vx_Post (XC : String → State → State → Prop) (mc ms : Nat) (free : Addr → Prop) : Pt → Array Value → Addr → Pt → Prop := fun A a q B =>
  ∃ (g : JFrame) (mk : MethodId) (t : State) (L : List Loc) (E : String) (ce : Cell), B.U.heap = t.heap ∧ B.U.vm = t.vm ∧ XC E (A.U.calling g mk a) t ∧ t.heap[q]? = some ce ∧ ce.vm = .none ∧ A.U.vm.findClass E = some ce.cls ∧ B.locs = A.locs ++ L ∧ (∀ z ∈ L, free z.base) ∧ B.cells = A.cells + mc ∧ B.slots = A.slots + ms
def vx_Back (l : Launch) (R : Room) (p : Program) (e : Env) (below : List Frame) (s : State) (sargs : Array Value) (y : MethodName) (len W9 : Nat)
    (Pre : Pt → Array Value → Prop) (Post : Pt → Array Value → Option Value → Pt → Prop) (PostX : Pt → Array Value → Addr → Pt → Prop) : Prop :=
  ∀ (m : MethodId) (meth : Method) (c : Code) (A : Pt) (g : JFrame) (ig : Instr) (mk : MethodId) (a : Array Value),
    Stand p l e R s m sargs below meth c A.U A.locs A.cells A.slots → g.method = m → g.locals.size = c.maxLocals → decode c.code g.pc = .ok (ig, len) →
    2 * g.monitorRoom + (g.stack.map fun v => v.category).sum ≤ W9 → A.U.methodNamed? y = some mk → Pre A a →
    (∃ (v : Option Value) (B : Pt), Stand p l e R s m sargs below meth c B.U B.locs B.cells B.slots ∧ Post A a v B ∧
      Steps p.tables e below (doInvoke e (A.U.setTop g) [] mk a).1 (B.U.setTop { g with pc := g.pc + len, stack := v.toList ++ g.stack })) ∨
    (∃ (q : Addr) (B : Pt), Stand p l e R s m sargs below meth c B.U B.locs B.cells B.slots ∧ PostX A a q B ∧
      Steps p.tables e below (doInvoke e (A.U.setTop g) [] mk a).1 ((B.U.setTop g).pushFrame (.throwing q)))
section Payer
variable {l : Launch} {R : Room} {p : Program} {e : Env} {below : List Frame} {s : State} {sargs : Array Value} {y : MethodName} {len W9 : Nat}
theorem vx_back {ws : List Cond} {rm : Room} {Pc : Array Value → State → Prop} {Qc : Array Value → State → Outcome → State → Prop} {XC : String → State → State → Prop} {mc ms : Nat} {free : Addr → Prop} {bytes : ByteArray} {maxL : Nat} {ret : Option FieldType}
    (hM : vx_Met l y ws rm Pc Qc XC mc ms free) (hblind : FrameBlind Pc) (hrc : rm.cells = mc) (hrs : rm.slots = ms)
    (hframes : rm.frames + 1 ≤ R.frames) (hlocals : W9 + (maxL + 11) + rm.locals ≤ R.locals)
    (hws : ∀ w ∈ ws, ∀ a' U, s.WarmedH U.vm → w.before a' U = true) (hcode : Cond.code y bytes maxL ret ∈ ws) (hinit : ∀ a' U, s.WarmedH U.vm → (Cond.initialized y.cls).before a' U = true) :
    vx_Back l R p e below s sargs y len W9 (PreOf R mc ms Pc) (PostOf Qc mc ms free) (vx_Post XC mc ms free) := by
  intro m meth c A g ig mk a X hg hsize hdg hW hn hp
  have h1 : (headSpec ws rm).pre.before a A.U = true := atoms_intro fun w hw => hws w hw _ _ X.warmed
  have h2 : (Cond.code y bytes maxL ret).before a A.U = true := hws _ hcode _ _ X.warmed
  have h3 : (Cond.initialized y.cls).before a A.U = true := hinit _ _ X.warmed
  have h4 : A.cells + (headSpec ws rm).room.cells ≤ R.cells := by rw [show (headSpec ws rm).room.cells = mc from hrc]; exact hp.1
  have h5 : A.slots + (headSpec ws rm).room.slots ≤ R.slots := by rw [show (headSpec ws rm).room.slots = ms from hrs]; exact hp.2.1
  have hPc : Pc a (A.U.calling g mk a) := hblind _ _ _ _ hp.2.2
  obtain ⟨U, Ls, c0, s0⟩ := A
  dsimp only [Pt.U, Pt.locs, Pt.cells, Pt.slots] at h1 h2 h3 h4 h5 X hn hPc ⊢
  obtain ⟨methY, cY, hmY, hcY, -, hlY, -, -, -, -⟩ := Cond.code_spec hn h2
  obtain ⟨kY, hkY, -⟩ := className_of_methodNamed hn
  have hinitY : kY.init = .initialized := Cond.initialized_spec (findClass_of_methodNamed hn) hkY h3
  have h : At U g.method c below := by rw [hg]; exact X.here
  have hlocals9 : W9 + (maxL + 11) + (headSpec ws rm).room.locals ≤ R.locals := hlocals
  have happ : (headSpec ws rm).appliesLoose y e.platform (U.calling g mk a) = true :=
    Spec.appliesLoose_calling (g := g) h hdg hn hkY hinitY
      (X.room_calling (g := g) (R' := (headSpec ws rm).room) hsize hmY hcY hframes (by rw [hlY]; omega) h4 h5) h1
  obtain ⟨mid, hmid⟩ := h.above
  have hfr : (U.setTop g).frames = (.java g :: mid) ++ below := by rw [State.frames_setTop' g h.top, hmid]; rfl
  obtain ⟨o, s₂, hsteps, -, hend, hq⟩ := Steps.callFree hM p X.admits X.cas X.clock (acts := []) hfr happ hPc trivial
  have hq' : vx_Q Qc XC mc ms free a (U.calling g mk a) o s₂ := hq
  rw [State.frames_setTop' g h.top] at hend
  obtain ⟨g₀, hg0⟩ := Option.isSome_iff_exists.mp h.top
  obtain ⟨r, hr⟩ := State.topJava?_eq_some.mp hg0
  have hr' : (({ U with heap := s₂.heap, slotsUsed := s₂.slotsUsed } : State).setVm s₂.vm).frames = .java g₀ :: r := hr
  rcases hq' with ⟨hqc, L, hfe, hL⟩ | ⟨q, rfl, E, ce, L, hx, hce, hcv, hcl, hW₂, hsm, hL⟩
  · obtain ⟨⟨v, rfl⟩, hW₂, e2, q2, q3, q4, q5, q6⟩ := id hfe
    have e3 : s₂ = ({ (U.calling g mk a).setFrames s₂.frames with heap := s₂.heap, slotsUsed := s₂.slotsUsed } : State).setVm s₂.vm := by
      have : s₂ = ({ s₂ with vm := (U.calling g mk a).vm } : State).setVm s₂.vm := rfl
      rw [e2] at this
      exact this
    obtain ⟨c₂, i₂, len₂, hc₂, hd₂, hf₂⟩ := hend
    have hW' : U.WarmedH s₂.vm := hW₂
    have hcc : c₂ = c := by
      have h1 : s₂.code? g.method = U.code? g.method := by
        rw [State.code?_eq, State.code?_eq, hW'.alike.method?]
      exact Option.some.inj (hc₂.symm.trans (h1.trans h.code))
    subst hcc
    have hlen : len₂ = len := by rw [hdg] at hd₂; cases hd₂; rfl
    subst hlen
    have hs₂ : s₂ = (({ U with heap := s₂.heap, slotsUsed := s₂.slotsUsed } : State).setVm s₂.vm).setTop { g with pc := g.pc + len₂, stack := v.toList ++ g.stack } := by
      refine e3.trans ?_
      rw [hf₂, State.calling_eq h.top, State.setFrames_setFrames, State.setTop_of_frames _ hr', hr]
      rfl
    have hsame : U.sameButNew ({ U with heap := s₂.heap, slotsUsed := s₂.slotsUsed } : State) L mc ms := by
      refine ⟨?_, q2, q3, q4, q5, q6⟩
      obtain ⟨t, ht, -⟩ := State.frames_cons hr
      show ({ U with heap := s₂.heap, slotsUsed := s₂.slotsUsed } : State) = { U.setFrames U.frames with heap := s₂.heap, slotsUsed := s₂.slotsUsed }
      rw [State.setFrames_self ht]
    subst hg
    refine Or.inl ⟨v, ⟨(({ U with heap := s₂.heap, slotsUsed := s₂.slotsUsed } : State).setVm s₂.vm), Ls ++ L, c0 + mc, s0 + ms⟩,
      ⟨X.admits, X.cas, X.clock, X.frames, X.room, X.hears, X.method, X.code, (X.here.setHeapUsed s₂.heap s₂.slotsUsed).setVm hW'.alike, X.tail, State.WarmedH.trans X.warmed hW', X.limits, X.bytes, X.same.trans (hsame.setVm s.vm)⟩,
      ⟨g, mk, s₂, L, rfl, rfl, hqc, rfl, hL, rfl, rfl⟩, ?_⟩
    show Steps p.tables e below _ ((({ U with heap := s₂.heap, slotsUsed := s₂.slotsUsed } : State).setVm s₂.vm).setTop { g with pc := g.pc + len₂, stack := v.toList ++ g.stack })
    rw [← hs₂]
    exact hsteps
  · obtain ⟨e2, q2, q3, q4, q5, q6⟩ := id hsm
    have e3 : s₂ = ({ (U.calling g mk a).setFrames s₂.frames with heap := s₂.heap, slotsUsed := s₂.slotsUsed } : State).setVm s₂.vm := by
      have : s₂ = ({ s₂ with vm := (U.calling g mk a).vm } : State).setVm s₂.vm := rfl
      rw [e2] at this
      exact this
    have hf₂ : s₂.frames = .throwing q :: .java g :: U.frames.tail := hend
    have hW' : U.WarmedH s₂.vm := hW₂
    have hs₂ : s₂ = ((({ U with heap := s₂.heap, slotsUsed := s₂.slotsUsed } : State).setVm s₂.vm).setTop g).pushFrame (.throwing q) := by
      refine e3.trans ?_
      rw [hf₂, State.calling_eq h.top, State.setFrames_setFrames, State.pushFrame, State.frames_setTop _ hr', State.setTop_of_frames _ hr', State.setFrames_setFrames, hr]
      rfl
    have hsame : U.sameButNew ({ U with heap := s₂.heap, slotsUsed := s₂.slotsUsed } : State) L mc ms := by
      refine ⟨?_, q2, q3, q4, q5, q6⟩
      obtain ⟨t, ht, -⟩ := State.frames_cons hr
      show ({ U with heap := s₂.heap, slotsUsed := s₂.slotsUsed } : State) = { U.setFrames U.frames with heap := s₂.heap, slotsUsed := s₂.slotsUsed }
      rw [State.setFrames_self ht]
    subst hg
    refine Or.inr ⟨q, ⟨(({ U with heap := s₂.heap, slotsUsed := s₂.slotsUsed } : State).setVm s₂.vm), Ls ++ L, c0 + mc, s0 + ms⟩,
      ⟨X.admits, X.cas, X.clock, X.frames, X.room, X.hears, X.method, X.code, (X.here.setHeapUsed s₂.heap s₂.slotsUsed).setVm hW'.alike, X.tail, State.WarmedH.trans X.warmed hW', X.limits, X.bytes, X.same.trans (hsame.setVm s.vm)⟩,
      ⟨g, mk, s₂, L, E, ce, rfl, rfl, hx, hce, hcv, hcl, rfl, hL, rfl, rfl⟩, ?_⟩
    show Steps p.tables e below _ (((({ U with heap := s₂.heap, slotsUsed := s₂.slotsUsed } : State).setVm s₂.vm).setTop g).pushFrame (.throwing q))
    rw [← hs₂]
    exact hsteps
end Payer
section Calls
variable {p : Program} {l : Launch} {e : Env} {R : Room} {s : State} {m : MethodId} {args : Array Value} {below : List Frame} {meth : Method} {c : Code} {T : State} {locs : List Loc} {cells slots : Nat}
theorem vx_callV (X : Stand p l e R s m args below meth c T locs cells slots) (hexec : p.tables.exec = Jvm.exec) {own C : String} {index : Nat} {y : MethodName} {bytes : ByteArray} {maxL : Nat} {ret : Option FieldType}
    (hown : s.vm.findClass own = some m.cls) (hlink : (Cond.methodLink own index y).before args s = true) (hinst : (Cond.instanceMethod y).before args s = true) (hsel : (Cond.selects C y y).before args s = true)
    (hcode : (Cond.code y bytes maxL ret).before args s = true) (hy : y.cls ≠ "java/lang/invoke/MethodHandle" ∧ y.cls ≠ "java/lang/invoke/VarHandle")
    {W9 : Nat} {Pre : Pt → Array Value → Prop} {Post : Pt → Array Value → Option Value → Pt → Prop} {PostX : Pt → Array Value → Addr → Pt → Prop} (hK : vx_Back l R p e below s args y 3 W9 Pre Post PostX)
    {b : Addr} {cellB : Cell} (hcell : T.heap[b]? = some cellB) (hobj : cellB.vm.isStatics = false) (hcls : s.vm.findClass C = some cellB.cls)
    {g : JFrame} (hg : g.method = m) (hsize : g.locals.size = c.maxLocals) {argsL rest : List Value} (hlen : ∀ sig, parseMethodDescriptor y.desc = some sig → argsL.length = sig.parameters.length)
    (hstack : g.stack = argsL.reverse ++ .ref b :: rest) (hW : 2 * g.monitorRoom + (rest.map fun v => v.category).sum ≤ W9) (hdg : decode c.code g.pc = .ok (.invokevirtual index, 3))
    (hpre : ∀ vm₁, s.WarmedH vm₁ → Pre ⟨T.setVm vm₁, locs, cells, slots⟩ (Value.ref b :: argsL).toArray) :
    (∃ (v : Option Value) (vm₁ : Vm) (B : Pt), s.WarmedH vm₁ ∧ Stand p l e R s m args below meth c B.U B.locs B.cells B.slots ∧ Post ⟨T.setVm vm₁, locs, cells, slots⟩ (Value.ref b :: argsL).toArray v B ∧
      ∀ target, Steps p.tables e below (B.U.setTop { g with pc := g.pc + 3, stack := v.toList ++ rest }) target → Steps p.tables e below (T.setTop g) target) ∨
    (∃ (q : Addr) (vm₁ : Vm) (B : Pt), s.WarmedH vm₁ ∧ Stand p l e R s m args below meth c B.U B.locs B.cells B.slots ∧ PostX ⟨T.setVm vm₁, locs, cells, slots⟩ (Value.ref b :: argsL).toArray q B ∧
      Steps p.tables e below (T.setTop g) ((B.U.setTop { g with stack := rest }).pushFrame (.throwing q))) := by
  obtain ⟨mk, methM, hnamed, hmethM, hstM, habM⟩ := Cond.instanceMethod_spec hinst
  obtain ⟨methM', cM, hmethM', -, -, -, -, -, -, hsigM⟩ := Cond.code_spec hnamed hcode
  cases hmethM.symm.trans hmethM'
  obtain ⟨c2, r2, m2, q1, q2, q3, q4, kP, hkP, hkPi⟩ := Cond.selects_spec hsel
  cases hcls.symm.trans q1
  cases (State.methodFound?_of_named hnamed hy).symm.trans q2
  cases hnamed.symm.trans q3
  have hselP : selectMethod e.platform s.vm cellB.cls mk = .method mk := by rw [Launch.admits_selectMethod X.admits]; exact q4
  obtain ⟨vm₁, X₁, hstep₁⟩ := X.invokevirtual hexec hown hlink hnamed hmethM hstM hkP hkPi hy (a := b) (cell := cellB) hcell
    (fun z h => by rw [h] at hobj; cases hobj) hselP hmethM habM hkP hkPi (g := g) hg (argsL := argsL) (rest := rest) (hlen _ hsigM) hstack hdg
  rcases hK m meth c ⟨T.setVm vm₁, locs, cells, slots⟩ { g with stack := rest } (.invokevirtual index) mk (Value.ref b :: argsL).toArray X₁ hg hsize hdg hW (X₁.named hnamed) (hpre vm₁ X₁.warmed) with ⟨v, B, X', hpost, hsteps⟩ | ⟨q, B, X', hpost, hsteps⟩
  · exact Or.inl ⟨v, vm₁, B, X₁.warmed, X', hpost, fun target h => hstep₁ _ fun acts => by rw [doInvoke_state]; exact hsteps.trans h⟩
  · exact Or.inr ⟨q, vm₁, B, X₁.warmed, X', hpost, hstep₁ _ fun acts => by rw [doInvoke_state]; exact hsteps⟩
theorem vx_callS (X : Stand p l e R s m args below meth c T locs cells slots) (hexec : p.tables.exec = Jvm.exec) {own : String} {index : Nat} {y : MethodName} {bytes : ByteArray} {maxL : Nat} {ret : Option FieldType}
    (hown : s.vm.findClass own = some m.cls) (hlink : (Cond.methodLink own index y).before args s = true) (hstat : (Cond.static y).before args s = true) (hinit : (Cond.initialized y.cls).before args s = true)
    (hcode : (Cond.code y bytes maxL ret).before args s = true) (hy : y.cls ≠ "java/lang/invoke/MethodHandle" ∧ y.cls ≠ "java/lang/invoke/VarHandle")
    {W9 : Nat} {Pre : Pt → Array Value → Prop} {Post : Pt → Array Value → Option Value → Pt → Prop} {PostX : Pt → Array Value → Addr → Pt → Prop} (hK : vx_Back l R p e below s args y 3 W9 Pre Post PostX)
    {g : JFrame} (hg : g.method = m) (hsize : g.locals.size = c.maxLocals) {argsL rest : List Value} (hlen : ∀ sig, parseMethodDescriptor y.desc = some sig → argsL.length = sig.parameters.length)
    (hstack : g.stack = argsL.reverse ++ rest) (hW : 2 * g.monitorRoom + (rest.map fun v => v.category).sum ≤ W9) (hdg : decode c.code g.pc = .ok (.invokestatic index, 3))
    (hpre : ∀ vm₁, s.WarmedH vm₁ → Pre ⟨T.setVm vm₁, locs, cells, slots⟩ argsL.toArray) :
    (∃ (v : Option Value) (vm₁ : Vm) (B : Pt), s.WarmedH vm₁ ∧ Stand p l e R s m args below meth c B.U B.locs B.cells B.slots ∧ Post ⟨T.setVm vm₁, locs, cells, slots⟩ argsL.toArray v B ∧
      ∀ target, Steps p.tables e below (B.U.setTop { g with pc := g.pc + 3, stack := v.toList ++ rest }) target → Steps p.tables e below (T.setTop g) target) ∨
    (∃ (q : Addr) (vm₁ : Vm) (B : Pt), s.WarmedH vm₁ ∧ Stand p l e R s m args below meth c B.U B.locs B.cells B.slots ∧ PostX ⟨T.setVm vm₁, locs, cells, slots⟩ argsL.toArray q B ∧
      Steps p.tables e below (T.setTop g) ((B.U.setTop { g with stack := rest }).pushFrame (.throwing q))) := by
  obtain ⟨mk, hnamed⟩ := Cond.code_named hcode
  obtain ⟨methM, cM, hmethM, -, -, -, -, -, -, hsigM⟩ := Cond.code_spec hnamed hcode
  have hstatic : methM.isStatic = true := Cond.static_spec hnamed hmethM hstat
  obtain ⟨kP, hkP, -⟩ := className_of_methodNamed hnamed
  have hinitP : kP.init = .initialized := Cond.initialized_spec (findClass_of_methodNamed hnamed) hkP hinit
  obtain ⟨vm₁, X₁, hstep₁⟩ := X.invokestatic hexec hown hlink hnamed hmethM hstatic hkP hinitP hy (g := g) hg (argsL := argsL) (rest := rest) (hlen _ hsigM) hstack hdg
  rcases hK m meth c ⟨T.setVm vm₁, locs, cells, slots⟩ { g with stack := rest } (.invokestatic index) mk argsL.toArray X₁ hg hsize hdg hW (X₁.named hnamed) (hpre vm₁ X₁.warmed) with ⟨v, B, X', hpost, hsteps⟩ | ⟨q, B, X', hpost, hsteps⟩
  · exact Or.inl ⟨v, vm₁, B, X₁.warmed, X', hpost, fun target h => hstep₁ _ fun acts => by rw [doInvoke_state]; exact hsteps.trans h⟩
  · exact Or.inr ⟨q, vm₁, B, X₁.warmed, X', hpost, hstep₁ _ fun acts => by rw [doInvoke_state]; exact hsteps⟩
end Calls
theorem vx_cls {s : State} {T : State} {vm₁ : Vm} {E : String} {k : ClassId} (hW : s.WarmedH vm₁) (h : (T.setVm vm₁).vm.findClass E = some k) : s.vm.findClass E = some k := by
  have h1 : vm₁.findClass E = some k := h
  rw [hW.alike.findClass] at h1
  exact h1
/-- the method's frame g, with q thrown over it -/
def vx_W (p : Program) (l : Launch) (e : Env) (R : Room) (s : State) (m : MethodId) (args : Array Value) (below : List Frame) (meth : Method) (c : Code) (H : Heap) (locs : List Loc) (cells slots : Nat) (Q : State → Prop) (g : JFrame) (q : Addr) : Prop :=
  ∀ T : State, T.heap = H → Stand p l e R s m args below meth c T locs cells slots → ∃ t, Steps p.tables e below ((T.setTop g).pushFrame (.throwing q)) t ∧ Q t
def vx_Run (p : Program) (l : Launch) (e : Env) (R : Room) (s : State) (m : MethodId) (args : Array Value) (below : List Frame) (meth : Method) (c : Code) (H : Heap) (locs : List Loc) (cells slots mc ms : Nat) (g : JFrame) (rest : List Value) (Qa : State → Outcome → State → Prop) (XC : String → State → State → Prop) (free : Addr → Prop) : Prop :=
  ∀ T : State, T.heap = H → Stand p l e R s m args below meth c T locs cells slots →
    (∃ (v : Option Value) (st₀ t T' : State) (L : List Loc), st₀.heap = H ∧ Stand p l e R s m args below meth c T' (locs ++ L) (cells + mc) (slots + ms) ∧ (∀ q ∈ L, free q.base) ∧ T'.heap = t.heap ∧ T'.vm = t.vm ∧ Qa st₀ (.returned v) t ∧
      Goes p e below T g T' { g with pc := g.pc + 3, stack := v.toList ++ rest }) ∨
    (∃ (q : Addr) (st₀ t T' : State) (L : List Loc) (E : String) (ce : Cell), st₀.heap = H ∧ Stand p l e R s m args below meth c T' (locs ++ L) (cells + mc) (slots + ms) ∧ (∀ z ∈ L, free z.base) ∧ T'.heap = t.heap ∧ T'.vm = t.vm ∧ XC E st₀ t ∧ t.heap[q]? = some ce ∧ ce.vm = .none ∧ s.vm.findClass E = some ce.cls ∧
      Steps p.tables e below (T.setTop g) ((T'.setTop { g with stack := rest }).pushFrame (.throwing q)))
def vx_X {S : Type} (px : S → Prop) (B : String → S → State → Prop) (A : Nat → Prop) : String → State → State → Prop := fun E st t => ∃ u : S, px u ∧ B E u t ∧ va_F A st t
section Runs
variable {p : Program} {l : Launch} {e : Env} {R : Room} {s : State} {m : MethodId} {args : Array Value} {below : List Frame} {meth : Method} {c : Code} {H : Heap} {locs : List Loc} {cells slots : Nat}
variable {y : MethodName} {bytes cc : ByteArray} {maxL nL mc ms n index : Nat} {ret : Option FieldType} {ws : List Cond} {rm : Room} {Pc : Array Value → State → Prop} {Qc : Array Value → State → Outcome → State → Prop} {XC : String → State → State → Prop} {free : Addr → Prop} {Ts : List Cond} {own C : String} {b : Addr} {As rest : List Value} {g : JFrame}
theorem vx_callBack (cb : CallB R s args own index y bytes maxL ret ws rm mc ms n) (hM : vx_Met l y ws rm Pc Qc XC mc ms free) (hbl : FrameBlind Pc) : vx_Back l R p e below s args y 3 8 (PreOf R mc ms Pc) (PostOf Qc mc ms free) (vx_Post XC mc ms free) := by
  obtain ⟨hrc, hrs, hfr, hlo, hws, hcw, -, hini, -⟩ := cb
  exact vx_back (bytes := bytes) (maxL := maxL) (ret := ret) hM hbl hrc hrs hfr hlo hws hcw (fun a' U hW => word_at hW (Or.inl (by first | rfl | simp [Cond.onTables, Cond.keeps, Cond.steady])) hini)
theorem vx_runV (S : CallFix p m c cc nL s args Ts own) (hM : vx_Met l y ws rm Pc Qc XC mc ms free) (cw : CallW R s args own C index y bytes maxL ret ws rm mc ms n) (hp : PreV s H C b Pc As)
    (hg : g.method = m) (hn : As.length = n) (hsize : g.locals.size = nL) (hstack : g.stack = As.reverse ++ .ref b :: rest) (hW : 2 * g.monitorRoom + (rest.map fun v => v.category).sum ≤ 8) (hdg : decode cc g.pc = .ok (.invokevirtual index, 3)) (hf : cells + mc ≤ R.cells ∧ slots + ms ≤ R.slots) :
    vx_Run p l e R s m args below meth c H locs cells slots mc ms g rest (Qc (Value.ref b :: As).toArray) XC free := by
  have hK : vx_Back l R p e below s args y 3 8 (PreOf R mc ms Pc) (PostOf Qc mc ms free) (vx_Post XC mc ms free) := vx_callBack cw.1 hM hp.1
  obtain ⟨⟨-, -, -, -, -, -, hcode, -, hy, hlen, hl⟩, hin, hse⟩ := cw
  obtain ⟨hx, hb, hml, ho, -⟩ := S
  obtain ⟨-, ⟨cellB, hcB, hoB, hclB⟩, hPc⟩ := hp
  intro T hT X
  rcases vx_callV X hx (C := C) (bytes := bytes) (maxL := maxL) (ret := ret) ho hl hin hse hcode hy hK (by rw [hT]; exact hcB) hoB hclB hg (hsize.trans hml.symm) (argsL := As) (rest := rest) (fun sig h => hn.trans (hlen sig h)) hstack hW (by rw [hb]; exact hdg)
    (fun vm₁ hW₁ => ⟨hf.1, hf.2, hPc (T.setVm vm₁) hT hW₁⟩) with ⟨v, vm₁, ⟨U', l2, c2, s2⟩, hW₁, X', ⟨g', mk, t, L, e1, e2, hq, h1, hL, h2, h3⟩, st⟩ | ⟨q, vm₁, ⟨U', l2, c2, s2⟩, hW₁, X', ⟨g', mk, t, L, E, ce, e1, e2, hq, hce, hcv, hcl, h1, hL, h2, h3⟩, st⟩
  · dsimp only [Pt.U, Pt.locs, Pt.cells, Pt.slots] at X' e1 e2 h1 h2 h3 st
    subst h1; subst h2; subst h3
    exact Or.inl ⟨v, (T.setVm vm₁).calling g' mk (Value.ref b :: As).toArray, t, U', L, hT, X', hL, e1, e2, hq, st⟩
  · dsimp only [Pt.U, Pt.locs, Pt.cells, Pt.slots] at X' e1 e2 h1 h2 h3 st hcl
    subst h1; subst h2; subst h3
    exact Or.inr ⟨q, (T.setVm vm₁).calling g' mk (Value.ref b :: As).toArray, t, U', L, E, ce, hT, X', hL, e1, e2, hq, hce, hcv, vx_cls hW₁ hcl, st⟩
theorem vx_runS (S : CallFix p m c cc nL s args Ts own) (hM : vx_Met l y ws rm Pc Qc XC mc ms free) (cw : CallB R s args own index y bytes maxL ret ws rm mc ms n ∧ (Cond.static y).before args s = true) (hp : PreS s H Pc As)
    (hg : g.method = m) (hn : As.length = n) (hsize : g.locals.size = nL) (hstack : g.stack = As.reverse ++ rest) (hW : 2 * g.monitorRoom + (rest.map fun v => v.category).sum ≤ 8) (hdg : decode cc g.pc = .ok (.invokestatic index, 3)) (hf : cells + mc ≤ R.cells ∧ slots + ms ≤ R.slots) :
    vx_Run p l e R s m args below meth c H locs cells slots mc ms g rest (Qc As.toArray) XC free := by
  have hK : vx_Back l R p e below s args y 3 8 (PreOf R mc ms Pc) (PostOf Qc mc ms free) (vx_Post XC mc ms free) := vx_callBack cw.1 hM hp.1
  obtain ⟨⟨-, -, -, -, -, -, hcode, hini, hy, hlen, hl⟩, hstt⟩ := cw
  obtain ⟨hx, hb, hml, ho, -⟩ := S
  intro T hT X
  rcases vx_callS X hx (bytes := bytes) (maxL := maxL) (ret := ret) ho hl hstt hini hcode hy hK hg (hsize.trans hml.symm) (argsL := As) (rest := rest) (fun sig h => hn.trans (hlen sig h)) hstack hW (by rw [hb]; exact hdg)
    (fun vm₁ hW₁ => ⟨hf.1, hf.2, hp.2 (T.setVm vm₁) hT hW₁⟩) with ⟨v, vm₁, ⟨U', l2, c2, s2⟩, hW₁, X', ⟨g', mk, t, L, e1, e2, hq, h1, hL, h2, h3⟩, st⟩ | ⟨q, vm₁, ⟨U', l2, c2, s2⟩, hW₁, X', ⟨g', mk, t, L, E, ce, e1, e2, hq, hce, hcv, hcl, h1, hL, h2, h3⟩, st⟩
  · dsimp only [Pt.U, Pt.locs, Pt.cells, Pt.slots] at X' e1 e2 h1 h2 h3 st
    subst h1; subst h2; subst h3
    exact Or.inl ⟨v, (T.setVm vm₁).calling g' mk As.toArray, t, U', L, hT, X', hL, e1, e2, hq, st⟩
  · dsimp only [Pt.U, Pt.locs, Pt.cells, Pt.slots] at X' e1 e2 h1 h2 h3 st hcl
    subst h1; subst h2; subst h3
    exact Or.inr ⟨q, (T.setVm vm₁).calling g' mk As.toArray, t, U', L, E, ce, hT, X', hL, e1, e2, hq, hce, hcv, vx_cls hW₁ hcl, st⟩
end Runs
section Rows
variable {p : Program} {l : Launch} {e : Env} {R : Room} {s : State} {m : MethodId} {args : Array Value} {below : List Frame} {meth : Method} {c : Code} {H : Heap} {locs : List Loc} {cells slots : Nat} {Q : State → Prop}
variable {mc ms : Nat} {free : Addr → Prop} {A0 A1 : Nat → Prop} {H0 : Heap} {a : Array Value} {pc : Nat} {ls : Array Slot} {st0 rest : List Value}
theorem vx_keep {st₀ t T' : State} {L : List Loc} (h0 : st₀.heap = H) (e1 : T'.heap = t.heap) (hS : va_S A0 H0 H locs) (hA : ∀ q, q < H.size → A1 q → A0 q) (hf : ∀ q, free q → A0 q) (hL : ∀ q ∈ L, free q.base) (hF : va_F A1 st₀ t) :
    H.size ≤ T'.heap.size ∧ (∀ q : Nat, q < H.size → ¬ A1 q → T'.heap[q]? = H[q]?) ∧ va_S A0 H0 T'.heap (locs ++ L) := by
  obtain ⟨hz, hk⟩ := hF
  rw [h0] at hz hk
  exact ⟨by rw [e1]; exact hz, fun q h1 h2 => by rw [e1]; exact hk q h1 h2,
    ⟨Nat.le_trans hS.1 (by rw [e1]; exact hz), fun q h1 h2 => by rw [e1, hk q (Nat.lt_of_lt_of_le h1 hS.1) (fun z => h2 (hA q (Nat.lt_of_lt_of_le h1 hS.1) z))]; exact hS.2.1 q h1 h2, fun q hq => by
      rcases List.mem_append.mp hq with h | h
      · exact hS.2.2 q h
      · exact hf _ (hL q h)⟩⟩
theorem vx_calli {S SX : Type} {post : Int32 → S → Prop} {px : SX → Prop} {B : S → State → Prop} {BX : String → SX → State → Prop} {AX : Nat → Prop} (hr : vx_Run p l e R s m args below meth c H locs cells slots mc ms (F0 m pc ls st0) rest (va_Qi post B A1 a) (vx_X px BX AX) free) (hS : va_S A0 H0 H locs) (hA : ∀ q, q < H.size → A1 q → A0 q) (hf : ∀ q, free q → A0 q) (hAX : ∀ q, q < H.size → AX q → A0 q)
    (kx : ∀ (E : String) (ce : Cell) (q9 : Addr) (u : SX) (t : State) (H1 : Heap) (locs1 : List Loc), t.heap = H1 → s.vm.Alike t.vm → px u → BX E u t → H.size ≤ H1.size → (∀ q : Nat, q < H.size → ¬ AX q → H1[q]? = H[q]?) → va_S A0 H0 H1 locs1 → H1[q9]? = some ce → ce.vm = .none → s.vm.findClass E = some ce.cls → vx_W p l e R s m args below meth c H1 locs1 (cells + mc) (slots + ms) Q (F0 m pc ls rest) q9)
    (kk : ∀ (r : Int32) (u : S) (t : State) (H1 : Heap) (locs1 : List Loc), t.heap = H1 → s.vm.Alike t.vm → post r u → B u t → H.size ≤ H1.size → (∀ q : Nat, q < H.size → ¬ A1 q → H1[q]? = H[q]?) → va_S A0 H0 H1 locs1 → W p l e R s m args below meth c H1 locs1 (cells + mc) (slots + ms) Q (F0 m (pc + 3) ls (.int r :: rest))) : W p l e R s m args below meth c H locs cells slots Q (F0 m pc ls st0) := by
  intro T hT X
  rcases hr T hT X with ⟨v, st₀, t, T', L, h0, X', hL, e1, e2, ⟨⟨r, u, hv, hp, hb⟩, hF⟩, st⟩ | ⟨q, st₀, t, T', L, E, ce, h0, X', hL, e1, e2, ⟨u, hp, hb, hF⟩, hce, hcv, hcl, st⟩
  · cases hv
    obtain ⟨k1, k2, k3⟩ := vx_keep h0 e1 hS hA hf hL hF
    obtain ⟨t2, a1, b1⟩ := kk r u t T'.heap (locs ++ L) e1.symm (by rw [← e2]; exact X'.warmed.alike) hp hb k1 k2 k3 T' rfl X'
    exact ⟨t2, st t2 a1, b1⟩
  · obtain ⟨k1, k2, k3⟩ := vx_keep h0 e1 hS hAX hf hL hF
    obtain ⟨t2, a1, b1⟩ := kx E ce q u t T'.heap (locs ++ L) e1.symm (by rw [← e2]; exact X'.warmed.alike) hp hb k1 k2 k3 (by rw [e1]; exact hce) hcv hcl T' rfl X'
    exact ⟨t2, st.trans a1, b1⟩
theorem vx_calll {S SX : Type} {post : Int64 → S → Prop} {px : SX → Prop} {B : S → State → Prop} {BX : String → SX → State → Prop} {AX : Nat → Prop} (hr : vx_Run p l e R s m args below meth c H locs cells slots mc ms (F0 m pc ls st0) rest (va_Ql post B A1 a) (vx_X px BX AX) free) (hS : va_S A0 H0 H locs) (hA : ∀ q, q < H.size → A1 q → A0 q) (hf : ∀ q, free q → A0 q) (hAX : ∀ q, q < H.size → AX q → A0 q)
    (kx : ∀ (E : String) (ce : Cell) (q9 : Addr) (u : SX) (t : State) (H1 : Heap) (locs1 : List Loc), t.heap = H1 → s.vm.Alike t.vm → px u → BX E u t → H.size ≤ H1.size → (∀ q : Nat, q < H.size → ¬ AX q → H1[q]? = H[q]?) → va_S A0 H0 H1 locs1 → H1[q9]? = some ce → ce.vm = .none → s.vm.findClass E = some ce.cls → vx_W p l e R s m args below meth c H1 locs1 (cells + mc) (slots + ms) Q (F0 m pc ls rest) q9)
    (kk : ∀ (r : Int64) (u : S) (t : State) (H1 : Heap) (locs1 : List Loc), t.heap = H1 → s.vm.Alike t.vm → post r u → B u t → H.size ≤ H1.size → (∀ q : Nat, q < H.size → ¬ A1 q → H1[q]? = H[q]?) → va_S A0 H0 H1 locs1 → W p l e R s m args below meth c H1 locs1 (cells + mc) (slots + ms) Q (F0 m (pc + 3) ls (.long r :: rest))) : W p l e R s m args below meth c H locs cells slots Q (F0 m pc ls st0) := by
  intro T hT X
  rcases hr T hT X with ⟨v, st₀, t, T', L, h0, X', hL, e1, e2, ⟨⟨r, u, hv, hp, hb⟩, hF⟩, st⟩ | ⟨q, st₀, t, T', L, E, ce, h0, X', hL, e1, e2, ⟨u, hp, hb, hF⟩, hce, hcv, hcl, st⟩
  · cases hv
    obtain ⟨k1, k2, k3⟩ := vx_keep h0 e1 hS hA hf hL hF
    obtain ⟨t2, a1, b1⟩ := kk r u t T'.heap (locs ++ L) e1.symm (by rw [← e2]; exact X'.warmed.alike) hp hb k1 k2 k3 T' rfl X'
    exact ⟨t2, st t2 a1, b1⟩
  · obtain ⟨k1, k2, k3⟩ := vx_keep h0 e1 hS hAX hf hL hF
    obtain ⟨t2, a1, b1⟩ := kx E ce q u t T'.heap (locs ++ L) e1.symm (by rw [← e2]; exact X'.warmed.alike) hp hb k1 k2 k3 (by rw [e1]; exact hce) hcv hcl T' rfl X'
    exact ⟨t2, st.trans a1, b1⟩
theorem vx_callf {S SX : Type} {post : UInt32 → S → Prop} {px : SX → Prop} {B : S → State → Prop} {BX : String → SX → State → Prop} {AX : Nat → Prop} (hr : vx_Run p l e R s m args below meth c H locs cells slots mc ms (F0 m pc ls st0) rest (va_Qf post B A1 a) (vx_X px BX AX) free) (hS : va_S A0 H0 H locs) (hA : ∀ q, q < H.size → A1 q → A0 q) (hf : ∀ q, free q → A0 q) (hAX : ∀ q, q < H.size → AX q → A0 q)
    (kx : ∀ (E : String) (ce : Cell) (q9 : Addr) (u : SX) (t : State) (H1 : Heap) (locs1 : List Loc), t.heap = H1 → s.vm.Alike t.vm → px u → BX E u t → H.size ≤ H1.size → (∀ q : Nat, q < H.size → ¬ AX q → H1[q]? = H[q]?) → va_S A0 H0 H1 locs1 → H1[q9]? = some ce → ce.vm = .none → s.vm.findClass E = some ce.cls → vx_W p l e R s m args below meth c H1 locs1 (cells + mc) (slots + ms) Q (F0 m pc ls rest) q9)
    (kk : ∀ (r : UInt32) (u : S) (t : State) (H1 : Heap) (locs1 : List Loc), t.heap = H1 → s.vm.Alike t.vm → post r u → B u t → H.size ≤ H1.size → (∀ q : Nat, q < H.size → ¬ A1 q → H1[q]? = H[q]?) → va_S A0 H0 H1 locs1 → W p l e R s m args below meth c H1 locs1 (cells + mc) (slots + ms) Q (F0 m (pc + 3) ls (.float r :: rest))) : W p l e R s m args below meth c H locs cells slots Q (F0 m pc ls st0) := by
  intro T hT X
  rcases hr T hT X with ⟨v, st₀, t, T', L, h0, X', hL, e1, e2, ⟨⟨r, u, hv, hp, hb⟩, hF⟩, st⟩ | ⟨q, st₀, t, T', L, E, ce, h0, X', hL, e1, e2, ⟨u, hp, hb, hF⟩, hce, hcv, hcl, st⟩
  · cases hv
    obtain ⟨k1, k2, k3⟩ := vx_keep h0 e1 hS hA hf hL hF
    obtain ⟨t2, a1, b1⟩ := kk r u t T'.heap (locs ++ L) e1.symm (by rw [← e2]; exact X'.warmed.alike) hp hb k1 k2 k3 T' rfl X'
    exact ⟨t2, st t2 a1, b1⟩
  · obtain ⟨k1, k2, k3⟩ := vx_keep h0 e1 hS hAX hf hL hF
    obtain ⟨t2, a1, b1⟩ := kx E ce q u t T'.heap (locs ++ L) e1.symm (by rw [← e2]; exact X'.warmed.alike) hp hb k1 k2 k3 (by rw [e1]; exact hce) hcv hcl T' rfl X'
    exact ⟨t2, st.trans a1, b1⟩
theorem vx_calld {S SX : Type} {post : UInt64 → S → Prop} {px : SX → Prop} {B : S → State → Prop} {BX : String → SX → State → Prop} {AX : Nat → Prop} (hr : vx_Run p l e R s m args below meth c H locs cells slots mc ms (F0 m pc ls st0) rest (va_Qd post B A1 a) (vx_X px BX AX) free) (hS : va_S A0 H0 H locs) (hA : ∀ q, q < H.size → A1 q → A0 q) (hf : ∀ q, free q → A0 q) (hAX : ∀ q, q < H.size → AX q → A0 q)
    (kx : ∀ (E : String) (ce : Cell) (q9 : Addr) (u : SX) (t : State) (H1 : Heap) (locs1 : List Loc), t.heap = H1 → s.vm.Alike t.vm → px u → BX E u t → H.size ≤ H1.size → (∀ q : Nat, q < H.size → ¬ AX q → H1[q]? = H[q]?) → va_S A0 H0 H1 locs1 → H1[q9]? = some ce → ce.vm = .none → s.vm.findClass E = some ce.cls → vx_W p l e R s m args below meth c H1 locs1 (cells + mc) (slots + ms) Q (F0 m pc ls rest) q9)
    (kk : ∀ (r : UInt64) (u : S) (t : State) (H1 : Heap) (locs1 : List Loc), t.heap = H1 → s.vm.Alike t.vm → post r u → B u t → H.size ≤ H1.size → (∀ q : Nat, q < H.size → ¬ A1 q → H1[q]? = H[q]?) → va_S A0 H0 H1 locs1 → W p l e R s m args below meth c H1 locs1 (cells + mc) (slots + ms) Q (F0 m (pc + 3) ls (.double r :: rest))) : W p l e R s m args below meth c H locs cells slots Q (F0 m pc ls st0) := by
  intro T hT X
  rcases hr T hT X with ⟨v, st₀, t, T', L, h0, X', hL, e1, e2, ⟨⟨r, u, hv, hp, hb⟩, hF⟩, st⟩ | ⟨q, st₀, t, T', L, E, ce, h0, X', hL, e1, e2, ⟨u, hp, hb, hF⟩, hce, hcv, hcl, st⟩
  · cases hv
    obtain ⟨k1, k2, k3⟩ := vx_keep h0 e1 hS hA hf hL hF
    obtain ⟨t2, a1, b1⟩ := kk r u t T'.heap (locs ++ L) e1.symm (by rw [← e2]; exact X'.warmed.alike) hp hb k1 k2 k3 T' rfl X'
    exact ⟨t2, st t2 a1, b1⟩
  · obtain ⟨k1, k2, k3⟩ := vx_keep h0 e1 hS hAX hf hL hF
    obtain ⟨t2, a1, b1⟩ := kx E ce q u t T'.heap (locs ++ L) e1.symm (by rw [← e2]; exact X'.warmed.alike) hp hb k1 k2 k3 (by rw [e1]; exact hce) hcv hcl T' rfl X'
    exact ⟨t2, st.trans a1, b1⟩
theorem vx_callv {S SX : Type} {post : S → Prop} {px : SX → Prop} {B : S → State → Prop} {BX : String → SX → State → Prop} {AX : Nat → Prop} (hr : vx_Run p l e R s m args below meth c H locs cells slots mc ms (F0 m pc ls st0) rest (va_Qv post B A1 a) (vx_X px BX AX) free) (hS : va_S A0 H0 H locs) (hA : ∀ q, q < H.size → A1 q → A0 q) (hf : ∀ q, free q → A0 q) (hAX : ∀ q, q < H.size → AX q → A0 q)
    (kx : ∀ (E : String) (ce : Cell) (q9 : Addr) (u : SX) (t : State) (H1 : Heap) (locs1 : List Loc), t.heap = H1 → s.vm.Alike t.vm → px u → BX E u t → H.size ≤ H1.size → (∀ q : Nat, q < H.size → ¬ AX q → H1[q]? = H[q]?) → va_S A0 H0 H1 locs1 → H1[q9]? = some ce → ce.vm = .none → s.vm.findClass E = some ce.cls → vx_W p l e R s m args below meth c H1 locs1 (cells + mc) (slots + ms) Q (F0 m pc ls rest) q9)
    (kk : ∀ (u : S) (t : State) (H1 : Heap) (locs1 : List Loc), t.heap = H1 → s.vm.Alike t.vm → post u → B u t → H.size ≤ H1.size → (∀ q : Nat, q < H.size → ¬ A1 q → H1[q]? = H[q]?) → va_S A0 H0 H1 locs1 → W p l e R s m args below meth c H1 locs1 (cells + mc) (slots + ms) Q (F0 m (pc + 3) ls (rest))) : W p l e R s m args below meth c H locs cells slots Q (F0 m pc ls st0) := by
  intro T hT X
  rcases hr T hT X with ⟨v, st₀, t, T', L, h0, X', hL, e1, e2, ⟨⟨u, hv, hp, hb⟩, hF⟩, st⟩ | ⟨q, st₀, t, T', L, E, ce, h0, X', hL, e1, e2, ⟨u, hp, hb, hF⟩, hce, hcv, hcl, st⟩
  · cases hv
    obtain ⟨k1, k2, k3⟩ := vx_keep h0 e1 hS hA hf hL hF
    obtain ⟨t2, a1, b1⟩ := kk u t T'.heap (locs ++ L) e1.symm (by rw [← e2]; exact X'.warmed.alike) hp hb k1 k2 k3 T' rfl X'
    exact ⟨t2, st t2 a1, b1⟩
  · obtain ⟨k1, k2, k3⟩ := vx_keep h0 e1 hS hAX hf hL hF
    obtain ⟨t2, a1, b1⟩ := kx E ce q u t T'.heap (locs ++ L) e1.symm (by rw [← e2]; exact X'.warmed.alike) hp hb k1 k2 k3 (by rw [e1]; exact hce) hcv hcl T' rfl X'
    exact ⟨t2, st.trans a1, b1⟩
/-- caught by the row x of this method's table; the rows ahead don't take it -/
theorem vx_catch {own name : String} {E : String} {ce : Cell} {q : Addr} (hown : s.vm.findClass own = some m.cls) (pre : List ExceptionTableEntry) (x : ExceptionTableEntry) (suf : List ExceptionTableEntry) (hsplit : c.exceptionTable.toList = pre ++ x :: suf)
    (hpass : ∀ z ∈ pre, covers z pc = false ∨ (z.catchType ≠ 0 ∧ ∃ nm : String, (Cond.classLink own z.catchType nm).before args s = true ∧ va_Nc E nm s)) (hx : covers x pc = true) (h0 : x.catchType ≠ 0)
    (hlink : (Cond.classLink own x.catchType name).before args s = true) (hcast : (Cond.castable E name).before args s = true) (hcell : H[q]? = some ce) (hv : ce.vm = .none) (hcl : s.vm.findClass E = some ce.cls)
    (kk : W p l e R s m args below meth c H locs cells slots Q (F0 m x.handlerPc ls [.ref q])) : vx_W p l e R s m args below meth c H locs cells slots Q (F0 m pc ls rest) q := by
  intro T hT X
  have hpl : e.platform.magicAccessors = ({} : Platform).magicAccessors := by rw [X.admits.platform]
  obtain ⟨c3, c4, hc3, hc4, hasg⟩ := Cond.castable_spec hcast
  cases Option.some.inj (hc3.symm.trans hcl)
  obtain ⟨c5, hc5, hcl5⟩ := Cond.classLink_spec hown hlink e.platform hpl
  cases Option.some.inj (hc4.symm.trans hc5)
  obtain ⟨vm', X', st⟩ := Stand.thenCaughtThrough X q (g := F0 m pc ls rest) rfl (Steps.refl _) (by rw [hT]; exact hcell) (by rw [hv]; rfl) (by obtain ⟨k9, h9, -⟩ := Vm.findClass_spec hcl; exact ⟨k9, h9⟩) pre x suf hsplit
    (fun z hz => by
      rcases hpass z hz with h | ⟨hz0, nm, hl1, hn1⟩
      · exact Or.inl h
      · obtain ⟨c6, hc6, hcl6⟩ := Cond.classLink_spec hown hl1 e.platform hpl
        obtain ⟨a8, b8, h1, h2, h3⟩ := hn1
        cases Option.some.inj (h1.symm.trans hcl)
        cases Option.some.inj (h2.symm.trans hc6)
        exact Or.inr ⟨hz0, _, hcl6, h3⟩) hx (Or.inr ⟨h0, c4, hcl5, hasg⟩)
  obtain ⟨t, a1, b1⟩ := kk (T.setVm vm') hT X'
  exact ⟨t, st.trans a1, b1⟩
end Rows
section Ends
variable {p : Program} {l : Launch} {e : Env} {R : Room} {s : State} {m : MethodId} {args : Array Value} {below : List Frame} {meth : Method} {c : Code} {H : Heap} {locs : List Loc} {cells slots : Nat} {Q : State → Prop}
variable {mc ms : Nat} {free : Addr → Prop} {A0 A1 : Nat → Prop} {H0 : Heap} {a : Array Value} {ls : Array Slot} {st0 rest : List Value}
variable {Qc : Array Value → State → Outcome → State → Prop} {XC : String → State → State → Prop}
/-- what a body that may throw owes at its end -/
def vx_MQ (below : List Frame) (Qc : Array Value → State → Outcome → State → Prop) (XC : String → State → State → Prop) (a : Array Value) (s : State) (mc ms : Nat) (free : Addr → Prop) : State → Prop := fun t =>
  ∃ o, t.status = .running ∧ Ended t below o ∧ vx_Q Qc XC mc ms free a s o t
theorem vx_ret {g : JFrame} {mc ms : Nat} (k : W p l e R s m args below meth c H locs cells slots (MQ below Qc args s mc ms free) g) : W p l e R s m args below meth c H locs cells slots (vx_MQ below Qc XC args s mc ms free) g := by
  intro T hT X
  obtain ⟨t, a1, o, b1, b2, b3, b4⟩ := k T hT X
  exact ⟨t, a1, o, b1, b2, Or.inl ⟨b3, b4⟩⟩
/-- not caught here: it goes on to the caller -/
theorem vx_widen {g : JFrame} {q : Addr} {k n : Nat} (h1 : cells ≤ k) (h2 : slots ≤ n) (kk : vx_W p l e R s m args below meth c H locs k n Q g q) : vx_W p l e R s m args below meth c H locs cells slots Q g q := fun T hT X => kk T hT (stand_widen X h1 h2)
theorem vx_out {pc : Nat} {E : String} {ce : Cell} {q : Addr} {mc ms : Nat} (hout : ∀ x ∈ c.exceptionTable.toList, covers x pc = false) (hlocks : meth.locks = false) (hcell : H[q]? = some ce) (hv : ce.vm = .none) (hcl : s.vm.findClass E = some ce.cls)
    (hx : ∀ t : State, t.heap = H → s.vm.Alike t.vm → XC E s t) (hf : ∀ z ∈ locs, free z.base) (hc : cells ≤ mc) (hs : slots ≤ ms) :
    vx_W p l e R s m args below meth c H locs cells slots (vx_MQ below Qc XC args s mc ms free) (F0 m pc ls rest) q := by
  intro T hT X
  obtain ⟨st1, hrun, hend, hW, hsm⟩ := X.leaveThrown q (g := F0 m pc ls rest) rfl rfl rfl hout hlocks
  have hcell9 : (T.setFrames (.throwing q :: below)).heap[q]? = some ce := by
    show T.heap[q]? = some ce
    rw [hT]; exact hcell
  exact ⟨_, st1, .threw q, hrun, hend, Or.inr ⟨q, rfl, E, ce, locs, hx _ hT hW.alike, hcell9, hv, hcl, hW, hsm.mono hc hs, hf⟩⟩
theorem vx_frame {U : State} {k n : Nat} (h : s.sameButNew ({ U with vm := s.vm } : State) locs k n) : s.heap.size ≤ U.heap.size ∧ ∀ q : Nat, q < s.heap.size → (∀ z ∈ locs, z.base ≠ q) → U.heap[q]? = s.heap[q]? := by
  obtain ⟨-, h2, -, -, -, h6⟩ := h
  refine ⟨h2, fun q hq hz => ?_⟩
  obtain ⟨c9, e1, e2, e3, e4⟩ := h6 q _ (Array.getElem?_eq_getElem hq)
  have hs : c9.slots = (s.heap[q]).slots := Array.ext_getElem? fun i => e4 i fun hm => hz _ hm rfl
  have h9 : c9 = s.heap[q] := by
    rw [hs] at e2
    exact e2
  have e5 : U.heap[q]? = some c9 := e1
  rw [e5, h9, Array.getElem?_eq_getElem hq]
/-- the words of a throw but the four that speak of the heap -/
def vx_no (w : Cond) : Bool := decide (w ≠ .isRef (.static Bundle.tN "UNASSIGNED_STACK" Bundle.steD)) && decide (w ≠ .isRef (.static Bundle.tN "SUPPRESSED_SENTINEL" Bundle.listD)) && decide (w ≠ .laysStatic Bundle.tN "UNASSIGNED_STACK" Bundle.steD) && decide (w ≠ .laysStatic Bundle.tN "SUPPRESSED_SENTINEL" Bundle.listD)
def vx_at0 (own : String) (ic : Nat) (X : String) (names : List String) : List Cond := (Bundle.ownAtoms0 own ic X names).filter vx_no
def vx_atS (own : String) (ic : Nat) (X : String) (names : List String) : List Cond := (Bundle.ownAtoms own ic X names).filter vx_no
/-- a word that the tables alone decide, or a good one -/
def vx_ot (w : Cond) : Bool := w.onTables || goodWord w
theorem vx_ot_at {args a' : Array Value} {s U : State} {w : Cond} (hW : s.WarmedH U.vm) (hvm : s.vm = U.vm) (hg : vx_ot w = true) (h : w.before args s = true) : w.before a' U = true := by
  simp only [vx_ot, Bool.or_eq_true] at hg
  rcases hg with hg | hg
  · exact va_tabs hg hvm h
  · exact word_at hW (good_of_word hg) h
/-- a list's words: the good ones out of the method's own list, the others by premises of their own -/
theorem vx_hat {args : Array Value} {s : State} {L B : List Cond} (h1 : ∀ w ∈ L.filter goodWord, w.before args s = true) (h2 : ∀ w ∈ L.filter (fun w => !goodWord w), w ∈ B) (h3 : ∀ w ∈ B, w.before args s = true) : ∀ w ∈ L, w.before args s = true := by
  intro w hw
  by_cases g : goodWord w = true
  · exact h1 w (List.mem_filter.mpr ⟨hw, g⟩)
  · refine h3 w (h2 w (List.mem_filter.mpr ⟨hw, ?_⟩))
    show (!goodWord w) = true
    cases hgw : goodWord w
    · rfl
    · exact absurd hgw g
theorem vx_c {args : Array Value} {s : State} {w : Cond} {B : List Cond} (h : w.before args s = true) (t : ∀ w ∈ B, w.before args s = true) : ∀ w' ∈ w :: B, w'.before args s = true := fun w' h' => (List.mem_cons.mp h').elim (fun e => by rw [e]; exact h) (t w')
theorem vx_n {args : Array Value} {s : State} : ∀ w ∈ ([] : List Cond), w.before args s = true := fun _ h => nomatch h
theorem vx_own {args : Array Value} {s : State} {L : List Cond} (h1 : ∀ w ∈ L.filter vx_no, w.before args s = true)
    (hU : (Cond.isRef (.static Bundle.tN "UNASSIGNED_STACK" Bundle.steD)).before args s = true) (hN : (Cond.isRef (.static Bundle.tN "SUPPRESSED_SENTINEL" Bundle.listD)).before args s = true)
    (lU : (Cond.laysStatic Bundle.tN "UNASSIGNED_STACK" Bundle.steD).before args s = true) (lN : (Cond.laysStatic Bundle.tN "SUPPRESSED_SENTINEL" Bundle.listD).before args s = true) : ∀ w ∈ L, w.before args s = true := by
  intro w hw
  by_cases e1 : w = .isRef (.static Bundle.tN "UNASSIGNED_STACK" Bundle.steD)
  · rw [e1]; exact hU
  · by_cases e2 : w = .isRef (.static Bundle.tN "SUPPRESSED_SENTINEL" Bundle.listD)
    · rw [e2]; exact hN
    · by_cases e3 : w = .laysStatic Bundle.tN "UNASSIGNED_STACK" Bundle.steD
      · rw [e3]; exact lU
      · by_cases e4 : w = .laysStatic Bundle.tN "SUPPRESSED_SENTINEL" Bundle.listD
        · rw [e4]; exact lN
        · exact h1 w (List.mem_filter.mpr ⟨hw, by unfold vx_no; rw [decide_eq_true e1, decide_eq_true e2, decide_eq_true e3, decide_eq_true e4]; rfl⟩)
/-- where a static field lies, its class's statics cell in H -/
def vx_L (C n d : String) (A : Nat → Prop) (U : State) (H : Heap) : Prop := ∃ (c : ClassId) (k : Class) (i : Nat) (f : Field) (a : Nat) (cell : Cell), U.vm.findClass C = some c ∧ U.fieldFound? C n d = some (c, k, i, f) ∧ f.isStatic = true ∧ k.statics = some a ∧ H[a]? = some cell ∧ cell.vm.isStatics = true ∧ cell.cls = c ∧ f.slot < cell.slots.size ∧ k.staticTypes[f.slot]? = some f.type ∧ ¬ A a
theorem vx_L.moved {C n d : String} {A : Nat → Prop} {u U : State} {H : Heap} (hvm : u.vm.Alike U.vm) (h : vx_L C n d A u H) : vx_L C n d A U H := by
  obtain ⟨c, k, i, f, a, cell, h1, h2, h3, h4, h5, h6, h7, h8, h9, h10⟩ := h
  obtain ⟨k', hi', he⟩ := State.fieldFound?_setVm hvm h2
  exact ⟨c, k', i, f, a, cell, by rw [hvm.findClass]; exact h1, hi', h3, by rw [he]; exact h4, h5, h6, h7, h8, by rw [he]; exact h9, h10⟩
theorem vx_L.kept {C n d : String} {A : Nat → Prop} {U : State} {H H1 : Heap} (h : vx_L C n d A U H) (hq : ∀ a : Nat, a < H.size → ¬ A a → H1[a]? = H[a]?) : vx_L C n d A U H1 := by
  obtain ⟨c, k, i, f, a, cell, h1, h2, h3, h4, h5, h6, h7, h8, h9, h10⟩ := h
  exact ⟨c, k, i, f, a, cell, h1, h2, h3, h4, by rw [hq a (Array.getElem?_eq_some_iff.mp h5).1 h10]; exact h5, h6, h7, h8, h9, h10⟩
theorem vx_L.narrow {C n d : String} {A B : Nat → Prop} {U : State} {H : Heap} (h : vx_L C n d A U H) (hAB : ∀ q, B q → A q) : vx_L C n d B U H := by
  obtain ⟨c, k, i, f, a, cell, h1, h2, h3, h4, h5, h6, h7, h8, h9, h10⟩ := h
  exact ⟨c, k, i, f, a, cell, h1, h2, h3, h4, h5, h6, h7, h8, h9, fun z => h10 (hAB _ z)⟩
theorem vx_L.word {C n d : String} {A : Nat → Prop} {s : State} {args : Array Value} (h : vx_L C n d A s s.heap) : (Cond.laysStatic C n d).before args s = true := by
  obtain ⟨c, k, i, f, a, cell, h1, h2, h3, h4, h5, h6, h7, h8, h9, -⟩ := h
  show (Cond.laysStatic C n d).holds args s none s [] = true
  exact Cond.laysStatic_of h1 h2 h3 h4 h5 h6 h7 h8 h9
/-- .. and what it holds: null or some reference -/
def vx_Zq (C n d : String) (A : Nat → Prop) (U : State) (H : Heap) : Prop := va_Zq C n d A U H ∧ vx_L C n d A U H
theorem vx_Zq.moved {C n d : String} {A : Nat → Prop} {u U : State} {H : Heap} (hvm : u.vm.Alike U.vm) (h : vx_Zq C n d A u H) : vx_Zq C n d A U H := ⟨va_Zq.moved hvm h.1, vx_L.moved hvm h.2⟩
theorem vx_Zq.kept {C n d : String} {A : Nat → Prop} {U : State} {H H1 : Heap} (h : vx_Zq C n d A U H) (hq : ∀ a : Nat, a < H.size → ¬ A a → H1[a]? = H[a]?) : vx_Zq C n d A U H1 := ⟨va_Zq.kept h.1 hq, vx_L.kept h.2 hq⟩
theorem vx_Zq.narrow {C n d : String} {A B : Nat → Prop} {U : State} {H : Heap} (h : vx_Zq C n d A U H) (hAB : ∀ q, B q → A q) : vx_Zq C n d B U H := ⟨va_Zq.narrow h.1 hAB, vx_L.narrow h.2 hAB⟩
theorem vx_Zqof {args : Array Value} {s : State} {C n d : String} {A : Nat → Prop} (hl : (Cond.laysStatic C n d).before args s = true) (hini : (Cond.initialized C).before args s = true) (h : (Cond.isRef (.static C n d)).before args s = true) (hA : ∀ a : Nat, a < s.heap.size → ¬ A a) : vx_Zq C n d A s s.heap := by
  refine ⟨va_Zqof hl hini h hA, ?_⟩
  obtain ⟨c, k, i, f, a, cell, h1, h2, h3, h4, h5, h6, h7, h8, h9⟩ := Cond.laysStatic_spec hl
  exact ⟨c, k, i, f, a, cell, h1, h2, h3, h4, h5, h6, h7, h8, h9, hA a (Array.getElem?_eq_some_iff.mp h5).1⟩
theorem vx_isRef {C n d : String} {v : Value} {A : Nat → Prop} {s : State} {args : Array Value} (h : va_Z C n d v A s s.heap) (hv : v.isRef = true) : (Cond.isRef (.static C n d)).before args s = true := by
  obtain ⟨cf, kf, fi, f, a, cell, h1, h2, h3, h4, h5, h6, h7, -⟩ := h
  have he : (Term.static C n d).eval args s none [] s = some v := by
    simp [Term.eval, State.fieldNamed?, h1, h2, h4, h5, h6, h7]
  simp only [Cond.before, Cond.holds, Cond.value, he]
  cases v <;> simp_all [Value.isRef]
theorem vx_isRefq {C n d : String} {A : Nat → Prop} {s : State} {args : Array Value} (h : va_Zq C n d A s s.heap) : (Cond.isRef (.static C n d)).before args s = true := by
  rcases h with h | ⟨t, h⟩
  · exact vx_isRef h rfl
  · exact vx_isRef h rfl
/-- the same frame, seen from here: as if the method were called anew in this heap -/
theorem vx_rebase {T : State} (X : Stand p l e R s m args below meth c T locs cells slots) {R' : Room} (hf : R'.frames ≤ R.frames) (hl : R'.locals ≤ R.locals) (hc : cells + R'.cells ≤ R.cells) (hs : slots + R'.slots ≤ R.slots) :
    Stand p l e R' ((T.setVm s.vm).setFrames (.invoking m args :: below)) m args below meth c T [] 0 0 := by
  have htop : (T.setVm s.vm).topJava?.isSome := X.here.top
  have hF : ((T.setVm s.vm).setFrames (.invoking m args :: below)).frames = .invoking m args :: below := State.frames_setFrames _ (State.cur_lt_of_top htop)
  obtain ⟨g₀, hg0⟩ := Option.isSome_iff_exists.mp htop
  obtain ⟨r, hr⟩ := State.topJava?_eq_some.mp hg0
  have hl9 : e.platform.stackLimits (T.setVm s.vm).me = e.platform.stackLimits s.me := X.limits
  have hb9 : (T.setVm s.vm).me.stackBytes = s.me.stackBytes := X.bytes
  refine ⟨X.admits, X.cas, X.clock, hF, ?_, X.hears, X.method, X.code, X.here, X.tail, X.warmed, ?_, ?_, ?_⟩
  · have h := X.room
    have hU : ((T.setVm s.vm).setFrames (.invoking m args :: below)).localsInUse = s.localsInUse := by
      rw [State.localsInUse_invoking hF (meth := meth) (c := c) X.method X.code, State.localsInUse_invoking X.frames X.method X.code]
    simp only [State.hasRoom, Bool.and_eq_true, decide_eq_true_eq] at h ⊢
    obtain ⟨⟨⟨⟨h1, h2, h3, h4, h5, h6⟩, h7⟩, h8⟩, h9⟩ := h
    rw [X.frames, List.length_cons] at h2 h3
    have q1 := X.heapSize
    have q2 := X.used
    simp only [hF, hU, List.length_cons, State.stackLimits_setFrames, State.stackBytes_setFrames, hl9, hb9]
    refine ⟨⟨⟨⟨by omega, by omega, by omega, by omega, by omega, h6⟩, ?_⟩, ?_⟩, X.book⟩
    · show T.heap.size + R'.cells ≤ e.platform.maxCells
      omega
    · show T.slotsUsed + R'.slots ≤ e.platform.maxSlots
      omega
  · rw [State.stackLimits_setFrames]; rfl
  · rw [State.stackBytes_setFrames]; rfl
  · refine ⟨?_, Nat.le_refl _, Nat.le_refl _, ?_, ?_, fun a c9 h9 => ⟨c9, h9, rfl, rfl, fun _ _ => rfl⟩⟩
    · obtain ⟨t, ht, -⟩ := State.frames_cons hr
      show T.setVm s.vm = { ((T.setVm s.vm).setFrames (.invoking m args :: below)).setFrames (T.setVm s.vm).frames with heap := T.heap, slotsUsed := T.slotsUsed }
      rw [State.setFrames_setFrames, State.setFrames_self ht]
      rfl
    · show T.slotsUsed = T.slotsUsed + ((T.heap.toList.drop T.heap.size).map (·.slots.size)).sum
      rw [List.drop_eq_nil_of_le (Nat.le_of_eq Array.length_toList)]
      rfl
    · show ((T.heap.toList.drop T.heap.size).map (·.slots.size)).sum ≤ 0
      rw [List.drop_eq_nil_of_le (Nat.le_of_eq Array.length_toList)]
      exact Nat.le_refl _
/-- 'throw new E()': new; dup; invokespecial; athrow -/
theorem vx_throw0 {cc : ByteArray} {pc : Nat} (hexec : p.tables.exec = Jvm.exec) (hb : c.code = cc) (hl : l.stackTraces = false) {own cls : String} {names : List String} {ik ic mc ms : Nat} {A : Nat → Prop}
    (hown : s.vm.findClass own = some m.cls) (hcls : Bundle.fit cls = true) (hnames : ∀ n ∈ names, Bundle.fit n = true)
    (hk : (Cond.classLink own ik cls).before args s = true) (hini : (Cond.initialized cls).before args s = true) (hat : ∀ w ∈ vx_at0 own ic cls names, w.before args s = true)
    (hgood : ∀ w ∈ Cond.classLink own ik cls :: Cond.initialized cls :: vx_at0 own ic cls names, vx_ot w = true)
    (hU : vx_Zq Bundle.tN "UNASSIGNED_STACK" Bundle.steD A s s.heap) (hN : vx_Zq Bundle.tN "SUPPRESSED_SENTINEL" Bundle.listD A s s.heap) (hS : va_S A s.heap H locs) (hsize : ls.size = c.maxLocals)
    (d0 : decode cc pc = .ok (.new ik, 3)) (d3 : decode cc (pc + 3) = .ok (.dup, 1)) (d4 : decode cc (pc + 4) = .ok (.invokespecial ic, 3)) (d7 : decode cc (pc + 7) = .ok (.athrow, 1))
    (hout : ∀ x ∈ c.exceptionTable.toList, covers x (pc + 7) = false)
    (hRframes : names.length + 3 < R.frames) (hRlocals : (rest.map fun v => v.category).sum + (13 * (names.length + 1) + 42) ≤ R.locals) (hRcells : cells + 1 ≤ R.cells) (hRslots : slots + 6 ≤ R.slots) (hlocks : meth.locks = false)
    (hx : ∀ t : State, s.vm.Alike t.vm → H.size ≤ t.heap.size → (∀ q : Nat, q < H.size → t.heap[q]? = H[q]?) → XC cls s t)
    (hf : ∀ z ∈ locs, free z.base) (hc : cells + 1 ≤ mc) (hs : slots + 6 ≤ ms) :
    W p l e R s m args below meth c H locs cells slots (vx_MQ below Qc XC args s mc ms free) (F0 m pc ls rest) := by
  intro T hT X
  have htr : e.platform.stackTraces = false := (show e.platform.stackTraces = l.stackTraces by rw [X.admits.platform]).trans hl
  have Y := vx_rebase X (R' := { frames := R.frames, locals := R.locals, cells := 1, slots := 6 }) (Nat.le_refl _) (Nat.le_refl _) hRcells hRslots
  obtain ⟨s', hA⟩ : ∃ z, z = (T.setVm s.vm).setFrames (.invoking m args :: below) := ⟨_, rfl⟩
  rw [← hA] at Y
  have hvm : s'.vm = s.vm := by rw [hA]; rfl
  have hhp : s'.heap = H := by rw [hA]; exact hT
  have hW0 : s.WarmedH s'.vm := by rw [hvm]; exact State.WarmedH.refl s
  have hat' : ∀ w ∈ vx_at0 own ic cls names, w.before args s' = true := fun w hw => vx_ot_at hW0 hvm.symm (hgood w (List.mem_cons_of_mem _ (List.mem_cons_of_mem _ hw))) (hat w hw)
  have hk' : (Cond.classLink own ik cls).before args s' = true := vx_ot_at hW0 hvm.symm (hgood _ List.mem_cons_self) hk
  have hini' : (Cond.initialized cls).before args s' = true := vx_ot_at hW0 hvm.symm (hgood _ (List.mem_cons_of_mem _ List.mem_cons_self)) hini
  have hU' : vx_Zq Bundle.tN "UNASSIGNED_STACK" Bundle.steD A s' s'.heap := by rw [hhp]; exact vx_Zq.moved hW0.alike (hU.kept hS.2.1)
  have hN' : vx_Zq Bundle.tN "SUPPRESSED_SENTINEL" Bundle.listD A s' s'.heap := by rw [hhp]; exact vx_Zq.moved hW0.alike (hN.kept hS.2.1)
  have h : ∀ w ∈ Bundle.ownAtoms0 own ic cls names, w.before args s' = true := vx_own hat' (vx_isRefq hU'.1) (vx_isRefq hN'.1) hU'.2.word hN'.2.word
  have hown' : s'.vm.findClass own = some m.cls := by rw [hvm]; exact hown
  have hins : (Cond.instantiable cls 6).before args s' = true := h _ (by simp [Bundle.ownAtoms0])
  obtain ⟨vm₁, cX, kX, hfX, hkX, -, -, X₁, st1⟩ := Y.newCold hexec (own := own) (C := cls) (index := ik) (n := 6) hown' hk' hins hini'
    (g := F0 m pc ls rest) rfl (by rw [hb]; exact d0) (Nat.le_refl _) (Nat.le_refl _)
  generalize hT1 : (T.setVm vm₁).pushCell { cls := cX, slots := kX.instanceTypes.map defaultValue, vm := .none } = T1 at X₁ st1
  have hcat : (Value.ref T.heap.size).category = 1 := rfl
  have hcellA : T1.heap[T.heap.size]? = some (freshCell cX kX) := by rw [← hT1]; exact State.heap_pushCell_size _ _
  have d3' : decode c.code (pc + 3) = .ok (.dup, 1) := by rw [hb]; exact d3
  obtain ⟨U, hsteps, hrun, hend, hW, hsame, ce, hce, hO⟩ := X₁.ctorThrow0 hexec htr (own := own) (cls := cls) (names := names) (ic := ic) hown' hcls hnames h (fun x hx => nomatch hx) hfX hkX hcellA (by rw [hhp, hT]; exact Nat.le_refl _)
    (g := { method := m, pc := pc + 4, locals := ls, stack := .ref T.heap.size :: .ref T.heap.size :: rest, locked := none }) rfl hsize rfl rfl (rest := rest) rfl
    (by rw [hb]; exact d4) (by rw [hb]; exact d7) hout hRframes (by simp only [List.map_cons, List.sum_cons, hcat]; omega) hlocks
  obtain ⟨f1, f2⟩ := vx_frame hsame
  rw [hhp] at f1 f2
  have hWs : s.WarmedH U.vm := State.WarmedH.trans hW0 hW
  have hcl : s.vm.findClass cls = some ce.cls := by
    have h9 := hO.cls
    rw [hvm] at h9
    exact h9
  have hall : s.sameButNew ({ U with vm := s.vm } : State) locs mc ms := by
    subst hA
    obtain ⟨e1, e2⟩ := hsame
    rw [State.setFrames_setFrames] at e1
    have h2 : (T.setVm s.vm).sameButNew ({ U with vm := s.vm } : State) [] (0 + 1) (0 + 6) := ⟨e1, e2⟩
    have h3 := X.same.trans h2
    rw [List.append_nil] at h3
    exact h3.mono hc hs
  refine ⟨U, ?_, .threw T.heap.size, hrun, hend, Or.inr ⟨T.heap.size, rfl, cls, ce, locs, hx U hWs.alike f1 (fun q hq => f2 q hq (fun z hz => nomatch hz)), hce, hO.vm, hcl, hWs, hall, hf⟩⟩
  refine st1 _ ?_
  show Steps p.tables e below (T1.setTop { method := m, pc := pc + 3, locals := ls, stack := .ref T.heap.size :: rest, locked := none }) _
  jvm_step X₁.here [X₁.here.top, hexec, d3', Value.category]
  exact hsteps
/-- 'throw new E("text")': new; dup; ldc; invokespecial; athrow -/
theorem vx_throwS {cc : ByteArray} {pc : Nat} (hexec : p.tables.exec = Jvm.exec) (hb : c.code = cc) (hl : l.stackTraces = false) {own cls text : String} {names : List String} {ik is ic mc ms sa : Nat} {A : Nat → Prop}
    (hown : s.vm.findClass own = some m.cls) (hcls : Bundle.fit cls = true) (hnames : ∀ n ∈ names, Bundle.fit n = true)
    (hk : (Cond.classLink own ik cls).before args s = true) (hini : (Cond.initialized cls).before args s = true) (hstr : vk_R own is text sa s) (hat : ∀ w ∈ vx_atS own ic cls names, w.before args s = true)
    (hgood : ∀ w ∈ Cond.classLink own ik cls :: Cond.initialized cls :: vx_atS own ic cls names, vx_ot w = true)
    (hU : vx_Zq Bundle.tN "UNASSIGNED_STACK" Bundle.steD A s s.heap) (hN : vx_Zq Bundle.tN "SUPPRESSED_SENTINEL" Bundle.listD A s s.heap) (hS : va_S A s.heap H locs) (hsize : ls.size = c.maxLocals)
    (d0 : decode cc pc = .ok (.new ik, 3)) (d3 : decode cc (pc + 3) = .ok (.dup, 1)) (d4 : decode cc (pc + 4) = .ok (.ldc is, 2)) (d6 : decode cc (pc + 6) = .ok (.invokespecial ic, 3)) (d9 : decode cc (pc + 9) = .ok (.athrow, 1))
    (hout : ∀ x ∈ c.exceptionTable.toList, covers x (pc + 9) = false)
    (hRframes : names.length + 3 < R.frames) (hRlocals : (rest.map fun v => v.category).sum + (13 * (names.length + 1) + 43) ≤ R.locals) (hRcells : cells + 1 ≤ R.cells) (hRslots : slots + 6 ≤ R.slots) (hlocks : meth.locks = false)
    (hx : ∀ t : State, s.vm.Alike t.vm → H.size ≤ t.heap.size → (∀ q : Nat, q < H.size → t.heap[q]? = H[q]?) → XC cls s t)
    (hf : ∀ z ∈ locs, free z.base) (hc : cells + 1 ≤ mc) (hs : slots + 6 ≤ ms) :
    W p l e R s m args below meth c H locs cells slots (vx_MQ below Qc XC args s mc ms free) (F0 m pc ls rest) := by
  intro T hT X
  have htr : e.platform.stackTraces = false := (show e.platform.stackTraces = l.stackTraces by rw [X.admits.platform]).trans hl
  have Y := vx_rebase X (R' := { frames := R.frames, locals := R.locals, cells := 1, slots := 6 }) (Nat.le_refl _) (Nat.le_refl _) hRcells hRslots
  obtain ⟨s', hA⟩ : ∃ z, z = (T.setVm s.vm).setFrames (.invoking m args :: below) := ⟨_, rfl⟩
  rw [← hA] at Y
  have hvm : s'.vm = s.vm := by rw [hA]; rfl
  have hhp : s'.heap = H := by rw [hA]; exact hT
  have hW0 : s.WarmedH s'.vm := by rw [hvm]; exact State.WarmedH.refl s
  have hat' : ∀ w ∈ vx_atS own ic cls names, w.before args s' = true := fun w hw => vx_ot_at hW0 hvm.symm (hgood w (List.mem_cons_of_mem _ (List.mem_cons_of_mem _ hw))) (hat w hw)
  have hk' : (Cond.classLink own ik cls).before args s' = true := vx_ot_at hW0 hvm.symm (hgood _ List.mem_cons_self) hk
  have hini' : (Cond.initialized cls).before args s' = true := vx_ot_at hW0 hvm.symm (hgood _ (List.mem_cons_of_mem _ List.mem_cons_self)) hini
  have hU' : vx_Zq Bundle.tN "UNASSIGNED_STACK" Bundle.steD A s' s'.heap := by rw [hhp]; exact vx_Zq.moved hW0.alike (hU.kept hS.2.1)
  have hN' : vx_Zq Bundle.tN "SUPPRESSED_SENTINEL" Bundle.listD A s' s'.heap := by rw [hhp]; exact vx_Zq.moved hW0.alike (hN.kept hS.2.1)
  have h : ∀ w ∈ Bundle.ownAtoms own ic cls names, w.before args s' = true := vx_own hat' (vx_isRefq hU'.1) (vx_isRefq hN'.1) hU'.2.word hN'.2.word
  have hown' : s'.vm.findClass own = some m.cls := by rw [hvm]; exact hown
  have hins : (Cond.instantiable cls 6).before args s' = true := h _ (by simp [Bundle.ownAtoms])
  obtain ⟨vm₁, cX, kX, hfX, hkX, -, -, X₁, st1⟩ := Y.newCold hexec (own := own) (C := cls) (index := ik) (n := 6) hown' hk' hins hini'
    (g := F0 m pc ls rest) rfl (by rw [hb]; exact d0) (Nat.le_refl _) (Nat.le_refl _)
  generalize hT1 : (T.setVm vm₁).pushCell { cls := cX, slots := kX.instanceTypes.map defaultValue, vm := .none } = T1 at X₁ st1
  have hcat : (Value.ref T.heap.size).category = 1 := rfl
  have hcellA : T1.heap[T.heap.size]? = some (freshCell cX kX) := by rw [← hT1]; exact State.heap_pushCell_size _ _
  have d3' : decode c.code (pc + 3) = .ok (.dup, 1) := by rw [hb]; exact d3
  have d4' : decode c.code (pc + 4) = .ok (.ldc is, 2) := by rw [hb]; exact d4
  have hstr' : vk_R own is text sa s' := vk_R.warm hW0 hstr
  obtain ⟨U, hsteps, hrun, hend, hW, hsame, ce, hce, hO⟩ := X₁.ctorThrowS hexec htr (own := own) (cls := cls) (names := names) (ic := ic) hown' hcls hnames h (fun x hx => nomatch hx) hfX hkX hcellA (by rw [hhp, hT]; exact Nat.le_refl _) (msg := .ref sa) rfl
    (g := { method := m, pc := pc + 6, locals := ls, stack := .ref sa :: .ref T.heap.size :: .ref T.heap.size :: rest, locked := none }) rfl hsize rfl rfl (rest := rest) rfl
    (by rw [hb]; exact d6) (by rw [hb]; exact d9) hout hRframes (by simp only [List.map_cons, List.sum_cons, hcat]; omega) hlocks
  obtain ⟨f1, f2⟩ := vx_frame hsame
  rw [hhp] at f1 f2
  have hWs : s.WarmedH U.vm := State.WarmedH.trans hW0 hW
  have hcl : s.vm.findClass cls = some ce.cls := by
    have h9 := hO.cls
    rw [hvm] at h9
    exact h9
  have hall : s.sameButNew ({ U with vm := s.vm } : State) locs mc ms := by
    subst hA
    obtain ⟨e1, e2⟩ := hsame
    rw [State.setFrames_setFrames] at e1
    have h2 : (T.setVm s.vm).sameButNew ({ U with vm := s.vm } : State) [] (0 + 1) (0 + 6) := ⟨e1, e2⟩
    have h3 := X.same.trans h2
    rw [List.append_nil] at h3
    exact h3.mono hc hs
  refine ⟨U, ?_, .threw T.heap.size, hrun, hend, Or.inr ⟨T.heap.size, rfl, cls, ce, locs, hx U hWs.alike f1 (fun q hq => f2 q hq (fun z hz => nomatch hz)), hce, hO.vm, hcl, hWs, hall, hf⟩⟩
  refine st1 _ ?_
  show Steps p.tables e below (T1.setTop { method := m, pc := pc + 3, locals := ls, stack := .ref T.heap.size :: rest, locked := none }) _
  jvm_step X₁.here [X₁.here.top, hexec, d3', Value.category]
  exact X₁.ldcString hexec (own := own) (text := text) (index := is) (a := sa) hown' hstr'.1 hstr'.2
    (g := { method := m, pc := pc + 4, locals := ls, stack := .ref T.heap.size :: .ref T.heap.size :: rest, locked := none }) rfl d4' _ hsteps
/-- 'throw new E("text")', the text by a wide index -/
theorem vx_throwSW {cc : ByteArray} {pc : Nat} (hexec : p.tables.exec = Jvm.exec) (hb : c.code = cc) (hl : l.stackTraces = false) {own cls text : String} {names : List String} {ik is ic mc ms sa : Nat} {A : Nat → Prop}
    (hown : s.vm.findClass own = some m.cls) (hcls : Bundle.fit cls = true) (hnames : ∀ n ∈ names, Bundle.fit n = true)
    (hk : (Cond.classLink own ik cls).before args s = true) (hini : (Cond.initialized cls).before args s = true) (hstr : vk_R own is text sa s) (hat : ∀ w ∈ vx_atS own ic cls names, w.before args s = true)
    (hgood : ∀ w ∈ Cond.classLink own ik cls :: Cond.initialized cls :: vx_atS own ic cls names, vx_ot w = true)
    (hU : vx_Zq Bundle.tN "UNASSIGNED_STACK" Bundle.steD A s s.heap) (hN : vx_Zq Bundle.tN "SUPPRESSED_SENTINEL" Bundle.listD A s s.heap) (hS : va_S A s.heap H locs) (hsize : ls.size = c.maxLocals)
    (d0 : decode cc pc = .ok (.new ik, 3)) (d3 : decode cc (pc + 3) = .ok (.dup, 1)) (d4 : decode cc (pc + 4) = .ok (.ldc_w is, 3)) (d7 : decode cc (pc + 7) = .ok (.invokespecial ic, 3)) (d10 : decode cc (pc + 10) = .ok (.athrow, 1))
    (hout : ∀ x ∈ c.exceptionTable.toList, covers x (pc + 10) = false)
    (hRframes : names.length + 3 < R.frames) (hRlocals : (rest.map fun v => v.category).sum + (13 * (names.length + 1) + 43) ≤ R.locals) (hRcells : cells + 1 ≤ R.cells) (hRslots : slots + 6 ≤ R.slots) (hlocks : meth.locks = false)
    (hx : ∀ t : State, s.vm.Alike t.vm → H.size ≤ t.heap.size → (∀ q : Nat, q < H.size → t.heap[q]? = H[q]?) → XC cls s t)
    (hf : ∀ z ∈ locs, free z.base) (hc : cells + 1 ≤ mc) (hs : slots + 6 ≤ ms) :
    W p l e R s m args below meth c H locs cells slots (vx_MQ below Qc XC args s mc ms free) (F0 m pc ls rest) := by
  intro T hT X
  have htr : e.platform.stackTraces = false := (show e.platform.stackTraces = l.stackTraces by rw [X.admits.platform]).trans hl
  have Y := vx_rebase X (R' := { frames := R.frames, locals := R.locals, cells := 1, slots := 6 }) (Nat.le_refl _) (Nat.le_refl _) hRcells hRslots
  obtain ⟨s', hA⟩ : ∃ z, z = (T.setVm s.vm).setFrames (.invoking m args :: below) := ⟨_, rfl⟩
  rw [← hA] at Y
  have hvm : s'.vm = s.vm := by rw [hA]; rfl
  have hhp : s'.heap = H := by rw [hA]; exact hT
  have hW0 : s.WarmedH s'.vm := by rw [hvm]; exact State.WarmedH.refl s
  have hat' : ∀ w ∈ vx_atS own ic cls names, w.before args s' = true := fun w hw => vx_ot_at hW0 hvm.symm (hgood w (List.mem_cons_of_mem _ (List.mem_cons_of_mem _ hw))) (hat w hw)
  have hk' : (Cond.classLink own ik cls).before args s' = true := vx_ot_at hW0 hvm.symm (hgood _ List.mem_cons_self) hk
  have hini' : (Cond.initialized cls).before args s' = true := vx_ot_at hW0 hvm.symm (hgood _ (List.mem_cons_of_mem _ List.mem_cons_self)) hini
  have hU' : vx_Zq Bundle.tN "UNASSIGNED_STACK" Bundle.steD A s' s'.heap := by rw [hhp]; exact vx_Zq.moved hW0.alike (hU.kept hS.2.1)
  have hN' : vx_Zq Bundle.tN "SUPPRESSED_SENTINEL" Bundle.listD A s' s'.heap := by rw [hhp]; exact vx_Zq.moved hW0.alike (hN.kept hS.2.1)
  have h : ∀ w ∈ Bundle.ownAtoms own ic cls names, w.before args s' = true := vx_own hat' (vx_isRefq hU'.1) (vx_isRefq hN'.1) hU'.2.word hN'.2.word
  have hown' : s'.vm.findClass own = some m.cls := by rw [hvm]; exact hown
  have hins : (Cond.instantiable cls 6).before args s' = true := h _ (by simp [Bundle.ownAtoms])
  obtain ⟨vm₁, cX, kX, hfX, hkX, -, -, X₁, st1⟩ := Y.newCold hexec (own := own) (C := cls) (index := ik) (n := 6) hown' hk' hins hini'
    (g := F0 m pc ls rest) rfl (by rw [hb]; exact d0) (Nat.le_refl _) (Nat.le_refl _)
  generalize hT1 : (T.setVm vm₁).pushCell { cls := cX, slots := kX.instanceTypes.map defaultValue, vm := .none } = T1 at X₁ st1
  have hcat : (Value.ref T.heap.size).category = 1 := rfl
  have hcellA : T1.heap[T.heap.size]? = some (freshCell cX kX) := by rw [← hT1]; exact State.heap_pushCell_size _ _
  have d3' : decode c.code (pc + 3) = .ok (.dup, 1) := by rw [hb]; exact d3
  have d4' : decode c.code (pc + 4) = .ok (.ldc_w is, 3) := by rw [hb]; exact d4
  have hstr' : vk_R own is text sa s' := vk_R.warm hW0 hstr
  obtain ⟨U, hsteps, hrun, hend, hW, hsame, ce, hce, hO⟩ := X₁.ctorThrowS hexec htr (own := own) (cls := cls) (names := names) (ic := ic) hown' hcls hnames h (fun x hx => nomatch hx) hfX hkX hcellA (by rw [hhp, hT]; exact Nat.le_refl _) (msg := .ref sa) rfl
    (g := { method := m, pc := pc + 7, locals := ls, stack := .ref sa :: .ref T.heap.size :: .ref T.heap.size :: rest, locked := none }) rfl hsize rfl rfl (rest := rest) rfl
    (by rw [hb]; exact d7) (by rw [hb]; exact d10) hout hRframes (by simp only [List.map_cons, List.sum_cons, hcat]; omega) hlocks
  obtain ⟨f1, f2⟩ := vx_frame hsame
  rw [hhp] at f1 f2
  have hWs : s.WarmedH U.vm := State.WarmedH.trans hW0 hW
  have hcl : s.vm.findClass cls = some ce.cls := by
    have h9 := hO.cls
    rw [hvm] at h9
    exact h9
  have hall : s.sameButNew ({ U with vm := s.vm } : State) locs mc ms := by
    subst hA
    obtain ⟨e1, e2⟩ := hsame
    rw [State.setFrames_setFrames] at e1
    have h2 : (T.setVm s.vm).sameButNew ({ U with vm := s.vm } : State) [] (0 + 1) (0 + 6) := ⟨e1, e2⟩
    have h3 := X.same.trans h2
    rw [List.append_nil] at h3
    exact h3.mono hc hs
  refine ⟨U, ?_, .threw T.heap.size, hrun, hend, Or.inr ⟨T.heap.size, rfl, cls, ce, locs, hx U hWs.alike f1 (fun q hq => f2 q hq (fun z hz => nomatch hz)), hce, hO.vm, hcl, hWs, hall, hf⟩⟩
  refine st1 _ ?_
  show Steps p.tables e below (T1.setTop { method := m, pc := pc + 3, locals := ls, stack := .ref T.heap.size :: rest, locked := none }) _
  jvm_step X₁.here [X₁.here.top, hexec, d3', Value.category]
  exact X₁.ldcStringW hexec (own := own) (text := text) (index := is) (a := sa) hown' hstr'.1 hstr'.2
    (g := { method := m, pc := pc + 4, locals := ls, stack := .ref T.heap.size :: .ref T.heap.size :: rest, locked := none }) rfl d4' _ hsteps
end Ends
section Bodies
variable {l : Launch}
theorem vx_ofW {y : MethodName} {ws ws' : List Cond} {rm : Room} {Pc : Array Value → State → Prop} {Qc : Array Value → State → Outcome → State → Prop} {XC : String → State → State → Prop} {mc ms : Nat} {free : Addr → Prop} {cc : ByteArray} {maxL : Nat} {ret : Option FieldType}
    (hy : plainName y.cls = true) (hw : ws = Cond.code y cc maxL ret :: ws')
    (body : ∀ p e s m args below meth c s₁, BodyLoose p l y (headSpec ws rm) cc maxL ret e s m args below meth c s₁ → c.maxLocals = maxL → (∀ x ∈ c.exceptionTable.toList, False) → Pc args s →
      W p l e (headSpec ws rm).room s m args below meth c s.heap [] 0 0 (vx_MQ below Qc XC args s mc ms free) (entryFrame m args maxL)) : vx_Met l y ws rm Pc Qc XC mc ms free := by
  refine MetFree.of_bodyS (code := cc) (maxLocals := maxL) (ret := ret) hy ?_ ?_
  · intro args s m h hn
    obtain ⟨meth, c, h1, h2, h3, h4, h5, h6, -, -⟩ := Cond.code_spec hn (atoms_spec (ws := ws) h _ (by rw [hw]; exact List.mem_cons_self))
    exact ⟨meth, c, h1, h2, h3, h4, h5, h6⟩
  · intro p e s m args below meth c s₁ B hml hP _
    have hh0 : s₁.heap = s.heap := by rw [B.state]; rfl
    have ht : ∀ x ∈ c.exceptionTable.toList, False := by
      obtain ⟨meth9, c9, h1, h2, -, -, -, -, h7, -⟩ := Cond.code_spec B.named (atoms_spec (ws := ws) B.pre _ (by rw [hw]; exact List.mem_cons_self))
      cases Option.some.inj (h1.symm.trans B.method)
      cases Option.some.inj (h2.symm.trans (Stand.of_body B).code)
      intro x hx
      rw [Array.isEmpty_iff.mp h7] at hx
      cases hx
    obtain ⟨t, a1, o, b1, b2, b3⟩ := body p e s m args below meth c s₁ B hml ht hP s₁ hh0 (Stand.of_body B)
    exact ⟨t, o, a1, b1, b2, b3⟩
/-- the table of a body with handlers -/
theorem vx_table {p : Program} {x y : MethodName} {S : Spec} {cc bytes : ByteArray} {maxL maxL' : Nat} {ret ret' : Option FieldType} {e : Env} {s s₁ : State} {m : MethodId} {args : Array Value} {below : List Frame} {meth : Method} {c : Code} {hh : List (Nat × Nat × Nat × Nat)}
    (B : BodyLoose p l y S cc maxL ret e s m args below meth c s₁) (h : (Cond.codeWith y bytes maxL' ret' hh).before args s = true) : c.exceptionTable.toList = tableOf hh := by
  obtain ⟨m9, meth9, c9, hn9, h1, h2, -, -, h6, -⟩ := Cond.codeWith_spec h
  cases Option.some.inj (hn9.symm.trans B.named)
  cases Option.some.inj (h1.symm.trans B.method)
  cases Option.some.inj (h2.symm.trans (Stand.of_body B).code)
  rw [← h6, table_eq]
end Bodies
end VXA
/-! ===== END ===== -/
/-! ===== BEGIN a static call of a method with an exception table ===== -/
section VXS
variable {p : Program} {l : Launch} {e : Env} {R : Room} {s : State} {m : MethodId} {args : Array Value} {below : List Frame} {meth : Method} {c : Code} {T : State} {H : Heap} {locs : List Loc} {cells slots : Nat}
abbrev vx_CSW (R : Room) (s : State) (args : Array Value) (own : String) (index : Nat) (y : MethodName) (bytes : ByteArray) (maxL : Nat) (ret : Option FieldType) (hh : List (Nat × Nat × Nat × Nat)) (ws : List Cond) (rm : Room) (mc ms n : Nat) : Prop :=
  (rm.cells = mc ∧ rm.slots = ms ∧ rm.frames + 1 ≤ R.frames ∧ 8 + (maxL + 11) + rm.locals ≤ R.locals ∧ (∀ w ∈ ws, ∀ (a' : Array Value) (U : State), s.WarmedH U.vm → w.before a' U = true) ∧ Cond.codeWith y bytes maxL ret hh ∈ ws) ∧
  (Cond.codeWith y bytes maxL ret hh).before args s = true ∧ (Cond.initialized y.cls).before args s = true ∧ (y.cls ≠ "java/lang/invoke/MethodHandle" ∧ y.cls ≠ "java/lang/invoke/VarHandle") ∧
  (∀ sig, parseMethodDescriptor y.desc = some sig → n = sig.parameters.length) ∧ (Cond.methodLink own index y).before args s = true ∧ (Cond.static y).before args s = true
theorem vx_cwSW {own : String} {index maxL mc ms : Nat} {y : MethodName} {bytes : ByteArray} {ret : Option FieldType} {hh : List (Nat × Nat × Nat × Nat)} {Ts ws ws' : List Cond} {rm : Room} (n : Nat) (ht : ∀ w ∈ Ts, w.before args s = true) (hT : GoodIn Ts (va_wsS own index y ws)) (hw : ws = Cond.codeWith y bytes maxL ret hh :: ws') (hrc : rm.cells = mc) (hrs : rm.slots = ms)
    (hd : y.cls ≠ "java/lang/invoke/MethodHandle" ∧ y.cls ≠ "java/lang/invoke/VarHandle" ∧ (parseMethodDescriptor y.desc).map (fun d => d.parameters.length) = some n) (hR : rm.frames + 1 ≤ R.frames ∧ 8 + (maxL + 11) + rm.locals ≤ R.locals) :
    vx_CSW R s args own index y bytes maxL ret hh ws rm mc ms n := by
  have ok : ∀ w ∈ va_wsS own index y ws, w.before args s = true := fun w h => ht w (hT w h).1
  have hG : GoodIn Ts ws := fun w h => hT w (by unfold va_wsS; exact List.mem_append_right _ h)
  have hc : Cond.codeWith y bytes maxL ret hh ∈ ws := by rw [hw]; exact List.mem_cons_self
  refine ⟨⟨hrc, hrs, hR.1, hR.2, pay_in ht hG, hc⟩, ht _ (hG _ hc).1, ok _ (by simp [va_wsS]), ⟨hd.1, hd.2.1⟩, fun sig h => ?_, ok _ (by simp [va_wsS]), ok _ (by simp [va_wsS])⟩
  have h2 := hd.2.2
  rw [h] at h2
  exact (Option.some.inj h2).symm
theorem vx_callSW (X : Stand p l e R s m args below meth c T locs cells slots) (hexec : p.tables.exec = Jvm.exec) {own : String} {index : Nat} {y : MethodName} {bytes : ByteArray} {maxL : Nat} {ret : Option FieldType} {hh : List (Nat × Nat × Nat × Nat)}
    (hown : s.vm.findClass own = some m.cls) (hlink : (Cond.methodLink own index y).before args s = true) (hstat : (Cond.static y).before args s = true) (hinit : (Cond.initialized y.cls).before args s = true)
    (hcode : (Cond.codeWith y bytes maxL ret hh).before args s = true) (hy : y.cls ≠ "java/lang/invoke/MethodHandle" ∧ y.cls ≠ "java/lang/invoke/VarHandle")
    {W9 : Nat} {Pre : Pt → Array Value → Prop} {Post : Pt → Array Value → Option Value → Pt → Prop} (hK : Back l R p e below s args y 3 W9 Pre Post)
    {g : JFrame} (hg : g.method = m) (hsize : g.locals.size = c.maxLocals) {argsL rest : List Value} (hlen : ∀ sig, parseMethodDescriptor y.desc = some sig → argsL.length = sig.parameters.length)
    (hstack : g.stack = argsL.reverse ++ rest) (hW : 2 * g.monitorRoom + (rest.map fun v => v.category).sum ≤ W9) (hdg : decode c.code g.pc = .ok (.invokestatic index, 3))
    (hpre : ∀ vm₁, s.WarmedH vm₁ → Pre ⟨T.setVm vm₁, locs, cells, slots⟩ argsL.toArray) :
    ∃ (v : Option Value) (vm₁ : Vm) (B : Pt), s.WarmedH vm₁ ∧ Stand p l e R s m args below meth c B.U B.locs B.cells B.slots ∧ Post ⟨T.setVm vm₁, locs, cells, slots⟩ argsL.toArray v B ∧
      ∀ target, Steps p.tables e below (B.U.setTop { g with pc := g.pc + 3, stack := v.toList ++ rest }) target → Steps p.tables e below (T.setTop g) target := by
  obtain ⟨mk, methM, cM, hnamed, hmethM, -, -, -, -, -, -, hsigM⟩ := Cond.codeWith_spec hcode
  have hstatic : methM.isStatic = true := Cond.static_spec hnamed hmethM hstat
  obtain ⟨kP, hkP, -⟩ := className_of_methodNamed hnamed
  have hinitP : kP.init = .initialized := Cond.initialized_spec (findClass_of_methodNamed hnamed) hkP hinit
  obtain ⟨vm₁, X₁, hstep₁⟩ := X.invokestatic hexec hown hlink hnamed hmethM hstatic hkP hinitP hy (g := g) hg (argsL := argsL) (rest := rest) (hlen _ hsigM) hstack hdg
  obtain ⟨v, B, X', hpost, hsteps⟩ := hK m meth c ⟨T.setVm vm₁, locs, cells, slots⟩ { g with stack := rest } (.invokestatic index) mk argsL.toArray X₁ hg hsize hdg hW (X₁.named hnamed) (hpre vm₁ X₁.warmed)
  exact ⟨v, vm₁, B, X₁.warmed, X', hpost, fun target h => hstep₁ _ fun acts => by rw [doInvoke_state]; exact hsteps.trans h⟩
theorem vx_runSW {y : MethodName} {bytes cc : ByteArray} {maxL nL mc ms n index : Nat} {ret : Option FieldType} {hh : List (Nat × Nat × Nat × Nat)} {ws : List Cond} {rm : Room} {Pc : Array Value → State → Prop} {Qc : Array Value → State → Outcome → State → Prop} {free : Addr → Prop} {Ts : List Cond} {own : String} {As rest : List Value} {g : JFrame}
    (S : CallFix p m c cc nL s args Ts own) (hM : Met l y ws rm Pc Qc mc ms free) (cw : vx_CSW R s args own index y bytes maxL ret hh ws rm mc ms n) (hp : PreS s H Pc As)
    (hg : g.method = m) (hn : As.length = n) (hsize : g.locals.size = nL) (hstack : g.stack = As.reverse ++ rest) (hW : 2 * g.monitorRoom + (rest.map fun v => v.category).sum ≤ 8) (hdg : decode cc g.pc = .ok (.invokestatic index, 3)) (hf : cells + mc ≤ R.cells ∧ slots + ms ≤ R.slots) :
    va_Run p l e R s m args below meth c H locs cells slots mc ms g rest (Qc As.toArray) (free) := by
  obtain ⟨⟨hrc, hrs, hfr, hlo, hws, hcw⟩, hcode, hini, hy, hlen, hl, hstt⟩ := cw
  have hK : Back l R p e below s args y 3 8 (PreOf R mc ms Pc) (PostOf Qc mc ms free) := va_backW (hh := hh) (bytes := bytes) (maxL := maxL) (ret := ret) hM hp.1 hrc hrs hfr hlo hws hcw (fun a' U hW => word_at hW (Or.inl (by first | rfl | simp [Cond.onTables, Cond.keeps, Cond.steady])) hini)
  obtain ⟨hx, hb, hml, ho, -⟩ := S
  intro T hT X
  obtain ⟨v, vm₁, ⟨U', l2, c2, s2⟩, hW₁, X', ⟨g', mk, t, L, e1, e2, hq, h1, hL, h2, h3⟩, st⟩ := vx_callSW X hx (hh := hh) (bytes := bytes) (maxL := maxL) (ret := ret) ho hl hstt hini hcode hy hK hg (hsize.trans hml.symm) (argsL := As) (rest := rest) (fun sig h => hn.trans (hlen sig h)) hstack hW (by rw [hb]; exact hdg)
    (fun vm₁ hW₁ => ⟨hf.1, hf.2, hp.2 (T.setVm vm₁) hT hW₁⟩)
  dsimp only [Pt.U, Pt.locs, Pt.cells, Pt.slots] at X' e1 e2 h1 h2 h3 st
  subst h1; subst h2; subst h3
  exact ⟨v, (T.setVm vm₁).calling g' mk As.toArray, t, U', L, hT, X', hL, e1, e2, hq, st⟩
/-- not caught here, past rows that name other classes: it goes on to the caller -/
theorem vx_outP {p : Program} {l : Launch} {e : Env} {R : Room} {s : State} {m : MethodId} {args : Array Value} {below : List Frame} {meth : Method} {c : Code} {H : Heap} {locs : List Loc} {cells slots : Nat} {free : Addr → Prop} {ls : Array Slot} {rest : List Value} {Qc : Array Value → State → Outcome → State → Prop} {XC : String → State → State → Prop}
    {pc : Nat} {own E : String} {ce : Cell} {q : Addr} {mc ms : Nat} (hown : s.vm.findClass own = some m.cls) (hlocks : meth.locks = false)
    (hpass : ∀ z ∈ c.exceptionTable.toList, covers z pc = false ∨ (z.catchType ≠ 0 ∧ ∃ nm : String, (Cond.classLink own z.catchType nm).before args s = true ∧ va_Nc E nm s)) (hcell : H[q]? = some ce) (hv : ce.vm = .none) (hcl : s.vm.findClass E = some ce.cls)
    (hx : ∀ t : State, t.heap = H → s.vm.Alike t.vm → XC E s t) (hf : ∀ z ∈ locs, free z.base) (hc : cells ≤ mc) (hs : slots ≤ ms) :
    vx_W p l e R s m args below meth c H locs cells slots (vx_MQ below Qc XC args s mc ms free) (F0 m pc ls rest) q := by
  intro T hT X
  have hpl : e.platform.magicAccessors = ({} : Platform).magicAccessors := by rw [X.admits.platform]
  obtain ⟨vm', hW', X', st⟩ := Stand.outThrough X hlocks q (g := F0 m pc ls rest) rfl rfl rfl (cell := ce) (by rw [hT]; exact hcell) (by rw [hv]; rfl)
    (by obtain ⟨k9, h9, -⟩ := Vm.findClass_spec hcl; exact ⟨k9, h9⟩) (fun z hz => by
      rcases hpass z hz with h | ⟨hz0, nm, hl1, hn1⟩
      · exact Or.inl h
      · obtain ⟨c6, hc6, hcl6⟩ := Cond.classLink_spec hown hl1 e.platform hpl
        obtain ⟨a8, b8, h1, h2, h3⟩ := hn1
        cases Option.some.inj (h1.symm.trans hcl)
        cases Option.some.inj (h2.symm.trans hc6)
        exact Or.inr ⟨hz0, _, hcl6, h3⟩)
  obtain ⟨g₀, hfr⟩ := X'.frames_eq
  have hcell9 : ((T.setVm vm').setFrames (.throwing q :: below)).heap[q]? = some ce := by
    show T.heap[q]? = some ce
    rw [hT]; exact hcell
  have hend : Ended ((T.setVm vm').setFrames (.throwing q :: below)) below (.threw q) := State.frames_setFrames _ (State.cur_lt_of_frames hfr)
  refine ⟨(T.setVm vm').setFrames (.throwing q :: below), ?_, .threw q, X'.here.running, hend, Or.inr ⟨q, rfl, E, ce, locs, hx _ hT (X'.ends _).1.alike, hcell9, hv, hcl, (X'.ends _).1, (X'.ends _).2.mono hc hs, hf⟩⟩
  rw [X.pushThrowing_eq]
  exact st
/-- a thing of a world lies in the heap -/
theorem vx_lt {D : va_G} {cl : List vw_C} {ws : va_W} {H1 : Heap} (h : va_P D cl ws H1) {k : Nat} {q : Nat × va_E} (hk : ws[k]? = some q) : q.1 < H1.size := (h k q hk).lt
end VXS
/-! ===== END ===== -/
/-! ===== BEGIN methods with a table of their own: called by a name, returning or throwing ===== -/
section VXH
/-! vx_backW, vx_callVX, vx_callSX, vx_callVW, vx_runVW, vx_runVX, vx_runSX, vx_ofWH follow the same proofs as their sisters above (Free/Laws.lean, Shelf42/LK1.lean); vx_outP calls Shelf42/NT130.lean (outThrough). -/
section
variable {l : Launch} {R : Room} {p : Program} {e : Env} {below : List Frame} {s : State} {sargs : Array Value} {y : MethodName} {len W9 : Nat}
theorem vx_backW {ws : List Cond} {rm : Room} {Pc : Array Value → State → Prop} {Qc : Array Value → State → Outcome → State → Prop} {XC : String → State → State → Prop} {mc ms : Nat} {free : Addr → Prop} {bytes : ByteArray} {maxL : Nat} {ret : Option FieldType} {hh : List (Nat × Nat × Nat × Nat)}
    (hM : vx_Met l y ws rm Pc Qc XC mc ms free) (hblind : FrameBlind Pc) (hrc : rm.cells = mc) (hrs : rm.slots = ms)
    (hframes : rm.frames + 1 ≤ R.frames) (hlocals : W9 + (maxL + 11) + rm.locals ≤ R.locals)
    (hws : ∀ w ∈ ws, ∀ a' U, s.WarmedH U.vm → w.before a' U = true) (hcode : Cond.codeWith y bytes maxL ret hh ∈ ws) (hinit : ∀ a' U, s.WarmedH U.vm → (Cond.initialized y.cls).before a' U = true) :
    vx_Back l R p e below s sargs y len W9 (PreOf R mc ms Pc) (PostOf Qc mc ms free) (vx_Post XC mc ms free) := by
  intro m meth c A g ig mk a X hg hsize hdg hW hn hp
  have h1 : (headSpec ws rm).pre.before a A.U = true := atoms_intro fun w hw => hws w hw _ _ X.warmed
  have h2 : (Cond.codeWith y bytes maxL ret hh).before a A.U = true := hws _ hcode _ _ X.warmed
  have h3 : (Cond.initialized y.cls).before a A.U = true := hinit _ _ X.warmed
  have h4 : A.cells + (headSpec ws rm).room.cells ≤ R.cells := by rw [show (headSpec ws rm).room.cells = mc from hrc]; exact hp.1
  have h5 : A.slots + (headSpec ws rm).room.slots ≤ R.slots := by rw [show (headSpec ws rm).room.slots = ms from hrs]; exact hp.2.1
  have hPc : Pc a (A.U.calling g mk a) := hblind _ _ _ _ hp.2.2
  obtain ⟨U, Ls, c0, s0⟩ := A
  dsimp only [Pt.U, Pt.locs, Pt.cells, Pt.slots] at h1 h2 h3 h4 h5 X hn hPc ⊢
  obtain ⟨m9, methY, cY, hn9, hmY, hcY, -, hlY, -⟩ := Cond.codeWith_spec h2
  cases Option.some.inj (hn9.symm.trans hn)
  obtain ⟨kY, hkY, -⟩ := className_of_methodNamed hn
  have hinitY : kY.init = .initialized := Cond.initialized_spec (findClass_of_methodNamed hn) hkY h3
  have h : At U g.method c below := by rw [hg]; exact X.here
  have hlocals9 : W9 + (maxL + 11) + (headSpec ws rm).room.locals ≤ R.locals := hlocals
  have happ : (headSpec ws rm).appliesLoose y e.platform (U.calling g mk a) = true :=
    Spec.appliesLoose_calling (g := g) h hdg hn hkY hinitY
      (X.room_calling (g := g) (R' := (headSpec ws rm).room) hsize hmY hcY hframes (by rw [hlY]; omega) h4 h5) h1
  obtain ⟨mid, hmid⟩ := h.above
  have hfr : (U.setTop g).frames = (.java g :: mid) ++ below := by rw [State.frames_setTop' g h.top, hmid]; rfl
  obtain ⟨o, s₂, hsteps, -, hend, hq⟩ := Steps.callFree hM p X.admits X.cas X.clock (acts := []) hfr happ hPc trivial
  have hq' : vx_Q Qc XC mc ms free a (U.calling g mk a) o s₂ := hq
  rw [State.frames_setTop' g h.top] at hend
  obtain ⟨g₀, hg0⟩ := Option.isSome_iff_exists.mp h.top
  obtain ⟨r, hr⟩ := State.topJava?_eq_some.mp hg0
  have hr' : (({ U with heap := s₂.heap, slotsUsed := s₂.slotsUsed } : State).setVm s₂.vm).frames = .java g₀ :: r := hr
  rcases hq' with ⟨hqc, L, hfe, hL⟩ | ⟨q, rfl, E, ce, L, hx, hce, hcv, hcl, hW₂, hsm, hL⟩
  · obtain ⟨⟨v, rfl⟩, hW₂, e2, q2, q3, q4, q5, q6⟩ := id hfe
    have e3 : s₂ = ({ (U.calling g mk a).setFrames s₂.frames with heap := s₂.heap, slotsUsed := s₂.slotsUsed } : State).setVm s₂.vm := by
      have : s₂ = ({ s₂ with vm := (U.calling g mk a).vm } : State).setVm s₂.vm := rfl
      rw [e2] at this
      exact this
    obtain ⟨c₂, i₂, len₂, hc₂, hd₂, hf₂⟩ := hend
    have hW' : U.WarmedH s₂.vm := hW₂
    have hcc : c₂ = c := by
      have h1 : s₂.code? g.method = U.code? g.method := by
        rw [State.code?_eq, State.code?_eq, hW'.alike.method?]
      exact Option.some.inj (hc₂.symm.trans (h1.trans h.code))
    subst hcc
    have hlen : len₂ = len := by rw [hdg] at hd₂; cases hd₂; rfl
    subst hlen
    have hs₂ : s₂ = (({ U with heap := s₂.heap, slotsUsed := s₂.slotsUsed } : State).setVm s₂.vm).setTop { g with pc := g.pc + len₂, stack := v.toList ++ g.stack } := by
      refine e3.trans ?_
      rw [hf₂, State.calling_eq h.top, State.setFrames_setFrames, State.setTop_of_frames _ hr', hr]
      rfl
    have hsame : U.sameButNew ({ U with heap := s₂.heap, slotsUsed := s₂.slotsUsed } : State) L mc ms := by
      refine ⟨?_, q2, q3, q4, q5, q6⟩
      obtain ⟨t, ht, -⟩ := State.frames_cons hr
      show ({ U with heap := s₂.heap, slotsUsed := s₂.slotsUsed } : State) = { U.setFrames U.frames with heap := s₂.heap, slotsUsed := s₂.slotsUsed }
      rw [State.setFrames_self ht]
    subst hg
    refine Or.inl ⟨v, ⟨(({ U with heap := s₂.heap, slotsUsed := s₂.slotsUsed } : State).setVm s₂.vm), Ls ++ L, c0 + mc, s0 + ms⟩,
      ⟨X.admits, X.cas, X.clock, X.frames, X.room, X.hears, X.method, X.code, (X.here.setHeapUsed s₂.heap s₂.slotsUsed).setVm hW'.alike, X.tail, State.WarmedH.trans X.warmed hW', X.limits, X.bytes, X.same.trans (hsame.setVm s.vm)⟩,
      ⟨g, mk, s₂, L, rfl, rfl, hqc, rfl, hL, rfl, rfl⟩, ?_⟩
    show Steps p.tables e below _ ((({ U with heap := s₂.heap, slotsUsed := s₂.slotsUsed } : State).setVm s₂.vm).setTop { g with pc := g.pc + len₂, stack := v.toList ++ g.stack })
    rw [← hs₂]
    exact hsteps
  · obtain ⟨e2, q2, q3, q4, q5, q6⟩ := id hsm
    have e3 : s₂ = ({ (U.calling g mk a).setFrames s₂.frames with heap := s₂.heap, slotsUsed := s₂.slotsUsed } : State).setVm s₂.vm := by
      have : s₂ = ({ s₂ with vm := (U.calling g mk a).vm } : State).setVm s₂.vm := rfl
      rw [e2] at this
      exact this
    have hf₂ : s₂.frames = .throwing q :: .java g :: U.frames.tail := hend
    have hW' : U.WarmedH s₂.vm := hW₂
    have hs₂ : s₂ = ((({ U with heap := s₂.heap, slotsUsed := s₂.slotsUsed } : State).setVm s₂.vm).setTop g).pushFrame (.throwing q) := by
      refine e3.trans ?_
      rw [hf₂, State.calling_eq h.top, State.setFrames_setFrames, State.pushFrame, State.frames_setTop _ hr', State.setTop_of_frames _ hr', State.setFrames_setFrames, hr]
      rfl
    have hsame : U.sameButNew ({ U with heap := s₂.heap, slotsUsed := s₂.slotsUsed } : State) L mc ms := by
      refine ⟨?_, q2, q3, q4, q5, q6⟩
      obtain ⟨t, ht, -⟩ := State.frames_cons hr
      show ({ U with heap := s₂.heap, slotsUsed := s₂.slotsUsed } : State) = { U.setFrames U.frames with heap := s₂.heap, slotsUsed := s₂.slotsUsed }
      rw [State.setFrames_self ht]
    subst hg
    refine Or.inr ⟨q, ⟨(({ U with heap := s₂.heap, slotsUsed := s₂.slotsUsed } : State).setVm s₂.vm), Ls ++ L, c0 + mc, s0 + ms⟩,
      ⟨X.admits, X.cas, X.clock, X.frames, X.room, X.hears, X.method, X.code, (X.here.setHeapUsed s₂.heap s₂.slotsUsed).setVm hW'.alike, X.tail, State.WarmedH.trans X.warmed hW', X.limits, X.bytes, X.same.trans (hsame.setVm s.vm)⟩,
      ⟨g, mk, s₂, L, E, ce, rfl, rfl, hx, hce, hcv, hcl, rfl, hL, rfl, rfl⟩, ?_⟩
    show Steps p.tables e below _ (((({ U with heap := s₂.heap, slotsUsed := s₂.slotsUsed } : State).setVm s₂.vm).setTop g).pushFrame (.throwing q))
    rw [← hs₂]
    exact hsteps
end
variable {p : Program} {l : Launch} {e : Env} {R : Room} {s : State} {m : MethodId} {args : Array Value} {below : List Frame} {meth : Method} {c : Code} {T : State} {H : Heap} {locs : List Loc} {cells slots : Nat}
theorem vx_callVX (X : Stand p l e R s m args below meth c T locs cells slots) (hexec : p.tables.exec = Jvm.exec) {own C : String} {index : Nat} {y : MethodName} {bytes : ByteArray} {maxL : Nat} {ret : Option FieldType} {hh : List (Nat × Nat × Nat × Nat)}
    (hown : s.vm.findClass own = some m.cls) (hlink : (Cond.methodLink own index y).before args s = true) (hinst : (Cond.instanceMethod y).before args s = true) (hsel : (Cond.selects C y y).before args s = true)
    (hcode : (Cond.codeWith y bytes maxL ret hh).before args s = true) (hy : y.cls ≠ "java/lang/invoke/MethodHandle" ∧ y.cls ≠ "java/lang/invoke/VarHandle")
    {W9 : Nat} {Pre : Pt → Array Value → Prop} {Post : Pt → Array Value → Option Value → Pt → Prop} {PostX : Pt → Array Value → Addr → Pt → Prop} (hK : vx_Back l R p e below s args y 3 W9 Pre Post PostX)
    {b : Addr} {cellB : Cell} (hcell : T.heap[b]? = some cellB) (hobj : cellB.vm.isStatics = false) (hcls : s.vm.findClass C = some cellB.cls)
    {g : JFrame} (hg : g.method = m) (hsize : g.locals.size = c.maxLocals) {argsL rest : List Value} (hlen : ∀ sig, parseMethodDescriptor y.desc = some sig → argsL.length = sig.parameters.length)
    (hstack : g.stack = argsL.reverse ++ .ref b :: rest) (hW : 2 * g.monitorRoom + (rest.map fun v => v.category).sum ≤ W9) (hdg : decode c.code g.pc = .ok (.invokevirtual index, 3))
    (hpre : ∀ vm₁, s.WarmedH vm₁ → Pre ⟨T.setVm vm₁, locs, cells, slots⟩ (Value.ref b :: argsL).toArray) :
    (∃ (v : Option Value) (vm₁ : Vm) (B : Pt), s.WarmedH vm₁ ∧ Stand p l e R s m args below meth c B.U B.locs B.cells B.slots ∧ Post ⟨T.setVm vm₁, locs, cells, slots⟩ (Value.ref b :: argsL).toArray v B ∧
      ∀ target, Steps p.tables e below (B.U.setTop { g with pc := g.pc + 3, stack := v.toList ++ rest }) target → Steps p.tables e below (T.setTop g) target) ∨
    (∃ (q : Addr) (vm₁ : Vm) (B : Pt), s.WarmedH vm₁ ∧ Stand p l e R s m args below meth c B.U B.locs B.cells B.slots ∧ PostX ⟨T.setVm vm₁, locs, cells, slots⟩ (Value.ref b :: argsL).toArray q B ∧
      Steps p.tables e below (T.setTop g) ((B.U.setTop { g with stack := rest }).pushFrame (.throwing q))) := by
  obtain ⟨mk, methM, hnamed, hmethM, hstM, habM⟩ := Cond.instanceMethod_spec hinst
  obtain ⟨m8, methM', cM, hn8, hmethM', -, -, -, -, -, -, hsigM⟩ := Cond.codeWith_spec hcode
  cases Option.some.inj (hn8.symm.trans hnamed)
  cases hmethM.symm.trans hmethM'
  obtain ⟨c2, r2, m2, q1, q2, q3, q4, kP, hkP, hkPi⟩ := Cond.selects_spec hsel
  cases hcls.symm.trans q1
  cases (State.methodFound?_of_named hnamed hy).symm.trans q2
  cases hnamed.symm.trans q3
  have hselP : selectMethod e.platform s.vm cellB.cls mk = .method mk := by rw [Launch.admits_selectMethod X.admits]; exact q4
  obtain ⟨vm₁, X₁, hstep₁⟩ := X.invokevirtual hexec hown hlink hnamed hmethM hstM hkP hkPi hy (a := b) (cell := cellB) hcell
    (fun z h => by rw [h] at hobj; cases hobj) hselP hmethM habM hkP hkPi (g := g) hg (argsL := argsL) (rest := rest) (hlen _ hsigM) hstack hdg
  rcases hK m meth c ⟨T.setVm vm₁, locs, cells, slots⟩ { g with stack := rest } (.invokevirtual index) mk (Value.ref b :: argsL).toArray X₁ hg hsize hdg hW (X₁.named hnamed) (hpre vm₁ X₁.warmed) with ⟨v, B, X', hpost, hsteps⟩ | ⟨q, B, X', hpost, hsteps⟩
  · exact Or.inl ⟨v, vm₁, B, X₁.warmed, X', hpost, fun target h => hstep₁ _ fun acts => by rw [doInvoke_state]; exact hsteps.trans h⟩
  · exact Or.inr ⟨q, vm₁, B, X₁.warmed, X', hpost, hstep₁ _ fun acts => by rw [doInvoke_state]; exact hsteps⟩
theorem vx_callSX (X : Stand p l e R s m args below meth c T locs cells slots) (hexec : p.tables.exec = Jvm.exec) {own : String} {index : Nat} {y : MethodName} {bytes : ByteArray} {maxL : Nat} {ret : Option FieldType} {hh : List (Nat × Nat × Nat × Nat)}
    (hown : s.vm.findClass own = some m.cls) (hlink : (Cond.methodLink own index y).before args s = true) (hstat : (Cond.static y).before args s = true) (hinit : (Cond.initialized y.cls).before args s = true)
    (hcode : (Cond.codeWith y bytes maxL ret hh).before args s = true) (hy : y.cls ≠ "java/lang/invoke/MethodHandle" ∧ y.cls ≠ "java/lang/invoke/VarHandle")
    {W9 : Nat} {Pre : Pt → Array Value → Prop} {Post : Pt → Array Value → Option Value → Pt → Prop} {PostX : Pt → Array Value → Addr → Pt → Prop} (hK : vx_Back l R p e below s args y 3 W9 Pre Post PostX)
    {g : JFrame} (hg : g.method = m) (hsize : g.locals.size = c.maxLocals) {argsL rest : List Value} (hlen : ∀ sig, parseMethodDescriptor y.desc = some sig → argsL.length = sig.parameters.length)
    (hstack : g.stack = argsL.reverse ++ rest) (hW : 2 * g.monitorRoom + (rest.map fun v => v.category).sum ≤ W9) (hdg : decode c.code g.pc = .ok (.invokestatic index, 3))
    (hpre : ∀ vm₁, s.WarmedH vm₁ → Pre ⟨T.setVm vm₁, locs, cells, slots⟩ argsL.toArray) :
    (∃ (v : Option Value) (vm₁ : Vm) (B : Pt), s.WarmedH vm₁ ∧ Stand p l e R s m args below meth c B.U B.locs B.cells B.slots ∧ Post ⟨T.setVm vm₁, locs, cells, slots⟩ argsL.toArray v B ∧
      ∀ target, Steps p.tables e below (B.U.setTop { g with pc := g.pc + 3, stack := v.toList ++ rest }) target → Steps p.tables e below (T.setTop g) target) ∨
    (∃ (q : Addr) (vm₁ : Vm) (B : Pt), s.WarmedH vm₁ ∧ Stand p l e R s m args below meth c B.U B.locs B.cells B.slots ∧ PostX ⟨T.setVm vm₁, locs, cells, slots⟩ argsL.toArray q B ∧
      Steps p.tables e below (T.setTop g) ((B.U.setTop { g with stack := rest }).pushFrame (.throwing q))) := by
  obtain ⟨mk, methM, cM, hnamed, hmethM, -, -, -, -, -, -, hsigM⟩ := Cond.codeWith_spec hcode
  have hstatic : methM.isStatic = true := Cond.static_spec hnamed hmethM hstat
  obtain ⟨kP, hkP, -⟩ := className_of_methodNamed hnamed
  have hinitP : kP.init = .initialized := Cond.initialized_spec (findClass_of_methodNamed hnamed) hkP hinit
  obtain ⟨vm₁, X₁, hstep₁⟩ := X.invokestatic hexec hown hlink hnamed hmethM hstatic hkP hinitP hy (g := g) hg (argsL := argsL) (rest := rest) (hlen _ hsigM) hstack hdg
  rcases hK m meth c ⟨T.setVm vm₁, locs, cells, slots⟩ { g with stack := rest } (.invokestatic index) mk argsL.toArray X₁ hg hsize hdg hW (X₁.named hnamed) (hpre vm₁ X₁.warmed) with ⟨v, B, X', hpost, hsteps⟩ | ⟨q, B, X', hpost, hsteps⟩
  · exact Or.inl ⟨v, vm₁, B, X₁.warmed, X', hpost, fun target h => hstep₁ _ fun acts => by rw [doInvoke_state]; exact hsteps.trans h⟩
  · exact Or.inr ⟨q, vm₁, B, X₁.warmed, X', hpost, hstep₁ _ fun acts => by rw [doInvoke_state]; exact hsteps⟩
theorem vx_callVW (X : Stand p l e R s m args below meth c T locs cells slots) (hexec : p.tables.exec = Jvm.exec) {own C : String} {index : Nat} {y : MethodName} {bytes : ByteArray} {maxL : Nat} {ret : Option FieldType} {hh : List (Nat × Nat × Nat × Nat)}
    (hown : s.vm.findClass own = some m.cls) (hlink : (Cond.methodLink own index y).before args s = true) (hinst : (Cond.instanceMethod y).before args s = true) (hsel : (Cond.selects C y y).before args s = true)
    (hcode : (Cond.codeWith y bytes maxL ret hh).before args s = true) (hy : y.cls ≠ "java/lang/invoke/MethodHandle" ∧ y.cls ≠ "java/lang/invoke/VarHandle")
    {W9 : Nat} {Pre : Pt → Array Value → Prop} {Post : Pt → Array Value → Option Value → Pt → Prop} (hK : Back l R p e below s args y 3 W9 Pre Post)
    {b : Addr} {cellB : Cell} (hcell : T.heap[b]? = some cellB) (hobj : cellB.vm.isStatics = false) (hcls : s.vm.findClass C = some cellB.cls)
    {g : JFrame} (hg : g.method = m) (hsize : g.locals.size = c.maxLocals) {argsL rest : List Value} (hlen : ∀ sig, parseMethodDescriptor y.desc = some sig → argsL.length = sig.parameters.length)
    (hstack : g.stack = argsL.reverse ++ .ref b :: rest) (hW : 2 * g.monitorRoom + (rest.map fun v => v.category).sum ≤ W9) (hdg : decode c.code g.pc = .ok (.invokevirtual index, 3))
    (hpre : ∀ vm₁, s.WarmedH vm₁ → Pre ⟨T.setVm vm₁, locs, cells, slots⟩ (Value.ref b :: argsL).toArray) :
    ∃ (v : Option Value) (vm₁ : Vm) (B : Pt), s.WarmedH vm₁ ∧ Stand p l e R s m args below meth c B.U B.locs B.cells B.slots ∧ Post ⟨T.setVm vm₁, locs, cells, slots⟩ (Value.ref b :: argsL).toArray v B ∧
      ∀ target, Steps p.tables e below (B.U.setTop { g with pc := g.pc + 3, stack := v.toList ++ rest }) target → Steps p.tables e below (T.setTop g) target := by
  obtain ⟨mk, methM, hnamed, hmethM, hstM, habM⟩ := Cond.instanceMethod_spec hinst
  obtain ⟨m8, methM', cM, hn8, hmethM', -, -, -, -, -, -, hsigM⟩ := Cond.codeWith_spec hcode
  cases Option.some.inj (hn8.symm.trans hnamed)
  cases hmethM.symm.trans hmethM'
  obtain ⟨c2, r2, m2, q1, q2, q3, q4, kP, hkP, hkPi⟩ := Cond.selects_spec hsel
  cases hcls.symm.trans q1
  cases (State.methodFound?_of_named hnamed hy).symm.trans q2
  cases hnamed.symm.trans q3
  have hselP : selectMethod e.platform s.vm cellB.cls mk = .method mk := by rw [Launch.admits_selectMethod X.admits]; exact q4
  obtain ⟨vm₁, X₁, hstep₁⟩ := X.invokevirtual hexec hown hlink hnamed hmethM hstM hkP hkPi hy (a := b) (cell := cellB) hcell
    (fun z h => by rw [h] at hobj; cases hobj) hselP hmethM habM hkP hkPi (g := g) hg (argsL := argsL) (rest := rest) (hlen _ hsigM) hstack hdg
  obtain ⟨v, B, X', hpost, hsteps⟩ := hK m meth c ⟨T.setVm vm₁, locs, cells, slots⟩ { g with stack := rest } (.invokevirtual index) mk (Value.ref b :: argsL).toArray X₁ hg hsize hdg hW (X₁.named hnamed) (hpre vm₁ X₁.warmed)
  exact ⟨v, vm₁, B, X₁.warmed, X', hpost, fun target h => hstep₁ _ fun acts => by rw [doInvoke_state]; exact hsteps.trans h⟩
abbrev vx_CVW (R : Room) (s : State) (args : Array Value) (own C : String) (index : Nat) (y : MethodName) (bytes : ByteArray) (maxL : Nat) (ret : Option FieldType) (hh : List (Nat × Nat × Nat × Nat)) (ws : List Cond) (rm : Room) (mc ms n : Nat) : Prop :=
  (rm.cells = mc ∧ rm.slots = ms ∧ rm.frames + 1 ≤ R.frames ∧ 8 + (maxL + 11) + rm.locals ≤ R.locals ∧ (∀ w ∈ ws, ∀ (a' : Array Value) (U : State), s.WarmedH U.vm → w.before a' U = true) ∧ Cond.codeWith y bytes maxL ret hh ∈ ws) ∧
  (Cond.codeWith y bytes maxL ret hh).before args s = true ∧ (Cond.initialized y.cls).before args s = true ∧ (y.cls ≠ "java/lang/invoke/MethodHandle" ∧ y.cls ≠ "java/lang/invoke/VarHandle") ∧
  (∀ sig, parseMethodDescriptor y.desc = some sig → n = sig.parameters.length) ∧ (Cond.methodLink own index y).before args s = true ∧ (Cond.instanceMethod y).before args s = true ∧ (Cond.selects C y y).before args s = true
theorem vx_cwVW {own C : String} {index maxL mc ms : Nat} {y : MethodName} {bytes : ByteArray} {ret : Option FieldType} {hh : List (Nat × Nat × Nat × Nat)} {Ts ws ws' : List Cond} {rm : Room} (n : Nat) (ht : ∀ w ∈ Ts, w.before args s = true) (hT : GoodIn Ts (wsV own index C y ws)) (hw : ws = Cond.codeWith y bytes maxL ret hh :: ws') (hrc : rm.cells = mc) (hrs : rm.slots = ms)
    (hd : y.cls = C ∧ y.cls ≠ "java/lang/invoke/MethodHandle" ∧ y.cls ≠ "java/lang/invoke/VarHandle" ∧ (parseMethodDescriptor y.desc).map (fun d => d.parameters.length) = some n) (hR : rm.frames + 1 ≤ R.frames ∧ 8 + (maxL + 11) + rm.locals ≤ R.locals) :
    vx_CVW R s args own C index y bytes maxL ret hh ws rm mc ms n := by
  obtain ⟨hC, hd⟩ := hd
  subst hC
  have ok : ∀ w ∈ wsV own index y.cls y ws, w.before args s = true := fun w h => ht w (hT w h).1
  have hG : GoodIn Ts ws := fun w h => hT w (by unfold wsV; exact List.mem_append_right _ h)
  have hc : Cond.codeWith y bytes maxL ret hh ∈ ws := by rw [hw]; exact List.mem_cons_self
  refine ⟨⟨hrc, hrs, hR.1, hR.2, pay_in ht hG, hc⟩, ht _ (hG _ hc).1, ok _ (by simp [wsV]), ⟨hd.1, hd.2.1⟩, fun sig h => ?_, ok _ (by simp [wsV]), ok _ (by simp [wsV]), ok _ (by simp [wsV])⟩
  have h2 := hd.2.2
  rw [h] at h2
  exact (Option.some.inj h2).symm
theorem vx_runVW {y : MethodName} {bytes cc : ByteArray} {maxL nL mc ms n index : Nat} {ret : Option FieldType} {hh : List (Nat × Nat × Nat × Nat)} {ws : List Cond} {rm : Room} {Pc : Array Value → State → Prop} {Qc : Array Value → State → Outcome → State → Prop} {free : Addr → Prop} {Ts : List Cond} {own C : String} {b : Addr} {As rest : List Value} {g : JFrame}
    (S : CallFix p m c cc nL s args Ts own) (hM : Met l y ws rm Pc Qc mc ms free) (cw : vx_CVW R s args own C index y bytes maxL ret hh ws rm mc ms n) (hp : PreV s H C b Pc As)
    (hg : g.method = m) (hn : As.length = n) (hsize : g.locals.size = nL) (hstack : g.stack = As.reverse ++ .ref b :: rest) (hW : 2 * g.monitorRoom + (rest.map fun v => v.category).sum ≤ 8) (hdg : decode cc g.pc = .ok (.invokevirtual index, 3)) (hf : cells + mc ≤ R.cells ∧ slots + ms ≤ R.slots) :
    va_Run p l e R s m args below meth c H locs cells slots mc ms g rest (Qc (Value.ref b :: As).toArray) free := by
  obtain ⟨⟨hrc, hrs, hfr, hlo, hws, hcw⟩, hcode, hini, hy, hlen, hl, hin, hse⟩ := cw
  have hK : Back l R p e below s args y 3 8 (PreOf R mc ms Pc) (PostOf Qc mc ms free) := va_backW (hh := hh) (bytes := bytes) (maxL := maxL) (ret := ret) hM hp.1 hrc hrs hfr hlo hws hcw (fun a' U hW => word_at hW (Or.inl (by first | rfl | simp [Cond.onTables, Cond.keeps, Cond.steady])) hini)
  obtain ⟨hx, hb, hml, ho, -⟩ := S
  obtain ⟨-, ⟨cellB, hcB, hoB, hclB⟩, hPc⟩ := hp
  intro T hT X
  obtain ⟨v, vm₁, ⟨U', l2, c2, s2⟩, hW₁, X', ⟨g', mk, t, L, e1, e2, hq, h1, hL, h2, h3⟩, st⟩ := vx_callVW X hx (C := C) (hh := hh) (bytes := bytes) (maxL := maxL) (ret := ret) ho hl hin hse hcode hy hK (by rw [hT]; exact hcB) hoB hclB hg (hsize.trans hml.symm) (argsL := As) (rest := rest) (fun sig h => hn.trans (hlen sig h)) hstack hW (by rw [hb]; exact hdg)
    (fun vm₁ hW₁ => ⟨hf.1, hf.2, hPc (T.setVm vm₁) hT hW₁⟩)
  dsimp only [Pt.U, Pt.locs, Pt.cells, Pt.slots] at X' e1 e2 h1 h2 h3 st
  subst h1; subst h2; subst h3
  exact ⟨v, (T.setVm vm₁).calling g' mk (Value.ref b :: As).toArray, t, U', L, hT, X', hL, e1, e2, hq, st⟩
section
variable {y : MethodName} {bytes cc : ByteArray} {maxL nL mc ms n index : Nat} {ret : Option FieldType} {ws : List Cond} {rm : Room} {Pc : Array Value → State → Prop} {Qc : Array Value → State → Outcome → State → Prop} {XC : String → State → State → Prop} {free : Addr → Prop} {Ts : List Cond} {own C : String} {b : Addr} {As rest : List Value} {g : JFrame}
theorem vx_runVX {hh : List (Nat × Nat × Nat × Nat)} (S : CallFix p m c cc nL s args Ts own) (hM : vx_Met l y ws rm Pc Qc XC mc ms free) (cw : vx_CVW R s args own C index y bytes maxL ret hh ws rm mc ms n) (hp : PreV s H C b Pc As)
    (hg : g.method = m) (hn : As.length = n) (hsize : g.locals.size = nL) (hstack : g.stack = As.reverse ++ .ref b :: rest) (hW : 2 * g.monitorRoom + (rest.map fun v => v.category).sum ≤ 8) (hdg : decode cc g.pc = .ok (.invokevirtual index, 3)) (hf : cells + mc ≤ R.cells ∧ slots + ms ≤ R.slots) :
    vx_Run p l e R s m args below meth c H locs cells slots mc ms g rest (Qc (Value.ref b :: As).toArray) XC free := by
  obtain ⟨⟨hrc, hrs, hfr, hlo, hws, hcw⟩, hcode, hini, hy, hlen, hl, hin, hse⟩ := cw
  have hK : vx_Back l R p e below s args y 3 8 (PreOf R mc ms Pc) (PostOf Qc mc ms free) (vx_Post XC mc ms free) := vx_backW (hh := hh) (bytes := bytes) (maxL := maxL) (ret := ret) hM hp.1 hrc hrs hfr hlo hws hcw (fun a' U hW => word_at hW (Or.inl (by first | rfl | simp [Cond.onTables, Cond.keeps, Cond.steady])) hini)
  obtain ⟨hx, hb, hml, ho, -⟩ := S
  obtain ⟨-, ⟨cellB, hcB, hoB, hclB⟩, hPc⟩ := hp
  intro T hT X
  rcases vx_callVX X hx (C := C) (hh := hh) (bytes := bytes) (maxL := maxL) (ret := ret) ho hl hin hse hcode hy hK (by rw [hT]; exact hcB) hoB hclB hg (hsize.trans hml.symm) (argsL := As) (rest := rest) (fun sig h => hn.trans (hlen sig h)) hstack hW (by rw [hb]; exact hdg)
    (fun vm₁ hW₁ => ⟨hf.1, hf.2, hPc (T.setVm vm₁) hT hW₁⟩) with ⟨v, vm₁, ⟨U', l2, c2, s2⟩, hW₁, X', ⟨g', mk, t, L, e1, e2, hq, h1, hL, h2, h3⟩, st⟩ | ⟨q, vm₁, ⟨U', l2, c2, s2⟩, hW₁, X', ⟨g', mk, t, L, E, ce, e1, e2, hq, hce, hcv, hcl, h1, hL, h2, h3⟩, st⟩
  · dsimp only [Pt.U, Pt.locs, Pt.cells, Pt.slots] at X' e1 e2 h1 h2 h3 st
    subst h1; subst h2; subst h3
    exact Or.inl ⟨v, (T.setVm vm₁).calling g' mk (Value.ref b :: As).toArray, t, U', L, hT, X', hL, e1, e2, hq, st⟩
  · dsimp only [Pt.U, Pt.locs, Pt.cells, Pt.slots] at X' e1 e2 h1 h2 h3 st hcl
    subst h1; subst h2; subst h3
    exact Or.inr ⟨q, (T.setVm vm₁).calling g' mk (Value.ref b :: As).toArray, t, U', L, E, ce, hT, X', hL, e1, e2, hq, hce, hcv, vx_cls hW₁ hcl, st⟩
theorem vx_runSX {hh : List (Nat × Nat × Nat × Nat)} (S : CallFix p m c cc nL s args Ts own) (hM : vx_Met l y ws rm Pc Qc XC mc ms free) (cw : vx_CSW R s args own index y bytes maxL ret hh ws rm mc ms n) (hp : PreS s H Pc As)
    (hg : g.method = m) (hn : As.length = n) (hsize : g.locals.size = nL) (hstack : g.stack = As.reverse ++ rest) (hW : 2 * g.monitorRoom + (rest.map fun v => v.category).sum ≤ 8) (hdg : decode cc g.pc = .ok (.invokestatic index, 3)) (hf : cells + mc ≤ R.cells ∧ slots + ms ≤ R.slots) :
    vx_Run p l e R s m args below meth c H locs cells slots mc ms g rest (Qc As.toArray) XC free := by
  obtain ⟨⟨hrc, hrs, hfr, hlo, hws, hcw⟩, hcode, hini, hy, hlen, hl, hstt⟩ := cw
  have hK : vx_Back l R p e below s args y 3 8 (PreOf R mc ms Pc) (PostOf Qc mc ms free) (vx_Post XC mc ms free) := vx_backW (hh := hh) (bytes := bytes) (maxL := maxL) (ret := ret) hM hp.1 hrc hrs hfr hlo hws hcw (fun a' U hW => word_at hW (Or.inl (by first | rfl | simp [Cond.onTables, Cond.keeps, Cond.steady])) hini)
  obtain ⟨hx, hb, hml, ho, -⟩ := S
  intro T hT X
  rcases vx_callSX X hx (hh := hh) (bytes := bytes) (maxL := maxL) (ret := ret) ho hl hstt hini hcode hy hK hg (hsize.trans hml.symm) (argsL := As) (rest := rest) (fun sig h => hn.trans (hlen sig h)) hstack hW (by rw [hb]; exact hdg)
    (fun vm₁ hW₁ => ⟨hf.1, hf.2, hp.2 (T.setVm vm₁) hT hW₁⟩) with ⟨v, vm₁, ⟨U', l2, c2, s2⟩, hW₁, X', ⟨g', mk, t, L, e1, e2, hq, h1, hL, h2, h3⟩, st⟩ | ⟨q, vm₁, ⟨U', l2, c2, s2⟩, hW₁, X', ⟨g', mk, t, L, E, ce, e1, e2, hq, hce, hcv, hcl, h1, hL, h2, h3⟩, st⟩
  · dsimp only [Pt.U, Pt.locs, Pt.cells, Pt.slots] at X' e1 e2 h1 h2 h3 st
    subst h1; subst h2; subst h3
    exact Or.inl ⟨v, (T.setVm vm₁).calling g' mk As.toArray, t, U', L, hT, X', hL, e1, e2, hq, st⟩
  · dsimp only [Pt.U, Pt.locs, Pt.cells, Pt.slots] at X' e1 e2 h1 h2 h3 st hcl
    subst h1; subst h2; subst h3
    exact Or.inr ⟨q, (T.setVm vm₁).calling g' mk As.toArray, t, U', L, E, ce, hT, X', hL, e1, e2, hq, hce, hcv, vx_cls hW₁ hcl, st⟩
end
end VXH
theorem vx_ofWH {l : Launch} {y : MethodName} {ws ws' : List Cond} {rm : Room} {Pc : Array Value → State → Prop} {Qc : Array Value → State → Outcome → State → Prop} {XC : String → State → State → Prop} {mc ms : Nat} {free : Addr → Prop} {cc : ByteArray} {maxL : Nat} {ret : Option FieldType} {hh : List (Nat × Nat × Nat × Nat)}
    (hy : plainName y.cls = true) (hw : ws = Cond.codeWith y cc maxL ret hh :: ws')
    (body : ∀ p e s m args below meth c s₁, BodyLoose p l y (headSpec ws rm) cc maxL ret e s m args below meth c s₁ → c.maxLocals = maxL → Pc args s →
      W p l e (headSpec ws rm).room s m args below meth c s.heap [] 0 0 (vx_MQ below Qc XC args s mc ms free) (entryFrame m args maxL)) : vx_Met l y ws rm Pc Qc XC mc ms free := by
  refine MetFree.of_bodyS (code := cc) (maxLocals := maxL) (ret := ret) hy ?_ ?_
  · intro args s m h hn
    obtain ⟨m9, meth, c, hn9, h1, h2, h3, h4, -, h5, h6, -⟩ := Cond.codeWith_spec (atoms_spec (ws := ws) h _ (by rw [hw]; exact List.mem_cons_self))
    cases hn.symm.trans hn9
    exact ⟨meth, c, h1, h2, h3, h4, h5, h6⟩
  · intro p e s m args below meth c s₁ B hml hP _
    have hh0 : s₁.heap = s.heap := by rw [B.state]; rfl
    obtain ⟨t, a1, o, b1, b2, b3⟩ := body p e s m args below meth c s₁ B hml hP s₁ hh0 (Stand.of_body B)
    exact ⟨t, o, a1, b1, b2, b3⟩
/-! ===== END ===== -/

def RX0 : String := "TillTheBell$Draws"
def TX0 : u_T := fun k => match k with
  | _ => ("TillTheBell$Draws", "x", "I", false)
def tyX0 : Nat → FieldType := fun k => match k with
  | _ => .int
abbrev wsX00 : List Cond := u_ws RX0 TX0 1
theorem nmX0 : ∀ a, a < 1 → ∀ b, b < 1 → a ≠ b → (TX0 a).2.1 ≠ (TX0 b).2.1 := by decide +kernel
theorem tyX0_ok : ∀ k, k < 1 → parseFieldDescriptor (TX0 k).2.2.1 = some (tyX0 k) := by decide +kernel
abbrev cX0_init : ByteArray := prog_2_method_1_code
def yX0_init : MethodName := ⟨RX0, "<init>", "(I)V"⟩
abbrev cX0_draw : ByteArray := prog_2_method_2_code
def yX0_draw : MethodName := ⟨RX0, "draw", "(I)I"⟩
abbrev cX0_spend : ByteArray := prog_2_method_3_code
def yX0_spend : MethodName := ⟨RX0, "spend", "(LTillTheBell$Town;I)I"⟩
abbrev cX0_deals : ByteArray := prog_2_method_4_code
def yX0_deals : MethodName := ⟨RX0, "deals", "(LTillTheBell$Town;)Z"⟩
abbrev cX0_undoes : ByteArray := prog_2_method_5_code
def yX0_undoes : MethodName := ⟨RX0, "undoes", "(LTillTheBell$Town;)Z"⟩
def RX1 : String := "TillTheBell$Ending"
def TX1 : u_T := fun k => match k with
  | 0 => ("TillTheBell$Ending", "left", "I", false)
  | 1 => ("TillTheBell$Ending", "people", "I", false)
  | 2 => ("TillTheBell$Ending", "first", "I", false)
  | 3 => ("TillTheBell$Ending", "turns", "I", false)
  | 4 => ("TillTheBell$Ending", "many", "I", false)
  | 5 => ("TillTheBell$Ending", "deedAt", "[I", true)
  | 6 => ("TillTheBell$Ending", "withIt", "[I", true)
  | 7 => ("TillTheBell$Ending", "mine", "[I", true)
  | 8 => ("TillTheBell$Ending", "mineMany", "[I", true)
  | 9 => ("TillTheBell$Ending", "undoerParts", "[I", true)
  | 10 => ("TillTheBell$Ending", "otherParts", "[I", true)
  | 11 => ("TillTheBell$Ending", "ahead", "[I", true)
  | 12 => ("TillTheBell$Ending", "reached", "[I", true)
  | 13 => ("TillTheBell$Ending", "choices", "[J", true)
  | _ => ("TillTheBell$Ending", "undone", "[I", true)
def tyX1 : Nat → FieldType := fun k => match k with
  | 0 => .int
  | 1 => .int
  | 2 => .int
  | 3 => .int
  | 4 => .int
  | 5 => .array .int
  | 6 => .array .int
  | 7 => .array .int
  | 8 => .array .int
  | 9 => .array .int
  | 10 => .array .int
  | 11 => .array .int
  | 12 => .array .int
  | 13 => .array .long
  | _ => .array .int
abbrev wsX10 : List Cond := u_ws RX1 TX1 15
theorem nmX1 : ∀ a, a < 15 → ∀ b, b < 15 → a ≠ b → (TX1 a).2.1 ≠ (TX1 b).2.1 := by decide +kernel
theorem tyX1_ok : ∀ k, k < 15 → parseFieldDescriptor (TX1 k).2.2.1 = some (tyX1 k) := by decide +kernel
abbrev cX1_init : ByteArray := prog_3_method_1_code
def yX1_init : MethodName := ⟨RX1, "<init>", "()V"⟩
abbrev cX1_lay : ByteArray := prog_3_method_2_code
def yX1_lay : MethodName := ⟨RX1, "lay", "(LTillTheBell$Town;II)Z"⟩
abbrev cX1_layDeed : ByteArray := prog_3_method_3_code
def yX1_layDeed : MethodName := ⟨RX1, "layDeed", "(LTillTheBell$Town;I)V"⟩
abbrev cX1_layFor : ByteArray := prog_3_method_4_code
def yX1_layFor : MethodName := ⟨RX1, "layFor", "(I)V"⟩
abbrev cX1_whole : ByteArray := prog_3_method_5_code
def yX1_whole : MethodName := ⟨RX1, "whole", "()I"⟩
abbrev cX1_personIn : ByteArray := prog_3_method_6_code
def yX1_personIn : MethodName := ⟨RX1, "personIn", "(I)I"⟩
abbrev cX1_reach : ByteArray := prog_3_method_7_code
def yX1_reach : MethodName := ⟨RX1, "reach", "()V"⟩
abbrev cX1_reachFrom : ByteArray := prog_3_method_8_code
def yX1_reachFrom : MethodName := ⟨RX1, "reachFrom", "(III)V"⟩
abbrev cX1_play : ByteArray := prog_3_method_9_code
def yX1_play : MethodName := ⟨RX1, "play", "(LTillTheBell$Town;)V"⟩
abbrev cX1_forget : ByteArray := prog_3_method_10_code
def yX1_forget : MethodName := ⟨RX1, "forget", "(I)V"⟩
abbrev cX1_weigh : ByteArray := prog_3_method_11_code
def yX1_weigh : MethodName := ⟨RX1, "weigh", "(LTillTheBell$Town;)V"⟩
abbrev cX1_choose : ByteArray := prog_3_method_12_code
def yX1_choose : MethodName := ⟨RX1, "choose", "(III)V"⟩
abbrev cX1_settle : ByteArray := prog_3_method_13_code
def yX1_settle : MethodName := ⟨RX1, "settle", "(III)V"⟩
abbrev cX1_sumOf : ByteArray := prog_3_method_14_code
def yX1_sumOf : MethodName := ⟨RX1, "sumOf", "([IIII)I"⟩
abbrev cX1_walk : ByteArray := prog_3_method_15_code
def yX1_walk : MethodName := ⟨RX1, "walk", "(LTillTheBell$Town;)V"⟩
abbrev cX1_change : ByteArray := prog_3_method_16_code
def yX1_change : MethodName := ⟨RX1, "change", "(I)I"⟩
abbrev cX1_undoneIn : ByteArray := prog_3_method_17_code
def yX1_undoneIn : MethodName := ⟨RX1, "undoneIn", "(I)I"⟩
abbrev cX1_undoings : ByteArray := prog_3_method_18_code
def yX1_undoings : MethodName := ⟨RX1, "undoings", "()I"⟩
def RX2 : String := "TillTheBell$Reader"
def TX2 : u_T := fun k => match k with
  | 0 => ("TillTheBell$Reader", "length", "I", false)
  | 1 => ("TillTheBell$Reader", "wrong", "I", false)
  | 2 => ("TillTheBell$Reader", "place", "I", false)
  | 3 => ("TillTheBell$Reader", "tape", "[B", true)
  | 4 => ("TillTheBell$Reader", "limit", "I", false)
  | 5 => ("TillTheBell$Reader", "sort", "I", false)
  | 6 => ("TillTheBell$Reader", "start", "I", false)
  | 7 => ("TillTheBell$Reader", "after", "I", false)
  | 8 => ("TillTheBell$Reader", "value", "I", false)
  | _ => ("TillTheBell$Reader", "taken", "I", false)
def tyX2 : Nat → FieldType := fun k => match k with
  | 0 => .int
  | 1 => .int
  | 2 => .int
  | 3 => .array .byte
  | 4 => .int
  | 5 => .int
  | 6 => .int
  | 7 => .int
  | 8 => .int
  | _ => .int
abbrev wsX20 : List Cond := u_ws RX2 TX2 10
theorem nmX2 : ∀ a, a < 10 → ∀ b, b < 10 → a ≠ b → (TX2 a).2.1 ≠ (TX2 b).2.1 := by decide +kernel
theorem tyX2_ok : ∀ k, k < 10 → parseFieldDescriptor (TX2 k).2.2.1 = some (tyX2 k) := by decide +kernel
abbrev cX2_init : ByteArray := prog_4_method_1_code
def yX2_init : MethodName := ⟨RX2, "<init>", "()V"⟩
abbrev cX2_add : ByteArray := prog_4_method_2_code
def yX2_add : MethodName := ⟨RX2, "add", "(I)V"⟩
abbrev cX2_read : ByteArray := prog_4_method_3_code
def yX2_read : MethodName := ⟨RX2, "read", "(ILTillTheBell$Town;)Z"⟩
abbrev cX2_kindOfLine : ByteArray := prog_4_method_4_code
def yX2_kindOfLine : MethodName := ⟨RX2, "kindOfLine", "()I"⟩
abbrev cX2_begins : ByteArray := prog_4_method_5_code
def yX2_begins : MethodName := ⟨RX2, "begins", "(ILTillTheBell$Town;)Z"⟩
abbrev cX2_closes : ByteArray := prog_4_method_6_code
def yX2_closes : MethodName := ⟨RX2, "closes", "()Z"⟩
abbrev cX2_readNumbers : ByteArray := prog_4_method_7_code
def yX2_readNumbers : MethodName := ⟨RX2, "readNumbers", "(ILTillTheBell$Town;)Z"⟩
abbrev cX2_readPeople : ByteArray := prog_4_method_8_code
def yX2_readPeople : MethodName := ⟨RX2, "readPeople", "(LTillTheBell$Town;)Z"⟩
abbrev cX2_readCoins : ByteArray := prog_4_method_9_code
def yX2_readCoins : MethodName := ⟨RX2, "readCoins", "(LTillTheBell$Town;)Z"⟩
abbrev cX2_readThing : ByteArray := prog_4_method_10_code
def yX2_readThing : MethodName := ⟨RX2, "readThing", "(LTillTheBell$Town;)Z"⟩
abbrev cX2_readWorth : ByteArray := prog_4_method_11_code
def yX2_readWorth : MethodName := ⟨RX2, "readWorth", "(LTillTheBell$Town;)Z"⟩
abbrev cX2_readShare : ByteArray := prog_4_method_12_code
def yX2_readShare : MethodName := ⟨RX2, "readShare", "(LTillTheBell$Town;)Z"⟩
abbrev cX2_readBell : ByteArray := prog_4_method_13_code
def yX2_readBell : MethodName := ⟨RX2, "readBell", "(LTillTheBell$Town;)Z"⟩
abbrev cX2_readEaten : ByteArray := prog_4_method_14_code
def yX2_readEaten : MethodName := ⟨RX2, "readEaten", "(LTillTheBell$Town;)Z"⟩
abbrev cX2_takes : ByteArray := prog_4_method_15_code
def yX2_takes : MethodName := ⟨RX2, "takes", "(II)Z"⟩
abbrev cX2_fails : ByteArray := prog_4_method_16_code
def yX2_fails : MethodName := ⟨RX2, "fails", "(I)Z"⟩
abbrev cX2_isWord : ByteArray := prog_4_method_17_code
def yX2_isWord : MethodName := ⟨RX2, "isWord", "(Ljava/lang/String;)Z"⟩
abbrev cX2_next : ByteArray := prog_4_method_18_code
def yX2_next : MethodName := ⟨RX2, "next", "()V"⟩
abbrev cX2_takeRun : ByteArray := prog_4_method_19_code
def yX2_takeRun : MethodName := ⟨RX2, "takeRun", "(II)Z"⟩
abbrev cX2_valueOfRun : ByteArray := prog_4_method_20_code
def yX2_valueOfRun : MethodName := ⟨RX2, "valueOfRun", "()I"⟩
def RX3 : String := "TillTheBell$Town"
def TX3 : u_T := fun k => match k with
  | 0 => ("TillTheBell$Town", "lines", "I", false)
  | 1 => ("TillTheBell$Town", "people", "I", false)
  | 2 => ("TillTheBell$Town", "things", "I", false)
  | 3 => ("TillTheBell$Town", "eaten", "I", false)
  | 4 => ("TillTheBell$Town", "share", "I", false)
  | 5 => ("TillTheBell$Town", "bell", "I", false)
  | 6 => ("TillTheBell$Town", "minute", "I", false)
  | 7 => ("TillTheBell$Town", "deeds", "I", false)
  | 8 => ("TillTheBell$Town", "standing", "I", false)
  | 9 => ("TillTheBell$Town", "coins", "[I", true)
  | 10 => ("TillTheBell$Town", "holders", "[I", true)
  | 11 => ("TillTheBell$Town", "worths", "[I", true)
  | 12 => ("TillTheBell$Town", "thingOf", "[I", true)
  | 13 => ("TillTheBell$Town", "giverOf", "[I", true)
  | 14 => ("TillTheBell$Town", "takerOf", "[I", true)
  | 15 => ("TillTheBell$Town", "priceOf", "[I", true)
  | _ => ("TillTheBell$Town", "minuteOf", "[I", true)
def tyX3 : Nat → FieldType := fun k => match k with
  | 0 => .int
  | 1 => .int
  | 2 => .int
  | 3 => .int
  | 4 => .int
  | 5 => .int
  | 6 => .int
  | 7 => .int
  | 8 => .int
  | 9 => .array .int
  | 10 => .array .int
  | 11 => .array .int
  | 12 => .array .int
  | 13 => .array .int
  | 14 => .array .int
  | 15 => .array .int
  | _ => .array .int
abbrev wsX30 : List Cond := u_ws RX3 TX3 17
theorem nmX3 : ∀ a, a < 17 → ∀ b, b < 17 → a ≠ b → (TX3 a).2.1 ≠ (TX3 b).2.1 := by decide +kernel
theorem tyX3_ok : ∀ k, k < 17 → parseFieldDescriptor (TX3 k).2.2.1 = some (tyX3 k) := by decide +kernel
abbrev cX3_init : ByteArray := prog_5_method_1_code
def yX3_init : MethodName := ⟨RX3, "<init>", "()V"⟩
abbrev cX3_clear : ByteArray := prog_5_method_2_code
def yX3_clear : MethodName := ⟨RX3, "clear", "()V"⟩
abbrev cX3_copyFrom : ByteArray := prog_5_method_3_code
def yX3_copyFrom : MethodName := ⟨RX3, "copyFrom", "(LTillTheBell$Town;)V"⟩
abbrev cX3_hasPerson : ByteArray := prog_5_method_4_code
def yX3_hasPerson : MethodName := ⟨RX3, "hasPerson", "(I)Z"⟩
abbrev cX3_hasThing : ByteArray := prog_5_method_5_code
def yX3_hasThing : MethodName := ⟨RX3, "hasThing", "(I)Z"⟩
abbrev cX3_hasDeed : ByteArray := prog_5_method_6_code
def yX3_hasDeed : MethodName := ⟨RX3, "hasDeed", "(I)Z"⟩
abbrev cX3_hasRung : ByteArray := prog_5_method_7_code
def yX3_hasRung : MethodName := ⟨RX3, "hasRung", "()Z"⟩
abbrev cX3_isEaten : ByteArray := prog_5_method_8_code
def yX3_isEaten : MethodName := ⟨RX3, "isEaten", "(I)Z"⟩
abbrev cX3_stands : ByteArray := prog_5_method_9_code
def yX3_stands : MethodName := ⟨RX3, "stands", "(I)Z"⟩
abbrev cX3_isOpen : ByteArray := prog_5_method_10_code
def yX3_isOpen : MethodName := ⟨RX3, "isOpen", "(I)Z"⟩
abbrev cX3_isOf : ByteArray := prog_5_method_11_code
def yX3_isOf : MethodName := ⟨RX3, "isOf", "(II)Z"⟩
abbrev cX3_sideOf : ByteArray := prog_5_method_12_code
def yX3_sideOf : MethodName := ⟨RX3, "sideOf", "(II)I"⟩
abbrev cX3_openBits : ByteArray := prog_5_method_13_code
def yX3_openBits : MethodName := ⟨RX3, "openBits", "()I"⟩
abbrev cX3_worthTo : ByteArray := prog_5_method_14_code
def yX3_worthTo : MethodName := ⟨RX3, "worthTo", "(II)I"⟩
abbrev cX3_setWorth : ByteArray := prog_5_method_15_code
def yX3_setWorth : MethodName := ⟨RX3, "setWorth", "(III)V"⟩
abbrev cX3_held : ByteArray := prog_5_method_16_code
def yX3_held : MethodName := ⟨RX3, "held", "(I)I"⟩
abbrev cX3_wealth : ByteArray := prog_5_method_17_code
def yX3_wealth : MethodName := ⟨RX3, "wealth", "(I)I"⟩
abbrev cX3_coinsOfAll : ByteArray := prog_5_method_18_code
def yX3_coinsOfAll : MethodName := ⟨RX3, "coinsOfAll", "()I"⟩
abbrev cX3_wealthOfAll : ByteArray := prog_5_method_19_code
def yX3_wealthOfAll : MethodName := ⟨RX3, "wealthOfAll", "()I"⟩
abbrev cX3_worthToGiver : ByteArray := prog_5_method_20_code
def yX3_worthToGiver : MethodName := ⟨RX3, "worthToGiver", "(I)I"⟩
abbrev cX3_worthToTaker : ByteArray := prog_5_method_21_code
def yX3_worthToTaker : MethodName := ⟨RX3, "worthToTaker", "(I)I"⟩
abbrev cX3_cut : ByteArray := prog_5_method_22_code
def yX3_cut : MethodName := ⟨RX3, "cut", "(I)I"⟩
abbrev cX3_whyNoDeed : ByteArray := prog_5_method_23_code
def yX3_whyNoDeed : MethodName := ⟨RX3, "whyNoDeed", "(III)I"⟩
abbrev cX3_make : ByteArray := prog_5_method_24_code
def yX3_make : MethodName := ⟨RX3, "make", "(III)I"⟩
abbrev cX3_whyNoUndoing : ByteArray := prog_5_method_25_code
def yX3_whyNoUndoing : MethodName := ⟨RX3, "whyNoUndoing", "(II)I"⟩
abbrev cX3_fell : ByteArray := prog_5_method_26_code
def yX3_fell : MethodName := ⟨RX3, "fell", "(II)I"⟩
abbrev cX3_fallsWith : ByteArray := prog_5_method_27_code
def yX3_fallsWith : MethodName := ⟨RX3, "fallsWith", "(II)Z"⟩
abbrev cX3_fallBits : ByteArray := prog_5_method_28_code
def yX3_fallBits : MethodName := ⟨RX3, "fallBits", "(I)I"⟩
abbrev cX3_priceChange : ByteArray := prog_5_method_29_code
def yX3_priceChange : MethodName := ⟨RX3, "priceChange", "(II)I"⟩
abbrev cX3_owedTo : ByteArray := prog_5_method_30_code
def yX3_owedTo : MethodName := ⟨RX3, "owedTo", "(III)I"⟩
abbrev cX3_owedToAll : ByteArray := prog_5_method_31_code
def yX3_owedToAll : MethodName := ⟨RX3, "owedToAll", "(II)I"⟩
abbrev cX3_partOfUndoer : ByteArray := prog_5_method_32_code
def yX3_partOfUndoer : MethodName := ⟨RX3, "partOfUndoer", "(II)I"⟩
abbrev cX3_partOfOther : ByteArray := prog_5_method_33_code
def yX3_partOfOther : MethodName := ⟨RX3, "partOfOther", "(II)I"⟩
abbrev cX3_gainOf : ByteArray := prog_5_method_34_code
def yX3_gainOf : MethodName := ⟨RX3, "gainOf", "(II)I"⟩
abbrev cX3_topGain : ByteArray := prog_5_method_35_code
def yX3_topGain : MethodName := ⟨RX3, "topGain", "(I)I"⟩
abbrev cX3_bestUndoing : ByteArray := prog_5_method_36_code
def yX3_bestUndoing : MethodName := ⟨RX3, "bestUndoing", "()I"⟩
abbrev cX3_wouldBeSafe : ByteArray := prog_5_method_37_code
def yX3_wouldBeSafe : MethodName := ⟨RX3, "wouldBeSafe", "(III)Z"⟩
abbrev cX3_chainLength : ByteArray := prog_5_method_38_code
def yX3_chainLength : MethodName := ⟨RX3, "chainLength", "(I)I"⟩
abbrev cX3_wants : ByteArray := prog_5_method_39_code
def yX3_wants : MethodName := ⟨RX3, "wants", "(II)Z"⟩
abbrev cX3_isRing : ByteArray := prog_5_method_40_code
def yX3_isRing : MethodName := ⟨RX3, "isRing", "(III)Z"⟩
def RX4 : String := "TillTheBell$Tray"
def TX4 : u_T := fun k => match k with
  | 0 => ("TillTheBell$Tray", "missing", "Z", false)
  | 1 => ("TillTheBell$Tray", "many", "I", false)
  | 2 => ("TillTheBell$Tray", "row", "[J", true)
  | _ => ("TillTheBell$Tray", "sort", "I", false)
def tyX4 : Nat → FieldType := fun k => match k with
  | 0 => .boolean
  | 1 => .int
  | 2 => .array .long
  | _ => .int
abbrev wsX40 : List Cond := u_ws RX4 TX4 4
theorem nmX4 : ∀ a, a < 4 → ∀ b, b < 4 → a ≠ b → (TX4 a).2.1 ≠ (TX4 b).2.1 := by decide +kernel
theorem tyX4_ok : ∀ k, k < 4 → parseFieldDescriptor (TX4 k).2.2.1 = some (tyX4 k) := by decide +kernel
abbrev cX4_init : ByteArray := prog_6_method_1_code
def yX4_init : MethodName := ⟨RX4, "<init>", "()V"⟩
abbrev cX4_lay : ByteArray := prog_6_method_2_code
def yX4_lay : MethodName := ⟨RX4, "lay", "(II)V"⟩
abbrev cX4_put : ByteArray := prog_6_method_3_code
def yX4_put : MethodName := ⟨RX4, "put", "(IJ)V"⟩
abbrev cX4_cutToSort : ByteArray := prog_6_method_4_code
def yX4_cutToSort : MethodName := ⟨RX4, "cutToSort", "(J)J"⟩
abbrev cX4_isOffers : ByteArray := prog_6_method_5_code
def yX4_isOffers : MethodName := ⟨RX4, "isOffers", "()Z"⟩
abbrev cX4_hopeIn : ByteArray := prog_6_method_6_code
def yX4_hopeIn : MethodName := ⟨RX4, "hopeIn", "(JII)I"⟩
abbrev cX4_hopeAhead : ByteArray := prog_6_method_7_code
def yX4_hopeAhead : MethodName := ⟨RX4, "hopeAhead", "(JJJ)J"⟩
abbrev cX4_leastTaken : ByteArray := prog_6_method_8_code
def yX4_leastTaken : MethodName := ⟨RX4, "leastTaken", "(JJJ)I"⟩
def RX5 : String := "TillTheBell"
def TX5 : u_T := fun k => match k with
  | 0 => ("TillTheBell", "now", "LTillTheBell$Town;", true)
  | 1 => ("TillTheBell", "trial", "LTillTheBell$Town;", true)
  | 2 => ("TillTheBell", "images", "[LTillTheBell$Town;", true)
  | 3 => ("TillTheBell", "imaged", "[Z", true)
  | 4 => ("TillTheBell", "trays", "[LTillTheBell$Tray;", true)
  | 5 => ("TillTheBell", "reader", "LTillTheBell$Reader;", true)
  | _ => ("TillTheBell", "ending", "LTillTheBell$Ending;", true)
def tyX5 : Nat → FieldType := fun k => match k with
  | 0 => .object "TillTheBell$Town"
  | 1 => .object "TillTheBell$Town"
  | 2 => .array (.object "TillTheBell$Town")
  | 3 => .array .boolean
  | 4 => .array (.object "TillTheBell$Tray")
  | 5 => .object "TillTheBell$Reader"
  | _ => .object "TillTheBell$Ending"
abbrev wsX50 : List Cond := u_ws RX5 TX5 7
theorem nmX5 : ∀ a, a < 7 → ∀ b, b < 7 → a ≠ b → (TX5 a).2.1 ≠ (TX5 b).2.1 := by decide +kernel
theorem tyX5_ok : ∀ k, k < 7 → parseFieldDescriptor (TX5 k).2.2.1 = some (tyX5 k) := by decide +kernel
abbrev cX5_init : ByteArray := prog_1_method_1_code
def yX5_init : MethodName := ⟨RX5, "<init>", "()V"⟩
abbrev cX5_feed : ByteArray := prog_1_method_2_code
def yX5_feed : MethodName := ⟨RX5, "feed", "(IIIII)I"⟩
abbrev cX5_town : ByteArray := prog_1_method_3_code
def yX5_town : MethodName := ⟨RX5, "town", "(I)I"⟩
abbrev cX5_fault : ByteArray := prog_1_method_4_code
def yX5_fault : MethodName := ⟨RX5, "fault", "(I)I"⟩
abbrev cX5_person : ByteArray := prog_1_method_5_code
def yX5_person : MethodName := ⟨RX5, "person", "(II)I"⟩
abbrev cX5_worth : ByteArray := prog_1_method_6_code
def yX5_worth : MethodName := ⟨RX5, "worth", "(II)I"⟩
abbrev cX5_holder : ByteArray := prog_1_method_7_code
def yX5_holder : MethodName := ⟨RX5, "holder", "(I)I"⟩
abbrev cX5_eat : ByteArray := prog_1_method_8_code
def yX5_eat : MethodName := ⟨RX5, "eat", "(I)Z"⟩
abbrev cX5_pass : ByteArray := prog_1_method_9_code
def yX5_pass : MethodName := ⟨RX5, "pass", "(I)I"⟩
abbrev cX5_morning : ByteArray := prog_1_method_10_code
def yX5_morning : MethodName := ⟨RX5, "morning", "()I"⟩
abbrev cX5_sell : ByteArray := prog_1_method_11_code
def yX5_sell : MethodName := ⟨RX5, "sell", "(III)I"⟩
abbrev cX5_deed : ByteArray := prog_1_method_12_code
def yX5_deed : MethodName := ⟨RX5, "deed", "(II)I"⟩
abbrev cX5_may : ByteArray := prog_1_method_13_code
def yX5_may : MethodName := ⟨RX5, "may", "(II)I"⟩
abbrev cX5_undo : ByteArray := prog_1_method_14_code
def yX5_undo : MethodName := ⟨RX5, "undo", "(II)I"⟩
abbrev cX5_falls : ByteArray := prog_1_method_15_code
def yX5_falls : MethodName := ⟨RX5, "falls", "(I)I"⟩
abbrev cX5_owes : ByteArray := prog_1_method_16_code
def yX5_owes : MethodName := ⟨RX5, "owes", "(III)I"⟩
abbrev cX5_chain : ByteArray := prog_1_method_17_code
def yX5_chain : MethodName := ⟨RX5, "chain", "(II)I"⟩
abbrev cX5_judge : ByteArray := prog_1_method_18_code
def yX5_judge : MethodName := ⟨RX5, "judge", "(II)I"⟩
abbrev cX5_perform : ByteArray := prog_1_method_19_code
def yX5_perform : MethodName := ⟨RX5, "perform", "(I)I"⟩
abbrev cX5_day : ByteArray := prog_1_method_20_code
def yX5_day : MethodName := ⟨RX5, "day", "(II)I"⟩
abbrev cX5_open : ByteArray := prog_1_method_21_code
def yX5_open : MethodName := ⟨RX5, "open", "()I"⟩
abbrev cX5_gain : ByteArray := prog_1_method_22_code
def yX5_gain : MethodName := ⟨RX5, "gain", "(II)I"⟩
abbrev cX5_safe : ByteArray := prog_1_method_23_code
def yX5_safe : MethodName := ⟨RX5, "safe", "()I"⟩
abbrev cX5_pledge : ByteArray := prog_1_method_24_code
def yX5_pledge : MethodName := ⟨RX5, "pledge", "(I)I"⟩
abbrev cX5_tempted : ByteArray := prog_1_method_25_code
def yX5_tempted : MethodName := ⟨RX5, "tempted", "()I"⟩
abbrev cX5_unravel : ByteArray := prog_1_method_26_code
def yX5_unravel : MethodName := ⟨RX5, "unravel", "()I"⟩
abbrev cX5_debt : ByteArray := prog_1_method_27_code
def yX5_debt : MethodName := ⟨RX5, "debt", "(II)I"⟩
abbrev cX5_safePrice : ByteArray := prog_1_method_28_code
def yX5_safePrice : MethodName := ⟨RX5, "safePrice", "(III)I"⟩
abbrev cX5_longest : ByteArray := prog_1_method_29_code
def yX5_longest : MethodName := ⟨RX5, "longest", "()I"⟩
abbrev cX5_bidder : ByteArray := prog_1_method_30_code
def yX5_bidder : MethodName := ⟨RX5, "bidder", "(I)I"⟩
abbrev cX5_keeper : ByteArray := prog_1_method_31_code
def yX5_keeper : MethodName := ⟨RX5, "keeper", "(II)I"⟩
abbrev cX5_endFrom : ByteArray := prog_1_method_32_code
def yX5_endFrom : MethodName := ⟨RX5, "endFrom", "(I)I"⟩
abbrev cX5_end : ByteArray := prog_1_method_33_code
def yX5_end : MethodName := ⟨RX5, "end", "(II)I"⟩
abbrev cX5_ringer : ByteArray := prog_1_method_34_code
def yX5_ringer : MethodName := ⟨RX5, "ringer", "(I)I"⟩
abbrev cX5_news : ByteArray := prog_1_method_35_code
def yX5_news : MethodName := ⟨RX5, "news", "(III)I"⟩
abbrev cX5_bestShare : ByteArray := prog_1_method_36_code
def yX5_bestShare : MethodName := ⟨RX5, "bestShare", "()I"⟩
abbrev cX5_share : ByteArray := prog_1_method_37_code
def yX5_share : MethodName := ⟨RX5, "share", "(I)I"⟩
abbrev cX5_hope : ByteArray := prog_1_method_38_code
def yX5_hope : MethodName := ⟨RX5, "hope", "(IIII)I"⟩
abbrev cX5_swaps : ByteArray := prog_1_method_39_code
def yX5_swaps : MethodName := ⟨RX5, "swaps", "(I)I"⟩
abbrev cX5_threes : ByteArray := prog_1_method_40_code
def yX5_threes : MethodName := ⟨RX5, "threes", "(I)I"⟩
abbrev cX5_misplaced : ByteArray := prog_1_method_41_code
def yX5_misplaced : MethodName := ⟨RX5, "misplaced", "()I"⟩
abbrev cX5_tray : ByteArray := prog_1_method_42_code
def yX5_tray : MethodName := ⟨RX5, "tray", "(III)V"⟩
abbrev cX5_write : ByteArray := prog_1_method_43_code
def yX5_write : MethodName := ⟨RX5, "write", "(IIJ)J"⟩
abbrev cX5_pour : ByteArray := prog_1_method_44_code
def yX5_pour : MethodName := ⟨RX5, "pour", "(I)I"⟩
abbrev cX5_image : ByteArray := prog_1_method_45_code
def yX5_image : MethodName := ⟨RX5, "image", "(I)V"⟩
abbrev cX5_restore : ByteArray := prog_1_method_46_code
def yX5_restore : MethodName := ⟨RX5, "restore", "(I)V"⟩
abbrev cX5_count : ByteArray := prog_1_method_47_code
def yX5_count : MethodName := ⟨RX5, "count", "(I)I"⟩
abbrev cX5_needPerson : ByteArray := prog_1_method_48_code
def yX5_needPerson : MethodName := ⟨RX5, "needPerson", "(I)V"⟩
abbrev cX5_needThing : ByteArray := prog_1_method_49_code
def yX5_needThing : MethodName := ⟨RX5, "needThing", "(I)V"⟩
abbrev cX5_needDeed : ByteArray := prog_1_method_50_code
def yX5_needDeed : MethodName := ⟨RX5, "needDeed", "(I)V"⟩
abbrev cX5_needImage : ByteArray := prog_1_method_51_code
def yX5_needImage : MethodName := ⟨RX5, "needImage", "(I)V"⟩
abbrev cX5_needTray : ByteArray := prog_1_method_52_code
def yX5_needTray : MethodName := ⟨RX5, "needTray", "(I)LTillTheBell$Tray;"⟩
abbrev cX5_needRounds : ByteArray := prog_1_method_53_code
def yX5_needRounds : MethodName := ⟨RX5, "needRounds", "(I)V"⟩
abbrev cX5_temptedBit : ByteArray := prog_1_method_54_code
def yX5_temptedBit : MethodName := ⟨RX5, "temptedBit", "(II)I"⟩
abbrev cX5_leftIn : ByteArray := prog_1_method_55_code
def yX5_leftIn : MethodName := ⟨RX5, "leftIn", "(LTillTheBell$Town;I)I"⟩
abbrev cX5_doTold : ByteArray := prog_1_method_56_code
def yX5_doTold : MethodName := ⟨RX5, "doTold", "(LTillTheBell$Town;LTillTheBell$Tray;)I"⟩
abbrev cX5_whyNoTold : ByteArray := prog_1_method_57_code
def yX5_whyNoTold : MethodName := ⟨RX5, "whyNoTold", "(LTillTheBell$Town;J)I"⟩
def RX6 : String := "TillTheBellModel"
def TX6 : u_T := fun k => match k with
  | 0 => ("TillTheBellModel", "told", "[I", true)
  | 1 => ("TillTheBellModel", "fresh", "[I", true)
  | 2 => ("TillTheBellModel", "saved", "[I", true)
  | 3 => ("TillTheBellModel", "images", "[I", true)
  | 4 => ("TillTheBellModel", "isImage", "[Z", true)
  | 5 => ("TillTheBellModel", "thrown", "I", false)
  | 6 => ("TillTheBellModel", "tape", "[I", true)
  | 7 => ("TillTheBellModel", "taped", "I", false)
  | 8 => ("TillTheBellModel", "size", "I", false)
  | 9 => ("TillTheBellModel", "at", "I", false)
  | 10 => ("TillTheBellModel", "begin", "I", false)
  | 11 => ("TillTheBellModel", "token", "I", false)
  | 12 => ("TillTheBellModel", "value", "I", false)
  | 13 => ("TillTheBellModel", "bad", "I", false)
  | 14 => ("TillTheBellModel", "badPlace", "I", false)
  | 15 => ("TillTheBellModel", "faultKind", "I", false)
  | 16 => ("TillTheBellModel", "faultPlace", "I", false)
  | 17 => ("TillTheBellModel", "kept", "[I", true)
  | 18 => ("TillTheBellModel", "state", "I", false)
  | 19 => ("TillTheBellModel", "mine", "[I", true)
  | 20 => ("TillTheBellModel", "richer", "[I", true)
  | 21 => ("TillTheBellModel", "choice", "[I", true)
  | 22 => ("TillTheBellModel", "by", "[I", true)
  | 23 => ("TillTheBellModel", "mineMany", "I", false)
  | 24 => ("TillTheBellModel", "turns", "I", false)
  | 25 => ("TillTheBellModel", "firstTurn", "I", false)
  | 26 => ("TillTheBellModel", "tSort", "[I", true)
  | 27 => ("TillTheBellModel", "tMany", "[I", true)
  | _ => ("TillTheBellModel", "numbers", "[J", true)
def tyX6 : Nat → FieldType := fun k => match k with
  | 0 => .array .int
  | 1 => .array .int
  | 2 => .array .int
  | 3 => .array .int
  | 4 => .array .boolean
  | 5 => .int
  | 6 => .array .int
  | 7 => .int
  | 8 => .int
  | 9 => .int
  | 10 => .int
  | 11 => .int
  | 12 => .int
  | 13 => .int
  | 14 => .int
  | 15 => .int
  | 16 => .int
  | 17 => .array .int
  | 18 => .int
  | 19 => .array .int
  | 20 => .array .int
  | 21 => .array .int
  | 22 => .array .int
  | 23 => .int
  | 24 => .int
  | 25 => .int
  | 26 => .array .int
  | 27 => .array .int
  | _ => .array .long
abbrev wsX60 : List Cond := u_ws RX6 TX6 29
theorem nmX6 : ∀ a, a < 29 → ∀ b, b < 29 → a ≠ b → (TX6 a).2.1 ≠ (TX6 b).2.1 := by decide +kernel
theorem tyX6_ok : ∀ k, k < 29 → parseFieldDescriptor (TX6 k).2.2.1 = some (tyX6 k) := by decide +kernel
abbrev cX6_init : ByteArray := prog_8_method_1_code
def yX6_init : MethodName := ⟨RX6, "<init>", "()V"⟩
abbrev cX6_thrown : ByteArray := prog_8_method_2_code
def yX6_thrown : MethodName := ⟨RX6, "thrown", "()I"⟩
abbrev cX6_fails : ByteArray := prog_8_method_3_code
def yX6_fails : MethodName := ⟨RX6, "fails", "(I)I"⟩
abbrev cX6_within : ByteArray := prog_8_method_4_code
def yX6_within : MethodName := ⟨RX6, "within", "(JJJ)Z"⟩
abbrev cX6_copies : ByteArray := prog_8_method_5_code
def yX6_copies : MethodName := ⟨RX6, "copies", "([I[I)V"⟩
abbrev cX6_begins : ByteArray := prog_8_method_6_code
def yX6_begins : MethodName := ⟨RX6, "begins", "([I)V"⟩
abbrev cX6_feed : ByteArray := prog_8_method_7_code
def yX6_feed : MethodName := ⟨RX6, "feed", "(IIIII)I"⟩
abbrev cX6_see : ByteArray := prog_8_method_8_code
def yX6_see : MethodName := ⟨RX6, "see", "(I)I"⟩
abbrev cX6_isLetter : ByteArray := prog_8_method_9_code
def yX6_isLetter : MethodName := ⟨RX6, "isLetter", "(I)Z"⟩
abbrev cX6_isDigit : ByteArray := prog_8_method_10_code
def yX6_isDigit : MethodName := ⟨RX6, "isDigit", "(I)Z"⟩
abbrev cX6_reads : ByteArray := prog_8_method_11_code
def yX6_reads : MethodName := ⟨RX6, "reads", "()V"⟩
abbrev cX6_blames : ByteArray := prog_8_method_12_code
def yX6_blames : MethodName := ⟨RX6, "blames", "(I)V"⟩
abbrev cX6_isWord : ByteArray := prog_8_method_13_code
def yX6_isWord : MethodName := ⟨RX6, "isWord", "(Ljava/lang/String;)Z"⟩
abbrev cX6_took : ByteArray := prog_8_method_14_code
def yX6_took : MethodName := ⟨RX6, "took", "(Ljava/lang/String;)Z"⟩
abbrev cX6_number : ByteArray := prog_8_method_15_code
def yX6_number : MethodName := ⟨RX6, "number", "(II)I"⟩
abbrev cX6_personTold : ByteArray := prog_8_method_16_code
def yX6_personTold : MethodName := ⟨RX6, "personTold", "()I"⟩
abbrev cX6_thingTold : ByteArray := prog_8_method_17_code
def yX6_thingTold : MethodName := ⟨RX6, "thingTold", "()I"⟩
abbrev cX6_readPeople : ByteArray := prog_8_method_18_code
def yX6_readPeople : MethodName := ⟨RX6, "readPeople", "()V"⟩
abbrev cX6_readCoins : ByteArray := prog_8_method_19_code
def yX6_readCoins : MethodName := ⟨RX6, "readCoins", "()V"⟩
abbrev cX6_readThing : ByteArray := prog_8_method_20_code
def yX6_readThing : MethodName := ⟨RX6, "readThing", "()V"⟩
abbrev cX6_readWorth : ByteArray := prog_8_method_21_code
def yX6_readWorth : MethodName := ⟨RX6, "readWorth", "()V"⟩
abbrev cX6_readEaten : ByteArray := prog_8_method_22_code
def yX6_readEaten : MethodName := ⟨RX6, "readEaten", "()V"⟩
abbrev cX6_readLine : ByteArray := prog_8_method_23_code
def yX6_readLine : MethodName := ⟨RX6, "readLine", "()V"⟩
abbrev cX6_town : ByteArray := prog_8_method_24_code
def yX6_town : MethodName := ⟨RX6, "town", "(I)I"⟩
abbrev cX6_fault : ByteArray := prog_8_method_25_code
def yX6_fault : MethodName := ⟨RX6, "fault", "(I)I"⟩
abbrev cX6_isPerson : ByteArray := prog_8_method_26_code
def yX6_isPerson : MethodName := ⟨RX6, "isPerson", "(I)Z"⟩
abbrev cX6_isThing : ByteArray := prog_8_method_27_code
def yX6_isThing : MethodName := ⟨RX6, "isThing", "(I)Z"⟩
abbrev cX6_isDeed : ByteArray := prog_8_method_28_code
def yX6_isDeed : MethodName := ⟨RX6, "isDeed", "(J)Z"⟩
abbrev cX6_worthTo : ByteArray := prog_8_method_29_code
def yX6_worthTo : MethodName := ⟨RX6, "worthTo", "(II)I"⟩
abbrev cX6_isEaten : ByteArray := prog_8_method_30_code
def yX6_isEaten : MethodName := ⟨RX6, "isEaten", "(I)Z"⟩
abbrev cX6_hasRung : ByteArray := prog_8_method_31_code
def yX6_hasRung : MethodName := ⟨RX6, "hasRung", "()Z"⟩
abbrev cX6_wealth : ByteArray := prog_8_method_32_code
def yX6_wealth : MethodName := ⟨RX6, "wealth", "(I)I"⟩
abbrev cX6_holds : ByteArray := prog_8_method_33_code
def yX6_holds : MethodName := ⟨RX6, "holds", "(I)I"⟩
abbrev cX6_person : ByteArray := prog_8_method_34_code
def yX6_person : MethodName := ⟨RX6, "person", "(II)I"⟩
abbrev cX6_worth : ByteArray := prog_8_method_35_code
def yX6_worth : MethodName := ⟨RX6, "worth", "(II)I"⟩
abbrev cX6_holder : ByteArray := prog_8_method_36_code
def yX6_holder : MethodName := ⟨RX6, "holder", "(I)I"⟩
abbrev cX6_eat : ByteArray := prog_8_method_37_code
def yX6_eat : MethodName := ⟨RX6, "eat", "(I)Z"⟩
abbrev cX6_pass : ByteArray := prog_8_method_38_code
def yX6_pass : MethodName := ⟨RX6, "pass", "(I)I"⟩
abbrev cX6_standMany : ByteArray := prog_8_method_39_code
def yX6_standMany : MethodName := ⟨RX6, "standMany", "()I"⟩
abbrev cX6_morning : ByteArray := prog_8_method_40_code
def yX6_morning : MethodName := ⟨RX6, "morning", "()I"⟩
abbrev cX6_of : ByteArray := prog_8_method_41_code
def yX6_of : MethodName := ⟨RX6, "of", "(II)I"⟩
abbrev cX6_whyNoSale : ByteArray := prog_8_method_42_code
def yX6_whyNoSale : MethodName := ⟨RX6, "whyNoSale", "(III)I"⟩
abbrev cX6_sells : ByteArray := prog_8_method_43_code
def yX6_sells : MethodName := ⟨RX6, "sells", "(III)I"⟩
abbrev cX6_sell : ByteArray := prog_8_method_44_code
def yX6_sell : MethodName := ⟨RX6, "sell", "(III)I"⟩
abbrev cX6_worthOf : ByteArray := prog_8_method_45_code
def yX6_worthOf : MethodName := ⟨RX6, "worthOf", "(IZ)I"⟩
abbrev cX6_deed : ByteArray := prog_8_method_46_code
def yX6_deed : MethodName := ⟨RX6, "deed", "(II)I"⟩
abbrev cX6_fallsOf : ByteArray := prog_8_method_47_code
def yX6_fallsOf : MethodName := ⟨RX6, "fallsOf", "(I)I"⟩
abbrev cX6_isOf : ByteArray := prog_8_method_48_code
def yX6_isOf : MethodName := ⟨RX6, "isOf", "(II)Z"⟩
abbrev cX6_pays : ByteArray := prog_8_method_49_code
def yX6_pays : MethodName := ⟨RX6, "pays", "(III)I"⟩
abbrev cX6_undoes : ByteArray := prog_8_method_50_code
def yX6_undoes : MethodName := ⟨RX6, "undoes", "(II)I"⟩
abbrev cX6_whyNot : ByteArray := prog_8_method_51_code
def yX6_whyNot : MethodName := ⟨RX6, "whyNot", "(JI)I"⟩
abbrev cX6_may : ByteArray := prog_8_method_52_code
def yX6_may : MethodName := ⟨RX6, "may", "(II)I"⟩
abbrev cX6_undo : ByteArray := prog_8_method_53_code
def yX6_undo : MethodName := ⟨RX6, "undo", "(II)I"⟩
abbrev cX6_falls : ByteArray := prog_8_method_54_code
def yX6_falls : MethodName := ⟨RX6, "falls", "(I)I"⟩
abbrev cX6_owes : ByteArray := prog_8_method_55_code
def yX6_owes : MethodName := ⟨RX6, "owes", "(III)I"⟩
abbrev cX6_chain : ByteArray := prog_8_method_56_code
def yX6_chain : MethodName := ⟨RX6, "chain", "(II)I"⟩
abbrev cX6_trayFault : ByteArray := prog_8_method_57_code
def yX6_trayFault : MethodName := ⟨RX6, "trayFault", "(I)I"⟩
abbrev cX6_whyTold : ByteArray := prog_8_method_58_code
def yX6_whyTold : MethodName := ⟨RX6, "whyTold", "(J)I"⟩
abbrev cX6_byTold : ByteArray := prog_8_method_59_code
def yX6_byTold : MethodName := ⟨RX6, "byTold", "(I)I"⟩
abbrev cX6_goesBy : ByteArray := prog_8_method_60_code
def yX6_goesBy : MethodName := ⟨RX6, "goesBy", "(I)I"⟩
abbrev cX6_judge : ByteArray := prog_8_method_61_code
def yX6_judge : MethodName := ⟨RX6, "judge", "(II)I"⟩
abbrev cX6_perform : ByteArray := prog_8_method_62_code
def yX6_perform : MethodName := ⟨RX6, "perform", "(I)I"⟩
abbrev cX6_draw : ByteArray := prog_8_method_63_code
def yX6_draw : MethodName := ⟨RX6, "draw", "(I)I"⟩
abbrev cX6_drawn : ByteArray := prog_8_method_64_code
def yX6_drawn : MethodName := ⟨RX6, "drawn", "()Z"⟩
abbrev cX6_day : ByteArray := prog_8_method_65_code
def yX6_day : MethodName := ⟨RX6, "day", "(II)I"⟩
abbrev cX6_isOpen : ByteArray := prog_8_method_66_code
def yX6_isOpen : MethodName := ⟨RX6, "isOpen", "(I)Z"⟩
abbrev cX6_openSet : ByteArray := prog_8_method_67_code
def yX6_openSet : MethodName := ⟨RX6, "openSet", "()I"⟩
abbrev cX6_open : ByteArray := prog_8_method_68_code
def yX6_open : MethodName := ⟨RX6, "open", "()I"⟩
abbrev cX6_gainOf : ByteArray := prog_8_method_69_code
def yX6_gainOf : MethodName := ⟨RX6, "gainOf", "(II)I"⟩
abbrev cX6_gain : ByteArray := prog_8_method_70_code
def yX6_gain : MethodName := ⟨RX6, "gain", "(II)I"⟩
abbrev cX6_pledgeOf : ByteArray := prog_8_method_71_code
def yX6_pledgeOf : MethodName := ⟨RX6, "pledgeOf", "(I)I"⟩
abbrev cX6_safe : ByteArray := prog_8_method_72_code
def yX6_safe : MethodName := ⟨RX6, "safe", "()I"⟩
abbrev cX6_pledge : ByteArray := prog_8_method_73_code
def yX6_pledge : MethodName := ⟨RX6, "pledge", "(I)I"⟩
abbrev cX6_isTempted : ByteArray := prog_8_method_74_code
def yX6_isTempted : MethodName := ⟨RX6, "isTempted", "(II)Z"⟩
abbrev cX6_tempted : ByteArray := prog_8_method_75_code
def yX6_tempted : MethodName := ⟨RX6, "tempted", "()I"⟩
abbrev cX6_unravel : ByteArray := prog_8_method_76_code
def yX6_unravel : MethodName := ⟨RX6, "unravel", "()I"⟩
abbrev cX6_debt : ByteArray := prog_8_method_77_code
def yX6_debt : MethodName := ⟨RX6, "debt", "(II)I"⟩
abbrev cX6_isSafePrice : ByteArray := prog_8_method_78_code
def yX6_isSafePrice : MethodName := ⟨RX6, "isSafePrice", "(IIII)Z"⟩
abbrev cX6_safePrice : ByteArray := prog_8_method_79_code
def yX6_safePrice : MethodName := ⟨RX6, "safePrice", "(III)I"⟩
abbrev cX6_longest : ByteArray := prog_8_method_80_code
def yX6_longest : MethodName := ⟨RX6, "longest", "()I"⟩
abbrev cX6_bidder : ByteArray := prog_8_method_81_code
def yX6_bidder : MethodName := ⟨RX6, "bidder", "(I)I"⟩
abbrev cX6_seat : ByteArray := prog_8_method_82_code
def yX6_seat : MethodName := ⟨RX6, "seat", "(III)I"⟩
abbrev cX6_fallIn : ByteArray := prog_8_method_83_code
def yX6_fallIn : MethodName := ⟨RX6, "fallIn", "(II)I"⟩
abbrev cX6_laysUndoing : ByteArray := prog_8_method_84_code
def yX6_laysUndoing : MethodName := ⟨RX6, "laysUndoing", "(III)V"⟩
abbrev cX6_laysEnd : ByteArray := prog_8_method_85_code
def yX6_laysEnd : MethodName := ⟨RX6, "laysEnd", "(I)Z"⟩
abbrev cX6_laysFrom : ByteArray := prog_8_method_86_code
def yX6_laysFrom : MethodName := ⟨RX6, "laysFrom", "(II)Z"⟩
abbrev cX6_laysTurn : ByteArray := prog_8_method_87_code
def yX6_laysTurn : MethodName := ⟨RX6, "laysTurn", "(II)V"⟩
abbrev cX6_full : ByteArray := prog_8_method_88_code
def yX6_full : MethodName := ⟨RX6, "full", "()I"⟩
abbrev cX6_setBehind : ByteArray := prog_8_method_89_code
def yX6_setBehind : MethodName := ⟨RX6, "setBehind", "(I)I"⟩
abbrev cX6_standIn : ByteArray := prog_8_method_90_code
def yX6_standIn : MethodName := ⟨RX6, "standIn", "()I"⟩
abbrev cX6_chosen : ByteArray := prog_8_method_91_code
def yX6_chosen : MethodName := ⟨RX6, "chosen", "(I)I"⟩
abbrev cX6_wealthIn : ByteArray := prog_8_method_92_code
def yX6_wealthIn : MethodName := ⟨RX6, "wealthIn", "(I)I"⟩
abbrev cX6_end : ByteArray := prog_8_method_93_code
def yX6_end : MethodName := ⟨RX6, "end", "(II)I"⟩
abbrev cX6_ringer : ByteArray := prog_8_method_94_code
def yX6_ringer : MethodName := ⟨RX6, "ringer", "(I)I"⟩
abbrev cX6_keeper : ByteArray := prog_8_method_95_code
def yX6_keeper : MethodName := ⟨RX6, "keeper", "(II)I"⟩
abbrev cX6_endFrom : ByteArray := prog_8_method_96_code
def yX6_endFrom : MethodName := ⟨RX6, "endFrom", "(I)I"⟩
abbrev cX6_news : ByteArray := prog_8_method_97_code
def yX6_news : MethodName := ⟨RX6, "news", "(III)I"⟩
abbrev cX6_size : ByteArray := prog_8_method_98_code
def yX6_size : MethodName := ⟨RX6, "size", "(I)I"⟩
abbrev cX6_bestShare : ByteArray := prog_8_method_99_code
def yX6_bestShare : MethodName := ⟨RX6, "bestShare", "()I"⟩
abbrev cX6_share : ByteArray := prog_8_method_100_code
def yX6_share : MethodName := ⟨RX6, "share", "(I)I"⟩
abbrev cX6_hope : ByteArray := prog_8_method_101_code
def yX6_hope : MethodName := ⟨RX6, "hope", "(IIII)I"⟩
abbrev cX6_rather : ByteArray := prog_8_method_102_code
def yX6_rather : MethodName := ⟨RX6, "rather", "(II)Z"⟩
abbrev cX6_isHeld : ByteArray := prog_8_method_103_code
def yX6_isHeld : MethodName := ⟨RX6, "isHeld", "(I)Z"⟩
abbrev cX6_swaps : ByteArray := prog_8_method_104_code
def yX6_swaps : MethodName := ⟨RX6, "swaps", "(I)I"⟩
abbrev cX6_isThree : ByteArray := prog_8_method_105_code
def yX6_isThree : MethodName := ⟨RX6, "isThree", "(III)Z"⟩
abbrev cX6_threes : ByteArray := prog_8_method_106_code
def yX6_threes : MethodName := ⟨RX6, "threes", "(I)I"⟩
abbrev cX6_misplaced : ByteArray := prog_8_method_107_code
def yX6_misplaced : MethodName := ⟨RX6, "misplaced", "()I"⟩
abbrev cX6_isTray : ByteArray := prog_8_method_108_code
def yX6_isTray : MethodName := ⟨RX6, "isTray", "(I)Z"⟩
abbrev cX6_tray : ByteArray := prog_8_method_109_code
def yX6_tray : MethodName := ⟨RX6, "tray", "(III)V"⟩
abbrev cX6_cut : ByteArray := prog_8_method_110_code
def yX6_cut : MethodName := ⟨RX6, "cut", "(IIJ)J"⟩
abbrev cX6_write : ByteArray := prog_8_method_111_code
def yX6_write : MethodName := ⟨RX6, "write", "(IIJ)J"⟩
abbrev cX6_pour : ByteArray := prog_8_method_112_code
def yX6_pour : MethodName := ⟨RX6, "pour", "(I)I"⟩
abbrev cX6_image : ByteArray := prog_8_method_113_code
def yX6_image : MethodName := ⟨RX6, "image", "(I)V"⟩
abbrev cX6_restore : ByteArray := prog_8_method_114_code
def yX6_restore : MethodName := ⟨RX6, "restore", "(I)V"⟩
abbrev cX6_count : ByteArray := prog_8_method_115_code
def yX6_count : MethodName := ⟨RX6, "count", "(I)I"⟩
def RJx145de : String := "java/io/Serializable"
def TJx145de : u_T := fun k => match k with
  | _ => ("", "", "", false)
def RJx9f9b0 : String := "java/lang/CharSequence"
def TJx9f9b0 : u_T := fun k => match k with
  | _ => ("", "", "", false)
def RJxb160c : String := "java/lang/Comparable"
def TJxb160c : u_T := fun k => match k with
  | _ => ("", "", "", false)
def RJ6 : String := "java/lang/Integer"
def TJ6 : u_T := fun k => match k with
  | _ => ("", "", "", false)
def tyJ6 : Nat → FieldType := fun k => match k with
  | _ => .int
abbrev wsJ60 : List Cond := u_ws RJ6 TJ6 0
theorem nmJ6 : ∀ a, a < 0 → ∀ b, b < 0 → a ≠ b → (TJ6 a).2.1 ≠ (TJ6 b).2.1 := by decide +kernel
theorem tyJ6_ok : ∀ k, k < 0 → parseFieldDescriptor (TJ6 k).2.2.1 = some (tyJ6 k) := by decide +kernel
abbrev cJ6_bitCount_0f7a4 : ByteArray := prog_16_method_49_code
def yJ6_bitCount_0f7a4 : MethodName := ⟨RJ6, "bitCount", "(I)I"⟩
def RJ9 : String := "java/lang/Math"
def TJ9 : u_T := fun k => match k with
  | _ => ("", "", "", false)
def tyJ9 : Nat → FieldType := fun k => match k with
  | _ => .int
abbrev wsJ90 : List Cond := u_ws RJ9 TJ9 0
theorem nmJ9 : ∀ a, a < 0 → ∀ b, b < 0 → a ≠ b → (TJ9 a).2.1 ≠ (TJ9 b).2.1 := by decide +kernel
theorem tyJ9_ok : ∀ k, k < 0 → parseFieldDescriptor (TJ9 k).2.2.1 = some (tyJ9 k) := by decide +kernel
abbrev cJ9_max_7cf53 : ByteArray := prog_17_method_65_code
def yJ9_max_7cf53 : MethodName := ⟨RJ9, "max", "(II)I"⟩
abbrev cJ9_max_f86c9 : ByteArray := prog_17_method_66_code
def yJ9_max_f86c9 : MethodName := ⟨RJ9, "max", "(JJ)J"⟩
abbrev cJ9_min_7cf53 : ByteArray := prog_17_method_69_code
def yJ9_min_7cf53 : MethodName := ⟨RJ9, "min", "(II)I"⟩
def RJ0 : String := "java/lang/String"
def TJ0 : u_T := fun k => match k with
  | _ => ("", "", "", false)
def tyJ0 : Nat → FieldType := fun k => match k with
  | _ => .int
abbrev wsJ00 : List Cond := u_ws RJ0 TJ0 0
theorem nmJ0 : ∀ a, a < 0 → ∀ b, b < 0 → a ≠ b → (TJ0 a).2.1 ≠ (TJ0 b).2.1 := by decide +kernel
theorem tyJ0_ok : ∀ k, k < 0 → parseFieldDescriptor (TJ0 k).2.2.1 = some (tyJ0 k) := by decide +kernel
abbrev cJ0_length_8abf5 : ByteArray := prog_19_method_54_code
def yJ0_length_8abf5 : MethodName := ⟨RJ0, "length", "()I"⟩
abbrev cJ0_charAt_5068e : ByteArray := prog_19_method_56_code
def yJ0_charAt_5068e : MethodName := ⟨RJ0, "charAt", "(I)C"⟩
abbrev cJ0_coder_7d493 : ByteArray := prog_19_method_152_code
def yJ0_coder_7d493 : MethodName := ⟨RJ0, "coder", "()B"⟩
abbrev cJ0_isLatin1_aae02 : ByteArray := prog_19_method_154_code
def yJ0_isLatin1_aae02 : MethodName := ⟨RJ0, "isLatin1", "()Z"⟩
abbrev cJ0_checkIndex_df160 : ByteArray := prog_19_method_155_code
def yJ0_checkIndex_df160 : MethodName := ⟨RJ0, "checkIndex", "(II)V"⟩
def RJ1 : String := "java/lang/StringLatin1"
def TJ1 : u_T := fun k => match k with
  | _ => ("", "", "", false)
def tyJ1 : Nat → FieldType := fun k => match k with
  | _ => .int
abbrev wsJ10 : List Cond := u_ws RJ1 TJ1 0
theorem nmJ1 : ∀ a, a < 0 → ∀ b, b < 0 → a ≠ b → (TJ1 a).2.1 ≠ (TJ1 b).2.1 := by decide +kernel
theorem tyJ1_ok : ∀ k, k < 0 → parseFieldDescriptor (TJ1 k).2.2.1 = some (tyJ1 k) := by decide +kernel
abbrev cJ1_charAt_3b067 : ByteArray := prog_20_method_2_code
def yJ1_charAt_3b067 : MethodName := ⟨RJ1, "charAt", "([BI)C"⟩
def RJ2 : String := "java/lang/StringUTF16"
def TJ2 : u_T := fun k => match k with
  | _ => ("", "", "", false)
def tyJ2 : Nat → FieldType := fun k => match k with
  | _ => .int
abbrev wsJ20 : List Cond := u_ws RJ2 TJ2 0
theorem nmJ2 : ∀ a, a < 0 → ∀ b, b < 0 → a ≠ b → (TJ2 a).2.1 ≠ (TJ2 b).2.1 := by decide +kernel
theorem tyJ2_ok : ∀ k, k < 0 → parseFieldDescriptor (TJ2 k).2.2.1 = some (tyJ2 k) := by decide +kernel
abbrev cJ2_getChar_3b067 : ByteArray := prog_21_method_5_code
def yJ2_getChar_3b067 : MethodName := ⟨RJ2, "getChar", "([BI)C"⟩
abbrev cJ2_length_9d52b : ByteArray := prog_21_method_6_code
def yJ2_length_9d52b : MethodName := ⟨RJ2, "length", "([B)I"⟩
abbrev cJ2_charAt_3b067 : ByteArray := prog_21_method_83_code
def yJ2_charAt_3b067 : MethodName := ⟨RJ2, "charAt", "([BI)C"⟩
abbrev cJ2_checkIndex_2214a : ByteArray := prog_21_method_91_code
def yJ2_checkIndex_2214a : MethodName := ⟨RJ2, "checkIndex", "(I[B)V"⟩
def RJ10 : String := "java/lang/System"
def TJ10 : u_T := fun k => match k with
  | _ => ("", "", "", false)
def tyJ10 : Nat → FieldType := fun k => match k with
  | _ => .int
abbrev wsJ100 : List Cond := u_ws RJ10 TJ10 0
theorem nmJ10 : ∀ a, a < 0 → ∀ b, b < 0 → a ≠ b → (TJ10 a).2.1 ≠ (TJ10 b).2.1 := by decide +kernel
theorem tyJ10_ok : ∀ k, k < 0 → parseFieldDescriptor (TJ10 k).2.2.1 = some (tyJ10 k) := by decide +kernel
def RJxfd54e : String := "java/lang/constant/Constable"
def TJxfd54e : u_T := fun k => match k with
  | _ => ("", "", "", false)
def RJx3cf43 : String := "java/lang/constant/ConstantDesc"
def TJx3cf43 : u_T := fun k => match k with
  | _ => ("", "", "", false)
def RJ7 : String := "java/util/Arrays"
def TJ7 : u_T := fun k => match k with
  | _ => ("", "", "", false)
def tyJ7 : Nat → FieldType := fun k => match k with
  | _ => .int
abbrev wsJ70 : List Cond := u_ws RJ7 TJ7 0
theorem nmJ7 : ∀ a, a < 0 → ∀ b, b < 0 → a ≠ b → (TJ7 a).2.1 ≠ (TJ7 b).2.1 := by decide +kernel
theorem tyJ7_ok : ∀ k, k < 0 → parseFieldDescriptor (TJ7 k).2.2.1 = some (tyJ7 k) := by decide +kernel
abbrev cJ7_fill_d0a16 : ByteArray := prog_26_method_101_code
def yJ7_fill_d0a16 : MethodName := ⟨RJ7, "fill", "([JJ)V"⟩
abbrev cJ7_fill_53178 : ByteArray := prog_26_method_103_code
def yJ7_fill_53178 : MethodName := ⟨RJ7, "fill", "([II)V"⟩
def RJ3 : String := "jdk/internal/util/Preconditions"
def TJ3 : u_T := fun k => match k with
  | _ => ("", "", "", false)
def tyJ3 : Nat → FieldType := fun k => match k with
  | _ => .int
abbrev wsJ30 : List Cond := u_ws RJ3 TJ3 0
theorem nmJ3 : ∀ a, a < 0 → ∀ b, b < 0 → a ≠ b → (TJ3 a).2.1 ≠ (TJ3 b).2.1 := by decide +kernel
theorem tyJ3_ok : ∀ k, k < 0 → parseFieldDescriptor (TJ3 k).2.2.1 = some (tyJ3 k) := by decide +kernel
abbrev cJ3_checkIndex_8e157 : ByteArray := prog_28_method_11_code
def yJ3_checkIndex_8e157 : MethodName := ⟨RJ3, "checkIndex", "(IILjava/util/function/BiFunction;)I"⟩
def RL : String := "TillTheBellLaw"
abbrev cL_town : ByteArray := method_3_code
def yL_town : MethodName := ⟨RL, "town", "(LTillTheBell;I[J)I"⟩
abbrev cL_person : ByteArray := method_4_code
def yL_person : MethodName := ⟨RL, "person", "(LTillTheBell;II[J)I"⟩
abbrev cL_worth : ByteArray := method_5_code
def yL_worth : MethodName := ⟨RL, "worth", "(LTillTheBell;II[J)I"⟩
abbrev cL_holder : ByteArray := method_6_code
def yL_holder : MethodName := ⟨RL, "holder", "(LTillTheBell;I[J)I"⟩
abbrev cL_eat : ByteArray := method_7_code
def yL_eat : MethodName := ⟨RL, "eat", "(LTillTheBell;I[J)I"⟩
abbrev cL_pass : ByteArray := method_8_code
def yL_pass : MethodName := ⟨RL, "pass", "(LTillTheBell;I[J)I"⟩
abbrev cL_morning : ByteArray := method_9_code
def yL_morning : MethodName := ⟨RL, "morning", "(LTillTheBell;[J)I"⟩
abbrev cL_deed : ByteArray := method_10_code
def yL_deed : MethodName := ⟨RL, "deed", "(LTillTheBell;II[J)I"⟩
abbrev cL_may : ByteArray := method_11_code
def yL_may : MethodName := ⟨RL, "may", "(LTillTheBell;II[J)I"⟩
abbrev cL_undo : ByteArray := method_12_code
def yL_undo : MethodName := ⟨RL, "undo", "(LTillTheBell;II[J)I"⟩
abbrev cL_falls : ByteArray := method_13_code
def yL_falls : MethodName := ⟨RL, "falls", "(LTillTheBell;I[J)I"⟩
abbrev cL_owes : ByteArray := method_14_code
def yL_owes : MethodName := ⟨RL, "owes", "(LTillTheBell;III[J)I"⟩
abbrev cL_chain : ByteArray := method_15_code
def yL_chain : MethodName := ⟨RL, "chain", "(LTillTheBell;II[J)I"⟩
abbrev cL_judge : ByteArray := method_16_code
def yL_judge : MethodName := ⟨RL, "judge", "(LTillTheBell;II[J)I"⟩
abbrev cL_perform : ByteArray := method_17_code
def yL_perform : MethodName := ⟨RL, "perform", "(LTillTheBell;I[J)I"⟩
abbrev cL_day : ByteArray := method_18_code
def yL_day : MethodName := ⟨RL, "day", "(LTillTheBell;II[J)I"⟩
abbrev cL_gain : ByteArray := method_19_code
def yL_gain : MethodName := ⟨RL, "gain", "(LTillTheBell;II[J)I"⟩
abbrev cL_pledge : ByteArray := method_20_code
def yL_pledge : MethodName := ⟨RL, "pledge", "(LTillTheBell;I[J)I"⟩
abbrev cL_debt : ByteArray := method_21_code
def yL_debt : MethodName := ⟨RL, "debt", "(LTillTheBell;II[J)I"⟩
abbrev cL_safePrice : ByteArray := method_22_code
def yL_safePrice : MethodName := ⟨RL, "safePrice", "(LTillTheBell;III[J)I"⟩
abbrev cL_bidder : ByteArray := method_23_code
def yL_bidder : MethodName := ⟨RL, "bidder", "(LTillTheBell;I[J)I"⟩
abbrev cL_keeper : ByteArray := method_24_code
def yL_keeper : MethodName := ⟨RL, "keeper", "(LTillTheBell;II[J)I"⟩
abbrev cL_endFrom : ByteArray := method_25_code
def yL_endFrom : MethodName := ⟨RL, "endFrom", "(LTillTheBell;I[J)I"⟩
abbrev cL_end : ByteArray := method_26_code
def yL_end : MethodName := ⟨RL, "end", "(LTillTheBell;II[J)I"⟩
abbrev cL_ringer : ByteArray := method_27_code
def yL_ringer : MethodName := ⟨RL, "ringer", "(LTillTheBell;I[J)I"⟩
abbrev cL_news : ByteArray := method_28_code
def yL_news : MethodName := ⟨RL, "news", "(LTillTheBell;III[J)I"⟩
abbrev cL_share : ByteArray := method_29_code
def yL_share : MethodName := ⟨RL, "share", "(LTillTheBell;I[J)I"⟩
abbrev cL_hope : ByteArray := method_30_code
def yL_hope : MethodName := ⟨RL, "hope", "(LTillTheBell;IIII[J)I"⟩
abbrev cL_tray : ByteArray := method_31_code
def yL_tray : MethodName := ⟨RL, "tray", "(LTillTheBell;III)I"⟩
abbrev cL_write : ByteArray := method_32_code
def yL_write : MethodName := ⟨RL, "write", "(LTillTheBell;IIJ[J)I"⟩
abbrev cL_pour : ByteArray := method_33_code
def yL_pour : MethodName := ⟨RL, "pour", "(LTillTheBell;I[J)I"⟩
abbrev cL_image : ByteArray := method_34_code
def yL_image : MethodName := ⟨RL, "image", "(LTillTheBell;I)I"⟩
abbrev cL_restore : ByteArray := method_35_code
def yL_restore : MethodName := ⟨RL, "restore", "(LTillTheBell;I)I"⟩
abbrev cL_law : ByteArray := code
def yL_law : MethodName := ⟨RL, "law", "([I)Z"⟩
abbrev vwCl : List vw_C := [(RX0, TX0, 1), (RX1, TX1, 15), (RX2, TX2, 10), (RX3, TX3, 17), (RX4, TX4, 4), (RX5, TX5, 7), (RX6, TX6, 29)]
end
section
/-! THE MINI MACHINE. A world is a list of cells by number; references are numbers; 'ad' says where each cell lies in the heap. -/
/-- a cell: a row of ints (kind, length, contents), of longs, an object (class, fields), a row of references (kind, contents) -/
abbrev jc : Type := (Nat × Nat × (Nat → Int32)) ⊕ ((Nat × (Nat → Int64)) ⊕ ((Nat × List Value) ⊕ (Nat × List (Option Nat))))
abbrev jH : Type := List jc
def jre (f : Nat → Nat) (v : Value) : Value := match v with
  | .ref k => .ref (f k)
  | .int x => .int x
  | .long x => .long x
  | .null => .null
  | .float x => .float x
  | .double x => .double x
  | .retAddr p => .retAddr p
theorem jre_cat (f : Nat → Nat) (v : Value) : (jre f v).category = v.category := by cases v <;> rfl
theorem jre_jre (f g : Nat → Nat) (v : Value) : jre f (jre g v) = jre (fun k => f (g k)) v := by cases v <;> rfl
theorem jre_congr {f g : Nat → Nat} {v : Value} (h : ∀ k, f k = g k) : jre f v = jre g v := by cases v <;> simp [jre, h]
/-- references of a cell, renamed -/
def jrc (f : Nat → Nat) (c : jc) : jc := match c with
  | .inl x => .inl x
  | .inr (.inl x) => .inr (.inl x)
  | .inr (.inr (.inl (ci, fs))) => .inr (.inr (.inl (ci, fs.map (jre f))))
  | .inr (.inr (.inr (t, rs))) => .inr (.inr (.inr (t, rs.map (Option.map f))))
def jrE (ad : Nat → Nat) (cA : Nat → ClassId) (c : jc) : va_E := match c with
  | .inl (t, n, f) => .inl (cA t, n, .inl f)
  | .inr (.inl (n, f)) => .inl (cA 1, n, .inr (.inl f))
  | .inr (.inr (.inl (ci, fs))) => .inr (ci, fs.map (jre ad))
  | .inr (.inr (.inr (t, rs))) => .inl (cA t, rs.length, .inr (.inr (.inr (.inr (fun i => ((rs.map (Option.map ad))[i]?).getD none)))))
theorem jrE_jrc (ad f : Nat → Nat) (cA : Nat → ClassId) (c : jc) : jrE ad cA (jrc f c) = jrE (fun k => ad (f k)) cA c := by
  rcases c with ⟨t, n, g⟩ | ⟨n, g⟩ | ⟨ci, fs⟩ | ⟨t, rs⟩
  · rfl
  · rfl
  · simp only [jrc, jrE, List.map_map, Sum.inr.injEq, Prod.mk.injEq, true_and]
    exact List.map_congr_left fun v _ => jre_jre _ _ _
  · simp only [jrc, jrE, List.map_map, List.length_map]
    have e : (Option.map ad ∘ Option.map f) = Option.map (fun k => ad (f k)) := by
      funext o; cases o <;> rfl
    rw [e]
theorem jrE_congr {f g : Nat → Nat} (cA : Nat → ClassId) (c : jc) (h : ∀ k, f k = g k) : jrE f cA c = jrE g cA c := by
  have e : f = g := funext h
  rw [e]
def jpl (ad : Nat → Nat) (cA : Nat → ClassId) (μ : jH) : va_W := μ.mapIdx (fun k c => (ad k, jrE ad cA c))
theorem jpl_get (ad : Nat → Nat) (cA : Nat → ClassId) (μ : jH) (k : Nat) : (jpl ad cA μ)[k]? = (μ[k]?).map (fun c => (ad k, jrE ad cA c)) := by
  simp [jpl]
theorem jpl_at {ad : Nat → Nat} {cA : Nat → ClassId} {μ : jH} {k : Nat} {c : jc} (h : μ[k]? = some c) : (jpl ad cA μ)[k]? = some (ad k, jrE ad cA c) := by
  rw [jpl_get, h]; rfl
theorem jpl_set (ad : Nat → Nat) (cA : Nat → ClassId) (μ : jH) (k : Nat) (c : jc) : (jpl ad cA μ).set k (ad k, jrE ad cA c) = jpl ad cA (μ.set k c) := by
  apply List.ext_getElem?
  intro i
  rw [jpl_get, List.getElem?_set, List.getElem?_set, jpl_get]
  have hl : (jpl ad cA μ).length = μ.length := by simp [jpl]
  rw [hl]
  by_cases e : k = i
  · subst e
    by_cases h : k < μ.length
    · simp [h]
    · simp [h]
  · simp [e]
theorem jpl_app (ad : Nat → Nat) (cA : Nat → ClassId) (μ : jH) (c : jc) : jpl ad cA (μ ++ [c]) = jpl ad cA μ ++ [(ad μ.length, jrE ad cA c)] := by
  simp [jpl, List.mapIdx_append]
theorem jpl_len (ad : Nat → Nat) (cA : Nat → ClassId) (μ : jH) : (jpl ad cA μ).length = μ.length := by simp [jpl]
def jty (cA : Nat → ClassId) : List (ClassId × FieldType) := [(cA 0, .int), (cA 1, .long), (cA 2, .byte), (cA 3, .boolean), (cA 4, .object RX3), (cA 5, .object RX4)]
/-- the addresses of what comes next -/
def jfut (ad : Nat → Nat) (m z B : Nat) : Prop := ∀ j, m ≤ j → j < B → ad j = z + (j - m)
/-- an index within -/
def jin (i : Int32) (n : Nat) : Bool := !(decide (i < 0)) && decide (i.toNatClampNeg < n)
theorem jin_vp {i : Int32} {n : Nat} (h : jin i n = true) : vp_in i n := by
  simp only [jin, Bool.and_eq_true, Bool.not_eq_true', decide_eq_false_iff_not, decide_eq_true_eq] at h
  intro z
  rcases z with z | z
  · exact h.1 z
  · omega
/-- the words of all methods -/
def jbig : List Cond := lw_tbl.filter goodWord
theorem jbig_good {w : Cond} (h : w ∈ jbig) : goodWord w = true := (List.mem_filter.mp h).2
theorem jbig_of {w : Cond} (i : Nat) (h : lw_tbl[i]? = some w) (g : goodWord w = true) : w ∈ jbig := List.mem_filter.mpr ⟨List.mem_of_getElem? h, g⟩
def jws (y : MethodName) (b : ByteArray) (n : Nat) (r : Option FieldType) : List Cond := .code y b n r :: jbig
def jwsH (y : MethodName) (b : ByteArray) (n : Nat) (r : Option FieldType) (hh : List (Nat × Nat × Nat × Nat)) : List Cond := .codeWith y b n r hh :: jbig
/-- string constants: lengths, bytes; which constant of which class is which word -/
def jlen : List Nat := [6, 5, 5, 5, 5, 4, 5]
def jbyt : List (List Int32) := [[112, 101, 111, 112, 108, 101], [99, 111, 105, 110, 115], [116, 104, 105, 110, 103], [119, 111, 114, 116, 104], [115, 104, 97, 114, 101], [98, 101, 108, 108], [101, 97, 116, 101, 110]]
def jstr : List (String × Nat × String × Nat) := [(RX2, 60, "people", 0), (RX2, 66, "coins", 1), (RX2, 68, "thing", 2), (RX2, 70, "worth", 3), (RX2, 72, "share", 4), (RX2, 74, "bell", 5), (RX2, 76, "eaten", 6), (RX6, 138, "people", 0), (RX6, 143, "coins", 1), (RX6, 151, "thing", 2), (RX6, 156, "worth", 3), (RX6, 161, "share", 4), (RX6, 163, "bell", 5), (RX6, 165, "eaten", 6)]
def jnest : List Cond := [.methodLinkNest RX5 9 yX3_init RX5, .methodLinkNest RX5 35 yX2_init RX5, .methodLinkNest RX5 42 yX1_init RX5, .methodLinkNest RX5 47 yX4_init RX5]
def jcast : List (String × String) := [("java/lang/IllegalArgumentException", "java/lang/IllegalArgumentException"), ("java/lang/IllegalStateException", "java/lang/IllegalStateException"), ("java/util/NoSuchElementException", "java/util/NoSuchElementException"), ("java/lang/IndexOutOfBoundsException", "java/lang/IndexOutOfBoundsException")]
def jnc : List (String × String) := [("java/lang/IllegalArgumentException", "java/util/NoSuchElementException"), ("java/lang/IllegalArgumentException", "java/lang/IllegalStateException"), ("java/lang/IllegalStateException", "java/util/NoSuchElementException"), ("java/lang/IndexOutOfBoundsException", "java/util/NoSuchElementException"), ("java/lang/IndexOutOfBoundsException", "java/lang/IllegalStateException")]
/-- what lies outside: the words' Strings, the statics that a new Throwable reads, links of nest mates, classes of arrays of objects, which exceptions are which -/
def jE (ad adV : Nat → Nat) (A : Nat → Prop) (U : State) (H : Heap) : Prop :=
  vk_S 7 jlen jbyt (fun w => ad (1000000 + w)) adV A U H ∧ vx_Zq Bundle.tN "UNASSIGNED_STACK" Bundle.steD A U H ∧ vx_Zq Bundle.tN "SUPPRESSED_SENTINEL" Bundle.listD A U H ∧ (∀ w ∈ jnest, va_Nw w U) ∧ (∀ q ∈ jstr, vk_R q.1 q.2.1 q.2.2.1 (ad (1000000 + q.2.2.2)) U) ∧ va_AO RX3 U ∧ va_AO RX4 U ∧ (∀ q ∈ jcast, va_Nw (.castable q.1 q.2) U) ∧ (∀ q ∈ jnc, va_Nc q.1 q.2 U)
theorem jE.same {ad adV : Nat → Nat} {A : Nat → Prop} {u U : State} {H : Heap} (hv : u.vm = U.vm) (h : jE ad adV A u H) : jE ad adV A U H := by
  obtain ⟨h1, h2, h3, h4, h5, h6, h7, h8, h9⟩ := h
  have ha : u.vm.Alike U.vm := by rw [hv]; exact Vm.Alike.refl _
  refine ⟨h1.moved ha, h2.moved ha, h3.moved ha, fun w hw => va_Nw.same ?_ hv (h4 w hw), fun q hq => vk_R.same hv.symm (h5 q hq), h6.moved ha, h7.moved ha, fun q hq => va_Nw.same rfl hv (h8 q hq), fun q hq => (h9 q hq).moved ha⟩
  simp only [jnest, List.mem_cons, List.mem_nil_iff, or_false] at hw
  rcases hw with rfl | rfl | rfl | rfl <;> rfl
theorem jE.warm {ad adV : Nat → Nat} {A B : Nat → Prop} {s U : State} {H : Heap} {locs : List Loc} (hW : s.WarmedH U.vm) (hS : va_S A s.heap H locs) (hB : ∀ q, B q → A q) (h : jE ad adV A s s.heap) : jE ad adV B U H := by
  obtain ⟨h1, h2, h3, h4, h5, h6, h7, h8, h9⟩ := h
  have ha := hW.alike
  refine ⟨((h1.kept hS.2.1).moved ha).narrow hB, ((h2.kept hS.2.1).moved ha).narrow hB, ((h3.kept hS.2.1).moved ha).narrow hB, fun w hw => ?_, fun q hq => vk_R.warm hW (h5 q hq), h6.moved ha, h7.moved ha, fun q hq => va_Nw.warmC hW (h8 q hq), fun q hq => (h9 q hq).moved ha⟩
  have h9 := h4 w hw
  simp only [jnest, List.mem_cons, List.mem_nil_iff, or_false] at hw
  rcases hw with rfl | rfl | rfl | rfl <;> exact va_Nw.warmM hW h9
/-! the frame of a method and what it may take as given -/
/-- constants of a class: fields (entry, class, slot, kind: 0 an int, 1 a boolean, 2 a final reference), ints, longs, classes made; and the script -/
abbrev jT : Type := List (Nat × Nat × Nat × Nat) × List (Nat × Int32) × List (Nat × Int64) × List (Nat × Nat) × Option (Nat × (Nat → Int32))
abbrev jX : Type := (Program × Launch × Env × Room × State × MethodId × Array Value × List Frame × Method × Code) × (va_G × (Nat → ClassId) × (Nat → Nat) × (Nat → Nat) × (Nat → Prop)) × (String × ByteArray × Nat × Nat × Nat × Nat × Option FieldType × (State → Prop) × jT)
def jp (X : jX) : Program := X.1.1
def jl (X : jX) : Launch := X.1.2.1
def je (X : jX) : Env := X.1.2.2.1
def jR (X : jX) : Room := X.1.2.2.2.1
def js (X : jX) : State := X.1.2.2.2.2.1
def jm (X : jX) : MethodId := X.1.2.2.2.2.2.1
def ja (X : jX) : Array Value := X.1.2.2.2.2.2.2.1
def jb (X : jX) : List Frame := X.1.2.2.2.2.2.2.2.1
def jme (X : jX) : Method := X.1.2.2.2.2.2.2.2.2.1
def jcd (X : jX) : Code := X.1.2.2.2.2.2.2.2.2.2
def jD (X : jX) : va_G := X.2.1.1
def jcA (X : jX) : Nat → ClassId := X.2.1.2.1
def jad (X : jX) : Nat → Nat := X.2.1.2.2.1
def jv (X : jX) : Nat → Nat := X.2.1.2.2.2.1
def jA (X : jX) : Nat → Prop := X.2.1.2.2.2.2
def jown (X : jX) : String := X.2.2.1
def jcc (X : jX) : ByteArray := X.2.2.2.1
def jnL (X : jX) : Nat := X.2.2.2.2.1
def jmc (X : jX) : Nat := X.2.2.2.2.2.1
def jms (X : jX) : Nat := X.2.2.2.2.2.2.1
def jal (X : jX) : Nat := X.2.2.2.2.2.2.2.1
def jrt (X : jX) : Option FieldType := X.2.2.2.2.2.2.2.2.1
def jQ (X : jX) : State → Prop := X.2.2.2.2.2.2.2.2.2.1
def jtb (X : jX) : jT := X.2.2.2.2.2.2.2.2.2.2
/-- the same, and nothing more is made -/
def jof (X : jX) : jX := (X.1, X.2.1, (X.2.2.1, X.2.2.2.1, X.2.2.2.2.1, X.2.2.2.2.2.1, X.2.2.2.2.2.2.1, 0, X.2.2.2.2.2.2.2.2))
def jtOK (own : String) (tb : jT) : Prop :=
  (∀ q ∈ tb.1, ∃ (C : String) (T : u_T) (N : Nat) (ty : FieldType), vwCl[q.2.1]? = some (C, T, N) ∧ q.2.2.1 < N ∧ Cond.fieldLink own q.1 (T q.2.2.1).1 (T q.2.2.1).2.1 (T q.2.2.1).2.2.1 ∈ jbig ∧ parseFieldDescriptor (T q.2.2.1).2.2.1 = some ty ∧ (q.2.2.2 = 0 → ty = .int ∧ (T q.2.2.1).2.2.2 = false) ∧ (q.2.2.2 = 1 → ty = .boolean ∧ (T q.2.2.1).2.2.2 = false) ∧ (q.2.2.2 = 2 → (∀ a, narrow ty (.ref a) = .ref a ∧ fits ty (.ref a) = true) ∧ (T q.2.2.1).2.2.2 = true ∧ (T q.2.2.1).1 = own)) ∧
  (∀ q ∈ tb.2.1, Cond.constant own q.1 q.2 ∈ jbig) ∧ (∀ q ∈ tb.2.2.1, Cond.constantLong own q.1 q.2 ∈ jbig) ∧
  (∀ q ∈ tb.2.2.2.1, ∃ (C : String) (T : u_T) (N : Nat), vwCl[q.2]? = some (C, T, N) ∧ Cond.classLink own q.1 C ∈ jbig ∧ Cond.instantiable C N ∈ jbig ∧ Cond.initialized C ∈ jbig)
def jOK (X : jX) : Prop :=
  (jp X).tables.exec = Jvm.exec ∧ (jcd X).code = jcc X ∧ (jcd X).maxLocals = jnL X ∧ (js X).vm.findClass (jown X) = some (jm X).cls ∧ (∀ w ∈ jbig, w.before (ja X) (js X) = true) ∧ va_K (jD X) vwCl (jty (jcA X)) (js X) ∧ (∀ q, (js X).heap.size ≤ q → jA X q) ∧ (jme X).locks = false ∧ jE (jad X) (jv X) (jA X) (js X) (js X).heap ∧ (jl X).stackTraces = false ∧ jmc X ≤ (jR X).cells ∧ jms X ≤ (jR X).slots ∧ (jme X).sig.returnType = jrt X ∧ jtOK (jown X) (jtb X) ∧
  (∀ z, (jtb X).2.2.2.2 = some z → va_X (jad X 2000000) z.1 z.2 (js X) (js X).heap ∧ jad X 2000000 < (js X).heap.size ∧ ¬ jA X (jad X 2000000))
theorem jOK.of {X : jX} (h : jOK X) : jOK (jof X) := h
def jlo (ad : Nat → Nat) (n : Nat) (L : List (Option Value)) (ls : Array Slot) : Prop := ls.size = n ∧ lv_wf ls ∧ ∀ (i : Nat) (v : Value), L[i]? = some (some v) → ls[i]? = some (.val (jre ad v))
abbrev jW (X : jX) (H : Heap) (locs : List Loc) (k n : Nat) (g : JFrame) : Prop := W (jp X) (jl X) (je X) (jR X) (js X) (jm X) (ja X) (jb X) (jme X) (jcd X) H locs k n (jQ X) g
/-- the heap holds the world, nothing else has changed, the next addresses are as they will be -/
def jHP (X : jX) (μ : jH) (H : Heap) (locs : List Loc) : Prop := va_P (jD X) vwCl (jpl (jad X) (jcA X) μ) H ∧ va_D (jA X) (jpl (jad X) (jcA X) μ) ∧ va_S (jA X) (js X).heap H locs ∧ jfut (jad X) μ.length H.size (jal X)
def JW (X : jX) (k n pc : Nat) (L : List (Option Value)) (st : List Value) (μ : jH) : Prop :=
  ∀ (H : Heap) (locs : List Loc) (ls : Array Slot), jHP X μ H locs → jlo (jad X) (jnL X) L ls → jW X H locs k n (F0 (jm X) pc ls (st.map (jre (jad X))))
/-- an exception of class E has come over the frame -/
def JX (X : jX) (k n pc : Nat) (L : List (Option Value)) (st : List Value) (E : String) (μ : jH) : Prop :=
  ∀ (H : Heap) (locs : List Loc) (ls : Array Slot) (q : Addr) (ce : Cell), jHP X μ H locs → jlo (jad X) (jnL X) L ls → H[q]? = some ce → ce.vm = .none → (js X).vm.findClass E = some ce.cls → vx_W (jp X) (jl X) (je X) (jR X) (js X) (jm X) (ja X) (jb X) (jme X) (jcd X) H locs k n (jQ X) (F0 (jm X) pc ls (st.map (jre (jad X)))) q
/-! locals -/
def jclob (L : List (Option Value)) (i : Nat) : List (Option Value) := match i with
  | 0 => L
  | j + 1 => match L[j]? with
    | some (some w) => if w.category = 2 then L.set j none else L
    | _ => L
def jst1 (L : List (Option Value)) (i : Nat) (v : Value) : List (Option Value) := (jclob L i).set i (some v)
def jst2 (L : List (Option Value)) (i : Nat) (v : Value) : List (Option Value) := ((jclob L i).set (i + 1) none).set i (some v)
def jas (ad : Nat → Nat) (L : List (Option Value)) : List (Nat × Value) := (L.mapIdx (fun i o => o.map (fun v => (i, jre ad v)))).filterMap id
theorem jas_mem {ad : Nat → Nat} {L : List (Option Value)} {q : Nat × Value} : q ∈ jas ad L ↔ ∃ v, L[q.1]? = some (some v) ∧ q.2 = jre ad v := by
  obtain ⟨j, w⟩ := q
  simp only [jas, List.mem_filterMap, id]
  constructor
  · rintro ⟨o, h1, rfl⟩
    obtain ⟨i, h2⟩ := List.getElem?_of_mem h1
    rw [List.getElem?_mapIdx] at h2
    cases h3 : L[i]? with
    | none => simp [h3] at h2
    | some o =>
      cases o with
      | none => simp [h3] at h2
      | some v =>
        simp only [h3, Option.map_some, Option.some.injEq, Prod.mk.injEq] at h2
        obtain ⟨rfl, rfl⟩ := h2
        exact ⟨v, h3, rfl⟩
  · rintro ⟨v, h1, h2⟩
    refine ⟨some (j, w), ?_, rfl⟩
    refine List.mem_of_getElem? (i := j) ?_
    rw [List.getElem?_mapIdx, h1]
    simp only [Option.map_some]
    rw [show w = jre ad v from h2]
theorem jlo.has {ad : Nat → Nat} {n : Nat} {L : List (Option Value)} {ls : Array Slot} (h : jlo ad n L ls) : lv_has ls n (jas ad L) := by
  refine ⟨h.1, h.2.1, fun q hq => ?_⟩
  obtain ⟨v, h1, h2⟩ := jas_mem.mp hq
  rw [h2]
  exact h.2.2 _ _ h1
theorem jclob_get {L : List (Option Value)} {i j : Nat} {v : Value} (h : (jclob L i)[j]? = some (some v)) : L[j]? = some (some v) ∧ ¬ (j + 1 = i ∧ v.category = 2) := by
  cases i with
  | zero => exact ⟨h, fun z => by omega⟩
  | succ m =>
    simp only [jclob] at h
    split at h
    · next w hw =>
      split at h
      · next hc =>
        rw [List.getElem?_set] at h
        split at h
        · split at h <;> simp at h
        · next hne => exact ⟨h, fun z => hne (by omega)⟩
      · next hc =>
        refine ⟨h, fun z => ?_⟩
        have : j = m := by omega
        subst this
        rw [hw] at h
        simp only [Option.some.injEq] at h
        subst h
        exact hc z.2
    · next hn =>
      refine ⟨h, fun z => ?_⟩
      have : j = m := by omega
      subst this
      exact hn v h
theorem jlo_st1 {ad : Nat → Nat} {n i : Nat} {L : List (Option Value)} {ls' : Array Slot} {v : Value} (h : lv_has ls' n ((i, jre ad v) :: (jas ad L).filter (fun q => !(q.1 == i) && !(q.1 + 1 == i && q.2.category == 2)))) : jlo ad n (jst1 L i v) ls' := by
  refine ⟨h.1, h.2.1, fun j w hj => ?_⟩
  simp only [jst1, List.getElem?_set] at hj
  split at hj
  · next e =>
    subst e
    split at hj
    · cases hj
      exact h.2.2 _ List.mem_cons_self
    · cases hj
  · next e =>
    obtain ⟨h1, h2⟩ := jclob_get hj
    refine h.2.2 (j, jre ad w) (List.mem_cons_of_mem _ (List.mem_filter.mpr ⟨jas_mem.mpr ⟨w, h1, rfl⟩, ?_⟩))
    simp only [jre_cat, Bool.and_eq_true, Bool.not_eq_true', beq_eq_false_iff_ne, ne_eq]
    refine ⟨fun z => e z.symm, ?_⟩
    by_cases z : j + 1 = i
    · have : ¬ w.category = 2 := fun y => h2 ⟨z, y⟩
      simp [this]
    · simp [z]
theorem jlo_st2 {ad : Nat → Nat} {n i : Nat} {L : List (Option Value)} {ls' : Array Slot} {v : Value} (h : lv_has ls' n ((i, jre ad v) :: (jas ad L).filter (fun q => !(q.1 == i) && (!(q.1 == i + 1) && !(q.1 + 1 == i && q.2.category == 2))))) : jlo ad n (jst2 L i v) ls' := by
  refine ⟨h.1, h.2.1, fun j w hj => ?_⟩
  simp only [jst2, List.getElem?_set] at hj
  split at hj
  · next e =>
    subst e
    split at hj
    · cases hj
      exact h.2.2 _ List.mem_cons_self
    · cases hj
  · next e =>
    split at hj
    · split at hj <;> simp at hj
    · next e2 =>
      obtain ⟨h1, h2⟩ := jclob_get hj
      refine h.2.2 (j, jre ad w) (List.mem_cons_of_mem _ (List.mem_filter.mpr ⟨jas_mem.mpr ⟨w, h1, rfl⟩, ?_⟩))
      simp only [jre_cat, Bool.and_eq_true, Bool.not_eq_true', beq_eq_false_iff_ne, ne_eq]
      refine ⟨fun z => e z.symm, fun z => e2 z.symm, ?_⟩
      by_cases z : j + 1 = i
      · have : ¬ w.category = 2 := fun y => h2 ⟨z, y⟩
        simp [this]
      · simp [z]
/-- fewer locals are known -/
def jmask : List Bool → List (Option Value) → List (Option Value)
  | true :: b, x :: l => x :: jmask b l
  | false :: b, _ :: l => none :: jmask b l
  | _, _ => []
theorem jmask_get : ∀ (b : List Bool) (l : List (Option Value)) (i : Nat) (v : Value), (jmask b l)[i]? = some (some v) → l[i]? = some (some v)
  | true :: b, x :: l, 0, v, h => h
  | true :: b, x :: l, i + 1, v, h => by
    simp only [jmask, List.getElem?_cons_succ] at h ⊢
    exact jmask_get b l i v h
  | false :: b, x :: l, 0, v, h => by simp [jmask] at h
  | false :: b, x :: l, i + 1, v, h => by
    simp only [jmask, List.getElem?_cons_succ] at h ⊢
    exact jmask_get b l i v h
  | [], l, i, v, h => by simp [jmask] at h
  | _ :: _, [], i, v, h => by simp [jmask] at h
theorem JW.mask {X : jX} {k n pc : Nat} {L : List (Option Value)} {st : List Value} {μ : jH} (b : List Bool) (h : JW X k n pc (jmask b L) st μ) : JW X k n pc L st μ :=
  fun H locs ls hH hl => h H locs ls hH ⟨hl.1, hl.2.1, fun i v hi => hl.2.2 i v (jmask_get b L i v hi)⟩
theorem JW.of {X : jX} {k n pc : Nat} {L : List (Option Value)} {st : List Value} {μ : jH} (h : JW (jof X) k n pc L st μ) : JW X k n pc L st μ :=
  fun H locs ls hH hl => h H locs ls ⟨hH.1, hH.2.1, hH.2.2.1, fun j _ h => absurd h (Nat.not_lt_zero j)⟩ hl
end
section
/-! single instructions -/
theorem jmapc (f : Value → Value) (a : Value) (l : List Value) : (a :: l).map f = f a :: l.map f := rfl
section JS
variable {X : jX} {k n pc : Nat} {L : List (Option Value)} {st : List Value} {μ : jH}
theorem js_iadd (hX : jOK X) {x y : Int32} (hd : decode (jcc X) pc = .ok (.iadd, 1)) (K : JW X k n (pc + 1) L (.int (x + y) :: st) μ) : JW X k n pc L (.int y :: .int x :: st) μ := fun H locs ls hH hl => lv_iadd hX.1 hX.2.1 hd (K H locs ls hH hl)
theorem js_isub (hX : jOK X) {x y : Int32} (hd : decode (jcc X) pc = .ok (.isub, 1)) (K : JW X k n (pc + 1) L (.int (x - y) :: st) μ) : JW X k n pc L (.int y :: .int x :: st) μ := fun H locs ls hH hl => lv_isub hX.1 hX.2.1 hd (K H locs ls hH hl)
theorem js_imul (hX : jOK X) {x y : Int32} (hd : decode (jcc X) pc = .ok (.imul, 1)) (K : JW X k n (pc + 1) L (.int (x * y) :: st) μ) : JW X k n pc L (.int y :: .int x :: st) μ := fun H locs ls hH hl => lv_imul hX.1 hX.2.1 hd (K H locs ls hH hl)
theorem js_iand (hX : jOK X) {x y : Int32} (hd : decode (jcc X) pc = .ok (.iand, 1)) (K : JW X k n (pc + 1) L (.int (x &&& y) :: st) μ) : JW X k n pc L (.int y :: .int x :: st) μ := fun H locs ls hH hl => lv_iand hX.1 hX.2.1 hd (K H locs ls hH hl)
theorem js_ior (hX : jOK X) {x y : Int32} (hd : decode (jcc X) pc = .ok (.ior, 1)) (K : JW X k n (pc + 1) L (.int (x ||| y) :: st) μ) : JW X k n pc L (.int y :: .int x :: st) μ := fun H locs ls hH hl => lv_ior hX.1 hX.2.1 hd (K H locs ls hH hl)
theorem js_ixor (hX : jOK X) {x y : Int32} (hd : decode (jcc X) pc = .ok (.ixor, 1)) (K : JW X k n (pc + 1) L (.int (x ^^^ y) :: st) μ) : JW X k n pc L (.int y :: .int x :: st) μ := fun H locs ls hH hl => lv_ixor hX.1 hX.2.1 hd (K H locs ls hH hl)
theorem js_ishl (hX : jOK X) {x y : Int32} (hd : decode (jcc X) pc = .ok (.ishl, 1)) (K : JW X k n (pc + 1) L (.int (x <<< (y &&& 31)) :: st) μ) : JW X k n pc L (.int y :: .int x :: st) μ := fun H locs ls hH hl => lv_ishl hX.1 hX.2.1 hd (K H locs ls hH hl)
theorem js_ishr (hX : jOK X) {x y : Int32} (hd : decode (jcc X) pc = .ok (.ishr, 1)) (K : JW X k n (pc + 1) L (.int (x >>> (y &&& 31)) :: st) μ) : JW X k n pc L (.int y :: .int x :: st) μ := fun H locs ls hH hl => lv_ishr hX.1 hX.2.1 hd (K H locs ls hH hl)
theorem js_iushr (hX : jOK X) {x y : Int32} (hd : decode (jcc X) pc = .ok (.iushr, 1)) (K : JW X k n (pc + 1) L (.int ((x.toUInt32 >>> (y.toUInt32 &&& Int32.toUInt32 31)).toInt32) :: st) μ) : JW X k n pc L (.int y :: .int x :: st) μ := fun H locs ls hH hl => lv_iushr hX.1 hX.2.1 hd rfl (K H locs ls hH hl)
theorem js_idiv (hX : jOK X) {x y : Int32} (hne : ¬ y = 0) (hd : decode (jcc X) pc = .ok (.idiv, 1)) (K : JW X k n (pc + 1) L (.int (x / y) :: st) μ) : JW X k n pc L (.int y :: .int x :: st) μ := fun H locs ls hH hl => lv_idiv hX.1 hX.2.1 hd hne (K H locs ls hH hl)
theorem js_irem (hX : jOK X) {x y : Int32} (hne : ¬ y = 0) (hd : decode (jcc X) pc = .ok (.irem, 1)) (K : JW X k n (pc + 1) L (.int (x - x / y * y) :: st) μ) : JW X k n pc L (.int y :: .int x :: st) μ := fun H locs ls hH hl => lv_irem hX.1 hX.2.1 hd hne (K H locs ls hH hl)
theorem js_ineg (hX : jOK X) {x : Int32} (hd : decode (jcc X) pc = .ok (.ineg, 1)) (K : JW X k n (pc + 1) L (.int (-x) :: st) μ) : JW X k n pc L (.int x :: st) μ := fun H locs ls hH hl => lv_ineg hX.1 hX.2.1 hd (K H locs ls hH hl)
theorem js_ladd (hX : jOK X) {x y : Int64} (hd : decode (jcc X) pc = .ok (.ladd, 1)) (K : JW X k n (pc + 1) L (.long (x + y) :: st) μ) : JW X k n pc L (.long y :: .long x :: st) μ := fun H locs ls hH hl => lv_ladd hX.1 hX.2.1 hd (K H locs ls hH hl)
theorem js_lsub (hX : jOK X) {x y : Int64} (hd : decode (jcc X) pc = .ok (.lsub, 1)) (K : JW X k n (pc + 1) L (.long (x - y) :: st) μ) : JW X k n pc L (.long y :: .long x :: st) μ := fun H locs ls hH hl => lv_lsub hX.1 hX.2.1 hd (K H locs ls hH hl)
theorem js_lmul (hX : jOK X) {x y : Int64} (hd : decode (jcc X) pc = .ok (.lmul, 1)) (K : JW X k n (pc + 1) L (.long (x * y) :: st) μ) : JW X k n pc L (.long y :: .long x :: st) μ := fun H locs ls hH hl => lv_lmul hX.1 hX.2.1 hd (K H locs ls hH hl)
theorem js_land (hX : jOK X) {x y : Int64} (hd : decode (jcc X) pc = .ok (.land, 1)) (K : JW X k n (pc + 1) L (.long (x &&& y) :: st) μ) : JW X k n pc L (.long y :: .long x :: st) μ := fun H locs ls hH hl => lv_land hX.1 hX.2.1 hd (K H locs ls hH hl)
theorem js_lor (hX : jOK X) {x y : Int64} (hd : decode (jcc X) pc = .ok (.lor, 1)) (K : JW X k n (pc + 1) L (.long (x ||| y) :: st) μ) : JW X k n pc L (.long y :: .long x :: st) μ := fun H locs ls hH hl => lv_lor hX.1 hX.2.1 hd (K H locs ls hH hl)
theorem js_ldiv (hX : jOK X) {x y : Int64} (hne : ¬ y = 0) (hd : decode (jcc X) pc = .ok (.ldiv, 1)) (K : JW X k n (pc + 1) L (.long (x / y) :: st) μ) : JW X k n pc L (.long y :: .long x :: st) μ := fun H locs ls hH hl => lv_ldiv hX.1 hX.2.1 hd hne (K H locs ls hH hl)
theorem js_lrem (hX : jOK X) {x y : Int64} (hne : ¬ y = 0) (hd : decode (jcc X) pc = .ok (.lrem, 1)) (K : JW X k n (pc + 1) L (.long (x - x / y * y) :: st) μ) : JW X k n pc L (.long y :: .long x :: st) μ := fun H locs ls hH hl => lv_lrem hX.1 hX.2.1 hd hne (K H locs ls hH hl)
theorem js_lcmp (hX : jOK X) {x y : Int64} (hd : decode (jcc X) pc = .ok (.lcmp, 1)) (K : JW X k n (pc + 1) L (.int (lg_cmp x y) :: st) μ) : JW X k n pc L (.long y :: .long x :: st) μ := fun H locs ls hH hl => W.lcmp hX.1 hX.2.1 hd (K H locs ls hH hl)
theorem js_lshl (hX : jOK X) {x : Int64} {y : Int32} (hd : decode (jcc X) pc = .ok (.lshl, 1)) (K : JW X k n (pc + 1) L (.long (x <<< (y.toInt64 &&& 63)) :: st) μ) : JW X k n pc L (.int y :: .long x :: st) μ := fun H locs ls hH hl => lv_lshl hX.1 hX.2.1 hd rfl (K H locs ls hH hl)
theorem js_lshr (hX : jOK X) {x : Int64} {y : Int32} (hd : decode (jcc X) pc = .ok (.lshr, 1)) (K : JW X k n (pc + 1) L (.long (x >>> (y.toInt64 &&& 63)) :: st) μ) : JW X k n pc L (.int y :: .long x :: st) μ := fun H locs ls hH hl => lv_lshr hX.1 hX.2.1 hd rfl (K H locs ls hH hl)
theorem js_lushr (hX : jOK X) {x : Int64} {y : Int32} (hd : decode (jcc X) pc = .ok (.lushr, 1)) (K : JW X k n (pc + 1) L (.long ((x.toUInt64 >>> (y.toInt64.toUInt64 &&& Int64.toUInt64 63)).toInt64) :: st) μ) : JW X k n pc L (.int y :: .long x :: st) μ := fun H locs ls hH hl => lv_lushr hX.1 hX.2.1 hd rfl (K H locs ls hH hl)
theorem js_i2l (hX : jOK X) {x : Int32} (hd : decode (jcc X) pc = .ok (.i2l, 1)) (K : JW X k n (pc + 1) L (.long x.toInt64 :: st) μ) : JW X k n pc L (.int x :: st) μ := fun H locs ls hH hl => lv_i2l hX.1 hX.2.1 hd rfl (K H locs ls hH hl)
theorem js_l2i (hX : jOK X) {x : Int64} (hd : decode (jcc X) pc = .ok (.l2i, 1)) (K : JW X k n (pc + 1) L (.int x.toInt32 :: st) μ) : JW X k n pc L (.long x :: st) μ := fun H locs ls hH hl => lv_l2i hX.1 hX.2.1 hd rfl (K H locs ls hH hl)
theorem js_i2b (hX : jOK X) {x : Int32} (hd : decode (jcc X) pc = .ok (.i2b, 1)) (K : JW X k n (pc + 1) L (.int x.toInt8.toInt32 :: st) μ) : JW X k n pc L (.int x :: st) μ := fun H locs ls hH hl => lv_i2b hX.1 hX.2.1 hd rfl (K H locs ls hH hl)
theorem js_i2s (hX : jOK X) {x : Int32} (hd : decode (jcc X) pc = .ok (.i2s, 1)) (K : JW X k n (pc + 1) L (.int x.toInt16.toInt32 :: st) μ) : JW X k n pc L (.int x :: st) μ := fun H locs ls hH hl => lv_i2s hX.1 hX.2.1 hd rfl (K H locs ls hH hl)
theorem js_i2c (hX : jOK X) {x : Int32} (hd : decode (jcc X) pc = .ok (.i2c, 1)) (K : JW X k n (pc + 1) L (.int (x.toUInt32 % 65536).toInt32 :: st) μ) : JW X k n pc L (.int x :: st) μ := fun H locs ls hH hl => lv_i2c hX.1 hX.2.1 hd rfl (K H locs ls hH hl)
theorem js_iconst (hX : jOK X) {i : Int} (hd : decode (jcc X) pc = .ok (.iconst i, 1)) (K : JW X k n (pc + 1) L (.int (Int32.ofInt i) :: st) μ) : JW X k n pc L (st) μ := fun H locs ls hH hl => lv_iconst hX.1 hX.2.1 hd rfl (K H locs ls hH hl)
theorem js_bipush (hX : jOK X) {i : Int} (hd : decode (jcc X) pc = .ok (.bipush i, 2)) (K : JW X k n (pc + 2) L (.int (Int8.ofInt i).toInt32 :: st) μ) : JW X k n pc L (st) μ := fun H locs ls hH hl => lv_bipush hX.1 hX.2.1 hd rfl (K H locs ls hH hl)
theorem js_sipush (hX : jOK X) {i : Int} (hd : decode (jcc X) pc = .ok (.sipush i, 3)) (K : JW X k n (pc + 3) L (.int (Int16.ofInt i).toInt32 :: st) μ) : JW X k n pc L (st) μ := fun H locs ls hH hl => lv_sipush hX.1 hX.2.1 hd rfl (K H locs ls hH hl)
theorem js_lconst (hX : jOK X) {i : Fin 2} (hd : decode (jcc X) pc = .ok (.lconst i, 1)) (K : JW X k n (pc + 1) L (.long (Int64.ofNat (i : Nat)) :: st) μ) : JW X k n pc L (st) μ := fun H locs ls hH hl => lv_lconst hX.1 hX.2.1 hd rfl (K H locs ls hH hl)
theorem js_iload_n (hX : jOK X) {i : Fin 4} {x : Int32} (hL : L[(i : Nat)]? = some (some (.int x))) (hd : decode (jcc X) pc = .ok (.iload_n i, 1)) (K : JW X k n (pc + 1) L (.int x :: st) μ) : JW X k n pc L (st) μ := fun H locs ls hH hl => lv_iload_n hX.1 hX.2.1 hd rfl (hl.2.2 _ _ hL) (K H locs ls hH hl)
theorem js_iload (hX : jOK X) {i : Nat} {x : Int32} (hL : L[i]? = some (some (.int x))) (hd : decode (jcc X) pc = .ok (.iload i, 2)) (K : JW X k n (pc + 2) L (.int x :: st) μ) : JW X k n pc L (st) μ := fun H locs ls hH hl => lv_iload hX.1 hX.2.1 hd (hl.2.2 _ _ hL) (K H locs ls hH hl)
theorem js_istore_n (hX : jOK X) {i : Fin 4} {x : Int32} (hn : (i : Nat) < jnL X) (hd : decode (jcc X) pc = .ok (.istore_n i, 1)) (K : JW X k n (pc + 1) (jst1 L (i : Nat) (.int x)) st μ) : JW X k n pc L (.int x :: st) μ := fun H locs ls hH hl => lv_istore_n hX.1 hX.2.1 hd rfl hl.has hn rfl (fun ls' h' => K H locs ls' hH (jlo_st1 h'))
theorem js_istore (hX : jOK X) {i : Nat} {x : Int32} (hn : (i : Nat) < jnL X) (hd : decode (jcc X) pc = .ok (.istore i, 2)) (K : JW X k n (pc + 2) (jst1 L (i : Nat) (.int x)) st μ) : JW X k n pc L (.int x :: st) μ := fun H locs ls hH hl => lv_istore hX.1 hX.2.1 hd hl.has hn rfl (fun ls' h' => K H locs ls' hH (jlo_st1 h'))
theorem js_lload_n (hX : jOK X) {i : Fin 4} {x : Int64} (hL : L[(i : Nat)]? = some (some (.long x))) (hd : decode (jcc X) pc = .ok (.lload_n i, 1)) (K : JW X k n (pc + 1) L (.long x :: st) μ) : JW X k n pc L (st) μ := fun H locs ls hH hl => lv_lload_n hX.1 hX.2.1 hd rfl (hl.2.2 _ _ hL) (K H locs ls hH hl)
theorem js_lload (hX : jOK X) {i : Nat} {x : Int64} (hL : L[i]? = some (some (.long x))) (hd : decode (jcc X) pc = .ok (.lload i, 2)) (K : JW X k n (pc + 2) L (.long x :: st) μ) : JW X k n pc L (st) μ := fun H locs ls hH hl => lv_lload hX.1 hX.2.1 hd (hl.2.2 _ _ hL) (K H locs ls hH hl)
theorem js_lstore_n (hX : jOK X) {i : Fin 4} {x : Int64} (hn : (i : Nat) + 1 < jnL X) (hd : decode (jcc X) pc = .ok (.lstore_n i, 1)) (K : JW X k n (pc + 1) (jst2 L (i : Nat) (.long x)) st μ) : JW X k n pc L (.long x :: st) μ := fun H locs ls hH hl => lv_lstore_n hX.1 hX.2.1 hd rfl hl.has hn rfl (fun ls' h' => K H locs ls' hH (jlo_st2 h'))
theorem js_lstore (hX : jOK X) {i : Nat} {x : Int64} (hn : (i : Nat) + 1 < jnL X) (hd : decode (jcc X) pc = .ok (.lstore i, 2)) (K : JW X k n (pc + 2) (jst2 L (i : Nat) (.long x)) st μ) : JW X k n pc L (.long x :: st) μ := fun H locs ls hH hl => lv_lstore hX.1 hX.2.1 hd hl.has hn rfl (fun ls' h' => K H locs ls' hH (jlo_st2 h'))
theorem js_aload_n (hX : jOK X) {i : Fin 4} {x : Nat} (hL : L[(i : Nat)]? = some (some (.ref x))) (hd : decode (jcc X) pc = .ok (.aload_n i, 1)) (K : JW X k n (pc + 1) L (.ref x :: st) μ) : JW X k n pc L (st) μ := fun H locs ls hH hl => lv_aload_n hX.1 hX.2.1 hd rfl (hl.2.2 _ _ hL) (K H locs ls hH hl)
theorem js_aload (hX : jOK X) {i : Nat} {x : Nat} (hL : L[i]? = some (some (.ref x))) (hd : decode (jcc X) pc = .ok (.aload i, 2)) (K : JW X k n (pc + 2) L (.ref x :: st) μ) : JW X k n pc L (st) μ := fun H locs ls hH hl => lv_aload hX.1 hX.2.1 hd (hl.2.2 _ _ hL) (K H locs ls hH hl)
theorem js_astore_n (hX : jOK X) {i : Fin 4} {x : Nat} (hn : (i : Nat) < jnL X) (hd : decode (jcc X) pc = .ok (.astore_n i, 1)) (K : JW X k n (pc + 1) (jst1 L (i : Nat) (.ref x)) st μ) : JW X k n pc L (.ref x :: st) μ := fun H locs ls hH hl => lv_astore_n hX.1 hX.2.1 hd rfl hl.has hn rfl (fun ls' h' => K H locs ls' hH (jlo_st1 h'))
theorem js_astore (hX : jOK X) {i : Nat} {x : Nat} (hn : (i : Nat) < jnL X) (hd : decode (jcc X) pc = .ok (.astore i, 2)) (K : JW X k n (pc + 2) (jst1 L (i : Nat) (.ref x)) st μ) : JW X k n pc L (.ref x :: st) μ := fun H locs ls hH hl => lv_astore hX.1 hX.2.1 hd hl.has hn rfl (fun ls' h' => K H locs ls' hH (jlo_st1 h'))
theorem js_iinc (hX : jOK X) {i : Nat} {c : Int} {x : Int32} (hL : L[i]? = some (some (.int x))) (hn : i < jnL X) (hd : decode (jcc X) pc = .ok (.iinc i c, 3)) (K : JW X k n (pc + 3) (jst1 L i (.int (x + Int32.ofInt c))) st μ) : JW X k n pc L st μ := fun H locs ls hH hl => by
  obtain ⟨j, hj⟩ := List.getElem?_of_mem (jas_mem (ad := jad X) (q := (i, .int x)) |>.mpr ⟨.int x, hL, rfl⟩)
  exact lv_iinc hX.1 hX.2.1 hd hl.has hj rfl hn rfl (fun ls' h' => K H locs ls' hH (jlo_st1 (v := .int (x + Int32.ofInt c)) h'))
theorem js_dup (hX : jOK X) {v : Value} (hc : v.category = 1) (hd : decode (jcc X) pc = .ok (.dup, 1)) (K : JW X k n (pc + 1) L (v :: v :: st) μ) : JW X k n pc L (v :: st) μ := fun H locs ls hH hl => lv_dup hX.1 hX.2.1 hd (by rw [jre_cat]; exact hc) (K H locs ls hH hl)
theorem js_pop (hX : jOK X) {v : Value} (hc : v.category = 1) (hd : decode (jcc X) pc = .ok (.pop, 1)) (K : JW X k n (pc + 1) L (st) μ) : JW X k n pc L (v :: st) μ := fun H locs ls hH hl => lv_pop hX.1 hX.2.1 hd (by rw [jre_cat]; exact hc) (K H locs ls hH hl)
theorem js_pop2 (hX : jOK X) {v : Value} (hc : v.category = 2) (hd : decode (jcc X) pc = .ok (.pop2, 1)) (K : JW X k n (pc + 1) L (st) μ) : JW X k n pc L (v :: st) μ := fun H locs ls hH hl => lv_pop2_2 hX.1 hX.2.1 hd (by rw [jre_cat]; exact hc) (K H locs ls hH hl)
theorem js_dup2 (hX : jOK X) {v u : Value} (hc : v.category = 1) (hu : u.category = 1) (hd : decode (jcc X) pc = .ok (.dup2, 1)) (K : JW X k n (pc + 1) L (v :: u :: v :: u :: st) μ) : JW X k n pc L (v :: u :: st) μ := fun H locs ls hH hl => lv_dup2_11 hX.1 hX.2.1 hd (by rw [jre_cat]; exact hc) (by rw [jre_cat]; exact hu) (K H locs ls hH hl)
theorem js_ldc (hX : jOK X) {i : Nat} {v : Int32} (hv : (i, v) ∈ (jtb X).2.1) (hd : decode (jcc X) pc = .ok (.ldc i, 2)) (K : JW X k n (pc + 2) L (.int v :: st) μ) : JW X k n pc L (st) μ := fun H locs ls hH hl => lv_ldc hX.1 hX.2.1 hX.2.2.2.1 (hX.2.2.2.2.1 _ (hX.2.2.2.2.2.2.2.2.2.2.2.2.2.1.2.1 (i, v) hv)) hd (K H locs ls hH hl)
theorem js_ldcw (hX : jOK X) {i : Nat} {v : Int32} (hv : (i, v) ∈ (jtb X).2.1) (hd : decode (jcc X) pc = .ok (.ldc_w i, 3)) (K : JW X k n (pc + 3) L (.int v :: st) μ) : JW X k n pc L (st) μ := fun H locs ls hH hl => lv_ldcw hX.1 hX.2.1 hX.2.2.2.1 (hX.2.2.2.2.1 _ (hX.2.2.2.2.2.2.2.2.2.2.2.2.2.1.2.1 (i, v) hv)) hd (K H locs ls hH hl)
theorem js_ldc2 (hX : jOK X) {i : Nat} {v : Int64} (hv : (i, v) ∈ (jtb X).2.2.1) (hd : decode (jcc X) pc = .ok (.ldc2_w i, 3)) (K : JW X k n (pc + 3) L (.long v :: st) μ) : JW X k n pc L (st) μ := fun H locs ls hH hl => lv_ldc2 hX.1 hX.2.1 hX.2.2.2.1 (hX.2.2.2.2.1 _ (hX.2.2.2.2.2.2.2.2.2.2.2.2.2.1.2.2.1 (i, v) hv)) hd (K H locs ls hH hl)
/-! heap -/
theorem jcl_in : ∀ (ci : Nat) (C : String) (T : u_T) (N : Nat), vwCl[ci]? = some (C, T, N) → (∀ w ∈ u_ws C T N, w ∈ jbig) ∧ (∃ ty0 : Nat → FieldType, ∀ k, k < N → parseFieldDescriptor (T k).2.2.1 = some (ty0 k)) ∧ ∀ a, a < N → ∀ b, b < N → a ≠ b → (T a).2.1 ≠ (T b).2.1
  | 0, _, _, _, h => by cases h; exact ⟨by decide +kernel, ⟨tyX0, tyX0_ok⟩, nmX0⟩
  | 1, _, _, _, h => by cases h; exact ⟨by decide +kernel, ⟨tyX1, tyX1_ok⟩, nmX1⟩
  | 2, _, _, _, h => by cases h; exact ⟨by decide +kernel, ⟨tyX2, tyX2_ok⟩, nmX2⟩
  | 3, _, _, _, h => by cases h; exact ⟨by decide +kernel, ⟨tyX3, tyX3_ok⟩, nmX3⟩
  | 4, _, _, _, h => by cases h; exact ⟨by decide +kernel, ⟨tyX4, tyX4_ok⟩, nmX4⟩
  | 5, _, _, _, h => by cases h; exact ⟨by decide +kernel, ⟨tyX5, tyX5_ok⟩, nmX5⟩
  | 6, _, _, _, h => by cases h; exact ⟨by decide +kernel, ⟨tyX6, tyX6_ok⟩, nmX6⟩
  | n + 7, _, _, _, h => by simp [vwCl] at h
theorem js_get (hX : jOK X) {a ci s kd i : Nat} {fs : List Value} {v : Value} (ht : (i, ci, s, kd) ∈ (jtb X).1) (hμ : μ[a]? = some (.inr (.inr (.inl (ci, fs))))) (hv : fs[s]? = some v) (hd : decode (jcc X) pc = .ok (.getfield i, 3)) (K : JW X k n (pc + 3) L (v :: st) μ) : JW X k n pc L (.ref a :: st) μ := fun H locs ls hH hl => by
  obtain ⟨C, T, N, ty, h1, h2, h3, -⟩ := hX.2.2.2.2.2.2.2.2.2.2.2.2.2.1.1 _ ht
  exact va_get (v := jre (jad X) v) hX.1 hX.2.1 hX.2.2.2.2.1 (jcl_in _ _ _ _ h1).1 hX.2.2.2.1 hX.2.2.2.2.2.1 hH.1 a (jpl_at hμ) h1 s h2 (hX.2.2.2.2.1 _ h3) (fun _ h => h) (by rw [List.getElem?_map, hv]; rfl) hd (K H locs ls hH hl)
theorem jput_set {fs : List Value} {ad : Nat → Nat} {s : Nat} {v : Value} : (fs.map (jre ad)).set s (jre ad v) = (fs.set s v).map (jre ad) := (List.map_set).symm
theorem jHP.upd {μ' : jH} {H H1 : Heap} {locs locs1 : List Loc} (h : jHP X μ H locs) (hl : μ'.length = μ.length) (hz : H1.size = H.size) (hP : va_P (jD X) vwCl (jpl (jad X) (jcA X) μ') H1) (hD : va_D (jA X) (jpl (jad X) (jcA X) μ')) (hS : va_S (jA X) (js X).heap H1 locs1) : jHP X μ' H1 locs1 :=
  ⟨hP, hD, hS, by rw [hz, hl]; exact h.2.2.2⟩
end JS
end
section
section JS2
variable {X : jX} {k n pc : Nat} {L : List (Option Value)} {st : List Value} {μ : jH}
theorem js_iald (hX : jOK X) {a N : Nat} {f : Nat → Int32} {i : Int32} (hμ : μ[a]? = some (.inl (0, N, f))) (hin : jin i N = true) (hd : decode (jcc X) pc = .ok (.iaload, 1)) (K : JW X k n (pc + 1) L (.int (f i.toNatClampNeg) :: st) μ) : JW X k n pc L (.int i :: .ref a :: st) μ := fun H locs ls hH hl =>
  va_iald hX.1 hX.2.1 hX.2.2.2.2.2.1 hH.1 a 0 (jpl_at hμ) rfl (jin_vp hin) hd (K H locs ls hH hl)
theorem js_bald (hX : jOK X) {a N : Nat} {f : Nat → Int32} {i : Int32} (hμ : μ[a]? = some (.inl (2, N, f))) (hin : jin i N = true) (hd : decode (jcc X) pc = .ok (.baload, 1)) (K : JW X k n (pc + 1) L (.int (f i.toNatClampNeg) :: st) μ) : JW X k n pc L (.int i :: .ref a :: st) μ := fun H locs ls hH hl =>
  va_bald hX.1 hX.2.1 hX.2.2.2.2.2.1 hH.1 a 2 (jpl_at hμ) rfl (jin_vp hin) hd (K H locs ls hH hl)
theorem js_zald (hX : jOK X) {a N : Nat} {f : Nat → Int32} {i : Int32} (hμ : μ[a]? = some (.inl (3, N, f))) (hin : jin i N = true) (hd : decode (jcc X) pc = .ok (.baload, 1)) (K : JW X k n (pc + 1) L (.int (f i.toNatClampNeg) :: st) μ) : JW X k n pc L (.int i :: .ref a :: st) μ := fun H locs ls hH hl =>
  va_zald hX.1 hX.2.1 hX.2.2.2.2.2.1 hH.1 a 3 (jpl_at hμ) rfl (jin_vp hin) hd (K H locs ls hH hl)
theorem js_lald (hX : jOK X) {a N : Nat} {f : Nat → Int64} {i : Int32} (hμ : μ[a]? = some (.inr (.inl (N, f)))) (hin : jin i N = true) (hd : decode (jcc X) pc = .ok (.laload, 1)) (K : JW X k n (pc + 1) L (.long (f i.toNatClampNeg) :: st) μ) : JW X k n pc L (.int i :: .ref a :: st) μ := fun H locs ls hH hl =>
  va_lald hX.1 hX.2.1 hX.2.2.2.2.2.1 hH.1 a 1 (jpl_at hμ) rfl (jin_vp hin) hd (K H locs ls hH hl)
/-- the script -/
theorem js_sald (hX : jOK X) {z : Nat × (Nat → Int32)} {i : Int32} (hz : (jtb X).2.2.2.2 = some z) (hin : jin i z.1 = true) (hd : decode (jcc X) pc = .ok (.iaload, 1)) (K : JW X k n (pc + 1) L (.int (z.2 i.toNatClampNeg) :: st) μ) : JW X k n pc L (.int i :: .ref 2000000 :: st) μ := fun H locs ls hH hl => by
  obtain ⟨h1, h2, h3⟩ := hX.2.2.2.2.2.2.2.2.2.2.2.2.2.2 z hz
  exact va_sld hX.1 hX.2.1 h1 h2 h3 hH.2.2.1 (jin_vp hin) hd (K H locs ls hH hl)
theorem js_salen (hX : jOK X) {z : Nat × (Nat → Int32)} (hz : (jtb X).2.2.2.2 = some z) (hd : decode (jcc X) pc = .ok (.arraylength, 1)) (K : JW X k n (pc + 1) L (.int (Int32.ofNat z.1) :: st) μ) : JW X k n pc L (.ref 2000000 :: st) μ := fun H locs ls hH hl => by
  obtain ⟨h1, h2, h3⟩ := hX.2.2.2.2.2.2.2.2.2.2.2.2.2.2 z hz
  exact va_slen hX.1 hX.2.1 h1 h2 h3 hH.2.2.1 hd (K H locs ls hH hl)
/-- the length of a row -/
theorem js_alen (hX : jOK X) {a t N : Nat} {f : Nat → Int32} (ht : t = 0 ∨ t = 2 ∨ t = 3) (hμ : μ[a]? = some (.inl (t, N, f))) (hd : decode (jcc X) pc = .ok (.arraylength, 1)) (K : JW X k n (pc + 1) L (.int (Int32.ofNat N) :: st) μ) : JW X k n pc L (.ref a :: st) μ := fun H locs ls hH hl => by
  rcases ht with rfl | rfl | rfl
  · exact va_alen hX.1 hX.2.1 hX.2.2.2.2.2.1 hH.1 a 0 (jpl_at hμ) rfl rfl hd (K H locs ls hH hl)
  · exact va_alen hX.1 hX.2.1 hX.2.2.2.2.2.1 hH.1 a 2 (jpl_at hμ) rfl rfl hd (K H locs ls hH hl)
  · exact va_alen hX.1 hX.2.1 hX.2.2.2.2.2.1 hH.1 a 3 (jpl_at hμ) rfl rfl hd (K H locs ls hH hl)
theorem js_llen (hX : jOK X) {a N : Nat} {f : Nat → Int64} (hμ : μ[a]? = some (.inr (.inl (N, f)))) (hd : decode (jcc X) pc = .ok (.arraylength, 1)) (K : JW X k n (pc + 1) L (.int (Int32.ofNat N) :: st) μ) : JW X k n pc L (.ref a :: st) μ := fun H locs ls hH hl =>
  va_alen hX.1 hX.2.1 hX.2.2.2.2.2.1 hH.1 a 1 (jpl_at hμ) rfl rfl hd (K H locs ls hH hl)
/-- a row of references -/
theorem js_aald (hX : jOK X) {a t r : Nat} {rs : List (Option Nat)} {i : Int32} (ht : t = 4 ∨ t = 5) (hμ : μ[a]? = some (.inr (.inr (.inr (t, rs))))) (hin : jin i rs.length = true) (hr : rs[i.toNatClampNeg]? = some (some r)) (hd : decode (jcc X) pc = .ok (.aaload, 1)) (K : JW X k n (pc + 1) L (.ref r :: st) μ) : JW X k n pc L (.int i :: .ref a :: st) μ := fun H locs ls hH hl => by
  have e : va_rf (((rs.map (Option.map (jad X)))[i.toNatClampNeg]?).getD none) = .ref (jad X r) := by
    rw [List.getElem?_map, hr]; rfl
  have K9 := K H locs ls hH hl
  rcases ht with rfl | rfl
  · exact va_aldq (C := RX3) hX.1 hX.2.1 hX.2.2.2.2.2.1 hH.1 a 4 (jpl_at hμ) rfl (jin_vp hin) hd (by rw [e]; exact K9)
  · exact va_aldq (C := RX4) hX.1 hX.2.1 hX.2.2.2.2.2.1 hH.1 a 5 (jpl_at hμ) rfl (jin_vp hin) hd (by rw [e]; exact K9)
theorem js_put0 (hX : jOK X) {a ci s kd i : Nat} {fs : List Value} {v : Value} (ht : (i, ci, s, kd) ∈ (jtb X).1) (hμ : μ[a]? = some (.inr (.inr (.inl (ci, fs))))) (hs : s < fs.length)
    (hty : ∀ (C : String) (T : u_T) (N : Nat) (ty : FieldType), vwCl[ci]? = some (C, T, N) → parseFieldDescriptor (T s).2.2.1 = some ty → (kd = 0 → ty = .int ∧ (T s).2.2.2 = false) → (kd = 1 → ty = .boolean ∧ (T s).2.2.2 = false) → (T s).2.2.2 = false ∧ narrow ty (jre (jad X) v) = jre (jad X) v ∧ fits ty (jre (jad X) v) = true)
    (hd : decode (jcc X) pc = .ok (.putfield i, 3)) (K : JW X k n (pc + 3) L st (μ.set a (.inr (.inr (.inl (ci, fs.set s v)))))) : JW X k n pc L (v :: .ref a :: st) μ := fun H locs ls hH hl => by
  obtain ⟨C, T, N, ty, hc, hk, h3, hp, hk0, hk1, -⟩ := hX.2.2.2.2.2.2.2.2.2.2.2.2.2.1.1 _ ht
  obtain ⟨hin, ⟨ty0, hty0⟩, hnm⟩ := jcl_in _ _ _ _ hc
  obtain ⟨hfin, hn, hfit⟩ := hty C T N ty hc hp hk0 hk1
  have hts := hX.2.2.2.2.1
  have hK := hX.2.2.2.2.2.1
  have hP := hH.1
  have hD := hH.2.1
  have he := jpl_at (ad := jad X) (cA := jcA X) hμ
  have hap := va_apart (own := jown X) hts hin ty0 hty0 hnm hK hc
  obtain ⟨r, h1, cell, q1, q2, q3, q4⟩ := hP a _ he
  have hr : r = (C, T, N) := Option.some.inj (h1.symm.trans hc)
  subst hr
  obtain ⟨hS, hfc, kC, hkC, hkind⟩ := hK.1 ci _ hc
  obtain ⟨cf, kf, fi, f, hi, hsl⟩ := hS s hk
  have hlay := hts _ (hin _ (u_in_lay hk))
  unfold u_lay at hlay
  rw [if_neg (by rw [hfin]; decide)] at hlay
  have hst := (u_facts hfc hkC (u_lays hts hin hk) hi).1
  have h6 := u_store hfc hkC hkind hlay hi hp hn hfit
  refine W.putK hX.1 hX.2.1 (f := f) ⟨hX.2.2.2.1, hts _ h3, ⟨_, _, _, hi⟩, hst⟩ (by rw [q2]; exact h6) q1 q3 (by rw [hsl]; exact k2_hasslot (q4 s hk)) rfl rfl hd fun H' e1 e2 e3 => ?_
  rw [hsl] at e1 ⊢
  have hl2 : s < (fs.map (jre (jad X))).length := by rw [List.length_map]; exact hs
  have hP2 := hP.set hD he (e := .inr (ci, (fs.map (jre (jad X))).set s (jre (jad X) v))) ⟨_, hc, t_OB.to (V := updV (vp_V (fs.map (jre (jad X)))) s (jre (jad X) v)) ⟨_, e1, q2, q3, t_set q4 hap hk (jre (jad X) v)⟩ (fun j _ => vp_updV_set hl2 (jre (jad X) v) j)⟩ e3
  have hD2 := hD.set (e := .inr (ci, (fs.map (jre (jad X))).set s (jre (jad X) v))) he
  have e9 : (jpl (jad X) (jcA X) μ).set a (jad X a, .inr (ci, (fs.map (jre (jad X))).set s (jre (jad X) v))) = jpl (jad X) (jcA X) (μ.set a (.inr (.inr (.inl (ci, fs.set s v))))) := by
    rw [jput_set]
    exact jpl_set (jad X) (jcA X) μ a (.inr (.inr (.inl (ci, fs.set s v))))
  rw [e9] at hP2 hD2
  exact K H' _ ls (hH.upd (by simp) e2 hP2 hD2 (hH.2.2.1.put e2 e3 (hD.2 a _ he))) hl
/-- a field that is an int -/
theorem js_put (hX : jOK X) {a ci s i : Nat} {fs : List Value} {x : Int32} (ht : (i, ci, s, 0) ∈ (jtb X).1) (hμ : μ[a]? = some (.inr (.inr (.inl (ci, fs))))) (hs : s < fs.length) (hd : decode (jcc X) pc = .ok (.putfield i, 3)) (K : JW X k n (pc + 3) L st (μ.set a (.inr (.inr (.inl (ci, fs.set s (.int x))))))) : JW X k n pc L (.int x :: .ref a :: st) μ :=
  js_put0 hX ht hμ hs (fun C T N ty hc hp h0 h1 => by obtain ⟨rfl, hf⟩ := h0 rfl; exact ⟨hf, rfl, rfl⟩) hd K
/-- a field that is a boolean -/
def jz (x : Int32) : Bool := decide (narrow .boolean (.int x) = .int x) && fits .boolean (.int x)
theorem js_putz (hX : jOK X) {a ci s i : Nat} {fs : List Value} {x : Int32} (hz : jz x = true) (ht : (i, ci, s, 1) ∈ (jtb X).1) (hμ : μ[a]? = some (.inr (.inr (.inl (ci, fs))))) (hs : s < fs.length) (hd : decode (jcc X) pc = .ok (.putfield i, 3)) (K : JW X k n (pc + 3) L st (μ.set a (.inr (.inr (.inl (ci, fs.set s (.int x))))))) : JW X k n pc L (.int x :: .ref a :: st) μ := by
  simp only [jz, Bool.and_eq_true, decide_eq_true_eq] at hz
  exact js_put0 hX ht hμ hs (fun C T N ty hc hp h0 h1 => by obtain ⟨rfl, hf⟩ := h1 rfl; exact ⟨hf, hz.1, hz.2⟩) hd K

theorem js_iast (hX : jOK X) {a N : Nat} {f : Nat → Int32} {i : Int32} {x : Int32} (hμ : μ[a]? = some (.inl (0, N, f))) (hin : jin i N = true) (hd : decode (jcc X) pc = .ok (.iastore, 1)) (K : JW X k n (pc + 1) L st (μ.set a (.inl (0, N, upd f i.toNatClampNeg x)))) : JW X k n pc L (.int x :: .int i :: .ref a :: st) μ := fun H locs ls hH hl => by
  have hP := hH.1
  have hD := hH.2.1
  have ha := jpl_at (ad := jad X) (cA := jcA X) hμ
  have ha : (jpl (jad X) (jcA X) μ)[a]? = some (jad X a, .inl (jcA X 0, N, .inl f)) := ha
  have hin := jin_vp hin
  refine W.iast hX.1 hX.2.1 (hP a _ ha) ((hX.2.2.2.2.2.1.2 0 (jcA X 0, .int) rfl).1 N (fun j => .int (f j))) (fun q => by cases q) (by show ¬ (i < 0 ∨ (arrV _ _ _).slots.size ≤ _); rw [arrV_size]; exact hin) rfl rfl hd fun H1 e z oq => ?_
  have hP2 := hP.set hD ha (e := jrE (jad X) (jcA X) (.inl (0, N, upd f i.toNatClampNeg x))) (H1 := H1) (by
    show H1[jad X a]? = some (vp_cell _ _)
    rw [e]
    rw [vp_cell_i, vp_cell_i, arrV_store]
    congr 2
    funext q
    by_cases hq : q = i.toNatClampNeg
    · subst hq
      simp [updV, upd]
      try rfl
    · simp [updV, upd, hq]) oq
  have hD2 := hD.set (e := jrE (jad X) (jcA X) (.inl (0, N, upd f i.toNatClampNeg x))) ha
  rw [jpl_set] at hP2 hD2
  exact K H1 _ ls (hH.upd (by simp) z hP2 hD2 (hH.2.2.1.put z oq (hD.2 a _ ha))) hl
theorem js_bast (hX : jOK X) {a N : Nat} {f : Nat → Int32} {i : Int32} {x : Int32} (hμ : μ[a]? = some (.inl (2, N, f))) (hin : jin i N = true) (hd : decode (jcc X) pc = .ok (.bastore, 1)) (K : JW X k n (pc + 1) L st (μ.set a (.inl (2, N, upd f i.toNatClampNeg (vp_nar .byte x))))) : JW X k n pc L (.int x :: .int i :: .ref a :: st) μ := fun H locs ls hH hl => by
  have hP := hH.1
  have hD := hH.2.1
  have ha := jpl_at (ad := jad X) (cA := jcA X) hμ
  have ha : (jpl (jad X) (jcA X) μ)[a]? = some (jad X a, .inl (jcA X 2, N, .inl f)) := ha
  have hin := jin_vp hin
  refine W.bast hX.1 hX.2.1 (hP a _ ha) ((hX.2.2.2.2.2.1.2 2 (jcA X 2, .byte) rfl).1 N (fun j => .int (f j))) (fun q => by cases q) (by show ¬ (i < 0 ∨ (arrV _ _ _).slots.size ≤ _); rw [arrV_size]; exact hin) rfl rfl hd fun H1 e z oq => ?_
  have hP2 := hP.set hD ha (e := jrE (jad X) (jcA X) (.inl (2, N, upd f i.toNatClampNeg (vp_nar .byte x)))) (H1 := H1) (by
    show H1[jad X a]? = some (vp_cell _ _)
    rw [e]
    rw [vp_cell_i, vp_cell_i, arrV_store]
    congr 2
    funext q
    by_cases hq : q = i.toNatClampNeg
    · subst hq
      simp [updV, upd, vp_nar]
      try rfl
    · simp [updV, upd, vp_nar, hq]) oq
  have hD2 := hD.set (e := jrE (jad X) (jcA X) (.inl (2, N, upd f i.toNatClampNeg (vp_nar .byte x)))) ha
  rw [jpl_set] at hP2 hD2
  exact K H1 _ ls (hH.upd (by simp) z hP2 hD2 (hH.2.2.1.put z oq (hD.2 a _ ha))) hl
theorem js_zast (hX : jOK X) {a N : Nat} {f : Nat → Int32} {i : Int32} {x : Int32} (hμ : μ[a]? = some (.inl (3, N, f))) (hin : jin i N = true) (hd : decode (jcc X) pc = .ok (.bastore, 1)) (K : JW X k n (pc + 1) L st (μ.set a (.inl (3, N, upd f i.toNatClampNeg (vp_nar .boolean x))))) : JW X k n pc L (.int x :: .int i :: .ref a :: st) μ := fun H locs ls hH hl => by
  have hP := hH.1
  have hD := hH.2.1
  have ha := jpl_at (ad := jad X) (cA := jcA X) hμ
  have ha : (jpl (jad X) (jcA X) μ)[a]? = some (jad X a, .inl (jcA X 3, N, .inl f)) := ha
  have hin := jin_vp hin
  refine W.zast hX.1 hX.2.1 (hP a _ ha) ((hX.2.2.2.2.2.1.2 3 (jcA X 3, .boolean) rfl).1 N (fun j => .int (f j))) (fun q => by cases q) (by show ¬ (i < 0 ∨ (arrV _ _ _).slots.size ≤ _); rw [arrV_size]; exact hin) rfl rfl hd fun H1 e z oq => ?_
  have hP2 := hP.set hD ha (e := jrE (jad X) (jcA X) (.inl (3, N, upd f i.toNatClampNeg (vp_nar .boolean x)))) (H1 := H1) (by
    show H1[jad X a]? = some (vp_cell _ _)
    rw [e]
    rw [vp_cell_i, vp_cell_i, arrV_store]
    congr 2
    funext q
    by_cases hq : q = i.toNatClampNeg
    · subst hq
      simp [updV, upd, vp_nar]
      try rfl
    · simp [updV, upd, vp_nar, hq]) oq
  have hD2 := hD.set (e := jrE (jad X) (jcA X) (.inl (3, N, upd f i.toNatClampNeg (vp_nar .boolean x)))) ha
  rw [jpl_set] at hP2 hD2
  exact K H1 _ ls (hH.upd (by simp) z hP2 hD2 (hH.2.2.1.put z oq (hD.2 a _ ha))) hl
theorem js_last (hX : jOK X) {a N : Nat} {f : Nat → Int64} {i : Int32} {x : Int64} (hμ : μ[a]? = some (.inr (.inl (N, f)))) (hin : jin i N = true) (hd : decode (jcc X) pc = .ok (.lastore, 1)) (K : JW X k n (pc + 1) L st (μ.set a (.inr (.inl (N, vp_updL f i.toNatClampNeg x))))) : JW X k n pc L (.long x :: .int i :: .ref a :: st) μ := fun H locs ls hH hl => by
  have hP := hH.1
  have hD := hH.2.1
  have ha := jpl_at (ad := jad X) (cA := jcA X) hμ
  have ha : (jpl (jad X) (jcA X) μ)[a]? = some (jad X a, .inl (jcA X 1, N, .inr (.inl f))) := ha
  have hin := jin_vp hin
  refine W.last hX.1 hX.2.1 (hP a _ ha) ((hX.2.2.2.2.2.1.2 1 (jcA X 1, .long) rfl).1 N (fun j => .long (f j))) (fun q => by cases q) (by show ¬ (i < 0 ∨ (arrV _ _ _).slots.size ≤ _); rw [arrV_size]; exact hin) rfl rfl hd fun H1 e z oq => ?_
  have hP2 := hP.set hD ha (e := jrE (jad X) (jcA X) (.inr (.inl (N, vp_updL f i.toNatClampNeg x)))) (H1 := H1) (by
    show H1[jad X a]? = some (vp_cell _ _)
    rw [e]
    rw [vp_cell_l, vp_cell_l, arrV_store]
    congr 2
    funext q
    by_cases hq : q = i.toNatClampNeg
    · subst hq
      simp [updV, vp_updL]
      try rfl
    · simp [updV, vp_updL, hq]) oq
  have hD2 := hD.set (e := jrE (jad X) (jcA X) (.inr (.inl (N, vp_updL f i.toNatClampNeg x)))) ha
  rw [jpl_set] at hP2 hD2
  exact K H1 _ ls (hH.upd (by simp) z hP2 hD2 (hH.2.2.1.put z oq (hD.2 a _ ha))) hl
end JS2
end
section
/-! stretches without a branch, by computation -/
def jlk {α : Type} : List (Nat × α) → Nat → Option α
  | [], _ => none
  | q :: r, i => if q.1 = i then some q.2 else jlk r i
theorem jlk_mem {α : Type} : ∀ (l : List (Nat × α)) (i : Nat) (a : α), jlk l i = some a → (i, a) ∈ l
  | [], i, a, h => by cases h
  | q :: r, i, a, h => by
    simp only [jlk] at h
    split at h
    · next e => cases h; subst e; exact List.mem_cons_self
    · exact List.mem_cons_of_mem _ (jlk_mem r i a h)
/-- what an instruction gives: its length, what must hold, locals, stack, world -/
abbrev jO : Type := Option (Nat × Option Prop × List (Option Value) × List Value × jH)
def jii (f : Int32 → Int32 → Int32) (L : List (Option Value)) (st : List Value) (μ : jH) : jO := match st with
  | .int y :: .int x :: r => some (1, none, L, .int (f x y) :: r, μ)
  | _ => none
def jll (f : Int64 → Int64 → Int64) (L : List (Option Value)) (st : List Value) (μ : jH) : jO := match st with
  | .long y :: .long x :: r => some (1, none, L, .long (f x y) :: r, μ)
  | _ => none
def jli (f : Int64 → Int32 → Int64) (L : List (Option Value)) (st : List Value) (μ : jH) : jO := match st with
  | .int y :: .long x :: r => some (1, none, L, .long (f x y) :: r, μ)
  | _ => none
def jid (f : Int32 → Int32 → Int32) (L : List (Option Value)) (st : List Value) (μ : jH) : jO := match st with
  | .int y :: .int x :: r => some (1, some (¬ y = 0), L, .int (f x y) :: r, μ)
  | _ => none
def jld (f : Int64 → Int64 → Int64) (L : List (Option Value)) (st : List Value) (μ : jH) : jO := match st with
  | .long y :: .long x :: r => some (1, some (¬ y = 0), L, .long (f x y) :: r, μ)
  | _ => none
def ji1 (f : Int32 → Int32) (L : List (Option Value)) (st : List Value) (μ : jH) : jO := match st with
  | .int x :: r => some (1, none, L, .int (f x) :: r, μ)
  | _ => none
def jldi (i len : Nat) (L : List (Option Value)) (st : List Value) (μ : jH) : jO := match L[i]? with
  | some (some (.int x)) => some (len, none, L, .int x :: st, μ)
  | _ => none
def jldl (i len : Nat) (L : List (Option Value)) (st : List Value) (μ : jH) : jO := match L[i]? with
  | some (some (.long x)) => some (len, none, L, .long x :: st, μ)
  | _ => none
def jlda (i len : Nat) (L : List (Option Value)) (st : List Value) (μ : jH) : jO := match L[i]? with
  | some (some (.ref x)) => some (len, none, L, .ref x :: st, μ)
  | _ => none
def jsti (nL i len : Nat) (L : List (Option Value)) (st : List Value) (μ : jH) : jO := match st with
  | .int x :: r => if i < nL then some (len, none, jst1 L i (.int x), r, μ) else none
  | _ => none
def jsta (nL i len : Nat) (L : List (Option Value)) (st : List Value) (μ : jH) : jO := match st with
  | .ref x :: r => if i < nL then some (len, none, jst1 L i (.ref x), r, μ) else none
  | _ => none
def jstl (nL i len : Nat) (L : List (Option Value)) (st : List Value) (μ : jH) : jO := match st with
  | .long x :: r => if i + 1 < nL then some (len, none, jst2 L i (.long x), r, μ) else none
  | _ => none
def jinc (nL i : Nat) (c : Int) (L : List (Option Value)) (st : List Value) (μ : jH) : jO := match L[i]? with
  | some (some (.int x)) => if i < nL then some (3, none, jst1 L i (.int (x + Int32.ofInt c)), st, μ) else none
  | _ => none
def jgetf (tb : jT) (i : Nat) (L : List (Option Value)) (st : List Value) (μ : jH) : jO := match st with
  | .ref a :: r => match jlk tb.1 i with
    | some (ci, s, _) => match μ[a]? with
      | some (.inr (.inr (.inl (c, fs)))) => if c = ci then match fs[s]? with
        | some v => some (3, none, L, v :: r, μ)
        | none => none
        else none
      | _ => none
    | none => none
  | _ => none
def jputf (tb : jT) (i : Nat) (L : List (Option Value)) (st : List Value) (μ : jH) : jO := match st with
  | .int x :: .ref a :: r => match jlk tb.1 i with
    | some (ci, s, kd) => match μ[a]? with
      | some (.inr (.inr (.inl (c, fs)))) => if c = ci ∧ s < fs.length then (if kd = 0 then some (3, none, L, r, μ.set a (.inr (.inr (.inl (ci, fs.set s (.int x)))))) else if kd = 1 then some (3, some (jz x = true), L, r, μ.set a (.inr (.inr (.inl (ci, fs.set s (.int x)))))) else none) else none
      | _ => none
    | none => none
  | _ => none
def jaldi (tb : jT) (L : List (Option Value)) (st : List Value) (μ : jH) : jO := match st with
  | .int i :: .ref a :: r => if a = 2000000 then (match tb.2.2.2.2 with
      | some z => some (1, some (jin i z.1 = true), L, .int (z.2 i.toNatClampNeg) :: r, μ)
      | none => none) else match μ[a]? with
    | some (.inl (t, N, f)) => if t = 0 then some (1, some (jin i N = true), L, .int (f i.toNatClampNeg) :: r, μ) else none
    | _ => none
  | _ => none
def jaldb (L : List (Option Value)) (st : List Value) (μ : jH) : jO := match st with
  | .int i :: .ref a :: r => match μ[a]? with
    | some (.inl (t, N, f)) => if t = 2 ∨ t = 3 then some (1, some (jin i N = true), L, .int (f i.toNatClampNeg) :: r, μ) else none
    | _ => none
  | _ => none
def jaldl (L : List (Option Value)) (st : List Value) (μ : jH) : jO := match st with
  | .int i :: .ref a :: r => match μ[a]? with
    | some (.inr (.inl (N, f))) => some (1, some (jin i N = true), L, .long (f i.toNatClampNeg) :: r, μ)
    | _ => none
  | _ => none
def jasti (L : List (Option Value)) (st : List Value) (μ : jH) : jO := match st with
  | .int x :: .int i :: .ref a :: r => match μ[a]? with
    | some (.inl (t, N, f)) => if t = 0 then some (1, some (jin i N = true), L, r, μ.set a (.inl (0, N, upd f i.toNatClampNeg x))) else none
    | _ => none
  | _ => none
def jastb (L : List (Option Value)) (st : List Value) (μ : jH) : jO := match st with
  | .int x :: .int i :: .ref a :: r => match μ[a]? with
    | some (.inl (t, N, f)) => if t = 2 then some (1, some (jin i N = true), L, r, μ.set a (.inl (2, N, upd f i.toNatClampNeg (vp_nar .byte x)))) else if t = 3 then some (1, some (jin i N = true), L, r, μ.set a (.inl (3, N, upd f i.toNatClampNeg (vp_nar .boolean x)))) else none
    | _ => none
  | _ => none
def jastl (L : List (Option Value)) (st : List Value) (μ : jH) : jO := match st with
  | .long x :: .int i :: .ref a :: r => match μ[a]? with
    | some (.inr (.inl (N, f))) => some (1, some (jin i N = true), L, r, μ.set a (.inr (.inl (N, vp_updL f i.toNatClampNeg x))))
    | _ => none
  | _ => none
def jdup (L : List (Option Value)) (st : List Value) (μ : jH) : jO := match st with
  | v :: r => if v.category = 1 then some (1, none, L, v :: v :: r, μ) else none
  | _ => none
def jpop (L : List (Option Value)) (st : List Value) (μ : jH) : jO := match st with
  | v :: r => if v.category = 1 then some (1, none, L, r, μ) else none
  | _ => none
def jpop2 (L : List (Option Value)) (st : List Value) (μ : jH) : jO := match st with
  | v :: r => if v.category = 2 then some (1, none, L, r, μ) else none
  | _ => none
def jdup2 (L : List (Option Value)) (st : List Value) (μ : jH) : jO := match st with
  | v :: u :: r => if v.category = 1 ∧ u.category = 1 then some (1, none, L, v :: u :: v :: u :: r, μ) else none
  | _ => none
def jal' (tb : jT) (L : List (Option Value)) (st : List Value) (μ : jH) : jO := match st with
  | .ref a :: r => if a = 2000000 then (match tb.2.2.2.2 with
      | some z => some (1, none, L, .int (Int32.ofNat z.1) :: r, μ)
      | none => none) else match μ[a]? with
    | some (.inl (t, N, _)) => if t = 0 ∨ t = 2 ∨ t = 3 then some (1, none, L, .int (Int32.ofNat N) :: r, μ) else none
    | some (.inr (.inl (N, _))) => some (1, none, L, .int (Int32.ofNat N) :: r, μ)
    | _ => none
  | _ => none
def jop (tb : jT) (nL : Nat) (i : Instr) (L : List (Option Value)) (st : List Value) (μ : jH) : jO := match i with
  | .iadd => jii (fun x y => x + y) L st μ
  | .isub => jii (fun x y => x - y) L st μ
  | .imul => jii (fun x y => x * y) L st μ
  | .iand => jii (fun x y => x &&& y) L st μ
  | .ior => jii (fun x y => x ||| y) L st μ
  | .ixor => jii (fun x y => x ^^^ y) L st μ
  | .ishl => jii (fun x y => x <<< (y &&& 31)) L st μ
  | .ishr => jii (fun x y => x >>> (y &&& 31)) L st μ
  | .iushr => jii (fun x y => (x.toUInt32 >>> (y.toUInt32 &&& Int32.toUInt32 31)).toInt32) L st μ
  | .idiv => jid (fun x y => x / y) L st μ
  | .irem => jid (fun x y => x - x / y * y) L st μ
  | .ladd => jll (fun x y => x + y) L st μ
  | .lsub => jll (fun x y => x - y) L st μ
  | .lmul => jll (fun x y => x * y) L st μ
  | .land => jll (fun x y => x &&& y) L st μ
  | .lor => jll (fun x y => x ||| y) L st μ
  | .ldiv => jld (fun x y => x / y) L st μ
  | .lrem => jld (fun x y => x - x / y * y) L st μ
  | .lshl => jli (fun x y => x <<< (y.toInt64 &&& 63)) L st μ
  | .lshr => jli (fun x y => x >>> (y.toInt64 &&& 63)) L st μ
  | .lushr => jli (fun x y => (x.toUInt64 >>> (y.toInt64.toUInt64 &&& Int64.toUInt64 63)).toInt64) L st μ
  | .ineg => ji1 (fun x => -x) L st μ
  | .i2b => ji1 (fun x => x.toInt8.toInt32) L st μ
  | .i2s => ji1 (fun x => x.toInt16.toInt32) L st μ
  | .i2c => ji1 (fun x => (x.toUInt32 % 65536).toInt32) L st μ
  | .lcmp => (match st with
    | .long y :: .long x :: r => some (1, none, L, .int (lg_cmp x y) :: r, μ)
    | _ => none)
  | .i2l => (match st with
    | .int x :: r => some (1, none, L, .long x.toInt64 :: r, μ)
    | _ => none)
  | .l2i => (match st with
    | .long x :: r => some (1, none, L, .int x.toInt32 :: r, μ)
    | _ => none)
  | .iconst i => some (1, none, L, .int (Int32.ofInt i) :: st, μ)
  | .bipush i => some (2, none, L, .int (Int8.ofInt i).toInt32 :: st, μ)
  | .sipush i => some (3, none, L, .int (Int16.ofInt i).toInt32 :: st, μ)
  | .lconst i => some (1, none, L, .long (Int64.ofNat (i : Nat)) :: st, μ)
  | .iload_n i => jldi (i : Nat) 1 L st μ
  | .iload i => jldi i 2 L st μ
  | .lload_n i => jldl (i : Nat) 1 L st μ
  | .lload i => jldl i 2 L st μ
  | .aload_n i => jlda (i : Nat) 1 L st μ
  | .aload i => jlda i 2 L st μ
  | .istore_n i => jsti nL (i : Nat) 1 L st μ
  | .istore i => jsti nL i 2 L st μ
  | .lstore_n i => jstl nL (i : Nat) 1 L st μ
  | .lstore i => jstl nL i 2 L st μ
  | .astore_n i => jsta nL (i : Nat) 1 L st μ
  | .astore i => jsta nL i 2 L st μ
  | .iinc i c => jinc nL i c L st μ
  | .dup => jdup L st μ
  | .pop => jpop L st μ
  | .pop2 => jpop2 L st μ
  | .dup2 => jdup2 L st μ
  | .ldc i => (match jlk tb.2.1 i with
    | some v => some (2, none, L, .int v :: st, μ)
    | none => none)
  | .ldc_w i => (match jlk tb.2.1 i with
    | some v => some (3, none, L, .int v :: st, μ)
    | none => none)
  | .ldc2_w i => (match jlk tb.2.2.1 i with
    | some v => some (3, none, L, .long v :: st, μ)
    | none => none)
  | .getfield i => jgetf tb i L st μ
  | .putfield i => jputf tb i L st μ
  | .iaload => jaldi tb L st μ
  | .baload => jaldb L st μ
  | .laload => jaldl L st μ
  | .iastore => jasti L st μ
  | .bastore => jastb L st μ
  | .lastore => jastl L st μ
  | .arraylength => jal' tb L st μ
  | _ => none
set_option maxHeartbeats 4000000 in
theorem jop_ok {X : jX} (hX : jOK X) {k n pc len : Nat} {i : Instr} {g : Option Prop} {L L2 : List (Option Value)} {st st2 : List Value} {μ μ2 : jH} (h : jop (jtb X) (jnL X) i L st μ = some (len, g, L2, st2, μ2)) (hg : ∀ p, g = some p → p) (hd : decode (jcc X) pc = .ok (i, len)) (K : JW X k n (pc + len) L2 st2 μ2) : JW X k n pc L st μ := by
  unfold jop at h
  split at h
  · unfold jii at h; split at h <;> cases h; exact js_iadd hX hd K
  · unfold jii at h; split at h <;> cases h; exact js_isub hX hd K
  · unfold jii at h; split at h <;> cases h; exact js_imul hX hd K
  · unfold jii at h; split at h <;> cases h; exact js_iand hX hd K
  · unfold jii at h; split at h <;> cases h; exact js_ior hX hd K
  · unfold jii at h; split at h <;> cases h; exact js_ixor hX hd K
  · unfold jii at h; split at h <;> cases h; exact js_ishl hX hd K
  · unfold jii at h; split at h <;> cases h; exact js_ishr hX hd K
  · unfold jii at h; split at h <;> cases h; exact js_iushr hX hd K
  · unfold jid at h; split at h <;> cases h; exact js_idiv hX (hg _ rfl) hd K
  · unfold jid at h; split at h <;> cases h; exact js_irem hX (hg _ rfl) hd K
  · unfold jll at h; split at h <;> cases h; exact js_ladd hX hd K
  · unfold jll at h; split at h <;> cases h; exact js_lsub hX hd K
  · unfold jll at h; split at h <;> cases h; exact js_lmul hX hd K
  · unfold jll at h; split at h <;> cases h; exact js_land hX hd K
  · unfold jll at h; split at h <;> cases h; exact js_lor hX hd K
  · unfold jld at h; split at h <;> cases h; exact js_ldiv hX (hg _ rfl) hd K
  · unfold jld at h; split at h <;> cases h; exact js_lrem hX (hg _ rfl) hd K
  · unfold jli at h; split at h <;> cases h; exact js_lshl hX hd K
  · unfold jli at h; split at h <;> cases h; exact js_lshr hX hd K
  · unfold jli at h; split at h <;> cases h; exact js_lushr hX hd K
  · unfold ji1 at h; split at h <;> cases h; exact js_ineg hX hd K
  · unfold ji1 at h; split at h <;> cases h; exact js_i2b hX hd K
  · unfold ji1 at h; split at h <;> cases h; exact js_i2s hX hd K
  · unfold ji1 at h; split at h <;> cases h; exact js_i2c hX hd K
  · split at h <;> cases h; exact js_lcmp hX hd K
  · split at h <;> cases h; exact js_i2l hX hd K
  · split at h <;> cases h; exact js_l2i hX hd K
  · cases h; exact js_iconst hX hd K
  · cases h; exact js_bipush hX hd K
  · cases h; exact js_sipush hX hd K
  · cases h; exact js_lconst hX hd K
  · unfold jldi at h; split at h <;> cases h; exact js_iload_n hX (by assumption) hd K
  · unfold jldi at h; split at h <;> cases h; exact js_iload hX (by assumption) hd K
  · unfold jldl at h; split at h <;> cases h; exact js_lload_n hX (by assumption) hd K
  · unfold jldl at h; split at h <;> cases h; exact js_lload hX (by assumption) hd K
  · unfold jlda at h; split at h <;> cases h; exact js_aload_n hX (by assumption) hd K
  · unfold jlda at h; split at h <;> cases h; exact js_aload hX (by assumption) hd K
  · unfold jsti at h; split at h
    · split at h
      · cases h; exact js_istore_n hX (by assumption) hd K
      · cases h
    · cases h
  · unfold jsti at h; split at h
    · split at h
      · cases h; exact js_istore hX (by assumption) hd K
      · cases h
    · cases h
  · unfold jstl at h; split at h
    · split at h
      · cases h; exact js_lstore_n hX (by assumption) hd K
      · cases h
    · cases h
  · unfold jstl at h; split at h
    · split at h
      · cases h; exact js_lstore hX (by assumption) hd K
      · cases h
    · cases h
  · unfold jsta at h; split at h
    · split at h
      · cases h; exact js_astore_n hX (by assumption) hd K
      · cases h
    · cases h
  · unfold jsta at h; split at h
    · split at h
      · cases h; exact js_astore hX (by assumption) hd K
      · cases h
    · cases h
  · unfold jinc at h; split at h
    · split at h
      · cases h; exact js_iinc hX (by assumption) (by assumption) hd K
      · cases h
    · cases h
  · unfold jdup at h; split at h
    · split at h
      · cases h; exact js_dup hX (by assumption) hd K
      · cases h
    · cases h
  · unfold jpop at h; split at h
    · split at h
      · cases h; exact js_pop hX (by assumption) hd K
      · cases h
    · cases h
  · unfold jpop2 at h; split at h
    · split at h
      · cases h; exact js_pop2 hX (by assumption) hd K
      · cases h
    · cases h
  · unfold jdup2 at h; split at h
    · split at h
      · next hc => cases h; exact js_dup2 hX hc.1 hc.2 hd K
      · cases h
    · cases h
  · split at h <;> cases h; exact js_ldc hX (jlk_mem _ _ _ (by assumption)) hd K
  · split at h <;> cases h; exact js_ldcw hX (jlk_mem _ _ _ (by assumption)) hd K
  · split at h <;> cases h; exact js_ldc2 hX (jlk_mem _ _ _ (by assumption)) hd K
  · unfold jgetf at h; split at h
    · split at h
      · next ht =>
        split at h
        · next hm =>
          split at h
          · next hc =>
            split at h
            · next hv => subst hc; cases h; exact js_get hX (jlk_mem _ _ _ ht) hm hv hd K
            · cases h
          · cases h
        · cases h
      · cases h
    · cases h
  · unfold jputf at h; split at h
    · split at h
      · next ht =>
        split at h
        · next hm =>
          split at h
          · next hc =>
            obtain ⟨rfl, hs⟩ := hc
            split at h
            · next hk => subst hk; cases h; exact js_put hX (jlk_mem _ _ _ ht) hm hs hd K
            · split at h
              · next hk => subst hk; cases h; exact js_putz hX (hg _ rfl) (jlk_mem _ _ _ ht) hm hs hd K
              · cases h
          · cases h
        · cases h
      · cases h
    · cases h
  · unfold jaldi at h; split at h
    · split at h
      · next ha =>
        subst ha
        split at h
        · next hz => cases h; exact js_sald hX hz (hg _ rfl) hd K
        · cases h
      · split at h
        · next hm =>
          split at h
          · next ht => subst ht; cases h; exact js_iald hX hm (hg _ rfl) hd K
          · cases h
        · cases h
    · cases h
  · unfold jaldb at h; split at h
    · split at h
      · next hm =>
        split at h
        · next ht =>
          cases h
          rcases ht with rfl | rfl
          · exact js_bald hX hm (hg _ rfl) hd K
          · exact js_zald hX hm (hg _ rfl) hd K
        · cases h
      · cases h
    · cases h
  · unfold jaldl at h; split at h
    · split at h
      · cases h; exact js_lald hX (by assumption) (hg _ rfl) hd K
      · cases h
    · cases h
  · unfold jasti at h; split at h
    · split at h
      · next hm =>
        split at h
        · next ht => subst ht; cases h; exact js_iast hX hm (hg _ rfl) hd K
        · cases h
      · cases h
    · cases h
  · unfold jastb at h; split at h
    · split at h
      · next hm =>
        split at h
        · next ht => subst ht; cases h; exact js_bast hX hm (hg _ rfl) hd K
        · split at h
          · next ht => subst ht; cases h; exact js_zast hX hm (hg _ rfl) hd K
          · cases h
      · cases h
    · cases h
  · unfold jastl at h; split at h
    · split at h
      · cases h; exact js_last hX (by assumption) (hg _ rfl) hd K
      · cases h
    · cases h
  · unfold jal' at h; split at h
    · split at h
      · next ha =>
        subst ha
        split at h
        · next hz => cases h; exact js_salen hX hz hd K
        · cases h
      · split at h
        · next hm =>
          split at h
          · next ht => cases h; exact js_alen hX ht hm hd K
          · cases h
        · next hm => cases h; exact js_llen hX hm hd K
        · cases h
    · cases h
  · cases h
def jrun (tb : jT) (nL : Nat) : List (Nat × Instr × Nat) → Nat → List (Option Value) → List Value → jH → Option (Prop × Nat × List (Option Value) × List Value × jH)
  | [], pc, L, st, μ => some (True, pc, L, st, μ)
  | q :: r, pc, L, st, μ => if pc = q.1 then (match q.2.1 with
    | .goto off => if q.2.2 = 3 ∧ (pc : Int) + off = (((pc : Int) + off).toNat : Int) then jrun tb nL r ((pc : Int) + off).toNat L st μ else none
    | i => match jop tb nL i L st μ with
      | some (len, none, L2, st2, μ2) => if q.2.2 = len then jrun tb nL r (pc + len) L2 st2 μ2 else none
      | some (len, some g, L2, st2, μ2) => if q.2.2 = len then (match jrun tb nL r (pc + len) L2 st2 μ2 with
        | some (g2, z) => some (g ∧ g2, z)
        | none => none) else none
      | none => none) else none
theorem jrun_ok {X : jX} (hX : jOK X) {k n : Nat} : ∀ (is : List (Nat × Instr × Nat)) {pc pc2 : Nat} {g : Prop} {L L2 : List (Option Value)} {st st2 : List Value} {μ μ2 : jH}, (∀ q ∈ is, decode (jcc X) q.1 = .ok q.2) → jrun (jtb X) (jnL X) is pc L st μ = some (g, pc2, L2, st2, μ2) → g → JW X k n pc2 L2 st2 μ2 → JW X k n pc L st μ
  | [], pc, pc2, g, L, L2, st, st2, μ, μ2, hd, h, hg, K => by
    simp only [jrun, Option.some.injEq, Prod.mk.injEq] at h
    obtain ⟨-, rfl, rfl, rfl, rfl⟩ := h
    exact K
  | q :: r, pc, pc2, g, L, L2, st, st2, μ, μ2, hd, h, hg, K => by
    have hdr : ∀ z ∈ r, decode (jcc X) z.1 = .ok z.2 := fun z hz => hd z (List.mem_cons_of_mem _ hz)
    have hd0 := hd q List.mem_cons_self
    obtain ⟨q1, q2, q3⟩ := q
    dsimp only at hd0
    unfold jrun at h
    dsimp only at h
    split at h
    · next e =>
      subst e
      split at h
      · next off =>
        split at h
        · next he =>
          obtain ⟨he1, he2⟩ := he
          subst he1
          have K9 := jrun_ok hX r hdr h hg K
          exact fun H locs ls hH hl => lv_goto hX.1 hX.2.1 hd0 he2 (K9 H locs ls hH hl)
        · cases h
      · split at h
        · next hj =>
          split at h
          · next e9 =>
            subst e9
            exact jop_ok hX hj (fun p hp => by cases hp) hd0 (jrun_ok hX r hdr h hg K)
          · cases h
        · next hj =>
          split at h
          · next e9 =>
            subst e9
            split at h
            · next h9 =>
              simp only [Option.some.injEq, Prod.mk.injEq] at h
              obtain ⟨rfl, rfl⟩ := h
              exact jop_ok hX hj (fun p hp => by cases hp; exact hg.1) hd0 (jrun_ok hX r hdr h9 hg.2 K)
            · cases h
          · cases h
        · cases h
    · cases h
/-- a method's instructions -/
def jDec (X : jX) (C : List (Nat × Instr × Nat)) : Prop := ∀ q ∈ C, decode (jcc X) q.1 = .ok q.2
/-- which constants, how many locals -/
def jTN (X : jX) (tb : jT) (nL : Nat) : Prop := jtb X = tb ∧ jnL X = nL
theorem JW.run {X : jX} (hX : jOK X) {C : List (Nat × Instr × Nat)} {tb : jT} {nL : Nat} (hC : jDec X C) (hT : jTN X tb nL) (a m : Nat) {k n pc pc2 : Nat} {g : Prop} {L L2 : List (Option Value)} {st st2 : List Value} {μ μ2 : jH} (h : jrun tb nL ((C.drop a).take m) pc L st μ = some (g, pc2, L2, st2, μ2)) (hg : g) (K : JW X k n pc2 L2 st2 μ2) : JW X k n pc L st μ :=
  jrun_ok hX _ (fun q hq => hC q (List.mem_of_mem_drop (List.mem_of_mem_take hq))) (by rw [hT.1, hT.2]; exact h) hg K
end
section
/-! branches, ends, throws -/
theorem jat {X : jX} {C : List (Nat × Instr × Nat)} (hC : jDec X C) (a : Nat) {pc len : Nat} {i : Instr} (h : C[a]? = some (pc, i, len)) : decode (jcc X) pc = .ok (i, len) := hC (pc, i, len) (List.mem_of_getElem? h)
section JB6
variable {X : jX} {k n pc : Nat} {L : List (Option Value)} {st : List Value} {μ : jH}
theorem js_ifeq (hX : jOK X) {x : Int32} {off : Int} {t : Nat} (hd : decode (jcc X) pc = .ok (.ifCond .eq off, 3)) (ht : (pc : Int) + off = (t : Int)) (kt : x = 0 → JW X k n t L st μ) (kf : ¬ x = 0 → JW X k n (pc + 3) L st μ) : JW X k n pc L (.int x :: st) μ := fun H locs ls hH hl => lv_if_eq hX.1 hX.2.1 hd ht (fun c => kt c H locs ls hH hl) (fun c => kf c H locs ls hH hl)
theorem js_ifne (hX : jOK X) {x : Int32} {off : Int} {t : Nat} (hd : decode (jcc X) pc = .ok (.ifCond .ne off, 3)) (ht : (pc : Int) + off = (t : Int)) (kt : ¬ x = 0 → JW X k n t L st μ) (kf : x = 0 → JW X k n (pc + 3) L st μ) : JW X k n pc L (.int x :: st) μ := fun H locs ls hH hl => lv_if_ne hX.1 hX.2.1 hd ht (fun c => kt c H locs ls hH hl) (fun c => kf c H locs ls hH hl)
theorem js_iflt (hX : jOK X) {x : Int32} {off : Int} {t : Nat} (hd : decode (jcc X) pc = .ok (.ifCond .lt off, 3)) (ht : (pc : Int) + off = (t : Int)) (kt : x < 0 → JW X k n t L st μ) (kf : ¬ x < 0 → JW X k n (pc + 3) L st μ) : JW X k n pc L (.int x :: st) μ := fun H locs ls hH hl => lv_if_lt hX.1 hX.2.1 hd ht (fun c => kt c H locs ls hH hl) (fun c => kf c H locs ls hH hl)
theorem js_ifge (hX : jOK X) {x : Int32} {off : Int} {t : Nat} (hd : decode (jcc X) pc = .ok (.ifCond .ge off, 3)) (ht : (pc : Int) + off = (t : Int)) (kt : 0 ≤ x → JW X k n t L st μ) (kf : ¬ 0 ≤ x → JW X k n (pc + 3) L st μ) : JW X k n pc L (.int x :: st) μ := fun H locs ls hH hl => lv_if_ge hX.1 hX.2.1 hd ht (fun c => kt c H locs ls hH hl) (fun c => kf c H locs ls hH hl)
theorem js_ifgt (hX : jOK X) {x : Int32} {off : Int} {t : Nat} (hd : decode (jcc X) pc = .ok (.ifCond .gt off, 3)) (ht : (pc : Int) + off = (t : Int)) (kt : 0 < x → JW X k n t L st μ) (kf : ¬ 0 < x → JW X k n (pc + 3) L st μ) : JW X k n pc L (.int x :: st) μ := fun H locs ls hH hl => lv_if_gt hX.1 hX.2.1 hd ht (fun c => kt c H locs ls hH hl) (fun c => kf c H locs ls hH hl)
theorem js_ifle (hX : jOK X) {x : Int32} {off : Int} {t : Nat} (hd : decode (jcc X) pc = .ok (.ifCond .le off, 3)) (ht : (pc : Int) + off = (t : Int)) (kt : x ≤ 0 → JW X k n t L st μ) (kf : ¬ x ≤ 0 → JW X k n (pc + 3) L st μ) : JW X k n pc L (.int x :: st) μ := fun H locs ls hH hl => lv_if_le hX.1 hX.2.1 hd ht (fun c => kt c H locs ls hH hl) (fun c => kf c H locs ls hH hl)
theorem js_iceq (hX : jOK X) {x y : Int32} {off : Int} {t : Nat} (hd : decode (jcc X) pc = .ok (.if_icmp .eq off, 3)) (ht : (pc : Int) + off = (t : Int)) (kt : x = y → JW X k n t L st μ) (kf : ¬ x = y → JW X k n (pc + 3) L st μ) : JW X k n pc L (.int y :: .int x :: st) μ := fun H locs ls hH hl => lv_icmp_eq hX.1 hX.2.1 hd ht (fun c => kt c H locs ls hH hl) (fun c => kf c H locs ls hH hl)
theorem js_icne (hX : jOK X) {x y : Int32} {off : Int} {t : Nat} (hd : decode (jcc X) pc = .ok (.if_icmp .ne off, 3)) (ht : (pc : Int) + off = (t : Int)) (kt : ¬ x = y → JW X k n t L st μ) (kf : x = y → JW X k n (pc + 3) L st μ) : JW X k n pc L (.int y :: .int x :: st) μ := fun H locs ls hH hl => lv_icmp_ne hX.1 hX.2.1 hd ht (fun c => kt c H locs ls hH hl) (fun c => kf c H locs ls hH hl)
theorem js_iclt (hX : jOK X) {x y : Int32} {off : Int} {t : Nat} (hd : decode (jcc X) pc = .ok (.if_icmp .lt off, 3)) (ht : (pc : Int) + off = (t : Int)) (kt : x < y → JW X k n t L st μ) (kf : ¬ x < y → JW X k n (pc + 3) L st μ) : JW X k n pc L (.int y :: .int x :: st) μ := fun H locs ls hH hl => lv_icmp_lt hX.1 hX.2.1 hd ht (fun c => kt c H locs ls hH hl) (fun c => kf c H locs ls hH hl)
theorem js_icge (hX : jOK X) {x y : Int32} {off : Int} {t : Nat} (hd : decode (jcc X) pc = .ok (.if_icmp .ge off, 3)) (ht : (pc : Int) + off = (t : Int)) (kt : y ≤ x → JW X k n t L st μ) (kf : ¬ y ≤ x → JW X k n (pc + 3) L st μ) : JW X k n pc L (.int y :: .int x :: st) μ := fun H locs ls hH hl => lv_icmp_ge hX.1 hX.2.1 hd ht (fun c => kt c H locs ls hH hl) (fun c => kf c H locs ls hH hl)
theorem js_icgt (hX : jOK X) {x y : Int32} {off : Int} {t : Nat} (hd : decode (jcc X) pc = .ok (.if_icmp .gt off, 3)) (ht : (pc : Int) + off = (t : Int)) (kt : y < x → JW X k n t L st μ) (kf : ¬ y < x → JW X k n (pc + 3) L st μ) : JW X k n pc L (.int y :: .int x :: st) μ := fun H locs ls hH hl => lv_icmp_gt hX.1 hX.2.1 hd ht (fun c => kt c H locs ls hH hl) (fun c => kf c H locs ls hH hl)
theorem js_icle (hX : jOK X) {x y : Int32} {off : Int} {t : Nat} (hd : decode (jcc X) pc = .ok (.if_icmp .le off, 3)) (ht : (pc : Int) + off = (t : Int)) (kt : x ≤ y → JW X k n t L st μ) (kf : ¬ x ≤ y → JW X k n (pc + 3) L st μ) : JW X k n pc L (.int y :: .int x :: st) μ := fun H locs ls hH hl => lv_icmp_le hX.1 hX.2.1 hd ht (fun c => kt c H locs ls hH hl) (fun c => kf c H locs ls hH hl)
/-- a table switch: case by case -/
def jsw (X : jX) (k n pc : Nat) (L : List (Option Value)) (st : List Value) (μ : jH) (x : Int32) (d : Int) : Int → List Int → Prop
  | _, [] => ∀ t : Nat, (pc : Int) + d = (t : Int) → JW X k n t L st μ
  | lo, off :: r => (x.toInt = lo → ∀ t : Nat, (pc : Int) + off = (t : Int) → JW X k n t L st μ) ∧ (¬ x.toInt = lo → jsw X k n pc L st μ x d (lo + 1) r)
theorem jsw_ok {x : Int32} {d : Int} {H : Heap} {locs : List Loc} {ls : Array Slot} (hH : jHP X μ H locs) (hl : jlo (jad X) (jnL X) L ls) : ∀ (l : List Int) (lo : Int), jsw X k n pc L st μ x d lo l →
    (∀ t : Nat, (pc : Int) + d = (t : Int) → (x.toInt < lo ∨ lo + l.length - 1 < x.toInt) → JW X k n t L st μ) ∨ ∃ (i : Nat) (off : Int), l[i]? = some off ∧ x.toInt = lo + i ∧ ∀ t : Nat, (pc : Int) + off = (t : Int) → JW X k n t L st μ
  | [], lo, h => Or.inl fun t ht _ => h t ht
  | off :: r, lo, h => by
    by_cases e : x.toInt = lo
    · exact Or.inr ⟨0, off, rfl, by simp [e], h.1 e⟩
    · rcases jsw_ok hH hl r (lo + 1) (h.2 e) with h9 | ⟨i, o, h1, h2, h3⟩
      · refine Or.inl fun t ht hx => h9 t ht ?_
        simp only [List.length_cons] at hx
        omega
      · exact Or.inr ⟨i + 1, o, h1, by push_cast; omega, h3⟩
theorem js_tsw (hX : jOK X) {x : Int32} {d lo hi : Int} {offs : Array Int} {len t0 : Nat} (hd : decode (jcc X) pc = .ok (.tableswitch d lo hi offs, len)) (hn : hi = lo + offs.toList.length - 1) (h0 : (pc : Int) + d = (t0 : Int)) (hp : offs.toList.all (fun o => decide (0 ≤ (pc : Int) + o)) = true) (h : jsw X k n pc L st μ x d lo offs.toList) : JW X k n pc L (.int x :: st) μ := fun H locs ls hH hl => by
  by_cases hx : x.toInt < lo ∨ hi < x.toInt
  · rcases jsw_ok hH hl _ _ h with h9 | ⟨i, o, h1, h2, h3⟩
    · exact lv_tableOut hX.1 hX.2.1 hd hx h0 (h9 t0 h0 (by omega) H locs ls hH hl)
    · have := (List.getElem?_eq_some_iff.mp h1).1
      omega
  · have hx1 : ¬ x.toInt < lo := fun z => hx (Or.inl z)
    have hx2 : ¬ hi < x.toInt := fun z => hx (Or.inr z)
    have key : ∀ (l : List Int) (lo : Int), jsw X k n pc L st μ x d lo l → lo ≤ x.toInt → x.toInt < lo + l.length → ∃ (off : Int), l[(x.toInt - lo).toNat]? = some off ∧ ∀ t : Nat, (pc : Int) + off = (t : Int) → JW X k n t L st μ := by
      intro l
      induction l with
      | nil => intro lo _ h1 h2; simp at h2; omega
      | cons off r ih =>
        intro lo h h1 h2
        by_cases e : x.toInt = lo
        · refine ⟨off, ?_, h.1 e⟩
          rw [show (x.toInt - lo).toNat = 0 by omega]
          rfl
        · simp only [List.length_cons] at h2
          obtain ⟨o, g1, g2⟩ := ih (lo + 1) (h.2 e) (by omega) (by omega)
          refine ⟨o, ?_, g2⟩
          rw [show (x.toInt - lo).toNat = (x.toInt - (lo + 1)).toNat + 1 by omega, List.getElem?_cons_succ]
          exact g1
    obtain ⟨off, g1, g2⟩ := key _ _ h (by omega) (by omega)
    have h9 := List.all_eq_true.mp hp off (List.mem_of_getElem? g1)
    simp only [decide_eq_true_eq] at h9
    obtain ⟨t, ht⟩ := Int.eq_ofNat_of_zero_le h9
    exact lv_tableIn hX.1 hX.2.1 hd hx1 hx2 (by rw [← Array.getElem?_toList]; exact g1) ht (g2 t ht H locs ls hH hl)
/-- what a method owes at its end -/
def jQc (D : va_G) (cA : Nat → ClassId) (ad : Nat → Nat) (A : Nat → Prop) (sf : Bool) (B : Nat) (po : Option Value → jH → Prop) : Array Value → State → Outcome → State → Prop := fun _ st oc t =>
  ∃ (o : Option Value) (μ : jH), po o μ ∧ oc = .returned (o.map (jre ad)) ∧ va_P D vwCl (jpl ad cA μ) t.heap ∧ va_D A (jpl ad cA μ) ∧ va_F A st t ∧ (sf = true → jfut ad μ.length t.heap.size B)
def jXC (D : va_G) (cA : Nat → ClassId) (ad : Nat → Nat) (A : Nat → Prop) (px : String → jH → Prop) : String → State → State → Prop := fun E st t =>
  ∃ μ : jH, px E μ ∧ va_P D vwCl (jpl ad cA μ) t.heap ∧ va_D A (jpl ad cA μ) ∧ va_F A st t
def jPost (X : jX) (sf : Bool) (B : Nat) (po : Option Value → jH → Prop) (px : String → jH → Prop) : Prop :=
  jQ X = vx_MQ (jb X) (jQc (jD X) (jcA X) (jad X) (jA X) sf B po) (jXC (jD X) (jcA X) (jad X) (jA X) px) (ja X) (js X) (jmc X) (jms X) (jA X) ∧ (sf = true → B ≤ jal X)
variable {sf : Bool} {B : Nat} {po : Option Value → jH → Prop} {px : String → jH → Prop}
theorem js_iret (hX : jOK X) (hp : jPost X sf B po px) (hr : jrt X = some .int) {v : Int32} (hk : k ≤ jmc X) (hn : n ≤ jms X) (hd : decode (jcc X) pc = .ok (.ireturn, 1)) (h : po (some (.int v)) μ) : JW X k n pc L [.int v] μ := fun H locs ls hH hl => by
  show W _ _ _ _ _ _ _ _ _ _ _ _ _ _ (jQ X) _
  rw [hp.1]
  refine vx_ret (W.widen hk hn ?_)
  exact W.iret hX.1 hX.2.1 (hX.2.2.2.2.2.2.2.2.2.2.2.2.1.trans hr) (fun t ht hW => ⟨some (.int v), μ, h, rfl, by rw [ht]; exact hH.1, hH.2.1, hH.2.2.1.F ht, fun z => by rw [ht]; exact fun j h1 h2 => hH.2.2.2 j h1 (Nat.lt_of_lt_of_le h2 (hp.2 z))⟩) hH.2.2.1.2.2 hd hX.2.2.2.2.2.2.2.1
theorem js_zret (hX : jOK X) (hp : jPost X sf B po px) (hr : jrt X = some .boolean) {v : Int32} (hz : jz v = true) (hk : k ≤ jmc X) (hn : n ≤ jms X) (hd : decode (jcc X) pc = .ok (.ireturn, 1)) (h : po (some (.int v)) μ) : JW X k n pc L [.int v] μ := fun H locs ls hH hl => by
  show W _ _ _ _ _ _ _ _ _ _ _ _ _ _ (jQ X) _
  rw [hp.1]
  refine vx_ret (W.widen hk hn ?_)
  exact W.zret hX.1 hX.2.1 (hX.2.2.2.2.2.2.2.2.2.2.2.2.1.trans hr) (by simp only [jz, Bool.and_eq_true, decide_eq_true_eq] at hz; exact hz.1) (fun t ht hW => ⟨some (.int v), μ, h, rfl, by rw [ht]; exact hH.1, hH.2.1, hH.2.2.1.F ht, fun z => by rw [ht]; exact fun j h1 h2 => hH.2.2.2 j h1 (Nat.lt_of_lt_of_le h2 (hp.2 z))⟩) hH.2.2.1.2.2 hd hX.2.2.2.2.2.2.2.1
theorem js_lret (hX : jOK X) (hp : jPost X sf B po px) (hr : jrt X = some .long) {v : Int64} (hk : k ≤ jmc X) (hn : n ≤ jms X) (hd : decode (jcc X) pc = .ok (.lreturn, 1)) (h : po (some (.long v)) μ) : JW X k n pc L [.long v] μ := fun H locs ls hH hl => by
  show W _ _ _ _ _ _ _ _ _ _ _ _ _ _ (jQ X) _
  rw [hp.1]
  refine vx_ret (W.widen hk hn ?_)
  exact W.lret hX.1 hX.2.1 (hX.2.2.2.2.2.2.2.2.2.2.2.2.1.trans hr) (fun t ht hW => ⟨some (.long v), μ, h, rfl, by rw [ht]; exact hH.1, hH.2.1, hH.2.2.1.F ht, fun z => by rw [ht]; exact fun j h1 h2 => hH.2.2.2 j h1 (Nat.lt_of_lt_of_le h2 (hp.2 z))⟩) hH.2.2.1.2.2 hd hX.2.2.2.2.2.2.2.1
theorem js_vret (hX : jOK X) (hp : jPost X sf B po px) (hr : jrt X = none) (hk : k ≤ jmc X) (hn : n ≤ jms X) (hd : decode (jcc X) pc = .ok (.return_, 1)) (h : po none μ) : JW X k n pc L [] μ := fun H locs ls hH hl => by
  show W _ _ _ _ _ _ _ _ _ _ _ _ _ _ (jQ X) _
  rw [hp.1]
  refine vx_ret (W.widen hk hn ?_)
  exact W.vret hX.1 hX.2.1 (hX.2.2.2.2.2.2.2.2.2.2.2.2.1.trans hr) (fun t ht hW => ⟨none, μ, h, rfl, by rw [ht]; exact hH.1, hH.2.1, hH.2.2.1.F ht, fun z => by rw [ht]; exact fun j h1 h2 => hH.2.2.2 j h1 (Nat.lt_of_lt_of_le h2 (hp.2 z))⟩) hH.2.2.1.2.2 hd hX.2.2.2.2.2.2.2.1
theorem js_aret (hX : jOK X) (hp : jPost X sf B po px) {C : String} (hr : jrt X = some (.object C)) {a : Nat} (hk : k ≤ jmc X) (hn : n ≤ jms X) (hd : decode (jcc X) pc = .ok (.areturn, 1)) (h : po (some (.ref a)) μ) : JW X k n pc L [.ref a] μ := fun H locs ls hH hl => by
  show W _ _ _ _ _ _ _ _ _ _ _ _ _ _ (jQ X) _
  rw [hp.1]
  refine vx_ret (W.widen hk hn ?_)
  exact W.aret hX.1 hX.2.1 (hX.2.2.2.2.2.2.2.2.2.2.2.2.1.trans hr) (Or.inl ⟨C, rfl⟩) (Or.inr ⟨_, rfl⟩) (fun t ht hW => ⟨some (.ref a), μ, h, rfl, by rw [ht]; exact hH.1, hH.2.1, hH.2.2.1.F ht, fun z => by rw [ht]; exact fun j h1 h2 => hH.2.2.2 j h1 (Nat.lt_of_lt_of_le h2 (hp.2 z))⟩) hH.2.2.1.2.2 hd hX.2.2.2.2.2.2.2.1
/-- no handlers -/
def jNT (X : jX) : Prop := ∀ x ∈ (jcd X).exceptionTable.toList, False
theorem JX.out (hX : jOK X) (hp : jPost X sf B po px) (hT : jNT X) {E : String} (hk : k ≤ jmc X) (hn : n ≤ jms X) (h : px E μ) : JX X k n pc L st E μ := fun H locs ls q ce hH hl h1 h2 h3 => by
  rw [hp.1]
  exact vx_out (fun x hx => (hT x hx).elim) hX.2.2.2.2.2.2.2.1 h1 h2 h3 (fun t ht hW => ⟨μ, h, by rw [ht]; exact hH.1, hH.2.1, hH.2.2.1.F ht⟩) hH.2.2.1.2.2 hk hn
/-- throw new E() -/
theorem js_throw (hX : jOK X) (hp : jPost X sf B po px) (hT : jNT X) {cls : String} {names : List String} {ik ic : Nat} (hcls : Bundle.fit cls = true) (hnames : ∀ n ∈ names, Bundle.fit n = true)
    (hw : ∀ w ∈ Cond.classLink (jown X) ik cls :: Cond.initialized cls :: vx_at0 (jown X) ic cls names, w ∈ jbig ∨ ∃ q ∈ jcast, w = .castable q.1 q.2)
    (d0 : decode (jcc X) pc = .ok (.new ik, 3)) (d3 : decode (jcc X) (pc + 3) = .ok (.dup, 1)) (d4 : decode (jcc X) (pc + 4) = .ok (.invokespecial ic, 3)) (d7 : decode (jcc X) (pc + 7) = .ok (.athrow, 1))
    (hf : names.length + 3 < (jR X).frames) (hlo : (st.map fun v => v.category).sum + (13 * (names.length + 1) + 42) ≤ (jR X).locals) (hk : k + 1 ≤ jmc X) (hn : n + 6 ≤ jms X) (h : px cls μ) : JW X k n pc L st μ := fun H locs ls hH hl => by
  show W _ _ _ _ _ _ _ _ _ _ _ _ _ _ (jQ X) _
  rw [hp.1]
  have hE := hX.2.2.2.2.2.2.2.2.1
  have hb : ∀ w, (w ∈ jbig ∨ ∃ q ∈ jcast, w = .castable q.1 q.2) → w.before (ja X) (js X) = true ∧ vx_ot w = true := by
    intro w h9
    rcases h9 with h9 | ⟨q, hq, rfl⟩
    · exact ⟨hX.2.2.2.2.1 w h9, by unfold vx_ot; rw [jbig_good h9]; simp⟩
    · exact ⟨va_Nw.use rfl (hE.2.2.2.2.2.2.2.1 q hq), rfl⟩
  have hcat : (st.map (jre (jad X))).map (fun v => v.category) = st.map (fun v => v.category) := by
    rw [List.map_map]
    exact List.map_congr_left fun v _ => jre_cat _ v
  exact vx_throw0 hX.1 hX.2.1 hX.2.2.2.2.2.2.2.2.2.1 hX.2.2.2.1 hcls hnames (hb _ (hw _ List.mem_cons_self)).1 (hb _ (hw _ (List.mem_cons_of_mem _ List.mem_cons_self))).1 (fun w h9 => (hb _ (hw _ (List.mem_cons_of_mem _ (List.mem_cons_of_mem _ h9)))).1) (fun w h9 => (hb _ (hw _ h9)).2) hE.2.1 hE.2.2.1 hH.2.2.1 (hl.1.trans hX.2.2.1.symm) d0 d3 d4 d7 (fun x hx => (hT x hx).elim) hf (by rw [hcat]; exact hlo) (Nat.le_trans hk hX.2.2.2.2.2.2.2.2.2.2.1) (Nat.le_trans hn hX.2.2.2.2.2.2.2.2.2.2.2.1) hX.2.2.2.2.2.2.2.1
    (fun t hW hz ht => ⟨μ, h, hH.1.kept (fun j q hq => ht q.1 ((hH.1 j q hq).lt)), hH.2.1, ⟨Nat.le_trans hH.2.2.1.1 hz, fun q h1 h2 => (ht q (Nat.lt_of_lt_of_le h1 hH.2.2.1.1)).trans (hH.2.2.1.2.1 q h1 h2)⟩⟩) hH.2.2.1.2.2 hk hn
/-- Object's constructor -/
theorem js_objInit (hX : jOK X) {i a : Nat} (hw : ∀ w ∈ [Cond.methodLink (jown X) i Lib.objectInit, Cond.instanceMethod Lib.objectInit, Cond.code Lib.objectInit ⟨#[0xb1]⟩ 1 none], w ∈ jbig) (hd : decode (jcc X) pc = .ok (.invokespecial i, 3)) (hf : 1 ≤ (jR X).frames) (hlo : (st.map fun v => v.category).sum + 12 ≤ (jR X).locals) (K : JW X k n (pc + 3) L st μ) : JW X k n pc L (.ref a :: st) μ := fun H locs ls hH hl => by
  have hcat : (st.map (jre (jad X))).map (fun v => v.category) = st.map (fun v => v.category) := by
    rw [List.map_map]
    exact List.map_congr_left fun v _ => jre_cat _ v
  have hb := fun w h9 => hX.2.2.2.2.1 w (hw w h9)
  exact W.objInit hX.1 hX.2.1 hX.2.2.2.1 (hb _ (by simp)) (hb _ (by simp)) (hb _ (by simp)) rfl (hl.1.trans hX.2.2.1.symm) rfl hd hf (by rw [hcat]; simpa using hlo) (K H locs ls hH hl)
end JB6
end
section
/-! calls: the callee's world is a part of the caller's -/
abbrev jV : Type := Launch × va_G × (Nat → ClassId) × (Nat → Nat)
def jVX (X : jX) : jV := (jl X, jD X, jcA X, jv X)
def jPc (V : jV) (ad : Nat → Nat) (As : List Value) (μ : jH) (sz : Nat) : Array Value → State → Prop :=
  va_Pc (As.map (jre ad)) (fun U => U.heap.size = sz ∧ va_P V.2.1 vwCl (jpl ad V.2.2.1 μ) U.heap ∧ va_D (fun _ => True) (jpl ad V.2.2.1 μ) ∧ va_K V.2.1 vwCl (jty V.2.2.1) U ∧ jE ad V.2.2.2 (va_A (jpl ad V.2.2.1 μ) sz) U U.heap)
/-- a method's contract: from the world μ, with arguments As, it comes to an answer and a world with po, or to an exception with px; bu: one more than it makes -/
def jMet (V : jV) (y : MethodName) (ws : List Cond) (rm : Room) (sf : Bool) (bu : Nat) (As : List Value) (μ : jH) (po : Option Value → jH → Prop) (px : String → jH → Prop) : Prop :=
  ∀ (ad : Nat → Nat) (sz : Nat), jfut ad μ.length sz (μ.length + bu) →
    vx_Met V.1 y ws rm (jPc V ad As μ sz) (jQc V.2.1 V.2.2.1 ad (va_A (jpl ad V.2.2.1 μ) sz) sf (μ.length + bu) po) (jXC V.2.1 V.2.2.1 ad (va_A (jpl ad V.2.2.1 μ) sz) px) rm.cells rm.slots (va_A (jpl ad V.2.2.1 μ) sz)
/-- the callee's numbers in the caller's -/
def jrn (e : List Nat) (m j : Nat) : Nat := if j < e.length then e.getD j 0 else if j < 1000000 then m + (j - e.length) else j
def jsub (e : List Nat) (ν μ : jH) : Prop := e.map (fun i => μ[i]?) = ν.map (fun c => some (jrc (jrn e μ.length) c))
def jput (ρ : Nat → Nat) : List Nat → jH → jH → jH
  | i :: e, c :: ν, μ => (jput ρ e ν μ).set i (jrc ρ c)
  | _, _, μ => μ
def jback (e : List Nat) (ν μ : jH) : jH := jput (jrn e μ.length) e ν μ ++ (ν.drop e.length).map (jrc (jrn e μ.length))
theorem jput_len (ρ : Nat → Nat) : ∀ (e : List Nat) (ν μ : jH), (jput ρ e ν μ).length = μ.length
  | [], ν, μ => by simp [jput]
  | i :: e, [], μ => by simp [jput]
  | i :: e, c :: ν, μ => by simp [jput, jput_len ρ e ν μ]
theorem jput_in (ρ : Nat → Nat) : ∀ (e : List Nat) (ν μ : jH) (k i : Nat) (c : jc), va_nd e = true → e[k]? = some i → ν[k]? = some c → i < μ.length → (jput ρ e ν μ)[i]? = some (jrc ρ c)
  | [], ν, μ, k, i, c, _, h, _, _ => by simp at h
  | j :: e, [], μ, k, i, c, _, _, h, _ => by simp at h
  | j :: e, d :: ν, μ, k, i, c, hn, h1, h2, h3 => by
    simp only [va_nd, Bool.and_eq_true, decide_eq_true_eq] at hn
    cases k with
    | zero =>
      simp only [List.getElem?_cons_zero, Option.some.injEq] at h1 h2
      subst h1; subst h2
      simp only [jput]
      rw [List.getElem?_set_self (by rw [jput_len]; exact h3)]
    | succ k =>
      simp only [List.getElem?_cons_succ] at h1 h2
      have hne : j ≠ i := fun z => hn.1 (by rw [z]; exact List.mem_of_getElem? h1)
      simp only [jput]
      rw [List.getElem?_set_ne hne]
      exact jput_in ρ e ν μ k i c hn.2 h1 h2 h3
theorem jput_out (ρ : Nat → Nat) : ∀ (e : List Nat) (ν μ : jH) (i : Nat), i ∉ e → (jput ρ e ν μ)[i]? = μ[i]?
  | [], ν, μ, i, _ => by simp [jput]
  | j :: e, [], μ, i, _ => by simp [jput]
  | j :: e, d :: ν, μ, i, h => by
    simp only [List.mem_cons, not_or] at h
    simp only [jput]
    rw [List.getElem?_set_ne (fun z => h.1 z.symm)]
    exact jput_out ρ e ν μ i h.2
theorem jsub_len {e : List Nat} {ν μ : jH} (h : jsub e ν μ) : e.length = ν.length := by
  have := congrArg List.length h
  simpa using this
theorem jsub_at {e : List Nat} {ν μ : jH} (h : jsub e ν μ) {k i : Nat} (hk : e[k]? = some i) : ∃ c, ν[k]? = some c ∧ μ[i]? = some (jrc (jrn e μ.length) c) := by
  have h1 := congrArg (fun l => l[k]?) h
  simp only [List.getElem?_map, hk, Option.map_some] at h1
  cases hc : ν[k]? with
  | none => simp [hc] at h1
  | some c =>
    simp only [hc, Option.map_some, Option.some.injEq] at h1
    exact ⟨c, rfl, h1⟩
section JC7
variable {X : jX} {k n pc : Nat} {L : List (Option Value)} {st : List Value} {μ ν : jH} {e : List Nat}
/-- the callee's addresses -/
def jac (X : jX) (e : List Nat) (m : Nat) : Nat → Nat := fun j => jad X (jrn e m j)
theorem jac_pl (hs : jsub e ν μ) : e.map (fun i => (jpl (jad X) (jcA X) μ)[i]?) = (jpl (jac X e μ.length) (jcA X) ν).map some := by
  apply List.ext_getElem?
  intro i
  rw [List.getElem?_map, List.getElem?_map, jpl_get]
  cases he : e[i]? with
  | none =>
    have hl := jsub_len hs
    have h0 : ν[i]? = none := List.getElem?_eq_none (by rw [← hl]; exact List.getElem?_eq_none_iff.mp he)
    simp [h0]
  | some j =>
    obtain ⟨c, h1, h2⟩ := jsub_at hs he
    have hi : i < e.length := (List.getElem?_eq_some_iff.mp he).1
    have hj : jrn e μ.length i = j := by
      simp only [jrn, hi, if_true, List.getD_eq_getElem?_getD, he, Option.getD_some]
    simp only [Option.map_some, h1, jpl_get, h2, jac, hj, jrE_jrc]
    rfl
theorem jac_P {H : Heap} {locs : List Loc} (hH : jHP X μ H locs) (hs : jsub e ν μ) : va_P (jD X) vwCl (jpl (jac X e μ.length) (jcA X) ν) H := by
  refine hH.1.sub e ?_
  have h := jac_pl (X := X) hs
  apply List.ext_getElem?
  intro i
  have h9 : (e.map (fun i => (jpl (jad X) (jcA X) μ)[i]?)).filterMap id = ((jpl (jac X e μ.length) (jcA X) ν).map some).filterMap id := by rw [h]
  rw [List.filterMap_map, List.filterMap_map] at h9
  have e2 : (id ∘ some : (Nat × va_E) → Option (Nat × va_E)) = some := rfl
  rw [e2, List.filterMap_some] at h9
  have e3 : (id ∘ fun i : Nat => (jpl (jad X) (jcA X) μ)[i]?) = fun i : Nat => (jpl (jad X) (jcA X) μ)[i]? := rfl
  rw [e3] at h9
  rw [h9]
theorem jac_D {H : Heap} {locs : List Loc} (hH : jHP X μ H locs) (hs : jsub e ν μ) (hn : va_nd e = true) : va_D (jA X) (jpl (jac X e μ.length) (jcA X) ν) := hH.2.1.sub e hn (jac_pl hs)
theorem jac_free {H : Heap} {locs : List Loc} (hX : jOK X) (hH : jHP X μ H locs) (hs : jsub e ν μ) : ∀ q, va_A (jpl (jac X e μ.length) (jcA X) ν) H.size q → jA X q := va_free hH.2.1 hH.2.2.1 hX.2.2.2.2.2.2.1 e (jac_pl hs)
theorem jac_fut {H : Heap} {locs : List Loc} (hH : jHP X μ H locs) (hs : jsub e ν μ) {bu : Nat} (hb : μ.length + bu ≤ jal X) (hb6 : e.length + bu ≤ 1000000) : jfut (jac X e μ.length) ν.length H.size (ν.length + bu) := by
  intro j h1 h2
  have hl := jsub_len hs
  have h3 : ¬ j < e.length := by omega
  have h4 : j < 1000000 := by omega
  simp only [jac, jrn, h3, if_false, h4, if_true]
  rw [hH.2.2.2 _ (by omega) (by omega)]
  omega
/-- the caller's world behind a call -/
theorem jac_back {H H1 : Heap} {locs locs1 : List Loc} {ν2 : jH} {bu : Nat} {sf : Bool} (hX : jOK X) (hH : jHP X μ H locs) (hs : jsub e ν μ) (hn : va_nd e = true) (hb : μ.length + bu ≤ jal X) (hb6 : e.length + bu ≤ 1000000) (hν1 : ν.length ≤ ν2.length) (hν2 : ν2.length < ν.length + bu) (hei : ∀ i ∈ e, i < μ.length)
    (hk : ∀ q : Nat, q < H.size → ¬ va_A (jpl (jac X e μ.length) (jcA X) ν) H.size q → H1[q]? = H[q]?) (hP1 : va_P (jD X) vwCl (jpl (jac X e μ.length) (jcA X) ν2) H1) (hD1 : va_D (va_A (jpl (jac X e μ.length) (jcA X) ν) H.size) (jpl (jac X e μ.length) (jcA X) ν2)) (hS1 : va_S (jA X) (js X).heap H1 locs1) (hf : sf = true → jfut (jac X e μ.length) ν2.length H1.size (ν.length + bu)) :
    va_P (jD X) vwCl (jpl (jad X) (jcA X) (jback e ν2 μ)) H1 ∧ va_D (jA X) (jpl (jad X) (jcA X) (jback e ν2 μ)) ∧ (sf = true → jfut (jad X) (jback e ν2 μ).length H1.size (jal X)) := by
  have hl := jsub_len hs
  have hlb : (jback e ν2 μ).length = μ.length + (ν2.length - e.length) := by simp [jback, jput_len]
  -- each cell of the new world: the callee's, or an old one that is not the callee's
  have key : ∀ (i : Nat) (c : jc), (jback e ν2 μ)[i]? = some c → (∃ (j : Nat) (d : jc), ν2[j]? = some d ∧ jrn e μ.length j = i ∧ c = jrc (jrn e μ.length) d) ∨ (i < μ.length ∧ i ∉ e ∧ μ[i]? = some c) := by
    intro i c h
    by_cases hi : i < μ.length
    · rw [jback, List.getElem?_append_left (by rw [jput_len]; exact hi)] at h
      by_cases hm : i ∈ e
      · obtain ⟨j, hj⟩ := List.getElem?_of_mem hm
        have hje : j < e.length := (List.getElem?_eq_some_iff.mp hj).1
        have hj2 : j < ν2.length := by omega
        have h9 := jput_in (jrn e μ.length) e ν2 μ j i ν2[j] hn hj (List.getElem?_eq_getElem hj2) hi
        rw [h9] at h
        refine Or.inl ⟨j, ν2[j], List.getElem?_eq_getElem hj2, ?_, (Option.some.inj h).symm⟩
        simp only [jrn, hje, if_true, List.getD_eq_getElem?_getD, hj, Option.getD_some]
      · rw [jput_out _ _ _ _ _ hm] at h
        exact Or.inr ⟨hi, hm, h⟩
    · rw [jback, List.getElem?_append_right (by rw [jput_len]; omega), jput_len, List.getElem?_map, List.getElem?_drop] at h
      cases hd : ν2[e.length + (i - μ.length)]? with
      | none => simp [hd] at h
      | some d =>
        simp only [hd, Option.map_some, Option.some.injEq] at h
        have := (List.getElem?_eq_some_iff.mp hd).1
        refine Or.inl ⟨_, d, hd, ?_, h.symm⟩
        simp only [jrn]
        rw [if_neg (by omega), if_pos (by omega)]
        omega
  refine ⟨fun i q hq => ?_, ⟨fun i j p q hp hq hpq => ?_, fun i q hq => ?_⟩, fun z j h1 h2 => ?_⟩
  · rw [jpl_get] at hq
    cases hc : (jback e ν2 μ)[i]? with
    | none => simp [hc] at hq
    | some c =>
      simp only [hc, Option.map_some, Option.some.injEq] at hq
      subst hq
      rcases key i c hc with ⟨j, d, h1, h2, h3⟩ | ⟨h1, h2, h3⟩
      · have h9 := hP1 j _ (jpl_at h1)
        rw [h3, jrE_jrc, ← h2]
        exact h9
      · have h9 := jpl_at (ad := jad X) (cA := jcA X) h3
        refine (hH.1 i _ h9).kept (hk _ ((hH.1 i _ h9).lt) ?_)
        rintro (⟨j, d, hj⟩ | hj)
        · have hj2 : (e.map (fun i => (jpl (jad X) (jcA X) μ)[i]?))[j]? = some (some (jad X i, d)) := by rw [jac_pl hs, List.getElem?_map, hj]; rfl
          rw [List.getElem?_map] at hj2
          cases he : e[j]? with
          | none => simp [he] at hj2
          | some t =>
            simp only [he, Option.map_some, Option.some.injEq] at hj2
            have := hH.2.1.1 i t _ _ h9 hj2 rfl
            exact h2 (by rw [this]; exact List.mem_of_getElem? he)
        · have h8 : jad X i < H.size := (hH.1 i _ h9).lt
          exact absurd h8 (Nat.not_lt.mpr hj)
  · -- addresses apart
    rw [jpl_get] at hp hq
    cases hc : (jback e ν2 μ)[i]? with
    | none => simp [hc] at hp
    | some c =>
      cases hc2 : (jback e ν2 μ)[j]? with
      | none => simp [hc2] at hq
      | some c2 =>
        simp only [hc, hc2, Option.map_some, Option.some.injEq] at hp hq
        subst hp; subst hq
        dsimp only at hpq
        have inA : ∀ (a b : Nat) (d c2 : jc), ν2[a]? = some d → jrn e μ.length a = b → va_A (jpl (jac X e μ.length) (jcA X) ν) H.size (jad X b) := by
          intro a b d c2 ha hb
          have := hD1.2 a _ (jpl_at (ad := jac X e μ.length) (cA := jcA X) ha)
          rw [← hb]
          exact this
        have old : ∀ (a : Nat) (d : jc), a ∉ e → μ[a]? = some d → ¬ va_A (jpl (jac X e μ.length) (jcA X) ν) H.size (jad X a) := by
          intro a d hne ha
          have h9 := jpl_at (ad := jad X) (cA := jcA X) ha
          rintro (⟨t, x, ht⟩ | ht)
          · have hj2 : (e.map (fun i => (jpl (jad X) (jcA X) μ)[i]?))[t]? = some (some (jad X a, x)) := by rw [jac_pl hs, List.getElem?_map, ht]; rfl
            rw [List.getElem?_map] at hj2
            cases he : e[t]? with
            | none => simp [he] at hj2
            | some u =>
              simp only [he, Option.map_some, Option.some.injEq] at hj2
              have := hH.2.1.1 a u _ _ h9 hj2 rfl
              exact hne (by rw [this]; exact List.mem_of_getElem? he)
          · have h8 : jad X a < H.size := (hH.1 a _ h9).lt
            exact absurd h8 (Nat.not_lt.mpr ht)
        rcases key i c hc with ⟨a, d, h1, h2, h3⟩ | ⟨h1, h2, h3⟩ <;> rcases key j c2 hc2 with ⟨a2, d2, g1, g2, g3⟩ | ⟨g1, g2, g3⟩
        · have h9 := hD1.1 a a2 _ _ (jpl_at (ad := jac X e μ.length) (cA := jcA X) h1) (jpl_at (ad := jac X e μ.length) (cA := jcA X) g1) (by simp only [jac, h2, g2]; exact hpq)
          rw [← h2, ← g2, h9]
        · exact absurd (by rw [← hpq]; exact inA a i d c h1 h2) (old j c2 g2 g3)
        · exact absurd (by rw [hpq]; exact inA a2 j d2 c2 g1 g2) (old i c h2 h3)
        · exact hH.2.1.1 i j _ _ (jpl_at h3) (jpl_at g3) hpq
  · rw [jpl_get] at hq
    cases hc : (jback e ν2 μ)[i]? with
    | none => simp [hc] at hq
    | some c =>
      simp only [hc, Option.map_some, Option.some.injEq] at hq
      subst hq
      rcases key i c hc with ⟨a, d, h1, h2, h3⟩ | ⟨h1, h2, h3⟩
      · have h9 := hD1.2 a _ (jpl_at (ad := jac X e μ.length) (cA := jcA X) h1)
        have h8 := jac_free hX hH hs _ h9
        simp only [jac, h2] at h8
        exact h8
      · exact hH.2.1.2 i _ (jpl_at h3)
  · have h9 := hf z ν2.length (Nat.le_refl _) hν2
    rw [hlb] at h1 ⊢
    have h8 : jac X e μ.length ν2.length = jad X (μ.length + (ν2.length - e.length)) := by
      simp only [jac, jrn]
      rw [if_neg (by omega), if_pos (by omega)]
    rw [h8, hH.2.2.2 _ (by omega) (by omega)] at h9
    rw [hH.2.2.2 j (by omega) h2]
    omega
end JC7
end
section
section JC8
variable {X : jX} {k n pc : Nat} {L : List (Option Value)} {st : List Value} {μ ν : jH} {e : List Nat}
theorem jPc_blind (V : jV) (ad : Nat → Nat) (As : List Value) (μ : jH) (sz : Nat) : FrameBlind (jPc V ad As μ sz) := by
  intro a U g mk h
  obtain ⟨h0, h1, h2, h3, h4, h5⟩ := h
  exact ⟨h0, h1, h2, h3, va_K.moved (u := U) (U := U.calling g mk a) (Vm.Alike.refl U.vm) h4, jE.same (u := U) (U := U.calling g mk a) rfl h5⟩
theorem jPc_at {H : Heap} {locs : List Loc} (hX : jOK X) (hH : jHP X μ H locs) (hs : jsub e ν μ) (hn : va_nd e = true) (he : e.length ≤ 1000000) {As : List Value} (U : State) (hU : U.heap = H) (hW : (js X).WarmedH U.vm) : jPc (jVX X) (jac X e μ.length) As ν H.size (As.map (jre (jac X e μ.length))).toArray U := by
  refine ⟨rfl, by rw [hU], by rw [hU]; exact jac_P hH hs, (jac_D hH hs hn).weaken (fun _ _ _ _ => trivial), va_K.moved hW.alike hX.2.2.2.2.2.1, ?_⟩
  rw [hU]
  have h9 := jE.warm hW hH.2.2.1 (jac_free hX hH hs) hX.2.2.2.2.2.2.2.2.1
  have e9 : ∀ w : Nat, jac X e μ.length (1000000 + w) = jad X (1000000 + w) := by
    intro w
    simp only [jac, jrn]
    rw [if_neg (by omega), if_neg (by omega)]
  obtain ⟨a1, a2, a3, a4, a5, a6⟩ := h9
  refine ⟨?_, a2, a3, a4, fun q hq => by rw [e9]; exact a5 q hq, a6⟩
  have e8 : (fun w => jac X e μ.length (1000000 + w)) = fun w => jad X (1000000 + w) := funext fun w => e9 w
  rw [e8]
  exact a1
def jsf : Bool → jX → jX
  | true, X => X
  | false, X => jof X
theorem jcall_core (hX : jOK X) {H : Heap} {locs : List Loc} {ls : Array Slot} (hH : jHP X μ H locs) (hl : jlo (jad X) (jnL X) L ls) (hs : jsub e ν μ) (hn : va_nd e = true) (hei : ∀ i ∈ e, i < μ.length) {bu : Nat} (hb : μ.length + bu ≤ jal X) (hb6 : e.length + bu ≤ 1000000) {sf : Bool} {po : Option Value → jH → Prop} {px : String → jH → Prop} {mc ms : Nat} {st0 : List Value} {As : Array Value}
    (hpo : ∀ o ν2, po o ν2 → ν.length ≤ ν2.length ∧ ν2.length < ν.length + bu) (hpx : ∀ E ν2, px E ν2 → ν.length ≤ ν2.length ∧ ν2.length < ν.length + bu)
    (hr : vx_Run (jp X) (jl X) (je X) (jR X) (js X) (jm X) (ja X) (jb X) (jme X) (jcd X) H locs k n mc ms (F0 (jm X) pc ls st0) (st.map (jre (jad X))) (jQc (jD X) (jcA X) (jac X e μ.length) (va_A (jpl (jac X e μ.length) (jcA X) ν) H.size) sf (ν.length + bu) po As) (jXC (jD X) (jcA X) (jac X e μ.length) (va_A (jpl (jac X e μ.length) (jcA X) ν) H.size) px) (va_A (jpl (jac X e μ.length) (jcA X) ν) H.size))
    (K : ∀ o ν2, po o ν2 → JW (jsf sf X) (k + mc) (n + ms) (pc + 3) L ((o.map (jre (jrn e μ.length))).toList ++ st) (jback e ν2 μ))
    (KX : ∀ E ν2, px E ν2 → JX (jof X) (k + mc) (n + ms) pc L st E (jback e ν2 μ)) : jW X H locs k n (F0 (jm X) pc ls st0) := by
  have hA := jac_free hX hH hs
  intro T hT Y
  rcases hr T hT Y with ⟨v, st₀, t, T', L9, h0, X', hL, e1, e2, ⟨o, ν2, hpo1, ho, hP1, hD1, hF, hfu⟩, go⟩ | ⟨q, st₀, t, T', L9, E, ce, h0, X', hL, e1, e2, ⟨ν2, hpx1, hP1, hD1, hF⟩, hce, hcv, hcl, go⟩
  · obtain ⟨k1, k2, k3⟩ := vx_keep h0 e1 hH.2.2.1 (fun q _ h => hA q h) hA hL hF
    have hv : v = o.map (jre (jac X e μ.length)) := by cases ho; rfl
    obtain ⟨p1, p2⟩ := hpo o ν2 hpo1
    rw [← e1] at hP1 hfu
    obtain ⟨g1, g2, g3⟩ := jac_back hX hH hs hn hb hb6 p1 p2 hei k2 hP1 hD1 k3 hfu
    have hst : v.toList ++ st.map (jre (jad X)) = ((o.map (jre (jrn e μ.length))).toList ++ st).map (jre (jad X)) := by
      rw [hv, List.map_append]
      congr 1
      cases o with
      | none => rfl
      | some w => simp only [Option.map_some, Option.toList_some, List.map_cons, List.map_nil, jre_jre]; rfl
    have hK := K o ν2 hpo1
    have hW : jW X T'.heap (locs ++ L9) (k + mc) (n + ms) (F0 (jm X) (pc + 3) ls (((o.map (jre (jrn e μ.length))).toList ++ st).map (jre (jad X)))) := by
      cases sf with
      | true => exact hK T'.heap (locs ++ L9) ls ⟨g1, g2, k3, g3 rfl⟩ hl
      | false => exact hK T'.heap (locs ++ L9) ls ⟨g1, g2, k3, fun j _ h => absurd h (Nat.not_lt_zero j)⟩ hl
    rw [← hst] at hW
    obtain ⟨t2, a1, b1⟩ := hW T' rfl X'
    exact ⟨t2, go t2 a1, b1⟩
  · obtain ⟨k1, k2, k3⟩ := vx_keep h0 e1 hH.2.2.1 (fun q _ h => hA q h) hA hL hF
    obtain ⟨p1, p2⟩ := hpx E ν2 hpx1
    rw [← e1] at hP1 hce
    obtain ⟨g1, g2, g3⟩ := jac_back (sf := false) hX hH hs hn hb hb6 p1 p2 hei k2 hP1 hD1 k3 (fun z => by cases z)
    obtain ⟨t2, a1, b1⟩ := KX E ν2 hpx1 T'.heap (locs ++ L9) ls q ce ⟨g1, g2, k3, fun j _ h => absurd h (Nat.not_lt_zero j)⟩ hl hce hcv hcl T' rfl X'
    exact ⟨t2, go.trans a1, b1⟩
theorem jgood {X : jX} {w9 : Cond} {l : List Cond} (h9 : w9 ∈ jbig) (hl : ∀ w ∈ l, w ∈ jbig) : GoodIn jbig (l ++ w9 :: jbig) := by
  intro w hw
  have h : w ∈ jbig := by
    rcases List.mem_append.mp hw with h | h
    · exact hl w h
    · rcases List.mem_cons.mp h with h | h
      · rw [h]; exact h9
      · exact h
  exact ⟨h, good_of_word (jbig_good h)⟩
theorem jstk (hc : (st.map fun v => v.category).sum ≤ 8) {ls : Array Slot} {g : List Value} : 2 * (F0 (jm X) pc ls g).monitorRoom + ((st.map (jre (jad X))).map fun v => v.category).sum ≤ 8 := by
  refine lv_room ?_
  rw [List.map_map]
  have e9 : ((fun v : Value => v.category) ∘ jre (jad X)) = fun v : Value => v.category := funext fun v => jre_cat _ v
  rw [e9]
  exact hc
theorem jargs {As : List Value} : (As.map (jre (jrn e μ.length))).map (jre (jad X)) = As.map (jre (jac X e μ.length)) := by
  rw [List.map_map]
  exact List.map_congr_left fun v _ => jre_jre _ _ v
/-- what a call asks of the caller's world: the part, its places, the budget -/
def jcw (X : jX) (e : List Nat) (ν μ : jH) (bu : Nat) : Prop := jsub e ν μ ∧ va_nd e = true ∧ (∀ i ∈ e, i < μ.length) ∧ μ.length + bu ≤ jal X ∧ e.length + bu ≤ 1000000
/-- what is known of a callee by its name -/
def jcy (own : String) (i : Nat) (y : MethodName) (b : ByteArray) (nl : Nat) (r : Option FieldType) (na : Nat) : Prop := Cond.methodLink own i y ∈ jbig ∧ Cond.code y b nl r ∈ jbig ∧ Cond.initialized y.cls ∈ jbig ∧ y.cls ≠ "java/lang/invoke/MethodHandle" ∧ y.cls ≠ "java/lang/invoke/VarHandle" ∧ (parseMethodDescriptor y.desc).map (fun d => d.parameters.length) = some na
def jrm (R rm : Room) (nl k n : Nat) : Prop := rm.frames + 1 ≤ R.frames ∧ 8 + (nl + 11) + rm.locals ≤ R.locals ∧ k + rm.cells ≤ R.cells ∧ n + rm.slots ≤ R.slots
/-- invokevirtual -/
theorem JW.callV (hX : jOK X) {y : MethodName} {b : ByteArray} {nl na i : Nat} {r : Option FieldType} {rm : Room} {sf : Bool} {bu : Nat} {As : List Value} {po : Option Value → jH → Prop} {px : String → jH → Prop} (hM : jMet (jVX X) y (jws y b nl r) rm sf bu (.ref 0 :: As) ν po px) (hcw : jcw X e ν μ bu) (hy : jcy (jown X) i y b nl r na) (hyi : Cond.instanceMethod y ∈ jbig ∧ Cond.selects y.cls y y ∈ jbig)
    {ci N : Nat} {T : u_T} {fs : List Value} (h0 : ν[0]? = some (.inr (.inr (.inl (ci, fs))))) (hc : vwCl[ci]? = some (y.cls, T, N)) (hna : As.length = na) (hrm : jrm (jR X) rm nl k n) (hcat : (st.map fun v => v.category).sum ≤ 8) (hd : decode (jcc X) pc = .ok (.invokevirtual i, 3))
    {st0 : List Value} (hst : st0 = (As.map (jre (jrn e μ.length))).reverse ++ .ref (jrn e μ.length 0) :: st)
    (hpo : ∀ o ν2, po o ν2 → ν.length ≤ ν2.length ∧ ν2.length < ν.length + bu) (hpx : ∀ E ν2, px E ν2 → ν.length ≤ ν2.length ∧ ν2.length < ν.length + bu)
    (K : ∀ o ν2, po o ν2 → JW (jsf sf X) (k + rm.cells) (n + rm.slots) (pc + 3) L ((o.map (jre (jrn e μ.length))).toList ++ st) (jback e ν2 μ))
    (KX : ∀ E ν2, px E ν2 → JX (jof X) (k + rm.cells) (n + rm.slots) pc L st E (jback e ν2 μ)) : JW X k n pc L st0 μ := fun H locs ls hH hl => by
  obtain ⟨hs, hn, hei, hb, hb6⟩ := hcw
  obtain ⟨w1, w2, w3, w4, w5, w6⟩ := hy
  subst hst
  have hM9 := hM (jac X e μ.length) H.size (jac_fut hH hs hb hb6)
  have hrecv := va_recv hX.2.2.2.2.2.1 (jac_P hH hs) hc (jpl_at (ad := jac X e μ.length) (cA := jcA X) h0)
  have hr := vx_runV (g := F0 (jm X) pc ls (((As.map (jre (jrn e μ.length))).reverse ++ .ref (jrn e μ.length 0) :: st).map (jre (jad X)))) (As := As.map (jre (jac X e μ.length))) (rest := st.map (jre (jad X))) (cells := k) (slots := n) (locs := locs) (e := je X) (R := jR X) (below := jb X) (meth := jme X) (C := y.cls) (n := na) (b := jac X e μ.length 0) (H := H) (index := i) (own := jown X) (args := ja X) (Ts := jbig) (nL := jnL X) (cc := jcc X) (p := jp X) (s := js X) (m := jm X) (c := jcd X) ⟨hX.1, hX.2.1, hX.2.2.1, hX.2.2.2.1, hX.2.2.2.2.1⟩ hM9
    (cwV (Ts := jbig) (ws' := jbig) (index := i) na hX.2.2.2.2.1 (jgood (X := X) (l := [.methodLink (jown X) i y, .instanceMethod y, .selects y.cls y y, .initialized y.cls]) w2 (by
      intro w hw
      simp only [List.mem_cons, List.mem_nil_iff, or_false] at hw
      rcases hw with rfl | rfl | rfl | rfl
      · exact w1
      · exact hyi.1
      · exact hyi.2
      · exact w3)) rfl rfl rfl ⟨rfl, w4, w5, w6⟩ ⟨hrm.1, hrm.2.1⟩)
    ⟨jPc_blind _ _ _ _ _, hrecv, fun U hU hW => jPc_at hX hH hs hn (by omega) (As := .ref 0 :: As) U hU hW⟩ rfl (by rw [List.length_map]; exact hna) hl.1 (by
      show List.map _ _ = _
      rw [List.map_append, List.map_reverse, jargs, List.map_cons]
      rfl) (jstk hcat) hd ⟨hrm.2.2.1, hrm.2.2.2⟩
  exact jcall_core hX hH hl hs hn hei hb hb6 hpo hpx hr K KX
/-- invokestatic -/
theorem JW.callS (hX : jOK X) {y : MethodName} {b : ByteArray} {nl na i : Nat} {r : Option FieldType} {rm : Room} {sf : Bool} {bu : Nat} {As : List Value} {po : Option Value → jH → Prop} {px : String → jH → Prop} (hM : jMet (jVX X) y (jws y b nl r) rm sf bu As ν po px) (hcw : jcw X e ν μ bu) (hy : jcy (jown X) i y b nl r na) (hyi : Cond.static y ∈ jbig)
    (hna : As.length = na) (hrm : jrm (jR X) rm nl k n) (hcat : (st.map fun v => v.category).sum ≤ 8) (hd : decode (jcc X) pc = .ok (.invokestatic i, 3))
    {st0 : List Value} (hst : st0 = (As.map (jre (jrn e μ.length))).reverse ++ st)
    (hpo : ∀ o ν2, po o ν2 → ν.length ≤ ν2.length ∧ ν2.length < ν.length + bu) (hpx : ∀ E ν2, px E ν2 → ν.length ≤ ν2.length ∧ ν2.length < ν.length + bu)
    (K : ∀ o ν2, po o ν2 → JW (jsf sf X) (k + rm.cells) (n + rm.slots) (pc + 3) L ((o.map (jre (jrn e μ.length))).toList ++ st) (jback e ν2 μ))
    (KX : ∀ E ν2, px E ν2 → JX (jof X) (k + rm.cells) (n + rm.slots) pc L st E (jback e ν2 μ)) : JW X k n pc L st0 μ := fun H locs ls hH hl => by
  obtain ⟨hs, hn, hei, hb, hb6⟩ := hcw
  obtain ⟨w1, w2, w3, w4, w5, w6⟩ := hy
  subst hst
  have hM9 := hM (jac X e μ.length) H.size (jac_fut hH hs hb hb6)
  have hr := vx_runS (g := F0 (jm X) pc ls (((As.map (jre (jrn e μ.length))).reverse ++ st).map (jre (jad X)))) (As := As.map (jre (jac X e μ.length))) (rest := st.map (jre (jad X))) (cells := k) (slots := n) (locs := locs) (e := je X) (R := jR X) (below := jb X) (meth := jme X) (n := na) (H := H) (index := i) (own := jown X) (args := ja X) (Ts := jbig) (nL := jnL X) (cc := jcc X) (p := jp X) (s := js X) (m := jm X) (c := jcd X) ⟨hX.1, hX.2.1, hX.2.2.1, hX.2.2.2.1, hX.2.2.2.2.1⟩ hM9
    (va_cwS (Ts := jbig) (ws' := jbig) (index := i) na hX.2.2.2.2.1 (jgood (X := X) (l := [.methodLink (jown X) i y, .static y, .initialized y.cls]) w2 (by
      intro w hw
      simp only [List.mem_cons, List.mem_nil_iff, or_false] at hw
      rcases hw with rfl | rfl | rfl
      · exact w1
      · exact hyi
      · exact w3)) rfl rfl rfl ⟨w4, w5, w6⟩ ⟨hrm.1, hrm.2.1⟩)
    ⟨jPc_blind _ _ _ _ _, fun U hU hW => jPc_at hX hH hs hn (by omega) (As := As) U hU hW⟩ rfl (by rw [List.length_map]; exact hna) hl.1 (by
      show List.map _ _ = _
      rw [List.map_append, List.map_reverse, jargs]) (jstk hcat) hd ⟨hrm.2.2.1, hrm.2.2.2⟩
  exact jcall_core hX hH hl hs hn hei hb hb6 hpo hpx hr K KX
/-- a method's contract out of its walk -/
theorem jMet.intro {V : jV} {y : MethodName} {b : ByteArray} {nl : Nat} {r : Option FieldType} {rm : Room} {sf : Bool} {bu : Nat} {As : List Value} {ν : jH} {po : Option Value → jH → Prop} {px : String → jH → Prop} {tb : jT} (hst : V.1.stackTraces = false) (hy : plainName y.cls = true) (htb : jtOK y.cls tb) (htb5 : tb.2.2.2.2 = none) {L0 : List (Option Value)} (hsl : (lg_sl As).length ≤ nl) (hL0 : ∀ (i : Nat) (v : Value), L0[i]? = some (some v) → (i, v) ∈ lv_args 0 As)
    (body : ∀ X : jX, jOK X → jVX X = V → jcc X = b → jown X = y.cls → jTN X tb nl → jR X = rm → jmc X = rm.cells ∧ jms X = rm.slots → jrt X = r → jal X = ν.length + bu → jPost X sf (ν.length + bu) po px → jNT X → (y.name = "<init>" → (jme X).name = "<init>") → JW X 0 0 0 L0 [] ν) : jMet V y (jws y b nl r) rm sf bu As ν po px := by
  intro ad sz hfu
  refine vx_ofW (cc := b) (maxL := nl) (ret := r) (ws' := jbig) hy rfl ?_
  intro p e s m args below meth c s₁ B hml hnt hPc
  obtain ⟨rfl, rfl, hP, hD, hK, hE⟩ := hPc
  have hts := atoms_spec (ws := jws y b nl r) B.pre
  have hown : s.vm.findClass y.cls = some m.cls := findClass_of_methodNamed B.named
  have h9 := body ((p, V.1, e, (headSpec (jws y b nl r) rm).room, s, m, (As.map (jre ad)).toArray, below, meth, c), (V.2.1, V.2.2.1, ad, V.2.2.2, va_A (jpl ad V.2.2.1 ν) s.heap.size), (y.cls, b, nl, rm.cells, rm.slots, ν.length + bu, r, vx_MQ below (jQc V.2.1 V.2.2.1 ad (va_A (jpl ad V.2.2.1 ν) s.heap.size) sf (ν.length + bu) po) (jXC V.2.1 V.2.2.1 ad (va_A (jpl ad V.2.2.1 ν) s.heap.size) px) (As.map (jre ad)).toArray s rm.cells rm.slots (va_A (jpl ad V.2.2.1 ν) s.heap.size), tb))
    ⟨B.exec, B.bytes, hml, hown, fun w hw => hts w (List.mem_cons_of_mem _ hw), hK, fun q h => Or.inr h, B.notSynchronized, hE, hst, Nat.le_refl _, Nat.le_refl _, B.returns, htb, fun z hz => by have hz2 : tb.2.2.2.2 = some z := hz; rw [htb5] at hz2; cases hz2⟩
    rfl rfl rfl ⟨rfl, rfl⟩ rfl ⟨rfl, rfl⟩ rfl rfl ⟨rfl, fun _ => Nat.le_refl _⟩ hnt (fun h => (name_of_methodNamed B.named B.method).1.trans h)
  rw [lg_entry_eq]
  have hlen : (lg_sl (As.map (jre ad))).length = (lg_sl As).length := by
    simp only [lg_sl, List.length_flatMap, List.map_map]
    congr 1
    refine List.map_congr_left fun v _ => ?_
    simp only [Function.comp, jre_cat]
    split <;> rfl
  have hla : ∀ (As : List Value) (i : Nat), lv_args i (As.map (jre ad)) = (lv_args i As).map (fun q => (q.1, jre ad q.2)) := by
    intro As
    induction As with
    | nil => intro i; rfl
    | cons v l ih =>
      intro i
      simp only [List.map_cons, lv_args, jre_cat, ih]
  have hl := lv_entry (As.map (jre ad)) (n := nl) (by rw [hlen]; exact hsl)
  refine h9 s.heap [] _ ⟨hP, hD.self, va_S.rf, hfu⟩ ⟨hl.1, hl.2.1, fun i v hi => ?_⟩
  refine hl.2.2 (i, jre ad v) ?_
  rw [hla]
  exact List.mem_map.mpr ⟨(i, v), hL0 i v hi, rfl⟩
end JC8
end
section
/-! what the printed walks use -/
def jMX (X : jX) (C : List (Nat × Instr × Nat)) (own : String) (tb : jT) (nl : Nat) (R : Room) (rt : Option FieldType) (B : Nat) : Prop := jOK X ∧ jDec X C ∧ jown X = own ∧ jTN X tb nl ∧ jR X = R ∧ jmc X = R.cells ∧ jms X = R.slots ∧ jrt X = rt ∧ B ≤ jal X ∧ jNT X
theorem jg {α : Type} {c : Prop} [Decidable c] {a : Option α} {r : α} (h : (if c then a else none) = some r) : c ∧ a = some r := by
  split at h
  · next hc => exact ⟨hc, h⟩
  · cases h
theorem jgn {α : Type} {c : Prop} [Decidable c] {a : Option α} {r : α} (h : (if c then none else a) = some r) : ¬ c ∧ a = some r := by
  split at h
  · cases h
  · next hc => exact ⟨hc, h⟩
theorem jbd {α β : Type} {a : Option α} {f : α → Option β} {r : β} (h : a.bind f = some r) : ∃ v, a = some v ∧ f v = some r := by
  cases a with
  | none => cases h
  | some v => exact ⟨v, rfl, h⟩
def jlt {α β : Type} (a : α) (f : α → β) : β := f a
theorem jlE {α β : Type} {a : α} {f : α → Option β} {r : β} (h : jlt a f = some r) : ∃ v, a = v ∧ f v = some r := ⟨a, rfl, h⟩
/-- a call that may throw: 1 no such element, 2 a wrong state, 3 a wrong argument, 4 a wrong index -/
def jbx {α β : Type} (a : Option (Nat ⊕ α)) (f : α → Option (Nat ⊕ β)) : Option (Nat ⊕ β) := match a with
  | some (.inr v) => f v
  | some (.inl c) => some (.inl c)
  | none => none
theorem jbxE {α β : Type} {a : Option (Nat ⊕ α)} {f : α → Option (Nat ⊕ β)} {r : Nat ⊕ β} (h : jbx a f = some r) : (∃ v, a = some (.inr v) ∧ f v = some r) ∨ ∃ c, a = some (.inl c) ∧ r = .inl c := by
  cases a with
  | none => cases h
  | some x =>
    cases x with
    | inl c => cases h; exact Or.inr ⟨c, rfl, rfl⟩
    | inr v => exact Or.inl ⟨v, rfl, h⟩
def jEn (c : Nat) : String := match c with
  | 1 => "java/util/NoSuchElementException"
  | 2 => "java/lang/IllegalStateException"
  | 3 => "java/lang/IllegalArgumentException"
  | _ => "java/lang/IndexOutOfBoundsException"
def jup (G : Nat → Nat → Int32) (c i : Nat) (x : Int32) : Nat → Nat → Int32 := va_up G c (upd (G c) i x)
def jupL (G : Nat → Nat → Int64) (c i : Nat) (x : Int64) : Nat → Nat → Int64 := va_up G c (vp_updL (G c) i x)
/-- an object's part of a state, and back -/
def jvw {α : Type} (G : Nat → α) (b : Nat) : Nat → α := fun k => G (b + k)
def jv2 {α : Type} (G : Nat → α) (r s t : Nat) : Nat → α := fun k => if k < s then G (r + k) else G (t + (k - s))
def jpt {α : Type} (G : Nat → α) (b s : Nat) (G2 : Nat → α) : Nat → α := fun a => if b ≤ a ∧ a < b + s then G2 (a - b) else G a
def jp2 {α : Type} (G : Nat → α) (r s t u : Nat) (G2 : Nat → α) : Nat → α := jpt (jpt G r s G2) t u (fun k => G2 (s + k))
/-- the locals at a method's start -/
def jl0 : Nat → List Value → List (Option Value)
  | 0, _ => []
  | n + 1, [] => none :: jl0 n []
  | n + 1, v :: vs => if v.category = 2 then (match n with
    | 0 => [some v]
    | m + 1 => some v :: none :: jl0 m vs) else some v :: jl0 n vs
theorem jl0_mem : ∀ (n : Nat) (As : List Value) (o i : Nat) (v : Value), (jl0 n As)[i]? = some (some v) → (o + i, v) ∈ lv_args o As
  | 0, As, o, i, v, h => by simp [jl0] at h
  | n + 1, [], o, i, v, h => by
    exfalso
    have key : ∀ (m j : Nat), (jl0 m [])[j]? ≠ some (some v) := by
      intro m
      induction m with
      | zero => intro j; simp [jl0]
      | succ m ih =>
        intro j
        cases j with
        | zero => simp [jl0]
        | succ j => simp only [jl0, List.getElem?_cons_succ]; exact ih j
    exact key (n + 1) i h
  | 1, w :: vs, o, i, v, h => by
    simp only [jl0] at h
    split at h
    · cases i with
      | zero => simp only [List.getElem?_cons_zero, Option.some.injEq] at h; subst h; simp [lv_args]
      | succ i => simp at h
    · cases i with
      | zero => simp only [List.getElem?_cons_zero, Option.some.injEq] at h; subst h; simp [lv_args]
      | succ i => simp at h
  | m + 2, w :: vs, o, i, v, h => by
    unfold jl0 at h
    dsimp only at h
    split at h
    · next hc =>
      cases i with
      | zero => simp only [List.getElem?_cons_zero, Option.some.injEq] at h; subst h; simp [lv_args]
      | succ i =>
        cases i with
        | zero => simp at h
        | succ i =>
          simp only [List.getElem?_cons_succ] at h
          have h9 := jl0_mem m vs (o + 2) i v h
          simp only [lv_args, hc, if_true]
          refine List.mem_cons_of_mem _ ?_
          rw [show o + (i + 1 + 1) = o + 2 + i by omega]
          exact h9
    · next hc =>
      cases i with
      | zero => simp only [List.getElem?_cons_zero, Option.some.injEq] at h; subst h; simp [lv_args]
      | succ i =>
        simp only [List.getElem?_cons_succ] at h
        have h9 := jl0_mem (m + 1) vs (o + 1) i v h
        simp only [lv_args, hc, if_false]
        refine List.mem_cons_of_mem _ ?_
        rw [show o + (i + 1) = o + 1 + i by omega]
        exact h9
section J9
variable {X : jX} {C : List (Nat × Instr × Nat)} {own : String} {tb : jT} {nl : Nat} {R : Room} {rt : Option FieldType} {B : Nat} {k n pc : Nat} {L : List (Option Value)} {st : List Value} {μ ν : jH}
theorem JW.r (hM : jMX X C own tb nl R rt B) (a m : Nat) {pc2 : Nat} {g : Prop} {L2 : List (Option Value)} {st2 : List Value} {μ2 : jH} (h : jrun tb nl ((C.drop a).take m) pc L st μ = some (g, pc2, L2, st2, μ2)) (hg : g) (K : JW X k n pc2 L2 st2 μ2) : JW X k n pc L st μ := JW.run hM.1 hM.2.1 hM.2.2.2.1 a m h hg K
def jcb (e : List Nat) (m B : Nat) : Bool := va_nd e && e.all (fun i => decide (i < m)) && decide (m + 1 ≤ B) && decide (e.length + 1 ≤ 1000000)
def jrb (R : Room) (fr lo mc ms nl k n : Nat) : Bool := decide (fr + 1 ≤ R.frames) && decide (8 + (nl + 11) + lo ≤ R.locals) && decide (k + mc ≤ R.cells) && decide (n + ms ≤ R.slots)
theorem jcb_ok (hM : jMX X C own tb nl R rt B) {e : List Nat} {m : Nat} (hs : jsub e ν μ) (hm : μ.length = m) (h : jcb e m B = true) : jcw X e ν μ 1 := by
  simp only [jcb, Bool.and_eq_true, decide_eq_true_eq, List.all_eq_true] at h
  obtain ⟨⟨⟨h1, h2⟩, h3⟩, h4⟩ := h
  exact ⟨hs, h1, by rw [hm]; exact h2, by rw [hm]; exact Nat.le_trans h3 hM.2.2.2.2.2.2.2.2.1, h4⟩
theorem jrb_ok (hR : jR X = R) {fr lo mc ms nl k n : Nat} (h : jrb R fr lo mc ms nl k n = true) : jrm (jR X) ⟨fr, mc, ms, lo⟩ nl k n := by
  simp only [jrb, Bool.and_eq_true, decide_eq_true_eq] at h
  obtain ⟨⟨⟨h1, h2⟩, h3⟩, h4⟩ := h
  rw [hR]
  exact ⟨h1, h2, h3, h4⟩
variable {y : MethodName} {b : ByteArray} {nl2 na i fr lo mc2 ms2 : Nat} {r2 : Option FieldType} {As : List Value} {ν2 μ2 : jH} {e : List Nat} {v : Option Value}
theorem JW.cV (hM : jMX X C own tb nl R rt B) (hm : jMet (jVX X) y (jws y b nl2 r2) ⟨fr, mc2, ms2, lo⟩ true 1 (.ref 0 :: As) ν (fun o ν9 => o = v ∧ ν9 = ν2) (fun _ _ => False)) {m : Nat} (hs : jsub e ν μ) (hbk : jback e ν2 μ = μ2) (hlen : μ.length = m) (hl : ν2.length = ν.length) (hq : jcb e m B = true) (hy : jcy own i y b nl2 r2 na ∧ Cond.instanceMethod y ∈ jbig ∧ Cond.selects y.cls y y ∈ jbig) {ci N : Nat} {T : u_T} {fs : List Value} (h0 : ν[0]? = some (.inr (.inr (.inl (ci, fs))))) (hc : vwCl[ci]? = some (y.cls, T, N)) (hna : As.length = na) (hrm : jrb R fr lo mc2 ms2 nl2 k n = true) (hcat : Nat.ble (st.map fun v => v.category).sum 8 = true) (hd : decode (jcc X) pc = .ok (.invokevirtual i, 3))
    {st0 : List Value} (hst : st0 = (As.map (jre (jrn e m))).reverse ++ .ref (jrn e m 0) :: st) (K : JW X (k + mc2) (n + ms2) (pc + 3) L ((v.map (jre (jrn e m))).toList ++ st) μ2) : JW X k n pc L st0 μ := by
  subst hlen
  refine JW.callV hM.1 hm (jcb_ok hM hs rfl hq) (by rw [hM.2.2.1]; exact hy.1) hy.2 h0 hc hna (jrb_ok hM.2.2.2.2.1 hrm) (Nat.le_of_ble_eq_true hcat) hd hst (fun o ν9 h9 => by obtain ⟨-, rfl⟩ := h9; rw [hl]; exact ⟨Nat.le_refl _, Nat.lt_succ_self _⟩) (fun E ν9 h9 => h9.elim) (fun o ν9 h9 => ?_) (fun E ν9 h9 => h9.elim)
  obtain ⟨rfl, rfl⟩ := h9
  rw [hbk]
  exact K
theorem JW.cS (hM : jMX X C own tb nl R rt B) (hm : jMet (jVX X) y (jws y b nl2 r2) ⟨fr, mc2, ms2, lo⟩ true 1 As ν (fun o ν9 => o = v ∧ ν9 = ν2) (fun _ _ => False)) {m : Nat} (hs : jsub e ν μ) (hbk : jback e ν2 μ = μ2) (hlen : μ.length = m) (hl : ν2.length = ν.length) (hq : jcb e m B = true) (hy : jcy own i y b nl2 r2 na ∧ Cond.static y ∈ jbig) (hna : As.length = na) (hrm : jrb R fr lo mc2 ms2 nl2 k n = true) (hcat : Nat.ble (st.map fun v => v.category).sum 8 = true) (hd : decode (jcc X) pc = .ok (.invokestatic i, 3))
    {st0 : List Value} (hst : st0 = (As.map (jre (jrn e m))).reverse ++ st) (K : JW X (k + mc2) (n + ms2) (pc + 3) L ((v.map (jre (jrn e m))).toList ++ st) μ2) : JW X k n pc L st0 μ := by
  subst hlen
  refine JW.callS hM.1 hm (jcb_ok hM hs rfl hq) (by rw [hM.2.2.1]; exact hy.1) hy.2 hna (jrb_ok hM.2.2.2.2.1 hrm) (Nat.le_of_ble_eq_true hcat) hd hst (fun o ν9 h9 => by obtain ⟨-, rfl⟩ := h9; rw [hl]; exact ⟨Nat.le_refl _, Nat.lt_succ_self _⟩) (fun E ν9 h9 => h9.elim) (fun o ν9 h9 => ?_) (fun E ν9 h9 => h9.elim)
  obtain ⟨rfl, rfl⟩ := h9
  rw [hbk]
  exact K
/-- a callee that throws: it goes on to the caller -/
theorem JW.xV (hM : jMX X C own tb nl R rt B) {sf : Bool} {B9 : Nat} {po : Option Value → jH → Prop} {px : String → jH → Prop} (hp : jPost X sf B9 po px) {E : String} (hm : jMet (jVX X) y (jws y b nl2 r2) ⟨fr, mc2, ms2, lo⟩ true 1 (.ref 0 :: As) ν (fun _ _ => False) (fun E9 ν9 => E9 = E ∧ ν9 = ν)) {m : Nat} (hs : jsub e ν μ) (hbk : jback e ν μ = μ) (hlen : μ.length = m) (hq : jcb e m B = true) (hy : jcy own i y b nl2 r2 na ∧ Cond.instanceMethod y ∈ jbig ∧ Cond.selects y.cls y y ∈ jbig) {ci N : Nat} {T : u_T} {fs : List Value} (h0 : ν[0]? = some (.inr (.inr (.inl (ci, fs))))) (hc : vwCl[ci]? = some (y.cls, T, N)) (hna : As.length = na) (hrm : jrb R fr lo mc2 ms2 nl2 k n = true) (hcat : Nat.ble (st.map fun v => v.category).sum 8 = true) (hd : decode (jcc X) pc = .ok (.invokevirtual i, 3))
    {st0 : List Value} (hst : st0 = (As.map (jre (jrn e m))).reverse ++ .ref (jrn e m 0) :: st) (K : px E μ) : JW X k n pc L st0 μ := by
  subst hlen
  have hr9 := jrb_ok (X := X) hM.2.2.2.2.1 hrm
  have hp9 : jPost (jof X) false B9 po px → True := fun _ => trivial
  refine JW.callV hM.1 hm (jcb_ok hM hs rfl hq) (by rw [hM.2.2.1]; exact hy.1) hy.2 h0 hc hna hr9 (Nat.le_of_ble_eq_true hcat) hd hst (fun o ν9 h9 => h9.elim) (fun E ν9 h9 => by obtain ⟨-, rfl⟩ := h9; exact ⟨Nat.le_refl _, Nat.lt_succ_self _⟩) (fun o ν9 h9 => h9.elim) (fun E ν9 h9 => ?_)
  obtain ⟨rfl, rfl⟩ := h9
  rw [hbk]
  have hk : k + mc2 ≤ jmc X := by rw [hM.2.2.2.2.2.1, ← hM.2.2.2.2.1]; exact hr9.2.2.1
  have hn : n + ms2 ≤ jms X := by rw [hM.2.2.2.2.2.2.1, ← hM.2.2.2.2.1]; exact hr9.2.2.2
  intro H locs ls q ce hH hl h1 h2 h3
  show vx_W _ _ _ _ _ _ _ _ _ _ _ _ _ _ (jQ X) _ _
  rw [hp.1]
  exact vx_out (fun x hx => (hM.2.2.2.2.2.2.2.2.2 x hx).elim) hM.1.2.2.2.2.2.2.2.1 h1 h2 h3 (fun t ht hW => ⟨_, K, by rw [ht]; exact hH.1, hH.2.1, hH.2.2.1.F ht⟩) hH.2.2.1.2.2 hk hn
theorem JW.xS (hM : jMX X C own tb nl R rt B) {sf : Bool} {B9 : Nat} {po : Option Value → jH → Prop} {px : String → jH → Prop} (hp : jPost X sf B9 po px) {E : String} (hm : jMet (jVX X) y (jws y b nl2 r2) ⟨fr, mc2, ms2, lo⟩ true 1 As ν (fun _ _ => False) (fun E9 ν9 => E9 = E ∧ ν9 = ν)) {m : Nat} (hs : jsub e ν μ) (hbk : jback e ν μ = μ) (hlen : μ.length = m) (hq : jcb e m B = true) (hy : jcy own i y b nl2 r2 na ∧ Cond.static y ∈ jbig) (hna : As.length = na) (hrm : jrb R fr lo mc2 ms2 nl2 k n = true) (hcat : Nat.ble (st.map fun v => v.category).sum 8 = true) (hd : decode (jcc X) pc = .ok (.invokestatic i, 3))
    {st0 : List Value} (hst : st0 = (As.map (jre (jrn e m))).reverse ++ st) (K : px E μ) : JW X k n pc L st0 μ := by
  subst hlen
  have hr9 := jrb_ok (X := X) hM.2.2.2.2.1 hrm
  refine JW.callS hM.1 hm (jcb_ok hM hs rfl hq) (by rw [hM.2.2.1]; exact hy.1) hy.2 hna hr9 (Nat.le_of_ble_eq_true hcat) hd hst (fun o ν9 h9 => h9.elim) (fun E ν9 h9 => by obtain ⟨-, rfl⟩ := h9; exact ⟨Nat.le_refl _, Nat.lt_succ_self _⟩) (fun o ν9 h9 => h9.elim) (fun E ν9 h9 => ?_)
  obtain ⟨rfl, rfl⟩ := h9
  rw [hbk]
  have hk : k + mc2 ≤ jmc X := by rw [hM.2.2.2.2.2.1, ← hM.2.2.2.2.1]; exact hr9.2.2.1
  have hn : n + ms2 ≤ jms X := by rw [hM.2.2.2.2.2.2.1, ← hM.2.2.2.2.1]; exact hr9.2.2.2
  intro H locs ls q ce hH hl h1 h2 h3
  show vx_W _ _ _ _ _ _ _ _ _ _ _ _ _ _ (jQ X) _ _
  rw [hp.1]
  exact vx_out (fun x hx => (hM.2.2.2.2.2.2.2.2.2 x hx).elim) hM.1.2.2.2.2.2.2.2.1 h1 h2 h3 (fun t ht hW => ⟨_, K, by rw [ht]; exact hH.1, hH.2.1, hH.2.2.1.F ht⟩) hH.2.2.1.2.2 hk hn
/-- a contract out of the walk from its first instruction -/
theorem jmk {V : jV} {sf : Bool} {bu : Nat} {ν : jH} {po : Option Value → jH → Prop} {px : String → jH → Prop} {own : String} (hst : V.1.stackTraces = false) (ho : y.cls = own) (hy : plainName own = true) (htb : jtOK own tb) (htb5 : tb.2.2.2.2 = none) (hdec : ∀ q ∈ C, decode b q.1 = .ok q.2) (hsl : Nat.ble (lg_sl As).length nl = true)
    (body : ∀ X : jX, jMX X C own tb nl R rt (ν.length + bu) → jVX X = V → jPost X sf (ν.length + bu) po px → (y.name = "<init>" → (jme X).name = "<init>") → JW X 0 0 0 (jl0 nl As) [] ν) : jMet V y (jws y b nl rt) R sf bu As ν po px := by
  subst ho
  refine jMet.intro hst hy htb htb5 (Nat.le_of_ble_eq_true hsl) (fun i v h => by have := jl0_mem nl As 0 i v h; rwa [Nat.zero_add] at this) ?_
  intro X hX hV hcc hown hTN hR hmc hrt hal hp hNT hin
  exact body X ⟨hX, fun q hq => by rw [hcc]; exact hdec q hq, hown, hTN, hR, hmc.1, hmc.2, hrt, Nat.le_of_eq hal.symm, hNT⟩ hV hp hin
end J9
end
section
theorem wd521 : Cond.constant RJ6 265 (1431655765) ∈ jbig := jbig_of 521 (by decide +kernel) (by decide +kernel)
theorem wd522 : Cond.constant RJ6 266 (858993459) ∈ jbig := jbig_of 522 (by decide +kernel) (by decide +kernel)
theorem wd523 : Cond.constant RJ6 267 (252645135) ∈ jbig := jbig_of 523 (by decide +kernel) (by decide +kernel)
theorem wd155 : Cond.fieldLink RX3 9 "TillTheBell$Town" "share" "I" ∈ jbig := jbig_of 155 (by decide +kernel) (by decide +kernel)
theorem wd158 : Cond.fieldLink RX3 15 "TillTheBell$Town" "bell" "I" ∈ jbig := jbig_of 158 (by decide +kernel) (by decide +kernel)
theorem wd170 : Cond.fieldLink RX3 18 "TillTheBell$Town" "coins" "[I" ∈ jbig := jbig_of 170 (by decide +kernel) (by decide +kernel)
theorem wd173 : Cond.fieldLink RX3 22 "TillTheBell$Town" "holders" "[I" ∈ jbig := jbig_of 173 (by decide +kernel) (by decide +kernel)
theorem wd176 : Cond.fieldLink RX3 25 "TillTheBell$Town" "worths" "[I" ∈ jbig := jbig_of 176 (by decide +kernel) (by decide +kernel)
theorem wd177 : Cond.fieldLink RX3 28 "TillTheBell$Town" "thingOf" "[I" ∈ jbig := jbig_of 177 (by decide +kernel) (by decide +kernel)
theorem wd180 : Cond.fieldLink RX3 31 "TillTheBell$Town" "giverOf" "[I" ∈ jbig := jbig_of 180 (by decide +kernel) (by decide +kernel)
theorem wd183 : Cond.fieldLink RX3 34 "TillTheBell$Town" "takerOf" "[I" ∈ jbig := jbig_of 183 (by decide +kernel) (by decide +kernel)
theorem wd186 : Cond.fieldLink RX3 37 "TillTheBell$Town" "priceOf" "[I" ∈ jbig := jbig_of 186 (by decide +kernel) (by decide +kernel)
theorem wd188 : Cond.fieldLink RX3 40 "TillTheBell$Town" "minuteOf" "[I" ∈ jbig := jbig_of 188 (by decide +kernel) (by decide +kernel)
theorem wd140 : Cond.fieldLink RX3 43 "TillTheBell$Town" "lines" "I" ∈ jbig := jbig_of 140 (by decide +kernel) (by decide +kernel)
theorem wd143 : Cond.fieldLink RX3 46 "TillTheBell$Town" "people" "I" ∈ jbig := jbig_of 143 (by decide +kernel) (by decide +kernel)
theorem wd148 : Cond.fieldLink RX3 49 "TillTheBell$Town" "things" "I" ∈ jbig := jbig_of 148 (by decide +kernel) (by decide +kernel)
theorem wd152 : Cond.fieldLink RX3 52 "TillTheBell$Town" "eaten" "I" ∈ jbig := jbig_of 152 (by decide +kernel) (by decide +kernel)
theorem wd161 : Cond.fieldLink RX3 55 "TillTheBell$Town" "minute" "I" ∈ jbig := jbig_of 161 (by decide +kernel) (by decide +kernel)
theorem wd163 : Cond.fieldLink RX3 58 "TillTheBell$Town" "deeds" "I" ∈ jbig := jbig_of 163 (by decide +kernel) (by decide +kernel)
theorem wd167 : Cond.fieldLink RX3 61 "TillTheBell$Town" "standing" "I" ∈ jbig := jbig_of 167 (by decide +kernel) (by decide +kernel)
theorem wd396 : Cond.methodLink RX3 76 yX3_hasRung ∈ jbig := jbig_of 396 (by decide +kernel) (by decide +kernel)
theorem wd399 : Cond.code yX3_hasRung cX3_hasRung 1 (some .boolean) ∈ jbig := jbig_of 399 (by decide +kernel) (by decide +kernel)
theorem wd105 : Cond.initialized RX3 ∈ jbig := jbig_of 105 (by decide +kernel) (by decide +kernel)
theorem wd397 : Cond.instanceMethod yX3_hasRung ∈ jbig := jbig_of 397 (by decide +kernel) (by decide +kernel)
theorem wd398 : Cond.selects yX3_hasRung.cls yX3_hasRung yX3_hasRung ∈ jbig := jbig_of 398 (by decide +kernel) (by decide +kernel)
theorem wd420 : Cond.methodLink RX3 80 yX3_stands ∈ jbig := jbig_of 420 (by decide +kernel) (by decide +kernel)
theorem wd423 : Cond.code yX3_stands cX3_stands 2 (some .boolean) ∈ jbig := jbig_of 423 (by decide +kernel) (by decide +kernel)
theorem wd421 : Cond.instanceMethod yX3_stands ∈ jbig := jbig_of 421 (by decide +kernel) (by decide +kernel)
theorem wd422 : Cond.selects yX3_stands.cls yX3_stands yX3_stands ∈ jbig := jbig_of 422 (by decide +kernel) (by decide +kernel)
theorem wd400 : Cond.methodLink RX3 84 yX3_isEaten ∈ jbig := jbig_of 400 (by decide +kernel) (by decide +kernel)
theorem wd403 : Cond.code yX3_isEaten cX3_isEaten 2 (some .boolean) ∈ jbig := jbig_of 403 (by decide +kernel) (by decide +kernel)
theorem wd401 : Cond.instanceMethod yX3_isEaten ∈ jbig := jbig_of 401 (by decide +kernel) (by decide +kernel)
theorem wd402 : Cond.selects yX3_isEaten.cls yX3_isEaten yX3_isEaten ∈ jbig := jbig_of 402 (by decide +kernel) (by decide +kernel)
theorem wd416 : Cond.methodLink RX3 87 yX3_isOpen ∈ jbig := jbig_of 416 (by decide +kernel) (by decide +kernel)
theorem wd419 : Cond.code yX3_isOpen cX3_isOpen 2 (some .boolean) ∈ jbig := jbig_of 419 (by decide +kernel) (by decide +kernel)
theorem wd417 : Cond.instanceMethod yX3_isOpen ∈ jbig := jbig_of 417 (by decide +kernel) (by decide +kernel)
theorem wd418 : Cond.selects yX3_isOpen.cls yX3_isOpen yX3_isOpen ∈ jbig := jbig_of 418 (by decide +kernel) (by decide +kernel)
theorem wd445 : Cond.methodLink RX3 90 yX3_worthTo ∈ jbig := jbig_of 445 (by decide +kernel) (by decide +kernel)
theorem wd448 : Cond.code yX3_worthTo cX3_worthTo 3 (some .int) ∈ jbig := jbig_of 448 (by decide +kernel) (by decide +kernel)
theorem wd446 : Cond.instanceMethod yX3_worthTo ∈ jbig := jbig_of 446 (by decide +kernel) (by decide +kernel)
theorem wd447 : Cond.selects yX3_worthTo.cls yX3_worthTo yX3_worthTo ∈ jbig := jbig_of 447 (by decide +kernel) (by decide +kernel)
theorem wd646 : Cond.methodLink RX3 94 yX3_wealth ∈ jbig := jbig_of 646 (by decide +kernel) (by decide +kernel)
theorem wd649 : Cond.code yX3_wealth cX3_wealth 4 (some .int) ∈ jbig := jbig_of 649 (by decide +kernel) (by decide +kernel)
theorem wd647 : Cond.instanceMethod yX3_wealth ∈ jbig := jbig_of 647 (by decide +kernel) (by decide +kernel)
theorem wd648 : Cond.selects yX3_wealth.cls yX3_wealth yX3_wealth ∈ jbig := jbig_of 648 (by decide +kernel) (by decide +kernel)
theorem wd453 : Cond.methodLink RX3 98 yJ9_max_7cf53 ∈ jbig := jbig_of 453 (by decide +kernel) (by decide +kernel)
theorem wd455 : Cond.code yJ9_max_7cf53 cJ9_max_7cf53 2 (some .int) ∈ jbig := jbig_of 455 (by decide +kernel) (by decide +kernel)
theorem wd121 : Cond.initialized RJ9 ∈ jbig := jbig_of 121 (by decide +kernel) (by decide +kernel)
theorem wd454 : Cond.static yJ9_max_7cf53 ∈ jbig := jbig_of 454 (by decide +kernel) (by decide +kernel)
theorem wd388 : Cond.methodLink RX3 103 yX3_hasThing ∈ jbig := jbig_of 388 (by decide +kernel) (by decide +kernel)
theorem wd391 : Cond.code yX3_hasThing cX3_hasThing 2 (some .boolean) ∈ jbig := jbig_of 391 (by decide +kernel) (by decide +kernel)
theorem wd389 : Cond.instanceMethod yX3_hasThing ∈ jbig := jbig_of 389 (by decide +kernel) (by decide +kernel)
theorem wd390 : Cond.selects yX3_hasThing.cls yX3_hasThing yX3_hasThing ∈ jbig := jbig_of 390 (by decide +kernel) (by decide +kernel)
theorem wd392 : Cond.methodLink RX3 106 yX3_hasPerson ∈ jbig := jbig_of 392 (by decide +kernel) (by decide +kernel)
theorem wd395 : Cond.code yX3_hasPerson cX3_hasPerson 2 (some .boolean) ∈ jbig := jbig_of 395 (by decide +kernel) (by decide +kernel)
theorem wd393 : Cond.instanceMethod yX3_hasPerson ∈ jbig := jbig_of 393 (by decide +kernel) (by decide +kernel)
theorem wd394 : Cond.selects yX3_hasPerson.cls yX3_hasPerson yX3_hasPerson ∈ jbig := jbig_of 394 (by decide +kernel) (by decide +kernel)
theorem wd437 : Cond.methodLink RX3 134 yX3_fallsWith ∈ jbig := jbig_of 437 (by decide +kernel) (by decide +kernel)
theorem wd440 : Cond.code yX3_fallsWith cX3_fallsWith 3 (some .boolean) ∈ jbig := jbig_of 440 (by decide +kernel) (by decide +kernel)
theorem wd438 : Cond.instanceMethod yX3_fallsWith ∈ jbig := jbig_of 438 (by decide +kernel) (by decide +kernel)
theorem wd439 : Cond.selects yX3_fallsWith.cls yX3_fallsWith yX3_fallsWith ∈ jbig := jbig_of 439 (by decide +kernel) (by decide +kernel)
theorem wd449 : Cond.methodLink RX3 137 yX3_worthToGiver ∈ jbig := jbig_of 449 (by decide +kernel) (by decide +kernel)
theorem wd452 : Cond.code yX3_worthToGiver cX3_worthToGiver 2 (some .int) ∈ jbig := jbig_of 452 (by decide +kernel) (by decide +kernel)
theorem wd450 : Cond.instanceMethod yX3_worthToGiver ∈ jbig := jbig_of 450 (by decide +kernel) (by decide +kernel)
theorem wd451 : Cond.selects yX3_worthToGiver.cls yX3_worthToGiver yX3_worthToGiver ∈ jbig := jbig_of 451 (by decide +kernel) (by decide +kernel)
theorem wd456 : Cond.methodLink RX3 140 yX3_cut ∈ jbig := jbig_of 456 (by decide +kernel) (by decide +kernel)
theorem wd459 : Cond.code yX3_cut cX3_cut 2 (some .int) ∈ jbig := jbig_of 459 (by decide +kernel) (by decide +kernel)
theorem wd457 : Cond.instanceMethod yX3_cut ∈ jbig := jbig_of 457 (by decide +kernel) (by decide +kernel)
theorem wd458 : Cond.selects yX3_cut.cls yX3_cut yX3_cut ∈ jbig := jbig_of 458 (by decide +kernel) (by decide +kernel)
theorem wd460 : Cond.methodLink RX3 143 yX3_worthToTaker ∈ jbig := jbig_of 460 (by decide +kernel) (by decide +kernel)
theorem wd463 : Cond.code yX3_worthToTaker cX3_worthToTaker 2 (some .int) ∈ jbig := jbig_of 463 (by decide +kernel) (by decide +kernel)
theorem wd461 : Cond.instanceMethod yX3_worthToTaker ∈ jbig := jbig_of 461 (by decide +kernel) (by decide +kernel)
theorem wd462 : Cond.selects yX3_worthToTaker.cls yX3_worthToTaker yX3_worthToTaker ∈ jbig := jbig_of 462 (by decide +kernel) (by decide +kernel)
theorem wd489 : Cond.methodLink RX3 109 yX3_hasDeed ∈ jbig := jbig_of 489 (by decide +kernel) (by decide +kernel)
theorem wd492 : Cond.code yX3_hasDeed cX3_hasDeed 2 (some .boolean) ∈ jbig := jbig_of 492 (by decide +kernel) (by decide +kernel)
theorem wd490 : Cond.instanceMethod yX3_hasDeed ∈ jbig := jbig_of 490 (by decide +kernel) (by decide +kernel)
theorem wd491 : Cond.selects yX3_hasDeed.cls yX3_hasDeed yX3_hasDeed ∈ jbig := jbig_of 491 (by decide +kernel) (by decide +kernel)
theorem wd493 : Cond.methodLink RX3 112 yX3_isOf ∈ jbig := jbig_of 493 (by decide +kernel) (by decide +kernel)
theorem wd496 : Cond.code yX3_isOf cX3_isOf 3 (some .boolean) ∈ jbig := jbig_of 496 (by decide +kernel) (by decide +kernel)
theorem wd494 : Cond.instanceMethod yX3_isOf ∈ jbig := jbig_of 494 (by decide +kernel) (by decide +kernel)
theorem wd495 : Cond.selects yX3_isOf.cls yX3_isOf yX3_isOf ∈ jbig := jbig_of 495 (by decide +kernel) (by decide +kernel)
theorem wd497 : Cond.methodLink RX3 116 yX3_priceChange ∈ jbig := jbig_of 497 (by decide +kernel) (by decide +kernel)
theorem wd500 : Cond.code yX3_priceChange cX3_priceChange 5 (some .int) ∈ jbig := jbig_of 500 (by decide +kernel) (by decide +kernel)
theorem wd498 : Cond.instanceMethod yX3_priceChange ∈ jbig := jbig_of 498 (by decide +kernel) (by decide +kernel)
theorem wd499 : Cond.selects yX3_priceChange.cls yX3_priceChange yX3_priceChange ∈ jbig := jbig_of 499 (by decide +kernel) (by decide +kernel)
theorem wd501 : Cond.methodLink RX3 119 yX3_owedToAll ∈ jbig := jbig_of 501 (by decide +kernel) (by decide +kernel)
theorem wd504 : Cond.code yX3_owedToAll cX3_owedToAll 5 (some .int) ∈ jbig := jbig_of 504 (by decide +kernel) (by decide +kernel)
theorem wd502 : Cond.instanceMethod yX3_owedToAll ∈ jbig := jbig_of 502 (by decide +kernel) (by decide +kernel)
theorem wd503 : Cond.selects yX3_owedToAll.cls yX3_owedToAll yX3_owedToAll ∈ jbig := jbig_of 503 (by decide +kernel) (by decide +kernel)
theorem wd510 : Cond.methodLink RX3 122 yX3_fallBits ∈ jbig := jbig_of 510 (by decide +kernel) (by decide +kernel)
theorem wd513 : Cond.code yX3_fallBits cX3_fallBits 4 (some .int) ∈ jbig := jbig_of 513 (by decide +kernel) (by decide +kernel)
theorem wd511 : Cond.instanceMethod yX3_fallBits ∈ jbig := jbig_of 511 (by decide +kernel) (by decide +kernel)
theorem wd512 : Cond.selects yX3_fallBits.cls yX3_fallBits yX3_fallBits ∈ jbig := jbig_of 512 (by decide +kernel) (by decide +kernel)
theorem wd518 : Cond.methodLink RX3 129 yJ6_bitCount_0f7a4 ∈ jbig := jbig_of 518 (by decide +kernel) (by decide +kernel)
theorem wd520 : Cond.code yJ6_bitCount_0f7a4 cJ6_bitCount_0f7a4 1 (some .int) ∈ jbig := jbig_of 520 (by decide +kernel) (by decide +kernel)
theorem wd123 : Cond.initialized RJ6 ∈ jbig := jbig_of 123 (by decide +kernel) (by decide +kernel)
theorem wd519 : Cond.static yJ6_bitCount_0f7a4 ∈ jbig := jbig_of 519 (by decide +kernel) (by decide +kernel)
theorem wd514 : Cond.methodLink RX3 125 yX3_owedTo ∈ jbig := jbig_of 514 (by decide +kernel) (by decide +kernel)
theorem wd517 : Cond.code yX3_owedTo cX3_owedTo 6 (some .int) ∈ jbig := jbig_of 517 (by decide +kernel) (by decide +kernel)
theorem wd515 : Cond.instanceMethod yX3_owedTo ∈ jbig := jbig_of 515 (by decide +kernel) (by decide +kernel)
theorem wd516 : Cond.selects yX3_owedTo.cls yX3_owedTo yX3_owedTo ∈ jbig := jbig_of 516 (by decide +kernel) (by decide +kernel)
theorem wd441 : Cond.methodLink RX3 146 yX3_partOfUndoer ∈ jbig := jbig_of 441 (by decide +kernel) (by decide +kernel)
theorem wd444 : Cond.code yX3_partOfUndoer cX3_partOfUndoer 6 (some .int) ∈ jbig := jbig_of 444 (by decide +kernel) (by decide +kernel)
theorem wd442 : Cond.instanceMethod yX3_partOfUndoer ∈ jbig := jbig_of 442 (by decide +kernel) (by decide +kernel)
theorem wd443 : Cond.selects yX3_partOfUndoer.cls yX3_partOfUndoer yX3_partOfUndoer ∈ jbig := jbig_of 443 (by decide +kernel) (by decide +kernel)
theorem wd433 : Cond.methodLink RX3 149 yX3_gainOf ∈ jbig := jbig_of 433 (by decide +kernel) (by decide +kernel)
theorem wd436 : Cond.code yX3_gainOf cX3_gainOf 5 (some .int) ∈ jbig := jbig_of 436 (by decide +kernel) (by decide +kernel)
theorem wd434 : Cond.instanceMethod yX3_gainOf ∈ jbig := jbig_of 434 (by decide +kernel) (by decide +kernel)
theorem wd435 : Cond.selects yX3_gainOf.cls yX3_gainOf yX3_gainOf ∈ jbig := jbig_of 435 (by decide +kernel) (by decide +kernel)
theorem wd481 : Cond.methodLink RX3 152 yX3_sideOf ∈ jbig := jbig_of 481 (by decide +kernel) (by decide +kernel)
theorem wd484 : Cond.code yX3_sideOf cX3_sideOf 3 (some .int) ∈ jbig := jbig_of 484 (by decide +kernel) (by decide +kernel)
theorem wd482 : Cond.instanceMethod yX3_sideOf ∈ jbig := jbig_of 482 (by decide +kernel) (by decide +kernel)
theorem wd483 : Cond.selects yX3_sideOf.cls yX3_sideOf yX3_sideOf ∈ jbig := jbig_of 483 (by decide +kernel) (by decide +kernel)
theorem wd485 : Cond.methodLink RX3 155 yX3_whyNoUndoing ∈ jbig := jbig_of 485 (by decide +kernel) (by decide +kernel)
theorem wd488 : Cond.code yX3_whyNoUndoing cX3_whyNoUndoing 3 (some .int) ∈ jbig := jbig_of 488 (by decide +kernel) (by decide +kernel)
theorem wd486 : Cond.instanceMethod yX3_whyNoUndoing ∈ jbig := jbig_of 486 (by decide +kernel) (by decide +kernel)
theorem wd487 : Cond.selects yX3_whyNoUndoing.cls yX3_whyNoUndoing yX3_whyNoUndoing ∈ jbig := jbig_of 487 (by decide +kernel) (by decide +kernel)
theorem wd628 : Cond.methodLink RX3 158 yX3_wants ∈ jbig := jbig_of 628 (by decide +kernel) (by decide +kernel)
theorem wd619 : Cond.code yX3_wants cX3_wants 4 (some .boolean) ∈ jbig := jbig_of 619 (by decide +kernel) (by decide +kernel)
theorem wd617 : Cond.instanceMethod yX3_wants ∈ jbig := jbig_of 617 (by decide +kernel) (by decide +kernel)
theorem wd618 : Cond.selects yX3_wants.cls yX3_wants yX3_wants ∈ jbig := jbig_of 618 (by decide +kernel) (by decide +kernel)
theorem kc_X3_76 : jcy RX3 76 yX3_hasRung cX3_hasRung 1 (some .boolean) 0 ∧ Cond.instanceMethod yX3_hasRung ∈ jbig ∧ Cond.selects yX3_hasRung.cls yX3_hasRung yX3_hasRung ∈ jbig := ⟨⟨wd396, wd399, wd105, by decide, by decide, by decide⟩, wd397, wd398⟩
theorem kc_X3_80 : jcy RX3 80 yX3_stands cX3_stands 2 (some .boolean) 1 ∧ Cond.instanceMethod yX3_stands ∈ jbig ∧ Cond.selects yX3_stands.cls yX3_stands yX3_stands ∈ jbig := ⟨⟨wd420, wd423, wd105, by decide, by decide, by decide⟩, wd421, wd422⟩
theorem kc_X3_84 : jcy RX3 84 yX3_isEaten cX3_isEaten 2 (some .boolean) 1 ∧ Cond.instanceMethod yX3_isEaten ∈ jbig ∧ Cond.selects yX3_isEaten.cls yX3_isEaten yX3_isEaten ∈ jbig := ⟨⟨wd400, wd403, wd105, by decide, by decide, by decide⟩, wd401, wd402⟩
theorem kc_X3_87 : jcy RX3 87 yX3_isOpen cX3_isOpen 2 (some .boolean) 1 ∧ Cond.instanceMethod yX3_isOpen ∈ jbig ∧ Cond.selects yX3_isOpen.cls yX3_isOpen yX3_isOpen ∈ jbig := ⟨⟨wd416, wd419, wd105, by decide, by decide, by decide⟩, wd417, wd418⟩
theorem kc_X3_90 : jcy RX3 90 yX3_worthTo cX3_worthTo 3 (some .int) 2 ∧ Cond.instanceMethod yX3_worthTo ∈ jbig ∧ Cond.selects yX3_worthTo.cls yX3_worthTo yX3_worthTo ∈ jbig := ⟨⟨wd445, wd448, wd105, by decide, by decide, by decide⟩, wd446, wd447⟩
theorem kc_X3_94 : jcy RX3 94 yX3_wealth cX3_wealth 4 (some .int) 1 ∧ Cond.instanceMethod yX3_wealth ∈ jbig ∧ Cond.selects yX3_wealth.cls yX3_wealth yX3_wealth ∈ jbig := ⟨⟨wd646, wd649, wd105, by decide, by decide, by decide⟩, wd647, wd648⟩
theorem kc_X3_98 : jcy RX3 98 yJ9_max_7cf53 cJ9_max_7cf53 2 (some .int) 2 ∧ Cond.static yJ9_max_7cf53 ∈ jbig := ⟨⟨wd453, wd455, wd121, by decide, by decide, by decide⟩, wd454⟩
theorem kc_X3_103 : jcy RX3 103 yX3_hasThing cX3_hasThing 2 (some .boolean) 1 ∧ Cond.instanceMethod yX3_hasThing ∈ jbig ∧ Cond.selects yX3_hasThing.cls yX3_hasThing yX3_hasThing ∈ jbig := ⟨⟨wd388, wd391, wd105, by decide, by decide, by decide⟩, wd389, wd390⟩
theorem kc_X3_106 : jcy RX3 106 yX3_hasPerson cX3_hasPerson 2 (some .boolean) 1 ∧ Cond.instanceMethod yX3_hasPerson ∈ jbig ∧ Cond.selects yX3_hasPerson.cls yX3_hasPerson yX3_hasPerson ∈ jbig := ⟨⟨wd392, wd395, wd105, by decide, by decide, by decide⟩, wd393, wd394⟩
theorem kc_X3_134 : jcy RX3 134 yX3_fallsWith cX3_fallsWith 3 (some .boolean) 2 ∧ Cond.instanceMethod yX3_fallsWith ∈ jbig ∧ Cond.selects yX3_fallsWith.cls yX3_fallsWith yX3_fallsWith ∈ jbig := ⟨⟨wd437, wd440, wd105, by decide, by decide, by decide⟩, wd438, wd439⟩
theorem kc_X3_137 : jcy RX3 137 yX3_worthToGiver cX3_worthToGiver 2 (some .int) 1 ∧ Cond.instanceMethod yX3_worthToGiver ∈ jbig ∧ Cond.selects yX3_worthToGiver.cls yX3_worthToGiver yX3_worthToGiver ∈ jbig := ⟨⟨wd449, wd452, wd105, by decide, by decide, by decide⟩, wd450, wd451⟩
theorem kc_X3_140 : jcy RX3 140 yX3_cut cX3_cut 2 (some .int) 1 ∧ Cond.instanceMethod yX3_cut ∈ jbig ∧ Cond.selects yX3_cut.cls yX3_cut yX3_cut ∈ jbig := ⟨⟨wd456, wd459, wd105, by decide, by decide, by decide⟩, wd457, wd458⟩
theorem kc_X3_143 : jcy RX3 143 yX3_worthToTaker cX3_worthToTaker 2 (some .int) 1 ∧ Cond.instanceMethod yX3_worthToTaker ∈ jbig ∧ Cond.selects yX3_worthToTaker.cls yX3_worthToTaker yX3_worthToTaker ∈ jbig := ⟨⟨wd460, wd463, wd105, by decide, by decide, by decide⟩, wd461, wd462⟩
theorem kc_X3_109 : jcy RX3 109 yX3_hasDeed cX3_hasDeed 2 (some .boolean) 1 ∧ Cond.instanceMethod yX3_hasDeed ∈ jbig ∧ Cond.selects yX3_hasDeed.cls yX3_hasDeed yX3_hasDeed ∈ jbig := ⟨⟨wd489, wd492, wd105, by decide, by decide, by decide⟩, wd490, wd491⟩
theorem kc_X3_112 : jcy RX3 112 yX3_isOf cX3_isOf 3 (some .boolean) 2 ∧ Cond.instanceMethod yX3_isOf ∈ jbig ∧ Cond.selects yX3_isOf.cls yX3_isOf yX3_isOf ∈ jbig := ⟨⟨wd493, wd496, wd105, by decide, by decide, by decide⟩, wd494, wd495⟩
theorem kc_X3_116 : jcy RX3 116 yX3_priceChange cX3_priceChange 5 (some .int) 2 ∧ Cond.instanceMethod yX3_priceChange ∈ jbig ∧ Cond.selects yX3_priceChange.cls yX3_priceChange yX3_priceChange ∈ jbig := ⟨⟨wd497, wd500, wd105, by decide, by decide, by decide⟩, wd498, wd499⟩
theorem kc_X3_119 : jcy RX3 119 yX3_owedToAll cX3_owedToAll 5 (some .int) 2 ∧ Cond.instanceMethod yX3_owedToAll ∈ jbig ∧ Cond.selects yX3_owedToAll.cls yX3_owedToAll yX3_owedToAll ∈ jbig := ⟨⟨wd501, wd504, wd105, by decide, by decide, by decide⟩, wd502, wd503⟩
theorem kc_X3_122 : jcy RX3 122 yX3_fallBits cX3_fallBits 4 (some .int) 1 ∧ Cond.instanceMethod yX3_fallBits ∈ jbig ∧ Cond.selects yX3_fallBits.cls yX3_fallBits yX3_fallBits ∈ jbig := ⟨⟨wd510, wd513, wd105, by decide, by decide, by decide⟩, wd511, wd512⟩
theorem kc_X3_129 : jcy RX3 129 yJ6_bitCount_0f7a4 cJ6_bitCount_0f7a4 1 (some .int) 1 ∧ Cond.static yJ6_bitCount_0f7a4 ∈ jbig := ⟨⟨wd518, wd520, wd123, by decide, by decide, by decide⟩, wd519⟩
theorem kc_X3_125 : jcy RX3 125 yX3_owedTo cX3_owedTo 6 (some .int) 3 ∧ Cond.instanceMethod yX3_owedTo ∈ jbig ∧ Cond.selects yX3_owedTo.cls yX3_owedTo yX3_owedTo ∈ jbig := ⟨⟨wd514, wd517, wd105, by decide, by decide, by decide⟩, wd515, wd516⟩
theorem kc_X3_146 : jcy RX3 146 yX3_partOfUndoer cX3_partOfUndoer 6 (some .int) 2 ∧ Cond.instanceMethod yX3_partOfUndoer ∈ jbig ∧ Cond.selects yX3_partOfUndoer.cls yX3_partOfUndoer yX3_partOfUndoer ∈ jbig := ⟨⟨wd441, wd444, wd105, by decide, by decide, by decide⟩, wd442, wd443⟩
theorem kc_X3_149 : jcy RX3 149 yX3_gainOf cX3_gainOf 5 (some .int) 2 ∧ Cond.instanceMethod yX3_gainOf ∈ jbig ∧ Cond.selects yX3_gainOf.cls yX3_gainOf yX3_gainOf ∈ jbig := ⟨⟨wd433, wd436, wd105, by decide, by decide, by decide⟩, wd434, wd435⟩
theorem kc_X3_152 : jcy RX3 152 yX3_sideOf cX3_sideOf 3 (some .int) 2 ∧ Cond.instanceMethod yX3_sideOf ∈ jbig ∧ Cond.selects yX3_sideOf.cls yX3_sideOf yX3_sideOf ∈ jbig := ⟨⟨wd481, wd484, wd105, by decide, by decide, by decide⟩, wd482, wd483⟩
theorem kc_X3_155 : jcy RX3 155 yX3_whyNoUndoing cX3_whyNoUndoing 3 (some .int) 2 ∧ Cond.instanceMethod yX3_whyNoUndoing ∈ jbig ∧ Cond.selects yX3_whyNoUndoing.cls yX3_whyNoUndoing yX3_whyNoUndoing ∈ jbig := ⟨⟨wd485, wd488, wd105, by decide, by decide, by decide⟩, wd486, wd487⟩
theorem kc_X3_158 : jcy RX3 158 yX3_wants cX3_wants 4 (some .boolean) 2 ∧ Cond.instanceMethod yX3_wants ∈ jbig ∧ Cond.selects yX3_wants.cls yX3_wants yX3_wants ∈ jbig := ⟨⟨wd628, wd619, wd105, by decide, by decide, by decide⟩, wd617, wd618⟩
def tbM : jT := ([], [], [], [], none)
theorem tbM_ok : jtOK RJ9 tbM := ⟨fun _ h => absurd h List.not_mem_nil, fun _ h => absurd h List.not_mem_nil, fun _ h => absurd h List.not_mem_nil, fun _ h => absurd h List.not_mem_nil⟩
def tbI : jT := ([], [(265, 1431655765), (266, 858993459), (267, 252645135)], [], [], none)
theorem tbI_ok : jtOK RJ6 tbI := ⟨fun _ h => absurd h List.not_mem_nil, List.forall_mem_cons.mpr ⟨wd521, List.forall_mem_cons.mpr ⟨wd522, List.forall_mem_cons.mpr ⟨wd523, fun _ h => absurd h List.not_mem_nil⟩⟩⟩, fun _ h => absurd h List.not_mem_nil, fun _ h => absurd h List.not_mem_nil⟩
def tbX3 : jT := ([(9, 3, 4, 0), (15, 3, 5, 0), (18, 3, 9, 2), (22, 3, 10, 2), (25, 3, 11, 2), (28, 3, 12, 2), (31, 3, 13, 2), (34, 3, 14, 2), (37, 3, 15, 2), (40, 3, 16, 2), (43, 3, 0, 0), (46, 3, 1, 0), (49, 3, 2, 0), (52, 3, 3, 0), (55, 3, 6, 0), (58, 3, 7, 0), (61, 3, 8, 0)], [], [], [], none)
theorem tbX3_ok : jtOK RX3 tbX3 := ⟨List.forall_mem_cons.mpr ⟨⟨RX3, TX3, 17, .int, rfl, by decide, wd155, by decide +kernel, fun _ => ⟨rfl, rfl⟩, fun h => absurd h (by decide), fun h => absurd h (by decide)⟩, List.forall_mem_cons.mpr ⟨⟨RX3, TX3, 17, .int, rfl, by decide, wd158, by decide +kernel, fun _ => ⟨rfl, rfl⟩, fun h => absurd h (by decide), fun h => absurd h (by decide)⟩, List.forall_mem_cons.mpr ⟨⟨RX3, TX3, 17, .array (.int), rfl, by decide, wd170, by decide +kernel, fun h => absurd h (by decide), fun h => absurd h (by decide), fun _ => ⟨fun _ => ⟨rfl, rfl⟩, rfl, rfl⟩⟩, List.forall_mem_cons.mpr ⟨⟨RX3, TX3, 17, .array (.int), rfl, by decide, wd173, by decide +kernel, fun h => absurd h (by decide), fun h => absurd h (by decide), fun _ => ⟨fun _ => ⟨rfl, rfl⟩, rfl, rfl⟩⟩, List.forall_mem_cons.mpr ⟨⟨RX3, TX3, 17, .array (.int), rfl, by decide, wd176, by decide +kernel, fun h => absurd h (by decide), fun h => absurd h (by decide), fun _ => ⟨fun _ => ⟨rfl, rfl⟩, rfl, rfl⟩⟩, List.forall_mem_cons.mpr ⟨⟨RX3, TX3, 17, .array (.int), rfl, by decide, wd177, by decide +kernel, fun h => absurd h (by decide), fun h => absurd h (by decide), fun _ => ⟨fun _ => ⟨rfl, rfl⟩, rfl, rfl⟩⟩, List.forall_mem_cons.mpr ⟨⟨RX3, TX3, 17, .array (.int), rfl, by decide, wd180, by decide +kernel, fun h => absurd h (by decide), fun h => absurd h (by decide), fun _ => ⟨fun _ => ⟨rfl, rfl⟩, rfl, rfl⟩⟩, List.forall_mem_cons.mpr ⟨⟨RX3, TX3, 17, .array (.int), rfl, by decide, wd183, by decide +kernel, fun h => absurd h (by decide), fun h => absurd h (by decide), fun _ => ⟨fun _ => ⟨rfl, rfl⟩, rfl, rfl⟩⟩, List.forall_mem_cons.mpr ⟨⟨RX3, TX3, 17, .array (.int), rfl, by decide, wd186, by decide +kernel, fun h => absurd h (by decide), fun h => absurd h (by decide), fun _ => ⟨fun _ => ⟨rfl, rfl⟩, rfl, rfl⟩⟩, List.forall_mem_cons.mpr ⟨⟨RX3, TX3, 17, .array (.int), rfl, by decide, wd188, by decide +kernel, fun h => absurd h (by decide), fun h => absurd h (by decide), fun _ => ⟨fun _ => ⟨rfl, rfl⟩, rfl, rfl⟩⟩, List.forall_mem_cons.mpr ⟨⟨RX3, TX3, 17, .int, rfl, by decide, wd140, by decide +kernel, fun _ => ⟨rfl, rfl⟩, fun h => absurd h (by decide), fun h => absurd h (by decide)⟩, List.forall_mem_cons.mpr ⟨⟨RX3, TX3, 17, .int, rfl, by decide, wd143, by decide +kernel, fun _ => ⟨rfl, rfl⟩, fun h => absurd h (by decide), fun h => absurd h (by decide)⟩, List.forall_mem_cons.mpr ⟨⟨RX3, TX3, 17, .int, rfl, by decide, wd148, by decide +kernel, fun _ => ⟨rfl, rfl⟩, fun h => absurd h (by decide), fun h => absurd h (by decide)⟩, List.forall_mem_cons.mpr ⟨⟨RX3, TX3, 17, .int, rfl, by decide, wd152, by decide +kernel, fun _ => ⟨rfl, rfl⟩, fun h => absurd h (by decide), fun h => absurd h (by decide)⟩, List.forall_mem_cons.mpr ⟨⟨RX3, TX3, 17, .int, rfl, by decide, wd161, by decide +kernel, fun _ => ⟨rfl, rfl⟩, fun h => absurd h (by decide), fun h => absurd h (by decide)⟩, List.forall_mem_cons.mpr ⟨⟨RX3, TX3, 17, .int, rfl, by decide, wd163, by decide +kernel, fun _ => ⟨rfl, rfl⟩, fun h => absurd h (by decide), fun h => absurd h (by decide)⟩, List.forall_mem_cons.mpr ⟨⟨RX3, TX3, 17, .int, rfl, by decide, wd167, by decide +kernel, fun _ => ⟨rfl, rfl⟩, fun h => absurd h (by decide), fun h => absurd h (by decide)⟩, fun _ h => absurd h List.not_mem_nil⟩⟩⟩⟩⟩⟩⟩⟩⟩⟩⟩⟩⟩⟩⟩⟩⟩, fun _ h => absurd h List.not_mem_nil, fun _ h => absurd h List.not_mem_nil, fun _ h => absurd h List.not_mem_nil⟩
end
section
def kJ9_max_7cf53 : List (Nat × Instr × Nat) := [(0, .iload_n 0, 1), (1, .iload_n 1, 1), (2, .if_icmp .lt 7, 3), (5, .iload_n 0, 1), (6, .goto 4, 3), (9, .iload_n 1, 1), (10, .ireturn, 1)]
theorem kJ9_max_7cf53_ok : ∀ q ∈ kJ9_max_7cf53, decode cJ9_max_7cf53 q.1 = .ok q.2 := by decide +kernel
def kJ9_min_7cf53 : List (Nat × Instr × Nat) := [(0, .iload_n 0, 1), (1, .iload_n 1, 1), (2, .if_icmp .gt 7, 3), (5, .iload_n 0, 1), (6, .goto 4, 3), (9, .iload_n 1, 1), (10, .ireturn, 1)]
theorem kJ9_min_7cf53_ok : ∀ q ∈ kJ9_min_7cf53, decode cJ9_min_7cf53 q.1 = .ok q.2 := by decide +kernel
def kJ9_max_f86c9 : List (Nat × Instr × Nat) := [(0, .lload_n 0, 1), (1, .lload_n 2, 1), (2, .lcmp, 1), (3, .ifCond .lt 7, 3), (6, .lload_n 0, 1), (7, .goto 4, 3), (10, .lload_n 2, 1), (11, .lreturn, 1)]
theorem kJ9_max_f86c9_ok : ∀ q ∈ kJ9_max_f86c9, decode cJ9_max_f86c9 q.1 = .ok q.2 := by decide +kernel
def kJ6_bitCount_0f7a4 : List (Nat × Instr × Nat) := [(0, .iload_n 0, 1), (1, .iload_n 0, 1), (2, .iconst 1, 1), (3, .iushr, 1), (4, .ldc_w 265, 3), (7, .iand, 1), (8, .isub, 1), (9, .istore_n 0, 1), (10, .iload_n 0, 1), (11, .ldc_w 266, 3), (14, .iand, 1), (15, .iload_n 0, 1), (16, .iconst 2, 1), (17, .iushr, 1), (18, .ldc_w 266, 3), (21, .iand, 1), (22, .iadd, 1), (23, .istore_n 0, 1), (24, .iload_n 0, 1), (25, .iload_n 0, 1), (26, .iconst 4, 1), (27, .iushr, 1), (28, .iadd, 1), (29, .ldc_w 267, 3), (32, .iand, 1), (33, .istore_n 0, 1), (34, .iload_n 0, 1), (35, .iload_n 0, 1), (36, .bipush 8, 2), (38, .iushr, 1), (39, .iadd, 1), (40, .istore_n 0, 1), (41, .iload_n 0, 1), (42, .iload_n 0, 1), (43, .bipush 16, 2), (45, .iushr, 1), (46, .iadd, 1), (47, .istore_n 0, 1), (48, .iload_n 0, 1), (49, .bipush 63, 2), (51, .iand, 1), (52, .ireturn, 1)]
theorem kJ6_bitCount_0f7a4_ok : ∀ q ∈ kJ6_bitCount_0f7a4, decode cJ6_bitCount_0f7a4 q.1 = .ok q.2 := by decide +kernel
def kX3_hasPerson : List (Nat × Instr × Nat) := [(0, .iload_n 1, 1), (1, .ifCond .lt 15, 3), (4, .iload_n 1, 1), (5, .aload_n 0, 1), (6, .getfield 46, 3), (9, .if_icmp .ge 7, 3), (12, .iconst 1, 1), (13, .goto 4, 3), (16, .iconst 0, 1), (17, .ireturn, 1)]
theorem kX3_hasPerson_ok : ∀ q ∈ kX3_hasPerson, decode cX3_hasPerson q.1 = .ok q.2 := by decide +kernel
def kX3_hasThing : List (Nat × Instr × Nat) := [(0, .iload_n 1, 1), (1, .ifCond .lt 15, 3), (4, .iload_n 1, 1), (5, .aload_n 0, 1), (6, .getfield 49, 3), (9, .if_icmp .ge 7, 3), (12, .iconst 1, 1), (13, .goto 4, 3), (16, .iconst 0, 1), (17, .ireturn, 1)]
theorem kX3_hasThing_ok : ∀ q ∈ kX3_hasThing, decode cX3_hasThing q.1 = .ok q.2 := by decide +kernel
def kX3_hasDeed : List (Nat × Instr × Nat) := [(0, .iload_n 1, 1), (1, .ifCond .lt 15, 3), (4, .iload_n 1, 1), (5, .aload_n 0, 1), (6, .getfield 58, 3), (9, .if_icmp .ge 7, 3), (12, .iconst 1, 1), (13, .goto 4, 3), (16, .iconst 0, 1), (17, .ireturn, 1)]
theorem kX3_hasDeed_ok : ∀ q ∈ kX3_hasDeed, decode cX3_hasDeed q.1 = .ok q.2 := by decide +kernel
def kX3_hasRung : List (Nat × Instr × Nat) := [(0, .aload_n 0, 1), (1, .getfield 55, 3), (4, .aload_n 0, 1), (5, .getfield 15, 3), (8, .if_icmp .lt 7, 3), (11, .iconst 1, 1), (12, .goto 4, 3), (15, .iconst 0, 1), (16, .ireturn, 1)]
theorem kX3_hasRung_ok : ∀ q ∈ kX3_hasRung, decode cX3_hasRung q.1 = .ok q.2 := by decide +kernel
def kX3_isEaten : List (Nat × Instr × Nat) := [(0, .aload_n 0, 1), (1, .getfield 52, 3), (4, .iload_n 1, 1), (5, .ishr, 1), (6, .iconst 1, 1), (7, .iand, 1), (8, .iconst 1, 1), (9, .if_icmp .ne 7, 3), (12, .iconst 1, 1), (13, .goto 4, 3), (16, .iconst 0, 1), (17, .ireturn, 1)]
theorem kX3_isEaten_ok : ∀ q ∈ kX3_isEaten, decode cX3_isEaten q.1 = .ok q.2 := by decide +kernel
def kX3_stands : List (Nat × Instr × Nat) := [(0, .aload_n 0, 1), (1, .getfield 61, 3), (4, .iload_n 1, 1), (5, .ishr, 1), (6, .iconst 1, 1), (7, .iand, 1), (8, .iconst 1, 1), (9, .if_icmp .ne 7, 3), (12, .iconst 1, 1), (13, .goto 4, 3), (16, .iconst 0, 1), (17, .ireturn, 1)]
theorem kX3_stands_ok : ∀ q ∈ kX3_stands, decode cX3_stands q.1 = .ok q.2 := by decide +kernel
def kX3_isOpen : List (Nat × Instr × Nat) := [(0, .aload_n 0, 1), (1, .invokevirtual 76, 3), (4, .ifCond .ne 28, 3), (7, .aload_n 0, 1), (8, .iload_n 1, 1), (9, .invokevirtual 80, 3), (12, .ifCond .eq 20, 3), (15, .aload_n 0, 1), (16, .aload_n 0, 1), (17, .getfield 28, 3), (20, .iload_n 1, 1), (21, .iaload, 1), (22, .invokevirtual 84, 3), (25, .ifCond .ne 7, 3), (28, .iconst 1, 1), (29, .goto 4, 3), (32, .iconst 0, 1), (33, .ireturn, 1)]
theorem kX3_isOpen_ok : ∀ q ∈ kX3_isOpen, decode cX3_isOpen q.1 = .ok q.2 := by decide +kernel
def kX3_isOf : List (Nat × Instr × Nat) := [(0, .aload_n 0, 1), (1, .getfield 31, 3), (4, .iload_n 1, 1), (5, .iaload, 1), (6, .iload_n 2, 1), (7, .if_icmp .eq 13, 3), (10, .aload_n 0, 1), (11, .getfield 34, 3), (14, .iload_n 1, 1), (15, .iaload, 1), (16, .iload_n 2, 1), (17, .if_icmp .ne 7, 3), (20, .iconst 1, 1), (21, .goto 4, 3), (24, .iconst 0, 1), (25, .ireturn, 1)]
theorem kX3_isOf_ok : ∀ q ∈ kX3_isOf, decode cX3_isOf q.1 = .ok q.2 := by decide +kernel
def kX3_sideOf : List (Nat × Instr × Nat) := [(0, .iload_n 2, 1), (1, .ifCond .ne 12, 3), (4, .aload_n 0, 1), (5, .getfield 31, 3), (8, .iload_n 1, 1), (9, .iaload, 1), (10, .goto 9, 3), (13, .aload_n 0, 1), (14, .getfield 34, 3), (17, .iload_n 1, 1), (18, .iaload, 1), (19, .ireturn, 1)]
theorem kX3_sideOf_ok : ∀ q ∈ kX3_sideOf, decode cX3_sideOf q.1 = .ok q.2 := by decide +kernel
def kX3_openBits : List (Nat × Instr × Nat) := [(0, .iconst 0, 1), (1, .istore_n 1, 1), (2, .iconst 0, 1), (3, .istore_n 2, 1), (4, .iload_n 2, 1), (5, .aload_n 0, 1), (6, .getfield 58, 3), (9, .if_icmp .ge 23, 3), (12, .aload_n 0, 1), (13, .iload_n 2, 1), (14, .invokevirtual 87, 3), (17, .ifCond .eq 9, 3), (20, .iload_n 1, 1), (21, .iconst 1, 1), (22, .iload_n 2, 1), (23, .ishl, 1), (24, .ior, 1), (25, .istore_n 1, 1), (26, .iinc 2 1, 3), (29, .goto (-25), 3), (32, .iload_n 1, 1), (33, .ireturn, 1)]
theorem kX3_openBits_ok : ∀ q ∈ kX3_openBits, decode cX3_openBits q.1 = .ok q.2 := by decide +kernel
def kX3_worthTo : List (Nat × Instr × Nat) := [(0, .aload_n 0, 1), (1, .getfield 25, 3), (4, .iload_n 1, 1), (5, .bipush 6, 2), (7, .imul, 1), (8, .iload_n 2, 1), (9, .iadd, 1), (10, .iaload, 1), (11, .ireturn, 1)]
theorem kX3_worthTo_ok : ∀ q ∈ kX3_worthTo, decode cX3_worthTo q.1 = .ok q.2 := by decide +kernel
def kX3_setWorth : List (Nat × Instr × Nat) := [(0, .aload_n 0, 1), (1, .getfield 25, 3), (4, .iload_n 1, 1), (5, .bipush 6, 2), (7, .imul, 1), (8, .iload_n 2, 1), (9, .iadd, 1), (10, .iload_n 3, 1), (11, .iastore, 1), (12, .return_, 1)]
theorem kX3_setWorth_ok : ∀ q ∈ kX3_setWorth, decode cX3_setWorth q.1 = .ok q.2 := by decide +kernel
def kX3_held : List (Nat × Instr × Nat) := [(0, .iconst 0, 1), (1, .istore_n 2, 1), (2, .iconst 0, 1), (3, .istore_n 3, 1), (4, .iload_n 3, 1), (5, .aload_n 0, 1), (6, .getfield 49, 3), (9, .if_icmp .ge 22, 3), (12, .aload_n 0, 1), (13, .getfield 22, 3), (16, .iload_n 3, 1), (17, .iaload, 1), (18, .iload_n 1, 1), (19, .if_icmp .ne 6, 3), (22, .iinc 2 1, 3), (25, .iinc 3 1, 3), (28, .goto (-24), 3), (31, .iload_n 2, 1), (32, .ireturn, 1)]
theorem kX3_held_ok : ∀ q ∈ kX3_held, decode cX3_held q.1 = .ok q.2 := by decide +kernel
def kX3_wealth : List (Nat × Instr × Nat) := [(0, .aload_n 0, 1), (1, .getfield 18, 3), (4, .iload_n 1, 1), (5, .iaload, 1), (6, .istore_n 2, 1), (7, .iconst 0, 1), (8, .istore_n 3, 1), (9, .iload_n 3, 1), (10, .aload_n 0, 1), (11, .getfield 49, 3), (14, .if_icmp .ge 28, 3), (17, .aload_n 0, 1), (18, .getfield 22, 3), (21, .iload_n 3, 1), (22, .iaload, 1), (23, .iload_n 1, 1), (24, .if_icmp .ne 12, 3), (27, .iload_n 2, 1), (28, .aload_n 0, 1), (29, .iload_n 3, 1), (30, .iload_n 1, 1), (31, .invokevirtual 90, 3), (34, .iadd, 1), (35, .istore_n 2, 1), (36, .iinc 3 1, 3), (39, .goto (-30), 3), (42, .iload_n 2, 1), (43, .ireturn, 1)]
theorem kX3_wealth_ok : ∀ q ∈ kX3_wealth, decode cX3_wealth q.1 = .ok q.2 := by decide +kernel
def kX3_coinsOfAll : List (Nat × Instr × Nat) := [(0, .iconst 0, 1), (1, .istore_n 1, 1), (2, .iconst 0, 1), (3, .istore_n 2, 1), (4, .iload_n 2, 1), (5, .aload_n 0, 1), (6, .getfield 46, 3), (9, .if_icmp .ge 18, 3), (12, .iload_n 1, 1), (13, .aload_n 0, 1), (14, .getfield 18, 3), (17, .iload_n 2, 1), (18, .iaload, 1), (19, .iadd, 1), (20, .istore_n 1, 1), (21, .iinc 2 1, 3), (24, .goto (-20), 3), (27, .iload_n 1, 1), (28, .ireturn, 1)]
theorem kX3_coinsOfAll_ok : ∀ q ∈ kX3_coinsOfAll, decode cX3_coinsOfAll q.1 = .ok q.2 := by decide +kernel
def kX3_wealthOfAll : List (Nat × Instr × Nat) := [(0, .iconst 0, 1), (1, .istore_n 1, 1), (2, .iconst 0, 1), (3, .istore_n 2, 1), (4, .iload_n 2, 1), (5, .aload_n 0, 1), (6, .getfield 46, 3), (9, .if_icmp .ge 17, 3), (12, .iload_n 1, 1), (13, .aload_n 0, 1), (14, .iload_n 2, 1), (15, .invokevirtual 94, 3), (18, .iadd, 1), (19, .istore_n 1, 1), (20, .iinc 2 1, 3), (23, .goto (-19), 3), (26, .iload_n 1, 1), (27, .ireturn, 1)]
theorem kX3_wealthOfAll_ok : ∀ q ∈ kX3_wealthOfAll, decode cX3_wealthOfAll q.1 = .ok q.2 := by decide +kernel
def kX3_worthToGiver : List (Nat × Instr × Nat) := [(0, .iconst 0, 1), (1, .aload_n 0, 1), (2, .getfield 37, 3), (5, .iload_n 1, 1), (6, .iaload, 1), (7, .aload_n 0, 1), (8, .aload_n 0, 1), (9, .getfield 28, 3), (12, .iload_n 1, 1), (13, .iaload, 1), (14, .aload_n 0, 1), (15, .getfield 31, 3), (18, .iload_n 1, 1), (19, .iaload, 1), (20, .invokevirtual 90, 3), (23, .isub, 1), (24, .invokestatic 98, 3), (27, .ireturn, 1)]
theorem kX3_worthToGiver_ok : ∀ q ∈ kX3_worthToGiver, decode cX3_worthToGiver q.1 = .ok q.2 := by decide +kernel
def kX3_worthToTaker : List (Nat × Instr × Nat) := [(0, .iconst 0, 1), (1, .aload_n 0, 1), (2, .aload_n 0, 1), (3, .getfield 28, 3), (6, .iload_n 1, 1), (7, .iaload, 1), (8, .aload_n 0, 1), (9, .getfield 34, 3), (12, .iload_n 1, 1), (13, .iaload, 1), (14, .invokevirtual 90, 3), (17, .aload_n 0, 1), (18, .getfield 37, 3), (21, .iload_n 1, 1), (22, .iaload, 1), (23, .isub, 1), (24, .invokestatic 98, 3), (27, .ireturn, 1)]
theorem kX3_worthToTaker_ok : ∀ q ∈ kX3_worthToTaker, decode cX3_worthToTaker q.1 = .ok q.2 := by decide +kernel
def kX3_cut : List (Nat × Instr × Nat) := [(0, .aload_n 0, 1), (1, .getfield 9, 3), (4, .iload_n 1, 1), (5, .imul, 1), (6, .bipush 100, 2), (8, .idiv, 1), (9, .ireturn, 1)]
theorem kX3_cut_ok : ∀ q ∈ kX3_cut, decode cX3_cut q.1 = .ok q.2 := by decide +kernel
def kX3_whyNoDeed : List (Nat × Instr × Nat) := [(0, .aload_n 0, 1), (1, .iload_n 1, 1), (2, .invokevirtual 103, 3), (5, .ifCond .eq 21, 3), (8, .aload_n 0, 1), (9, .iload_n 2, 1), (10, .invokevirtual 106, 3), (13, .ifCond .eq 13, 3), (16, .aload_n 0, 1), (17, .getfield 22, 3), (20, .iload_n 1, 1), (21, .iaload, 1), (22, .iload_n 2, 1), (23, .if_icmp .ne 5, 3), (26, .iconst 1, 1), (27, .ireturn, 1), (28, .iload_n 3, 1), (29, .ifCond .lt 10, 3), (32, .iload_n 3, 1), (33, .sipush 9999, 3), (36, .if_icmp .le 5, 3), (39, .iconst 2, 1), (40, .ireturn, 1), (41, .aload_n 0, 1), (42, .getfield 18, 3), (45, .iload_n 2, 1), (46, .iaload, 1), (47, .iload_n 3, 1), (48, .if_icmp .ge 5, 3), (51, .iconst 3, 1), (52, .ireturn, 1), (53, .aload_n 0, 1), (54, .invokevirtual 76, 3), (57, .ifCond .eq 5, 3), (60, .iconst 4, 1), (61, .ireturn, 1), (62, .aload_n 0, 1), (63, .iload_n 1, 1), (64, .invokevirtual 84, 3), (67, .ifCond .eq 5, 3), (70, .iconst 5, 1), (71, .ireturn, 1), (72, .aload_n 0, 1), (73, .getfield 58, 3), (76, .bipush 30, 2), (78, .if_icmp .lt 8, 3), (81, .bipush 6, 2), (83, .goto 4, 3), (86, .iconst 0, 1), (87, .ireturn, 1)]
theorem kX3_whyNoDeed_ok : ∀ q ∈ kX3_whyNoDeed, decode cX3_whyNoDeed q.1 = .ok q.2 := by decide +kernel
def kX3_make : List (Nat × Instr × Nat) := [(0, .aload_n 0, 1), (1, .getfield 58, 3), (4, .istore 4, 2), (6, .aload_n 0, 1), (7, .getfield 28, 3), (10, .iload 4, 2), (12, .iload_n 1, 1), (13, .iastore, 1), (14, .aload_n 0, 1), (15, .getfield 31, 3), (18, .iload 4, 2), (20, .aload_n 0, 1), (21, .getfield 22, 3), (24, .iload_n 1, 1), (25, .iaload, 1), (26, .iastore, 1), (27, .aload_n 0, 1), (28, .getfield 34, 3), (31, .iload 4, 2), (33, .iload_n 2, 1), (34, .iastore, 1), (35, .aload_n 0, 1), (36, .getfield 37, 3), (39, .iload 4, 2), (41, .iload_n 3, 1), (42, .iastore, 1), (43, .aload_n 0, 1), (44, .getfield 40, 3), (47, .iload 4, 2), (49, .aload_n 0, 1), (50, .getfield 55, 3), (53, .iastore, 1), (54, .aload_n 0, 1), (55, .dup, 1), (56, .getfield 61, 3), (59, .iconst 1, 1), (60, .iload 4, 2), (62, .ishl, 1), (63, .ior, 1), (64, .putfield 61, 3), (67, .aload_n 0, 1), (68, .dup, 1), (69, .getfield 58, 3), (72, .iconst 1, 1), (73, .iadd, 1), (74, .putfield 58, 3), (77, .aload_n 0, 1), (78, .getfield 18, 3), (81, .iload_n 2, 1), (82, .dup2, 1), (83, .iaload, 1), (84, .iload_n 3, 1), (85, .isub, 1), (86, .iastore, 1), (87, .aload_n 0, 1), (88, .getfield 18, 3), (91, .aload_n 0, 1), (92, .getfield 22, 3), (95, .iload_n 1, 1), (96, .iaload, 1), (97, .dup2, 1), (98, .iaload, 1), (99, .iload_n 3, 1), (100, .iadd, 1), (101, .iastore, 1), (102, .aload_n 0, 1), (103, .getfield 22, 3), (106, .iload_n 1, 1), (107, .iload_n 2, 1), (108, .iastore, 1), (109, .iload 4, 2), (111, .ireturn, 1)]
theorem kX3_make_ok : ∀ q ∈ kX3_make, decode cX3_make q.1 = .ok q.2 := by decide +kernel
def kX3_fallsWith : List (Nat × Instr × Nat) := [(0, .iload_n 1, 1), (1, .iload_n 2, 1), (2, .if_icmp .lt 38, 3), (5, .aload_n 0, 1), (6, .iload_n 2, 1), (7, .invokevirtual 80, 3), (10, .ifCond .eq 30, 3), (13, .aload_n 0, 1), (14, .iload_n 1, 1), (15, .invokevirtual 80, 3), (18, .ifCond .eq 22, 3), (21, .aload_n 0, 1), (22, .getfield 28, 3), (25, .iload_n 1, 1), (26, .iaload, 1), (27, .aload_n 0, 1), (28, .getfield 28, 3), (31, .iload_n 2, 1), (32, .iaload, 1), (33, .if_icmp .ne 7, 3), (36, .iconst 1, 1), (37, .goto 4, 3), (40, .iconst 0, 1), (41, .ireturn, 1)]
theorem kX3_fallsWith_ok : ∀ q ∈ kX3_fallsWith, decode cX3_fallsWith q.1 = .ok q.2 := by decide +kernel
def kX3_priceChange : List (Nat × Instr × Nat) := [(0, .iconst 0, 1), (1, .istore_n 3, 1), (2, .iload_n 1, 1), (3, .istore 4, 2), (5, .iload 4, 2), (7, .aload_n 0, 1), (8, .getfield 58, 3), (11, .if_icmp .ge 69, 3), (14, .aload_n 0, 1), (15, .iload 4, 2), (17, .iload_n 1, 1), (18, .invokevirtual 134, 3), (21, .ifCond .eq 53, 3), (24, .iload_n 3, 1), (25, .aload_n 0, 1), (26, .getfield 34, 3), (29, .iload 4, 2), (31, .iaload, 1), (32, .iload_n 2, 1), (33, .if_icmp .ne 13, 3), (36, .aload_n 0, 1), (37, .getfield 37, 3), (40, .iload 4, 2), (42, .iaload, 1), (43, .goto 4, 3), (46, .iconst 0, 1), (47, .iadd, 1), (48, .istore_n 3, 1), (49, .iload_n 3, 1), (50, .aload_n 0, 1), (51, .getfield 31, 3), (54, .iload 4, 2), (56, .iaload, 1), (57, .iload_n 2, 1), (58, .if_icmp .ne 13, 3), (61, .aload_n 0, 1), (62, .getfield 37, 3), (65, .iload 4, 2), (67, .iaload, 1), (68, .goto 4, 3), (71, .iconst 0, 1), (72, .isub, 1), (73, .istore_n 3, 1), (74, .iinc 4 1, 3), (77, .goto (-72), 3), (80, .iload_n 3, 1), (81, .ireturn, 1)]
theorem kX3_priceChange_ok : ∀ q ∈ kX3_priceChange, decode cX3_priceChange q.1 = .ok q.2 := by decide +kernel
def kX3_owedToAll : List (Nat × Instr × Nat) := [(0, .iconst 0, 1), (1, .istore_n 3, 1), (2, .iload_n 1, 1), (3, .istore 4, 2), (5, .iload 4, 2), (7, .aload_n 0, 1), (8, .getfield 58, 3), (11, .if_icmp .ge 75, 3), (14, .aload_n 0, 1), (15, .iload 4, 2), (17, .iload_n 1, 1), (18, .invokevirtual 134, 3), (21, .ifCond .eq 59, 3), (24, .iload_n 3, 1), (25, .aload_n 0, 1), (26, .getfield 31, 3), (29, .iload 4, 2), (31, .iaload, 1), (32, .iload_n 2, 1), (33, .if_icmp .ne 7, 3), (36, .iconst 0, 1), (37, .goto 13, 3), (40, .aload_n 0, 1), (41, .aload_n 0, 1), (42, .iload 4, 2), (44, .invokevirtual 137, 3), (47, .invokevirtual 140, 3), (50, .iadd, 1), (51, .istore_n 3, 1), (52, .iload_n 3, 1), (53, .aload_n 0, 1), (54, .getfield 34, 3), (57, .iload 4, 2), (59, .iaload, 1), (60, .iload_n 2, 1), (61, .if_icmp .ne 7, 3), (64, .iconst 0, 1), (65, .goto 13, 3), (68, .aload_n 0, 1), (69, .aload_n 0, 1), (70, .iload 4, 2), (72, .invokevirtual 143, 3), (75, .invokevirtual 140, 3), (78, .iadd, 1), (79, .istore_n 3, 1), (80, .iinc 4 1, 3), (83, .goto (-78), 3), (86, .iload_n 3, 1), (87, .ireturn, 1)]
theorem kX3_owedToAll_ok : ∀ q ∈ kX3_owedToAll, decode cX3_owedToAll q.1 = .ok q.2 := by decide +kernel
def kX3_whyNoUndoing : List (Nat × Instr × Nat) := [(0, .aload_n 0, 1), (1, .iload_n 1, 1), (2, .invokevirtual 109, 3), (5, .ifCond .ne 5, 3), (8, .iconst 1, 1), (9, .ireturn, 1), (10, .aload_n 0, 1), (11, .iload_n 1, 1), (12, .invokevirtual 80, 3), (15, .ifCond .ne 5, 3), (18, .iconst 2, 1), (19, .ireturn, 1), (20, .aload_n 0, 1), (21, .iload_n 1, 1), (22, .iload_n 2, 1), (23, .invokevirtual 112, 3), (26, .ifCond .ne 5, 3), (29, .iconst 3, 1), (30, .ireturn, 1), (31, .aload_n 0, 1), (32, .invokevirtual 76, 3), (35, .ifCond .eq 5, 3), (38, .iconst 4, 1), (39, .ireturn, 1), (40, .aload_n 0, 1), (41, .aload_n 0, 1), (42, .getfield 28, 3), (45, .iload_n 1, 1), (46, .iaload, 1), (47, .invokevirtual 84, 3), (50, .ifCond .eq 5, 3), (53, .iconst 5, 1), (54, .ireturn, 1), (55, .aload_n 0, 1), (56, .getfield 18, 3), (59, .iload_n 2, 1), (60, .iaload, 1), (61, .aload_n 0, 1), (62, .iload_n 1, 1), (63, .iload_n 2, 1), (64, .invokevirtual 116, 3), (67, .iadd, 1), (68, .aload_n 0, 1), (69, .iload_n 1, 1), (70, .iload_n 2, 1), (71, .invokevirtual 119, 3), (74, .isub, 1), (75, .ifCond .ge 8, 3), (78, .bipush 6, 2), (80, .goto 4, 3), (83, .iconst 0, 1), (84, .ireturn, 1)]
theorem kX3_whyNoUndoing_ok : ∀ q ∈ kX3_whyNoUndoing, decode cX3_whyNoUndoing q.1 = .ok q.2 := by decide +kernel
def kX3_fallBits : List (Nat × Instr × Nat) := [(0, .iconst 0, 1), (1, .istore_n 2, 1), (2, .iload_n 1, 1), (3, .istore_n 3, 1), (4, .iload_n 3, 1), (5, .aload_n 0, 1), (6, .getfield 58, 3), (9, .if_icmp .ge 24, 3), (12, .aload_n 0, 1), (13, .iload_n 3, 1), (14, .iload_n 1, 1), (15, .invokevirtual 134, 3), (18, .ifCond .eq 9, 3), (21, .iload_n 2, 1), (22, .iconst 1, 1), (23, .iload_n 3, 1), (24, .ishl, 1), (25, .ior, 1), (26, .istore_n 2, 1), (27, .iinc 3 1, 3), (30, .goto (-26), 3), (33, .iload_n 2, 1), (34, .ireturn, 1)]
theorem kX3_fallBits_ok : ∀ q ∈ kX3_fallBits, decode cX3_fallBits q.1 = .ok q.2 := by decide +kernel
def kX3_owedTo : List (Nat × Instr × Nat) := [(0, .iconst 0, 1), (1, .istore 4, 2), (3, .iload_n 1, 1), (4, .istore 5, 2), (6, .iload 5, 2), (8, .aload_n 0, 1), (9, .getfield 58, 3), (12, .if_icmp .ge 84, 3), (15, .iload_n 3, 1), (16, .iload_n 2, 1), (17, .if_icmp .eq 79, 3), (20, .aload_n 0, 1), (21, .iload 5, 2), (23, .iload_n 1, 1), (24, .invokevirtual 134, 3), (27, .ifCond .eq 63, 3), (30, .iload 4, 2), (32, .aload_n 0, 1), (33, .getfield 31, 3), (36, .iload 5, 2), (38, .iaload, 1), (39, .iload_n 3, 1), (40, .if_icmp .ne 16, 3), (43, .aload_n 0, 1), (44, .aload_n 0, 1), (45, .iload 5, 2), (47, .invokevirtual 137, 3), (50, .invokevirtual 140, 3), (53, .goto 4, 3), (56, .iconst 0, 1), (57, .iadd, 1), (58, .istore 4, 2), (60, .iload 4, 2), (62, .aload_n 0, 1), (63, .getfield 34, 3), (66, .iload 5, 2), (68, .iaload, 1), (69, .iload_n 3, 1), (70, .if_icmp .ne 16, 3), (73, .aload_n 0, 1), (74, .aload_n 0, 1), (75, .iload 5, 2), (77, .invokevirtual 143, 3), (80, .invokevirtual 140, 3), (83, .goto 4, 3), (86, .iconst 0, 1), (87, .iadd, 1), (88, .istore 4, 2), (90, .iinc 5 1, 3), (93, .goto (-87), 3), (96, .iload 4, 2), (98, .ireturn, 1)]
theorem kX3_owedTo_ok : ∀ q ∈ kX3_owedTo, decode cX3_owedTo q.1 = .ok q.2 := by decide +kernel
def kX3_fell : List (Nat × Instr × Nat) := [(0, .aload_n 0, 1), (1, .iload_n 1, 1), (2, .invokevirtual 122, 3), (5, .istore_n 3, 1), (6, .iconst 0, 1), (7, .istore 4, 2), (9, .iload 4, 2), (11, .aload_n 0, 1), (12, .getfield 46, 3), (15, .if_icmp .ge 50, 3), (18, .aload_n 0, 1), (19, .iload_n 1, 1), (20, .iload_n 2, 1), (21, .iload 4, 2), (23, .invokevirtual 125, 3), (26, .istore 5, 2), (28, .aload_n 0, 1), (29, .getfield 18, 3), (32, .iload 4, 2), (34, .dup2, 1), (35, .iaload, 1), (36, .aload_n 0, 1), (37, .iload_n 1, 1), (38, .iload 4, 2), (40, .invokevirtual 116, 3), (43, .iload 5, 2), (45, .iadd, 1), (46, .iadd, 1), (47, .iastore, 1), (48, .aload_n 0, 1), (49, .getfield 18, 3), (52, .iload_n 2, 1), (53, .dup2, 1), (54, .iaload, 1), (55, .iload 5, 2), (57, .isub, 1), (58, .iastore, 1), (59, .iinc 4 1, 3), (62, .goto (-53), 3), (65, .aload_n 0, 1), (66, .getfield 22, 3), (69, .aload_n 0, 1), (70, .getfield 28, 3), (73, .iload_n 1, 1), (74, .iaload, 1), (75, .aload_n 0, 1), (76, .getfield 31, 3), (79, .iload_n 1, 1), (80, .iaload, 1), (81, .iastore, 1), (82, .aload_n 0, 1), (83, .dup, 1), (84, .getfield 61, 3), (87, .iload_n 3, 1), (88, .iconst (-1), 1), (89, .ixor, 1), (90, .iand, 1), (91, .putfield 61, 3), (94, .iload_n 3, 1), (95, .invokestatic 129, 3), (98, .ireturn, 1)]
theorem kX3_fell_ok : ∀ q ∈ kX3_fell, decode cX3_fell q.1 = .ok q.2 := by decide +kernel
def kX3_partOfUndoer : List (Nat × Instr × Nat) := [(0, .aload_n 0, 1), (1, .getfield 28, 3), (4, .iload_n 1, 1), (5, .iaload, 1), (6, .istore_n 3, 1), (7, .aload_n 0, 1), (8, .getfield 31, 3), (11, .iload_n 1, 1), (12, .iaload, 1), (13, .iload_n 2, 1), (14, .if_icmp .ne 19, 3), (17, .aload_n 0, 1), (18, .iload_n 3, 1), (19, .iload_n 2, 1), (20, .invokevirtual 90, 3), (23, .aload_n 0, 1), (24, .getfield 37, 3), (27, .iload_n 1, 1), (28, .iaload, 1), (29, .isub, 1), (30, .goto 13, 3), (33, .aload_n 0, 1), (34, .aload_n 0, 1), (35, .iload_n 1, 1), (36, .invokevirtual 137, 3), (39, .invokevirtual 140, 3), (42, .ineg, 1), (43, .istore 4, 2), (45, .aload_n 0, 1), (46, .getfield 34, 3), (49, .iload_n 1, 1), (50, .iaload, 1), (51, .iload_n 2, 1), (52, .if_icmp .ne 19, 3), (55, .aload_n 0, 1), (56, .getfield 37, 3), (59, .iload_n 1, 1), (60, .iaload, 1), (61, .aload_n 0, 1), (62, .iload_n 3, 1), (63, .iload_n 2, 1), (64, .invokevirtual 90, 3), (67, .isub, 1), (68, .goto 13, 3), (71, .aload_n 0, 1), (72, .aload_n 0, 1), (73, .iload_n 1, 1), (74, .invokevirtual 143, 3), (77, .invokevirtual 140, 3), (80, .ineg, 1), (81, .istore 5, 2), (83, .iload 4, 2), (85, .iload 5, 2), (87, .iadd, 1), (88, .ireturn, 1)]
theorem kX3_partOfUndoer_ok : ∀ q ∈ kX3_partOfUndoer, decode cX3_partOfUndoer q.1 = .ok q.2 := by decide +kernel
def kX3_partOfOther : List (Nat × Instr × Nat) := [(0, .aload_n 0, 1), (1, .getfield 28, 3), (4, .iload_n 1, 1), (5, .iaload, 1), (6, .istore_n 3, 1), (7, .aload_n 0, 1), (8, .getfield 31, 3), (11, .iload_n 1, 1), (12, .iaload, 1), (13, .iload_n 2, 1), (14, .if_icmp .ne 29, 3), (17, .aload_n 0, 1), (18, .iload_n 3, 1), (19, .iload_n 2, 1), (20, .invokevirtual 90, 3), (23, .aload_n 0, 1), (24, .getfield 37, 3), (27, .iload_n 1, 1), (28, .iaload, 1), (29, .isub, 1), (30, .aload_n 0, 1), (31, .aload_n 0, 1), (32, .iload_n 1, 1), (33, .invokevirtual 137, 3), (36, .invokevirtual 140, 3), (39, .iadd, 1), (40, .goto 4, 3), (43, .iconst 0, 1), (44, .istore 4, 2), (46, .aload_n 0, 1), (47, .getfield 34, 3), (50, .iload_n 1, 1), (51, .iaload, 1), (52, .iload_n 2, 1), (53, .if_icmp .ne 29, 3), (56, .aload_n 0, 1), (57, .getfield 37, 3), (60, .iload_n 1, 1), (61, .iaload, 1), (62, .aload_n 0, 1), (63, .iload_n 3, 1), (64, .iload_n 2, 1), (65, .invokevirtual 90, 3), (68, .isub, 1), (69, .aload_n 0, 1), (70, .aload_n 0, 1), (71, .iload_n 1, 1), (72, .invokevirtual 143, 3), (75, .invokevirtual 140, 3), (78, .iadd, 1), (79, .goto 4, 3), (82, .iconst 0, 1), (83, .istore 5, 2), (85, .iload 4, 2), (87, .iload 5, 2), (89, .iadd, 1), (90, .ireturn, 1)]
theorem kX3_partOfOther_ok : ∀ q ∈ kX3_partOfOther, decode cX3_partOfOther q.1 = .ok q.2 := by decide +kernel
def kX3_gainOf : List (Nat × Instr × Nat) := [(0, .iconst 0, 1), (1, .istore_n 3, 1), (2, .iload_n 1, 1), (3, .istore 4, 2), (5, .iload 4, 2), (7, .aload_n 0, 1), (8, .getfield 58, 3), (11, .if_icmp .ge 29, 3), (14, .aload_n 0, 1), (15, .iload 4, 2), (17, .iload_n 1, 1), (18, .invokevirtual 134, 3), (21, .ifCond .eq 13, 3), (24, .iload_n 3, 1), (25, .aload_n 0, 1), (26, .iload 4, 2), (28, .iload_n 2, 1), (29, .invokevirtual 146, 3), (32, .iadd, 1), (33, .istore_n 3, 1), (34, .iinc 4 1, 3), (37, .goto (-32), 3), (40, .iload_n 3, 1), (41, .ireturn, 1)]
theorem kX3_gainOf_ok : ∀ q ∈ kX3_gainOf, decode cX3_gainOf q.1 = .ok q.2 := by decide +kernel
def kX3_topGain : List (Nat × Instr × Nat) := [(0, .aload_n 0, 1), (1, .iload_n 1, 1), (2, .aload_n 0, 1), (3, .getfield 31, 3), (6, .iload_n 1, 1), (7, .iaload, 1), (8, .invokevirtual 149, 3), (11, .aload_n 0, 1), (12, .iload_n 1, 1), (13, .aload_n 0, 1), (14, .getfield 34, 3), (17, .iload_n 1, 1), (18, .iaload, 1), (19, .invokevirtual 149, 3), (22, .invokestatic 98, 3), (25, .ireturn, 1)]
theorem kX3_topGain_ok : ∀ q ∈ kX3_topGain, decode cX3_topGain q.1 = .ok q.2 := by decide +kernel
def kX3_bestUndoing : List (Nat × Instr × Nat) := [(0, .iconst 0, 1), (1, .istore_n 1, 1), (2, .iconst (-1), 1), (3, .istore_n 2, 1), (4, .iconst 0, 1), (5, .istore_n 3, 1), (6, .iload_n 3, 1), (7, .iconst 2, 1), (8, .aload_n 0, 1), (9, .getfield 58, 3), (12, .imul, 1), (13, .if_icmp .ge 57, 3), (16, .iload_n 3, 1), (17, .iconst 1, 1), (18, .ishr, 1), (19, .istore 4, 2), (21, .aload_n 0, 1), (22, .iload 4, 2), (24, .iload_n 3, 1), (25, .iconst 1, 1), (26, .iand, 1), (27, .invokevirtual 152, 3), (30, .istore 5, 2), (32, .aload_n 0, 1), (33, .iload 4, 2), (35, .iload 5, 2), (37, .invokevirtual 149, 3), (40, .istore 6, 2), (42, .iload 6, 2), (44, .iload_n 1, 1), (45, .if_icmp .le 19, 3), (48, .aload_n 0, 1), (49, .iload 4, 2), (51, .iload 5, 2), (53, .invokevirtual 155, 3), (56, .ifCond .ne 8, 3), (59, .iload 6, 2), (61, .istore_n 1, 1), (62, .iload_n 3, 1), (63, .istore_n 2, 1), (64, .iinc 3 1, 3), (67, .goto (-61), 3), (70, .iload_n 2, 1), (71, .ireturn, 1)]
theorem kX3_bestUndoing_ok : ∀ q ∈ kX3_bestUndoing, decode cX3_bestUndoing q.1 = .ok q.2 := by decide +kernel
def kX3_wouldBeSafe : List (Nat × Instr × Nat) := [(0, .aload_n 0, 1), (1, .iload_n 1, 1), (2, .aload_n 0, 1), (3, .getfield 22, 3), (6, .iload_n 1, 1), (7, .iaload, 1), (8, .invokevirtual 90, 3), (11, .istore 4, 2), (13, .aload_n 0, 1), (14, .iload_n 1, 1), (15, .iload_n 2, 1), (16, .invokevirtual 90, 3), (19, .istore 5, 2), (21, .iload 4, 2), (23, .iload_n 3, 1), (24, .isub, 1), (25, .aload_n 0, 1), (26, .iconst 0, 1), (27, .iload 5, 2), (29, .iload_n 3, 1), (30, .isub, 1), (31, .invokestatic 98, 3), (34, .invokevirtual 140, 3), (37, .isub, 1), (38, .istore 6, 2), (40, .iload_n 3, 1), (41, .iload 5, 2), (43, .isub, 1), (44, .aload_n 0, 1), (45, .iconst 0, 1), (46, .iload_n 3, 1), (47, .iload 4, 2), (49, .isub, 1), (50, .invokestatic 98, 3), (53, .invokevirtual 140, 3), (56, .isub, 1), (57, .istore 7, 2), (59, .iload 6, 2), (61, .ifCond .gt 12, 3), (64, .iload 7, 2), (66, .ifCond .gt 7, 3), (69, .iconst 1, 1), (70, .goto 4, 3), (73, .iconst 0, 1), (74, .ireturn, 1)]
theorem kX3_wouldBeSafe_ok : ∀ q ∈ kX3_wouldBeSafe, decode cX3_wouldBeSafe q.1 = .ok q.2 := by decide +kernel
def kX3_chainLength : List (Nat × Instr × Nat) := [(0, .iconst 0, 1), (1, .istore_n 2, 1), (2, .iconst 0, 1), (3, .istore_n 3, 1), (4, .iload_n 3, 1), (5, .aload_n 0, 1), (6, .getfield 58, 3), (9, .if_icmp .ge 30, 3), (12, .aload_n 0, 1), (13, .getfield 28, 3), (16, .iload_n 3, 1), (17, .iaload, 1), (18, .iload_n 1, 1), (19, .if_icmp .ne 14, 3), (22, .aload_n 0, 1), (23, .iload_n 3, 1), (24, .invokevirtual 80, 3), (27, .ifCond .eq 6, 3), (30, .iinc 2 1, 3), (33, .iinc 3 1, 3), (36, .goto (-32), 3), (39, .iload_n 2, 1), (40, .ireturn, 1)]
theorem kX3_chainLength_ok : ∀ q ∈ kX3_chainLength, decode cX3_chainLength q.1 = .ok q.2 := by decide +kernel
def kX3_wants : List (Nat × Instr × Nat) := [(0, .aload_n 0, 1), (1, .getfield 22, 3), (4, .iload_n 1, 1), (5, .iaload, 1), (6, .istore_n 3, 1), (7, .iload_n 3, 1), (8, .aload_n 0, 1), (9, .getfield 22, 3), (12, .iload_n 2, 1), (13, .iaload, 1), (14, .if_icmp .eq 38, 3), (17, .aload_n 0, 1), (18, .iload_n 1, 1), (19, .invokevirtual 84, 3), (22, .ifCond .ne 30, 3), (25, .aload_n 0, 1), (26, .iload_n 2, 1), (27, .invokevirtual 84, 3), (30, .ifCond .ne 22, 3), (33, .aload_n 0, 1), (34, .iload_n 2, 1), (35, .iload_n 3, 1), (36, .invokevirtual 90, 3), (39, .aload_n 0, 1), (40, .iload_n 1, 1), (41, .iload_n 3, 1), (42, .invokevirtual 90, 3), (45, .if_icmp .le 7, 3), (48, .iconst 1, 1), (49, .goto 4, 3), (52, .iconst 0, 1), (53, .ireturn, 1)]
theorem kX3_wants_ok : ∀ q ∈ kX3_wants, decode cX3_wants q.1 = .ok q.2 := by decide +kernel
def kX3_isRing : List (Nat × Instr × Nat) := [(0, .aload_n 0, 1), (1, .iload_n 1, 1), (2, .iload_n 2, 1), (3, .invokevirtual 158, 3), (6, .ifCond .eq 25, 3), (9, .aload_n 0, 1), (10, .iload_n 2, 1), (11, .iload_n 3, 1), (12, .invokevirtual 158, 3), (15, .ifCond .eq 16, 3), (18, .aload_n 0, 1), (19, .iload_n 3, 1), (20, .iload_n 1, 1), (21, .invokevirtual 158, 3), (24, .ifCond .eq 7, 3), (27, .iconst 1, 1), (28, .goto 4, 3), (31, .iconst 0, 1), (32, .ireturn, 1)]
theorem kX3_isRing_ok : ∀ q ∈ kX3_isRing, decode cX3_isRing q.1 = .ok q.2 := by decide +kernel
end
section
def hE : jH := []
def hTown (G : Nat → Nat → Int32) : jH := [.inr (.inr (.inl (3, [.int (G 0 0), .int (G 0 1), .int (G 0 2), .int (G 0 3), .int (G 0 4), .int (G 0 5), .int (G 0 6), .int (G 0 7), .int (G 0 8), .ref 1, .ref 2, .ref 3, .ref 4, .ref 5, .ref 6, .ref 7, .ref 8]))), .inl (0, 6, G 1), .inl (0, 10, G 2), .inl (0, 60, G 3), .inl (0, 30, G 4), .inl (0, 30, G 5), .inl (0, 30, G 6), .inl (0, 30, G 7), .inl (0, 30, G 8)]
theorem sb_Town_Town_0 (G : Nat → Nat → Int32) : jsub [0, 1, 2, 3, 4, 5, 6, 7, 8] (hTown G) (hTown G) := rfl
theorem bk_Town_Town_0 (G : Nat → Nat → Int32) (G2 : Nat → Nat → Int32) : jback [0, 1, 2, 3, 4, 5, 6, 7, 8] (hTown G2) (hTown G) = (hTown G2) := rfl
theorem bi_Town_Town_0 (G : Nat → Nat → Int32) : jback [0, 1, 2, 3, 4, 5, 6, 7, 8] (hTown G) (hTown G) = (hTown G) := rfl
theorem sb_Town_E_ (G : Nat → Nat → Int32) : jsub [] hE (hTown G) := rfl
theorem bk_Town_E_ (G : Nat → Nat → Int32) : jback [] hE (hTown G) = (hTown G) := rfl
theorem bi_Town_E_ (G : Nat → Nat → Int32) : jback [] hE (hTown G) = (hTown G) := rfl
end
section
def p_J9_max_7cf53 (N : Nat) (a : Int32) (b : Int32) : Option (Int32) :=
  if a < b then (some b) else (some a)
set_option maxHeartbeats 4000000 in
set_option maxRecDepth 100000 in
theorem t_J9_max_7cf53 {X : jX} {po : Option Value → jH → Prop} {px : String → jH → Prop} {sf : Bool} {B9 : Nat} (hM : jMX X kJ9_max_7cf53 RJ9 tbM 2 ⟨0, 0, 0, 0⟩ (some .int) 1) (hp : jPost X sf B9 po px) (N : Nat) (a : Int32) (b : Int32) {res : Int32} (h : p_J9_max_7cf53 N a b = some res) (hq : po (some (.int res)) hE) : JW X 0 0 0 [some (.int a), some (.int b)] [] hE := by
  unfold p_J9_max_7cf53 at h
  refine JW.r hM 0 2 (pc2 := 2) (L2 := [some (.int a), some (.int b)]) (st2 := [.int b, .int a]) (μ2 := hE) rfl trivial ?_
  refine js_iclt (t := 9) hM.1 (jat hM.2.1 2 rfl) rfl (fun hc1 => ?_) (fun hc1 => ?_)
  · have h := (if_pos hc1).symm.trans h
    refine JW.r hM 5 1 (pc2 := 10) (L2 := [some (.int a), some (.int b)]) (st2 := [.int b]) (μ2 := hE) rfl trivial ?_
    cases h
    exact js_iret hM.1 hp hM.2.2.2.2.2.2.2.1 (by rw [hM.2.2.2.2.2.1]; exact Nat.le_of_ble_eq_true rfl) (by rw [hM.2.2.2.2.2.2.1]; exact Nat.le_of_ble_eq_true rfl) (jat hM.2.1 6 rfl) hq
  · have h := (if_neg hc1).symm.trans h
    refine JW.r hM 3 2 (pc2 := 10) (L2 := [some (.int a), some (.int b)]) (st2 := [.int a]) (μ2 := hE) rfl trivial ?_
    cases h
    exact js_iret hM.1 hp hM.2.2.2.2.2.2.2.1 (by rw [hM.2.2.2.2.2.1]; exact Nat.le_of_ble_eq_true rfl) (by rw [hM.2.2.2.2.2.2.1]; exact Nat.le_of_ble_eq_true rfl) (jat hM.2.1 6 rfl) hq
theorem m_J9_max_7cf53 (V : jV) (hV : V.1.stackTraces = false) (N : Nat) (a : Int32) (b : Int32) (v : Int32) (h : p_J9_max_7cf53 N a b = some v) : jMet V yJ9_max_7cf53 (jws yJ9_max_7cf53 cJ9_max_7cf53 2 (some .int)) ⟨0, 0, 0, 0⟩ true 1 [.int a, .int b] hE (fun o ν => o = some (.int v) ∧ ν = hE) (fun _ _ => False) := by
  refine jmk (tb := tbM) (C := kJ9_max_7cf53) hV rfl (by decide) tbM_ok rfl kJ9_max_7cf53_ok rfl ?_
  intro X hM _ hp _
  exact t_J9_max_7cf53 hM hp N a b h ⟨rfl, rfl⟩
def p_J9_min_7cf53 (N : Nat) (a : Int32) (b : Int32) : Option (Int32) :=
  if b < a then (some b) else (some a)
set_option maxHeartbeats 4000000 in
set_option maxRecDepth 100000 in
theorem t_J9_min_7cf53 {X : jX} {po : Option Value → jH → Prop} {px : String → jH → Prop} {sf : Bool} {B9 : Nat} (hM : jMX X kJ9_min_7cf53 RJ9 tbM 2 ⟨0, 0, 0, 0⟩ (some .int) 1) (hp : jPost X sf B9 po px) (N : Nat) (a : Int32) (b : Int32) {res : Int32} (h : p_J9_min_7cf53 N a b = some res) (hq : po (some (.int res)) hE) : JW X 0 0 0 [some (.int a), some (.int b)] [] hE := by
  unfold p_J9_min_7cf53 at h
  refine JW.r hM 0 2 (pc2 := 2) (L2 := [some (.int a), some (.int b)]) (st2 := [.int b, .int a]) (μ2 := hE) rfl trivial ?_
  refine js_icgt (t := 9) hM.1 (jat hM.2.1 2 rfl) rfl (fun hc1 => ?_) (fun hc1 => ?_)
  · have h := (if_pos hc1).symm.trans h
    refine JW.r hM 5 1 (pc2 := 10) (L2 := [some (.int a), some (.int b)]) (st2 := [.int b]) (μ2 := hE) rfl trivial ?_
    cases h
    exact js_iret hM.1 hp hM.2.2.2.2.2.2.2.1 (by rw [hM.2.2.2.2.2.1]; exact Nat.le_of_ble_eq_true rfl) (by rw [hM.2.2.2.2.2.2.1]; exact Nat.le_of_ble_eq_true rfl) (jat hM.2.1 6 rfl) hq
  · have h := (if_neg hc1).symm.trans h
    refine JW.r hM 3 2 (pc2 := 10) (L2 := [some (.int a), some (.int b)]) (st2 := [.int a]) (μ2 := hE) rfl trivial ?_
    cases h
    exact js_iret hM.1 hp hM.2.2.2.2.2.2.2.1 (by rw [hM.2.2.2.2.2.1]; exact Nat.le_of_ble_eq_true rfl) (by rw [hM.2.2.2.2.2.2.1]; exact Nat.le_of_ble_eq_true rfl) (jat hM.2.1 6 rfl) hq
theorem m_J9_min_7cf53 (V : jV) (hV : V.1.stackTraces = false) (N : Nat) (a : Int32) (b : Int32) (v : Int32) (h : p_J9_min_7cf53 N a b = some v) : jMet V yJ9_min_7cf53 (jws yJ9_min_7cf53 cJ9_min_7cf53 2 (some .int)) ⟨0, 0, 0, 0⟩ true 1 [.int a, .int b] hE (fun o ν => o = some (.int v) ∧ ν = hE) (fun _ _ => False) := by
  refine jmk (tb := tbM) (C := kJ9_min_7cf53) hV rfl (by decide) tbM_ok rfl kJ9_min_7cf53_ok rfl ?_
  intro X hM _ hp _
  exact t_J9_min_7cf53 hM hp N a b h ⟨rfl, rfl⟩
def p_J9_max_f86c9 (N : Nat) (a : Int64) (b : Int64) : Option (Int64) :=
  if (lg_cmp a b) < 0 then (some b) else (some a)
set_option maxHeartbeats 4000000 in
set_option maxRecDepth 100000 in
theorem t_J9_max_f86c9 {X : jX} {po : Option Value → jH → Prop} {px : String → jH → Prop} {sf : Bool} {B9 : Nat} (hM : jMX X kJ9_max_f86c9 RJ9 tbM 4 ⟨0, 0, 0, 0⟩ (some .long) 1) (hp : jPost X sf B9 po px) (N : Nat) (a : Int64) (b : Int64) {res : Int64} (h : p_J9_max_f86c9 N a b = some res) (hq : po (some (.long res)) hE) : JW X 0 0 0 [some (.long a), none, some (.long b), none] [] hE := by
  unfold p_J9_max_f86c9 at h
  refine JW.r hM 0 3 (pc2 := 3) (L2 := [some (.long a), none, some (.long b), none]) (st2 := [.int (lg_cmp a b)]) (μ2 := hE) rfl trivial ?_
  refine js_iflt (t := 10) hM.1 (jat hM.2.1 3 rfl) rfl (fun hc1 => ?_) (fun hc1 => ?_)
  · have h := (if_pos hc1).symm.trans h
    refine JW.r hM 6 1 (pc2 := 11) (L2 := [some (.long a), none, some (.long b), none]) (st2 := [.long b]) (μ2 := hE) rfl trivial ?_
    cases h
    exact js_lret hM.1 hp hM.2.2.2.2.2.2.2.1 (by rw [hM.2.2.2.2.2.1]; exact Nat.le_of_ble_eq_true rfl) (by rw [hM.2.2.2.2.2.2.1]; exact Nat.le_of_ble_eq_true rfl) (jat hM.2.1 7 rfl) hq
  · have h := (if_neg hc1).symm.trans h
    refine JW.r hM 4 2 (pc2 := 11) (L2 := [some (.long a), none, some (.long b), none]) (st2 := [.long a]) (μ2 := hE) rfl trivial ?_
    cases h
    exact js_lret hM.1 hp hM.2.2.2.2.2.2.2.1 (by rw [hM.2.2.2.2.2.1]; exact Nat.le_of_ble_eq_true rfl) (by rw [hM.2.2.2.2.2.2.1]; exact Nat.le_of_ble_eq_true rfl) (jat hM.2.1 7 rfl) hq
theorem m_J9_max_f86c9 (V : jV) (hV : V.1.stackTraces = false) (N : Nat) (a : Int64) (b : Int64) (v : Int64) (h : p_J9_max_f86c9 N a b = some v) : jMet V yJ9_max_f86c9 (jws yJ9_max_f86c9 cJ9_max_f86c9 4 (some .long)) ⟨0, 0, 0, 0⟩ true 1 [.long a, .long b] hE (fun o ν => o = some (.long v) ∧ ν = hE) (fun _ _ => False) := by
  refine jmk (tb := tbM) (C := kJ9_max_f86c9) hV rfl (by decide) tbM_ok rfl kJ9_max_f86c9_ok rfl ?_
  intro X hM _ hp _
  exact t_J9_max_f86c9 hM hp N a b h ⟨rfl, rfl⟩
def p_J6_bitCount_0f7a4 (N : Nat) (a : Int32) : Option (Int32) :=
  some ((((((((a - ((a.toUInt32 >>> ((1 : Int32).toUInt32 &&& Int32.toUInt32 31)).toInt32 &&& (1431655765 : Int32))) &&& (858993459 : Int32)) + (((a - ((a.toUInt32 >>> ((1 : Int32).toUInt32 &&& Int32.toUInt32 31)).toInt32 &&& (1431655765 : Int32))).toUInt32 >>> ((2 : Int32).toUInt32 &&& Int32.toUInt32 31)).toInt32 &&& (858993459 : Int32))) + ((((a - ((a.toUInt32 >>> ((1 : Int32).toUInt32 &&& Int32.toUInt32 31)).toInt32 &&& (1431655765 : Int32))) &&& (858993459 : Int32)) + (((a - ((a.toUInt32 >>> ((1 : Int32).toUInt32 &&& Int32.toUInt32 31)).toInt32 &&& (1431655765 : Int32))).toUInt32 >>> ((2 : Int32).toUInt32 &&& Int32.toUInt32 31)).toInt32 &&& (858993459 : Int32))).toUInt32 >>> ((4 : Int32).toUInt32 &&& Int32.toUInt32 31)).toInt32) &&& (252645135 : Int32)) + ((((((a - ((a.toUInt32 >>> ((1 : Int32).toUInt32 &&& Int32.toUInt32 31)).toInt32 &&& (1431655765 : Int32))) &&& (858993459 : Int32)) + (((a - ((a.toUInt32 >>> ((1 : Int32).toUInt32 &&& Int32.toUInt32 31)).toInt32 &&& (1431655765 : Int32))).toUInt32 >>> ((2 : Int32).toUInt32 &&& Int32.toUInt32 31)).toInt32 &&& (858993459 : Int32))) + ((((a - ((a.toUInt32 >>> ((1 : Int32).toUInt32 &&& Int32.toUInt32 31)).toInt32 &&& (1431655765 : Int32))) &&& (858993459 : Int32)) + (((a - ((a.toUInt32 >>> ((1 : Int32).toUInt32 &&& Int32.toUInt32 31)).toInt32 &&& (1431655765 : Int32))).toUInt32 >>> ((2 : Int32).toUInt32 &&& Int32.toUInt32 31)).toInt32 &&& (858993459 : Int32))).toUInt32 >>> ((4 : Int32).toUInt32 &&& Int32.toUInt32 31)).toInt32) &&& (252645135 : Int32)).toUInt32 >>> ((8 : Int32).toUInt32 &&& Int32.toUInt32 31)).toInt32) + (((((((a - ((a.toUInt32 >>> ((1 : Int32).toUInt32 &&& Int32.toUInt32 31)).toInt32 &&& (1431655765 : Int32))) &&& (858993459 : Int32)) + (((a - ((a.toUInt32 >>> ((1 : Int32).toUInt32 &&& Int32.toUInt32 31)).toInt32 &&& (1431655765 : Int32))).toUInt32 >>> ((2 : Int32).toUInt32 &&& Int32.toUInt32 31)).toInt32 &&& (858993459 : Int32))) + ((((a - ((a.toUInt32 >>> ((1 : Int32).toUInt32 &&& Int32.toUInt32 31)).toInt32 &&& (1431655765 : Int32))) &&& (858993459 : Int32)) + (((a - ((a.toUInt32 >>> ((1 : Int32).toUInt32 &&& Int32.toUInt32 31)).toInt32 &&& (1431655765 : Int32))).toUInt32 >>> ((2 : Int32).toUInt32 &&& Int32.toUInt32 31)).toInt32 &&& (858993459 : Int32))).toUInt32 >>> ((4 : Int32).toUInt32 &&& Int32.toUInt32 31)).toInt32) &&& (252645135 : Int32)) + ((((((a - ((a.toUInt32 >>> ((1 : Int32).toUInt32 &&& Int32.toUInt32 31)).toInt32 &&& (1431655765 : Int32))) &&& (858993459 : Int32)) + (((a - ((a.toUInt32 >>> ((1 : Int32).toUInt32 &&& Int32.toUInt32 31)).toInt32 &&& (1431655765 : Int32))).toUInt32 >>> ((2 : Int32).toUInt32 &&& Int32.toUInt32 31)).toInt32 &&& (858993459 : Int32))) + ((((a - ((a.toUInt32 >>> ((1 : Int32).toUInt32 &&& Int32.toUInt32 31)).toInt32 &&& (1431655765 : Int32))) &&& (858993459 : Int32)) + (((a - ((a.toUInt32 >>> ((1 : Int32).toUInt32 &&& Int32.toUInt32 31)).toInt32 &&& (1431655765 : Int32))).toUInt32 >>> ((2 : Int32).toUInt32 &&& Int32.toUInt32 31)).toInt32 &&& (858993459 : Int32))).toUInt32 >>> ((4 : Int32).toUInt32 &&& Int32.toUInt32 31)).toInt32) &&& (252645135 : Int32)).toUInt32 >>> ((8 : Int32).toUInt32 &&& Int32.toUInt32 31)).toInt32).toUInt32 >>> ((16 : Int32).toUInt32 &&& Int32.toUInt32 31)).toInt32) &&& (63 : Int32))
set_option maxHeartbeats 4000000 in
set_option maxRecDepth 100000 in
theorem t_J6_bitCount_0f7a4 {X : jX} {po : Option Value → jH → Prop} {px : String → jH → Prop} {sf : Bool} {B9 : Nat} (hM : jMX X kJ6_bitCount_0f7a4 RJ6 tbI 1 ⟨0, 0, 0, 0⟩ (some .int) 1) (hp : jPost X sf B9 po px) (N : Nat) (a : Int32) {res : Int32} (h : p_J6_bitCount_0f7a4 N a = some res) (hq : po (some (.int res)) hE) : JW X 0 0 0 [some (.int a)] [] hE := by
  unfold p_J6_bitCount_0f7a4 at h
  refine JW.r hM 0 41 (pc2 := 52) (L2 := [some (.int (((((((a - ((a.toUInt32 >>> ((1 : Int32).toUInt32 &&& Int32.toUInt32 31)).toInt32 &&& (1431655765 : Int32))) &&& (858993459 : Int32)) + (((a - ((a.toUInt32 >>> ((1 : Int32).toUInt32 &&& Int32.toUInt32 31)).toInt32 &&& (1431655765 : Int32))).toUInt32 >>> ((2 : Int32).toUInt32 &&& Int32.toUInt32 31)).toInt32 &&& (858993459 : Int32))) + ((((a - ((a.toUInt32 >>> ((1 : Int32).toUInt32 &&& Int32.toUInt32 31)).toInt32 &&& (1431655765 : Int32))) &&& (858993459 : Int32)) + (((a - ((a.toUInt32 >>> ((1 : Int32).toUInt32 &&& Int32.toUInt32 31)).toInt32 &&& (1431655765 : Int32))).toUInt32 >>> ((2 : Int32).toUInt32 &&& Int32.toUInt32 31)).toInt32 &&& (858993459 : Int32))).toUInt32 >>> ((4 : Int32).toUInt32 &&& Int32.toUInt32 31)).toInt32) &&& (252645135 : Int32)) + ((((((a - ((a.toUInt32 >>> ((1 : Int32).toUInt32 &&& Int32.toUInt32 31)).toInt32 &&& (1431655765 : Int32))) &&& (858993459 : Int32)) + (((a - ((a.toUInt32 >>> ((1 : Int32).toUInt32 &&& Int32.toUInt32 31)).toInt32 &&& (1431655765 : Int32))).toUInt32 >>> ((2 : Int32).toUInt32 &&& Int32.toUInt32 31)).toInt32 &&& (858993459 : Int32))) + ((((a - ((a.toUInt32 >>> ((1 : Int32).toUInt32 &&& Int32.toUInt32 31)).toInt32 &&& (1431655765 : Int32))) &&& (858993459 : Int32)) + (((a - ((a.toUInt32 >>> ((1 : Int32).toUInt32 &&& Int32.toUInt32 31)).toInt32 &&& (1431655765 : Int32))).toUInt32 >>> ((2 : Int32).toUInt32 &&& Int32.toUInt32 31)).toInt32 &&& (858993459 : Int32))).toUInt32 >>> ((4 : Int32).toUInt32 &&& Int32.toUInt32 31)).toInt32) &&& (252645135 : Int32)).toUInt32 >>> ((8 : Int32).toUInt32 &&& Int32.toUInt32 31)).toInt32) + (((((((a - ((a.toUInt32 >>> ((1 : Int32).toUInt32 &&& Int32.toUInt32 31)).toInt32 &&& (1431655765 : Int32))) &&& (858993459 : Int32)) + (((a - ((a.toUInt32 >>> ((1 : Int32).toUInt32 &&& Int32.toUInt32 31)).toInt32 &&& (1431655765 : Int32))).toUInt32 >>> ((2 : Int32).toUInt32 &&& Int32.toUInt32 31)).toInt32 &&& (858993459 : Int32))) + ((((a - ((a.toUInt32 >>> ((1 : Int32).toUInt32 &&& Int32.toUInt32 31)).toInt32 &&& (1431655765 : Int32))) &&& (858993459 : Int32)) + (((a - ((a.toUInt32 >>> ((1 : Int32).toUInt32 &&& Int32.toUInt32 31)).toInt32 &&& (1431655765 : Int32))).toUInt32 >>> ((2 : Int32).toUInt32 &&& Int32.toUInt32 31)).toInt32 &&& (858993459 : Int32))).toUInt32 >>> ((4 : Int32).toUInt32 &&& Int32.toUInt32 31)).toInt32) &&& (252645135 : Int32)) + ((((((a - ((a.toUInt32 >>> ((1 : Int32).toUInt32 &&& Int32.toUInt32 31)).toInt32 &&& (1431655765 : Int32))) &&& (858993459 : Int32)) + (((a - ((a.toUInt32 >>> ((1 : Int32).toUInt32 &&& Int32.toUInt32 31)).toInt32 &&& (1431655765 : Int32))).toUInt32 >>> ((2 : Int32).toUInt32 &&& Int32.toUInt32 31)).toInt32 &&& (858993459 : Int32))) + ((((a - ((a.toUInt32 >>> ((1 : Int32).toUInt32 &&& Int32.toUInt32 31)).toInt32 &&& (1431655765 : Int32))) &&& (858993459 : Int32)) + (((a - ((a.toUInt32 >>> ((1 : Int32).toUInt32 &&& Int32.toUInt32 31)).toInt32 &&& (1431655765 : Int32))).toUInt32 >>> ((2 : Int32).toUInt32 &&& Int32.toUInt32 31)).toInt32 &&& (858993459 : Int32))).toUInt32 >>> ((4 : Int32).toUInt32 &&& Int32.toUInt32 31)).toInt32) &&& (252645135 : Int32)).toUInt32 >>> ((8 : Int32).toUInt32 &&& Int32.toUInt32 31)).toInt32).toUInt32 >>> ((16 : Int32).toUInt32 &&& Int32.toUInt32 31)).toInt32))]) (st2 := [.int ((((((((a - ((a.toUInt32 >>> ((1 : Int32).toUInt32 &&& Int32.toUInt32 31)).toInt32 &&& (1431655765 : Int32))) &&& (858993459 : Int32)) + (((a - ((a.toUInt32 >>> ((1 : Int32).toUInt32 &&& Int32.toUInt32 31)).toInt32 &&& (1431655765 : Int32))).toUInt32 >>> ((2 : Int32).toUInt32 &&& Int32.toUInt32 31)).toInt32 &&& (858993459 : Int32))) + ((((a - ((a.toUInt32 >>> ((1 : Int32).toUInt32 &&& Int32.toUInt32 31)).toInt32 &&& (1431655765 : Int32))) &&& (858993459 : Int32)) + (((a - ((a.toUInt32 >>> ((1 : Int32).toUInt32 &&& Int32.toUInt32 31)).toInt32 &&& (1431655765 : Int32))).toUInt32 >>> ((2 : Int32).toUInt32 &&& Int32.toUInt32 31)).toInt32 &&& (858993459 : Int32))).toUInt32 >>> ((4 : Int32).toUInt32 &&& Int32.toUInt32 31)).toInt32) &&& (252645135 : Int32)) + ((((((a - ((a.toUInt32 >>> ((1 : Int32).toUInt32 &&& Int32.toUInt32 31)).toInt32 &&& (1431655765 : Int32))) &&& (858993459 : Int32)) + (((a - ((a.toUInt32 >>> ((1 : Int32).toUInt32 &&& Int32.toUInt32 31)).toInt32 &&& (1431655765 : Int32))).toUInt32 >>> ((2 : Int32).toUInt32 &&& Int32.toUInt32 31)).toInt32 &&& (858993459 : Int32))) + ((((a - ((a.toUInt32 >>> ((1 : Int32).toUInt32 &&& Int32.toUInt32 31)).toInt32 &&& (1431655765 : Int32))) &&& (858993459 : Int32)) + (((a - ((a.toUInt32 >>> ((1 : Int32).toUInt32 &&& Int32.toUInt32 31)).toInt32 &&& (1431655765 : Int32))).toUInt32 >>> ((2 : Int32).toUInt32 &&& Int32.toUInt32 31)).toInt32 &&& (858993459 : Int32))).toUInt32 >>> ((4 : Int32).toUInt32 &&& Int32.toUInt32 31)).toInt32) &&& (252645135 : Int32)).toUInt32 >>> ((8 : Int32).toUInt32 &&& Int32.toUInt32 31)).toInt32) + (((((((a - ((a.toUInt32 >>> ((1 : Int32).toUInt32 &&& Int32.toUInt32 31)).toInt32 &&& (1431655765 : Int32))) &&& (858993459 : Int32)) + (((a - ((a.toUInt32 >>> ((1 : Int32).toUInt32 &&& Int32.toUInt32 31)).toInt32 &&& (1431655765 : Int32))).toUInt32 >>> ((2 : Int32).toUInt32 &&& Int32.toUInt32 31)).toInt32 &&& (858993459 : Int32))) + ((((a - ((a.toUInt32 >>> ((1 : Int32).toUInt32 &&& Int32.toUInt32 31)).toInt32 &&& (1431655765 : Int32))) &&& (858993459 : Int32)) + (((a - ((a.toUInt32 >>> ((1 : Int32).toUInt32 &&& Int32.toUInt32 31)).toInt32 &&& (1431655765 : Int32))).toUInt32 >>> ((2 : Int32).toUInt32 &&& Int32.toUInt32 31)).toInt32 &&& (858993459 : Int32))).toUInt32 >>> ((4 : Int32).toUInt32 &&& Int32.toUInt32 31)).toInt32) &&& (252645135 : Int32)) + ((((((a - ((a.toUInt32 >>> ((1 : Int32).toUInt32 &&& Int32.toUInt32 31)).toInt32 &&& (1431655765 : Int32))) &&& (858993459 : Int32)) + (((a - ((a.toUInt32 >>> ((1 : Int32).toUInt32 &&& Int32.toUInt32 31)).toInt32 &&& (1431655765 : Int32))).toUInt32 >>> ((2 : Int32).toUInt32 &&& Int32.toUInt32 31)).toInt32 &&& (858993459 : Int32))) + ((((a - ((a.toUInt32 >>> ((1 : Int32).toUInt32 &&& Int32.toUInt32 31)).toInt32 &&& (1431655765 : Int32))) &&& (858993459 : Int32)) + (((a - ((a.toUInt32 >>> ((1 : Int32).toUInt32 &&& Int32.toUInt32 31)).toInt32 &&& (1431655765 : Int32))).toUInt32 >>> ((2 : Int32).toUInt32 &&& Int32.toUInt32 31)).toInt32 &&& (858993459 : Int32))).toUInt32 >>> ((4 : Int32).toUInt32 &&& Int32.toUInt32 31)).toInt32) &&& (252645135 : Int32)).toUInt32 >>> ((8 : Int32).toUInt32 &&& Int32.toUInt32 31)).toInt32).toUInt32 >>> ((16 : Int32).toUInt32 &&& Int32.toUInt32 31)).toInt32) &&& (63 : Int32))]) (μ2 := hE) rfl trivial ?_
  cases h
  exact js_iret hM.1 hp hM.2.2.2.2.2.2.2.1 (by rw [hM.2.2.2.2.2.1]; exact Nat.le_of_ble_eq_true rfl) (by rw [hM.2.2.2.2.2.2.1]; exact Nat.le_of_ble_eq_true rfl) (jat hM.2.1 41 rfl) hq
theorem m_J6_bitCount_0f7a4 (V : jV) (hV : V.1.stackTraces = false) (N : Nat) (a : Int32) (v : Int32) (h : p_J6_bitCount_0f7a4 N a = some v) : jMet V yJ6_bitCount_0f7a4 (jws yJ6_bitCount_0f7a4 cJ6_bitCount_0f7a4 1 (some .int)) ⟨0, 0, 0, 0⟩ true 1 [.int a] hE (fun o ν => o = some (.int v) ∧ ν = hE) (fun _ _ => False) := by
  refine jmk (tb := tbI) (C := kJ6_bitCount_0f7a4) hV rfl (by decide) tbI_ok rfl kJ6_bitCount_0f7a4_ok rfl ?_
  intro X hM _ hp _
  exact t_J6_bitCount_0f7a4 hM hp N a h ⟨rfl, rfl⟩
def p_X3_hasPerson (N : Nat) (G : Nat → Nat → Int32) (a : Int32) : Option (Int32) :=
  if a < 0 then (some (0 : Int32)) else (if (G 0 1) ≤ a then (some (0 : Int32)) else (some (1 : Int32)))
set_option maxHeartbeats 4000000 in
set_option maxRecDepth 100000 in
theorem t_X3_hasPerson {X : jX} {po : Option Value → jH → Prop} {px : String → jH → Prop} {sf : Bool} {B9 : Nat} (hM : jMX X kX3_hasPerson RX3 tbX3 2 ⟨0, 0, 0, 0⟩ (some .boolean) 10) (hp : jPost X sf B9 po px) (N : Nat) (G : Nat → Nat → Int32) (a : Int32) {res : Int32} (h : p_X3_hasPerson N G a = some res) (hq : po (some (.int res)) (hTown G)) : JW X 0 0 0 [some (.ref 0), some (.int a)] [] (hTown G) := by
  unfold p_X3_hasPerson at h
  refine JW.r hM 0 1 (pc2 := 1) (L2 := [some (.ref 0), some (.int a)]) (st2 := [.int a]) (μ2 := (hTown G)) rfl trivial ?_
  refine js_iflt (t := 16) hM.1 (jat hM.2.1 1 rfl) rfl (fun hc2 => ?_) (fun hc2 => ?_)
  · have h := (if_pos hc2).symm.trans h
    refine JW.r hM 8 1 (pc2 := 17) (L2 := [some (.ref 0), some (.int a)]) (st2 := [.int (0 : Int32)]) (μ2 := (hTown G)) rfl trivial ?_
    cases h
    exact js_zret hM.1 hp hM.2.2.2.2.2.2.2.1 rfl (by rw [hM.2.2.2.2.2.1]; exact Nat.le_of_ble_eq_true rfl) (by rw [hM.2.2.2.2.2.2.1]; exact Nat.le_of_ble_eq_true rfl) (jat hM.2.1 9 rfl) hq
  · have h := (if_neg hc2).symm.trans h
    refine JW.r hM 2 3 (pc2 := 9) (L2 := [some (.ref 0), some (.int a)]) (st2 := [.int (G 0 1), .int a]) (μ2 := (hTown G)) rfl trivial ?_
    refine js_icge (t := 16) hM.1 (jat hM.2.1 5 rfl) rfl (fun hc1 => ?_) (fun hc1 => ?_)
    · have h := (if_pos hc1).symm.trans h
      refine JW.r hM 8 1 (pc2 := 17) (L2 := [some (.ref 0), some (.int a)]) (st2 := [.int (0 : Int32)]) (μ2 := (hTown G)) rfl trivial ?_
      cases h
      exact js_zret hM.1 hp hM.2.2.2.2.2.2.2.1 rfl (by rw [hM.2.2.2.2.2.1]; exact Nat.le_of_ble_eq_true rfl) (by rw [hM.2.2.2.2.2.2.1]; exact Nat.le_of_ble_eq_true rfl) (jat hM.2.1 9 rfl) hq
    · have h := (if_neg hc1).symm.trans h
      refine JW.r hM 6 2 (pc2 := 17) (L2 := [some (.ref 0), some (.int a)]) (st2 := [.int (1 : Int32)]) (μ2 := (hTown G)) rfl trivial ?_
      cases h
      exact js_zret hM.1 hp hM.2.2.2.2.2.2.2.1 rfl (by rw [hM.2.2.2.2.2.1]; exact Nat.le_of_ble_eq_true rfl) (by rw [hM.2.2.2.2.2.2.1]; exact Nat.le_of_ble_eq_true rfl) (jat hM.2.1 9 rfl) hq
theorem m_X3_hasPerson (V : jV) (hV : V.1.stackTraces = false) (N : Nat) (G : Nat → Nat → Int32) (a : Int32) (v : Int32) (h : p_X3_hasPerson N G a = some v) : jMet V yX3_hasPerson (jws yX3_hasPerson cX3_hasPerson 2 (some .boolean)) ⟨0, 0, 0, 0⟩ true 1 [.ref 0, .int a] (hTown G) (fun o ν => o = some (.int v) ∧ ν = (hTown G)) (fun _ _ => False) := by
  refine jmk (tb := tbX3) (C := kX3_hasPerson) hV rfl (by decide) tbX3_ok rfl kX3_hasPerson_ok rfl ?_
  intro X hM _ hp _
  exact t_X3_hasPerson hM hp N G a h ⟨rfl, rfl⟩
def p_X3_hasThing (N : Nat) (G : Nat → Nat → Int32) (a : Int32) : Option (Int32) :=
  if a < 0 then (some (0 : Int32)) else (if (G 0 2) ≤ a then (some (0 : Int32)) else (some (1 : Int32)))
set_option maxHeartbeats 4000000 in
set_option maxRecDepth 100000 in
theorem t_X3_hasThing {X : jX} {po : Option Value → jH → Prop} {px : String → jH → Prop} {sf : Bool} {B9 : Nat} (hM : jMX X kX3_hasThing RX3 tbX3 2 ⟨0, 0, 0, 0⟩ (some .boolean) 10) (hp : jPost X sf B9 po px) (N : Nat) (G : Nat → Nat → Int32) (a : Int32) {res : Int32} (h : p_X3_hasThing N G a = some res) (hq : po (some (.int res)) (hTown G)) : JW X 0 0 0 [some (.ref 0), some (.int a)] [] (hTown G) := by
  unfold p_X3_hasThing at h
  refine JW.r hM 0 1 (pc2 := 1) (L2 := [some (.ref 0), some (.int a)]) (st2 := [.int a]) (μ2 := (hTown G)) rfl trivial ?_
  refine js_iflt (t := 16) hM.1 (jat hM.2.1 1 rfl) rfl (fun hc2 => ?_) (fun hc2 => ?_)
  · have h := (if_pos hc2).symm.trans h
    refine JW.r hM 8 1 (pc2 := 17) (L2 := [some (.ref 0), some (.int a)]) (st2 := [.int (0 : Int32)]) (μ2 := (hTown G)) rfl trivial ?_
    cases h
    exact js_zret hM.1 hp hM.2.2.2.2.2.2.2.1 rfl (by rw [hM.2.2.2.2.2.1]; exact Nat.le_of_ble_eq_true rfl) (by rw [hM.2.2.2.2.2.2.1]; exact Nat.le_of_ble_eq_true rfl) (jat hM.2.1 9 rfl) hq
  · have h := (if_neg hc2).symm.trans h
    refine JW.r hM 2 3 (pc2 := 9) (L2 := [some (.ref 0), some (.int a)]) (st2 := [.int (G 0 2), .int a]) (μ2 := (hTown G)) rfl trivial ?_
    refine js_icge (t := 16) hM.1 (jat hM.2.1 5 rfl) rfl (fun hc1 => ?_) (fun hc1 => ?_)
    · have h := (if_pos hc1).symm.trans h
      refine JW.r hM 8 1 (pc2 := 17) (L2 := [some (.ref 0), some (.int a)]) (st2 := [.int (0 : Int32)]) (μ2 := (hTown G)) rfl trivial ?_
      cases h
      exact js_zret hM.1 hp hM.2.2.2.2.2.2.2.1 rfl (by rw [hM.2.2.2.2.2.1]; exact Nat.le_of_ble_eq_true rfl) (by rw [hM.2.2.2.2.2.2.1]; exact Nat.le_of_ble_eq_true rfl) (jat hM.2.1 9 rfl) hq
    · have h := (if_neg hc1).symm.trans h
      refine JW.r hM 6 2 (pc2 := 17) (L2 := [some (.ref 0), some (.int a)]) (st2 := [.int (1 : Int32)]) (μ2 := (hTown G)) rfl trivial ?_
      cases h
      exact js_zret hM.1 hp hM.2.2.2.2.2.2.2.1 rfl (by rw [hM.2.2.2.2.2.1]; exact Nat.le_of_ble_eq_true rfl) (by rw [hM.2.2.2.2.2.2.1]; exact Nat.le_of_ble_eq_true rfl) (jat hM.2.1 9 rfl) hq
theorem m_X3_hasThing (V : jV) (hV : V.1.stackTraces = false) (N : Nat) (G : Nat → Nat → Int32) (a : Int32) (v : Int32) (h : p_X3_hasThing N G a = some v) : jMet V yX3_hasThing (jws yX3_hasThing cX3_hasThing 2 (some .boolean)) ⟨0, 0, 0, 0⟩ true 1 [.ref 0, .int a] (hTown G) (fun o ν => o = some (.int v) ∧ ν = (hTown G)) (fun _ _ => False) := by
  refine jmk (tb := tbX3) (C := kX3_hasThing) hV rfl (by decide) tbX3_ok rfl kX3_hasThing_ok rfl ?_
  intro X hM _ hp _
  exact t_X3_hasThing hM hp N G a h ⟨rfl, rfl⟩
def p_X3_hasDeed (N : Nat) (G : Nat → Nat → Int32) (a : Int32) : Option (Int32) :=
  if a < 0 then (some (0 : Int32)) else (if (G 0 7) ≤ a then (some (0 : Int32)) else (some (1 : Int32)))
set_option maxHeartbeats 4000000 in
set_option maxRecDepth 100000 in
theorem t_X3_hasDeed {X : jX} {po : Option Value → jH → Prop} {px : String → jH → Prop} {sf : Bool} {B9 : Nat} (hM : jMX X kX3_hasDeed RX3 tbX3 2 ⟨0, 0, 0, 0⟩ (some .boolean) 10) (hp : jPost X sf B9 po px) (N : Nat) (G : Nat → Nat → Int32) (a : Int32) {res : Int32} (h : p_X3_hasDeed N G a = some res) (hq : po (some (.int res)) (hTown G)) : JW X 0 0 0 [some (.ref 0), some (.int a)] [] (hTown G) := by
  unfold p_X3_hasDeed at h
  refine JW.r hM 0 1 (pc2 := 1) (L2 := [some (.ref 0), some (.int a)]) (st2 := [.int a]) (μ2 := (hTown G)) rfl trivial ?_
  refine js_iflt (t := 16) hM.1 (jat hM.2.1 1 rfl) rfl (fun hc2 => ?_) (fun hc2 => ?_)
  · have h := (if_pos hc2).symm.trans h
    refine JW.r hM 8 1 (pc2 := 17) (L2 := [some (.ref 0), some (.int a)]) (st2 := [.int (0 : Int32)]) (μ2 := (hTown G)) rfl trivial ?_
    cases h
    exact js_zret hM.1 hp hM.2.2.2.2.2.2.2.1 rfl (by rw [hM.2.2.2.2.2.1]; exact Nat.le_of_ble_eq_true rfl) (by rw [hM.2.2.2.2.2.2.1]; exact Nat.le_of_ble_eq_true rfl) (jat hM.2.1 9 rfl) hq
  · have h := (if_neg hc2).symm.trans h
    refine JW.r hM 2 3 (pc2 := 9) (L2 := [some (.ref 0), some (.int a)]) (st2 := [.int (G 0 7), .int a]) (μ2 := (hTown G)) rfl trivial ?_
    refine js_icge (t := 16) hM.1 (jat hM.2.1 5 rfl) rfl (fun hc1 => ?_) (fun hc1 => ?_)
    · have h := (if_pos hc1).symm.trans h
      refine JW.r hM 8 1 (pc2 := 17) (L2 := [some (.ref 0), some (.int a)]) (st2 := [.int (0 : Int32)]) (μ2 := (hTown G)) rfl trivial ?_
      cases h
      exact js_zret hM.1 hp hM.2.2.2.2.2.2.2.1 rfl (by rw [hM.2.2.2.2.2.1]; exact Nat.le_of_ble_eq_true rfl) (by rw [hM.2.2.2.2.2.2.1]; exact Nat.le_of_ble_eq_true rfl) (jat hM.2.1 9 rfl) hq
    · have h := (if_neg hc1).symm.trans h
      refine JW.r hM 6 2 (pc2 := 17) (L2 := [some (.ref 0), some (.int a)]) (st2 := [.int (1 : Int32)]) (μ2 := (hTown G)) rfl trivial ?_
      cases h
      exact js_zret hM.1 hp hM.2.2.2.2.2.2.2.1 rfl (by rw [hM.2.2.2.2.2.1]; exact Nat.le_of_ble_eq_true rfl) (by rw [hM.2.2.2.2.2.2.1]; exact Nat.le_of_ble_eq_true rfl) (jat hM.2.1 9 rfl) hq
theorem m_X3_hasDeed (V : jV) (hV : V.1.stackTraces = false) (N : Nat) (G : Nat → Nat → Int32) (a : Int32) (v : Int32) (h : p_X3_hasDeed N G a = some v) : jMet V yX3_hasDeed (jws yX3_hasDeed cX3_hasDeed 2 (some .boolean)) ⟨0, 0, 0, 0⟩ true 1 [.ref 0, .int a] (hTown G) (fun o ν => o = some (.int v) ∧ ν = (hTown G)) (fun _ _ => False) := by
  refine jmk (tb := tbX3) (C := kX3_hasDeed) hV rfl (by decide) tbX3_ok rfl kX3_hasDeed_ok rfl ?_
  intro X hM _ hp _
  exact t_X3_hasDeed hM hp N G a h ⟨rfl, rfl⟩
def p_X3_hasRung (N : Nat) (G : Nat → Nat → Int32) : Option (Int32) :=
  if (G 0 6) < (G 0 5) then (some (0 : Int32)) else (some (1 : Int32))
set_option maxHeartbeats 4000000 in
set_option maxRecDepth 100000 in
theorem t_X3_hasRung {X : jX} {po : Option Value → jH → Prop} {px : String → jH → Prop} {sf : Bool} {B9 : Nat} (hM : jMX X kX3_hasRung RX3 tbX3 1 ⟨0, 0, 0, 0⟩ (some .boolean) 10) (hp : jPost X sf B9 po px) (N : Nat) (G : Nat → Nat → Int32) {res : Int32} (h : p_X3_hasRung N G = some res) (hq : po (some (.int res)) (hTown G)) : JW X 0 0 0 [some (.ref 0)] [] (hTown G) := by
  unfold p_X3_hasRung at h
  refine JW.r hM 0 4 (pc2 := 8) (L2 := [some (.ref 0)]) (st2 := [.int (G 0 5), .int (G 0 6)]) (μ2 := (hTown G)) rfl trivial ?_
  refine js_iclt (t := 15) hM.1 (jat hM.2.1 4 rfl) rfl (fun hc1 => ?_) (fun hc1 => ?_)
  · have h := (if_pos hc1).symm.trans h
    refine JW.r hM 7 1 (pc2 := 16) (L2 := [some (.ref 0)]) (st2 := [.int (0 : Int32)]) (μ2 := (hTown G)) rfl trivial ?_
    cases h
    exact js_zret hM.1 hp hM.2.2.2.2.2.2.2.1 rfl (by rw [hM.2.2.2.2.2.1]; exact Nat.le_of_ble_eq_true rfl) (by rw [hM.2.2.2.2.2.2.1]; exact Nat.le_of_ble_eq_true rfl) (jat hM.2.1 8 rfl) hq
  · have h := (if_neg hc1).symm.trans h
    refine JW.r hM 5 2 (pc2 := 16) (L2 := [some (.ref 0)]) (st2 := [.int (1 : Int32)]) (μ2 := (hTown G)) rfl trivial ?_
    cases h
    exact js_zret hM.1 hp hM.2.2.2.2.2.2.2.1 rfl (by rw [hM.2.2.2.2.2.1]; exact Nat.le_of_ble_eq_true rfl) (by rw [hM.2.2.2.2.2.2.1]; exact Nat.le_of_ble_eq_true rfl) (jat hM.2.1 8 rfl) hq
theorem m_X3_hasRung (V : jV) (hV : V.1.stackTraces = false) (N : Nat) (G : Nat → Nat → Int32) (v : Int32) (h : p_X3_hasRung N G = some v) : jMet V yX3_hasRung (jws yX3_hasRung cX3_hasRung 1 (some .boolean)) ⟨0, 0, 0, 0⟩ true 1 [.ref 0] (hTown G) (fun o ν => o = some (.int v) ∧ ν = (hTown G)) (fun _ _ => False) := by
  refine jmk (tb := tbX3) (C := kX3_hasRung) hV rfl (by decide) tbX3_ok rfl kX3_hasRung_ok rfl ?_
  intro X hM _ hp _
  exact t_X3_hasRung hM hp N G h ⟨rfl, rfl⟩
def p_X3_isEaten (N : Nat) (G : Nat → Nat → Int32) (a : Int32) : Option (Int32) :=
  if (((G 0 3) >>> (a &&& 31)) &&& (1 : Int32)) = (1 : Int32) then (some (1 : Int32)) else (some (0 : Int32))
set_option maxHeartbeats 4000000 in
set_option maxRecDepth 100000 in
theorem t_X3_isEaten {X : jX} {po : Option Value → jH → Prop} {px : String → jH → Prop} {sf : Bool} {B9 : Nat} (hM : jMX X kX3_isEaten RX3 tbX3 2 ⟨0, 0, 0, 0⟩ (some .boolean) 10) (hp : jPost X sf B9 po px) (N : Nat) (G : Nat → Nat → Int32) (a : Int32) {res : Int32} (h : p_X3_isEaten N G a = some res) (hq : po (some (.int res)) (hTown G)) : JW X 0 0 0 [some (.ref 0), some (.int a)] [] (hTown G) := by
  unfold p_X3_isEaten at h
  refine JW.r hM 0 7 (pc2 := 9) (L2 := [some (.ref 0), some (.int a)]) (st2 := [.int (1 : Int32), .int (((G 0 3) >>> (a &&& 31)) &&& (1 : Int32))]) (μ2 := (hTown G)) rfl trivial ?_
  refine js_icne (t := 16) hM.1 (jat hM.2.1 7 rfl) rfl (fun hc1 => ?_) (fun hc1 => ?_)
  · have h := (if_neg hc1).symm.trans h
    refine JW.r hM 10 1 (pc2 := 17) (L2 := [some (.ref 0), some (.int a)]) (st2 := [.int (0 : Int32)]) (μ2 := (hTown G)) rfl trivial ?_
    cases h
    exact js_zret hM.1 hp hM.2.2.2.2.2.2.2.1 rfl (by rw [hM.2.2.2.2.2.1]; exact Nat.le_of_ble_eq_true rfl) (by rw [hM.2.2.2.2.2.2.1]; exact Nat.le_of_ble_eq_true rfl) (jat hM.2.1 11 rfl) hq
  · have h := (if_pos hc1).symm.trans h
    refine JW.r hM 8 2 (pc2 := 17) (L2 := [some (.ref 0), some (.int a)]) (st2 := [.int (1 : Int32)]) (μ2 := (hTown G)) rfl trivial ?_
    cases h
    exact js_zret hM.1 hp hM.2.2.2.2.2.2.2.1 rfl (by rw [hM.2.2.2.2.2.1]; exact Nat.le_of_ble_eq_true rfl) (by rw [hM.2.2.2.2.2.2.1]; exact Nat.le_of_ble_eq_true rfl) (jat hM.2.1 11 rfl) hq
theorem m_X3_isEaten (V : jV) (hV : V.1.stackTraces = false) (N : Nat) (G : Nat → Nat → Int32) (a : Int32) (v : Int32) (h : p_X3_isEaten N G a = some v) : jMet V yX3_isEaten (jws yX3_isEaten cX3_isEaten 2 (some .boolean)) ⟨0, 0, 0, 0⟩ true 1 [.ref 0, .int a] (hTown G) (fun o ν => o = some (.int v) ∧ ν = (hTown G)) (fun _ _ => False) := by
  refine jmk (tb := tbX3) (C := kX3_isEaten) hV rfl (by decide) tbX3_ok rfl kX3_isEaten_ok rfl ?_
  intro X hM _ hp _
  exact t_X3_isEaten hM hp N G a h ⟨rfl, rfl⟩
def p_X3_stands (N : Nat) (G : Nat → Nat → Int32) (a : Int32) : Option (Int32) :=
  if (((G 0 8) >>> (a &&& 31)) &&& (1 : Int32)) = (1 : Int32) then (some (1 : Int32)) else (some (0 : Int32))
set_option maxHeartbeats 4000000 in
set_option maxRecDepth 100000 in
theorem t_X3_stands {X : jX} {po : Option Value → jH → Prop} {px : String → jH → Prop} {sf : Bool} {B9 : Nat} (hM : jMX X kX3_stands RX3 tbX3 2 ⟨0, 0, 0, 0⟩ (some .boolean) 10) (hp : jPost X sf B9 po px) (N : Nat) (G : Nat → Nat → Int32) (a : Int32) {res : Int32} (h : p_X3_stands N G a = some res) (hq : po (some (.int res)) (hTown G)) : JW X 0 0 0 [some (.ref 0), some (.int a)] [] (hTown G) := by
  unfold p_X3_stands at h
  refine JW.r hM 0 7 (pc2 := 9) (L2 := [some (.ref 0), some (.int a)]) (st2 := [.int (1 : Int32), .int (((G 0 8) >>> (a &&& 31)) &&& (1 : Int32))]) (μ2 := (hTown G)) rfl trivial ?_
  refine js_icne (t := 16) hM.1 (jat hM.2.1 7 rfl) rfl (fun hc1 => ?_) (fun hc1 => ?_)
  · have h := (if_neg hc1).symm.trans h
    refine JW.r hM 10 1 (pc2 := 17) (L2 := [some (.ref 0), some (.int a)]) (st2 := [.int (0 : Int32)]) (μ2 := (hTown G)) rfl trivial ?_
    cases h
    exact js_zret hM.1 hp hM.2.2.2.2.2.2.2.1 rfl (by rw [hM.2.2.2.2.2.1]; exact Nat.le_of_ble_eq_true rfl) (by rw [hM.2.2.2.2.2.2.1]; exact Nat.le_of_ble_eq_true rfl) (jat hM.2.1 11 rfl) hq
  · have h := (if_pos hc1).symm.trans h
    refine JW.r hM 8 2 (pc2 := 17) (L2 := [some (.ref 0), some (.int a)]) (st2 := [.int (1 : Int32)]) (μ2 := (hTown G)) rfl trivial ?_
    cases h
    exact js_zret hM.1 hp hM.2.2.2.2.2.2.2.1 rfl (by rw [hM.2.2.2.2.2.1]; exact Nat.le_of_ble_eq_true rfl) (by rw [hM.2.2.2.2.2.2.1]; exact Nat.le_of_ble_eq_true rfl) (jat hM.2.1 11 rfl) hq
theorem m_X3_stands (V : jV) (hV : V.1.stackTraces = false) (N : Nat) (G : Nat → Nat → Int32) (a : Int32) (v : Int32) (h : p_X3_stands N G a = some v) : jMet V yX3_stands (jws yX3_stands cX3_stands 2 (some .boolean)) ⟨0, 0, 0, 0⟩ true 1 [.ref 0, .int a] (hTown G) (fun o ν => o = some (.int v) ∧ ν = (hTown G)) (fun _ _ => False) := by
  refine jmk (tb := tbX3) (C := kX3_stands) hV rfl (by decide) tbX3_ok rfl kX3_stands_ok rfl ?_
  intro X hM _ hp _
  exact t_X3_stands hM hp N G a h ⟨rfl, rfl⟩
def p_X3_isOpen (N : Nat) (G : Nat → Nat → Int32) (a : Int32) : Option (Int32) :=
  (p_X3_hasRung N G).bind (fun v2 => if v2 = 0 then ((p_X3_stands N G a).bind (fun v4 => if v4 = 0 then (some (0 : Int32)) else (if jin a 30 = true then (p_X3_isEaten N G (G 4 a.toNatClampNeg)).bind (fun v7 => if v7 = 0 then (some (1 : Int32)) else (some (0 : Int32))) else none))) else (some (0 : Int32)))
set_option maxHeartbeats 4000000 in
set_option maxRecDepth 100000 in
theorem t_X3_isOpen {X : jX} {po : Option Value → jH → Prop} {px : String → jH → Prop} {sf : Bool} {B9 : Nat} (hM : jMX X kX3_isOpen RX3 tbX3 2 ⟨1, 0, 0, 21⟩ (some .boolean) 10) (hp : jPost X sf B9 po px) (N : Nat) (G : Nat → Nat → Int32) (a : Int32) {res : Int32} (h : p_X3_isOpen N G a = some res) (hq : po (some (.int res)) (hTown G)) : JW X 0 0 0 [some (.ref 0), some (.int a)] [] (hTown G) := by
  unfold p_X3_isOpen at h
  refine JW.r hM 0 1 (pc2 := 1) (L2 := [some (.ref 0), some (.int a)]) (st2 := [.ref 0]) (μ2 := (hTown G)) rfl trivial ?_
  obtain ⟨v2, hv1, h⟩ := jbd h
  refine JW.cV (v := some (.int v2)) hM (m_X3_hasRung (jVX X) hM.1.2.2.2.2.2.2.2.2.2.1 N G v2 hv1) (sb_Town_Town_0 G) (bi_Town_Town_0 G) rfl rfl rfl kc_X3_76 rfl rfl rfl rfl rfl (jat hM.2.1 1 rfl) (st := []) rfl ?_
  show JW X 0 0 4 [some (.ref 0), some (.int a)] [.int v2] (hTown G)
  refine js_ifne (t := 32) hM.1 (jat hM.2.1 2 rfl) rfl (fun hc10 => ?_) (fun hc10 => ?_)
  · have h := (if_neg hc10).symm.trans h
    refine JW.r hM 16 1 (pc2 := 33) (L2 := [some (.ref 0), some (.int a)]) (st2 := [.int (0 : Int32)]) (μ2 := (hTown G)) rfl trivial ?_
    cases h
    exact js_zret hM.1 hp hM.2.2.2.2.2.2.2.1 rfl (by rw [hM.2.2.2.2.2.1]; exact Nat.le_of_ble_eq_true rfl) (by rw [hM.2.2.2.2.2.2.1]; exact Nat.le_of_ble_eq_true rfl) (jat hM.2.1 17 rfl) hq
  · have h := (if_pos hc10).symm.trans h
    refine JW.r hM 3 2 (pc2 := 9) (L2 := [some (.ref 0), some (.int a)]) (st2 := [.int a, .ref 0]) (μ2 := (hTown G)) rfl trivial ?_
    obtain ⟨v4, hv3, h⟩ := jbd h
    refine JW.cV (v := some (.int v4)) hM (m_X3_stands (jVX X) hM.1.2.2.2.2.2.2.2.2.2.1 N G a v4 hv3) (sb_Town_Town_0 G) (bi_Town_Town_0 G) rfl rfl rfl kc_X3_80 rfl rfl rfl rfl rfl (jat hM.2.1 5 rfl) (st := []) rfl ?_
    show JW X 0 0 12 [some (.ref 0), some (.int a)] [.int v4] (hTown G)
    refine js_ifeq (t := 32) hM.1 (jat hM.2.1 6 rfl) rfl (fun hc9 => ?_) (fun hc9 => ?_)
    · have h := (if_pos hc9).symm.trans h
      refine JW.r hM 16 1 (pc2 := 33) (L2 := [some (.ref 0), some (.int a)]) (st2 := [.int (0 : Int32)]) (μ2 := (hTown G)) rfl trivial ?_
      cases h
      exact js_zret hM.1 hp hM.2.2.2.2.2.2.2.1 rfl (by rw [hM.2.2.2.2.2.1]; exact Nat.le_of_ble_eq_true rfl) (by rw [hM.2.2.2.2.2.2.1]; exact Nat.le_of_ble_eq_true rfl) (jat hM.2.1 17 rfl) hq
    · have h := (if_neg hc9).symm.trans h
      obtain ⟨g5, h⟩ := jg h
      refine JW.r hM 7 5 (pc2 := 22) (L2 := [some (.ref 0), some (.int a)]) (st2 := [.int (G 4 a.toNatClampNeg), .ref 0]) (μ2 := (hTown G)) rfl ⟨g5, trivial⟩ ?_
      obtain ⟨v7, hv6, h⟩ := jbd h
      refine JW.cV (v := some (.int v7)) hM (m_X3_isEaten (jVX X) hM.1.2.2.2.2.2.2.2.2.2.1 N G (G 4 a.toNatClampNeg) v7 hv6) (sb_Town_Town_0 G) (bi_Town_Town_0 G) rfl rfl rfl kc_X3_84 rfl rfl rfl rfl rfl (jat hM.2.1 12 rfl) (st := []) rfl ?_
      show JW X 0 0 25 [some (.ref 0), some (.int a)] [.int v7] (hTown G)
      refine js_ifne (t := 32) hM.1 (jat hM.2.1 13 rfl) rfl (fun hc8 => ?_) (fun hc8 => ?_)
      · have h := (if_neg hc8).symm.trans h
        refine JW.r hM 16 1 (pc2 := 33) (L2 := [some (.ref 0), some (.int a)]) (st2 := [.int (0 : Int32)]) (μ2 := (hTown G)) rfl trivial ?_
        cases h
        exact js_zret hM.1 hp hM.2.2.2.2.2.2.2.1 rfl (by rw [hM.2.2.2.2.2.1]; exact Nat.le_of_ble_eq_true rfl) (by rw [hM.2.2.2.2.2.2.1]; exact Nat.le_of_ble_eq_true rfl) (jat hM.2.1 17 rfl) hq
      · have h := (if_pos hc8).symm.trans h
        refine JW.r hM 14 2 (pc2 := 33) (L2 := [some (.ref 0), some (.int a)]) (st2 := [.int (1 : Int32)]) (μ2 := (hTown G)) rfl trivial ?_
        cases h
        exact js_zret hM.1 hp hM.2.2.2.2.2.2.2.1 rfl (by rw [hM.2.2.2.2.2.1]; exact Nat.le_of_ble_eq_true rfl) (by rw [hM.2.2.2.2.2.2.1]; exact Nat.le_of_ble_eq_true rfl) (jat hM.2.1 17 rfl) hq
theorem m_X3_isOpen (V : jV) (hV : V.1.stackTraces = false) (N : Nat) (G : Nat → Nat → Int32) (a : Int32) (v : Int32) (h : p_X3_isOpen N G a = some v) : jMet V yX3_isOpen (jws yX3_isOpen cX3_isOpen 2 (some .boolean)) ⟨1, 0, 0, 21⟩ true 1 [.ref 0, .int a] (hTown G) (fun o ν => o = some (.int v) ∧ ν = (hTown G)) (fun _ _ => False) := by
  refine jmk (tb := tbX3) (C := kX3_isOpen) hV rfl (by decide) tbX3_ok rfl kX3_isOpen_ok rfl ?_
  intro X hM _ hp _
  exact t_X3_isOpen hM hp N G a h ⟨rfl, rfl⟩
def p_X3_isOf (N : Nat) (G : Nat → Nat → Int32) (a : Int32) (b : Int32) : Option (Int32) :=
  if jin a 30 = true then if (G 5 a.toNatClampNeg) = b then (some (1 : Int32)) else (if jin a 30 = true then if (G 6 a.toNatClampNeg) = b then (some (1 : Int32)) else (some (0 : Int32)) else none) else none
set_option maxHeartbeats 4000000 in
set_option maxRecDepth 100000 in
theorem t_X3_isOf {X : jX} {po : Option Value → jH → Prop} {px : String → jH → Prop} {sf : Bool} {B9 : Nat} (hM : jMX X kX3_isOf RX3 tbX3 3 ⟨0, 0, 0, 0⟩ (some .boolean) 10) (hp : jPost X sf B9 po px) (N : Nat) (G : Nat → Nat → Int32) (a : Int32) (b : Int32) {res : Int32} (h : p_X3_isOf N G a b = some res) (hq : po (some (.int res)) (hTown G)) : JW X 0 0 0 [some (.ref 0), some (.int a), some (.int b)] [] (hTown G) := by
  unfold p_X3_isOf at h
  obtain ⟨g1, h⟩ := jg h
  refine JW.r hM 0 5 (pc2 := 7) (L2 := [some (.ref 0), some (.int a), some (.int b)]) (st2 := [.int b, .int (G 5 a.toNatClampNeg)]) (μ2 := (hTown G)) rfl ⟨g1, trivial⟩ ?_
  refine js_iceq (t := 20) hM.1 (jat hM.2.1 5 rfl) rfl (fun hc4 => ?_) (fun hc4 => ?_)
  · have h := (if_pos hc4).symm.trans h
    refine JW.r hM 12 2 (pc2 := 25) (L2 := [some (.ref 0), some (.int a), some (.int b)]) (st2 := [.int (1 : Int32)]) (μ2 := (hTown G)) rfl trivial ?_
    cases h
    exact js_zret hM.1 hp hM.2.2.2.2.2.2.2.1 rfl (by rw [hM.2.2.2.2.2.1]; exact Nat.le_of_ble_eq_true rfl) (by rw [hM.2.2.2.2.2.2.1]; exact Nat.le_of_ble_eq_true rfl) (jat hM.2.1 15 rfl) hq
  · have h := (if_neg hc4).symm.trans h
    obtain ⟨g2, h⟩ := jg h
    refine JW.r hM 6 5 (pc2 := 17) (L2 := [some (.ref 0), some (.int a), some (.int b)]) (st2 := [.int b, .int (G 6 a.toNatClampNeg)]) (μ2 := (hTown G)) rfl ⟨g2, trivial⟩ ?_
    refine js_icne (t := 24) hM.1 (jat hM.2.1 11 rfl) rfl (fun hc3 => ?_) (fun hc3 => ?_)
    · have h := (if_neg hc3).symm.trans h
      refine JW.r hM 14 1 (pc2 := 25) (L2 := [some (.ref 0), some (.int a), some (.int b)]) (st2 := [.int (0 : Int32)]) (μ2 := (hTown G)) rfl trivial ?_
      cases h
      exact js_zret hM.1 hp hM.2.2.2.2.2.2.2.1 rfl (by rw [hM.2.2.2.2.2.1]; exact Nat.le_of_ble_eq_true rfl) (by rw [hM.2.2.2.2.2.2.1]; exact Nat.le_of_ble_eq_true rfl) (jat hM.2.1 15 rfl) hq
    · have h := (if_pos hc3).symm.trans h
      refine JW.r hM 12 2 (pc2 := 25) (L2 := [some (.ref 0), some (.int a), some (.int b)]) (st2 := [.int (1 : Int32)]) (μ2 := (hTown G)) rfl trivial ?_
      cases h
      exact js_zret hM.1 hp hM.2.2.2.2.2.2.2.1 rfl (by rw [hM.2.2.2.2.2.1]; exact Nat.le_of_ble_eq_true rfl) (by rw [hM.2.2.2.2.2.2.1]; exact Nat.le_of_ble_eq_true rfl) (jat hM.2.1 15 rfl) hq
theorem m_X3_isOf (V : jV) (hV : V.1.stackTraces = false) (N : Nat) (G : Nat → Nat → Int32) (a : Int32) (b : Int32) (v : Int32) (h : p_X3_isOf N G a b = some v) : jMet V yX3_isOf (jws yX3_isOf cX3_isOf 3 (some .boolean)) ⟨0, 0, 0, 0⟩ true 1 [.ref 0, .int a, .int b] (hTown G) (fun o ν => o = some (.int v) ∧ ν = (hTown G)) (fun _ _ => False) := by
  refine jmk (tb := tbX3) (C := kX3_isOf) hV rfl (by decide) tbX3_ok rfl kX3_isOf_ok rfl ?_
  intro X hM _ hp _
  exact t_X3_isOf hM hp N G a b h ⟨rfl, rfl⟩
def p_X3_sideOf (N : Nat) (G : Nat → Nat → Int32) (a : Int32) (b : Int32) : Option (Int32) :=
  if b = 0 then (if jin a 30 = true then some (G 5 a.toNatClampNeg) else none) else (if jin a 30 = true then some (G 6 a.toNatClampNeg) else none)
set_option maxHeartbeats 4000000 in
set_option maxRecDepth 100000 in
theorem t_X3_sideOf {X : jX} {po : Option Value → jH → Prop} {px : String → jH → Prop} {sf : Bool} {B9 : Nat} (hM : jMX X kX3_sideOf RX3 tbX3 3 ⟨0, 0, 0, 0⟩ (some .int) 10) (hp : jPost X sf B9 po px) (N : Nat) (G : Nat → Nat → Int32) (a : Int32) (b : Int32) {res : Int32} (h : p_X3_sideOf N G a b = some res) (hq : po (some (.int res)) (hTown G)) : JW X 0 0 0 [some (.ref 0), some (.int a), some (.int b)] [] (hTown G) := by
  unfold p_X3_sideOf at h
  refine JW.r hM 0 1 (pc2 := 1) (L2 := [some (.ref 0), some (.int a), some (.int b)]) (st2 := [.int b]) (μ2 := (hTown G)) rfl trivial ?_
  refine js_ifne (t := 13) hM.1 (jat hM.2.1 1 rfl) rfl (fun hc3 => ?_) (fun hc3 => ?_)
  · have h := (if_neg hc3).symm.trans h
    obtain ⟨g1, h⟩ := jg h
    refine JW.r hM 7 4 (pc2 := 19) (L2 := [some (.ref 0), some (.int a), some (.int b)]) (st2 := [.int (G 6 a.toNatClampNeg)]) (μ2 := (hTown G)) rfl ⟨g1, trivial⟩ ?_
    cases h
    exact js_iret hM.1 hp hM.2.2.2.2.2.2.2.1 (by rw [hM.2.2.2.2.2.1]; exact Nat.le_of_ble_eq_true rfl) (by rw [hM.2.2.2.2.2.2.1]; exact Nat.le_of_ble_eq_true rfl) (jat hM.2.1 11 rfl) hq
  · have h := (if_pos hc3).symm.trans h
    obtain ⟨g2, h⟩ := jg h
    refine JW.r hM 2 5 (pc2 := 19) (L2 := [some (.ref 0), some (.int a), some (.int b)]) (st2 := [.int (G 5 a.toNatClampNeg)]) (μ2 := (hTown G)) rfl ⟨g2, trivial⟩ ?_
    cases h
    exact js_iret hM.1 hp hM.2.2.2.2.2.2.2.1 (by rw [hM.2.2.2.2.2.1]; exact Nat.le_of_ble_eq_true rfl) (by rw [hM.2.2.2.2.2.2.1]; exact Nat.le_of_ble_eq_true rfl) (jat hM.2.1 11 rfl) hq
theorem m_X3_sideOf (V : jV) (hV : V.1.stackTraces = false) (N : Nat) (G : Nat → Nat → Int32) (a : Int32) (b : Int32) (v : Int32) (h : p_X3_sideOf N G a b = some v) : jMet V yX3_sideOf (jws yX3_sideOf cX3_sideOf 3 (some .int)) ⟨0, 0, 0, 0⟩ true 1 [.ref 0, .int a, .int b] (hTown G) (fun o ν => o = some (.int v) ∧ ν = (hTown G)) (fun _ _ => False) := by
  refine jmk (tb := tbX3) (C := kX3_sideOf) hV rfl (by decide) tbX3_ok rfl kX3_sideOf_ok rfl ?_
  intro X hM _ hp _
  exact t_X3_sideOf hM hp N G a b h ⟨rfl, rfl⟩
def p_X3_openBits_b26 (N : Nat) (G : Nat → Nat → Int32) (rv4 : Int32 → Int32 → Option (Int32)) (x1 : Int32) (x2 : Int32) : Option (Int32) :=
  rv4 x1 (x2 + 1)
def p_X3_openBits_b4 (N : Nat) (G : Nat → Nat → Int32) : Nat → (Int32) → (Int32) → Option (Int32)
  | 0, _, _ => none
  | n + 1, x1, x2 => if (G 0 7) ≤ x2 then (some x1) else ((p_X3_isOpen N G x2).bind (fun v2 => if v2 = 0 then (p_X3_openBits_b26 N G (p_X3_openBits_b4 N G n) x1 x2) else (p_X3_openBits_b26 N G (p_X3_openBits_b4 N G n) (x1 ||| ((1 : Int32) <<< (x2 &&& 31))) x2)))
def p_X3_openBits (N : Nat) (G : Nat → Nat → Int32) : Option (Int32) :=
  p_X3_openBits_b4 N G N (0 : Int32) (0 : Int32)
set_option maxHeartbeats 4000000 in
set_option maxRecDepth 100000 in
theorem t_X3_openBits_b26 {X : jX} {po : Option Value → jH → Prop} {px : String → jH → Prop} {sf : Bool} {B9 : Nat} (hM : jMX X kX3_openBits RX3 tbX3 3 ⟨2, 0, 0, 42⟩ (some .int) 10) (hp : jPost X sf B9 po px) (N : Nat) (G : Nat → Nat → Int32) (rv4 : Int32 → Int32 → Option (Int32)) {res : Int32} (ih4 : ∀ (x1 : Int32) (x2 : Int32), rv4 x1 x2 = some res → JW X 0 0 4 [some (.ref 0), some (.int x1), some (.int x2)] [] (hTown G)) (x1 : Int32) (x2 : Int32) (h : p_X3_openBits_b26 N G rv4 x1 x2 = some res) (hq : po (some (.int res)) (hTown G)) : JW X 0 0 26 [some (.ref 0), some (.int x1), some (.int x2)] [] (hTown G) := by
  unfold p_X3_openBits_b26 at h
  refine JW.r hM 18 2 (pc2 := 4) (L2 := [some (.ref 0), some (.int x1), some (.int (x2 + 1))]) (st2 := []) (μ2 := (hTown G)) rfl trivial ?_
  exact ih4 x1 (x2 + 1) h
set_option maxHeartbeats 4000000 in
set_option maxRecDepth 100000 in
theorem t_X3_openBits_b4 {X : jX} {po : Option Value → jH → Prop} {px : String → jH → Prop} {sf : Bool} {B9 : Nat} (hM : jMX X kX3_openBits RX3 tbX3 3 ⟨2, 0, 0, 42⟩ (some .int) 10) (hp : jPost X sf B9 po px) (N : Nat) (G : Nat → Nat → Int32) {res : Int32} : ∀ (n : Nat) (x1 : Int32) (x2 : Int32) (h : p_X3_openBits_b4 N G n x1 x2 = some res) (hq : po (some (.int res)) (hTown G)), JW X 0 0 4 [some (.ref 0), some (.int x1), some (.int x2)] [] (hTown G) := by
  intro n
  induction n with
  | zero =>
    intro x1 x2 h hq
    cases (show (none : Option (Int32)) = some res from h)
  | succ n ih4 =>
    intro x1 x2 h hq
    have ih4 := fun x1 x2 h9 => ih4 x1 x2 h9 hq
    rw [p_X3_openBits_b4] at h
    refine JW.r hM 4 3 (pc2 := 9) (L2 := [some (.ref 0), some (.int x1), some (.int x2)]) (st2 := [.int (G 0 7), .int x2]) (μ2 := (hTown G)) rfl trivial ?_
    refine js_icge (t := 32) hM.1 (jat hM.2.1 7 rfl) rfl (fun hc4 => ?_) (fun hc4 => ?_)
    · have h := (if_pos hc4).symm.trans h
      refine JW.r hM 20 1 (pc2 := 33) (L2 := [some (.ref 0), some (.int x1), some (.int x2)]) (st2 := [.int x1]) (μ2 := (hTown G)) rfl trivial ?_
      cases h
      exact js_iret hM.1 hp hM.2.2.2.2.2.2.2.1 (by rw [hM.2.2.2.2.2.1]; exact Nat.le_of_ble_eq_true rfl) (by rw [hM.2.2.2.2.2.2.1]; exact Nat.le_of_ble_eq_true rfl) (jat hM.2.1 21 rfl) hq
    · have h := (if_neg hc4).symm.trans h
      refine JW.r hM 8 2 (pc2 := 14) (L2 := [some (.ref 0), some (.int x1), some (.int x2)]) (st2 := [.int x2, .ref 0]) (μ2 := (hTown G)) rfl trivial ?_
      obtain ⟨v2, hv1, h⟩ := jbd h
      refine JW.cV (v := some (.int v2)) hM (m_X3_isOpen (jVX X) hM.1.2.2.2.2.2.2.2.2.2.1 N G x2 v2 hv1) (sb_Town_Town_0 G) (bi_Town_Town_0 G) rfl rfl rfl kc_X3_87 rfl rfl rfl rfl rfl (jat hM.2.1 10 rfl) (st := []) rfl ?_
      show JW X 0 0 17 [some (.ref 0), some (.int x1), some (.int x2)] [.int v2] (hTown G)
      refine js_ifeq (t := 26) hM.1 (jat hM.2.1 11 rfl) rfl (fun hc3 => ?_) (fun hc3 => ?_)
      · have h := (if_pos hc3).symm.trans h
        exact t_X3_openBits_b26 hM hp N G (p_X3_openBits_b4 N G n) ih4 x1 x2 h hq
      · have h := (if_neg hc3).symm.trans h
        refine JW.r hM 12 6 (pc2 := 26) (L2 := [some (.ref 0), some (.int (x1 ||| ((1 : Int32) <<< (x2 &&& 31)))), some (.int x2)]) (st2 := []) (μ2 := (hTown G)) rfl trivial ?_
        exact t_X3_openBits_b26 hM hp N G (p_X3_openBits_b4 N G n) ih4 (x1 ||| ((1 : Int32) <<< (x2 &&& 31))) x2 h hq
set_option maxHeartbeats 4000000 in
set_option maxRecDepth 100000 in
theorem t_X3_openBits {X : jX} {po : Option Value → jH → Prop} {px : String → jH → Prop} {sf : Bool} {B9 : Nat} (hM : jMX X kX3_openBits RX3 tbX3 3 ⟨2, 0, 0, 42⟩ (some .int) 10) (hp : jPost X sf B9 po px) (N : Nat) (G : Nat → Nat → Int32) {res : Int32} (h : p_X3_openBits N G = some res) (hq : po (some (.int res)) (hTown G)) : JW X 0 0 0 [some (.ref 0), none, none] [] (hTown G) := by
  unfold p_X3_openBits at h
  refine JW.r hM 0 4 (pc2 := 4) (L2 := [some (.ref 0), some (.int (0 : Int32)), some (.int (0 : Int32))]) (st2 := []) (μ2 := (hTown G)) rfl trivial ?_
  exact t_X3_openBits_b4 hM hp N G N (0 : Int32) (0 : Int32) h hq
theorem m_X3_openBits (V : jV) (hV : V.1.stackTraces = false) (N : Nat) (G : Nat → Nat → Int32) (v : Int32) (h : p_X3_openBits N G = some v) : jMet V yX3_openBits (jws yX3_openBits cX3_openBits 3 (some .int)) ⟨2, 0, 0, 42⟩ true 1 [.ref 0] (hTown G) (fun o ν => o = some (.int v) ∧ ν = (hTown G)) (fun _ _ => False) := by
  refine jmk (tb := tbX3) (C := kX3_openBits) hV rfl (by decide) tbX3_ok rfl kX3_openBits_ok rfl ?_
  intro X hM _ hp _
  exact t_X3_openBits hM hp N G h ⟨rfl, rfl⟩
def p_X3_worthTo (N : Nat) (G : Nat → Nat → Int32) (a : Int32) (b : Int32) : Option (Int32) :=
  if jin ((a * (6 : Int32)) + b) 60 = true then some (G 3 ((a * (6 : Int32)) + b).toNatClampNeg) else none
set_option maxHeartbeats 4000000 in
set_option maxRecDepth 100000 in
theorem t_X3_worthTo {X : jX} {po : Option Value → jH → Prop} {px : String → jH → Prop} {sf : Bool} {B9 : Nat} (hM : jMX X kX3_worthTo RX3 tbX3 3 ⟨0, 0, 0, 0⟩ (some .int) 10) (hp : jPost X sf B9 po px) (N : Nat) (G : Nat → Nat → Int32) (a : Int32) (b : Int32) {res : Int32} (h : p_X3_worthTo N G a b = some res) (hq : po (some (.int res)) (hTown G)) : JW X 0 0 0 [some (.ref 0), some (.int a), some (.int b)] [] (hTown G) := by
  unfold p_X3_worthTo at h
  obtain ⟨g1, h⟩ := jg h
  refine JW.r hM 0 8 (pc2 := 11) (L2 := [some (.ref 0), some (.int a), some (.int b)]) (st2 := [.int (G 3 ((a * (6 : Int32)) + b).toNatClampNeg)]) (μ2 := (hTown G)) rfl ⟨g1, trivial⟩ ?_
  cases h
  exact js_iret hM.1 hp hM.2.2.2.2.2.2.2.1 (by rw [hM.2.2.2.2.2.1]; exact Nat.le_of_ble_eq_true rfl) (by rw [hM.2.2.2.2.2.2.1]; exact Nat.le_of_ble_eq_true rfl) (jat hM.2.1 8 rfl) hq
theorem m_X3_worthTo (V : jV) (hV : V.1.stackTraces = false) (N : Nat) (G : Nat → Nat → Int32) (a : Int32) (b : Int32) (v : Int32) (h : p_X3_worthTo N G a b = some v) : jMet V yX3_worthTo (jws yX3_worthTo cX3_worthTo 3 (some .int)) ⟨0, 0, 0, 0⟩ true 1 [.ref 0, .int a, .int b] (hTown G) (fun o ν => o = some (.int v) ∧ ν = (hTown G)) (fun _ _ => False) := by
  refine jmk (tb := tbX3) (C := kX3_worthTo) hV rfl (by decide) tbX3_ok rfl kX3_worthTo_ok rfl ?_
  intro X hM _ hp _
  exact t_X3_worthTo hM hp N G a b h ⟨rfl, rfl⟩
def p_X3_setWorth (N : Nat) (G : Nat → Nat → Int32) (a : Int32) (b : Int32) (c : Int32) : Option ((Nat → Nat → Int32)) :=
  if jin ((a * (6 : Int32)) + b) 60 = true then jlt (jup G 3 ((a * (6 : Int32)) + b).toNatClampNeg c) fun G2 => some G2 else none
set_option maxHeartbeats 4000000 in
set_option maxRecDepth 100000 in
theorem t_X3_setWorth {X : jX} {po : Option Value → jH → Prop} {px : String → jH → Prop} {sf : Bool} {B9 : Nat} (hM : jMX X kX3_setWorth RX3 tbX3 4 ⟨0, 0, 0, 0⟩ none 10) (hp : jPost X sf B9 po px) (N : Nat) (G : Nat → Nat → Int32) (a : Int32) (b : Int32) (c : Int32) {res : (Nat → Nat → Int32)} (h : p_X3_setWorth N G a b c = some res) (hq : po none (hTown res)) : JW X 0 0 0 [some (.ref 0), some (.int a), some (.int b), some (.int c)] [] (hTown G) := by
  unfold p_X3_setWorth at h
  obtain ⟨g1, h⟩ := jg h
  obtain ⟨G2, e3, h⟩ := jlE h
  refine JW.r hM 0 9 (pc2 := 12) (L2 := [some (.ref 0), some (.int a), some (.int b), some (.int c)]) (st2 := []) (μ2 := (hTown (jup G 3 ((a * (6 : Int32)) + b).toNatClampNeg c))) rfl ⟨g1, trivial⟩ ?_
  rw [e3]
  cases h
  exact js_vret hM.1 hp hM.2.2.2.2.2.2.2.1 (by rw [hM.2.2.2.2.2.1]; exact Nat.le_of_ble_eq_true rfl) (by rw [hM.2.2.2.2.2.2.1]; exact Nat.le_of_ble_eq_true rfl) (jat hM.2.1 9 rfl) hq
theorem m_X3_setWorth (V : jV) (hV : V.1.stackTraces = false) (N : Nat) (G : Nat → Nat → Int32) (a : Int32) (b : Int32) (c : Int32) (v : (Nat → Nat → Int32)) (h : p_X3_setWorth N G a b c = some v) : jMet V yX3_setWorth (jws yX3_setWorth cX3_setWorth 4 none) ⟨0, 0, 0, 0⟩ true 1 [.ref 0, .int a, .int b, .int c] (hTown G) (fun o ν => o = none ∧ ν = (hTown v)) (fun _ _ => False) := by
  refine jmk (tb := tbX3) (C := kX3_setWorth) hV rfl (by decide) tbX3_ok rfl kX3_setWorth_ok rfl ?_
  intro X hM _ hp _
  exact t_X3_setWorth hM hp N G a b c h ⟨rfl, rfl⟩
def p_X3_held_b25 (N : Nat) (G : Nat → Nat → Int32) (rv4 : Int32 → Int32 → Int32 → Option (Int32)) (x1 : Int32) (x2 : Int32) (x3 : Int32) : Option (Int32) :=
  rv4 x1 x2 (x3 + 1)
def p_X3_held_b4 (N : Nat) (G : Nat → Nat → Int32) : Nat → (Int32) → (Int32) → (Int32) → Option (Int32)
  | 0, _, _, _ => none
  | n + 1, x1, x2, x3 => if (G 0 2) ≤ x3 then (some x2) else (if jin x3 10 = true then if (G 2 x3.toNatClampNeg) = x1 then (p_X3_held_b25 N G (p_X3_held_b4 N G n) x1 (x2 + 1) x3) else (p_X3_held_b25 N G (p_X3_held_b4 N G n) x1 x2 x3) else none)
def p_X3_held (N : Nat) (G : Nat → Nat → Int32) (a : Int32) : Option (Int32) :=
  p_X3_held_b4 N G N a (0 : Int32) (0 : Int32)
set_option maxHeartbeats 4000000 in
set_option maxRecDepth 100000 in
theorem t_X3_held_b25 {X : jX} {po : Option Value → jH → Prop} {px : String → jH → Prop} {sf : Bool} {B9 : Nat} (hM : jMX X kX3_held RX3 tbX3 4 ⟨0, 0, 0, 0⟩ (some .int) 10) (hp : jPost X sf B9 po px) (N : Nat) (G : Nat → Nat → Int32) (rv4 : Int32 → Int32 → Int32 → Option (Int32)) {res : Int32} (ih4 : ∀ (x1 : Int32) (x2 : Int32) (x3 : Int32), rv4 x1 x2 x3 = some res → JW X 0 0 4 [some (.ref 0), some (.int x1), some (.int x2), some (.int x3)] [] (hTown G)) (x1 : Int32) (x2 : Int32) (x3 : Int32) (h : p_X3_held_b25 N G rv4 x1 x2 x3 = some res) (hq : po (some (.int res)) (hTown G)) : JW X 0 0 25 [some (.ref 0), some (.int x1), some (.int x2), some (.int x3)] [] (hTown G) := by
  unfold p_X3_held_b25 at h
  refine JW.r hM 15 2 (pc2 := 4) (L2 := [some (.ref 0), some (.int x1), some (.int x2), some (.int (x3 + 1))]) (st2 := []) (μ2 := (hTown G)) rfl trivial ?_
  exact ih4 x1 x2 (x3 + 1) h
set_option maxHeartbeats 4000000 in
set_option maxRecDepth 100000 in
theorem t_X3_held_b4 {X : jX} {po : Option Value → jH → Prop} {px : String → jH → Prop} {sf : Bool} {B9 : Nat} (hM : jMX X kX3_held RX3 tbX3 4 ⟨0, 0, 0, 0⟩ (some .int) 10) (hp : jPost X sf B9 po px) (N : Nat) (G : Nat → Nat → Int32) {res : Int32} : ∀ (n : Nat) (x1 : Int32) (x2 : Int32) (x3 : Int32) (h : p_X3_held_b4 N G n x1 x2 x3 = some res) (hq : po (some (.int res)) (hTown G)), JW X 0 0 4 [some (.ref 0), some (.int x1), some (.int x2), some (.int x3)] [] (hTown G) := by
  intro n
  induction n with
  | zero =>
    intro x1 x2 x3 h hq
    cases (show (none : Option (Int32)) = some res from h)
  | succ n ih4 =>
    intro x1 x2 x3 h hq
    have ih4 := fun x1 x2 x3 h9 => ih4 x1 x2 x3 h9 hq
    rw [p_X3_held_b4] at h
    refine JW.r hM 4 3 (pc2 := 9) (L2 := [some (.ref 0), some (.int x1), some (.int x2), some (.int x3)]) (st2 := [.int (G 0 2), .int x3]) (μ2 := (hTown G)) rfl trivial ?_
    refine js_icge (t := 31) hM.1 (jat hM.2.1 7 rfl) rfl (fun hc3 => ?_) (fun hc3 => ?_)
    · have h := (if_pos hc3).symm.trans h
      refine JW.r hM 17 1 (pc2 := 32) (L2 := [some (.ref 0), some (.int x1), some (.int x2), some (.int x3)]) (st2 := [.int x2]) (μ2 := (hTown G)) rfl trivial ?_
      cases h
      exact js_iret hM.1 hp hM.2.2.2.2.2.2.2.1 (by rw [hM.2.2.2.2.2.1]; exact Nat.le_of_ble_eq_true rfl) (by rw [hM.2.2.2.2.2.2.1]; exact Nat.le_of_ble_eq_true rfl) (jat hM.2.1 18 rfl) hq
    · have h := (if_neg hc3).symm.trans h
      obtain ⟨g1, h⟩ := jg h
      refine JW.r hM 8 5 (pc2 := 19) (L2 := [some (.ref 0), some (.int x1), some (.int x2), some (.int x3)]) (st2 := [.int x1, .int (G 2 x3.toNatClampNeg)]) (μ2 := (hTown G)) rfl ⟨g1, trivial⟩ ?_
      refine js_icne (t := 25) hM.1 (jat hM.2.1 13 rfl) rfl (fun hc2 => ?_) (fun hc2 => ?_)
      · have h := (if_neg hc2).symm.trans h
        exact t_X3_held_b25 hM hp N G (p_X3_held_b4 N G n) ih4 x1 x2 x3 h hq
      · have h := (if_pos hc2).symm.trans h
        refine JW.r hM 14 1 (pc2 := 25) (L2 := [some (.ref 0), some (.int x1), some (.int (x2 + 1)), some (.int x3)]) (st2 := []) (μ2 := (hTown G)) rfl trivial ?_
        exact t_X3_held_b25 hM hp N G (p_X3_held_b4 N G n) ih4 x1 (x2 + 1) x3 h hq
set_option maxHeartbeats 4000000 in
set_option maxRecDepth 100000 in
theorem t_X3_held {X : jX} {po : Option Value → jH → Prop} {px : String → jH → Prop} {sf : Bool} {B9 : Nat} (hM : jMX X kX3_held RX3 tbX3 4 ⟨0, 0, 0, 0⟩ (some .int) 10) (hp : jPost X sf B9 po px) (N : Nat) (G : Nat → Nat → Int32) (a : Int32) {res : Int32} (h : p_X3_held N G a = some res) (hq : po (some (.int res)) (hTown G)) : JW X 0 0 0 [some (.ref 0), some (.int a), none, none] [] (hTown G) := by
  unfold p_X3_held at h
  refine JW.r hM 0 4 (pc2 := 4) (L2 := [some (.ref 0), some (.int a), some (.int (0 : Int32)), some (.int (0 : Int32))]) (st2 := []) (μ2 := (hTown G)) rfl trivial ?_
  exact t_X3_held_b4 hM hp N G N a (0 : Int32) (0 : Int32) h hq
theorem m_X3_held (V : jV) (hV : V.1.stackTraces = false) (N : Nat) (G : Nat → Nat → Int32) (a : Int32) (v : Int32) (h : p_X3_held N G a = some v) : jMet V yX3_held (jws yX3_held cX3_held 4 (some .int)) ⟨0, 0, 0, 0⟩ true 1 [.ref 0, .int a] (hTown G) (fun o ν => o = some (.int v) ∧ ν = (hTown G)) (fun _ _ => False) := by
  refine jmk (tb := tbX3) (C := kX3_held) hV rfl (by decide) tbX3_ok rfl kX3_held_ok rfl ?_
  intro X hM _ hp _
  exact t_X3_held hM hp N G a h ⟨rfl, rfl⟩
def p_X3_wealth_b36 (N : Nat) (G : Nat → Nat → Int32) (rv9 : Int32 → Int32 → Int32 → Option (Int32)) (x1 : Int32) (x2 : Int32) (x3 : Int32) : Option (Int32) :=
  rv9 x1 x2 (x3 + 1)
def p_X3_wealth_b9 (N : Nat) (G : Nat → Nat → Int32) : Nat → (Int32) → (Int32) → (Int32) → Option (Int32)
  | 0, _, _, _ => none
  | n + 1, x1, x2, x3 => if (G 0 2) ≤ x3 then (some x2) else (if jin x3 10 = true then if (G 2 x3.toNatClampNeg) = x1 then ((p_X3_worthTo N G x3 x1).bind (fun v4 => p_X3_wealth_b36 N G (p_X3_wealth_b9 N G n) x1 (x2 + v4) x3)) else (p_X3_wealth_b36 N G (p_X3_wealth_b9 N G n) x1 x2 x3) else none)
def p_X3_wealth (N : Nat) (G : Nat → Nat → Int32) (a : Int32) : Option (Int32) :=
  if jin a 6 = true then p_X3_wealth_b9 N G N a (G 1 a.toNatClampNeg) (0 : Int32) else none
set_option maxHeartbeats 4000000 in
set_option maxRecDepth 100000 in
theorem t_X3_wealth_b36 {X : jX} {po : Option Value → jH → Prop} {px : String → jH → Prop} {sf : Bool} {B9 : Nat} (hM : jMX X kX3_wealth RX3 tbX3 4 ⟨1, 0, 0, 22⟩ (some .int) 10) (hp : jPost X sf B9 po px) (N : Nat) (G : Nat → Nat → Int32) (rv9 : Int32 → Int32 → Int32 → Option (Int32)) {res : Int32} (ih9 : ∀ (x1 : Int32) (x2 : Int32) (x3 : Int32), rv9 x1 x2 x3 = some res → JW X 0 0 9 [some (.ref 0), some (.int x1), some (.int x2), some (.int x3)] [] (hTown G)) (x1 : Int32) (x2 : Int32) (x3 : Int32) (h : p_X3_wealth_b36 N G rv9 x1 x2 x3 = some res) (hq : po (some (.int res)) (hTown G)) : JW X 0 0 36 [some (.ref 0), some (.int x1), some (.int x2), some (.int x3)] [] (hTown G) := by
  unfold p_X3_wealth_b36 at h
  refine JW.r hM 24 2 (pc2 := 9) (L2 := [some (.ref 0), some (.int x1), some (.int x2), some (.int (x3 + 1))]) (st2 := []) (μ2 := (hTown G)) rfl trivial ?_
  exact ih9 x1 x2 (x3 + 1) h
set_option maxHeartbeats 4000000 in
set_option maxRecDepth 100000 in
theorem t_X3_wealth_b9 {X : jX} {po : Option Value → jH → Prop} {px : String → jH → Prop} {sf : Bool} {B9 : Nat} (hM : jMX X kX3_wealth RX3 tbX3 4 ⟨1, 0, 0, 22⟩ (some .int) 10) (hp : jPost X sf B9 po px) (N : Nat) (G : Nat → Nat → Int32) {res : Int32} : ∀ (n : Nat) (x1 : Int32) (x2 : Int32) (x3 : Int32) (h : p_X3_wealth_b9 N G n x1 x2 x3 = some res) (hq : po (some (.int res)) (hTown G)), JW X 0 0 9 [some (.ref 0), some (.int x1), some (.int x2), some (.int x3)] [] (hTown G) := by
  intro n
  induction n with
  | zero =>
    intro x1 x2 x3 h hq
    cases (show (none : Option (Int32)) = some res from h)
  | succ n ih9 =>
    intro x1 x2 x3 h hq
    have ih9 := fun x1 x2 x3 h9 => ih9 x1 x2 x3 h9 hq
    rw [p_X3_wealth_b9] at h
    refine JW.r hM 7 3 (pc2 := 14) (L2 := [some (.ref 0), some (.int x1), some (.int x2), some (.int x3)]) (st2 := [.int (G 0 2), .int x3]) (μ2 := (hTown G)) rfl trivial ?_
    refine js_icge (t := 42) hM.1 (jat hM.2.1 10 rfl) rfl (fun hc6 => ?_) (fun hc6 => ?_)
    · have h := (if_pos hc6).symm.trans h
      refine JW.r hM 26 1 (pc2 := 43) (L2 := [some (.ref 0), some (.int x1), some (.int x2), some (.int x3)]) (st2 := [.int x2]) (μ2 := (hTown G)) rfl trivial ?_
      cases h
      exact js_iret hM.1 hp hM.2.2.2.2.2.2.2.1 (by rw [hM.2.2.2.2.2.1]; exact Nat.le_of_ble_eq_true rfl) (by rw [hM.2.2.2.2.2.2.1]; exact Nat.le_of_ble_eq_true rfl) (jat hM.2.1 27 rfl) hq
    · have h := (if_neg hc6).symm.trans h
      obtain ⟨g2, h⟩ := jg h
      refine JW.r hM 11 5 (pc2 := 24) (L2 := [some (.ref 0), some (.int x1), some (.int x2), some (.int x3)]) (st2 := [.int x1, .int (G 2 x3.toNatClampNeg)]) (μ2 := (hTown G)) rfl ⟨g2, trivial⟩ ?_
      refine js_icne (t := 36) hM.1 (jat hM.2.1 16 rfl) rfl (fun hc5 => ?_) (fun hc5 => ?_)
      · have h := (if_neg hc5).symm.trans h
        exact t_X3_wealth_b36 hM hp N G (p_X3_wealth_b9 N G n) ih9 x1 x2 x3 h hq
      · have h := (if_pos hc5).symm.trans h
        refine JW.r hM 17 4 (pc2 := 31) (L2 := [some (.ref 0), some (.int x1), some (.int x2), some (.int x3)]) (st2 := [.int x1, .int x3, .ref 0, .int x2]) (μ2 := (hTown G)) rfl trivial ?_
        obtain ⟨v4, hv3, h⟩ := jbd h
        refine JW.cV (v := some (.int v4)) hM (m_X3_worthTo (jVX X) hM.1.2.2.2.2.2.2.2.2.2.1 N G x3 x1 v4 hv3) (sb_Town_Town_0 G) (bi_Town_Town_0 G) rfl rfl rfl kc_X3_90 rfl rfl rfl rfl rfl (jat hM.2.1 21 rfl) (st := [.int x2]) rfl ?_
        show JW X 0 0 34 [some (.ref 0), some (.int x1), some (.int x2), some (.int x3)] [.int v4, .int x2] (hTown G)
        refine JW.r hM 22 2 (pc2 := 36) (L2 := [some (.ref 0), some (.int x1), some (.int (x2 + v4)), some (.int x3)]) (st2 := []) (μ2 := (hTown G)) rfl trivial ?_
        exact t_X3_wealth_b36 hM hp N G (p_X3_wealth_b9 N G n) ih9 x1 (x2 + v4) x3 h hq
set_option maxHeartbeats 4000000 in
set_option maxRecDepth 100000 in
theorem t_X3_wealth {X : jX} {po : Option Value → jH → Prop} {px : String → jH → Prop} {sf : Bool} {B9 : Nat} (hM : jMX X kX3_wealth RX3 tbX3 4 ⟨1, 0, 0, 22⟩ (some .int) 10) (hp : jPost X sf B9 po px) (N : Nat) (G : Nat → Nat → Int32) (a : Int32) {res : Int32} (h : p_X3_wealth N G a = some res) (hq : po (some (.int res)) (hTown G)) : JW X 0 0 0 [some (.ref 0), some (.int a), none, none] [] (hTown G) := by
  unfold p_X3_wealth at h
  obtain ⟨g1, h⟩ := jg h
  refine JW.r hM 0 7 (pc2 := 9) (L2 := [some (.ref 0), some (.int a), some (.int (G 1 a.toNatClampNeg)), some (.int (0 : Int32))]) (st2 := []) (μ2 := (hTown G)) rfl ⟨g1, trivial⟩ ?_
  exact t_X3_wealth_b9 hM hp N G N a (G 1 a.toNatClampNeg) (0 : Int32) h hq
theorem m_X3_wealth (V : jV) (hV : V.1.stackTraces = false) (N : Nat) (G : Nat → Nat → Int32) (a : Int32) (v : Int32) (h : p_X3_wealth N G a = some v) : jMet V yX3_wealth (jws yX3_wealth cX3_wealth 4 (some .int)) ⟨1, 0, 0, 22⟩ true 1 [.ref 0, .int a] (hTown G) (fun o ν => o = some (.int v) ∧ ν = (hTown G)) (fun _ _ => False) := by
  refine jmk (tb := tbX3) (C := kX3_wealth) hV rfl (by decide) tbX3_ok rfl kX3_wealth_ok rfl ?_
  intro X hM _ hp _
  exact t_X3_wealth hM hp N G a h ⟨rfl, rfl⟩
def p_X3_coinsOfAll_b4 (N : Nat) (G : Nat → Nat → Int32) : Nat → (Int32) → (Int32) → Option (Int32)
  | 0, _, _ => none
  | n + 1, x1, x2 => if (G 0 1) ≤ x2 then (some x1) else (if jin x2 6 = true then (p_X3_coinsOfAll_b4 N G n) (x1 + (G 1 x2.toNatClampNeg)) (x2 + 1) else none)
def p_X3_coinsOfAll (N : Nat) (G : Nat → Nat → Int32) : Option (Int32) :=
  p_X3_coinsOfAll_b4 N G N (0 : Int32) (0 : Int32)
set_option maxHeartbeats 4000000 in
set_option maxRecDepth 100000 in
theorem t_X3_coinsOfAll_b4 {X : jX} {po : Option Value → jH → Prop} {px : String → jH → Prop} {sf : Bool} {B9 : Nat} (hM : jMX X kX3_coinsOfAll RX3 tbX3 3 ⟨0, 0, 0, 0⟩ (some .int) 10) (hp : jPost X sf B9 po px) (N : Nat) (G : Nat → Nat → Int32) {res : Int32} : ∀ (n : Nat) (x1 : Int32) (x2 : Int32) (h : p_X3_coinsOfAll_b4 N G n x1 x2 = some res) (hq : po (some (.int res)) (hTown G)), JW X 0 0 4 [some (.ref 0), some (.int x1), some (.int x2)] [] (hTown G) := by
  intro n
  induction n with
  | zero =>
    intro x1 x2 h hq
    cases (show (none : Option (Int32)) = some res from h)
  | succ n ih4 =>
    intro x1 x2 h hq
    have ih4 := fun x1 x2 h9 => ih4 x1 x2 h9 hq
    rw [p_X3_coinsOfAll_b4] at h
    refine JW.r hM 4 3 (pc2 := 9) (L2 := [some (.ref 0), some (.int x1), some (.int x2)]) (st2 := [.int (G 0 1), .int x2]) (μ2 := (hTown G)) rfl trivial ?_
    refine js_icge (t := 27) hM.1 (jat hM.2.1 7 rfl) rfl (fun hc2 => ?_) (fun hc2 => ?_)
    · have h := (if_pos hc2).symm.trans h
      refine JW.r hM 17 1 (pc2 := 28) (L2 := [some (.ref 0), some (.int x1), some (.int x2)]) (st2 := [.int x1]) (μ2 := (hTown G)) rfl trivial ?_
      cases h
      exact js_iret hM.1 hp hM.2.2.2.2.2.2.2.1 (by rw [hM.2.2.2.2.2.1]; exact Nat.le_of_ble_eq_true rfl) (by rw [hM.2.2.2.2.2.2.1]; exact Nat.le_of_ble_eq_true rfl) (jat hM.2.1 18 rfl) hq
    · have h := (if_neg hc2).symm.trans h
      obtain ⟨g1, h⟩ := jg h
      refine JW.r hM 8 9 (pc2 := 4) (L2 := [some (.ref 0), some (.int (x1 + (G 1 x2.toNatClampNeg))), some (.int (x2 + 1))]) (st2 := []) (μ2 := (hTown G)) rfl ⟨g1, trivial⟩ ?_
      exact ih4 (x1 + (G 1 x2.toNatClampNeg)) (x2 + 1) h
set_option maxHeartbeats 4000000 in
set_option maxRecDepth 100000 in
theorem t_X3_coinsOfAll {X : jX} {po : Option Value → jH → Prop} {px : String → jH → Prop} {sf : Bool} {B9 : Nat} (hM : jMX X kX3_coinsOfAll RX3 tbX3 3 ⟨0, 0, 0, 0⟩ (some .int) 10) (hp : jPost X sf B9 po px) (N : Nat) (G : Nat → Nat → Int32) {res : Int32} (h : p_X3_coinsOfAll N G = some res) (hq : po (some (.int res)) (hTown G)) : JW X 0 0 0 [some (.ref 0), none, none] [] (hTown G) := by
  unfold p_X3_coinsOfAll at h
  refine JW.r hM 0 4 (pc2 := 4) (L2 := [some (.ref 0), some (.int (0 : Int32)), some (.int (0 : Int32))]) (st2 := []) (μ2 := (hTown G)) rfl trivial ?_
  exact t_X3_coinsOfAll_b4 hM hp N G N (0 : Int32) (0 : Int32) h hq
theorem m_X3_coinsOfAll (V : jV) (hV : V.1.stackTraces = false) (N : Nat) (G : Nat → Nat → Int32) (v : Int32) (h : p_X3_coinsOfAll N G = some v) : jMet V yX3_coinsOfAll (jws yX3_coinsOfAll cX3_coinsOfAll 3 (some .int)) ⟨0, 0, 0, 0⟩ true 1 [.ref 0] (hTown G) (fun o ν => o = some (.int v) ∧ ν = (hTown G)) (fun _ _ => False) := by
  refine jmk (tb := tbX3) (C := kX3_coinsOfAll) hV rfl (by decide) tbX3_ok rfl kX3_coinsOfAll_ok rfl ?_
  intro X hM _ hp _
  exact t_X3_coinsOfAll hM hp N G h ⟨rfl, rfl⟩
def p_X3_wealthOfAll_b4 (N : Nat) (G : Nat → Nat → Int32) : Nat → (Int32) → (Int32) → Option (Int32)
  | 0, _, _ => none
  | n + 1, x1, x2 => if (G 0 1) ≤ x2 then (some x1) else ((p_X3_wealth N G x2).bind (fun v2 => (p_X3_wealthOfAll_b4 N G n) (x1 + v2) (x2 + 1)))
def p_X3_wealthOfAll (N : Nat) (G : Nat → Nat → Int32) : Option (Int32) :=
  p_X3_wealthOfAll_b4 N G N (0 : Int32) (0 : Int32)
set_option maxHeartbeats 4000000 in
set_option maxRecDepth 100000 in
theorem t_X3_wealthOfAll_b4 {X : jX} {po : Option Value → jH → Prop} {px : String → jH → Prop} {sf : Bool} {B9 : Nat} (hM : jMX X kX3_wealthOfAll RX3 tbX3 3 ⟨2, 0, 0, 45⟩ (some .int) 10) (hp : jPost X sf B9 po px) (N : Nat) (G : Nat → Nat → Int32) {res : Int32} : ∀ (n : Nat) (x1 : Int32) (x2 : Int32) (h : p_X3_wealthOfAll_b4 N G n x1 x2 = some res) (hq : po (some (.int res)) (hTown G)), JW X 0 0 4 [some (.ref 0), some (.int x1), some (.int x2)] [] (hTown G) := by
  intro n
  induction n with
  | zero =>
    intro x1 x2 h hq
    cases (show (none : Option (Int32)) = some res from h)
  | succ n ih4 =>
    intro x1 x2 h hq
    have ih4 := fun x1 x2 h9 => ih4 x1 x2 h9 hq
    rw [p_X3_wealthOfAll_b4] at h
    refine JW.r hM 4 3 (pc2 := 9) (L2 := [some (.ref 0), some (.int x1), some (.int x2)]) (st2 := [.int (G 0 1), .int x2]) (μ2 := (hTown G)) rfl trivial ?_
    refine js_icge (t := 26) hM.1 (jat hM.2.1 7 rfl) rfl (fun hc3 => ?_) (fun hc3 => ?_)
    · have h := (if_pos hc3).symm.trans h
      refine JW.r hM 16 1 (pc2 := 27) (L2 := [some (.ref 0), some (.int x1), some (.int x2)]) (st2 := [.int x1]) (μ2 := (hTown G)) rfl trivial ?_
      cases h
      exact js_iret hM.1 hp hM.2.2.2.2.2.2.2.1 (by rw [hM.2.2.2.2.2.1]; exact Nat.le_of_ble_eq_true rfl) (by rw [hM.2.2.2.2.2.2.1]; exact Nat.le_of_ble_eq_true rfl) (jat hM.2.1 17 rfl) hq
    · have h := (if_neg hc3).symm.trans h
      refine JW.r hM 8 3 (pc2 := 15) (L2 := [some (.ref 0), some (.int x1), some (.int x2)]) (st2 := [.int x2, .ref 0, .int x1]) (μ2 := (hTown G)) rfl trivial ?_
      obtain ⟨v2, hv1, h⟩ := jbd h
      refine JW.cV (v := some (.int v2)) hM (m_X3_wealth (jVX X) hM.1.2.2.2.2.2.2.2.2.2.1 N G x2 v2 hv1) (sb_Town_Town_0 G) (bi_Town_Town_0 G) rfl rfl rfl kc_X3_94 rfl rfl rfl rfl rfl (jat hM.2.1 11 rfl) (st := [.int x1]) rfl ?_
      show JW X 0 0 18 [some (.ref 0), some (.int x1), some (.int x2)] [.int v2, .int x1] (hTown G)
      refine JW.r hM 12 4 (pc2 := 4) (L2 := [some (.ref 0), some (.int (x1 + v2)), some (.int (x2 + 1))]) (st2 := []) (μ2 := (hTown G)) rfl trivial ?_
      exact ih4 (x1 + v2) (x2 + 1) h
set_option maxHeartbeats 4000000 in
set_option maxRecDepth 100000 in
theorem t_X3_wealthOfAll {X : jX} {po : Option Value → jH → Prop} {px : String → jH → Prop} {sf : Bool} {B9 : Nat} (hM : jMX X kX3_wealthOfAll RX3 tbX3 3 ⟨2, 0, 0, 45⟩ (some .int) 10) (hp : jPost X sf B9 po px) (N : Nat) (G : Nat → Nat → Int32) {res : Int32} (h : p_X3_wealthOfAll N G = some res) (hq : po (some (.int res)) (hTown G)) : JW X 0 0 0 [some (.ref 0), none, none] [] (hTown G) := by
  unfold p_X3_wealthOfAll at h
  refine JW.r hM 0 4 (pc2 := 4) (L2 := [some (.ref 0), some (.int (0 : Int32)), some (.int (0 : Int32))]) (st2 := []) (μ2 := (hTown G)) rfl trivial ?_
  exact t_X3_wealthOfAll_b4 hM hp N G N (0 : Int32) (0 : Int32) h hq
theorem m_X3_wealthOfAll (V : jV) (hV : V.1.stackTraces = false) (N : Nat) (G : Nat → Nat → Int32) (v : Int32) (h : p_X3_wealthOfAll N G = some v) : jMet V yX3_wealthOfAll (jws yX3_wealthOfAll cX3_wealthOfAll 3 (some .int)) ⟨2, 0, 0, 45⟩ true 1 [.ref 0] (hTown G) (fun o ν => o = some (.int v) ∧ ν = (hTown G)) (fun _ _ => False) := by
  refine jmk (tb := tbX3) (C := kX3_wealthOfAll) hV rfl (by decide) tbX3_ok rfl kX3_wealthOfAll_ok rfl ?_
  intro X hM _ hp _
  exact t_X3_wealthOfAll hM hp N G h ⟨rfl, rfl⟩
def p_X3_worthToGiver (N : Nat) (G : Nat → Nat → Int32) (a : Int32) : Option (Int32) :=
  if jin a 30 = true then if jin a 30 = true then if jin a 30 = true then (p_X3_worthTo N G (G 4 a.toNatClampNeg) (G 5 a.toNatClampNeg)).bind (fun v5 => (p_J9_max_7cf53 N (0 : Int32) ((G 7 a.toNatClampNeg) - v5)).bind (fun v7 => some v7)) else none else none else none
set_option maxHeartbeats 4000000 in
set_option maxRecDepth 100000 in
theorem t_X3_worthToGiver {X : jX} {po : Option Value → jH → Prop} {px : String → jH → Prop} {sf : Bool} {B9 : Nat} (hM : jMX X kX3_worthToGiver RX3 tbX3 2 ⟨1, 0, 0, 22⟩ (some .int) 10) (hp : jPost X sf B9 po px) (N : Nat) (G : Nat → Nat → Int32) (a : Int32) {res : Int32} (h : p_X3_worthToGiver N G a = some res) (hq : po (some (.int res)) (hTown G)) : JW X 0 0 0 [some (.ref 0), some (.int a)] [] (hTown G) := by
  unfold p_X3_worthToGiver at h
  obtain ⟨g1, h⟩ := jg h
  obtain ⟨g2, h⟩ := jg h
  obtain ⟨g3, h⟩ := jg h
  refine JW.r hM 0 14 (pc2 := 20) (L2 := [some (.ref 0), some (.int a)]) (st2 := [.int (G 5 a.toNatClampNeg), .int (G 4 a.toNatClampNeg), .ref 0, .int (G 7 a.toNatClampNeg), .int (0 : Int32)]) (μ2 := (hTown G)) rfl ⟨g1, g2, g3, trivial⟩ ?_
  obtain ⟨v5, hv4, h⟩ := jbd h
  refine JW.cV (v := some (.int v5)) hM (m_X3_worthTo (jVX X) hM.1.2.2.2.2.2.2.2.2.2.1 N G (G 4 a.toNatClampNeg) (G 5 a.toNatClampNeg) v5 hv4) (sb_Town_Town_0 G) (bi_Town_Town_0 G) rfl rfl rfl kc_X3_90 rfl rfl rfl rfl rfl (jat hM.2.1 14 rfl) (st := [.int (G 7 a.toNatClampNeg), .int (0 : Int32)]) rfl ?_
  show JW X 0 0 23 [some (.ref 0), some (.int a)] [.int v5, .int (G 7 a.toNatClampNeg), .int (0 : Int32)] (hTown G)
  refine JW.r hM 15 1 (pc2 := 24) (L2 := [some (.ref 0), some (.int a)]) (st2 := [.int ((G 7 a.toNatClampNeg) - v5), .int (0 : Int32)]) (μ2 := (hTown G)) rfl trivial ?_
  obtain ⟨v7, hv6, h⟩ := jbd h
  refine JW.cS (v := some (.int v7)) hM (m_J9_max_7cf53 (jVX X) hM.1.2.2.2.2.2.2.2.2.2.1 N (0 : Int32) ((G 7 a.toNatClampNeg) - v5) v7 hv6) (sb_Town_E_ G) (bi_Town_E_ G) rfl rfl rfl kc_X3_98 rfl rfl rfl (jat hM.2.1 16 rfl) (st := []) rfl ?_
  show JW X 0 0 27 [some (.ref 0), some (.int a)] [.int v7] (hTown G)
  cases h
  exact js_iret hM.1 hp hM.2.2.2.2.2.2.2.1 (by rw [hM.2.2.2.2.2.1]; exact Nat.le_of_ble_eq_true rfl) (by rw [hM.2.2.2.2.2.2.1]; exact Nat.le_of_ble_eq_true rfl) (jat hM.2.1 17 rfl) hq
theorem m_X3_worthToGiver (V : jV) (hV : V.1.stackTraces = false) (N : Nat) (G : Nat → Nat → Int32) (a : Int32) (v : Int32) (h : p_X3_worthToGiver N G a = some v) : jMet V yX3_worthToGiver (jws yX3_worthToGiver cX3_worthToGiver 2 (some .int)) ⟨1, 0, 0, 22⟩ true 1 [.ref 0, .int a] (hTown G) (fun o ν => o = some (.int v) ∧ ν = (hTown G)) (fun _ _ => False) := by
  refine jmk (tb := tbX3) (C := kX3_worthToGiver) hV rfl (by decide) tbX3_ok rfl kX3_worthToGiver_ok rfl ?_
  intro X hM _ hp _
  exact t_X3_worthToGiver hM hp N G a h ⟨rfl, rfl⟩
def p_X3_worthToTaker (N : Nat) (G : Nat → Nat → Int32) (a : Int32) : Option (Int32) :=
  if jin a 30 = true then if jin a 30 = true then (p_X3_worthTo N G (G 4 a.toNatClampNeg) (G 6 a.toNatClampNeg)).bind (fun v4 => if jin a 30 = true then (p_J9_max_7cf53 N (0 : Int32) (v4 - (G 7 a.toNatClampNeg))).bind (fun v7 => some v7) else none) else none else none
set_option maxHeartbeats 4000000 in
set_option maxRecDepth 100000 in
theorem t_X3_worthToTaker {X : jX} {po : Option Value → jH → Prop} {px : String → jH → Prop} {sf : Bool} {B9 : Nat} (hM : jMX X kX3_worthToTaker RX3 tbX3 2 ⟨1, 0, 0, 22⟩ (some .int) 10) (hp : jPost X sf B9 po px) (N : Nat) (G : Nat → Nat → Int32) (a : Int32) {res : Int32} (h : p_X3_worthToTaker N G a = some res) (hq : po (some (.int res)) (hTown G)) : JW X 0 0 0 [some (.ref 0), some (.int a)] [] (hTown G) := by
  unfold p_X3_worthToTaker at h
  obtain ⟨g1, h⟩ := jg h
  obtain ⟨g2, h⟩ := jg h
  refine JW.r hM 0 10 (pc2 := 14) (L2 := [some (.ref 0), some (.int a)]) (st2 := [.int (G 6 a.toNatClampNeg), .int (G 4 a.toNatClampNeg), .ref 0, .int (0 : Int32)]) (μ2 := (hTown G)) rfl ⟨g1, g2, trivial⟩ ?_
  obtain ⟨v4, hv3, h⟩ := jbd h
  refine JW.cV (v := some (.int v4)) hM (m_X3_worthTo (jVX X) hM.1.2.2.2.2.2.2.2.2.2.1 N G (G 4 a.toNatClampNeg) (G 6 a.toNatClampNeg) v4 hv3) (sb_Town_Town_0 G) (bi_Town_Town_0 G) rfl rfl rfl kc_X3_90 rfl rfl rfl rfl rfl (jat hM.2.1 10 rfl) (st := [.int (0 : Int32)]) rfl ?_
  show JW X 0 0 17 [some (.ref 0), some (.int a)] [.int v4, .int (0 : Int32)] (hTown G)
  obtain ⟨g5, h⟩ := jg h
  refine JW.r hM 11 5 (pc2 := 24) (L2 := [some (.ref 0), some (.int a)]) (st2 := [.int (v4 - (G 7 a.toNatClampNeg)), .int (0 : Int32)]) (μ2 := (hTown G)) rfl ⟨g5, trivial⟩ ?_
  obtain ⟨v7, hv6, h⟩ := jbd h
  refine JW.cS (v := some (.int v7)) hM (m_J9_max_7cf53 (jVX X) hM.1.2.2.2.2.2.2.2.2.2.1 N (0 : Int32) (v4 - (G 7 a.toNatClampNeg)) v7 hv6) (sb_Town_E_ G) (bi_Town_E_ G) rfl rfl rfl kc_X3_98 rfl rfl rfl (jat hM.2.1 16 rfl) (st := []) rfl ?_
  show JW X 0 0 27 [some (.ref 0), some (.int a)] [.int v7] (hTown G)
  cases h
  exact js_iret hM.1 hp hM.2.2.2.2.2.2.2.1 (by rw [hM.2.2.2.2.2.1]; exact Nat.le_of_ble_eq_true rfl) (by rw [hM.2.2.2.2.2.2.1]; exact Nat.le_of_ble_eq_true rfl) (jat hM.2.1 17 rfl) hq
theorem m_X3_worthToTaker (V : jV) (hV : V.1.stackTraces = false) (N : Nat) (G : Nat → Nat → Int32) (a : Int32) (v : Int32) (h : p_X3_worthToTaker N G a = some v) : jMet V yX3_worthToTaker (jws yX3_worthToTaker cX3_worthToTaker 2 (some .int)) ⟨1, 0, 0, 22⟩ true 1 [.ref 0, .int a] (hTown G) (fun o ν => o = some (.int v) ∧ ν = (hTown G)) (fun _ _ => False) := by
  refine jmk (tb := tbX3) (C := kX3_worthToTaker) hV rfl (by decide) tbX3_ok rfl kX3_worthToTaker_ok rfl ?_
  intro X hM _ hp _
  exact t_X3_worthToTaker hM hp N G a h ⟨rfl, rfl⟩
def p_X3_cut (N : Nat) (G : Nat → Nat → Int32) (a : Int32) : Option (Int32) :=
  some (((G 0 4) * a) / (100 : Int32))
set_option maxHeartbeats 4000000 in
set_option maxRecDepth 100000 in
theorem t_X3_cut {X : jX} {po : Option Value → jH → Prop} {px : String → jH → Prop} {sf : Bool} {B9 : Nat} (hM : jMX X kX3_cut RX3 tbX3 2 ⟨0, 0, 0, 0⟩ (some .int) 10) (hp : jPost X sf B9 po px) (N : Nat) (G : Nat → Nat → Int32) (a : Int32) {res : Int32} (h : p_X3_cut N G a = some res) (hq : po (some (.int res)) (hTown G)) : JW X 0 0 0 [some (.ref 0), some (.int a)] [] (hTown G) := by
  unfold p_X3_cut at h
  refine JW.r hM 0 6 (pc2 := 9) (L2 := [some (.ref 0), some (.int a)]) (st2 := [.int (((G 0 4) * a) / (100 : Int32))]) (μ2 := (hTown G)) rfl ⟨(by decide), trivial⟩ ?_
  cases h
  exact js_iret hM.1 hp hM.2.2.2.2.2.2.2.1 (by rw [hM.2.2.2.2.2.1]; exact Nat.le_of_ble_eq_true rfl) (by rw [hM.2.2.2.2.2.2.1]; exact Nat.le_of_ble_eq_true rfl) (jat hM.2.1 6 rfl) hq
theorem m_X3_cut (V : jV) (hV : V.1.stackTraces = false) (N : Nat) (G : Nat → Nat → Int32) (a : Int32) (v : Int32) (h : p_X3_cut N G a = some v) : jMet V yX3_cut (jws yX3_cut cX3_cut 2 (some .int)) ⟨0, 0, 0, 0⟩ true 1 [.ref 0, .int a] (hTown G) (fun o ν => o = some (.int v) ∧ ν = (hTown G)) (fun _ _ => False) := by
  refine jmk (tb := tbX3) (C := kX3_cut) hV rfl (by decide) tbX3_ok rfl kX3_cut_ok rfl ?_
  intro X hM _ hp _
  exact t_X3_cut hM hp N G a h ⟨rfl, rfl⟩
def p_X3_whyNoDeed (N : Nat) (G : Nat → Nat → Int32) (a : Int32) (b : Int32) (c : Int32) : Option (Int32) :=
  (p_X3_hasThing N G a).bind (fun v2 => if v2 = 0 then (some (1 : Int32)) else ((p_X3_hasPerson N G b).bind (fun v4 => if v4 = 0 then (some (1 : Int32)) else (if jin a 10 = true then if (G 2 a.toNatClampNeg) = b then (some (1 : Int32)) else (if c < 0 then (some (2 : Int32)) else (if c ≤ (9999 : Int32) then (if jin b 6 = true then if c ≤ (G 1 b.toNatClampNeg) then ((p_X3_hasRung N G).bind (fun v8 => if v8 = 0 then ((p_X3_isEaten N G a).bind (fun v10 => if v10 = 0 then (if (G 0 7) < (30 : Int32) then (some (0 : Int32)) else (some (6 : Int32))) else (some (5 : Int32)))) else (some (4 : Int32)))) else (some (3 : Int32)) else none) else (some (2 : Int32)))) else none))))
set_option maxHeartbeats 4000000 in
set_option maxRecDepth 100000 in
theorem t_X3_whyNoDeed {X : jX} {po : Option Value → jH → Prop} {px : String → jH → Prop} {sf : Bool} {B9 : Nat} (hM : jMX X kX3_whyNoDeed RX3 tbX3 4 ⟨1, 0, 0, 21⟩ (some .int) 10) (hp : jPost X sf B9 po px) (N : Nat) (G : Nat → Nat → Int32) (a : Int32) (b : Int32) (c : Int32) {res : Int32} (h : p_X3_whyNoDeed N G a b c = some res) (hq : po (some (.int res)) (hTown G)) : JW X 0 0 0 [some (.ref 0), some (.int a), some (.int b), some (.int c)] [] (hTown G) := by
  unfold p_X3_whyNoDeed at h
  refine JW.r hM 0 2 (pc2 := 2) (L2 := [some (.ref 0), some (.int a), some (.int b), some (.int c)]) (st2 := [.int a, .ref 0]) (μ2 := (hTown G)) rfl trivial ?_
  obtain ⟨v2, hv1, h⟩ := jbd h
  refine JW.cV (v := some (.int v2)) hM (m_X3_hasThing (jVX X) hM.1.2.2.2.2.2.2.2.2.2.1 N G a v2 hv1) (sb_Town_Town_0 G) (bi_Town_Town_0 G) rfl rfl rfl kc_X3_103 rfl rfl rfl rfl rfl (jat hM.2.1 2 rfl) (st := []) rfl ?_
  show JW X 0 0 5 [some (.ref 0), some (.int a), some (.int b), some (.int c)] [.int v2] (hTown G)
  refine js_ifeq (t := 26) hM.1 (jat hM.2.1 3 rfl) rfl (fun hc19 => ?_) (fun hc19 => ?_)
  · have h := (if_pos hc19).symm.trans h
    refine JW.r hM 14 1 (pc2 := 27) (L2 := [some (.ref 0), some (.int a), some (.int b), some (.int c)]) (st2 := [.int (1 : Int32)]) (μ2 := (hTown G)) rfl trivial ?_
    cases h
    exact js_iret hM.1 hp hM.2.2.2.2.2.2.2.1 (by rw [hM.2.2.2.2.2.1]; exact Nat.le_of_ble_eq_true rfl) (by rw [hM.2.2.2.2.2.2.1]; exact Nat.le_of_ble_eq_true rfl) (jat hM.2.1 15 rfl) hq
  · have h := (if_neg hc19).symm.trans h
    refine JW.r hM 4 2 (pc2 := 10) (L2 := [some (.ref 0), some (.int a), some (.int b), some (.int c)]) (st2 := [.int b, .ref 0]) (μ2 := (hTown G)) rfl trivial ?_
    obtain ⟨v4, hv3, h⟩ := jbd h
    refine JW.cV (v := some (.int v4)) hM (m_X3_hasPerson (jVX X) hM.1.2.2.2.2.2.2.2.2.2.1 N G b v4 hv3) (sb_Town_Town_0 G) (bi_Town_Town_0 G) rfl rfl rfl kc_X3_106 rfl rfl rfl rfl rfl (jat hM.2.1 6 rfl) (st := []) rfl ?_
    show JW X 0 0 13 [some (.ref 0), some (.int a), some (.int b), some (.int c)] [.int v4] (hTown G)
    refine js_ifeq (t := 26) hM.1 (jat hM.2.1 7 rfl) rfl (fun hc18 => ?_) (fun hc18 => ?_)
    · have h := (if_pos hc18).symm.trans h
      refine JW.r hM 14 1 (pc2 := 27) (L2 := [some (.ref 0), some (.int a), some (.int b), some (.int c)]) (st2 := [.int (1 : Int32)]) (μ2 := (hTown G)) rfl trivial ?_
      cases h
      exact js_iret hM.1 hp hM.2.2.2.2.2.2.2.1 (by rw [hM.2.2.2.2.2.1]; exact Nat.le_of_ble_eq_true rfl) (by rw [hM.2.2.2.2.2.2.1]; exact Nat.le_of_ble_eq_true rfl) (jat hM.2.1 15 rfl) hq
    · have h := (if_neg hc18).symm.trans h
      obtain ⟨g5, h⟩ := jg h
      refine JW.r hM 8 5 (pc2 := 23) (L2 := [some (.ref 0), some (.int a), some (.int b), some (.int c)]) (st2 := [.int b, .int (G 2 a.toNatClampNeg)]) (μ2 := (hTown G)) rfl ⟨g5, trivial⟩ ?_
      refine js_icne (t := 28) hM.1 (jat hM.2.1 13 rfl) rfl (fun hc17 => ?_) (fun hc17 => ?_)
      · have h := (if_neg hc17).symm.trans h
        refine JW.r hM 16 1 (pc2 := 29) (L2 := [some (.ref 0), some (.int a), some (.int b), some (.int c)]) (st2 := [.int c]) (μ2 := (hTown G)) rfl trivial ?_
        refine js_iflt (t := 39) hM.1 (jat hM.2.1 17 rfl) rfl (fun hc16 => ?_) (fun hc16 => ?_)
        · have h := (if_pos hc16).symm.trans h
          refine JW.r hM 21 1 (pc2 := 40) (L2 := [some (.ref 0), some (.int a), some (.int b), some (.int c)]) (st2 := [.int (2 : Int32)]) (μ2 := (hTown G)) rfl trivial ?_
          cases h
          exact js_iret hM.1 hp hM.2.2.2.2.2.2.2.1 (by rw [hM.2.2.2.2.2.1]; exact Nat.le_of_ble_eq_true rfl) (by rw [hM.2.2.2.2.2.2.1]; exact Nat.le_of_ble_eq_true rfl) (jat hM.2.1 22 rfl) hq
        · have h := (if_neg hc16).symm.trans h
          refine JW.r hM 18 2 (pc2 := 36) (L2 := [some (.ref 0), some (.int a), some (.int b), some (.int c)]) (st2 := [.int (9999 : Int32), .int c]) (μ2 := (hTown G)) rfl trivial ?_
          refine js_icle (t := 41) hM.1 (jat hM.2.1 20 rfl) rfl (fun hc15 => ?_) (fun hc15 => ?_)
          · have h := (if_pos hc15).symm.trans h
            obtain ⟨g6, h⟩ := jg h
            refine JW.r hM 23 5 (pc2 := 48) (L2 := [some (.ref 0), some (.int a), some (.int b), some (.int c)]) (st2 := [.int c, .int (G 1 b.toNatClampNeg)]) (μ2 := (hTown G)) rfl ⟨g6, trivial⟩ ?_
            refine js_icge (t := 53) hM.1 (jat hM.2.1 28 rfl) rfl (fun hc14 => ?_) (fun hc14 => ?_)
            · have h := (if_pos hc14).symm.trans h
              refine JW.r hM 31 1 (pc2 := 54) (L2 := [some (.ref 0), some (.int a), some (.int b), some (.int c)]) (st2 := [.ref 0]) (μ2 := (hTown G)) rfl trivial ?_
              obtain ⟨v8, hv7, h⟩ := jbd h
              refine JW.cV (v := some (.int v8)) hM (m_X3_hasRung (jVX X) hM.1.2.2.2.2.2.2.2.2.2.1 N G v8 hv7) (sb_Town_Town_0 G) (bi_Town_Town_0 G) rfl rfl rfl kc_X3_76 rfl rfl rfl rfl rfl (jat hM.2.1 32 rfl) (st := []) rfl ?_
              show JW X 0 0 57 [some (.ref 0), some (.int a), some (.int b), some (.int c)] [.int v8] (hTown G)
              refine js_ifeq (t := 62) hM.1 (jat hM.2.1 33 rfl) rfl (fun hc13 => ?_) (fun hc13 => ?_)
              · have h := (if_pos hc13).symm.trans h
                refine JW.r hM 36 2 (pc2 := 64) (L2 := [some (.ref 0), some (.int a), some (.int b), some (.int c)]) (st2 := [.int a, .ref 0]) (μ2 := (hTown G)) rfl trivial ?_
                obtain ⟨v10, hv9, h⟩ := jbd h
                refine JW.cV (v := some (.int v10)) hM (m_X3_isEaten (jVX X) hM.1.2.2.2.2.2.2.2.2.2.1 N G a v10 hv9) (sb_Town_Town_0 G) (bi_Town_Town_0 G) rfl rfl rfl kc_X3_84 rfl rfl rfl rfl rfl (jat hM.2.1 38 rfl) (st := []) rfl ?_
                show JW X 0 0 67 [some (.ref 0), some (.int a), some (.int b), some (.int c)] [.int v10] (hTown G)
                refine js_ifeq (t := 72) hM.1 (jat hM.2.1 39 rfl) rfl (fun hc12 => ?_) (fun hc12 => ?_)
                · have h := (if_pos hc12).symm.trans h
                  refine JW.r hM 42 3 (pc2 := 78) (L2 := [some (.ref 0), some (.int a), some (.int b), some (.int c)]) (st2 := [.int (30 : Int32), .int (G 0 7)]) (μ2 := (hTown G)) rfl trivial ?_
                  refine js_iclt (t := 86) hM.1 (jat hM.2.1 45 rfl) rfl (fun hc11 => ?_) (fun hc11 => ?_)
                  · have h := (if_pos hc11).symm.trans h
                    refine JW.r hM 48 1 (pc2 := 87) (L2 := [some (.ref 0), some (.int a), some (.int b), some (.int c)]) (st2 := [.int (0 : Int32)]) (μ2 := (hTown G)) rfl trivial ?_
                    cases h
                    exact js_iret hM.1 hp hM.2.2.2.2.2.2.2.1 (by rw [hM.2.2.2.2.2.1]; exact Nat.le_of_ble_eq_true rfl) (by rw [hM.2.2.2.2.2.2.1]; exact Nat.le_of_ble_eq_true rfl) (jat hM.2.1 49 rfl) hq
                  · have h := (if_neg hc11).symm.trans h
                    refine JW.r hM 46 2 (pc2 := 87) (L2 := [some (.ref 0), some (.int a), some (.int b), some (.int c)]) (st2 := [.int (6 : Int32)]) (μ2 := (hTown G)) rfl trivial ?_
                    cases h
                    exact js_iret hM.1 hp hM.2.2.2.2.2.2.2.1 (by rw [hM.2.2.2.2.2.1]; exact Nat.le_of_ble_eq_true rfl) (by rw [hM.2.2.2.2.2.2.1]; exact Nat.le_of_ble_eq_true rfl) (jat hM.2.1 49 rfl) hq
                · have h := (if_neg hc12).symm.trans h
                  refine JW.r hM 40 1 (pc2 := 71) (L2 := [some (.ref 0), some (.int a), some (.int b), some (.int c)]) (st2 := [.int (5 : Int32)]) (μ2 := (hTown G)) rfl trivial ?_
                  cases h
                  exact js_iret hM.1 hp hM.2.2.2.2.2.2.2.1 (by rw [hM.2.2.2.2.2.1]; exact Nat.le_of_ble_eq_true rfl) (by rw [hM.2.2.2.2.2.2.1]; exact Nat.le_of_ble_eq_true rfl) (jat hM.2.1 41 rfl) hq
              · have h := (if_neg hc13).symm.trans h
                refine JW.r hM 34 1 (pc2 := 61) (L2 := [some (.ref 0), some (.int a), some (.int b), some (.int c)]) (st2 := [.int (4 : Int32)]) (μ2 := (hTown G)) rfl trivial ?_
                cases h
                exact js_iret hM.1 hp hM.2.2.2.2.2.2.2.1 (by rw [hM.2.2.2.2.2.1]; exact Nat.le_of_ble_eq_true rfl) (by rw [hM.2.2.2.2.2.2.1]; exact Nat.le_of_ble_eq_true rfl) (jat hM.2.1 35 rfl) hq
            · have h := (if_neg hc14).symm.trans h
              refine JW.r hM 29 1 (pc2 := 52) (L2 := [some (.ref 0), some (.int a), some (.int b), some (.int c)]) (st2 := [.int (3 : Int32)]) (μ2 := (hTown G)) rfl trivial ?_
              cases h
              exact js_iret hM.1 hp hM.2.2.2.2.2.2.2.1 (by rw [hM.2.2.2.2.2.1]; exact Nat.le_of_ble_eq_true rfl) (by rw [hM.2.2.2.2.2.2.1]; exact Nat.le_of_ble_eq_true rfl) (jat hM.2.1 30 rfl) hq
          · have h := (if_neg hc15).symm.trans h
            refine JW.r hM 21 1 (pc2 := 40) (L2 := [some (.ref 0), some (.int a), some (.int b), some (.int c)]) (st2 := [.int (2 : Int32)]) (μ2 := (hTown G)) rfl trivial ?_
            cases h
            exact js_iret hM.1 hp hM.2.2.2.2.2.2.2.1 (by rw [hM.2.2.2.2.2.1]; exact Nat.le_of_ble_eq_true rfl) (by rw [hM.2.2.2.2.2.2.1]; exact Nat.le_of_ble_eq_true rfl) (jat hM.2.1 22 rfl) hq
      · have h := (if_pos hc17).symm.trans h
        refine JW.r hM 14 1 (pc2 := 27) (L2 := [some (.ref 0), some (.int a), some (.int b), some (.int c)]) (st2 := [.int (1 : Int32)]) (μ2 := (hTown G)) rfl trivial ?_
        cases h
        exact js_iret hM.1 hp hM.2.2.2.2.2.2.2.1 (by rw [hM.2.2.2.2.2.1]; exact Nat.le_of_ble_eq_true rfl) (by rw [hM.2.2.2.2.2.2.1]; exact Nat.le_of_ble_eq_true rfl) (jat hM.2.1 15 rfl) hq
theorem m_X3_whyNoDeed (V : jV) (hV : V.1.stackTraces = false) (N : Nat) (G : Nat → Nat → Int32) (a : Int32) (b : Int32) (c : Int32) (v : Int32) (h : p_X3_whyNoDeed N G a b c = some v) : jMet V yX3_whyNoDeed (jws yX3_whyNoDeed cX3_whyNoDeed 4 (some .int)) ⟨1, 0, 0, 21⟩ true 1 [.ref 0, .int a, .int b, .int c] (hTown G) (fun o ν => o = some (.int v) ∧ ν = (hTown G)) (fun _ _ => False) := by
  refine jmk (tb := tbX3) (C := kX3_whyNoDeed) hV rfl (by decide) tbX3_ok rfl kX3_whyNoDeed_ok rfl ?_
  intro X hM _ hp _
  exact t_X3_whyNoDeed hM hp N G a b c h ⟨rfl, rfl⟩
def p_X3_make (N : Nat) (G : Nat → Nat → Int32) (a : Int32) (b : Int32) (c : Int32) : Option (Int32 × (Nat → Nat → Int32)) :=
  if jin (G 0 7) 30 = true then jlt (jup G 4 (G 0 7).toNatClampNeg a) fun G2 => if jin a 10 = true then if jin (G 0 7) 30 = true then jlt (jup G2 5 (G 0 7).toNatClampNeg (G2 2 a.toNatClampNeg)) fun G6 => if jin (G 0 7) 30 = true then jlt (jup G6 6 (G 0 7).toNatClampNeg b) fun G9 => if jin (G 0 7) 30 = true then jlt (jup G9 7 (G 0 7).toNatClampNeg c) fun G12 => if jin (G 0 7) 30 = true then jlt (jup G12 8 (G 0 7).toNatClampNeg (G12 0 6)) fun G15 => jlt (jup G15 0 8 ((G15 0 8) ||| ((1 : Int32) <<< ((G 0 7) &&& 31)))) fun G17 => jlt (jup G17 0 7 ((G17 0 7) + (1 : Int32))) fun G19 => if jin b 6 = true then if jin b 6 = true then jlt (jup G19 1 b.toNatClampNeg ((G19 1 b.toNatClampNeg) - c)) fun G23 => if jin a 10 = true then if jin (G23 2 a.toNatClampNeg) 6 = true then if jin (G23 2 a.toNatClampNeg) 6 = true then jlt (jup G23 1 (G23 2 a.toNatClampNeg).toNatClampNeg ((G23 1 (G23 2 a.toNatClampNeg).toNatClampNeg) + c)) fun G28 => if jin a 10 = true then jlt (jup G28 2 a.toNatClampNeg b) fun G31 => some ((G 0 7), G31) else none else none else none else none else none else none else none else none else none else none else none else none
set_option maxHeartbeats 4000000 in
set_option maxRecDepth 100000 in
theorem t_X3_make {X : jX} {po : Option Value → jH → Prop} {px : String → jH → Prop} {sf : Bool} {B9 : Nat} (hM : jMX X kX3_make RX3 tbX3 5 ⟨0, 0, 0, 0⟩ (some .int) 10) (hp : jPost X sf B9 po px) (N : Nat) (G : Nat → Nat → Int32) (a : Int32) (b : Int32) (c : Int32) {res : Int32 × (Nat → Nat → Int32)} (h : p_X3_make N G a b c = some res) (hq : po (some (.int res.1)) (hTown res.2)) : JW X 0 0 0 [some (.ref 0), some (.int a), some (.int b), some (.int c), none] [] (hTown G) := by
  unfold p_X3_make at h
  obtain ⟨g1, h⟩ := jg h
  obtain ⟨G2, e3, h⟩ := jlE h
  refine JW.r hM 0 8 (pc2 := 14) (L2 := [some (.ref 0), some (.int a), some (.int b), some (.int c), some (.int (G 0 7))]) (st2 := []) (μ2 := (hTown (jup G 4 (G 0 7).toNatClampNeg a))) rfl ⟨g1, trivial⟩ ?_
  rw [e3]
  obtain ⟨g4, h⟩ := jg h
  obtain ⟨g5, h⟩ := jg h
  obtain ⟨G6, e7, h⟩ := jlE h
  refine JW.r hM 8 8 (pc2 := 27) (L2 := [some (.ref 0), some (.int a), some (.int b), some (.int c), some (.int (G 0 7))]) (st2 := []) (μ2 := (hTown (jup G2 5 (G 0 7).toNatClampNeg (G2 2 a.toNatClampNeg)))) rfl ⟨g4, g5, trivial⟩ ?_
  rw [e7]
  obtain ⟨g8, h⟩ := jg h
  obtain ⟨G9, e10, h⟩ := jlE h
  refine JW.r hM 16 5 (pc2 := 35) (L2 := [some (.ref 0), some (.int a), some (.int b), some (.int c), some (.int (G 0 7))]) (st2 := []) (μ2 := (hTown (jup G6 6 (G 0 7).toNatClampNeg b))) rfl ⟨g8, trivial⟩ ?_
  rw [e10]
  obtain ⟨g11, h⟩ := jg h
  obtain ⟨G12, e13, h⟩ := jlE h
  refine JW.r hM 21 5 (pc2 := 43) (L2 := [some (.ref 0), some (.int a), some (.int b), some (.int c), some (.int (G 0 7))]) (st2 := []) (μ2 := (hTown (jup G9 7 (G 0 7).toNatClampNeg c))) rfl ⟨g11, trivial⟩ ?_
  rw [e13]
  obtain ⟨g14, h⟩ := jg h
  obtain ⟨G15, e16, h⟩ := jlE h
  refine JW.r hM 26 6 (pc2 := 54) (L2 := [some (.ref 0), some (.int a), some (.int b), some (.int c), some (.int (G 0 7))]) (st2 := []) (μ2 := (hTown (jup G12 8 (G 0 7).toNatClampNeg (G12 0 6)))) rfl ⟨g14, trivial⟩ ?_
  rw [e16]
  obtain ⟨G17, e18, h⟩ := jlE h
  refine JW.r hM 32 8 (pc2 := 67) (L2 := [some (.ref 0), some (.int a), some (.int b), some (.int c), some (.int (G 0 7))]) (st2 := []) (μ2 := (hTown (jup G15 0 8 ((G15 0 8) ||| ((1 : Int32) <<< ((G 0 7) &&& 31)))))) rfl trivial ?_
  rw [e18]
  obtain ⟨G19, e20, h⟩ := jlE h
  refine JW.r hM 40 6 (pc2 := 77) (L2 := [some (.ref 0), some (.int a), some (.int b), some (.int c), some (.int (G 0 7))]) (st2 := []) (μ2 := (hTown (jup G17 0 7 ((G17 0 7) + (1 : Int32))))) rfl trivial ?_
  rw [e20]
  obtain ⟨g21, h⟩ := jg h
  obtain ⟨g22, h⟩ := jg h
  obtain ⟨G23, e24, h⟩ := jlE h
  refine JW.r hM 46 8 (pc2 := 87) (L2 := [some (.ref 0), some (.int a), some (.int b), some (.int c), some (.int (G 0 7))]) (st2 := []) (μ2 := (hTown (jup G19 1 b.toNatClampNeg ((G19 1 b.toNatClampNeg) - c)))) rfl ⟨g21, g22, trivial⟩ ?_
  rw [e24]
  obtain ⟨g25, h⟩ := jg h
  obtain ⟨g26, h⟩ := jg h
  obtain ⟨g27, h⟩ := jg h
  obtain ⟨G28, e29, h⟩ := jlE h
  refine JW.r hM 54 11 (pc2 := 102) (L2 := [some (.ref 0), some (.int a), some (.int b), some (.int c), some (.int (G 0 7))]) (st2 := []) (μ2 := (hTown (jup G23 1 (G23 2 a.toNatClampNeg).toNatClampNeg ((G23 1 (G23 2 a.toNatClampNeg).toNatClampNeg) + c)))) rfl ⟨g25, g26, g27, trivial⟩ ?_
  rw [e29]
  obtain ⟨g30, h⟩ := jg h
  obtain ⟨G31, e32, h⟩ := jlE h
  refine JW.r hM 65 5 (pc2 := 109) (L2 := [some (.ref 0), some (.int a), some (.int b), some (.int c), some (.int (G 0 7))]) (st2 := []) (μ2 := (hTown (jup G28 2 a.toNatClampNeg b))) rfl ⟨g30, trivial⟩ ?_
  rw [e32]
  refine JW.r hM 70 1 (pc2 := 111) (L2 := [some (.ref 0), some (.int a), some (.int b), some (.int c), some (.int (G 0 7))]) (st2 := [.int (G 0 7)]) (μ2 := (hTown G31)) rfl trivial ?_
  cases h
  exact js_iret hM.1 hp hM.2.2.2.2.2.2.2.1 (by rw [hM.2.2.2.2.2.1]; exact Nat.le_of_ble_eq_true rfl) (by rw [hM.2.2.2.2.2.2.1]; exact Nat.le_of_ble_eq_true rfl) (jat hM.2.1 71 rfl) hq
theorem m_X3_make (V : jV) (hV : V.1.stackTraces = false) (N : Nat) (G : Nat → Nat → Int32) (a : Int32) (b : Int32) (c : Int32) (v : Int32 × (Nat → Nat → Int32)) (h : p_X3_make N G a b c = some v) : jMet V yX3_make (jws yX3_make cX3_make 5 (some .int)) ⟨0, 0, 0, 0⟩ true 1 [.ref 0, .int a, .int b, .int c] (hTown G) (fun o ν => o = some (.int v.1) ∧ ν = (hTown v.2)) (fun _ _ => False) := by
  refine jmk (tb := tbX3) (C := kX3_make) hV rfl (by decide) tbX3_ok rfl kX3_make_ok rfl ?_
  intro X hM _ hp _
  exact t_X3_make hM hp N G a b c h ⟨rfl, rfl⟩
def p_X3_fallsWith (N : Nat) (G : Nat → Nat → Int32) (a : Int32) (b : Int32) : Option (Int32) :=
  if a < b then (some (0 : Int32)) else ((p_X3_stands N G b).bind (fun v2 => if v2 = 0 then (some (0 : Int32)) else ((p_X3_stands N G a).bind (fun v4 => if v4 = 0 then (some (0 : Int32)) else (if jin a 30 = true then if jin b 30 = true then if (G 4 a.toNatClampNeg) = (G 4 b.toNatClampNeg) then (some (1 : Int32)) else (some (0 : Int32)) else none else none)))))
set_option maxHeartbeats 4000000 in
set_option maxRecDepth 100000 in
theorem t_X3_fallsWith {X : jX} {po : Option Value → jH → Prop} {px : String → jH → Prop} {sf : Bool} {B9 : Nat} (hM : jMX X kX3_fallsWith RX3 tbX3 3 ⟨1, 0, 0, 21⟩ (some .boolean) 10) (hp : jPost X sf B9 po px) (N : Nat) (G : Nat → Nat → Int32) (a : Int32) (b : Int32) {res : Int32} (h : p_X3_fallsWith N G a b = some res) (hq : po (some (.int res)) (hTown G)) : JW X 0 0 0 [some (.ref 0), some (.int a), some (.int b)] [] (hTown G) := by
  unfold p_X3_fallsWith at h
  refine JW.r hM 0 2 (pc2 := 2) (L2 := [some (.ref 0), some (.int a), some (.int b)]) (st2 := [.int b, .int a]) (μ2 := (hTown G)) rfl trivial ?_
  refine js_iclt (t := 40) hM.1 (jat hM.2.1 2 rfl) rfl (fun hc10 => ?_) (fun hc10 => ?_)
  · have h := (if_pos hc10).symm.trans h
    refine JW.r hM 22 1 (pc2 := 41) (L2 := [some (.ref 0), some (.int a), some (.int b)]) (st2 := [.int (0 : Int32)]) (μ2 := (hTown G)) rfl trivial ?_
    cases h
    exact js_zret hM.1 hp hM.2.2.2.2.2.2.2.1 rfl (by rw [hM.2.2.2.2.2.1]; exact Nat.le_of_ble_eq_true rfl) (by rw [hM.2.2.2.2.2.2.1]; exact Nat.le_of_ble_eq_true rfl) (jat hM.2.1 23 rfl) hq
  · have h := (if_neg hc10).symm.trans h
    refine JW.r hM 3 2 (pc2 := 7) (L2 := [some (.ref 0), some (.int a), some (.int b)]) (st2 := [.int b, .ref 0]) (μ2 := (hTown G)) rfl trivial ?_
    obtain ⟨v2, hv1, h⟩ := jbd h
    refine JW.cV (v := some (.int v2)) hM (m_X3_stands (jVX X) hM.1.2.2.2.2.2.2.2.2.2.1 N G b v2 hv1) (sb_Town_Town_0 G) (bi_Town_Town_0 G) rfl rfl rfl kc_X3_80 rfl rfl rfl rfl rfl (jat hM.2.1 5 rfl) (st := []) rfl ?_
    show JW X 0 0 10 [some (.ref 0), some (.int a), some (.int b)] [.int v2] (hTown G)
    refine js_ifeq (t := 40) hM.1 (jat hM.2.1 6 rfl) rfl (fun hc9 => ?_) (fun hc9 => ?_)
    · have h := (if_pos hc9).symm.trans h
      refine JW.r hM 22 1 (pc2 := 41) (L2 := [some (.ref 0), some (.int a), some (.int b)]) (st2 := [.int (0 : Int32)]) (μ2 := (hTown G)) rfl trivial ?_
      cases h
      exact js_zret hM.1 hp hM.2.2.2.2.2.2.2.1 rfl (by rw [hM.2.2.2.2.2.1]; exact Nat.le_of_ble_eq_true rfl) (by rw [hM.2.2.2.2.2.2.1]; exact Nat.le_of_ble_eq_true rfl) (jat hM.2.1 23 rfl) hq
    · have h := (if_neg hc9).symm.trans h
      refine JW.r hM 7 2 (pc2 := 15) (L2 := [some (.ref 0), some (.int a), some (.int b)]) (st2 := [.int a, .ref 0]) (μ2 := (hTown G)) rfl trivial ?_
      obtain ⟨v4, hv3, h⟩ := jbd h
      refine JW.cV (v := some (.int v4)) hM (m_X3_stands (jVX X) hM.1.2.2.2.2.2.2.2.2.2.1 N G a v4 hv3) (sb_Town_Town_0 G) (bi_Town_Town_0 G) rfl rfl rfl kc_X3_80 rfl rfl rfl rfl rfl (jat hM.2.1 9 rfl) (st := []) rfl ?_
      show JW X 0 0 18 [some (.ref 0), some (.int a), some (.int b)] [.int v4] (hTown G)
      refine js_ifeq (t := 40) hM.1 (jat hM.2.1 10 rfl) rfl (fun hc8 => ?_) (fun hc8 => ?_)
      · have h := (if_pos hc8).symm.trans h
        refine JW.r hM 22 1 (pc2 := 41) (L2 := [some (.ref 0), some (.int a), some (.int b)]) (st2 := [.int (0 : Int32)]) (μ2 := (hTown G)) rfl trivial ?_
        cases h
        exact js_zret hM.1 hp hM.2.2.2.2.2.2.2.1 rfl (by rw [hM.2.2.2.2.2.1]; exact Nat.le_of_ble_eq_true rfl) (by rw [hM.2.2.2.2.2.2.1]; exact Nat.le_of_ble_eq_true rfl) (jat hM.2.1 23 rfl) hq
      · have h := (if_neg hc8).symm.trans h
        obtain ⟨g5, h⟩ := jg h
        obtain ⟨g6, h⟩ := jg h
        refine JW.r hM 11 8 (pc2 := 33) (L2 := [some (.ref 0), some (.int a), some (.int b)]) (st2 := [.int (G 4 b.toNatClampNeg), .int (G 4 a.toNatClampNeg)]) (μ2 := (hTown G)) rfl ⟨g5, g6, trivial⟩ ?_
        refine js_icne (t := 40) hM.1 (jat hM.2.1 19 rfl) rfl (fun hc7 => ?_) (fun hc7 => ?_)
        · have h := (if_neg hc7).symm.trans h
          refine JW.r hM 22 1 (pc2 := 41) (L2 := [some (.ref 0), some (.int a), some (.int b)]) (st2 := [.int (0 : Int32)]) (μ2 := (hTown G)) rfl trivial ?_
          cases h
          exact js_zret hM.1 hp hM.2.2.2.2.2.2.2.1 rfl (by rw [hM.2.2.2.2.2.1]; exact Nat.le_of_ble_eq_true rfl) (by rw [hM.2.2.2.2.2.2.1]; exact Nat.le_of_ble_eq_true rfl) (jat hM.2.1 23 rfl) hq
        · have h := (if_pos hc7).symm.trans h
          refine JW.r hM 20 2 (pc2 := 41) (L2 := [some (.ref 0), some (.int a), some (.int b)]) (st2 := [.int (1 : Int32)]) (μ2 := (hTown G)) rfl trivial ?_
          cases h
          exact js_zret hM.1 hp hM.2.2.2.2.2.2.2.1 rfl (by rw [hM.2.2.2.2.2.1]; exact Nat.le_of_ble_eq_true rfl) (by rw [hM.2.2.2.2.2.2.1]; exact Nat.le_of_ble_eq_true rfl) (jat hM.2.1 23 rfl) hq
theorem m_X3_fallsWith (V : jV) (hV : V.1.stackTraces = false) (N : Nat) (G : Nat → Nat → Int32) (a : Int32) (b : Int32) (v : Int32) (h : p_X3_fallsWith N G a b = some v) : jMet V yX3_fallsWith (jws yX3_fallsWith cX3_fallsWith 3 (some .boolean)) ⟨1, 0, 0, 21⟩ true 1 [.ref 0, .int a, .int b] (hTown G) (fun o ν => o = some (.int v) ∧ ν = (hTown G)) (fun _ _ => False) := by
  refine jmk (tb := tbX3) (C := kX3_fallsWith) hV rfl (by decide) tbX3_ok rfl kX3_fallsWith_ok rfl ?_
  intro X hM _ hp _
  exact t_X3_fallsWith hM hp N G a b h ⟨rfl, rfl⟩
def p_X3_priceChange_b74 (N : Nat) (G : Nat → Nat → Int32) (rv5 : Int32 → Int32 → Int32 → Int32 → Option (Int32)) (x1 : Int32) (x2 : Int32) (x3 : Int32) (x4 : Int32) : Option (Int32) :=
  rv5 x1 x2 x3 (x4 + 1)
def p_X3_priceChange_b72 (N : Nat) (G : Nat → Nat → Int32) (rv5 : Int32 → Int32 → Int32 → Int32 → Option (Int32)) (x1 : Int32) (x2 : Int32) (x4 : Int32) (s0 : Int32) (s1 : Int32) : Option (Int32) :=
  p_X3_priceChange_b74 N G rv5 x1 x2 (s1 - s0) x4
def p_X3_priceChange_b47 (N : Nat) (G : Nat → Nat → Int32) (rv5 : Int32 → Int32 → Int32 → Int32 → Option (Int32)) (x1 : Int32) (x2 : Int32) (x4 : Int32) (s0 : Int32) (s1 : Int32) : Option (Int32) :=
  if jin x4 30 = true then if (G 5 x4.toNatClampNeg) = x2 then (if jin x4 30 = true then p_X3_priceChange_b72 N G rv5 x1 x2 x4 (G 7 x4.toNatClampNeg) (s1 + s0) else none) else (p_X3_priceChange_b72 N G rv5 x1 x2 x4 (0 : Int32) (s1 + s0)) else none
def p_X3_priceChange_b5 (N : Nat) (G : Nat → Nat → Int32) : Nat → (Int32) → (Int32) → (Int32) → (Int32) → Option (Int32)
  | 0, _, _, _, _ => none
  | n + 1, x1, x2, x3, x4 => if (G 0 7) ≤ x4 then (some x3) else ((p_X3_fallsWith N G x4 x1).bind (fun v2 => if v2 = 0 then (p_X3_priceChange_b74 N G (p_X3_priceChange_b5 N G n) x1 x2 x3 x4) else (if jin x4 30 = true then if (G 6 x4.toNatClampNeg) = x2 then (if jin x4 30 = true then p_X3_priceChange_b47 N G (p_X3_priceChange_b5 N G n) x1 x2 x4 (G 7 x4.toNatClampNeg) x3 else none) else (p_X3_priceChange_b47 N G (p_X3_priceChange_b5 N G n) x1 x2 x4 (0 : Int32) x3) else none)))
def p_X3_priceChange (N : Nat) (G : Nat → Nat → Int32) (a : Int32) (b : Int32) : Option (Int32) :=
  p_X3_priceChange_b5 N G N a b (0 : Int32) a
set_option maxHeartbeats 4000000 in
set_option maxRecDepth 100000 in
theorem t_X3_priceChange_b74 {X : jX} {po : Option Value → jH → Prop} {px : String → jH → Prop} {sf : Bool} {B9 : Nat} (hM : jMX X kX3_priceChange RX3 tbX3 5 ⟨2, 0, 0, 43⟩ (some .int) 10) (hp : jPost X sf B9 po px) (N : Nat) (G : Nat → Nat → Int32) (rv5 : Int32 → Int32 → Int32 → Int32 → Option (Int32)) {res : Int32} (ih5 : ∀ (x1 : Int32) (x2 : Int32) (x3 : Int32) (x4 : Int32), rv5 x1 x2 x3 x4 = some res → JW X 0 0 5 [some (.ref 0), some (.int x1), some (.int x2), some (.int x3), some (.int x4)] [] (hTown G)) (x1 : Int32) (x2 : Int32) (x3 : Int32) (x4 : Int32) (h : p_X3_priceChange_b74 N G rv5 x1 x2 x3 x4 = some res) (hq : po (some (.int res)) (hTown G)) : JW X 0 0 74 [some (.ref 0), some (.int x1), some (.int x2), some (.int x3), some (.int x4)] [] (hTown G) := by
  unfold p_X3_priceChange_b74 at h
  refine JW.r hM 43 2 (pc2 := 5) (L2 := [some (.ref 0), some (.int x1), some (.int x2), some (.int x3), some (.int (x4 + 1))]) (st2 := []) (μ2 := (hTown G)) rfl trivial ?_
  exact ih5 x1 x2 x3 (x4 + 1) h
set_option maxHeartbeats 4000000 in
set_option maxRecDepth 100000 in
theorem t_X3_priceChange_b72 {X : jX} {po : Option Value → jH → Prop} {px : String → jH → Prop} {sf : Bool} {B9 : Nat} (hM : jMX X kX3_priceChange RX3 tbX3 5 ⟨2, 0, 0, 43⟩ (some .int) 10) (hp : jPost X sf B9 po px) (N : Nat) (G : Nat → Nat → Int32) (rv5 : Int32 → Int32 → Int32 → Int32 → Option (Int32)) {res : Int32} (ih5 : ∀ (x1 : Int32) (x2 : Int32) (x3 : Int32) (x4 : Int32), rv5 x1 x2 x3 x4 = some res → JW X 0 0 5 [some (.ref 0), some (.int x1), some (.int x2), some (.int x3), some (.int x4)] [] (hTown G)) (x1 : Int32) (x2 : Int32) (x4 : Int32) (s0 : Int32) (s1 : Int32) (h : p_X3_priceChange_b72 N G rv5 x1 x2 x4 s0 s1 = some res) (hq : po (some (.int res)) (hTown G)) : JW X 0 0 72 [some (.ref 0), some (.int x1), some (.int x2), none, some (.int x4)] [.int s0, .int s1] (hTown G) := by
  unfold p_X3_priceChange_b72 at h
  refine JW.r hM 41 2 (pc2 := 74) (L2 := [some (.ref 0), some (.int x1), some (.int x2), some (.int (s1 - s0)), some (.int x4)]) (st2 := []) (μ2 := (hTown G)) rfl trivial ?_
  exact t_X3_priceChange_b74 hM hp N G rv5 ih5 x1 x2 (s1 - s0) x4 h hq
set_option maxHeartbeats 4000000 in
set_option maxRecDepth 100000 in
theorem t_X3_priceChange_b47 {X : jX} {po : Option Value → jH → Prop} {px : String → jH → Prop} {sf : Bool} {B9 : Nat} (hM : jMX X kX3_priceChange RX3 tbX3 5 ⟨2, 0, 0, 43⟩ (some .int) 10) (hp : jPost X sf B9 po px) (N : Nat) (G : Nat → Nat → Int32) (rv5 : Int32 → Int32 → Int32 → Int32 → Option (Int32)) {res : Int32} (ih5 : ∀ (x1 : Int32) (x2 : Int32) (x3 : Int32) (x4 : Int32), rv5 x1 x2 x3 x4 = some res → JW X 0 0 5 [some (.ref 0), some (.int x1), some (.int x2), some (.int x3), some (.int x4)] [] (hTown G)) (x1 : Int32) (x2 : Int32) (x4 : Int32) (s0 : Int32) (s1 : Int32) (h : p_X3_priceChange_b47 N G rv5 x1 x2 x4 s0 s1 = some res) (hq : po (some (.int res)) (hTown G)) : JW X 0 0 47 [some (.ref 0), some (.int x1), some (.int x2), none, some (.int x4)] [.int s0, .int s1] (hTown G) := by
  unfold p_X3_priceChange_b47 at h
  obtain ⟨g4, h⟩ := jg h
  refine JW.r hM 26 8 (pc2 := 58) (L2 := [some (.ref 0), some (.int x1), some (.int x2), some (.int (s1 + s0)), some (.int x4)]) (st2 := [.int x2, .int (G 5 x4.toNatClampNeg), .int (s1 + s0)]) (μ2 := (hTown G)) rfl ⟨g4, trivial⟩ ?_
  refine js_icne (t := 71) hM.1 (jat hM.2.1 34 rfl) rfl (fun hc6 => ?_) (fun hc6 => ?_)
  · have h := (if_neg hc6).symm.trans h
    refine JW.r hM 40 1 (pc2 := 72) (L2 := [some (.ref 0), some (.int x1), some (.int x2), some (.int (s1 + s0)), some (.int x4)]) (st2 := [.int (0 : Int32), .int (s1 + s0)]) (μ2 := (hTown G)) rfl trivial ?_
    exact JW.mask [true, true, true, false, true] (t_X3_priceChange_b72 hM hp N G rv5 ih5 x1 x2 x4 (0 : Int32) (s1 + s0) h hq)
  · have h := (if_pos hc6).symm.trans h
    obtain ⟨g5, h⟩ := jg h
    refine JW.r hM 35 5 (pc2 := 72) (L2 := [some (.ref 0), some (.int x1), some (.int x2), some (.int (s1 + s0)), some (.int x4)]) (st2 := [.int (G 7 x4.toNatClampNeg), .int (s1 + s0)]) (μ2 := (hTown G)) rfl ⟨g5, trivial⟩ ?_
    exact JW.mask [true, true, true, false, true] (t_X3_priceChange_b72 hM hp N G rv5 ih5 x1 x2 x4 (G 7 x4.toNatClampNeg) (s1 + s0) h hq)
set_option maxHeartbeats 4000000 in
set_option maxRecDepth 100000 in
theorem t_X3_priceChange_b5 {X : jX} {po : Option Value → jH → Prop} {px : String → jH → Prop} {sf : Bool} {B9 : Nat} (hM : jMX X kX3_priceChange RX3 tbX3 5 ⟨2, 0, 0, 43⟩ (some .int) 10) (hp : jPost X sf B9 po px) (N : Nat) (G : Nat → Nat → Int32) {res : Int32} : ∀ (n : Nat) (x1 : Int32) (x2 : Int32) (x3 : Int32) (x4 : Int32) (h : p_X3_priceChange_b5 N G n x1 x2 x3 x4 = some res) (hq : po (some (.int res)) (hTown G)), JW X 0 0 5 [some (.ref 0), some (.int x1), some (.int x2), some (.int x3), some (.int x4)] [] (hTown G) := by
  intro n
  induction n with
  | zero =>
    intro x1 x2 x3 x4 h hq
    cases (show (none : Option (Int32)) = some res from h)
  | succ n ih5 =>
    intro x1 x2 x3 x4 h hq
    have ih5 := fun x1 x2 x3 x4 h9 => ih5 x1 x2 x3 x4 h9 hq
    rw [p_X3_priceChange_b5] at h
    refine JW.r hM 4 3 (pc2 := 11) (L2 := [some (.ref 0), some (.int x1), some (.int x2), some (.int x3), some (.int x4)]) (st2 := [.int (G 0 7), .int x4]) (μ2 := (hTown G)) rfl trivial ?_
    refine js_icge (t := 80) hM.1 (jat hM.2.1 7 rfl) rfl (fun hc10 => ?_) (fun hc10 => ?_)
    · have h := (if_pos hc10).symm.trans h
      refine JW.r hM 45 1 (pc2 := 81) (L2 := [some (.ref 0), some (.int x1), some (.int x2), some (.int x3), some (.int x4)]) (st2 := [.int x3]) (μ2 := (hTown G)) rfl trivial ?_
      cases h
      exact js_iret hM.1 hp hM.2.2.2.2.2.2.2.1 (by rw [hM.2.2.2.2.2.1]; exact Nat.le_of_ble_eq_true rfl) (by rw [hM.2.2.2.2.2.2.1]; exact Nat.le_of_ble_eq_true rfl) (jat hM.2.1 46 rfl) hq
    · have h := (if_neg hc10).symm.trans h
      refine JW.r hM 8 3 (pc2 := 18) (L2 := [some (.ref 0), some (.int x1), some (.int x2), some (.int x3), some (.int x4)]) (st2 := [.int x1, .int x4, .ref 0]) (μ2 := (hTown G)) rfl trivial ?_
      obtain ⟨v2, hv1, h⟩ := jbd h
      refine JW.cV (v := some (.int v2)) hM (m_X3_fallsWith (jVX X) hM.1.2.2.2.2.2.2.2.2.2.1 N G x4 x1 v2 hv1) (sb_Town_Town_0 G) (bi_Town_Town_0 G) rfl rfl rfl kc_X3_134 rfl rfl rfl rfl rfl (jat hM.2.1 11 rfl) (st := []) rfl ?_
      show JW X 0 0 21 [some (.ref 0), some (.int x1), some (.int x2), some (.int x3), some (.int x4)] [.int v2] (hTown G)
      refine js_ifeq (t := 74) hM.1 (jat hM.2.1 12 rfl) rfl (fun hc9 => ?_) (fun hc9 => ?_)
      · have h := (if_pos hc9).symm.trans h
        exact t_X3_priceChange_b74 hM hp N G (p_X3_priceChange_b5 N G n) ih5 x1 x2 x3 x4 h hq
      · have h := (if_neg hc9).symm.trans h
        obtain ⟨g3, h⟩ := jg h
        refine JW.r hM 13 6 (pc2 := 33) (L2 := [some (.ref 0), some (.int x1), some (.int x2), some (.int x3), some (.int x4)]) (st2 := [.int x2, .int (G 6 x4.toNatClampNeg), .int x3]) (μ2 := (hTown G)) rfl ⟨g3, trivial⟩ ?_
        refine js_icne (t := 46) hM.1 (jat hM.2.1 19 rfl) rfl (fun hc8 => ?_) (fun hc8 => ?_)
        · have h := (if_neg hc8).symm.trans h
          refine JW.r hM 25 1 (pc2 := 47) (L2 := [some (.ref 0), some (.int x1), some (.int x2), some (.int x3), some (.int x4)]) (st2 := [.int (0 : Int32), .int x3]) (μ2 := (hTown G)) rfl trivial ?_
          exact JW.mask [true, true, true, false, true] (t_X3_priceChange_b47 hM hp N G (p_X3_priceChange_b5 N G n) ih5 x1 x2 x4 (0 : Int32) x3 h hq)
        · have h := (if_pos hc8).symm.trans h
          obtain ⟨g7, h⟩ := jg h
          refine JW.r hM 20 5 (pc2 := 47) (L2 := [some (.ref 0), some (.int x1), some (.int x2), some (.int x3), some (.int x4)]) (st2 := [.int (G 7 x4.toNatClampNeg), .int x3]) (μ2 := (hTown G)) rfl ⟨g7, trivial⟩ ?_
          exact JW.mask [true, true, true, false, true] (t_X3_priceChange_b47 hM hp N G (p_X3_priceChange_b5 N G n) ih5 x1 x2 x4 (G 7 x4.toNatClampNeg) x3 h hq)
set_option maxHeartbeats 4000000 in
set_option maxRecDepth 100000 in
theorem t_X3_priceChange {X : jX} {po : Option Value → jH → Prop} {px : String → jH → Prop} {sf : Bool} {B9 : Nat} (hM : jMX X kX3_priceChange RX3 tbX3 5 ⟨2, 0, 0, 43⟩ (some .int) 10) (hp : jPost X sf B9 po px) (N : Nat) (G : Nat → Nat → Int32) (a : Int32) (b : Int32) {res : Int32} (h : p_X3_priceChange N G a b = some res) (hq : po (some (.int res)) (hTown G)) : JW X 0 0 0 [some (.ref 0), some (.int a), some (.int b), none, none] [] (hTown G) := by
  unfold p_X3_priceChange at h
  refine JW.r hM 0 4 (pc2 := 5) (L2 := [some (.ref 0), some (.int a), some (.int b), some (.int (0 : Int32)), some (.int a)]) (st2 := []) (μ2 := (hTown G)) rfl trivial ?_
  exact t_X3_priceChange_b5 hM hp N G N a b (0 : Int32) a h hq
theorem m_X3_priceChange (V : jV) (hV : V.1.stackTraces = false) (N : Nat) (G : Nat → Nat → Int32) (a : Int32) (b : Int32) (v : Int32) (h : p_X3_priceChange N G a b = some v) : jMet V yX3_priceChange (jws yX3_priceChange cX3_priceChange 5 (some .int)) ⟨2, 0, 0, 43⟩ true 1 [.ref 0, .int a, .int b] (hTown G) (fun o ν => o = some (.int v) ∧ ν = (hTown G)) (fun _ _ => False) := by
  refine jmk (tb := tbX3) (C := kX3_priceChange) hV rfl (by decide) tbX3_ok rfl kX3_priceChange_ok rfl ?_
  intro X hM _ hp _
  exact t_X3_priceChange hM hp N G a b h ⟨rfl, rfl⟩
def p_X3_owedToAll_b80 (N : Nat) (G : Nat → Nat → Int32) (rv5 : Int32 → Int32 → Int32 → Int32 → Option (Int32)) (x1 : Int32) (x2 : Int32) (x3 : Int32) (x4 : Int32) : Option (Int32) :=
  rv5 x1 x2 x3 (x4 + 1)
def p_X3_owedToAll_b78 (N : Nat) (G : Nat → Nat → Int32) (rv5 : Int32 → Int32 → Int32 → Int32 → Option (Int32)) (x1 : Int32) (x2 : Int32) (x4 : Int32) (s0 : Int32) (s1 : Int32) : Option (Int32) :=
  p_X3_owedToAll_b80 N G rv5 x1 x2 (s1 + s0) x4
def p_X3_owedToAll_b50 (N : Nat) (G : Nat → Nat → Int32) (rv5 : Int32 → Int32 → Int32 → Int32 → Option (Int32)) (x1 : Int32) (x2 : Int32) (x4 : Int32) (s0 : Int32) (s1 : Int32) : Option (Int32) :=
  if jin x4 30 = true then if (G 6 x4.toNatClampNeg) = x2 then (p_X3_owedToAll_b78 N G rv5 x1 x2 x4 (0 : Int32) (s1 + s0)) else ((p_X3_worthToTaker N G x4).bind (fun v16 => (p_X3_cut N G v16).bind (fun v18 => p_X3_owedToAll_b80 N G rv5 x1 x2 ((s1 + s0) + v18) x4))) else none
def p_X3_owedToAll_b5 (N : Nat) (G : Nat → Nat → Int32) : Nat → (Int32) → (Int32) → (Int32) → (Int32) → Option (Int32)
  | 0, _, _, _, _ => none
  | n + 1, x1, x2, x3, x4 => if (G 0 7) ≤ x4 then (some x3) else ((p_X3_fallsWith N G x4 x1).bind (fun v2 => if v2 = 0 then (p_X3_owedToAll_b80 N G (p_X3_owedToAll_b5 N G n) x1 x2 x3 x4) else (if jin x4 30 = true then if (G 5 x4.toNatClampNeg) = x2 then (p_X3_owedToAll_b50 N G (p_X3_owedToAll_b5 N G n) x1 x2 x4 (0 : Int32) x3) else ((p_X3_worthToGiver N G x4).bind (fun v5 => (p_X3_cut N G v5).bind (fun v7 => if jin x4 30 = true then if (G 6 x4.toNatClampNeg) = x2 then (p_X3_owedToAll_b78 N G (p_X3_owedToAll_b5 N G n) x1 x2 x4 (0 : Int32) (x3 + v7)) else ((p_X3_worthToTaker N G x4).bind (fun v10 => (p_X3_cut N G v10).bind (fun v12 => p_X3_owedToAll_b80 N G (p_X3_owedToAll_b5 N G n) x1 x2 ((x3 + v7) + v12) x4))) else none))) else none)))
def p_X3_owedToAll (N : Nat) (G : Nat → Nat → Int32) (a : Int32) (b : Int32) : Option (Int32) :=
  p_X3_owedToAll_b5 N G N a b (0 : Int32) a
set_option maxHeartbeats 4000000 in
set_option maxRecDepth 100000 in
theorem t_X3_owedToAll_b80 {X : jX} {po : Option Value → jH → Prop} {px : String → jH → Prop} {sf : Bool} {B9 : Nat} (hM : jMX X kX3_owedToAll RX3 tbX3 5 ⟨2, 0, 0, 43⟩ (some .int) 10) (hp : jPost X sf B9 po px) (N : Nat) (G : Nat → Nat → Int32) (rv5 : Int32 → Int32 → Int32 → Int32 → Option (Int32)) {res : Int32} (ih5 : ∀ (x1 : Int32) (x2 : Int32) (x3 : Int32) (x4 : Int32), rv5 x1 x2 x3 x4 = some res → JW X 0 0 5 [some (.ref 0), some (.int x1), some (.int x2), some (.int x3), some (.int x4)] [] (hTown G)) (x1 : Int32) (x2 : Int32) (x3 : Int32) (x4 : Int32) (h : p_X3_owedToAll_b80 N G rv5 x1 x2 x3 x4 = some res) (hq : po (some (.int res)) (hTown G)) : JW X 0 0 80 [some (.ref 0), some (.int x1), some (.int x2), some (.int x3), some (.int x4)] [] (hTown G) := by
  unfold p_X3_owedToAll_b80 at h
  refine JW.r hM 45 2 (pc2 := 5) (L2 := [some (.ref 0), some (.int x1), some (.int x2), some (.int x3), some (.int (x4 + 1))]) (st2 := []) (μ2 := (hTown G)) rfl trivial ?_
  exact ih5 x1 x2 x3 (x4 + 1) h
set_option maxHeartbeats 4000000 in
set_option maxRecDepth 100000 in
theorem t_X3_owedToAll_b78 {X : jX} {po : Option Value → jH → Prop} {px : String → jH → Prop} {sf : Bool} {B9 : Nat} (hM : jMX X kX3_owedToAll RX3 tbX3 5 ⟨2, 0, 0, 43⟩ (some .int) 10) (hp : jPost X sf B9 po px) (N : Nat) (G : Nat → Nat → Int32) (rv5 : Int32 → Int32 → Int32 → Int32 → Option (Int32)) {res : Int32} (ih5 : ∀ (x1 : Int32) (x2 : Int32) (x3 : Int32) (x4 : Int32), rv5 x1 x2 x3 x4 = some res → JW X 0 0 5 [some (.ref 0), some (.int x1), some (.int x2), some (.int x3), some (.int x4)] [] (hTown G)) (x1 : Int32) (x2 : Int32) (x4 : Int32) (s0 : Int32) (s1 : Int32) (h : p_X3_owedToAll_b78 N G rv5 x1 x2 x4 s0 s1 = some res) (hq : po (some (.int res)) (hTown G)) : JW X 0 0 78 [some (.ref 0), some (.int x1), some (.int x2), none, some (.int x4)] [.int s0, .int s1] (hTown G) := by
  unfold p_X3_owedToAll_b78 at h
  refine JW.r hM 43 2 (pc2 := 80) (L2 := [some (.ref 0), some (.int x1), some (.int x2), some (.int (s1 + s0)), some (.int x4)]) (st2 := []) (μ2 := (hTown G)) rfl trivial ?_
  exact t_X3_owedToAll_b80 hM hp N G rv5 ih5 x1 x2 (s1 + s0) x4 h hq
set_option maxHeartbeats 4000000 in
set_option maxRecDepth 100000 in
theorem t_X3_owedToAll_b50 {X : jX} {po : Option Value → jH → Prop} {px : String → jH → Prop} {sf : Bool} {B9 : Nat} (hM : jMX X kX3_owedToAll RX3 tbX3 5 ⟨2, 0, 0, 43⟩ (some .int) 10) (hp : jPost X sf B9 po px) (N : Nat) (G : Nat → Nat → Int32) (rv5 : Int32 → Int32 → Int32 → Int32 → Option (Int32)) {res : Int32} (ih5 : ∀ (x1 : Int32) (x2 : Int32) (x3 : Int32) (x4 : Int32), rv5 x1 x2 x3 x4 = some res → JW X 0 0 5 [some (.ref 0), some (.int x1), some (.int x2), some (.int x3), some (.int x4)] [] (hTown G)) (x1 : Int32) (x2 : Int32) (x4 : Int32) (s0 : Int32) (s1 : Int32) (h : p_X3_owedToAll_b50 N G rv5 x1 x2 x4 s0 s1 = some res) (hq : po (some (.int res)) (hTown G)) : JW X 0 0 50 [some (.ref 0), some (.int x1), some (.int x2), none, some (.int x4)] [.int s0, .int s1] (hTown G) := by
  unfold p_X3_owedToAll_b50 at h
  obtain ⟨g14, h⟩ := jg h
  refine JW.r hM 27 8 (pc2 := 61) (L2 := [some (.ref 0), some (.int x1), some (.int x2), some (.int (s1 + s0)), some (.int x4)]) (st2 := [.int x2, .int (G 6 x4.toNatClampNeg), .int (s1 + s0)]) (μ2 := (hTown G)) rfl ⟨g14, trivial⟩ ?_
  refine js_icne (t := 68) hM.1 (jat hM.2.1 35 rfl) rfl (fun hc19 => ?_) (fun hc19 => ?_)
  · have h := (if_neg hc19).symm.trans h
    refine JW.r hM 38 3 (pc2 := 72) (L2 := [some (.ref 0), some (.int x1), some (.int x2), some (.int (s1 + s0)), some (.int x4)]) (st2 := [.int x4, .ref 0, .ref 0, .int (s1 + s0)]) (μ2 := (hTown G)) rfl trivial ?_
    obtain ⟨v16, hv15, h⟩ := jbd h
    refine JW.cV (v := some (.int v16)) hM (m_X3_worthToTaker (jVX X) hM.1.2.2.2.2.2.2.2.2.2.1 N G x4 v16 hv15) (sb_Town_Town_0 G) (bi_Town_Town_0 G) rfl rfl rfl kc_X3_143 rfl rfl rfl rfl rfl (jat hM.2.1 41 rfl) (st := [.ref 0, .int (s1 + s0)]) rfl ?_
    show JW X 0 0 75 [some (.ref 0), some (.int x1), some (.int x2), some (.int (s1 + s0)), some (.int x4)] [.int v16, .ref 0, .int (s1 + s0)] (hTown G)
    obtain ⟨v18, hv17, h⟩ := jbd h
    refine JW.cV (v := some (.int v18)) hM (m_X3_cut (jVX X) hM.1.2.2.2.2.2.2.2.2.2.1 N G v16 v18 hv17) (sb_Town_Town_0 G) (bi_Town_Town_0 G) rfl rfl rfl kc_X3_140 rfl rfl rfl rfl rfl (jat hM.2.1 42 rfl) (st := [.int (s1 + s0)]) rfl ?_
    show JW X 0 0 78 [some (.ref 0), some (.int x1), some (.int x2), some (.int (s1 + s0)), some (.int x4)] [.int v18, .int (s1 + s0)] (hTown G)
    refine JW.r hM 43 2 (pc2 := 80) (L2 := [some (.ref 0), some (.int x1), some (.int x2), some (.int ((s1 + s0) + v18)), some (.int x4)]) (st2 := []) (μ2 := (hTown G)) rfl trivial ?_
    exact t_X3_owedToAll_b80 hM hp N G rv5 ih5 x1 x2 ((s1 + s0) + v18) x4 h hq
  · have h := (if_pos hc19).symm.trans h
    refine JW.r hM 36 2 (pc2 := 78) (L2 := [some (.ref 0), some (.int x1), some (.int x2), some (.int (s1 + s0)), some (.int x4)]) (st2 := [.int (0 : Int32), .int (s1 + s0)]) (μ2 := (hTown G)) rfl trivial ?_
    exact JW.mask [true, true, true, false, true] (t_X3_owedToAll_b78 hM hp N G rv5 ih5 x1 x2 x4 (0 : Int32) (s1 + s0) h hq)
set_option maxHeartbeats 4000000 in
set_option maxRecDepth 100000 in
theorem t_X3_owedToAll_b5 {X : jX} {po : Option Value → jH → Prop} {px : String → jH → Prop} {sf : Bool} {B9 : Nat} (hM : jMX X kX3_owedToAll RX3 tbX3 5 ⟨2, 0, 0, 43⟩ (some .int) 10) (hp : jPost X sf B9 po px) (N : Nat) (G : Nat → Nat → Int32) {res : Int32} : ∀ (n : Nat) (x1 : Int32) (x2 : Int32) (x3 : Int32) (x4 : Int32) (h : p_X3_owedToAll_b5 N G n x1 x2 x3 x4 = some res) (hq : po (some (.int res)) (hTown G)), JW X 0 0 5 [some (.ref 0), some (.int x1), some (.int x2), some (.int x3), some (.int x4)] [] (hTown G) := by
  intro n
  induction n with
  | zero =>
    intro x1 x2 x3 x4 h hq
    cases (show (none : Option (Int32)) = some res from h)
  | succ n ih5 =>
    intro x1 x2 x3 x4 h hq
    have ih5 := fun x1 x2 x3 x4 h9 => ih5 x1 x2 x3 x4 h9 hq
    rw [p_X3_owedToAll_b5] at h
    refine JW.r hM 4 3 (pc2 := 11) (L2 := [some (.ref 0), some (.int x1), some (.int x2), some (.int x3), some (.int x4)]) (st2 := [.int (G 0 7), .int x4]) (μ2 := (hTown G)) rfl trivial ?_
    refine js_icge (t := 86) hM.1 (jat hM.2.1 7 rfl) rfl (fun hc22 => ?_) (fun hc22 => ?_)
    · have h := (if_pos hc22).symm.trans h
      refine JW.r hM 47 1 (pc2 := 87) (L2 := [some (.ref 0), some (.int x1), some (.int x2), some (.int x3), some (.int x4)]) (st2 := [.int x3]) (μ2 := (hTown G)) rfl trivial ?_
      cases h
      exact js_iret hM.1 hp hM.2.2.2.2.2.2.2.1 (by rw [hM.2.2.2.2.2.1]; exact Nat.le_of_ble_eq_true rfl) (by rw [hM.2.2.2.2.2.2.1]; exact Nat.le_of_ble_eq_true rfl) (jat hM.2.1 48 rfl) hq
    · have h := (if_neg hc22).symm.trans h
      refine JW.r hM 8 3 (pc2 := 18) (L2 := [some (.ref 0), some (.int x1), some (.int x2), some (.int x3), some (.int x4)]) (st2 := [.int x1, .int x4, .ref 0]) (μ2 := (hTown G)) rfl trivial ?_
      obtain ⟨v2, hv1, h⟩ := jbd h
      refine JW.cV (v := some (.int v2)) hM (m_X3_fallsWith (jVX X) hM.1.2.2.2.2.2.2.2.2.2.1 N G x4 x1 v2 hv1) (sb_Town_Town_0 G) (bi_Town_Town_0 G) rfl rfl rfl kc_X3_134 rfl rfl rfl rfl rfl (jat hM.2.1 11 rfl) (st := []) rfl ?_
      show JW X 0 0 21 [some (.ref 0), some (.int x1), some (.int x2), some (.int x3), some (.int x4)] [.int v2] (hTown G)
      refine js_ifeq (t := 80) hM.1 (jat hM.2.1 12 rfl) rfl (fun hc21 => ?_) (fun hc21 => ?_)
      · have h := (if_pos hc21).symm.trans h
        exact t_X3_owedToAll_b80 hM hp N G (p_X3_owedToAll_b5 N G n) ih5 x1 x2 x3 x4 h hq
      · have h := (if_neg hc21).symm.trans h
        obtain ⟨g3, h⟩ := jg h
        refine JW.r hM 13 6 (pc2 := 33) (L2 := [some (.ref 0), some (.int x1), some (.int x2), some (.int x3), some (.int x4)]) (st2 := [.int x2, .int (G 5 x4.toNatClampNeg), .int x3]) (μ2 := (hTown G)) rfl ⟨g3, trivial⟩ ?_
        refine js_icne (t := 40) hM.1 (jat hM.2.1 19 rfl) rfl (fun hc20 => ?_) (fun hc20 => ?_)
        · have h := (if_neg hc20).symm.trans h
          refine JW.r hM 22 3 (pc2 := 44) (L2 := [some (.ref 0), some (.int x1), some (.int x2), some (.int x3), some (.int x4)]) (st2 := [.int x4, .ref 0, .ref 0, .int x3]) (μ2 := (hTown G)) rfl trivial ?_
          obtain ⟨v5, hv4, h⟩ := jbd h
          refine JW.cV (v := some (.int v5)) hM (m_X3_worthToGiver (jVX X) hM.1.2.2.2.2.2.2.2.2.2.1 N G x4 v5 hv4) (sb_Town_Town_0 G) (bi_Town_Town_0 G) rfl rfl rfl kc_X3_137 rfl rfl rfl rfl rfl (jat hM.2.1 25 rfl) (st := [.ref 0, .int x3]) rfl ?_
          show JW X 0 0 47 [some (.ref 0), some (.int x1), some (.int x2), some (.int x3), some (.int x4)] [.int v5, .ref 0, .int x3] (hTown G)
          obtain ⟨v7, hv6, h⟩ := jbd h
          refine JW.cV (v := some (.int v7)) hM (m_X3_cut (jVX X) hM.1.2.2.2.2.2.2.2.2.2.1 N G v5 v7 hv6) (sb_Town_Town_0 G) (bi_Town_Town_0 G) rfl rfl rfl kc_X3_140 rfl rfl rfl rfl rfl (jat hM.2.1 26 rfl) (st := [.int x3]) rfl ?_
          show JW X 0 0 50 [some (.ref 0), some (.int x1), some (.int x2), some (.int x3), some (.int x4)] [.int v7, .int x3] (hTown G)
          obtain ⟨g8, h⟩ := jg h
          refine JW.r hM 27 8 (pc2 := 61) (L2 := [some (.ref 0), some (.int x1), some (.int x2), some (.int (x3 + v7)), some (.int x4)]) (st2 := [.int x2, .int (G 6 x4.toNatClampNeg), .int (x3 + v7)]) (μ2 := (hTown G)) rfl ⟨g8, trivial⟩ ?_
          refine js_icne (t := 68) hM.1 (jat hM.2.1 35 rfl) rfl (fun hc13 => ?_) (fun hc13 => ?_)
          · have h := (if_neg hc13).symm.trans h
            refine JW.r hM 38 3 (pc2 := 72) (L2 := [some (.ref 0), some (.int x1), some (.int x2), some (.int (x3 + v7)), some (.int x4)]) (st2 := [.int x4, .ref 0, .ref 0, .int (x3 + v7)]) (μ2 := (hTown G)) rfl trivial ?_
            obtain ⟨v10, hv9, h⟩ := jbd h
            refine JW.cV (v := some (.int v10)) hM (m_X3_worthToTaker (jVX X) hM.1.2.2.2.2.2.2.2.2.2.1 N G x4 v10 hv9) (sb_Town_Town_0 G) (bi_Town_Town_0 G) rfl rfl rfl kc_X3_143 rfl rfl rfl rfl rfl (jat hM.2.1 41 rfl) (st := [.ref 0, .int (x3 + v7)]) rfl ?_
            show JW X 0 0 75 [some (.ref 0), some (.int x1), some (.int x2), some (.int (x3 + v7)), some (.int x4)] [.int v10, .ref 0, .int (x3 + v7)] (hTown G)
            obtain ⟨v12, hv11, h⟩ := jbd h
            refine JW.cV (v := some (.int v12)) hM (m_X3_cut (jVX X) hM.1.2.2.2.2.2.2.2.2.2.1 N G v10 v12 hv11) (sb_Town_Town_0 G) (bi_Town_Town_0 G) rfl rfl rfl kc_X3_140 rfl rfl rfl rfl rfl (jat hM.2.1 42 rfl) (st := [.int (x3 + v7)]) rfl ?_
            show JW X 0 0 78 [some (.ref 0), some (.int x1), some (.int x2), some (.int (x3 + v7)), some (.int x4)] [.int v12, .int (x3 + v7)] (hTown G)
            refine JW.r hM 43 2 (pc2 := 80) (L2 := [some (.ref 0), some (.int x1), some (.int x2), some (.int ((x3 + v7) + v12)), some (.int x4)]) (st2 := []) (μ2 := (hTown G)) rfl trivial ?_
            exact t_X3_owedToAll_b80 hM hp N G (p_X3_owedToAll_b5 N G n) ih5 x1 x2 ((x3 + v7) + v12) x4 h hq
          · have h := (if_pos hc13).symm.trans h
            refine JW.r hM 36 2 (pc2 := 78) (L2 := [some (.ref 0), some (.int x1), some (.int x2), some (.int (x3 + v7)), some (.int x4)]) (st2 := [.int (0 : Int32), .int (x3 + v7)]) (μ2 := (hTown G)) rfl trivial ?_
            exact JW.mask [true, true, true, false, true] (t_X3_owedToAll_b78 hM hp N G (p_X3_owedToAll_b5 N G n) ih5 x1 x2 x4 (0 : Int32) (x3 + v7) h hq)
        · have h := (if_pos hc20).symm.trans h
          refine JW.r hM 20 2 (pc2 := 50) (L2 := [some (.ref 0), some (.int x1), some (.int x2), some (.int x3), some (.int x4)]) (st2 := [.int (0 : Int32), .int x3]) (μ2 := (hTown G)) rfl trivial ?_
          exact JW.mask [true, true, true, false, true] (t_X3_owedToAll_b50 hM hp N G (p_X3_owedToAll_b5 N G n) ih5 x1 x2 x4 (0 : Int32) x3 h hq)
set_option maxHeartbeats 4000000 in
set_option maxRecDepth 100000 in
theorem t_X3_owedToAll {X : jX} {po : Option Value → jH → Prop} {px : String → jH → Prop} {sf : Bool} {B9 : Nat} (hM : jMX X kX3_owedToAll RX3 tbX3 5 ⟨2, 0, 0, 43⟩ (some .int) 10) (hp : jPost X sf B9 po px) (N : Nat) (G : Nat → Nat → Int32) (a : Int32) (b : Int32) {res : Int32} (h : p_X3_owedToAll N G a b = some res) (hq : po (some (.int res)) (hTown G)) : JW X 0 0 0 [some (.ref 0), some (.int a), some (.int b), none, none] [] (hTown G) := by
  unfold p_X3_owedToAll at h
  refine JW.r hM 0 4 (pc2 := 5) (L2 := [some (.ref 0), some (.int a), some (.int b), some (.int (0 : Int32)), some (.int a)]) (st2 := []) (μ2 := (hTown G)) rfl trivial ?_
  exact t_X3_owedToAll_b5 hM hp N G N a b (0 : Int32) a h hq
theorem m_X3_owedToAll (V : jV) (hV : V.1.stackTraces = false) (N : Nat) (G : Nat → Nat → Int32) (a : Int32) (b : Int32) (v : Int32) (h : p_X3_owedToAll N G a b = some v) : jMet V yX3_owedToAll (jws yX3_owedToAll cX3_owedToAll 5 (some .int)) ⟨2, 0, 0, 43⟩ true 1 [.ref 0, .int a, .int b] (hTown G) (fun o ν => o = some (.int v) ∧ ν = (hTown G)) (fun _ _ => False) := by
  refine jmk (tb := tbX3) (C := kX3_owedToAll) hV rfl (by decide) tbX3_ok rfl kX3_owedToAll_ok rfl ?_
  intro X hM _ hp _
  exact t_X3_owedToAll hM hp N G a b h ⟨rfl, rfl⟩
def p_X3_whyNoUndoing (N : Nat) (G : Nat → Nat → Int32) (a : Int32) (b : Int32) : Option (Int32) :=
  (p_X3_hasDeed N G a).bind (fun v2 => if v2 = 0 then (some (1 : Int32)) else ((p_X3_stands N G a).bind (fun v4 => if v4 = 0 then (some (2 : Int32)) else ((p_X3_isOf N G a b).bind (fun v6 => if v6 = 0 then (some (3 : Int32)) else ((p_X3_hasRung N G).bind (fun v8 => if v8 = 0 then (if jin a 30 = true then (p_X3_isEaten N G (G 4 a.toNatClampNeg)).bind (fun v11 => if v11 = 0 then (if jin b 6 = true then (p_X3_priceChange N G a b).bind (fun v14 => (p_X3_owedToAll N G a b).bind (fun v16 => if 0 ≤ (((G 1 b.toNatClampNeg) + v14) - v16) then (some (0 : Int32)) else (some (6 : Int32)))) else none) else (some (5 : Int32))) else none) else (some (4 : Int32)))))))))
set_option maxHeartbeats 4000000 in
set_option maxRecDepth 100000 in
theorem t_X3_whyNoUndoing {X : jX} {po : Option Value → jH → Prop} {px : String → jH → Prop} {sf : Bool} {B9 : Nat} (hM : jMX X kX3_whyNoUndoing RX3 tbX3 3 ⟨3, 0, 0, 67⟩ (some .int) 10) (hp : jPost X sf B9 po px) (N : Nat) (G : Nat → Nat → Int32) (a : Int32) (b : Int32) {res : Int32} (h : p_X3_whyNoUndoing N G a b = some res) (hq : po (some (.int res)) (hTown G)) : JW X 0 0 0 [some (.ref 0), some (.int a), some (.int b)] [] (hTown G) := by
  unfold p_X3_whyNoUndoing at h
  refine JW.r hM 0 2 (pc2 := 2) (L2 := [some (.ref 0), some (.int a), some (.int b)]) (st2 := [.int a, .ref 0]) (μ2 := (hTown G)) rfl trivial ?_
  obtain ⟨v2, hv1, h⟩ := jbd h
  refine JW.cV (v := some (.int v2)) hM (m_X3_hasDeed (jVX X) hM.1.2.2.2.2.2.2.2.2.2.1 N G a v2 hv1) (sb_Town_Town_0 G) (bi_Town_Town_0 G) rfl rfl rfl kc_X3_109 rfl rfl rfl rfl rfl (jat hM.2.1 2 rfl) (st := []) rfl ?_
  show JW X 0 0 5 [some (.ref 0), some (.int a), some (.int b)] [.int v2] (hTown G)
  refine js_ifne (t := 10) hM.1 (jat hM.2.1 3 rfl) rfl (fun hc22 => ?_) (fun hc22 => ?_)
  · have h := (if_neg hc22).symm.trans h
    refine JW.r hM 6 2 (pc2 := 12) (L2 := [some (.ref 0), some (.int a), some (.int b)]) (st2 := [.int a, .ref 0]) (μ2 := (hTown G)) rfl trivial ?_
    obtain ⟨v4, hv3, h⟩ := jbd h
    refine JW.cV (v := some (.int v4)) hM (m_X3_stands (jVX X) hM.1.2.2.2.2.2.2.2.2.2.1 N G a v4 hv3) (sb_Town_Town_0 G) (bi_Town_Town_0 G) rfl rfl rfl kc_X3_80 rfl rfl rfl rfl rfl (jat hM.2.1 8 rfl) (st := []) rfl ?_
    show JW X 0 0 15 [some (.ref 0), some (.int a), some (.int b)] [.int v4] (hTown G)
    refine js_ifne (t := 20) hM.1 (jat hM.2.1 9 rfl) rfl (fun hc21 => ?_) (fun hc21 => ?_)
    · have h := (if_neg hc21).symm.trans h
      refine JW.r hM 12 3 (pc2 := 23) (L2 := [some (.ref 0), some (.int a), some (.int b)]) (st2 := [.int b, .int a, .ref 0]) (μ2 := (hTown G)) rfl trivial ?_
      obtain ⟨v6, hv5, h⟩ := jbd h
      refine JW.cV (v := some (.int v6)) hM (m_X3_isOf (jVX X) hM.1.2.2.2.2.2.2.2.2.2.1 N G a b v6 hv5) (sb_Town_Town_0 G) (bi_Town_Town_0 G) rfl rfl rfl kc_X3_112 rfl rfl rfl rfl rfl (jat hM.2.1 15 rfl) (st := []) rfl ?_
      show JW X 0 0 26 [some (.ref 0), some (.int a), some (.int b)] [.int v6] (hTown G)
      refine js_ifne (t := 31) hM.1 (jat hM.2.1 16 rfl) rfl (fun hc20 => ?_) (fun hc20 => ?_)
      · have h := (if_neg hc20).symm.trans h
        refine JW.r hM 19 1 (pc2 := 32) (L2 := [some (.ref 0), some (.int a), some (.int b)]) (st2 := [.ref 0]) (μ2 := (hTown G)) rfl trivial ?_
        obtain ⟨v8, hv7, h⟩ := jbd h
        refine JW.cV (v := some (.int v8)) hM (m_X3_hasRung (jVX X) hM.1.2.2.2.2.2.2.2.2.2.1 N G v8 hv7) (sb_Town_Town_0 G) (bi_Town_Town_0 G) rfl rfl rfl kc_X3_76 rfl rfl rfl rfl rfl (jat hM.2.1 20 rfl) (st := []) rfl ?_
        show JW X 0 0 35 [some (.ref 0), some (.int a), some (.int b)] [.int v8] (hTown G)
        refine js_ifeq (t := 40) hM.1 (jat hM.2.1 21 rfl) rfl (fun hc19 => ?_) (fun hc19 => ?_)
        · have h := (if_pos hc19).symm.trans h
          obtain ⟨g9, h⟩ := jg h
          refine JW.r hM 24 5 (pc2 := 47) (L2 := [some (.ref 0), some (.int a), some (.int b)]) (st2 := [.int (G 4 a.toNatClampNeg), .ref 0]) (μ2 := (hTown G)) rfl ⟨g9, trivial⟩ ?_
          obtain ⟨v11, hv10, h⟩ := jbd h
          refine JW.cV (v := some (.int v11)) hM (m_X3_isEaten (jVX X) hM.1.2.2.2.2.2.2.2.2.2.1 N G (G 4 a.toNatClampNeg) v11 hv10) (sb_Town_Town_0 G) (bi_Town_Town_0 G) rfl rfl rfl kc_X3_84 rfl rfl rfl rfl rfl (jat hM.2.1 29 rfl) (st := []) rfl ?_
          show JW X 0 0 50 [some (.ref 0), some (.int a), some (.int b)] [.int v11] (hTown G)
          refine js_ifeq (t := 55) hM.1 (jat hM.2.1 30 rfl) rfl (fun hc18 => ?_) (fun hc18 => ?_)
          · have h := (if_pos hc18).symm.trans h
            obtain ⟨g12, h⟩ := jg h
            refine JW.r hM 33 7 (pc2 := 64) (L2 := [some (.ref 0), some (.int a), some (.int b)]) (st2 := [.int b, .int a, .ref 0, .int (G 1 b.toNatClampNeg)]) (μ2 := (hTown G)) rfl ⟨g12, trivial⟩ ?_
            obtain ⟨v14, hv13, h⟩ := jbd h
            refine JW.cV (v := some (.int v14)) hM (m_X3_priceChange (jVX X) hM.1.2.2.2.2.2.2.2.2.2.1 N G a b v14 hv13) (sb_Town_Town_0 G) (bi_Town_Town_0 G) rfl rfl rfl kc_X3_116 rfl rfl rfl rfl rfl (jat hM.2.1 40 rfl) (st := [.int (G 1 b.toNatClampNeg)]) rfl ?_
            show JW X 0 0 67 [some (.ref 0), some (.int a), some (.int b)] [.int v14, .int (G 1 b.toNatClampNeg)] (hTown G)
            refine JW.r hM 41 4 (pc2 := 71) (L2 := [some (.ref 0), some (.int a), some (.int b)]) (st2 := [.int b, .int a, .ref 0, .int ((G 1 b.toNatClampNeg) + v14)]) (μ2 := (hTown G)) rfl trivial ?_
            obtain ⟨v16, hv15, h⟩ := jbd h
            refine JW.cV (v := some (.int v16)) hM (m_X3_owedToAll (jVX X) hM.1.2.2.2.2.2.2.2.2.2.1 N G a b v16 hv15) (sb_Town_Town_0 G) (bi_Town_Town_0 G) rfl rfl rfl kc_X3_119 rfl rfl rfl rfl rfl (jat hM.2.1 45 rfl) (st := [.int ((G 1 b.toNatClampNeg) + v14)]) rfl ?_
            show JW X 0 0 74 [some (.ref 0), some (.int a), some (.int b)] [.int v16, .int ((G 1 b.toNatClampNeg) + v14)] (hTown G)
            refine JW.r hM 46 1 (pc2 := 75) (L2 := [some (.ref 0), some (.int a), some (.int b)]) (st2 := [.int (((G 1 b.toNatClampNeg) + v14) - v16)]) (μ2 := (hTown G)) rfl trivial ?_
            refine js_ifge (t := 83) hM.1 (jat hM.2.1 47 rfl) rfl (fun hc17 => ?_) (fun hc17 => ?_)
            · have h := (if_pos hc17).symm.trans h
              refine JW.r hM 50 1 (pc2 := 84) (L2 := [some (.ref 0), some (.int a), some (.int b)]) (st2 := [.int (0 : Int32)]) (μ2 := (hTown G)) rfl trivial ?_
              cases h
              exact js_iret hM.1 hp hM.2.2.2.2.2.2.2.1 (by rw [hM.2.2.2.2.2.1]; exact Nat.le_of_ble_eq_true rfl) (by rw [hM.2.2.2.2.2.2.1]; exact Nat.le_of_ble_eq_true rfl) (jat hM.2.1 51 rfl) hq
            · have h := (if_neg hc17).symm.trans h
              refine JW.r hM 48 2 (pc2 := 84) (L2 := [some (.ref 0), some (.int a), some (.int b)]) (st2 := [.int (6 : Int32)]) (μ2 := (hTown G)) rfl trivial ?_
              cases h
              exact js_iret hM.1 hp hM.2.2.2.2.2.2.2.1 (by rw [hM.2.2.2.2.2.1]; exact Nat.le_of_ble_eq_true rfl) (by rw [hM.2.2.2.2.2.2.1]; exact Nat.le_of_ble_eq_true rfl) (jat hM.2.1 51 rfl) hq
          · have h := (if_neg hc18).symm.trans h
            refine JW.r hM 31 1 (pc2 := 54) (L2 := [some (.ref 0), some (.int a), some (.int b)]) (st2 := [.int (5 : Int32)]) (μ2 := (hTown G)) rfl trivial ?_
            cases h
            exact js_iret hM.1 hp hM.2.2.2.2.2.2.2.1 (by rw [hM.2.2.2.2.2.1]; exact Nat.le_of_ble_eq_true rfl) (by rw [hM.2.2.2.2.2.2.1]; exact Nat.le_of_ble_eq_true rfl) (jat hM.2.1 32 rfl) hq
        · have h := (if_neg hc19).symm.trans h
          refine JW.r hM 22 1 (pc2 := 39) (L2 := [some (.ref 0), some (.int a), some (.int b)]) (st2 := [.int (4 : Int32)]) (μ2 := (hTown G)) rfl trivial ?_
          cases h
          exact js_iret hM.1 hp hM.2.2.2.2.2.2.2.1 (by rw [hM.2.2.2.2.2.1]; exact Nat.le_of_ble_eq_true rfl) (by rw [hM.2.2.2.2.2.2.1]; exact Nat.le_of_ble_eq_true rfl) (jat hM.2.1 23 rfl) hq
      · have h := (if_pos hc20).symm.trans h
        refine JW.r hM 17 1 (pc2 := 30) (L2 := [some (.ref 0), some (.int a), some (.int b)]) (st2 := [.int (3 : Int32)]) (μ2 := (hTown G)) rfl trivial ?_
        cases h
        exact js_iret hM.1 hp hM.2.2.2.2.2.2.2.1 (by rw [hM.2.2.2.2.2.1]; exact Nat.le_of_ble_eq_true rfl) (by rw [hM.2.2.2.2.2.2.1]; exact Nat.le_of_ble_eq_true rfl) (jat hM.2.1 18 rfl) hq
    · have h := (if_pos hc21).symm.trans h
      refine JW.r hM 10 1 (pc2 := 19) (L2 := [some (.ref 0), some (.int a), some (.int b)]) (st2 := [.int (2 : Int32)]) (μ2 := (hTown G)) rfl trivial ?_
      cases h
      exact js_iret hM.1 hp hM.2.2.2.2.2.2.2.1 (by rw [hM.2.2.2.2.2.1]; exact Nat.le_of_ble_eq_true rfl) (by rw [hM.2.2.2.2.2.2.1]; exact Nat.le_of_ble_eq_true rfl) (jat hM.2.1 11 rfl) hq
  · have h := (if_pos hc22).symm.trans h
    refine JW.r hM 4 1 (pc2 := 9) (L2 := [some (.ref 0), some (.int a), some (.int b)]) (st2 := [.int (1 : Int32)]) (μ2 := (hTown G)) rfl trivial ?_
    cases h
    exact js_iret hM.1 hp hM.2.2.2.2.2.2.2.1 (by rw [hM.2.2.2.2.2.1]; exact Nat.le_of_ble_eq_true rfl) (by rw [hM.2.2.2.2.2.2.1]; exact Nat.le_of_ble_eq_true rfl) (jat hM.2.1 5 rfl) hq
theorem m_X3_whyNoUndoing (V : jV) (hV : V.1.stackTraces = false) (N : Nat) (G : Nat → Nat → Int32) (a : Int32) (b : Int32) (v : Int32) (h : p_X3_whyNoUndoing N G a b = some v) : jMet V yX3_whyNoUndoing (jws yX3_whyNoUndoing cX3_whyNoUndoing 3 (some .int)) ⟨3, 0, 0, 67⟩ true 1 [.ref 0, .int a, .int b] (hTown G) (fun o ν => o = some (.int v) ∧ ν = (hTown G)) (fun _ _ => False) := by
  refine jmk (tb := tbX3) (C := kX3_whyNoUndoing) hV rfl (by decide) tbX3_ok rfl kX3_whyNoUndoing_ok rfl ?_
  intro X hM _ hp _
  exact t_X3_whyNoUndoing hM hp N G a b h ⟨rfl, rfl⟩
def p_X3_fallBits_b27 (N : Nat) (G : Nat → Nat → Int32) (rv4 : Int32 → Int32 → Int32 → Option (Int32)) (x1 : Int32) (x2 : Int32) (x3 : Int32) : Option (Int32) :=
  rv4 x1 x2 (x3 + 1)
def p_X3_fallBits_b4 (N : Nat) (G : Nat → Nat → Int32) : Nat → (Int32) → (Int32) → (Int32) → Option (Int32)
  | 0, _, _, _ => none
  | n + 1, x1, x2, x3 => if (G 0 7) ≤ x3 then (some x2) else ((p_X3_fallsWith N G x3 x1).bind (fun v2 => if v2 = 0 then (p_X3_fallBits_b27 N G (p_X3_fallBits_b4 N G n) x1 x2 x3) else (p_X3_fallBits_b27 N G (p_X3_fallBits_b4 N G n) x1 (x2 ||| ((1 : Int32) <<< (x3 &&& 31))) x3)))
def p_X3_fallBits (N : Nat) (G : Nat → Nat → Int32) (a : Int32) : Option (Int32) :=
  p_X3_fallBits_b4 N G N a (0 : Int32) a
set_option maxHeartbeats 4000000 in
set_option maxRecDepth 100000 in
theorem t_X3_fallBits_b27 {X : jX} {po : Option Value → jH → Prop} {px : String → jH → Prop} {sf : Bool} {B9 : Nat} (hM : jMX X kX3_fallBits RX3 tbX3 4 ⟨2, 0, 0, 43⟩ (some .int) 10) (hp : jPost X sf B9 po px) (N : Nat) (G : Nat → Nat → Int32) (rv4 : Int32 → Int32 → Int32 → Option (Int32)) {res : Int32} (ih4 : ∀ (x1 : Int32) (x2 : Int32) (x3 : Int32), rv4 x1 x2 x3 = some res → JW X 0 0 4 [some (.ref 0), some (.int x1), some (.int x2), some (.int x3)] [] (hTown G)) (x1 : Int32) (x2 : Int32) (x3 : Int32) (h : p_X3_fallBits_b27 N G rv4 x1 x2 x3 = some res) (hq : po (some (.int res)) (hTown G)) : JW X 0 0 27 [some (.ref 0), some (.int x1), some (.int x2), some (.int x3)] [] (hTown G) := by
  unfold p_X3_fallBits_b27 at h
  refine JW.r hM 19 2 (pc2 := 4) (L2 := [some (.ref 0), some (.int x1), some (.int x2), some (.int (x3 + 1))]) (st2 := []) (μ2 := (hTown G)) rfl trivial ?_
  exact ih4 x1 x2 (x3 + 1) h
set_option maxHeartbeats 4000000 in
set_option maxRecDepth 100000 in
theorem t_X3_fallBits_b4 {X : jX} {po : Option Value → jH → Prop} {px : String → jH → Prop} {sf : Bool} {B9 : Nat} (hM : jMX X kX3_fallBits RX3 tbX3 4 ⟨2, 0, 0, 43⟩ (some .int) 10) (hp : jPost X sf B9 po px) (N : Nat) (G : Nat → Nat → Int32) {res : Int32} : ∀ (n : Nat) (x1 : Int32) (x2 : Int32) (x3 : Int32) (h : p_X3_fallBits_b4 N G n x1 x2 x3 = some res) (hq : po (some (.int res)) (hTown G)), JW X 0 0 4 [some (.ref 0), some (.int x1), some (.int x2), some (.int x3)] [] (hTown G) := by
  intro n
  induction n with
  | zero =>
    intro x1 x2 x3 h hq
    cases (show (none : Option (Int32)) = some res from h)
  | succ n ih4 =>
    intro x1 x2 x3 h hq
    have ih4 := fun x1 x2 x3 h9 => ih4 x1 x2 x3 h9 hq
    rw [p_X3_fallBits_b4] at h
    refine JW.r hM 4 3 (pc2 := 9) (L2 := [some (.ref 0), some (.int x1), some (.int x2), some (.int x3)]) (st2 := [.int (G 0 7), .int x3]) (μ2 := (hTown G)) rfl trivial ?_
    refine js_icge (t := 33) hM.1 (jat hM.2.1 7 rfl) rfl (fun hc4 => ?_) (fun hc4 => ?_)
    · have h := (if_pos hc4).symm.trans h
      refine JW.r hM 21 1 (pc2 := 34) (L2 := [some (.ref 0), some (.int x1), some (.int x2), some (.int x3)]) (st2 := [.int x2]) (μ2 := (hTown G)) rfl trivial ?_
      cases h
      exact js_iret hM.1 hp hM.2.2.2.2.2.2.2.1 (by rw [hM.2.2.2.2.2.1]; exact Nat.le_of_ble_eq_true rfl) (by rw [hM.2.2.2.2.2.2.1]; exact Nat.le_of_ble_eq_true rfl) (jat hM.2.1 22 rfl) hq
    · have h := (if_neg hc4).symm.trans h
      refine JW.r hM 8 3 (pc2 := 15) (L2 := [some (.ref 0), some (.int x1), some (.int x2), some (.int x3)]) (st2 := [.int x1, .int x3, .ref 0]) (μ2 := (hTown G)) rfl trivial ?_
      obtain ⟨v2, hv1, h⟩ := jbd h
      refine JW.cV (v := some (.int v2)) hM (m_X3_fallsWith (jVX X) hM.1.2.2.2.2.2.2.2.2.2.1 N G x3 x1 v2 hv1) (sb_Town_Town_0 G) (bi_Town_Town_0 G) rfl rfl rfl kc_X3_134 rfl rfl rfl rfl rfl (jat hM.2.1 11 rfl) (st := []) rfl ?_
      show JW X 0 0 18 [some (.ref 0), some (.int x1), some (.int x2), some (.int x3)] [.int v2] (hTown G)
      refine js_ifeq (t := 27) hM.1 (jat hM.2.1 12 rfl) rfl (fun hc3 => ?_) (fun hc3 => ?_)
      · have h := (if_pos hc3).symm.trans h
        exact t_X3_fallBits_b27 hM hp N G (p_X3_fallBits_b4 N G n) ih4 x1 x2 x3 h hq
      · have h := (if_neg hc3).symm.trans h
        refine JW.r hM 13 6 (pc2 := 27) (L2 := [some (.ref 0), some (.int x1), some (.int (x2 ||| ((1 : Int32) <<< (x3 &&& 31)))), some (.int x3)]) (st2 := []) (μ2 := (hTown G)) rfl trivial ?_
        exact t_X3_fallBits_b27 hM hp N G (p_X3_fallBits_b4 N G n) ih4 x1 (x2 ||| ((1 : Int32) <<< (x3 &&& 31))) x3 h hq
set_option maxHeartbeats 4000000 in
set_option maxRecDepth 100000 in
theorem t_X3_fallBits {X : jX} {po : Option Value → jH → Prop} {px : String → jH → Prop} {sf : Bool} {B9 : Nat} (hM : jMX X kX3_fallBits RX3 tbX3 4 ⟨2, 0, 0, 43⟩ (some .int) 10) (hp : jPost X sf B9 po px) (N : Nat) (G : Nat → Nat → Int32) (a : Int32) {res : Int32} (h : p_X3_fallBits N G a = some res) (hq : po (some (.int res)) (hTown G)) : JW X 0 0 0 [some (.ref 0), some (.int a), none, none] [] (hTown G) := by
  unfold p_X3_fallBits at h
  refine JW.r hM 0 4 (pc2 := 4) (L2 := [some (.ref 0), some (.int a), some (.int (0 : Int32)), some (.int a)]) (st2 := []) (μ2 := (hTown G)) rfl trivial ?_
  exact t_X3_fallBits_b4 hM hp N G N a (0 : Int32) a h hq
theorem m_X3_fallBits (V : jV) (hV : V.1.stackTraces = false) (N : Nat) (G : Nat → Nat → Int32) (a : Int32) (v : Int32) (h : p_X3_fallBits N G a = some v) : jMet V yX3_fallBits (jws yX3_fallBits cX3_fallBits 4 (some .int)) ⟨2, 0, 0, 43⟩ true 1 [.ref 0, .int a] (hTown G) (fun o ν => o = some (.int v) ∧ ν = (hTown G)) (fun _ _ => False) := by
  refine jmk (tb := tbX3) (C := kX3_fallBits) hV rfl (by decide) tbX3_ok rfl kX3_fallBits_ok rfl ?_
  intro X hM _ hp _
  exact t_X3_fallBits hM hp N G a h ⟨rfl, rfl⟩
def p_X3_owedTo_b90 (N : Nat) (G : Nat → Nat → Int32) (rv6 : Int32 → Int32 → Int32 → Int32 → Int32 → Option (Int32)) (x1 : Int32) (x2 : Int32) (x3 : Int32) (x4 : Int32) (x5 : Int32) : Option (Int32) :=
  rv6 x1 x2 x3 x4 (x5 + 1)
def p_X3_owedTo_b87 (N : Nat) (G : Nat → Nat → Int32) (rv6 : Int32 → Int32 → Int32 → Int32 → Int32 → Option (Int32)) (x1 : Int32) (x2 : Int32) (x3 : Int32) (x5 : Int32) (s0 : Int32) (s1 : Int32) : Option (Int32) :=
  p_X3_owedTo_b90 N G rv6 x1 x2 x3 (s1 + s0) x5
def p_X3_owedTo_b57 (N : Nat) (G : Nat → Nat → Int32) (rv6 : Int32 → Int32 → Int32 → Int32 → Int32 → Option (Int32)) (x1 : Int32) (x2 : Int32) (x3 : Int32) (x5 : Int32) (s0 : Int32) (s1 : Int32) : Option (Int32) :=
  if jin x5 30 = true then if (G 6 x5.toNatClampNeg) = x3 then ((p_X3_worthToTaker N G x5).bind (fun v6 => (p_X3_cut N G v6).bind (fun v8 => p_X3_owedTo_b87 N G rv6 x1 x2 x3 x5 v8 (s1 + s0)))) else (p_X3_owedTo_b87 N G rv6 x1 x2 x3 x5 (0 : Int32) (s1 + s0)) else none
def p_X3_owedTo_b6 (N : Nat) (G : Nat → Nat → Int32) : Nat → (Int32) → (Int32) → (Int32) → (Int32) → (Int32) → Option (Int32)
  | 0, _, _, _, _, _ => none
  | n + 1, x1, x2, x3, x4, x5 => if (G 0 7) ≤ x5 then (some x4) else (if x3 = x2 then (some x4) else ((p_X3_fallsWith N G x5 x1).bind (fun v2 => if v2 = 0 then (p_X3_owedTo_b90 N G (p_X3_owedTo_b6 N G n) x1 x2 x3 x4 x5) else (if jin x5 30 = true then if (G 5 x5.toNatClampNeg) = x3 then ((p_X3_worthToGiver N G x5).bind (fun v11 => (p_X3_cut N G v11).bind (fun v13 => p_X3_owedTo_b57 N G (p_X3_owedTo_b6 N G n) x1 x2 x3 x5 v13 x4))) else (p_X3_owedTo_b57 N G (p_X3_owedTo_b6 N G n) x1 x2 x3 x5 (0 : Int32) x4) else none))))
def p_X3_owedTo (N : Nat) (G : Nat → Nat → Int32) (a : Int32) (b : Int32) (c : Int32) : Option (Int32) :=
  p_X3_owedTo_b6 N G N a b c (0 : Int32) a
set_option maxHeartbeats 4000000 in
set_option maxRecDepth 100000 in
theorem t_X3_owedTo_b90 {X : jX} {po : Option Value → jH → Prop} {px : String → jH → Prop} {sf : Bool} {B9 : Nat} (hM : jMX X kX3_owedTo RX3 tbX3 6 ⟨2, 0, 0, 43⟩ (some .int) 10) (hp : jPost X sf B9 po px) (N : Nat) (G : Nat → Nat → Int32) (rv6 : Int32 → Int32 → Int32 → Int32 → Int32 → Option (Int32)) {res : Int32} (ih6 : ∀ (x1 : Int32) (x2 : Int32) (x3 : Int32) (x4 : Int32) (x5 : Int32), rv6 x1 x2 x3 x4 x5 = some res → JW X 0 0 6 [some (.ref 0), some (.int x1), some (.int x2), some (.int x3), some (.int x4), some (.int x5)] [] (hTown G)) (x1 : Int32) (x2 : Int32) (x3 : Int32) (x4 : Int32) (x5 : Int32) (h : p_X3_owedTo_b90 N G rv6 x1 x2 x3 x4 x5 = some res) (hq : po (some (.int res)) (hTown G)) : JW X 0 0 90 [some (.ref 0), some (.int x1), some (.int x2), some (.int x3), some (.int x4), some (.int x5)] [] (hTown G) := by
  unfold p_X3_owedTo_b90 at h
  refine JW.r hM 48 2 (pc2 := 6) (L2 := [some (.ref 0), some (.int x1), some (.int x2), some (.int x3), some (.int x4), some (.int (x5 + 1))]) (st2 := []) (μ2 := (hTown G)) rfl trivial ?_
  exact ih6 x1 x2 x3 x4 (x5 + 1) h
set_option maxHeartbeats 4000000 in
set_option maxRecDepth 100000 in
theorem t_X3_owedTo_b87 {X : jX} {po : Option Value → jH → Prop} {px : String → jH → Prop} {sf : Bool} {B9 : Nat} (hM : jMX X kX3_owedTo RX3 tbX3 6 ⟨2, 0, 0, 43⟩ (some .int) 10) (hp : jPost X sf B9 po px) (N : Nat) (G : Nat → Nat → Int32) (rv6 : Int32 → Int32 → Int32 → Int32 → Int32 → Option (Int32)) {res : Int32} (ih6 : ∀ (x1 : Int32) (x2 : Int32) (x3 : Int32) (x4 : Int32) (x5 : Int32), rv6 x1 x2 x3 x4 x5 = some res → JW X 0 0 6 [some (.ref 0), some (.int x1), some (.int x2), some (.int x3), some (.int x4), some (.int x5)] [] (hTown G)) (x1 : Int32) (x2 : Int32) (x3 : Int32) (x5 : Int32) (s0 : Int32) (s1 : Int32) (h : p_X3_owedTo_b87 N G rv6 x1 x2 x3 x5 s0 s1 = some res) (hq : po (some (.int res)) (hTown G)) : JW X 0 0 87 [some (.ref 0), some (.int x1), some (.int x2), some (.int x3), none, some (.int x5)] [.int s0, .int s1] (hTown G) := by
  unfold p_X3_owedTo_b87 at h
  refine JW.r hM 46 2 (pc2 := 90) (L2 := [some (.ref 0), some (.int x1), some (.int x2), some (.int x3), some (.int (s1 + s0)), some (.int x5)]) (st2 := []) (μ2 := (hTown G)) rfl trivial ?_
  exact t_X3_owedTo_b90 hM hp N G rv6 ih6 x1 x2 x3 (s1 + s0) x5 h hq
set_option maxHeartbeats 4000000 in
set_option maxRecDepth 100000 in
theorem t_X3_owedTo_b57 {X : jX} {po : Option Value → jH → Prop} {px : String → jH → Prop} {sf : Bool} {B9 : Nat} (hM : jMX X kX3_owedTo RX3 tbX3 6 ⟨2, 0, 0, 43⟩ (some .int) 10) (hp : jPost X sf B9 po px) (N : Nat) (G : Nat → Nat → Int32) (rv6 : Int32 → Int32 → Int32 → Int32 → Int32 → Option (Int32)) {res : Int32} (ih6 : ∀ (x1 : Int32) (x2 : Int32) (x3 : Int32) (x4 : Int32) (x5 : Int32), rv6 x1 x2 x3 x4 x5 = some res → JW X 0 0 6 [some (.ref 0), some (.int x1), some (.int x2), some (.int x3), some (.int x4), some (.int x5)] [] (hTown G)) (x1 : Int32) (x2 : Int32) (x3 : Int32) (x5 : Int32) (s0 : Int32) (s1 : Int32) (h : p_X3_owedTo_b57 N G rv6 x1 x2 x3 x5 s0 s1 = some res) (hq : po (some (.int res)) (hTown G)) : JW X 0 0 57 [some (.ref 0), some (.int x1), some (.int x2), some (.int x3), none, some (.int x5)] [.int s0, .int s1] (hTown G) := by
  unfold p_X3_owedTo_b57 at h
  obtain ⟨g4, h⟩ := jg h
  refine JW.r hM 30 8 (pc2 := 70) (L2 := [some (.ref 0), some (.int x1), some (.int x2), some (.int x3), some (.int (s1 + s0)), some (.int x5)]) (st2 := [.int x3, .int (G 6 x5.toNatClampNeg), .int (s1 + s0)]) (μ2 := (hTown G)) rfl ⟨g4, trivial⟩ ?_
  refine js_icne (t := 86) hM.1 (jat hM.2.1 38 rfl) rfl (fun hc9 => ?_) (fun hc9 => ?_)
  · have h := (if_neg hc9).symm.trans h
    refine JW.r hM 45 1 (pc2 := 87) (L2 := [some (.ref 0), some (.int x1), some (.int x2), some (.int x3), some (.int (s1 + s0)), some (.int x5)]) (st2 := [.int (0 : Int32), .int (s1 + s0)]) (μ2 := (hTown G)) rfl trivial ?_
    exact JW.mask [true, true, true, true, false, true] (t_X3_owedTo_b87 hM hp N G rv6 ih6 x1 x2 x3 x5 (0 : Int32) (s1 + s0) h hq)
  · have h := (if_pos hc9).symm.trans h
    refine JW.r hM 39 3 (pc2 := 77) (L2 := [some (.ref 0), some (.int x1), some (.int x2), some (.int x3), some (.int (s1 + s0)), some (.int x5)]) (st2 := [.int x5, .ref 0, .ref 0, .int (s1 + s0)]) (μ2 := (hTown G)) rfl trivial ?_
    obtain ⟨v6, hv5, h⟩ := jbd h
    refine JW.cV (v := some (.int v6)) hM (m_X3_worthToTaker (jVX X) hM.1.2.2.2.2.2.2.2.2.2.1 N G x5 v6 hv5) (sb_Town_Town_0 G) (bi_Town_Town_0 G) rfl rfl rfl kc_X3_143 rfl rfl rfl rfl rfl (jat hM.2.1 42 rfl) (st := [.ref 0, .int (s1 + s0)]) rfl ?_
    show JW X 0 0 80 [some (.ref 0), some (.int x1), some (.int x2), some (.int x3), some (.int (s1 + s0)), some (.int x5)] [.int v6, .ref 0, .int (s1 + s0)] (hTown G)
    obtain ⟨v8, hv7, h⟩ := jbd h
    refine JW.cV (v := some (.int v8)) hM (m_X3_cut (jVX X) hM.1.2.2.2.2.2.2.2.2.2.1 N G v6 v8 hv7) (sb_Town_Town_0 G) (bi_Town_Town_0 G) rfl rfl rfl kc_X3_140 rfl rfl rfl rfl rfl (jat hM.2.1 43 rfl) (st := [.int (s1 + s0)]) rfl ?_
    show JW X 0 0 83 [some (.ref 0), some (.int x1), some (.int x2), some (.int x3), some (.int (s1 + s0)), some (.int x5)] [.int v8, .int (s1 + s0)] (hTown G)
    refine JW.r hM 44 1 (pc2 := 87) (L2 := [some (.ref 0), some (.int x1), some (.int x2), some (.int x3), some (.int (s1 + s0)), some (.int x5)]) (st2 := [.int v8, .int (s1 + s0)]) (μ2 := (hTown G)) rfl trivial ?_
    exact JW.mask [true, true, true, true, false, true] (t_X3_owedTo_b87 hM hp N G rv6 ih6 x1 x2 x3 x5 v8 (s1 + s0) h hq)
set_option maxHeartbeats 4000000 in
set_option maxRecDepth 100000 in
theorem t_X3_owedTo_b6 {X : jX} {po : Option Value → jH → Prop} {px : String → jH → Prop} {sf : Bool} {B9 : Nat} (hM : jMX X kX3_owedTo RX3 tbX3 6 ⟨2, 0, 0, 43⟩ (some .int) 10) (hp : jPost X sf B9 po px) (N : Nat) (G : Nat → Nat → Int32) {res : Int32} : ∀ (n : Nat) (x1 : Int32) (x2 : Int32) (x3 : Int32) (x4 : Int32) (x5 : Int32) (h : p_X3_owedTo_b6 N G n x1 x2 x3 x4 x5 = some res) (hq : po (some (.int res)) (hTown G)), JW X 0 0 6 [some (.ref 0), some (.int x1), some (.int x2), some (.int x3), some (.int x4), some (.int x5)] [] (hTown G) := by
  intro n
  induction n with
  | zero =>
    intro x1 x2 x3 x4 x5 h hq
    cases (show (none : Option (Int32)) = some res from h)
  | succ n ih6 =>
    intro x1 x2 x3 x4 x5 h hq
    have ih6 := fun x1 x2 x3 x4 x5 h9 => ih6 x1 x2 x3 x4 x5 h9 hq
    rw [p_X3_owedTo_b6] at h
    refine JW.r hM 4 3 (pc2 := 12) (L2 := [some (.ref 0), some (.int x1), some (.int x2), some (.int x3), some (.int x4), some (.int x5)]) (st2 := [.int (G 0 7), .int x5]) (μ2 := (hTown G)) rfl trivial ?_
    refine js_icge (t := 96) hM.1 (jat hM.2.1 7 rfl) rfl (fun hc17 => ?_) (fun hc17 => ?_)
    · have h := (if_pos hc17).symm.trans h
      refine JW.r hM 50 1 (pc2 := 98) (L2 := [some (.ref 0), some (.int x1), some (.int x2), some (.int x3), some (.int x4), some (.int x5)]) (st2 := [.int x4]) (μ2 := (hTown G)) rfl trivial ?_
      cases h
      exact js_iret hM.1 hp hM.2.2.2.2.2.2.2.1 (by rw [hM.2.2.2.2.2.1]; exact Nat.le_of_ble_eq_true rfl) (by rw [hM.2.2.2.2.2.2.1]; exact Nat.le_of_ble_eq_true rfl) (jat hM.2.1 51 rfl) hq
    · have h := (if_neg hc17).symm.trans h
      refine JW.r hM 8 2 (pc2 := 17) (L2 := [some (.ref 0), some (.int x1), some (.int x2), some (.int x3), some (.int x4), some (.int x5)]) (st2 := [.int x2, .int x3]) (μ2 := (hTown G)) rfl trivial ?_
      refine js_iceq (t := 96) hM.1 (jat hM.2.1 10 rfl) rfl (fun hc16 => ?_) (fun hc16 => ?_)
      · have h := (if_pos hc16).symm.trans h
        refine JW.r hM 50 1 (pc2 := 98) (L2 := [some (.ref 0), some (.int x1), some (.int x2), some (.int x3), some (.int x4), some (.int x5)]) (st2 := [.int x4]) (μ2 := (hTown G)) rfl trivial ?_
        cases h
        exact js_iret hM.1 hp hM.2.2.2.2.2.2.2.1 (by rw [hM.2.2.2.2.2.1]; exact Nat.le_of_ble_eq_true rfl) (by rw [hM.2.2.2.2.2.2.1]; exact Nat.le_of_ble_eq_true rfl) (jat hM.2.1 51 rfl) hq
      · have h := (if_neg hc16).symm.trans h
        refine JW.r hM 11 3 (pc2 := 24) (L2 := [some (.ref 0), some (.int x1), some (.int x2), some (.int x3), some (.int x4), some (.int x5)]) (st2 := [.int x1, .int x5, .ref 0]) (μ2 := (hTown G)) rfl trivial ?_
        obtain ⟨v2, hv1, h⟩ := jbd h
        refine JW.cV (v := some (.int v2)) hM (m_X3_fallsWith (jVX X) hM.1.2.2.2.2.2.2.2.2.2.1 N G x5 x1 v2 hv1) (sb_Town_Town_0 G) (bi_Town_Town_0 G) rfl rfl rfl kc_X3_134 rfl rfl rfl rfl rfl (jat hM.2.1 14 rfl) (st := []) rfl ?_
        show JW X 0 0 27 [some (.ref 0), some (.int x1), some (.int x2), some (.int x3), some (.int x4), some (.int x5)] [.int v2] (hTown G)
        refine js_ifeq (t := 90) hM.1 (jat hM.2.1 15 rfl) rfl (fun hc15 => ?_) (fun hc15 => ?_)
        · have h := (if_pos hc15).symm.trans h
          exact t_X3_owedTo_b90 hM hp N G (p_X3_owedTo_b6 N G n) ih6 x1 x2 x3 x4 x5 h hq
        · have h := (if_neg hc15).symm.trans h
          obtain ⟨g3, h⟩ := jg h
          refine JW.r hM 16 6 (pc2 := 40) (L2 := [some (.ref 0), some (.int x1), some (.int x2), some (.int x3), some (.int x4), some (.int x5)]) (st2 := [.int x3, .int (G 5 x5.toNatClampNeg), .int x4]) (μ2 := (hTown G)) rfl ⟨g3, trivial⟩ ?_
          refine js_icne (t := 56) hM.1 (jat hM.2.1 22 rfl) rfl (fun hc14 => ?_) (fun hc14 => ?_)
          · have h := (if_neg hc14).symm.trans h
            refine JW.r hM 29 1 (pc2 := 57) (L2 := [some (.ref 0), some (.int x1), some (.int x2), some (.int x3), some (.int x4), some (.int x5)]) (st2 := [.int (0 : Int32), .int x4]) (μ2 := (hTown G)) rfl trivial ?_
            exact JW.mask [true, true, true, true, false, true] (t_X3_owedTo_b57 hM hp N G (p_X3_owedTo_b6 N G n) ih6 x1 x2 x3 x5 (0 : Int32) x4 h hq)
          · have h := (if_pos hc14).symm.trans h
            refine JW.r hM 23 3 (pc2 := 47) (L2 := [some (.ref 0), some (.int x1), some (.int x2), some (.int x3), some (.int x4), some (.int x5)]) (st2 := [.int x5, .ref 0, .ref 0, .int x4]) (μ2 := (hTown G)) rfl trivial ?_
            obtain ⟨v11, hv10, h⟩ := jbd h
            refine JW.cV (v := some (.int v11)) hM (m_X3_worthToGiver (jVX X) hM.1.2.2.2.2.2.2.2.2.2.1 N G x5 v11 hv10) (sb_Town_Town_0 G) (bi_Town_Town_0 G) rfl rfl rfl kc_X3_137 rfl rfl rfl rfl rfl (jat hM.2.1 26 rfl) (st := [.ref 0, .int x4]) rfl ?_
            show JW X 0 0 50 [some (.ref 0), some (.int x1), some (.int x2), some (.int x3), some (.int x4), some (.int x5)] [.int v11, .ref 0, .int x4] (hTown G)
            obtain ⟨v13, hv12, h⟩ := jbd h
            refine JW.cV (v := some (.int v13)) hM (m_X3_cut (jVX X) hM.1.2.2.2.2.2.2.2.2.2.1 N G v11 v13 hv12) (sb_Town_Town_0 G) (bi_Town_Town_0 G) rfl rfl rfl kc_X3_140 rfl rfl rfl rfl rfl (jat hM.2.1 27 rfl) (st := [.int x4]) rfl ?_
            show JW X 0 0 53 [some (.ref 0), some (.int x1), some (.int x2), some (.int x3), some (.int x4), some (.int x5)] [.int v13, .int x4] (hTown G)
            refine JW.r hM 28 1 (pc2 := 57) (L2 := [some (.ref 0), some (.int x1), some (.int x2), some (.int x3), some (.int x4), some (.int x5)]) (st2 := [.int v13, .int x4]) (μ2 := (hTown G)) rfl trivial ?_
            exact JW.mask [true, true, true, true, false, true] (t_X3_owedTo_b57 hM hp N G (p_X3_owedTo_b6 N G n) ih6 x1 x2 x3 x5 v13 x4 h hq)
set_option maxHeartbeats 4000000 in
set_option maxRecDepth 100000 in
theorem t_X3_owedTo {X : jX} {po : Option Value → jH → Prop} {px : String → jH → Prop} {sf : Bool} {B9 : Nat} (hM : jMX X kX3_owedTo RX3 tbX3 6 ⟨2, 0, 0, 43⟩ (some .int) 10) (hp : jPost X sf B9 po px) (N : Nat) (G : Nat → Nat → Int32) (a : Int32) (b : Int32) (c : Int32) {res : Int32} (h : p_X3_owedTo N G a b c = some res) (hq : po (some (.int res)) (hTown G)) : JW X 0 0 0 [some (.ref 0), some (.int a), some (.int b), some (.int c), none, none] [] (hTown G) := by
  unfold p_X3_owedTo at h
  refine JW.r hM 0 4 (pc2 := 6) (L2 := [some (.ref 0), some (.int a), some (.int b), some (.int c), some (.int (0 : Int32)), some (.int a)]) (st2 := []) (μ2 := (hTown G)) rfl trivial ?_
  exact t_X3_owedTo_b6 hM hp N G N a b c (0 : Int32) a h hq
theorem m_X3_owedTo (V : jV) (hV : V.1.stackTraces = false) (N : Nat) (G : Nat → Nat → Int32) (a : Int32) (b : Int32) (c : Int32) (v : Int32) (h : p_X3_owedTo N G a b c = some v) : jMet V yX3_owedTo (jws yX3_owedTo cX3_owedTo 6 (some .int)) ⟨2, 0, 0, 43⟩ true 1 [.ref 0, .int a, .int b, .int c] (hTown G) (fun o ν => o = some (.int v) ∧ ν = (hTown G)) (fun _ _ => False) := by
  refine jmk (tb := tbX3) (C := kX3_owedTo) hV rfl (by decide) tbX3_ok rfl kX3_owedTo_ok rfl ?_
  intro X hM _ hp _
  exact t_X3_owedTo hM hp N G a b c h ⟨rfl, rfl⟩
def p_X3_fell_b9 (N : Nat) : Nat → (Nat → Nat → Int32) → (Int32) → (Int32) → (Int32) → (Int32) → Option (Int32 × (Nat → Nat → Int32))
  | 0, _, _, _, _, _ => none
  | n + 1, G, x1, x2, x3, x4 => if (G 0 1) ≤ x4 then (if jin x1 30 = true then if jin x1 30 = true then if jin (G 4 x1.toNatClampNeg) 10 = true then jlt (jup G 2 (G 4 x1.toNatClampNeg).toNatClampNeg (G 5 x1.toNatClampNeg)) fun G6 => jlt (jup G6 0 8 ((G6 0 8) &&& (x3 ^^^ (-1 : Int32)))) fun G8 => (p_J6_bitCount_0f7a4 N x3).bind (fun v11 => some (v11, G8)) else none else none else none) else ((p_X3_owedTo N G x1 x2 x4).bind (fun v13 => if jin x4 6 = true then (p_X3_priceChange N G x1 x4).bind (fun v16 => if jin x4 6 = true then jlt (jup G 1 x4.toNatClampNeg ((G 1 x4.toNatClampNeg) + (v16 + v13))) fun G18 => if jin x2 6 = true then if jin x2 6 = true then jlt (jup G18 1 x2.toNatClampNeg ((G18 1 x2.toNatClampNeg) - v13)) fun G22 => (p_X3_fell_b9 N n) G22 x1 x2 x3 (x4 + 1) else none else none else none) else none))
def p_X3_fell (N : Nat) (G : Nat → Nat → Int32) (a : Int32) (b : Int32) : Option (Int32 × (Nat → Nat → Int32)) :=
  (p_X3_fallBits N G a).bind (fun v2 => p_X3_fell_b9 N N G a b v2 (0 : Int32))
set_option maxHeartbeats 4000000 in
set_option maxRecDepth 100000 in
theorem t_X3_fell_b9 {X : jX} {po : Option Value → jH → Prop} {px : String → jH → Prop} {sf : Bool} {B9 : Nat} (hM : jMX X kX3_fell RX3 tbX3 6 ⟨3, 0, 0, 68⟩ (some .int) 10) (hp : jPost X sf B9 po px) (N : Nat) {res : Int32 × (Nat → Nat → Int32)} : ∀ (n : Nat) (G : Nat → Nat → Int32) (x1 : Int32) (x2 : Int32) (x3 : Int32) (x4 : Int32) (h : p_X3_fell_b9 N n G x1 x2 x3 x4 = some res) (hq : po (some (.int res.1)) (hTown res.2)), JW X 0 0 9 [some (.ref 0), some (.int x1), some (.int x2), some (.int x3), some (.int x4), none] [] (hTown G) := by
  intro n
  induction n with
  | zero =>
    intro G x1 x2 x3 x4 h hq
    cases (show (none : Option (Int32 × (Nat → Nat → Int32))) = some res from h)
  | succ n ih9 =>
    intro G x1 x2 x3 x4 h hq
    have ih9 := fun G x1 x2 x3 x4 h9 => ih9 G x1 x2 x3 x4 h9 hq
    rw [p_X3_fell_b9] at h
    refine JW.r hM 6 3 (pc2 := 15) (L2 := [some (.ref 0), some (.int x1), some (.int x2), some (.int x3), some (.int x4), none]) (st2 := [.int (G 0 1), .int x4]) (μ2 := (hTown G)) rfl trivial ?_
    refine js_icge (t := 65) hM.1 (jat hM.2.1 9 rfl) rfl (fun hc24 => ?_) (fun hc24 => ?_)
    · have h := (if_pos hc24).symm.trans h
      obtain ⟨g3, h⟩ := jg h
      obtain ⟨g4, h⟩ := jg h
      obtain ⟨g5, h⟩ := jg h
      obtain ⟨G6, e7, h⟩ := jlE h
      refine JW.r hM 39 11 (pc2 := 82) (L2 := [some (.ref 0), some (.int x1), some (.int x2), some (.int x3), some (.int x4), none]) (st2 := []) (μ2 := (hTown (jup G 2 (G 4 x1.toNatClampNeg).toNatClampNeg (G 5 x1.toNatClampNeg)))) rfl ⟨g3, g4, g5, trivial⟩ ?_
      rw [e7]
      obtain ⟨G8, e9, h⟩ := jlE h
      refine JW.r hM 50 8 (pc2 := 94) (L2 := [some (.ref 0), some (.int x1), some (.int x2), some (.int x3), some (.int x4), none]) (st2 := []) (μ2 := (hTown (jup G6 0 8 ((G6 0 8) &&& (x3 ^^^ (-1 : Int32)))))) rfl trivial ?_
      rw [e9]
      refine JW.r hM 58 1 (pc2 := 95) (L2 := [some (.ref 0), some (.int x1), some (.int x2), some (.int x3), some (.int x4), none]) (st2 := [.int x3]) (μ2 := (hTown G8)) rfl trivial ?_
      obtain ⟨v11, hv10, h⟩ := jbd h
      refine JW.cS (v := some (.int v11)) hM (m_J6_bitCount_0f7a4 (jVX X) hM.1.2.2.2.2.2.2.2.2.2.1 N x3 v11 hv10) (sb_Town_E_ G8) (bi_Town_E_ G8) rfl rfl rfl kc_X3_129 rfl rfl rfl (jat hM.2.1 59 rfl) (st := []) rfl ?_
      show JW X 0 0 98 [some (.ref 0), some (.int x1), some (.int x2), some (.int x3), some (.int x4), none] [.int v11] (hTown G8)
      cases h
      exact js_iret hM.1 hp hM.2.2.2.2.2.2.2.1 (by rw [hM.2.2.2.2.2.1]; exact Nat.le_of_ble_eq_true rfl) (by rw [hM.2.2.2.2.2.2.1]; exact Nat.le_of_ble_eq_true rfl) (jat hM.2.1 60 rfl) hq
    · have h := (if_neg hc24).symm.trans h
      refine JW.r hM 10 4 (pc2 := 23) (L2 := [some (.ref 0), some (.int x1), some (.int x2), some (.int x3), some (.int x4), none]) (st2 := [.int x4, .int x2, .int x1, .ref 0]) (μ2 := (hTown G)) rfl trivial ?_
      obtain ⟨v13, hv12, h⟩ := jbd h
      refine JW.cV (v := some (.int v13)) hM (m_X3_owedTo (jVX X) hM.1.2.2.2.2.2.2.2.2.2.1 N G x1 x2 x4 v13 hv12) (sb_Town_Town_0 G) (bi_Town_Town_0 G) rfl rfl rfl kc_X3_125 rfl rfl rfl rfl rfl (jat hM.2.1 14 rfl) (st := []) rfl ?_
      show JW X 0 0 26 [some (.ref 0), some (.int x1), some (.int x2), some (.int x3), some (.int x4), none] [.int v13] (hTown G)
      obtain ⟨g14, h⟩ := jg h
      refine JW.r hM 15 9 (pc2 := 40) (L2 := [some (.ref 0), some (.int x1), some (.int x2), some (.int x3), some (.int x4), some (.int v13)]) (st2 := [.int x4, .int x1, .ref 0, .int (G 1 x4.toNatClampNeg), .int x4, .ref 1]) (μ2 := (hTown G)) rfl ⟨g14, trivial⟩ ?_
      obtain ⟨v16, hv15, h⟩ := jbd h
      refine JW.cV (v := some (.int v16)) hM (m_X3_priceChange (jVX X) hM.1.2.2.2.2.2.2.2.2.2.1 N G x1 x4 v16 hv15) (sb_Town_Town_0 G) (bi_Town_Town_0 G) rfl rfl rfl kc_X3_116 rfl rfl rfl rfl rfl (jat hM.2.1 24 rfl) (st := [.int (G 1 x4.toNatClampNeg), .int x4, .ref 1]) rfl ?_
      show JW X 0 0 43 [some (.ref 0), some (.int x1), some (.int x2), some (.int x3), some (.int x4), some (.int v13)] [.int v16, .int (G 1 x4.toNatClampNeg), .int x4, .ref 1] (hTown G)
      obtain ⟨g17, h⟩ := jg h
      obtain ⟨G18, e19, h⟩ := jlE h
      refine JW.r hM 25 4 (pc2 := 48) (L2 := [some (.ref 0), some (.int x1), some (.int x2), some (.int x3), some (.int x4), some (.int v13)]) (st2 := []) (μ2 := (hTown (jup G 1 x4.toNatClampNeg ((G 1 x4.toNatClampNeg) + (v16 + v13))))) rfl ⟨g17, trivial⟩ ?_
      rw [e19]
      obtain ⟨g20, h⟩ := jg h
      obtain ⟨g21, h⟩ := jg h
      obtain ⟨G22, e23, h⟩ := jlE h
      refine JW.r hM 29 8 (pc2 := 59) (L2 := [some (.ref 0), some (.int x1), some (.int x2), some (.int x3), some (.int x4), some (.int v13)]) (st2 := []) (μ2 := (hTown (jup G18 1 x2.toNatClampNeg ((G18 1 x2.toNatClampNeg) - v13)))) rfl ⟨g20, g21, trivial⟩ ?_
      rw [e23]
      refine JW.r hM 37 2 (pc2 := 9) (L2 := [some (.ref 0), some (.int x1), some (.int x2), some (.int x3), some (.int (x4 + 1)), some (.int v13)]) (st2 := []) (μ2 := (hTown G22)) rfl trivial ?_
      exact JW.mask [true, true, true, true, true, false] (ih9 G22 x1 x2 x3 (x4 + 1) h)
set_option maxHeartbeats 4000000 in
set_option maxRecDepth 100000 in
theorem t_X3_fell {X : jX} {po : Option Value → jH → Prop} {px : String → jH → Prop} {sf : Bool} {B9 : Nat} (hM : jMX X kX3_fell RX3 tbX3 6 ⟨3, 0, 0, 68⟩ (some .int) 10) (hp : jPost X sf B9 po px) (N : Nat) (G : Nat → Nat → Int32) (a : Int32) (b : Int32) {res : Int32 × (Nat → Nat → Int32)} (h : p_X3_fell N G a b = some res) (hq : po (some (.int res.1)) (hTown res.2)) : JW X 0 0 0 [some (.ref 0), some (.int a), some (.int b), none, none, none] [] (hTown G) := by
  unfold p_X3_fell at h
  refine JW.r hM 0 2 (pc2 := 2) (L2 := [some (.ref 0), some (.int a), some (.int b), none, none, none]) (st2 := [.int a, .ref 0]) (μ2 := (hTown G)) rfl trivial ?_
  obtain ⟨v2, hv1, h⟩ := jbd h
  refine JW.cV (v := some (.int v2)) hM (m_X3_fallBits (jVX X) hM.1.2.2.2.2.2.2.2.2.2.1 N G a v2 hv1) (sb_Town_Town_0 G) (bi_Town_Town_0 G) rfl rfl rfl kc_X3_122 rfl rfl rfl rfl rfl (jat hM.2.1 2 rfl) (st := []) rfl ?_
  show JW X 0 0 5 [some (.ref 0), some (.int a), some (.int b), none, none, none] [.int v2] (hTown G)
  refine JW.r hM 3 3 (pc2 := 9) (L2 := [some (.ref 0), some (.int a), some (.int b), some (.int v2), some (.int (0 : Int32)), none]) (st2 := []) (μ2 := (hTown G)) rfl trivial ?_
  exact t_X3_fell_b9 hM hp N N G a b v2 (0 : Int32) h hq
theorem m_X3_fell (V : jV) (hV : V.1.stackTraces = false) (N : Nat) (G : Nat → Nat → Int32) (a : Int32) (b : Int32) (v : Int32 × (Nat → Nat → Int32)) (h : p_X3_fell N G a b = some v) : jMet V yX3_fell (jws yX3_fell cX3_fell 6 (some .int)) ⟨3, 0, 0, 68⟩ true 1 [.ref 0, .int a, .int b] (hTown G) (fun o ν => o = some (.int v.1) ∧ ν = (hTown v.2)) (fun _ _ => False) := by
  refine jmk (tb := tbX3) (C := kX3_fell) hV rfl (by decide) tbX3_ok rfl kX3_fell_ok rfl ?_
  intro X hM _ hp _
  exact t_X3_fell hM hp N G a b h ⟨rfl, rfl⟩
def p_X3_partOfUndoer_b43 (N : Nat) (G : Nat → Nat → Int32) (x1 : Int32) (x2 : Int32) (x3 : Int32) (s0 : Int32) : Option (Int32) :=
  if jin x1 30 = true then if (G 6 x1.toNatClampNeg) = x2 then (if jin x1 30 = true then (p_X3_worthTo N G x3 x2).bind (fun v14 => some (s0 + ((G 7 x1.toNatClampNeg) - v14))) else none) else ((p_X3_worthToTaker N G x1).bind (fun v9 => (p_X3_cut N G v9).bind (fun v11 => some (s0 + (-v11))))) else none
def p_X3_partOfUndoer (N : Nat) (G : Nat → Nat → Int32) (a : Int32) (b : Int32) : Option (Int32) :=
  if jin a 30 = true then if jin a 30 = true then if (G 5 a.toNatClampNeg) = b then ((p_X3_worthTo N G (G 4 a.toNatClampNeg) b).bind (fun v17 => if jin a 30 = true then p_X3_partOfUndoer_b43 N G a b (G 4 a.toNatClampNeg) (v17 - (G 7 a.toNatClampNeg)) else none)) else ((p_X3_worthToGiver N G a).bind (fun v4 => (p_X3_cut N G v4).bind (fun v6 => p_X3_partOfUndoer_b43 N G a b (G 4 a.toNatClampNeg) (-v6)))) else none else none
set_option maxHeartbeats 4000000 in
set_option maxRecDepth 100000 in
theorem t_X3_partOfUndoer_b43 {X : jX} {po : Option Value → jH → Prop} {px : String → jH → Prop} {sf : Bool} {B9 : Nat} (hM : jMX X kX3_partOfUndoer RX3 tbX3 6 ⟨2, 0, 0, 43⟩ (some .int) 10) (hp : jPost X sf B9 po px) (N : Nat) (G : Nat → Nat → Int32) {res : Int32} (x1 : Int32) (x2 : Int32) (x3 : Int32) (s0 : Int32) (h : p_X3_partOfUndoer_b43 N G x1 x2 x3 s0 = some res) (hq : po (some (.int res)) (hTown G)) : JW X 0 0 43 [some (.ref 0), some (.int x1), some (.int x2), some (.int x3), none, none] [.int s0] (hTown G) := by
  unfold p_X3_partOfUndoer_b43 at h
  obtain ⟨g7, h⟩ := jg h
  refine JW.r hM 27 6 (pc2 := 52) (L2 := [some (.ref 0), some (.int x1), some (.int x2), some (.int x3), some (.int s0), none]) (st2 := [.int x2, .int (G 6 x1.toNatClampNeg)]) (μ2 := (hTown G)) rfl ⟨g7, trivial⟩ ?_
  refine js_icne (t := 71) hM.1 (jat hM.2.1 33 rfl) rfl (fun hc15 => ?_) (fun hc15 => ?_)
  · have h := (if_neg hc15).symm.trans h
    refine JW.r hM 44 3 (pc2 := 74) (L2 := [some (.ref 0), some (.int x1), some (.int x2), some (.int x3), some (.int s0), none]) (st2 := [.int x1, .ref 0, .ref 0]) (μ2 := (hTown G)) rfl trivial ?_
    obtain ⟨v9, hv8, h⟩ := jbd h
    refine JW.cV (v := some (.int v9)) hM (m_X3_worthToTaker (jVX X) hM.1.2.2.2.2.2.2.2.2.2.1 N G x1 v9 hv8) (sb_Town_Town_0 G) (bi_Town_Town_0 G) rfl rfl rfl kc_X3_143 rfl rfl rfl rfl rfl (jat hM.2.1 47 rfl) (st := [.ref 0]) rfl ?_
    show JW X 0 0 77 [some (.ref 0), some (.int x1), some (.int x2), some (.int x3), some (.int s0), none] [.int v9, .ref 0] (hTown G)
    obtain ⟨v11, hv10, h⟩ := jbd h
    refine JW.cV (v := some (.int v11)) hM (m_X3_cut (jVX X) hM.1.2.2.2.2.2.2.2.2.2.1 N G v9 v11 hv10) (sb_Town_Town_0 G) (bi_Town_Town_0 G) rfl rfl rfl kc_X3_140 rfl rfl rfl rfl rfl (jat hM.2.1 48 rfl) (st := []) rfl ?_
    show JW X 0 0 80 [some (.ref 0), some (.int x1), some (.int x2), some (.int x3), some (.int s0), none] [.int v11] (hTown G)
    refine JW.r hM 49 5 (pc2 := 88) (L2 := [some (.ref 0), some (.int x1), some (.int x2), some (.int x3), some (.int s0), some (.int (-v11))]) (st2 := [.int (s0 + (-v11))]) (μ2 := (hTown G)) rfl trivial ?_
    cases h
    exact js_iret hM.1 hp hM.2.2.2.2.2.2.2.1 (by rw [hM.2.2.2.2.2.1]; exact Nat.le_of_ble_eq_true rfl) (by rw [hM.2.2.2.2.2.2.1]; exact Nat.le_of_ble_eq_true rfl) (jat hM.2.1 54 rfl) hq
  · have h := (if_pos hc15).symm.trans h
    obtain ⟨g12, h⟩ := jg h
    refine JW.r hM 34 7 (pc2 := 64) (L2 := [some (.ref 0), some (.int x1), some (.int x2), some (.int x3), some (.int s0), none]) (st2 := [.int x2, .int x3, .ref 0, .int (G 7 x1.toNatClampNeg)]) (μ2 := (hTown G)) rfl ⟨g12, trivial⟩ ?_
    obtain ⟨v14, hv13, h⟩ := jbd h
    refine JW.cV (v := some (.int v14)) hM (m_X3_worthTo (jVX X) hM.1.2.2.2.2.2.2.2.2.2.1 N G x3 x2 v14 hv13) (sb_Town_Town_0 G) (bi_Town_Town_0 G) rfl rfl rfl kc_X3_90 rfl rfl rfl rfl rfl (jat hM.2.1 41 rfl) (st := [.int (G 7 x1.toNatClampNeg)]) rfl ?_
    show JW X 0 0 67 [some (.ref 0), some (.int x1), some (.int x2), some (.int x3), some (.int s0), none] [.int v14, .int (G 7 x1.toNatClampNeg)] (hTown G)
    refine JW.r hM 42 2 (pc2 := 81) (L2 := [some (.ref 0), some (.int x1), some (.int x2), some (.int x3), some (.int s0), none]) (st2 := [.int ((G 7 x1.toNatClampNeg) - v14)]) (μ2 := (hTown G)) rfl trivial ?_
    refine JW.r hM 50 4 (pc2 := 88) (L2 := [some (.ref 0), some (.int x1), some (.int x2), some (.int x3), some (.int s0), some (.int ((G 7 x1.toNatClampNeg) - v14))]) (st2 := [.int (s0 + ((G 7 x1.toNatClampNeg) - v14))]) (μ2 := (hTown G)) rfl trivial ?_
    cases h
    exact js_iret hM.1 hp hM.2.2.2.2.2.2.2.1 (by rw [hM.2.2.2.2.2.1]; exact Nat.le_of_ble_eq_true rfl) (by rw [hM.2.2.2.2.2.2.1]; exact Nat.le_of_ble_eq_true rfl) (jat hM.2.1 54 rfl) hq
set_option maxHeartbeats 4000000 in
set_option maxRecDepth 100000 in
theorem t_X3_partOfUndoer {X : jX} {po : Option Value → jH → Prop} {px : String → jH → Prop} {sf : Bool} {B9 : Nat} (hM : jMX X kX3_partOfUndoer RX3 tbX3 6 ⟨2, 0, 0, 43⟩ (some .int) 10) (hp : jPost X sf B9 po px) (N : Nat) (G : Nat → Nat → Int32) (a : Int32) (b : Int32) {res : Int32} (h : p_X3_partOfUndoer N G a b = some res) (hq : po (some (.int res)) (hTown G)) : JW X 0 0 0 [some (.ref 0), some (.int a), some (.int b), none, none, none] [] (hTown G) := by
  unfold p_X3_partOfUndoer at h
  obtain ⟨g1, h⟩ := jg h
  obtain ⟨g2, h⟩ := jg h
  refine JW.r hM 0 10 (pc2 := 14) (L2 := [some (.ref 0), some (.int a), some (.int b), some (.int (G 4 a.toNatClampNeg)), none, none]) (st2 := [.int b, .int (G 5 a.toNatClampNeg)]) (μ2 := (hTown G)) rfl ⟨g1, g2, trivial⟩ ?_
  refine js_icne (t := 33) hM.1 (jat hM.2.1 10 rfl) rfl (fun hc19 => ?_) (fun hc19 => ?_)
  · have h := (if_neg hc19).symm.trans h
    refine JW.r hM 21 3 (pc2 := 36) (L2 := [some (.ref 0), some (.int a), some (.int b), some (.int (G 4 a.toNatClampNeg)), none, none]) (st2 := [.int a, .ref 0, .ref 0]) (μ2 := (hTown G)) rfl trivial ?_
    obtain ⟨v4, hv3, h⟩ := jbd h
    refine JW.cV (v := some (.int v4)) hM (m_X3_worthToGiver (jVX X) hM.1.2.2.2.2.2.2.2.2.2.1 N G a v4 hv3) (sb_Town_Town_0 G) (bi_Town_Town_0 G) rfl rfl rfl kc_X3_137 rfl rfl rfl rfl rfl (jat hM.2.1 24 rfl) (st := [.ref 0]) rfl ?_
    show JW X 0 0 39 [some (.ref 0), some (.int a), some (.int b), some (.int (G 4 a.toNatClampNeg)), none, none] [.int v4, .ref 0] (hTown G)
    obtain ⟨v6, hv5, h⟩ := jbd h
    refine JW.cV (v := some (.int v6)) hM (m_X3_cut (jVX X) hM.1.2.2.2.2.2.2.2.2.2.1 N G v4 v6 hv5) (sb_Town_Town_0 G) (bi_Town_Town_0 G) rfl rfl rfl kc_X3_140 rfl rfl rfl rfl rfl (jat hM.2.1 25 rfl) (st := []) rfl ?_
    show JW X 0 0 42 [some (.ref 0), some (.int a), some (.int b), some (.int (G 4 a.toNatClampNeg)), none, none] [.int v6] (hTown G)
    refine JW.r hM 26 1 (pc2 := 43) (L2 := [some (.ref 0), some (.int a), some (.int b), some (.int (G 4 a.toNatClampNeg)), none, none]) (st2 := [.int (-v6)]) (μ2 := (hTown G)) rfl trivial ?_
    exact t_X3_partOfUndoer_b43 hM hp N G a b (G 4 a.toNatClampNeg) (-v6) h hq
  · have h := (if_pos hc19).symm.trans h
    refine JW.r hM 11 3 (pc2 := 20) (L2 := [some (.ref 0), some (.int a), some (.int b), some (.int (G 4 a.toNatClampNeg)), none, none]) (st2 := [.int b, .int (G 4 a.toNatClampNeg), .ref 0]) (μ2 := (hTown G)) rfl trivial ?_
    obtain ⟨v17, hv16, h⟩ := jbd h
    refine JW.cV (v := some (.int v17)) hM (m_X3_worthTo (jVX X) hM.1.2.2.2.2.2.2.2.2.2.1 N G (G 4 a.toNatClampNeg) b v17 hv16) (sb_Town_Town_0 G) (bi_Town_Town_0 G) rfl rfl rfl kc_X3_90 rfl rfl rfl rfl rfl (jat hM.2.1 14 rfl) (st := []) rfl ?_
    show JW X 0 0 23 [some (.ref 0), some (.int a), some (.int b), some (.int (G 4 a.toNatClampNeg)), none, none] [.int v17] (hTown G)
    obtain ⟨g18, h⟩ := jg h
    refine JW.r hM 15 6 (pc2 := 43) (L2 := [some (.ref 0), some (.int a), some (.int b), some (.int (G 4 a.toNatClampNeg)), none, none]) (st2 := [.int (v17 - (G 7 a.toNatClampNeg))]) (μ2 := (hTown G)) rfl ⟨g18, trivial⟩ ?_
    exact t_X3_partOfUndoer_b43 hM hp N G a b (G 4 a.toNatClampNeg) (v17 - (G 7 a.toNatClampNeg)) h hq
theorem m_X3_partOfUndoer (V : jV) (hV : V.1.stackTraces = false) (N : Nat) (G : Nat → Nat → Int32) (a : Int32) (b : Int32) (v : Int32) (h : p_X3_partOfUndoer N G a b = some v) : jMet V yX3_partOfUndoer (jws yX3_partOfUndoer cX3_partOfUndoer 6 (some .int)) ⟨2, 0, 0, 43⟩ true 1 [.ref 0, .int a, .int b] (hTown G) (fun o ν => o = some (.int v) ∧ ν = (hTown G)) (fun _ _ => False) := by
  refine jmk (tb := tbX3) (C := kX3_partOfUndoer) hV rfl (by decide) tbX3_ok rfl kX3_partOfUndoer_ok rfl ?_
  intro X hM _ hp _
  exact t_X3_partOfUndoer hM hp N G a b h ⟨rfl, rfl⟩
def p_X3_partOfOther_b44 (N : Nat) (G : Nat → Nat → Int32) (x1 : Int32) (x2 : Int32) (x3 : Int32) (s0 : Int32) : Option (Int32) :=
  if jin x1 30 = true then if (G 6 x1.toNatClampNeg) = x2 then (if jin x1 30 = true then (p_X3_worthTo N G x3 x2).bind (fun v6 => (p_X3_worthToTaker N G x1).bind (fun v8 => (p_X3_cut N G v8).bind (fun v10 => some (s0 + (((G 7 x1.toNatClampNeg) - v6) + v10))))) else none) else (some (s0 + (0 : Int32))) else none
def p_X3_partOfOther (N : Nat) (G : Nat → Nat → Int32) (a : Int32) (b : Int32) : Option (Int32) :=
  if jin a 30 = true then if jin a 30 = true then if (G 5 a.toNatClampNeg) = b then ((p_X3_worthTo N G (G 4 a.toNatClampNeg) b).bind (fun v13 => if jin a 30 = true then (p_X3_worthToGiver N G a).bind (fun v16 => (p_X3_cut N G v16).bind (fun v18 => p_X3_partOfOther_b44 N G a b (G 4 a.toNatClampNeg) ((v13 - (G 7 a.toNatClampNeg)) + v18))) else none)) else (p_X3_partOfOther_b44 N G a b (G 4 a.toNatClampNeg) (0 : Int32)) else none else none
set_option maxHeartbeats 4000000 in
set_option maxRecDepth 100000 in
theorem t_X3_partOfOther_b44 {X : jX} {po : Option Value → jH → Prop} {px : String → jH → Prop} {sf : Bool} {B9 : Nat} (hM : jMX X kX3_partOfOther RX3 tbX3 6 ⟨2, 0, 0, 43⟩ (some .int) 10) (hp : jPost X sf B9 po px) (N : Nat) (G : Nat → Nat → Int32) {res : Int32} (x1 : Int32) (x2 : Int32) (x3 : Int32) (s0 : Int32) (h : p_X3_partOfOther_b44 N G x1 x2 x3 s0 = some res) (hq : po (some (.int res)) (hTown G)) : JW X 0 0 44 [some (.ref 0), some (.int x1), some (.int x2), some (.int x3), none, none] [.int s0] (hTown G) := by
  unfold p_X3_partOfOther_b44 at h
  obtain ⟨g3, h⟩ := jg h
  refine JW.r hM 28 6 (pc2 := 53) (L2 := [some (.ref 0), some (.int x1), some (.int x2), some (.int x3), some (.int s0), none]) (st2 := [.int x2, .int (G 6 x1.toNatClampNeg)]) (μ2 := (hTown G)) rfl ⟨g3, trivial⟩ ?_
  refine js_icne (t := 82) hM.1 (jat hM.2.1 34 rfl) rfl (fun hc11 => ?_) (fun hc11 => ?_)
  · have h := (if_neg hc11).symm.trans h
    refine JW.r hM 51 5 (pc2 := 90) (L2 := [some (.ref 0), some (.int x1), some (.int x2), some (.int x3), some (.int s0), some (.int (0 : Int32))]) (st2 := [.int (s0 + (0 : Int32))]) (μ2 := (hTown G)) rfl trivial ?_
    cases h
    exact js_iret hM.1 hp hM.2.2.2.2.2.2.2.1 (by rw [hM.2.2.2.2.2.1]; exact Nat.le_of_ble_eq_true rfl) (by rw [hM.2.2.2.2.2.2.1]; exact Nat.le_of_ble_eq_true rfl) (jat hM.2.1 56 rfl) hq
  · have h := (if_pos hc11).symm.trans h
    obtain ⟨g4, h⟩ := jg h
    refine JW.r hM 35 7 (pc2 := 65) (L2 := [some (.ref 0), some (.int x1), some (.int x2), some (.int x3), some (.int s0), none]) (st2 := [.int x2, .int x3, .ref 0, .int (G 7 x1.toNatClampNeg)]) (μ2 := (hTown G)) rfl ⟨g4, trivial⟩ ?_
    obtain ⟨v6, hv5, h⟩ := jbd h
    refine JW.cV (v := some (.int v6)) hM (m_X3_worthTo (jVX X) hM.1.2.2.2.2.2.2.2.2.2.1 N G x3 x2 v6 hv5) (sb_Town_Town_0 G) (bi_Town_Town_0 G) rfl rfl rfl kc_X3_90 rfl rfl rfl rfl rfl (jat hM.2.1 42 rfl) (st := [.int (G 7 x1.toNatClampNeg)]) rfl ?_
    show JW X 0 0 68 [some (.ref 0), some (.int x1), some (.int x2), some (.int x3), some (.int s0), none] [.int v6, .int (G 7 x1.toNatClampNeg)] (hTown G)
    refine JW.r hM 43 4 (pc2 := 72) (L2 := [some (.ref 0), some (.int x1), some (.int x2), some (.int x3), some (.int s0), none]) (st2 := [.int x1, .ref 0, .ref 0, .int ((G 7 x1.toNatClampNeg) - v6)]) (μ2 := (hTown G)) rfl trivial ?_
    obtain ⟨v8, hv7, h⟩ := jbd h
    refine JW.cV (v := some (.int v8)) hM (m_X3_worthToTaker (jVX X) hM.1.2.2.2.2.2.2.2.2.2.1 N G x1 v8 hv7) (sb_Town_Town_0 G) (bi_Town_Town_0 G) rfl rfl rfl kc_X3_143 rfl rfl rfl rfl rfl (jat hM.2.1 47 rfl) (st := [.ref 0, .int ((G 7 x1.toNatClampNeg) - v6)]) rfl ?_
    show JW X 0 0 75 [some (.ref 0), some (.int x1), some (.int x2), some (.int x3), some (.int s0), none] [.int v8, .ref 0, .int ((G 7 x1.toNatClampNeg) - v6)] (hTown G)
    obtain ⟨v10, hv9, h⟩ := jbd h
    refine JW.cV (v := some (.int v10)) hM (m_X3_cut (jVX X) hM.1.2.2.2.2.2.2.2.2.2.1 N G v8 v10 hv9) (sb_Town_Town_0 G) (bi_Town_Town_0 G) rfl rfl rfl kc_X3_140 rfl rfl rfl rfl rfl (jat hM.2.1 48 rfl) (st := [.int ((G 7 x1.toNatClampNeg) - v6)]) rfl ?_
    show JW X 0 0 78 [some (.ref 0), some (.int x1), some (.int x2), some (.int x3), some (.int s0), none] [.int v10, .int ((G 7 x1.toNatClampNeg) - v6)] (hTown G)
    refine JW.r hM 49 2 (pc2 := 83) (L2 := [some (.ref 0), some (.int x1), some (.int x2), some (.int x3), some (.int s0), none]) (st2 := [.int (((G 7 x1.toNatClampNeg) - v6) + v10)]) (μ2 := (hTown G)) rfl trivial ?_
    refine JW.r hM 52 4 (pc2 := 90) (L2 := [some (.ref 0), some (.int x1), some (.int x2), some (.int x3), some (.int s0), some (.int (((G 7 x1.toNatClampNeg) - v6) + v10))]) (st2 := [.int (s0 + (((G 7 x1.toNatClampNeg) - v6) + v10))]) (μ2 := (hTown G)) rfl trivial ?_
    cases h
    exact js_iret hM.1 hp hM.2.2.2.2.2.2.2.1 (by rw [hM.2.2.2.2.2.1]; exact Nat.le_of_ble_eq_true rfl) (by rw [hM.2.2.2.2.2.2.1]; exact Nat.le_of_ble_eq_true rfl) (jat hM.2.1 56 rfl) hq
set_option maxHeartbeats 4000000 in
set_option maxRecDepth 100000 in
theorem t_X3_partOfOther {X : jX} {po : Option Value → jH → Prop} {px : String → jH → Prop} {sf : Bool} {B9 : Nat} (hM : jMX X kX3_partOfOther RX3 tbX3 6 ⟨2, 0, 0, 43⟩ (some .int) 10) (hp : jPost X sf B9 po px) (N : Nat) (G : Nat → Nat → Int32) (a : Int32) (b : Int32) {res : Int32} (h : p_X3_partOfOther N G a b = some res) (hq : po (some (.int res)) (hTown G)) : JW X 0 0 0 [some (.ref 0), some (.int a), some (.int b), none, none, none] [] (hTown G) := by
  unfold p_X3_partOfOther at h
  obtain ⟨g1, h⟩ := jg h
  obtain ⟨g2, h⟩ := jg h
  refine JW.r hM 0 10 (pc2 := 14) (L2 := [some (.ref 0), some (.int a), some (.int b), some (.int (G 4 a.toNatClampNeg)), none, none]) (st2 := [.int b, .int (G 5 a.toNatClampNeg)]) (μ2 := (hTown G)) rfl ⟨g1, g2, trivial⟩ ?_
  refine js_icne (t := 43) hM.1 (jat hM.2.1 10 rfl) rfl (fun hc19 => ?_) (fun hc19 => ?_)
  · have h := (if_neg hc19).symm.trans h
    refine JW.r hM 27 1 (pc2 := 44) (L2 := [some (.ref 0), some (.int a), some (.int b), some (.int (G 4 a.toNatClampNeg)), none, none]) (st2 := [.int (0 : Int32)]) (μ2 := (hTown G)) rfl trivial ?_
    exact t_X3_partOfOther_b44 hM hp N G a b (G 4 a.toNatClampNeg) (0 : Int32) h hq
  · have h := (if_pos hc19).symm.trans h
    refine JW.r hM 11 3 (pc2 := 20) (L2 := [some (.ref 0), some (.int a), some (.int b), some (.int (G 4 a.toNatClampNeg)), none, none]) (st2 := [.int b, .int (G 4 a.toNatClampNeg), .ref 0]) (μ2 := (hTown G)) rfl trivial ?_
    obtain ⟨v13, hv12, h⟩ := jbd h
    refine JW.cV (v := some (.int v13)) hM (m_X3_worthTo (jVX X) hM.1.2.2.2.2.2.2.2.2.2.1 N G (G 4 a.toNatClampNeg) b v13 hv12) (sb_Town_Town_0 G) (bi_Town_Town_0 G) rfl rfl rfl kc_X3_90 rfl rfl rfl rfl rfl (jat hM.2.1 14 rfl) (st := []) rfl ?_
    show JW X 0 0 23 [some (.ref 0), some (.int a), some (.int b), some (.int (G 4 a.toNatClampNeg)), none, none] [.int v13] (hTown G)
    obtain ⟨g14, h⟩ := jg h
    refine JW.r hM 15 8 (pc2 := 33) (L2 := [some (.ref 0), some (.int a), some (.int b), some (.int (G 4 a.toNatClampNeg)), none, none]) (st2 := [.int a, .ref 0, .ref 0, .int (v13 - (G 7 a.toNatClampNeg))]) (μ2 := (hTown G)) rfl ⟨g14, trivial⟩ ?_
    obtain ⟨v16, hv15, h⟩ := jbd h
    refine JW.cV (v := some (.int v16)) hM (m_X3_worthToGiver (jVX X) hM.1.2.2.2.2.2.2.2.2.2.1 N G a v16 hv15) (sb_Town_Town_0 G) (bi_Town_Town_0 G) rfl rfl rfl kc_X3_137 rfl rfl rfl rfl rfl (jat hM.2.1 23 rfl) (st := [.ref 0, .int (v13 - (G 7 a.toNatClampNeg))]) rfl ?_
    show JW X 0 0 36 [some (.ref 0), some (.int a), some (.int b), some (.int (G 4 a.toNatClampNeg)), none, none] [.int v16, .ref 0, .int (v13 - (G 7 a.toNatClampNeg))] (hTown G)
    obtain ⟨v18, hv17, h⟩ := jbd h
    refine JW.cV (v := some (.int v18)) hM (m_X3_cut (jVX X) hM.1.2.2.2.2.2.2.2.2.2.1 N G v16 v18 hv17) (sb_Town_Town_0 G) (bi_Town_Town_0 G) rfl rfl rfl kc_X3_140 rfl rfl rfl rfl rfl (jat hM.2.1 24 rfl) (st := [.int (v13 - (G 7 a.toNatClampNeg))]) rfl ?_
    show JW X 0 0 39 [some (.ref 0), some (.int a), some (.int b), some (.int (G 4 a.toNatClampNeg)), none, none] [.int v18, .int (v13 - (G 7 a.toNatClampNeg))] (hTown G)
    refine JW.r hM 25 2 (pc2 := 44) (L2 := [some (.ref 0), some (.int a), some (.int b), some (.int (G 4 a.toNatClampNeg)), none, none]) (st2 := [.int ((v13 - (G 7 a.toNatClampNeg)) + v18)]) (μ2 := (hTown G)) rfl trivial ?_
    exact t_X3_partOfOther_b44 hM hp N G a b (G 4 a.toNatClampNeg) ((v13 - (G 7 a.toNatClampNeg)) + v18) h hq
theorem m_X3_partOfOther (V : jV) (hV : V.1.stackTraces = false) (N : Nat) (G : Nat → Nat → Int32) (a : Int32) (b : Int32) (v : Int32) (h : p_X3_partOfOther N G a b = some v) : jMet V yX3_partOfOther (jws yX3_partOfOther cX3_partOfOther 6 (some .int)) ⟨2, 0, 0, 43⟩ true 1 [.ref 0, .int a, .int b] (hTown G) (fun o ν => o = some (.int v) ∧ ν = (hTown G)) (fun _ _ => False) := by
  refine jmk (tb := tbX3) (C := kX3_partOfOther) hV rfl (by decide) tbX3_ok rfl kX3_partOfOther_ok rfl ?_
  intro X hM _ hp _
  exact t_X3_partOfOther hM hp N G a b h ⟨rfl, rfl⟩
def p_X3_gainOf_b34 (N : Nat) (G : Nat → Nat → Int32) (rv5 : Int32 → Int32 → Int32 → Int32 → Option (Int32)) (x1 : Int32) (x2 : Int32) (x3 : Int32) (x4 : Int32) : Option (Int32) :=
  rv5 x1 x2 x3 (x4 + 1)
def p_X3_gainOf_b5 (N : Nat) (G : Nat → Nat → Int32) : Nat → (Int32) → (Int32) → (Int32) → (Int32) → Option (Int32)
  | 0, _, _, _, _ => none
  | n + 1, x1, x2, x3, x4 => if (G 0 7) ≤ x4 then (some x3) else ((p_X3_fallsWith N G x4 x1).bind (fun v2 => if v2 = 0 then (p_X3_gainOf_b34 N G (p_X3_gainOf_b5 N G n) x1 x2 x3 x4) else ((p_X3_partOfUndoer N G x4 x2).bind (fun v4 => p_X3_gainOf_b34 N G (p_X3_gainOf_b5 N G n) x1 x2 (x3 + v4) x4))))
def p_X3_gainOf (N : Nat) (G : Nat → Nat → Int32) (a : Int32) (b : Int32) : Option (Int32) :=
  p_X3_gainOf_b5 N G N a b (0 : Int32) a
set_option maxHeartbeats 4000000 in
set_option maxRecDepth 100000 in
theorem t_X3_gainOf_b34 {X : jX} {po : Option Value → jH → Prop} {px : String → jH → Prop} {sf : Bool} {B9 : Nat} (hM : jMX X kX3_gainOf RX3 tbX3 5 ⟨3, 0, 0, 68⟩ (some .int) 10) (hp : jPost X sf B9 po px) (N : Nat) (G : Nat → Nat → Int32) (rv5 : Int32 → Int32 → Int32 → Int32 → Option (Int32)) {res : Int32} (ih5 : ∀ (x1 : Int32) (x2 : Int32) (x3 : Int32) (x4 : Int32), rv5 x1 x2 x3 x4 = some res → JW X 0 0 5 [some (.ref 0), some (.int x1), some (.int x2), some (.int x3), some (.int x4)] [] (hTown G)) (x1 : Int32) (x2 : Int32) (x3 : Int32) (x4 : Int32) (h : p_X3_gainOf_b34 N G rv5 x1 x2 x3 x4 = some res) (hq : po (some (.int res)) (hTown G)) : JW X 0 0 34 [some (.ref 0), some (.int x1), some (.int x2), some (.int x3), some (.int x4)] [] (hTown G) := by
  unfold p_X3_gainOf_b34 at h
  refine JW.r hM 20 2 (pc2 := 5) (L2 := [some (.ref 0), some (.int x1), some (.int x2), some (.int x3), some (.int (x4 + 1))]) (st2 := []) (μ2 := (hTown G)) rfl trivial ?_
  exact ih5 x1 x2 x3 (x4 + 1) h
set_option maxHeartbeats 4000000 in
set_option maxRecDepth 100000 in
theorem t_X3_gainOf_b5 {X : jX} {po : Option Value → jH → Prop} {px : String → jH → Prop} {sf : Bool} {B9 : Nat} (hM : jMX X kX3_gainOf RX3 tbX3 5 ⟨3, 0, 0, 68⟩ (some .int) 10) (hp : jPost X sf B9 po px) (N : Nat) (G : Nat → Nat → Int32) {res : Int32} : ∀ (n : Nat) (x1 : Int32) (x2 : Int32) (x3 : Int32) (x4 : Int32) (h : p_X3_gainOf_b5 N G n x1 x2 x3 x4 = some res) (hq : po (some (.int res)) (hTown G)), JW X 0 0 5 [some (.ref 0), some (.int x1), some (.int x2), some (.int x3), some (.int x4)] [] (hTown G) := by
  intro n
  induction n with
  | zero =>
    intro x1 x2 x3 x4 h hq
    cases (show (none : Option (Int32)) = some res from h)
  | succ n ih5 =>
    intro x1 x2 x3 x4 h hq
    have ih5 := fun x1 x2 x3 x4 h9 => ih5 x1 x2 x3 x4 h9 hq
    rw [p_X3_gainOf_b5] at h
    refine JW.r hM 4 3 (pc2 := 11) (L2 := [some (.ref 0), some (.int x1), some (.int x2), some (.int x3), some (.int x4)]) (st2 := [.int (G 0 7), .int x4]) (μ2 := (hTown G)) rfl trivial ?_
    refine js_icge (t := 40) hM.1 (jat hM.2.1 7 rfl) rfl (fun hc6 => ?_) (fun hc6 => ?_)
    · have h := (if_pos hc6).symm.trans h
      refine JW.r hM 22 1 (pc2 := 41) (L2 := [some (.ref 0), some (.int x1), some (.int x2), some (.int x3), some (.int x4)]) (st2 := [.int x3]) (μ2 := (hTown G)) rfl trivial ?_
      cases h
      exact js_iret hM.1 hp hM.2.2.2.2.2.2.2.1 (by rw [hM.2.2.2.2.2.1]; exact Nat.le_of_ble_eq_true rfl) (by rw [hM.2.2.2.2.2.2.1]; exact Nat.le_of_ble_eq_true rfl) (jat hM.2.1 23 rfl) hq
    · have h := (if_neg hc6).symm.trans h
      refine JW.r hM 8 3 (pc2 := 18) (L2 := [some (.ref 0), some (.int x1), some (.int x2), some (.int x3), some (.int x4)]) (st2 := [.int x1, .int x4, .ref 0]) (μ2 := (hTown G)) rfl trivial ?_
      obtain ⟨v2, hv1, h⟩ := jbd h
      refine JW.cV (v := some (.int v2)) hM (m_X3_fallsWith (jVX X) hM.1.2.2.2.2.2.2.2.2.2.1 N G x4 x1 v2 hv1) (sb_Town_Town_0 G) (bi_Town_Town_0 G) rfl rfl rfl kc_X3_134 rfl rfl rfl rfl rfl (jat hM.2.1 11 rfl) (st := []) rfl ?_
      show JW X 0 0 21 [some (.ref 0), some (.int x1), some (.int x2), some (.int x3), some (.int x4)] [.int v2] (hTown G)
      refine js_ifeq (t := 34) hM.1 (jat hM.2.1 12 rfl) rfl (fun hc5 => ?_) (fun hc5 => ?_)
      · have h := (if_pos hc5).symm.trans h
        exact t_X3_gainOf_b34 hM hp N G (p_X3_gainOf_b5 N G n) ih5 x1 x2 x3 x4 h hq
      · have h := (if_neg hc5).symm.trans h
        refine JW.r hM 13 4 (pc2 := 29) (L2 := [some (.ref 0), some (.int x1), some (.int x2), some (.int x3), some (.int x4)]) (st2 := [.int x2, .int x4, .ref 0, .int x3]) (μ2 := (hTown G)) rfl trivial ?_
        obtain ⟨v4, hv3, h⟩ := jbd h
        refine JW.cV (v := some (.int v4)) hM (m_X3_partOfUndoer (jVX X) hM.1.2.2.2.2.2.2.2.2.2.1 N G x4 x2 v4 hv3) (sb_Town_Town_0 G) (bi_Town_Town_0 G) rfl rfl rfl kc_X3_146 rfl rfl rfl rfl rfl (jat hM.2.1 17 rfl) (st := [.int x3]) rfl ?_
        show JW X 0 0 32 [some (.ref 0), some (.int x1), some (.int x2), some (.int x3), some (.int x4)] [.int v4, .int x3] (hTown G)
        refine JW.r hM 18 2 (pc2 := 34) (L2 := [some (.ref 0), some (.int x1), some (.int x2), some (.int (x3 + v4)), some (.int x4)]) (st2 := []) (μ2 := (hTown G)) rfl trivial ?_
        exact t_X3_gainOf_b34 hM hp N G (p_X3_gainOf_b5 N G n) ih5 x1 x2 (x3 + v4) x4 h hq
set_option maxHeartbeats 4000000 in
set_option maxRecDepth 100000 in
theorem t_X3_gainOf {X : jX} {po : Option Value → jH → Prop} {px : String → jH → Prop} {sf : Bool} {B9 : Nat} (hM : jMX X kX3_gainOf RX3 tbX3 5 ⟨3, 0, 0, 68⟩ (some .int) 10) (hp : jPost X sf B9 po px) (N : Nat) (G : Nat → Nat → Int32) (a : Int32) (b : Int32) {res : Int32} (h : p_X3_gainOf N G a b = some res) (hq : po (some (.int res)) (hTown G)) : JW X 0 0 0 [some (.ref 0), some (.int a), some (.int b), none, none] [] (hTown G) := by
  unfold p_X3_gainOf at h
  refine JW.r hM 0 4 (pc2 := 5) (L2 := [some (.ref 0), some (.int a), some (.int b), some (.int (0 : Int32)), some (.int a)]) (st2 := []) (μ2 := (hTown G)) rfl trivial ?_
  exact t_X3_gainOf_b5 hM hp N G N a b (0 : Int32) a h hq
theorem m_X3_gainOf (V : jV) (hV : V.1.stackTraces = false) (N : Nat) (G : Nat → Nat → Int32) (a : Int32) (b : Int32) (v : Int32) (h : p_X3_gainOf N G a b = some v) : jMet V yX3_gainOf (jws yX3_gainOf cX3_gainOf 5 (some .int)) ⟨3, 0, 0, 68⟩ true 1 [.ref 0, .int a, .int b] (hTown G) (fun o ν => o = some (.int v) ∧ ν = (hTown G)) (fun _ _ => False) := by
  refine jmk (tb := tbX3) (C := kX3_gainOf) hV rfl (by decide) tbX3_ok rfl kX3_gainOf_ok rfl ?_
  intro X hM _ hp _
  exact t_X3_gainOf hM hp N G a b h ⟨rfl, rfl⟩
def p_X3_topGain (N : Nat) (G : Nat → Nat → Int32) (a : Int32) : Option (Int32) :=
  if jin a 30 = true then (p_X3_gainOf N G a (G 5 a.toNatClampNeg)).bind (fun v3 => if jin a 30 = true then (p_X3_gainOf N G a (G 6 a.toNatClampNeg)).bind (fun v6 => (p_J9_max_7cf53 N v3 v6).bind (fun v8 => some v8)) else none) else none
set_option maxHeartbeats 4000000 in
set_option maxRecDepth 100000 in
theorem t_X3_topGain {X : jX} {po : Option Value → jH → Prop} {px : String → jH → Prop} {sf : Bool} {B9 : Nat} (hM : jMX X kX3_topGain RX3 tbX3 2 ⟨4, 0, 0, 92⟩ (some .int) 10) (hp : jPost X sf B9 po px) (N : Nat) (G : Nat → Nat → Int32) (a : Int32) {res : Int32} (h : p_X3_topGain N G a = some res) (hq : po (some (.int res)) (hTown G)) : JW X 0 0 0 [some (.ref 0), some (.int a)] [] (hTown G) := by
  unfold p_X3_topGain at h
  obtain ⟨g1, h⟩ := jg h
  refine JW.r hM 0 6 (pc2 := 8) (L2 := [some (.ref 0), some (.int a)]) (st2 := [.int (G 5 a.toNatClampNeg), .int a, .ref 0]) (μ2 := (hTown G)) rfl ⟨g1, trivial⟩ ?_
  obtain ⟨v3, hv2, h⟩ := jbd h
  refine JW.cV (v := some (.int v3)) hM (m_X3_gainOf (jVX X) hM.1.2.2.2.2.2.2.2.2.2.1 N G a (G 5 a.toNatClampNeg) v3 hv2) (sb_Town_Town_0 G) (bi_Town_Town_0 G) rfl rfl rfl kc_X3_149 rfl rfl rfl rfl rfl (jat hM.2.1 6 rfl) (st := []) rfl ?_
  show JW X 0 0 11 [some (.ref 0), some (.int a)] [.int v3] (hTown G)
  obtain ⟨g4, h⟩ := jg h
  refine JW.r hM 7 6 (pc2 := 19) (L2 := [some (.ref 0), some (.int a)]) (st2 := [.int (G 6 a.toNatClampNeg), .int a, .ref 0, .int v3]) (μ2 := (hTown G)) rfl ⟨g4, trivial⟩ ?_
  obtain ⟨v6, hv5, h⟩ := jbd h
  refine JW.cV (v := some (.int v6)) hM (m_X3_gainOf (jVX X) hM.1.2.2.2.2.2.2.2.2.2.1 N G a (G 6 a.toNatClampNeg) v6 hv5) (sb_Town_Town_0 G) (bi_Town_Town_0 G) rfl rfl rfl kc_X3_149 rfl rfl rfl rfl rfl (jat hM.2.1 13 rfl) (st := [.int v3]) rfl ?_
  show JW X 0 0 22 [some (.ref 0), some (.int a)] [.int v6, .int v3] (hTown G)
  obtain ⟨v8, hv7, h⟩ := jbd h
  refine JW.cS (v := some (.int v8)) hM (m_J9_max_7cf53 (jVX X) hM.1.2.2.2.2.2.2.2.2.2.1 N v3 v6 v8 hv7) (sb_Town_E_ G) (bi_Town_E_ G) rfl rfl rfl kc_X3_98 rfl rfl rfl (jat hM.2.1 14 rfl) (st := []) rfl ?_
  show JW X 0 0 25 [some (.ref 0), some (.int a)] [.int v8] (hTown G)
  cases h
  exact js_iret hM.1 hp hM.2.2.2.2.2.2.2.1 (by rw [hM.2.2.2.2.2.1]; exact Nat.le_of_ble_eq_true rfl) (by rw [hM.2.2.2.2.2.2.1]; exact Nat.le_of_ble_eq_true rfl) (jat hM.2.1 15 rfl) hq
theorem m_X3_topGain (V : jV) (hV : V.1.stackTraces = false) (N : Nat) (G : Nat → Nat → Int32) (a : Int32) (v : Int32) (h : p_X3_topGain N G a = some v) : jMet V yX3_topGain (jws yX3_topGain cX3_topGain 2 (some .int)) ⟨4, 0, 0, 92⟩ true 1 [.ref 0, .int a] (hTown G) (fun o ν => o = some (.int v) ∧ ν = (hTown G)) (fun _ _ => False) := by
  refine jmk (tb := tbX3) (C := kX3_topGain) hV rfl (by decide) tbX3_ok rfl kX3_topGain_ok rfl ?_
  intro X hM _ hp _
  exact t_X3_topGain hM hp N G a h ⟨rfl, rfl⟩
def p_X3_bestUndoing_b64 (N : Nat) (G : Nat → Nat → Int32) (rv6 : Int32 → Int32 → Int32 → Option (Int32)) (x1 : Int32) (x2 : Int32) (x3 : Int32) : Option (Int32) :=
  rv6 x1 x2 (x3 + 1)
def p_X3_bestUndoing_b6 (N : Nat) (G : Nat → Nat → Int32) : Nat → (Int32) → (Int32) → (Int32) → Option (Int32)
  | 0, _, _, _ => none
  | n + 1, x1, x2, x3 => if ((2 : Int32) * (G 0 7)) ≤ x3 then (some x2) else ((p_X3_sideOf N G (x3 >>> ((1 : Int32) &&& 31)) (x3 &&& (1 : Int32))).bind (fun v2 => (p_X3_gainOf N G (x3 >>> ((1 : Int32) &&& 31)) v2).bind (fun v4 => if v4 ≤ x1 then (p_X3_bestUndoing_b64 N G (p_X3_bestUndoing_b6 N G n) x1 x2 x3) else ((p_X3_whyNoUndoing N G (x3 >>> ((1 : Int32) &&& 31)) v2).bind (fun v6 => if v6 = 0 then (p_X3_bestUndoing_b64 N G (p_X3_bestUndoing_b6 N G n) v4 x3 x3) else (p_X3_bestUndoing_b64 N G (p_X3_bestUndoing_b6 N G n) x1 x2 x3))))))
def p_X3_bestUndoing (N : Nat) (G : Nat → Nat → Int32) : Option (Int32) :=
  p_X3_bestUndoing_b6 N G N (0 : Int32) (-1 : Int32) (0 : Int32)
set_option maxHeartbeats 4000000 in
set_option maxRecDepth 100000 in
theorem t_X3_bestUndoing_b64 {X : jX} {po : Option Value → jH → Prop} {px : String → jH → Prop} {sf : Bool} {B9 : Nat} (hM : jMX X kX3_bestUndoing RX3 tbX3 7 ⟨4, 0, 0, 92⟩ (some .int) 10) (hp : jPost X sf B9 po px) (N : Nat) (G : Nat → Nat → Int32) (rv6 : Int32 → Int32 → Int32 → Option (Int32)) {res : Int32} (ih6 : ∀ (x1 : Int32) (x2 : Int32) (x3 : Int32), rv6 x1 x2 x3 = some res → JW X 0 0 6 [some (.ref 0), some (.int x1), some (.int x2), some (.int x3), none, none, none] [] (hTown G)) (x1 : Int32) (x2 : Int32) (x3 : Int32) (h : p_X3_bestUndoing_b64 N G rv6 x1 x2 x3 = some res) (hq : po (some (.int res)) (hTown G)) : JW X 0 0 64 [some (.ref 0), some (.int x1), some (.int x2), some (.int x3), none, none, none] [] (hTown G) := by
  unfold p_X3_bestUndoing_b64 at h
  refine JW.r hM 40 2 (pc2 := 6) (L2 := [some (.ref 0), some (.int x1), some (.int x2), some (.int (x3 + 1)), none, none, none]) (st2 := []) (μ2 := (hTown G)) rfl trivial ?_
  exact ih6 x1 x2 (x3 + 1) h
set_option maxHeartbeats 4000000 in
set_option maxRecDepth 100000 in
theorem t_X3_bestUndoing_b6 {X : jX} {po : Option Value → jH → Prop} {px : String → jH → Prop} {sf : Bool} {B9 : Nat} (hM : jMX X kX3_bestUndoing RX3 tbX3 7 ⟨4, 0, 0, 92⟩ (some .int) 10) (hp : jPost X sf B9 po px) (N : Nat) (G : Nat → Nat → Int32) {res : Int32} : ∀ (n : Nat) (x1 : Int32) (x2 : Int32) (x3 : Int32) (h : p_X3_bestUndoing_b6 N G n x1 x2 x3 = some res) (hq : po (some (.int res)) (hTown G)), JW X 0 0 6 [some (.ref 0), some (.int x1), some (.int x2), some (.int x3), none, none, none] [] (hTown G) := by
  intro n
  induction n with
  | zero =>
    intro x1 x2 x3 h hq
    cases (show (none : Option (Int32)) = some res from h)
  | succ n ih6 =>
    intro x1 x2 x3 h hq
    have ih6 := fun x1 x2 x3 h9 => ih6 x1 x2 x3 h9 hq
    rw [p_X3_bestUndoing_b6] at h
    refine JW.r hM 6 5 (pc2 := 13) (L2 := [some (.ref 0), some (.int x1), some (.int x2), some (.int x3), none, none, none]) (st2 := [.int ((2 : Int32) * (G 0 7)), .int x3]) (μ2 := (hTown G)) rfl trivial ?_
    refine js_icge (t := 70) hM.1 (jat hM.2.1 11 rfl) rfl (fun hc9 => ?_) (fun hc9 => ?_)
    · have h := (if_pos hc9).symm.trans h
      refine JW.r hM 42 1 (pc2 := 71) (L2 := [some (.ref 0), some (.int x1), some (.int x2), some (.int x3), none, none, none]) (st2 := [.int x2]) (μ2 := (hTown G)) rfl trivial ?_
      cases h
      exact js_iret hM.1 hp hM.2.2.2.2.2.2.2.1 (by rw [hM.2.2.2.2.2.1]; exact Nat.le_of_ble_eq_true rfl) (by rw [hM.2.2.2.2.2.2.1]; exact Nat.le_of_ble_eq_true rfl) (jat hM.2.1 43 rfl) hq
    · have h := (if_neg hc9).symm.trans h
      refine JW.r hM 12 9 (pc2 := 27) (L2 := [some (.ref 0), some (.int x1), some (.int x2), some (.int x3), some (.int (x3 >>> ((1 : Int32) &&& 31))), none, none]) (st2 := [.int (x3 &&& (1 : Int32)), .int (x3 >>> ((1 : Int32) &&& 31)), .ref 0]) (μ2 := (hTown G)) rfl trivial ?_
      obtain ⟨v2, hv1, h⟩ := jbd h
      refine JW.cV (v := some (.int v2)) hM (m_X3_sideOf (jVX X) hM.1.2.2.2.2.2.2.2.2.2.1 N G (x3 >>> ((1 : Int32) &&& 31)) (x3 &&& (1 : Int32)) v2 hv1) (sb_Town_Town_0 G) (bi_Town_Town_0 G) rfl rfl rfl kc_X3_152 rfl rfl rfl rfl rfl (jat hM.2.1 21 rfl) (st := []) rfl ?_
      show JW X 0 0 30 [some (.ref 0), some (.int x1), some (.int x2), some (.int x3), some (.int (x3 >>> ((1 : Int32) &&& 31))), none, none] [.int v2] (hTown G)
      refine JW.r hM 22 4 (pc2 := 37) (L2 := [some (.ref 0), some (.int x1), some (.int x2), some (.int x3), some (.int (x3 >>> ((1 : Int32) &&& 31))), some (.int v2), none]) (st2 := [.int v2, .int (x3 >>> ((1 : Int32) &&& 31)), .ref 0]) (μ2 := (hTown G)) rfl trivial ?_
      obtain ⟨v4, hv3, h⟩ := jbd h
      refine JW.cV (v := some (.int v4)) hM (m_X3_gainOf (jVX X) hM.1.2.2.2.2.2.2.2.2.2.1 N G (x3 >>> ((1 : Int32) &&& 31)) v2 v4 hv3) (sb_Town_Town_0 G) (bi_Town_Town_0 G) rfl rfl rfl kc_X3_149 rfl rfl rfl rfl rfl (jat hM.2.1 26 rfl) (st := []) rfl ?_
      show JW X 0 0 40 [some (.ref 0), some (.int x1), some (.int x2), some (.int x3), some (.int (x3 >>> ((1 : Int32) &&& 31))), some (.int v2), none] [.int v4] (hTown G)
      refine JW.r hM 27 3 (pc2 := 45) (L2 := [some (.ref 0), some (.int x1), some (.int x2), some (.int x3), some (.int (x3 >>> ((1 : Int32) &&& 31))), some (.int v2), some (.int v4)]) (st2 := [.int x1, .int v4]) (μ2 := (hTown G)) rfl trivial ?_
      refine js_icle (t := 64) hM.1 (jat hM.2.1 30 rfl) rfl (fun hc8 => ?_) (fun hc8 => ?_)
      · have h := (if_pos hc8).symm.trans h
        exact JW.mask [true, true, true, true, false, false, false] (t_X3_bestUndoing_b64 hM hp N G (p_X3_bestUndoing_b6 N G n) ih6 x1 x2 x3 h hq)
      · have h := (if_neg hc8).symm.trans h
        refine JW.r hM 31 3 (pc2 := 53) (L2 := [some (.ref 0), some (.int x1), some (.int x2), some (.int x3), some (.int (x3 >>> ((1 : Int32) &&& 31))), some (.int v2), some (.int v4)]) (st2 := [.int v2, .int (x3 >>> ((1 : Int32) &&& 31)), .ref 0]) (μ2 := (hTown G)) rfl trivial ?_
        obtain ⟨v6, hv5, h⟩ := jbd h
        refine JW.cV (v := some (.int v6)) hM (m_X3_whyNoUndoing (jVX X) hM.1.2.2.2.2.2.2.2.2.2.1 N G (x3 >>> ((1 : Int32) &&& 31)) v2 v6 hv5) (sb_Town_Town_0 G) (bi_Town_Town_0 G) rfl rfl rfl kc_X3_155 rfl rfl rfl rfl rfl (jat hM.2.1 34 rfl) (st := []) rfl ?_
        show JW X 0 0 56 [some (.ref 0), some (.int x1), some (.int x2), some (.int x3), some (.int (x3 >>> ((1 : Int32) &&& 31))), some (.int v2), some (.int v4)] [.int v6] (hTown G)
        refine js_ifne (t := 64) hM.1 (jat hM.2.1 35 rfl) rfl (fun hc7 => ?_) (fun hc7 => ?_)
        · have h := (if_neg hc7).symm.trans h
          exact JW.mask [true, true, true, true, false, false, false] (t_X3_bestUndoing_b64 hM hp N G (p_X3_bestUndoing_b6 N G n) ih6 x1 x2 x3 h hq)
        · have h := (if_pos hc7).symm.trans h
          refine JW.r hM 36 4 (pc2 := 64) (L2 := [some (.ref 0), some (.int v4), some (.int x3), some (.int x3), some (.int (x3 >>> ((1 : Int32) &&& 31))), some (.int v2), some (.int v4)]) (st2 := []) (μ2 := (hTown G)) rfl trivial ?_
          exact JW.mask [true, true, true, true, false, false, false] (t_X3_bestUndoing_b64 hM hp N G (p_X3_bestUndoing_b6 N G n) ih6 v4 x3 x3 h hq)
set_option maxHeartbeats 4000000 in
set_option maxRecDepth 100000 in
theorem t_X3_bestUndoing {X : jX} {po : Option Value → jH → Prop} {px : String → jH → Prop} {sf : Bool} {B9 : Nat} (hM : jMX X kX3_bestUndoing RX3 tbX3 7 ⟨4, 0, 0, 92⟩ (some .int) 10) (hp : jPost X sf B9 po px) (N : Nat) (G : Nat → Nat → Int32) {res : Int32} (h : p_X3_bestUndoing N G = some res) (hq : po (some (.int res)) (hTown G)) : JW X 0 0 0 [some (.ref 0), none, none, none, none, none, none] [] (hTown G) := by
  unfold p_X3_bestUndoing at h
  refine JW.r hM 0 6 (pc2 := 6) (L2 := [some (.ref 0), some (.int (0 : Int32)), some (.int (-1 : Int32)), some (.int (0 : Int32)), none, none, none]) (st2 := []) (μ2 := (hTown G)) rfl trivial ?_
  exact t_X3_bestUndoing_b6 hM hp N G N (0 : Int32) (-1 : Int32) (0 : Int32) h hq
theorem m_X3_bestUndoing (V : jV) (hV : V.1.stackTraces = false) (N : Nat) (G : Nat → Nat → Int32) (v : Int32) (h : p_X3_bestUndoing N G = some v) : jMet V yX3_bestUndoing (jws yX3_bestUndoing cX3_bestUndoing 7 (some .int)) ⟨4, 0, 0, 92⟩ true 1 [.ref 0] (hTown G) (fun o ν => o = some (.int v) ∧ ν = (hTown G)) (fun _ _ => False) := by
  refine jmk (tb := tbX3) (C := kX3_bestUndoing) hV rfl (by decide) tbX3_ok rfl kX3_bestUndoing_ok rfl ?_
  intro X hM _ hp _
  exact t_X3_bestUndoing hM hp N G h ⟨rfl, rfl⟩
def p_X3_wouldBeSafe (N : Nat) (G : Nat → Nat → Int32) (a : Int32) (b : Int32) (c : Int32) : Option (Int32) :=
  if jin a 10 = true then (p_X3_worthTo N G a (G 2 a.toNatClampNeg)).bind (fun v3 => (p_X3_worthTo N G a b).bind (fun v5 => (p_J9_max_7cf53 N (0 : Int32) (v5 - c)).bind (fun v7 => (p_X3_cut N G v7).bind (fun v9 => (p_J9_max_7cf53 N (0 : Int32) (c - v3)).bind (fun v11 => (p_X3_cut N G v11).bind (fun v13 => if 0 < ((v3 - c) - v9) then (some (0 : Int32)) else (if 0 < ((c - v5) - v13) then (some (0 : Int32)) else (some (1 : Int32))))))))) else none
set_option maxHeartbeats 4000000 in
set_option maxRecDepth 100000 in
theorem t_X3_wouldBeSafe {X : jX} {po : Option Value → jH → Prop} {px : String → jH → Prop} {sf : Bool} {B9 : Nat} (hM : jMX X kX3_wouldBeSafe RX3 tbX3 8 ⟨1, 0, 0, 22⟩ (some .boolean) 10) (hp : jPost X sf B9 po px) (N : Nat) (G : Nat → Nat → Int32) (a : Int32) (b : Int32) (c : Int32) {res : Int32} (h : p_X3_wouldBeSafe N G a b c = some res) (hq : po (some (.int res)) (hTown G)) : JW X 0 0 0 [some (.ref 0), some (.int a), some (.int b), some (.int c), none, none, none, none] [] (hTown G) := by
  unfold p_X3_wouldBeSafe at h
  obtain ⟨g1, h⟩ := jg h
  refine JW.r hM 0 6 (pc2 := 8) (L2 := [some (.ref 0), some (.int a), some (.int b), some (.int c), none, none, none, none]) (st2 := [.int (G 2 a.toNatClampNeg), .int a, .ref 0]) (μ2 := (hTown G)) rfl ⟨g1, trivial⟩ ?_
  obtain ⟨v3, hv2, h⟩ := jbd h
  refine JW.cV (v := some (.int v3)) hM (m_X3_worthTo (jVX X) hM.1.2.2.2.2.2.2.2.2.2.1 N G a (G 2 a.toNatClampNeg) v3 hv2) (sb_Town_Town_0 G) (bi_Town_Town_0 G) rfl rfl rfl kc_X3_90 rfl rfl rfl rfl rfl (jat hM.2.1 6 rfl) (st := []) rfl ?_
  show JW X 0 0 11 [some (.ref 0), some (.int a), some (.int b), some (.int c), none, none, none, none] [.int v3] (hTown G)
  refine JW.r hM 7 4 (pc2 := 16) (L2 := [some (.ref 0), some (.int a), some (.int b), some (.int c), some (.int v3), none, none, none]) (st2 := [.int b, .int a, .ref 0]) (μ2 := (hTown G)) rfl trivial ?_
  obtain ⟨v5, hv4, h⟩ := jbd h
  refine JW.cV (v := some (.int v5)) hM (m_X3_worthTo (jVX X) hM.1.2.2.2.2.2.2.2.2.2.1 N G a b v5 hv4) (sb_Town_Town_0 G) (bi_Town_Town_0 G) rfl rfl rfl kc_X3_90 rfl rfl rfl rfl rfl (jat hM.2.1 11 rfl) (st := []) rfl ?_
  show JW X 0 0 19 [some (.ref 0), some (.int a), some (.int b), some (.int c), some (.int v3), none, none, none] [.int v5] (hTown G)
  refine JW.r hM 12 9 (pc2 := 31) (L2 := [some (.ref 0), some (.int a), some (.int b), some (.int c), some (.int v3), some (.int v5), none, none]) (st2 := [.int (v5 - c), .int (0 : Int32), .ref 0, .int (v3 - c)]) (μ2 := (hTown G)) rfl trivial ?_
  obtain ⟨v7, hv6, h⟩ := jbd h
  refine JW.cS (v := some (.int v7)) hM (m_J9_max_7cf53 (jVX X) hM.1.2.2.2.2.2.2.2.2.2.1 N (0 : Int32) (v5 - c) v7 hv6) (sb_Town_E_ G) (bi_Town_E_ G) rfl rfl rfl kc_X3_98 rfl rfl rfl (jat hM.2.1 21 rfl) (st := [.ref 0, .int (v3 - c)]) rfl ?_
  show JW X 0 0 34 [some (.ref 0), some (.int a), some (.int b), some (.int c), some (.int v3), some (.int v5), none, none] [.int v7, .ref 0, .int (v3 - c)] (hTown G)
  obtain ⟨v9, hv8, h⟩ := jbd h
  refine JW.cV (v := some (.int v9)) hM (m_X3_cut (jVX X) hM.1.2.2.2.2.2.2.2.2.2.1 N G v7 v9 hv8) (sb_Town_Town_0 G) (bi_Town_Town_0 G) rfl rfl rfl kc_X3_140 rfl rfl rfl rfl rfl (jat hM.2.1 22 rfl) (st := [.int (v3 - c)]) rfl ?_
  show JW X 0 0 37 [some (.ref 0), some (.int a), some (.int b), some (.int c), some (.int v3), some (.int v5), none, none] [.int v9, .int (v3 - c)] (hTown G)
  refine JW.r hM 23 10 (pc2 := 50) (L2 := [some (.ref 0), some (.int a), some (.int b), some (.int c), some (.int v3), some (.int v5), some (.int ((v3 - c) - v9)), none]) (st2 := [.int (c - v3), .int (0 : Int32), .ref 0, .int (c - v5)]) (μ2 := (hTown G)) rfl trivial ?_
  obtain ⟨v11, hv10, h⟩ := jbd h
  refine JW.cS (v := some (.int v11)) hM (m_J9_max_7cf53 (jVX X) hM.1.2.2.2.2.2.2.2.2.2.1 N (0 : Int32) (c - v3) v11 hv10) (sb_Town_E_ G) (bi_Town_E_ G) rfl rfl rfl kc_X3_98 rfl rfl rfl (jat hM.2.1 33 rfl) (st := [.ref 0, .int (c - v5)]) rfl ?_
  show JW X 0 0 53 [some (.ref 0), some (.int a), some (.int b), some (.int c), some (.int v3), some (.int v5), some (.int ((v3 - c) - v9)), none] [.int v11, .ref 0, .int (c - v5)] (hTown G)
  obtain ⟨v13, hv12, h⟩ := jbd h
  refine JW.cV (v := some (.int v13)) hM (m_X3_cut (jVX X) hM.1.2.2.2.2.2.2.2.2.2.1 N G v11 v13 hv12) (sb_Town_Town_0 G) (bi_Town_Town_0 G) rfl rfl rfl kc_X3_140 rfl rfl rfl rfl rfl (jat hM.2.1 34 rfl) (st := [.int (c - v5)]) rfl ?_
  show JW X 0 0 56 [some (.ref 0), some (.int a), some (.int b), some (.int c), some (.int v3), some (.int v5), some (.int ((v3 - c) - v9)), none] [.int v13, .int (c - v5)] (hTown G)
  refine JW.r hM 35 3 (pc2 := 61) (L2 := [some (.ref 0), some (.int a), some (.int b), some (.int c), some (.int v3), some (.int v5), some (.int ((v3 - c) - v9)), some (.int ((c - v5) - v13))]) (st2 := [.int ((v3 - c) - v9)]) (μ2 := (hTown G)) rfl trivial ?_
  refine js_ifgt (t := 73) hM.1 (jat hM.2.1 38 rfl) rfl (fun hc15 => ?_) (fun hc15 => ?_)
  · have h := (if_pos hc15).symm.trans h
    refine JW.r hM 43 1 (pc2 := 74) (L2 := [some (.ref 0), some (.int a), some (.int b), some (.int c), some (.int v3), some (.int v5), some (.int ((v3 - c) - v9)), some (.int ((c - v5) - v13))]) (st2 := [.int (0 : Int32)]) (μ2 := (hTown G)) rfl trivial ?_
    cases h
    exact js_zret hM.1 hp hM.2.2.2.2.2.2.2.1 rfl (by rw [hM.2.2.2.2.2.1]; exact Nat.le_of_ble_eq_true rfl) (by rw [hM.2.2.2.2.2.2.1]; exact Nat.le_of_ble_eq_true rfl) (jat hM.2.1 44 rfl) hq
  · have h := (if_neg hc15).symm.trans h
    refine JW.r hM 39 1 (pc2 := 66) (L2 := [some (.ref 0), some (.int a), some (.int b), some (.int c), some (.int v3), some (.int v5), some (.int ((v3 - c) - v9)), some (.int ((c - v5) - v13))]) (st2 := [.int ((c - v5) - v13)]) (μ2 := (hTown G)) rfl trivial ?_
    refine js_ifgt (t := 73) hM.1 (jat hM.2.1 40 rfl) rfl (fun hc14 => ?_) (fun hc14 => ?_)
    · have h := (if_pos hc14).symm.trans h
      refine JW.r hM 43 1 (pc2 := 74) (L2 := [some (.ref 0), some (.int a), some (.int b), some (.int c), some (.int v3), some (.int v5), some (.int ((v3 - c) - v9)), some (.int ((c - v5) - v13))]) (st2 := [.int (0 : Int32)]) (μ2 := (hTown G)) rfl trivial ?_
      cases h
      exact js_zret hM.1 hp hM.2.2.2.2.2.2.2.1 rfl (by rw [hM.2.2.2.2.2.1]; exact Nat.le_of_ble_eq_true rfl) (by rw [hM.2.2.2.2.2.2.1]; exact Nat.le_of_ble_eq_true rfl) (jat hM.2.1 44 rfl) hq
    · have h := (if_neg hc14).symm.trans h
      refine JW.r hM 41 2 (pc2 := 74) (L2 := [some (.ref 0), some (.int a), some (.int b), some (.int c), some (.int v3), some (.int v5), some (.int ((v3 - c) - v9)), some (.int ((c - v5) - v13))]) (st2 := [.int (1 : Int32)]) (μ2 := (hTown G)) rfl trivial ?_
      cases h
      exact js_zret hM.1 hp hM.2.2.2.2.2.2.2.1 rfl (by rw [hM.2.2.2.2.2.1]; exact Nat.le_of_ble_eq_true rfl) (by rw [hM.2.2.2.2.2.2.1]; exact Nat.le_of_ble_eq_true rfl) (jat hM.2.1 44 rfl) hq
theorem m_X3_wouldBeSafe (V : jV) (hV : V.1.stackTraces = false) (N : Nat) (G : Nat → Nat → Int32) (a : Int32) (b : Int32) (c : Int32) (v : Int32) (h : p_X3_wouldBeSafe N G a b c = some v) : jMet V yX3_wouldBeSafe (jws yX3_wouldBeSafe cX3_wouldBeSafe 8 (some .boolean)) ⟨1, 0, 0, 22⟩ true 1 [.ref 0, .int a, .int b, .int c] (hTown G) (fun o ν => o = some (.int v) ∧ ν = (hTown G)) (fun _ _ => False) := by
  refine jmk (tb := tbX3) (C := kX3_wouldBeSafe) hV rfl (by decide) tbX3_ok rfl kX3_wouldBeSafe_ok rfl ?_
  intro X hM _ hp _
  exact t_X3_wouldBeSafe hM hp N G a b c h ⟨rfl, rfl⟩
def p_X3_chainLength_b33 (N : Nat) (G : Nat → Nat → Int32) (rv4 : Int32 → Int32 → Int32 → Option (Int32)) (x1 : Int32) (x2 : Int32) (x3 : Int32) : Option (Int32) :=
  rv4 x1 x2 (x3 + 1)
def p_X3_chainLength_b4 (N : Nat) (G : Nat → Nat → Int32) : Nat → (Int32) → (Int32) → (Int32) → Option (Int32)
  | 0, _, _, _ => none
  | n + 1, x1, x2, x3 => if (G 0 7) ≤ x3 then (some x2) else (if jin x3 30 = true then if (G 4 x3.toNatClampNeg) = x1 then ((p_X3_stands N G x3).bind (fun v3 => if v3 = 0 then (p_X3_chainLength_b33 N G (p_X3_chainLength_b4 N G n) x1 x2 x3) else (p_X3_chainLength_b33 N G (p_X3_chainLength_b4 N G n) x1 (x2 + 1) x3))) else (p_X3_chainLength_b33 N G (p_X3_chainLength_b4 N G n) x1 x2 x3) else none)
def p_X3_chainLength (N : Nat) (G : Nat → Nat → Int32) (a : Int32) : Option (Int32) :=
  p_X3_chainLength_b4 N G N a (0 : Int32) (0 : Int32)
set_option maxHeartbeats 4000000 in
set_option maxRecDepth 100000 in
theorem t_X3_chainLength_b33 {X : jX} {po : Option Value → jH → Prop} {px : String → jH → Prop} {sf : Bool} {B9 : Nat} (hM : jMX X kX3_chainLength RX3 tbX3 4 ⟨1, 0, 0, 21⟩ (some .int) 10) (hp : jPost X sf B9 po px) (N : Nat) (G : Nat → Nat → Int32) (rv4 : Int32 → Int32 → Int32 → Option (Int32)) {res : Int32} (ih4 : ∀ (x1 : Int32) (x2 : Int32) (x3 : Int32), rv4 x1 x2 x3 = some res → JW X 0 0 4 [some (.ref 0), some (.int x1), some (.int x2), some (.int x3)] [] (hTown G)) (x1 : Int32) (x2 : Int32) (x3 : Int32) (h : p_X3_chainLength_b33 N G rv4 x1 x2 x3 = some res) (hq : po (some (.int res)) (hTown G)) : JW X 0 0 33 [some (.ref 0), some (.int x1), some (.int x2), some (.int x3)] [] (hTown G) := by
  unfold p_X3_chainLength_b33 at h
  refine JW.r hM 19 2 (pc2 := 4) (L2 := [some (.ref 0), some (.int x1), some (.int x2), some (.int (x3 + 1))]) (st2 := []) (μ2 := (hTown G)) rfl trivial ?_
  exact ih4 x1 x2 (x3 + 1) h
set_option maxHeartbeats 4000000 in
set_option maxRecDepth 100000 in
theorem t_X3_chainLength_b4 {X : jX} {po : Option Value → jH → Prop} {px : String → jH → Prop} {sf : Bool} {B9 : Nat} (hM : jMX X kX3_chainLength RX3 tbX3 4 ⟨1, 0, 0, 21⟩ (some .int) 10) (hp : jPost X sf B9 po px) (N : Nat) (G : Nat → Nat → Int32) {res : Int32} : ∀ (n : Nat) (x1 : Int32) (x2 : Int32) (x3 : Int32) (h : p_X3_chainLength_b4 N G n x1 x2 x3 = some res) (hq : po (some (.int res)) (hTown G)), JW X 0 0 4 [some (.ref 0), some (.int x1), some (.int x2), some (.int x3)] [] (hTown G) := by
  intro n
  induction n with
  | zero =>
    intro x1 x2 x3 h hq
    cases (show (none : Option (Int32)) = some res from h)
  | succ n ih4 =>
    intro x1 x2 x3 h hq
    have ih4 := fun x1 x2 x3 h9 => ih4 x1 x2 x3 h9 hq
    rw [p_X3_chainLength_b4] at h
    refine JW.r hM 4 3 (pc2 := 9) (L2 := [some (.ref 0), some (.int x1), some (.int x2), some (.int x3)]) (st2 := [.int (G 0 7), .int x3]) (μ2 := (hTown G)) rfl trivial ?_
    refine js_icge (t := 39) hM.1 (jat hM.2.1 7 rfl) rfl (fun hc6 => ?_) (fun hc6 => ?_)
    · have h := (if_pos hc6).symm.trans h
      refine JW.r hM 21 1 (pc2 := 40) (L2 := [some (.ref 0), some (.int x1), some (.int x2), some (.int x3)]) (st2 := [.int x2]) (μ2 := (hTown G)) rfl trivial ?_
      cases h
      exact js_iret hM.1 hp hM.2.2.2.2.2.2.2.1 (by rw [hM.2.2.2.2.2.1]; exact Nat.le_of_ble_eq_true rfl) (by rw [hM.2.2.2.2.2.2.1]; exact Nat.le_of_ble_eq_true rfl) (jat hM.2.1 22 rfl) hq
    · have h := (if_neg hc6).symm.trans h
      obtain ⟨g1, h⟩ := jg h
      refine JW.r hM 8 5 (pc2 := 19) (L2 := [some (.ref 0), some (.int x1), some (.int x2), some (.int x3)]) (st2 := [.int x1, .int (G 4 x3.toNatClampNeg)]) (μ2 := (hTown G)) rfl ⟨g1, trivial⟩ ?_
      refine js_icne (t := 33) hM.1 (jat hM.2.1 13 rfl) rfl (fun hc5 => ?_) (fun hc5 => ?_)
      · have h := (if_neg hc5).symm.trans h
        exact t_X3_chainLength_b33 hM hp N G (p_X3_chainLength_b4 N G n) ih4 x1 x2 x3 h hq
      · have h := (if_pos hc5).symm.trans h
        refine JW.r hM 14 2 (pc2 := 24) (L2 := [some (.ref 0), some (.int x1), some (.int x2), some (.int x3)]) (st2 := [.int x3, .ref 0]) (μ2 := (hTown G)) rfl trivial ?_
        obtain ⟨v3, hv2, h⟩ := jbd h
        refine JW.cV (v := some (.int v3)) hM (m_X3_stands (jVX X) hM.1.2.2.2.2.2.2.2.2.2.1 N G x3 v3 hv2) (sb_Town_Town_0 G) (bi_Town_Town_0 G) rfl rfl rfl kc_X3_80 rfl rfl rfl rfl rfl (jat hM.2.1 16 rfl) (st := []) rfl ?_
        show JW X 0 0 27 [some (.ref 0), some (.int x1), some (.int x2), some (.int x3)] [.int v3] (hTown G)
        refine js_ifeq (t := 33) hM.1 (jat hM.2.1 17 rfl) rfl (fun hc4 => ?_) (fun hc4 => ?_)
        · have h := (if_pos hc4).symm.trans h
          exact t_X3_chainLength_b33 hM hp N G (p_X3_chainLength_b4 N G n) ih4 x1 x2 x3 h hq
        · have h := (if_neg hc4).symm.trans h
          refine JW.r hM 18 1 (pc2 := 33) (L2 := [some (.ref 0), some (.int x1), some (.int (x2 + 1)), some (.int x3)]) (st2 := []) (μ2 := (hTown G)) rfl trivial ?_
          exact t_X3_chainLength_b33 hM hp N G (p_X3_chainLength_b4 N G n) ih4 x1 (x2 + 1) x3 h hq
set_option maxHeartbeats 4000000 in
set_option maxRecDepth 100000 in
theorem t_X3_chainLength {X : jX} {po : Option Value → jH → Prop} {px : String → jH → Prop} {sf : Bool} {B9 : Nat} (hM : jMX X kX3_chainLength RX3 tbX3 4 ⟨1, 0, 0, 21⟩ (some .int) 10) (hp : jPost X sf B9 po px) (N : Nat) (G : Nat → Nat → Int32) (a : Int32) {res : Int32} (h : p_X3_chainLength N G a = some res) (hq : po (some (.int res)) (hTown G)) : JW X 0 0 0 [some (.ref 0), some (.int a), none, none] [] (hTown G) := by
  unfold p_X3_chainLength at h
  refine JW.r hM 0 4 (pc2 := 4) (L2 := [some (.ref 0), some (.int a), some (.int (0 : Int32)), some (.int (0 : Int32))]) (st2 := []) (μ2 := (hTown G)) rfl trivial ?_
  exact t_X3_chainLength_b4 hM hp N G N a (0 : Int32) (0 : Int32) h hq
theorem m_X3_chainLength (V : jV) (hV : V.1.stackTraces = false) (N : Nat) (G : Nat → Nat → Int32) (a : Int32) (v : Int32) (h : p_X3_chainLength N G a = some v) : jMet V yX3_chainLength (jws yX3_chainLength cX3_chainLength 4 (some .int)) ⟨1, 0, 0, 21⟩ true 1 [.ref 0, .int a] (hTown G) (fun o ν => o = some (.int v) ∧ ν = (hTown G)) (fun _ _ => False) := by
  refine jmk (tb := tbX3) (C := kX3_chainLength) hV rfl (by decide) tbX3_ok rfl kX3_chainLength_ok rfl ?_
  intro X hM _ hp _
  exact t_X3_chainLength hM hp N G a h ⟨rfl, rfl⟩
def p_X3_wants (N : Nat) (G : Nat → Nat → Int32) (a : Int32) (b : Int32) : Option (Int32) :=
  if jin a 10 = true then if jin b 10 = true then if (G 2 a.toNatClampNeg) = (G 2 b.toNatClampNeg) then (some (0 : Int32)) else ((p_X3_isEaten N G a).bind (fun v4 => if v4 = 0 then ((p_X3_isEaten N G b).bind (fun v6 => if v6 = 0 then ((p_X3_worthTo N G b (G 2 a.toNatClampNeg)).bind (fun v8 => (p_X3_worthTo N G a (G 2 a.toNatClampNeg)).bind (fun v10 => if v8 ≤ v10 then (some (0 : Int32)) else (some (1 : Int32))))) else (some (0 : Int32)))) else (some (0 : Int32)))) else none else none
set_option maxHeartbeats 4000000 in
set_option maxRecDepth 100000 in
theorem t_X3_wants {X : jX} {po : Option Value → jH → Prop} {px : String → jH → Prop} {sf : Bool} {B9 : Nat} (hM : jMX X kX3_wants RX3 tbX3 4 ⟨1, 0, 0, 22⟩ (some .boolean) 10) (hp : jPost X sf B9 po px) (N : Nat) (G : Nat → Nat → Int32) (a : Int32) (b : Int32) {res : Int32} (h : p_X3_wants N G a b = some res) (hq : po (some (.int res)) (hTown G)) : JW X 0 0 0 [some (.ref 0), some (.int a), some (.int b), none] [] (hTown G) := by
  unfold p_X3_wants at h
  obtain ⟨g1, h⟩ := jg h
  obtain ⟨g2, h⟩ := jg h
  refine JW.r hM 0 10 (pc2 := 14) (L2 := [some (.ref 0), some (.int a), some (.int b), some (.int (G 2 a.toNatClampNeg))]) (st2 := [.int (G 2 b.toNatClampNeg), .int (G 2 a.toNatClampNeg)]) (μ2 := (hTown G)) rfl ⟨g1, g2, trivial⟩ ?_
  refine js_iceq (t := 52) hM.1 (jat hM.2.1 10 rfl) rfl (fun hc14 => ?_) (fun hc14 => ?_)
  · have h := (if_pos hc14).symm.trans h
    refine JW.r hM 30 1 (pc2 := 53) (L2 := [some (.ref 0), some (.int a), some (.int b), some (.int (G 2 a.toNatClampNeg))]) (st2 := [.int (0 : Int32)]) (μ2 := (hTown G)) rfl trivial ?_
    cases h
    exact js_zret hM.1 hp hM.2.2.2.2.2.2.2.1 rfl (by rw [hM.2.2.2.2.2.1]; exact Nat.le_of_ble_eq_true rfl) (by rw [hM.2.2.2.2.2.2.1]; exact Nat.le_of_ble_eq_true rfl) (jat hM.2.1 31 rfl) hq
  · have h := (if_neg hc14).symm.trans h
    refine JW.r hM 11 2 (pc2 := 19) (L2 := [some (.ref 0), some (.int a), some (.int b), some (.int (G 2 a.toNatClampNeg))]) (st2 := [.int a, .ref 0]) (μ2 := (hTown G)) rfl trivial ?_
    obtain ⟨v4, hv3, h⟩ := jbd h
    refine JW.cV (v := some (.int v4)) hM (m_X3_isEaten (jVX X) hM.1.2.2.2.2.2.2.2.2.2.1 N G a v4 hv3) (sb_Town_Town_0 G) (bi_Town_Town_0 G) rfl rfl rfl kc_X3_84 rfl rfl rfl rfl rfl (jat hM.2.1 13 rfl) (st := []) rfl ?_
    show JW X 0 0 22 [some (.ref 0), some (.int a), some (.int b), some (.int (G 2 a.toNatClampNeg))] [.int v4] (hTown G)
    refine js_ifne (t := 52) hM.1 (jat hM.2.1 14 rfl) rfl (fun hc13 => ?_) (fun hc13 => ?_)
    · have h := (if_neg hc13).symm.trans h
      refine JW.r hM 30 1 (pc2 := 53) (L2 := [some (.ref 0), some (.int a), some (.int b), some (.int (G 2 a.toNatClampNeg))]) (st2 := [.int (0 : Int32)]) (μ2 := (hTown G)) rfl trivial ?_
      cases h
      exact js_zret hM.1 hp hM.2.2.2.2.2.2.2.1 rfl (by rw [hM.2.2.2.2.2.1]; exact Nat.le_of_ble_eq_true rfl) (by rw [hM.2.2.2.2.2.2.1]; exact Nat.le_of_ble_eq_true rfl) (jat hM.2.1 31 rfl) hq
    · have h := (if_pos hc13).symm.trans h
      refine JW.r hM 15 2 (pc2 := 27) (L2 := [some (.ref 0), some (.int a), some (.int b), some (.int (G 2 a.toNatClampNeg))]) (st2 := [.int b, .ref 0]) (μ2 := (hTown G)) rfl trivial ?_
      obtain ⟨v6, hv5, h⟩ := jbd h
      refine JW.cV (v := some (.int v6)) hM (m_X3_isEaten (jVX X) hM.1.2.2.2.2.2.2.2.2.2.1 N G b v6 hv5) (sb_Town_Town_0 G) (bi_Town_Town_0 G) rfl rfl rfl kc_X3_84 rfl rfl rfl rfl rfl (jat hM.2.1 17 rfl) (st := []) rfl ?_
      show JW X 0 0 30 [some (.ref 0), some (.int a), some (.int b), some (.int (G 2 a.toNatClampNeg))] [.int v6] (hTown G)
      refine js_ifne (t := 52) hM.1 (jat hM.2.1 18 rfl) rfl (fun hc12 => ?_) (fun hc12 => ?_)
      · have h := (if_neg hc12).symm.trans h
        refine JW.r hM 30 1 (pc2 := 53) (L2 := [some (.ref 0), some (.int a), some (.int b), some (.int (G 2 a.toNatClampNeg))]) (st2 := [.int (0 : Int32)]) (μ2 := (hTown G)) rfl trivial ?_
        cases h
        exact js_zret hM.1 hp hM.2.2.2.2.2.2.2.1 rfl (by rw [hM.2.2.2.2.2.1]; exact Nat.le_of_ble_eq_true rfl) (by rw [hM.2.2.2.2.2.2.1]; exact Nat.le_of_ble_eq_true rfl) (jat hM.2.1 31 rfl) hq
      · have h := (if_pos hc12).symm.trans h
        refine JW.r hM 19 3 (pc2 := 36) (L2 := [some (.ref 0), some (.int a), some (.int b), some (.int (G 2 a.toNatClampNeg))]) (st2 := [.int (G 2 a.toNatClampNeg), .int b, .ref 0]) (μ2 := (hTown G)) rfl trivial ?_
        obtain ⟨v8, hv7, h⟩ := jbd h
        refine JW.cV (v := some (.int v8)) hM (m_X3_worthTo (jVX X) hM.1.2.2.2.2.2.2.2.2.2.1 N G b (G 2 a.toNatClampNeg) v8 hv7) (sb_Town_Town_0 G) (bi_Town_Town_0 G) rfl rfl rfl kc_X3_90 rfl rfl rfl rfl rfl (jat hM.2.1 22 rfl) (st := []) rfl ?_
        show JW X 0 0 39 [some (.ref 0), some (.int a), some (.int b), some (.int (G 2 a.toNatClampNeg))] [.int v8] (hTown G)
        refine JW.r hM 23 3 (pc2 := 42) (L2 := [some (.ref 0), some (.int a), some (.int b), some (.int (G 2 a.toNatClampNeg))]) (st2 := [.int (G 2 a.toNatClampNeg), .int a, .ref 0, .int v8]) (μ2 := (hTown G)) rfl trivial ?_
        obtain ⟨v10, hv9, h⟩ := jbd h
        refine JW.cV (v := some (.int v10)) hM (m_X3_worthTo (jVX X) hM.1.2.2.2.2.2.2.2.2.2.1 N G a (G 2 a.toNatClampNeg) v10 hv9) (sb_Town_Town_0 G) (bi_Town_Town_0 G) rfl rfl rfl kc_X3_90 rfl rfl rfl rfl rfl (jat hM.2.1 26 rfl) (st := [.int v8]) rfl ?_
        show JW X 0 0 45 [some (.ref 0), some (.int a), some (.int b), some (.int (G 2 a.toNatClampNeg))] [.int v10, .int v8] (hTown G)
        refine js_icle (t := 52) hM.1 (jat hM.2.1 27 rfl) rfl (fun hc11 => ?_) (fun hc11 => ?_)
        · have h := (if_pos hc11).symm.trans h
          refine JW.r hM 30 1 (pc2 := 53) (L2 := [some (.ref 0), some (.int a), some (.int b), some (.int (G 2 a.toNatClampNeg))]) (st2 := [.int (0 : Int32)]) (μ2 := (hTown G)) rfl trivial ?_
          cases h
          exact js_zret hM.1 hp hM.2.2.2.2.2.2.2.1 rfl (by rw [hM.2.2.2.2.2.1]; exact Nat.le_of_ble_eq_true rfl) (by rw [hM.2.2.2.2.2.2.1]; exact Nat.le_of_ble_eq_true rfl) (jat hM.2.1 31 rfl) hq
        · have h := (if_neg hc11).symm.trans h
          refine JW.r hM 28 2 (pc2 := 53) (L2 := [some (.ref 0), some (.int a), some (.int b), some (.int (G 2 a.toNatClampNeg))]) (st2 := [.int (1 : Int32)]) (μ2 := (hTown G)) rfl trivial ?_
          cases h
          exact js_zret hM.1 hp hM.2.2.2.2.2.2.2.1 rfl (by rw [hM.2.2.2.2.2.1]; exact Nat.le_of_ble_eq_true rfl) (by rw [hM.2.2.2.2.2.2.1]; exact Nat.le_of_ble_eq_true rfl) (jat hM.2.1 31 rfl) hq
theorem m_X3_wants (V : jV) (hV : V.1.stackTraces = false) (N : Nat) (G : Nat → Nat → Int32) (a : Int32) (b : Int32) (v : Int32) (h : p_X3_wants N G a b = some v) : jMet V yX3_wants (jws yX3_wants cX3_wants 4 (some .boolean)) ⟨1, 0, 0, 22⟩ true 1 [.ref 0, .int a, .int b] (hTown G) (fun o ν => o = some (.int v) ∧ ν = (hTown G)) (fun _ _ => False) := by
  refine jmk (tb := tbX3) (C := kX3_wants) hV rfl (by decide) tbX3_ok rfl kX3_wants_ok rfl ?_
  intro X hM _ hp _
  exact t_X3_wants hM hp N G a b h ⟨rfl, rfl⟩
def p_X3_isRing (N : Nat) (G : Nat → Nat → Int32) (a : Int32) (b : Int32) (c : Int32) : Option (Int32) :=
  (p_X3_wants N G a b).bind (fun v2 => if v2 = 0 then (some (0 : Int32)) else ((p_X3_wants N G b c).bind (fun v4 => if v4 = 0 then (some (0 : Int32)) else ((p_X3_wants N G c a).bind (fun v6 => if v6 = 0 then (some (0 : Int32)) else (some (1 : Int32)))))))
set_option maxHeartbeats 4000000 in
set_option maxRecDepth 100000 in
theorem t_X3_isRing {X : jX} {po : Option Value → jH → Prop} {px : String → jH → Prop} {sf : Bool} {B9 : Nat} (hM : jMX X kX3_isRing RX3 tbX3 4 ⟨2, 0, 0, 45⟩ (some .boolean) 10) (hp : jPost X sf B9 po px) (N : Nat) (G : Nat → Nat → Int32) (a : Int32) (b : Int32) (c : Int32) {res : Int32} (h : p_X3_isRing N G a b c = some res) (hq : po (some (.int res)) (hTown G)) : JW X 0 0 0 [some (.ref 0), some (.int a), some (.int b), some (.int c)] [] (hTown G) := by
  unfold p_X3_isRing at h
  refine JW.r hM 0 3 (pc2 := 3) (L2 := [some (.ref 0), some (.int a), some (.int b), some (.int c)]) (st2 := [.int b, .int a, .ref 0]) (μ2 := (hTown G)) rfl trivial ?_
  obtain ⟨v2, hv1, h⟩ := jbd h
  refine JW.cV (v := some (.int v2)) hM (m_X3_wants (jVX X) hM.1.2.2.2.2.2.2.2.2.2.1 N G a b v2 hv1) (sb_Town_Town_0 G) (bi_Town_Town_0 G) rfl rfl rfl kc_X3_158 rfl rfl rfl rfl rfl (jat hM.2.1 3 rfl) (st := []) rfl ?_
  show JW X 0 0 6 [some (.ref 0), some (.int a), some (.int b), some (.int c)] [.int v2] (hTown G)
  refine js_ifeq (t := 31) hM.1 (jat hM.2.1 4 rfl) rfl (fun hc9 => ?_) (fun hc9 => ?_)
  · have h := (if_pos hc9).symm.trans h
    refine JW.r hM 17 1 (pc2 := 32) (L2 := [some (.ref 0), some (.int a), some (.int b), some (.int c)]) (st2 := [.int (0 : Int32)]) (μ2 := (hTown G)) rfl trivial ?_
    cases h
    exact js_zret hM.1 hp hM.2.2.2.2.2.2.2.1 rfl (by rw [hM.2.2.2.2.2.1]; exact Nat.le_of_ble_eq_true rfl) (by rw [hM.2.2.2.2.2.2.1]; exact Nat.le_of_ble_eq_true rfl) (jat hM.2.1 18 rfl) hq
  · have h := (if_neg hc9).symm.trans h
    refine JW.r hM 5 3 (pc2 := 12) (L2 := [some (.ref 0), some (.int a), some (.int b), some (.int c)]) (st2 := [.int c, .int b, .ref 0]) (μ2 := (hTown G)) rfl trivial ?_
    obtain ⟨v4, hv3, h⟩ := jbd h
    refine JW.cV (v := some (.int v4)) hM (m_X3_wants (jVX X) hM.1.2.2.2.2.2.2.2.2.2.1 N G b c v4 hv3) (sb_Town_Town_0 G) (bi_Town_Town_0 G) rfl rfl rfl kc_X3_158 rfl rfl rfl rfl rfl (jat hM.2.1 8 rfl) (st := []) rfl ?_
    show JW X 0 0 15 [some (.ref 0), some (.int a), some (.int b), some (.int c)] [.int v4] (hTown G)
    refine js_ifeq (t := 31) hM.1 (jat hM.2.1 9 rfl) rfl (fun hc8 => ?_) (fun hc8 => ?_)
    · have h := (if_pos hc8).symm.trans h
      refine JW.r hM 17 1 (pc2 := 32) (L2 := [some (.ref 0), some (.int a), some (.int b), some (.int c)]) (st2 := [.int (0 : Int32)]) (μ2 := (hTown G)) rfl trivial ?_
      cases h
      exact js_zret hM.1 hp hM.2.2.2.2.2.2.2.1 rfl (by rw [hM.2.2.2.2.2.1]; exact Nat.le_of_ble_eq_true rfl) (by rw [hM.2.2.2.2.2.2.1]; exact Nat.le_of_ble_eq_true rfl) (jat hM.2.1 18 rfl) hq
    · have h := (if_neg hc8).symm.trans h
      refine JW.r hM 10 3 (pc2 := 21) (L2 := [some (.ref 0), some (.int a), some (.int b), some (.int c)]) (st2 := [.int a, .int c, .ref 0]) (μ2 := (hTown G)) rfl trivial ?_
      obtain ⟨v6, hv5, h⟩ := jbd h
      refine JW.cV (v := some (.int v6)) hM (m_X3_wants (jVX X) hM.1.2.2.2.2.2.2.2.2.2.1 N G c a v6 hv5) (sb_Town_Town_0 G) (bi_Town_Town_0 G) rfl rfl rfl kc_X3_158 rfl rfl rfl rfl rfl (jat hM.2.1 13 rfl) (st := []) rfl ?_
      show JW X 0 0 24 [some (.ref 0), some (.int a), some (.int b), some (.int c)] [.int v6] (hTown G)
      refine js_ifeq (t := 31) hM.1 (jat hM.2.1 14 rfl) rfl (fun hc7 => ?_) (fun hc7 => ?_)
      · have h := (if_pos hc7).symm.trans h
        refine JW.r hM 17 1 (pc2 := 32) (L2 := [some (.ref 0), some (.int a), some (.int b), some (.int c)]) (st2 := [.int (0 : Int32)]) (μ2 := (hTown G)) rfl trivial ?_
        cases h
        exact js_zret hM.1 hp hM.2.2.2.2.2.2.2.1 rfl (by rw [hM.2.2.2.2.2.1]; exact Nat.le_of_ble_eq_true rfl) (by rw [hM.2.2.2.2.2.2.1]; exact Nat.le_of_ble_eq_true rfl) (jat hM.2.1 18 rfl) hq
      · have h := (if_neg hc7).symm.trans h
        refine JW.r hM 15 2 (pc2 := 32) (L2 := [some (.ref 0), some (.int a), some (.int b), some (.int c)]) (st2 := [.int (1 : Int32)]) (μ2 := (hTown G)) rfl trivial ?_
        cases h
        exact js_zret hM.1 hp hM.2.2.2.2.2.2.2.1 rfl (by rw [hM.2.2.2.2.2.1]; exact Nat.le_of_ble_eq_true rfl) (by rw [hM.2.2.2.2.2.2.1]; exact Nat.le_of_ble_eq_true rfl) (jat hM.2.1 18 rfl) hq
theorem m_X3_isRing (V : jV) (hV : V.1.stackTraces = false) (N : Nat) (G : Nat → Nat → Int32) (a : Int32) (b : Int32) (c : Int32) (v : Int32) (h : p_X3_isRing N G a b c = some v) : jMet V yX3_isRing (jws yX3_isRing cX3_isRing 4 (some .boolean)) ⟨2, 0, 0, 45⟩ true 1 [.ref 0, .int a, .int b, .int c] (hTown G) (fun o ν => o = some (.int v) ∧ ν = (hTown G)) (fun _ _ => False) := by
  refine jmk (tb := tbX3) (C := kX3_isRing) hV rfl (by decide) tbX3_ok rfl kX3_isRing_ok rfl ?_
  intro X hM _ hp _
  exact t_X3_isRing hM hp N G a b c h ⟨rfl, rfl⟩
end

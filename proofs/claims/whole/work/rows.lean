section
-- ===== PART A: goes FIRST, ahead of the names: the tables' words, and 'selects' of the private methods out of them =====
/-- a private method of a class that the tables say can be made, by its rows of tables_1 -/
def lw_okq (q : MethodName × Nat) : Prop := (q.1.cls ≠ "java/lang/invoke/MethodHandle" ∧ q.1.cls ≠ "java/lang/invoke/VarHandle") ∧ Cond.instantiable q.1.cls q.2 ∈ tables_1 ∧ Cond.privateMethod q.1 ∈ tables_1 ∧ Cond.instanceMethod q.1 ∈ tables_1
theorem lw_p0 : lw_okq (⟨"java/lang/Throwable", "fillInStackTrace", "(I)Ljava/lang/Throwable;"⟩, 6) := ⟨⟨by decide +kernel, by decide +kernel⟩, List.mem_of_getElem? (i := 209) (by decide +kernel), List.mem_of_getElem? (i := 207) (by decide +kernel), List.mem_of_getElem? (i := 208) (by decide +kernel)⟩
theorem lw_p1 : lw_okq (⟨"Transseria$Ordinals", "made", "(LTransseria$Draft;)I"⟩, 9) := ⟨⟨by decide +kernel, by decide +kernel⟩, List.mem_of_getElem? (i := 31) (by decide +kernel), List.mem_of_getElem? (i := 296) (by decide +kernel), List.mem_of_getElem? (i := 297) (by decide +kernel)⟩
theorem lw_p2 : lw_okq (⟨"Transseria$Ordinals", "depthOf", "(LTransseria$Draft;)I"⟩, 9) := ⟨⟨by decide +kernel, by decide +kernel⟩, List.mem_of_getElem? (i := 31) (by decide +kernel), List.mem_of_getElem? (i := 304) (by decide +kernel), List.mem_of_getElem? (i := 305) (by decide +kernel)⟩
theorem lw_p3 : lw_okq (⟨"Transseria$Ordinals", "forget", "()V"⟩, 9) := ⟨⟨by decide +kernel, by decide +kernel⟩, List.mem_of_getElem? (i := 31) (by decide +kernel), List.mem_of_getElem? (i := 326) (by decide +kernel), List.mem_of_getElem? (i := 327) (by decide +kernel)⟩
theorem lw_p4 : lw_okq (⟨"Transseria$Ordinals", "write", "(LTransseria$Draft;I)V"⟩, 9) := ⟨⟨by decide +kernel, by decide +kernel⟩, List.mem_of_getElem? (i := 31) (by decide +kernel), List.mem_of_getElem? (i := 346) (by decide +kernel), List.mem_of_getElem? (i := 347) (by decide +kernel)⟩
theorem lw_p5 : lw_okq (⟨"Transseria", "keepOrdinal", "(II)V"⟩, 7) := ⟨⟨by decide +kernel, by decide +kernel⟩, List.mem_of_getElem? (i := 21) (by decide +kernel), List.mem_of_getElem? (i := 371) (by decide +kernel), List.mem_of_getElem? (i := 372) (by decide +kernel)⟩
theorem lw_p6 : lw_okq (⟨"Transseria", "ordinalAt", "(I)I"⟩, 7) := ⟨⟨by decide +kernel, by decide +kernel⟩, List.mem_of_getElem? (i := 21) (by decide +kernel), List.mem_of_getElem? (i := 387) (by decide +kernel), List.mem_of_getElem? (i := 388) (by decide +kernel)⟩
theorem lw_p7 : lw_okq (⟨"Transseria", "keepNumber", "(IJ)V"⟩, 7) := ⟨⟨by decide +kernel, by decide +kernel⟩, List.mem_of_getElem? (i := 21) (by decide +kernel), List.mem_of_getElem? (i := 407) (by decide +kernel), List.mem_of_getElem? (i := 408) (by decide +kernel)⟩
theorem lw_p8 : lw_okq (⟨"Transseria$Walk", "restart", "()V"⟩, 4) := ⟨⟨by decide +kernel, by decide +kernel⟩, List.mem_of_getElem? (i := 83) (by decide +kernel), List.mem_of_getElem? (i := 424) (by decide +kernel), List.mem_of_getElem? (i := 425) (by decide +kernel)⟩
theorem lw_p9 : lw_okq (⟨"Transseria$Walk", "goes", "(Z)Z"⟩, 4) := ⟨⟨by decide +kernel, by decide +kernel⟩, List.mem_of_getElem? (i := 83) (by decide +kernel), List.mem_of_getElem? (i := 430) (by decide +kernel), List.mem_of_getElem? (i := 431) (by decide +kernel)⟩
theorem lw_p10 : lw_okq (⟨"Transseria$Tally", "addRow", "()V"⟩, 3) := ⟨⟨by decide +kernel, by decide +kernel⟩, List.mem_of_getElem? (i := 102) (by decide +kernel), List.mem_of_getElem? (i := 470) (by decide +kernel), List.mem_of_getElem? (i := 471) (by decide +kernel)⟩
theorem lw_p11 : lw_okq (⟨"Transseria", "keepGrowth", "(I)V"⟩, 7) := ⟨⟨by decide +kernel, by decide +kernel⟩, List.mem_of_getElem? (i := 21) (by decide +kernel), List.mem_of_getElem? (i := 487) (by decide +kernel), List.mem_of_getElem? (i := 488) (by decide +kernel)⟩
theorem lw_p12 : lw_okq (⟨"Transseria", "growthRow", "(I)LTransseria$Growth;"⟩, 7) := ⟨⟨by decide +kernel, by decide +kernel⟩, List.mem_of_getElem? (i := 21) (by decide +kernel), List.mem_of_getElem? (i := 495) (by decide +kernel), List.mem_of_getElem? (i := 496) (by decide +kernel)⟩
theorem lw_p13 : lw_okq (⟨"Transseria", "commonKind", "(II)I"⟩, 7) := ⟨⟨by decide +kernel, by decide +kernel⟩, List.mem_of_getElem? (i := 21) (by decide +kernel), List.mem_of_getElem? (i := 533) (by decide +kernel), List.mem_of_getElem? (i := 534) (by decide +kernel)⟩
theorem lw_p14 : lw_okq (⟨"Transseria$Ordinals", "powersAbove", "(III)I"⟩, 9) := ⟨⟨by decide +kernel, by decide +kernel⟩, List.mem_of_getElem? (i := 31) (by decide +kernel), List.mem_of_getElem? (i := 546) (by decide +kernel), List.mem_of_getElem? (i := 547) (by decide +kernel)⟩
theorem lw_p15 : lw_okq (⟨"Transseria$Ordinals", "order", "(III)I"⟩, 9) := ⟨⟨by decide +kernel, by decide +kernel⟩, List.mem_of_getElem? (i := 31) (by decide +kernel), List.mem_of_getElem? (i := 558) (by decide +kernel), List.mem_of_getElem? (i := 559) (by decide +kernel)⟩
def lw_privs_1 : List (MethodName × Nat) := [(⟨"java/lang/Throwable", "fillInStackTrace", "(I)Ljava/lang/Throwable;"⟩, 6), (⟨"Transseria$Ordinals", "made", "(LTransseria$Draft;)I"⟩, 9), (⟨"Transseria$Ordinals", "depthOf", "(LTransseria$Draft;)I"⟩, 9), (⟨"Transseria$Ordinals", "forget", "()V"⟩, 9), (⟨"Transseria$Ordinals", "write", "(LTransseria$Draft;I)V"⟩, 9), (⟨"Transseria", "keepOrdinal", "(II)V"⟩, 7), (⟨"Transseria", "ordinalAt", "(I)I"⟩, 7), (⟨"Transseria", "keepNumber", "(IJ)V"⟩, 7), (⟨"Transseria$Walk", "restart", "()V"⟩, 4), (⟨"Transseria$Walk", "goes", "(Z)Z"⟩, 4), (⟨"Transseria$Tally", "addRow", "()V"⟩, 3), (⟨"Transseria", "keepGrowth", "(I)V"⟩, 7), (⟨"Transseria", "growthRow", "(I)LTransseria$Growth;"⟩, 7), (⟨"Transseria", "commonKind", "(II)I"⟩, 7), (⟨"Transseria$Ordinals", "powersAbove", "(III)I"⟩, 9), (⟨"Transseria$Ordinals", "order", "(III)I"⟩, 9)]
theorem lw_r1 : ∀ q ∈ lw_privs_1, lw_okq q := List.forall_mem_cons.mpr ⟨lw_p0, List.forall_mem_cons.mpr ⟨lw_p1, List.forall_mem_cons.mpr ⟨lw_p2, List.forall_mem_cons.mpr ⟨lw_p3, List.forall_mem_cons.mpr ⟨lw_p4, List.forall_mem_cons.mpr ⟨lw_p5, List.forall_mem_cons.mpr ⟨lw_p6, List.forall_mem_cons.mpr ⟨lw_p7, List.forall_mem_cons.mpr ⟨lw_p8, List.forall_mem_cons.mpr ⟨lw_p9, List.forall_mem_cons.mpr ⟨lw_p10, List.forall_mem_cons.mpr ⟨lw_p11, List.forall_mem_cons.mpr ⟨lw_p12, List.forall_mem_cons.mpr ⟨lw_p13, List.forall_mem_cons.mpr ⟨lw_p14, List.forall_mem_cons.mpr ⟨lw_p15, fun _ h => absurd h List.not_mem_nil⟩⟩⟩⟩⟩⟩⟩⟩⟩⟩⟩⟩⟩⟩⟩⟩
theorem lw_p16 : lw_okq (⟨"Transseria$Ordinals", "draftPowers", "(III)V"⟩, 9) := ⟨⟨by decide +kernel, by decide +kernel⟩, List.mem_of_getElem? (i := 31) (by decide +kernel), List.mem_of_getElem? (i := 570) (by decide +kernel), List.mem_of_getElem? (i := 571) (by decide +kernel)⟩
theorem lw_p17 : lw_okq (⟨"Transseria", "numberAt", "(I)J"⟩, 7) := ⟨⟨by decide +kernel, by decide +kernel⟩, List.mem_of_getElem? (i := 21) (by decide +kernel), List.mem_of_getElem? (i := 574) (by decide +kernel), List.mem_of_getElem? (i := 575) (by decide +kernel)⟩
theorem lw_p18 : lw_okq (⟨"Transseria", "growthAt", "(I)LTransseria$Growth;"⟩, 7) := ⟨⟨by decide +kernel, by decide +kernel⟩, List.mem_of_getElem? (i := 21) (by decide +kernel), List.mem_of_getElem? (i := 580) (by decide +kernel), List.mem_of_getElem? (i := 581) (by decide +kernel)⟩
theorem lw_p19 : lw_okq (⟨"Transseria", "addGrowths", "(LTransseria$Growth;LTransseria$Growth;I)V"⟩, 7) := ⟨⟨by decide +kernel, by decide +kernel⟩, List.mem_of_getElem? (i := 21) (by decide +kernel), List.mem_of_getElem? (i := 585) (by decide +kernel), List.mem_of_getElem? (i := 586) (by decide +kernel)⟩
theorem lw_p20 : lw_okq (⟨"Transseria", "multiplyGrowths", "(LTransseria$Growth;LTransseria$Growth;)V"⟩, 7) := ⟨⟨by decide +kernel, by decide +kernel⟩, List.mem_of_getElem? (i := 21) (by decide +kernel), List.mem_of_getElem? (i := 612) (by decide +kernel), List.mem_of_getElem? (i := 613) (by decide +kernel)⟩
theorem lw_p21 : lw_okq (⟨"Transseria$Ordinals", "addPair", "(JII)V"⟩, 9) := ⟨⟨by decide +kernel, by decide +kernel⟩, List.mem_of_getElem? (i := 31) (by decide +kernel), List.mem_of_getElem? (i := 638) (by decide +kernel), List.mem_of_getElem? (i := 639) (by decide +kernel)⟩
theorem lw_p22 : lw_okq (⟨"Transseria$Ordinals", "lower", "(III)I"⟩, 9) := ⟨⟨by decide +kernel, by decide +kernel⟩, List.mem_of_getElem? (i := 31) (by decide +kernel), List.mem_of_getElem? (i := 697) (by decide +kernel), List.mem_of_getElem? (i := 698) (by decide +kernel)⟩
theorem lw_p23 : lw_okq (⟨"Transseria$Ordinals", "draftLess", "(II)V"⟩, 9) := ⟨⟨by decide +kernel, by decide +kernel⟩, List.mem_of_getElem? (i := 31) (by decide +kernel), List.mem_of_getElem? (i := 701) (by decide +kernel), List.mem_of_getElem? (i := 702) (by decide +kernel)⟩
theorem lw_p24 : lw_okq (⟨"Transseria$Ordinals", "finiteTail", "(I)I"⟩, 9) := ⟨⟨by decide +kernel, by decide +kernel⟩, List.mem_of_getElem? (i := 31) (by decide +kernel), List.mem_of_getElem? (i := 705) (by decide +kernel), List.mem_of_getElem? (i := 706) (by decide +kernel)⟩
theorem lw_p25 : lw_okq (⟨"Transseria$Ordinals", "lessened", "(II)I"⟩, 9) := ⟨⟨by decide +kernel, by decide +kernel⟩, List.mem_of_getElem? (i := 31) (by decide +kernel), List.mem_of_getElem? (i := 720) (by decide +kernel), List.mem_of_getElem? (i := 721) (by decide +kernel)⟩
theorem lw_p26 : lw_okq (⟨"Transseria", "ordinalWithPower", "(II)I"⟩, 7) := ⟨⟨by decide +kernel, by decide +kernel⟩, List.mem_of_getElem? (i := 21) (by decide +kernel), List.mem_of_getElem? (i := 744) (by decide +kernel), List.mem_of_getElem? (i := 745) (by decide +kernel)⟩
theorem lw_p27 : lw_okq (⟨"Transseria", "greatestOf", "(I)J"⟩, 7) := ⟨⟨by decide +kernel, by decide +kernel⟩, List.mem_of_getElem? (i := 21) (by decide +kernel), List.mem_of_getElem? (i := 766) (by decide +kernel), List.mem_of_getElem? (i := 767) (by decide +kernel)⟩
theorem lw_p28 : lw_okq (⟨"Transseria", "leastOf", "(I)J"⟩, 7) := ⟨⟨by decide +kernel, by decide +kernel⟩, List.mem_of_getElem? (i := 21) (by decide +kernel), List.mem_of_getElem? (i := 774) (by decide +kernel), List.mem_of_getElem? (i := 775) (by decide +kernel)⟩
theorem lw_p29 : lw_okq (⟨"TransseriaModel", "holds", "(I)Z"⟩, 28) := ⟨⟨by decide +kernel, by decide +kernel⟩, List.mem_of_getElem? (i := 844) (by decide +kernel), List.mem_of_getElem? (i := 950) (by decide +kernel), List.mem_of_getElem? (i := 951) (by decide +kernel)⟩
theorem lw_p30 : lw_okq (⟨"TransseriaModel", "lays", "(III)V"⟩, 28) := ⟨⟨by decide +kernel, by decide +kernel⟩, List.mem_of_getElem? (i := 844) (by decide +kernel), List.mem_of_getElem? (i := 958) (by decide +kernel), List.mem_of_getElem? (i := 959) (by decide +kernel)⟩
theorem lw_p31 : lw_okq (⟨"TransseriaModel", "begin", "()V"⟩, 28) := ⟨⟨by decide +kernel, by decide +kernel⟩, List.mem_of_getElem? (i := 844) (by decide +kernel), List.mem_of_getElem? (i := 967) (by decide +kernel), List.mem_of_getElem? (i := 968) (by decide +kernel)⟩
def lw_privs_2 : List (MethodName × Nat) := [(⟨"Transseria$Ordinals", "draftPowers", "(III)V"⟩, 9), (⟨"Transseria", "numberAt", "(I)J"⟩, 7), (⟨"Transseria", "growthAt", "(I)LTransseria$Growth;"⟩, 7), (⟨"Transseria", "addGrowths", "(LTransseria$Growth;LTransseria$Growth;I)V"⟩, 7), (⟨"Transseria", "multiplyGrowths", "(LTransseria$Growth;LTransseria$Growth;)V"⟩, 7), (⟨"Transseria$Ordinals", "addPair", "(JII)V"⟩, 9), (⟨"Transseria$Ordinals", "lower", "(III)I"⟩, 9), (⟨"Transseria$Ordinals", "draftLess", "(II)V"⟩, 9), (⟨"Transseria$Ordinals", "finiteTail", "(I)I"⟩, 9), (⟨"Transseria$Ordinals", "lessened", "(II)I"⟩, 9), (⟨"Transseria", "ordinalWithPower", "(II)I"⟩, 7), (⟨"Transseria", "greatestOf", "(I)J"⟩, 7), (⟨"Transseria", "leastOf", "(I)J"⟩, 7), (⟨"TransseriaModel", "holds", "(I)Z"⟩, 28), (⟨"TransseriaModel", "lays", "(III)V"⟩, 28), (⟨"TransseriaModel", "begin", "()V"⟩, 28)]
theorem lw_r2 : ∀ q ∈ lw_privs_2, lw_okq q := List.forall_mem_cons.mpr ⟨lw_p16, List.forall_mem_cons.mpr ⟨lw_p17, List.forall_mem_cons.mpr ⟨lw_p18, List.forall_mem_cons.mpr ⟨lw_p19, List.forall_mem_cons.mpr ⟨lw_p20, List.forall_mem_cons.mpr ⟨lw_p21, List.forall_mem_cons.mpr ⟨lw_p22, List.forall_mem_cons.mpr ⟨lw_p23, List.forall_mem_cons.mpr ⟨lw_p24, List.forall_mem_cons.mpr ⟨lw_p25, List.forall_mem_cons.mpr ⟨lw_p26, List.forall_mem_cons.mpr ⟨lw_p27, List.forall_mem_cons.mpr ⟨lw_p28, List.forall_mem_cons.mpr ⟨lw_p29, List.forall_mem_cons.mpr ⟨lw_p30, List.forall_mem_cons.mpr ⟨lw_p31, fun _ h => absurd h List.not_mem_nil⟩⟩⟩⟩⟩⟩⟩⟩⟩⟩⟩⟩⟩⟩⟩⟩
theorem lw_p32 : lw_okq (⟨"TransseriaModel", "gathers", "()V"⟩, 28) := ⟨⟨by decide +kernel, by decide +kernel⟩, List.mem_of_getElem? (i := 844) (by decide +kernel), List.mem_of_getElem? (i := 971) (by decide +kernel), List.mem_of_getElem? (i := 972) (by decide +kernel)⟩
theorem lw_p33 : lw_okq (⟨"TransseriaModel", "finiteOne", "(I)I"⟩, 28) := ⟨⟨by decide +kernel, by decide +kernel⟩, List.mem_of_getElem? (i := 844) (by decide +kernel), List.mem_of_getElem? (i := 975) (by decide +kernel), List.mem_of_getElem? (i := 976) (by decide +kernel)⟩
theorem lw_p34 : lw_okq (⟨"TransseriaModel", "adds", "(IJ)V"⟩, 28) := ⟨⟨by decide +kernel, by decide +kernel⟩, List.mem_of_getElem? (i := 844) (by decide +kernel), List.mem_of_getElem? (i := 979) (by decide +kernel), List.mem_of_getElem? (i := 980) (by decide +kernel)⟩
theorem lw_p35 : lw_okq (⟨"TransseriaModel", "makes", "()I"⟩, 28) := ⟨⟨by decide +kernel, by decide +kernel⟩, List.mem_of_getElem? (i := 844) (by decide +kernel), List.mem_of_getElem? (i := 983) (by decide +kernel), List.mem_of_getElem? (i := 984) (by decide +kernel)⟩
theorem lw_p36 : lw_okq (⟨"TransseriaModel", "isMade", "(I)Z"⟩, 28) := ⟨⟨by decide +kernel, by decide +kernel⟩, List.mem_of_getElem? (i := 844) (by decide +kernel), List.mem_of_getElem? (i := 987) (by decide +kernel), List.mem_of_getElem? (i := 988) (by decide +kernel)⟩
theorem lw_p37 : lw_okq (⟨"TransseriaModel", "isKind", "(II)Z"⟩, 28) := ⟨⟨by decide +kernel, by decide +kernel⟩, List.mem_of_getElem? (i := 844) (by decide +kernel), List.mem_of_getElem? (i := 995) (by decide +kernel), List.mem_of_getElem? (i := 996) (by decide +kernel)⟩
theorem lw_p38 : lw_okq (⟨"TransseriaModel", "powerOf", "(I)I"⟩, 28) := ⟨⟨by decide +kernel, by decide +kernel⟩, List.mem_of_getElem? (i := 844) (by decide +kernel), List.mem_of_getElem? (i := 999) (by decide +kernel), List.mem_of_getElem? (i := 1000) (by decide +kernel)⟩
theorem lw_p39 : lw_okq (⟨"TransseriaModel", "begins", "()V"⟩, 28) := ⟨⟨by decide +kernel, by decide +kernel⟩, List.mem_of_getElem? (i := 844) (by decide +kernel), List.mem_of_getElem? (i := 1018) (by decide +kernel), List.mem_of_getElem? (i := 1019) (by decide +kernel)⟩
theorem lw_p40 : lw_okq (⟨"TransseriaModel", "goes", "(Z)Z"⟩, 28) := ⟨⟨by decide +kernel, by decide +kernel⟩, List.mem_of_getElem? (i := 844) (by decide +kernel), List.mem_of_getElem? (i := 1022) (by decide +kernel), List.mem_of_getElem? (i := 1023) (by decide +kernel)⟩
theorem lw_p41 : lw_okq (⟨"TransseriaModel", "joins", "(JJ)V"⟩, 28) := ⟨⟨by decide +kernel, by decide +kernel⟩, List.mem_of_getElem? (i := 844) (by decide +kernel), List.mem_of_getElem? (i := 1043) (by decide +kernel), List.mem_of_getElem? (i := 1044) (by decide +kernel)⟩
theorem lw_p42 : lw_okq (⟨"TransseriaModel", "fits", "()Z"⟩, 28) := ⟨⟨by decide +kernel, by decide +kernel⟩, List.mem_of_getElem? (i := 844) (by decide +kernel), List.mem_of_getElem? (i := 1047) (by decide +kernel), List.mem_of_getElem? (i := 1048) (by decide +kernel)⟩
theorem lw_p43 : lw_okq (⟨"TransseriaModel", "laysGrowth", "(I)V"⟩, 28) := ⟨⟨by decide +kernel, by decide +kernel⟩, List.mem_of_getElem? (i := 844) (by decide +kernel), List.mem_of_getElem? (i := 1058) (by decide +kernel), List.mem_of_getElem? (i := 1059) (by decide +kernel)⟩
theorem lw_p44 : lw_okq (⟨"TransseriaModel", "setsSum", "(III)Z"⟩, 28) := ⟨⟨by decide +kernel, by decide +kernel⟩, List.mem_of_getElem? (i := 844) (by decide +kernel), List.mem_of_getElem? (i := 1069) (by decide +kernel), List.mem_of_getElem? (i := 1070) (by decide +kernel)⟩
theorem lw_p45 : lw_okq (⟨"TransseriaModel", "areBoth", "(III)Z"⟩, 28) := ⟨⟨by decide +kernel, by decide +kernel⟩, List.mem_of_getElem? (i := 844) (by decide +kernel), List.mem_of_getElem? (i := 1073) (by decide +kernel), List.mem_of_getElem? (i := 1074) (by decide +kernel)⟩
theorem lw_p46 : lw_okq (⟨"TransseriaModel", "summed", "(II)I"⟩, 28) := ⟨⟨by decide +kernel, by decide +kernel⟩, List.mem_of_getElem? (i := 844) (by decide +kernel), List.mem_of_getElem? (i := 1077) (by decide +kernel), List.mem_of_getElem? (i := 1078) (by decide +kernel)⟩
theorem lw_p47 : lw_okq (⟨"TransseriaModel", "compared", "(II)I"⟩, 28) := ⟨⟨by decide +kernel, by decide +kernel⟩, List.mem_of_getElem? (i := 844) (by decide +kernel), List.mem_of_getElem? (i := 1081) (by decide +kernel), List.mem_of_getElem? (i := 1082) (by decide +kernel)⟩
def lw_privs_3 : List (MethodName × Nat) := [(⟨"TransseriaModel", "gathers", "()V"⟩, 28), (⟨"TransseriaModel", "finiteOne", "(I)I"⟩, 28), (⟨"TransseriaModel", "adds", "(IJ)V"⟩, 28), (⟨"TransseriaModel", "makes", "()I"⟩, 28), (⟨"TransseriaModel", "isMade", "(I)Z"⟩, 28), (⟨"TransseriaModel", "isKind", "(II)Z"⟩, 28), (⟨"TransseriaModel", "powerOf", "(I)I"⟩, 28), (⟨"TransseriaModel", "begins", "()V"⟩, 28), (⟨"TransseriaModel", "goes", "(Z)Z"⟩, 28), (⟨"TransseriaModel", "joins", "(JJ)V"⟩, 28), (⟨"TransseriaModel", "fits", "()Z"⟩, 28), (⟨"TransseriaModel", "laysGrowth", "(I)V"⟩, 28), (⟨"TransseriaModel", "setsSum", "(III)Z"⟩, 28), (⟨"TransseriaModel", "areBoth", "(III)Z"⟩, 28), (⟨"TransseriaModel", "summed", "(II)I"⟩, 28), (⟨"TransseriaModel", "compared", "(II)I"⟩, 28)]
theorem lw_r3 : ∀ q ∈ lw_privs_3, lw_okq q := List.forall_mem_cons.mpr ⟨lw_p32, List.forall_mem_cons.mpr ⟨lw_p33, List.forall_mem_cons.mpr ⟨lw_p34, List.forall_mem_cons.mpr ⟨lw_p35, List.forall_mem_cons.mpr ⟨lw_p36, List.forall_mem_cons.mpr ⟨lw_p37, List.forall_mem_cons.mpr ⟨lw_p38, List.forall_mem_cons.mpr ⟨lw_p39, List.forall_mem_cons.mpr ⟨lw_p40, List.forall_mem_cons.mpr ⟨lw_p41, List.forall_mem_cons.mpr ⟨lw_p42, List.forall_mem_cons.mpr ⟨lw_p43, List.forall_mem_cons.mpr ⟨lw_p44, List.forall_mem_cons.mpr ⟨lw_p45, List.forall_mem_cons.mpr ⟨lw_p46, List.forall_mem_cons.mpr ⟨lw_p47, fun _ h => absurd h List.not_mem_nil⟩⟩⟩⟩⟩⟩⟩⟩⟩⟩⟩⟩⟩⟩⟩⟩
theorem lw_p48 : lw_okq (⟨"TransseriaModel", "setsOrdinal", "(II)Z"⟩, 28) := ⟨⟨by decide +kernel, by decide +kernel⟩, List.mem_of_getElem? (i := 844) (by decide +kernel), List.mem_of_getElem? (i := 1085) (by decide +kernel), List.mem_of_getElem? (i := 1086) (by decide +kernel)⟩
theorem lw_p49 : lw_okq (⟨"TransseriaModel", "setsNumber", "(IJ)Z"⟩, 28) := ⟨⟨by decide +kernel, by decide +kernel⟩, List.mem_of_getElem? (i := 844) (by decide +kernel), List.mem_of_getElem? (i := 1089) (by decide +kernel), List.mem_of_getElem? (i := 1090) (by decide +kernel)⟩
theorem lw_p50 : lw_okq (⟨"TransseriaModel", "joinsBoth", "(III)Z"⟩, 28) := ⟨⟨by decide +kernel, by decide +kernel⟩, List.mem_of_getElem? (i := 844) (by decide +kernel), List.mem_of_getElem? (i := 1093) (by decide +kernel), List.mem_of_getElem? (i := 1094) (by decide +kernel)⟩
theorem lw_p51 : lw_okq (⟨"TransseriaModel", "joinsAll", "(II)V"⟩, 28) := ⟨⟨by decide +kernel, by decide +kernel⟩, List.mem_of_getElem? (i := 844) (by decide +kernel), List.mem_of_getElem? (i := 1097) (by decide +kernel), List.mem_of_getElem? (i := 1098) (by decide +kernel)⟩
theorem lw_p52 : lw_okq (⟨"TransseriaModel", "setsGrowth", "(IZ)Z"⟩, 28) := ⟨⟨by decide +kernel, by decide +kernel⟩, List.mem_of_getElem? (i := 844) (by decide +kernel), List.mem_of_getElem? (i := 1101) (by decide +kernel), List.mem_of_getElem? (i := 1102) (by decide +kernel)⟩
theorem lw_p53 : lw_okq (⟨"TransseriaModel", "told", "(IZZ)I"⟩, 28) := ⟨⟨by decide +kernel, by decide +kernel⟩, List.mem_of_getElem? (i := 844) (by decide +kernel), List.mem_of_getElem? (i := 1105) (by decide +kernel), List.mem_of_getElem? (i := 1106) (by decide +kernel)⟩
theorem lw_p54 : lw_okq (⟨"TransseriaModel", "setsProduct", "(III)Z"⟩, 28) := ⟨⟨by decide +kernel, by decide +kernel⟩, List.mem_of_getElem? (i := 844) (by decide +kernel), List.mem_of_getElem? (i := 1113) (by decide +kernel), List.mem_of_getElem? (i := 1114) (by decide +kernel)⟩
theorem lw_p55 : lw_okq (⟨"TransseriaModel", "multiplied", "(II)I"⟩, 28) := ⟨⟨by decide +kernel, by decide +kernel⟩, List.mem_of_getElem? (i := 844) (by decide +kernel), List.mem_of_getElem? (i := 1117) (by decide +kernel), List.mem_of_getElem? (i := 1118) (by decide +kernel)⟩
theorem lw_p56 : lw_okq (⟨"TransseriaModel", "last", "(I)I"⟩, 28) := ⟨⟨by decide +kernel, by decide +kernel⟩, List.mem_of_getElem? (i := 844) (by decide +kernel), List.mem_of_getElem? (i := 1121) (by decide +kernel), List.mem_of_getElem? (i := 1122) (by decide +kernel)⟩
theorem lw_p57 : lw_okq (⟨"TransseriaModel", "multiplies", "(II)Z"⟩, 28) := ⟨⟨by decide +kernel, by decide +kernel⟩, List.mem_of_getElem? (i := 844) (by decide +kernel), List.mem_of_getElem? (i := 1125) (by decide +kernel), List.mem_of_getElem? (i := 1126) (by decide +kernel)⟩
theorem lw_p58 : lw_okq (⟨"TransseriaModel", "setsDifference", "(III)Z"⟩, 28) := ⟨⟨by decide +kernel, by decide +kernel⟩, List.mem_of_getElem? (i := 844) (by decide +kernel), List.mem_of_getElem? (i := 1133) (by decide +kernel), List.mem_of_getElem? (i := 1134) (by decide +kernel)⟩
theorem lw_p59 : lw_okq (⟨"TransseriaModel", "setsNatural", "(IIIZ)Z"⟩, 28) := ⟨⟨by decide +kernel, by decide +kernel⟩, List.mem_of_getElem? (i := 844) (by decide +kernel), List.mem_of_getElem? (i := 1141) (by decide +kernel), List.mem_of_getElem? (i := 1142) (by decide +kernel)⟩
theorem lw_p60 : lw_okq (⟨"TransseriaModel", "multipliedNaturally", "(II)I"⟩, 28) := ⟨⟨by decide +kernel, by decide +kernel⟩, List.mem_of_getElem? (i := 844) (by decide +kernel), List.mem_of_getElem? (i := 1145) (by decide +kernel), List.mem_of_getElem? (i := 1146) (by decide +kernel)⟩
theorem lw_p61 : lw_okq (⟨"TransseriaModel", "summedNaturally", "(II)I"⟩, 28) := ⟨⟨by decide +kernel, by decide +kernel⟩, List.mem_of_getElem? (i := 844) (by decide +kernel), List.mem_of_getElem? (i := 1149) (by decide +kernel), List.mem_of_getElem? (i := 1150) (by decide +kernel)⟩
theorem lw_p62 : lw_okq (⟨"TransseriaModel", "puts", "(IJ)V"⟩, 28) := ⟨⟨by decide +kernel, by decide +kernel⟩, List.mem_of_getElem? (i := 844) (by decide +kernel), List.mem_of_getElem? (i := 1153) (by decide +kernel), List.mem_of_getElem? (i := 1154) (by decide +kernel)⟩
theorem lw_p63 : lw_okq (⟨"TransseriaModel", "derives", "(I)Z"⟩, 28) := ⟨⟨by decide +kernel, by decide +kernel⟩, List.mem_of_getElem? (i := 844) (by decide +kernel), List.mem_of_getElem? (i := 1161) (by decide +kernel), List.mem_of_getElem? (i := 1162) (by decide +kernel)⟩
def lw_privs_4 : List (MethodName × Nat) := [(⟨"TransseriaModel", "setsOrdinal", "(II)Z"⟩, 28), (⟨"TransseriaModel", "setsNumber", "(IJ)Z"⟩, 28), (⟨"TransseriaModel", "joinsBoth", "(III)Z"⟩, 28), (⟨"TransseriaModel", "joinsAll", "(II)V"⟩, 28), (⟨"TransseriaModel", "setsGrowth", "(IZ)Z"⟩, 28), (⟨"TransseriaModel", "told", "(IZZ)I"⟩, 28), (⟨"TransseriaModel", "setsProduct", "(III)Z"⟩, 28), (⟨"TransseriaModel", "multiplied", "(II)I"⟩, 28), (⟨"TransseriaModel", "last", "(I)I"⟩, 28), (⟨"TransseriaModel", "multiplies", "(II)Z"⟩, 28), (⟨"TransseriaModel", "setsDifference", "(III)Z"⟩, 28), (⟨"TransseriaModel", "setsNatural", "(IIIZ)Z"⟩, 28), (⟨"TransseriaModel", "multipliedNaturally", "(II)I"⟩, 28), (⟨"TransseriaModel", "summedNaturally", "(II)I"⟩, 28), (⟨"TransseriaModel", "puts", "(IJ)V"⟩, 28), (⟨"TransseriaModel", "derives", "(I)Z"⟩, 28)]
theorem lw_r4 : ∀ q ∈ lw_privs_4, lw_okq q := List.forall_mem_cons.mpr ⟨lw_p48, List.forall_mem_cons.mpr ⟨lw_p49, List.forall_mem_cons.mpr ⟨lw_p50, List.forall_mem_cons.mpr ⟨lw_p51, List.forall_mem_cons.mpr ⟨lw_p52, List.forall_mem_cons.mpr ⟨lw_p53, List.forall_mem_cons.mpr ⟨lw_p54, List.forall_mem_cons.mpr ⟨lw_p55, List.forall_mem_cons.mpr ⟨lw_p56, List.forall_mem_cons.mpr ⟨lw_p57, List.forall_mem_cons.mpr ⟨lw_p58, List.forall_mem_cons.mpr ⟨lw_p59, List.forall_mem_cons.mpr ⟨lw_p60, List.forall_mem_cons.mpr ⟨lw_p61, List.forall_mem_cons.mpr ⟨lw_p62, List.forall_mem_cons.mpr ⟨lw_p63, fun _ h => absurd h List.not_mem_nil⟩⟩⟩⟩⟩⟩⟩⟩⟩⟩⟩⟩⟩⟩⟩⟩
theorem lw_p64 : lw_okq (⟨"TransseriaModel", "comparedBoth", "(II)I"⟩, 28) := ⟨⟨by decide +kernel, by decide +kernel⟩, List.mem_of_getElem? (i := 844) (by decide +kernel), List.mem_of_getElem? (i := 1169) (by decide +kernel), List.mem_of_getElem? (i := 1170) (by decide +kernel)⟩
theorem lw_p65 : lw_okq (⟨"TransseriaModel", "comparedGrowths", "(II)I"⟩, 28) := ⟨⟨by decide +kernel, by decide +kernel⟩, List.mem_of_getElem? (i := 844) (by decide +kernel), List.mem_of_getElem? (i := 1173) (by decide +kernel), List.mem_of_getElem? (i := 1174) (by decide +kernel)⟩
theorem lw_p66 : lw_okq (⟨"TransseriaModel", "stepOf", "(II)I"⟩, 28) := ⟨⟨by decide +kernel, by decide +kernel⟩, List.mem_of_getElem? (i := 844) (by decide +kernel), List.mem_of_getElem? (i := 1181) (by decide +kernel), List.mem_of_getElem? (i := 1182) (by decide +kernel)⟩
theorem lw_p67 : lw_okq (⟨"TransseriaModel", "stepped", "(II)I"⟩, 28) := ⟨⟨by decide +kernel, by decide +kernel⟩, List.mem_of_getElem? (i := 844) (by decide +kernel), List.mem_of_getElem? (i := 1185) (by decide +kernel), List.mem_of_getElem? (i := 1186) (by decide +kernel)⟩
theorem lw_p68 : lw_okq (⟨"TransseriaModel", "lessOne", "(I)V"⟩, 28) := ⟨⟨by decide +kernel, by decide +kernel⟩, List.mem_of_getElem? (i := 844) (by decide +kernel), List.mem_of_getElem? (i := 1189) (by decide +kernel), List.mem_of_getElem? (i := 1190) (by decide +kernel)⟩
theorem lw_p69 : lw_okq (⟨"TransseriaModel", "descends", "(III)Z"⟩, 28) := ⟨⟨by decide +kernel, by decide +kernel⟩, List.mem_of_getElem? (i := 844) (by decide +kernel), List.mem_of_getElem? (i := 1198) (by decide +kernel), List.mem_of_getElem? (i := 1199) (by decide +kernel)⟩
theorem lw_p70 : lw_okq (⟨"TransseriaModel", "hasPower", "(II)Z"⟩, 28) := ⟨⟨by decide +kernel, by decide +kernel⟩, List.mem_of_getElem? (i := 844) (by decide +kernel), List.mem_of_getElem? (i := 1210) (by decide +kernel), List.mem_of_getElem? (i := 1211) (by decide +kernel)⟩
theorem lw_p71 : lw_okq (⟨"TransseriaModel", "cuts", "(II)Z"⟩, 28) := ⟨⟨by decide +kernel, by decide +kernel⟩, List.mem_of_getElem? (i := 844) (by decide +kernel), List.mem_of_getElem? (i := 1223) (by decide +kernel), List.mem_of_getElem? (i := 1224) (by decide +kernel)⟩
theorem lw_p72 : lw_okq (⟨"TransseriaModel", "finds", "(ZJZJ)Z"⟩, 28) := ⟨⟨by decide +kernel, by decide +kernel⟩, List.mem_of_getElem? (i := 844) (by decide +kernel), List.mem_of_getElem? (i := 1230) (by decide +kernel), List.mem_of_getElem? (i := 1231) (by decide +kernel)⟩
theorem lw_p73 : lw_okq (⟨"TransseriaModel", "birthdayOf", "(I)I"⟩, 28) := ⟨⟨by decide +kernel, by decide +kernel⟩, List.mem_of_getElem? (i := 844) (by decide +kernel), List.mem_of_getElem? (i := 1238) (by decide +kernel), List.mem_of_getElem? (i := 1239) (by decide +kernel)⟩
theorem lw_p74 : lw_okq (⟨"TransseriaModel", "goesTo", "(JI)I"⟩, 28) := ⟨⟨by decide +kernel, by decide +kernel⟩, List.mem_of_getElem? (i := 844) (by decide +kernel), List.mem_of_getElem? (i := 1242) (by decide +kernel), List.mem_of_getElem? (i := 1243) (by decide +kernel)⟩
theorem lw_p75 : lw_okq (⟨"TransseriaModel", "signAt", "(II)I"⟩, 28) := ⟨⟨by decide +kernel, by decide +kernel⟩, List.mem_of_getElem? (i := 844) (by decide +kernel), List.mem_of_getElem? (i := 1250) (by decide +kernel), List.mem_of_getElem? (i := 1251) (by decide +kernel)⟩
theorem lw_p76 : lw_okq (⟨"TransseriaModel", "tendsTo", "(I)I"⟩, 28) := ⟨⟨by decide +kernel, by decide +kernel⟩, List.mem_of_getElem? (i := 844) (by decide +kernel), List.mem_of_getElem? (i := 1262) (by decide +kernel), List.mem_of_getElem? (i := 1263) (by decide +kernel)⟩
theorem lw_p77 : lw_okq (⟨"TransseriaModel", "toldPart", "(II)J"⟩, 28) := ⟨⟨by decide +kernel, by decide +kernel⟩, List.mem_of_getElem? (i := 844) (by decide +kernel), List.mem_of_getElem? (i := 1275) (by decide +kernel), List.mem_of_getElem? (i := 1276) (by decide +kernel)⟩
def lw_privs_5 : List (MethodName × Nat) := [(⟨"TransseriaModel", "comparedBoth", "(II)I"⟩, 28), (⟨"TransseriaModel", "comparedGrowths", "(II)I"⟩, 28), (⟨"TransseriaModel", "stepOf", "(II)I"⟩, 28), (⟨"TransseriaModel", "stepped", "(II)I"⟩, 28), (⟨"TransseriaModel", "lessOne", "(I)V"⟩, 28), (⟨"TransseriaModel", "descends", "(III)Z"⟩, 28), (⟨"TransseriaModel", "hasPower", "(II)Z"⟩, 28), (⟨"TransseriaModel", "cuts", "(II)Z"⟩, 28), (⟨"TransseriaModel", "finds", "(ZJZJ)Z"⟩, 28), (⟨"TransseriaModel", "birthdayOf", "(I)I"⟩, 28), (⟨"TransseriaModel", "goesTo", "(JI)I"⟩, 28), (⟨"TransseriaModel", "signAt", "(II)I"⟩, 28), (⟨"TransseriaModel", "tendsTo", "(I)I"⟩, 28), (⟨"TransseriaModel", "toldPart", "(II)J"⟩, 28)]
theorem lw_r5 : ∀ q ∈ lw_privs_5, lw_okq q := List.forall_mem_cons.mpr ⟨lw_p64, List.forall_mem_cons.mpr ⟨lw_p65, List.forall_mem_cons.mpr ⟨lw_p66, List.forall_mem_cons.mpr ⟨lw_p67, List.forall_mem_cons.mpr ⟨lw_p68, List.forall_mem_cons.mpr ⟨lw_p69, List.forall_mem_cons.mpr ⟨lw_p70, List.forall_mem_cons.mpr ⟨lw_p71, List.forall_mem_cons.mpr ⟨lw_p72, List.forall_mem_cons.mpr ⟨lw_p73, List.forall_mem_cons.mpr ⟨lw_p74, List.forall_mem_cons.mpr ⟨lw_p75, List.forall_mem_cons.mpr ⟨lw_p76, List.forall_mem_cons.mpr ⟨lw_p77, fun _ h => absurd h List.not_mem_nil⟩⟩⟩⟩⟩⟩⟩⟩⟩⟩⟩⟩⟩⟩
def lw_privs : List (MethodName × Nat) := lw_privs_1 ++ (lw_privs_2 ++ (lw_privs_3 ++ (lw_privs_4 ++ (lw_privs_5))))
def lw_tbl : List Cond := k2_sels lw_privs ++ tables_1
theorem lw_privs_ok : ∀ q ∈ lw_privs, lw_okq q := by
  show ∀ q ∈ lw_privs_1 ++ (lw_privs_2 ++ (lw_privs_3 ++ (lw_privs_4 ++ (lw_privs_5)))), lw_okq q
  exact List.forall_mem_append.mpr ⟨lw_r1, List.forall_mem_append.mpr ⟨lw_r2, List.forall_mem_append.mpr ⟨lw_r3, List.forall_mem_append.mpr ⟨lw_r4, lw_r5⟩⟩⟩⟩
-- ===== end of PART A; then your names; then what follows =====
def RX0 : String := "Transseria$Draft"
def TX0 : u_T := fun k => match k with
  | 0 => ("Transseria$Draft", "times", "[J", true)
  | 1 => ("Transseria$Draft", "exponents", "[I", true)
  | _ => ("Transseria$Draft", "count", "I", false)
def tyX0 : Nat → FieldType := fun k => match k with
  | 0 => .array .long
  | 1 => .array .int
  | _ => .int
abbrev wsX00 : List Cond := u_ws RX0 TX0 3
theorem nmX0 : ∀ a, a < 3 → ∀ b, b < 3 → a ≠ b → (TX0 a).2.1 ≠ (TX0 b).2.1 := by decide +kernel
theorem tyX0_ok : ∀ k, k < 3 → parseFieldDescriptor (TX0 k).2.2.1 = some (tyX0 k) := by decide +kernel
abbrev cX0_init : ByteArray := prog_2_method_1_code
def yX0_init : MethodName := ⟨RX0, "<init>", "()V"⟩
abbrev cX0_count : ByteArray := prog_2_method_2_code
def yX0_count : MethodName := ⟨RX0, "count", "()I"⟩
abbrev cX0_timesAt : ByteArray := prog_2_method_3_code
def yX0_timesAt : MethodName := ⟨RX0, "timesAt", "(I)J"⟩
abbrev cX0_exponentAt : ByteArray := prog_2_method_4_code
def yX0_exponentAt : MethodName := ⟨RX0, "exponentAt", "(I)I"⟩
abbrev cX0_restart : ByteArray := prog_2_method_5_code
def yX0_restart : MethodName := ⟨RX0, "restart", "()V"⟩
abbrev cX0_add : ByteArray := prog_2_method_6_code
def yX0_add : MethodName := ⟨RX0, "add", "(JI)V"⟩
abbrev cX0_insert : ByteArray := prog_2_method_7_code
def yX0_insert : MethodName := ⟨RX0, "insert", "(IJI)V"⟩
abbrev cX0_raise : ByteArray := prog_2_method_8_code
def yX0_raise : MethodName := ⟨RX0, "raise", "(IJ)V"⟩
def RX1 : String := "Transseria$Growth"
def TX1 : u_T := fun k => match k with
  | 0 => ("Transseria$Growth", "times", "[J", true)
  | 1 => ("Transseria$Growth", "keys", "[J", true)
  | _ => ("Transseria$Growth", "count", "I", false)
def tyX1 : Nat → FieldType := fun k => match k with
  | 0 => .array .long
  | 1 => .array .long
  | _ => .int
abbrev wsX10 : List Cond := u_ws RX1 TX1 3
theorem nmX1 : ∀ a, a < 3 → ∀ b, b < 3 → a ≠ b → (TX1 a).2.1 ≠ (TX1 b).2.1 := by decide +kernel
theorem tyX1_ok : ∀ k, k < 3 → parseFieldDescriptor (TX1 k).2.2.1 = some (tyX1 k) := by decide +kernel
abbrev cX1_init : ByteArray := prog_3_method_1_code
def yX1_init : MethodName := ⟨RX1, "<init>", "(I)V"⟩
abbrev cX1_keyOf : ByteArray := prog_3_method_2_code
def yX1_keyOf : MethodName := ⟨RX1, "keyOf", "(IIII)J"⟩
abbrev cX1_exponentIn : ByteArray := prog_3_method_3_code
def yX1_exponentIn : MethodName := ⟨RX1, "exponentIn", "(JI)I"⟩
abbrev cX1_count : ByteArray := prog_3_method_4_code
def yX1_count : MethodName := ⟨RX1, "count", "()I"⟩
abbrev cX1_timesAt : ByteArray := prog_3_method_5_code
def yX1_timesAt : MethodName := ⟨RX1, "timesAt", "(I)J"⟩
abbrev cX1_keyAt : ByteArray := prog_3_method_6_code
def yX1_keyAt : MethodName := ⟨RX1, "keyAt", "(I)J"⟩
abbrev cX1_restart : ByteArray := prog_3_method_7_code
def yX1_restart : MethodName := ⟨RX1, "restart", "()V"⟩
abbrev cX1_add : ByteArray := prog_3_method_8_code
def yX1_add : MethodName := ⟨RX1, "add", "(JJ)V"⟩
abbrev cX1_copy : ByteArray := prog_3_method_9_code
def yX1_copy : MethodName := ⟨RX1, "copy", "(LTransseria$Growth;)V"⟩
abbrev cX1_fits : ByteArray := prog_3_method_10_code
def yX1_fits : MethodName := ⟨RX1, "fits", "()Z"⟩
abbrev cX1_exponentsFit : ByteArray := prog_3_method_11_code
def yX1_exponentsFit : MethodName := ⟨RX1, "exponentsFit", "(J)Z"⟩
abbrev cX1_comparedWith : ByteArray := prog_3_method_12_code
def yX1_comparedWith : MethodName := ⟨RX1, "comparedWith", "(LTransseria$Growth;)I"⟩
abbrev cX1_limit : ByteArray := prog_3_method_13_code
def yX1_limit : MethodName := ⟨RX1, "limit", "()I"⟩
def RX2 : String := "Transseria$Ordinals"
def TX2 : u_T := fun k => match k with
  | 0 => ("Transseria$Ordinals", "starts", "[I", false)
  | 1 => ("Transseria$Ordinals", "depths", "[I", false)
  | 2 => ("Transseria$Ordinals", "times", "[I", false)
  | 3 => ("Transseria$Ordinals", "exponents", "[I", false)
  | 4 => ("Transseria$Ordinals", "count", "I", false)
  | 5 => ("Transseria$Ordinals", "kept", "I", false)
  | 6 => ("Transseria$Ordinals", "draft", "LTransseria$Draft;", true)
  | 7 => ("Transseria$Ordinals", "pairs", "LTransseria$Draft;", true)
  | _ => ("Transseria$Ordinals", "sums", "[I", true)
def tyX2 : Nat → FieldType := fun k => match k with
  | 0 => .array .int
  | 1 => .array .int
  | 2 => .array .int
  | 3 => .array .int
  | 4 => .int
  | 5 => .int
  | 6 => .object "Transseria$Draft"
  | 7 => .object "Transseria$Draft"
  | _ => .array .int
abbrev wsX20 : List Cond := u_ws RX2 TX2 9
theorem nmX2 : ∀ a, a < 9 → ∀ b, b < 9 → a ≠ b → (TX2 a).2.1 ≠ (TX2 b).2.1 := by decide +kernel
theorem tyX2_ok : ∀ k, k < 9 → parseFieldDescriptor (TX2 k).2.2.1 = some (tyX2 k) := by decide +kernel
abbrev cX2_init : ByteArray := prog_4_method_1_code
def yX2_init : MethodName := ⟨RX2, "<init>", "()V"⟩
abbrev cX2_powersOf : ByteArray := prog_4_method_2_code
def yX2_powersOf : MethodName := ⟨RX2, "powersOf", "(I)I"⟩
abbrev cX2_timesOf : ByteArray := prog_4_method_3_code
def yX2_timesOf : MethodName := ⟨RX2, "timesOf", "(II)I"⟩
abbrev cX2_exponentOf : ByteArray := prog_4_method_4_code
def yX2_exponentOf : MethodName := ⟨RX2, "exponentOf", "(II)I"⟩
abbrev cX2_keep : ByteArray := prog_4_method_5_code
def yX2_keep : MethodName := ⟨RX2, "keep", "()V"⟩
abbrev cX2_forget : ByteArray := prog_4_method_6_code
def yX2_forget : MethodName := ⟨RX2, "forget", "()V"⟩
abbrev cX2_powerOf : ByteArray := prog_4_method_7_code
def yX2_powerOf : MethodName := ⟨RX2, "powerOf", "(II)I"⟩
abbrev cX2_added : ByteArray := prog_4_method_8_code
def yX2_added : MethodName := ⟨RX2, "added", "(II)I"⟩
abbrev cX2_multiplied : ByteArray := prog_4_method_9_code
def yX2_multiplied : MethodName := ⟨RX2, "multiplied", "(II)I"⟩
abbrev cX2_naturallyAdded : ByteArray := prog_4_method_10_code
def yX2_naturallyAdded : MethodName := ⟨RX2, "naturallyAdded", "(II)I"⟩
abbrev cX2_naturallyMultiplied : ByteArray := prog_4_method_11_code
def yX2_naturallyMultiplied : MethodName := ⟨RX2, "naturallyMultiplied", "(II)I"⟩
abbrev cX2_addPair : ByteArray := prog_4_method_12_code
def yX2_addPair : MethodName := ⟨RX2, "addPair", "(JII)V"⟩
abbrev cX2_compared : ByteArray := prog_4_method_13_code
def yX2_compared : MethodName := ⟨RX2, "compared", "(II)I"⟩
abbrev cX2_order : ByteArray := prog_4_method_14_code
def yX2_order : MethodName := ⟨RX2, "order", "(III)I"⟩
abbrev cX2_stepped : ByteArray := prog_4_method_15_code
def yX2_stepped : MethodName := ⟨RX2, "stepped", "(II)I"⟩
abbrev cX2_lower : ByteArray := prog_4_method_16_code
def yX2_lower : MethodName := ⟨RX2, "lower", "(III)I"⟩
abbrev cX2_stepsToZero : ByteArray := prog_4_method_17_code
def yX2_stepsToZero : MethodName := ⟨RX2, "stepsToZero", "(III)I"⟩
abbrev cX2_lessened : ByteArray := prog_4_method_18_code
def yX2_lessened : MethodName := ⟨RX2, "lessened", "(II)I"⟩
abbrev cX2_finiteTail : ByteArray := prog_4_method_19_code
def yX2_finiteTail : MethodName := ⟨RX2, "finiteTail", "(I)I"⟩
abbrev cX2_powersAbove : ByteArray := prog_4_method_20_code
def yX2_powersAbove : MethodName := ⟨RX2, "powersAbove", "(III)I"⟩
abbrev cX2_draftLess : ByteArray := prog_4_method_21_code
def yX2_draftLess : MethodName := ⟨RX2, "draftLess", "(II)V"⟩
abbrev cX2_draftPowers : ByteArray := prog_4_method_22_code
def yX2_draftPowers : MethodName := ⟨RX2, "draftPowers", "(III)V"⟩
abbrev cX2_made : ByteArray := prog_4_method_23_code
def yX2_made : MethodName := ⟨RX2, "made", "(LTransseria$Draft;)I"⟩
abbrev cX2_depthOf : ByteArray := prog_4_method_24_code
def yX2_depthOf : MethodName := ⟨RX2, "depthOf", "(LTransseria$Draft;)I"⟩
abbrev cX2_powersFit : ByteArray := prog_4_method_25_code
def yX2_powersFit : MethodName := ⟨RX2, "powersFit", "(LTransseria$Draft;)Z"⟩
abbrev cX2_write : ByteArray := prog_4_method_26_code
def yX2_write : MethodName := ⟨RX2, "write", "(LTransseria$Draft;I)V"⟩
def RX3 : String := "Transseria$Rows"
def TX3 : u_T := fun k => match k with
  | _ => ("", "", "", false)
def tyX3 : Nat → FieldType := fun k => match k with
  | _ => .int
abbrev wsX30 : List Cond := u_ws RX3 TX3 0
theorem nmX3 : ∀ a, a < 0 → ∀ b, b < 0 → a ≠ b → (TX3 a).2.1 ≠ (TX3 b).2.1 := by decide +kernel
theorem tyX3_ok : ∀ k, k < 0 → parseFieldDescriptor (TX3 k).2.2.1 = some (tyX3 k) := by decide +kernel
abbrev cX3_at : ByteArray := prog_5_method_2_code
def yX3_at : MethodName := ⟨RX3, "at", "([II)I"⟩
abbrev cX3_at_ : ByteArray := prog_5_method_3_code
def yX3_at_ : MethodName := ⟨RX3, "at", "([JI)J"⟩
abbrev cX3_put : ByteArray := prog_5_method_4_code
def yX3_put : MethodName := ⟨RX3, "put", "([III)V"⟩
abbrev cX3_put_ : ByteArray := prog_5_method_5_code
def yX3_put_ : MethodName := ⟨RX3, "put", "([JIJ)V"⟩
abbrev cX3_withRoom : ByteArray := prog_5_method_6_code
def yX3_withRoom : MethodName := ⟨RX3, "withRoom", "([II)[I"⟩
def RX4 : String := "Transseria$Tally"
def TX4 : u_T := fun k => match k with
  | 0 => ("Transseria$Tally", "now", "LTransseria$Growth;", false)
  | 1 => ("Transseria$Tally", "next", "LTransseria$Growth;", false)
  | _ => ("Transseria$Tally", "row", "LTransseria$Growth;", true)
def tyX4 : Nat → FieldType := fun k => match k with
  | 0 => .object "Transseria$Growth"
  | 1 => .object "Transseria$Growth"
  | _ => .object "Transseria$Growth"
abbrev wsX40 : List Cond := u_ws RX4 TX4 3
theorem nmX4 : ∀ a, a < 3 → ∀ b, b < 3 → a ≠ b → (TX4 a).2.1 ≠ (TX4 b).2.1 := by decide +kernel
theorem tyX4_ok : ∀ k, k < 3 → parseFieldDescriptor (TX4 k).2.2.1 = some (tyX4 k) := by decide +kernel
abbrev cX4_init : ByteArray := prog_6_method_1_code
def yX4_init : MethodName := ⟨RX4, "<init>", "()V"⟩
abbrev cX4_growth : ByteArray := prog_6_method_2_code
def yX4_growth : MethodName := ⟨RX4, "growth", "()LTransseria$Growth;"⟩
abbrev cX4_restart : ByteArray := prog_6_method_3_code
def yX4_restart : MethodName := ⟨RX4, "restart", "()V"⟩
abbrev cX4_addPart : ByteArray := prog_6_method_4_code
def yX4_addPart : MethodName := ⟨RX4, "addPart", "(JJ)V"⟩
abbrev cX4_addMultiple : ByteArray := prog_6_method_5_code
def yX4_addMultiple : MethodName := ⟨RX4, "addMultiple", "(LTransseria$Growth;JJ)V"⟩
abbrev cX4_addSlopes : ByteArray := prog_6_method_6_code
def yX4_addSlopes : MethodName := ⟨RX4, "addSlopes", "(LTransseria$Growth;I)V"⟩
abbrev cX4_addRow : ByteArray := prog_6_method_7_code
def yX4_addRow : MethodName := ⟨RX4, "addRow", "()V"⟩
def RX5 : String := "Transseria$Walk"
def TX5 : u_T := fun k => match k with
  | 0 => ("Transseria$Walk", "value", "J", false)
  | 1 => ("Transseria$Walk", "below", "J", false)
  | 2 => ("Transseria$Walk", "above", "J", false)
  | _ => ("Transseria$Walk", "length", "I", false)
def tyX5 : Nat → FieldType := fun k => match k with
  | 0 => .long
  | 1 => .long
  | 2 => .long
  | _ => .int
abbrev wsX50 : List Cond := u_ws RX5 TX5 4
theorem nmX5 : ∀ a, a < 4 → ∀ b, b < 4 → a ≠ b → (TX5 a).2.1 ≠ (TX5 b).2.1 := by decide +kernel
theorem tyX5_ok : ∀ k, k < 4 → parseFieldDescriptor (TX5 k).2.2.1 = some (tyX5 k) := by decide +kernel
abbrev cX5_init : ByteArray := prog_7_method_1_code
def yX5_init : MethodName := ⟨RX5, "<init>", "()V"⟩
abbrev cX5_value : ByteArray := prog_7_method_2_code
def yX5_value : MethodName := ⟨RX5, "value", "()J"⟩
abbrev cX5_length : ByteArray := prog_7_method_3_code
def yX5_length : MethodName := ⟨RX5, "length", "()I"⟩
abbrev cX5_restart : ByteArray := prog_7_method_4_code
def yX5_restart : MethodName := ⟨RX5, "restart", "()V"⟩
abbrev cX5_along : ByteArray := prog_7_method_5_code
def yX5_along : MethodName := ⟨RX5, "along", "(II)V"⟩
abbrev cX5_toward : ByteArray := prog_7_method_6_code
def yX5_toward : MethodName := ⟨RX5, "toward", "(JI)V"⟩
abbrev cX5_between : ByteArray := prog_7_method_7_code
def yX5_between : MethodName := ⟨RX5, "between", "(JJ)Z"⟩
abbrev cX5_goes : ByteArray := prog_7_method_8_code
def yX5_goes : MethodName := ⟨RX5, "goes", "(Z)Z"⟩
def RX6 : String := "Transseria"
def TX6 : u_T := fun k => match k with
  | 0 => ("Transseria", "kinds", "[I", true)
  | 1 => ("Transseria", "ordinals", "[I", true)
  | 2 => ("Transseria", "numbers", "[J", true)
  | 3 => ("Transseria", "growths", "[LTransseria$Growth;", true)
  | 4 => ("Transseria", "store", "LTransseria$Ordinals;", true)
  | 5 => ("Transseria", "walk", "LTransseria$Walk;", true)
  | _ => ("Transseria", "tally", "LTransseria$Tally;", true)
def tyX6 : Nat → FieldType := fun k => match k with
  | 0 => .array .int
  | 1 => .array .int
  | 2 => .array .long
  | 3 => .array (.object "Transseria$Growth")
  | 4 => .object "Transseria$Ordinals"
  | 5 => .object "Transseria$Walk"
  | _ => .object "Transseria$Tally"
abbrev wsX60 : List Cond := u_ws RX6 TX6 7
theorem nmX6 : ∀ a, a < 7 → ∀ b, b < 7 → a ≠ b → (TX6 a).2.1 ≠ (TX6 b).2.1 := by decide +kernel
theorem tyX6_ok : ∀ k, k < 7 → parseFieldDescriptor (TX6 k).2.2.1 = some (tyX6 k) := by decide +kernel
abbrev cX6_init : ByteArray := prog_1_method_1_code
def yX6_init : MethodName := ⟨RX6, "<init>", "()V"⟩
abbrev cX6_kind : ByteArray := prog_1_method_2_code
def yX6_kind : MethodName := ⟨RX6, "kind", "(I)I"⟩
abbrev cX6_clear : ByteArray := prog_1_method_3_code
def yX6_clear : MethodName := ⟨RX6, "clear", "(I)I"⟩
abbrev cX6_finite : ByteArray := prog_1_method_4_code
def yX6_finite : MethodName := ⟨RX6, "finite", "(II)V"⟩
abbrev cX6_omega : ByteArray := prog_1_method_5_code
def yX6_omega : MethodName := ⟨RX6, "omega", "(II)V"⟩
abbrev cX6_number : ByteArray := prog_1_method_6_code
def yX6_number : MethodName := ⟨RX6, "number", "(III)V"⟩
abbrev cX6_signs : ByteArray := prog_1_method_7_code
def yX6_signs : MethodName := ⟨RX6, "signs", "(III)V"⟩
abbrev cX6_term : ByteArray := prog_1_method_8_code
def yX6_term : MethodName := ⟨RX6, "term", "(IIIIII)V"⟩
abbrev cX6_sum : ByteArray := prog_1_method_9_code
def yX6_sum : MethodName := ⟨RX6, "sum", "(III)I"⟩
abbrev cX6_product : ByteArray := prog_1_method_10_code
def yX6_product : MethodName := ⟨RX6, "product", "(III)I"⟩
abbrev cX6_difference : ByteArray := prog_1_method_11_code
def yX6_difference : MethodName := ⟨RX6, "difference", "(III)I"⟩
abbrev cX6_natural : ByteArray := prog_1_method_12_code
def yX6_natural : MethodName := ⟨RX6, "natural", "(IIIZ)V"⟩
abbrev cX6_derive : ByteArray := prog_1_method_13_code
def yX6_derive : MethodName := ⟨RX6, "derive", "(II)V"⟩
abbrev cX6_compare : ByteArray := prog_1_method_14_code
def yX6_compare : MethodName := ⟨RX6, "compare", "(II)I"⟩
abbrev cX6_step : ByteArray := prog_1_method_15_code
def yX6_step : MethodName := ⟨RX6, "step", "(III)V"⟩
abbrev cX6_descent : ByteArray := prog_1_method_16_code
def yX6_descent : MethodName := ⟨RX6, "descent", "(III)I"⟩
abbrev cX6_powers : ByteArray := prog_1_method_17_code
def yX6_powers : MethodName := ⟨RX6, "powers", "(I)I"⟩
abbrev cX6_times : ByteArray := prog_1_method_18_code
def yX6_times : MethodName := ⟨RX6, "times", "(II)J"⟩
abbrev cX6_exponent : ByteArray := prog_1_method_19_code
def yX6_exponent : MethodName := ⟨RX6, "exponent", "(III)V"⟩
abbrev cX6_cut : ByteArray := prog_1_method_20_code
def yX6_cut : MethodName := ⟨RX6, "cut", "(III)I"⟩
abbrev cX6_birthday : ByteArray := prog_1_method_21_code
def yX6_birthday : MethodName := ⟨RX6, "birthday", "(I)I"⟩
abbrev cX6_signOf : ByteArray := prog_1_method_22_code
def yX6_signOf : MethodName := ⟨RX6, "signOf", "(II)I"⟩
abbrev cX6_parts : ByteArray := prog_1_method_23_code
def yX6_parts : MethodName := ⟨RX6, "parts", "(I)J"⟩
abbrev cX6_tends : ByteArray := prog_1_method_24_code
def yX6_tends : MethodName := ⟨RX6, "tends", "(I)I"⟩
abbrev cX6_terms : ByteArray := prog_1_method_25_code
def yX6_terms : MethodName := ⟨RX6, "terms", "(I)I"⟩
abbrev cX6_part : ByteArray := prog_1_method_26_code
def yX6_part : MethodName := ⟨RX6, "part", "(III)J"⟩
abbrev cX6_needPlace : ByteArray := prog_1_method_27_code
def yX6_needPlace : MethodName := ⟨RX6, "needPlace", "(I)V"⟩
abbrev cX6_needThree : ByteArray := prog_1_method_28_code
def yX6_needThree : MethodName := ⟨RX6, "needThree", "(III)V"⟩
abbrev cX6_needRow : ByteArray := prog_1_method_29_code
def yX6_needRow : MethodName := ⟨RX6, "needRow", "(I)V"⟩
abbrev cX6_needRange : ByteArray := prog_1_method_30_code
def yX6_needRange : MethodName := ⟨RX6, "needRange", "(III)V"⟩
abbrev cX6_commonKind : ByteArray := prog_1_method_31_code
def yX6_commonKind : MethodName := ⟨RX6, "commonKind", "(II)I"⟩
abbrev cX6_ordinalAt : ByteArray := prog_1_method_32_code
def yX6_ordinalAt : MethodName := ⟨RX6, "ordinalAt", "(I)I"⟩
abbrev cX6_ordinalWithPower : ByteArray := prog_1_method_33_code
def yX6_ordinalWithPower : MethodName := ⟨RX6, "ordinalWithPower", "(II)I"⟩
abbrev cX6_numberAt : ByteArray := prog_1_method_34_code
def yX6_numberAt : MethodName := ⟨RX6, "numberAt", "(I)J"⟩
abbrev cX6_growthAt : ByteArray := prog_1_method_35_code
def yX6_growthAt : MethodName := ⟨RX6, "growthAt", "(I)LTransseria$Growth;"⟩
abbrev cX6_growthRow : ByteArray := prog_1_method_36_code
def yX6_growthRow : MethodName := ⟨RX6, "growthRow", "(I)LTransseria$Growth;"⟩
abbrev cX6_keepOrdinal : ByteArray := prog_1_method_37_code
def yX6_keepOrdinal : MethodName := ⟨RX6, "keepOrdinal", "(II)V"⟩
abbrev cX6_keepNumber : ByteArray := prog_1_method_38_code
def yX6_keepNumber : MethodName := ⟨RX6, "keepNumber", "(IJ)V"⟩
abbrev cX6_keepGrowth : ByteArray := prog_1_method_39_code
def yX6_keepGrowth : MethodName := ⟨RX6, "keepGrowth", "(I)V"⟩
abbrev cX6_numberFits : ByteArray := prog_1_method_40_code
def yX6_numberFits : MethodName := ⟨RX6, "numberFits", "(J)Z"⟩
abbrev cX6_multipliedNumbers : ByteArray := prog_1_method_41_code
def yX6_multipliedNumbers : MethodName := ⟨RX6, "multipliedNumbers", "(JJ)J"⟩
abbrev cX6_greatestOf : ByteArray := prog_1_method_42_code
def yX6_greatestOf : MethodName := ⟨RX6, "greatestOf", "(I)J"⟩
abbrev cX6_leastOf : ByteArray := prog_1_method_43_code
def yX6_leastOf : MethodName := ⟨RX6, "leastOf", "(I)J"⟩
abbrev cX6_addGrowths : ByteArray := prog_1_method_44_code
def yX6_addGrowths : MethodName := ⟨RX6, "addGrowths", "(LTransseria$Growth;LTransseria$Growth;I)V"⟩
abbrev cX6_multiplyGrowths : ByteArray := prog_1_method_45_code
def yX6_multiplyGrowths : MethodName := ⟨RX6, "multiplyGrowths", "(LTransseria$Growth;LTransseria$Growth;)V"⟩
def RX7 : String := "TransseriaModel"
def TX7 : u_T := fun k => match k with
  | 0 => ("TransseriaModel", "thrown", "I", false)
  | 1 => ("TransseriaModel", "kinds", "[I", true)
  | 2 => ("TransseriaModel", "held", "[I", true)
  | 3 => ("TransseriaModel", "exponents", "[I", true)
  | 4 => ("TransseriaModel", "many", "[I", true)
  | 5 => ("TransseriaModel", "size", "[I", true)
  | 6 => ("TransseriaModel", "deep", "[I", true)
  | 7 => ("TransseriaModel", "ordinals", "I", false)
  | 8 => ("TransseriaModel", "need", "[I", true)
  | 9 => ("TransseriaModel", "next", "[I", true)
  | 10 => ("TransseriaModel", "often", "[J", true)
  | 11 => ("TransseriaModel", "made", "I", false)
  | 12 => ("TransseriaModel", "found", "[I", true)
  | 13 => ("TransseriaModel", "foundOften", "[J", true)
  | 14 => ("TransseriaModel", "chain", "[I", true)
  | 15 => ("TransseriaModel", "kept", "I", false)
  | 16 => ("TransseriaModel", "power", "[J", true)
  | 17 => ("TransseriaModel", "times", "[I", true)
  | 18 => ("TransseriaModel", "madePower", "[J", true)
  | 19 => ("TransseriaModel", "madeTimes", "[J", true)
  | 20 => ("TransseriaModel", "parts", "I", false)
  | 21 => ("TransseriaModel", "hasAbove", "Z", false)
  | 22 => ("TransseriaModel", "hasBelow", "Z", false)
  | 23 => ("TransseriaModel", "above", "J", false)
  | 24 => ("TransseriaModel", "below", "J", false)
  | 25 => ("TransseriaModel", "at", "J", false)
  | 26 => ("TransseriaModel", "signs", "I", false)
  | _ => ("TransseriaModel", "steps", "I", false)
def tyX7 : Nat → FieldType := fun k => match k with
  | 0 => .int
  | 1 => .array .int
  | 2 => .array .int
  | 3 => .array .int
  | 4 => .array .int
  | 5 => .array .int
  | 6 => .array .int
  | 7 => .int
  | 8 => .array .int
  | 9 => .array .int
  | 10 => .array .long
  | 11 => .int
  | 12 => .array .int
  | 13 => .array .long
  | 14 => .array .int
  | 15 => .int
  | 16 => .array .long
  | 17 => .array .int
  | 18 => .array .long
  | 19 => .array .long
  | 20 => .int
  | 21 => .boolean
  | 22 => .boolean
  | 23 => .long
  | 24 => .long
  | 25 => .long
  | 26 => .int
  | _ => .int
abbrev wsX70 : List Cond := u_ws RX7 TX7 28
theorem nmX7 : ∀ a, a < 28 → ∀ b, b < 28 → a ≠ b → (TX7 a).2.1 ≠ (TX7 b).2.1 := by decide +kernel
theorem tyX7_ok : ∀ k, k < 28 → parseFieldDescriptor (TX7 k).2.2.1 = some (tyX7 k) := by decide +kernel
abbrev cX7_init : ByteArray := prog_9_method_1_code
def yX7_init : MethodName := ⟨RX7, "<init>", "()V"⟩
abbrev cX7_thrown : ByteArray := prog_9_method_2_code
def yX7_thrown : MethodName := ⟨RX7, "thrown", "()I"⟩
abbrev cX7_holds : ByteArray := prog_9_method_3_code
def yX7_holds : MethodName := ⟨RX7, "holds", "(I)Z"⟩
abbrev cX7_isIn : ByteArray := prog_9_method_4_code
def yX7_isIn : MethodName := ⟨RX7, "isIn", "(JJJ)Z"⟩
abbrev cX7_isPlace : ByteArray := prog_9_method_5_code
def yX7_isPlace : MethodName := ⟨RX7, "isPlace", "(I)Z"⟩
abbrev cX7_are : ByteArray := prog_9_method_6_code
def yX7_are : MethodName := ⟨RX7, "are", "(III)Z"⟩
abbrev cX7_lays : ByteArray := prog_9_method_7_code
def yX7_lays : MethodName := ⟨RX7, "lays", "(III)V"⟩
abbrev cX7_last : ByteArray := prog_9_method_8_code
def yX7_last : MethodName := ⟨RX7, "last", "(I)I"⟩
abbrev cX7_compared : ByteArray := prog_9_method_9_code
def yX7_compared : MethodName := ⟨RX7, "compared", "(II)I"⟩
abbrev cX7_adds : ByteArray := prog_9_method_10_code
def yX7_adds : MethodName := ⟨RX7, "adds", "(IJ)V"⟩
abbrev cX7_isMade : ByteArray := prog_9_method_11_code
def yX7_isMade : MethodName := ⟨RX7, "isMade", "(I)Z"⟩
abbrev cX7_makes : ByteArray := prog_9_method_12_code
def yX7_makes : MethodName := ⟨RX7, "makes", "()I"⟩
abbrev cX7_gathers : ByteArray := prog_9_method_13_code
def yX7_gathers : MethodName := ⟨RX7, "gathers", "()V"⟩
abbrev cX7_summed : ByteArray := prog_9_method_14_code
def yX7_summed : MethodName := ⟨RX7, "summed", "(II)I"⟩
abbrev cX7_summedNaturally : ByteArray := prog_9_method_15_code
def yX7_summedNaturally : MethodName := ⟨RX7, "summedNaturally", "(II)I"⟩
abbrev cX7_multiplied : ByteArray := prog_9_method_16_code
def yX7_multiplied : MethodName := ⟨RX7, "multiplied", "(II)I"⟩
abbrev cX7_puts : ByteArray := prog_9_method_17_code
def yX7_puts : MethodName := ⟨RX7, "puts", "(IJ)V"⟩
abbrev cX7_multipliedNaturally : ByteArray := prog_9_method_18_code
def yX7_multipliedNaturally : MethodName := ⟨RX7, "multipliedNaturally", "(II)I"⟩
abbrev cX7_lessOne : ByteArray := prog_9_method_19_code
def yX7_lessOne : MethodName := ⟨RX7, "lessOne", "(I)V"⟩
abbrev cX7_stepped : ByteArray := prog_9_method_20_code
def yX7_stepped : MethodName := ⟨RX7, "stepped", "(II)I"⟩
abbrev cX7_unit : ByteArray := prog_9_method_21_code
def yX7_unit : MethodName := ⟨RX7, "unit", "(I)J"⟩
abbrev cX7_level : ByteArray := prog_9_method_22_code
def yX7_level : MethodName := ⟨RX7, "level", "()J"⟩
abbrev cX7_exponentOf : ByteArray := prog_9_method_23_code
def yX7_exponentOf : MethodName := ⟨RX7, "exponentOf", "(JI)J"⟩
abbrev cX7_joins : ByteArray := prog_9_method_24_code
def yX7_joins : MethodName := ⟨RX7, "joins", "(JJ)V"⟩
abbrev cX7_fits : ByteArray := prog_9_method_25_code
def yX7_fits : MethodName := ⟨RX7, "fits", "()Z"⟩
abbrev cX7_laysGrowth : ByteArray := prog_9_method_26_code
def yX7_laysGrowth : MethodName := ⟨RX7, "laysGrowth", "(I)V"⟩
abbrev cX7_joinsAll : ByteArray := prog_9_method_27_code
def yX7_joinsAll : MethodName := ⟨RX7, "joinsAll", "(II)V"⟩
abbrev cX7_joinsBoth : ByteArray := prog_9_method_28_code
def yX7_joinsBoth : MethodName := ⟨RX7, "joinsBoth", "(III)Z"⟩
abbrev cX7_multiplies : ByteArray := prog_9_method_29_code
def yX7_multiplies : MethodName := ⟨RX7, "multiplies", "(II)Z"⟩
abbrev cX7_derives : ByteArray := prog_9_method_30_code
def yX7_derives : MethodName := ⟨RX7, "derives", "(I)Z"⟩
abbrev cX7_isNumber : ByteArray := prog_9_method_31_code
def yX7_isNumber : MethodName := ⟨RX7, "isNumber", "(J)Z"⟩
abbrev cX7_begins : ByteArray := prog_9_method_32_code
def yX7_begins : MethodName := ⟨RX7, "begins", "()V"⟩
abbrev cX7_goes : ByteArray := prog_9_method_33_code
def yX7_goes : MethodName := ⟨RX7, "goes", "(Z)Z"⟩
abbrev cX7_goesTo : ByteArray := prog_9_method_34_code
def yX7_goesTo : MethodName := ⟨RX7, "goesTo", "(JI)I"⟩
abbrev cX7_finds : ByteArray := prog_9_method_35_code
def yX7_finds : MethodName := ⟨RX7, "finds", "(ZJZJ)Z"⟩
abbrev cX7_kind : ByteArray := prog_9_method_36_code
def yX7_kind : MethodName := ⟨RX7, "kind", "(I)I"⟩
abbrev cX7_clear : ByteArray := prog_9_method_37_code
def yX7_clear : MethodName := ⟨RX7, "clear", "(I)I"⟩
abbrev cX7_finiteOne : ByteArray := prog_9_method_38_code
def yX7_finiteOne : MethodName := ⟨RX7, "finiteOne", "(I)I"⟩
abbrev cX7_begin : ByteArray := prog_9_method_39_code
def yX7_begin : MethodName := ⟨RX7, "begin", "()V"⟩
abbrev cX7_finite : ByteArray := prog_9_method_40_code
def yX7_finite : MethodName := ⟨RX7, "finite", "(II)V"⟩
abbrev cX7_powerOf : ByteArray := prog_9_method_41_code
def yX7_powerOf : MethodName := ⟨RX7, "powerOf", "(I)I"⟩
abbrev cX7_isKind : ByteArray := prog_9_method_42_code
def yX7_isKind : MethodName := ⟨RX7, "isKind", "(II)Z"⟩
abbrev cX7_omega : ByteArray := prog_9_method_43_code
def yX7_omega : MethodName := ⟨RX7, "omega", "(II)V"⟩
abbrev cX7_number : ByteArray := prog_9_method_44_code
def yX7_number : MethodName := ⟨RX7, "number", "(III)V"⟩
abbrev cX7_signs : ByteArray := prog_9_method_45_code
def yX7_signs : MethodName := ⟨RX7, "signs", "(III)V"⟩
abbrev cX7_term : ByteArray := prog_9_method_46_code
def yX7_term : MethodName := ⟨RX7, "term", "(IIIIII)V"⟩
abbrev cX7_areBoth : ByteArray := prog_9_method_47_code
def yX7_areBoth : MethodName := ⟨RX7, "areBoth", "(III)Z"⟩
abbrev cX7_setsOrdinal : ByteArray := prog_9_method_48_code
def yX7_setsOrdinal : MethodName := ⟨RX7, "setsOrdinal", "(II)Z"⟩
abbrev cX7_setsNumber : ByteArray := prog_9_method_49_code
def yX7_setsNumber : MethodName := ⟨RX7, "setsNumber", "(IJ)Z"⟩
abbrev cX7_setsGrowth : ByteArray := prog_9_method_50_code
def yX7_setsGrowth : MethodName := ⟨RX7, "setsGrowth", "(IZ)Z"⟩
abbrev cX7_setsSum : ByteArray := prog_9_method_51_code
def yX7_setsSum : MethodName := ⟨RX7, "setsSum", "(III)Z"⟩
abbrev cX7_told : ByteArray := prog_9_method_52_code
def yX7_told : MethodName := ⟨RX7, "told", "(IZZ)I"⟩
abbrev cX7_sum : ByteArray := prog_9_method_53_code
def yX7_sum : MethodName := ⟨RX7, "sum", "(III)I"⟩
abbrev cX7_setsProduct : ByteArray := prog_9_method_54_code
def yX7_setsProduct : MethodName := ⟨RX7, "setsProduct", "(III)Z"⟩
abbrev cX7_product : ByteArray := prog_9_method_55_code
def yX7_product : MethodName := ⟨RX7, "product", "(III)I"⟩
abbrev cX7_setsDifference : ByteArray := prog_9_method_56_code
def yX7_setsDifference : MethodName := ⟨RX7, "setsDifference", "(III)Z"⟩
abbrev cX7_difference : ByteArray := prog_9_method_57_code
def yX7_difference : MethodName := ⟨RX7, "difference", "(III)I"⟩
abbrev cX7_setsNatural : ByteArray := prog_9_method_58_code
def yX7_setsNatural : MethodName := ⟨RX7, "setsNatural", "(IIIZ)Z"⟩
abbrev cX7_natural : ByteArray := prog_9_method_59_code
def yX7_natural : MethodName := ⟨RX7, "natural", "(IIIZ)V"⟩
abbrev cX7_derive : ByteArray := prog_9_method_60_code
def yX7_derive : MethodName := ⟨RX7, "derive", "(II)V"⟩
abbrev cX7_comparedGrowths : ByteArray := prog_9_method_61_code
def yX7_comparedGrowths : MethodName := ⟨RX7, "comparedGrowths", "(II)I"⟩
abbrev cX7_comparedBoth : ByteArray := prog_9_method_62_code
def yX7_comparedBoth : MethodName := ⟨RX7, "comparedBoth", "(II)I"⟩
abbrev cX7_compare : ByteArray := prog_9_method_63_code
def yX7_compare : MethodName := ⟨RX7, "compare", "(II)I"⟩
abbrev cX7_stepOf : ByteArray := prog_9_method_64_code
def yX7_stepOf : MethodName := ⟨RX7, "stepOf", "(II)I"⟩
abbrev cX7_step : ByteArray := prog_9_method_65_code
def yX7_step : MethodName := ⟨RX7, "step", "(III)V"⟩
abbrev cX7_descends : ByteArray := prog_9_method_66_code
def yX7_descends : MethodName := ⟨RX7, "descends", "(III)Z"⟩
abbrev cX7_descent : ByteArray := prog_9_method_67_code
def yX7_descent : MethodName := ⟨RX7, "descent", "(III)I"⟩
abbrev cX7_powers : ByteArray := prog_9_method_68_code
def yX7_powers : MethodName := ⟨RX7, "powers", "(I)I"⟩
abbrev cX7_hasPower : ByteArray := prog_9_method_69_code
def yX7_hasPower : MethodName := ⟨RX7, "hasPower", "(II)Z"⟩
abbrev cX7_times : ByteArray := prog_9_method_70_code
def yX7_times : MethodName := ⟨RX7, "times", "(II)J"⟩
abbrev cX7_exponent : ByteArray := prog_9_method_71_code
def yX7_exponent : MethodName := ⟨RX7, "exponent", "(III)V"⟩
abbrev cX7_hasPlace : ByteArray := prog_9_method_72_code
def yX7_hasPlace : MethodName := ⟨RX7, "hasPlace", "(II)Z"⟩
abbrev cX7_cuts : ByteArray := prog_9_method_73_code
def yX7_cuts : MethodName := ⟨RX7, "cuts", "(II)Z"⟩
abbrev cX7_cut : ByteArray := prog_9_method_74_code
def yX7_cut : MethodName := ⟨RX7, "cut", "(III)I"⟩
abbrev cX7_birthdayOf : ByteArray := prog_9_method_75_code
def yX7_birthdayOf : MethodName := ⟨RX7, "birthdayOf", "(I)I"⟩
abbrev cX7_birthday : ByteArray := prog_9_method_76_code
def yX7_birthday : MethodName := ⟨RX7, "birthday", "(I)I"⟩
abbrev cX7_signAt : ByteArray := prog_9_method_77_code
def yX7_signAt : MethodName := ⟨RX7, "signAt", "(II)I"⟩
abbrev cX7_signOf : ByteArray := prog_9_method_78_code
def yX7_signOf : MethodName := ⟨RX7, "signOf", "(II)I"⟩
abbrev cX7_parts : ByteArray := prog_9_method_79_code
def yX7_parts : MethodName := ⟨RX7, "parts", "(I)J"⟩
abbrev cX7_tendsTo : ByteArray := prog_9_method_80_code
def yX7_tendsTo : MethodName := ⟨RX7, "tendsTo", "(I)I"⟩
abbrev cX7_tends : ByteArray := prog_9_method_81_code
def yX7_tends : MethodName := ⟨RX7, "tends", "(I)I"⟩
abbrev cX7_terms : ByteArray := prog_9_method_82_code
def yX7_terms : MethodName := ⟨RX7, "terms", "(I)I"⟩
abbrev cX7_toldPart : ByteArray := prog_9_method_83_code
def yX7_toldPart : MethodName := ⟨RX7, "toldPart", "(II)J"⟩
abbrev cX7_part : ByteArray := prog_9_method_84_code
def yX7_part : MethodName := ⟨RX7, "part", "(III)J"⟩
def RJx145de : String := "java/io/Serializable"
def TJx145de : u_T := fun k => match k with
  | _ => ("", "", "", false)
def tyJx145de : Nat → FieldType := fun k => match k with
  | _ => .int
abbrev wsJx145de0 : List Cond := u_ws RJx145de TJx145de 0
theorem nmJx145de : ∀ a, a < 0 → ∀ b, b < 0 → a ≠ b → (TJx145de a).2.1 ≠ (TJx145de b).2.1 := by decide +kernel
theorem tyJx145de_ok : ∀ k, k < 0 → parseFieldDescriptor (TJx145de k).2.2.1 = some (tyJx145de k) := by decide +kernel
def RJx8e188 : String := "java/lang/Cloneable"
def TJx8e188 : u_T := fun k => match k with
  | _ => ("", "", "", false)
def tyJx8e188 : Nat → FieldType := fun k => match k with
  | _ => .int
abbrev wsJx8e1880 : List Cond := u_ws RJx8e188 TJx8e188 0
theorem nmJx8e188 : ∀ a, a < 0 → ∀ b, b < 0 → a ≠ b → (TJx8e188 a).2.1 ≠ (TJx8e188 b).2.1 := by decide +kernel
theorem tyJx8e188_ok : ∀ k, k < 0 → parseFieldDescriptor (TJx8e188 k).2.2.1 = some (tyJx8e188 k) := by decide +kernel
def RJ6 : String := "java/lang/Integer"
def TJ6 : u_T := fun k => match k with
  | _ => ("", "", "", false)
def tyJ6 : Nat → FieldType := fun k => match k with
  | _ => .int
abbrev wsJ60 : List Cond := u_ws RJ6 TJ6 0
theorem nmJ6 : ∀ a, a < 0 → ∀ b, b < 0 → a ≠ b → (TJ6 a).2.1 ≠ (TJ6 b).2.1 := by decide +kernel
theorem tyJ6_ok : ∀ k, k < 0 → parseFieldDescriptor (TJ6 k).2.2.1 = some (tyJ6 k) := by decide +kernel
abbrev cJ6_compare_7cf53 : ByteArray := prog_15_method_40_code
def yJ6_compare_7cf53 : MethodName := ⟨RJ6, "compare", "(II)I"⟩
def RJ13 : String := "java/lang/Long"
def TJ13 : u_T := fun k => match k with
  | _ => ("", "", "", false)
def tyJ13 : Nat → FieldType := fun k => match k with
  | _ => .int
abbrev wsJ130 : List Cond := u_ws RJ13 TJ13 0
theorem nmJ13 : ∀ a, a < 0 → ∀ b, b < 0 → a ≠ b → (TJ13 a).2.1 ≠ (TJ13 b).2.1 := by decide +kernel
theorem tyJ13_ok : ∀ k, k < 0 → parseFieldDescriptor (TJ13 k).2.2.1 = some (tyJ13 k) := by decide +kernel
abbrev cJ13_compare_74951 : ByteArray := prog_16_method_42_code
def yJ13_compare_74951 : MethodName := ⟨RJ13, "compare", "(JJ)I"⟩
def RJ9 : String := "java/lang/Math"
def TJ9 : u_T := fun k => match k with
  | _ => ("", "", "", false)
def tyJ9 : Nat → FieldType := fun k => match k with
  | _ => .int
abbrev wsJ90 : List Cond := u_ws RJ9 TJ9 0
theorem nmJ9 : ∀ a, a < 0 → ∀ b, b < 0 → a ≠ b → (TJ9 a).2.1 ≠ (TJ9 b).2.1 := by decide +kernel
theorem tyJ9_ok : ∀ k, k < 0 → parseFieldDescriptor (TJ9 k).2.2.1 = some (tyJ9 k) := by decide +kernel
abbrev cJ9_max_7cf53 : ByteArray := prog_17_method_65_code
def yJ9_max_7cf53 : MethodName := ⟨RJ9, "max", "(II)I"⟩
abbrev cJ9_max_f86c9 : ByteArray := prog_17_method_66_code
def yJ9_max_f86c9 : MethodName := ⟨RJ9, "max", "(JJ)J"⟩
abbrev cJ9_min_7cf53 : ByteArray := prog_17_method_69_code
def yJ9_min_7cf53 : MethodName := ⟨RJ9, "min", "(II)I"⟩
abbrev cJ9_min_f86c9 : ByteArray := prog_17_method_70_code
def yJ9_min_f86c9 : MethodName := ⟨RJ9, "min", "(JJ)J"⟩
def RJ0 : String := "java/lang/String"
def TJ0 : u_T := fun k => match k with
  | _ => ("", "", "", false)
def tyJ0 : Nat → FieldType := fun k => match k with
  | _ => .int
abbrev wsJ00 : List Cond := u_ws RJ0 TJ0 0
theorem nmJ0 : ∀ a, a < 0 → ∀ b, b < 0 → a ≠ b → (TJ0 a).2.1 ≠ (TJ0 b).2.1 := by decide +kernel
theorem tyJ0_ok : ∀ k, k < 0 → parseFieldDescriptor (TJ0 k).2.2.1 = some (tyJ0 k) := by decide +kernel
def RJ10 : String := "java/lang/System"
def TJ10 : u_T := fun k => match k with
  | _ => ("", "", "", false)
def tyJ10 : Nat → FieldType := fun k => match k with
  | _ => .int
abbrev wsJ100 : List Cond := u_ws RJ10 TJ10 0
theorem nmJ10 : ∀ a, a < 0 → ∀ b, b < 0 → a ≠ b → (TJ10 a).2.1 ≠ (TJ10 b).2.1 := by decide +kernel
theorem tyJ10_ok : ∀ k, k < 0 → parseFieldDescriptor (TJ10 k).2.2.1 = some (tyJ10 k) := by decide +kernel
def RJ7 : String := "java/util/Arrays"
def TJ7 : u_T := fun k => match k with
  | _ => ("", "", "", false)
def tyJ7 : Nat → FieldType := fun k => match k with
  | _ => .int
abbrev wsJ70 : List Cond := u_ws RJ7 TJ7 0
theorem nmJ7 : ∀ a, a < 0 → ∀ b, b < 0 → a ≠ b → (TJ7 a).2.1 ≠ (TJ7 b).2.1 := by decide +kernel
theorem tyJ7_ok : ∀ k, k < 0 → parseFieldDescriptor (TJ7 k).2.2.1 = some (tyJ7 k) := by decide +kernel
abbrev cJ7_copyOf_59c91 : ByteArray := prog_22_method_123_code
def yJ7_copyOf_59c91 : MethodName := ⟨RJ7, "copyOf", "([II)[I"⟩
def RL : String := "TransseriaLaw"
abbrev cL_kind : ByteArray := method_3_code
def yL_kind : MethodName := ⟨RL, "kind", "(LTransseria;I[J)I"⟩
abbrev cL_clear : ByteArray := method_4_code
def yL_clear : MethodName := ⟨RL, "clear", "(LTransseria;I[J)I"⟩
abbrev cL_finite : ByteArray := method_5_code
def yL_finite : MethodName := ⟨RL, "finite", "(LTransseria;II)I"⟩
abbrev cL_omega : ByteArray := method_6_code
def yL_omega : MethodName := ⟨RL, "omega", "(LTransseria;II)I"⟩
abbrev cL_number : ByteArray := method_7_code
def yL_number : MethodName := ⟨RL, "number", "(LTransseria;III)I"⟩
abbrev cL_signs : ByteArray := method_8_code
def yL_signs : MethodName := ⟨RL, "signs", "(LTransseria;III)I"⟩
abbrev cL_term : ByteArray := method_9_code
def yL_term : MethodName := ⟨RL, "term", "(LTransseria;IIIIII)I"⟩
abbrev cL_sum : ByteArray := method_10_code
def yL_sum : MethodName := ⟨RL, "sum", "(LTransseria;III[J)I"⟩
abbrev cL_product : ByteArray := method_11_code
def yL_product : MethodName := ⟨RL, "product", "(LTransseria;III[J)I"⟩
abbrev cL_difference : ByteArray := method_12_code
def yL_difference : MethodName := ⟨RL, "difference", "(LTransseria;III[J)I"⟩
abbrev cL_natural : ByteArray := method_13_code
def yL_natural : MethodName := ⟨RL, "natural", "(LTransseria;IIIZ)I"⟩
abbrev cL_derive : ByteArray := method_14_code
def yL_derive : MethodName := ⟨RL, "derive", "(LTransseria;II)I"⟩
abbrev cL_compare : ByteArray := method_15_code
def yL_compare : MethodName := ⟨RL, "compare", "(LTransseria;II[J)I"⟩
abbrev cL_step : ByteArray := method_16_code
def yL_step : MethodName := ⟨RL, "step", "(LTransseria;III)I"⟩
abbrev cL_descent : ByteArray := method_17_code
def yL_descent : MethodName := ⟨RL, "descent", "(LTransseria;III[J)I"⟩
abbrev cL_powers : ByteArray := method_18_code
def yL_powers : MethodName := ⟨RL, "powers", "(LTransseria;I[J)I"⟩
abbrev cL_times : ByteArray := method_19_code
def yL_times : MethodName := ⟨RL, "times", "(LTransseria;II[J)I"⟩
abbrev cL_exponent : ByteArray := method_20_code
def yL_exponent : MethodName := ⟨RL, "exponent", "(LTransseria;III)I"⟩
abbrev cL_cut : ByteArray := method_21_code
def yL_cut : MethodName := ⟨RL, "cut", "(LTransseria;III[J)I"⟩
abbrev cL_birthday : ByteArray := method_22_code
def yL_birthday : MethodName := ⟨RL, "birthday", "(LTransseria;I[J)I"⟩
abbrev cL_signOf : ByteArray := method_23_code
def yL_signOf : MethodName := ⟨RL, "signOf", "(LTransseria;II[J)I"⟩
abbrev cL_parts : ByteArray := method_24_code
def yL_parts : MethodName := ⟨RL, "parts", "(LTransseria;I[J)I"⟩
abbrev cL_tends : ByteArray := method_25_code
def yL_tends : MethodName := ⟨RL, "tends", "(LTransseria;I[J)I"⟩
abbrev cL_terms : ByteArray := method_26_code
def yL_terms : MethodName := ⟨RL, "terms", "(LTransseria;I[J)I"⟩
abbrev cL_part : ByteArray := method_27_code
def yL_part : MethodName := ⟨RL, "part", "(LTransseria;III[J)I"⟩
abbrev cL_law : ByteArray := code
def yL_law : MethodName := ⟨RL, "law", "([I)Z"⟩
abbrev vwCl : List vw_C := [(RX0, TX0, 3), (RX1, TX1, 3), (RX2, TX2, 9), (RX4, TX4, 3), (RX5, TX5, 4), (RX6, TX6, 7), (RX7, TX7, 28)]
end
section
/-! ===== BEGIN exceptions that leave a method, and their catching by the caller (launches without stack traces) ===== -/
section VXA
/-! The laws vx_back, vx_callV, vx_callS, vx_callSW, vx_throw0, vx_throwS follow proofs of the library, with one case more: JvmDerived/Free/Laws.lean (Back.of_free), Shelf42/LK1.lean (callV, callS), Shelf/KitTraced.lean (throwNew0V, throwNewS). -/
/-- where a method has thrown q: the class by its name, the cell, what was written, the world -/
def vx_T (XC : String → State → State → Prop) (st : State) (q : Addr) (t : State) (mc ms : Nat) (free : Addr → Prop) : Prop :=
  ∃ (E : String) (ce : Cell) (L : List Loc), XC E st t ∧ t.heap[q]? = some ce ∧ ce.vm = .none ∧ st.vm.findClass E = some ce.cls ∧ st.WarmedH t.vm ∧ st.sameButNew ({ t with vm := st.vm } : State) L mc ms ∧ ∀ z ∈ L, free z.base
def vx_Q (Qc : Array Value → State → Outcome → State → Prop) (XC : String → State → State → Prop) (mc ms : Nat) (free : Addr → Prop) : Array Value → State → Outcome → State → Prop := fun a st o t =>
  (Qc a st o t ∧ ∃ L, FrameEnd st o t L mc ms ∧ ∀ q ∈ L, free q.base) ∨ ∃ q, o = .threw q ∧ vx_T XC st q t mc ms free
/-- a callee that returns or throws -/
def vx_Met (l : Launch) (y : MethodName) (ws : List Cond) (rm : Room) (Pc : Array Value → State → Prop) (Qc : Array Value → State → Outcome → State → Prop) (XC : String → State → State → Prop) (mc ms : Nat) (free : Addr → Prop) : Prop :=
  MetFree l y (headSpec ws rm) Pc (fun _ _ _ _ _ => True) (vx_Q Qc XC mc ms free)
def vx_Post (XC : String → State → State → Prop) (mc ms : Nat) (free : Addr → Prop) : Pt → Array Value → Addr → Pt → Prop := fun A a q B =>
  ∃ (g : JFrame) (mk : MethodId) (t : State) (L : List Loc) (E : String) (ce : Cell), B.U.heap = t.heap ∧ B.U.vm = t.vm ∧ XC E (A.U.calling g mk a) t ∧ t.heap[q]? = some ce ∧ ce.vm = .none ∧ A.U.vm.findClass E = some ce.cls ∧ B.locs = A.locs ++ L ∧ (∀ z ∈ L, free z.base) ∧ B.cells = A.cells + mc ∧ B.slots = A.slots + ms
def vx_Back (l : Launch) (R : Room) (p : Program) (e : Env) (below : List Frame) (s : State) (sargs : Array Value) (y : MethodName) (len W9 : Nat)
    (Pre : Pt → Array Value → Prop) (Post : Pt → Array Value → Option Value → Pt → Prop) (PostX : Pt → Array Value → Addr → Pt → Prop) : Prop :=
  ∀ (m : MethodId) (meth : Method) (c : Code) (A : Pt) (g : JFrame) (ig : Instr) (mk : MethodId) (a : Array Value),
    Stand p l e R s m sargs below meth c A.U A.locs A.cells A.slots → g.method = m → g.locals.size = c.maxLocals → decode c.code g.pc = .ok (ig, len) →
    2 * g.monitorRoom + (g.stack.map fun v => v.category).sum ≤ W9 → A.U.methodNamed? y = some mk → Pre A a →
    (∃ (v : Option Value) (B : Pt), Stand p l e R s m sargs below meth c B.U B.locs B.cells B.slots ∧ Post A a v B ∧
      Steps p.tables e below (doInvoke e (A.U.setTop g) [] mk a).1 (B.U.setTop { g with pc := g.pc + len, stack := v.toList ++ g.stack })) ∨
    (∃ (q : Addr) (B : Pt), Stand p l e R s m sargs below meth c B.U B.locs B.cells B.slots ∧ PostX A a q B ∧
      Steps p.tables e below (doInvoke e (A.U.setTop g) [] mk a).1 ((B.U.setTop g).pushFrame (.throwing q)))
section Payer
variable {l : Launch} {R : Room} {p : Program} {e : Env} {below : List Frame} {s : State} {sargs : Array Value} {y : MethodName} {len W9 : Nat}
theorem vx_back {ws : List Cond} {rm : Room} {Pc : Array Value → State → Prop} {Qc : Array Value → State → Outcome → State → Prop} {XC : String → State → State → Prop} {mc ms : Nat} {free : Addr → Prop} {bytes : ByteArray} {maxL : Nat} {ret : Option FieldType}
    (hM : vx_Met l y ws rm Pc Qc XC mc ms free) (hblind : FrameBlind Pc) (hrc : rm.cells = mc) (hrs : rm.slots = ms)
    (hframes : rm.frames + 1 ≤ R.frames) (hlocals : W9 + (maxL + 11) + rm.locals ≤ R.locals)
    (hws : ∀ w ∈ ws, ∀ a' U, s.WarmedH U.vm → w.before a' U = true) (hcode : Cond.code y bytes maxL ret ∈ ws) (hinit : ∀ a' U, s.WarmedH U.vm → (Cond.initialized y.cls).before a' U = true) :
    vx_Back l R p e below s sargs y len W9 (PreOf R mc ms Pc) (PostOf Qc mc ms free) (vx_Post XC mc ms free) := by
  intro m meth c A g ig mk a X hg hsize hdg hW hn hp
  have h1 : (headSpec ws rm).pre.before a A.U = true := atoms_intro fun w hw => hws w hw _ _ X.warmed
  have h2 : (Cond.code y bytes maxL ret).before a A.U = true := hws _ hcode _ _ X.warmed
  have h3 : (Cond.initialized y.cls).before a A.U = true := hinit _ _ X.warmed
  have h4 : A.cells + (headSpec ws rm).room.cells ≤ R.cells := by rw [show (headSpec ws rm).room.cells = mc from hrc]; exact hp.1
  have h5 : A.slots + (headSpec ws rm).room.slots ≤ R.slots := by rw [show (headSpec ws rm).room.slots = ms from hrs]; exact hp.2.1
  have hPc : Pc a (A.U.calling g mk a) := hblind _ _ _ _ hp.2.2
  obtain ⟨U, Ls, c0, s0⟩ := A
  dsimp only [Pt.U, Pt.locs, Pt.cells, Pt.slots] at h1 h2 h3 h4 h5 X hn hPc ⊢
  obtain ⟨methY, cY, hmY, hcY, -, hlY, -, -, -, -⟩ := Cond.code_spec hn h2
  obtain ⟨kY, hkY, -⟩ := className_of_methodNamed hn
  have hinitY : kY.init = .initialized := Cond.initialized_spec (findClass_of_methodNamed hn) hkY h3
  have h : At U g.method c below := by rw [hg]; exact X.here
  have hlocals9 : W9 + (maxL + 11) + (headSpec ws rm).room.locals ≤ R.locals := hlocals
  have happ : (headSpec ws rm).appliesLoose y e.platform (U.calling g mk a) = true :=
    Spec.appliesLoose_calling (g := g) h hdg hn hkY hinitY
      (X.room_calling (g := g) (R' := (headSpec ws rm).room) hsize hmY hcY hframes (by rw [hlY]; omega) h4 h5) h1
  obtain ⟨mid, hmid⟩ := h.above
  have hfr : (U.setTop g).frames = (.java g :: mid) ++ below := by rw [State.frames_setTop' g h.top, hmid]; rfl
  obtain ⟨o, s₂, hsteps, -, hend, hq⟩ := Steps.callFree hM p X.admits X.cas X.clock (acts := []) hfr happ hPc trivial
  have hq' : vx_Q Qc XC mc ms free a (U.calling g mk a) o s₂ := hq
  rw [State.frames_setTop' g h.top] at hend
  obtain ⟨g₀, hg0⟩ := Option.isSome_iff_exists.mp h.top
  obtain ⟨r, hr⟩ := State.topJava?_eq_some.mp hg0
  have hr' : (({ U with heap := s₂.heap, slotsUsed := s₂.slotsUsed } : State).setVm s₂.vm).frames = .java g₀ :: r := hr
  rcases hq' with ⟨hqc, L, hfe, hL⟩ | ⟨q, rfl, E, ce, L, hx, hce, hcv, hcl, hW₂, hsm, hL⟩
  · obtain ⟨⟨v, rfl⟩, hW₂, e2, q2, q3, q4, q5, q6⟩ := id hfe
    have e3 : s₂ = ({ (U.calling g mk a).setFrames s₂.frames with heap := s₂.heap, slotsUsed := s₂.slotsUsed } : State).setVm s₂.vm := by
      have : s₂ = ({ s₂ with vm := (U.calling g mk a).vm } : State).setVm s₂.vm := rfl
      rw [e2] at this
      exact this
    obtain ⟨c₂, i₂, len₂, hc₂, hd₂, hf₂⟩ := hend
    have hW' : U.WarmedH s₂.vm := hW₂
    have hcc : c₂ = c := by
      have h1 : s₂.code? g.method = U.code? g.method := by
        rw [State.code?_eq, State.code?_eq, hW'.alike.method?]
      exact Option.some.inj (hc₂.symm.trans (h1.trans h.code))
    subst hcc
    have hlen : len₂ = len := by rw [hdg] at hd₂; cases hd₂; rfl
    subst hlen
    have hs₂ : s₂ = (({ U with heap := s₂.heap, slotsUsed := s₂.slotsUsed } : State).setVm s₂.vm).setTop { g with pc := g.pc + len₂, stack := v.toList ++ g.stack } := by
      refine e3.trans ?_
      rw [hf₂, State.calling_eq h.top, State.setFrames_setFrames, State.setTop_of_frames _ hr', hr]
      rfl
    have hsame : U.sameButNew ({ U with heap := s₂.heap, slotsUsed := s₂.slotsUsed } : State) L mc ms := by
      refine ⟨?_, q2, q3, q4, q5, q6⟩
      obtain ⟨t, ht, -⟩ := State.frames_cons hr
      show ({ U with heap := s₂.heap, slotsUsed := s₂.slotsUsed } : State) = { U.setFrames U.frames with heap := s₂.heap, slotsUsed := s₂.slotsUsed }
      rw [State.setFrames_self ht]
    subst hg
    refine Or.inl ⟨v, ⟨(({ U with heap := s₂.heap, slotsUsed := s₂.slotsUsed } : State).setVm s₂.vm), Ls ++ L, c0 + mc, s0 + ms⟩,
      ⟨X.admits, X.cas, X.clock, X.frames, X.room, X.hears, X.method, X.code, (X.here.setHeapUsed s₂.heap s₂.slotsUsed).setVm hW'.alike, X.tail, State.WarmedH.trans X.warmed hW', X.limits, X.bytes, X.same.trans (hsame.setVm s.vm)⟩,
      ⟨g, mk, s₂, L, rfl, rfl, hqc, rfl, hL, rfl, rfl⟩, ?_⟩
    show Steps p.tables e below _ ((({ U with heap := s₂.heap, slotsUsed := s₂.slotsUsed } : State).setVm s₂.vm).setTop { g with pc := g.pc + len₂, stack := v.toList ++ g.stack })
    rw [← hs₂]
    exact hsteps
  · obtain ⟨e2, q2, q3, q4, q5, q6⟩ := id hsm
    have e3 : s₂ = ({ (U.calling g mk a).setFrames s₂.frames with heap := s₂.heap, slotsUsed := s₂.slotsUsed } : State).setVm s₂.vm := by
      have : s₂ = ({ s₂ with vm := (U.calling g mk a).vm } : State).setVm s₂.vm := rfl
      rw [e2] at this
      exact this
    have hf₂ : s₂.frames = .throwing q :: .java g :: U.frames.tail := hend
    have hW' : U.WarmedH s₂.vm := hW₂
    have hs₂ : s₂ = ((({ U with heap := s₂.heap, slotsUsed := s₂.slotsUsed } : State).setVm s₂.vm).setTop g).pushFrame (.throwing q) := by
      refine e3.trans ?_
      rw [hf₂, State.calling_eq h.top, State.setFrames_setFrames, State.pushFrame, State.frames_setTop _ hr', State.setTop_of_frames _ hr', State.setFrames_setFrames, hr]
      rfl
    have hsame : U.sameButNew ({ U with heap := s₂.heap, slotsUsed := s₂.slotsUsed } : State) L mc ms := by
      refine ⟨?_, q2, q3, q4, q5, q6⟩
      obtain ⟨t, ht, -⟩ := State.frames_cons hr
      show ({ U with heap := s₂.heap, slotsUsed := s₂.slotsUsed } : State) = { U.setFrames U.frames with heap := s₂.heap, slotsUsed := s₂.slotsUsed }
      rw [State.setFrames_self ht]
    subst hg
    refine Or.inr ⟨q, ⟨(({ U with heap := s₂.heap, slotsUsed := s₂.slotsUsed } : State).setVm s₂.vm), Ls ++ L, c0 + mc, s0 + ms⟩,
      ⟨X.admits, X.cas, X.clock, X.frames, X.room, X.hears, X.method, X.code, (X.here.setHeapUsed s₂.heap s₂.slotsUsed).setVm hW'.alike, X.tail, State.WarmedH.trans X.warmed hW', X.limits, X.bytes, X.same.trans (hsame.setVm s.vm)⟩,
      ⟨g, mk, s₂, L, E, ce, rfl, rfl, hx, hce, hcv, hcl, rfl, hL, rfl, rfl⟩, ?_⟩
    show Steps p.tables e below _ (((({ U with heap := s₂.heap, slotsUsed := s₂.slotsUsed } : State).setVm s₂.vm).setTop g).pushFrame (.throwing q))
    rw [← hs₂]
    exact hsteps
end Payer
section Calls
variable {p : Program} {l : Launch} {e : Env} {R : Room} {s : State} {m : MethodId} {args : Array Value} {below : List Frame} {meth : Method} {c : Code} {T : State} {locs : List Loc} {cells slots : Nat}
theorem vx_callV (X : Stand p l e R s m args below meth c T locs cells slots) (hexec : p.tables.exec = Jvm.exec) {own C : String} {index : Nat} {y : MethodName} {bytes : ByteArray} {maxL : Nat} {ret : Option FieldType}
    (hown : s.vm.findClass own = some m.cls) (hlink : (Cond.methodLink own index y).before args s = true) (hinst : (Cond.instanceMethod y).before args s = true) (hsel : (Cond.selects C y y).before args s = true)
    (hcode : (Cond.code y bytes maxL ret).before args s = true) (hy : y.cls ≠ "java/lang/invoke/MethodHandle" ∧ y.cls ≠ "java/lang/invoke/VarHandle")
    {W9 : Nat} {Pre : Pt → Array Value → Prop} {Post : Pt → Array Value → Option Value → Pt → Prop} {PostX : Pt → Array Value → Addr → Pt → Prop} (hK : vx_Back l R p e below s args y 3 W9 Pre Post PostX)
    {b : Addr} {cellB : Cell} (hcell : T.heap[b]? = some cellB) (hobj : cellB.vm.isStatics = false) (hcls : s.vm.findClass C = some cellB.cls)
    {g : JFrame} (hg : g.method = m) (hsize : g.locals.size = c.maxLocals) {argsL rest : List Value} (hlen : ∀ sig, parseMethodDescriptor y.desc = some sig → argsL.length = sig.parameters.length)
    (hstack : g.stack = argsL.reverse ++ .ref b :: rest) (hW : 2 * g.monitorRoom + (rest.map fun v => v.category).sum ≤ W9) (hdg : decode c.code g.pc = .ok (.invokevirtual index, 3))
    (hpre : ∀ vm₁, s.WarmedH vm₁ → Pre ⟨T.setVm vm₁, locs, cells, slots⟩ (Value.ref b :: argsL).toArray) :
    (∃ (v : Option Value) (vm₁ : Vm) (B : Pt), s.WarmedH vm₁ ∧ Stand p l e R s m args below meth c B.U B.locs B.cells B.slots ∧ Post ⟨T.setVm vm₁, locs, cells, slots⟩ (Value.ref b :: argsL).toArray v B ∧
      ∀ target, Steps p.tables e below (B.U.setTop { g with pc := g.pc + 3, stack := v.toList ++ rest }) target → Steps p.tables e below (T.setTop g) target) ∨
    (∃ (q : Addr) (vm₁ : Vm) (B : Pt), s.WarmedH vm₁ ∧ Stand p l e R s m args below meth c B.U B.locs B.cells B.slots ∧ PostX ⟨T.setVm vm₁, locs, cells, slots⟩ (Value.ref b :: argsL).toArray q B ∧
      Steps p.tables e below (T.setTop g) ((B.U.setTop { g with stack := rest }).pushFrame (.throwing q))) := by
  obtain ⟨mk, methM, hnamed, hmethM, hstM, habM⟩ := Cond.instanceMethod_spec hinst
  obtain ⟨methM', cM, hmethM', -, -, -, -, -, -, hsigM⟩ := Cond.code_spec hnamed hcode
  cases hmethM.symm.trans hmethM'
  obtain ⟨c2, r2, m2, q1, q2, q3, q4, kP, hkP, hkPi⟩ := Cond.selects_spec hsel
  cases hcls.symm.trans q1
  cases (State.methodFound?_of_named hnamed hy).symm.trans q2
  cases hnamed.symm.trans q3
  have hselP : selectMethod e.platform s.vm cellB.cls mk = .method mk := by rw [Launch.admits_selectMethod X.admits]; exact q4
  obtain ⟨vm₁, X₁, hstep₁⟩ := X.invokevirtual hexec hown hlink hnamed hmethM hstM hkP hkPi hy (a := b) (cell := cellB) hcell
    (fun z h => by rw [h] at hobj; cases hobj) hselP hmethM habM hkP hkPi (g := g) hg (argsL := argsL) (rest := rest) (hlen _ hsigM) hstack hdg
  rcases hK m meth c ⟨T.setVm vm₁, locs, cells, slots⟩ { g with stack := rest } (.invokevirtual index) mk (Value.ref b :: argsL).toArray X₁ hg hsize hdg hW (X₁.named hnamed) (hpre vm₁ X₁.warmed) with ⟨v, B, X', hpost, hsteps⟩ | ⟨q, B, X', hpost, hsteps⟩
  · exact Or.inl ⟨v, vm₁, B, X₁.warmed, X', hpost, fun target h => hstep₁ _ fun acts => by rw [doInvoke_state]; exact hsteps.trans h⟩
  · exact Or.inr ⟨q, vm₁, B, X₁.warmed, X', hpost, hstep₁ _ fun acts => by rw [doInvoke_state]; exact hsteps⟩
theorem vx_callS (X : Stand p l e R s m args below meth c T locs cells slots) (hexec : p.tables.exec = Jvm.exec) {own : String} {index : Nat} {y : MethodName} {bytes : ByteArray} {maxL : Nat} {ret : Option FieldType}
    (hown : s.vm.findClass own = some m.cls) (hlink : (Cond.methodLink own index y).before args s = true) (hstat : (Cond.static y).before args s = true) (hinit : (Cond.initialized y.cls).before args s = true)
    (hcode : (Cond.code y bytes maxL ret).before args s = true) (hy : y.cls ≠ "java/lang/invoke/MethodHandle" ∧ y.cls ≠ "java/lang/invoke/VarHandle")
    {W9 : Nat} {Pre : Pt → Array Value → Prop} {Post : Pt → Array Value → Option Value → Pt → Prop} {PostX : Pt → Array Value → Addr → Pt → Prop} (hK : vx_Back l R p e below s args y 3 W9 Pre Post PostX)
    {g : JFrame} (hg : g.method = m) (hsize : g.locals.size = c.maxLocals) {argsL rest : List Value} (hlen : ∀ sig, parseMethodDescriptor y.desc = some sig → argsL.length = sig.parameters.length)
    (hstack : g.stack = argsL.reverse ++ rest) (hW : 2 * g.monitorRoom + (rest.map fun v => v.category).sum ≤ W9) (hdg : decode c.code g.pc = .ok (.invokestatic index, 3))
    (hpre : ∀ vm₁, s.WarmedH vm₁ → Pre ⟨T.setVm vm₁, locs, cells, slots⟩ argsL.toArray) :
    (∃ (v : Option Value) (vm₁ : Vm) (B : Pt), s.WarmedH vm₁ ∧ Stand p l e R s m args below meth c B.U B.locs B.cells B.slots ∧ Post ⟨T.setVm vm₁, locs, cells, slots⟩ argsL.toArray v B ∧
      ∀ target, Steps p.tables e below (B.U.setTop { g with pc := g.pc + 3, stack := v.toList ++ rest }) target → Steps p.tables e below (T.setTop g) target) ∨
    (∃ (q : Addr) (vm₁ : Vm) (B : Pt), s.WarmedH vm₁ ∧ Stand p l e R s m args below meth c B.U B.locs B.cells B.slots ∧ PostX ⟨T.setVm vm₁, locs, cells, slots⟩ argsL.toArray q B ∧
      Steps p.tables e below (T.setTop g) ((B.U.setTop { g with stack := rest }).pushFrame (.throwing q))) := by
  obtain ⟨mk, hnamed⟩ := Cond.code_named hcode
  obtain ⟨methM, cM, hmethM, -, -, -, -, -, -, hsigM⟩ := Cond.code_spec hnamed hcode
  have hstatic : methM.isStatic = true := Cond.static_spec hnamed hmethM hstat
  obtain ⟨kP, hkP, -⟩ := className_of_methodNamed hnamed
  have hinitP : kP.init = .initialized := Cond.initialized_spec (findClass_of_methodNamed hnamed) hkP hinit
  obtain ⟨vm₁, X₁, hstep₁⟩ := X.invokestatic hexec hown hlink hnamed hmethM hstatic hkP hinitP hy (g := g) hg (argsL := argsL) (rest := rest) (hlen _ hsigM) hstack hdg
  rcases hK m meth c ⟨T.setVm vm₁, locs, cells, slots⟩ { g with stack := rest } (.invokestatic index) mk argsL.toArray X₁ hg hsize hdg hW (X₁.named hnamed) (hpre vm₁ X₁.warmed) with ⟨v, B, X', hpost, hsteps⟩ | ⟨q, B, X', hpost, hsteps⟩
  · exact Or.inl ⟨v, vm₁, B, X₁.warmed, X', hpost, fun target h => hstep₁ _ fun acts => by rw [doInvoke_state]; exact hsteps.trans h⟩
  · exact Or.inr ⟨q, vm₁, B, X₁.warmed, X', hpost, hstep₁ _ fun acts => by rw [doInvoke_state]; exact hsteps⟩
end Calls
theorem vx_cls {s : State} {T : State} {vm₁ : Vm} {E : String} {k : ClassId} (hW : s.WarmedH vm₁) (h : (T.setVm vm₁).vm.findClass E = some k) : s.vm.findClass E = some k := by
  have h1 : vm₁.findClass E = some k := h
  rw [hW.alike.findClass] at h1
  exact h1
/-- the method's frame g, with q thrown over it -/
def vx_W (p : Program) (l : Launch) (e : Env) (R : Room) (s : State) (m : MethodId) (args : Array Value) (below : List Frame) (meth : Method) (c : Code) (H : Heap) (locs : List Loc) (cells slots : Nat) (Q : State → Prop) (g : JFrame) (q : Addr) : Prop :=
  ∀ T : State, T.heap = H → Stand p l e R s m args below meth c T locs cells slots → ∃ t, Steps p.tables e below ((T.setTop g).pushFrame (.throwing q)) t ∧ Q t
def vx_Run (p : Program) (l : Launch) (e : Env) (R : Room) (s : State) (m : MethodId) (args : Array Value) (below : List Frame) (meth : Method) (c : Code) (H : Heap) (locs : List Loc) (cells slots mc ms : Nat) (g : JFrame) (rest : List Value) (Qa : State → Outcome → State → Prop) (XC : String → State → State → Prop) (free : Addr → Prop) : Prop :=
  ∀ T : State, T.heap = H → Stand p l e R s m args below meth c T locs cells slots →
    (∃ (v : Option Value) (st₀ t T' : State) (L : List Loc), st₀.heap = H ∧ Stand p l e R s m args below meth c T' (locs ++ L) (cells + mc) (slots + ms) ∧ (∀ q ∈ L, free q.base) ∧ T'.heap = t.heap ∧ T'.vm = t.vm ∧ Qa st₀ (.returned v) t ∧
      Goes p e below T g T' { g with pc := g.pc + 3, stack := v.toList ++ rest }) ∨
    (∃ (q : Addr) (st₀ t T' : State) (L : List Loc) (E : String) (ce : Cell), st₀.heap = H ∧ Stand p l e R s m args below meth c T' (locs ++ L) (cells + mc) (slots + ms) ∧ (∀ z ∈ L, free z.base) ∧ T'.heap = t.heap ∧ T'.vm = t.vm ∧ XC E st₀ t ∧ t.heap[q]? = some ce ∧ ce.vm = .none ∧ s.vm.findClass E = some ce.cls ∧
      Steps p.tables e below (T.setTop g) ((T'.setTop { g with stack := rest }).pushFrame (.throwing q)))
def vx_X {S : Type} (px : S → Prop) (B : String → S → State → Prop) (A : Nat → Prop) : String → State → State → Prop := fun E st t => ∃ u : S, px u ∧ B E u t ∧ va_F A st t
section Runs
variable {p : Program} {l : Launch} {e : Env} {R : Room} {s : State} {m : MethodId} {args : Array Value} {below : List Frame} {meth : Method} {c : Code} {H : Heap} {locs : List Loc} {cells slots : Nat}
variable {y : MethodName} {bytes cc : ByteArray} {maxL nL mc ms n index : Nat} {ret : Option FieldType} {ws : List Cond} {rm : Room} {Pc : Array Value → State → Prop} {Qc : Array Value → State → Outcome → State → Prop} {XC : String → State → State → Prop} {free : Addr → Prop} {Ts : List Cond} {own C : String} {b : Addr} {As rest : List Value} {g : JFrame}
theorem vx_callBack (cb : CallB R s args own index y bytes maxL ret ws rm mc ms n) (hM : vx_Met l y ws rm Pc Qc XC mc ms free) (hbl : FrameBlind Pc) : vx_Back l R p e below s args y 3 8 (PreOf R mc ms Pc) (PostOf Qc mc ms free) (vx_Post XC mc ms free) := by
  obtain ⟨hrc, hrs, hfr, hlo, hws, hcw, -, hini, -⟩ := cb
  exact vx_back (bytes := bytes) (maxL := maxL) (ret := ret) hM hbl hrc hrs hfr hlo hws hcw (fun a' U hW => word_at hW (Or.inl (by first | rfl | simp [Cond.onTables, Cond.keeps, Cond.steady])) hini)
theorem vx_runV (S : CallFix p m c cc nL s args Ts own) (hM : vx_Met l y ws rm Pc Qc XC mc ms free) (cw : CallW R s args own C index y bytes maxL ret ws rm mc ms n) (hp : PreV s H C b Pc As)
    (hg : g.method = m) (hn : As.length = n) (hsize : g.locals.size = nL) (hstack : g.stack = As.reverse ++ .ref b :: rest) (hW : 2 * g.monitorRoom + (rest.map fun v => v.category).sum ≤ 8) (hdg : decode cc g.pc = .ok (.invokevirtual index, 3)) (hf : cells + mc ≤ R.cells ∧ slots + ms ≤ R.slots) :
    vx_Run p l e R s m args below meth c H locs cells slots mc ms g rest (Qc (Value.ref b :: As).toArray) XC free := by
  have hK : vx_Back l R p e below s args y 3 8 (PreOf R mc ms Pc) (PostOf Qc mc ms free) (vx_Post XC mc ms free) := vx_callBack cw.1 hM hp.1
  obtain ⟨⟨-, -, -, -, -, -, hcode, -, hy, hlen, hl⟩, hin, hse⟩ := cw
  obtain ⟨hx, hb, hml, ho, -⟩ := S
  obtain ⟨-, ⟨cellB, hcB, hoB, hclB⟩, hPc⟩ := hp
  intro T hT X
  rcases vx_callV X hx (C := C) (bytes := bytes) (maxL := maxL) (ret := ret) ho hl hin hse hcode hy hK (by rw [hT]; exact hcB) hoB hclB hg (hsize.trans hml.symm) (argsL := As) (rest := rest) (fun sig h => hn.trans (hlen sig h)) hstack hW (by rw [hb]; exact hdg)
    (fun vm₁ hW₁ => ⟨hf.1, hf.2, hPc (T.setVm vm₁) hT hW₁⟩) with ⟨v, vm₁, ⟨U', l2, c2, s2⟩, hW₁, X', ⟨g', mk, t, L, e1, e2, hq, h1, hL, h2, h3⟩, st⟩ | ⟨q, vm₁, ⟨U', l2, c2, s2⟩, hW₁, X', ⟨g', mk, t, L, E, ce, e1, e2, hq, hce, hcv, hcl, h1, hL, h2, h3⟩, st⟩
  · dsimp only [Pt.U, Pt.locs, Pt.cells, Pt.slots] at X' e1 e2 h1 h2 h3 st
    subst h1; subst h2; subst h3
    exact Or.inl ⟨v, (T.setVm vm₁).calling g' mk (Value.ref b :: As).toArray, t, U', L, hT, X', hL, e1, e2, hq, st⟩
  · dsimp only [Pt.U, Pt.locs, Pt.cells, Pt.slots] at X' e1 e2 h1 h2 h3 st hcl
    subst h1; subst h2; subst h3
    exact Or.inr ⟨q, (T.setVm vm₁).calling g' mk (Value.ref b :: As).toArray, t, U', L, E, ce, hT, X', hL, e1, e2, hq, hce, hcv, vx_cls hW₁ hcl, st⟩
theorem vx_runS (S : CallFix p m c cc nL s args Ts own) (hM : vx_Met l y ws rm Pc Qc XC mc ms free) (cw : CallB R s args own index y bytes maxL ret ws rm mc ms n ∧ (Cond.static y).before args s = true) (hp : PreS s H Pc As)
    (hg : g.method = m) (hn : As.length = n) (hsize : g.locals.size = nL) (hstack : g.stack = As.reverse ++ rest) (hW : 2 * g.monitorRoom + (rest.map fun v => v.category).sum ≤ 8) (hdg : decode cc g.pc = .ok (.invokestatic index, 3)) (hf : cells + mc ≤ R.cells ∧ slots + ms ≤ R.slots) :
    vx_Run p l e R s m args below meth c H locs cells slots mc ms g rest (Qc As.toArray) XC free := by
  have hK : vx_Back l R p e below s args y 3 8 (PreOf R mc ms Pc) (PostOf Qc mc ms free) (vx_Post XC mc ms free) := vx_callBack cw.1 hM hp.1
  obtain ⟨⟨-, -, -, -, -, -, hcode, hini, hy, hlen, hl⟩, hstt⟩ := cw
  obtain ⟨hx, hb, hml, ho, -⟩ := S
  intro T hT X
  rcases vx_callS X hx (bytes := bytes) (maxL := maxL) (ret := ret) ho hl hstt hini hcode hy hK hg (hsize.trans hml.symm) (argsL := As) (rest := rest) (fun sig h => hn.trans (hlen sig h)) hstack hW (by rw [hb]; exact hdg)
    (fun vm₁ hW₁ => ⟨hf.1, hf.2, hp.2 (T.setVm vm₁) hT hW₁⟩) with ⟨v, vm₁, ⟨U', l2, c2, s2⟩, hW₁, X', ⟨g', mk, t, L, e1, e2, hq, h1, hL, h2, h3⟩, st⟩ | ⟨q, vm₁, ⟨U', l2, c2, s2⟩, hW₁, X', ⟨g', mk, t, L, E, ce, e1, e2, hq, hce, hcv, hcl, h1, hL, h2, h3⟩, st⟩
  · dsimp only [Pt.U, Pt.locs, Pt.cells, Pt.slots] at X' e1 e2 h1 h2 h3 st
    subst h1; subst h2; subst h3
    exact Or.inl ⟨v, (T.setVm vm₁).calling g' mk As.toArray, t, U', L, hT, X', hL, e1, e2, hq, st⟩
  · dsimp only [Pt.U, Pt.locs, Pt.cells, Pt.slots] at X' e1 e2 h1 h2 h3 st hcl
    subst h1; subst h2; subst h3
    exact Or.inr ⟨q, (T.setVm vm₁).calling g' mk As.toArray, t, U', L, E, ce, hT, X', hL, e1, e2, hq, hce, hcv, vx_cls hW₁ hcl, st⟩
end Runs
section Rows
variable {p : Program} {l : Launch} {e : Env} {R : Room} {s : State} {m : MethodId} {args : Array Value} {below : List Frame} {meth : Method} {c : Code} {H : Heap} {locs : List Loc} {cells slots : Nat} {Q : State → Prop}
variable {mc ms : Nat} {free : Addr → Prop} {A0 A1 : Nat → Prop} {H0 : Heap} {a : Array Value} {pc : Nat} {ls : Array Slot} {st0 rest : List Value}
theorem vx_keep {st₀ t T' : State} {L : List Loc} (h0 : st₀.heap = H) (e1 : T'.heap = t.heap) (hS : va_S A0 H0 H locs) (hA : ∀ q, q < H.size → A1 q → A0 q) (hf : ∀ q, free q → A0 q) (hL : ∀ q ∈ L, free q.base) (hF : va_F A1 st₀ t) :
    H.size ≤ T'.heap.size ∧ (∀ q : Nat, q < H.size → ¬ A1 q → T'.heap[q]? = H[q]?) ∧ va_S A0 H0 T'.heap (locs ++ L) := by
  obtain ⟨hz, hk⟩ := hF
  rw [h0] at hz hk
  exact ⟨by rw [e1]; exact hz, fun q h1 h2 => by rw [e1]; exact hk q h1 h2,
    ⟨Nat.le_trans hS.1 (by rw [e1]; exact hz), fun q h1 h2 => by rw [e1, hk q (Nat.lt_of_lt_of_le h1 hS.1) (fun z => h2 (hA q (Nat.lt_of_lt_of_le h1 hS.1) z))]; exact hS.2.1 q h1 h2, fun q hq => by
      rcases List.mem_append.mp hq with h | h
      · exact hS.2.2 q h
      · exact hf _ (hL q h)⟩⟩
theorem vx_calli {S SX : Type} {post : Int32 → S → Prop} {px : SX → Prop} {B : S → State → Prop} {BX : String → SX → State → Prop} {AX : Nat → Prop} (hr : vx_Run p l e R s m args below meth c H locs cells slots mc ms (F0 m pc ls st0) rest (va_Qi post B A1 a) (vx_X px BX AX) free) (hS : va_S A0 H0 H locs) (hA : ∀ q, q < H.size → A1 q → A0 q) (hf : ∀ q, free q → A0 q) (hAX : ∀ q, q < H.size → AX q → A0 q)
    (kx : ∀ (E : String) (ce : Cell) (q9 : Addr) (u : SX) (t : State) (H1 : Heap) (locs1 : List Loc), t.heap = H1 → s.vm.Alike t.vm → px u → BX E u t → H.size ≤ H1.size → (∀ q : Nat, q < H.size → ¬ AX q → H1[q]? = H[q]?) → va_S A0 H0 H1 locs1 → H1[q9]? = some ce → ce.vm = .none → s.vm.findClass E = some ce.cls → vx_W p l e R s m args below meth c H1 locs1 (cells + mc) (slots + ms) Q (F0 m pc ls rest) q9)
    (kk : ∀ (r : Int32) (u : S) (t : State) (H1 : Heap) (locs1 : List Loc), t.heap = H1 → s.vm.Alike t.vm → post r u → B u t → H.size ≤ H1.size → (∀ q : Nat, q < H.size → ¬ A1 q → H1[q]? = H[q]?) → va_S A0 H0 H1 locs1 → W p l e R s m args below meth c H1 locs1 (cells + mc) (slots + ms) Q (F0 m (pc + 3) ls (.int r :: rest))) : W p l e R s m args below meth c H locs cells slots Q (F0 m pc ls st0) := by
  intro T hT X
  rcases hr T hT X with ⟨v, st₀, t, T', L, h0, X', hL, e1, e2, ⟨⟨r, u, hv, hp, hb⟩, hF⟩, st⟩ | ⟨q, st₀, t, T', L, E, ce, h0, X', hL, e1, e2, ⟨u, hp, hb, hF⟩, hce, hcv, hcl, st⟩
  · cases hv
    obtain ⟨k1, k2, k3⟩ := vx_keep h0 e1 hS hA hf hL hF
    obtain ⟨t2, a1, b1⟩ := kk r u t T'.heap (locs ++ L) e1.symm (by rw [← e2]; exact X'.warmed.alike) hp hb k1 k2 k3 T' rfl X'
    exact ⟨t2, st t2 a1, b1⟩
  · obtain ⟨k1, k2, k3⟩ := vx_keep h0 e1 hS hAX hf hL hF
    obtain ⟨t2, a1, b1⟩ := kx E ce q u t T'.heap (locs ++ L) e1.symm (by rw [← e2]; exact X'.warmed.alike) hp hb k1 k2 k3 (by rw [e1]; exact hce) hcv hcl T' rfl X'
    exact ⟨t2, st.trans a1, b1⟩
theorem vx_calll {S SX : Type} {post : Int64 → S → Prop} {px : SX → Prop} {B : S → State → Prop} {BX : String → SX → State → Prop} {AX : Nat → Prop} (hr : vx_Run p l e R s m args below meth c H locs cells slots mc ms (F0 m pc ls st0) rest (va_Ql post B A1 a) (vx_X px BX AX) free) (hS : va_S A0 H0 H locs) (hA : ∀ q, q < H.size → A1 q → A0 q) (hf : ∀ q, free q → A0 q) (hAX : ∀ q, q < H.size → AX q → A0 q)
    (kx : ∀ (E : String) (ce : Cell) (q9 : Addr) (u : SX) (t : State) (H1 : Heap) (locs1 : List Loc), t.heap = H1 → s.vm.Alike t.vm → px u → BX E u t → H.size ≤ H1.size → (∀ q : Nat, q < H.size → ¬ AX q → H1[q]? = H[q]?) → va_S A0 H0 H1 locs1 → H1[q9]? = some ce → ce.vm = .none → s.vm.findClass E = some ce.cls → vx_W p l e R s m args below meth c H1 locs1 (cells + mc) (slots + ms) Q (F0 m pc ls rest) q9)
    (kk : ∀ (r : Int64) (u : S) (t : State) (H1 : Heap) (locs1 : List Loc), t.heap = H1 → s.vm.Alike t.vm → post r u → B u t → H.size ≤ H1.size → (∀ q : Nat, q < H.size → ¬ A1 q → H1[q]? = H[q]?) → va_S A0 H0 H1 locs1 → W p l e R s m args below meth c H1 locs1 (cells + mc) (slots + ms) Q (F0 m (pc + 3) ls (.long r :: rest))) : W p l e R s m args below meth c H locs cells slots Q (F0 m pc ls st0) := by
  intro T hT X
  rcases hr T hT X with ⟨v, st₀, t, T', L, h0, X', hL, e1, e2, ⟨⟨r, u, hv, hp, hb⟩, hF⟩, st⟩ | ⟨q, st₀, t, T', L, E, ce, h0, X', hL, e1, e2, ⟨u, hp, hb, hF⟩, hce, hcv, hcl, st⟩
  · cases hv
    obtain ⟨k1, k2, k3⟩ := vx_keep h0 e1 hS hA hf hL hF
    obtain ⟨t2, a1, b1⟩ := kk r u t T'.heap (locs ++ L) e1.symm (by rw [← e2]; exact X'.warmed.alike) hp hb k1 k2 k3 T' rfl X'
    exact ⟨t2, st t2 a1, b1⟩
  · obtain ⟨k1, k2, k3⟩ := vx_keep h0 e1 hS hAX hf hL hF
    obtain ⟨t2, a1, b1⟩ := kx E ce q u t T'.heap (locs ++ L) e1.symm (by rw [← e2]; exact X'.warmed.alike) hp hb k1 k2 k3 (by rw [e1]; exact hce) hcv hcl T' rfl X'
    exact ⟨t2, st.trans a1, b1⟩
theorem vx_callf {S SX : Type} {post : UInt32 → S → Prop} {px : SX → Prop} {B : S → State → Prop} {BX : String → SX → State → Prop} {AX : Nat → Prop} (hr : vx_Run p l e R s m args below meth c H locs cells slots mc ms (F0 m pc ls st0) rest (va_Qf post B A1 a) (vx_X px BX AX) free) (hS : va_S A0 H0 H locs) (hA : ∀ q, q < H.size → A1 q → A0 q) (hf : ∀ q, free q → A0 q) (hAX : ∀ q, q < H.size → AX q → A0 q)
    (kx : ∀ (E : String) (ce : Cell) (q9 : Addr) (u : SX) (t : State) (H1 : Heap) (locs1 : List Loc), t.heap = H1 → s.vm.Alike t.vm → px u → BX E u t → H.size ≤ H1.size → (∀ q : Nat, q < H.size → ¬ AX q → H1[q]? = H[q]?) → va_S A0 H0 H1 locs1 → H1[q9]? = some ce → ce.vm = .none → s.vm.findClass E = some ce.cls → vx_W p l e R s m args below meth c H1 locs1 (cells + mc) (slots + ms) Q (F0 m pc ls rest) q9)
    (kk : ∀ (r : UInt32) (u : S) (t : State) (H1 : Heap) (locs1 : List Loc), t.heap = H1 → s.vm.Alike t.vm → post r u → B u t → H.size ≤ H1.size → (∀ q : Nat, q < H.size → ¬ A1 q → H1[q]? = H[q]?) → va_S A0 H0 H1 locs1 → W p l e R s m args below meth c H1 locs1 (cells + mc) (slots + ms) Q (F0 m (pc + 3) ls (.float r :: rest))) : W p l e R s m args below meth c H locs cells slots Q (F0 m pc ls st0) := by
  intro T hT X
  rcases hr T hT X with ⟨v, st₀, t, T', L, h0, X', hL, e1, e2, ⟨⟨r, u, hv, hp, hb⟩, hF⟩, st⟩ | ⟨q, st₀, t, T', L, E, ce, h0, X', hL, e1, e2, ⟨u, hp, hb, hF⟩, hce, hcv, hcl, st⟩
  · cases hv
    obtain ⟨k1, k2, k3⟩ := vx_keep h0 e1 hS hA hf hL hF
    obtain ⟨t2, a1, b1⟩ := kk r u t T'.heap (locs ++ L) e1.symm (by rw [← e2]; exact X'.warmed.alike) hp hb k1 k2 k3 T' rfl X'
    exact ⟨t2, st t2 a1, b1⟩
  · obtain ⟨k1, k2, k3⟩ := vx_keep h0 e1 hS hAX hf hL hF
    obtain ⟨t2, a1, b1⟩ := kx E ce q u t T'.heap (locs ++ L) e1.symm (by rw [← e2]; exact X'.warmed.alike) hp hb k1 k2 k3 (by rw [e1]; exact hce) hcv hcl T' rfl X'
    exact ⟨t2, st.trans a1, b1⟩
theorem vx_calld {S SX : Type} {post : UInt64 → S → Prop} {px : SX → Prop} {B : S → State → Prop} {BX : String → SX → State → Prop} {AX : Nat → Prop} (hr : vx_Run p l e R s m args below meth c H locs cells slots mc ms (F0 m pc ls st0) rest (va_Qd post B A1 a) (vx_X px BX AX) free) (hS : va_S A0 H0 H locs) (hA : ∀ q, q < H.size → A1 q → A0 q) (hf : ∀ q, free q → A0 q) (hAX : ∀ q, q < H.size → AX q → A0 q)
    (kx : ∀ (E : String) (ce : Cell) (q9 : Addr) (u : SX) (t : State) (H1 : Heap) (locs1 : List Loc), t.heap = H1 → s.vm.Alike t.vm → px u → BX E u t → H.size ≤ H1.size → (∀ q : Nat, q < H.size → ¬ AX q → H1[q]? = H[q]?) → va_S A0 H0 H1 locs1 → H1[q9]? = some ce → ce.vm = .none → s.vm.findClass E = some ce.cls → vx_W p l e R s m args below meth c H1 locs1 (cells + mc) (slots + ms) Q (F0 m pc ls rest) q9)
    (kk : ∀ (r : UInt64) (u : S) (t : State) (H1 : Heap) (locs1 : List Loc), t.heap = H1 → s.vm.Alike t.vm → post r u → B u t → H.size ≤ H1.size → (∀ q : Nat, q < H.size → ¬ A1 q → H1[q]? = H[q]?) → va_S A0 H0 H1 locs1 → W p l e R s m args below meth c H1 locs1 (cells + mc) (slots + ms) Q (F0 m (pc + 3) ls (.double r :: rest))) : W p l e R s m args below meth c H locs cells slots Q (F0 m pc ls st0) := by
  intro T hT X
  rcases hr T hT X with ⟨v, st₀, t, T', L, h0, X', hL, e1, e2, ⟨⟨r, u, hv, hp, hb⟩, hF⟩, st⟩ | ⟨q, st₀, t, T', L, E, ce, h0, X', hL, e1, e2, ⟨u, hp, hb, hF⟩, hce, hcv, hcl, st⟩
  · cases hv
    obtain ⟨k1, k2, k3⟩ := vx_keep h0 e1 hS hA hf hL hF
    obtain ⟨t2, a1, b1⟩ := kk r u t T'.heap (locs ++ L) e1.symm (by rw [← e2]; exact X'.warmed.alike) hp hb k1 k2 k3 T' rfl X'
    exact ⟨t2, st t2 a1, b1⟩
  · obtain ⟨k1, k2, k3⟩ := vx_keep h0 e1 hS hAX hf hL hF
    obtain ⟨t2, a1, b1⟩ := kx E ce q u t T'.heap (locs ++ L) e1.symm (by rw [← e2]; exact X'.warmed.alike) hp hb k1 k2 k3 (by rw [e1]; exact hce) hcv hcl T' rfl X'
    exact ⟨t2, st.trans a1, b1⟩
theorem vx_callv {S SX : Type} {post : S → Prop} {px : SX → Prop} {B : S → State → Prop} {BX : String → SX → State → Prop} {AX : Nat → Prop} (hr : vx_Run p l e R s m args below meth c H locs cells slots mc ms (F0 m pc ls st0) rest (va_Qv post B A1 a) (vx_X px BX AX) free) (hS : va_S A0 H0 H locs) (hA : ∀ q, q < H.size → A1 q → A0 q) (hf : ∀ q, free q → A0 q) (hAX : ∀ q, q < H.size → AX q → A0 q)
    (kx : ∀ (E : String) (ce : Cell) (q9 : Addr) (u : SX) (t : State) (H1 : Heap) (locs1 : List Loc), t.heap = H1 → s.vm.Alike t.vm → px u → BX E u t → H.size ≤ H1.size → (∀ q : Nat, q < H.size → ¬ AX q → H1[q]? = H[q]?) → va_S A0 H0 H1 locs1 → H1[q9]? = some ce → ce.vm = .none → s.vm.findClass E = some ce.cls → vx_W p l e R s m args below meth c H1 locs1 (cells + mc) (slots + ms) Q (F0 m pc ls rest) q9)
    (kk : ∀ (u : S) (t : State) (H1 : Heap) (locs1 : List Loc), t.heap = H1 → s.vm.Alike t.vm → post u → B u t → H.size ≤ H1.size → (∀ q : Nat, q < H.size → ¬ A1 q → H1[q]? = H[q]?) → va_S A0 H0 H1 locs1 → W p l e R s m args below meth c H1 locs1 (cells + mc) (slots + ms) Q (F0 m (pc + 3) ls (rest))) : W p l e R s m args below meth c H locs cells slots Q (F0 m pc ls st0) := by
  intro T hT X
  rcases hr T hT X with ⟨v, st₀, t, T', L, h0, X', hL, e1, e2, ⟨⟨u, hv, hp, hb⟩, hF⟩, st⟩ | ⟨q, st₀, t, T', L, E, ce, h0, X', hL, e1, e2, ⟨u, hp, hb, hF⟩, hce, hcv, hcl, st⟩
  · cases hv
    obtain ⟨k1, k2, k3⟩ := vx_keep h0 e1 hS hA hf hL hF
    obtain ⟨t2, a1, b1⟩ := kk u t T'.heap (locs ++ L) e1.symm (by rw [← e2]; exact X'.warmed.alike) hp hb k1 k2 k3 T' rfl X'
    exact ⟨t2, st t2 a1, b1⟩
  · obtain ⟨k1, k2, k3⟩ := vx_keep h0 e1 hS hAX hf hL hF
    obtain ⟨t2, a1, b1⟩ := kx E ce q u t T'.heap (locs ++ L) e1.symm (by rw [← e2]; exact X'.warmed.alike) hp hb k1 k2 k3 (by rw [e1]; exact hce) hcv hcl T' rfl X'
    exact ⟨t2, st.trans a1, b1⟩
/-- caught by the row x of this method's table; the rows ahead don't take it -/
theorem vx_catch {own name : String} {E : String} {ce : Cell} {q : Addr} (hown : s.vm.findClass own = some m.cls) (pre : List ExceptionTableEntry) (x : ExceptionTableEntry) (suf : List ExceptionTableEntry) (hsplit : c.exceptionTable.toList = pre ++ x :: suf)
    (hpass : ∀ z ∈ pre, covers z pc = false ∨ (z.catchType ≠ 0 ∧ ∃ nm : String, (Cond.classLink own z.catchType nm).before args s = true ∧ va_Nc E nm s)) (hx : covers x pc = true) (h0 : x.catchType ≠ 0)
    (hlink : (Cond.classLink own x.catchType name).before args s = true) (hcast : (Cond.castable E name).before args s = true) (hcell : H[q]? = some ce) (hv : ce.vm = .none) (hcl : s.vm.findClass E = some ce.cls)
    (kk : W p l e R s m args below meth c H locs cells slots Q (F0 m x.handlerPc ls [.ref q])) : vx_W p l e R s m args below meth c H locs cells slots Q (F0 m pc ls rest) q := by
  intro T hT X
  have hpl : e.platform.magicAccessors = ({} : Platform).magicAccessors := by rw [X.admits.platform]
  obtain ⟨c3, c4, hc3, hc4, hasg⟩ := Cond.castable_spec hcast
  cases Option.some.inj (hc3.symm.trans hcl)
  obtain ⟨c5, hc5, hcl5⟩ := Cond.classLink_spec hown hlink e.platform hpl
  cases Option.some.inj (hc4.symm.trans hc5)
  obtain ⟨vm', X', st⟩ := X.thenCaughtThrough q (g := F0 m pc ls rest) rfl (Steps.refl _) (by rw [hT]; exact hcell) (by rw [hv]; rfl) (by obtain ⟨k9, h9, -⟩ := Vm.findClass_spec hcl; exact ⟨k9, h9⟩) pre x suf hsplit
    (fun z hz => by
      rcases hpass z hz with h | ⟨hz0, nm, hl1, hn1⟩
      · exact Or.inl h
      · obtain ⟨c6, hc6, hcl6⟩ := Cond.classLink_spec hown hl1 e.platform hpl
        obtain ⟨a8, b8, h1, h2, h3⟩ := hn1
        cases Option.some.inj (h1.symm.trans hcl)
        cases Option.some.inj (h2.symm.trans hc6)
        exact Or.inr ⟨hz0, _, hcl6, h3⟩) hx (Or.inr ⟨h0, c4, hcl5, hasg⟩)
  obtain ⟨t, a1, b1⟩ := kk (T.setVm vm') hT X'
  exact ⟨t, st.trans a1, b1⟩
end Rows
section Ends
variable {p : Program} {l : Launch} {e : Env} {R : Room} {s : State} {m : MethodId} {args : Array Value} {below : List Frame} {meth : Method} {c : Code} {H : Heap} {locs : List Loc} {cells slots : Nat} {Q : State → Prop}
variable {mc ms : Nat} {free : Addr → Prop} {A0 A1 : Nat → Prop} {H0 : Heap} {a : Array Value} {ls : Array Slot} {st0 rest : List Value}
variable {Qc : Array Value → State → Outcome → State → Prop} {XC : String → State → State → Prop}
/-- what a body that may throw owes at its end -/
def vx_MQ (below : List Frame) (Qc : Array Value → State → Outcome → State → Prop) (XC : String → State → State → Prop) (a : Array Value) (s : State) (mc ms : Nat) (free : Addr → Prop) : State → Prop := fun t =>
  ∃ o, t.status = .running ∧ Ended t below o ∧ vx_Q Qc XC mc ms free a s o t
theorem vx_ret {g : JFrame} {mc ms : Nat} (k : W p l e R s m args below meth c H locs cells slots (MQ below Qc args s mc ms free) g) : W p l e R s m args below meth c H locs cells slots (vx_MQ below Qc XC args s mc ms free) g := by
  intro T hT X
  obtain ⟨t, a1, o, b1, b2, b3, b4⟩ := k T hT X
  exact ⟨t, a1, o, b1, b2, Or.inl ⟨b3, b4⟩⟩
/-- not caught here: it goes on to the caller -/
theorem vx_widen {g : JFrame} {q : Addr} {k n : Nat} (h1 : cells ≤ k) (h2 : slots ≤ n) (kk : vx_W p l e R s m args below meth c H locs k n Q g q) : vx_W p l e R s m args below meth c H locs cells slots Q g q := fun T hT X => kk T hT (stand_widen X h1 h2)
theorem vx_out {pc : Nat} {E : String} {ce : Cell} {q : Addr} {mc ms : Nat} (hout : ∀ x ∈ c.exceptionTable.toList, covers x pc = false) (hlocks : meth.locks = false) (hcell : H[q]? = some ce) (hv : ce.vm = .none) (hcl : s.vm.findClass E = some ce.cls)
    (hx : ∀ t : State, t.heap = H → s.vm.Alike t.vm → XC E s t) (hf : ∀ z ∈ locs, free z.base) (hc : cells ≤ mc) (hs : slots ≤ ms) :
    vx_W p l e R s m args below meth c H locs cells slots (vx_MQ below Qc XC args s mc ms free) (F0 m pc ls rest) q := by
  intro T hT X
  obtain ⟨st1, hrun, hend, hW, hsm⟩ := X.leaveThrown q (g := F0 m pc ls rest) rfl rfl rfl hout hlocks
  have hcell9 : (T.setFrames (.throwing q :: below)).heap[q]? = some ce := by
    show T.heap[q]? = some ce
    rw [hT]; exact hcell
  exact ⟨_, st1, .threw q, hrun, hend, Or.inr ⟨q, rfl, E, ce, locs, hx _ hT hW.alike, hcell9, hv, hcl, hW, hsm.mono hc hs, hf⟩⟩
theorem vx_frame {U : State} {k n : Nat} (h : s.sameButNew ({ U with vm := s.vm } : State) locs k n) : s.heap.size ≤ U.heap.size ∧ ∀ q : Nat, q < s.heap.size → (∀ z ∈ locs, z.base ≠ q) → U.heap[q]? = s.heap[q]? := by
  obtain ⟨-, h2, -, -, -, h6⟩ := h
  refine ⟨h2, fun q hq hz => ?_⟩
  obtain ⟨c9, e1, e2, e3, e4⟩ := h6 q _ (Array.getElem?_eq_getElem hq)
  have hs : c9.slots = (s.heap[q]).slots := Array.ext_getElem? fun i => e4 i fun hm => hz _ hm rfl
  have h9 : c9 = s.heap[q] := by
    rw [hs] at e2
    exact e2
  have e5 : U.heap[q]? = some c9 := e1
  rw [e5, h9, Array.getElem?_eq_getElem hq]
/-- the words of a throw but the four that speak of the heap -/
def vx_no (w : Cond) : Bool := decide (w ≠ .isRef (.static Bundle.tN "UNASSIGNED_STACK" Bundle.steD)) && decide (w ≠ .isRef (.static Bundle.tN "SUPPRESSED_SENTINEL" Bundle.listD)) && decide (w ≠ .laysStatic Bundle.tN "UNASSIGNED_STACK" Bundle.steD) && decide (w ≠ .laysStatic Bundle.tN "SUPPRESSED_SENTINEL" Bundle.listD)
def vx_at0 (own : String) (ic : Nat) (X : String) (names : List String) : List Cond := (Bundle.ownAtoms0 own ic X names).filter vx_no
def vx_atS (own : String) (ic : Nat) (X : String) (names : List String) : List Cond := (Bundle.ownAtoms own ic X names).filter vx_no
/-- a word that the tables alone decide, or a good one -/
def vx_ot (w : Cond) : Bool := w.onTables || goodWord w
theorem vx_ot_at {args a' : Array Value} {s U : State} {w : Cond} (hW : s.WarmedH U.vm) (hvm : s.vm = U.vm) (hg : vx_ot w = true) (h : w.before args s = true) : w.before a' U = true := by
  simp only [vx_ot, Bool.or_eq_true] at hg
  rcases hg with hg | hg
  · exact va_tabs hg hvm h
  · exact word_at hW (good_of_word hg) h
/-- a list's words: the good ones out of the method's own list, the others by premises of their own -/
theorem vx_hat {args : Array Value} {s : State} {L B : List Cond} (h1 : ∀ w ∈ L.filter goodWord, w.before args s = true) (h2 : ∀ w ∈ L.filter (fun w => !goodWord w), w ∈ B) (h3 : ∀ w ∈ B, w.before args s = true) : ∀ w ∈ L, w.before args s = true := by
  intro w hw
  by_cases g : goodWord w = true
  · exact h1 w (List.mem_filter.mpr ⟨hw, g⟩)
  · refine h3 w (h2 w (List.mem_filter.mpr ⟨hw, ?_⟩))
    show (!goodWord w) = true
    cases hgw : goodWord w
    · rfl
    · exact absurd hgw g
theorem vx_c {args : Array Value} {s : State} {w : Cond} {B : List Cond} (h : w.before args s = true) (t : ∀ w ∈ B, w.before args s = true) : ∀ w' ∈ w :: B, w'.before args s = true := fun w' h' => (List.mem_cons.mp h').elim (fun e => by rw [e]; exact h) (t w')
theorem vx_n {args : Array Value} {s : State} : ∀ w ∈ ([] : List Cond), w.before args s = true := fun _ h => nomatch h
theorem vx_own {args : Array Value} {s : State} {L : List Cond} (h1 : ∀ w ∈ L.filter vx_no, w.before args s = true)
    (hU : (Cond.isRef (.static Bundle.tN "UNASSIGNED_STACK" Bundle.steD)).before args s = true) (hN : (Cond.isRef (.static Bundle.tN "SUPPRESSED_SENTINEL" Bundle.listD)).before args s = true)
    (lU : (Cond.laysStatic Bundle.tN "UNASSIGNED_STACK" Bundle.steD).before args s = true) (lN : (Cond.laysStatic Bundle.tN "SUPPRESSED_SENTINEL" Bundle.listD).before args s = true) : ∀ w ∈ L, w.before args s = true := by
  intro w hw
  by_cases e1 : w = .isRef (.static Bundle.tN "UNASSIGNED_STACK" Bundle.steD)
  · rw [e1]; exact hU
  · by_cases e2 : w = .isRef (.static Bundle.tN "SUPPRESSED_SENTINEL" Bundle.listD)
    · rw [e2]; exact hN
    · by_cases e3 : w = .laysStatic Bundle.tN "UNASSIGNED_STACK" Bundle.steD
      · rw [e3]; exact lU
      · by_cases e4 : w = .laysStatic Bundle.tN "SUPPRESSED_SENTINEL" Bundle.listD
        · rw [e4]; exact lN
        · exact h1 w (List.mem_filter.mpr ⟨hw, by unfold vx_no; rw [decide_eq_true e1, decide_eq_true e2, decide_eq_true e3, decide_eq_true e4]; rfl⟩)
/-- where a static field lies, its class's statics cell in H -/
def vx_L (C n d : String) (A : Nat → Prop) (U : State) (H : Heap) : Prop := ∃ (c : ClassId) (k : Class) (i : Nat) (f : Field) (a : Nat) (cell : Cell), U.vm.findClass C = some c ∧ U.fieldFound? C n d = some (c, k, i, f) ∧ f.isStatic = true ∧ k.statics = some a ∧ H[a]? = some cell ∧ cell.vm.isStatics = true ∧ cell.cls = c ∧ f.slot < cell.slots.size ∧ k.staticTypes[f.slot]? = some f.type ∧ ¬ A a
theorem vx_L.moved {C n d : String} {A : Nat → Prop} {u U : State} {H : Heap} (hvm : u.vm.Alike U.vm) (h : vx_L C n d A u H) : vx_L C n d A U H := by
  obtain ⟨c, k, i, f, a, cell, h1, h2, h3, h4, h5, h6, h7, h8, h9, h10⟩ := h
  obtain ⟨k', hi', he⟩ := State.fieldFound?_setVm hvm h2
  exact ⟨c, k', i, f, a, cell, by rw [hvm.findClass]; exact h1, hi', h3, by rw [he]; exact h4, h5, h6, h7, h8, by rw [he]; exact h9, h10⟩
theorem vx_L.kept {C n d : String} {A : Nat → Prop} {U : State} {H H1 : Heap} (h : vx_L C n d A U H) (hq : ∀ a : Nat, a < H.size → ¬ A a → H1[a]? = H[a]?) : vx_L C n d A U H1 := by
  obtain ⟨c, k, i, f, a, cell, h1, h2, h3, h4, h5, h6, h7, h8, h9, h10⟩ := h
  exact ⟨c, k, i, f, a, cell, h1, h2, h3, h4, by rw [hq a (Array.getElem?_eq_some_iff.mp h5).1 h10]; exact h5, h6, h7, h8, h9, h10⟩
theorem vx_L.narrow {C n d : String} {A B : Nat → Prop} {U : State} {H : Heap} (h : vx_L C n d A U H) (hAB : ∀ q, B q → A q) : vx_L C n d B U H := by
  obtain ⟨c, k, i, f, a, cell, h1, h2, h3, h4, h5, h6, h7, h8, h9, h10⟩ := h
  exact ⟨c, k, i, f, a, cell, h1, h2, h3, h4, h5, h6, h7, h8, h9, fun z => h10 (hAB _ z)⟩
theorem vx_L.word {C n d : String} {A : Nat → Prop} {s : State} {args : Array Value} (h : vx_L C n d A s s.heap) : (Cond.laysStatic C n d).before args s = true := by
  obtain ⟨c, k, i, f, a, cell, h1, h2, h3, h4, h5, h6, h7, h8, h9, -⟩ := h
  show (Cond.laysStatic C n d).holds args s none s [] = true
  exact Cond.laysStatic_of h1 h2 h3 h4 h5 h6 h7 h8 h9
/-- .. and what it holds: null or some reference -/
def vx_Zq (C n d : String) (A : Nat → Prop) (U : State) (H : Heap) : Prop := va_Zq C n d A U H ∧ vx_L C n d A U H
theorem vx_Zq.moved {C n d : String} {A : Nat → Prop} {u U : State} {H : Heap} (hvm : u.vm.Alike U.vm) (h : vx_Zq C n d A u H) : vx_Zq C n d A U H := ⟨va_Zq.moved hvm h.1, vx_L.moved hvm h.2⟩
theorem vx_Zq.kept {C n d : String} {A : Nat → Prop} {U : State} {H H1 : Heap} (h : vx_Zq C n d A U H) (hq : ∀ a : Nat, a < H.size → ¬ A a → H1[a]? = H[a]?) : vx_Zq C n d A U H1 := ⟨va_Zq.kept h.1 hq, vx_L.kept h.2 hq⟩
theorem vx_Zq.narrow {C n d : String} {A B : Nat → Prop} {U : State} {H : Heap} (h : vx_Zq C n d A U H) (hAB : ∀ q, B q → A q) : vx_Zq C n d B U H := ⟨va_Zq.narrow h.1 hAB, vx_L.narrow h.2 hAB⟩
theorem vx_Zqof {args : Array Value} {s : State} {C n d : String} {A : Nat → Prop} (hl : (Cond.laysStatic C n d).before args s = true) (hini : (Cond.initialized C).before args s = true) (h : (Cond.isRef (.static C n d)).before args s = true) (hA : ∀ a : Nat, a < s.heap.size → ¬ A a) : vx_Zq C n d A s s.heap := by
  refine ⟨va_Zqof hl hini h hA, ?_⟩
  obtain ⟨c, k, i, f, a, cell, h1, h2, h3, h4, h5, h6, h7, h8, h9⟩ := Cond.laysStatic_spec hl
  exact ⟨c, k, i, f, a, cell, h1, h2, h3, h4, h5, h6, h7, h8, h9, hA a (Array.getElem?_eq_some_iff.mp h5).1⟩
theorem vx_isRef {C n d : String} {v : Value} {A : Nat → Prop} {s : State} {args : Array Value} (h : va_Z C n d v A s s.heap) (hv : v.isRef = true) : (Cond.isRef (.static C n d)).before args s = true := by
  obtain ⟨cf, kf, fi, f, a, cell, h1, h2, h3, h4, h5, h6, h7, -⟩ := h
  have he : (Term.static C n d).eval args s none [] s = some v := by
    simp [Term.eval, State.fieldNamed?, h1, h2, h4, h5, h6, h7]
  simp only [Cond.before, Cond.holds, Cond.value, he]
  cases v <;> simp_all [Value.isRef]
theorem vx_isRefq {C n d : String} {A : Nat → Prop} {s : State} {args : Array Value} (h : va_Zq C n d A s s.heap) : (Cond.isRef (.static C n d)).before args s = true := by
  rcases h with h | ⟨t, h⟩
  · exact vx_isRef h rfl
  · exact vx_isRef h rfl
/-- the same frame, seen from here: as if the method were called anew in this heap -/
theorem vx_rebase {T : State} (X : Stand p l e R s m args below meth c T locs cells slots) {R' : Room} (hf : R'.frames ≤ R.frames) (hl : R'.locals ≤ R.locals) (hc : cells + R'.cells ≤ R.cells) (hs : slots + R'.slots ≤ R.slots) :
    Stand p l e R' ((T.setVm s.vm).setFrames (.invoking m args :: below)) m args below meth c T [] 0 0 := by
  have htop : (T.setVm s.vm).topJava?.isSome := X.here.top
  have hF : ((T.setVm s.vm).setFrames (.invoking m args :: below)).frames = .invoking m args :: below := State.frames_setFrames _ (State.cur_lt_of_top htop)
  obtain ⟨g₀, hg0⟩ := Option.isSome_iff_exists.mp htop
  obtain ⟨r, hr⟩ := State.topJava?_eq_some.mp hg0
  have hl9 : e.platform.stackLimits (T.setVm s.vm).me = e.platform.stackLimits s.me := X.limits
  have hb9 : (T.setVm s.vm).me.stackBytes = s.me.stackBytes := X.bytes
  refine ⟨X.admits, X.cas, X.clock, hF, ?_, X.hears, X.method, X.code, X.here, X.tail, X.warmed, ?_, ?_, ?_⟩
  · have h := X.room
    have hU : ((T.setVm s.vm).setFrames (.invoking m args :: below)).localsInUse = s.localsInUse := by
      rw [State.localsInUse_invoking hF (meth := meth) (c := c) X.method X.code, State.localsInUse_invoking X.frames X.method X.code]
    simp only [State.hasRoom, Bool.and_eq_true, decide_eq_true_eq] at h ⊢
    obtain ⟨⟨⟨⟨h1, h2, h3, h4, h5, h6⟩, h7⟩, h8⟩, h9⟩ := h
    rw [X.frames, List.length_cons] at h2 h3
    have q1 := X.heapSize
    have q2 := X.used
    simp only [hF, hU, List.length_cons, State.stackLimits_setFrames, State.stackBytes_setFrames, hl9, hb9]
    refine ⟨⟨⟨⟨by omega, by omega, by omega, by omega, by omega, h6⟩, ?_⟩, ?_⟩, X.book⟩
    · show T.heap.size + R'.cells ≤ e.platform.maxCells
      omega
    · show T.slotsUsed + R'.slots ≤ e.platform.maxSlots
      omega
  · rw [State.stackLimits_setFrames]; rfl
  · rw [State.stackBytes_setFrames]; rfl
  · refine ⟨?_, Nat.le_refl _, Nat.le_refl _, ?_, ?_, fun a c9 h9 => ⟨c9, h9, rfl, rfl, fun _ _ => rfl⟩⟩
    · obtain ⟨t, ht, -⟩ := State.frames_cons hr
      show T.setVm s.vm = { ((T.setVm s.vm).setFrames (.invoking m args :: below)).setFrames (T.setVm s.vm).frames with heap := T.heap, slotsUsed := T.slotsUsed }
      rw [State.setFrames_setFrames, State.setFrames_self ht]
      rfl
    · show T.slotsUsed = T.slotsUsed + ((T.heap.toList.drop T.heap.size).map (·.slots.size)).sum
      rw [List.drop_eq_nil_of_le (Nat.le_of_eq Array.length_toList)]
      rfl
    · show ((T.heap.toList.drop T.heap.size).map (·.slots.size)).sum ≤ 0
      rw [List.drop_eq_nil_of_le (Nat.le_of_eq Array.length_toList)]
      exact Nat.le_refl _
/-- 'throw new E()': new; dup; invokespecial; athrow -/
theorem vx_throw0 {cc : ByteArray} {pc : Nat} (hexec : p.tables.exec = Jvm.exec) (hb : c.code = cc) (hl : l.stackTraces = false) {own cls : String} {names : List String} {ik ic mc ms : Nat} {A : Nat → Prop}
    (hown : s.vm.findClass own = some m.cls) (hcls : Bundle.fit cls = true) (hnames : ∀ n ∈ names, Bundle.fit n = true)
    (hk : (Cond.classLink own ik cls).before args s = true) (hini : (Cond.initialized cls).before args s = true) (hat : ∀ w ∈ vx_at0 own ic cls names, w.before args s = true)
    (hgood : ∀ w ∈ Cond.classLink own ik cls :: Cond.initialized cls :: vx_at0 own ic cls names, vx_ot w = true)
    (hU : vx_Zq Bundle.tN "UNASSIGNED_STACK" Bundle.steD A s s.heap) (hN : vx_Zq Bundle.tN "SUPPRESSED_SENTINEL" Bundle.listD A s s.heap) (hS : va_S A s.heap H locs) (hsize : ls.size = c.maxLocals)
    (d0 : decode cc pc = .ok (.new ik, 3)) (d3 : decode cc (pc + 3) = .ok (.dup, 1)) (d4 : decode cc (pc + 4) = .ok (.invokespecial ic, 3)) (d7 : decode cc (pc + 7) = .ok (.athrow, 1))
    (hout : ∀ x ∈ c.exceptionTable.toList, covers x (pc + 7) = false)
    (hRframes : names.length + 3 < R.frames) (hRlocals : (rest.map fun v => v.category).sum + (13 * (names.length + 1) + 42) ≤ R.locals) (hRcells : cells + 1 ≤ R.cells) (hRslots : slots + 6 ≤ R.slots) (hlocks : meth.locks = false)
    (hx : ∀ t : State, s.vm.Alike t.vm → H.size ≤ t.heap.size → (∀ q : Nat, q < H.size → t.heap[q]? = H[q]?) → XC cls s t)
    (hf : ∀ z ∈ locs, free z.base) (hc : cells + 1 ≤ mc) (hs : slots + 6 ≤ ms) :
    W p l e R s m args below meth c H locs cells slots (vx_MQ below Qc XC args s mc ms free) (F0 m pc ls rest) := by
  intro T hT X
  have htr : e.platform.stackTraces = false := (show e.platform.stackTraces = l.stackTraces by rw [X.admits.platform]).trans hl
  have Y := vx_rebase X (R' := { frames := R.frames, locals := R.locals, cells := 1, slots := 6 }) (Nat.le_refl _) (Nat.le_refl _) hRcells hRslots
  obtain ⟨s', hA⟩ : ∃ z, z = (T.setVm s.vm).setFrames (.invoking m args :: below) := ⟨_, rfl⟩
  rw [← hA] at Y
  have hvm : s'.vm = s.vm := by rw [hA]; rfl
  have hhp : s'.heap = H := by rw [hA]; exact hT
  have hW0 : s.WarmedH s'.vm := by rw [hvm]; exact State.WarmedH.refl s
  have hat' : ∀ w ∈ vx_at0 own ic cls names, w.before args s' = true := fun w hw => vx_ot_at hW0 hvm.symm (hgood w (List.mem_cons_of_mem _ (List.mem_cons_of_mem _ hw))) (hat w hw)
  have hk' : (Cond.classLink own ik cls).before args s' = true := vx_ot_at hW0 hvm.symm (hgood _ List.mem_cons_self) hk
  have hini' : (Cond.initialized cls).before args s' = true := vx_ot_at hW0 hvm.symm (hgood _ (List.mem_cons_of_mem _ List.mem_cons_self)) hini
  have hU' : vx_Zq Bundle.tN "UNASSIGNED_STACK" Bundle.steD A s' s'.heap := by rw [hhp]; exact vx_Zq.moved hW0.alike (hU.kept hS.2.1)
  have hN' : vx_Zq Bundle.tN "SUPPRESSED_SENTINEL" Bundle.listD A s' s'.heap := by rw [hhp]; exact vx_Zq.moved hW0.alike (hN.kept hS.2.1)
  have h : ∀ w ∈ Bundle.ownAtoms0 own ic cls names, w.before args s' = true := vx_own hat' (vx_isRefq hU'.1) (vx_isRefq hN'.1) hU'.2.word hN'.2.word
  have hown' : s'.vm.findClass own = some m.cls := by rw [hvm]; exact hown
  have hins : (Cond.instantiable cls 6).before args s' = true := h _ (by simp [Bundle.ownAtoms0])
  obtain ⟨vm₁, cX, kX, hfX, hkX, -, -, X₁, st1⟩ := Y.newCold hexec (own := own) (C := cls) (index := ik) (n := 6) hown' hk' hins hini'
    (g := F0 m pc ls rest) rfl (by rw [hb]; exact d0) (Nat.le_refl _) (Nat.le_refl _)
  generalize hT1 : (T.setVm vm₁).pushCell { cls := cX, slots := kX.instanceTypes.map defaultValue, vm := .none } = T1 at X₁ st1
  have hcat : (Value.ref T.heap.size).category = 1 := rfl
  have hcellA : T1.heap[T.heap.size]? = some (freshCell cX kX) := by rw [← hT1]; exact State.heap_pushCell_size _ _
  have d3' : decode c.code (pc + 3) = .ok (.dup, 1) := by rw [hb]; exact d3
  obtain ⟨U, hsteps, hrun, hend, hW, hsame, ce, hce, hO⟩ := X₁.ctorThrow0 hexec htr (own := own) (cls := cls) (names := names) (ic := ic) hown' hcls hnames h (fun x hx => nomatch hx) hfX hkX hcellA (by rw [hhp, hT]; exact Nat.le_refl _)
    (g := { method := m, pc := pc + 4, locals := ls, stack := .ref T.heap.size :: .ref T.heap.size :: rest, locked := none }) rfl hsize rfl rfl (rest := rest) rfl
    (by rw [hb]; exact d4) (by rw [hb]; exact d7) hout hRframes (by simp only [List.map_cons, List.sum_cons, hcat]; omega) hlocks
  obtain ⟨f1, f2⟩ := vx_frame hsame
  rw [hhp] at f1 f2
  have hWs : s.WarmedH U.vm := State.WarmedH.trans hW0 hW
  have hcl : s.vm.findClass cls = some ce.cls := by
    have h9 := hO.cls
    rw [hvm] at h9
    exact h9
  have hall : s.sameButNew ({ U with vm := s.vm } : State) locs mc ms := by
    subst hA
    obtain ⟨e1, e2⟩ := hsame
    rw [State.setFrames_setFrames] at e1
    have h2 : (T.setVm s.vm).sameButNew ({ U with vm := s.vm } : State) [] (0 + 1) (0 + 6) := ⟨e1, e2⟩
    have h3 := X.same.trans h2
    rw [List.append_nil] at h3
    exact h3.mono hc hs
  refine ⟨U, ?_, .threw T.heap.size, hrun, hend, Or.inr ⟨T.heap.size, rfl, cls, ce, locs, hx U hWs.alike f1 (fun q hq => f2 q hq (fun z hz => nomatch hz)), hce, hO.vm, hcl, hWs, hall, hf⟩⟩
  refine st1 _ ?_
  show Steps p.tables e below (T1.setTop { method := m, pc := pc + 3, locals := ls, stack := .ref T.heap.size :: rest, locked := none }) _
  jvm_step X₁.here [X₁.here.top, hexec, d3', Value.category]
  exact hsteps
/-- 'throw new E("text")': new; dup; ldc; invokespecial; athrow -/
theorem vx_throwS {cc : ByteArray} {pc : Nat} (hexec : p.tables.exec = Jvm.exec) (hb : c.code = cc) (hl : l.stackTraces = false) {own cls text : String} {names : List String} {ik is ic mc ms sa : Nat} {A : Nat → Prop}
    (hown : s.vm.findClass own = some m.cls) (hcls : Bundle.fit cls = true) (hnames : ∀ n ∈ names, Bundle.fit n = true)
    (hk : (Cond.classLink own ik cls).before args s = true) (hini : (Cond.initialized cls).before args s = true) (hstr : vk_R own is text sa s) (hat : ∀ w ∈ vx_atS own ic cls names, w.before args s = true)
    (hgood : ∀ w ∈ Cond.classLink own ik cls :: Cond.initialized cls :: vx_atS own ic cls names, vx_ot w = true)
    (hU : vx_Zq Bundle.tN "UNASSIGNED_STACK" Bundle.steD A s s.heap) (hN : vx_Zq Bundle.tN "SUPPRESSED_SENTINEL" Bundle.listD A s s.heap) (hS : va_S A s.heap H locs) (hsize : ls.size = c.maxLocals)
    (d0 : decode cc pc = .ok (.new ik, 3)) (d3 : decode cc (pc + 3) = .ok (.dup, 1)) (d4 : decode cc (pc + 4) = .ok (.ldc is, 2)) (d6 : decode cc (pc + 6) = .ok (.invokespecial ic, 3)) (d9 : decode cc (pc + 9) = .ok (.athrow, 1))
    (hout : ∀ x ∈ c.exceptionTable.toList, covers x (pc + 9) = false)
    (hRframes : names.length + 3 < R.frames) (hRlocals : (rest.map fun v => v.category).sum + (13 * (names.length + 1) + 43) ≤ R.locals) (hRcells : cells + 1 ≤ R.cells) (hRslots : slots + 6 ≤ R.slots) (hlocks : meth.locks = false)
    (hx : ∀ t : State, s.vm.Alike t.vm → H.size ≤ t.heap.size → (∀ q : Nat, q < H.size → t.heap[q]? = H[q]?) → XC cls s t)
    (hf : ∀ z ∈ locs, free z.base) (hc : cells + 1 ≤ mc) (hs : slots + 6 ≤ ms) :
    W p l e R s m args below meth c H locs cells slots (vx_MQ below Qc XC args s mc ms free) (F0 m pc ls rest) := by
  intro T hT X
  have htr : e.platform.stackTraces = false := (show e.platform.stackTraces = l.stackTraces by rw [X.admits.platform]).trans hl
  have Y := vx_rebase X (R' := { frames := R.frames, locals := R.locals, cells := 1, slots := 6 }) (Nat.le_refl _) (Nat.le_refl _) hRcells hRslots
  obtain ⟨s', hA⟩ : ∃ z, z = (T.setVm s.vm).setFrames (.invoking m args :: below) := ⟨_, rfl⟩
  rw [← hA] at Y
  have hvm : s'.vm = s.vm := by rw [hA]; rfl
  have hhp : s'.heap = H := by rw [hA]; exact hT
  have hW0 : s.WarmedH s'.vm := by rw [hvm]; exact State.WarmedH.refl s
  have hat' : ∀ w ∈ vx_atS own ic cls names, w.before args s' = true := fun w hw => vx_ot_at hW0 hvm.symm (hgood w (List.mem_cons_of_mem _ (List.mem_cons_of_mem _ hw))) (hat w hw)
  have hk' : (Cond.classLink own ik cls).before args s' = true := vx_ot_at hW0 hvm.symm (hgood _ List.mem_cons_self) hk
  have hini' : (Cond.initialized cls).before args s' = true := vx_ot_at hW0 hvm.symm (hgood _ (List.mem_cons_of_mem _ List.mem_cons_self)) hini
  have hU' : vx_Zq Bundle.tN "UNASSIGNED_STACK" Bundle.steD A s' s'.heap := by rw [hhp]; exact vx_Zq.moved hW0.alike (hU.kept hS.2.1)
  have hN' : vx_Zq Bundle.tN "SUPPRESSED_SENTINEL" Bundle.listD A s' s'.heap := by rw [hhp]; exact vx_Zq.moved hW0.alike (hN.kept hS.2.1)
  have h : ∀ w ∈ Bundle.ownAtoms own ic cls names, w.before args s' = true := vx_own hat' (vx_isRefq hU'.1) (vx_isRefq hN'.1) hU'.2.word hN'.2.word
  have hown' : s'.vm.findClass own = some m.cls := by rw [hvm]; exact hown
  have hins : (Cond.instantiable cls 6).before args s' = true := h _ (by simp [Bundle.ownAtoms])
  obtain ⟨vm₁, cX, kX, hfX, hkX, -, -, X₁, st1⟩ := Y.newCold hexec (own := own) (C := cls) (index := ik) (n := 6) hown' hk' hins hini'
    (g := F0 m pc ls rest) rfl (by rw [hb]; exact d0) (Nat.le_refl _) (Nat.le_refl _)
  generalize hT1 : (T.setVm vm₁).pushCell { cls := cX, slots := kX.instanceTypes.map defaultValue, vm := .none } = T1 at X₁ st1
  have hcat : (Value.ref T.heap.size).category = 1 := rfl
  have hcellA : T1.heap[T.heap.size]? = some (freshCell cX kX) := by rw [← hT1]; exact State.heap_pushCell_size _ _
  have d3' : decode c.code (pc + 3) = .ok (.dup, 1) := by rw [hb]; exact d3
  have d4' : decode c.code (pc + 4) = .ok (.ldc is, 2) := by rw [hb]; exact d4
  have hstr' : vk_R own is text sa s' := vk_R.warm hW0 hstr
  obtain ⟨U, hsteps, hrun, hend, hW, hsame, ce, hce, hO⟩ := X₁.ctorThrowS hexec htr (own := own) (cls := cls) (names := names) (ic := ic) hown' hcls hnames h (fun x hx => nomatch hx) hfX hkX hcellA (by rw [hhp, hT]; exact Nat.le_refl _) (msg := .ref sa) rfl
    (g := { method := m, pc := pc + 6, locals := ls, stack := .ref sa :: .ref T.heap.size :: .ref T.heap.size :: rest, locked := none }) rfl hsize rfl rfl (rest := rest) rfl
    (by rw [hb]; exact d6) (by rw [hb]; exact d9) hout hRframes (by simp only [List.map_cons, List.sum_cons, hcat]; omega) hlocks
  obtain ⟨f1, f2⟩ := vx_frame hsame
  rw [hhp] at f1 f2
  have hWs : s.WarmedH U.vm := State.WarmedH.trans hW0 hW
  have hcl : s.vm.findClass cls = some ce.cls := by
    have h9 := hO.cls
    rw [hvm] at h9
    exact h9
  have hall : s.sameButNew ({ U with vm := s.vm } : State) locs mc ms := by
    subst hA
    obtain ⟨e1, e2⟩ := hsame
    rw [State.setFrames_setFrames] at e1
    have h2 : (T.setVm s.vm).sameButNew ({ U with vm := s.vm } : State) [] (0 + 1) (0 + 6) := ⟨e1, e2⟩
    have h3 := X.same.trans h2
    rw [List.append_nil] at h3
    exact h3.mono hc hs
  refine ⟨U, ?_, .threw T.heap.size, hrun, hend, Or.inr ⟨T.heap.size, rfl, cls, ce, locs, hx U hWs.alike f1 (fun q hq => f2 q hq (fun z hz => nomatch hz)), hce, hO.vm, hcl, hWs, hall, hf⟩⟩
  refine st1 _ ?_
  show Steps p.tables e below (T1.setTop { method := m, pc := pc + 3, locals := ls, stack := .ref T.heap.size :: rest, locked := none }) _
  jvm_step X₁.here [X₁.here.top, hexec, d3', Value.category]
  exact X₁.ldcString hexec (own := own) (text := text) (index := is) (a := sa) hown' hstr'.1 hstr'.2
    (g := { method := m, pc := pc + 4, locals := ls, stack := .ref T.heap.size :: .ref T.heap.size :: rest, locked := none }) rfl d4' _ hsteps
/-- 'throw new E("text")', the text by a wide index -/
theorem vx_throwSW {cc : ByteArray} {pc : Nat} (hexec : p.tables.exec = Jvm.exec) (hb : c.code = cc) (hl : l.stackTraces = false) {own cls text : String} {names : List String} {ik is ic mc ms sa : Nat} {A : Nat → Prop}
    (hown : s.vm.findClass own = some m.cls) (hcls : Bundle.fit cls = true) (hnames : ∀ n ∈ names, Bundle.fit n = true)
    (hk : (Cond.classLink own ik cls).before args s = true) (hini : (Cond.initialized cls).before args s = true) (hstr : vk_R own is text sa s) (hat : ∀ w ∈ vx_atS own ic cls names, w.before args s = true)
    (hgood : ∀ w ∈ Cond.classLink own ik cls :: Cond.initialized cls :: vx_atS own ic cls names, vx_ot w = true)
    (hU : vx_Zq Bundle.tN "UNASSIGNED_STACK" Bundle.steD A s s.heap) (hN : vx_Zq Bundle.tN "SUPPRESSED_SENTINEL" Bundle.listD A s s.heap) (hS : va_S A s.heap H locs) (hsize : ls.size = c.maxLocals)
    (d0 : decode cc pc = .ok (.new ik, 3)) (d3 : decode cc (pc + 3) = .ok (.dup, 1)) (d4 : decode cc (pc + 4) = .ok (.ldc_w is, 3)) (d7 : decode cc (pc + 7) = .ok (.invokespecial ic, 3)) (d10 : decode cc (pc + 10) = .ok (.athrow, 1))
    (hout : ∀ x ∈ c.exceptionTable.toList, covers x (pc + 10) = false)
    (hRframes : names.length + 3 < R.frames) (hRlocals : (rest.map fun v => v.category).sum + (13 * (names.length + 1) + 43) ≤ R.locals) (hRcells : cells + 1 ≤ R.cells) (hRslots : slots + 6 ≤ R.slots) (hlocks : meth.locks = false)
    (hx : ∀ t : State, s.vm.Alike t.vm → H.size ≤ t.heap.size → (∀ q : Nat, q < H.size → t.heap[q]? = H[q]?) → XC cls s t)
    (hf : ∀ z ∈ locs, free z.base) (hc : cells + 1 ≤ mc) (hs : slots + 6 ≤ ms) :
    W p l e R s m args below meth c H locs cells slots (vx_MQ below Qc XC args s mc ms free) (F0 m pc ls rest) := by
  intro T hT X
  have htr : e.platform.stackTraces = false := (show e.platform.stackTraces = l.stackTraces by rw [X.admits.platform]).trans hl
  have Y := vx_rebase X (R' := { frames := R.frames, locals := R.locals, cells := 1, slots := 6 }) (Nat.le_refl _) (Nat.le_refl _) hRcells hRslots
  obtain ⟨s', hA⟩ : ∃ z, z = (T.setVm s.vm).setFrames (.invoking m args :: below) := ⟨_, rfl⟩
  rw [← hA] at Y
  have hvm : s'.vm = s.vm := by rw [hA]; rfl
  have hhp : s'.heap = H := by rw [hA]; exact hT
  have hW0 : s.WarmedH s'.vm := by rw [hvm]; exact State.WarmedH.refl s
  have hat' : ∀ w ∈ vx_atS own ic cls names, w.before args s' = true := fun w hw => vx_ot_at hW0 hvm.symm (hgood w (List.mem_cons_of_mem _ (List.mem_cons_of_mem _ hw))) (hat w hw)
  have hk' : (Cond.classLink own ik cls).before args s' = true := vx_ot_at hW0 hvm.symm (hgood _ List.mem_cons_self) hk
  have hini' : (Cond.initialized cls).before args s' = true := vx_ot_at hW0 hvm.symm (hgood _ (List.mem_cons_of_mem _ List.mem_cons_self)) hini
  have hU' : vx_Zq Bundle.tN "UNASSIGNED_STACK" Bundle.steD A s' s'.heap := by rw [hhp]; exact vx_Zq.moved hW0.alike (hU.kept hS.2.1)
  have hN' : vx_Zq Bundle.tN "SUPPRESSED_SENTINEL" Bundle.listD A s' s'.heap := by rw [hhp]; exact vx_Zq.moved hW0.alike (hN.kept hS.2.1)
  have h : ∀ w ∈ Bundle.ownAtoms own ic cls names, w.before args s' = true := vx_own hat' (vx_isRefq hU'.1) (vx_isRefq hN'.1) hU'.2.word hN'.2.word
  have hown' : s'.vm.findClass own = some m.cls := by rw [hvm]; exact hown
  have hins : (Cond.instantiable cls 6).before args s' = true := h _ (by simp [Bundle.ownAtoms])
  obtain ⟨vm₁, cX, kX, hfX, hkX, -, -, X₁, st1⟩ := Y.newCold hexec (own := own) (C := cls) (index := ik) (n := 6) hown' hk' hins hini'
    (g := F0 m pc ls rest) rfl (by rw [hb]; exact d0) (Nat.le_refl _) (Nat.le_refl _)
  generalize hT1 : (T.setVm vm₁).pushCell { cls := cX, slots := kX.instanceTypes.map defaultValue, vm := .none } = T1 at X₁ st1
  have hcat : (Value.ref T.heap.size).category = 1 := rfl
  have hcellA : T1.heap[T.heap.size]? = some (freshCell cX kX) := by rw [← hT1]; exact State.heap_pushCell_size _ _
  have d3' : decode c.code (pc + 3) = .ok (.dup, 1) := by rw [hb]; exact d3
  have d4' : decode c.code (pc + 4) = .ok (.ldc_w is, 3) := by rw [hb]; exact d4
  have hstr' : vk_R own is text sa s' := vk_R.warm hW0 hstr
  obtain ⟨U, hsteps, hrun, hend, hW, hsame, ce, hce, hO⟩ := X₁.ctorThrowS hexec htr (own := own) (cls := cls) (names := names) (ic := ic) hown' hcls hnames h (fun x hx => nomatch hx) hfX hkX hcellA (by rw [hhp, hT]; exact Nat.le_refl _) (msg := .ref sa) rfl
    (g := { method := m, pc := pc + 7, locals := ls, stack := .ref sa :: .ref T.heap.size :: .ref T.heap.size :: rest, locked := none }) rfl hsize rfl rfl (rest := rest) rfl
    (by rw [hb]; exact d7) (by rw [hb]; exact d10) hout hRframes (by simp only [List.map_cons, List.sum_cons, hcat]; omega) hlocks
  obtain ⟨f1, f2⟩ := vx_frame hsame
  rw [hhp] at f1 f2
  have hWs : s.WarmedH U.vm := State.WarmedH.trans hW0 hW
  have hcl : s.vm.findClass cls = some ce.cls := by
    have h9 := hO.cls
    rw [hvm] at h9
    exact h9
  have hall : s.sameButNew ({ U with vm := s.vm } : State) locs mc ms := by
    subst hA
    obtain ⟨e1, e2⟩ := hsame
    rw [State.setFrames_setFrames] at e1
    have h2 : (T.setVm s.vm).sameButNew ({ U with vm := s.vm } : State) [] (0 + 1) (0 + 6) := ⟨e1, e2⟩
    have h3 := X.same.trans h2
    rw [List.append_nil] at h3
    exact h3.mono hc hs
  refine ⟨U, ?_, .threw T.heap.size, hrun, hend, Or.inr ⟨T.heap.size, rfl, cls, ce, locs, hx U hWs.alike f1 (fun q hq => f2 q hq (fun z hz => nomatch hz)), hce, hO.vm, hcl, hWs, hall, hf⟩⟩
  refine st1 _ ?_
  show Steps p.tables e below (T1.setTop { method := m, pc := pc + 3, locals := ls, stack := .ref T.heap.size :: rest, locked := none }) _
  jvm_step X₁.here [X₁.here.top, hexec, d3', Value.category]
  exact X₁.ldcStringW hexec (own := own) (text := text) (index := is) (a := sa) hown' hstr'.1 hstr'.2
    (g := { method := m, pc := pc + 4, locals := ls, stack := .ref T.heap.size :: .ref T.heap.size :: rest, locked := none }) rfl d4' _ hsteps
end Ends
section Bodies
variable {l : Launch}
theorem vx_ofW {y : MethodName} {ws ws' : List Cond} {rm : Room} {Pc : Array Value → State → Prop} {Qc : Array Value → State → Outcome → State → Prop} {XC : String → State → State → Prop} {mc ms : Nat} {free : Addr → Prop} {cc : ByteArray} {maxL : Nat} {ret : Option FieldType}
    (hy : plainName y.cls = true) (hw : ws = Cond.code y cc maxL ret :: ws')
    (body : ∀ p e s m args below meth c s₁, BodyLoose p l y (headSpec ws rm) cc maxL ret e s m args below meth c s₁ → c.maxLocals = maxL → (∀ x ∈ c.exceptionTable.toList, False) → Pc args s →
      W p l e (headSpec ws rm).room s m args below meth c s.heap [] 0 0 (vx_MQ below Qc XC args s mc ms free) (entryFrame m args maxL)) : vx_Met l y ws rm Pc Qc XC mc ms free := by
  refine MetFree.of_bodyS (code := cc) (maxLocals := maxL) (ret := ret) hy ?_ ?_
  · intro args s m h hn
    obtain ⟨meth, c, h1, h2, h3, h4, h5, h6, -, -⟩ := Cond.code_spec hn (atoms_spec (ws := ws) h _ (by rw [hw]; exact List.mem_cons_self))
    exact ⟨meth, c, h1, h2, h3, h4, h5, h6⟩
  · intro p e s m args below meth c s₁ B hml hP _
    have hh0 : s₁.heap = s.heap := by rw [B.state]; rfl
    have ht : ∀ x ∈ c.exceptionTable.toList, False := by
      obtain ⟨meth9, c9, h1, h2, -, -, -, -, h7, -⟩ := Cond.code_spec B.named (atoms_spec (ws := ws) B.pre _ (by rw [hw]; exact List.mem_cons_self))
      cases Option.some.inj (h1.symm.trans B.method)
      cases Option.some.inj (h2.symm.trans (Stand.of_body B).code)
      intro x hx
      rw [Array.isEmpty_iff.mp h7] at hx
      cases hx
    obtain ⟨t, a1, o, b1, b2, b3⟩ := body p e s m args below meth c s₁ B hml ht hP s₁ hh0 (Stand.of_body B)
    exact ⟨t, o, a1, b1, b2, b3⟩
/-- the table of a body with handlers -/
theorem vx_table {p : Program} {x y : MethodName} {S : Spec} {cc bytes : ByteArray} {maxL maxL' : Nat} {ret ret' : Option FieldType} {e : Env} {s s₁ : State} {m : MethodId} {args : Array Value} {below : List Frame} {meth : Method} {c : Code} {hh : List (Nat × Nat × Nat × Nat)}
    (B : BodyLoose p l y S cc maxL ret e s m args below meth c s₁) (h : (Cond.codeWith y bytes maxL' ret' hh).before args s = true) : c.exceptionTable.toList = tableOf hh := by
  obtain ⟨m9, meth9, c9, hn9, h1, h2, -, -, h6, -⟩ := Cond.codeWith_spec h
  cases Option.some.inj (hn9.symm.trans B.named)
  cases Option.some.inj (h1.symm.trans B.method)
  cases Option.some.inj (h2.symm.trans (Stand.of_body B).code)
  rw [← h6, table_eq]
end Bodies
end VXA
/-! ===== END ===== -/
/-! ===== BEGIN a static call of a method with an exception table ===== -/
section VXS
variable {p : Program} {l : Launch} {e : Env} {R : Room} {s : State} {m : MethodId} {args : Array Value} {below : List Frame} {meth : Method} {c : Code} {T : State} {H : Heap} {locs : List Loc} {cells slots : Nat}
abbrev vx_CSW (R : Room) (s : State) (args : Array Value) (own : String) (index : Nat) (y : MethodName) (bytes : ByteArray) (maxL : Nat) (ret : Option FieldType) (hh : List (Nat × Nat × Nat × Nat)) (ws : List Cond) (rm : Room) (mc ms n : Nat) : Prop :=
  (rm.cells = mc ∧ rm.slots = ms ∧ rm.frames + 1 ≤ R.frames ∧ 8 + (maxL + 11) + rm.locals ≤ R.locals ∧ (∀ w ∈ ws, ∀ (a' : Array Value) (U : State), s.WarmedH U.vm → w.before a' U = true) ∧ Cond.codeWith y bytes maxL ret hh ∈ ws) ∧
  (Cond.codeWith y bytes maxL ret hh).before args s = true ∧ (Cond.initialized y.cls).before args s = true ∧ (y.cls ≠ "java/lang/invoke/MethodHandle" ∧ y.cls ≠ "java/lang/invoke/VarHandle") ∧
  (∀ sig, parseMethodDescriptor y.desc = some sig → n = sig.parameters.length) ∧ (Cond.methodLink own index y).before args s = true ∧ (Cond.static y).before args s = true
theorem vx_cwSW {own : String} {index maxL mc ms : Nat} {y : MethodName} {bytes : ByteArray} {ret : Option FieldType} {hh : List (Nat × Nat × Nat × Nat)} {Ts ws ws' : List Cond} {rm : Room} (n : Nat) (ht : ∀ w ∈ Ts, w.before args s = true) (hT : GoodIn Ts (va_wsS own index y ws)) (hw : ws = Cond.codeWith y bytes maxL ret hh :: ws') (hrc : rm.cells = mc) (hrs : rm.slots = ms)
    (hd : y.cls ≠ "java/lang/invoke/MethodHandle" ∧ y.cls ≠ "java/lang/invoke/VarHandle" ∧ (parseMethodDescriptor y.desc).map (fun d => d.parameters.length) = some n) (hR : rm.frames + 1 ≤ R.frames ∧ 8 + (maxL + 11) + rm.locals ≤ R.locals) :
    vx_CSW R s args own index y bytes maxL ret hh ws rm mc ms n := by
  have ok : ∀ w ∈ va_wsS own index y ws, w.before args s = true := fun w h => ht w (hT w h).1
  have hG : GoodIn Ts ws := fun w h => hT w (by unfold va_wsS; exact List.mem_append_right _ h)
  have hc : Cond.codeWith y bytes maxL ret hh ∈ ws := by rw [hw]; exact List.mem_cons_self
  refine ⟨⟨hrc, hrs, hR.1, hR.2, pay_in ht hG, hc⟩, ht _ (hG _ hc).1, ok _ (by simp [va_wsS]), ⟨hd.1, hd.2.1⟩, fun sig h => ?_, ok _ (by simp [va_wsS]), ok _ (by simp [va_wsS])⟩
  have h2 := hd.2.2
  rw [h] at h2
  exact (Option.some.inj h2).symm
theorem vx_callSW (X : Stand p l e R s m args below meth c T locs cells slots) (hexec : p.tables.exec = Jvm.exec) {own : String} {index : Nat} {y : MethodName} {bytes : ByteArray} {maxL : Nat} {ret : Option FieldType} {hh : List (Nat × Nat × Nat × Nat)}
    (hown : s.vm.findClass own = some m.cls) (hlink : (Cond.methodLink own index y).before args s = true) (hstat : (Cond.static y).before args s = true) (hinit : (Cond.initialized y.cls).before args s = true)
    (hcode : (Cond.codeWith y bytes maxL ret hh).before args s = true) (hy : y.cls ≠ "java/lang/invoke/MethodHandle" ∧ y.cls ≠ "java/lang/invoke/VarHandle")
    {W9 : Nat} {Pre : Pt → Array Value → Prop} {Post : Pt → Array Value → Option Value → Pt → Prop} (hK : Back l R p e below s args y 3 W9 Pre Post)
    {g : JFrame} (hg : g.method = m) (hsize : g.locals.size = c.maxLocals) {argsL rest : List Value} (hlen : ∀ sig, parseMethodDescriptor y.desc = some sig → argsL.length = sig.parameters.length)
    (hstack : g.stack = argsL.reverse ++ rest) (hW : 2 * g.monitorRoom + (rest.map fun v => v.category).sum ≤ W9) (hdg : decode c.code g.pc = .ok (.invokestatic index, 3))
    (hpre : ∀ vm₁, s.WarmedH vm₁ → Pre ⟨T.setVm vm₁, locs, cells, slots⟩ argsL.toArray) :
    ∃ (v : Option Value) (vm₁ : Vm) (B : Pt), s.WarmedH vm₁ ∧ Stand p l e R s m args below meth c B.U B.locs B.cells B.slots ∧ Post ⟨T.setVm vm₁, locs, cells, slots⟩ argsL.toArray v B ∧
      ∀ target, Steps p.tables e below (B.U.setTop { g with pc := g.pc + 3, stack := v.toList ++ rest }) target → Steps p.tables e below (T.setTop g) target := by
  obtain ⟨mk, methM, cM, hnamed, hmethM, -, -, -, -, -, -, hsigM⟩ := Cond.codeWith_spec hcode
  have hstatic : methM.isStatic = true := Cond.static_spec hnamed hmethM hstat
  obtain ⟨kP, hkP, -⟩ := className_of_methodNamed hnamed
  have hinitP : kP.init = .initialized := Cond.initialized_spec (findClass_of_methodNamed hnamed) hkP hinit
  obtain ⟨vm₁, X₁, hstep₁⟩ := X.invokestatic hexec hown hlink hnamed hmethM hstatic hkP hinitP hy (g := g) hg (argsL := argsL) (rest := rest) (hlen _ hsigM) hstack hdg
  obtain ⟨v, B, X', hpost, hsteps⟩ := hK m meth c ⟨T.setVm vm₁, locs, cells, slots⟩ { g with stack := rest } (.invokestatic index) mk argsL.toArray X₁ hg hsize hdg hW (X₁.named hnamed) (hpre vm₁ X₁.warmed)
  exact ⟨v, vm₁, B, X₁.warmed, X', hpost, fun target h => hstep₁ _ fun acts => by rw [doInvoke_state]; exact hsteps.trans h⟩
theorem vx_runSW {y : MethodName} {bytes cc : ByteArray} {maxL nL mc ms n index : Nat} {ret : Option FieldType} {hh : List (Nat × Nat × Nat × Nat)} {ws : List Cond} {rm : Room} {Pc : Array Value → State → Prop} {Qc : Array Value → State → Outcome → State → Prop} {free : Addr → Prop} {Ts : List Cond} {own : String} {As rest : List Value} {g : JFrame}
    (S : CallFix p m c cc nL s args Ts own) (hM : Met l y ws rm Pc Qc mc ms free) (cw : vx_CSW R s args own index y bytes maxL ret hh ws rm mc ms n) (hp : PreS s H Pc As)
    (hg : g.method = m) (hn : As.length = n) (hsize : g.locals.size = nL) (hstack : g.stack = As.reverse ++ rest) (hW : 2 * g.monitorRoom + (rest.map fun v => v.category).sum ≤ 8) (hdg : decode cc g.pc = .ok (.invokestatic index, 3)) (hf : cells + mc ≤ R.cells ∧ slots + ms ≤ R.slots) :
    va_Run p l e R s m args below meth c H locs cells slots mc ms g rest (Qc As.toArray) (free) := by
  obtain ⟨⟨hrc, hrs, hfr, hlo, hws, hcw⟩, hcode, hini, hy, hlen, hl, hstt⟩ := cw
  have hK : Back l R p e below s args y 3 8 (PreOf R mc ms Pc) (PostOf Qc mc ms free) := va_backW (hh := hh) (bytes := bytes) (maxL := maxL) (ret := ret) hM hp.1 hrc hrs hfr hlo hws hcw (fun a' U hW => word_at hW (Or.inl (by first | rfl | simp [Cond.onTables, Cond.keeps, Cond.steady])) hini)
  obtain ⟨hx, hb, hml, ho, -⟩ := S
  intro T hT X
  obtain ⟨v, vm₁, ⟨U', l2, c2, s2⟩, hW₁, X', ⟨g', mk, t, L, e1, e2, hq, h1, hL, h2, h3⟩, st⟩ := vx_callSW X hx (hh := hh) (bytes := bytes) (maxL := maxL) (ret := ret) ho hl hstt hini hcode hy hK hg (hsize.trans hml.symm) (argsL := As) (rest := rest) (fun sig h => hn.trans (hlen sig h)) hstack hW (by rw [hb]; exact hdg)
    (fun vm₁ hW₁ => ⟨hf.1, hf.2, hp.2 (T.setVm vm₁) hT hW₁⟩)
  dsimp only [Pt.U, Pt.locs, Pt.cells, Pt.slots] at X' e1 e2 h1 h2 h3 st
  subst h1; subst h2; subst h3
  exact ⟨v, (T.setVm vm₁).calling g' mk As.toArray, t, U', L, hT, X', hL, e1, e2, hq, st⟩
/-- not caught here, past rows that name other classes: it goes on to the caller -/
theorem vx_outP {p : Program} {l : Launch} {e : Env} {R : Room} {s : State} {m : MethodId} {args : Array Value} {below : List Frame} {meth : Method} {c : Code} {H : Heap} {locs : List Loc} {cells slots : Nat} {free : Addr → Prop} {ls : Array Slot} {rest : List Value} {Qc : Array Value → State → Outcome → State → Prop} {XC : String → State → State → Prop}
    {pc : Nat} {own E : String} {ce : Cell} {q : Addr} {mc ms : Nat} (hown : s.vm.findClass own = some m.cls) (hlocks : meth.locks = false)
    (hpass : ∀ z ∈ c.exceptionTable.toList, covers z pc = false ∨ (z.catchType ≠ 0 ∧ ∃ nm : String, (Cond.classLink own z.catchType nm).before args s = true ∧ va_Nc E nm s)) (hcell : H[q]? = some ce) (hv : ce.vm = .none) (hcl : s.vm.findClass E = some ce.cls)
    (hx : ∀ t : State, t.heap = H → s.vm.Alike t.vm → XC E s t) (hf : ∀ z ∈ locs, free z.base) (hc : cells ≤ mc) (hs : slots ≤ ms) :
    vx_W p l e R s m args below meth c H locs cells slots (vx_MQ below Qc XC args s mc ms free) (F0 m pc ls rest) q := by
  intro T hT X
  have hpl : e.platform.magicAccessors = ({} : Platform).magicAccessors := by rw [X.admits.platform]
  obtain ⟨vm', hW', X', st⟩ := X.outThrough hlocks q (g := F0 m pc ls rest) rfl rfl rfl (cell := ce) (by rw [hT]; exact hcell) (by rw [hv]; rfl)
    (by obtain ⟨k9, h9, -⟩ := Vm.findClass_spec hcl; exact ⟨k9, h9⟩) (fun z hz => by
      rcases hpass z hz with h | ⟨hz0, nm, hl1, hn1⟩
      · exact Or.inl h
      · obtain ⟨c6, hc6, hcl6⟩ := Cond.classLink_spec hown hl1 e.platform hpl
        obtain ⟨a8, b8, h1, h2, h3⟩ := hn1
        cases Option.some.inj (h1.symm.trans hcl)
        cases Option.some.inj (h2.symm.trans hc6)
        exact Or.inr ⟨hz0, _, hcl6, h3⟩)
  obtain ⟨g₀, hfr⟩ := X'.frames_eq
  have hcell9 : ((T.setVm vm').setFrames (.throwing q :: below)).heap[q]? = some ce := by
    show T.heap[q]? = some ce
    rw [hT]; exact hcell
  have hend : Ended ((T.setVm vm').setFrames (.throwing q :: below)) below (.threw q) := State.frames_setFrames _ (State.cur_lt_of_frames hfr)
  refine ⟨(T.setVm vm').setFrames (.throwing q :: below), ?_, .threw q, X'.here.running, hend, Or.inr ⟨q, rfl, E, ce, locs, hx _ hT (X'.ends _).1.alike, hcell9, hv, hcl, (X'.ends _).1, (X'.ends _).2.mono hc hs, hf⟩⟩
  rw [X.pushThrowing_eq]
  exact st
/-- a thing of a world lies in the heap -/
theorem vx_lt {D : va_G} {cl : List vw_C} {ws : va_W} {H1 : Heap} (h : va_P D cl ws H1) {k : Nat} {q : Nat × va_E} (hk : ws[k]? = some q) : q.1 < H1.size := (h k q hk).lt
end VXS
/-! ===== END ===== -/
/-! ===== BEGIN methods with a table of their own: called by a name, returning or throwing ===== -/
section VXH
/-! vx_backW, vx_callVX, vx_callSX, vx_callVW, vx_runVW, vx_runVX, vx_runSX, vx_ofWH follow the same proofs as their sisters above (Free/Laws.lean, Shelf42/LK1.lean); vx_outP calls Shelf42/NT130.lean (outThrough). -/
section
variable {l : Launch} {R : Room} {p : Program} {e : Env} {below : List Frame} {s : State} {sargs : Array Value} {y : MethodName} {len W9 : Nat}
theorem vx_backW {ws : List Cond} {rm : Room} {Pc : Array Value → State → Prop} {Qc : Array Value → State → Outcome → State → Prop} {XC : String → State → State → Prop} {mc ms : Nat} {free : Addr → Prop} {bytes : ByteArray} {maxL : Nat} {ret : Option FieldType} {hh : List (Nat × Nat × Nat × Nat)}
    (hM : vx_Met l y ws rm Pc Qc XC mc ms free) (hblind : FrameBlind Pc) (hrc : rm.cells = mc) (hrs : rm.slots = ms)
    (hframes : rm.frames + 1 ≤ R.frames) (hlocals : W9 + (maxL + 11) + rm.locals ≤ R.locals)
    (hws : ∀ w ∈ ws, ∀ a' U, s.WarmedH U.vm → w.before a' U = true) (hcode : Cond.codeWith y bytes maxL ret hh ∈ ws) (hinit : ∀ a' U, s.WarmedH U.vm → (Cond.initialized y.cls).before a' U = true) :
    vx_Back l R p e below s sargs y len W9 (PreOf R mc ms Pc) (PostOf Qc mc ms free) (vx_Post XC mc ms free) := by
  intro m meth c A g ig mk a X hg hsize hdg hW hn hp
  have h1 : (headSpec ws rm).pre.before a A.U = true := atoms_intro fun w hw => hws w hw _ _ X.warmed
  have h2 : (Cond.codeWith y bytes maxL ret hh).before a A.U = true := hws _ hcode _ _ X.warmed
  have h3 : (Cond.initialized y.cls).before a A.U = true := hinit _ _ X.warmed
  have h4 : A.cells + (headSpec ws rm).room.cells ≤ R.cells := by rw [show (headSpec ws rm).room.cells = mc from hrc]; exact hp.1
  have h5 : A.slots + (headSpec ws rm).room.slots ≤ R.slots := by rw [show (headSpec ws rm).room.slots = ms from hrs]; exact hp.2.1
  have hPc : Pc a (A.U.calling g mk a) := hblind _ _ _ _ hp.2.2
  obtain ⟨U, Ls, c0, s0⟩ := A
  dsimp only [Pt.U, Pt.locs, Pt.cells, Pt.slots] at h1 h2 h3 h4 h5 X hn hPc ⊢
  obtain ⟨m9, methY, cY, hn9, hmY, hcY, -, hlY, -⟩ := Cond.codeWith_spec h2
  cases Option.some.inj (hn9.symm.trans hn)
  obtain ⟨kY, hkY, -⟩ := className_of_methodNamed hn
  have hinitY : kY.init = .initialized := Cond.initialized_spec (findClass_of_methodNamed hn) hkY h3
  have h : At U g.method c below := by rw [hg]; exact X.here
  have hlocals9 : W9 + (maxL + 11) + (headSpec ws rm).room.locals ≤ R.locals := hlocals
  have happ : (headSpec ws rm).appliesLoose y e.platform (U.calling g mk a) = true :=
    Spec.appliesLoose_calling (g := g) h hdg hn hkY hinitY
      (X.room_calling (g := g) (R' := (headSpec ws rm).room) hsize hmY hcY hframes (by rw [hlY]; omega) h4 h5) h1
  obtain ⟨mid, hmid⟩ := h.above
  have hfr : (U.setTop g).frames = (.java g :: mid) ++ below := by rw [State.frames_setTop' g h.top, hmid]; rfl
  obtain ⟨o, s₂, hsteps, -, hend, hq⟩ := Steps.callFree hM p X.admits X.cas X.clock (acts := []) hfr happ hPc trivial
  have hq' : vx_Q Qc XC mc ms free a (U.calling g mk a) o s₂ := hq
  rw [State.frames_setTop' g h.top] at hend
  obtain ⟨g₀, hg0⟩ := Option.isSome_iff_exists.mp h.top
  obtain ⟨r, hr⟩ := State.topJava?_eq_some.mp hg0
  have hr' : (({ U with heap := s₂.heap, slotsUsed := s₂.slotsUsed } : State).setVm s₂.vm).frames = .java g₀ :: r := hr
  rcases hq' with ⟨hqc, L, hfe, hL⟩ | ⟨q, rfl, E, ce, L, hx, hce, hcv, hcl, hW₂, hsm, hL⟩
  · obtain ⟨⟨v, rfl⟩, hW₂, e2, q2, q3, q4, q5, q6⟩ := id hfe
    have e3 : s₂ = ({ (U.calling g mk a).setFrames s₂.frames with heap := s₂.heap, slotsUsed := s₂.slotsUsed } : State).setVm s₂.vm := by
      have : s₂ = ({ s₂ with vm := (U.calling g mk a).vm } : State).setVm s₂.vm := rfl
      rw [e2] at this
      exact this
    obtain ⟨c₂, i₂, len₂, hc₂, hd₂, hf₂⟩ := hend
    have hW' : U.WarmedH s₂.vm := hW₂
    have hcc : c₂ = c := by
      have h1 : s₂.code? g.method = U.code? g.method := by
        rw [State.code?_eq, State.code?_eq, hW'.alike.method?]
      exact Option.some.inj (hc₂.symm.trans (h1.trans h.code))
    subst hcc
    have hlen : len₂ = len := by rw [hdg] at hd₂; cases hd₂; rfl
    subst hlen
    have hs₂ : s₂ = (({ U with heap := s₂.heap, slotsUsed := s₂.slotsUsed } : State).setVm s₂.vm).setTop { g with pc := g.pc + len₂, stack := v.toList ++ g.stack } := by
      refine e3.trans ?_
      rw [hf₂, State.calling_eq h.top, State.setFrames_setFrames, State.setTop_of_frames _ hr', hr]
      rfl
    have hsame : U.sameButNew ({ U with heap := s₂.heap, slotsUsed := s₂.slotsUsed } : State) L mc ms := by
      refine ⟨?_, q2, q3, q4, q5, q6⟩
      obtain ⟨t, ht, -⟩ := State.frames_cons hr
      show ({ U with heap := s₂.heap, slotsUsed := s₂.slotsUsed } : State) = { U.setFrames U.frames with heap := s₂.heap, slotsUsed := s₂.slotsUsed }
      rw [State.setFrames_self ht]
    subst hg
    refine Or.inl ⟨v, ⟨(({ U with heap := s₂.heap, slotsUsed := s₂.slotsUsed } : State).setVm s₂.vm), Ls ++ L, c0 + mc, s0 + ms⟩,
      ⟨X.admits, X.cas, X.clock, X.frames, X.room, X.hears, X.method, X.code, (X.here.setHeapUsed s₂.heap s₂.slotsUsed).setVm hW'.alike, X.tail, State.WarmedH.trans X.warmed hW', X.limits, X.bytes, X.same.trans (hsame.setVm s.vm)⟩,
      ⟨g, mk, s₂, L, rfl, rfl, hqc, rfl, hL, rfl, rfl⟩, ?_⟩
    show Steps p.tables e below _ ((({ U with heap := s₂.heap, slotsUsed := s₂.slotsUsed } : State).setVm s₂.vm).setTop { g with pc := g.pc + len₂, stack := v.toList ++ g.stack })
    rw [← hs₂]
    exact hsteps
  · obtain ⟨e2, q2, q3, q4, q5, q6⟩ := id hsm
    have e3 : s₂ = ({ (U.calling g mk a).setFrames s₂.frames with heap := s₂.heap, slotsUsed := s₂.slotsUsed } : State).setVm s₂.vm := by
      have : s₂ = ({ s₂ with vm := (U.calling g mk a).vm } : State).setVm s₂.vm := rfl
      rw [e2] at this
      exact this
    have hf₂ : s₂.frames = .throwing q :: .java g :: U.frames.tail := hend
    have hW' : U.WarmedH s₂.vm := hW₂
    have hs₂ : s₂ = ((({ U with heap := s₂.heap, slotsUsed := s₂.slotsUsed } : State).setVm s₂.vm).setTop g).pushFrame (.throwing q) := by
      refine e3.trans ?_
      rw [hf₂, State.calling_eq h.top, State.setFrames_setFrames, State.pushFrame, State.frames_setTop _ hr', State.setTop_of_frames _ hr', State.setFrames_setFrames, hr]
      rfl
    have hsame : U.sameButNew ({ U with heap := s₂.heap, slotsUsed := s₂.slotsUsed } : State) L mc ms := by
      refine ⟨?_, q2, q3, q4, q5, q6⟩
      obtain ⟨t, ht, -⟩ := State.frames_cons hr
      show ({ U with heap := s₂.heap, slotsUsed := s₂.slotsUsed } : State) = { U.setFrames U.frames with heap := s₂.heap, slotsUsed := s₂.slotsUsed }
      rw [State.setFrames_self ht]
    subst hg
    refine Or.inr ⟨q, ⟨(({ U with heap := s₂.heap, slotsUsed := s₂.slotsUsed } : State).setVm s₂.vm), Ls ++ L, c0 + mc, s0 + ms⟩,
      ⟨X.admits, X.cas, X.clock, X.frames, X.room, X.hears, X.method, X.code, (X.here.setHeapUsed s₂.heap s₂.slotsUsed).setVm hW'.alike, X.tail, State.WarmedH.trans X.warmed hW', X.limits, X.bytes, X.same.trans (hsame.setVm s.vm)⟩,
      ⟨g, mk, s₂, L, E, ce, rfl, rfl, hx, hce, hcv, hcl, rfl, hL, rfl, rfl⟩, ?_⟩
    show Steps p.tables e below _ (((({ U with heap := s₂.heap, slotsUsed := s₂.slotsUsed } : State).setVm s₂.vm).setTop g).pushFrame (.throwing q))
    rw [← hs₂]
    exact hsteps
end
variable {p : Program} {l : Launch} {e : Env} {R : Room} {s : State} {m : MethodId} {args : Array Value} {below : List Frame} {meth : Method} {c : Code} {T : State} {H : Heap} {locs : List Loc} {cells slots : Nat}
theorem vx_callVX (X : Stand p l e R s m args below meth c T locs cells slots) (hexec : p.tables.exec = Jvm.exec) {own C : String} {index : Nat} {y : MethodName} {bytes : ByteArray} {maxL : Nat} {ret : Option FieldType} {hh : List (Nat × Nat × Nat × Nat)}
    (hown : s.vm.findClass own = some m.cls) (hlink : (Cond.methodLink own index y).before args s = true) (hinst : (Cond.instanceMethod y).before args s = true) (hsel : (Cond.selects C y y).before args s = true)
    (hcode : (Cond.codeWith y bytes maxL ret hh).before args s = true) (hy : y.cls ≠ "java/lang/invoke/MethodHandle" ∧ y.cls ≠ "java/lang/invoke/VarHandle")
    {W9 : Nat} {Pre : Pt → Array Value → Prop} {Post : Pt → Array Value → Option Value → Pt → Prop} {PostX : Pt → Array Value → Addr → Pt → Prop} (hK : vx_Back l R p e below s args y 3 W9 Pre Post PostX)
    {b : Addr} {cellB : Cell} (hcell : T.heap[b]? = some cellB) (hobj : cellB.vm.isStatics = false) (hcls : s.vm.findClass C = some cellB.cls)
    {g : JFrame} (hg : g.method = m) (hsize : g.locals.size = c.maxLocals) {argsL rest : List Value} (hlen : ∀ sig, parseMethodDescriptor y.desc = some sig → argsL.length = sig.parameters.length)
    (hstack : g.stack = argsL.reverse ++ .ref b :: rest) (hW : 2 * g.monitorRoom + (rest.map fun v => v.category).sum ≤ W9) (hdg : decode c.code g.pc = .ok (.invokevirtual index, 3))
    (hpre : ∀ vm₁, s.WarmedH vm₁ → Pre ⟨T.setVm vm₁, locs, cells, slots⟩ (Value.ref b :: argsL).toArray) :
    (∃ (v : Option Value) (vm₁ : Vm) (B : Pt), s.WarmedH vm₁ ∧ Stand p l e R s m args below meth c B.U B.locs B.cells B.slots ∧ Post ⟨T.setVm vm₁, locs, cells, slots⟩ (Value.ref b :: argsL).toArray v B ∧
      ∀ target, Steps p.tables e below (B.U.setTop { g with pc := g.pc + 3, stack := v.toList ++ rest }) target → Steps p.tables e below (T.setTop g) target) ∨
    (∃ (q : Addr) (vm₁ : Vm) (B : Pt), s.WarmedH vm₁ ∧ Stand p l e R s m args below meth c B.U B.locs B.cells B.slots ∧ PostX ⟨T.setVm vm₁, locs, cells, slots⟩ (Value.ref b :: argsL).toArray q B ∧
      Steps p.tables e below (T.setTop g) ((B.U.setTop { g with stack := rest }).pushFrame (.throwing q))) := by
  obtain ⟨mk, methM, hnamed, hmethM, hstM, habM⟩ := Cond.instanceMethod_spec hinst
  obtain ⟨m8, methM', cM, hn8, hmethM', -, -, -, -, -, -, hsigM⟩ := Cond.codeWith_spec hcode
  cases Option.some.inj (hn8.symm.trans hnamed)
  cases hmethM.symm.trans hmethM'
  obtain ⟨c2, r2, m2, q1, q2, q3, q4, kP, hkP, hkPi⟩ := Cond.selects_spec hsel
  cases hcls.symm.trans q1
  cases (State.methodFound?_of_named hnamed hy).symm.trans q2
  cases hnamed.symm.trans q3
  have hselP : selectMethod e.platform s.vm cellB.cls mk = .method mk := by rw [Launch.admits_selectMethod X.admits]; exact q4
  obtain ⟨vm₁, X₁, hstep₁⟩ := X.invokevirtual hexec hown hlink hnamed hmethM hstM hkP hkPi hy (a := b) (cell := cellB) hcell
    (fun z h => by rw [h] at hobj; cases hobj) hselP hmethM habM hkP hkPi (g := g) hg (argsL := argsL) (rest := rest) (hlen _ hsigM) hstack hdg
  rcases hK m meth c ⟨T.setVm vm₁, locs, cells, slots⟩ { g with stack := rest } (.invokevirtual index) mk (Value.ref b :: argsL).toArray X₁ hg hsize hdg hW (X₁.named hnamed) (hpre vm₁ X₁.warmed) with ⟨v, B, X', hpost, hsteps⟩ | ⟨q, B, X', hpost, hsteps⟩
  · exact Or.inl ⟨v, vm₁, B, X₁.warmed, X', hpost, fun target h => hstep₁ _ fun acts => by rw [doInvoke_state]; exact hsteps.trans h⟩
  · exact Or.inr ⟨q, vm₁, B, X₁.warmed, X', hpost, hstep₁ _ fun acts => by rw [doInvoke_state]; exact hsteps⟩
theorem vx_callSX (X : Stand p l e R s m args below meth c T locs cells slots) (hexec : p.tables.exec = Jvm.exec) {own : String} {index : Nat} {y : MethodName} {bytes : ByteArray} {maxL : Nat} {ret : Option FieldType} {hh : List (Nat × Nat × Nat × Nat)}
    (hown : s.vm.findClass own = some m.cls) (hlink : (Cond.methodLink own index y).before args s = true) (hstat : (Cond.static y).before args s = true) (hinit : (Cond.initialized y.cls).before args s = true)
    (hcode : (Cond.codeWith y bytes maxL ret hh).before args s = true) (hy : y.cls ≠ "java/lang/invoke/MethodHandle" ∧ y.cls ≠ "java/lang/invoke/VarHandle")
    {W9 : Nat} {Pre : Pt → Array Value → Prop} {Post : Pt → Array Value → Option Value → Pt → Prop} {PostX : Pt → Array Value → Addr → Pt → Prop} (hK : vx_Back l R p e below s args y 3 W9 Pre Post PostX)
    {g : JFrame} (hg : g.method = m) (hsize : g.locals.size = c.maxLocals) {argsL rest : List Value} (hlen : ∀ sig, parseMethodDescriptor y.desc = some sig → argsL.length = sig.parameters.length)
    (hstack : g.stack = argsL.reverse ++ rest) (hW : 2 * g.monitorRoom + (rest.map fun v => v.category).sum ≤ W9) (hdg : decode c.code g.pc = .ok (.invokestatic index, 3))
    (hpre : ∀ vm₁, s.WarmedH vm₁ → Pre ⟨T.setVm vm₁, locs, cells, slots⟩ argsL.toArray) :
    (∃ (v : Option Value) (vm₁ : Vm) (B : Pt), s.WarmedH vm₁ ∧ Stand p l e R s m args below meth c B.U B.locs B.cells B.slots ∧ Post ⟨T.setVm vm₁, locs, cells, slots⟩ argsL.toArray v B ∧
      ∀ target, Steps p.tables e below (B.U.setTop { g with pc := g.pc + 3, stack := v.toList ++ rest }) target → Steps p.tables e below (T.setTop g) target) ∨
    (∃ (q : Addr) (vm₁ : Vm) (B : Pt), s.WarmedH vm₁ ∧ Stand p l e R s m args below meth c B.U B.locs B.cells B.slots ∧ PostX ⟨T.setVm vm₁, locs, cells, slots⟩ argsL.toArray q B ∧
      Steps p.tables e below (T.setTop g) ((B.U.setTop { g with stack := rest }).pushFrame (.throwing q))) := by
  obtain ⟨mk, methM, cM, hnamed, hmethM, -, -, -, -, -, -, hsigM⟩ := Cond.codeWith_spec hcode
  have hstatic : methM.isStatic = true := Cond.static_spec hnamed hmethM hstat
  obtain ⟨kP, hkP, -⟩ := className_of_methodNamed hnamed
  have hinitP : kP.init = .initialized := Cond.initialized_spec (findClass_of_methodNamed hnamed) hkP hinit
  obtain ⟨vm₁, X₁, hstep₁⟩ := X.invokestatic hexec hown hlink hnamed hmethM hstatic hkP hinitP hy (g := g) hg (argsL := argsL) (rest := rest) (hlen _ hsigM) hstack hdg
  rcases hK m meth c ⟨T.setVm vm₁, locs, cells, slots⟩ { g with stack := rest } (.invokestatic index) mk argsL.toArray X₁ hg hsize hdg hW (X₁.named hnamed) (hpre vm₁ X₁.warmed) with ⟨v, B, X', hpost, hsteps⟩ | ⟨q, B, X', hpost, hsteps⟩
  · exact Or.inl ⟨v, vm₁, B, X₁.warmed, X', hpost, fun target h => hstep₁ _ fun acts => by rw [doInvoke_state]; exact hsteps.trans h⟩
  · exact Or.inr ⟨q, vm₁, B, X₁.warmed, X', hpost, hstep₁ _ fun acts => by rw [doInvoke_state]; exact hsteps⟩
theorem vx_callVW (X : Stand p l e R s m args below meth c T locs cells slots) (hexec : p.tables.exec = Jvm.exec) {own C : String} {index : Nat} {y : MethodName} {bytes : ByteArray} {maxL : Nat} {ret : Option FieldType} {hh : List (Nat × Nat × Nat × Nat)}
    (hown : s.vm.findClass own = some m.cls) (hlink : (Cond.methodLink own index y).before args s = true) (hinst : (Cond.instanceMethod y).before args s = true) (hsel : (Cond.selects C y y).before args s = true)
    (hcode : (Cond.codeWith y bytes maxL ret hh).before args s = true) (hy : y.cls ≠ "java/lang/invoke/MethodHandle" ∧ y.cls ≠ "java/lang/invoke/VarHandle")
    {W9 : Nat} {Pre : Pt → Array Value → Prop} {Post : Pt → Array Value → Option Value → Pt → Prop} (hK : Back l R p e below s args y 3 W9 Pre Post)
    {b : Addr} {cellB : Cell} (hcell : T.heap[b]? = some cellB) (hobj : cellB.vm.isStatics = false) (hcls : s.vm.findClass C = some cellB.cls)
    {g : JFrame} (hg : g.method = m) (hsize : g.locals.size = c.maxLocals) {argsL rest : List Value} (hlen : ∀ sig, parseMethodDescriptor y.desc = some sig → argsL.length = sig.parameters.length)
    (hstack : g.stack = argsL.reverse ++ .ref b :: rest) (hW : 2 * g.monitorRoom + (rest.map fun v => v.category).sum ≤ W9) (hdg : decode c.code g.pc = .ok (.invokevirtual index, 3))
    (hpre : ∀ vm₁, s.WarmedH vm₁ → Pre ⟨T.setVm vm₁, locs, cells, slots⟩ (Value.ref b :: argsL).toArray) :
    ∃ (v : Option Value) (vm₁ : Vm) (B : Pt), s.WarmedH vm₁ ∧ Stand p l e R s m args below meth c B.U B.locs B.cells B.slots ∧ Post ⟨T.setVm vm₁, locs, cells, slots⟩ (Value.ref b :: argsL).toArray v B ∧
      ∀ target, Steps p.tables e below (B.U.setTop { g with pc := g.pc + 3, stack := v.toList ++ rest }) target → Steps p.tables e below (T.setTop g) target := by
  obtain ⟨mk, methM, hnamed, hmethM, hstM, habM⟩ := Cond.instanceMethod_spec hinst
  obtain ⟨m8, methM', cM, hn8, hmethM', -, -, -, -, -, -, hsigM⟩ := Cond.codeWith_spec hcode
  cases Option.some.inj (hn8.symm.trans hnamed)
  cases hmethM.symm.trans hmethM'
  obtain ⟨c2, r2, m2, q1, q2, q3, q4, kP, hkP, hkPi⟩ := Cond.selects_spec hsel
  cases hcls.symm.trans q1
  cases (State.methodFound?_of_named hnamed hy).symm.trans q2
  cases hnamed.symm.trans q3
  have hselP : selectMethod e.platform s.vm cellB.cls mk = .method mk := by rw [Launch.admits_selectMethod X.admits]; exact q4
  obtain ⟨vm₁, X₁, hstep₁⟩ := X.invokevirtual hexec hown hlink hnamed hmethM hstM hkP hkPi hy (a := b) (cell := cellB) hcell
    (fun z h => by rw [h] at hobj; cases hobj) hselP hmethM habM hkP hkPi (g := g) hg (argsL := argsL) (rest := rest) (hlen _ hsigM) hstack hdg
  obtain ⟨v, B, X', hpost, hsteps⟩ := hK m meth c ⟨T.setVm vm₁, locs, cells, slots⟩ { g with stack := rest } (.invokevirtual index) mk (Value.ref b :: argsL).toArray X₁ hg hsize hdg hW (X₁.named hnamed) (hpre vm₁ X₁.warmed)
  exact ⟨v, vm₁, B, X₁.warmed, X', hpost, fun target h => hstep₁ _ fun acts => by rw [doInvoke_state]; exact hsteps.trans h⟩
abbrev vx_CVW (R : Room) (s : State) (args : Array Value) (own C : String) (index : Nat) (y : MethodName) (bytes : ByteArray) (maxL : Nat) (ret : Option FieldType) (hh : List (Nat × Nat × Nat × Nat)) (ws : List Cond) (rm : Room) (mc ms n : Nat) : Prop :=
  (rm.cells = mc ∧ rm.slots = ms ∧ rm.frames + 1 ≤ R.frames ∧ 8 + (maxL + 11) + rm.locals ≤ R.locals ∧ (∀ w ∈ ws, ∀ (a' : Array Value) (U : State), s.WarmedH U.vm → w.before a' U = true) ∧ Cond.codeWith y bytes maxL ret hh ∈ ws) ∧
  (Cond.codeWith y bytes maxL ret hh).before args s = true ∧ (Cond.initialized y.cls).before args s = true ∧ (y.cls ≠ "java/lang/invoke/MethodHandle" ∧ y.cls ≠ "java/lang/invoke/VarHandle") ∧
  (∀ sig, parseMethodDescriptor y.desc = some sig → n = sig.parameters.length) ∧ (Cond.methodLink own index y).before args s = true ∧ (Cond.instanceMethod y).before args s = true ∧ (Cond.selects C y y).before args s = true
theorem vx_cwVW {own C : String} {index maxL mc ms : Nat} {y : MethodName} {bytes : ByteArray} {ret : Option FieldType} {hh : List (Nat × Nat × Nat × Nat)} {Ts ws ws' : List Cond} {rm : Room} (n : Nat) (ht : ∀ w ∈ Ts, w.before args s = true) (hT : GoodIn Ts (wsV own index C y ws)) (hw : ws = Cond.codeWith y bytes maxL ret hh :: ws') (hrc : rm.cells = mc) (hrs : rm.slots = ms)
    (hd : y.cls = C ∧ y.cls ≠ "java/lang/invoke/MethodHandle" ∧ y.cls ≠ "java/lang/invoke/VarHandle" ∧ (parseMethodDescriptor y.desc).map (fun d => d.parameters.length) = some n) (hR : rm.frames + 1 ≤ R.frames ∧ 8 + (maxL + 11) + rm.locals ≤ R.locals) :
    vx_CVW R s args own C index y bytes maxL ret hh ws rm mc ms n := by
  obtain ⟨hC, hd⟩ := hd
  subst hC
  have ok : ∀ w ∈ wsV own index y.cls y ws, w.before args s = true := fun w h => ht w (hT w h).1
  have hG : GoodIn Ts ws := fun w h => hT w (by unfold wsV; exact List.mem_append_right _ h)
  have hc : Cond.codeWith y bytes maxL ret hh ∈ ws := by rw [hw]; exact List.mem_cons_self
  refine ⟨⟨hrc, hrs, hR.1, hR.2, pay_in ht hG, hc⟩, ht _ (hG _ hc).1, ok _ (by simp [wsV]), ⟨hd.1, hd.2.1⟩, fun sig h => ?_, ok _ (by simp [wsV]), ok _ (by simp [wsV]), ok _ (by simp [wsV])⟩
  have h2 := hd.2.2
  rw [h] at h2
  exact (Option.some.inj h2).symm
theorem vx_runVW {y : MethodName} {bytes cc : ByteArray} {maxL nL mc ms n index : Nat} {ret : Option FieldType} {hh : List (Nat × Nat × Nat × Nat)} {ws : List Cond} {rm : Room} {Pc : Array Value → State → Prop} {Qc : Array Value → State → Outcome → State → Prop} {free : Addr → Prop} {Ts : List Cond} {own C : String} {b : Addr} {As rest : List Value} {g : JFrame}
    (S : CallFix p m c cc nL s args Ts own) (hM : Met l y ws rm Pc Qc mc ms free) (cw : vx_CVW R s args own C index y bytes maxL ret hh ws rm mc ms n) (hp : PreV s H C b Pc As)
    (hg : g.method = m) (hn : As.length = n) (hsize : g.locals.size = nL) (hstack : g.stack = As.reverse ++ .ref b :: rest) (hW : 2 * g.monitorRoom + (rest.map fun v => v.category).sum ≤ 8) (hdg : decode cc g.pc = .ok (.invokevirtual index, 3)) (hf : cells + mc ≤ R.cells ∧ slots + ms ≤ R.slots) :
    va_Run p l e R s m args below meth c H locs cells slots mc ms g rest (Qc (Value.ref b :: As).toArray) free := by
  obtain ⟨⟨hrc, hrs, hfr, hlo, hws, hcw⟩, hcode, hini, hy, hlen, hl, hin, hse⟩ := cw
  have hK : Back l R p e below s args y 3 8 (PreOf R mc ms Pc) (PostOf Qc mc ms free) := va_backW (hh := hh) (bytes := bytes) (maxL := maxL) (ret := ret) hM hp.1 hrc hrs hfr hlo hws hcw (fun a' U hW => word_at hW (Or.inl (by first | rfl | simp [Cond.onTables, Cond.keeps, Cond.steady])) hini)
  obtain ⟨hx, hb, hml, ho, -⟩ := S
  obtain ⟨-, ⟨cellB, hcB, hoB, hclB⟩, hPc⟩ := hp
  intro T hT X
  obtain ⟨v, vm₁, ⟨U', l2, c2, s2⟩, hW₁, X', ⟨g', mk, t, L, e1, e2, hq, h1, hL, h2, h3⟩, st⟩ := vx_callVW X hx (C := C) (hh := hh) (bytes := bytes) (maxL := maxL) (ret := ret) ho hl hin hse hcode hy hK (by rw [hT]; exact hcB) hoB hclB hg (hsize.trans hml.symm) (argsL := As) (rest := rest) (fun sig h => hn.trans (hlen sig h)) hstack hW (by rw [hb]; exact hdg)
    (fun vm₁ hW₁ => ⟨hf.1, hf.2, hPc (T.setVm vm₁) hT hW₁⟩)
  dsimp only [Pt.U, Pt.locs, Pt.cells, Pt.slots] at X' e1 e2 h1 h2 h3 st
  subst h1; subst h2; subst h3
  exact ⟨v, (T.setVm vm₁).calling g' mk (Value.ref b :: As).toArray, t, U', L, hT, X', hL, e1, e2, hq, st⟩
section
variable {y : MethodName} {bytes cc : ByteArray} {maxL nL mc ms n index : Nat} {ret : Option FieldType} {ws : List Cond} {rm : Room} {Pc : Array Value → State → Prop} {Qc : Array Value → State → Outcome → State → Prop} {XC : String → State → State → Prop} {free : Addr → Prop} {Ts : List Cond} {own C : String} {b : Addr} {As rest : List Value} {g : JFrame}
theorem vx_runVX {hh : List (Nat × Nat × Nat × Nat)} (S : CallFix p m c cc nL s args Ts own) (hM : vx_Met l y ws rm Pc Qc XC mc ms free) (cw : vx_CVW R s args own C index y bytes maxL ret hh ws rm mc ms n) (hp : PreV s H C b Pc As)
    (hg : g.method = m) (hn : As.length = n) (hsize : g.locals.size = nL) (hstack : g.stack = As.reverse ++ .ref b :: rest) (hW : 2 * g.monitorRoom + (rest.map fun v => v.category).sum ≤ 8) (hdg : decode cc g.pc = .ok (.invokevirtual index, 3)) (hf : cells + mc ≤ R.cells ∧ slots + ms ≤ R.slots) :
    vx_Run p l e R s m args below meth c H locs cells slots mc ms g rest (Qc (Value.ref b :: As).toArray) XC free := by
  obtain ⟨⟨hrc, hrs, hfr, hlo, hws, hcw⟩, hcode, hini, hy, hlen, hl, hin, hse⟩ := cw
  have hK : vx_Back l R p e below s args y 3 8 (PreOf R mc ms Pc) (PostOf Qc mc ms free) (vx_Post XC mc ms free) := vx_backW (hh := hh) (bytes := bytes) (maxL := maxL) (ret := ret) hM hp.1 hrc hrs hfr hlo hws hcw (fun a' U hW => word_at hW (Or.inl (by first | rfl | simp [Cond.onTables, Cond.keeps, Cond.steady])) hini)
  obtain ⟨hx, hb, hml, ho, -⟩ := S
  obtain ⟨-, ⟨cellB, hcB, hoB, hclB⟩, hPc⟩ := hp
  intro T hT X
  rcases vx_callVX X hx (C := C) (hh := hh) (bytes := bytes) (maxL := maxL) (ret := ret) ho hl hin hse hcode hy hK (by rw [hT]; exact hcB) hoB hclB hg (hsize.trans hml.symm) (argsL := As) (rest := rest) (fun sig h => hn.trans (hlen sig h)) hstack hW (by rw [hb]; exact hdg)
    (fun vm₁ hW₁ => ⟨hf.1, hf.2, hPc (T.setVm vm₁) hT hW₁⟩) with ⟨v, vm₁, ⟨U', l2, c2, s2⟩, hW₁, X', ⟨g', mk, t, L, e1, e2, hq, h1, hL, h2, h3⟩, st⟩ | ⟨q, vm₁, ⟨U', l2, c2, s2⟩, hW₁, X', ⟨g', mk, t, L, E, ce, e1, e2, hq, hce, hcv, hcl, h1, hL, h2, h3⟩, st⟩
  · dsimp only [Pt.U, Pt.locs, Pt.cells, Pt.slots] at X' e1 e2 h1 h2 h3 st
    subst h1; subst h2; subst h3
    exact Or.inl ⟨v, (T.setVm vm₁).calling g' mk (Value.ref b :: As).toArray, t, U', L, hT, X', hL, e1, e2, hq, st⟩
  · dsimp only [Pt.U, Pt.locs, Pt.cells, Pt.slots] at X' e1 e2 h1 h2 h3 st hcl
    subst h1; subst h2; subst h3
    exact Or.inr ⟨q, (T.setVm vm₁).calling g' mk (Value.ref b :: As).toArray, t, U', L, E, ce, hT, X', hL, e1, e2, hq, hce, hcv, vx_cls hW₁ hcl, st⟩
theorem vx_runSX {hh : List (Nat × Nat × Nat × Nat)} (S : CallFix p m c cc nL s args Ts own) (hM : vx_Met l y ws rm Pc Qc XC mc ms free) (cw : vx_CSW R s args own index y bytes maxL ret hh ws rm mc ms n) (hp : PreS s H Pc As)
    (hg : g.method = m) (hn : As.length = n) (hsize : g.locals.size = nL) (hstack : g.stack = As.reverse ++ rest) (hW : 2 * g.monitorRoom + (rest.map fun v => v.category).sum ≤ 8) (hdg : decode cc g.pc = .ok (.invokestatic index, 3)) (hf : cells + mc ≤ R.cells ∧ slots + ms ≤ R.slots) :
    vx_Run p l e R s m args below meth c H locs cells slots mc ms g rest (Qc As.toArray) XC free := by
  obtain ⟨⟨hrc, hrs, hfr, hlo, hws, hcw⟩, hcode, hini, hy, hlen, hl, hstt⟩ := cw
  have hK : vx_Back l R p e below s args y 3 8 (PreOf R mc ms Pc) (PostOf Qc mc ms free) (vx_Post XC mc ms free) := vx_backW (hh := hh) (bytes := bytes) (maxL := maxL) (ret := ret) hM hp.1 hrc hrs hfr hlo hws hcw (fun a' U hW => word_at hW (Or.inl (by first | rfl | simp [Cond.onTables, Cond.keeps, Cond.steady])) hini)
  obtain ⟨hx, hb, hml, ho, -⟩ := S
  intro T hT X
  rcases vx_callSX X hx (hh := hh) (bytes := bytes) (maxL := maxL) (ret := ret) ho hl hstt hini hcode hy hK hg (hsize.trans hml.symm) (argsL := As) (rest := rest) (fun sig h => hn.trans (hlen sig h)) hstack hW (by rw [hb]; exact hdg)
    (fun vm₁ hW₁ => ⟨hf.1, hf.2, hp.2 (T.setVm vm₁) hT hW₁⟩) with ⟨v, vm₁, ⟨U', l2, c2, s2⟩, hW₁, X', ⟨g', mk, t, L, e1, e2, hq, h1, hL, h2, h3⟩, st⟩ | ⟨q, vm₁, ⟨U', l2, c2, s2⟩, hW₁, X', ⟨g', mk, t, L, E, ce, e1, e2, hq, hce, hcv, hcl, h1, hL, h2, h3⟩, st⟩
  · dsimp only [Pt.U, Pt.locs, Pt.cells, Pt.slots] at X' e1 e2 h1 h2 h3 st
    subst h1; subst h2; subst h3
    exact Or.inl ⟨v, (T.setVm vm₁).calling g' mk As.toArray, t, U', L, hT, X', hL, e1, e2, hq, st⟩
  · dsimp only [Pt.U, Pt.locs, Pt.cells, Pt.slots] at X' e1 e2 h1 h2 h3 st hcl
    subst h1; subst h2; subst h3
    exact Or.inr ⟨q, (T.setVm vm₁).calling g' mk As.toArray, t, U', L, E, ce, hT, X', hL, e1, e2, hq, hce, hcv, vx_cls hW₁ hcl, st⟩
end
end VXH
theorem vx_ofWH {l : Launch} {y : MethodName} {ws ws' : List Cond} {rm : Room} {Pc : Array Value → State → Prop} {Qc : Array Value → State → Outcome → State → Prop} {XC : String → State → State → Prop} {mc ms : Nat} {free : Addr → Prop} {cc : ByteArray} {maxL : Nat} {ret : Option FieldType} {hh : List (Nat × Nat × Nat × Nat)}
    (hy : plainName y.cls = true) (hw : ws = Cond.codeWith y cc maxL ret hh :: ws')
    (body : ∀ p e s m args below meth c s₁, BodyLoose p l y (headSpec ws rm) cc maxL ret e s m args below meth c s₁ → c.maxLocals = maxL → Pc args s →
      W p l e (headSpec ws rm).room s m args below meth c s.heap [] 0 0 (vx_MQ below Qc XC args s mc ms free) (entryFrame m args maxL)) : vx_Met l y ws rm Pc Qc XC mc ms free := by
  refine MetFree.of_bodyS (code := cc) (maxLocals := maxL) (ret := ret) hy ?_ ?_
  · intro args s m h hn
    obtain ⟨m9, meth, c, hn9, h1, h2, h3, h4, -, h5, h6, -⟩ := Cond.codeWith_spec (atoms_spec (ws := ws) h _ (by rw [hw]; exact List.mem_cons_self))
    cases hn.symm.trans hn9
    exact ⟨meth, c, h1, h2, h3, h4, h5, h6⟩
  · intro p e s m args below meth c s₁ B hml hP _
    have hh0 : s₁.heap = s.heap := by rw [B.state]; rfl
    obtain ⟨t, a1, o, b1, b2, b3⟩ := body p e s m args below meth c s₁ B hml hP s₁ hh0 (Stand.of_body B)
    exact ⟨t, o, a1, b1, b2, b3⟩
/-! ===== END ===== -/
end
section
section VXIA
variable {p : Program} {l : Launch} {e : Env} {R : Room} {s : State} {m : MethodId} {args : Array Value} {below : List Frame} {meth : Method} {c : Code} {T : State} {locs : List Loc} {cells slots : Nat}
theorem vx_callI (X : Stand p l e R s m args below meth c T locs cells slots) (hexec : p.tables.exec = Jvm.exec) {own : String} {index : Nat} {y : MethodName} {bytes : ByteArray} {maxL : Nat}
    (hown : s.vm.findClass own = some m.cls) (hy1 : y.name = "<init>") (hlink : (Cond.methodLink own index y).before args s = true) (hinst : (Cond.instanceMethod y).before args s = true)
    (hcode : (Cond.code y bytes maxL none).before args s = true) (hy : y.cls ≠ "java/lang/invoke/MethodHandle" ∧ y.cls ≠ "java/lang/invoke/VarHandle")
    {W9 : Nat} {Pre : Pt → Array Value → Prop} {Post : Pt → Array Value → Option Value → Pt → Prop} {PostX : Pt → Array Value → Addr → Pt → Prop} (hK : vx_Back l R p e below s args y 3 W9 Pre Post PostX)
    {g : JFrame} (hg : g.method = m) (hsize : g.locals.size = c.maxLocals) {a : Addr} {argsL rest : List Value} (hlen : ∀ sig, parseMethodDescriptor y.desc = some sig → argsL.length = sig.parameters.length)
    (hstack : g.stack = argsL.reverse ++ .ref a :: rest) (hW : 2 * g.monitorRoom + (rest.map fun v => v.category).sum ≤ W9) (hdg : decode c.code g.pc = .ok (.invokespecial index, 3))
    (hpre : ∀ vm₁, s.WarmedH vm₁ → Pre ⟨T.setVm vm₁, locs, cells, slots⟩ (Value.ref a :: argsL).toArray) :
    (∃ (v : Option Value) (vm₁ : Vm) (B : Pt), s.WarmedH vm₁ ∧ Stand p l e R s m args below meth c B.U B.locs B.cells B.slots ∧ Post ⟨T.setVm vm₁, locs, cells, slots⟩ (Value.ref a :: argsL).toArray v B ∧
      ∀ target, Steps p.tables e below (B.U.setTop { g with pc := g.pc + 3, stack := v.toList ++ rest }) target → Steps p.tables e below (T.setTop g) target) ∨
    (∃ (q : Addr) (vm₁ : Vm) (B : Pt), s.WarmedH vm₁ ∧ Stand p l e R s m args below meth c B.U B.locs B.cells B.slots ∧ PostX ⟨T.setVm vm₁, locs, cells, slots⟩ (Value.ref a :: argsL).toArray q B ∧
      Steps p.tables e below (T.setTop g) ((B.U.setTop { g with stack := rest }).pushFrame (.throwing q))) := by
  subst hg
  have hpl : e.platform.magicAccessors = ({} : Platform).magicAccessors := by rw [X.admits.platform]
  obtain ⟨mk, methM, cM, kP, vm₁, hnamed, hmethM, hcodeM, -, hlocalsM, -, hkP, -, hW₁, hstep₁⟩ := Steps.initColdArgs (e := e) X.here hexec X.warmed hpl hown hy1 hy hlink hinst hcode (f := g) rfl hlen hstack hdg
  have X₁ := X.noted hW₁
  rcases hK g.method meth c ⟨T.setVm vm₁, locs, cells, slots⟩ { g with stack := rest } (.invokespecial index) mk (Value.ref a :: argsL).toArray X₁ rfl hsize hdg hW (X₁.named hnamed) (hpre vm₁ X₁.warmed) with ⟨v, B, X', hpost, hsteps⟩ | ⟨q, B, X', hpost, hsteps⟩
  · exact Or.inl ⟨v, vm₁, B, X₁.warmed, X', hpost, fun target h => hstep₁ _ fun acts => by rw [doInvoke_state]; exact hsteps.trans h⟩
  · exact Or.inr ⟨q, vm₁, B, X₁.warmed, X', hpost, hstep₁ _ fun acts => by rw [doInvoke_state]; exact hsteps⟩
end VXIA
section VXIB
variable {p : Program} {l : Launch} {e : Env} {R : Room} {s : State} {m : MethodId} {args : Array Value} {below : List Frame} {meth : Method} {c : Code} {H : Heap} {locs : List Loc} {cells slots : Nat}
variable {y : MethodName} {bytes cc : ByteArray} {maxL nL mc ms n index : Nat} {ret : Option FieldType} {ws : List Cond} {rm : Room} {Pc : Array Value → State → Prop} {Qc : Array Value → State → Outcome → State → Prop} {XC : String → State → State → Prop} {free : Addr → Prop} {Ts : List Cond} {own C : String} {b : Addr} {As rest : List Value} {g : JFrame}
theorem vx_runI (S : CallFix p m c cc nL s args Ts own) (hM : vx_Met l y ws rm Pc Qc XC mc ms free) (cw : CallB R s args own index y bytes maxL none ws rm mc ms n ∧ y.name = "<init>" ∧ (Cond.instanceMethod y).before args s = true) (hp : PreS s H Pc (.ref b :: As))
    (hg : g.method = m) (hn : As.length = n) (hsize : g.locals.size = nL) (hstack : g.stack = As.reverse ++ .ref b :: rest) (hW : 2 * g.monitorRoom + (rest.map fun v => v.category).sum ≤ 8) (hdg : decode cc g.pc = .ok (.invokespecial index, 3)) (hf : cells + mc ≤ R.cells ∧ slots + ms ≤ R.slots) :
    vx_Run p l e R s m args below meth c H locs cells slots mc ms g rest (Qc (Value.ref b :: As).toArray) XC free := by
  have hK : vx_Back l R p e below s args y 3 8 (PreOf R mc ms Pc) (PostOf Qc mc ms free) (vx_Post XC mc ms free) := vx_callBack cw.1 hM hp.1
  obtain ⟨⟨-, -, -, -, -, -, hcode, -, hy, hlen, hl⟩, hy1, hin⟩ := cw
  obtain ⟨hx, hb, hml, ho, -⟩ := S
  have hPc := hp.2
  intro T hT X
  rcases vx_callI X hx (bytes := bytes) (maxL := maxL) ho hy1 hl hin hcode hy hK hg (hsize.trans hml.symm) (a := b) (argsL := As) (rest := rest) (fun sig h => hn.trans (hlen sig h)) hstack hW (by rw [hb]; exact hdg)
    (fun vm₁ hW₁ => ⟨hf.1, hf.2, hPc (T.setVm vm₁) hT hW₁⟩) with ⟨v, vm₁, ⟨U', l2, c2, s2⟩, hW₁, X', ⟨g', mk, t, L, e1, e2, hq, h1, hL, h2, h3⟩, st⟩ | ⟨q, vm₁, ⟨U', l2, c2, s2⟩, hW₁, X', ⟨g', mk, t, L, E, ce, e1, e2, hq, hce, hcv, hcl, h1, hL, h2, h3⟩, st⟩
  · dsimp only [Pt.U, Pt.locs, Pt.cells, Pt.slots] at X' e1 e2 h1 h2 h3 st
    subst h1; subst h2; subst h3
    exact Or.inl ⟨v, (T.setVm vm₁).calling g' mk (Value.ref b :: As).toArray, t, U', L, hT, X', hL, e1, e2, hq, st⟩
  · dsimp only [Pt.U, Pt.locs, Pt.cells, Pt.slots] at X' e1 e2 h1 h2 h3 st hcl
    subst h1; subst h2; subst h3
    exact Or.inr ⟨q, (T.setVm vm₁).calling g' mk (Value.ref b :: As).toArray, t, U', L, E, ce, hT, X', hL, e1, e2, hq, hce, hcv, vx_cls hW₁ hcl, st⟩
end VXIB
/-! ===== END ===== -/
/-! ===== BEGIN a private constructor of a nest mate that throws ===== -/
section VXIC
variable {p : Program} {l : Launch} {e : Env} {R : Room} {s : State} {m : MethodId} {args : Array Value} {below : List Frame} {meth : Method} {c : Code} {T : State} {locs : List Loc} {cells slots : Nat}
theorem vx_callIN (X : Stand p l e R s m args below meth c T locs cells slots) (hexec : p.tables.exec = Jvm.exec) {own : String} {index : Nat} {host : String} {y : MethodName} {bytes : ByteArray} {maxL : Nat}
    (hown : s.vm.findClass own = some m.cls) (hy1 : y.name = "<init>") (hlink : (Cond.methodLinkNest own index y host).before args s = true) (hinst : (Cond.instanceMethod y).before args s = true)
    (hcode : (Cond.code y bytes maxL none).before args s = true) (hy : y.cls ≠ "java/lang/invoke/MethodHandle" ∧ y.cls ≠ "java/lang/invoke/VarHandle")
    {W9 : Nat} {Pre : Pt → Array Value → Prop} {Post : Pt → Array Value → Option Value → Pt → Prop} {PostX : Pt → Array Value → Addr → Pt → Prop} (hK : vx_Back l R p e below s args y 3 W9 Pre Post PostX)
    {g : JFrame} (hg : g.method = m) (hsize : g.locals.size = c.maxLocals) {a : Addr} {argsL rest : List Value} (hlen : ∀ sig, parseMethodDescriptor y.desc = some sig → argsL.length = sig.parameters.length)
    (hstack : g.stack = argsL.reverse ++ .ref a :: rest) (hW : 2 * g.monitorRoom + (rest.map fun v => v.category).sum ≤ W9) (hdg : decode c.code g.pc = .ok (.invokespecial index, 3))
    (hpre : ∀ vm₁, s.WarmedH vm₁ → Pre ⟨T.setVm vm₁, locs, cells, slots⟩ (Value.ref a :: argsL).toArray) :
    (∃ (v : Option Value) (vm₁ : Vm) (B : Pt), s.WarmedH vm₁ ∧ Stand p l e R s m args below meth c B.U B.locs B.cells B.slots ∧ Post ⟨T.setVm vm₁, locs, cells, slots⟩ (Value.ref a :: argsL).toArray v B ∧
      ∀ target, Steps p.tables e below (B.U.setTop { g with pc := g.pc + 3, stack := v.toList ++ rest }) target → Steps p.tables e below (T.setTop g) target) ∨
    (∃ (q : Addr) (vm₁ : Vm) (B : Pt), s.WarmedH vm₁ ∧ Stand p l e R s m args below meth c B.U B.locs B.cells B.slots ∧ PostX ⟨T.setVm vm₁, locs, cells, slots⟩ (Value.ref a :: argsL).toArray q B ∧
      Steps p.tables e below (T.setTop g) ((B.U.setTop { g with stack := rest }).pushFrame (.throwing q))) := by
  subst hg
  have hpl : e.platform.magicAccessors = ({} : Platform).magicAccessors := by rw [X.admits.platform]
  obtain ⟨mk, methM, cM, kP, vm₁, hnamed, hmethM, hcodeM, -, hlocalsM, -, hkP, -, hW₁, hstep₁⟩ := Steps.initColdArgsNest (e := e) X.here hexec X.warmed hpl hown hy1 hy hlink hinst hcode (f := g) rfl hlen hstack hdg
  have X₁ := X.noted hW₁
  rcases hK g.method meth c ⟨T.setVm vm₁, locs, cells, slots⟩ { g with stack := rest } (.invokespecial index) mk (Value.ref a :: argsL).toArray X₁ rfl hsize hdg hW (X₁.named hnamed) (hpre vm₁ X₁.warmed) with ⟨v, B, X', hpost, hsteps⟩ | ⟨q, B, X', hpost, hsteps⟩
  · exact Or.inl ⟨v, vm₁, B, X₁.warmed, X', hpost, fun target h => hstep₁ _ fun acts => by rw [doInvoke_state]; exact hsteps.trans h⟩
  · exact Or.inr ⟨q, vm₁, B, X₁.warmed, X', hpost, hstep₁ _ fun acts => by rw [doInvoke_state]; exact hsteps⟩
end VXIC
section VXID
variable {p : Program} {l : Launch} {e : Env} {R : Room} {s : State} {m : MethodId} {args : Array Value} {below : List Frame} {meth : Method} {c : Code} {H : Heap} {locs : List Loc} {cells slots : Nat}
theorem vx_runIN {y : MethodName} {bytes cc : ByteArray} {maxL nL mc ms n index : Nat} {ws : List Cond} {rm : Room} {Pc : Array Value → State → Prop} {Qc : Array Value → State → Outcome → State → Prop} {XC : String → State → State → Prop} {free : Addr → Prop} {Ts : List Cond} {own host : String} {b : Addr} {As rest : List Value} {g : JFrame}
    (S : CallFix p m c cc nL s args Ts own) (hM : vx_Met l y ws rm Pc Qc XC mc ms free) (cw : va_CN R s args own index y host bytes maxL none ws rm mc ms n ∧ y.name = "<init>" ∧ (Cond.instanceMethod y).before args s = true) (hp : PreS s H Pc (.ref b :: As))
    (hg : g.method = m) (hn : As.length = n) (hsize : g.locals.size = nL) (hstack : g.stack = As.reverse ++ .ref b :: rest) (hW : 2 * g.monitorRoom + (rest.map fun v => v.category).sum ≤ 8) (hdg : decode cc g.pc = .ok (.invokespecial index, 3)) (hf : cells + mc ≤ R.cells ∧ slots + ms ≤ R.slots) :
    vx_Run p l e R s m args below meth c H locs cells slots mc ms g rest (Qc (Value.ref b :: As).toArray) XC free := by
  obtain ⟨⟨⟨hrc, hrs, hfr, hlo, hws, hcw⟩, hcode, hini, hy, hlen, hl⟩, hx1, hx2⟩ := cw
  have hK : vx_Back l R p e below s args y 3 8 (PreOf R mc ms Pc) (PostOf Qc mc ms free) (vx_Post XC mc ms free) := vx_back (bytes := bytes) (maxL := maxL) (ret := none) hM hp.1 hrc hrs hfr hlo hws hcw (fun a' U hW => word_at hW (Or.inl (by first | rfl | simp [Cond.onTables, Cond.keeps, Cond.steady])) hini)
  obtain ⟨hx, hb, hml, ho, -⟩ := S
  have hPc := hp.2
  intro T hT X
  rcases vx_callIN X hx (bytes := bytes) (maxL := maxL) ho hx1 hl hx2 hcode hy hK hg (hsize.trans hml.symm) (a := b) (argsL := As) (rest := rest) (fun sig h => hn.trans (hlen sig h)) hstack hW (by rw [hb]; exact hdg)
    (fun vm₁ hW₁ => ⟨hf.1, hf.2, hPc (T.setVm vm₁) hT hW₁⟩) with ⟨v, vm₁, ⟨U', l2, c2, s2⟩, hW₁, X', ⟨g', mk, t, L, e1, e2, hq, h1, hL, h2, h3⟩, st⟩ | ⟨q, vm₁, ⟨U', l2, c2, s2⟩, hW₁, X', ⟨g', mk, t, L, E, ce, e1, e2, hq, hce, hcv, hcl, h1, hL, h2, h3⟩, st⟩
  · dsimp only [Pt.U, Pt.locs, Pt.cells, Pt.slots] at X' e1 e2 h1 h2 h3 st
    subst h1; subst h2; subst h3
    exact Or.inl ⟨v, (T.setVm vm₁).calling g' mk (Value.ref b :: As).toArray, t, U', L, hT, X', hL, e1, e2, hq, st⟩
  · dsimp only [Pt.U, Pt.locs, Pt.cells, Pt.slots] at X' e1 e2 h1 h2 h3 st hcl
    subst h1; subst h2; subst h3
    exact Or.inr ⟨q, (T.setVm vm₁).calling g' mk (Value.ref b :: As).toArray, t, U', L, E, ce, hT, X', hL, e1, e2, hq, hce, hcv, vx_cls hW₁ hcl, st⟩
end VXID
end
section
/-! ===== the classes and the links of the program, written by a program ===== -/
def xcC : Nat → String
  | 0 => RX0
  | 1 => RX1
  | 2 => RX2
  | 3 => RX4
  | 4 => RX5
  | 5 => RX6
  | _ => RX7
def xcT : Nat → u_T
  | 0 => TX0
  | 1 => TX1
  | 2 => TX2
  | 3 => TX4
  | 4 => TX5
  | 5 => TX6
  | _ => TX7
def xcY : Nat → (Nat → FieldType)
  | 0 => tyX0
  | 1 => tyX1
  | 2 => tyX2
  | 3 => tyX4
  | 4 => tyX5
  | 5 => tyX6
  | _ => tyX7
def xcN : Nat → Nat
  | 0 => 3
  | 1 => 3
  | 2 => 9
  | 3 => 3
  | 4 => 4
  | 5 => 7
  | _ => 28
def x_kd : Nat → List Nat
  | 0 => [2, 2, 0]
  | 1 => [2, 2, 0]
  | 2 => [2, 2, 2, 2, 0, 0, 2, 2, 2]
  | 3 => [2, 2, 2]
  | 4 => [1, 1, 1, 0]
  | 5 => [2, 2, 2, 2, 2, 2, 2]
  | _ => [0, 2, 2, 2, 2, 2, 2, 0, 2, 2, 2, 0, 2, 2, 2, 0, 2, 2, 2, 2, 0, 3, 3, 1, 1, 1, 0, 0]
def xcn : Nat → String
  | 0 => RX0
  | 1 => RX1
  | 2 => RX2
  | 3 => RX3
  | 4 => RX4
  | 5 => RX5
  | 6 => RX6
  | 7 => RX7
  | 8 => RL
  | 9 => RJ7
  | 10 => RJ6
  | _ => RJ13
def xFL : List (Nat × Nat × Nat × Nat) := [(0, 9, 0, 0), (0, 15, 0, 1), (0, 19, 0, 2), (1, 17, 1, 0), (1, 21, 1, 1), (1, 30, 1, 2), (2, 9, 2, 0), (2, 15, 2, 1), (2, 18, 2, 2), (2, 21, 2, 3), (2, 24, 2, 4), (2, 28, 2, 5), (2, 34, 2, 6), (2, 38, 2, 7), (2, 41, 2, 8), (4, 12, 3, 0), (4, 18, 3, 1), (4, 21, 3, 2), (5, 9, 4, 0), (5, 15, 4, 3), (5, 21, 4, 1), (5, 26, 4, 2), (6, 9, 5, 0), (6, 13, 5, 1), (6, 16, 5, 2), (6, 22, 5, 3), (6, 29, 5, 4), (6, 36, 5, 5), (6, 43, 5, 6), (7, 7, 6, 1), (7, 13, 6, 2), (7, 16, 6, 3), (7, 19, 6, 4), (7, 22, 6, 5), (7, 25, 6, 6), (7, 28, 6, 7), (7, 32, 6, 8), (7, 35, 6, 9), (7, 38, 6, 10), (7, 42, 6, 12), (7, 45, 6, 13), (7, 48, 6, 14), (7, 51, 6, 16), (7, 54, 6, 17), (7, 57, 6, 18), (7, 60, 6, 19), (7, 63, 6, 0), (7, 76, 6, 11), (7, 84, 6, 15), (7, 128, 6, 20), (7, 167, 6, 21), (7, 171, 6, 22), (7, 174, 6, 25), (7, 178, 6, 26), (7, 181, 6, 24), (7, 184, 6, 23), (7, 292, 6, 27)]
def xML : List (Nat × Nat × Nat × Nat) := [(0, 23, 48, 0), (0, 29, 47, 0), (0, 32, 50, 0), (0, 36, 49, 0), (0, 39, 5, 1), (1, 34, 48, 0), (1, 40, 50, 0), (1, 44, 14, 1), (1, 47, 11, 1), (1, 50, 12, 1), (1, 54, 13, 1), (1, 57, 15, 1), (1, 65, 18, 0), (1, 69, 10, 0), (1, 73, 197, 0), (2, 44, 47, 0), (2, 50, 4, 1), (2, 53, 5, 1), (2, 57, 43, 1), (2, 61, 24, 1), (2, 65, 40, 1), (2, 69, 22, 1), (2, 73, 33, 1), (2, 76, 23, 1), (2, 79, 42, 1), (2, 83, 28, 1), (2, 86, 49, 0), (2, 90, 32, 1), (2, 94, 30, 1), (2, 97, 1, 1), (2, 100, 3, 1), (2, 103, 7, 1), (2, 107, 6, 1), (2, 111, 34, 1), (2, 119, 196, 0), (2, 124, 36, 1), (2, 127, 41, 1), (2, 131, 39, 1), (2, 137, 38, 1), (2, 140, 35, 1), (2, 143, 26, 1), (2, 146, 44, 1), (2, 149, 45, 0), (2, 160, 46, 1), (2, 164, 2, 1), (2, 170, 51, 0), (3, 10, 198, 0), (4, 9, 8, 2), (4, 24, 14, 1), (4, 27, 15, 1), (4, 31, 58, 1), (4, 34, 11, 1), (4, 38, 12, 1), (4, 42, 13, 1), (4, 47, 9, 0), (4, 51, 10, 0), (5, 29, 62, 1), (5, 32, 66, 1), (6, 47, 8, 2), (6, 50, 93, 0), (6, 53, 47, 0), (6, 59, 49, 0), (6, 64, 96, 0), (6, 68, 27, 1), (6, 72, 103, 1), (6, 76, 98, 1), (6, 80, 106, 0), (6, 91, 104, 1), (6, 95, 63, 1), (6, 98, 60, 1), (6, 103, 54, 1), (6, 106, 9, 0), (6, 110, 55, 1), (6, 114, 105, 1), (6, 117, 94, 0), (6, 120, 97, 1), (6, 123, 28, 1), (6, 126, 100, 1), (6, 130, 101, 1), (6, 134, 110, 1), (6, 138, 29, 1), (6, 141, 107, 0), (6, 145, 111, 1), (6, 154, 31, 1), (6, 157, 30, 1), (6, 160, 57, 1), (6, 164, 33, 1), (6, 167, 197, 0), (6, 173, 19, 1), (6, 179, 35, 1), (6, 182, 37, 1), (6, 186, 22, 1), (6, 189, 95, 0), (6, 192, 99, 1), (6, 195, 23, 1), (6, 198, 24, 1), (6, 202, 108, 1), (6, 205, 109, 1), (6, 208, 65, 1), (6, 214, 61, 1), (6, 218, 64, 1), (6, 222, 20, 1), (6, 225, 11, 1), (6, 230, 12, 1), (6, 233, 13, 1), (6, 236, 10, 0), (6, 257, 48, 0), (6, 260, 102, 1), (6, 265, 25, 1), (6, 270, 50, 0), (6, 273, 53, 1), (6, 277, 17, 1), (6, 283, 16, 1), (6, 309, 56, 1), (7, 68, 115, 0), (7, 72, 116, 0), (7, 81, 122, 1), (7, 87, 120, 1), (7, 91, 121, 1), (7, 95, 123, 1), (7, 99, 125, 1), (7, 102, 119, 1), (7, 106, 126, 1), (7, 109, 128, 1), (7, 112, 130, 1), (7, 124, 132, 0), (7, 135, 134, 0), (7, 143, 118, 1), (7, 147, 135, 1), (7, 151, 138, 1), (7, 155, 136, 1), (7, 159, 133, 0), (7, 191, 143, 1), (7, 194, 144, 1), (7, 198, 142, 0), (7, 202, 114, 1), (7, 205, 124, 1), (7, 208, 150, 1), (7, 211, 149, 1), (7, 214, 153, 1), (7, 218, 152, 1), (7, 227, 137, 1), (7, 230, 158, 1), (7, 234, 159, 1), (7, 237, 160, 1), (7, 241, 139, 1), (7, 244, 161, 1), (7, 248, 117, 0), (7, 251, 162, 1), (7, 254, 163, 1), (7, 258, 127, 1), (7, 261, 140, 1), (7, 264, 165, 1), (7, 267, 167, 1), (7, 270, 129, 1), (7, 273, 169, 1), (7, 277, 141, 1), (7, 280, 172, 1), (7, 283, 173, 1), (7, 286, 131, 1), (7, 289, 175, 1), (7, 297, 177, 1), (7, 300, 180, 1), (7, 303, 183, 0), (7, 306, 146, 1), (7, 312, 184, 1), (7, 315, 145, 1), (7, 319, 186, 1), (7, 322, 188, 1), (7, 325, 191, 1), (7, 330, 194, 1), (8, 7, 68, 1), (8, 15, 69, 1), (8, 18, 70, 1), (8, 24, 71, 1), (8, 29, 72, 1), (8, 33, 73, 1), (8, 36, 74, 1), (8, 40, 75, 1), (8, 44, 76, 1), (8, 47, 77, 1), (8, 50, 78, 1), (8, 54, 79, 1), (8, 57, 80, 1), (8, 61, 81, 1), (8, 64, 82, 1), (8, 67, 83, 1), (8, 70, 84, 1), (8, 74, 85, 1), (8, 77, 86, 1), (8, 80, 87, 1), (8, 83, 88, 1), (8, 86, 89, 1), (8, 90, 90, 1), (8, 93, 91, 1), (8, 96, 92, 1), (8, 100, 67, 2), (8, 103, 112, 2), (8, 104, 199, 0), (8, 109, 147, 1), (8, 110, 113, 1), (8, 114, 200, 0), (8, 116, 148, 1), (8, 117, 201, 0), (8, 120, 151, 1), (8, 121, 202, 0), (8, 123, 154, 1), (8, 124, 203, 0), (8, 127, 155, 1), (8, 128, 204, 0), (8, 130, 156, 1), (8, 131, 205, 0), (8, 134, 157, 1), (8, 135, 206, 0), (8, 138, 164, 1), (8, 139, 207, 0), (8, 141, 166, 1), (8, 142, 208, 0), (8, 144, 168, 1), (8, 145, 209, 0), (8, 148, 170, 1), (8, 149, 210, 0), (8, 151, 171, 1), (8, 152, 211, 0), (8, 155, 174, 1), (8, 156, 212, 0), (8, 158, 176, 1), (8, 159, 213, 0), (8, 161, 178, 1), (8, 162, 214, 0), (8, 164, 179, 1), (8, 165, 215, 0), (8, 167, 181, 1), (8, 168, 216, 0), (8, 170, 182, 1), (8, 171, 217, 0), (8, 173, 185, 1), (8, 174, 218, 0), (8, 176, 187, 1), (8, 177, 219, 0), (8, 179, 189, 1), (8, 180, 220, 0), (8, 182, 190, 1), (8, 183, 221, 0), (8, 185, 192, 1), (8, 186, 222, 0), (8, 188, 193, 1), (8, 189, 223, 0), (8, 191, 195, 1)]
def xKI : List (Nat × Nat × Int32) := [(3, 9, 1048576), (6, 63, 1000000), (6, 102, (-1000000)), (6, 201, 65535)]
def xKL : List (Nat × Nat × Int64) := [(1, 24, 550293209600), (1, 26, 1023), (1, 28, 512), (1, 61, (-100000000)), (1, 63, 100000000), (2, 168, 1000000), (4, 45, 550293209600), (5, 19, (-1099511627776)), (5, 24, 1099511627776), (5, 42, 1048576), (5, 44, (-1048576)), (5, 46, 2), (6, 287, (-268435456)), (6, 289, 268435456), (6, 291, 1048575), (6, 295, (-1099511627776)), (6, 302, 1099511627776), (6, 307, 550293209600), (7, 66, 15), (7, 79, 1000000), (7, 116, 64481201), (7, 118, 160801), (7, 120, 401), (7, 122, 200), (7, 131, (-100000000)), (7, 133, 100000000), (7, 139, (-99)), (7, 141, 99), (7, 163, (-268435456)), (7, 165, 268435456), (7, 187, 2), (7, 189, 1048576), (7, 221, 20), (7, 223, (-1000000)), (7, 225, (-20)), (7, 295, 2000), (7, 310, 65535), (7, 328, 4)]
def xCL : List (Nat × Nat × Nat) := [(2, 31, 0), (4, 7, 1), (6, 20, 1), (6, 26, 2), (6, 33, 4), (6, 40, 3), (8, 8, 5), (8, 101, 6)]
def xNS : List (Nat × Nat × Nat) := [(2, 33, 0), (6, 28, 21), (6, 35, 59), (6, 42, 52)]
def xTH : List (Nat × Nat × Nat × Nat × Nat × Nat × String) := [(2, 153, 3, 155, 157, 2, "the ordinal does not fit"), (6, 84, 2, 86, 88, 2, "the number is not from -256 to 256"), (6, 84, 2, 247, 88, 2, "out of its range"), (6, 149, 3, 151, 153, 2, "ordinals have no difference here"), (6, 149, 3, 177, 153, 2, "0 has no step"), (6, 149, 3, 212, 153, 2, "no whole number of parts lies between"), (6, 149, 3, 228, 153, 2, "not so many parts"), (6, 149, 3, 249, 153, 2, "nothing, or unlike things"), (6, 149, 3, 251, 153, 2, "no ordinal"), (6, 149, 3, 253, 153, 2, "not so many powers"), (6, 149, 3, 255, 153, 2, "no number"), (6, 149, 3, 263, 153, 3, "no growth"), (6, 149, 3, 268, 153, 3, "the number does not fit"), (6, 149, 3, 281, 153, 3, "the growth does not fit"), (6, 149, 3, 293, 153, 3, "no whole number of parts"), (6, 240, 1, 242, 244, 2, "no such place"), (6, 240, 1, 245, 244, 2, "a number of a row is below 0")]
def xmls : List Nat := [1, 1, 2, 2, 1, 4, 6, 4, 2, 4, 3, 1, 2, 2, 1, 5, 3, 3, 5, 12, 1, 1, 2, 3, 3, 1, 1, 3, 8, 6, 8, 5, 8, 3, 7, 3, 6, 8, 3, 3, 5, 4, 5, 3, 4, 3, 6, 2, 2, 3, 4, 2, 1, 1, 1, 5, 7, 8, 7, 1, 1, 1, 1, 4, 6, 7, 9, 2, 2, 3, 3, 3, 6, 4, 7, 5, 5, 5, 7, 5, 4, 5, 4, 2, 3, 4, 8, 2, 5, 2, 2, 2, 5, 1, 3, 1, 3, 4, 2, 4, 2, 3, 2, 3, 4, 4, 2, 6, 5, 5, 4, 4, 1, 1, 2, 6, 1, 3, 4, 2, 8, 4, 4, 4, 4, 7, 6, 5, 6, 6, 5, 7, 1, 0, 3, 7, 5, 3, 4, 4, 5, 6, 2, 1, 5, 6, 8, 2, 3, 2, 1, 3, 2, 3, 5, 8, 7, 9, 4, 3, 4, 3, 4, 4, 5, 6, 5, 4, 5, 5, 7, 5, 4, 3, 4, 3, 7, 5, 6, 3, 3, 4, 5, 2, 11, 6, 3, 3, 3, 4, 3, 3, 3, 3, 3, 5, 2, 4, 3, 4, 4, 4, 4, 5, 5, 8, 6, 6, 6, 6, 4, 5, 5, 6, 4, 5, 5, 6, 4, 5, 4, 4, 4, 6, 8]
def xml (j : Nat) : Nat := xmls.getD j 0
def xhss : List (List (Nat × Nat × Nat × Nat × Nat × Nat)) := [[], [], [], [], [], [], [], [], [], [], [], [], [], [], [], [], [], [], [], [], [], [], [], [], [], [], [], [], [], [], [], [], [], [], [], [], [], [], [], [], [], [], [], [], [], [], [], [], [], [], [], [], [], [], [], [], [], [], [], [], [], [], [], [], [], [], [], [], [], [], [], [], [], [], [], [], [], [], [], [], [], [], [], [], [], [], [], [], [], [], [], [], [], [], [], [], [], [], [], [], [], [], [], [], [], [], [], [], [], [], [], [], [], [], [], [], [], [], [], [], [], [], [], [], [], [], [], [], [], [], [], [], [], [], [], [], [], [], [], [], [], [], [], [], [], [], [], [], [], [], [], [], [], [], [], [], [], [], [], [], [], [], [], [], [], [], [], [], [], [], [], [], [], [], [], [], [], [], [], [], [], [], [], [], [], [], [], [], [], [], [], [], [], [], [], [], [], [], [], [(0, 9, 12, 1, 3, 1)], [(0, 9, 12, 1, 3, 1)], [(0, 6, 9, 1, 3, 1), (0, 6, 12, 2, 3, 1)], [(0, 6, 9, 1, 3, 1), (0, 6, 12, 3, 3, 1)], [(0, 7, 10, 1, 4, 2), (0, 7, 14, 2, 4, 2)], [(0, 7, 10, 1, 4, 2), (0, 7, 14, 2, 4, 2)], [(0, 13, 16, 1, 7, 2), (0, 13, 20, 2, 7, 2)], [(0, 12, 15, 1, 5, 2), (0, 12, 19, 3, 5, 2)], [(0, 12, 15, 1, 5, 2), (0, 12, 19, 3, 5, 2)], [(0, 12, 15, 1, 5, 2), (0, 12, 19, 3, 5, 2)], [(0, 9, 12, 1, 5, 2), (0, 9, 16, 3, 5, 2)], [(0, 6, 9, 1, 3, 1), (0, 6, 12, 3, 3, 1)], [(0, 10, 13, 1, 4, 2), (0, 10, 17, 3, 4, 2)], [(0, 7, 10, 1, 4, 2), (0, 7, 14, 2, 4, 2), (0, 7, 18, 3, 4, 2)], [(0, 12, 15, 1, 5, 2), (0, 12, 19, 2, 5, 2), (0, 12, 23, 3, 5, 2)], [(0, 9, 12, 1, 3, 1), (0, 9, 15, 3, 3, 1)], [(0, 9, 12, 1, 4, 2), (0, 9, 16, 3, 4, 2)], [(0, 7, 10, 1, 4, 2), (0, 7, 14, 3, 4, 2)], [(0, 12, 15, 1, 5, 2), (0, 12, 19, 2, 5, 2), (0, 12, 23, 3, 5, 2)], [(0, 9, 12, 1, 3, 1), (0, 9, 15, 3, 3, 1)], [(0, 10, 13, 1, 4, 2), (0, 10, 17, 3, 4, 2)], [(0, 8, 11, 1, 3, 1), (0, 8, 14, 3, 3, 1)], [(0, 9, 12, 1, 3, 1), (0, 9, 15, 3, 3, 1)], [(0, 9, 12, 1, 3, 1), (0, 9, 15, 3, 3, 1)], [(0, 11, 14, 1, 5, 2), (0, 11, 18, 2, 5, 2), (0, 11, 22, 3, 5, 2)], []]
def xhs (j : Nat) : List (Nat × Nat × Nat × Nat × Nat × Nat) := xhss.getD j []
def xys : List MethodName := [yX0_init, yX0_count, yX0_timesAt, yX0_exponentAt, yX0_restart, yX0_add, yX0_insert, yX0_raise, yX1_init, yX1_keyOf, yX1_exponentIn, yX1_count, yX1_timesAt, yX1_keyAt, yX1_restart, yX1_add, yX1_copy, yX1_fits, yX1_exponentsFit, yX1_comparedWith, yX1_limit, yX2_init, yX2_powersOf, yX2_timesOf, yX2_exponentOf, yX2_keep, yX2_forget, yX2_powerOf, yX2_added, yX2_multiplied, yX2_naturallyAdded, yX2_naturallyMultiplied, yX2_addPair, yX2_compared, yX2_order, yX2_stepped, yX2_lower, yX2_stepsToZero, yX2_lessened, yX2_finiteTail, yX2_powersAbove, yX2_draftLess, yX2_draftPowers, yX2_made, yX2_depthOf, yX2_powersFit, yX2_write, yX3_at, yX3_at_, yX3_put, yX3_put_, yX3_withRoom, yX4_init, yX4_growth, yX4_restart, yX4_addPart, yX4_addMultiple, yX4_addSlopes, yX4_addRow, yX5_init, yX5_value, yX5_length, yX5_restart, yX5_along, yX5_toward, yX5_between, yX5_goes, yX6_init, yX6_kind, yX6_clear, yX6_finite, yX6_omega, yX6_number, yX6_signs, yX6_term, yX6_sum, yX6_product, yX6_difference, yX6_natural, yX6_derive, yX6_compare, yX6_step, yX6_descent, yX6_powers, yX6_times, yX6_exponent, yX6_cut, yX6_birthday, yX6_signOf, yX6_parts, yX6_tends, yX6_terms, yX6_part, yX6_needPlace, yX6_needThree, yX6_needRow, yX6_needRange, yX6_commonKind, yX6_ordinalAt, yX6_ordinalWithPower, yX6_numberAt, yX6_growthAt, yX6_growthRow, yX6_keepOrdinal, yX6_keepNumber, yX6_keepGrowth, yX6_numberFits, yX6_multipliedNumbers, yX6_greatestOf, yX6_leastOf, yX6_addGrowths, yX6_multiplyGrowths, yX7_init, yX7_thrown, yX7_holds, yX7_isIn, yX7_isPlace, yX7_are, yX7_lays, yX7_last, yX7_compared, yX7_adds, yX7_isMade, yX7_makes, yX7_gathers, yX7_summed, yX7_summedNaturally, yX7_multiplied, yX7_puts, yX7_multipliedNaturally, yX7_lessOne, yX7_stepped, yX7_unit, yX7_level, yX7_exponentOf, yX7_joins, yX7_fits, yX7_laysGrowth, yX7_joinsAll, yX7_joinsBoth, yX7_multiplies, yX7_derives, yX7_isNumber, yX7_begins, yX7_goes, yX7_goesTo, yX7_finds, yX7_kind, yX7_clear, yX7_finiteOne, yX7_begin, yX7_finite, yX7_powerOf, yX7_isKind, yX7_omega, yX7_number, yX7_signs, yX7_term, yX7_areBoth, yX7_setsOrdinal, yX7_setsNumber, yX7_setsGrowth, yX7_setsSum, yX7_told, yX7_sum, yX7_setsProduct, yX7_product, yX7_setsDifference, yX7_difference, yX7_setsNatural, yX7_natural, yX7_derive, yX7_comparedGrowths, yX7_comparedBoth, yX7_compare, yX7_stepOf, yX7_step, yX7_descends, yX7_descent, yX7_powers, yX7_hasPower, yX7_times, yX7_exponent, yX7_hasPlace, yX7_cuts, yX7_cut, yX7_birthdayOf, yX7_birthday, yX7_signAt, yX7_signOf, yX7_parts, yX7_tendsTo, yX7_tends, yX7_terms, yX7_toldPart, yX7_part, yJ6_compare_7cf53, yJ13_compare_74951, yJ7_copyOf_59c91, yL_kind, yL_clear, yL_finite, yL_omega, yL_number, yL_signs, yL_term, yL_sum, yL_product, yL_difference, yL_natural, yL_derive, yL_compare, yL_step, yL_descent, yL_powers, yL_times, yL_exponent, yL_cut, yL_birthday, yL_signOf, yL_parts, yL_tends, yL_terms, yL_part, yL_law]
def xy (j : Nat) : MethodName := xys.getD j objectInit
def xbs : List ByteArray := [cX0_init, cX0_count, cX0_timesAt, cX0_exponentAt, cX0_restart, cX0_add, cX0_insert, cX0_raise, cX1_init, cX1_keyOf, cX1_exponentIn, cX1_count, cX1_timesAt, cX1_keyAt, cX1_restart, cX1_add, cX1_copy, cX1_fits, cX1_exponentsFit, cX1_comparedWith, cX1_limit, cX2_init, cX2_powersOf, cX2_timesOf, cX2_exponentOf, cX2_keep, cX2_forget, cX2_powerOf, cX2_added, cX2_multiplied, cX2_naturallyAdded, cX2_naturallyMultiplied, cX2_addPair, cX2_compared, cX2_order, cX2_stepped, cX2_lower, cX2_stepsToZero, cX2_lessened, cX2_finiteTail, cX2_powersAbove, cX2_draftLess, cX2_draftPowers, cX2_made, cX2_depthOf, cX2_powersFit, cX2_write, cX3_at, cX3_at_, cX3_put, cX3_put_, cX3_withRoom, cX4_init, cX4_growth, cX4_restart, cX4_addPart, cX4_addMultiple, cX4_addSlopes, cX4_addRow, cX5_init, cX5_value, cX5_length, cX5_restart, cX5_along, cX5_toward, cX5_between, cX5_goes, cX6_init, cX6_kind, cX6_clear, cX6_finite, cX6_omega, cX6_number, cX6_signs, cX6_term, cX6_sum, cX6_product, cX6_difference, cX6_natural, cX6_derive, cX6_compare, cX6_step, cX6_descent, cX6_powers, cX6_times, cX6_exponent, cX6_cut, cX6_birthday, cX6_signOf, cX6_parts, cX6_tends, cX6_terms, cX6_part, cX6_needPlace, cX6_needThree, cX6_needRow, cX6_needRange, cX6_commonKind, cX6_ordinalAt, cX6_ordinalWithPower, cX6_numberAt, cX6_growthAt, cX6_growthRow, cX6_keepOrdinal, cX6_keepNumber, cX6_keepGrowth, cX6_numberFits, cX6_multipliedNumbers, cX6_greatestOf, cX6_leastOf, cX6_addGrowths, cX6_multiplyGrowths, cX7_init, cX7_thrown, cX7_holds, cX7_isIn, cX7_isPlace, cX7_are, cX7_lays, cX7_last, cX7_compared, cX7_adds, cX7_isMade, cX7_makes, cX7_gathers, cX7_summed, cX7_summedNaturally, cX7_multiplied, cX7_puts, cX7_multipliedNaturally, cX7_lessOne, cX7_stepped, cX7_unit, cX7_level, cX7_exponentOf, cX7_joins, cX7_fits, cX7_laysGrowth, cX7_joinsAll, cX7_joinsBoth, cX7_multiplies, cX7_derives, cX7_isNumber, cX7_begins, cX7_goes, cX7_goesTo, cX7_finds, cX7_kind, cX7_clear, cX7_finiteOne, cX7_begin, cX7_finite, cX7_powerOf, cX7_isKind, cX7_omega, cX7_number, cX7_signs, cX7_term, cX7_areBoth, cX7_setsOrdinal, cX7_setsNumber, cX7_setsGrowth, cX7_setsSum, cX7_told, cX7_sum, cX7_setsProduct, cX7_product, cX7_setsDifference, cX7_difference, cX7_setsNatural, cX7_natural, cX7_derive, cX7_comparedGrowths, cX7_comparedBoth, cX7_compare, cX7_stepOf, cX7_step, cX7_descends, cX7_descent, cX7_powers, cX7_hasPower, cX7_times, cX7_exponent, cX7_hasPlace, cX7_cuts, cX7_cut, cX7_birthdayOf, cX7_birthday, cX7_signAt, cX7_signOf, cX7_parts, cX7_tendsTo, cX7_tends, cX7_terms, cX7_toldPart, cX7_part, cJ6_compare_7cf53, cJ13_compare_74951, cJ7_copyOf_59c91, cL_kind, cL_clear, cL_finite, cL_omega, cL_number, cL_signs, cL_term, cL_sum, cL_product, cL_difference, cL_natural, cL_derive, cL_compare, cL_step, cL_descent, cL_powers, cL_times, cL_exponent, cL_cut, cL_birthday, cL_signOf, cL_parts, cL_tends, cL_terms, cL_part, cL_law]
def xb (j : Nat) : ByteArray := xbs.getD j ⟨#[]⟩
def xrs : List (Option FieldType) := [none, some .int, some .long, some .int, none, none, none, none, none, some .long, some .int, some .int, some .long, some .long, none, none, none, some .boolean, some .boolean, some .int, some .int, none, some .int, some .int, some .int, none, none, some .int, some .int, some .int, some .int, some .int, none, some .int, some .int, some .int, some .int, some .int, some .int, some .int, some .int, none, none, some .int, some .int, some .boolean, none, some .int, some .long, none, none, (some (.array .int)), none, (some (.object "Transseria$Growth")), none, none, none, none, none, none, some .long, some .int, none, none, none, some .boolean, some .boolean, none, some .int, some .int, none, none, none, none, none, some .int, some .int, some .int, none, none, some .int, none, some .int, some .int, some .long, none, some .int, some .int, some .int, some .long, some .int, some .int, some .long, none, none, none, none, some .int, some .int, some .int, some .long, (some (.object "Transseria$Growth")), (some (.object "Transseria$Growth")), none, none, none, some .boolean, some .long, some .long, some .long, none, none, none, some .int, some .boolean, some .boolean, some .boolean, some .boolean, none, some .int, some .int, none, some .boolean, some .int, none, some .int, some .int, some .int, none, some .int, none, some .int, some .long, some .long, some .long, none, some .boolean, none, none, some .boolean, some .boolean, some .boolean, some .boolean, none, some .boolean, some .int, some .boolean, some .int, some .int, some .int, none, none, some .int, some .boolean, none, none, none, none, some .boolean, some .boolean, some .boolean, some .boolean, some .boolean, some .int, some .int, some .boolean, some .int, some .boolean, some .int, some .boolean, none, none, some .int, some .int, some .int, some .int, none, some .boolean, some .int, some .int, some .boolean, some .long, none, some .boolean, some .boolean, some .int, some .int, some .int, some .int, some .int, some .long, some .int, some .int, some .int, some .long, some .long, some .int, some .int, (some (.array .int)), some .int, some .int, some .int, some .int, some .int, some .int, some .int, some .int, some .int, some .int, some .int, some .int, some .int, some .int, some .int, some .int, some .int, some .int, some .int, some .int, some .int, some .int, some .int, some .int, some .int, some .boolean]
def xr (j : Nat) : Option FieldType := xrs.getD j none
def xos : List Nat := [0, 0, 0, 0, 0, 0, 0, 0, 1, 1, 1, 1, 1, 1, 1, 1, 1, 1, 1, 1, 1, 2, 2, 2, 2, 2, 2, 2, 2, 2, 2, 2, 2, 2, 2, 2, 2, 2, 2, 2, 2, 2, 2, 2, 2, 2, 2, 3, 3, 3, 3, 3, 4, 4, 4, 4, 4, 4, 4, 5, 5, 5, 5, 5, 5, 5, 5, 6, 6, 6, 6, 6, 6, 6, 6, 6, 6, 6, 6, 6, 6, 6, 6, 6, 6, 6, 6, 6, 6, 6, 6, 6, 6, 6, 6, 6, 6, 6, 6, 6, 6, 6, 6, 6, 6, 6, 6, 6, 6, 6, 6, 6, 7, 7, 7, 7, 7, 7, 7, 7, 7, 7, 7, 7, 7, 7, 7, 7, 7, 7, 7, 7, 7, 7, 7, 7, 7, 7, 7, 7, 7, 7, 7, 7, 7, 7, 7, 7, 7, 7, 7, 7, 7, 7, 7, 7, 7, 7, 7, 7, 7, 7, 7, 7, 7, 7, 7, 7, 7, 7, 7, 7, 7, 7, 7, 7, 7, 7, 7, 7, 7, 7, 7, 7, 7, 7, 7, 7, 7, 7, 7, 7, 7, 7, 7, 7, 10, 11, 9, 8, 8, 8, 8, 8, 8, 8, 8, 8, 8, 8, 8, 8, 8, 8, 8, 8, 8, 8, 8, 8, 8, 8, 8, 8, 8]
def xo (j : Nat) : Nat := xos.getD j 0
def xhrs : List (List (Nat × Nat × Nat × Nat)) := [[], [], [], [], [], [], [], [], [], [], [], [], [], [], [], [], [], [], [], [], [], [], [], [], [], [], [], [], [], [], [], [], [], [], [], [], [], [], [], [], [], [], [], [], [], [], [], [], [], [], [], [], [], [], [], [], [], [], [], [], [], [], [], [], [], [], [], [], [], [], [], [], [], [], [], [], [], [], [], [], [], [], [], [], [], [], [], [], [], [], [], [], [], [], [], [], [], [], [], [], [], [], [], [], [], [], [], [], [], [], [], [], [], [], [], [], [], [], [], [], [], [], [], [], [], [], [], [], [], [], [], [], [], [], [], [], [], [], [], [], [], [], [], [], [], [], [], [], [], [], [], [], [], [], [], [], [], [], [], [], [], [], [], [], [], [], [], [], [], [], [], [], [], [], [], [], [], [], [], [], [], [], [], [], [], [], [], [], [], [], [], [], [], [], [], [], [], [], [], [(0, 9, 12, 13)], [(0, 9, 12, 13)], [(0, 6, 9, 13), (0, 6, 12, 22)], [(0, 6, 9, 13), (0, 6, 12, 27)], [(0, 7, 10, 13), (0, 7, 14, 22)], [(0, 7, 10, 13), (0, 7, 14, 22)], [(0, 13, 16, 13), (0, 13, 20, 22)], [(0, 12, 15, 13), (0, 12, 19, 27)], [(0, 12, 15, 13), (0, 12, 19, 27)], [(0, 12, 15, 13), (0, 12, 19, 27)], [(0, 9, 12, 13), (0, 9, 16, 27)], [(0, 6, 9, 13), (0, 6, 12, 27)], [(0, 10, 13, 13), (0, 10, 17, 27)], [(0, 7, 10, 13), (0, 7, 14, 22), (0, 7, 18, 27)], [(0, 12, 15, 13), (0, 12, 19, 22), (0, 12, 23, 27)], [(0, 9, 12, 13), (0, 9, 15, 27)], [(0, 9, 12, 13), (0, 9, 16, 27)], [(0, 7, 10, 13), (0, 7, 14, 27)], [(0, 12, 15, 13), (0, 12, 19, 22), (0, 12, 23, 27)], [(0, 9, 12, 13), (0, 9, 15, 27)], [(0, 10, 13, 13), (0, 10, 17, 27)], [(0, 8, 11, 13), (0, 8, 14, 27)], [(0, 9, 12, 13), (0, 9, 15, 27)], [(0, 9, 12, 13), (0, 9, 15, 27)], [(0, 11, 14, 13), (0, 11, 18, 22), (0, 11, 22, 27)], []]
def xhr (j : Nat) : List (Nat × Nat × Nat × Nat) := xhrs.getD j []
end
section
/-! ===== more of the links, with their places among the words ===== -/
def xns : List Nat := [0, 0, 1, 1, 0, 2, 3, 2, 1, 4, 2, 0, 1, 1, 0, 2, 1, 0, 1, 1, 0, 0, 1, 2, 2, 0, 0, 2, 2, 2, 2, 2, 3, 2, 3, 2, 3, 3, 2, 1, 3, 2, 3, 1, 1, 1, 2, 2, 2, 3, 3, 2, 0, 0, 0, 2, 3, 2, 0, 0, 0, 0, 0, 2, 2, 2, 1, 0, 1, 1, 2, 2, 3, 3, 6, 3, 3, 3, 4, 2, 2, 3, 3, 1, 2, 3, 3, 1, 2, 1, 1, 1, 3, 1, 3, 1, 3, 2, 1, 2, 1, 1, 1, 2, 2, 1, 1, 2, 1, 1, 3, 2, 0, 0, 1, 3, 1, 3, 3, 1, 2, 2, 1, 0, 0, 2, 2, 2, 2, 2, 1, 2, 1, 0, 2, 2, 0, 1, 2, 3, 2, 1, 1, 0, 1, 2, 4, 1, 1, 1, 0, 2, 1, 2, 2, 3, 3, 6, 3, 2, 2, 2, 3, 3, 3, 3, 3, 3, 3, 4, 4, 2, 2, 2, 2, 2, 3, 3, 3, 1, 2, 2, 3, 2, 2, 3, 1, 1, 2, 2, 1, 1, 1, 1, 2, 3, 2, 2, 2, 3, 3, 3, 3, 4, 4, 7, 5, 5, 5, 5, 3, 4, 4, 5, 3, 4, 4, 5, 3, 4, 3, 3, 3, 5, 1]
def xn (j : Nat) : Nat := xns.getD j 0
def xOI : List (Nat × Nat) := [(0, 1), (1, 5), (2, 3), (4, 1), (5, 3), (6, 3), (7, 1)]
def xNM : Nat := 225
def xMMp : List (Nat × Nat × Nat × Nat) := [(1, 11, 1, 191), (2, 114, 2, 639), (2, 134, 1, 391), (5, 36, 2, 879), (6, 297, 3, 848), (6, 304, 4, 856), (9, 304, 2, 441)]
def xMM : List (Nat × Nat × Nat) := xMMp.map (fun q => (q.1, q.2.1, q.2.2.1))
-- places of static and code words of Math: {1: (192, 193), 2: (442, 443), 3: (849, 850), 4: (857, 858)}
def xMLp : List (Nat × Nat × Nat × Nat × Nat × Nat × Nat) := [(0, 23, 48, 0, 399, 400, 0), (0, 29, 47, 0, 389, 317, 0), (0, 32, 50, 0, 369, 370, 0), (0, 36, 49, 0, 372, 327, 0), (0, 39, 5, 1, 731, 366, 367), (1, 34, 48, 0, 559, 400, 0), (1, 40, 50, 0, 546, 370, 0), (1, 44, 14, 1, 597, 531, 532), (1, 47, 11, 1, 598, 552, 553), (1, 50, 12, 1, 580, 561, 562), (1, 54, 13, 1, 583, 556, 557), (1, 57, 15, 1, 599, 543, 544), (1, 65, 18, 0, 584, 585, 0), (1, 69, 10, 0, 587, 588, 0), (1, 73, 197, 0, 761, 755, 0), (2, 44, 47, 0, 390, 317, 0), (2, 50, 4, 1, 361, 362, 363), (2, 53, 5, 1, 365, 366, 367), (2, 57, 43, 1, 373, 375, 1), (2, 61, 24, 1, 619, 620, 621), (2, 65, 40, 1, 623, 625, 14), (2, 69, 22, 1, 627, 628, 629), (2, 73, 33, 1, 631, 632, 633), (2, 76, 23, 1, 640, 641, 642), (2, 79, 42, 1, 647, 649, 16), (2, 83, 28, 1, 683, 616, 617), (2, 86, 49, 0, 447, 327, 0), (2, 90, 32, 1, 715, 717, 21), (2, 94, 30, 1, 719, 720, 721), (2, 97, 1, 1, 377, 378, 379), (2, 100, 3, 1, 385, 386, 387), (2, 103, 7, 1, 723, 724, 725), (2, 107, 6, 1, 727, 728, 729), (2, 111, 34, 1, 635, 637, 15), (2, 119, 196, 0, 644, 645, 0), (2, 124, 36, 1, 774, 776, 22), (2, 127, 41, 1, 778, 780, 23), (2, 131, 39, 1, 782, 784, 24), (2, 137, 38, 1, 797, 799, 25), (2, 140, 35, 1, 801, 771, 772), (2, 143, 26, 1, 403, 405, 3), (2, 146, 44, 1, 381, 383, 2), (2, 149, 45, 0, 392, 393, 0), (2, 160, 46, 1, 423, 425, 4), (2, 164, 2, 1, 395, 396, 397), (2, 170, 51, 0, 427, 428, 0), (3, 10, 198, 0, 431, 432, 0), (4, 9, 8, 2, 187, 188, 0), (4, 24, 14, 1, 530, 531, 532), (4, 27, 15, 1, 542, 543, 544), (4, 31, 58, 1, 547, 549, 10), (4, 34, 11, 1, 551, 552, 553), (4, 38, 12, 1, 560, 561, 562), (4, 42, 13, 1, 555, 556, 557), (4, 47, 9, 0, 744, 535, 0), (4, 51, 10, 0, 745, 588, 0), (5, 29, 62, 1, 501, 503, 8), (5, 32, 66, 1, 507, 509, 9), (6, 47, 8, 2, 214, 188, 0), (6, 50, 93, 0, 245, 246, 0), (6, 53, 47, 0, 316, 317, 0), (6, 59, 49, 0, 326, 327, 0), (6, 64, 96, 0, 338, 339, 0), (6, 68, 27, 1, 357, 358, 359), (6, 72, 103, 1, 448, 450, 5), (6, 76, 98, 1, 464, 466, 6), (6, 80, 106, 0, 478, 479, 0), (6, 91, 104, 1, 484, 486, 7), (6, 95, 63, 1, 497, 498, 499), (6, 98, 60, 1, 514, 515, 516), (6, 103, 54, 1, 526, 527, 528), (6, 106, 9, 0, 534, 535, 0), (6, 110, 55, 1, 538, 539, 540), (6, 114, 105, 1, 564, 566, 11), (6, 117, 94, 0, 607, 608, 0), (6, 120, 97, 1, 610, 612, 13), (6, 123, 28, 1, 615, 616, 617), (6, 126, 100, 1, 651, 653, 17), (6, 130, 101, 1, 657, 659, 18), (6, 134, 110, 1, 662, 664, 19), (6, 138, 29, 1, 679, 680, 681), (6, 141, 107, 0, 684, 685, 0), (6, 145, 111, 1, 689, 691, 20), (6, 154, 31, 1, 711, 712, 713), (6, 157, 30, 1, 732, 720, 721), (6, 160, 57, 1, 740, 741, 742), (6, 164, 33, 1, 753, 632, 633), (6, 167, 197, 0, 754, 755, 0), (6, 173, 19, 1, 757, 758, 759), (6, 179, 35, 1, 770, 771, 772), (6, 182, 37, 1, 793, 794, 795), (6, 186, 22, 1, 809, 628, 629), (6, 189, 95, 0, 817, 818, 0), (6, 192, 99, 1, 821, 823, 26), (6, 195, 23, 1, 826, 641, 642), (6, 198, 24, 1, 834, 620, 621), (6, 202, 108, 1, 843, 845, 27), (6, 205, 109, 1, 851, 853, 28), (6, 208, 65, 1, 859, 860, 861), (6, 214, 61, 1, 864, 865, 866), (6, 218, 64, 1, 875, 876, 877), (6, 222, 20, 1, 901, 902, 903), (6, 225, 11, 1, 693, 552, 553), (6, 230, 12, 1, 694, 561, 562), (6, 233, 13, 1, 695, 556, 557), (6, 236, 10, 0, 920, 588, 0), (6, 257, 48, 0, 656, 400, 0), (6, 260, 102, 1, 572, 574, 12), (6, 265, 25, 1, 452, 453, 454), (6, 270, 50, 0, 489, 370, 0), (6, 273, 53, 1, 568, 569, 570), (6, 277, 17, 1, 576, 577, 578), (6, 283, 16, 1, 593, 594, 595), (6, 309, 56, 1, 667, 668, 669), (7, 68, 115, 0, 1024, 1025, 0), (7, 72, 116, 0, 1020, 1021, 0), (7, 81, 122, 1, 1064, 1066, 36), (7, 87, 120, 1, 1158, 1160, 47), (7, 91, 121, 1, 1056, 1058, 34), (7, 95, 123, 1, 1060, 1062, 35), (7, 99, 125, 1, 1154, 1156, 46), (7, 102, 119, 1, 1198, 1200, 56), (7, 106, 126, 1, 1226, 1228, 61), (7, 109, 128, 1, 1230, 1232, 62), (7, 112, 130, 1, 1266, 1268, 68), (7, 124, 132, 0, 1114, 1115, 0), (7, 135, 134, 0, 1130, 1131, 0), (7, 143, 118, 1, 1035, 1037, 30), (7, 147, 135, 1, 1120, 1122, 41), (7, 151, 138, 1, 1174, 1176, 51), (7, 155, 136, 1, 1124, 1126, 42), (7, 159, 133, 0, 1110, 1111, 0), (7, 191, 143, 1, 1095, 1097, 39), (7, 194, 144, 1, 1099, 1101, 40), (7, 198, 142, 0, 1086, 1087, 0), (7, 202, 114, 1, 1027, 1029, 29), (7, 205, 124, 1, 1048, 1050, 32), (7, 208, 150, 1, 1044, 1046, 31), (7, 211, 149, 1, 1052, 1054, 33), (7, 214, 153, 1, 1072, 1074, 37), (7, 218, 152, 1, 1076, 1078, 38), (7, 227, 137, 1, 1135, 1137, 43), (7, 230, 158, 1, 1150, 1152, 45), (7, 234, 159, 1, 1162, 1164, 48), (7, 237, 160, 1, 1166, 1168, 49), (7, 241, 139, 1, 1170, 1172, 50), (7, 244, 161, 1, 1178, 1180, 52), (7, 248, 117, 0, 1143, 1144, 0), (7, 251, 162, 1, 1146, 1148, 44), (7, 254, 163, 1, 1182, 1184, 53), (7, 258, 127, 1, 1194, 1196, 55), (7, 261, 140, 1, 1202, 1204, 57), (7, 264, 165, 1, 1190, 1192, 54), (7, 267, 167, 1, 1210, 1212, 58), (7, 270, 129, 1, 1222, 1224, 60), (7, 273, 169, 1, 1218, 1220, 59), (7, 277, 141, 1, 1238, 1240, 63), (7, 280, 172, 1, 1250, 1252, 65), (7, 283, 173, 1, 1246, 1248, 64), (7, 286, 131, 1, 1262, 1264, 67), (7, 289, 175, 1, 1258, 1260, 66), (7, 297, 177, 1, 1275, 1277, 69), (7, 300, 180, 1, 1287, 1289, 70), (7, 303, 183, 0, 1304, 1305, 0), (7, 306, 146, 1, 1307, 1309, 72), (7, 312, 184, 1, 1300, 1302, 71), (7, 315, 145, 1, 1319, 1321, 74), (7, 319, 186, 1, 1315, 1317, 73), (7, 322, 188, 1, 1327, 1329, 75), (7, 325, 191, 1, 1339, 1341, 76), (7, 330, 194, 1, 1352, 1354, 77), (8, 7, 68, 1, 241, 242, 243), (8, 15, 69, 1, 322, 323, 324), (8, 18, 70, 1, 333, 334, 335), (8, 24, 71, 1, 460, 461, 462), (8, 29, 72, 1, 474, 475, 476), (8, 33, 73, 1, 493, 494, 495), (8, 36, 74, 1, 521, 522, 523), (8, 40, 75, 1, 603, 604, 605), (8, 44, 76, 1, 675, 676, 677), (8, 47, 77, 1, 699, 700, 701), (8, 50, 78, 1, 707, 708, 709), (8, 54, 79, 1, 736, 737, 738), (8, 57, 80, 1, 749, 750, 751), (8, 61, 81, 1, 765, 766, 767), (8, 64, 82, 1, 789, 790, 791), (8, 67, 83, 1, 805, 806, 807), (8, 70, 84, 1, 813, 814, 815), (8, 74, 85, 1, 830, 831, 832), (8, 77, 86, 1, 838, 839, 840), (8, 80, 87, 1, 871, 872, 873), (8, 83, 88, 1, 883, 884, 885), (8, 86, 89, 1, 890, 891, 892), (8, 90, 90, 1, 897, 898, 899), (8, 93, 91, 1, 908, 909, 910), (8, 96, 92, 1, 915, 916, 917), (8, 100, 67, 2, 100, 101, 0), (8, 103, 112, 2, 923, 924, 0), (8, 104, 199, 0, 237, 238, 0), (8, 109, 147, 1, 1016, 1017, 1018), (8, 110, 113, 1, 1012, 1013, 1014), (8, 114, 200, 0, 319, 320, 0), (8, 116, 148, 1, 1031, 1032, 1033), (8, 117, 201, 0, 329, 330, 0), (8, 120, 151, 1, 1039, 1040, 1041), (8, 121, 202, 0, 456, 457, 0), (8, 123, 154, 1, 1068, 1069, 1070), (8, 124, 203, 0, 471, 472, 0), (8, 127, 155, 1, 1080, 1081, 1082), (8, 128, 204, 0, 490, 491, 0), (8, 130, 156, 1, 1091, 1092, 1093), (8, 131, 205, 0, 518, 519, 0), (8, 134, 157, 1, 1104, 1105, 1106), (8, 135, 206, 0, 600, 601, 0), (8, 138, 164, 1, 1139, 1140, 1141), (8, 139, 207, 0, 672, 673, 0), (8, 141, 166, 1, 1186, 1187, 1188), (8, 142, 208, 0, 696, 697, 0), (8, 144, 168, 1, 1206, 1207, 1208), (8, 145, 209, 0, 704, 705, 0), (8, 148, 170, 1, 1214, 1215, 1216), (8, 149, 210, 0, 733, 734, 0), (8, 151, 171, 1, 1234, 1235, 1236), (8, 152, 211, 0, 746, 747, 0), (8, 155, 174, 1, 1242, 1243, 1244), (8, 156, 212, 0, 762, 763, 0), (8, 158, 176, 1, 1254, 1255, 1256), (8, 159, 213, 0, 786, 787, 0), (8, 161, 178, 1, 1270, 1271, 1272), (8, 162, 214, 0, 802, 803, 0), (8, 164, 179, 1, 1279, 1280, 1281), (8, 165, 215, 0, 810, 811, 0), (8, 167, 181, 1, 1283, 1284, 1285), (8, 168, 216, 0, 827, 828, 0), (8, 170, 182, 1, 1291, 1292, 1293), (8, 171, 217, 0, 835, 836, 0), (8, 173, 185, 1, 1295, 1296, 1297), (8, 174, 218, 0, 868, 869, 0), (8, 176, 187, 1, 1311, 1312, 1313), (8, 177, 219, 0, 880, 881, 0), (8, 179, 189, 1, 1323, 1324, 1325), (8, 180, 220, 0, 887, 888, 0), (8, 182, 190, 1, 1331, 1332, 1333), (8, 183, 221, 0, 894, 895, 0), (8, 185, 192, 1, 1335, 1336, 1337), (8, 186, 222, 0, 905, 906, 0), (8, 188, 193, 1, 1343, 1344, 1345), (8, 189, 223, 0, 912, 913, 0), (8, 191, 195, 1, 1347, 1348, 1349)]
def xcwp : List Nat := [118, 380, 398, 388, 364, 368, 730, 726, 189, 536, 589, 554, 563, 558, 533, 545, 596, 579, 586, 760, 904, 112, 630, 643, 622, 455, 406, 360, 618, 682, 722, 714, 718, 634, 638, 773, 777, 796, 800, 785, 626, 781, 650, 376, 384, 394, 426, 318, 401, 328, 371, 429, 183, 571, 529, 541, 670, 743, 550, 164, 517, 867, 504, 500, 878, 862, 510, 102, 244, 325, 336, 463, 477, 496, 524, 606, 678, 702, 710, 739, 752, 768, 792, 808, 816, 833, 841, 874, 886, 893, 900, 911, 918, 247, 609, 819, 340, 613, 467, 824, 654, 660, 575, 451, 487, 567, 480, 686, 846, 854, 665, 692, 925, 1015, 1030, 1026, 1022, 1145, 1038, 1201, 1161, 1059, 1067, 1063, 1051, 1157, 1229, 1197, 1233, 1225, 1269, 1265, 1116, 1112, 1132, 1123, 1127, 1138, 1177, 1173, 1205, 1241, 1088, 1098, 1102, 1322, 1310, 1019, 1034, 1055, 1047, 1042, 1079, 1075, 1071, 1083, 1094, 1107, 1153, 1165, 1169, 1181, 1149, 1185, 1142, 1193, 1189, 1213, 1209, 1221, 1217, 1237, 1253, 1249, 1245, 1261, 1257, 1278, 1273, 1282, 1290, 1286, 1294, 1306, 1303, 1298, 1318, 1314, 1330, 1326, 1334, 1342, 1338, 1346, 1355, 1350, 646, 756, 433, 239, 321, 331, 458, 473, 492, 520, 602, 674, 698, 706, 735, 748, 764, 788, 804, 812, 829, 837, 870, 882, 889, 896, 907, 914]
def xcip : List Nat := [81, 81, 81, 81, 81, 81, 81, 81, 84, 84, 84, 84, 84, 84, 84, 84, 84, 84, 84, 84, 84, 80, 80, 80, 80, 80, 80, 80, 80, 80, 80, 80, 80, 80, 80, 80, 80, 80, 80, 80, 80, 80, 80, 80, 80, 80, 80, 91, 91, 91, 91, 91, 83, 83, 83, 83, 83, 83, 83, 82, 82, 82, 82, 82, 82, 82, 82, 79, 79, 79, 79, 79, 79, 79, 79, 79, 79, 79, 79, 79, 79, 79, 79, 79, 79, 79, 79, 79, 79, 79, 79, 79, 79, 79, 79, 79, 79, 79, 79, 79, 79, 79, 79, 79, 79, 79, 79, 79, 79, 79, 79, 79, 86, 86, 86, 86, 86, 86, 86, 86, 86, 86, 86, 86, 86, 86, 86, 86, 86, 86, 86, 86, 86, 86, 86, 86, 86, 86, 86, 86, 86, 86, 86, 86, 86, 86, 86, 86, 86, 86, 86, 86, 86, 86, 86, 86, 86, 86, 86, 86, 86, 86, 86, 86, 86, 86, 86, 86, 86, 86, 86, 86, 86, 86, 86, 86, 86, 86, 86, 86, 86, 86, 86, 86, 86, 86, 86, 86, 86, 86, 86, 86, 86, 86, 86, 86, 96, 97, 94, 78, 78, 78, 78, 78, 78, 78, 78, 78, 78, 78, 78, 78, 78, 78, 78, 78, 78, 78, 78, 78, 78, 78, 78, 78]
def xOIp : List (Nat × Nat × Nat) := [(0, 1, 119), (1, 5, 190), (2, 3, 113), (4, 1, 184), (5, 3, 165), (6, 3, 103), (7, 1, 926)]
def xNSp : List (Nat × Nat × Nat × Nat) := [(2, 33, 0, 117), (6, 28, 21, 111), (6, 35, 59, 163), (6, 42, 52, 182)]
theorem xML_eq : xML = xMLp.map (fun q => (q.1, q.2.1, q.2.2.1, q.2.2.2.1)) := by decide +kernel
theorem xMLp_ok : ∀ q ∈ xMLp, lw_tbl[q.2.2.2.2.1]? = some (.methodLink (xcn q.1) q.2.1 (xy q.2.2.1)) ∧ (q.2.2.2.1 = 0 → lw_tbl[q.2.2.2.2.2.1]? = some (.static (xy q.2.2.1))) ∧ (q.2.2.2.1 ≠ 0 → lw_tbl[q.2.2.2.2.2.1]? = some (.instanceMethod (xy q.2.2.1)) ∧ xhr q.2.2.1 = []) ∧ (q.2.2.2.1 = 1 → lw_tbl[q.2.2.2.2.2.2]? = some (.selects (xy q.2.2.1).cls (xy q.2.2.1) (xy q.2.2.1))) ∧ (q.2.2.2.1 = 2 → (xy q.2.2.1).name = "<init>" ∧ xr q.2.2.1 = none) ∧ q.2.2.1 + 1 < xNM := by decide +kernel
def xcw (j : Nat) : Cond := match xhr j with
  | [] => .code (xy j) (xb j) (xml j) (xr j)
  | h :: hh => .codeWith (xy j) (xb j) (xml j) (xr j) (h :: hh)
def xAll (P : Nat → Prop) : Nat → Prop
  | 0 => True
  | n + 1 => P n ∧ xAll P n
theorem xAll_get {P : Nat → Prop} : ∀ {n : Nat}, xAll P n → ∀ j, j < n → P j
  | 0, _, j, h => absurd h (Nat.not_lt_zero j)
  | n + 1, h, j, hj => by
    rcases Nat.lt_or_ge j n with g | g
    · exact xAll_get h.2 j g
    · rw [show j = n by omega]
      exact h.1
set_option maxRecDepth 100000 in
theorem xcw_0 : lw_tbl[118]? = some (xcw 0) := rfl
set_option maxRecDepth 100000 in
theorem xcw_1 : lw_tbl[380]? = some (xcw 1) := rfl
set_option maxRecDepth 100000 in
theorem xcw_2 : lw_tbl[398]? = some (xcw 2) := rfl
set_option maxRecDepth 100000 in
theorem xcw_3 : lw_tbl[388]? = some (xcw 3) := rfl
set_option maxRecDepth 100000 in
theorem xcw_4 : lw_tbl[364]? = some (xcw 4) := rfl
set_option maxRecDepth 100000 in
theorem xcw_5 : lw_tbl[368]? = some (xcw 5) := rfl
set_option maxRecDepth 100000 in
theorem xcw_6 : lw_tbl[730]? = some (xcw 6) := rfl
set_option maxRecDepth 100000 in
theorem xcw_7 : lw_tbl[726]? = some (xcw 7) := rfl
set_option maxRecDepth 100000 in
theorem xcw_8 : lw_tbl[189]? = some (xcw 8) := rfl
set_option maxRecDepth 100000 in
theorem xcw_9 : lw_tbl[536]? = some (xcw 9) := rfl
set_option maxRecDepth 100000 in
theorem xcw_10 : lw_tbl[589]? = some (xcw 10) := rfl
set_option maxRecDepth 100000 in
theorem xcw_11 : lw_tbl[554]? = some (xcw 11) := rfl
set_option maxRecDepth 100000 in
theorem xcw_12 : lw_tbl[563]? = some (xcw 12) := rfl
set_option maxRecDepth 100000 in
theorem xcw_13 : lw_tbl[558]? = some (xcw 13) := rfl
set_option maxRecDepth 100000 in
theorem xcw_14 : lw_tbl[533]? = some (xcw 14) := rfl
set_option maxRecDepth 100000 in
theorem xcw_15 : lw_tbl[545]? = some (xcw 15) := rfl
set_option maxRecDepth 100000 in
theorem xcw_16 : lw_tbl[596]? = some (xcw 16) := rfl
set_option maxRecDepth 100000 in
theorem xcw_17 : lw_tbl[579]? = some (xcw 17) := rfl
set_option maxRecDepth 100000 in
theorem xcw_18 : lw_tbl[586]? = some (xcw 18) := rfl
set_option maxRecDepth 100000 in
theorem xcw_19 : lw_tbl[760]? = some (xcw 19) := rfl
set_option maxRecDepth 100000 in
theorem xcw_20 : lw_tbl[904]? = some (xcw 20) := rfl
set_option maxRecDepth 100000 in
theorem xcw_21 : lw_tbl[112]? = some (xcw 21) := rfl
set_option maxRecDepth 100000 in
theorem xcw_22 : lw_tbl[630]? = some (xcw 22) := rfl
set_option maxRecDepth 100000 in
theorem xcw_23 : lw_tbl[643]? = some (xcw 23) := rfl
set_option maxRecDepth 100000 in
theorem xcw_24 : lw_tbl[622]? = some (xcw 24) := rfl
set_option maxRecDepth 100000 in
theorem xcw_25 : lw_tbl[455]? = some (xcw 25) := rfl
set_option maxRecDepth 100000 in
theorem xcw_26 : lw_tbl[406]? = some (xcw 26) := rfl
set_option maxRecDepth 100000 in
theorem xcw_27 : lw_tbl[360]? = some (xcw 27) := rfl
set_option maxRecDepth 100000 in
theorem xcw_28 : lw_tbl[618]? = some (xcw 28) := rfl
set_option maxRecDepth 100000 in
theorem xcw_29 : lw_tbl[682]? = some (xcw 29) := rfl
set_option maxRecDepth 100000 in
theorem xcw_30 : lw_tbl[722]? = some (xcw 30) := rfl
set_option maxRecDepth 100000 in
theorem xcw_31 : lw_tbl[714]? = some (xcw 31) := rfl
set_option maxRecDepth 100000 in
theorem xcw_32 : lw_tbl[718]? = some (xcw 32) := rfl
set_option maxRecDepth 100000 in
theorem xcw_33 : lw_tbl[634]? = some (xcw 33) := rfl
set_option maxRecDepth 100000 in
theorem xcw_34 : lw_tbl[638]? = some (xcw 34) := rfl
set_option maxRecDepth 100000 in
theorem xcw_35 : lw_tbl[773]? = some (xcw 35) := rfl
set_option maxRecDepth 100000 in
theorem xcw_36 : lw_tbl[777]? = some (xcw 36) := rfl
set_option maxRecDepth 100000 in
theorem xcw_37 : lw_tbl[796]? = some (xcw 37) := rfl
set_option maxRecDepth 100000 in
theorem xcw_38 : lw_tbl[800]? = some (xcw 38) := rfl
set_option maxRecDepth 100000 in
theorem xcw_39 : lw_tbl[785]? = some (xcw 39) := rfl
set_option maxRecDepth 100000 in
theorem xcw_40 : lw_tbl[626]? = some (xcw 40) := rfl
set_option maxRecDepth 100000 in
theorem xcw_41 : lw_tbl[781]? = some (xcw 41) := rfl
set_option maxRecDepth 100000 in
theorem xcw_42 : lw_tbl[650]? = some (xcw 42) := rfl
set_option maxRecDepth 100000 in
theorem xcw_43 : lw_tbl[376]? = some (xcw 43) := rfl
set_option maxRecDepth 100000 in
theorem xcw_44 : lw_tbl[384]? = some (xcw 44) := rfl
set_option maxRecDepth 100000 in
theorem xcw_45 : lw_tbl[394]? = some (xcw 45) := rfl
set_option maxRecDepth 100000 in
theorem xcw_46 : lw_tbl[426]? = some (xcw 46) := rfl
set_option maxRecDepth 100000 in
theorem xcw_47 : lw_tbl[318]? = some (xcw 47) := rfl
set_option maxRecDepth 100000 in
theorem xcw_48 : lw_tbl[401]? = some (xcw 48) := rfl
set_option maxRecDepth 100000 in
theorem xcw_49 : lw_tbl[328]? = some (xcw 49) := rfl
set_option maxRecDepth 100000 in
theorem xcw_50 : lw_tbl[371]? = some (xcw 50) := rfl
set_option maxRecDepth 100000 in
theorem xcw_51 : lw_tbl[429]? = some (xcw 51) := rfl
set_option maxRecDepth 100000 in
theorem xcw_52 : lw_tbl[183]? = some (xcw 52) := rfl
set_option maxRecDepth 100000 in
theorem xcw_53 : lw_tbl[571]? = some (xcw 53) := rfl
set_option maxRecDepth 100000 in
theorem xcw_54 : lw_tbl[529]? = some (xcw 54) := rfl
set_option maxRecDepth 100000 in
theorem xcw_55 : lw_tbl[541]? = some (xcw 55) := rfl
set_option maxRecDepth 100000 in
theorem xcw_56 : lw_tbl[670]? = some (xcw 56) := rfl
set_option maxRecDepth 100000 in
theorem xcw_57 : lw_tbl[743]? = some (xcw 57) := rfl
set_option maxRecDepth 100000 in
theorem xcw_58 : lw_tbl[550]? = some (xcw 58) := rfl
set_option maxRecDepth 100000 in
theorem xcw_59 : lw_tbl[164]? = some (xcw 59) := rfl
set_option maxRecDepth 100000 in
theorem xcw_60 : lw_tbl[517]? = some (xcw 60) := rfl
set_option maxRecDepth 100000 in
theorem xcw_61 : lw_tbl[867]? = some (xcw 61) := rfl
set_option maxRecDepth 100000 in
theorem xcw_62 : lw_tbl[504]? = some (xcw 62) := rfl
set_option maxRecDepth 100000 in
theorem xcw_63 : lw_tbl[500]? = some (xcw 63) := rfl
set_option maxRecDepth 100000 in
theorem xcw_64 : lw_tbl[878]? = some (xcw 64) := rfl
set_option maxRecDepth 100000 in
theorem xcw_65 : lw_tbl[862]? = some (xcw 65) := rfl
set_option maxRecDepth 100000 in
theorem xcw_66 : lw_tbl[510]? = some (xcw 66) := rfl
set_option maxRecDepth 100000 in
theorem xcw_67 : lw_tbl[102]? = some (xcw 67) := rfl
set_option maxRecDepth 100000 in
theorem xcw_68 : lw_tbl[244]? = some (xcw 68) := rfl
set_option maxRecDepth 100000 in
theorem xcw_69 : lw_tbl[325]? = some (xcw 69) := rfl
set_option maxRecDepth 100000 in
theorem xcw_70 : lw_tbl[336]? = some (xcw 70) := rfl
set_option maxRecDepth 100000 in
theorem xcw_71 : lw_tbl[463]? = some (xcw 71) := rfl
set_option maxRecDepth 100000 in
theorem xcw_72 : lw_tbl[477]? = some (xcw 72) := rfl
set_option maxRecDepth 100000 in
theorem xcw_73 : lw_tbl[496]? = some (xcw 73) := rfl
set_option maxRecDepth 100000 in
theorem xcw_74 : lw_tbl[524]? = some (xcw 74) := rfl
set_option maxRecDepth 100000 in
theorem xcw_75 : lw_tbl[606]? = some (xcw 75) := rfl
set_option maxRecDepth 100000 in
theorem xcw_76 : lw_tbl[678]? = some (xcw 76) := rfl
set_option maxRecDepth 100000 in
theorem xcw_77 : lw_tbl[702]? = some (xcw 77) := rfl
set_option maxRecDepth 100000 in
theorem xcw_78 : lw_tbl[710]? = some (xcw 78) := rfl
set_option maxRecDepth 100000 in
theorem xcw_79 : lw_tbl[739]? = some (xcw 79) := rfl
set_option maxRecDepth 100000 in
theorem xcw_80 : lw_tbl[752]? = some (xcw 80) := rfl
set_option maxRecDepth 100000 in
theorem xcw_81 : lw_tbl[768]? = some (xcw 81) := rfl
set_option maxRecDepth 100000 in
theorem xcw_82 : lw_tbl[792]? = some (xcw 82) := rfl
set_option maxRecDepth 100000 in
theorem xcw_83 : lw_tbl[808]? = some (xcw 83) := rfl
set_option maxRecDepth 100000 in
theorem xcw_84 : lw_tbl[816]? = some (xcw 84) := rfl
set_option maxRecDepth 100000 in
theorem xcw_85 : lw_tbl[833]? = some (xcw 85) := rfl
set_option maxRecDepth 100000 in
theorem xcw_86 : lw_tbl[841]? = some (xcw 86) := rfl
set_option maxRecDepth 100000 in
theorem xcw_87 : lw_tbl[874]? = some (xcw 87) := rfl
set_option maxRecDepth 100000 in
theorem xcw_88 : lw_tbl[886]? = some (xcw 88) := rfl
set_option maxRecDepth 100000 in
theorem xcw_89 : lw_tbl[893]? = some (xcw 89) := rfl
set_option maxRecDepth 100000 in
theorem xcw_90 : lw_tbl[900]? = some (xcw 90) := rfl
set_option maxRecDepth 100000 in
theorem xcw_91 : lw_tbl[911]? = some (xcw 91) := rfl
set_option maxRecDepth 100000 in
theorem xcw_92 : lw_tbl[918]? = some (xcw 92) := rfl
set_option maxRecDepth 100000 in
theorem xcw_93 : lw_tbl[247]? = some (xcw 93) := rfl
set_option maxRecDepth 100000 in
theorem xcw_94 : lw_tbl[609]? = some (xcw 94) := rfl
set_option maxRecDepth 100000 in
theorem xcw_95 : lw_tbl[819]? = some (xcw 95) := rfl
set_option maxRecDepth 100000 in
theorem xcw_96 : lw_tbl[340]? = some (xcw 96) := rfl
set_option maxRecDepth 100000 in
theorem xcw_97 : lw_tbl[613]? = some (xcw 97) := rfl
set_option maxRecDepth 100000 in
theorem xcw_98 : lw_tbl[467]? = some (xcw 98) := rfl
set_option maxRecDepth 100000 in
theorem xcw_99 : lw_tbl[824]? = some (xcw 99) := rfl
set_option maxRecDepth 100000 in
theorem xcw_100 : lw_tbl[654]? = some (xcw 100) := rfl
set_option maxRecDepth 100000 in
theorem xcw_101 : lw_tbl[660]? = some (xcw 101) := rfl
set_option maxRecDepth 100000 in
theorem xcw_102 : lw_tbl[575]? = some (xcw 102) := rfl
set_option maxRecDepth 100000 in
theorem xcw_103 : lw_tbl[451]? = some (xcw 103) := rfl
set_option maxRecDepth 100000 in
theorem xcw_104 : lw_tbl[487]? = some (xcw 104) := rfl
set_option maxRecDepth 100000 in
theorem xcw_105 : lw_tbl[567]? = some (xcw 105) := rfl
set_option maxRecDepth 100000 in
theorem xcw_106 : lw_tbl[480]? = some (xcw 106) := rfl
set_option maxRecDepth 100000 in
theorem xcw_107 : lw_tbl[686]? = some (xcw 107) := rfl
set_option maxRecDepth 100000 in
theorem xcw_108 : lw_tbl[846]? = some (xcw 108) := rfl
set_option maxRecDepth 100000 in
theorem xcw_109 : lw_tbl[854]? = some (xcw 109) := rfl
set_option maxRecDepth 100000 in
theorem xcw_110 : lw_tbl[665]? = some (xcw 110) := rfl
set_option maxRecDepth 100000 in
theorem xcw_111 : lw_tbl[692]? = some (xcw 111) := rfl
set_option maxRecDepth 100000 in
theorem xcw_112 : lw_tbl[925]? = some (xcw 112) := rfl
set_option maxRecDepth 100000 in
theorem xcw_113 : lw_tbl[1015]? = some (xcw 113) := rfl
set_option maxRecDepth 100000 in
theorem xcw_114 : lw_tbl[1030]? = some (xcw 114) := rfl
set_option maxRecDepth 100000 in
theorem xcw_115 : lw_tbl[1026]? = some (xcw 115) := rfl
set_option maxRecDepth 100000 in
theorem xcw_116 : lw_tbl[1022]? = some (xcw 116) := rfl
set_option maxRecDepth 100000 in
theorem xcw_117 : lw_tbl[1145]? = some (xcw 117) := rfl
set_option maxRecDepth 100000 in
theorem xcw_118 : lw_tbl[1038]? = some (xcw 118) := rfl
set_option maxRecDepth 100000 in
theorem xcw_119 : lw_tbl[1201]? = some (xcw 119) := rfl
set_option maxRecDepth 100000 in
theorem xcw_120 : lw_tbl[1161]? = some (xcw 120) := rfl
set_option maxRecDepth 100000 in
theorem xcw_121 : lw_tbl[1059]? = some (xcw 121) := rfl
set_option maxRecDepth 100000 in
theorem xcw_122 : lw_tbl[1067]? = some (xcw 122) := rfl
set_option maxRecDepth 100000 in
theorem xcw_123 : lw_tbl[1063]? = some (xcw 123) := rfl
set_option maxRecDepth 100000 in
theorem xcw_124 : lw_tbl[1051]? = some (xcw 124) := rfl
set_option maxRecDepth 100000 in
theorem xcw_125 : lw_tbl[1157]? = some (xcw 125) := rfl
set_option maxRecDepth 100000 in
theorem xcw_126 : lw_tbl[1229]? = some (xcw 126) := rfl
set_option maxRecDepth 100000 in
theorem xcw_127 : lw_tbl[1197]? = some (xcw 127) := rfl
set_option maxRecDepth 100000 in
theorem xcw_128 : lw_tbl[1233]? = some (xcw 128) := rfl
set_option maxRecDepth 100000 in
theorem xcw_129 : lw_tbl[1225]? = some (xcw 129) := rfl
set_option maxRecDepth 100000 in
theorem xcw_130 : lw_tbl[1269]? = some (xcw 130) := rfl
set_option maxRecDepth 100000 in
theorem xcw_131 : lw_tbl[1265]? = some (xcw 131) := rfl
set_option maxRecDepth 100000 in
theorem xcw_132 : lw_tbl[1116]? = some (xcw 132) := rfl
set_option maxRecDepth 100000 in
theorem xcw_133 : lw_tbl[1112]? = some (xcw 133) := rfl
set_option maxRecDepth 100000 in
theorem xcw_134 : lw_tbl[1132]? = some (xcw 134) := rfl
set_option maxRecDepth 100000 in
theorem xcw_135 : lw_tbl[1123]? = some (xcw 135) := rfl
set_option maxRecDepth 100000 in
theorem xcw_136 : lw_tbl[1127]? = some (xcw 136) := rfl
set_option maxRecDepth 100000 in
theorem xcw_137 : lw_tbl[1138]? = some (xcw 137) := rfl
set_option maxRecDepth 100000 in
theorem xcw_138 : lw_tbl[1177]? = some (xcw 138) := rfl
set_option maxRecDepth 100000 in
theorem xcw_139 : lw_tbl[1173]? = some (xcw 139) := rfl
set_option maxRecDepth 100000 in
theorem xcw_140 : lw_tbl[1205]? = some (xcw 140) := rfl
set_option maxRecDepth 100000 in
theorem xcw_141 : lw_tbl[1241]? = some (xcw 141) := rfl
set_option maxRecDepth 100000 in
theorem xcw_142 : lw_tbl[1088]? = some (xcw 142) := rfl
set_option maxRecDepth 100000 in
theorem xcw_143 : lw_tbl[1098]? = some (xcw 143) := rfl
set_option maxRecDepth 100000 in
theorem xcw_144 : lw_tbl[1102]? = some (xcw 144) := rfl
set_option maxRecDepth 100000 in
theorem xcw_145 : lw_tbl[1322]? = some (xcw 145) := rfl
set_option maxRecDepth 100000 in
theorem xcw_146 : lw_tbl[1310]? = some (xcw 146) := rfl
set_option maxRecDepth 100000 in
theorem xcw_147 : lw_tbl[1019]? = some (xcw 147) := rfl
set_option maxRecDepth 100000 in
theorem xcw_148 : lw_tbl[1034]? = some (xcw 148) := rfl
set_option maxRecDepth 100000 in
theorem xcw_149 : lw_tbl[1055]? = some (xcw 149) := rfl
set_option maxRecDepth 100000 in
theorem xcw_150 : lw_tbl[1047]? = some (xcw 150) := rfl
set_option maxRecDepth 100000 in
theorem xcw_151 : lw_tbl[1042]? = some (xcw 151) := rfl
set_option maxRecDepth 100000 in
theorem xcw_152 : lw_tbl[1079]? = some (xcw 152) := rfl
set_option maxRecDepth 100000 in
theorem xcw_153 : lw_tbl[1075]? = some (xcw 153) := rfl
set_option maxRecDepth 100000 in
theorem xcw_154 : lw_tbl[1071]? = some (xcw 154) := rfl
set_option maxRecDepth 100000 in
theorem xcw_155 : lw_tbl[1083]? = some (xcw 155) := rfl
set_option maxRecDepth 100000 in
theorem xcw_156 : lw_tbl[1094]? = some (xcw 156) := rfl
set_option maxRecDepth 100000 in
theorem xcw_157 : lw_tbl[1107]? = some (xcw 157) := rfl
set_option maxRecDepth 100000 in
theorem xcw_158 : lw_tbl[1153]? = some (xcw 158) := rfl
set_option maxRecDepth 100000 in
theorem xcw_159 : lw_tbl[1165]? = some (xcw 159) := rfl
set_option maxRecDepth 100000 in
theorem xcw_160 : lw_tbl[1169]? = some (xcw 160) := rfl
set_option maxRecDepth 100000 in
theorem xcw_161 : lw_tbl[1181]? = some (xcw 161) := rfl
set_option maxRecDepth 100000 in
theorem xcw_162 : lw_tbl[1149]? = some (xcw 162) := rfl
set_option maxRecDepth 100000 in
theorem xcw_163 : lw_tbl[1185]? = some (xcw 163) := rfl
set_option maxRecDepth 100000 in
theorem xcw_164 : lw_tbl[1142]? = some (xcw 164) := rfl
set_option maxRecDepth 100000 in
theorem xcw_165 : lw_tbl[1193]? = some (xcw 165) := rfl
set_option maxRecDepth 100000 in
theorem xcw_166 : lw_tbl[1189]? = some (xcw 166) := rfl
set_option maxRecDepth 100000 in
theorem xcw_167 : lw_tbl[1213]? = some (xcw 167) := rfl
set_option maxRecDepth 100000 in
theorem xcw_168 : lw_tbl[1209]? = some (xcw 168) := rfl
set_option maxRecDepth 100000 in
theorem xcw_169 : lw_tbl[1221]? = some (xcw 169) := rfl
set_option maxRecDepth 100000 in
theorem xcw_170 : lw_tbl[1217]? = some (xcw 170) := rfl
set_option maxRecDepth 100000 in
theorem xcw_171 : lw_tbl[1237]? = some (xcw 171) := rfl
set_option maxRecDepth 100000 in
theorem xcw_172 : lw_tbl[1253]? = some (xcw 172) := rfl
set_option maxRecDepth 100000 in
theorem xcw_173 : lw_tbl[1249]? = some (xcw 173) := rfl
set_option maxRecDepth 100000 in
theorem xcw_174 : lw_tbl[1245]? = some (xcw 174) := rfl
set_option maxRecDepth 100000 in
theorem xcw_175 : lw_tbl[1261]? = some (xcw 175) := rfl
set_option maxRecDepth 100000 in
theorem xcw_176 : lw_tbl[1257]? = some (xcw 176) := rfl
set_option maxRecDepth 100000 in
theorem xcw_177 : lw_tbl[1278]? = some (xcw 177) := rfl
set_option maxRecDepth 100000 in
theorem xcw_178 : lw_tbl[1273]? = some (xcw 178) := rfl
set_option maxRecDepth 100000 in
theorem xcw_179 : lw_tbl[1282]? = some (xcw 179) := rfl
set_option maxRecDepth 100000 in
theorem xcw_180 : lw_tbl[1290]? = some (xcw 180) := rfl
set_option maxRecDepth 100000 in
theorem xcw_181 : lw_tbl[1286]? = some (xcw 181) := rfl
set_option maxRecDepth 100000 in
theorem xcw_182 : lw_tbl[1294]? = some (xcw 182) := rfl
set_option maxRecDepth 100000 in
theorem xcw_183 : lw_tbl[1306]? = some (xcw 183) := rfl
set_option maxRecDepth 100000 in
theorem xcw_184 : lw_tbl[1303]? = some (xcw 184) := rfl
set_option maxRecDepth 100000 in
theorem xcw_185 : lw_tbl[1298]? = some (xcw 185) := rfl
set_option maxRecDepth 100000 in
theorem xcw_186 : lw_tbl[1318]? = some (xcw 186) := rfl
set_option maxRecDepth 100000 in
theorem xcw_187 : lw_tbl[1314]? = some (xcw 187) := rfl
set_option maxRecDepth 100000 in
theorem xcw_188 : lw_tbl[1330]? = some (xcw 188) := rfl
set_option maxRecDepth 100000 in
theorem xcw_189 : lw_tbl[1326]? = some (xcw 189) := rfl
set_option maxRecDepth 100000 in
theorem xcw_190 : lw_tbl[1334]? = some (xcw 190) := rfl
set_option maxRecDepth 100000 in
theorem xcw_191 : lw_tbl[1342]? = some (xcw 191) := rfl
set_option maxRecDepth 100000 in
theorem xcw_192 : lw_tbl[1338]? = some (xcw 192) := rfl
set_option maxRecDepth 100000 in
theorem xcw_193 : lw_tbl[1346]? = some (xcw 193) := rfl
set_option maxRecDepth 100000 in
theorem xcw_194 : lw_tbl[1355]? = some (xcw 194) := rfl
set_option maxRecDepth 100000 in
theorem xcw_195 : lw_tbl[1350]? = some (xcw 195) := rfl
set_option maxRecDepth 100000 in
theorem xcw_196 : lw_tbl[646]? = some (xcw 196) := rfl
set_option maxRecDepth 100000 in
theorem xcw_197 : lw_tbl[756]? = some (xcw 197) := rfl
set_option maxRecDepth 100000 in
theorem xcw_198 : lw_tbl[433]? = some (xcw 198) := rfl
set_option maxRecDepth 100000 in
theorem xcw_199 : lw_tbl[239]? = some (xcw 199) := rfl
set_option maxRecDepth 100000 in
theorem xcw_200 : lw_tbl[321]? = some (xcw 200) := rfl
set_option maxRecDepth 100000 in
theorem xcw_201 : lw_tbl[331]? = some (xcw 201) := rfl
set_option maxRecDepth 100000 in
theorem xcw_202 : lw_tbl[458]? = some (xcw 202) := rfl
set_option maxRecDepth 100000 in
theorem xcw_203 : lw_tbl[473]? = some (xcw 203) := rfl
set_option maxRecDepth 100000 in
theorem xcw_204 : lw_tbl[492]? = some (xcw 204) := rfl
set_option maxRecDepth 100000 in
theorem xcw_205 : lw_tbl[520]? = some (xcw 205) := rfl
set_option maxRecDepth 100000 in
theorem xcw_206 : lw_tbl[602]? = some (xcw 206) := rfl
set_option maxRecDepth 100000 in
theorem xcw_207 : lw_tbl[674]? = some (xcw 207) := rfl
set_option maxRecDepth 100000 in
theorem xcw_208 : lw_tbl[698]? = some (xcw 208) := rfl
set_option maxRecDepth 100000 in
theorem xcw_209 : lw_tbl[706]? = some (xcw 209) := rfl
set_option maxRecDepth 100000 in
theorem xcw_210 : lw_tbl[735]? = some (xcw 210) := rfl
set_option maxRecDepth 100000 in
theorem xcw_211 : lw_tbl[748]? = some (xcw 211) := rfl
set_option maxRecDepth 100000 in
theorem xcw_212 : lw_tbl[764]? = some (xcw 212) := rfl
set_option maxRecDepth 100000 in
theorem xcw_213 : lw_tbl[788]? = some (xcw 213) := rfl
set_option maxRecDepth 100000 in
theorem xcw_214 : lw_tbl[804]? = some (xcw 214) := rfl
set_option maxRecDepth 100000 in
theorem xcw_215 : lw_tbl[812]? = some (xcw 215) := rfl
set_option maxRecDepth 100000 in
theorem xcw_216 : lw_tbl[829]? = some (xcw 216) := rfl
set_option maxRecDepth 100000 in
theorem xcw_217 : lw_tbl[837]? = some (xcw 217) := rfl
set_option maxRecDepth 100000 in
theorem xcw_218 : lw_tbl[870]? = some (xcw 218) := rfl
set_option maxRecDepth 100000 in
theorem xcw_219 : lw_tbl[882]? = some (xcw 219) := rfl
set_option maxRecDepth 100000 in
theorem xcw_220 : lw_tbl[889]? = some (xcw 220) := rfl
set_option maxRecDepth 100000 in
theorem xcw_221 : lw_tbl[896]? = some (xcw 221) := rfl
set_option maxRecDepth 100000 in
theorem xcw_222 : lw_tbl[907]? = some (xcw 222) := rfl
set_option maxRecDepth 100000 in
theorem xcw_223 : lw_tbl[914]? = some (xcw 223) := rfl
theorem xcw_all : xAll (fun j => xcw j ∈ lw_tbl) 224 := ⟨List.mem_of_getElem? xcw_223, List.mem_of_getElem? xcw_222, List.mem_of_getElem? xcw_221, List.mem_of_getElem? xcw_220, List.mem_of_getElem? xcw_219, List.mem_of_getElem? xcw_218, List.mem_of_getElem? xcw_217, List.mem_of_getElem? xcw_216, List.mem_of_getElem? xcw_215, List.mem_of_getElem? xcw_214, List.mem_of_getElem? xcw_213, List.mem_of_getElem? xcw_212, List.mem_of_getElem? xcw_211, List.mem_of_getElem? xcw_210, List.mem_of_getElem? xcw_209, List.mem_of_getElem? xcw_208, List.mem_of_getElem? xcw_207, List.mem_of_getElem? xcw_206, List.mem_of_getElem? xcw_205, List.mem_of_getElem? xcw_204, List.mem_of_getElem? xcw_203, List.mem_of_getElem? xcw_202, List.mem_of_getElem? xcw_201, List.mem_of_getElem? xcw_200, List.mem_of_getElem? xcw_199, List.mem_of_getElem? xcw_198, List.mem_of_getElem? xcw_197, List.mem_of_getElem? xcw_196, List.mem_of_getElem? xcw_195, List.mem_of_getElem? xcw_194, List.mem_of_getElem? xcw_193, List.mem_of_getElem? xcw_192, List.mem_of_getElem? xcw_191, List.mem_of_getElem? xcw_190, List.mem_of_getElem? xcw_189, List.mem_of_getElem? xcw_188, List.mem_of_getElem? xcw_187, List.mem_of_getElem? xcw_186, List.mem_of_getElem? xcw_185, List.mem_of_getElem? xcw_184, List.mem_of_getElem? xcw_183, List.mem_of_getElem? xcw_182, List.mem_of_getElem? xcw_181, List.mem_of_getElem? xcw_180, List.mem_of_getElem? xcw_179, List.mem_of_getElem? xcw_178, List.mem_of_getElem? xcw_177, List.mem_of_getElem? xcw_176, List.mem_of_getElem? xcw_175, List.mem_of_getElem? xcw_174, List.mem_of_getElem? xcw_173, List.mem_of_getElem? xcw_172, List.mem_of_getElem? xcw_171, List.mem_of_getElem? xcw_170, List.mem_of_getElem? xcw_169, List.mem_of_getElem? xcw_168, List.mem_of_getElem? xcw_167, List.mem_of_getElem? xcw_166, List.mem_of_getElem? xcw_165, List.mem_of_getElem? xcw_164, List.mem_of_getElem? xcw_163, List.mem_of_getElem? xcw_162, List.mem_of_getElem? xcw_161, List.mem_of_getElem? xcw_160, List.mem_of_getElem? xcw_159, List.mem_of_getElem? xcw_158, List.mem_of_getElem? xcw_157, List.mem_of_getElem? xcw_156, List.mem_of_getElem? xcw_155, List.mem_of_getElem? xcw_154, List.mem_of_getElem? xcw_153, List.mem_of_getElem? xcw_152, List.mem_of_getElem? xcw_151, List.mem_of_getElem? xcw_150, List.mem_of_getElem? xcw_149, List.mem_of_getElem? xcw_148, List.mem_of_getElem? xcw_147, List.mem_of_getElem? xcw_146, List.mem_of_getElem? xcw_145, List.mem_of_getElem? xcw_144, List.mem_of_getElem? xcw_143, List.mem_of_getElem? xcw_142, List.mem_of_getElem? xcw_141, List.mem_of_getElem? xcw_140, List.mem_of_getElem? xcw_139, List.mem_of_getElem? xcw_138, List.mem_of_getElem? xcw_137, List.mem_of_getElem? xcw_136, List.mem_of_getElem? xcw_135, List.mem_of_getElem? xcw_134, List.mem_of_getElem? xcw_133, List.mem_of_getElem? xcw_132, List.mem_of_getElem? xcw_131, List.mem_of_getElem? xcw_130, List.mem_of_getElem? xcw_129, List.mem_of_getElem? xcw_128, List.mem_of_getElem? xcw_127, List.mem_of_getElem? xcw_126, List.mem_of_getElem? xcw_125, List.mem_of_getElem? xcw_124, List.mem_of_getElem? xcw_123, List.mem_of_getElem? xcw_122, List.mem_of_getElem? xcw_121, List.mem_of_getElem? xcw_120, List.mem_of_getElem? xcw_119, List.mem_of_getElem? xcw_118, List.mem_of_getElem? xcw_117, List.mem_of_getElem? xcw_116, List.mem_of_getElem? xcw_115, List.mem_of_getElem? xcw_114, List.mem_of_getElem? xcw_113, List.mem_of_getElem? xcw_112, List.mem_of_getElem? xcw_111, List.mem_of_getElem? xcw_110, List.mem_of_getElem? xcw_109, List.mem_of_getElem? xcw_108, List.mem_of_getElem? xcw_107, List.mem_of_getElem? xcw_106, List.mem_of_getElem? xcw_105, List.mem_of_getElem? xcw_104, List.mem_of_getElem? xcw_103, List.mem_of_getElem? xcw_102, List.mem_of_getElem? xcw_101, List.mem_of_getElem? xcw_100, List.mem_of_getElem? xcw_99, List.mem_of_getElem? xcw_98, List.mem_of_getElem? xcw_97, List.mem_of_getElem? xcw_96, List.mem_of_getElem? xcw_95, List.mem_of_getElem? xcw_94, List.mem_of_getElem? xcw_93, List.mem_of_getElem? xcw_92, List.mem_of_getElem? xcw_91, List.mem_of_getElem? xcw_90, List.mem_of_getElem? xcw_89, List.mem_of_getElem? xcw_88, List.mem_of_getElem? xcw_87, List.mem_of_getElem? xcw_86, List.mem_of_getElem? xcw_85, List.mem_of_getElem? xcw_84, List.mem_of_getElem? xcw_83, List.mem_of_getElem? xcw_82, List.mem_of_getElem? xcw_81, List.mem_of_getElem? xcw_80, List.mem_of_getElem? xcw_79, List.mem_of_getElem? xcw_78, List.mem_of_getElem? xcw_77, List.mem_of_getElem? xcw_76, List.mem_of_getElem? xcw_75, List.mem_of_getElem? xcw_74, List.mem_of_getElem? xcw_73, List.mem_of_getElem? xcw_72, List.mem_of_getElem? xcw_71, List.mem_of_getElem? xcw_70, List.mem_of_getElem? xcw_69, List.mem_of_getElem? xcw_68, List.mem_of_getElem? xcw_67, List.mem_of_getElem? xcw_66, List.mem_of_getElem? xcw_65, List.mem_of_getElem? xcw_64, List.mem_of_getElem? xcw_63, List.mem_of_getElem? xcw_62, List.mem_of_getElem? xcw_61, List.mem_of_getElem? xcw_60, List.mem_of_getElem? xcw_59, List.mem_of_getElem? xcw_58, List.mem_of_getElem? xcw_57, List.mem_of_getElem? xcw_56, List.mem_of_getElem? xcw_55, List.mem_of_getElem? xcw_54, List.mem_of_getElem? xcw_53, List.mem_of_getElem? xcw_52, List.mem_of_getElem? xcw_51, List.mem_of_getElem? xcw_50, List.mem_of_getElem? xcw_49, List.mem_of_getElem? xcw_48, List.mem_of_getElem? xcw_47, List.mem_of_getElem? xcw_46, List.mem_of_getElem? xcw_45, List.mem_of_getElem? xcw_44, List.mem_of_getElem? xcw_43, List.mem_of_getElem? xcw_42, List.mem_of_getElem? xcw_41, List.mem_of_getElem? xcw_40, List.mem_of_getElem? xcw_39, List.mem_of_getElem? xcw_38, List.mem_of_getElem? xcw_37, List.mem_of_getElem? xcw_36, List.mem_of_getElem? xcw_35, List.mem_of_getElem? xcw_34, List.mem_of_getElem? xcw_33, List.mem_of_getElem? xcw_32, List.mem_of_getElem? xcw_31, List.mem_of_getElem? xcw_30, List.mem_of_getElem? xcw_29, List.mem_of_getElem? xcw_28, List.mem_of_getElem? xcw_27, List.mem_of_getElem? xcw_26, List.mem_of_getElem? xcw_25, List.mem_of_getElem? xcw_24, List.mem_of_getElem? xcw_23, List.mem_of_getElem? xcw_22, List.mem_of_getElem? xcw_21, List.mem_of_getElem? xcw_20, List.mem_of_getElem? xcw_19, List.mem_of_getElem? xcw_18, List.mem_of_getElem? xcw_17, List.mem_of_getElem? xcw_16, List.mem_of_getElem? xcw_15, List.mem_of_getElem? xcw_14, List.mem_of_getElem? xcw_13, List.mem_of_getElem? xcw_12, List.mem_of_getElem? xcw_11, List.mem_of_getElem? xcw_10, List.mem_of_getElem? xcw_9, List.mem_of_getElem? xcw_8, List.mem_of_getElem? xcw_7, List.mem_of_getElem? xcw_6, List.mem_of_getElem? xcw_5, List.mem_of_getElem? xcw_4, List.mem_of_getElem? xcw_3, List.mem_of_getElem? xcw_2, List.mem_of_getElem? xcw_1, List.mem_of_getElem? xcw_0, trivial⟩
theorem xcw_in (j : Nat) (h : j + 1 < xNM) : xcw j ∈ lw_tbl := xAll_get xcw_all j (by unfold xNM at h; omega)
theorem xci_ok : ∀ j, j < 224 → lw_tbl[xcip.getD j 0]? = some (.initialized (xy j).cls) := by decide +kernel
theorem xci_in (j : Nat) (h : j + 1 < xNM) : Cond.initialized (xy j).cls ∈ lw_tbl := List.mem_of_getElem? (xci_ok j (by unfold xNM at h; omega))
theorem xcw_ok2 : ∀ j, j < 224 → plainName (xy j).cls = true ∧ ((xy j).cls ≠ "java/lang/invoke/MethodHandle" ∧ (xy j).cls ≠ "java/lang/invoke/VarHandle") ∧ xml j ≤ 41 := by decide +kernel
theorem xcw_ok3 : ∀ j, j < 224 → (parseMethodDescriptor (xy j).desc).map (fun d => d.parameters.length) = some (xn j) := by decide +kernel
theorem xMMp_ok : ∀ q ∈ xMMp, lw_tbl[q.2.2.2]? = some (.methodLink (xcn q.1) q.2.1 (match q.2.2.1 with
  | 1 => Lib.Math.max.name
  | 2 => Lib.Math.min.name
  | 3 => Lib.MathLoose.max_long.x
  | _ => Lib.MathLoose.min_long.x)) := by decide +kernel
set_option maxRecDepth 100000 in
theorem xmm_s1 : lw_tbl[192]? = some (.static Lib.Math.max.name) := rfl
set_option maxRecDepth 100000 in
theorem xmm_c1 : lw_tbl[193]? = some (.code Lib.Math.max.name Lib.Math.max.code 2 (some .int)) := rfl
set_option maxRecDepth 100000 in
theorem xmm_s2 : lw_tbl[442]? = some (.static Lib.Math.min.name) := rfl
set_option maxRecDepth 100000 in
theorem xmm_c2 : lw_tbl[443]? = some (.code Lib.Math.min.name Lib.Math.min.code 2 (some .int)) := rfl
set_option maxRecDepth 100000 in
theorem xmm_s3 : lw_tbl[849]? = some (.static Lib.MathLoose.max_long.x) := rfl
set_option maxRecDepth 100000 in
theorem xmm_c3 : lw_tbl[850]? = some (.code Lib.MathLoose.max_long.x Lib.MathLoose.max_long.code 4 (some .long)) := rfl
set_option maxRecDepth 100000 in
theorem xmm_s4 : lw_tbl[857]? = some (.static Lib.MathLoose.min_long.x) := rfl
set_option maxRecDepth 100000 in
theorem xmm_c4 : lw_tbl[858]? = some (.code Lib.MathLoose.min_long.x Lib.MathLoose.min_long.code 4 (some .long)) := rfl
set_option maxRecDepth 100000 in
theorem xmm_i : lw_tbl[85]? = some (.initialized "java/lang/Math") := rfl
set_option maxRecDepth 100000 in
theorem xOI_ok : ∀ q ∈ xOIp, lw_tbl[q.2.2]? = some (.methodLink (xcn q.1) q.2.1 objectInit) := by decide +kernel
set_option maxRecDepth 100000 in
theorem xOI_i : lw_tbl[104]? = some (.instanceMethod objectInit) := rfl
set_option maxRecDepth 100000 in
theorem xOI_c : lw_tbl[105]? = some (.code objectInit ⟨#[0xb1]⟩ 1 none) := rfl
theorem xOI_eq : xOI = xOIp.map (fun q => (q.1, q.2.1)) := by decide +kernel
theorem xNS_ok : ∀ q ∈ xNSp, lw_tbl[q.2.2.2]? = some (.instanceMethod (xy q.2.2.1)) ∧ (xy q.2.2.1).name = "<init>" ∧ xr q.2.2.1 = none ∧ q.2.2.1 + 1 < xNM ∧ xhr q.2.2.1 = [] := by decide +kernel
theorem xNS_eq : xNS = xNSp.map (fun q => (q.1, q.2.1, q.2.2.1)) := by decide +kernel
set_option maxRecDepth 100000 in
theorem xAC_l : lw_tbl[444]? = some (.methodLink (xcn 9) 150 arraycopyName) := rfl
set_option maxRecDepth 100000 in
theorem xAC_n : lw_tbl[446]? = some (.native arraycopyName) := rfl
set_option maxRecDepth 100000 in
theorem xAC_s : lw_tbl[445]? = some (.static arraycopyName) := rfl
set_option maxRecDepth 100000 in
theorem xAC_i : lw_tbl[95]? = some (.initialized "java/lang/System") := rfl
end
section
/-! ===== the toy machine: a heap of handles, the decoded instructions, calls by number ===== -/
/-- the shape of a cell: 0 an object (its class's number; its references by slot), 1 ints, 2 longs, 3 references (length; references), 4 an exception, 5 the script -/
abbrev XT : Type := Nat × Nat × List (Option Nat)
/-- shapes by handle; ints and longs by handle and slot; slots used -/
abbrev XH : Type := List XT × (Nat → Nat → Int32) × (Nat → Nat → Int64) × Nat
abbrev XL : Type := List (Option Value)
/-- returned, or threw the exception of that number -/
abbrev XO : Type := Option Value ⊕ Nat
/-- an instruction with what it means: numbers a, b, c, an int, a long -/
abbrev XI : Type := Instr × Nat × Nat × Nat × Int32 × Int64
abbrev XF : Type := Nat × XL × List Value
abbrev XR : Type := (XF × XH) ⊕ (XO × XH)
def x_u1 {α : Type} (f : Nat → α) (k : Nat) (v : α) : Nat → α := fun b => if b = k then v else f b
def x_u2 {α : Type} (f : Nat → Nat → α) (h k : Nat) (v : α) : Nat → Nat → α := fun a => if a = h then x_u1 (f a) k v else f a
def x_cl (L : XL) (k : Nat) : XL := match k with
  | 0 => L
  | j + 1 => match L[j]? with
    | some (some (.long _)) => L.set j none
    | some (some (.double _)) => L.set j none
    | _ => L
def x_s1 (L : XL) (k : Nat) (v : Value) : XL := (x_cl L k).set k (some v)
def x_s2 (L : XL) (k : Nat) (v : Value) : XL := ((x_cl L k).set k (some v)).set (k + 1) none
def x_ldI (L : XL) (k : Nat) (f : Int32 → XF) : Option XF := match L[k]? with
  | some (some (.int x)) => some (f x)
  | _ => none
def x_ldL (L : XL) (k : Nat) (f : Int64 → XF) : Option XF := match L[k]? with
  | some (some (.long x)) => some (f x)
  | _ => none
def x_ldA (L : XL) (k : Nat) (f : Nat → XF) (g : XF) : Option XF := match L[k]? with
  | some (some (.ref x)) => some (f x)
  | some (some .null) => some g
  | _ => none
def x_if (b : Prop) [Decidable b] (x y : XF) : Option XF := some (if b then x else y)
/-- what an instruction does that neither reads nor writes the heap -/
def xpure (pc : Nat) (ins : Instr) (a : Nat) (v : Int32) (w : Int64) (L : XL) (st : List Value) : Option XF :=
  match ins, st with
  | .iconst _, st => some (pc + 1, L, .int v :: st)
  | .bipush _, st => some (pc + 2, L, .int v :: st)
  | .sipush _, st => some (pc + 3, L, .int v :: st)
  | .lconst _, st => some (pc + 1, L, .long w :: st)
  | .aconst_null, st => some (pc + 1, L, .null :: st)
  | .ldc _, st => some (pc + 2, L, .int v :: st)
  | .ldc_w _, st => some (pc + 3, L, .int v :: st)
  | .ldc2_w _, st => some (pc + 3, L, .long w :: st)
  | .iload k, st => x_ldI L k fun x => (pc + 2, L, .int x :: st)
  | .iload_n k, st => x_ldI L k fun x => (pc + 1, L, .int x :: st)
  | .lload k, st => x_ldL L k fun x => (pc + 2, L, .long x :: st)
  | .lload_n k, st => x_ldL L k fun x => (pc + 1, L, .long x :: st)
  | .aload k, st => x_ldA L k (fun x => (pc + 2, L, .ref x :: st)) (pc + 2, L, .null :: st)
  | .aload_n k, st => x_ldA L k (fun x => (pc + 1, L, .ref x :: st)) (pc + 1, L, .null :: st)
  | .istore k, .int x :: st => if k < L.length then some (pc + 2, x_s1 L k (.int x), st) else none
  | .istore_n k, .int x :: st => if (k : Nat) < L.length then some (pc + 1, x_s1 L k (.int x), st) else none
  | .lstore k, .long x :: st => if k + 1 < L.length then some (pc + 2, x_s2 L k (.long x), st) else none
  | .lstore_n k, .long x :: st => if (k : Nat) + 1 < L.length then some (pc + 1, x_s2 L k (.long x), st) else none
  | .astore k, .ref x :: st => if k < L.length then some (pc + 2, x_s1 L k (.ref x), st) else none
  | .astore_n k, .ref x :: st => if (k : Nat) < L.length then some (pc + 1, x_s1 L k (.ref x), st) else none
  | .iinc k _, st => if k < L.length then x_ldI L k (fun x => (pc + 3, x_s1 L k (.int (x + v)), st)) else none
  | .iadd, .int y :: .int x :: st => some (pc + 1, L, .int (x + y) :: st)
  | .isub, .int y :: .int x :: st => some (pc + 1, L, .int (x - y) :: st)
  | .imul, .int y :: .int x :: st => some (pc + 1, L, .int (x * y) :: st)
  | .iand, .int y :: .int x :: st => some (pc + 1, L, .int (x &&& y) :: st)
  | .ishl, .int y :: .int x :: st => some (pc + 1, L, .int (x <<< (y &&& 31)) :: st)
  | .ishr, .int y :: .int x :: st => some (pc + 1, L, .int (x >>> (y &&& 31)) :: st)
  | .ladd, .long y :: .long x :: st => some (pc + 1, L, .long (x + y) :: st)
  | .lsub, .long y :: .long x :: st => some (pc + 1, L, .long (x - y) :: st)
  | .lmul, .long y :: .long x :: st => some (pc + 1, L, .long (x * y) :: st)
  | .land, .long y :: .long x :: st => some (pc + 1, L, .long (x &&& y) :: st)
  | .ldiv, .long y :: .long x :: st => if y = 0 then none else some (pc + 1, L, .long (x / y) :: st)
  | .lrem, .long y :: .long x :: st => if y = 0 then none else some (pc + 1, L, .long (x - x / y * y) :: st)
  | .lshl, .int y :: .long x :: st => some (pc + 1, L, .long (x <<< (y.toInt64 &&& 63)) :: st)
  | .lshr, .int y :: .long x :: st => some (pc + 1, L, .long (x >>> (y.toInt64 &&& 63)) :: st)
  | .i2l, .int x :: st => some (pc + 1, L, .long x.toInt64 :: st)
  | .l2i, .long x :: st => some (pc + 1, L, .int x.toInt32 :: st)
  | .lcmp, .long y :: .long x :: st => some (pc + 1, L, .int (lg_cmp x y) :: st)
  | .dup, .int x :: st => some (pc + 1, L, .int x :: .int x :: st)
  | .dup, .ref x :: st => some (pc + 1, L, .ref x :: .ref x :: st)
  | .dup2, .int y :: .ref x :: st => some (pc + 1, L, .int y :: .ref x :: .int y :: .ref x :: st)
  | .pop, .int _ :: st => some (pc + 1, L, st)
  | .ifCond .eq _, .int x :: st => x_if (x = 0) (a, L, st) (pc + 3, L, st)
  | .ifCond .ne _, .int x :: st => x_if (¬ x = 0) (a, L, st) (pc + 3, L, st)
  | .ifCond .lt _, .int x :: st => x_if (x < 0) (a, L, st) (pc + 3, L, st)
  | .ifCond .ge _, .int x :: st => x_if (0 ≤ x) (a, L, st) (pc + 3, L, st)
  | .ifCond .gt _, .int x :: st => x_if (0 < x) (a, L, st) (pc + 3, L, st)
  | .ifCond .le _, .int x :: st => x_if (x ≤ 0) (a, L, st) (pc + 3, L, st)
  | .if_icmp .eq _, .int y :: .int x :: st => x_if (x = y) (a, L, st) (pc + 3, L, st)
  | .if_icmp .ne _, .int y :: .int x :: st => x_if (¬ x = y) (a, L, st) (pc + 3, L, st)
  | .if_icmp .lt _, .int y :: .int x :: st => x_if (x < y) (a, L, st) (pc + 3, L, st)
  | .if_icmp .ge _, .int y :: .int x :: st => x_if (y ≤ x) (a, L, st) (pc + 3, L, st)
  | .if_icmp .gt _, .int y :: .int x :: st => x_if (y < x) (a, L, st) (pc + 3, L, st)
  | .if_icmp .le _, .int y :: .int x :: st => x_if (x ≤ y) (a, L, st) (pc + 3, L, st)
  | .ifnull _, .ref _ :: st => some (pc + 3, L, st)
  | .ifnull _, .null :: st => some (a, L, st)
  | .ifnonnull _, .ref _ :: st => some (a, L, st)
  | .ifnonnull _, .null :: st => some (pc + 3, L, st)
  | .goto _, st => some (a, L, st)
  | .tableswitch d lo hi os, .int x :: st =>
    some ((if x.toInt < lo ∨ hi < x.toInt then ((pc : Int) + d).toNat else ((pc : Int) + os.getD (x.toInt - lo).toNat 0).toNat), L, st)
  | _, _ => none
/-- a cell more, its numbers 0 -/
def x_new (h : XH) (t : XT) (z : Nat) : XH := (h.1 ++ [t], (fun q => if q = h.1.length then (fun _ => 0) else h.2.1 q), (fun q => if q = h.1.length then (fun _ => 0) else h.2.2.1 q), h.2.2.2 + z)
def x_setI (h : XH) (q k : Nat) (v : Int32) : XH := (h.1, x_u2 h.2.1 q k v, h.2.2.1, h.2.2.2)
def x_setJ (h : XH) (q k : Nat) (v : Int64) : XH := (h.1, h.2.1, x_u2 h.2.2.1 q k v, h.2.2.2)
def x_setT (h : XH) (q : Nat) (t : XT) : XH := (h.1.set q t, h.2.1, h.2.2.1, h.2.2.2)
/-- 'from' copied over the first n of 'to' -/
def x_copy (h : XH) (from_ to n : Nat) : XH := (h.1, (fun q => if q = to then (fun j => if j < n then h.2.1 from_ j else h.2.1 to j) else h.2.1 q), h.2.2.1, h.2.2.2)
def x_bad (j : Int32) (n : Nat) : Prop := j < 0 ∨ n ≤ j.toNatClampNeg
def x_go (pc : Nat) (L : XL) (st : List Value) (h : XH) : Option XR := some (.inl ((pc, L, st), h))
/-- the handler of an exception: its row of the method's table, the local where it is laid, the width of that store -/
def x_hand (hs : List (Nat × Nat × Nat × Nat × Nat × Nat)) (pc ex : Nat) : Option (Nat × Nat) := match hs with
  | [] => none
  | (s, e, hp, x, k, w) :: hs => if s ≤ pc ∧ pc < e ∧ x = ex then some (hp + w, k) else x_hand hs pc ex
def x_back (hs : List (Nat × Nat × Nat × Nat × Nat × Nat)) (pc : Nat) (L : XL) (rest : List Value) (r : Option (XO × XH)) : Option XR := match r with
  | none => none
  | some (.inl v, h) => x_go (pc + 3) L (v.toList ++ rest) h
  | some (.inr ex, h) => match x_hand hs pc ex with
    | none => (match hs with
      | [] => some (.inr (.inr ex, h))
      | _ => none)
    | some (p2, k) => if k < L.length then x_go p2 ((x_cl L k).set k none) [] h else none
def x_cats (st : List Value) : Nat := (st.map fun v => v.category).sum
/-- calls -/
def xinvS (call : Nat → List Value → XH → Option (XO × XH)) (hs : List (Nat × Nat × Nat × Nat × Nat × Nat)) (pc : Nat) (a b c : Nat) (L : XL) (st : List Value) (h : XH) : Option XR :=
  if b ≤ st.length ∧ x_cats (st.drop b) ≤ 8 then (match c with
    | 0 => x_back hs pc L (st.drop b) (call a (st.take b).reverse h)
    | 1 => (match st with
      | .int y :: .int x :: st => x_go (pc + 3) L (.int (if x < y then y else x) :: st) h
      | _ => none)
    | 2 => (match st with
      | .int y :: .int x :: st => x_go (pc + 3) L (.int (if y < x then y else x) :: st) h
      | _ => none)
    | 3 => (match st with
      | .long y :: .long x :: st => x_go (pc + 3) L (.long (if y < x then x else y) :: st) h
      | _ => none)
    | 4 => (match st with
      | .long y :: .long x :: st => x_go (pc + 3) L (.long (if y < x then y else x) :: st) h
      | _ => none)
    | 6 => (match st with
      | .int n :: .int dp :: .ref q :: .int sp :: .ref q0 :: st => (match h.1[q0]?, h.1[q]? with
        | some (1, n0, _), some (1, n1, _) => if n < 0 ∨ ¬ dp = 0 ∨ ¬ sp = 0 ∨ n0 < n.toNatClampNeg ∨ n1 < n.toNatClampNeg ∨ q0 = q then none else x_go (pc + 3) L st (x_copy h q0 q n.toNatClampNeg)
        | _, _ => none)
      | _ => none)
    | _ => none) else none
def xinvV (call : Nat → List Value → XH → Option (XO × XH)) (hs : List (Nat × Nat × Nat × Nat × Nat × Nat)) (pc : Nat) (a b c : Nat) (L : XL) (st : List Value) (h : XH) : Option XR :=
  if b ≤ st.length ∧ x_cats (st.drop b) ≤ 8 then (match (st.take b).reverse with
    | .ref q :: vs => (match h.1[q]? with
      | some (0, ci, _) => if ci = c then x_back hs pc L (st.drop b) (call a (.ref q :: vs) h) else none
      | _ => none)
    | _ => none) else none
def xinvI (call : Nat → List Value → XH → Option (XO × XH)) (hs : List (Nat × Nat × Nat × Nat × Nat × Nat)) (pc : Nat) (a b c : Nat) (L : XL) (st : List Value) (h : XH) : Option XR :=
  if b ≤ st.length ∧ x_cats (st.drop b) ≤ 8 then (match (st.take b).reverse with
    | .ref q :: vs => (match c with
      | 5 => (match vs with
        | [] => x_go (pc + 3) L (st.drop b) h
        | _ => none)
      | _ => x_back hs pc L (st.drop b) (call a (.ref q :: vs) h))
    | _ => none) else none
/-- what an instruction does that reads or writes the heap, calls, makes or ends -/
def xmem (pc : Nat) (ins : Instr) (a b c : Nat) (L : XL) (st : List Value) (h : XH) : Option XR :=
  match ins, st with
  | .getfield _, .ref q :: st => match h.1[q]? with
    | some (0, ci, rs) => if ci = a then (match c with
      | 0 => x_go (pc + 3) L (.int (h.2.1 q b) :: st) h
      | 3 => x_go (pc + 3) L (.int (h.2.1 q b) :: st) h
      | 1 => x_go (pc + 3) L (.long (h.2.2.1 q b) :: st) h
      | 2 => x_go (pc + 3) L (va_rf (rs.getD b none) :: st) h
      | _ => none) else none
    | _ => none
  | .putfield _, .int x :: .ref q :: st => match h.1[q]? with
    | some (0, ci, _) => if ci = a then (match c with
      | 0 => x_go (pc + 3) L st (x_setI h q b x)
      | 3 => if x = 0 ∨ x = 1 then x_go (pc + 3) L st (x_setI h q b x) else none
      | _ => none) else none
    | _ => none
  | .putfield _, .long x :: .ref q :: st => match h.1[q]? with
    | some (0, ci, _) => if ci = a ∧ c = 1 then x_go (pc + 3) L st (x_setJ h q b x) else none
    | _ => none
  | .putfield _, .ref x :: .ref q :: st => match h.1[q]? with
    | some (0, ci, rs) => if ci = a ∧ c = 2 ∧ b < rs.length then x_go (pc + 3) L st (x_setT h q (0, ci, rs.set b (some x))) else none
    | _ => none
  | .iaload, .int j :: .ref q :: st => match h.1[q]? with
    | some (1, n, _) => if j < 0 ∨ n ≤ j.toNatClampNeg then none else x_go (pc + 1) L (.int (h.2.1 q j.toNatClampNeg) :: st) h
    | some (5, n, _) => if j < 0 ∨ n ≤ j.toNatClampNeg then none else x_go (pc + 1) L (.int (h.2.1 q j.toNatClampNeg) :: st) h
    | _ => none
  | .laload, .int j :: .ref q :: st => match h.1[q]? with
    | some (2, n, _) => if j < 0 ∨ n ≤ j.toNatClampNeg then none else x_go (pc + 1) L (.long (h.2.2.1 q j.toNatClampNeg) :: st) h
    | _ => none
  | .aaload, .int j :: .ref q :: st => match h.1[q]? with
    | some (3, n, rs) => if j < 0 ∨ n ≤ j.toNatClampNeg then none else x_go (pc + 1) L (va_rf (rs.getD j.toNatClampNeg none) :: st) h
    | _ => none
  | .iastore, .int x :: .int j :: .ref q :: st => match h.1[q]? with
    | some (1, n, _) => if j < 0 ∨ n ≤ j.toNatClampNeg then none else x_go (pc + 1) L st (x_setI h q j.toNatClampNeg x)
    | _ => none
  | .lastore, .long x :: .int j :: .ref q :: st => match h.1[q]? with
    | some (2, n, _) => if j < 0 ∨ n ≤ j.toNatClampNeg then none else x_go (pc + 1) L st (x_setJ h q j.toNatClampNeg x)
    | _ => none
  | .aastore, .ref x :: .int j :: .ref q :: st => match h.1[q]?, h.1[x]? with
    | some (3, n, rs), some (0, 1, _) => if j < 0 ∨ n ≤ j.toNatClampNeg ∨ rs.length ≤ j.toNatClampNeg then none else x_go (pc + 1) L st (x_setT h q (3, n, rs.set j.toNatClampNeg (some x)))
    | _, _ => none
  | .arraylength, .ref q :: st => match h.1[q]? with
    | some (1, n, _) => x_go (pc + 1) L (.int (Int32.ofNat n) :: st) h
    | some (2, n, _) => x_go (pc + 1) L (.int (Int32.ofNat n) :: st) h
    | some (3, n, _) => x_go (pc + 1) L (.int (Int32.ofNat n) :: st) h
    | some (5, n, _) => x_go (pc + 1) L (.int (Int32.ofNat n) :: st) h
    | _ => none
  | .newarray _, .int n :: st => if n < 0 ∨ 67108864 < n.toNatClampNeg then none else x_go (pc + 2) L (.ref h.1.length :: st) (x_new h (a, n.toNatClampNeg, []) n.toNatClampNeg)
  | .anewarray _, .int n :: st => if n < 0 ∨ 67108864 < n.toNatClampNeg then none else x_go (pc + 3) L (.ref h.1.length :: st) (x_new h (3, n.toNatClampNeg, List.replicate n.toNatClampNeg none) n.toNatClampNeg)
  | .new _, st => match c with
    | 0 => x_go (pc + 3) L (.ref h.1.length :: st) (x_new h (0, a, List.replicate b none) b)
    | 1 => if x_cats st ≤ 8 then some (.inr (.inr a, x_new h (4, a, []) 6)) else none
    | _ => none
  | .ireturn, [.int x] => if a = 1 ∨ a = 2 ∧ (x = 0 ∨ x = 1) then some (.inr (.inl (some (.int x)), h)) else none
  | .lreturn, [.long x] => some (.inr (.inl (some (.long x)), h))
  | .areturn, [.ref x] => some (.inr (.inl (some (.ref x)), h))
  | .areturn, [.null] => some (.inr (.inl (some .null), h))
  | .return_, [] => some (.inr (.inl none, h))
  | _, _ => none
def xeff (call : Nat → List Value → XH → Option (XO × XH)) (hs : List (Nat × Nat × Nat × Nat × Nat × Nat)) (pc : Nat) (ins : Instr) (a b c : Nat) (L : XL) (st : List Value) (h : XH) : Option XR :=
  match ins with
  | .invokestatic _ => xinvS call hs pc a b c L st h
  | .invokevirtual _ => xinvV call hs pc a b c L st h
  | .invokespecial _ => xinvI call hs pc a b c L st h
  | ins => xmem pc ins a b c L st h
def xstp (call : Nat → List Value → XH → Option (XO × XH)) (hs : List (Nat × Nat × Nat × Nat × Nat × Nat)) (tb : List (Option XI)) (fr : XF) (h : XH) : Option XR :=
  match tb[fr.1]? with
  | some (some (ins, a, b, c, v, w)) => (match xpure fr.1 ins a v w fr.2.1 fr.2.2 with
    | some fr2 => some (.inl (fr2, h))
    | none => xeff call hs fr.1 ins a b c fr.2.1 fr.2.2 h)
  | _ => none
def xex (call : Nat → List Value → XH → Option (XO × XH)) (hs : List (Nat × Nat × Nat × Nat × Nat × Nat)) (tb : List (Option XI)) : Nat → XF → XH → Option (XO × XH)
  | 0, _, _ => none
  | f + 1, fr, h => match xstp call hs tb fr h with
    | some (.inl (fr2, h2)) => xex call hs tb f fr2 h2
    | some (.inr r) => some r
    | none => none
/-- the locals at a method's entry -/
def x_args : List Value → XL
  | [] => []
  | .long x :: vs => some (.long x) :: none :: x_args vs
  | v :: vs => some v :: x_args vs
def x_entry (vs : List Value) (n : Nat) : XL := x_args vs ++ List.replicate (n - (x_args vs).length) none
/-- no double among the arguments -/
def x_nod (vs : List Value) : Bool := vs.all fun v => match v with
  | .double _ => false
  | _ => true
/-- handles 0 to n of the run: h is longer than, and has used more than, h0 -/
def x_le (h0 h : XH) : Prop := h0.1.length ≤ h.1.length ∧ h0.2.2.2 ≤ h.2.2.2
theorem x_le.rf (h : XH) : x_le h h := ⟨Nat.le_refl _, Nat.le_refl _⟩
theorem x_le.tr {h0 h1 h2 : XH} (a : x_le h0 h1) (b : x_le h1 h2) : x_le h0 h2 := ⟨Nat.le_trans a.1 b.1, Nat.le_trans a.2 b.2⟩
theorem x_le_new (h : XH) (t : XT) (z : Nat) : x_le h (x_new h t z) := ⟨by simp [x_new], by simp [x_new]⟩
theorem x_le_setT (h : XH) (q : Nat) (t : XT) : x_le h (x_setT h q t) := ⟨by simp [x_setT], by simp [x_setT]⟩
def x_of : XR → XH
  | .inl r => r.2
  | .inr r => r.2
theorem x_go_le {pc : Nat} {L : XL} {st : List Value} {h0 h : XH} {r : XR} (hl : x_le h0 h) (e : x_go pc L st h = some r) : x_le h0 (x_of r) := by
  cases e
  exact hl
theorem x_back_le {call : Nat → List Value → XH → Option (XO × XH)} (hc : ∀ j as h o h2, call j as h = some (o, h2) → x_le h h2) {hs : List (Nat × Nat × Nat × Nat × Nat × Nat)} {pc : Nat} {L : XL} {rest : List Value} {j : Nat} {as : List Value} {h : XH} {r : XR} (e : x_back hs pc L rest (call j as h) = some r) : x_le h (x_of r) := by
  cases hr : call j as h with
  | none => rw [hr] at e; cases e
  | some y =>
    obtain ⟨o, h2⟩ := y
    have hl := hc _ _ _ _ _ hr
    rw [hr] at e
    cases o with
    | inl v => exact x_go_le hl e
    | inr ex =>
      simp only [x_back] at e
      cases hh : x_hand hs pc ex with
      | none =>
        rw [hh] at e
        cases hs with
        | nil => cases e; exact hl
        | cons x xs => cases e
      | some y =>
        rw [hh] at e
        obtain ⟨p2, k⟩ := y
        dsimp only at e
        split at e
        · exact x_go_le hl e
        · cases e
theorem xinvS_le {call : Nat → List Value → XH → Option (XO × XH)} (hc : ∀ j as h o h2, call j as h = some (o, h2) → x_le h h2) {hs : List (Nat × Nat × Nat × Nat × Nat × Nat)} {pc : Nat} {a b c : Nat} {L : XL} {st : List Value} {h : XH} {r : XR} (e : xinvS call hs pc a b c L st h = some r) : x_le h (x_of r) := by
  unfold xinvS at e
  repeat' split at e
  all_goals first
    | (cases e; done)
    | exact x_back_le hc e
    | exact x_go_le (x_le.rf _) e
    | exact x_go_le (h0 := h) (h := x_copy h _ _ _) ⟨Nat.le_refl _, Nat.le_refl _⟩ e
theorem xinvV_le {call : Nat → List Value → XH → Option (XO × XH)} (hc : ∀ j as h o h2, call j as h = some (o, h2) → x_le h h2) {hs : List (Nat × Nat × Nat × Nat × Nat × Nat)} {pc : Nat} {a b c : Nat} {L : XL} {st : List Value} {h : XH} {r : XR} (e : xinvV call hs pc a b c L st h = some r) : x_le h (x_of r) := by
  unfold xinvV at e
  repeat' split at e
  all_goals first
    | (cases e; done)
    | exact x_back_le hc e
theorem xinvI_le {call : Nat → List Value → XH → Option (XO × XH)} (hc : ∀ j as h o h2, call j as h = some (o, h2) → x_le h h2) {hs : List (Nat × Nat × Nat × Nat × Nat × Nat)} {pc : Nat} {a b c : Nat} {L : XL} {st : List Value} {h : XH} {r : XR} (e : xinvI call hs pc a b c L st h = some r) : x_le h (x_of r) := by
  unfold xinvI at e
  repeat' split at e
  all_goals first
    | (cases e; done)
    | exact x_back_le hc e
    | exact x_go_le (x_le.rf _) e
set_option maxHeartbeats 4000000 in
theorem xmem_le {pc : Nat} {ins : Instr} {a b c : Nat} {L : XL} {st : List Value} {h : XH} {r : XR} (e : xmem pc ins a b c L st h = some r) : x_le h (x_of r) := by
  unfold xmem at e
  repeat' split at e
  all_goals first
    | (cases e; done)
    | exact x_go_le (x_le.rf _) e
    | exact x_go_le (x_le_new _ _ _) e
    | exact x_go_le (x_le_setT _ _ _) e
    | (cases e; exact x_le.rf _)
    | (cases e; exact x_le_new _ _ _)
theorem xeff_le {call : Nat → List Value → XH → Option (XO × XH)} (hc : ∀ j as h o h2, call j as h = some (o, h2) → x_le h h2) {hs : List (Nat × Nat × Nat × Nat × Nat × Nat)} {pc : Nat} {ins : Instr} {a b c : Nat} {L : XL} {st : List Value} {h : XH} {r : XR} (e : xeff call hs pc ins a b c L st h = some r) : x_le h (x_of r) := by
  unfold xeff at e
  split at e
  · exact xinvS_le hc e
  · exact xinvV_le hc e
  · exact xinvI_le hc e
  · exact xmem_le e
theorem xstp_le {call : Nat → List Value → XH → Option (XO × XH)} (hc : ∀ j as h o h2, call j as h = some (o, h2) → x_le h h2) {hs : List (Nat × Nat × Nat × Nat × Nat × Nat)} {tb : List (Option XI)} {fr : XF} {h : XH} {r : XR} (e : xstp call hs tb fr h = some r) : x_le h (x_of r) := by
  unfold xstp at e
  repeat' split at e
  · cases e
    exact x_le.rf _
  · exact xeff_le hc e
  · cases e
theorem xex_le {call : Nat → List Value → XH → Option (XO × XH)} (hc : ∀ j as h o h2, call j as h = some (o, h2) → x_le h h2) {hs : List (Nat × Nat × Nat × Nat × Nat × Nat)} {tb : List (Option XI)} : ∀ (f : Nat) (fr : XF) (h : XH) (o : XO) (h2 : XH), xex call hs tb f fr h = some (o, h2) → x_le h h2 := by
  intro f
  induction f with
  | zero => intro fr h o h2 e; cases e
  | succ f ih =>
    intro fr h o h2 e
    simp only [xex] at e
    split at e
    · rename_i fr2 h3 es
      exact (xstp_le hc es).tr (ih _ _ _ _ e)
    · rename_i r es
      cases e
      exact xstp_le hc es
    · cases e
/-- more steps, or a callee that answers more often, change no answer -/
theorem x_back_up {c1 c2 : Nat → List Value → XH → Option (XO × XH)} (hc : ∀ j as h r, c1 j as h = some r → c2 j as h = some r) {hs : List (Nat × Nat × Nat × Nat × Nat × Nat)} {pc : Nat} {L : XL} {rest : List Value} {j : Nat} {as : List Value} {h : XH} {r : XR} (e : x_back hs pc L rest (c1 j as h) = some r) : x_back hs pc L rest (c2 j as h) = some r := by
  cases hr : c1 j as h with
  | none => rw [hr] at e; cases e
  | some y => rw [hc _ _ _ _ hr]; rw [hr] at e; exact e
theorem xinvS_up {c1 c2 : Nat → List Value → XH → Option (XO × XH)} (hc : ∀ j as h r, c1 j as h = some r → c2 j as h = some r) {hs : List (Nat × Nat × Nat × Nat × Nat × Nat)} {pc : Nat} {a b c : Nat} {L : XL} {st : List Value} {h : XH} {r : XR} (e : xinvS c1 hs pc a b c L st h = some r) : xinvS c2 hs pc a b c L st h = some r := by
  unfold xinvS at e ⊢
  by_cases hb : b ≤ st.length ∧ x_cats (st.drop b) ≤ 8
  · rw [if_pos hb] at e ⊢
    match c with
    | 0 => exact x_back_up hc e
    | 1 => exact e
    | 2 => exact e
    | 3 => exact e
    | 4 => exact e
    | 5 => exact e
    | 6 => exact e
    | c + 7 => exact e
  · rw [if_neg hb] at e
    cases e
theorem xinvV_up {c1 c2 : Nat → List Value → XH → Option (XO × XH)} (hc : ∀ j as h r, c1 j as h = some r → c2 j as h = some r) {hs : List (Nat × Nat × Nat × Nat × Nat × Nat)} {pc : Nat} {a b c : Nat} {L : XL} {st : List Value} {h : XH} {r : XR} (e : xinvV c1 hs pc a b c L st h = some r) : xinvV c2 hs pc a b c L st h = some r := by
  unfold xinvV at e ⊢
  by_cases hb : b ≤ st.length ∧ x_cats (st.drop b) ≤ 8
  · rw [if_pos hb] at e ⊢
    generalize hv : (st.take b).reverse = V at e ⊢
    match V with
    | [] => exact e
    | .ref q :: vs =>
      dsimp only at e ⊢
      cases hq : h.1[q]? with
      | none => rw [hq] at e; cases e
      | some t =>
        rw [hq] at e
        obtain ⟨k, ci, rs⟩ := t
        match k with
        | 0 =>
          replace e : (if ci = c then x_back hs pc L (List.drop b st) (c1 a (Value.ref q :: vs) h) else none) = some r := e
          show (if ci = c then x_back hs pc L (List.drop b st) (c2 a (Value.ref q :: vs) h) else none) = some r
          by_cases h5 : ci = c
          · rw [if_pos h5] at e ⊢
            exact x_back_up hc e
          · rw [if_neg h5] at e
            cases e
        | k + 1 => exact e
    | .int _ :: _ => exact e
    | .long _ :: _ => exact e
    | .float _ :: _ => exact e
    | .double _ :: _ => exact e
    | .null :: _ => exact e
    | .retAddr _ :: _ => exact e
  · rw [if_neg hb] at e
    cases e
theorem xinvI_up {c1 c2 : Nat → List Value → XH → Option (XO × XH)} (hc : ∀ j as h r, c1 j as h = some r → c2 j as h = some r) {hs : List (Nat × Nat × Nat × Nat × Nat × Nat)} {pc : Nat} {a b c : Nat} {L : XL} {st : List Value} {h : XH} {r : XR} (e : xinvI c1 hs pc a b c L st h = some r) : xinvI c2 hs pc a b c L st h = some r := by
  unfold xinvI at e ⊢
  by_cases hb : b ≤ st.length ∧ x_cats (st.drop b) ≤ 8
  · rw [if_pos hb] at e ⊢
    generalize hv : (st.take b).reverse = V at e ⊢
    match V with
    | [] => exact e
    | .ref q :: vs =>
      dsimp only at e ⊢
      by_cases h5 : c = 5
      · subst h5
        exact e
      · match c with
        | 0 => exact x_back_up hc e
        | 1 => exact x_back_up hc e
        | 2 => exact x_back_up hc e
        | 3 => exact x_back_up hc e
        | 4 => exact x_back_up hc e
        | 5 => exact absurd rfl h5
        | c + 6 => exact x_back_up hc e
    | .int _ :: _ => exact e
    | .long _ :: _ => exact e
    | .float _ :: _ => exact e
    | .double _ :: _ => exact e
    | .null :: _ => exact e
    | .retAddr _ :: _ => exact e
  · rw [if_neg hb] at e
    cases e
theorem xeff_up {c1 c2 : Nat → List Value → XH → Option (XO × XH)} (hc : ∀ j as h r, c1 j as h = some r → c2 j as h = some r) {hs : List (Nat × Nat × Nat × Nat × Nat × Nat)} {pc : Nat} {ins : Instr} {a b c : Nat} {L : XL} {st : List Value} {h : XH} {r : XR} (e : xeff c1 hs pc ins a b c L st h = some r) : xeff c2 hs pc ins a b c L st h = some r := by
  cases ins <;> first
    | exact e
    | exact xinvS_up hc e
    | exact xinvV_up hc e
    | exact xinvI_up hc e
theorem xstp_up {c1 c2 : Nat → List Value → XH → Option (XO × XH)} (hc : ∀ j as h r, c1 j as h = some r → c2 j as h = some r) {hs : List (Nat × Nat × Nat × Nat × Nat × Nat)} {tb : List (Option XI)} {fr : XF} {h : XH} {r : XR} (e : xstp c1 hs tb fr h = some r) : xstp c2 hs tb fr h = some r := by
  unfold xstp at e ⊢
  cases ht : tb[fr.1]? with
  | none => rw [ht] at e; cases e
  | some o =>
    rw [ht] at e
    cases o with
    | none => cases e
    | some t =>
      obtain ⟨ins, a, b, c, v, w⟩ := t
      dsimp only at e ⊢
      cases hp : xpure fr.1 ins a v w fr.2.1 fr.2.2 with
      | some fr2 => rw [hp] at e; exact e
      | none =>
        rw [hp] at e
        exact xeff_up hc e
theorem xex_up {c1 c2 : Nat → List Value → XH → Option (XO × XH)} (hc : ∀ j as h r, c1 j as h = some r → c2 j as h = some r) {hs : List (Nat × Nat × Nat × Nat × Nat × Nat)} {tb : List (Option XI)} : ∀ (f1 f2 : Nat) (fr : XF) (h : XH) (r : XO × XH), f1 ≤ f2 → xex c1 hs tb f1 fr h = some r → xex c2 hs tb f2 fr h = some r := by
  intro f1
  induction f1 with
  | zero => intro f2 fr h r _ e; cases e
  | succ f ih =>
    intro f2 fr h r hf e
    obtain ⟨f3, rfl⟩ : ∃ f3, f2 = f3 + 1 := ⟨f2 - 1, by omega⟩
    simp only [xex] at e ⊢
    cases es : xstp c1 hs tb fr h with
    | none => rw [es] at e; cases e
    | some y =>
      rw [es] at e
      rw [xstp_up hc es]
      cases y with
      | inl y => exact ih _ _ _ _ (by omega) e
      | inr y => exact e
end
section
/-! ===== the tables of the program, written by a program out of the printed decode rows and javap ===== -/
abbrev m_X0_init : Nat := 0
abbrev m_X0_count : Nat := 1
abbrev m_X0_timesAt : Nat := 2
abbrev m_X0_exponentAt : Nat := 3
abbrev m_X0_restart : Nat := 4
abbrev m_X0_add : Nat := 5
abbrev m_X0_insert : Nat := 6
abbrev m_X0_raise : Nat := 7
abbrev m_X1_init : Nat := 8
abbrev m_X1_keyOf : Nat := 9
abbrev m_X1_exponentIn : Nat := 10
abbrev m_X1_count : Nat := 11
abbrev m_X1_timesAt : Nat := 12
abbrev m_X1_keyAt : Nat := 13
abbrev m_X1_restart : Nat := 14
abbrev m_X1_add : Nat := 15
abbrev m_X1_copy : Nat := 16
abbrev m_X1_fits : Nat := 17
abbrev m_X1_exponentsFit : Nat := 18
abbrev m_X1_comparedWith : Nat := 19
abbrev m_X1_limit : Nat := 20
abbrev m_X2_init : Nat := 21
abbrev m_X2_powersOf : Nat := 22
abbrev m_X2_timesOf : Nat := 23
abbrev m_X2_exponentOf : Nat := 24
abbrev m_X2_keep : Nat := 25
abbrev m_X2_forget : Nat := 26
abbrev m_X2_powerOf : Nat := 27
abbrev m_X2_added : Nat := 28
abbrev m_X2_multiplied : Nat := 29
abbrev m_X2_naturallyAdded : Nat := 30
abbrev m_X2_naturallyMultiplied : Nat := 31
abbrev m_X2_addPair : Nat := 32
abbrev m_X2_compared : Nat := 33
abbrev m_X2_order : Nat := 34
abbrev m_X2_stepped : Nat := 35
abbrev m_X2_lower : Nat := 36
abbrev m_X2_stepsToZero : Nat := 37
abbrev m_X2_lessened : Nat := 38
abbrev m_X2_finiteTail : Nat := 39
abbrev m_X2_powersAbove : Nat := 40
abbrev m_X2_draftLess : Nat := 41
abbrev m_X2_draftPowers : Nat := 42
abbrev m_X2_made : Nat := 43
abbrev m_X2_depthOf : Nat := 44
abbrev m_X2_powersFit : Nat := 45
abbrev m_X2_write : Nat := 46
abbrev m_X3_at : Nat := 47
abbrev m_X3_at_ : Nat := 48
abbrev m_X3_put : Nat := 49
abbrev m_X3_put_ : Nat := 50
abbrev m_X3_withRoom : Nat := 51
abbrev m_X4_init : Nat := 52
abbrev m_X4_growth : Nat := 53
abbrev m_X4_restart : Nat := 54
abbrev m_X4_addPart : Nat := 55
abbrev m_X4_addMultiple : Nat := 56
abbrev m_X4_addSlopes : Nat := 57
abbrev m_X4_addRow : Nat := 58
abbrev m_X5_init : Nat := 59
abbrev m_X5_value : Nat := 60
abbrev m_X5_length : Nat := 61
abbrev m_X5_restart : Nat := 62
abbrev m_X5_along : Nat := 63
abbrev m_X5_toward : Nat := 64
abbrev m_X5_between : Nat := 65
abbrev m_X5_goes : Nat := 66
abbrev m_X6_init : Nat := 67
abbrev m_X6_kind : Nat := 68
abbrev m_X6_clear : Nat := 69
abbrev m_X6_finite : Nat := 70
abbrev m_X6_omega : Nat := 71
abbrev m_X6_number : Nat := 72
abbrev m_X6_signs : Nat := 73
abbrev m_X6_term : Nat := 74
abbrev m_X6_sum : Nat := 75
abbrev m_X6_product : Nat := 76
abbrev m_X6_difference : Nat := 77
abbrev m_X6_natural : Nat := 78
abbrev m_X6_derive : Nat := 79
abbrev m_X6_compare : Nat := 80
abbrev m_X6_step : Nat := 81
abbrev m_X6_descent : Nat := 82
abbrev m_X6_powers : Nat := 83
abbrev m_X6_times : Nat := 84
abbrev m_X6_exponent : Nat := 85
abbrev m_X6_cut : Nat := 86
abbrev m_X6_birthday : Nat := 87
abbrev m_X6_signOf : Nat := 88
abbrev m_X6_parts : Nat := 89
abbrev m_X6_tends : Nat := 90
abbrev m_X6_terms : Nat := 91
abbrev m_X6_part : Nat := 92
abbrev m_X6_needPlace : Nat := 93
abbrev m_X6_needThree : Nat := 94
abbrev m_X6_needRow : Nat := 95
abbrev m_X6_needRange : Nat := 96
abbrev m_X6_commonKind : Nat := 97
abbrev m_X6_ordinalAt : Nat := 98
abbrev m_X6_ordinalWithPower : Nat := 99
abbrev m_X6_numberAt : Nat := 100
abbrev m_X6_growthAt : Nat := 101
abbrev m_X6_growthRow : Nat := 102
abbrev m_X6_keepOrdinal : Nat := 103
abbrev m_X6_keepNumber : Nat := 104
abbrev m_X6_keepGrowth : Nat := 105
abbrev m_X6_numberFits : Nat := 106
abbrev m_X6_multipliedNumbers : Nat := 107
abbrev m_X6_greatestOf : Nat := 108
abbrev m_X6_leastOf : Nat := 109
abbrev m_X6_addGrowths : Nat := 110
abbrev m_X6_multiplyGrowths : Nat := 111
abbrev m_X7_init : Nat := 112
abbrev m_X7_thrown : Nat := 113
abbrev m_X7_holds : Nat := 114
abbrev m_X7_isIn : Nat := 115
abbrev m_X7_isPlace : Nat := 116
abbrev m_X7_are : Nat := 117
abbrev m_X7_lays : Nat := 118
abbrev m_X7_last : Nat := 119
abbrev m_X7_compared : Nat := 120
abbrev m_X7_adds : Nat := 121
abbrev m_X7_isMade : Nat := 122
abbrev m_X7_makes : Nat := 123
abbrev m_X7_gathers : Nat := 124
abbrev m_X7_summed : Nat := 125
abbrev m_X7_summedNaturally : Nat := 126
abbrev m_X7_multiplied : Nat := 127
abbrev m_X7_puts : Nat := 128
abbrev m_X7_multipliedNaturally : Nat := 129
abbrev m_X7_lessOne : Nat := 130
abbrev m_X7_stepped : Nat := 131
abbrev m_X7_unit : Nat := 132
abbrev m_X7_level : Nat := 133
abbrev m_X7_exponentOf : Nat := 134
abbrev m_X7_joins : Nat := 135
abbrev m_X7_fits : Nat := 136
abbrev m_X7_laysGrowth : Nat := 137
abbrev m_X7_joinsAll : Nat := 138
abbrev m_X7_joinsBoth : Nat := 139
abbrev m_X7_multiplies : Nat := 140
abbrev m_X7_derives : Nat := 141
abbrev m_X7_isNumber : Nat := 142
abbrev m_X7_begins : Nat := 143
abbrev m_X7_goes : Nat := 144
abbrev m_X7_goesTo : Nat := 145
abbrev m_X7_finds : Nat := 146
abbrev m_X7_kind : Nat := 147
abbrev m_X7_clear : Nat := 148
abbrev m_X7_finiteOne : Nat := 149
abbrev m_X7_begin : Nat := 150
abbrev m_X7_finite : Nat := 151
abbrev m_X7_powerOf : Nat := 152
abbrev m_X7_isKind : Nat := 153
abbrev m_X7_omega : Nat := 154
abbrev m_X7_number : Nat := 155
abbrev m_X7_signs : Nat := 156
abbrev m_X7_term : Nat := 157
abbrev m_X7_areBoth : Nat := 158
abbrev m_X7_setsOrdinal : Nat := 159
abbrev m_X7_setsNumber : Nat := 160
abbrev m_X7_setsGrowth : Nat := 161
abbrev m_X7_setsSum : Nat := 162
abbrev m_X7_told : Nat := 163
abbrev m_X7_sum : Nat := 164
abbrev m_X7_setsProduct : Nat := 165
abbrev m_X7_product : Nat := 166
abbrev m_X7_setsDifference : Nat := 167
abbrev m_X7_difference : Nat := 168
abbrev m_X7_setsNatural : Nat := 169
abbrev m_X7_natural : Nat := 170
abbrev m_X7_derive : Nat := 171
abbrev m_X7_comparedGrowths : Nat := 172
abbrev m_X7_comparedBoth : Nat := 173
abbrev m_X7_compare : Nat := 174
abbrev m_X7_stepOf : Nat := 175
abbrev m_X7_step : Nat := 176
abbrev m_X7_descends : Nat := 177
abbrev m_X7_descent : Nat := 178
abbrev m_X7_powers : Nat := 179
abbrev m_X7_hasPower : Nat := 180
abbrev m_X7_times : Nat := 181
abbrev m_X7_exponent : Nat := 182
abbrev m_X7_hasPlace : Nat := 183
abbrev m_X7_cuts : Nat := 184
abbrev m_X7_cut : Nat := 185
abbrev m_X7_birthdayOf : Nat := 186
abbrev m_X7_birthday : Nat := 187
abbrev m_X7_signAt : Nat := 188
abbrev m_X7_signOf : Nat := 189
abbrev m_X7_parts : Nat := 190
abbrev m_X7_tendsTo : Nat := 191
abbrev m_X7_tends : Nat := 192
abbrev m_X7_terms : Nat := 193
abbrev m_X7_toldPart : Nat := 194
abbrev m_X7_part : Nat := 195
abbrev m_J6_compare_7cf53 : Nat := 196
abbrev m_J13_compare_74951 : Nat := 197
abbrev m_J7_copyOf_59c91 : Nat := 198
abbrev m_L_kind : Nat := 199
abbrev m_L_clear : Nat := 200
abbrev m_L_finite : Nat := 201
abbrev m_L_omega : Nat := 202
abbrev m_L_number : Nat := 203
abbrev m_L_signs : Nat := 204
abbrev m_L_term : Nat := 205
abbrev m_L_sum : Nat := 206
abbrev m_L_product : Nat := 207
abbrev m_L_difference : Nat := 208
abbrev m_L_natural : Nat := 209
abbrev m_L_derive : Nat := 210
abbrev m_L_compare : Nat := 211
abbrev m_L_step : Nat := 212
abbrev m_L_descent : Nat := 213
abbrev m_L_powers : Nat := 214
abbrev m_L_times : Nat := 215
abbrev m_L_exponent : Nat := 216
abbrev m_L_cut : Nat := 217
abbrev m_L_birthday : Nat := 218
abbrev m_L_signOf : Nat := 219
abbrev m_L_parts : Nat := 220
abbrev m_L_tends : Nat := 221
abbrev m_L_terms : Nat := 222
abbrev m_L_part : Nat := 223
abbrev m_L_law : Nat := 224
def tb_X0_init : List (Option XI) := [some (.aload_n 0, 0, 0, 0, 0, 0), some (.invokespecial 1, 0, 1, 5, 0, 0), none, none, some (.aload_n 0, 0, 0, 0, 0, 0), some (.bipush 64, 0, 0, 0, 64, 0), none, some (.newarray .long, 2, 0, 0, 0, 0), none, some (.putfield 9, 0, 0, 2, 0, 0), none, none, some (.aload_n 0, 0, 0, 0, 0, 0), some (.bipush 64, 0, 0, 0, 64, 0), none, some (.newarray .int, 1, 0, 0, 0, 0), none, some (.putfield 15, 0, 1, 2, 0, 0), none, none, some (.return_, 0, 0, 0, 0, 0)]
def tb_X0_count : List (Option XI) := [some (.aload_n 0, 0, 0, 0, 0, 0), some (.getfield 19, 0, 2, 0, 0, 0), none, none, some (.ireturn, 1, 0, 0, 0, 0)]
def tb_X0_timesAt : List (Option XI) := [some (.aload_n 0, 0, 0, 0, 0, 0), some (.getfield 9, 0, 0, 2, 0, 0), none, none, some (.iload_n 1, 0, 0, 0, 0, 0), some (.invokestatic 23, 48, 2, 0, 0, 0), none, none, some (.lreturn, 0, 0, 0, 0, 0)]
def tb_X0_exponentAt : List (Option XI) := [some (.aload_n 0, 0, 0, 0, 0, 0), some (.getfield 15, 0, 1, 2, 0, 0), none, none, some (.iload_n 1, 0, 0, 0, 0, 0), some (.invokestatic 29, 47, 2, 0, 0, 0), none, none, some (.ireturn, 1, 0, 0, 0, 0)]
def tb_X0_restart : List (Option XI) := [some (.aload_n 0, 0, 0, 0, 0, 0), some (.iconst 0, 0, 0, 0, 0, 0), some (.putfield 19, 0, 2, 0, 0, 0), none, none, some (.return_, 0, 0, 0, 0, 0)]
def tb_X0_add : List (Option XI) := [some (.aload_n 0, 0, 0, 0, 0, 0), some (.getfield 19, 0, 2, 0, 0, 0), none, none, some (.aload_n 0, 0, 0, 0, 0, 0), some (.getfield 9, 0, 0, 2, 0, 0), none, none, some (.arraylength, 0, 0, 0, 0, 0), some (.if_icmp .ge 37, 46, 0, 0, 0, 0), none, none, some (.aload_n 0, 0, 0, 0, 0, 0), some (.getfield 9, 0, 0, 2, 0, 0), none, none, some (.aload_n 0, 0, 0, 0, 0, 0), some (.getfield 19, 0, 2, 0, 0, 0), none, none, some (.lload_n 1, 0, 0, 0, 0, 0), some (.invokestatic 32, 50, 3, 0, 0, 0), none, none, some (.aload_n 0, 0, 0, 0, 0, 0), some (.getfield 15, 0, 1, 2, 0, 0), none, none, some (.aload_n 0, 0, 0, 0, 0, 0), some (.getfield 19, 0, 2, 0, 0, 0), none, none, some (.iload_n 3, 0, 0, 0, 0, 0), some (.invokestatic 36, 49, 3, 0, 0, 0), none, none, some (.aload_n 0, 0, 0, 0, 0, 0), some (.dup, 0, 0, 0, 0, 0), some (.getfield 19, 0, 2, 0, 0, 0), none, none, some (.iconst 1, 0, 0, 0, 1, 0), some (.iadd, 0, 0, 0, 0, 0), some (.putfield 19, 0, 2, 0, 0, 0), none, none, some (.return_, 0, 0, 0, 0, 0)]
def tb_X0_insert : List (Option XI) := [some (.aload_n 0, 0, 0, 0, 0, 0), some (.lload_n 2, 0, 0, 0, 0, 0), some (.iload 4, 0, 0, 0, 0, 0), none, some (.invokevirtual 39, 5, 3, 0, 0, 0), none, none, some (.aload_n 0, 0, 0, 0, 0, 0), some (.getfield 19, 0, 2, 0, 0, 0), none, none, some (.iconst 1, 0, 0, 0, 1, 0), some (.isub, 0, 0, 0, 0, 0), some (.istore 5, 0, 0, 0, 0, 0), none, some (.iload 5, 0, 0, 0, 0, 0), none, some (.iload_n 1, 0, 0, 0, 0, 0), some (.if_icmp .le 49, 67, 0, 0, 0, 0), none, none, some (.aload_n 0, 0, 0, 0, 0, 0), some (.getfield 9, 0, 0, 2, 0, 0), none, none, some (.iload 5, 0, 0, 0, 0, 0), none, some (.aload_n 0, 0, 0, 0, 0, 0), some (.getfield 9, 0, 0, 2, 0, 0), none, none, some (.iload 5, 0, 0, 0, 0, 0), none, some (.iconst 1, 0, 0, 0, 1, 0), some (.isub, 0, 0, 0, 0, 0), some (.invokestatic 23, 48, 2, 0, 0, 0), none, none, some (.invokestatic 32, 50, 3, 0, 0, 0), none, none, some (.aload_n 0, 0, 0, 0, 0, 0), some (.getfield 15, 0, 1, 2, 0, 0), none, none, some (.iload 5, 0, 0, 0, 0, 0), none, some (.aload_n 0, 0, 0, 0, 0, 0), some (.getfield 15, 0, 1, 2, 0, 0), none, none, some (.iload 5, 0, 0, 0, 0, 0), none, some (.iconst 1, 0, 0, 0, 1, 0), some (.isub, 0, 0, 0, 0, 0), some (.invokestatic 29, 47, 2, 0, 0, 0), none, none, some (.invokestatic 36, 49, 3, 0, 0, 0), none, none, some (.iinc 5 (-1), 0, 0, 0, (-1), 0), none, none, some (.goto (-49), 15, 0, 0, 0, 0), none, none, some (.aload_n 0, 0, 0, 0, 0, 0), some (.getfield 9, 0, 0, 2, 0, 0), none, none, some (.iload_n 1, 0, 0, 0, 0, 0), some (.lload_n 2, 0, 0, 0, 0, 0), some (.invokestatic 32, 50, 3, 0, 0, 0), none, none, some (.aload_n 0, 0, 0, 0, 0, 0), some (.getfield 15, 0, 1, 2, 0, 0), none, none, some (.iload_n 1, 0, 0, 0, 0, 0), some (.iload 4, 0, 0, 0, 0, 0), none, some (.invokestatic 36, 49, 3, 0, 0, 0), none, none, some (.return_, 0, 0, 0, 0, 0)]
def tb_X0_raise : List (Option XI) := [some (.aload_n 0, 0, 0, 0, 0, 0), some (.getfield 9, 0, 0, 2, 0, 0), none, none, some (.iload_n 1, 0, 0, 0, 0, 0), some (.aload_n 0, 0, 0, 0, 0, 0), some (.getfield 9, 0, 0, 2, 0, 0), none, none, some (.iload_n 1, 0, 0, 0, 0, 0), some (.invokestatic 23, 48, 2, 0, 0, 0), none, none, some (.lload_n 2, 0, 0, 0, 0, 0), some (.ladd, 0, 0, 0, 0, 0), some (.invokestatic 32, 50, 3, 0, 0, 0), none, none, some (.return_, 0, 0, 0, 0, 0)]
def tb_X1_init : List (Option XI) := [some (.aload_n 0, 0, 0, 0, 0, 0), some (.invokespecial 5, 0, 1, 5, 0, 0), none, none, some (.aload_n 0, 0, 0, 0, 0, 0), some (.iload_n 1, 0, 0, 0, 0, 0), some (.iconst 0, 0, 0, 0, 0, 0), some (.invokestatic 11, 0, 2, 1, 0, 0), none, none, some (.newarray .long, 2, 0, 0, 0, 0), none, some (.putfield 17, 1, 0, 2, 0, 0), none, none, some (.aload_n 0, 0, 0, 0, 0, 0), some (.iload_n 1, 0, 0, 0, 0, 0), some (.iconst 0, 0, 0, 0, 0, 0), some (.invokestatic 11, 0, 2, 1, 0, 0), none, none, some (.newarray .long, 2, 0, 0, 0, 0), none, some (.putfield 21, 1, 1, 2, 0, 0), none, none, some (.return_, 0, 0, 0, 0, 0)]
def tb_X1_keyOf : List (Option XI) := [some (.ldc2_w 24, 0, 0, 0, 0, 550293209600), none, none, some (.iload_n 0, 0, 0, 0, 0, 0), some (.i2l, 0, 0, 0, 0, 0), some (.bipush 30, 0, 0, 0, 30, 0), none, some (.lshl, 0, 0, 0, 0, 0), some (.ladd, 0, 0, 0, 0, 0), some (.iload_n 1, 0, 0, 0, 0, 0), some (.i2l, 0, 0, 0, 0, 0), some (.bipush 20, 0, 0, 0, 20, 0), none, some (.lshl, 0, 0, 0, 0, 0), some (.ladd, 0, 0, 0, 0, 0), some (.iload_n 2, 0, 0, 0, 0, 0), some (.i2l, 0, 0, 0, 0, 0), some (.bipush 10, 0, 0, 0, 10, 0), none, some (.lshl, 0, 0, 0, 0, 0), some (.ladd, 0, 0, 0, 0, 0), some (.iload_n 3, 0, 0, 0, 0, 0), some (.i2l, 0, 0, 0, 0, 0), some (.ladd, 0, 0, 0, 0, 0), some (.lreturn, 0, 0, 0, 0, 0)]
def tb_X1_exponentIn : List (Option XI) := [some (.lload_n 0, 0, 0, 0, 0, 0), some (.bipush 10, 0, 0, 0, 10, 0), none, some (.iconst 4, 0, 0, 0, 4, 0), some (.iload_n 2, 0, 0, 0, 0, 0), some (.isub, 0, 0, 0, 0, 0), some (.imul, 0, 0, 0, 0, 0), some (.lshr, 0, 0, 0, 0, 0), some (.ldc2_w 26, 0, 0, 0, 0, 1023), none, none, some (.land, 0, 0, 0, 0, 0), some (.ldc2_w 28, 0, 0, 0, 0, 512), none, none, some (.lsub, 0, 0, 0, 0, 0), some (.l2i, 0, 0, 0, 0, 0), some (.ireturn, 1, 0, 0, 0, 0)]
def tb_X1_count : List (Option XI) := [some (.aload_n 0, 0, 0, 0, 0, 0), some (.getfield 30, 1, 2, 0, 0, 0), none, none, some (.ireturn, 1, 0, 0, 0, 0)]
def tb_X1_timesAt : List (Option XI) := [some (.aload_n 0, 0, 0, 0, 0, 0), some (.getfield 17, 1, 0, 2, 0, 0), none, none, some (.iload_n 1, 0, 0, 0, 0, 0), some (.invokestatic 34, 48, 2, 0, 0, 0), none, none, some (.lreturn, 0, 0, 0, 0, 0)]
def tb_X1_keyAt : List (Option XI) := [some (.aload_n 0, 0, 0, 0, 0, 0), some (.getfield 21, 1, 1, 2, 0, 0), none, none, some (.iload_n 1, 0, 0, 0, 0, 0), some (.invokestatic 34, 48, 2, 0, 0, 0), none, none, some (.lreturn, 0, 0, 0, 0, 0)]
def tb_X1_restart : List (Option XI) := [some (.aload_n 0, 0, 0, 0, 0, 0), some (.iconst 0, 0, 0, 0, 0, 0), some (.putfield 30, 1, 2, 0, 0, 0), none, none, some (.return_, 0, 0, 0, 0, 0)]
def tb_X1_add : List (Option XI) := [some (.lload_n 1, 0, 0, 0, 0, 0), some (.lconst 0, 0, 0, 0, 0, 0), some (.lcmp, 0, 0, 0, 0, 0), some (.ifCond .eq 49, 52, 0, 0, 0, 0), none, none, some (.aload_n 0, 0, 0, 0, 0, 0), some (.getfield 30, 1, 2, 0, 0, 0), none, none, some (.aload_n 0, 0, 0, 0, 0, 0), some (.getfield 17, 1, 0, 2, 0, 0), none, none, some (.arraylength, 0, 0, 0, 0, 0), some (.if_icmp .ge 37, 52, 0, 0, 0, 0), none, none, some (.aload_n 0, 0, 0, 0, 0, 0), some (.getfield 17, 1, 0, 2, 0, 0), none, none, some (.aload_n 0, 0, 0, 0, 0, 0), some (.getfield 30, 1, 2, 0, 0, 0), none, none, some (.lload_n 1, 0, 0, 0, 0, 0), some (.invokestatic 40, 50, 3, 0, 0, 0), none, none, some (.aload_n 0, 0, 0, 0, 0, 0), some (.getfield 21, 1, 1, 2, 0, 0), none, none, some (.aload_n 0, 0, 0, 0, 0, 0), some (.getfield 30, 1, 2, 0, 0, 0), none, none, some (.lload_n 3, 0, 0, 0, 0, 0), some (.invokestatic 40, 50, 3, 0, 0, 0), none, none, some (.aload_n 0, 0, 0, 0, 0, 0), some (.dup, 0, 0, 0, 0, 0), some (.getfield 30, 1, 2, 0, 0, 0), none, none, some (.iconst 1, 0, 0, 0, 1, 0), some (.iadd, 0, 0, 0, 0, 0), some (.putfield 30, 1, 2, 0, 0, 0), none, none, some (.return_, 0, 0, 0, 0, 0)]
def tb_X1_copy : List (Option XI) := [some (.aload_n 0, 0, 0, 0, 0, 0), some (.invokevirtual 44, 14, 1, 1, 0, 0), none, none, some (.iconst 0, 0, 0, 0, 0, 0), some (.istore_n 2, 0, 0, 0, 0, 0), some (.iload_n 2, 0, 0, 0, 0, 0), some (.aload_n 1, 0, 0, 0, 0, 0), some (.invokevirtual 47, 11, 1, 1, 0, 0), none, none, some (.if_icmp .ge 23, 34, 0, 0, 0, 0), none, none, some (.aload_n 0, 0, 0, 0, 0, 0), some (.aload_n 1, 0, 0, 0, 0, 0), some (.iload_n 2, 0, 0, 0, 0, 0), some (.invokevirtual 50, 12, 2, 1, 0, 0), none, none, some (.aload_n 1, 0, 0, 0, 0, 0), some (.iload_n 2, 0, 0, 0, 0, 0), some (.invokevirtual 54, 13, 2, 1, 0, 0), none, none, some (.invokevirtual 57, 15, 3, 1, 0, 0), none, none, some (.iinc 2 1, 0, 0, 0, 1, 0), none, none, some (.goto (-25), 6, 0, 0, 0, 0), none, none, some (.return_, 0, 0, 0, 0, 0)]
def tb_X1_fits : List (Option XI) := [some (.aload_n 0, 0, 0, 0, 0, 0), some (.getfield 30, 1, 2, 0, 0, 0), none, none, some (.bipush 20, 0, 0, 0, 20, 0), none, some (.if_icmp .gt 7, 13, 0, 0, 0, 0), none, none, some (.iconst 1, 0, 0, 0, 1, 0), some (.goto 4, 14, 0, 0, 0, 0), none, none, some (.iconst 0, 0, 0, 0, 0, 0), some (.istore_n 1, 0, 0, 0, 0, 0), some (.iconst 0, 0, 0, 0, 0, 0), some (.istore_n 2, 0, 0, 0, 0, 0), some (.iload_n 2, 0, 0, 0, 0, 0), some (.aload_n 0, 0, 0, 0, 0, 0), some (.getfield 30, 1, 2, 0, 0, 0), none, none, some (.if_icmp .ge 54, 76, 0, 0, 0, 0), none, none, some (.iload_n 1, 0, 0, 0, 0, 0), some (.ifCond .eq 42, 68, 0, 0, 0, 0), none, none, some (.aload_n 0, 0, 0, 0, 0, 0), some (.iload_n 2, 0, 0, 0, 0, 0), some (.invokevirtual 50, 12, 2, 1, 0, 0), none, none, some (.ldc2_w 61, 0, 0, 0, 0, (-100000000)), none, none, some (.lcmp, 0, 0, 0, 0, 0), some (.ifCond .lt 30, 68, 0, 0, 0, 0), none, none, some (.aload_n 0, 0, 0, 0, 0, 0), some (.iload_n 2, 0, 0, 0, 0, 0), some (.invokevirtual 50, 12, 2, 1, 0, 0), none, none, some (.ldc2_w 63, 0, 0, 0, 0, 100000000), none, none, some (.lcmp, 0, 0, 0, 0, 0), some (.ifCond .gt 18, 68, 0, 0, 0, 0), none, none, some (.aload_n 0, 0, 0, 0, 0, 0), some (.iload_n 2, 0, 0, 0, 0, 0), some (.invokevirtual 54, 13, 2, 1, 0, 0), none, none, some (.invokestatic 65, 18, 1, 0, 0, 0), none, none, some (.ifCond .eq 7, 68, 0, 0, 0, 0), none, none, some (.iconst 1, 0, 0, 0, 1, 0), some (.goto 4, 69, 0, 0, 0, 0), none, none, some (.iconst 0, 0, 0, 0, 0, 0), some (.istore_n 1, 0, 0, 0, 0, 0), some (.iinc 2 1, 0, 0, 0, 1, 0), none, none, some (.goto (-56), 17, 0, 0, 0, 0), none, none, some (.iload_n 1, 0, 0, 0, 0, 0), some (.ireturn, 2, 0, 0, 0, 0)]
def tb_X1_exponentsFit : List (Option XI) := [some (.iconst 1, 0, 0, 0, 1, 0), some (.istore_n 2, 0, 0, 0, 0, 0), some (.iconst 1, 0, 0, 0, 1, 0), some (.istore_n 3, 0, 0, 0, 0, 0), some (.iload_n 3, 0, 0, 0, 0, 0), some (.iconst 4, 0, 0, 0, 4, 0), some (.if_icmp .gt 40, 46, 0, 0, 0, 0), none, none, some (.lload_n 0, 0, 0, 0, 0, 0), some (.iload_n 3, 0, 0, 0, 0, 0), some (.invokestatic 69, 10, 2, 0, 0, 0), none, none, some (.istore 4, 0, 0, 0, 0, 0), none, some (.iload_n 2, 0, 0, 0, 0, 0), some (.ifCond .eq 21, 38, 0, 0, 0, 0), none, none, some (.iload 4, 0, 0, 0, 0, 0), none, some (.bipush (-99), 0, 0, 0, (-99), 0), none, some (.if_icmp .lt 14, 38, 0, 0, 0, 0), none, none, some (.iload 4, 0, 0, 0, 0, 0), none, some (.bipush 99, 0, 0, 0, 99, 0), none, some (.if_icmp .gt 7, 38, 0, 0, 0, 0), none, none, some (.iconst 1, 0, 0, 0, 1, 0), some (.goto 4, 39, 0, 0, 0, 0), none, none, some (.iconst 0, 0, 0, 0, 0, 0), some (.istore_n 2, 0, 0, 0, 0, 0), some (.iinc 3 1, 0, 0, 0, 1, 0), none, none, some (.goto (-39), 4, 0, 0, 0, 0), none, none, some (.iload_n 2, 0, 0, 0, 0, 0), some (.ireturn, 2, 0, 0, 0, 0)]
def tb_X1_comparedWith : List (Option XI) := [some (.aload_n 0, 0, 0, 0, 0, 0), some (.getfield 30, 1, 2, 0, 0, 0), none, none, some (.aload_n 1, 0, 0, 0, 0, 0), some (.invokevirtual 47, 11, 1, 1, 0, 0), none, none, some (.invokestatic 11, 0, 2, 1, 0, 0), none, none, some (.istore_n 2, 0, 0, 0, 0, 0), some (.iconst 0, 0, 0, 0, 0, 0), some (.istore_n 3, 0, 0, 0, 0, 0), some (.iload_n 3, 0, 0, 0, 0, 0), some (.iload_n 2, 0, 0, 0, 0, 0), some (.if_icmp .ge 101, 117, 0, 0, 0, 0), none, none, some (.iload_n 3, 0, 0, 0, 0, 0), some (.aload_n 0, 0, 0, 0, 0, 0), some (.getfield 30, 1, 2, 0, 0, 0), none, none, some (.if_icmp .ge 11, 35, 0, 0, 0, 0), none, none, some (.aload_n 0, 0, 0, 0, 0, 0), some (.iload_n 3, 0, 0, 0, 0, 0), some (.invokevirtual 54, 13, 2, 1, 0, 0), none, none, some (.goto 4, 36, 0, 0, 0, 0), none, none, some (.lconst 0, 0, 0, 0, 0, 0), some (.lstore 4, 0, 0, 0, 0, 0), none, some (.iload_n 3, 0, 0, 0, 0, 0), some (.aload_n 1, 0, 0, 0, 0, 0), some (.invokevirtual 47, 11, 1, 1, 0, 0), none, none, some (.if_icmp .ge 11, 54, 0, 0, 0, 0), none, none, some (.aload_n 1, 0, 0, 0, 0, 0), some (.iload_n 3, 0, 0, 0, 0, 0), some (.invokevirtual 54, 13, 2, 1, 0, 0), none, none, some (.goto 4, 55, 0, 0, 0, 0), none, none, some (.lconst 0, 0, 0, 0, 0, 0), some (.lstore 6, 0, 0, 0, 0, 0), none, some (.lload 4, 0, 0, 0, 0, 0), none, some (.lload 6, 0, 0, 0, 0, 0), none, some (.lcmp, 0, 0, 0, 0, 0), some (.ifCond .lt 11, 73, 0, 0, 0, 0), none, none, some (.aload_n 0, 0, 0, 0, 0, 0), some (.iload_n 3, 0, 0, 0, 0, 0), some (.invokevirtual 50, 12, 2, 1, 0, 0), none, none, some (.goto 4, 74, 0, 0, 0, 0), none, none, some (.lconst 0, 0, 0, 0, 0, 0), some (.lstore 8, 0, 0, 0, 0, 0), none, some (.lload 6, 0, 0, 0, 0, 0), none, some (.lload 4, 0, 0, 0, 0, 0), none, some (.lcmp, 0, 0, 0, 0, 0), some (.ifCond .lt 11, 92, 0, 0, 0, 0), none, none, some (.aload_n 1, 0, 0, 0, 0, 0), some (.iload_n 3, 0, 0, 0, 0, 0), some (.invokevirtual 50, 12, 2, 1, 0, 0), none, none, some (.goto 4, 93, 0, 0, 0, 0), none, none, some (.lconst 0, 0, 0, 0, 0, 0), some (.lstore 10, 0, 0, 0, 0, 0), none, some (.lload 8, 0, 0, 0, 0, 0), none, some (.lload 10, 0, 0, 0, 0, 0), none, some (.lcmp, 0, 0, 0, 0, 0), some (.ifCond .eq 11, 111, 0, 0, 0, 0), none, none, some (.lload 8, 0, 0, 0, 0, 0), none, some (.lload 10, 0, 0, 0, 0, 0), none, some (.invokestatic 73, 197, 2, 0, 0, 0), none, none, some (.ireturn, 1, 0, 0, 0, 0), some (.iinc 3 1, 0, 0, 0, 1, 0), none, none, some (.goto (-100), 14, 0, 0, 0, 0), none, none, some (.iconst 0, 0, 0, 0, 0, 0), some (.ireturn, 1, 0, 0, 0, 0)]
def tb_X1_limit : List (Option XI) := [some (.aload_n 0, 0, 0, 0, 0, 0), some (.getfield 30, 1, 2, 0, 0, 0), none, none, some (.ifCond .eq 15, 19, 0, 0, 0, 0), none, none, some (.aload_n 0, 0, 0, 0, 0, 0), some (.iconst 0, 0, 0, 0, 0, 0), some (.invokevirtual 54, 13, 2, 1, 0, 0), none, none, some (.ldc2_w 24, 0, 0, 0, 0, 550293209600), none, none, some (.lcmp, 0, 0, 0, 0, 0), some (.ifCond .ge 5, 21, 0, 0, 0, 0), none, none, some (.iconst 0, 0, 0, 0, 0, 0), some (.ireturn, 1, 0, 0, 0, 0), some (.aload_n 0, 0, 0, 0, 0, 0), some (.iconst 0, 0, 0, 0, 0, 0), some (.invokevirtual 54, 13, 2, 1, 0, 0), none, none, some (.ldc2_w 24, 0, 0, 0, 0, 550293209600), none, none, some (.lcmp, 0, 0, 0, 0, 0), some (.ifCond .ne 5, 35, 0, 0, 0, 0), none, none, some (.iconst 1, 0, 0, 0, 1, 0), some (.ireturn, 1, 0, 0, 0, 0), some (.aload_n 0, 0, 0, 0, 0, 0), some (.iconst 0, 0, 0, 0, 0, 0), some (.invokevirtual 50, 12, 2, 1, 0, 0), none, none, some (.lconst 0, 0, 0, 0, 0, 0), some (.lcmp, 0, 0, 0, 0, 0), some (.ifCond .le 7, 49, 0, 0, 0, 0), none, none, some (.iconst 2, 0, 0, 0, 2, 0), some (.goto 4, 50, 0, 0, 0, 0), none, none, some (.iconst 3, 0, 0, 0, 3, 0), some (.ireturn, 1, 0, 0, 0, 0)]
def tb_X2_init : List (Option XI) := [some (.aload_n 0, 0, 0, 0, 0, 0), some (.invokespecial 3, 0, 1, 5, 0, 0), none, none, some (.aload_n 0, 0, 0, 0, 0, 0), some (.bipush 32, 0, 0, 0, 32, 0), none, some (.newarray .int, 1, 0, 0, 0, 0), none, some (.putfield 9, 2, 0, 2, 0, 0), none, none, some (.aload_n 0, 0, 0, 0, 0, 0), some (.bipush 32, 0, 0, 0, 32, 0), none, some (.newarray .int, 1, 0, 0, 0, 0), none, some (.putfield 15, 2, 1, 2, 0, 0), none, none, some (.aload_n 0, 0, 0, 0, 0, 0), some (.bipush 64, 0, 0, 0, 64, 0), none, some (.newarray .int, 1, 0, 0, 0, 0), none, some (.putfield 18, 2, 2, 2, 0, 0), none, none, some (.aload_n 0, 0, 0, 0, 0, 0), some (.bipush 64, 0, 0, 0, 64, 0), none, some (.newarray .int, 1, 0, 0, 0, 0), none, some (.putfield 21, 2, 3, 2, 0, 0), none, none, some (.aload_n 0, 0, 0, 0, 0, 0), some (.iconst 1, 0, 0, 0, 1, 0), some (.putfield 24, 2, 4, 0, 0, 0), none, none, some (.aload_n 0, 0, 0, 0, 0, 0), some (.iconst 1, 0, 0, 0, 1, 0), some (.putfield 28, 2, 5, 0, 0, 0), none, none, some (.aload_n 0, 0, 0, 0, 0, 0), some (.new 31, 0, 3, 0, 0, 0), none, none, some (.dup, 0, 0, 0, 0, 0), some (.invokespecial 33, 0, 1, 3, 0, 0), none, none, some (.putfield 34, 2, 6, 2, 0, 0), none, none, some (.aload_n 0, 0, 0, 0, 0, 0), some (.new 31, 0, 3, 0, 0, 0), none, none, some (.dup, 0, 0, 0, 0, 0), some (.invokespecial 33, 0, 1, 3, 0, 0), none, none, some (.putfield 38, 2, 7, 2, 0, 0), none, none, some (.aload_n 0, 0, 0, 0, 0, 0), some (.bipush 8, 0, 0, 0, 8, 0), none, some (.newarray .int, 1, 0, 0, 0, 0), none, some (.putfield 41, 2, 8, 2, 0, 0), none, none, some (.return_, 0, 0, 0, 0, 0)]
def tb_X2_powersOf : List (Option XI) := [some (.aload_n 0, 0, 0, 0, 0, 0), some (.getfield 9, 2, 0, 2, 0, 0), none, none, some (.iload_n 1, 0, 0, 0, 0, 0), some (.iconst 1, 0, 0, 0, 1, 0), some (.iadd, 0, 0, 0, 0, 0), some (.invokestatic 44, 47, 2, 0, 0, 0), none, none, some (.aload_n 0, 0, 0, 0, 0, 0), some (.getfield 9, 2, 0, 2, 0, 0), none, none, some (.iload_n 1, 0, 0, 0, 0, 0), some (.invokestatic 44, 47, 2, 0, 0, 0), none, none, some (.isub, 0, 0, 0, 0, 0), some (.ireturn, 1, 0, 0, 0, 0)]
def tb_X2_timesOf : List (Option XI) := [some (.aload_n 0, 0, 0, 0, 0, 0), some (.getfield 18, 2, 2, 2, 0, 0), none, none, some (.aload_n 0, 0, 0, 0, 0, 0), some (.getfield 9, 2, 0, 2, 0, 0), none, none, some (.iload_n 1, 0, 0, 0, 0, 0), some (.invokestatic 44, 47, 2, 0, 0, 0), none, none, some (.iload_n 2, 0, 0, 0, 0, 0), some (.iadd, 0, 0, 0, 0, 0), some (.invokestatic 44, 47, 2, 0, 0, 0), none, none, some (.ireturn, 1, 0, 0, 0, 0)]
def tb_X2_exponentOf : List (Option XI) := [some (.aload_n 0, 0, 0, 0, 0, 0), some (.getfield 21, 2, 3, 2, 0, 0), none, none, some (.aload_n 0, 0, 0, 0, 0, 0), some (.getfield 9, 2, 0, 2, 0, 0), none, none, some (.iload_n 1, 0, 0, 0, 0, 0), some (.invokestatic 44, 47, 2, 0, 0, 0), none, none, some (.iload_n 2, 0, 0, 0, 0, 0), some (.iadd, 0, 0, 0, 0, 0), some (.invokestatic 44, 47, 2, 0, 0, 0), none, none, some (.ireturn, 1, 0, 0, 0, 0)]
def tb_X2_keep : List (Option XI) := [some (.aload_n 0, 0, 0, 0, 0, 0), some (.aload_n 0, 0, 0, 0, 0, 0), some (.getfield 24, 2, 4, 0, 0, 0), none, none, some (.putfield 28, 2, 5, 0, 0, 0), none, none, some (.return_, 0, 0, 0, 0, 0)]
def tb_X2_forget : List (Option XI) := [some (.aload_n 0, 0, 0, 0, 0, 0), some (.aload_n 0, 0, 0, 0, 0, 0), some (.getfield 28, 2, 5, 0, 0, 0), none, none, some (.putfield 24, 2, 4, 0, 0, 0), none, none, some (.return_, 0, 0, 0, 0, 0)]
def tb_X2_powerOf : List (Option XI) := [some (.aload_n 0, 0, 0, 0, 0, 0), some (.getfield 34, 2, 6, 2, 0, 0), none, none, some (.invokevirtual 50, 4, 1, 0, 0, 0), none, none, some (.iload_n 2, 0, 0, 0, 0, 0), some (.ifCond .le 13, 21, 0, 0, 0, 0), none, none, some (.aload_n 0, 0, 0, 0, 0, 0), some (.getfield 34, 2, 6, 2, 0, 0), none, none, some (.iload_n 2, 0, 0, 0, 0, 0), some (.i2l, 0, 0, 0, 0, 0), some (.iload_n 1, 0, 0, 0, 0, 0), some (.invokevirtual 53, 5, 3, 0, 0, 0), none, none, some (.aload_n 0, 0, 0, 0, 0, 0), some (.aload_n 0, 0, 0, 0, 0, 0), some (.getfield 34, 2, 6, 2, 0, 0), none, none, some (.invokevirtual 57, 43, 2, 2, 0, 0), none, none, some (.ireturn, 1, 0, 0, 0, 0)]
def tb_X2_added : List (Option XI) := [some (.iload_n 2, 0, 0, 0, 0, 0), some (.ifCond .ne 5, 6, 0, 0, 0, 0), none, none, some (.iload_n 1, 0, 0, 0, 0, 0), some (.ireturn, 1, 0, 0, 0, 0), some (.aload_n 0, 0, 0, 0, 0, 0), some (.iload_n 2, 0, 0, 0, 0, 0), some (.iconst 0, 0, 0, 0, 0, 0), some (.invokevirtual 61, 24, 3, 2, 0, 0), none, none, some (.istore_n 3, 0, 0, 0, 0, 0), some (.aload_n 0, 0, 0, 0, 0, 0), some (.iload_n 1, 0, 0, 0, 0, 0), some (.iconst 0, 0, 0, 0, 0, 0), some (.iload_n 3, 0, 0, 0, 0, 0), some (.invokevirtual 65, 40, 4, 2, 0, 0), none, none, some (.istore 4, 0, 0, 0, 0, 0), none, some (.iload 4, 0, 0, 0, 0, 0), none, some (.aload_n 0, 0, 0, 0, 0, 0), some (.iload_n 1, 0, 0, 0, 0, 0), some (.invokevirtual 69, 22, 2, 2, 0, 0), none, none, some (.if_icmp .ge 22, 51, 0, 0, 0, 0), none, none, some (.aload_n 0, 0, 0, 0, 0, 0), some (.aload_n 0, 0, 0, 0, 0, 0), some (.iload_n 1, 0, 0, 0, 0, 0), some (.iload 4, 0, 0, 0, 0, 0), none, some (.invokevirtual 61, 24, 3, 2, 0, 0), none, none, some (.iload_n 3, 0, 0, 0, 0, 0), some (.invokevirtual 73, 33, 3, 2, 0, 0), none, none, some (.ifCond .ne 7, 51, 0, 0, 0, 0), none, none, some (.iconst 1, 0, 0, 0, 1, 0), some (.goto 4, 52, 0, 0, 0, 0), none, none, some (.iconst 0, 0, 0, 0, 0, 0), some (.istore 5, 0, 0, 0, 0, 0), none, some (.aload_n 0, 0, 0, 0, 0, 0), some (.iload_n 2, 0, 0, 0, 0, 0), some (.iconst 0, 0, 0, 0, 0, 0), some (.invokevirtual 76, 23, 3, 2, 0, 0), none, none, some (.i2l, 0, 0, 0, 0, 0), some (.iload 5, 0, 0, 0, 0, 0), none, some (.ifCond .eq 13, 76, 0, 0, 0, 0), none, none, some (.aload_n 0, 0, 0, 0, 0, 0), some (.iload_n 1, 0, 0, 0, 0, 0), some (.iload 4, 0, 0, 0, 0, 0), none, some (.invokevirtual 76, 23, 3, 2, 0, 0), none, none, some (.goto 4, 77, 0, 0, 0, 0), none, none, some (.iconst 0, 0, 0, 0, 0, 0), some (.i2l, 0, 0, 0, 0, 0), some (.ladd, 0, 0, 0, 0, 0), some (.lstore 6, 0, 0, 0, 0, 0), none, some (.aload_n 0, 0, 0, 0, 0, 0), some (.getfield 34, 2, 6, 2, 0, 0), none, none, some (.invokevirtual 50, 4, 1, 0, 0, 0), none, none, some (.aload_n 0, 0, 0, 0, 0, 0), some (.iload_n 1, 0, 0, 0, 0, 0), some (.iconst 0, 0, 0, 0, 0, 0), some (.iload 4, 0, 0, 0, 0, 0), none, some (.invokevirtual 79, 42, 4, 2, 0, 0), none, none, some (.aload_n 0, 0, 0, 0, 0, 0), some (.getfield 34, 2, 6, 2, 0, 0), none, none, some (.lload 6, 0, 0, 0, 0, 0), none, some (.iload_n 3, 0, 0, 0, 0, 0), some (.invokevirtual 53, 5, 3, 0, 0, 0), none, none, some (.aload_n 0, 0, 0, 0, 0, 0), some (.iload_n 2, 0, 0, 0, 0, 0), some (.iconst 1, 0, 0, 0, 1, 0), some (.aload_n 0, 0, 0, 0, 0, 0), some (.iload_n 2, 0, 0, 0, 0, 0), some (.invokevirtual 69, 22, 2, 2, 0, 0), none, none, some (.invokevirtual 79, 42, 4, 2, 0, 0), none, none, some (.aload_n 0, 0, 0, 0, 0, 0), some (.aload_n 0, 0, 0, 0, 0, 0), some (.getfield 34, 2, 6, 2, 0, 0), none, none, some (.invokevirtual 57, 43, 2, 2, 0, 0), none, none, some (.ireturn, 1, 0, 0, 0, 0)]
def tb_X2_multiplied : List (Option XI) := [some (.iload_n 1, 0, 0, 0, 0, 0), some (.ifCond .eq 7, 8, 0, 0, 0, 0), none, none, some (.iload_n 2, 0, 0, 0, 0, 0), some (.ifCond .ne 5, 10, 0, 0, 0, 0), none, none, some (.iconst 0, 0, 0, 0, 0, 0), some (.ireturn, 1, 0, 0, 0, 0), some (.aload_n 0, 0, 0, 0, 0, 0), some (.iload_n 1, 0, 0, 0, 0, 0), some (.iconst 0, 0, 0, 0, 0, 0), some (.invokevirtual 61, 24, 3, 2, 0, 0), none, none, some (.istore_n 3, 0, 0, 0, 0, 0), some (.aload_n 0, 0, 0, 0, 0, 0), some (.iload_n 2, 0, 0, 0, 0, 0), some (.invokevirtual 69, 22, 2, 2, 0, 0), none, none, some (.istore 4, 0, 0, 0, 0, 0), none, some (.iconst 0, 0, 0, 0, 0, 0), some (.istore 5, 0, 0, 0, 0, 0), none, some (.iload 5, 0, 0, 0, 0, 0), none, some (.iload 4, 0, 0, 0, 0, 0), none, some (.if_icmp .ge 30, 61, 0, 0, 0, 0), none, none, some (.aload_n 0, 0, 0, 0, 0, 0), some (.getfield 41, 2, 8, 2, 0, 0), none, none, some (.iload 5, 0, 0, 0, 0, 0), none, some (.aload_n 0, 0, 0, 0, 0, 0), some (.iload_n 3, 0, 0, 0, 0, 0), some (.aload_n 0, 0, 0, 0, 0, 0), some (.iload_n 2, 0, 0, 0, 0, 0), some (.iload 5, 0, 0, 0, 0, 0), none, some (.invokevirtual 61, 24, 3, 2, 0, 0), none, none, some (.invokevirtual 83, 28, 3, 2, 0, 0), none, none, some (.invokestatic 86, 49, 3, 0, 0, 0), none, none, some (.iinc 5 1, 0, 0, 0, 1, 0), none, none, some (.goto (-31), 27, 0, 0, 0, 0), none, none, some (.aload_n 0, 0, 0, 0, 0, 0), some (.getfield 34, 2, 6, 2, 0, 0), none, none, some (.invokevirtual 50, 4, 1, 0, 0, 0), none, none, some (.iconst 0, 0, 0, 0, 0, 0), some (.istore 5, 0, 0, 0, 0, 0), none, some (.iload 5, 0, 0, 0, 0, 0), none, some (.iload 4, 0, 0, 0, 0, 0), none, some (.if_icmp .ge 81, 156, 0, 0, 0, 0), none, none, some (.aload_n 0, 0, 0, 0, 0, 0), some (.iload_n 2, 0, 0, 0, 0, 0), some (.iload 5, 0, 0, 0, 0, 0), none, some (.invokevirtual 61, 24, 3, 2, 0, 0), none, none, some (.ifCond .ne 41, 126, 0, 0, 0, 0), none, none, some (.aload_n 0, 0, 0, 0, 0, 0), some (.getfield 34, 2, 6, 2, 0, 0), none, none, some (.aload_n 0, 0, 0, 0, 0, 0), some (.iload_n 1, 0, 0, 0, 0, 0), some (.iconst 0, 0, 0, 0, 0, 0), some (.invokevirtual 76, 23, 3, 2, 0, 0), none, none, some (.i2l, 0, 0, 0, 0, 0), some (.aload_n 0, 0, 0, 0, 0, 0), some (.iload_n 2, 0, 0, 0, 0, 0), some (.iload 5, 0, 0, 0, 0, 0), none, some (.invokevirtual 76, 23, 3, 2, 0, 0), none, none, some (.i2l, 0, 0, 0, 0, 0), some (.lmul, 0, 0, 0, 0, 0), some (.iload_n 3, 0, 0, 0, 0, 0), some (.invokevirtual 53, 5, 3, 0, 0, 0), none, none, some (.aload_n 0, 0, 0, 0, 0, 0), some (.iload_n 1, 0, 0, 0, 0, 0), some (.iconst 1, 0, 0, 0, 1, 0), some (.aload_n 0, 0, 0, 0, 0, 0), some (.iload_n 1, 0, 0, 0, 0, 0), some (.invokevirtual 69, 22, 2, 2, 0, 0), none, none, some (.invokevirtual 79, 42, 4, 2, 0, 0), none, none, some (.goto 27, 150, 0, 0, 0, 0), none, none, some (.aload_n 0, 0, 0, 0, 0, 0), some (.getfield 34, 2, 6, 2, 0, 0), none, none, some (.aload_n 0, 0, 0, 0, 0, 0), some (.iload_n 2, 0, 0, 0, 0, 0), some (.iload 5, 0, 0, 0, 0, 0), none, some (.invokevirtual 76, 23, 3, 2, 0, 0), none, none, some (.i2l, 0, 0, 0, 0, 0), some (.aload_n 0, 0, 0, 0, 0, 0), some (.getfield 41, 2, 8, 2, 0, 0), none, none, some (.iload 5, 0, 0, 0, 0, 0), none, some (.invokestatic 44, 47, 2, 0, 0, 0), none, none, some (.invokevirtual 53, 5, 3, 0, 0, 0), none, none, some (.iinc 5 1, 0, 0, 0, 1, 0), none, none, some (.goto (-82), 71, 0, 0, 0, 0), none, none, some (.aload_n 0, 0, 0, 0, 0, 0), some (.aload_n 0, 0, 0, 0, 0, 0), some (.getfield 34, 2, 6, 2, 0, 0), none, none, some (.invokevirtual 57, 43, 2, 2, 0, 0), none, none, some (.ireturn, 1, 0, 0, 0, 0)]
def tb_X2_naturallyAdded : List (Option XI) := [some (.aload_n 0, 0, 0, 0, 0, 0), some (.getfield 34, 2, 6, 2, 0, 0), none, none, some (.invokevirtual 50, 4, 1, 0, 0, 0), none, none, some (.iconst 0, 0, 0, 0, 0, 0), some (.istore_n 3, 0, 0, 0, 0, 0), some (.iconst 0, 0, 0, 0, 0, 0), some (.istore 4, 0, 0, 0, 0, 0), none, some (.iload 4, 0, 0, 0, 0, 0), none, some (.aload_n 0, 0, 0, 0, 0, 0), some (.iload_n 2, 0, 0, 0, 0, 0), some (.invokevirtual 69, 22, 2, 2, 0, 0), none, none, some (.if_icmp .ge 119, 138, 0, 0, 0, 0), none, none, some (.aload_n 0, 0, 0, 0, 0, 0), some (.iload_n 2, 0, 0, 0, 0, 0), some (.iload 4, 0, 0, 0, 0, 0), none, some (.invokevirtual 61, 24, 3, 2, 0, 0), none, none, some (.istore 5, 0, 0, 0, 0, 0), none, some (.aload_n 0, 0, 0, 0, 0, 0), some (.iload_n 1, 0, 0, 0, 0, 0), some (.iload_n 3, 0, 0, 0, 0, 0), some (.iload 5, 0, 0, 0, 0, 0), none, some (.invokevirtual 65, 40, 4, 2, 0, 0), none, none, some (.istore 6, 0, 0, 0, 0, 0), none, some (.aload_n 0, 0, 0, 0, 0, 0), some (.iload_n 1, 0, 0, 0, 0, 0), some (.iload_n 3, 0, 0, 0, 0, 0), some (.iload 6, 0, 0, 0, 0, 0), none, some (.invokevirtual 79, 42, 4, 2, 0, 0), none, none, some (.iload 6, 0, 0, 0, 0, 0), none, some (.aload_n 0, 0, 0, 0, 0, 0), some (.iload_n 1, 0, 0, 0, 0, 0), some (.invokevirtual 69, 22, 2, 2, 0, 0), none, none, some (.if_icmp .ge 23, 79, 0, 0, 0, 0), none, none, some (.aload_n 0, 0, 0, 0, 0, 0), some (.aload_n 0, 0, 0, 0, 0, 0), some (.iload_n 1, 0, 0, 0, 0, 0), some (.iload 6, 0, 0, 0, 0, 0), none, some (.invokevirtual 61, 24, 3, 2, 0, 0), none, none, some (.iload 5, 0, 0, 0, 0, 0), none, some (.invokevirtual 73, 33, 3, 2, 0, 0), none, none, some (.ifCond .ne 7, 79, 0, 0, 0, 0), none, none, some (.iconst 1, 0, 0, 0, 1, 0), some (.goto 4, 80, 0, 0, 0, 0), none, none, some (.iconst 0, 0, 0, 0, 0, 0), some (.istore 7, 0, 0, 0, 0, 0), none, some (.aload_n 0, 0, 0, 0, 0, 0), some (.getfield 34, 2, 6, 2, 0, 0), none, none, some (.aload_n 0, 0, 0, 0, 0, 0), some (.iload_n 2, 0, 0, 0, 0, 0), some (.iload 4, 0, 0, 0, 0, 0), none, some (.invokevirtual 76, 23, 3, 2, 0, 0), none, none, some (.i2l, 0, 0, 0, 0, 0), some (.iload 7, 0, 0, 0, 0, 0), none, some (.ifCond .eq 13, 109, 0, 0, 0, 0), none, none, some (.aload_n 0, 0, 0, 0, 0, 0), some (.iload_n 1, 0, 0, 0, 0, 0), some (.iload 6, 0, 0, 0, 0, 0), none, some (.invokevirtual 76, 23, 3, 2, 0, 0), none, none, some (.goto 4, 110, 0, 0, 0, 0), none, none, some (.iconst 0, 0, 0, 0, 0, 0), some (.i2l, 0, 0, 0, 0, 0), some (.ladd, 0, 0, 0, 0, 0), some (.iload 5, 0, 0, 0, 0, 0), none, some (.invokevirtual 53, 5, 3, 0, 0, 0), none, none, some (.iload 7, 0, 0, 0, 0, 0), none, some (.ifCond .eq 10, 129, 0, 0, 0, 0), none, none, some (.iload 6, 0, 0, 0, 0, 0), none, some (.iconst 1, 0, 0, 0, 1, 0), some (.iadd, 0, 0, 0, 0, 0), some (.goto 5, 131, 0, 0, 0, 0), none, none, some (.iload 6, 0, 0, 0, 0, 0), none, some (.istore_n 3, 0, 0, 0, 0, 0), some (.iinc 4 1, 0, 0, 0, 1, 0), none, none, some (.goto (-123), 12, 0, 0, 0, 0), none, none, some (.aload_n 0, 0, 0, 0, 0, 0), some (.iload_n 1, 0, 0, 0, 0, 0), some (.iload_n 3, 0, 0, 0, 0, 0), some (.aload_n 0, 0, 0, 0, 0, 0), some (.iload_n 1, 0, 0, 0, 0, 0), some (.invokevirtual 69, 22, 2, 2, 0, 0), none, none, some (.invokevirtual 79, 42, 4, 2, 0, 0), none, none, some (.aload_n 0, 0, 0, 0, 0, 0), some (.aload_n 0, 0, 0, 0, 0, 0), some (.getfield 34, 2, 6, 2, 0, 0), none, none, some (.invokevirtual 57, 43, 2, 2, 0, 0), none, none, some (.ireturn, 1, 0, 0, 0, 0)]
def tb_X2_naturallyMultiplied : List (Option XI) := [some (.aload_n 0, 0, 0, 0, 0, 0), some (.getfield 38, 2, 7, 2, 0, 0), none, none, some (.invokevirtual 50, 4, 1, 0, 0, 0), none, none, some (.iconst 0, 0, 0, 0, 0, 0), some (.istore_n 3, 0, 0, 0, 0, 0), some (.iload_n 3, 0, 0, 0, 0, 0), some (.aload_n 0, 0, 0, 0, 0, 0), some (.iload_n 1, 0, 0, 0, 0, 0), some (.invokevirtual 69, 22, 2, 2, 0, 0), none, none, some (.if_icmp .ge 61, 76, 0, 0, 0, 0), none, none, some (.iconst 0, 0, 0, 0, 0, 0), some (.istore 4, 0, 0, 0, 0, 0), none, some (.iload 4, 0, 0, 0, 0, 0), none, some (.aload_n 0, 0, 0, 0, 0, 0), some (.iload_n 2, 0, 0, 0, 0, 0), some (.invokevirtual 69, 22, 2, 2, 0, 0), none, none, some (.if_icmp .ge 42, 70, 0, 0, 0, 0), none, none, some (.aload_n 0, 0, 0, 0, 0, 0), some (.aload_n 0, 0, 0, 0, 0, 0), some (.iload_n 1, 0, 0, 0, 0, 0), some (.iload_n 3, 0, 0, 0, 0, 0), some (.invokevirtual 76, 23, 3, 2, 0, 0), none, none, some (.i2l, 0, 0, 0, 0, 0), some (.aload_n 0, 0, 0, 0, 0, 0), some (.iload_n 2, 0, 0, 0, 0, 0), some (.iload 4, 0, 0, 0, 0, 0), none, some (.invokevirtual 76, 23, 3, 2, 0, 0), none, none, some (.i2l, 0, 0, 0, 0, 0), some (.lmul, 0, 0, 0, 0, 0), some (.aload_n 0, 0, 0, 0, 0, 0), some (.iload_n 1, 0, 0, 0, 0, 0), some (.iload_n 3, 0, 0, 0, 0, 0), some (.invokevirtual 61, 24, 3, 2, 0, 0), none, none, some (.aload_n 0, 0, 0, 0, 0, 0), some (.iload_n 2, 0, 0, 0, 0, 0), some (.iload 4, 0, 0, 0, 0, 0), none, some (.invokevirtual 61, 24, 3, 2, 0, 0), none, none, some (.invokevirtual 90, 32, 4, 2, 0, 0), none, none, some (.iinc 4 1, 0, 0, 0, 1, 0), none, none, some (.goto (-46), 21, 0, 0, 0, 0), none, none, some (.iinc 3 1, 0, 0, 0, 1, 0), none, none, some (.goto (-64), 9, 0, 0, 0, 0), none, none, some (.aload_n 0, 0, 0, 0, 0, 0), some (.aload_n 0, 0, 0, 0, 0, 0), some (.getfield 38, 2, 7, 2, 0, 0), none, none, some (.invokevirtual 57, 43, 2, 2, 0, 0), none, none, some (.ireturn, 1, 0, 0, 0, 0)]
def tb_X2_addPair : List (Option XI) := [some (.aload_n 0, 0, 0, 0, 0, 0), some (.getfield 24, 2, 4, 0, 0, 0), none, none, some (.istore 5, 0, 0, 0, 0, 0), none, some (.aload_n 0, 0, 0, 0, 0, 0), some (.iload_n 3, 0, 0, 0, 0, 0), some (.iload 4, 0, 0, 0, 0, 0), none, some (.invokevirtual 94, 30, 3, 2, 0, 0), none, none, some (.istore 6, 0, 0, 0, 0, 0), none, some (.iconst 0, 0, 0, 0, 0, 0), some (.istore 7, 0, 0, 0, 0, 0), none, some (.iload 7, 0, 0, 0, 0, 0), none, some (.aload_n 0, 0, 0, 0, 0, 0), some (.getfield 38, 2, 7, 2, 0, 0), none, none, some (.invokevirtual 97, 1, 1, 0, 0, 0), none, none, some (.if_icmp .ge 27, 54, 0, 0, 0, 0), none, none, some (.aload_n 0, 0, 0, 0, 0, 0), some (.aload_n 0, 0, 0, 0, 0, 0), some (.getfield 38, 2, 7, 2, 0, 0), none, none, some (.iload 7, 0, 0, 0, 0, 0), none, some (.invokevirtual 100, 3, 2, 0, 0, 0), none, none, some (.iload 6, 0, 0, 0, 0, 0), none, some (.invokevirtual 73, 33, 3, 2, 0, 0), none, none, some (.ifCond .le 9, 54, 0, 0, 0, 0), none, none, some (.iinc 7 1, 0, 0, 0, 1, 0), none, none, some (.goto (-33), 18, 0, 0, 0, 0), none, none, some (.iload 7, 0, 0, 0, 0, 0), none, some (.aload_n 0, 0, 0, 0, 0, 0), some (.getfield 38, 2, 7, 2, 0, 0), none, none, some (.invokevirtual 97, 1, 1, 0, 0, 0), none, none, some (.if_icmp .ge 40, 103, 0, 0, 0, 0), none, none, some (.aload_n 0, 0, 0, 0, 0, 0), some (.aload_n 0, 0, 0, 0, 0, 0), some (.getfield 38, 2, 7, 2, 0, 0), none, none, some (.iload 7, 0, 0, 0, 0, 0), none, some (.invokevirtual 100, 3, 2, 0, 0, 0), none, none, some (.iload 6, 0, 0, 0, 0, 0), none, some (.invokevirtual 73, 33, 3, 2, 0, 0), none, none, some (.ifCond .ne 22, 103, 0, 0, 0, 0), none, none, some (.aload_n 0, 0, 0, 0, 0, 0), some (.getfield 38, 2, 7, 2, 0, 0), none, none, some (.iload 7, 0, 0, 0, 0, 0), none, some (.lload_n 1, 0, 0, 0, 0, 0), some (.invokevirtual 103, 7, 3, 0, 0, 0), none, none, some (.aload_n 0, 0, 0, 0, 0, 0), some (.iload 5, 0, 0, 0, 0, 0), none, some (.putfield 24, 2, 4, 0, 0, 0), none, none, some (.goto 15, 115, 0, 0, 0, 0), none, none, some (.aload_n 0, 0, 0, 0, 0, 0), some (.getfield 38, 2, 7, 2, 0, 0), none, none, some (.iload 7, 0, 0, 0, 0, 0), none, some (.lload_n 1, 0, 0, 0, 0, 0), some (.iload 6, 0, 0, 0, 0, 0), none, some (.invokevirtual 107, 6, 4, 0, 0, 0), none, none, some (.return_, 0, 0, 0, 0, 0)]
def tb_X2_compared : List (Option XI) := [some (.aload_n 0, 0, 0, 0, 0, 0), some (.iload_n 1, 0, 0, 0, 0, 0), some (.iload_n 2, 0, 0, 0, 0, 0), some (.iconst 5, 0, 0, 0, 5, 0), some (.invokevirtual 111, 34, 4, 2, 0, 0), none, none, some (.ireturn, 1, 0, 0, 0, 0)]
def tb_X2_order : List (Option XI) := [some (.iload_n 1, 0, 0, 0, 0, 0), some (.iload_n 2, 0, 0, 0, 0, 0), some (.if_icmp .eq 7, 9, 0, 0, 0, 0), none, none, some (.iload_n 3, 0, 0, 0, 0, 0), some (.ifCond .gt 5, 11, 0, 0, 0, 0), none, none, some (.iconst 0, 0, 0, 0, 0, 0), some (.ireturn, 1, 0, 0, 0, 0), some (.aload_n 0, 0, 0, 0, 0, 0), some (.iload_n 1, 0, 0, 0, 0, 0), some (.invokevirtual 69, 22, 2, 2, 0, 0), none, none, some (.aload_n 0, 0, 0, 0, 0, 0), some (.iload_n 2, 0, 0, 0, 0, 0), some (.invokevirtual 69, 22, 2, 2, 0, 0), none, none, some (.invokestatic 114, 0, 2, 2, 0, 0), none, none, some (.istore 4, 0, 0, 0, 0, 0), none, some (.iconst 0, 0, 0, 0, 0, 0), some (.istore 5, 0, 0, 0, 0, 0), none, some (.iload 5, 0, 0, 0, 0, 0), none, some (.iload 4, 0, 0, 0, 0, 0), none, some (.if_icmp .ge 64, 97, 0, 0, 0, 0), none, none, some (.aload_n 0, 0, 0, 0, 0, 0), some (.aload_n 0, 0, 0, 0, 0, 0), some (.iload_n 1, 0, 0, 0, 0, 0), some (.iload 5, 0, 0, 0, 0, 0), none, some (.invokevirtual 61, 24, 3, 2, 0, 0), none, none, some (.aload_n 0, 0, 0, 0, 0, 0), some (.iload_n 2, 0, 0, 0, 0, 0), some (.iload 5, 0, 0, 0, 0, 0), none, some (.invokevirtual 61, 24, 3, 2, 0, 0), none, none, some (.iload_n 3, 0, 0, 0, 0, 0), some (.iconst 1, 0, 0, 0, 1, 0), some (.isub, 0, 0, 0, 0, 0), some (.invokevirtual 111, 34, 4, 2, 0, 0), none, none, some (.istore 6, 0, 0, 0, 0, 0), none, some (.iload 6, 0, 0, 0, 0, 0), none, some (.ifCond .ne 22, 83, 0, 0, 0, 0), none, none, some (.aload_n 0, 0, 0, 0, 0, 0), some (.iload_n 1, 0, 0, 0, 0, 0), some (.iload 5, 0, 0, 0, 0, 0), none, some (.invokevirtual 76, 23, 3, 2, 0, 0), none, none, some (.aload_n 0, 0, 0, 0, 0, 0), some (.iload_n 2, 0, 0, 0, 0, 0), some (.iload 5, 0, 0, 0, 0, 0), none, some (.invokevirtual 76, 23, 3, 2, 0, 0), none, none, some (.invokestatic 119, 196, 2, 0, 0, 0), none, none, some (.istore 6, 0, 0, 0, 0, 0), none, some (.iload 6, 0, 0, 0, 0, 0), none, some (.ifCond .eq 6, 91, 0, 0, 0, 0), none, none, some (.iload 6, 0, 0, 0, 0, 0), none, some (.ireturn, 1, 0, 0, 0, 0), some (.iinc 5 1, 0, 0, 0, 1, 0), none, none, some (.goto (-65), 29, 0, 0, 0, 0), none, none, some (.aload_n 0, 0, 0, 0, 0, 0), some (.iload_n 1, 0, 0, 0, 0, 0), some (.invokevirtual 69, 22, 2, 2, 0, 0), none, none, some (.aload_n 0, 0, 0, 0, 0, 0), some (.iload_n 2, 0, 0, 0, 0, 0), some (.invokevirtual 69, 22, 2, 2, 0, 0), none, none, some (.invokestatic 119, 196, 2, 0, 0, 0), none, none, some (.ireturn, 1, 0, 0, 0, 0)]
def tb_X2_stepped : List (Option XI) := [some (.aload_n 0, 0, 0, 0, 0, 0), some (.iload_n 1, 0, 0, 0, 0, 0), some (.iload_n 2, 0, 0, 0, 0, 0), some (.iconst 5, 0, 0, 0, 5, 0), some (.invokevirtual 124, 36, 4, 2, 0, 0), none, none, some (.ireturn, 1, 0, 0, 0, 0)]
def tb_X2_lower : List (Option XI) := [some (.iload_n 1, 0, 0, 0, 0, 0), some (.ifCond .eq 7, 8, 0, 0, 0, 0), none, none, some (.iload_n 3, 0, 0, 0, 0, 0), some (.ifCond .gt 5, 10, 0, 0, 0, 0), none, none, some (.iconst 0, 0, 0, 0, 0, 0), some (.ireturn, 1, 0, 0, 0, 0), some (.aload_n 0, 0, 0, 0, 0, 0), some (.iload_n 1, 0, 0, 0, 0, 0), some (.aload_n 0, 0, 0, 0, 0, 0), some (.iload_n 1, 0, 0, 0, 0, 0), some (.invokevirtual 69, 22, 2, 2, 0, 0), none, none, some (.iconst 1, 0, 0, 0, 1, 0), some (.isub, 0, 0, 0, 0, 0), some (.invokevirtual 61, 24, 3, 2, 0, 0), none, none, some (.istore 4, 0, 0, 0, 0, 0), none, some (.aload_n 0, 0, 0, 0, 0, 0), some (.iload 4, 0, 0, 0, 0, 0), none, some (.iload_n 2, 0, 0, 0, 0, 0), some (.iload_n 3, 0, 0, 0, 0, 0), some (.iconst 1, 0, 0, 0, 1, 0), some (.isub, 0, 0, 0, 0, 0), some (.invokevirtual 124, 36, 4, 2, 0, 0), none, none, some (.istore 5, 0, 0, 0, 0, 0), none, some (.aload_n 0, 0, 0, 0, 0, 0), some (.iload_n 1, 0, 0, 0, 0, 0), some (.iconst 1, 0, 0, 0, 1, 0), some (.invokevirtual 127, 41, 3, 2, 0, 0), none, none, some (.iload 4, 0, 0, 0, 0, 0), none, some (.ifCond .eq 27, 71, 0, 0, 0, 0), none, none, some (.aload_n 0, 0, 0, 0, 0, 0), some (.getfield 34, 2, 6, 2, 0, 0), none, none, some (.aload_n 0, 0, 0, 0, 0, 0), some (.iload 4, 0, 0, 0, 0, 0), none, some (.invokevirtual 131, 39, 2, 2, 0, 0), none, none, some (.ifCond .le 8, 65, 0, 0, 0, 0), none, none, some (.iload_n 2, 0, 0, 0, 0, 0), some (.i2l, 0, 0, 0, 0, 0), some (.goto 4, 66, 0, 0, 0, 0), none, none, some (.lconst 1, 0, 0, 0, 0, 1), some (.iload 5, 0, 0, 0, 0, 0), none, some (.invokevirtual 53, 5, 3, 0, 0, 0), none, none, some (.aload_n 0, 0, 0, 0, 0, 0), some (.aload_n 0, 0, 0, 0, 0, 0), some (.getfield 34, 2, 6, 2, 0, 0), none, none, some (.invokevirtual 57, 43, 2, 2, 0, 0), none, none, some (.ireturn, 1, 0, 0, 0, 0)]
def tb_X2_stepsToZero : List (Option XI) := [some (.iload_n 1, 0, 0, 0, 0, 0), some (.istore 4, 0, 0, 0, 0, 0), none, some (.iconst 0, 0, 0, 0, 0, 0), some (.istore 5, 0, 0, 0, 0, 0), none, some (.iload 4, 0, 0, 0, 0, 0), none, some (.ifCond .eq 70, 78, 0, 0, 0, 0), none, none, some (.iload 5, 0, 0, 0, 0, 0), none, some (.iload_n 3, 0, 0, 0, 0, 0), some (.if_icmp .ge 64, 78, 0, 0, 0, 0), none, none, some (.aload_n 0, 0, 0, 0, 0, 0), some (.iload 4, 0, 0, 0, 0, 0), none, some (.invokevirtual 131, 39, 2, 2, 0, 0), none, none, some (.istore 6, 0, 0, 0, 0, 0), none, some (.iconst 1, 0, 0, 0, 1, 0), some (.iload 6, 0, 0, 0, 0, 0), none, some (.iload_n 3, 0, 0, 0, 0, 0), some (.iload 5, 0, 0, 0, 0, 0), none, some (.isub, 0, 0, 0, 0, 0), some (.invokestatic 114, 0, 2, 2, 0, 0), none, none, some (.invokestatic 134, 0, 2, 1, 0, 0), none, none, some (.istore 7, 0, 0, 0, 0, 0), none, some (.iload 6, 0, 0, 0, 0, 0), none, some (.ifCond .le 14, 56, 0, 0, 0, 0), none, none, some (.aload_n 0, 0, 0, 0, 0, 0), some (.iload 4, 0, 0, 0, 0, 0), none, some (.iload 7, 0, 0, 0, 0, 0), none, some (.invokevirtual 137, 38, 3, 2, 0, 0), none, none, some (.goto 13, 66, 0, 0, 0, 0), none, none, some (.aload_n 0, 0, 0, 0, 0, 0), some (.iload 4, 0, 0, 0, 0, 0), none, some (.iload_n 2, 0, 0, 0, 0, 0), some (.iload 5, 0, 0, 0, 0, 0), none, some (.iadd, 0, 0, 0, 0, 0), some (.invokevirtual 140, 35, 3, 2, 0, 0), none, none, some (.istore 4, 0, 0, 0, 0, 0), none, some (.iload 5, 0, 0, 0, 0, 0), none, some (.iload 7, 0, 0, 0, 0, 0), none, some (.iadd, 0, 0, 0, 0, 0), some (.istore 5, 0, 0, 0, 0, 0), none, some (.goto (-69), 6, 0, 0, 0, 0), none, none, some (.aload_n 0, 0, 0, 0, 0, 0), some (.invokevirtual 143, 26, 1, 2, 0, 0), none, none, some (.iload 4, 0, 0, 0, 0, 0), none, some (.ifCond .ne 8, 92, 0, 0, 0, 0), none, none, some (.iload 5, 0, 0, 0, 0, 0), none, some (.goto 4, 93, 0, 0, 0, 0), none, none, some (.iconst (-1), 0, 0, 0, (-1), 0), some (.ireturn, 1, 0, 0, 0, 0)]
def tb_X2_lessened : List (Option XI) := [some (.aload_n 0, 0, 0, 0, 0, 0), some (.iload_n 1, 0, 0, 0, 0, 0), some (.iload_n 2, 0, 0, 0, 0, 0), some (.invokevirtual 127, 41, 3, 2, 0, 0), none, none, some (.aload_n 0, 0, 0, 0, 0, 0), some (.aload_n 0, 0, 0, 0, 0, 0), some (.getfield 34, 2, 6, 2, 0, 0), none, none, some (.invokevirtual 57, 43, 2, 2, 0, 0), none, none, some (.ireturn, 1, 0, 0, 0, 0)]
def tb_X2_finiteTail : List (Option XI) := [some (.aload_n 0, 0, 0, 0, 0, 0), some (.iload_n 1, 0, 0, 0, 0, 0), some (.invokevirtual 69, 22, 2, 2, 0, 0), none, none, some (.iconst 1, 0, 0, 0, 1, 0), some (.isub, 0, 0, 0, 0, 0), some (.istore_n 2, 0, 0, 0, 0, 0), some (.iload_n 2, 0, 0, 0, 0, 0), some (.ifCond .lt 21, 30, 0, 0, 0, 0), none, none, some (.aload_n 0, 0, 0, 0, 0, 0), some (.iload_n 1, 0, 0, 0, 0, 0), some (.iload_n 2, 0, 0, 0, 0, 0), some (.invokevirtual 61, 24, 3, 2, 0, 0), none, none, some (.ifCond .ne 12, 30, 0, 0, 0, 0), none, none, some (.aload_n 0, 0, 0, 0, 0, 0), some (.iload_n 1, 0, 0, 0, 0, 0), some (.iload_n 2, 0, 0, 0, 0, 0), some (.invokevirtual 76, 23, 3, 2, 0, 0), none, none, some (.goto 4, 31, 0, 0, 0, 0), none, none, some (.iconst 0, 0, 0, 0, 0, 0), some (.ireturn, 1, 0, 0, 0, 0)]
def tb_X2_powersAbove : List (Option XI) := [some (.iload_n 2, 0, 0, 0, 0, 0), some (.istore 4, 0, 0, 0, 0, 0), none, some (.iload 4, 0, 0, 0, 0, 0), none, some (.aload_n 0, 0, 0, 0, 0, 0), some (.iload_n 1, 0, 0, 0, 0, 0), some (.invokevirtual 69, 22, 2, 2, 0, 0), none, none, some (.if_icmp .ge 24, 34, 0, 0, 0, 0), none, none, some (.aload_n 0, 0, 0, 0, 0, 0), some (.aload_n 0, 0, 0, 0, 0, 0), some (.iload_n 1, 0, 0, 0, 0, 0), some (.iload 4, 0, 0, 0, 0, 0), none, some (.invokevirtual 61, 24, 3, 2, 0, 0), none, none, some (.iload_n 3, 0, 0, 0, 0, 0), some (.invokevirtual 73, 33, 3, 2, 0, 0), none, none, some (.ifCond .le 9, 34, 0, 0, 0, 0), none, none, some (.iinc 4 1, 0, 0, 0, 1, 0), none, none, some (.goto (-28), 3, 0, 0, 0, 0), none, none, some (.iload 4, 0, 0, 0, 0, 0), none, some (.ireturn, 1, 0, 0, 0, 0)]
def tb_X2_draftLess : List (Option XI) := [some (.aload_n 0, 0, 0, 0, 0, 0), some (.iload_n 1, 0, 0, 0, 0, 0), some (.invokevirtual 69, 22, 2, 2, 0, 0), none, none, some (.iconst 1, 0, 0, 0, 1, 0), some (.isub, 0, 0, 0, 0, 0), some (.istore_n 3, 0, 0, 0, 0, 0), some (.aload_n 0, 0, 0, 0, 0, 0), some (.getfield 34, 2, 6, 2, 0, 0), none, none, some (.invokevirtual 50, 4, 1, 0, 0, 0), none, none, some (.aload_n 0, 0, 0, 0, 0, 0), some (.iload_n 1, 0, 0, 0, 0, 0), some (.iconst 0, 0, 0, 0, 0, 0), some (.iload_n 3, 0, 0, 0, 0, 0), some (.invokevirtual 79, 42, 4, 2, 0, 0), none, none, some (.aload_n 0, 0, 0, 0, 0, 0), some (.iload_n 1, 0, 0, 0, 0, 0), some (.iload_n 3, 0, 0, 0, 0, 0), some (.invokevirtual 76, 23, 3, 2, 0, 0), none, none, some (.iload_n 2, 0, 0, 0, 0, 0), some (.if_icmp .le 25, 54, 0, 0, 0, 0), none, none, some (.aload_n 0, 0, 0, 0, 0, 0), some (.getfield 34, 2, 6, 2, 0, 0), none, none, some (.aload_n 0, 0, 0, 0, 0, 0), some (.iload_n 1, 0, 0, 0, 0, 0), some (.iload_n 3, 0, 0, 0, 0, 0), some (.invokevirtual 76, 23, 3, 2, 0, 0), none, none, some (.iload_n 2, 0, 0, 0, 0, 0), some (.isub, 0, 0, 0, 0, 0), some (.i2l, 0, 0, 0, 0, 0), some (.aload_n 0, 0, 0, 0, 0, 0), some (.iload_n 1, 0, 0, 0, 0, 0), some (.iload_n 3, 0, 0, 0, 0, 0), some (.invokevirtual 61, 24, 3, 2, 0, 0), none, none, some (.invokevirtual 53, 5, 3, 0, 0, 0), none, none, some (.return_, 0, 0, 0, 0, 0)]
def tb_X2_draftPowers : List (Option XI) := [some (.iload_n 2, 0, 0, 0, 0, 0), some (.istore 4, 0, 0, 0, 0, 0), none, some (.iload 4, 0, 0, 0, 0, 0), none, some (.iload_n 3, 0, 0, 0, 0, 0), some (.if_icmp .ge 31, 37, 0, 0, 0, 0), none, none, some (.aload_n 0, 0, 0, 0, 0, 0), some (.getfield 34, 2, 6, 2, 0, 0), none, none, some (.aload_n 0, 0, 0, 0, 0, 0), some (.iload_n 1, 0, 0, 0, 0, 0), some (.iload 4, 0, 0, 0, 0, 0), none, some (.invokevirtual 76, 23, 3, 2, 0, 0), none, none, some (.i2l, 0, 0, 0, 0, 0), some (.aload_n 0, 0, 0, 0, 0, 0), some (.iload_n 1, 0, 0, 0, 0, 0), some (.iload 4, 0, 0, 0, 0, 0), none, some (.invokevirtual 61, 24, 3, 2, 0, 0), none, none, some (.invokevirtual 53, 5, 3, 0, 0, 0), none, none, some (.iinc 4 1, 0, 0, 0, 1, 0), none, none, some (.goto (-31), 3, 0, 0, 0, 0), none, none, some (.return_, 0, 0, 0, 0, 0)]
def tb_X2_made : List (Option XI) := [some (.aload_n 1, 0, 0, 0, 0, 0), some (.invokevirtual 97, 1, 1, 0, 0, 0), none, none, some (.ifCond .ne 5, 9, 0, 0, 0, 0), none, none, some (.iconst 0, 0, 0, 0, 0, 0), some (.ireturn, 1, 0, 0, 0, 0), some (.aload_n 0, 0, 0, 0, 0, 0), some (.aload_n 1, 0, 0, 0, 0, 0), some (.invokevirtual 146, 44, 2, 2, 0, 0), none, none, some (.istore_n 2, 0, 0, 0, 0, 0), some (.iload_n 2, 0, 0, 0, 0, 0), some (.iconst 5, 0, 0, 0, 5, 0), some (.if_icmp .gt 20, 37, 0, 0, 0, 0), none, none, some (.aload_n 1, 0, 0, 0, 0, 0), some (.invokestatic 149, 45, 1, 0, 0, 0), none, none, some (.ifCond .eq 13, 37, 0, 0, 0, 0), none, none, some (.aload_n 0, 0, 0, 0, 0, 0), some (.getfield 24, 2, 4, 0, 0, 0), none, none, some (.sipush 16384, 0, 0, 0, 16384, 0), none, none, some (.if_icmp .lt 17, 51, 0, 0, 0, 0), none, none, some (.aload_n 0, 0, 0, 0, 0, 0), some (.invokevirtual 143, 26, 1, 2, 0, 0), none, none, some (.new 153, 3, 157, 1, 155, 0), none, none, none, none, none, none, none, none, none, some (.aload_n 0, 0, 0, 0, 0, 0), some (.aload_n 1, 0, 0, 0, 0, 0), some (.iload_n 2, 0, 0, 0, 0, 0), some (.invokevirtual 160, 46, 3, 2, 0, 0), none, none, some (.aload_n 0, 0, 0, 0, 0, 0), some (.getfield 24, 2, 4, 0, 0, 0), none, none, some (.iconst 1, 0, 0, 0, 1, 0), some (.isub, 0, 0, 0, 0, 0), some (.ireturn, 1, 0, 0, 0, 0)]
def tb_X2_depthOf : List (Option XI) := [some (.iconst 0, 0, 0, 0, 0, 0), some (.istore_n 2, 0, 0, 0, 0, 0), some (.iconst 0, 0, 0, 0, 0, 0), some (.istore_n 3, 0, 0, 0, 0, 0), some (.iload_n 3, 0, 0, 0, 0, 0), some (.aload_n 1, 0, 0, 0, 0, 0), some (.invokevirtual 97, 1, 1, 0, 0, 0), none, none, some (.if_icmp .ge 26, 35, 0, 0, 0, 0), none, none, some (.iload_n 2, 0, 0, 0, 0, 0), some (.aload_n 0, 0, 0, 0, 0, 0), some (.getfield 15, 2, 1, 2, 0, 0), none, none, some (.aload_n 1, 0, 0, 0, 0, 0), some (.iload_n 3, 0, 0, 0, 0, 0), some (.invokevirtual 100, 3, 2, 0, 0, 0), none, none, some (.invokestatic 44, 47, 2, 0, 0, 0), none, none, some (.invokestatic 134, 0, 2, 1, 0, 0), none, none, some (.istore_n 2, 0, 0, 0, 0, 0), some (.iinc 3 1, 0, 0, 0, 1, 0), none, none, some (.goto (-28), 4, 0, 0, 0, 0), none, none, some (.iload_n 2, 0, 0, 0, 0, 0), some (.iconst 1, 0, 0, 0, 1, 0), some (.iadd, 0, 0, 0, 0, 0), some (.ireturn, 1, 0, 0, 0, 0)]
def tb_X2_powersFit : List (Option XI) := [some (.aload_n 0, 0, 0, 0, 0, 0), some (.invokevirtual 97, 1, 1, 0, 0, 0), none, none, some (.bipush 8, 0, 0, 0, 8, 0), none, some (.if_icmp .gt 7, 13, 0, 0, 0, 0), none, none, some (.iconst 1, 0, 0, 0, 1, 0), some (.goto 4, 14, 0, 0, 0, 0), none, none, some (.iconst 0, 0, 0, 0, 0, 0), some (.istore_n 1, 0, 0, 0, 0, 0), some (.iconst 0, 0, 0, 0, 0, 0), some (.istore_n 2, 0, 0, 0, 0, 0), some (.iload_n 2, 0, 0, 0, 0, 0), some (.aload_n 0, 0, 0, 0, 0, 0), some (.invokevirtual 97, 1, 1, 0, 0, 0), none, none, some (.if_icmp .ge 31, 53, 0, 0, 0, 0), none, none, some (.iload_n 1, 0, 0, 0, 0, 0), some (.ifCond .eq 19, 45, 0, 0, 0, 0), none, none, some (.aload_n 0, 0, 0, 0, 0, 0), some (.iload_n 2, 0, 0, 0, 0, 0), some (.invokevirtual 164, 2, 2, 0, 0, 0), none, none, some (.ldc2_w 168, 0, 0, 0, 0, 1000000), none, none, some (.lcmp, 0, 0, 0, 0, 0), some (.ifCond .gt 7, 45, 0, 0, 0, 0), none, none, some (.iconst 1, 0, 0, 0, 1, 0), some (.goto 4, 46, 0, 0, 0, 0), none, none, some (.iconst 0, 0, 0, 0, 0, 0), some (.istore_n 1, 0, 0, 0, 0, 0), some (.iinc 2 1, 0, 0, 0, 1, 0), none, none, some (.goto (-33), 17, 0, 0, 0, 0), none, none, some (.iload_n 1, 0, 0, 0, 0, 0), some (.ireturn, 2, 0, 0, 0, 0)]
def tb_X2_write : List (Option XI) := [some (.aload_n 0, 0, 0, 0, 0, 0), some (.getfield 9, 2, 0, 2, 0, 0), none, none, some (.aload_n 0, 0, 0, 0, 0, 0), some (.getfield 24, 2, 4, 0, 0, 0), none, none, some (.invokestatic 44, 47, 2, 0, 0, 0), none, none, some (.istore_n 3, 0, 0, 0, 0, 0), some (.iload_n 3, 0, 0, 0, 0, 0), some (.aload_n 1, 0, 0, 0, 0, 0), some (.invokevirtual 97, 1, 1, 0, 0, 0), none, none, some (.iadd, 0, 0, 0, 0, 0), some (.istore 4, 0, 0, 0, 0, 0), none, some (.aload_n 0, 0, 0, 0, 0, 0), some (.aload_n 0, 0, 0, 0, 0, 0), some (.getfield 9, 2, 0, 2, 0, 0), none, none, some (.aload_n 0, 0, 0, 0, 0, 0), some (.getfield 24, 2, 4, 0, 0, 0), none, none, some (.iconst 2, 0, 0, 0, 2, 0), some (.iadd, 0, 0, 0, 0, 0), some (.invokestatic 170, 51, 2, 0, 0, 0), none, none, some (.putfield 9, 2, 0, 2, 0, 0), none, none, some (.aload_n 0, 0, 0, 0, 0, 0), some (.aload_n 0, 0, 0, 0, 0, 0), some (.getfield 15, 2, 1, 2, 0, 0), none, none, some (.aload_n 0, 0, 0, 0, 0, 0), some (.getfield 24, 2, 4, 0, 0, 0), none, none, some (.iconst 1, 0, 0, 0, 1, 0), some (.iadd, 0, 0, 0, 0, 0), some (.invokestatic 170, 51, 2, 0, 0, 0), none, none, some (.putfield 15, 2, 1, 2, 0, 0), none, none, some (.aload_n 0, 0, 0, 0, 0, 0), some (.aload_n 0, 0, 0, 0, 0, 0), some (.getfield 18, 2, 2, 2, 0, 0), none, none, some (.iload 4, 0, 0, 0, 0, 0), none, some (.invokestatic 170, 51, 2, 0, 0, 0), none, none, some (.putfield 18, 2, 2, 2, 0, 0), none, none, some (.aload_n 0, 0, 0, 0, 0, 0), some (.aload_n 0, 0, 0, 0, 0, 0), some (.getfield 21, 2, 3, 2, 0, 0), none, none, some (.iload 4, 0, 0, 0, 0, 0), none, some (.invokestatic 170, 51, 2, 0, 0, 0), none, none, some (.putfield 21, 2, 3, 2, 0, 0), none, none, some (.iconst 0, 0, 0, 0, 0, 0), some (.istore 5, 0, 0, 0, 0, 0), none, some (.iload 5, 0, 0, 0, 0, 0), none, some (.aload_n 1, 0, 0, 0, 0, 0), some (.invokevirtual 97, 1, 1, 0, 0, 0), none, none, some (.if_icmp .ge 44, 133, 0, 0, 0, 0), none, none, some (.aload_n 0, 0, 0, 0, 0, 0), some (.getfield 18, 2, 2, 2, 0, 0), none, none, some (.iload_n 3, 0, 0, 0, 0, 0), some (.iload 5, 0, 0, 0, 0, 0), none, some (.iadd, 0, 0, 0, 0, 0), some (.aload_n 1, 0, 0, 0, 0, 0), some (.iload 5, 0, 0, 0, 0, 0), none, some (.invokevirtual 164, 2, 2, 0, 0, 0), none, none, some (.l2i, 0, 0, 0, 0, 0), some (.invokestatic 86, 49, 3, 0, 0, 0), none, none, some (.aload_n 0, 0, 0, 0, 0, 0), some (.getfield 21, 2, 3, 2, 0, 0), none, none, some (.iload_n 3, 0, 0, 0, 0, 0), some (.iload 5, 0, 0, 0, 0, 0), none, some (.iadd, 0, 0, 0, 0, 0), some (.aload_n 1, 0, 0, 0, 0, 0), some (.iload 5, 0, 0, 0, 0, 0), none, some (.invokevirtual 100, 3, 2, 0, 0, 0), none, none, some (.invokestatic 86, 49, 3, 0, 0, 0), none, none, some (.iinc 5 1, 0, 0, 0, 1, 0), none, none, some (.goto (-47), 83, 0, 0, 0, 0), none, none, some (.aload_n 0, 0, 0, 0, 0, 0), some (.getfield 15, 2, 1, 2, 0, 0), none, none, some (.aload_n 0, 0, 0, 0, 0, 0), some (.getfield 24, 2, 4, 0, 0, 0), none, none, some (.iload_n 2, 0, 0, 0, 0, 0), some (.invokestatic 86, 49, 3, 0, 0, 0), none, none, some (.aload_n 0, 0, 0, 0, 0, 0), some (.getfield 9, 2, 0, 2, 0, 0), none, none, some (.aload_n 0, 0, 0, 0, 0, 0), some (.getfield 24, 2, 4, 0, 0, 0), none, none, some (.iconst 1, 0, 0, 0, 1, 0), some (.iadd, 0, 0, 0, 0, 0), some (.iload 4, 0, 0, 0, 0, 0), none, some (.invokestatic 86, 49, 3, 0, 0, 0), none, none, some (.aload_n 0, 0, 0, 0, 0, 0), some (.dup, 0, 0, 0, 0, 0), some (.getfield 24, 2, 4, 0, 0, 0), none, none, some (.iconst 1, 0, 0, 0, 1, 0), some (.iadd, 0, 0, 0, 0, 0), some (.putfield 24, 2, 4, 0, 0, 0), none, none, some (.return_, 0, 0, 0, 0, 0)]
def tb_X3_at : List (Option XI) := [some (.iload_n 1, 0, 0, 0, 0, 0), some (.ifCond .lt 15, 16, 0, 0, 0, 0), none, none, some (.iload_n 1, 0, 0, 0, 0, 0), some (.aload_n 0, 0, 0, 0, 0, 0), some (.arraylength, 0, 0, 0, 0, 0), some (.if_icmp .ge 9, 16, 0, 0, 0, 0), none, none, some (.aload_n 0, 0, 0, 0, 0, 0), some (.iload_n 1, 0, 0, 0, 0, 0), some (.iaload, 0, 0, 0, 0, 0), some (.goto 4, 17, 0, 0, 0, 0), none, none, some (.iconst 0, 0, 0, 0, 0, 0), some (.ireturn, 1, 0, 0, 0, 0)]
def tb_X3_at_ : List (Option XI) := [some (.iload_n 1, 0, 0, 0, 0, 0), some (.ifCond .lt 15, 16, 0, 0, 0, 0), none, none, some (.iload_n 1, 0, 0, 0, 0, 0), some (.aload_n 0, 0, 0, 0, 0, 0), some (.arraylength, 0, 0, 0, 0, 0), some (.if_icmp .ge 9, 16, 0, 0, 0, 0), none, none, some (.aload_n 0, 0, 0, 0, 0, 0), some (.iload_n 1, 0, 0, 0, 0, 0), some (.laload, 0, 0, 0, 0, 0), some (.goto 4, 17, 0, 0, 0, 0), none, none, some (.lconst 0, 0, 0, 0, 0, 0), some (.lreturn, 0, 0, 0, 0, 0)]
def tb_X3_put : List (Option XI) := [some (.iload_n 1, 0, 0, 0, 0, 0), some (.ifCond .lt 13, 14, 0, 0, 0, 0), none, none, some (.iload_n 1, 0, 0, 0, 0, 0), some (.aload_n 0, 0, 0, 0, 0, 0), some (.arraylength, 0, 0, 0, 0, 0), some (.if_icmp .ge 7, 14, 0, 0, 0, 0), none, none, some (.aload_n 0, 0, 0, 0, 0, 0), some (.iload_n 1, 0, 0, 0, 0, 0), some (.iload_n 2, 0, 0, 0, 0, 0), some (.iastore, 0, 0, 0, 0, 0), some (.return_, 0, 0, 0, 0, 0)]
def tb_X3_put_ : List (Option XI) := [some (.iload_n 1, 0, 0, 0, 0, 0), some (.ifCond .lt 13, 14, 0, 0, 0, 0), none, none, some (.iload_n 1, 0, 0, 0, 0, 0), some (.aload_n 0, 0, 0, 0, 0, 0), some (.arraylength, 0, 0, 0, 0, 0), some (.if_icmp .ge 7, 14, 0, 0, 0, 0), none, none, some (.aload_n 0, 0, 0, 0, 0, 0), some (.iload_n 1, 0, 0, 0, 0, 0), some (.lload_n 2, 0, 0, 0, 0, 0), some (.lastore, 0, 0, 0, 0, 0), some (.return_, 0, 0, 0, 0, 0)]
def tb_X3_withRoom : List (Option XI) := [some (.iload_n 1, 0, 0, 0, 0, 0), some (.aload_n 0, 0, 0, 0, 0, 0), some (.arraylength, 0, 0, 0, 0, 0), some (.if_icmp .le 9, 12, 0, 0, 0, 0), none, none, some (.iload_n 1, 0, 0, 0, 0, 0), some (.ldc 9, 0, 0, 0, 1048576, 0), none, some (.if_icmp .le 7, 16, 0, 0, 0, 0), none, none, some (.aload_n 0, 0, 0, 0, 0, 0), some (.goto 10, 23, 0, 0, 0, 0), none, none, some (.aload_n 0, 0, 0, 0, 0, 0), some (.iconst 2, 0, 0, 0, 2, 0), some (.iload_n 1, 0, 0, 0, 0, 0), some (.imul, 0, 0, 0, 0, 0), some (.invokestatic 10, 198, 2, 0, 0, 0), none, none, some (.areturn, 0, 0, 0, 0, 0)]
def tb_X4_init : List (Option XI) := [some (.aload_n 0, 0, 0, 0, 0, 0), some (.invokespecial 1, 0, 1, 5, 0, 0), none, none, some (.aload_n 0, 0, 0, 0, 0, 0), some (.new 7, 1, 3, 0, 0, 0), none, none, some (.dup, 0, 0, 0, 0, 0), some (.sipush 400, 0, 0, 0, 400, 0), none, none, some (.invokespecial 9, 8, 2, 0, 0, 0), none, none, some (.putfield 12, 3, 0, 2, 0, 0), none, none, some (.aload_n 0, 0, 0, 0, 0, 0), some (.new 7, 1, 3, 0, 0, 0), none, none, some (.dup, 0, 0, 0, 0, 0), some (.sipush 400, 0, 0, 0, 400, 0), none, none, some (.invokespecial 9, 8, 2, 0, 0, 0), none, none, some (.putfield 18, 3, 1, 2, 0, 0), none, none, some (.aload_n 0, 0, 0, 0, 0, 0), some (.new 7, 1, 3, 0, 0, 0), none, none, some (.dup, 0, 0, 0, 0, 0), some (.bipush 20, 0, 0, 0, 20, 0), none, some (.invokespecial 9, 8, 2, 0, 0, 0), none, none, some (.putfield 21, 3, 2, 2, 0, 0), none, none, some (.return_, 0, 0, 0, 0, 0)]
def tb_X4_growth : List (Option XI) := [some (.aload_n 0, 0, 0, 0, 0, 0), some (.getfield 12, 3, 0, 2, 0, 0), none, none, some (.areturn, 0, 0, 0, 0, 0)]
def tb_X4_restart : List (Option XI) := [some (.aload_n 0, 0, 0, 0, 0, 0), some (.getfield 12, 3, 0, 2, 0, 0), none, none, some (.invokevirtual 24, 14, 1, 1, 0, 0), none, none, some (.return_, 0, 0, 0, 0, 0)]
def tb_X4_addPart : List (Option XI) := [some (.aload_n 0, 0, 0, 0, 0, 0), some (.getfield 21, 3, 2, 2, 0, 0), none, none, some (.invokevirtual 24, 14, 1, 1, 0, 0), none, none, some (.aload_n 0, 0, 0, 0, 0, 0), some (.getfield 21, 3, 2, 2, 0, 0), none, none, some (.lload_n 1, 0, 0, 0, 0, 0), some (.lload_n 3, 0, 0, 0, 0, 0), some (.invokevirtual 27, 15, 3, 1, 0, 0), none, none, some (.aload_n 0, 0, 0, 0, 0, 0), some (.invokevirtual 31, 58, 1, 3, 0, 0), none, none, some (.return_, 0, 0, 0, 0, 0)]
def tb_X4_addMultiple : List (Option XI) := [some (.aload_n 0, 0, 0, 0, 0, 0), some (.getfield 21, 3, 2, 2, 0, 0), none, none, some (.invokevirtual 24, 14, 1, 1, 0, 0), none, none, some (.iconst 0, 0, 0, 0, 0, 0), some (.istore 6, 0, 0, 0, 0, 0), none, some (.iload 6, 0, 0, 0, 0, 0), none, some (.aload_n 1, 0, 0, 0, 0, 0), some (.invokevirtual 34, 11, 1, 1, 0, 0), none, none, some (.if_icmp .ge 37, 53, 0, 0, 0, 0), none, none, some (.aload_n 0, 0, 0, 0, 0, 0), some (.getfield 21, 3, 2, 2, 0, 0), none, none, some (.aload_n 1, 0, 0, 0, 0, 0), some (.iload 6, 0, 0, 0, 0, 0), none, some (.invokevirtual 38, 12, 2, 1, 0, 0), none, none, some (.lload_n 2, 0, 0, 0, 0, 0), some (.lmul, 0, 0, 0, 0, 0), some (.aload_n 1, 0, 0, 0, 0, 0), some (.iload 6, 0, 0, 0, 0, 0), none, some (.invokevirtual 42, 13, 2, 1, 0, 0), none, none, some (.lload 4, 0, 0, 0, 0, 0), none, some (.ladd, 0, 0, 0, 0, 0), some (.ldc2_w 45, 0, 0, 0, 0, 550293209600), none, none, some (.lsub, 0, 0, 0, 0, 0), some (.invokevirtual 27, 15, 3, 1, 0, 0), none, none, some (.iinc 6 1, 0, 0, 0, 1, 0), none, none, some (.goto (-40), 10, 0, 0, 0, 0), none, none, some (.aload_n 0, 0, 0, 0, 0, 0), some (.invokevirtual 31, 58, 1, 3, 0, 0), none, none, some (.return_, 0, 0, 0, 0, 0)]
def tb_X4_addSlopes : List (Option XI) := [some (.iconst 0, 0, 0, 0, 0, 0), some (.iload_n 2, 0, 0, 0, 0, 0), some (.iconst 2, 0, 0, 0, 2, 0), some (.if_icmp .lt 7, 10, 0, 0, 0, 0), none, none, some (.iconst (-1), 0, 0, 0, (-1), 0), some (.goto 4, 11, 0, 0, 0, 0), none, none, some (.iconst 0, 0, 0, 0, 0, 0), some (.iload_n 2, 0, 0, 0, 0, 0), some (.iconst 3, 0, 0, 0, 3, 0), some (.if_icmp .lt 7, 20, 0, 0, 0, 0), none, none, some (.iconst (-1), 0, 0, 0, (-1), 0), some (.goto 4, 21, 0, 0, 0, 0), none, none, some (.iconst 0, 0, 0, 0, 0, 0), some (.iload_n 2, 0, 0, 0, 0, 0), some (.iconst 4, 0, 0, 0, 4, 0), some (.if_icmp .lt 7, 30, 0, 0, 0, 0), none, none, some (.iconst (-1), 0, 0, 0, (-1), 0), some (.goto 4, 31, 0, 0, 0, 0), none, none, some (.iconst 0, 0, 0, 0, 0, 0), some (.invokestatic 47, 9, 4, 0, 0, 0), none, none, some (.lstore_n 3, 0, 0, 0, 0, 0), some (.aload_n 0, 0, 0, 0, 0, 0), some (.getfield 21, 3, 2, 2, 0, 0), none, none, some (.invokevirtual 24, 14, 1, 1, 0, 0), none, none, some (.iconst 0, 0, 0, 0, 0, 0), some (.istore 5, 0, 0, 0, 0, 0), none, some (.iload 5, 0, 0, 0, 0, 0), none, some (.aload_n 1, 0, 0, 0, 0, 0), some (.invokevirtual 34, 11, 1, 1, 0, 0), none, none, some (.if_icmp .ge 46, 97, 0, 0, 0, 0), none, none, some (.aload_n 1, 0, 0, 0, 0, 0), some (.iload 5, 0, 0, 0, 0, 0), none, some (.invokevirtual 42, 13, 2, 1, 0, 0), none, none, some (.lstore 6, 0, 0, 0, 0, 0), none, some (.aload_n 0, 0, 0, 0, 0, 0), some (.getfield 21, 3, 2, 2, 0, 0), none, none, some (.aload_n 1, 0, 0, 0, 0, 0), some (.iload 5, 0, 0, 0, 0, 0), none, some (.invokevirtual 38, 12, 2, 1, 0, 0), none, none, some (.lload 6, 0, 0, 0, 0, 0), none, some (.iload_n 2, 0, 0, 0, 0, 0), some (.invokestatic 51, 10, 2, 0, 0, 0), none, none, some (.i2l, 0, 0, 0, 0, 0), some (.lmul, 0, 0, 0, 0, 0), some (.lload 6, 0, 0, 0, 0, 0), none, some (.lload_n 3, 0, 0, 0, 0, 0), some (.ladd, 0, 0, 0, 0, 0), some (.ldc2_w 45, 0, 0, 0, 0, 550293209600), none, none, some (.lsub, 0, 0, 0, 0, 0), some (.invokevirtual 27, 15, 3, 1, 0, 0), none, none, some (.iinc 5 1, 0, 0, 0, 1, 0), none, none, some (.goto (-49), 45, 0, 0, 0, 0), none, none, some (.aload_n 0, 0, 0, 0, 0, 0), some (.invokevirtual 31, 58, 1, 3, 0, 0), none, none, some (.return_, 0, 0, 0, 0, 0)]
def tb_X4_addRow : List (Option XI) := [some (.aload_n 0, 0, 0, 0, 0, 0), some (.getfield 18, 3, 1, 2, 0, 0), none, none, some (.invokevirtual 24, 14, 1, 1, 0, 0), none, none, some (.iconst 0, 0, 0, 0, 0, 0), some (.istore_n 1, 0, 0, 0, 0, 0), some (.iconst 0, 0, 0, 0, 0, 0), some (.istore_n 2, 0, 0, 0, 0, 0), some (.iload_n 2, 0, 0, 0, 0, 0), some (.aload_n 0, 0, 0, 0, 0, 0), some (.getfield 21, 3, 2, 2, 0, 0), none, none, some (.invokevirtual 34, 11, 1, 1, 0, 0), none, none, some (.if_icmp .ge 131, 150, 0, 0, 0, 0), none, none, some (.aload_n 0, 0, 0, 0, 0, 0), some (.getfield 21, 3, 2, 2, 0, 0), none, none, some (.iload_n 2, 0, 0, 0, 0, 0), some (.invokevirtual 42, 13, 2, 1, 0, 0), none, none, some (.lstore_n 3, 0, 0, 0, 0, 0), some (.aload_n 0, 0, 0, 0, 0, 0), some (.getfield 21, 3, 2, 2, 0, 0), none, none, some (.iload_n 2, 0, 0, 0, 0, 0), some (.invokevirtual 38, 12, 2, 1, 0, 0), none, none, some (.lstore 5, 0, 0, 0, 0, 0), none, some (.iload_n 1, 0, 0, 0, 0, 0), some (.aload_n 0, 0, 0, 0, 0, 0), some (.getfield 12, 3, 0, 2, 0, 0), none, none, some (.invokevirtual 34, 11, 1, 1, 0, 0), none, none, some (.if_icmp .ge 45, 94, 0, 0, 0, 0), none, none, some (.aload_n 0, 0, 0, 0, 0, 0), some (.getfield 12, 3, 0, 2, 0, 0), none, none, some (.iload_n 1, 0, 0, 0, 0, 0), some (.invokevirtual 42, 13, 2, 1, 0, 0), none, none, some (.lload_n 3, 0, 0, 0, 0, 0), some (.lcmp, 0, 0, 0, 0, 0), some (.ifCond .le 32, 94, 0, 0, 0, 0), none, none, some (.aload_n 0, 0, 0, 0, 0, 0), some (.getfield 18, 3, 1, 2, 0, 0), none, none, some (.aload_n 0, 0, 0, 0, 0, 0), some (.getfield 12, 3, 0, 2, 0, 0), none, none, some (.iload_n 1, 0, 0, 0, 0, 0), some (.invokevirtual 38, 12, 2, 1, 0, 0), none, none, some (.aload_n 0, 0, 0, 0, 0, 0), some (.getfield 12, 3, 0, 2, 0, 0), none, none, some (.iload_n 1, 0, 0, 0, 0, 0), some (.invokevirtual 42, 13, 2, 1, 0, 0), none, none, some (.invokevirtual 27, 15, 3, 1, 0, 0), none, none, some (.iinc 1 1, 0, 0, 0, 1, 0), none, none, some (.goto (-50), 41, 0, 0, 0, 0), none, none, some (.iload_n 1, 0, 0, 0, 0, 0), some (.aload_n 0, 0, 0, 0, 0, 0), some (.getfield 12, 3, 0, 2, 0, 0), none, none, some (.invokevirtual 34, 11, 1, 1, 0, 0), none, none, some (.if_icmp .ge 32, 134, 0, 0, 0, 0), none, none, some (.aload_n 0, 0, 0, 0, 0, 0), some (.getfield 12, 3, 0, 2, 0, 0), none, none, some (.iload_n 1, 0, 0, 0, 0, 0), some (.invokevirtual 42, 13, 2, 1, 0, 0), none, none, some (.lload_n 3, 0, 0, 0, 0, 0), some (.lcmp, 0, 0, 0, 0, 0), some (.ifCond .ne 19, 134, 0, 0, 0, 0), none, none, some (.lload 5, 0, 0, 0, 0, 0), none, some (.aload_n 0, 0, 0, 0, 0, 0), some (.getfield 12, 3, 0, 2, 0, 0), none, none, some (.iload_n 1, 0, 0, 0, 0, 0), some (.invokevirtual 38, 12, 2, 1, 0, 0), none, none, some (.ladd, 0, 0, 0, 0, 0), some (.lstore 5, 0, 0, 0, 0, 0), none, some (.iinc 1 1, 0, 0, 0, 1, 0), none, none, some (.aload_n 0, 0, 0, 0, 0, 0), some (.getfield 18, 3, 1, 2, 0, 0), none, none, some (.lload 5, 0, 0, 0, 0, 0), none, some (.lload_n 3, 0, 0, 0, 0, 0), some (.invokevirtual 27, 15, 3, 1, 0, 0), none, none, some (.iinc 2 1, 0, 0, 0, 1, 0), none, none, some (.goto (-136), 11, 0, 0, 0, 0), none, none, some (.iload_n 1, 0, 0, 0, 0, 0), some (.aload_n 0, 0, 0, 0, 0, 0), some (.getfield 12, 3, 0, 2, 0, 0), none, none, some (.invokevirtual 34, 11, 1, 1, 0, 0), none, none, some (.if_icmp .ge 32, 190, 0, 0, 0, 0), none, none, some (.aload_n 0, 0, 0, 0, 0, 0), some (.getfield 18, 3, 1, 2, 0, 0), none, none, some (.aload_n 0, 0, 0, 0, 0, 0), some (.getfield 12, 3, 0, 2, 0, 0), none, none, some (.iload_n 1, 0, 0, 0, 0, 0), some (.invokevirtual 38, 12, 2, 1, 0, 0), none, none, some (.aload_n 0, 0, 0, 0, 0, 0), some (.getfield 12, 3, 0, 2, 0, 0), none, none, some (.iload_n 1, 0, 0, 0, 0, 0), some (.invokevirtual 42, 13, 2, 1, 0, 0), none, none, some (.invokevirtual 27, 15, 3, 1, 0, 0), none, none, some (.iinc 1 1, 0, 0, 0, 1, 0), none, none, some (.goto (-37), 150, 0, 0, 0, 0), none, none, some (.aload_n 0, 0, 0, 0, 0, 0), some (.getfield 12, 3, 0, 2, 0, 0), none, none, some (.astore_n 2, 0, 0, 0, 0, 0), some (.aload_n 0, 0, 0, 0, 0, 0), some (.aload_n 0, 0, 0, 0, 0, 0), some (.getfield 18, 3, 1, 2, 0, 0), none, none, some (.putfield 12, 3, 0, 2, 0, 0), none, none, some (.aload_n 0, 0, 0, 0, 0, 0), some (.aload_n 2, 0, 0, 0, 0, 0), some (.putfield 18, 3, 1, 2, 0, 0), none, none, some (.return_, 0, 0, 0, 0, 0)]
def tb_X5_init : List (Option XI) := [some (.aload_n 0, 0, 0, 0, 0, 0), some (.invokespecial 3, 0, 1, 5, 0, 0), none, none, some (.return_, 0, 0, 0, 0, 0)]
def tb_X5_value : List (Option XI) := [some (.aload_n 0, 0, 0, 0, 0, 0), some (.getfield 9, 4, 0, 1, 0, 0), none, none, some (.lreturn, 0, 0, 0, 0, 0)]
def tb_X5_length : List (Option XI) := [some (.aload_n 0, 0, 0, 0, 0, 0), some (.getfield 15, 4, 3, 0, 0, 0), none, none, some (.ireturn, 1, 0, 0, 0, 0)]
def tb_X5_restart : List (Option XI) := [some (.aload_n 0, 0, 0, 0, 0, 0), some (.lconst 0, 0, 0, 0, 0, 0), some (.putfield 9, 4, 0, 1, 0, 0), none, none, some (.aload_n 0, 0, 0, 0, 0, 0), some (.ldc2_w 19, 0, 0, 0, 0, (-1099511627776)), none, none, some (.putfield 21, 4, 1, 1, 0, 0), none, none, some (.aload_n 0, 0, 0, 0, 0, 0), some (.ldc2_w 24, 0, 0, 0, 0, 1099511627776), none, none, some (.putfield 26, 4, 2, 1, 0, 0), none, none, some (.aload_n 0, 0, 0, 0, 0, 0), some (.iconst 0, 0, 0, 0, 0, 0), some (.putfield 15, 4, 3, 0, 0, 0), none, none, some (.return_, 0, 0, 0, 0, 0)]
def tb_X5_along : List (Option XI) := [some (.aload_n 0, 0, 0, 0, 0, 0), some (.invokevirtual 29, 62, 1, 4, 0, 0), none, none, some (.iconst 0, 0, 0, 0, 0, 0), some (.istore_n 3, 0, 0, 0, 0, 0), some (.iload_n 3, 0, 0, 0, 0, 0), some (.iload_n 2, 0, 0, 0, 0, 0), some (.if_icmp .ge 27, 35, 0, 0, 0, 0), none, none, some (.aload_n 0, 0, 0, 0, 0, 0), some (.iload_n 1, 0, 0, 0, 0, 0), some (.iload_n 3, 0, 0, 0, 0, 0), some (.ishr, 0, 0, 0, 0, 0), some (.iconst 1, 0, 0, 0, 1, 0), some (.iand, 0, 0, 0, 0, 0), some (.ifCond .eq 7, 24, 0, 0, 0, 0), none, none, some (.iconst 1, 0, 0, 0, 1, 0), some (.goto 4, 25, 0, 0, 0, 0), none, none, some (.iconst 0, 0, 0, 0, 0, 0), some (.invokevirtual 32, 66, 2, 4, 0, 0), none, none, some (.pop, 0, 0, 0, 0, 0), some (.iinc 3 1, 0, 0, 0, 1, 0), none, none, some (.goto (-26), 6, 0, 0, 0, 0), none, none, some (.return_, 0, 0, 0, 0, 0)]
def tb_X5_toward : List (Option XI) := [some (.aload_n 0, 0, 0, 0, 0, 0), some (.invokevirtual 29, 62, 1, 4, 0, 0), none, none, some (.iload_n 3, 0, 0, 0, 0, 0), some (.sipush 300, 0, 0, 0, 300, 0), none, none, some (.invokestatic 36, 0, 2, 2, 0, 0), none, none, some (.istore 4, 0, 0, 0, 0, 0), none, some (.iconst 0, 0, 0, 0, 0, 0), some (.istore 5, 0, 0, 0, 0, 0), none, some (.iload 5, 0, 0, 0, 0, 0), none, some (.iload 4, 0, 0, 0, 0, 0), none, some (.if_icmp .ge 37, 57, 0, 0, 0, 0), none, none, some (.aload_n 0, 0, 0, 0, 0, 0), some (.getfield 9, 4, 0, 1, 0, 0), none, none, some (.lload_n 1, 0, 0, 0, 0, 0), some (.lcmp, 0, 0, 0, 0, 0), some (.ifCond .eq 28, 57, 0, 0, 0, 0), none, none, some (.aload_n 0, 0, 0, 0, 0, 0), some (.lload_n 1, 0, 0, 0, 0, 0), some (.aload_n 0, 0, 0, 0, 0, 0), some (.getfield 9, 4, 0, 1, 0, 0), none, none, some (.lcmp, 0, 0, 0, 0, 0), some (.ifCond .le 7, 46, 0, 0, 0, 0), none, none, some (.iconst 1, 0, 0, 0, 1, 0), some (.goto 4, 47, 0, 0, 0, 0), none, none, some (.iconst 0, 0, 0, 0, 0, 0), some (.invokevirtual 32, 66, 2, 4, 0, 0), none, none, some (.pop, 0, 0, 0, 0, 0), some (.iinc 5 1, 0, 0, 0, 1, 0), none, none, some (.goto (-38), 16, 0, 0, 0, 0), none, none, some (.return_, 0, 0, 0, 0, 0)]
def tb_X5_between : List (Option XI) := [some (.aload_n 0, 0, 0, 0, 0, 0), some (.invokevirtual 29, 62, 1, 4, 0, 0), none, none, some (.iconst 1, 0, 0, 0, 1, 0), some (.istore 5, 0, 0, 0, 0, 0), none, some (.iconst 0, 0, 0, 0, 0, 0), some (.istore 6, 0, 0, 0, 0, 0), none, some (.iload 6, 0, 0, 0, 0, 0), none, some (.sipush 300, 0, 0, 0, 300, 0), none, none, some (.if_icmp .ge 52, 67, 0, 0, 0, 0), none, none, some (.iload 5, 0, 0, 0, 0, 0), none, some (.ifCond .eq 47, 67, 0, 0, 0, 0), none, none, some (.aload_n 0, 0, 0, 0, 0, 0), some (.getfield 9, 4, 0, 1, 0, 0), none, none, some (.lload_n 1, 0, 0, 0, 0, 0), some (.lcmp, 0, 0, 0, 0, 0), some (.ifCond .le 12, 41, 0, 0, 0, 0), none, none, some (.aload_n 0, 0, 0, 0, 0, 0), some (.getfield 9, 4, 0, 1, 0, 0), none, none, some (.lload_n 3, 0, 0, 0, 0, 0), some (.lcmp, 0, 0, 0, 0, 0), some (.ifCond .lt 29, 67, 0, 0, 0, 0), none, none, some (.aload_n 0, 0, 0, 0, 0, 0), some (.aload_n 0, 0, 0, 0, 0, 0), some (.getfield 9, 4, 0, 1, 0, 0), none, none, some (.lload_n 1, 0, 0, 0, 0, 0), some (.lcmp, 0, 0, 0, 0, 0), some (.ifCond .gt 7, 55, 0, 0, 0, 0), none, none, some (.iconst 1, 0, 0, 0, 1, 0), some (.goto 4, 56, 0, 0, 0, 0), none, none, some (.iconst 0, 0, 0, 0, 0, 0), some (.invokevirtual 32, 66, 2, 4, 0, 0), none, none, some (.istore 5, 0, 0, 0, 0, 0), none, some (.iinc 6 1, 0, 0, 0, 1, 0), none, none, some (.goto (-54), 10, 0, 0, 0, 0), none, none, some (.iload 5, 0, 0, 0, 0, 0), none, some (.ireturn, 2, 0, 0, 0, 0)]
def tb_X5_goes : List (Option XI) := [some (.iload_n 1, 0, 0, 0, 0, 0), some (.ifCond .eq 10, 11, 0, 0, 0, 0), none, none, some (.aload_n 0, 0, 0, 0, 0, 0), some (.getfield 26, 4, 2, 1, 0, 0), none, none, some (.goto 7, 15, 0, 0, 0, 0), none, none, some (.aload_n 0, 0, 0, 0, 0, 0), some (.getfield 21, 4, 1, 1, 0, 0), none, none, some (.lstore_n 2, 0, 0, 0, 0, 0), some (.lload_n 2, 0, 0, 0, 0, 0), some (.ldc2_w 24, 0, 0, 0, 0, 1099511627776), none, none, some (.lcmp, 0, 0, 0, 0, 0), some (.ifCond .eq 11, 32, 0, 0, 0, 0), none, none, some (.lload_n 2, 0, 0, 0, 0, 0), some (.ldc2_w 19, 0, 0, 0, 0, (-1099511627776)), none, none, some (.lcmp, 0, 0, 0, 0, 0), some (.ifCond .ne 7, 36, 0, 0, 0, 0), none, none, some (.iconst 1, 0, 0, 0, 1, 0), some (.goto 4, 37, 0, 0, 0, 0), none, none, some (.iconst 0, 0, 0, 0, 0, 0), some (.istore 4, 0, 0, 0, 0, 0), none, some (.lload_n 2, 0, 0, 0, 0, 0), some (.aload_n 0, 0, 0, 0, 0, 0), some (.getfield 9, 4, 0, 1, 0, 0), none, none, some (.lsub, 0, 0, 0, 0, 0), some (.lstore 5, 0, 0, 0, 0, 0), none, some (.iload 4, 0, 0, 0, 0, 0), none, some (.ifCond .ne 14, 63, 0, 0, 0, 0), none, none, some (.lload 5, 0, 0, 0, 0, 0), none, some (.lconst 1, 0, 0, 0, 0, 1), some (.land, 0, 0, 0, 0, 0), some (.lconst 0, 0, 0, 0, 0, 0), some (.lcmp, 0, 0, 0, 0, 0), some (.ifCond .eq 5, 63, 0, 0, 0, 0), none, none, some (.iconst 0, 0, 0, 0, 0, 0), some (.ireturn, 2, 0, 0, 0, 0), some (.aload_n 0, 0, 0, 0, 0, 0), some (.getfield 9, 4, 0, 1, 0, 0), none, none, some (.lstore 7, 0, 0, 0, 0, 0), none, some (.iload 4, 0, 0, 0, 0, 0), none, some (.ifCond .eq 28, 99, 0, 0, 0, 0), none, none, some (.aload_n 0, 0, 0, 0, 0, 0), some (.dup, 0, 0, 0, 0, 0), some (.getfield 9, 4, 0, 1, 0, 0), none, none, some (.iload_n 1, 0, 0, 0, 0, 0), some (.ifCond .eq 9, 89, 0, 0, 0, 0), none, none, some (.ldc2_w 42, 0, 0, 0, 0, 1048576), none, none, some (.goto 6, 92, 0, 0, 0, 0), none, none, some (.ldc2_w 44, 0, 0, 0, 0, (-1048576)), none, none, some (.ladd, 0, 0, 0, 0, 0), some (.putfield 9, 4, 0, 1, 0, 0), none, none, some (.goto 18, 114, 0, 0, 0, 0), none, none, some (.aload_n 0, 0, 0, 0, 0, 0), some (.dup, 0, 0, 0, 0, 0), some (.getfield 9, 4, 0, 1, 0, 0), none, none, some (.lload 5, 0, 0, 0, 0, 0), none, some (.ldc2_w 46, 0, 0, 0, 0, 2), none, none, some (.ldiv, 0, 0, 0, 0, 0), some (.ladd, 0, 0, 0, 0, 0), some (.putfield 9, 4, 0, 1, 0, 0), none, none, some (.aload_n 0, 0, 0, 0, 0, 0), some (.iload_n 1, 0, 0, 0, 0, 0), some (.ifCond .eq 8, 124, 0, 0, 0, 0), none, none, some (.lload 7, 0, 0, 0, 0, 0), none, some (.goto 7, 128, 0, 0, 0, 0), none, none, some (.aload_n 0, 0, 0, 0, 0, 0), some (.getfield 21, 4, 1, 1, 0, 0), none, none, some (.putfield 21, 4, 1, 1, 0, 0), none, none, some (.aload_n 0, 0, 0, 0, 0, 0), some (.iload_n 1, 0, 0, 0, 0, 0), some (.ifCond .eq 10, 143, 0, 0, 0, 0), none, none, some (.aload_n 0, 0, 0, 0, 0, 0), some (.getfield 26, 4, 2, 1, 0, 0), none, none, some (.goto 5, 145, 0, 0, 0, 0), none, none, some (.lload 7, 0, 0, 0, 0, 0), none, some (.putfield 26, 4, 2, 1, 0, 0), none, none, some (.aload_n 0, 0, 0, 0, 0, 0), some (.dup, 0, 0, 0, 0, 0), some (.getfield 15, 4, 3, 0, 0, 0), none, none, some (.iconst 1, 0, 0, 0, 1, 0), some (.iadd, 0, 0, 0, 0, 0), some (.putfield 15, 4, 3, 0, 0, 0), none, none, some (.iconst 1, 0, 0, 0, 1, 0), some (.ireturn, 2, 0, 0, 0, 0)]
def tb_X6_init : List (Option XI) := [some (.aload_n 0, 0, 0, 0, 0, 0), some (.invokespecial 3, 0, 1, 5, 0, 0), none, none, some (.aload_n 0, 0, 0, 0, 0, 0), some (.bipush 16, 0, 0, 0, 16, 0), none, some (.newarray .int, 1, 0, 0, 0, 0), none, some (.putfield 9, 5, 0, 2, 0, 0), none, none, some (.aload_n 0, 0, 0, 0, 0, 0), some (.bipush 16, 0, 0, 0, 16, 0), none, some (.newarray .int, 1, 0, 0, 0, 0), none, some (.putfield 13, 5, 1, 2, 0, 0), none, none, some (.aload_n 0, 0, 0, 0, 0, 0), some (.bipush 16, 0, 0, 0, 16, 0), none, some (.newarray .long, 2, 0, 0, 0, 0), none, some (.putfield 16, 5, 2, 2, 0, 0), none, none, some (.aload_n 0, 0, 0, 0, 0, 0), some (.bipush 16, 0, 0, 0, 16, 0), none, some (.anewarray 20, 0, 0, 0, 0, 0), none, none, some (.putfield 22, 5, 3, 2, 0, 0), none, none, some (.aload_n 0, 0, 0, 0, 0, 0), some (.new 26, 2, 9, 0, 0, 0), none, none, some (.dup, 0, 0, 0, 0, 0), some (.invokespecial 28, 21, 1, 3, 0, 0), none, none, some (.putfield 29, 5, 4, 2, 0, 0), none, none, some (.aload_n 0, 0, 0, 0, 0, 0), some (.new 33, 4, 4, 0, 0, 0), none, none, some (.dup, 0, 0, 0, 0, 0), some (.invokespecial 35, 59, 1, 3, 0, 0), none, none, some (.putfield 36, 5, 5, 2, 0, 0), none, none, some (.aload_n 0, 0, 0, 0, 0, 0), some (.new 40, 3, 3, 0, 0, 0), none, none, some (.dup, 0, 0, 0, 0, 0), some (.invokespecial 42, 52, 1, 3, 0, 0), none, none, some (.putfield 43, 5, 6, 2, 0, 0), none, none, some (.iconst 0, 0, 0, 0, 0, 0), some (.istore_n 1, 0, 0, 0, 0, 0), some (.iload_n 1, 0, 0, 0, 0, 0), some (.aload_n 0, 0, 0, 0, 0, 0), some (.getfield 22, 5, 3, 2, 0, 0), none, none, some (.arraylength, 0, 0, 0, 0, 0), some (.if_icmp .ge 24, 102, 0, 0, 0, 0), none, none, some (.aload_n 0, 0, 0, 0, 0, 0), some (.getfield 22, 5, 3, 2, 0, 0), none, none, some (.iload_n 1, 0, 0, 0, 0, 0), some (.new 20, 1, 3, 0, 0, 0), none, none, some (.dup, 0, 0, 0, 0, 0), some (.bipush 20, 0, 0, 0, 20, 0), none, some (.invokespecial 47, 8, 2, 0, 0, 0), none, none, some (.aastore, 0, 0, 0, 0, 0), some (.iinc 1 1, 0, 0, 0, 1, 0), none, none, some (.goto (-27), 72, 0, 0, 0, 0), none, none, some (.return_, 0, 0, 0, 0, 0)]
def tb_X6_kind : List (Option XI) := [some (.iload_n 1, 0, 0, 0, 0, 0), some (.invokestatic 50, 93, 1, 0, 0, 0), none, none, some (.aload_n 0, 0, 0, 0, 0, 0), some (.getfield 9, 5, 0, 2, 0, 0), none, none, some (.iload_n 1, 0, 0, 0, 0, 0), some (.invokestatic 53, 47, 2, 0, 0, 0), none, none, some (.ireturn, 1, 0, 0, 0, 0)]
def tb_X6_clear : List (Option XI) := [some (.iload_n 1, 0, 0, 0, 0, 0), some (.invokestatic 50, 93, 1, 0, 0, 0), none, none, some (.aload_n 0, 0, 0, 0, 0, 0), some (.getfield 9, 5, 0, 2, 0, 0), none, none, some (.iload_n 1, 0, 0, 0, 0, 0), some (.invokestatic 53, 47, 2, 0, 0, 0), none, none, some (.istore_n 2, 0, 0, 0, 0, 0), some (.aload_n 0, 0, 0, 0, 0, 0), some (.getfield 9, 5, 0, 2, 0, 0), none, none, some (.iload_n 1, 0, 0, 0, 0, 0), some (.iconst 0, 0, 0, 0, 0, 0), some (.invokestatic 59, 49, 3, 0, 0, 0), none, none, some (.iload_n 2, 0, 0, 0, 0, 0), some (.ireturn, 1, 0, 0, 0, 0)]
def tb_X6_finite : List (Option XI) := [some (.iload_n 1, 0, 0, 0, 0, 0), some (.invokestatic 50, 93, 1, 0, 0, 0), none, none, some (.iload_n 2, 0, 0, 0, 0, 0), some (.iconst 0, 0, 0, 0, 0, 0), some (.ldc 63, 0, 0, 0, 1000000, 0), none, some (.invokestatic 64, 96, 3, 0, 0, 0), none, none, some (.aload_n 0, 0, 0, 0, 0, 0), some (.iload_n 1, 0, 0, 0, 0, 0), some (.aload_n 0, 0, 0, 0, 0, 0), some (.getfield 29, 5, 4, 2, 0, 0), none, none, some (.iconst 0, 0, 0, 0, 0, 0), some (.iload_n 2, 0, 0, 0, 0, 0), some (.invokevirtual 68, 27, 3, 2, 0, 0), none, none, some (.invokevirtual 72, 103, 3, 5, 0, 0), none, none, some (.return_, 0, 0, 0, 0, 0)]
def tb_X6_omega : List (Option XI) := [some (.iload_n 1, 0, 0, 0, 0, 0), some (.invokestatic 50, 93, 1, 0, 0, 0), none, none, some (.iload_n 2, 0, 0, 0, 0, 0), some (.invokestatic 50, 93, 1, 0, 0, 0), none, none, some (.aload_n 0, 0, 0, 0, 0, 0), some (.iload_n 1, 0, 0, 0, 0, 0), some (.aload_n 0, 0, 0, 0, 0, 0), some (.getfield 29, 5, 4, 2, 0, 0), none, none, some (.aload_n 0, 0, 0, 0, 0, 0), some (.iload_n 2, 0, 0, 0, 0, 0), some (.invokevirtual 76, 98, 2, 5, 0, 0), none, none, some (.iconst 1, 0, 0, 0, 1, 0), some (.invokevirtual 68, 27, 3, 2, 0, 0), none, none, some (.invokevirtual 72, 103, 3, 5, 0, 0), none, none, some (.return_, 0, 0, 0, 0, 0)]
def tb_X6_number : List (Option XI) := [some (.iload_n 1, 0, 0, 0, 0, 0), some (.invokestatic 50, 93, 1, 0, 0, 0), none, none, some (.iload_n 3, 0, 0, 0, 0, 0), some (.iconst 0, 0, 0, 0, 0, 0), some (.bipush 20, 0, 0, 0, 20, 0), none, some (.invokestatic 64, 96, 3, 0, 0, 0), none, none, some (.iload_n 2, 0, 0, 0, 0, 0), some (.i2l, 0, 0, 0, 0, 0), some (.bipush 20, 0, 0, 0, 20, 0), none, some (.iload_n 3, 0, 0, 0, 0, 0), some (.isub, 0, 0, 0, 0, 0), some (.lshl, 0, 0, 0, 0, 0), some (.lstore 4, 0, 0, 0, 0, 0), none, some (.lload 4, 0, 0, 0, 0, 0), none, some (.invokestatic 80, 106, 1, 0, 0, 0), none, none, some (.ifCond .ne 13, 38, 0, 0, 0, 0), none, none, some (.new 84, 2, 88, 1, 86, 0), none, none, none, none, none, none, none, none, none, some (.aload_n 0, 0, 0, 0, 0, 0), some (.iload_n 1, 0, 0, 0, 0, 0), some (.lload 4, 0, 0, 0, 0, 0), none, some (.invokevirtual 91, 104, 3, 5, 0, 0), none, none, some (.return_, 0, 0, 0, 0, 0)]
def tb_X6_signs : List (Option XI) := [some (.iload_n 1, 0, 0, 0, 0, 0), some (.invokestatic 50, 93, 1, 0, 0, 0), none, none, some (.iload_n 3, 0, 0, 0, 0, 0), some (.iconst 0, 0, 0, 0, 0, 0), some (.bipush 20, 0, 0, 0, 20, 0), none, some (.invokestatic 64, 96, 3, 0, 0, 0), none, none, some (.iload_n 2, 0, 0, 0, 0, 0), some (.iconst 0, 0, 0, 0, 0, 0), some (.iconst 1, 0, 0, 0, 1, 0), some (.iload_n 3, 0, 0, 0, 0, 0), some (.ishl, 0, 0, 0, 0, 0), some (.iconst 1, 0, 0, 0, 1, 0), some (.isub, 0, 0, 0, 0, 0), some (.invokestatic 64, 96, 3, 0, 0, 0), none, none, some (.aload_n 0, 0, 0, 0, 0, 0), some (.getfield 36, 5, 5, 2, 0, 0), none, none, some (.iload_n 2, 0, 0, 0, 0, 0), some (.iload_n 3, 0, 0, 0, 0, 0), some (.invokevirtual 95, 63, 3, 4, 0, 0), none, none, some (.aload_n 0, 0, 0, 0, 0, 0), some (.iload_n 1, 0, 0, 0, 0, 0), some (.aload_n 0, 0, 0, 0, 0, 0), some (.getfield 36, 5, 5, 2, 0, 0), none, none, some (.invokevirtual 98, 60, 1, 4, 0, 0), none, none, some (.invokevirtual 91, 104, 3, 5, 0, 0), none, none, some (.return_, 0, 0, 0, 0, 0)]
def tb_X6_term : List (Option XI) := [some (.iload_n 1, 0, 0, 0, 0, 0), some (.invokestatic 50, 93, 1, 0, 0, 0), none, none, some (.iload_n 2, 0, 0, 0, 0, 0), some (.ldc 102, 0, 0, 0, (-1000000), 0), none, some (.ldc 63, 0, 0, 0, 1000000, 0), none, some (.invokestatic 64, 96, 3, 0, 0, 0), none, none, some (.iload_n 3, 0, 0, 0, 0, 0), some (.bipush (-20), 0, 0, 0, (-20), 0), none, some (.bipush 20, 0, 0, 0, 20, 0), none, some (.invokestatic 64, 96, 3, 0, 0, 0), none, none, some (.iload 4, 0, 0, 0, 0, 0), none, some (.bipush (-20), 0, 0, 0, (-20), 0), none, some (.bipush 20, 0, 0, 0, 20, 0), none, some (.invokestatic 64, 96, 3, 0, 0, 0), none, none, some (.iload 5, 0, 0, 0, 0, 0), none, some (.bipush (-20), 0, 0, 0, (-20), 0), none, some (.bipush 20, 0, 0, 0, 20, 0), none, some (.invokestatic 64, 96, 3, 0, 0, 0), none, none, some (.iload 6, 0, 0, 0, 0, 0), none, some (.bipush (-20), 0, 0, 0, (-20), 0), none, some (.bipush 20, 0, 0, 0, 20, 0), none, some (.invokestatic 64, 96, 3, 0, 0, 0), none, none, some (.aload_n 0, 0, 0, 0, 0, 0), some (.getfield 43, 5, 6, 2, 0, 0), none, none, some (.invokevirtual 103, 54, 1, 3, 0, 0), none, none, some (.aload_n 0, 0, 0, 0, 0, 0), some (.getfield 43, 5, 6, 2, 0, 0), none, none, some (.iload_n 2, 0, 0, 0, 0, 0), some (.i2l, 0, 0, 0, 0, 0), some (.iload_n 3, 0, 0, 0, 0, 0), some (.iload 4, 0, 0, 0, 0, 0), none, some (.iload 5, 0, 0, 0, 0, 0), none, some (.iload 6, 0, 0, 0, 0, 0), none, some (.invokestatic 106, 9, 4, 0, 0, 0), none, none, some (.invokevirtual 110, 55, 3, 3, 0, 0), none, none, some (.aload_n 0, 0, 0, 0, 0, 0), some (.iload_n 1, 0, 0, 0, 0, 0), some (.invokevirtual 114, 105, 2, 5, 0, 0), none, none, some (.return_, 0, 0, 0, 0, 0)]
def tb_X6_sum : List (Option XI) := [some (.iload_n 1, 0, 0, 0, 0, 0), some (.iload_n 2, 0, 0, 0, 0, 0), some (.iload_n 3, 0, 0, 0, 0, 0), some (.invokestatic 117, 94, 3, 0, 0, 0), none, none, some (.aload_n 0, 0, 0, 0, 0, 0), some (.iload_n 2, 0, 0, 0, 0, 0), some (.iload_n 3, 0, 0, 0, 0, 0), some (.invokevirtual 120, 97, 3, 5, 0, 0), none, none, some (.istore 4, 0, 0, 0, 0, 0), none, some (.iload 4, 0, 0, 0, 0, 0), none, some (.iconst 1, 0, 0, 0, 1, 0), some (.if_icmp .ne 28, 45, 0, 0, 0, 0), none, none, some (.aload_n 0, 0, 0, 0, 0, 0), some (.iload_n 1, 0, 0, 0, 0, 0), some (.aload_n 0, 0, 0, 0, 0, 0), some (.getfield 29, 5, 4, 2, 0, 0), none, none, some (.aload_n 0, 0, 0, 0, 0, 0), some (.iload_n 2, 0, 0, 0, 0, 0), some (.invokevirtual 76, 98, 2, 5, 0, 0), none, none, some (.aload_n 0, 0, 0, 0, 0, 0), some (.iload_n 3, 0, 0, 0, 0, 0), some (.invokevirtual 76, 98, 2, 5, 0, 0), none, none, some (.invokevirtual 123, 28, 3, 2, 0, 0), none, none, some (.invokevirtual 72, 103, 3, 5, 0, 0), none, none, some (.goto 48, 90, 0, 0, 0, 0), none, none, some (.iload 4, 0, 0, 0, 0, 0), none, some (.iconst 2, 0, 0, 0, 2, 0), some (.if_icmp .ne 22, 70, 0, 0, 0, 0), none, none, some (.aload_n 0, 0, 0, 0, 0, 0), some (.iload_n 1, 0, 0, 0, 0, 0), some (.aload_n 0, 0, 0, 0, 0, 0), some (.iload_n 2, 0, 0, 0, 0, 0), some (.invokevirtual 126, 100, 2, 5, 0, 0), none, none, some (.aload_n 0, 0, 0, 0, 0, 0), some (.iload_n 3, 0, 0, 0, 0, 0), some (.invokevirtual 126, 100, 2, 5, 0, 0), none, none, some (.ladd, 0, 0, 0, 0, 0), some (.invokevirtual 91, 104, 3, 5, 0, 0), none, none, some (.goto 23, 90, 0, 0, 0, 0), none, none, some (.aload_n 0, 0, 0, 0, 0, 0), some (.aload_n 0, 0, 0, 0, 0, 0), some (.iload_n 2, 0, 0, 0, 0, 0), some (.invokevirtual 130, 101, 2, 5, 0, 0), none, none, some (.aload_n 0, 0, 0, 0, 0, 0), some (.iload_n 3, 0, 0, 0, 0, 0), some (.invokevirtual 130, 101, 2, 5, 0, 0), none, none, some (.iconst 1, 0, 0, 0, 1, 0), some (.invokevirtual 134, 110, 4, 5, 0, 0), none, none, some (.aload_n 0, 0, 0, 0, 0, 0), some (.iload_n 1, 0, 0, 0, 0, 0), some (.invokevirtual 114, 105, 2, 5, 0, 0), none, none, some (.iload 4, 0, 0, 0, 0, 0), none, some (.ireturn, 1, 0, 0, 0, 0)]
def tb_X6_product : List (Option XI) := [some (.iload_n 1, 0, 0, 0, 0, 0), some (.iload_n 2, 0, 0, 0, 0, 0), some (.iload_n 3, 0, 0, 0, 0, 0), some (.invokestatic 117, 94, 3, 0, 0, 0), none, none, some (.aload_n 0, 0, 0, 0, 0, 0), some (.iload_n 2, 0, 0, 0, 0, 0), some (.iload_n 3, 0, 0, 0, 0, 0), some (.invokevirtual 120, 97, 3, 5, 0, 0), none, none, some (.istore 4, 0, 0, 0, 0, 0), none, some (.iload 4, 0, 0, 0, 0, 0), none, some (.iconst 1, 0, 0, 0, 1, 0), some (.if_icmp .ne 28, 45, 0, 0, 0, 0), none, none, some (.aload_n 0, 0, 0, 0, 0, 0), some (.iload_n 1, 0, 0, 0, 0, 0), some (.aload_n 0, 0, 0, 0, 0, 0), some (.getfield 29, 5, 4, 2, 0, 0), none, none, some (.aload_n 0, 0, 0, 0, 0, 0), some (.iload_n 2, 0, 0, 0, 0, 0), some (.invokevirtual 76, 98, 2, 5, 0, 0), none, none, some (.aload_n 0, 0, 0, 0, 0, 0), some (.iload_n 3, 0, 0, 0, 0, 0), some (.invokevirtual 76, 98, 2, 5, 0, 0), none, none, some (.invokevirtual 138, 29, 3, 2, 0, 0), none, none, some (.invokevirtual 72, 103, 3, 5, 0, 0), none, none, some (.goto 49, 91, 0, 0, 0, 0), none, none, some (.iload 4, 0, 0, 0, 0, 0), none, some (.iconst 2, 0, 0, 0, 2, 0), some (.if_icmp .ne 24, 72, 0, 0, 0, 0), none, none, some (.aload_n 0, 0, 0, 0, 0, 0), some (.iload_n 1, 0, 0, 0, 0, 0), some (.aload_n 0, 0, 0, 0, 0, 0), some (.iload_n 2, 0, 0, 0, 0, 0), some (.invokevirtual 126, 100, 2, 5, 0, 0), none, none, some (.aload_n 0, 0, 0, 0, 0, 0), some (.iload_n 3, 0, 0, 0, 0, 0), some (.invokevirtual 126, 100, 2, 5, 0, 0), none, none, some (.invokestatic 141, 107, 2, 0, 0, 0), none, none, some (.invokevirtual 91, 104, 3, 5, 0, 0), none, none, some (.goto 22, 91, 0, 0, 0, 0), none, none, some (.aload_n 0, 0, 0, 0, 0, 0), some (.aload_n 0, 0, 0, 0, 0, 0), some (.iload_n 2, 0, 0, 0, 0, 0), some (.invokevirtual 130, 101, 2, 5, 0, 0), none, none, some (.aload_n 0, 0, 0, 0, 0, 0), some (.iload_n 3, 0, 0, 0, 0, 0), some (.invokevirtual 130, 101, 2, 5, 0, 0), none, none, some (.invokevirtual 145, 111, 3, 5, 0, 0), none, none, some (.aload_n 0, 0, 0, 0, 0, 0), some (.iload_n 1, 0, 0, 0, 0, 0), some (.invokevirtual 114, 105, 2, 5, 0, 0), none, none, some (.iload 4, 0, 0, 0, 0, 0), none, some (.ireturn, 1, 0, 0, 0, 0)]
def tb_X6_difference : List (Option XI) := [some (.iload_n 1, 0, 0, 0, 0, 0), some (.iload_n 2, 0, 0, 0, 0, 0), some (.iload_n 3, 0, 0, 0, 0, 0), some (.invokestatic 117, 94, 3, 0, 0, 0), none, none, some (.aload_n 0, 0, 0, 0, 0, 0), some (.iload_n 2, 0, 0, 0, 0, 0), some (.iload_n 3, 0, 0, 0, 0, 0), some (.invokevirtual 120, 97, 3, 5, 0, 0), none, none, some (.istore 4, 0, 0, 0, 0, 0), none, some (.iload 4, 0, 0, 0, 0, 0), none, some (.iconst 1, 0, 0, 0, 1, 0), some (.if_icmp .ne 13, 30, 0, 0, 0, 0), none, none, some (.new 149, 3, 153, 1, 151, 0), none, none, none, none, none, none, none, none, none, some (.iload 4, 0, 0, 0, 0, 0), none, some (.iconst 2, 0, 0, 0, 2, 0), some (.if_icmp .ne 22, 55, 0, 0, 0, 0), none, none, some (.aload_n 0, 0, 0, 0, 0, 0), some (.iload_n 1, 0, 0, 0, 0, 0), some (.aload_n 0, 0, 0, 0, 0, 0), some (.iload_n 2, 0, 0, 0, 0, 0), some (.invokevirtual 126, 100, 2, 5, 0, 0), none, none, some (.aload_n 0, 0, 0, 0, 0, 0), some (.iload_n 3, 0, 0, 0, 0, 0), some (.invokevirtual 126, 100, 2, 5, 0, 0), none, none, some (.lsub, 0, 0, 0, 0, 0), some (.invokevirtual 91, 104, 3, 5, 0, 0), none, none, some (.goto 23, 75, 0, 0, 0, 0), none, none, some (.aload_n 0, 0, 0, 0, 0, 0), some (.aload_n 0, 0, 0, 0, 0, 0), some (.iload_n 2, 0, 0, 0, 0, 0), some (.invokevirtual 130, 101, 2, 5, 0, 0), none, none, some (.aload_n 0, 0, 0, 0, 0, 0), some (.iload_n 3, 0, 0, 0, 0, 0), some (.invokevirtual 130, 101, 2, 5, 0, 0), none, none, some (.iconst (-1), 0, 0, 0, (-1), 0), some (.invokevirtual 134, 110, 4, 5, 0, 0), none, none, some (.aload_n 0, 0, 0, 0, 0, 0), some (.iload_n 1, 0, 0, 0, 0, 0), some (.invokevirtual 114, 105, 2, 5, 0, 0), none, none, some (.iload 4, 0, 0, 0, 0, 0), none, some (.ireturn, 1, 0, 0, 0, 0)]
def tb_X6_natural : List (Option XI) := [some (.iload_n 1, 0, 0, 0, 0, 0), some (.iload_n 2, 0, 0, 0, 0, 0), some (.iload_n 3, 0, 0, 0, 0, 0), some (.invokestatic 117, 94, 3, 0, 0, 0), none, none, some (.aload_n 0, 0, 0, 0, 0, 0), some (.iload_n 2, 0, 0, 0, 0, 0), some (.invokevirtual 76, 98, 2, 5, 0, 0), none, none, some (.istore 5, 0, 0, 0, 0, 0), none, some (.aload_n 0, 0, 0, 0, 0, 0), some (.iload_n 3, 0, 0, 0, 0, 0), some (.invokevirtual 76, 98, 2, 5, 0, 0), none, none, some (.istore 6, 0, 0, 0, 0, 0), none, some (.aload_n 0, 0, 0, 0, 0, 0), some (.iload_n 1, 0, 0, 0, 0, 0), some (.iload 4, 0, 0, 0, 0, 0), none, some (.ifCond .eq 17, 41, 0, 0, 0, 0), none, none, some (.aload_n 0, 0, 0, 0, 0, 0), some (.getfield 29, 5, 4, 2, 0, 0), none, none, some (.iload 5, 0, 0, 0, 0, 0), none, some (.iload 6, 0, 0, 0, 0, 0), none, some (.invokevirtual 154, 31, 3, 2, 0, 0), none, none, some (.goto 14, 52, 0, 0, 0, 0), none, none, some (.aload_n 0, 0, 0, 0, 0, 0), some (.getfield 29, 5, 4, 2, 0, 0), none, none, some (.iload 5, 0, 0, 0, 0, 0), none, some (.iload 6, 0, 0, 0, 0, 0), none, some (.invokevirtual 157, 30, 3, 2, 0, 0), none, none, some (.invokevirtual 72, 103, 3, 5, 0, 0), none, none, some (.return_, 0, 0, 0, 0, 0)]
def tb_X6_derive : List (Option XI) := [some (.iload_n 1, 0, 0, 0, 0, 0), some (.invokestatic 50, 93, 1, 0, 0, 0), none, none, some (.iload_n 2, 0, 0, 0, 0, 0), some (.invokestatic 50, 93, 1, 0, 0, 0), none, none, some (.aload_n 0, 0, 0, 0, 0, 0), some (.iload_n 2, 0, 0, 0, 0, 0), some (.invokevirtual 130, 101, 2, 5, 0, 0), none, none, some (.astore_n 3, 0, 0, 0, 0, 0), some (.aload_n 0, 0, 0, 0, 0, 0), some (.getfield 43, 5, 6, 2, 0, 0), none, none, some (.invokevirtual 103, 54, 1, 3, 0, 0), none, none, some (.iconst 1, 0, 0, 0, 1, 0), some (.istore 4, 0, 0, 0, 0, 0), none, some (.iload 4, 0, 0, 0, 0, 0), none, some (.iconst 4, 0, 0, 0, 4, 0), some (.if_icmp .gt 19, 46, 0, 0, 0, 0), none, none, some (.aload_n 0, 0, 0, 0, 0, 0), some (.getfield 43, 5, 6, 2, 0, 0), none, none, some (.aload_n 3, 0, 0, 0, 0, 0), some (.iload 4, 0, 0, 0, 0, 0), none, some (.invokevirtual 160, 57, 3, 3, 0, 0), none, none, some (.iinc 4 1, 0, 0, 0, 1, 0), none, none, some (.goto (-19), 24, 0, 0, 0, 0), none, none, some (.aload_n 0, 0, 0, 0, 0, 0), some (.iload_n 1, 0, 0, 0, 0, 0), some (.invokevirtual 114, 105, 2, 5, 0, 0), none, none, some (.return_, 0, 0, 0, 0, 0)]
def tb_X6_compare : List (Option XI) := [some (.iload_n 1, 0, 0, 0, 0, 0), some (.invokestatic 50, 93, 1, 0, 0, 0), none, none, some (.iload_n 2, 0, 0, 0, 0, 0), some (.invokestatic 50, 93, 1, 0, 0, 0), none, none, some (.aload_n 0, 0, 0, 0, 0, 0), some (.iload_n 1, 0, 0, 0, 0, 0), some (.iload_n 2, 0, 0, 0, 0, 0), some (.invokevirtual 120, 97, 3, 5, 0, 0), none, none, some (.istore_n 3, 0, 0, 0, 0, 0), some (.iload_n 3, 0, 0, 0, 0, 0), some (.iconst 1, 0, 0, 0, 1, 0), some (.if_icmp .ne 21, 38, 0, 0, 0, 0), none, none, some (.aload_n 0, 0, 0, 0, 0, 0), some (.getfield 29, 5, 4, 2, 0, 0), none, none, some (.aload_n 0, 0, 0, 0, 0, 0), some (.iload_n 1, 0, 0, 0, 0, 0), some (.invokevirtual 76, 98, 2, 5, 0, 0), none, none, some (.aload_n 0, 0, 0, 0, 0, 0), some (.iload_n 2, 0, 0, 0, 0, 0), some (.invokevirtual 76, 98, 2, 5, 0, 0), none, none, some (.invokevirtual 164, 33, 3, 2, 0, 0), none, none, some (.ireturn, 1, 0, 0, 0, 0), some (.iload_n 3, 0, 0, 0, 0, 0), some (.iconst 2, 0, 0, 0, 2, 0), some (.if_icmp .ne 17, 57, 0, 0, 0, 0), none, none, some (.aload_n 0, 0, 0, 0, 0, 0), some (.iload_n 1, 0, 0, 0, 0, 0), some (.invokevirtual 126, 100, 2, 5, 0, 0), none, none, some (.aload_n 0, 0, 0, 0, 0, 0), some (.iload_n 2, 0, 0, 0, 0, 0), some (.invokevirtual 126, 100, 2, 5, 0, 0), none, none, some (.invokestatic 167, 197, 2, 0, 0, 0), none, none, some (.ireturn, 1, 0, 0, 0, 0), some (.aload_n 0, 0, 0, 0, 0, 0), some (.iload_n 1, 0, 0, 0, 0, 0), some (.invokevirtual 130, 101, 2, 5, 0, 0), none, none, some (.aload_n 0, 0, 0, 0, 0, 0), some (.iload_n 2, 0, 0, 0, 0, 0), some (.invokevirtual 130, 101, 2, 5, 0, 0), none, none, some (.invokevirtual 173, 19, 2, 1, 0, 0), none, none, some (.ireturn, 1, 0, 0, 0, 0)]
def tb_X6_step : List (Option XI) := [some (.iload_n 1, 0, 0, 0, 0, 0), some (.invokestatic 50, 93, 1, 0, 0, 0), none, none, some (.iload_n 2, 0, 0, 0, 0, 0), some (.invokestatic 50, 93, 1, 0, 0, 0), none, none, some (.iload_n 3, 0, 0, 0, 0, 0), some (.iconst 1, 0, 0, 0, 1, 0), some (.bipush 99, 0, 0, 0, 99, 0), none, some (.invokestatic 64, 96, 3, 0, 0, 0), none, none, some (.aload_n 0, 0, 0, 0, 0, 0), some (.iload_n 2, 0, 0, 0, 0, 0), some (.invokevirtual 76, 98, 2, 5, 0, 0), none, none, some (.istore 4, 0, 0, 0, 0, 0), none, some (.iload 4, 0, 0, 0, 0, 0), none, some (.ifCond .ne 13, 37, 0, 0, 0, 0), none, none, some (.new 149, 3, 153, 1, 177, 0), none, none, none, none, none, none, none, none, none, some (.aload_n 0, 0, 0, 0, 0, 0), some (.iload_n 1, 0, 0, 0, 0, 0), some (.aload_n 0, 0, 0, 0, 0, 0), some (.getfield 29, 5, 4, 2, 0, 0), none, none, some (.iload 4, 0, 0, 0, 0, 0), none, some (.iload_n 3, 0, 0, 0, 0, 0), some (.invokevirtual 179, 35, 3, 2, 0, 0), none, none, some (.invokevirtual 72, 103, 3, 5, 0, 0), none, none, some (.return_, 0, 0, 0, 0, 0)]
def tb_X6_descent : List (Option XI) := [some (.iload_n 1, 0, 0, 0, 0, 0), some (.invokestatic 50, 93, 1, 0, 0, 0), none, none, some (.iload_n 2, 0, 0, 0, 0, 0), some (.iconst 1, 0, 0, 0, 1, 0), some (.bipush 99, 0, 0, 0, 99, 0), none, some (.invokestatic 64, 96, 3, 0, 0, 0), none, none, some (.iload_n 3, 0, 0, 0, 0, 0), some (.iconst 0, 0, 0, 0, 0, 0), some (.sipush 2000, 0, 0, 0, 2000, 0), none, none, some (.invokestatic 64, 96, 3, 0, 0, 0), none, none, some (.aload_n 0, 0, 0, 0, 0, 0), some (.getfield 29, 5, 4, 2, 0, 0), none, none, some (.aload_n 0, 0, 0, 0, 0, 0), some (.iload_n 1, 0, 0, 0, 0, 0), some (.invokevirtual 76, 98, 2, 5, 0, 0), none, none, some (.iload_n 2, 0, 0, 0, 0, 0), some (.iload_n 3, 0, 0, 0, 0, 0), some (.invokevirtual 182, 37, 4, 2, 0, 0), none, none, some (.ireturn, 1, 0, 0, 0, 0)]
def tb_X6_powers : List (Option XI) := [some (.iload_n 1, 0, 0, 0, 0, 0), some (.invokestatic 50, 93, 1, 0, 0, 0), none, none, some (.aload_n 0, 0, 0, 0, 0, 0), some (.getfield 29, 5, 4, 2, 0, 0), none, none, some (.aload_n 0, 0, 0, 0, 0, 0), some (.iload_n 1, 0, 0, 0, 0, 0), some (.invokevirtual 76, 98, 2, 5, 0, 0), none, none, some (.invokevirtual 186, 22, 2, 2, 0, 0), none, none, some (.ireturn, 1, 0, 0, 0, 0)]
def tb_X6_times : List (Option XI) := [some (.iload_n 1, 0, 0, 0, 0, 0), some (.invokestatic 50, 93, 1, 0, 0, 0), none, none, some (.iload_n 2, 0, 0, 0, 0, 0), some (.invokestatic 189, 95, 1, 0, 0, 0), none, none, some (.aload_n 0, 0, 0, 0, 0, 0), some (.getfield 29, 5, 4, 2, 0, 0), none, none, some (.aload_n 0, 0, 0, 0, 0, 0), some (.iload_n 1, 0, 0, 0, 0, 0), some (.iload_n 2, 0, 0, 0, 0, 0), some (.invokevirtual 192, 99, 3, 5, 0, 0), none, none, some (.iload_n 2, 0, 0, 0, 0, 0), some (.invokevirtual 195, 23, 3, 2, 0, 0), none, none, some (.i2l, 0, 0, 0, 0, 0), some (.lreturn, 0, 0, 0, 0, 0)]
def tb_X6_exponent : List (Option XI) := [some (.iload_n 1, 0, 0, 0, 0, 0), some (.invokestatic 50, 93, 1, 0, 0, 0), none, none, some (.iload_n 2, 0, 0, 0, 0, 0), some (.invokestatic 50, 93, 1, 0, 0, 0), none, none, some (.iload_n 3, 0, 0, 0, 0, 0), some (.invokestatic 189, 95, 1, 0, 0, 0), none, none, some (.aload_n 0, 0, 0, 0, 0, 0), some (.iload_n 1, 0, 0, 0, 0, 0), some (.aload_n 0, 0, 0, 0, 0, 0), some (.getfield 29, 5, 4, 2, 0, 0), none, none, some (.aload_n 0, 0, 0, 0, 0, 0), some (.iload_n 2, 0, 0, 0, 0, 0), some (.iload_n 3, 0, 0, 0, 0, 0), some (.invokevirtual 192, 99, 3, 5, 0, 0), none, none, some (.iload_n 3, 0, 0, 0, 0, 0), some (.invokevirtual 198, 24, 3, 2, 0, 0), none, none, some (.invokevirtual 72, 103, 3, 5, 0, 0), none, none, some (.return_, 0, 0, 0, 0, 0)]
def tb_X6_cut : List (Option XI) := [some (.iload_n 1, 0, 0, 0, 0, 0), some (.invokestatic 50, 93, 1, 0, 0, 0), none, none, some (.iload_n 2, 0, 0, 0, 0, 0), some (.iconst 0, 0, 0, 0, 0, 0), some (.ldc 201, 0, 0, 0, 65535, 0), none, some (.invokestatic 64, 96, 3, 0, 0, 0), none, none, some (.iload_n 3, 0, 0, 0, 0, 0), some (.iconst 0, 0, 0, 0, 0, 0), some (.ldc 201, 0, 0, 0, 65535, 0), none, some (.invokestatic 64, 96, 3, 0, 0, 0), none, none, some (.aload_n 0, 0, 0, 0, 0, 0), some (.iload_n 2, 0, 0, 0, 0, 0), some (.invokevirtual 202, 108, 2, 5, 0, 0), none, none, some (.lstore 4, 0, 0, 0, 0, 0), none, some (.aload_n 0, 0, 0, 0, 0, 0), some (.iload_n 3, 0, 0, 0, 0, 0), some (.invokevirtual 205, 109, 2, 5, 0, 0), none, none, some (.lstore 6, 0, 0, 0, 0, 0), none, some (.lload 4, 0, 0, 0, 0, 0), none, some (.lload 6, 0, 0, 0, 0, 0), none, some (.lcmp, 0, 0, 0, 0, 0), some (.ifCond .ge 17, 54, 0, 0, 0, 0), none, none, some (.aload_n 0, 0, 0, 0, 0, 0), some (.getfield 36, 5, 5, 2, 0, 0), none, none, some (.lload 4, 0, 0, 0, 0, 0), none, some (.lload 6, 0, 0, 0, 0, 0), none, some (.invokevirtual 208, 65, 3, 4, 0, 0), none, none, some (.ifCond .ne 13, 64, 0, 0, 0, 0), none, none, some (.new 149, 3, 153, 1, 212, 0), none, none, none, none, none, none, none, none, none, some (.aload_n 0, 0, 0, 0, 0, 0), some (.iload_n 1, 0, 0, 0, 0, 0), some (.aload_n 0, 0, 0, 0, 0, 0), some (.getfield 36, 5, 5, 2, 0, 0), none, none, some (.invokevirtual 98, 60, 1, 4, 0, 0), none, none, some (.invokevirtual 91, 104, 3, 5, 0, 0), none, none, some (.aload_n 0, 0, 0, 0, 0, 0), some (.getfield 36, 5, 5, 2, 0, 0), none, none, some (.invokevirtual 214, 61, 1, 4, 0, 0), none, none, some (.ireturn, 1, 0, 0, 0, 0)]
def tb_X6_birthday : List (Option XI) := [some (.iload_n 1, 0, 0, 0, 0, 0), some (.invokestatic 50, 93, 1, 0, 0, 0), none, none, some (.aload_n 0, 0, 0, 0, 0, 0), some (.getfield 36, 5, 5, 2, 0, 0), none, none, some (.aload_n 0, 0, 0, 0, 0, 0), some (.iload_n 1, 0, 0, 0, 0, 0), some (.invokevirtual 126, 100, 2, 5, 0, 0), none, none, some (.sipush 300, 0, 0, 0, 300, 0), none, none, some (.invokevirtual 218, 64, 3, 4, 0, 0), none, none, some (.aload_n 0, 0, 0, 0, 0, 0), some (.getfield 36, 5, 5, 2, 0, 0), none, none, some (.invokevirtual 214, 61, 1, 4, 0, 0), none, none, some (.ireturn, 1, 0, 0, 0, 0)]
def tb_X6_signOf : List (Option XI) := [some (.iload_n 1, 0, 0, 0, 0, 0), some (.invokestatic 50, 93, 1, 0, 0, 0), none, none, some (.iload_n 2, 0, 0, 0, 0, 0), some (.invokestatic 189, 95, 1, 0, 0, 0), none, none, some (.aload_n 0, 0, 0, 0, 0, 0), some (.iload_n 1, 0, 0, 0, 0, 0), some (.invokevirtual 126, 100, 2, 5, 0, 0), none, none, some (.lstore_n 3, 0, 0, 0, 0, 0), some (.aload_n 0, 0, 0, 0, 0, 0), some (.getfield 36, 5, 5, 2, 0, 0), none, none, some (.lload_n 3, 0, 0, 0, 0, 0), some (.iload_n 2, 0, 0, 0, 0, 0), some (.invokevirtual 218, 64, 3, 4, 0, 0), none, none, some (.lload_n 3, 0, 0, 0, 0, 0), some (.aload_n 0, 0, 0, 0, 0, 0), some (.getfield 36, 5, 5, 2, 0, 0), none, none, some (.invokevirtual 98, 60, 1, 4, 0, 0), none, none, some (.invokestatic 167, 197, 2, 0, 0, 0), none, none, some (.ireturn, 1, 0, 0, 0, 0)]
def tb_X6_parts : List (Option XI) := [some (.iload_n 1, 0, 0, 0, 0, 0), some (.invokestatic 50, 93, 1, 0, 0, 0), none, none, some (.aload_n 0, 0, 0, 0, 0, 0), some (.iload_n 1, 0, 0, 0, 0, 0), some (.invokevirtual 126, 100, 2, 5, 0, 0), none, none, some (.lreturn, 0, 0, 0, 0, 0)]
def tb_X6_tends : List (Option XI) := [some (.iload_n 1, 0, 0, 0, 0, 0), some (.invokestatic 50, 93, 1, 0, 0, 0), none, none, some (.aload_n 0, 0, 0, 0, 0, 0), some (.iload_n 1, 0, 0, 0, 0, 0), some (.invokevirtual 130, 101, 2, 5, 0, 0), none, none, some (.invokevirtual 222, 20, 1, 1, 0, 0), none, none, some (.ireturn, 1, 0, 0, 0, 0)]
def tb_X6_terms : List (Option XI) := [some (.iload_n 1, 0, 0, 0, 0, 0), some (.invokestatic 50, 93, 1, 0, 0, 0), none, none, some (.aload_n 0, 0, 0, 0, 0, 0), some (.iload_n 1, 0, 0, 0, 0, 0), some (.invokevirtual 130, 101, 2, 5, 0, 0), none, none, some (.invokevirtual 225, 11, 1, 1, 0, 0), none, none, some (.ireturn, 1, 0, 0, 0, 0)]
def tb_X6_part : List (Option XI) := [some (.iload_n 1, 0, 0, 0, 0, 0), some (.invokestatic 50, 93, 1, 0, 0, 0), none, none, some (.iload_n 2, 0, 0, 0, 0, 0), some (.invokestatic 189, 95, 1, 0, 0, 0), none, none, some (.iload_n 3, 0, 0, 0, 0, 0), some (.iconst 0, 0, 0, 0, 0, 0), some (.iconst 4, 0, 0, 0, 4, 0), some (.invokestatic 64, 96, 3, 0, 0, 0), none, none, some (.aload_n 0, 0, 0, 0, 0, 0), some (.iload_n 1, 0, 0, 0, 0, 0), some (.invokevirtual 130, 101, 2, 5, 0, 0), none, none, some (.astore 4, 0, 0, 0, 0, 0), none, some (.iload_n 2, 0, 0, 0, 0, 0), some (.aload 4, 0, 0, 0, 0, 0), none, some (.invokevirtual 225, 11, 1, 1, 0, 0), none, none, some (.if_icmp .lt 13, 40, 0, 0, 0, 0), none, none, some (.new 149, 3, 153, 1, 228, 0), none, none, none, none, none, none, none, none, none, some (.iload_n 3, 0, 0, 0, 0, 0), some (.ifCond .ne 12, 53, 0, 0, 0, 0), none, none, some (.aload 4, 0, 0, 0, 0, 0), none, some (.iload_n 2, 0, 0, 0, 0, 0), some (.invokevirtual 230, 12, 2, 1, 0, 0), none, none, some (.goto 14, 64, 0, 0, 0, 0), none, none, some (.aload 4, 0, 0, 0, 0, 0), none, some (.iload_n 2, 0, 0, 0, 0, 0), some (.invokevirtual 233, 13, 2, 1, 0, 0), none, none, some (.iload_n 3, 0, 0, 0, 0, 0), some (.invokestatic 236, 10, 2, 0, 0, 0), none, none, some (.i2l, 0, 0, 0, 0, 0), some (.lreturn, 0, 0, 0, 0, 0)]
def tb_X6_needPlace : List (Option XI) := [some (.iload_n 0, 0, 0, 0, 0, 0), some (.ifCond .lt 9, 10, 0, 0, 0, 0), none, none, some (.iload_n 0, 0, 0, 0, 0, 0), some (.bipush 16, 0, 0, 0, 16, 0), none, some (.if_icmp .lt 13, 20, 0, 0, 0, 0), none, none, some (.new 240, 1, 244, 1, 242, 0), none, none, none, none, none, none, none, none, none, some (.return_, 0, 0, 0, 0, 0)]
def tb_X6_needThree : List (Option XI) := [some (.iload_n 0, 0, 0, 0, 0, 0), some (.invokestatic 50, 93, 1, 0, 0, 0), none, none, some (.iload_n 1, 0, 0, 0, 0, 0), some (.invokestatic 50, 93, 1, 0, 0, 0), none, none, some (.iload_n 2, 0, 0, 0, 0, 0), some (.invokestatic 50, 93, 1, 0, 0, 0), none, none, some (.return_, 0, 0, 0, 0, 0)]
def tb_X6_needRow : List (Option XI) := [some (.iload_n 0, 0, 0, 0, 0, 0), some (.ifCond .ge 13, 14, 0, 0, 0, 0), none, none, some (.new 240, 1, 244, 1, 245, 0), none, none, none, none, none, none, none, none, none, some (.return_, 0, 0, 0, 0, 0)]
def tb_X6_needRange : List (Option XI) := [some (.iload_n 0, 0, 0, 0, 0, 0), some (.iload_n 1, 0, 0, 0, 0, 0), some (.if_icmp .lt 8, 10, 0, 0, 0, 0), none, none, some (.iload_n 0, 0, 0, 0, 0, 0), some (.iload_n 2, 0, 0, 0, 0, 0), some (.if_icmp .le 13, 20, 0, 0, 0, 0), none, none, some (.new 84, 2, 88, 1, 247, 0), none, none, none, none, none, none, none, none, none, some (.return_, 0, 0, 0, 0, 0)]
def tb_X6_commonKind : List (Option XI) := [some (.aload_n 0, 0, 0, 0, 0, 0), some (.getfield 9, 5, 0, 2, 0, 0), none, none, some (.iload_n 1, 0, 0, 0, 0, 0), some (.invokestatic 53, 47, 2, 0, 0, 0), none, none, some (.istore_n 3, 0, 0, 0, 0, 0), some (.iload_n 3, 0, 0, 0, 0, 0), some (.ifCond .eq 15, 25, 0, 0, 0, 0), none, none, some (.iload_n 3, 0, 0, 0, 0, 0), some (.aload_n 0, 0, 0, 0, 0, 0), some (.getfield 9, 5, 0, 2, 0, 0), none, none, some (.iload_n 2, 0, 0, 0, 0, 0), some (.invokestatic 53, 47, 2, 0, 0, 0), none, none, some (.if_icmp .eq 13, 35, 0, 0, 0, 0), none, none, some (.new 149, 3, 153, 1, 249, 0), none, none, none, none, none, none, none, none, none, some (.iload_n 3, 0, 0, 0, 0, 0), some (.ireturn, 1, 0, 0, 0, 0)]
def tb_X6_ordinalAt : List (Option XI) := [some (.aload_n 0, 0, 0, 0, 0, 0), some (.getfield 9, 5, 0, 2, 0, 0), none, none, some (.iload_n 1, 0, 0, 0, 0, 0), some (.invokestatic 53, 47, 2, 0, 0, 0), none, none, some (.iconst 1, 0, 0, 0, 1, 0), some (.if_icmp .eq 13, 22, 0, 0, 0, 0), none, none, some (.new 149, 3, 153, 1, 251, 0), none, none, none, none, none, none, none, none, none, some (.aload_n 0, 0, 0, 0, 0, 0), some (.getfield 13, 5, 1, 2, 0, 0), none, none, some (.iload_n 1, 0, 0, 0, 0, 0), some (.invokestatic 53, 47, 2, 0, 0, 0), none, none, some (.ireturn, 1, 0, 0, 0, 0)]
def tb_X6_ordinalWithPower : List (Option XI) := [some (.aload_n 0, 0, 0, 0, 0, 0), some (.iload_n 1, 0, 0, 0, 0, 0), some (.invokevirtual 76, 98, 2, 5, 0, 0), none, none, some (.istore_n 3, 0, 0, 0, 0, 0), some (.iload_n 2, 0, 0, 0, 0, 0), some (.aload_n 0, 0, 0, 0, 0, 0), some (.getfield 29, 5, 4, 2, 0, 0), none, none, some (.iload_n 3, 0, 0, 0, 0, 0), some (.invokevirtual 186, 22, 2, 2, 0, 0), none, none, some (.if_icmp .lt 13, 28, 0, 0, 0, 0), none, none, some (.new 149, 3, 153, 1, 253, 0), none, none, none, none, none, none, none, none, none, some (.iload_n 3, 0, 0, 0, 0, 0), some (.ireturn, 1, 0, 0, 0, 0)]
def tb_X6_numberAt : List (Option XI) := [some (.aload_n 0, 0, 0, 0, 0, 0), some (.getfield 9, 5, 0, 2, 0, 0), none, none, some (.iload_n 1, 0, 0, 0, 0, 0), some (.invokestatic 53, 47, 2, 0, 0, 0), none, none, some (.iconst 2, 0, 0, 0, 2, 0), some (.if_icmp .eq 13, 22, 0, 0, 0, 0), none, none, some (.new 149, 3, 153, 1, 255, 0), none, none, none, none, none, none, none, none, none, some (.aload_n 0, 0, 0, 0, 0, 0), some (.getfield 16, 5, 2, 2, 0, 0), none, none, some (.iload_n 1, 0, 0, 0, 0, 0), some (.invokestatic 257, 48, 2, 0, 0, 0), none, none, some (.lreturn, 0, 0, 0, 0, 0)]
def tb_X6_growthAt : List (Option XI) := [some (.aload_n 0, 0, 0, 0, 0, 0), some (.iload_n 1, 0, 0, 0, 0, 0), some (.invokevirtual 260, 102, 2, 5, 0, 0), none, none, some (.astore_n 2, 0, 0, 0, 0, 0), some (.aload_n 0, 0, 0, 0, 0, 0), some (.getfield 9, 5, 0, 2, 0, 0), none, none, some (.iload_n 1, 0, 0, 0, 0, 0), some (.invokestatic 53, 47, 2, 0, 0, 0), none, none, some (.iconst 3, 0, 0, 0, 3, 0), some (.if_icmp .ne 7, 22, 0, 0, 0, 0), none, none, some (.aload_n 2, 0, 0, 0, 0, 0), some (.ifnonnull 14, 33, 0, 0, 0, 0), none, none, some (.new 149, 3, 153, 1, 263, 0), none, none, none, none, none, none, none, none, none, none, some (.aload_n 2, 0, 0, 0, 0, 0), some (.areturn, 0, 0, 0, 0, 0)]
def tb_X6_growthRow : List (Option XI) := [some (.iload_n 1, 0, 0, 0, 0, 0), some (.ifCond .lt 21, 22, 0, 0, 0, 0), none, none, some (.iload_n 1, 0, 0, 0, 0, 0), some (.aload_n 0, 0, 0, 0, 0, 0), some (.getfield 22, 5, 3, 2, 0, 0), none, none, some (.arraylength, 0, 0, 0, 0, 0), some (.if_icmp .ge 12, 22, 0, 0, 0, 0), none, none, some (.aload_n 0, 0, 0, 0, 0, 0), some (.getfield 22, 5, 3, 2, 0, 0), none, none, some (.iload_n 1, 0, 0, 0, 0, 0), some (.aaload, 0, 0, 0, 0, 0), some (.goto 4, 23, 0, 0, 0, 0), none, none, some (.aconst_null, 0, 0, 0, 0, 0), some (.areturn, 0, 0, 0, 0, 0)]
def tb_X6_keepOrdinal : List (Option XI) := [some (.aload_n 0, 0, 0, 0, 0, 0), some (.getfield 29, 5, 4, 2, 0, 0), none, none, some (.invokevirtual 265, 25, 1, 2, 0, 0), none, none, some (.aload_n 0, 0, 0, 0, 0, 0), some (.getfield 13, 5, 1, 2, 0, 0), none, none, some (.iload_n 1, 0, 0, 0, 0, 0), some (.iload_n 2, 0, 0, 0, 0, 0), some (.invokestatic 59, 49, 3, 0, 0, 0), none, none, some (.aload_n 0, 0, 0, 0, 0, 0), some (.getfield 9, 5, 0, 2, 0, 0), none, none, some (.iload_n 1, 0, 0, 0, 0, 0), some (.iconst 1, 0, 0, 0, 1, 0), some (.invokestatic 59, 49, 3, 0, 0, 0), none, none, some (.return_, 0, 0, 0, 0, 0)]
def tb_X6_keepNumber : List (Option XI) := [some (.lload_n 2, 0, 0, 0, 0, 0), some (.invokestatic 80, 106, 1, 0, 0, 0), none, none, some (.ifCond .ne 14, 18, 0, 0, 0, 0), none, none, some (.new 149, 3, 153, 1, 268, 0), none, none, none, none, none, none, none, none, none, none, some (.aload_n 0, 0, 0, 0, 0, 0), some (.getfield 16, 5, 2, 2, 0, 0), none, none, some (.iload_n 1, 0, 0, 0, 0, 0), some (.lload_n 2, 0, 0, 0, 0, 0), some (.invokestatic 270, 50, 3, 0, 0, 0), none, none, some (.aload_n 0, 0, 0, 0, 0, 0), some (.getfield 9, 5, 0, 2, 0, 0), none, none, some (.iload_n 1, 0, 0, 0, 0, 0), some (.iconst 2, 0, 0, 0, 2, 0), some (.invokestatic 59, 49, 3, 0, 0, 0), none, none, some (.return_, 0, 0, 0, 0, 0)]
def tb_X6_keepGrowth : List (Option XI) := [some (.aload_n 0, 0, 0, 0, 0, 0), some (.getfield 43, 5, 6, 2, 0, 0), none, none, some (.invokevirtual 273, 53, 1, 3, 0, 0), none, none, some (.astore_n 2, 0, 0, 0, 0, 0), some (.aload_n 0, 0, 0, 0, 0, 0), some (.iload_n 1, 0, 0, 0, 0, 0), some (.invokevirtual 260, 102, 2, 5, 0, 0), none, none, some (.astore_n 3, 0, 0, 0, 0, 0), some (.aload_n 3, 0, 0, 0, 0, 0), some (.ifnull 10, 25, 0, 0, 0, 0), none, none, some (.aload_n 2, 0, 0, 0, 0, 0), some (.invokevirtual 277, 17, 1, 1, 0, 0), none, none, some (.ifCond .ne 14, 36, 0, 0, 0, 0), none, none, some (.new 149, 3, 153, 1, 281, 0), none, none, none, none, none, none, none, none, none, none, some (.aload_n 3, 0, 0, 0, 0, 0), some (.aload_n 2, 0, 0, 0, 0, 0), some (.invokevirtual 283, 16, 2, 1, 0, 0), none, none, some (.aload_n 0, 0, 0, 0, 0, 0), some (.getfield 9, 5, 0, 2, 0, 0), none, none, some (.iload_n 1, 0, 0, 0, 0, 0), some (.iconst 3, 0, 0, 0, 3, 0), some (.invokestatic 59, 49, 3, 0, 0, 0), none, none, some (.return_, 0, 0, 0, 0, 0)]
def tb_X6_numberFits : List (Option XI) := [some (.lload_n 0, 0, 0, 0, 0, 0), some (.ldc2_w 287, 0, 0, 0, 0, (-268435456)), none, none, some (.lcmp, 0, 0, 0, 0, 0), some (.ifCond .lt 15, 20, 0, 0, 0, 0), none, none, some (.lload_n 0, 0, 0, 0, 0, 0), some (.ldc2_w 289, 0, 0, 0, 0, 268435456), none, none, some (.lcmp, 0, 0, 0, 0, 0), some (.ifCond .gt 7, 20, 0, 0, 0, 0), none, none, some (.iconst 1, 0, 0, 0, 1, 0), some (.goto 4, 21, 0, 0, 0, 0), none, none, some (.iconst 0, 0, 0, 0, 0, 0), some (.ireturn, 2, 0, 0, 0, 0)]
def tb_X6_multipliedNumbers : List (Option XI) := [some (.lload_n 0, 0, 0, 0, 0, 0), some (.lload_n 2, 0, 0, 0, 0, 0), some (.lmul, 0, 0, 0, 0, 0), some (.lstore 4, 0, 0, 0, 0, 0), none, some (.lload 4, 0, 0, 0, 0, 0), none, some (.ldc2_w 291, 0, 0, 0, 0, 1048575), none, none, some (.land, 0, 0, 0, 0, 0), some (.lconst 0, 0, 0, 0, 0, 0), some (.lcmp, 0, 0, 0, 0, 0), some (.ifCond .eq 14, 27, 0, 0, 0, 0), none, none, some (.new 149, 3, 153, 1, 293, 0), none, none, none, none, none, none, none, none, none, none, some (.lload 4, 0, 0, 0, 0, 0), none, some (.bipush 20, 0, 0, 0, 20, 0), none, some (.lshr, 0, 0, 0, 0, 0), some (.lreturn, 0, 0, 0, 0, 0)]
def tb_X6_greatestOf : List (Option XI) := [some (.ldc2_w 295, 0, 0, 0, 0, (-1099511627776)), none, none, some (.lstore_n 2, 0, 0, 0, 0, 0), some (.iconst 0, 0, 0, 0, 0, 0), some (.istore 4, 0, 0, 0, 0, 0), none, some (.iload 4, 0, 0, 0, 0, 0), none, some (.bipush 16, 0, 0, 0, 16, 0), none, some (.if_icmp .ge 29, 40, 0, 0, 0, 0), none, none, some (.iload_n 1, 0, 0, 0, 0, 0), some (.iload 4, 0, 0, 0, 0, 0), none, some (.ishr, 0, 0, 0, 0, 0), some (.iconst 1, 0, 0, 0, 1, 0), some (.iand, 0, 0, 0, 0, 0), some (.ifCond .eq 14, 34, 0, 0, 0, 0), none, none, some (.lload_n 2, 0, 0, 0, 0, 0), some (.aload_n 0, 0, 0, 0, 0, 0), some (.iload 4, 0, 0, 0, 0, 0), none, some (.invokevirtual 126, 100, 2, 5, 0, 0), none, none, some (.invokestatic 297, 0, 2, 3, 0, 0), none, none, some (.lstore_n 2, 0, 0, 0, 0, 0), some (.iinc 4 1, 0, 0, 0, 1, 0), none, none, some (.goto (-30), 7, 0, 0, 0, 0), none, none, some (.lload_n 2, 0, 0, 0, 0, 0), some (.lreturn, 0, 0, 0, 0, 0)]
def tb_X6_leastOf : List (Option XI) := [some (.ldc2_w 302, 0, 0, 0, 0, 1099511627776), none, none, some (.lstore_n 2, 0, 0, 0, 0, 0), some (.iconst 0, 0, 0, 0, 0, 0), some (.istore 4, 0, 0, 0, 0, 0), none, some (.iload 4, 0, 0, 0, 0, 0), none, some (.bipush 16, 0, 0, 0, 16, 0), none, some (.if_icmp .ge 29, 40, 0, 0, 0, 0), none, none, some (.iload_n 1, 0, 0, 0, 0, 0), some (.iload 4, 0, 0, 0, 0, 0), none, some (.ishr, 0, 0, 0, 0, 0), some (.iconst 1, 0, 0, 0, 1, 0), some (.iand, 0, 0, 0, 0, 0), some (.ifCond .eq 14, 34, 0, 0, 0, 0), none, none, some (.lload_n 2, 0, 0, 0, 0, 0), some (.aload_n 0, 0, 0, 0, 0, 0), some (.iload 4, 0, 0, 0, 0, 0), none, some (.invokevirtual 126, 100, 2, 5, 0, 0), none, none, some (.invokestatic 304, 0, 2, 4, 0, 0), none, none, some (.lstore_n 2, 0, 0, 0, 0, 0), some (.iinc 4 1, 0, 0, 0, 1, 0), none, none, some (.goto (-30), 7, 0, 0, 0, 0), none, none, some (.lload_n 2, 0, 0, 0, 0, 0), some (.lreturn, 0, 0, 0, 0, 0)]
def tb_X6_addGrowths : List (Option XI) := [some (.aload_n 0, 0, 0, 0, 0, 0), some (.getfield 43, 5, 6, 2, 0, 0), none, none, some (.invokevirtual 103, 54, 1, 3, 0, 0), none, none, some (.aload_n 0, 0, 0, 0, 0, 0), some (.getfield 43, 5, 6, 2, 0, 0), none, none, some (.aload_n 1, 0, 0, 0, 0, 0), some (.lconst 1, 0, 0, 0, 0, 1), some (.ldc2_w 307, 0, 0, 0, 0, 550293209600), none, none, some (.invokevirtual 309, 56, 4, 3, 0, 0), none, none, some (.aload_n 0, 0, 0, 0, 0, 0), some (.getfield 43, 5, 6, 2, 0, 0), none, none, some (.aload_n 2, 0, 0, 0, 0, 0), some (.iload_n 3, 0, 0, 0, 0, 0), some (.i2l, 0, 0, 0, 0, 0), some (.ldc2_w 307, 0, 0, 0, 0, 550293209600), none, none, some (.invokevirtual 309, 56, 4, 3, 0, 0), none, none, some (.return_, 0, 0, 0, 0, 0)]
def tb_X6_multiplyGrowths : List (Option XI) := [some (.aload_n 0, 0, 0, 0, 0, 0), some (.getfield 43, 5, 6, 2, 0, 0), none, none, some (.invokevirtual 103, 54, 1, 3, 0, 0), none, none, some (.iconst 0, 0, 0, 0, 0, 0), some (.istore_n 3, 0, 0, 0, 0, 0), some (.iload_n 3, 0, 0, 0, 0, 0), some (.aload_n 1, 0, 0, 0, 0, 0), some (.invokevirtual 225, 11, 1, 1, 0, 0), none, none, some (.if_icmp .ge 27, 41, 0, 0, 0, 0), none, none, some (.aload_n 0, 0, 0, 0, 0, 0), some (.getfield 43, 5, 6, 2, 0, 0), none, none, some (.aload_n 2, 0, 0, 0, 0, 0), some (.aload_n 1, 0, 0, 0, 0, 0), some (.iload_n 3, 0, 0, 0, 0, 0), some (.invokevirtual 230, 12, 2, 1, 0, 0), none, none, some (.aload_n 1, 0, 0, 0, 0, 0), some (.iload_n 3, 0, 0, 0, 0, 0), some (.invokevirtual 233, 13, 2, 1, 0, 0), none, none, some (.invokevirtual 309, 56, 4, 3, 0, 0), none, none, some (.iinc 3 1, 0, 0, 0, 1, 0), none, none, some (.goto (-29), 9, 0, 0, 0, 0), none, none, some (.return_, 0, 0, 0, 0, 0)]
def tb_X7_init : List (Option XI) := [some (.aload_n 0, 0, 0, 0, 0, 0), some (.invokespecial 1, 0, 1, 5, 0, 0), none, none, some (.aload_n 0, 0, 0, 0, 0, 0), some (.bipush 16, 0, 0, 0, 16, 0), none, some (.newarray .int, 1, 0, 0, 0, 0), none, some (.putfield 7, 6, 1, 2, 0, 0), none, none, some (.aload_n 0, 0, 0, 0, 0, 0), some (.bipush 16, 0, 0, 0, 16, 0), none, some (.newarray .int, 1, 0, 0, 0, 0), none, some (.putfield 13, 6, 2, 2, 0, 0), none, none, some (.aload_n 0, 0, 0, 0, 0, 0), some (.sipush 16000, 0, 0, 0, 16000, 0), none, none, some (.newarray .int, 1, 0, 0, 0, 0), none, some (.putfield 16, 6, 3, 2, 0, 0), none, none, some (.aload_n 0, 0, 0, 0, 0, 0), some (.sipush 16000, 0, 0, 0, 16000, 0), none, none, some (.newarray .int, 1, 0, 0, 0, 0), none, some (.putfield 19, 6, 4, 2, 0, 0), none, none, some (.aload_n 0, 0, 0, 0, 0, 0), some (.sipush 2000, 0, 0, 0, 2000, 0), none, none, some (.newarray .int, 1, 0, 0, 0, 0), none, some (.putfield 22, 6, 5, 2, 0, 0), none, none, some (.aload_n 0, 0, 0, 0, 0, 0), some (.sipush 2000, 0, 0, 0, 2000, 0), none, none, some (.newarray .int, 1, 0, 0, 0, 0), none, some (.putfield 25, 6, 6, 2, 0, 0), none, none, some (.aload_n 0, 0, 0, 0, 0, 0), some (.iconst 1, 0, 0, 0, 1, 0), some (.putfield 28, 6, 7, 0, 0, 0), none, none, some (.aload_n 0, 0, 0, 0, 0, 0), some (.sipush 2000, 0, 0, 0, 2000, 0), none, none, some (.newarray .int, 1, 0, 0, 0, 0), none, some (.putfield 32, 6, 8, 2, 0, 0), none, none, some (.aload_n 0, 0, 0, 0, 0, 0), some (.bipush 80, 0, 0, 0, 80, 0), none, some (.newarray .int, 1, 0, 0, 0, 0), none, some (.putfield 35, 6, 9, 2, 0, 0), none, none, some (.aload_n 0, 0, 0, 0, 0, 0), some (.bipush 80, 0, 0, 0, 80, 0), none, some (.newarray .long, 2, 0, 0, 0, 0), none, some (.putfield 38, 6, 10, 2, 0, 0), none, none, some (.aload_n 0, 0, 0, 0, 0, 0), some (.bipush 64, 0, 0, 0, 64, 0), none, some (.newarray .int, 1, 0, 0, 0, 0), none, some (.putfield 42, 6, 12, 2, 0, 0), none, none, some (.aload_n 0, 0, 0, 0, 0, 0), some (.bipush 64, 0, 0, 0, 64, 0), none, some (.newarray .long, 2, 0, 0, 0, 0), none, some (.putfield 45, 6, 13, 2, 0, 0), none, none, some (.aload_n 0, 0, 0, 0, 0, 0), some (.bipush 6, 0, 0, 0, 6, 0), none, some (.newarray .int, 1, 0, 0, 0, 0), none, some (.putfield 48, 6, 14, 2, 0, 0), none, none, some (.aload_n 0, 0, 0, 0, 0, 0), some (.sipush 320, 0, 0, 0, 320, 0), none, none, some (.newarray .long, 2, 0, 0, 0, 0), none, some (.putfield 51, 6, 16, 2, 0, 0), none, none, some (.aload_n 0, 0, 0, 0, 0, 0), some (.sipush 320, 0, 0, 0, 320, 0), none, none, some (.newarray .int, 1, 0, 0, 0, 0), none, some (.putfield 54, 6, 17, 2, 0, 0), none, none, some (.aload_n 0, 0, 0, 0, 0, 0), some (.sipush 400, 0, 0, 0, 400, 0), none, none, some (.newarray .long, 2, 0, 0, 0, 0), none, some (.putfield 57, 6, 18, 2, 0, 0), none, none, some (.aload_n 0, 0, 0, 0, 0, 0), some (.sipush 400, 0, 0, 0, 400, 0), none, none, some (.newarray .long, 2, 0, 0, 0, 0), none, some (.putfield 60, 6, 19, 2, 0, 0), none, none, some (.aload_n 0, 0, 0, 0, 0, 0), some (.getfield 22, 6, 5, 2, 0, 0), none, none, some (.iconst 0, 0, 0, 0, 0, 0), some (.iconst 0, 0, 0, 0, 0, 0), some (.iastore, 0, 0, 0, 0, 0), some (.return_, 0, 0, 0, 0, 0)]
def tb_X7_thrown : List (Option XI) := [some (.aload_n 0, 0, 0, 0, 0, 0), some (.getfield 63, 6, 0, 0, 0, 0), none, none, some (.ireturn, 1, 0, 0, 0, 0)]
def tb_X7_holds : List (Option XI) := [some (.aload_n 0, 0, 0, 0, 0, 0), some (.iload_n 1, 0, 0, 0, 0, 0), some (.putfield 63, 6, 0, 0, 0, 0), none, none, some (.iload_n 1, 0, 0, 0, 0, 0), some (.ifCond .ne 7, 13, 0, 0, 0, 0), none, none, some (.iconst 1, 0, 0, 0, 1, 0), some (.goto 4, 14, 0, 0, 0, 0), none, none, some (.iconst 0, 0, 0, 0, 0, 0), some (.ireturn, 2, 0, 0, 0, 0)]
def tb_X7_isIn : List (Option XI) := [some (.lload_n 0, 0, 0, 0, 0, 0), some (.lload_n 2, 0, 0, 0, 0, 0), some (.lcmp, 0, 0, 0, 0, 0), some (.ifCond .lt 14, 17, 0, 0, 0, 0), none, none, some (.lload_n 0, 0, 0, 0, 0, 0), some (.lload 4, 0, 0, 0, 0, 0), none, some (.lcmp, 0, 0, 0, 0, 0), some (.ifCond .gt 7, 17, 0, 0, 0, 0), none, none, some (.iconst 1, 0, 0, 0, 1, 0), some (.goto 4, 18, 0, 0, 0, 0), none, none, some (.iconst 0, 0, 0, 0, 0, 0), some (.ireturn, 2, 0, 0, 0, 0)]
def tb_X7_isPlace : List (Option XI) := [some (.iload_n 0, 0, 0, 0, 0, 0), some (.i2l, 0, 0, 0, 0, 0), some (.lconst 0, 0, 0, 0, 0, 0), some (.ldc2_w 66, 0, 0, 0, 0, 15), none, none, some (.invokestatic 68, 115, 3, 0, 0, 0), none, none, some (.ireturn, 2, 0, 0, 0, 0)]
def tb_X7_are : List (Option XI) := [some (.iload_n 0, 0, 0, 0, 0, 0), some (.invokestatic 72, 116, 1, 0, 0, 0), none, none, some (.ifCond .eq 21, 25, 0, 0, 0, 0), none, none, some (.iload_n 1, 0, 0, 0, 0, 0), some (.invokestatic 72, 116, 1, 0, 0, 0), none, none, some (.ifCond .eq 14, 25, 0, 0, 0, 0), none, none, some (.iload_n 2, 0, 0, 0, 0, 0), some (.invokestatic 72, 116, 1, 0, 0, 0), none, none, some (.ifCond .eq 7, 25, 0, 0, 0, 0), none, none, some (.iconst 1, 0, 0, 0, 1, 0), some (.goto 4, 26, 0, 0, 0, 0), none, none, some (.iconst 0, 0, 0, 0, 0, 0), some (.ireturn, 2, 0, 0, 0, 0)]
def tb_X7_lays : List (Option XI) := [some (.aload_n 0, 0, 0, 0, 0, 0), some (.getfield 7, 6, 1, 2, 0, 0), none, none, some (.iload_n 1, 0, 0, 0, 0, 0), some (.iload_n 2, 0, 0, 0, 0, 0), some (.iastore, 0, 0, 0, 0, 0), some (.aload_n 0, 0, 0, 0, 0, 0), some (.getfield 13, 6, 2, 2, 0, 0), none, none, some (.iload_n 1, 0, 0, 0, 0, 0), some (.iload_n 3, 0, 0, 0, 0, 0), some (.iastore, 0, 0, 0, 0, 0), some (.return_, 0, 0, 0, 0, 0)]
def tb_X7_last : List (Option XI) := [some (.bipush 8, 0, 0, 0, 8, 0), none, some (.iload_n 1, 0, 0, 0, 0, 0), some (.imul, 0, 0, 0, 0, 0), some (.aload_n 0, 0, 0, 0, 0, 0), some (.getfield 22, 6, 5, 2, 0, 0), none, none, some (.iload_n 1, 0, 0, 0, 0, 0), some (.iaload, 0, 0, 0, 0, 0), some (.iadd, 0, 0, 0, 0, 0), some (.iconst 1, 0, 0, 0, 1, 0), some (.isub, 0, 0, 0, 0, 0), some (.ireturn, 1, 0, 0, 0, 0)]
def tb_X7_compared : List (Option XI) := [some (.iload_n 1, 0, 0, 0, 0, 0), some (.istore_n 3, 0, 0, 0, 0, 0), some (.iload_n 2, 0, 0, 0, 0, 0), some (.istore 4, 0, 0, 0, 0, 0), none, some (.iload_n 3, 0, 0, 0, 0, 0), some (.iload 4, 0, 0, 0, 0, 0), none, some (.if_icmp .eq 211, 219, 0, 0, 0, 0), none, none, some (.iconst 0, 0, 0, 0, 0, 0), some (.istore 5, 0, 0, 0, 0, 0), none, some (.iload 5, 0, 0, 0, 0, 0), none, some (.aload_n 0, 0, 0, 0, 0, 0), some (.getfield 22, 6, 5, 2, 0, 0), none, none, some (.iload_n 3, 0, 0, 0, 0, 0), some (.iaload, 0, 0, 0, 0, 0), some (.if_icmp .ge 77, 99, 0, 0, 0, 0), none, none, some (.iload 5, 0, 0, 0, 0, 0), none, some (.aload_n 0, 0, 0, 0, 0, 0), some (.getfield 22, 6, 5, 2, 0, 0), none, none, some (.iload 4, 0, 0, 0, 0, 0), none, some (.iaload, 0, 0, 0, 0, 0), some (.if_icmp .ge 65, 99, 0, 0, 0, 0), none, none, some (.aload_n 0, 0, 0, 0, 0, 0), some (.getfield 16, 6, 3, 2, 0, 0), none, none, some (.bipush 8, 0, 0, 0, 8, 0), none, some (.iload_n 3, 0, 0, 0, 0, 0), some (.imul, 0, 0, 0, 0, 0), some (.iload 5, 0, 0, 0, 0, 0), none, some (.iadd, 0, 0, 0, 0, 0), some (.iaload, 0, 0, 0, 0, 0), some (.aload_n 0, 0, 0, 0, 0, 0), some (.getfield 16, 6, 3, 2, 0, 0), none, none, some (.bipush 8, 0, 0, 0, 8, 0), none, some (.iload 4, 0, 0, 0, 0, 0), none, some (.imul, 0, 0, 0, 0, 0), some (.iload 5, 0, 0, 0, 0, 0), none, some (.iadd, 0, 0, 0, 0, 0), some (.iaload, 0, 0, 0, 0, 0), some (.if_icmp .ne 37, 99, 0, 0, 0, 0), none, none, some (.aload_n 0, 0, 0, 0, 0, 0), some (.getfield 19, 6, 4, 2, 0, 0), none, none, some (.bipush 8, 0, 0, 0, 8, 0), none, some (.iload_n 3, 0, 0, 0, 0, 0), some (.imul, 0, 0, 0, 0, 0), some (.iload 5, 0, 0, 0, 0, 0), none, some (.iadd, 0, 0, 0, 0, 0), some (.iaload, 0, 0, 0, 0, 0), some (.aload_n 0, 0, 0, 0, 0, 0), some (.getfield 19, 6, 4, 2, 0, 0), none, none, some (.bipush 8, 0, 0, 0, 8, 0), none, some (.iload 4, 0, 0, 0, 0, 0), none, some (.imul, 0, 0, 0, 0, 0), some (.iload 5, 0, 0, 0, 0, 0), none, some (.iadd, 0, 0, 0, 0, 0), some (.iaload, 0, 0, 0, 0, 0), some (.if_icmp .ne 9, 99, 0, 0, 0, 0), none, none, some (.iinc 5 1, 0, 0, 0, 1, 0), none, none, some (.goto (-82), 14, 0, 0, 0, 0), none, none, some (.iload 5, 0, 0, 0, 0, 0), none, some (.aload_n 0, 0, 0, 0, 0, 0), some (.getfield 22, 6, 5, 2, 0, 0), none, none, some (.iload_n 3, 0, 0, 0, 0, 0), some (.iaload, 0, 0, 0, 0, 0), some (.if_icmp .eq 15, 122, 0, 0, 0, 0), none, none, some (.iload 5, 0, 0, 0, 0, 0), none, some (.aload_n 0, 0, 0, 0, 0, 0), some (.getfield 22, 6, 5, 2, 0, 0), none, none, some (.iload 4, 0, 0, 0, 0, 0), none, some (.iaload, 0, 0, 0, 0, 0), some (.if_icmp .ne 20, 139, 0, 0, 0, 0), none, none, some (.iload 5, 0, 0, 0, 0, 0), none, some (.aload_n 0, 0, 0, 0, 0, 0), some (.getfield 22, 6, 5, 2, 0, 0), none, none, some (.iload_n 3, 0, 0, 0, 0, 0), some (.iaload, 0, 0, 0, 0, 0), some (.if_icmp .ne 7, 137, 0, 0, 0, 0), none, none, some (.iconst (-1), 0, 0, 0, (-1), 0), some (.goto 4, 138, 0, 0, 0, 0), none, none, some (.iconst 1, 0, 0, 0, 1, 0), some (.ireturn, 1, 0, 0, 0, 0), some (.aload_n 0, 0, 0, 0, 0, 0), some (.getfield 16, 6, 3, 2, 0, 0), none, none, some (.bipush 8, 0, 0, 0, 8, 0), none, some (.iload_n 3, 0, 0, 0, 0, 0), some (.imul, 0, 0, 0, 0, 0), some (.iload 5, 0, 0, 0, 0, 0), none, some (.iadd, 0, 0, 0, 0, 0), some (.iaload, 0, 0, 0, 0, 0), some (.istore 6, 0, 0, 0, 0, 0), none, some (.aload_n 0, 0, 0, 0, 0, 0), some (.getfield 16, 6, 3, 2, 0, 0), none, none, some (.bipush 8, 0, 0, 0, 8, 0), none, some (.iload 4, 0, 0, 0, 0, 0), none, some (.imul, 0, 0, 0, 0, 0), some (.iload 5, 0, 0, 0, 0, 0), none, some (.iadd, 0, 0, 0, 0, 0), some (.iaload, 0, 0, 0, 0, 0), some (.istore 7, 0, 0, 0, 0, 0), none, some (.iload 6, 0, 0, 0, 0, 0), none, some (.iload 7, 0, 0, 0, 0, 0), none, some (.if_icmp .ne 37, 209, 0, 0, 0, 0), none, none, some (.aload_n 0, 0, 0, 0, 0, 0), some (.getfield 19, 6, 4, 2, 0, 0), none, none, some (.bipush 8, 0, 0, 0, 8, 0), none, some (.iload_n 3, 0, 0, 0, 0, 0), some (.imul, 0, 0, 0, 0, 0), some (.iload 5, 0, 0, 0, 0, 0), none, some (.iadd, 0, 0, 0, 0, 0), some (.iaload, 0, 0, 0, 0, 0), some (.aload_n 0, 0, 0, 0, 0, 0), some (.getfield 19, 6, 4, 2, 0, 0), none, none, some (.bipush 8, 0, 0, 0, 8, 0), none, some (.iload 4, 0, 0, 0, 0, 0), none, some (.imul, 0, 0, 0, 0, 0), some (.iload 5, 0, 0, 0, 0, 0), none, some (.iadd, 0, 0, 0, 0, 0), some (.iaload, 0, 0, 0, 0, 0), some (.if_icmp .le 7, 207, 0, 0, 0, 0), none, none, some (.iconst 1, 0, 0, 0, 1, 0), some (.goto 4, 208, 0, 0, 0, 0), none, none, some (.iconst (-1), 0, 0, 0, (-1), 0), some (.ireturn, 1, 0, 0, 0, 0), some (.iload 6, 0, 0, 0, 0, 0), none, some (.istore_n 3, 0, 0, 0, 0, 0), some (.iload 7, 0, 0, 0, 0, 0), none, some (.istore 4, 0, 0, 0, 0, 0), none, some (.goto (-211), 5, 0, 0, 0, 0), none, none, some (.iconst 0, 0, 0, 0, 0, 0), some (.ireturn, 1, 0, 0, 0, 0)]
def tb_X7_adds : List (Option XI) := [some (.aload_n 0, 0, 0, 0, 0, 0), some (.getfield 35, 6, 9, 2, 0, 0), none, none, some (.aload_n 0, 0, 0, 0, 0, 0), some (.getfield 76, 6, 11, 0, 0, 0), none, none, some (.iload_n 1, 0, 0, 0, 0, 0), some (.iastore, 0, 0, 0, 0, 0), some (.aload_n 0, 0, 0, 0, 0, 0), some (.getfield 38, 6, 10, 2, 0, 0), none, none, some (.aload_n 0, 0, 0, 0, 0, 0), some (.getfield 76, 6, 11, 0, 0, 0), none, none, some (.lload_n 2, 0, 0, 0, 0, 0), some (.lastore, 0, 0, 0, 0, 0), some (.aload_n 0, 0, 0, 0, 0, 0), some (.dup, 0, 0, 0, 0, 0), some (.getfield 76, 6, 11, 0, 0, 0), none, none, some (.iconst 1, 0, 0, 0, 1, 0), some (.iadd, 0, 0, 0, 0, 0), some (.putfield 76, 6, 11, 0, 0, 0), none, none, some (.return_, 0, 0, 0, 0, 0)]
def tb_X7_isMade : List (Option XI) := [some (.aload_n 0, 0, 0, 0, 0, 0), some (.getfield 22, 6, 5, 2, 0, 0), none, none, some (.iload_n 1, 0, 0, 0, 0, 0), some (.iaload, 0, 0, 0, 0, 0), some (.aload_n 0, 0, 0, 0, 0, 0), some (.getfield 76, 6, 11, 0, 0, 0), none, none, some (.if_icmp .ne 7, 17, 0, 0, 0, 0), none, none, some (.iconst 1, 0, 0, 0, 1, 0), some (.goto 4, 18, 0, 0, 0, 0), none, none, some (.iconst 0, 0, 0, 0, 0, 0), some (.istore_n 2, 0, 0, 0, 0, 0), some (.iconst 0, 0, 0, 0, 0, 0), some (.istore_n 3, 0, 0, 0, 0, 0), some (.iload_n 3, 0, 0, 0, 0, 0), some (.aload_n 0, 0, 0, 0, 0, 0), some (.getfield 76, 6, 11, 0, 0, 0), none, none, some (.if_icmp .ge 61, 87, 0, 0, 0, 0), none, none, some (.iload_n 2, 0, 0, 0, 0, 0), some (.ifCond .eq 57, 87, 0, 0, 0, 0), none, none, some (.aload_n 0, 0, 0, 0, 0, 0), some (.getfield 16, 6, 3, 2, 0, 0), none, none, some (.bipush 8, 0, 0, 0, 8, 0), none, some (.iload_n 1, 0, 0, 0, 0, 0), some (.imul, 0, 0, 0, 0, 0), some (.iload_n 3, 0, 0, 0, 0, 0), some (.iadd, 0, 0, 0, 0, 0), some (.iaload, 0, 0, 0, 0, 0), some (.aload_n 0, 0, 0, 0, 0, 0), some (.getfield 35, 6, 9, 2, 0, 0), none, none, some (.iload_n 3, 0, 0, 0, 0, 0), some (.iaload, 0, 0, 0, 0, 0), some (.if_icmp .ne 29, 79, 0, 0, 0, 0), none, none, some (.aload_n 0, 0, 0, 0, 0, 0), some (.getfield 19, 6, 4, 2, 0, 0), none, none, some (.bipush 8, 0, 0, 0, 8, 0), none, some (.iload_n 1, 0, 0, 0, 0, 0), some (.imul, 0, 0, 0, 0, 0), some (.iload_n 3, 0, 0, 0, 0, 0), some (.iadd, 0, 0, 0, 0, 0), some (.iaload, 0, 0, 0, 0, 0), some (.i2l, 0, 0, 0, 0, 0), some (.aload_n 0, 0, 0, 0, 0, 0), some (.getfield 38, 6, 10, 2, 0, 0), none, none, some (.iload_n 3, 0, 0, 0, 0, 0), some (.laload, 0, 0, 0, 0, 0), some (.lcmp, 0, 0, 0, 0, 0), some (.ifCond .ne 7, 79, 0, 0, 0, 0), none, none, some (.iconst 1, 0, 0, 0, 1, 0), some (.goto 4, 80, 0, 0, 0, 0), none, none, some (.iconst 0, 0, 0, 0, 0, 0), some (.istore_n 2, 0, 0, 0, 0, 0), some (.iinc 3 1, 0, 0, 0, 1, 0), none, none, some (.goto (-63), 21, 0, 0, 0, 0), none, none, some (.iload_n 2, 0, 0, 0, 0, 0), some (.ireturn, 2, 0, 0, 0, 0)]
def tb_X7_makes : List (Option XI) := [some (.iconst 0, 0, 0, 0, 0, 0), some (.istore_n 1, 0, 0, 0, 0, 0), some (.aload_n 0, 0, 0, 0, 0, 0), some (.getfield 76, 6, 11, 0, 0, 0), none, none, some (.bipush 8, 0, 0, 0, 8, 0), none, some (.if_icmp .gt 7, 15, 0, 0, 0, 0), none, none, some (.iconst 1, 0, 0, 0, 1, 0), some (.goto 4, 16, 0, 0, 0, 0), none, none, some (.iconst 0, 0, 0, 0, 0, 0), some (.istore_n 2, 0, 0, 0, 0, 0), some (.iconst 0, 0, 0, 0, 0, 0), some (.istore_n 3, 0, 0, 0, 0, 0), some (.iload_n 3, 0, 0, 0, 0, 0), some (.aload_n 0, 0, 0, 0, 0, 0), some (.getfield 76, 6, 11, 0, 0, 0), none, none, some (.if_icmp .ge 65, 89, 0, 0, 0, 0), none, none, some (.aload_n 0, 0, 0, 0, 0, 0), some (.getfield 25, 6, 6, 2, 0, 0), none, none, some (.aload_n 0, 0, 0, 0, 0, 0), some (.getfield 35, 6, 9, 2, 0, 0), none, none, some (.iload_n 3, 0, 0, 0, 0, 0), some (.iaload, 0, 0, 0, 0, 0), some (.iaload, 0, 0, 0, 0, 0), some (.iload_n 1, 0, 0, 0, 0, 0), some (.if_icmp .lt 19, 58, 0, 0, 0, 0), none, none, some (.aload_n 0, 0, 0, 0, 0, 0), some (.getfield 25, 6, 6, 2, 0, 0), none, none, some (.aload_n 0, 0, 0, 0, 0, 0), some (.getfield 35, 6, 9, 2, 0, 0), none, none, some (.iload_n 3, 0, 0, 0, 0, 0), some (.iaload, 0, 0, 0, 0, 0), some (.iaload, 0, 0, 0, 0, 0), some (.iconst 1, 0, 0, 0, 1, 0), some (.iadd, 0, 0, 0, 0, 0), some (.goto 4, 59, 0, 0, 0, 0), none, none, some (.iload_n 1, 0, 0, 0, 0, 0), some (.istore_n 1, 0, 0, 0, 0, 0), some (.iload_n 2, 0, 0, 0, 0, 0), some (.ifCond .eq 20, 81, 0, 0, 0, 0), none, none, some (.aload_n 0, 0, 0, 0, 0, 0), some (.getfield 38, 6, 10, 2, 0, 0), none, none, some (.iload_n 3, 0, 0, 0, 0, 0), some (.laload, 0, 0, 0, 0, 0), some (.ldc2_w 79, 0, 0, 0, 0, 1000000), none, none, some (.lcmp, 0, 0, 0, 0, 0), some (.ifCond .gt 7, 81, 0, 0, 0, 0), none, none, some (.iconst 1, 0, 0, 0, 1, 0), some (.goto 4, 82, 0, 0, 0, 0), none, none, some (.iconst 0, 0, 0, 0, 0, 0), some (.istore_n 2, 0, 0, 0, 0, 0), some (.iinc 3 1, 0, 0, 0, 1, 0), none, none, some (.goto (-67), 19, 0, 0, 0, 0), none, none, some (.iload_n 2, 0, 0, 0, 0, 0), some (.ifCond .eq 8, 98, 0, 0, 0, 0), none, none, some (.iload_n 1, 0, 0, 0, 0, 0), some (.iconst 5, 0, 0, 0, 5, 0), some (.if_icmp .le 5, 100, 0, 0, 0, 0), none, none, some (.iconst (-1), 0, 0, 0, (-1), 0), some (.ireturn, 1, 0, 0, 0, 0), some (.iconst 0, 0, 0, 0, 0, 0), some (.istore_n 3, 0, 0, 0, 0, 0), some (.iload_n 3, 0, 0, 0, 0, 0), some (.aload_n 0, 0, 0, 0, 0, 0), some (.getfield 28, 6, 7, 0, 0, 0), none, none, some (.if_icmp .ge 19, 126, 0, 0, 0, 0), none, none, some (.aload_n 0, 0, 0, 0, 0, 0), some (.iload_n 3, 0, 0, 0, 0, 0), some (.invokevirtual 81, 122, 2, 6, 0, 0), none, none, some (.ifCond .eq 5, 120, 0, 0, 0, 0), none, none, some (.iload_n 3, 0, 0, 0, 0, 0), some (.ireturn, 1, 0, 0, 0, 0), some (.iinc 3 1, 0, 0, 0, 1, 0), none, none, some (.goto (-21), 102, 0, 0, 0, 0), none, none, some (.iconst 0, 0, 0, 0, 0, 0), some (.istore_n 3, 0, 0, 0, 0, 0), some (.iload_n 3, 0, 0, 0, 0, 0), some (.aload_n 0, 0, 0, 0, 0, 0), some (.getfield 76, 6, 11, 0, 0, 0), none, none, some (.if_icmp .ge 50, 183, 0, 0, 0, 0), none, none, some (.aload_n 0, 0, 0, 0, 0, 0), some (.getfield 16, 6, 3, 2, 0, 0), none, none, some (.bipush 8, 0, 0, 0, 8, 0), none, some (.aload_n 0, 0, 0, 0, 0, 0), some (.getfield 28, 6, 7, 0, 0, 0), none, none, some (.imul, 0, 0, 0, 0, 0), some (.iload_n 3, 0, 0, 0, 0, 0), some (.iadd, 0, 0, 0, 0, 0), some (.aload_n 0, 0, 0, 0, 0, 0), some (.getfield 35, 6, 9, 2, 0, 0), none, none, some (.iload_n 3, 0, 0, 0, 0, 0), some (.iaload, 0, 0, 0, 0, 0), some (.iastore, 0, 0, 0, 0, 0), some (.aload_n 0, 0, 0, 0, 0, 0), some (.getfield 19, 6, 4, 2, 0, 0), none, none, some (.bipush 8, 0, 0, 0, 8, 0), none, some (.aload_n 0, 0, 0, 0, 0, 0), some (.getfield 28, 6, 7, 0, 0, 0), none, none, some (.imul, 0, 0, 0, 0, 0), some (.iload_n 3, 0, 0, 0, 0, 0), some (.iadd, 0, 0, 0, 0, 0), some (.aload_n 0, 0, 0, 0, 0, 0), some (.getfield 38, 6, 10, 2, 0, 0), none, none, some (.iload_n 3, 0, 0, 0, 0, 0), some (.laload, 0, 0, 0, 0, 0), some (.l2i, 0, 0, 0, 0, 0), some (.iastore, 0, 0, 0, 0, 0), some (.iinc 3 1, 0, 0, 0, 1, 0), none, none, some (.goto (-52), 128, 0, 0, 0, 0), none, none, some (.aload_n 0, 0, 0, 0, 0, 0), some (.getfield 22, 6, 5, 2, 0, 0), none, none, some (.aload_n 0, 0, 0, 0, 0, 0), some (.getfield 28, 6, 7, 0, 0, 0), none, none, some (.aload_n 0, 0, 0, 0, 0, 0), some (.getfield 76, 6, 11, 0, 0, 0), none, none, some (.iastore, 0, 0, 0, 0, 0), some (.aload_n 0, 0, 0, 0, 0, 0), some (.getfield 25, 6, 6, 2, 0, 0), none, none, some (.aload_n 0, 0, 0, 0, 0, 0), some (.getfield 28, 6, 7, 0, 0, 0), none, none, some (.iload_n 1, 0, 0, 0, 0, 0), some (.iastore, 0, 0, 0, 0, 0), some (.aload_n 0, 0, 0, 0, 0, 0), some (.dup, 0, 0, 0, 0, 0), some (.getfield 28, 6, 7, 0, 0, 0), none, none, some (.iconst 1, 0, 0, 0, 1, 0), some (.iadd, 0, 0, 0, 0, 0), some (.putfield 28, 6, 7, 0, 0, 0), none, none, some (.aload_n 0, 0, 0, 0, 0, 0), some (.getfield 28, 6, 7, 0, 0, 0), none, none, some (.iconst 1, 0, 0, 0, 1, 0), some (.isub, 0, 0, 0, 0, 0), some (.ireturn, 1, 0, 0, 0, 0)]
def tb_X7_gathers : List (Option XI) := [some (.aload_n 0, 0, 0, 0, 0, 0), some (.getfield 28, 6, 7, 0, 0, 0), none, none, some (.sipush 1500, 0, 0, 0, 1500, 0), none, none, some (.if_icmp .ge 4, 11, 0, 0, 0, 0), none, none, some (.return_, 0, 0, 0, 0, 0), some (.iconst 0, 0, 0, 0, 0, 0), some (.istore_n 1, 0, 0, 0, 0, 0), some (.iload_n 1, 0, 0, 0, 0, 0), some (.aload_n 0, 0, 0, 0, 0, 0), some (.getfield 28, 6, 7, 0, 0, 0), none, none, some (.if_icmp .ge 32, 50, 0, 0, 0, 0), none, none, some (.aload_n 0, 0, 0, 0, 0, 0), some (.getfield 32, 6, 8, 2, 0, 0), none, none, some (.iload_n 1, 0, 0, 0, 0, 0), some (.iload_n 1, 0, 0, 0, 0, 0), some (.ifCond .eq 11, 38, 0, 0, 0, 0), none, none, some (.iload_n 1, 0, 0, 0, 0, 0), some (.aload_n 0, 0, 0, 0, 0, 0), some (.getfield 84, 6, 15, 0, 0, 0), none, none, some (.if_icmp .ne 7, 42, 0, 0, 0, 0), none, none, some (.iconst 1, 0, 0, 0, 1, 0), some (.goto 4, 43, 0, 0, 0, 0), none, none, some (.iconst 0, 0, 0, 0, 0, 0), some (.iastore, 0, 0, 0, 0, 0), some (.iinc 1 1, 0, 0, 0, 1, 0), none, none, some (.goto (-34), 13, 0, 0, 0, 0), none, none, some (.iconst 0, 0, 0, 0, 0, 0), some (.istore_n 1, 0, 0, 0, 0, 0), some (.iload_n 1, 0, 0, 0, 0, 0), some (.bipush 16, 0, 0, 0, 16, 0), none, some (.if_icmp .ge 31, 86, 0, 0, 0, 0), none, none, some (.aload_n 0, 0, 0, 0, 0, 0), some (.getfield 7, 6, 1, 2, 0, 0), none, none, some (.iload_n 1, 0, 0, 0, 0, 0), some (.iaload, 0, 0, 0, 0, 0), some (.iconst 1, 0, 0, 0, 1, 0), some (.if_icmp .ne 15, 80, 0, 0, 0, 0), none, none, some (.aload_n 0, 0, 0, 0, 0, 0), some (.getfield 32, 6, 8, 2, 0, 0), none, none, some (.aload_n 0, 0, 0, 0, 0, 0), some (.getfield 13, 6, 2, 2, 0, 0), none, none, some (.iload_n 1, 0, 0, 0, 0, 0), some (.iaload, 0, 0, 0, 0, 0), some (.iconst 1, 0, 0, 0, 1, 0), some (.iastore, 0, 0, 0, 0, 0), some (.iinc 1 1, 0, 0, 0, 1, 0), none, none, some (.goto (-31), 52, 0, 0, 0, 0), none, none, some (.aload_n 0, 0, 0, 0, 0, 0), some (.getfield 28, 6, 7, 0, 0, 0), none, none, some (.iconst 1, 0, 0, 0, 1, 0), some (.isub, 0, 0, 0, 0, 0), some (.istore_n 1, 0, 0, 0, 0, 0), some (.iload_n 1, 0, 0, 0, 0, 0), some (.ifCond .le 57, 151, 0, 0, 0, 0), none, none, some (.bipush 8, 0, 0, 0, 8, 0), none, some (.iload_n 1, 0, 0, 0, 0, 0), some (.imul, 0, 0, 0, 0, 0), some (.istore_n 2, 0, 0, 0, 0, 0), some (.iload_n 2, 0, 0, 0, 0, 0), some (.bipush 8, 0, 0, 0, 8, 0), none, some (.iload_n 1, 0, 0, 0, 0, 0), some (.imul, 0, 0, 0, 0, 0), some (.aload_n 0, 0, 0, 0, 0, 0), some (.getfield 22, 6, 5, 2, 0, 0), none, none, some (.iload_n 1, 0, 0, 0, 0, 0), some (.iaload, 0, 0, 0, 0, 0), some (.iadd, 0, 0, 0, 0, 0), some (.if_icmp .ge 31, 145, 0, 0, 0, 0), none, none, some (.aload_n 0, 0, 0, 0, 0, 0), some (.getfield 32, 6, 8, 2, 0, 0), none, none, some (.iload_n 1, 0, 0, 0, 0, 0), some (.iaload, 0, 0, 0, 0, 0), some (.iconst 1, 0, 0, 0, 1, 0), some (.if_icmp .ne 21, 145, 0, 0, 0, 0), none, none, some (.aload_n 0, 0, 0, 0, 0, 0), some (.getfield 32, 6, 8, 2, 0, 0), none, none, some (.aload_n 0, 0, 0, 0, 0, 0), some (.getfield 16, 6, 3, 2, 0, 0), none, none, some (.iload_n 2, 0, 0, 0, 0, 0), some (.iaload, 0, 0, 0, 0, 0), some (.iconst 1, 0, 0, 0, 1, 0), some (.iastore, 0, 0, 0, 0, 0), some (.iinc 2 1, 0, 0, 0, 1, 0), none, none, some (.goto (-40), 102, 0, 0, 0, 0), none, none, some (.iinc 1 (-1), 0, 0, 0, (-1), 0), none, none, some (.goto (-55), 93, 0, 0, 0, 0), none, none, some (.iconst 0, 0, 0, 0, 0, 0), some (.istore_n 1, 0, 0, 0, 0, 0), some (.iconst 0, 0, 0, 0, 0, 0), some (.istore_n 2, 0, 0, 0, 0, 0), some (.iload_n 2, 0, 0, 0, 0, 0), some (.aload_n 0, 0, 0, 0, 0, 0), some (.getfield 28, 6, 7, 0, 0, 0), none, none, some (.if_icmp .ge 120, 280, 0, 0, 0, 0), none, none, some (.aload_n 0, 0, 0, 0, 0, 0), some (.getfield 32, 6, 8, 2, 0, 0), none, none, some (.iload_n 2, 0, 0, 0, 0, 0), some (.iaload, 0, 0, 0, 0, 0), some (.iconst 1, 0, 0, 0, 1, 0), some (.if_icmp .ne 104, 274, 0, 0, 0, 0), none, none, some (.iconst 0, 0, 0, 0, 0, 0), some (.istore_n 3, 0, 0, 0, 0, 0), some (.iload_n 3, 0, 0, 0, 0, 0), some (.aload_n 0, 0, 0, 0, 0, 0), some (.getfield 22, 6, 5, 2, 0, 0), none, none, some (.iload_n 2, 0, 0, 0, 0, 0), some (.iaload, 0, 0, 0, 0, 0), some (.if_icmp .ge 58, 240, 0, 0, 0, 0), none, none, some (.aload_n 0, 0, 0, 0, 0, 0), some (.getfield 16, 6, 3, 2, 0, 0), none, none, some (.bipush 8, 0, 0, 0, 8, 0), none, some (.iload_n 1, 0, 0, 0, 0, 0), some (.imul, 0, 0, 0, 0, 0), some (.iload_n 3, 0, 0, 0, 0, 0), some (.iadd, 0, 0, 0, 0, 0), some (.aload_n 0, 0, 0, 0, 0, 0), some (.getfield 32, 6, 8, 2, 0, 0), none, none, some (.aload_n 0, 0, 0, 0, 0, 0), some (.getfield 16, 6, 3, 2, 0, 0), none, none, some (.bipush 8, 0, 0, 0, 8, 0), none, some (.iload_n 2, 0, 0, 0, 0, 0), some (.imul, 0, 0, 0, 0, 0), some (.iload_n 3, 0, 0, 0, 0, 0), some (.iadd, 0, 0, 0, 0, 0), some (.iaload, 0, 0, 0, 0, 0), some (.iaload, 0, 0, 0, 0, 0), some (.iastore, 0, 0, 0, 0, 0), some (.aload_n 0, 0, 0, 0, 0, 0), some (.getfield 19, 6, 4, 2, 0, 0), none, none, some (.bipush 8, 0, 0, 0, 8, 0), none, some (.iload_n 1, 0, 0, 0, 0, 0), some (.imul, 0, 0, 0, 0, 0), some (.iload_n 3, 0, 0, 0, 0, 0), some (.iadd, 0, 0, 0, 0, 0), some (.aload_n 0, 0, 0, 0, 0, 0), some (.getfield 19, 6, 4, 2, 0, 0), none, none, some (.bipush 8, 0, 0, 0, 8, 0), none, some (.iload_n 2, 0, 0, 0, 0, 0), some (.imul, 0, 0, 0, 0, 0), some (.iload_n 3, 0, 0, 0, 0, 0), some (.iadd, 0, 0, 0, 0, 0), some (.iaload, 0, 0, 0, 0, 0), some (.iastore, 0, 0, 0, 0, 0), some (.iinc 3 1, 0, 0, 0, 1, 0), none, none, some (.goto (-62), 175, 0, 0, 0, 0), none, none, some (.aload_n 0, 0, 0, 0, 0, 0), some (.getfield 22, 6, 5, 2, 0, 0), none, none, some (.iload_n 1, 0, 0, 0, 0, 0), some (.aload_n 0, 0, 0, 0, 0, 0), some (.getfield 22, 6, 5, 2, 0, 0), none, none, some (.iload_n 2, 0, 0, 0, 0, 0), some (.iaload, 0, 0, 0, 0, 0), some (.iastore, 0, 0, 0, 0, 0), some (.aload_n 0, 0, 0, 0, 0, 0), some (.getfield 25, 6, 6, 2, 0, 0), none, none, some (.iload_n 1, 0, 0, 0, 0, 0), some (.aload_n 0, 0, 0, 0, 0, 0), some (.getfield 25, 6, 6, 2, 0, 0), none, none, some (.iload_n 2, 0, 0, 0, 0, 0), some (.iaload, 0, 0, 0, 0, 0), some (.iastore, 0, 0, 0, 0, 0), some (.aload_n 0, 0, 0, 0, 0, 0), some (.getfield 32, 6, 8, 2, 0, 0), none, none, some (.iload_n 2, 0, 0, 0, 0, 0), some (.iload_n 1, 0, 0, 0, 0, 0), some (.iastore, 0, 0, 0, 0, 0), some (.iinc 1 1, 0, 0, 0, 1, 0), none, none, some (.iinc 2 1, 0, 0, 0, 1, 0), none, none, some (.goto (-122), 155, 0, 0, 0, 0), none, none, some (.aload_n 0, 0, 0, 0, 0, 0), some (.iload_n 1, 0, 0, 0, 0, 0), some (.putfield 28, 6, 7, 0, 0, 0), none, none, some (.aload_n 0, 0, 0, 0, 0, 0), some (.aload_n 0, 0, 0, 0, 0, 0), some (.getfield 32, 6, 8, 2, 0, 0), none, none, some (.aload_n 0, 0, 0, 0, 0, 0), some (.getfield 84, 6, 15, 0, 0, 0), none, none, some (.iaload, 0, 0, 0, 0, 0), some (.putfield 84, 6, 15, 0, 0, 0), none, none, some (.iconst 0, 0, 0, 0, 0, 0), some (.istore_n 2, 0, 0, 0, 0, 0), some (.iload_n 2, 0, 0, 0, 0, 0), some (.bipush 16, 0, 0, 0, 16, 0), none, some (.if_icmp .ge 45, 348, 0, 0, 0, 0), none, none, some (.aload_n 0, 0, 0, 0, 0, 0), some (.getfield 13, 6, 2, 2, 0, 0), none, none, some (.iload_n 2, 0, 0, 0, 0, 0), some (.aload_n 0, 0, 0, 0, 0, 0), some (.getfield 7, 6, 1, 2, 0, 0), none, none, some (.iload_n 2, 0, 0, 0, 0, 0), some (.iaload, 0, 0, 0, 0, 0), some (.iconst 1, 0, 0, 0, 1, 0), some (.if_icmp .ne 17, 335, 0, 0, 0, 0), none, none, some (.aload_n 0, 0, 0, 0, 0, 0), some (.getfield 32, 6, 8, 2, 0, 0), none, none, some (.aload_n 0, 0, 0, 0, 0, 0), some (.getfield 13, 6, 2, 2, 0, 0), none, none, some (.iload_n 2, 0, 0, 0, 0, 0), some (.iaload, 0, 0, 0, 0, 0), some (.iaload, 0, 0, 0, 0, 0), some (.goto 9, 341, 0, 0, 0, 0), none, none, some (.aload_n 0, 0, 0, 0, 0, 0), some (.getfield 13, 6, 2, 2, 0, 0), none, none, some (.iload_n 2, 0, 0, 0, 0, 0), some (.iaload, 0, 0, 0, 0, 0), some (.iastore, 0, 0, 0, 0, 0), some (.iinc 2 1, 0, 0, 0, 1, 0), none, none, some (.goto (-45), 300, 0, 0, 0, 0), none, none, some (.return_, 0, 0, 0, 0, 0)]
def tb_X7_summed : List (Option XI) := [some (.iload_n 2, 0, 0, 0, 0, 0), some (.ifCond .ne 5, 6, 0, 0, 0, 0), none, none, some (.iload_n 1, 0, 0, 0, 0, 0), some (.ireturn, 1, 0, 0, 0, 0), some (.aload_n 0, 0, 0, 0, 0, 0), some (.iconst 0, 0, 0, 0, 0, 0), some (.putfield 76, 6, 11, 0, 0, 0), none, none, some (.lconst 0, 0, 0, 0, 0, 0), some (.lstore_n 3, 0, 0, 0, 0, 0), some (.aload_n 0, 0, 0, 0, 0, 0), some (.getfield 16, 6, 3, 2, 0, 0), none, none, some (.bipush 8, 0, 0, 0, 8, 0), none, some (.iload_n 2, 0, 0, 0, 0, 0), some (.imul, 0, 0, 0, 0, 0), some (.iaload, 0, 0, 0, 0, 0), some (.istore 5, 0, 0, 0, 0, 0), none, some (.bipush 8, 0, 0, 0, 8, 0), none, some (.iload_n 1, 0, 0, 0, 0, 0), some (.imul, 0, 0, 0, 0, 0), some (.istore 6, 0, 0, 0, 0, 0), none, some (.iload 6, 0, 0, 0, 0, 0), none, some (.bipush 8, 0, 0, 0, 8, 0), none, some (.iload_n 1, 0, 0, 0, 0, 0), some (.imul, 0, 0, 0, 0, 0), some (.aload_n 0, 0, 0, 0, 0, 0), some (.getfield 22, 6, 5, 2, 0, 0), none, none, some (.iload_n 1, 0, 0, 0, 0, 0), some (.iaload, 0, 0, 0, 0, 0), some (.iadd, 0, 0, 0, 0, 0), some (.if_icmp .ge 69, 112, 0, 0, 0, 0), none, none, some (.aload_n 0, 0, 0, 0, 0, 0), some (.aload_n 0, 0, 0, 0, 0, 0), some (.getfield 16, 6, 3, 2, 0, 0), none, none, some (.iload 6, 0, 0, 0, 0, 0), none, some (.iaload, 0, 0, 0, 0, 0), some (.iload 5, 0, 0, 0, 0, 0), none, some (.invokevirtual 87, 120, 3, 6, 0, 0), none, none, some (.ifCond .le 22, 81, 0, 0, 0, 0), none, none, some (.aload_n 0, 0, 0, 0, 0, 0), some (.aload_n 0, 0, 0, 0, 0, 0), some (.getfield 16, 6, 3, 2, 0, 0), none, none, some (.iload 6, 0, 0, 0, 0, 0), none, some (.iaload, 0, 0, 0, 0, 0), some (.aload_n 0, 0, 0, 0, 0, 0), some (.getfield 19, 6, 4, 2, 0, 0), none, none, some (.iload 6, 0, 0, 0, 0, 0), none, some (.iaload, 0, 0, 0, 0, 0), some (.i2l, 0, 0, 0, 0, 0), some (.invokevirtual 91, 121, 3, 6, 0, 0), none, none, some (.aload_n 0, 0, 0, 0, 0, 0), some (.getfield 16, 6, 3, 2, 0, 0), none, none, some (.iload 6, 0, 0, 0, 0, 0), none, some (.iaload, 0, 0, 0, 0, 0), some (.iload 5, 0, 0, 0, 0, 0), none, some (.if_icmp .ne 14, 104, 0, 0, 0, 0), none, none, some (.aload_n 0, 0, 0, 0, 0, 0), some (.getfield 19, 6, 4, 2, 0, 0), none, none, some (.iload 6, 0, 0, 0, 0, 0), none, some (.iaload, 0, 0, 0, 0, 0), some (.i2l, 0, 0, 0, 0, 0), some (.goto 4, 105, 0, 0, 0, 0), none, none, some (.lload_n 3, 0, 0, 0, 0, 0), some (.lstore_n 3, 0, 0, 0, 0, 0), some (.iinc 6 1, 0, 0, 0, 1, 0), none, none, some (.goto (-79), 30, 0, 0, 0, 0), none, none, some (.aload_n 0, 0, 0, 0, 0, 0), some (.iload 5, 0, 0, 0, 0, 0), none, some (.lload_n 3, 0, 0, 0, 0, 0), some (.aload_n 0, 0, 0, 0, 0, 0), some (.getfield 19, 6, 4, 2, 0, 0), none, none, some (.bipush 8, 0, 0, 0, 8, 0), none, some (.iload_n 2, 0, 0, 0, 0, 0), some (.imul, 0, 0, 0, 0, 0), some (.iaload, 0, 0, 0, 0, 0), some (.i2l, 0, 0, 0, 0, 0), some (.ladd, 0, 0, 0, 0, 0), some (.invokevirtual 91, 121, 3, 6, 0, 0), none, none, some (.bipush 8, 0, 0, 0, 8, 0), none, some (.iload_n 2, 0, 0, 0, 0, 0), some (.imul, 0, 0, 0, 0, 0), some (.iconst 1, 0, 0, 0, 1, 0), some (.iadd, 0, 0, 0, 0, 0), some (.istore 6, 0, 0, 0, 0, 0), none, some (.iload 6, 0, 0, 0, 0, 0), none, some (.bipush 8, 0, 0, 0, 8, 0), none, some (.iload_n 2, 0, 0, 0, 0, 0), some (.imul, 0, 0, 0, 0, 0), some (.aload_n 0, 0, 0, 0, 0, 0), some (.getfield 22, 6, 5, 2, 0, 0), none, none, some (.iload_n 2, 0, 0, 0, 0, 0), some (.iaload, 0, 0, 0, 0, 0), some (.iadd, 0, 0, 0, 0, 0), some (.if_icmp .ge 28, 179, 0, 0, 0, 0), none, none, some (.aload_n 0, 0, 0, 0, 0, 0), some (.aload_n 0, 0, 0, 0, 0, 0), some (.getfield 16, 6, 3, 2, 0, 0), none, none, some (.iload 6, 0, 0, 0, 0, 0), none, some (.iaload, 0, 0, 0, 0, 0), some (.aload_n 0, 0, 0, 0, 0, 0), some (.getfield 19, 6, 4, 2, 0, 0), none, none, some (.iload 6, 0, 0, 0, 0, 0), none, some (.iaload, 0, 0, 0, 0, 0), some (.i2l, 0, 0, 0, 0, 0), some (.invokevirtual 91, 121, 3, 6, 0, 0), none, none, some (.iinc 6 1, 0, 0, 0, 1, 0), none, none, some (.goto (-38), 138, 0, 0, 0, 0), none, none, some (.aload_n 0, 0, 0, 0, 0, 0), some (.invokevirtual 95, 123, 1, 6, 0, 0), none, none, some (.ireturn, 1, 0, 0, 0, 0)]
def tb_X7_summedNaturally : List (Option XI) := [some (.aload_n 0, 0, 0, 0, 0, 0), some (.iconst 0, 0, 0, 0, 0, 0), some (.putfield 76, 6, 11, 0, 0, 0), none, none, some (.bipush 8, 0, 0, 0, 8, 0), none, some (.iload_n 1, 0, 0, 0, 0, 0), some (.imul, 0, 0, 0, 0, 0), some (.istore_n 3, 0, 0, 0, 0, 0), some (.bipush 8, 0, 0, 0, 8, 0), none, some (.iload_n 2, 0, 0, 0, 0, 0), some (.imul, 0, 0, 0, 0, 0), some (.istore 4, 0, 0, 0, 0, 0), none, some (.iload_n 3, 0, 0, 0, 0, 0), some (.bipush 8, 0, 0, 0, 8, 0), none, some (.iload_n 1, 0, 0, 0, 0, 0), some (.imul, 0, 0, 0, 0, 0), some (.aload_n 0, 0, 0, 0, 0, 0), some (.getfield 22, 6, 5, 2, 0, 0), none, none, some (.iload_n 1, 0, 0, 0, 0, 0), some (.iaload, 0, 0, 0, 0, 0), some (.iadd, 0, 0, 0, 0, 0), some (.if_icmp .lt 19, 47, 0, 0, 0, 0), none, none, some (.iload 4, 0, 0, 0, 0, 0), none, some (.bipush 8, 0, 0, 0, 8, 0), none, some (.iload_n 2, 0, 0, 0, 0, 0), some (.imul, 0, 0, 0, 0, 0), some (.aload_n 0, 0, 0, 0, 0, 0), some (.getfield 22, 6, 5, 2, 0, 0), none, none, some (.iload_n 2, 0, 0, 0, 0, 0), some (.iaload, 0, 0, 0, 0, 0), some (.iadd, 0, 0, 0, 0, 0), some (.if_icmp .ge 170, 214, 0, 0, 0, 0), none, none, some (.iload_n 3, 0, 0, 0, 0, 0), some (.bipush 8, 0, 0, 0, 8, 0), none, some (.iload_n 1, 0, 0, 0, 0, 0), some (.imul, 0, 0, 0, 0, 0), some (.aload_n 0, 0, 0, 0, 0, 0), some (.getfield 22, 6, 5, 2, 0, 0), none, none, some (.iload_n 1, 0, 0, 0, 0, 0), some (.iaload, 0, 0, 0, 0, 0), some (.iadd, 0, 0, 0, 0, 0), some (.if_icmp .ne 7, 66, 0, 0, 0, 0), none, none, some (.iconst (-1), 0, 0, 0, (-1), 0), some (.goto 40, 103, 0, 0, 0, 0), none, none, some (.iload 4, 0, 0, 0, 0, 0), none, some (.bipush 8, 0, 0, 0, 8, 0), none, some (.iload_n 2, 0, 0, 0, 0, 0), some (.imul, 0, 0, 0, 0, 0), some (.aload_n 0, 0, 0, 0, 0, 0), some (.getfield 22, 6, 5, 2, 0, 0), none, none, some (.iload_n 2, 0, 0, 0, 0, 0), some (.iaload, 0, 0, 0, 0, 0), some (.iadd, 0, 0, 0, 0, 0), some (.if_icmp .ne 7, 86, 0, 0, 0, 0), none, none, some (.iconst 1, 0, 0, 0, 1, 0), some (.goto 20, 103, 0, 0, 0, 0), none, none, some (.aload_n 0, 0, 0, 0, 0, 0), some (.aload_n 0, 0, 0, 0, 0, 0), some (.getfield 16, 6, 3, 2, 0, 0), none, none, some (.iload_n 3, 0, 0, 0, 0, 0), some (.iaload, 0, 0, 0, 0, 0), some (.aload_n 0, 0, 0, 0, 0, 0), some (.getfield 16, 6, 3, 2, 0, 0), none, none, some (.iload 4, 0, 0, 0, 0, 0), none, some (.iaload, 0, 0, 0, 0, 0), some (.invokevirtual 87, 120, 3, 6, 0, 0), none, none, some (.istore 5, 0, 0, 0, 0, 0), none, some (.iload 5, 0, 0, 0, 0, 0), none, some (.ifCond .le 23, 130, 0, 0, 0, 0), none, none, some (.aload_n 0, 0, 0, 0, 0, 0), some (.aload_n 0, 0, 0, 0, 0, 0), some (.getfield 16, 6, 3, 2, 0, 0), none, none, some (.iload_n 3, 0, 0, 0, 0, 0), some (.iaload, 0, 0, 0, 0, 0), some (.aload_n 0, 0, 0, 0, 0, 0), some (.getfield 19, 6, 4, 2, 0, 0), none, none, some (.iload_n 3, 0, 0, 0, 0, 0), some (.iaload, 0, 0, 0, 0, 0), some (.i2l, 0, 0, 0, 0, 0), some (.invokevirtual 91, 121, 3, 6, 0, 0), none, none, some (.goto 56, 183, 0, 0, 0, 0), none, none, some (.iload 5, 0, 0, 0, 0, 0), none, some (.ifCond .ge 25, 157, 0, 0, 0, 0), none, none, some (.aload_n 0, 0, 0, 0, 0, 0), some (.aload_n 0, 0, 0, 0, 0, 0), some (.getfield 16, 6, 3, 2, 0, 0), none, none, some (.iload 4, 0, 0, 0, 0, 0), none, some (.iaload, 0, 0, 0, 0, 0), some (.aload_n 0, 0, 0, 0, 0, 0), some (.getfield 19, 6, 4, 2, 0, 0), none, none, some (.iload 4, 0, 0, 0, 0, 0), none, some (.iaload, 0, 0, 0, 0, 0), some (.i2l, 0, 0, 0, 0, 0), some (.invokevirtual 91, 121, 3, 6, 0, 0), none, none, some (.goto 29, 183, 0, 0, 0, 0), none, none, some (.aload_n 0, 0, 0, 0, 0, 0), some (.aload_n 0, 0, 0, 0, 0, 0), some (.getfield 16, 6, 3, 2, 0, 0), none, none, some (.iload_n 3, 0, 0, 0, 0, 0), some (.iaload, 0, 0, 0, 0, 0), some (.aload_n 0, 0, 0, 0, 0, 0), some (.getfield 19, 6, 4, 2, 0, 0), none, none, some (.iload_n 3, 0, 0, 0, 0, 0), some (.iaload, 0, 0, 0, 0, 0), some (.i2l, 0, 0, 0, 0, 0), some (.aload_n 0, 0, 0, 0, 0, 0), some (.getfield 19, 6, 4, 2, 0, 0), none, none, some (.iload 4, 0, 0, 0, 0, 0), none, some (.iaload, 0, 0, 0, 0, 0), some (.i2l, 0, 0, 0, 0, 0), some (.ladd, 0, 0, 0, 0, 0), some (.invokevirtual 91, 121, 3, 6, 0, 0), none, none, some (.iload_n 3, 0, 0, 0, 0, 0), some (.iload 5, 0, 0, 0, 0, 0), none, some (.ifCond .lt 7, 193, 0, 0, 0, 0), none, none, some (.iconst 1, 0, 0, 0, 1, 0), some (.goto 4, 194, 0, 0, 0, 0), none, none, some (.iconst 0, 0, 0, 0, 0, 0), some (.iadd, 0, 0, 0, 0, 0), some (.istore_n 3, 0, 0, 0, 0, 0), some (.iload 4, 0, 0, 0, 0, 0), none, some (.iload 5, 0, 0, 0, 0, 0), none, some (.ifCond .gt 7, 207, 0, 0, 0, 0), none, none, some (.iconst 1, 0, 0, 0, 1, 0), some (.goto 4, 208, 0, 0, 0, 0), none, none, some (.iconst 0, 0, 0, 0, 0, 0), some (.iadd, 0, 0, 0, 0, 0), some (.istore 4, 0, 0, 0, 0, 0), none, some (.goto (-195), 16, 0, 0, 0, 0), none, none, some (.aload_n 0, 0, 0, 0, 0, 0), some (.invokevirtual 95, 123, 1, 6, 0, 0), none, none, some (.ireturn, 1, 0, 0, 0, 0)]
def tb_X7_multiplied : List (Option XI) := [some (.iload_n 1, 0, 0, 0, 0, 0), some (.ifCond .eq 7, 8, 0, 0, 0, 0), none, none, some (.iload_n 2, 0, 0, 0, 0, 0), some (.ifCond .ne 5, 10, 0, 0, 0, 0), none, none, some (.iconst 0, 0, 0, 0, 0, 0), some (.ireturn, 1, 0, 0, 0, 0), some (.iconst 0, 0, 0, 0, 0, 0), some (.istore_n 3, 0, 0, 0, 0, 0), some (.iload_n 3, 0, 0, 0, 0, 0), some (.aload_n 0, 0, 0, 0, 0, 0), some (.getfield 22, 6, 5, 2, 0, 0), none, none, some (.iload_n 2, 0, 0, 0, 0, 0), some (.iaload, 0, 0, 0, 0, 0), some (.if_icmp .ge 64, 83, 0, 0, 0, 0), none, none, some (.aload_n 0, 0, 0, 0, 0, 0), some (.getfield 16, 6, 3, 2, 0, 0), none, none, some (.bipush 8, 0, 0, 0, 8, 0), none, some (.iload_n 2, 0, 0, 0, 0, 0), some (.imul, 0, 0, 0, 0, 0), some (.iload_n 3, 0, 0, 0, 0, 0), some (.iadd, 0, 0, 0, 0, 0), some (.iaload, 0, 0, 0, 0, 0), some (.istore 4, 0, 0, 0, 0, 0), none, some (.aload_n 0, 0, 0, 0, 0, 0), some (.getfield 42, 6, 12, 2, 0, 0), none, none, some (.iload_n 3, 0, 0, 0, 0, 0), some (.iload 4, 0, 0, 0, 0, 0), none, some (.ifCond .ne 7, 49, 0, 0, 0, 0), none, none, some (.iconst 0, 0, 0, 0, 0, 0), some (.goto 18, 64, 0, 0, 0, 0), none, none, some (.aload_n 0, 0, 0, 0, 0, 0), some (.aload_n 0, 0, 0, 0, 0, 0), some (.getfield 16, 6, 3, 2, 0, 0), none, none, some (.bipush 8, 0, 0, 0, 8, 0), none, some (.iload_n 1, 0, 0, 0, 0, 0), some (.imul, 0, 0, 0, 0, 0), some (.iaload, 0, 0, 0, 0, 0), some (.iload 4, 0, 0, 0, 0, 0), none, some (.invokevirtual 99, 125, 3, 6, 0, 0), none, none, some (.iastore, 0, 0, 0, 0, 0), some (.aload_n 0, 0, 0, 0, 0, 0), some (.getfield 42, 6, 12, 2, 0, 0), none, none, some (.iload_n 3, 0, 0, 0, 0, 0), some (.iaload, 0, 0, 0, 0, 0), some (.iconst (-1), 0, 0, 0, (-1), 0), some (.if_icmp .ne 5, 77, 0, 0, 0, 0), none, none, some (.iconst (-1), 0, 0, 0, (-1), 0), some (.ireturn, 1, 0, 0, 0, 0), some (.iinc 3 1, 0, 0, 0, 1, 0), none, none, some (.goto (-68), 12, 0, 0, 0, 0), none, none, some (.aload_n 0, 0, 0, 0, 0, 0), some (.iconst 0, 0, 0, 0, 0, 0), some (.putfield 76, 6, 11, 0, 0, 0), none, none, some (.iconst 0, 0, 0, 0, 0, 0), some (.istore_n 3, 0, 0, 0, 0, 0), some (.iload_n 3, 0, 0, 0, 0, 0), some (.aload_n 0, 0, 0, 0, 0, 0), some (.getfield 22, 6, 5, 2, 0, 0), none, none, some (.iload_n 2, 0, 0, 0, 0, 0), some (.iaload, 0, 0, 0, 0, 0), some (.if_icmp .ge 45, 142, 0, 0, 0, 0), none, none, some (.aload_n 0, 0, 0, 0, 0, 0), some (.getfield 16, 6, 3, 2, 0, 0), none, none, some (.bipush 8, 0, 0, 0, 8, 0), none, some (.iload_n 2, 0, 0, 0, 0, 0), some (.imul, 0, 0, 0, 0, 0), some (.iload_n 3, 0, 0, 0, 0, 0), some (.iadd, 0, 0, 0, 0, 0), some (.iaload, 0, 0, 0, 0, 0), some (.ifCond .eq 25, 136, 0, 0, 0, 0), none, none, some (.aload_n 0, 0, 0, 0, 0, 0), some (.aload_n 0, 0, 0, 0, 0, 0), some (.getfield 42, 6, 12, 2, 0, 0), none, none, some (.iload_n 3, 0, 0, 0, 0, 0), some (.iaload, 0, 0, 0, 0, 0), some (.aload_n 0, 0, 0, 0, 0, 0), some (.getfield 19, 6, 4, 2, 0, 0), none, none, some (.bipush 8, 0, 0, 0, 8, 0), none, some (.iload_n 2, 0, 0, 0, 0, 0), some (.imul, 0, 0, 0, 0, 0), some (.iload_n 3, 0, 0, 0, 0, 0), some (.iadd, 0, 0, 0, 0, 0), some (.iaload, 0, 0, 0, 0, 0), some (.i2l, 0, 0, 0, 0, 0), some (.invokevirtual 91, 121, 3, 6, 0, 0), none, none, some (.iinc 3 1, 0, 0, 0, 1, 0), none, none, some (.goto (-49), 90, 0, 0, 0, 0), none, none, some (.aload_n 0, 0, 0, 0, 0, 0), some (.getfield 16, 6, 3, 2, 0, 0), none, none, some (.aload_n 0, 0, 0, 0, 0, 0), some (.iload_n 2, 0, 0, 0, 0, 0), some (.invokevirtual 102, 119, 2, 6, 0, 0), none, none, some (.iaload, 0, 0, 0, 0, 0), some (.ifCond .ne 83, 235, 0, 0, 0, 0), none, none, some (.aload_n 0, 0, 0, 0, 0, 0), some (.aload_n 0, 0, 0, 0, 0, 0), some (.getfield 16, 6, 3, 2, 0, 0), none, none, some (.bipush 8, 0, 0, 0, 8, 0), none, some (.iload_n 1, 0, 0, 0, 0, 0), some (.imul, 0, 0, 0, 0, 0), some (.iaload, 0, 0, 0, 0, 0), some (.aload_n 0, 0, 0, 0, 0, 0), some (.getfield 19, 6, 4, 2, 0, 0), none, none, some (.bipush 8, 0, 0, 0, 8, 0), none, some (.iload_n 1, 0, 0, 0, 0, 0), some (.imul, 0, 0, 0, 0, 0), some (.iaload, 0, 0, 0, 0, 0), some (.i2l, 0, 0, 0, 0, 0), some (.aload_n 0, 0, 0, 0, 0, 0), some (.getfield 19, 6, 4, 2, 0, 0), none, none, some (.aload_n 0, 0, 0, 0, 0, 0), some (.iload_n 2, 0, 0, 0, 0, 0), some (.invokevirtual 102, 119, 2, 6, 0, 0), none, none, some (.iaload, 0, 0, 0, 0, 0), some (.i2l, 0, 0, 0, 0, 0), some (.lmul, 0, 0, 0, 0, 0), some (.invokevirtual 91, 121, 3, 6, 0, 0), none, none, some (.bipush 8, 0, 0, 0, 8, 0), none, some (.iload_n 1, 0, 0, 0, 0, 0), some (.imul, 0, 0, 0, 0, 0), some (.iconst 1, 0, 0, 0, 1, 0), some (.iadd, 0, 0, 0, 0, 0), some (.istore_n 3, 0, 0, 0, 0, 0), some (.iload_n 3, 0, 0, 0, 0, 0), some (.bipush 8, 0, 0, 0, 8, 0), none, some (.iload_n 1, 0, 0, 0, 0, 0), some (.imul, 0, 0, 0, 0, 0), some (.aload_n 0, 0, 0, 0, 0, 0), some (.getfield 22, 6, 5, 2, 0, 0), none, none, some (.iload_n 1, 0, 0, 0, 0, 0), some (.iaload, 0, 0, 0, 0, 0), some (.iadd, 0, 0, 0, 0, 0), some (.if_icmp .ge 26, 235, 0, 0, 0, 0), none, none, some (.aload_n 0, 0, 0, 0, 0, 0), some (.aload_n 0, 0, 0, 0, 0, 0), some (.getfield 16, 6, 3, 2, 0, 0), none, none, some (.iload_n 3, 0, 0, 0, 0, 0), some (.iaload, 0, 0, 0, 0, 0), some (.aload_n 0, 0, 0, 0, 0, 0), some (.getfield 19, 6, 4, 2, 0, 0), none, none, some (.iload_n 3, 0, 0, 0, 0, 0), some (.iaload, 0, 0, 0, 0, 0), some (.i2l, 0, 0, 0, 0, 0), some (.invokevirtual 91, 121, 3, 6, 0, 0), none, none, some (.iinc 3 1, 0, 0, 0, 1, 0), none, none, some (.goto (-35), 197, 0, 0, 0, 0), none, none, some (.aload_n 0, 0, 0, 0, 0, 0), some (.invokevirtual 95, 123, 1, 6, 0, 0), none, none, some (.ireturn, 1, 0, 0, 0, 0)]
def tb_X7_puts : List (Option XI) := [some (.aload_n 0, 0, 0, 0, 0, 0), some (.getfield 76, 6, 11, 0, 0, 0), none, none, some (.istore 4, 0, 0, 0, 0, 0), none, some (.iload 4, 0, 0, 0, 0, 0), none, some (.ifCond .le 39, 47, 0, 0, 0, 0), none, none, some (.aload_n 0, 0, 0, 0, 0, 0), some (.getfield 35, 6, 9, 2, 0, 0), none, none, some (.iload 4, 0, 0, 0, 0, 0), none, some (.iconst 1, 0, 0, 0, 1, 0), some (.isub, 0, 0, 0, 0, 0), some (.iaload, 0, 0, 0, 0, 0), some (.iload_n 1, 0, 0, 0, 0, 0), some (.if_icmp .eq 26, 47, 0, 0, 0, 0), none, none, some (.aload_n 0, 0, 0, 0, 0, 0), some (.aload_n 0, 0, 0, 0, 0, 0), some (.getfield 35, 6, 9, 2, 0, 0), none, none, some (.iload 4, 0, 0, 0, 0, 0), none, some (.iconst 1, 0, 0, 0, 1, 0), some (.isub, 0, 0, 0, 0, 0), some (.iaload, 0, 0, 0, 0, 0), some (.iload_n 1, 0, 0, 0, 0, 0), some (.invokevirtual 87, 120, 3, 6, 0, 0), none, none, some (.ifCond .ge 9, 47, 0, 0, 0, 0), none, none, some (.iinc 4 (-1), 0, 0, 0, (-1), 0), none, none, some (.goto (-38), 6, 0, 0, 0, 0), none, none, some (.iload 4, 0, 0, 0, 0, 0), none, some (.ifCond .le 30, 79, 0, 0, 0, 0), none, none, some (.aload_n 0, 0, 0, 0, 0, 0), some (.getfield 35, 6, 9, 2, 0, 0), none, none, some (.iload 4, 0, 0, 0, 0, 0), none, some (.iconst 1, 0, 0, 0, 1, 0), some (.isub, 0, 0, 0, 0, 0), some (.iaload, 0, 0, 0, 0, 0), some (.iload_n 1, 0, 0, 0, 0, 0), some (.if_icmp .ne 17, 79, 0, 0, 0, 0), none, none, some (.aload_n 0, 0, 0, 0, 0, 0), some (.getfield 38, 6, 10, 2, 0, 0), none, none, some (.iload 4, 0, 0, 0, 0, 0), none, some (.iconst 1, 0, 0, 0, 1, 0), some (.isub, 0, 0, 0, 0, 0), some (.dup2, 0, 0, 0, 0, 0), some (.laload, 0, 0, 0, 0, 0), some (.lload_n 2, 0, 0, 0, 0, 0), some (.ladd, 0, 0, 0, 0, 0), some (.lastore, 0, 0, 0, 0, 0), some (.return_, 0, 0, 0, 0, 0), some (.aload_n 0, 0, 0, 0, 0, 0), some (.getfield 76, 6, 11, 0, 0, 0), none, none, some (.istore 5, 0, 0, 0, 0, 0), none, some (.iload 5, 0, 0, 0, 0, 0), none, some (.iload 4, 0, 0, 0, 0, 0), none, some (.if_icmp .le 41, 130, 0, 0, 0, 0), none, none, some (.aload_n 0, 0, 0, 0, 0, 0), some (.getfield 35, 6, 9, 2, 0, 0), none, none, some (.iload 5, 0, 0, 0, 0, 0), none, some (.aload_n 0, 0, 0, 0, 0, 0), some (.getfield 35, 6, 9, 2, 0, 0), none, none, some (.iload 5, 0, 0, 0, 0, 0), none, some (.iconst 1, 0, 0, 0, 1, 0), some (.isub, 0, 0, 0, 0, 0), some (.iaload, 0, 0, 0, 0, 0), some (.iastore, 0, 0, 0, 0, 0), some (.aload_n 0, 0, 0, 0, 0, 0), some (.getfield 38, 6, 10, 2, 0, 0), none, none, some (.iload 5, 0, 0, 0, 0, 0), none, some (.aload_n 0, 0, 0, 0, 0, 0), some (.getfield 38, 6, 10, 2, 0, 0), none, none, some (.iload 5, 0, 0, 0, 0, 0), none, some (.iconst 1, 0, 0, 0, 1, 0), some (.isub, 0, 0, 0, 0, 0), some (.laload, 0, 0, 0, 0, 0), some (.lastore, 0, 0, 0, 0, 0), some (.iinc 5 (-1), 0, 0, 0, (-1), 0), none, none, some (.goto (-42), 85, 0, 0, 0, 0), none, none, some (.aload_n 0, 0, 0, 0, 0, 0), some (.getfield 35, 6, 9, 2, 0, 0), none, none, some (.iload 4, 0, 0, 0, 0, 0), none, some (.iload_n 1, 0, 0, 0, 0, 0), some (.iastore, 0, 0, 0, 0, 0), some (.aload_n 0, 0, 0, 0, 0, 0), some (.getfield 38, 6, 10, 2, 0, 0), none, none, some (.iload 4, 0, 0, 0, 0, 0), none, some (.lload_n 2, 0, 0, 0, 0, 0), some (.lastore, 0, 0, 0, 0, 0), some (.aload_n 0, 0, 0, 0, 0, 0), some (.dup, 0, 0, 0, 0, 0), some (.getfield 76, 6, 11, 0, 0, 0), none, none, some (.iconst 1, 0, 0, 0, 1, 0), some (.iadd, 0, 0, 0, 0, 0), some (.putfield 76, 6, 11, 0, 0, 0), none, none, some (.return_, 0, 0, 0, 0, 0)]
def tb_X7_multipliedNaturally : List (Option XI) := [some (.iconst 0, 0, 0, 0, 0, 0), some (.istore_n 3, 0, 0, 0, 0, 0), some (.bipush 8, 0, 0, 0, 8, 0), none, some (.iload_n 1, 0, 0, 0, 0, 0), some (.imul, 0, 0, 0, 0, 0), some (.istore 4, 0, 0, 0, 0, 0), none, some (.iload 4, 0, 0, 0, 0, 0), none, some (.bipush 8, 0, 0, 0, 8, 0), none, some (.iload_n 1, 0, 0, 0, 0, 0), some (.imul, 0, 0, 0, 0, 0), some (.aload_n 0, 0, 0, 0, 0, 0), some (.getfield 22, 6, 5, 2, 0, 0), none, none, some (.iload_n 1, 0, 0, 0, 0, 0), some (.iaload, 0, 0, 0, 0, 0), some (.iadd, 0, 0, 0, 0, 0), some (.if_icmp .ge 99, 120, 0, 0, 0, 0), none, none, some (.bipush 8, 0, 0, 0, 8, 0), none, some (.iload_n 2, 0, 0, 0, 0, 0), some (.imul, 0, 0, 0, 0, 0), some (.istore 5, 0, 0, 0, 0, 0), none, some (.iload 5, 0, 0, 0, 0, 0), none, some (.bipush 8, 0, 0, 0, 8, 0), none, some (.iload_n 2, 0, 0, 0, 0, 0), some (.imul, 0, 0, 0, 0, 0), some (.aload_n 0, 0, 0, 0, 0, 0), some (.getfield 22, 6, 5, 2, 0, 0), none, none, some (.iload_n 2, 0, 0, 0, 0, 0), some (.iaload, 0, 0, 0, 0, 0), some (.iadd, 0, 0, 0, 0, 0), some (.if_icmp .ge 71, 114, 0, 0, 0, 0), none, none, some (.aload_n 0, 0, 0, 0, 0, 0), some (.getfield 42, 6, 12, 2, 0, 0), none, none, some (.iload_n 3, 0, 0, 0, 0, 0), some (.aload_n 0, 0, 0, 0, 0, 0), some (.aload_n 0, 0, 0, 0, 0, 0), some (.getfield 16, 6, 3, 2, 0, 0), none, none, some (.iload 4, 0, 0, 0, 0, 0), none, some (.iaload, 0, 0, 0, 0, 0), some (.aload_n 0, 0, 0, 0, 0, 0), some (.getfield 16, 6, 3, 2, 0, 0), none, none, some (.iload 5, 0, 0, 0, 0, 0), none, some (.iaload, 0, 0, 0, 0, 0), some (.invokevirtual 106, 126, 3, 6, 0, 0), none, none, some (.iastore, 0, 0, 0, 0, 0), some (.aload_n 0, 0, 0, 0, 0, 0), some (.getfield 42, 6, 12, 2, 0, 0), none, none, some (.iload_n 3, 0, 0, 0, 0, 0), some (.iaload, 0, 0, 0, 0, 0), some (.iconst (-1), 0, 0, 0, (-1), 0), some (.if_icmp .ne 5, 82, 0, 0, 0, 0), none, none, some (.iconst (-1), 0, 0, 0, (-1), 0), some (.ireturn, 1, 0, 0, 0, 0), some (.aload_n 0, 0, 0, 0, 0, 0), some (.getfield 45, 6, 13, 2, 0, 0), none, none, some (.iload_n 3, 0, 0, 0, 0, 0), some (.aload_n 0, 0, 0, 0, 0, 0), some (.getfield 19, 6, 4, 2, 0, 0), none, none, some (.iload 4, 0, 0, 0, 0, 0), none, some (.iaload, 0, 0, 0, 0, 0), some (.i2l, 0, 0, 0, 0, 0), some (.aload_n 0, 0, 0, 0, 0, 0), some (.getfield 19, 6, 4, 2, 0, 0), none, none, some (.iload 5, 0, 0, 0, 0, 0), none, some (.iaload, 0, 0, 0, 0, 0), some (.i2l, 0, 0, 0, 0, 0), some (.lmul, 0, 0, 0, 0, 0), some (.lastore, 0, 0, 0, 0, 0), some (.iinc 3 1, 0, 0, 0, 1, 0), none, none, some (.iinc 5 1, 0, 0, 0, 1, 0), none, none, some (.goto (-81), 30, 0, 0, 0, 0), none, none, some (.iinc 4 1, 0, 0, 0, 1, 0), none, none, some (.goto (-109), 8, 0, 0, 0, 0), none, none, some (.aload_n 0, 0, 0, 0, 0, 0), some (.iconst 0, 0, 0, 0, 0, 0), some (.putfield 76, 6, 11, 0, 0, 0), none, none, some (.iconst 0, 0, 0, 0, 0, 0), some (.istore 4, 0, 0, 0, 0, 0), none, some (.iload 4, 0, 0, 0, 0, 0), none, some (.iload_n 3, 0, 0, 0, 0, 0), some (.if_icmp .ge 27, 158, 0, 0, 0, 0), none, none, some (.aload_n 0, 0, 0, 0, 0, 0), some (.aload_n 0, 0, 0, 0, 0, 0), some (.getfield 42, 6, 12, 2, 0, 0), none, none, some (.iload 4, 0, 0, 0, 0, 0), none, some (.iaload, 0, 0, 0, 0, 0), some (.aload_n 0, 0, 0, 0, 0, 0), some (.getfield 45, 6, 13, 2, 0, 0), none, none, some (.iload 4, 0, 0, 0, 0, 0), none, some (.laload, 0, 0, 0, 0, 0), some (.invokevirtual 109, 128, 3, 6, 0, 0), none, none, some (.iinc 4 1, 0, 0, 0, 1, 0), none, none, some (.goto (-27), 128, 0, 0, 0, 0), none, none, some (.aload_n 0, 0, 0, 0, 0, 0), some (.invokevirtual 95, 123, 1, 6, 0, 0), none, none, some (.ireturn, 1, 0, 0, 0, 0)]
def tb_X7_lessOne : List (Option XI) := [some (.aload_n 0, 0, 0, 0, 0, 0), some (.iconst 0, 0, 0, 0, 0, 0), some (.putfield 76, 6, 11, 0, 0, 0), none, none, some (.bipush 8, 0, 0, 0, 8, 0), none, some (.iload_n 1, 0, 0, 0, 0, 0), some (.imul, 0, 0, 0, 0, 0), some (.istore_n 2, 0, 0, 0, 0, 0), some (.iload_n 2, 0, 0, 0, 0, 0), some (.bipush 8, 0, 0, 0, 8, 0), none, some (.iload_n 1, 0, 0, 0, 0, 0), some (.imul, 0, 0, 0, 0, 0), some (.aload_n 0, 0, 0, 0, 0, 0), some (.getfield 22, 6, 5, 2, 0, 0), none, none, some (.iload_n 1, 0, 0, 0, 0, 0), some (.iaload, 0, 0, 0, 0, 0), some (.iadd, 0, 0, 0, 0, 0), some (.if_icmp .ge 55, 77, 0, 0, 0, 0), none, none, some (.iload_n 2, 0, 0, 0, 0, 0), some (.aload_n 0, 0, 0, 0, 0, 0), some (.iload_n 1, 0, 0, 0, 0, 0), some (.invokevirtual 102, 119, 2, 6, 0, 0), none, none, some (.if_icmp .ne 15, 46, 0, 0, 0, 0), none, none, some (.aload_n 0, 0, 0, 0, 0, 0), some (.getfield 19, 6, 4, 2, 0, 0), none, none, some (.iload_n 2, 0, 0, 0, 0, 0), some (.iaload, 0, 0, 0, 0, 0), some (.iconst 1, 0, 0, 0, 1, 0), some (.isub, 0, 0, 0, 0, 0), some (.i2l, 0, 0, 0, 0, 0), some (.goto 10, 53, 0, 0, 0, 0), none, none, some (.aload_n 0, 0, 0, 0, 0, 0), some (.getfield 19, 6, 4, 2, 0, 0), none, none, some (.iload_n 2, 0, 0, 0, 0, 0), some (.iaload, 0, 0, 0, 0, 0), some (.i2l, 0, 0, 0, 0, 0), some (.lstore_n 3, 0, 0, 0, 0, 0), some (.lload_n 3, 0, 0, 0, 0, 0), some (.lconst 0, 0, 0, 0, 0, 0), some (.lcmp, 0, 0, 0, 0, 0), some (.ifCond .le 14, 71, 0, 0, 0, 0), none, none, some (.aload_n 0, 0, 0, 0, 0, 0), some (.aload_n 0, 0, 0, 0, 0, 0), some (.getfield 16, 6, 3, 2, 0, 0), none, none, some (.iload_n 2, 0, 0, 0, 0, 0), some (.iaload, 0, 0, 0, 0, 0), some (.lload_n 3, 0, 0, 0, 0, 0), some (.invokevirtual 91, 121, 3, 6, 0, 0), none, none, some (.iinc 2 1, 0, 0, 0, 1, 0), none, none, some (.goto (-64), 10, 0, 0, 0, 0), none, none, some (.return_, 0, 0, 0, 0, 0)]
def tb_X7_stepped : List (Option XI) := [some (.iconst 0, 0, 0, 0, 0, 0), some (.istore_n 3, 0, 0, 0, 0, 0), some (.aload_n 0, 0, 0, 0, 0, 0), some (.getfield 48, 6, 14, 2, 0, 0), none, none, some (.iconst 0, 0, 0, 0, 0, 0), some (.iload_n 1, 0, 0, 0, 0, 0), some (.iastore, 0, 0, 0, 0, 0), some (.aload_n 0, 0, 0, 0, 0, 0), some (.getfield 16, 6, 3, 2, 0, 0), none, none, some (.aload_n 0, 0, 0, 0, 0, 0), some (.iload_n 1, 0, 0, 0, 0, 0), some (.invokevirtual 102, 119, 2, 6, 0, 0), none, none, some (.iaload, 0, 0, 0, 0, 0), some (.istore 4, 0, 0, 0, 0, 0), none, some (.iload 4, 0, 0, 0, 0, 0), none, some (.ifCond .eq 44, 67, 0, 0, 0, 0), none, none, some (.aload_n 0, 0, 0, 0, 0, 0), some (.getfield 16, 6, 3, 2, 0, 0), none, none, some (.aload_n 0, 0, 0, 0, 0, 0), some (.iload 4, 0, 0, 0, 0, 0), none, some (.invokevirtual 102, 119, 2, 6, 0, 0), none, none, some (.iaload, 0, 0, 0, 0, 0), some (.ifCond .eq 30, 67, 0, 0, 0, 0), none, none, some (.iinc 3 1, 0, 0, 0, 1, 0), none, none, some (.aload_n 0, 0, 0, 0, 0, 0), some (.getfield 48, 6, 14, 2, 0, 0), none, none, some (.iload_n 3, 0, 0, 0, 0, 0), some (.iload 4, 0, 0, 0, 0, 0), none, some (.iastore, 0, 0, 0, 0, 0), some (.aload_n 0, 0, 0, 0, 0, 0), some (.getfield 16, 6, 3, 2, 0, 0), none, none, some (.aload_n 0, 0, 0, 0, 0, 0), some (.iload 4, 0, 0, 0, 0, 0), none, some (.invokevirtual 102, 119, 2, 6, 0, 0), none, none, some (.iaload, 0, 0, 0, 0, 0), some (.istore 4, 0, 0, 0, 0, 0), none, some (.goto (-43), 21, 0, 0, 0, 0), none, none, some (.iconst (-1), 0, 0, 0, (-1), 0), some (.istore 5, 0, 0, 0, 0, 0), none, some (.iload 4, 0, 0, 0, 0, 0), none, some (.ifCond .eq 15, 87, 0, 0, 0, 0), none, none, some (.aload_n 0, 0, 0, 0, 0, 0), some (.iload 4, 0, 0, 0, 0, 0), none, some (.invokevirtual 112, 130, 2, 6, 0, 0), none, none, some (.aload_n 0, 0, 0, 0, 0, 0), some (.invokevirtual 95, 123, 1, 6, 0, 0), none, none, some (.istore 5, 0, 0, 0, 0, 0), none, some (.aload_n 0, 0, 0, 0, 0, 0), some (.aload_n 0, 0, 0, 0, 0, 0), some (.getfield 48, 6, 14, 2, 0, 0), none, none, some (.iload_n 3, 0, 0, 0, 0, 0), some (.iaload, 0, 0, 0, 0, 0), some (.invokevirtual 112, 130, 2, 6, 0, 0), none, none, some (.iload 4, 0, 0, 0, 0, 0), none, some (.ifCond .eq 11, 110, 0, 0, 0, 0), none, none, some (.aload_n 0, 0, 0, 0, 0, 0), some (.iload 5, 0, 0, 0, 0, 0), none, some (.iload_n 2, 0, 0, 0, 0, 0), some (.i2l, 0, 0, 0, 0, 0), some (.invokevirtual 91, 121, 3, 6, 0, 0), none, none, some (.aload_n 0, 0, 0, 0, 0, 0), some (.invokevirtual 95, 123, 1, 6, 0, 0), none, none, some (.istore 5, 0, 0, 0, 0, 0), none, some (.iload_n 3, 0, 0, 0, 0, 0), some (.iconst 1, 0, 0, 0, 1, 0), some (.isub, 0, 0, 0, 0, 0), some (.istore 6, 0, 0, 0, 0, 0), none, some (.iload 6, 0, 0, 0, 0, 0), none, some (.ifCond .lt 39, 162, 0, 0, 0, 0), none, none, some (.iload 5, 0, 0, 0, 0, 0), none, some (.iconst (-1), 0, 0, 0, (-1), 0), some (.if_icmp .eq 33, 162, 0, 0, 0, 0), none, none, some (.aload_n 0, 0, 0, 0, 0, 0), some (.aload_n 0, 0, 0, 0, 0, 0), some (.getfield 48, 6, 14, 2, 0, 0), none, none, some (.iload 6, 0, 0, 0, 0, 0), none, some (.iaload, 0, 0, 0, 0, 0), some (.invokevirtual 112, 130, 2, 6, 0, 0), none, none, some (.aload_n 0, 0, 0, 0, 0, 0), some (.iload 5, 0, 0, 0, 0, 0), none, some (.lconst 1, 0, 0, 0, 0, 1), some (.invokevirtual 91, 121, 3, 6, 0, 0), none, none, some (.aload_n 0, 0, 0, 0, 0, 0), some (.invokevirtual 95, 123, 1, 6, 0, 0), none, none, some (.istore 5, 0, 0, 0, 0, 0), none, some (.iinc 6 (-1), 0, 0, 0, (-1), 0), none, none, some (.goto (-38), 121, 0, 0, 0, 0), none, none, some (.iload 5, 0, 0, 0, 0, 0), none, some (.ireturn, 1, 0, 0, 0, 0)]
def tb_X7_unit : List (Option XI) := [some (.iload_n 0, 0, 0, 0, 0, 0), some (.iconst 1, 0, 0, 0, 1, 0), some (.if_icmp .ne 9, 11, 0, 0, 0, 0), none, none, some (.ldc2_w 116, 0, 0, 0, 0, 64481201), none, none, some (.goto 26, 34, 0, 0, 0, 0), none, none, some (.iload_n 0, 0, 0, 0, 0, 0), some (.iconst 2, 0, 0, 0, 2, 0), some (.if_icmp .ne 9, 22, 0, 0, 0, 0), none, none, some (.ldc2_w 118, 0, 0, 0, 0, 160801), none, none, some (.goto 15, 34, 0, 0, 0, 0), none, none, some (.iload_n 0, 0, 0, 0, 0, 0), some (.iconst 3, 0, 0, 0, 3, 0), some (.if_icmp .ne 9, 33, 0, 0, 0, 0), none, none, some (.ldc2_w 120, 0, 0, 0, 0, 401), none, none, some (.goto 4, 34, 0, 0, 0, 0), none, none, some (.lconst 1, 0, 0, 0, 0, 1), some (.lreturn, 0, 0, 0, 0, 0)]
def tb_X7_level : List (Option XI) := [some (.ldc2_w 122, 0, 0, 0, 0, 200), none, none, some (.iconst 1, 0, 0, 0, 1, 0), some (.invokestatic 124, 132, 1, 0, 0, 0), none, none, some (.iconst 2, 0, 0, 0, 2, 0), some (.invokestatic 124, 132, 1, 0, 0, 0), none, none, some (.ladd, 0, 0, 0, 0, 0), some (.iconst 3, 0, 0, 0, 3, 0), some (.invokestatic 124, 132, 1, 0, 0, 0), none, none, some (.ladd, 0, 0, 0, 0, 0), some (.iconst 4, 0, 0, 0, 4, 0), some (.invokestatic 124, 132, 1, 0, 0, 0), none, none, some (.ladd, 0, 0, 0, 0, 0), some (.lmul, 0, 0, 0, 0, 0), some (.lreturn, 0, 0, 0, 0, 0)]
def tb_X7_exponentOf : List (Option XI) := [some (.lload_n 0, 0, 0, 0, 0, 0), some (.iload_n 2, 0, 0, 0, 0, 0), some (.invokestatic 124, 132, 1, 0, 0, 0), none, none, some (.ldiv, 0, 0, 0, 0, 0), some (.ldc2_w 120, 0, 0, 0, 0, 401), none, none, some (.lrem, 0, 0, 0, 0, 0), some (.ldc2_w 122, 0, 0, 0, 0, 200), none, none, some (.lsub, 0, 0, 0, 0, 0), some (.lreturn, 0, 0, 0, 0, 0)]
def tb_X7_joins : List (Option XI) := [some (.aload_n 0, 0, 0, 0, 0, 0), some (.getfield 128, 6, 20, 0, 0, 0), none, none, some (.istore 5, 0, 0, 0, 0, 0), none, some (.iload 5, 0, 0, 0, 0, 0), none, some (.ifCond .le 23, 31, 0, 0, 0, 0), none, none, some (.aload_n 0, 0, 0, 0, 0, 0), some (.getfield 57, 6, 18, 2, 0, 0), none, none, some (.iload 5, 0, 0, 0, 0, 0), none, some (.iconst 1, 0, 0, 0, 1, 0), some (.isub, 0, 0, 0, 0, 0), some (.laload, 0, 0, 0, 0, 0), some (.lload_n 1, 0, 0, 0, 0, 0), some (.lcmp, 0, 0, 0, 0, 0), some (.ifCond .ge 9, 31, 0, 0, 0, 0), none, none, some (.iinc 5 (-1), 0, 0, 0, (-1), 0), none, none, some (.goto (-22), 6, 0, 0, 0, 0), none, none, some (.iload 5, 0, 0, 0, 0, 0), none, some (.ifCond .le 31, 64, 0, 0, 0, 0), none, none, some (.aload_n 0, 0, 0, 0, 0, 0), some (.getfield 57, 6, 18, 2, 0, 0), none, none, some (.iload 5, 0, 0, 0, 0, 0), none, some (.iconst 1, 0, 0, 0, 1, 0), some (.isub, 0, 0, 0, 0, 0), some (.laload, 0, 0, 0, 0, 0), some (.lload_n 1, 0, 0, 0, 0, 0), some (.lcmp, 0, 0, 0, 0, 0), some (.ifCond .ne 17, 64, 0, 0, 0, 0), none, none, some (.aload_n 0, 0, 0, 0, 0, 0), some (.getfield 60, 6, 19, 2, 0, 0), none, none, some (.iload 5, 0, 0, 0, 0, 0), none, some (.iconst 1, 0, 0, 0, 1, 0), some (.isub, 0, 0, 0, 0, 0), some (.dup2, 0, 0, 0, 0, 0), some (.laload, 0, 0, 0, 0, 0), some (.lload_n 3, 0, 0, 0, 0, 0), some (.ladd, 0, 0, 0, 0, 0), some (.lastore, 0, 0, 0, 0, 0), some (.return_, 0, 0, 0, 0, 0), some (.aload_n 0, 0, 0, 0, 0, 0), some (.getfield 128, 6, 20, 0, 0, 0), none, none, some (.istore 6, 0, 0, 0, 0, 0), none, some (.iload 6, 0, 0, 0, 0, 0), none, some (.iload 5, 0, 0, 0, 0, 0), none, some (.if_icmp .le 41, 115, 0, 0, 0, 0), none, none, some (.aload_n 0, 0, 0, 0, 0, 0), some (.getfield 57, 6, 18, 2, 0, 0), none, none, some (.iload 6, 0, 0, 0, 0, 0), none, some (.aload_n 0, 0, 0, 0, 0, 0), some (.getfield 57, 6, 18, 2, 0, 0), none, none, some (.iload 6, 0, 0, 0, 0, 0), none, some (.iconst 1, 0, 0, 0, 1, 0), some (.isub, 0, 0, 0, 0, 0), some (.laload, 0, 0, 0, 0, 0), some (.lastore, 0, 0, 0, 0, 0), some (.aload_n 0, 0, 0, 0, 0, 0), some (.getfield 60, 6, 19, 2, 0, 0), none, none, some (.iload 6, 0, 0, 0, 0, 0), none, some (.aload_n 0, 0, 0, 0, 0, 0), some (.getfield 60, 6, 19, 2, 0, 0), none, none, some (.iload 6, 0, 0, 0, 0, 0), none, some (.iconst 1, 0, 0, 0, 1, 0), some (.isub, 0, 0, 0, 0, 0), some (.laload, 0, 0, 0, 0, 0), some (.lastore, 0, 0, 0, 0, 0), some (.iinc 6 (-1), 0, 0, 0, (-1), 0), none, none, some (.goto (-42), 70, 0, 0, 0, 0), none, none, some (.aload_n 0, 0, 0, 0, 0, 0), some (.getfield 57, 6, 18, 2, 0, 0), none, none, some (.iload 5, 0, 0, 0, 0, 0), none, some (.lload_n 1, 0, 0, 0, 0, 0), some (.lastore, 0, 0, 0, 0, 0), some (.aload_n 0, 0, 0, 0, 0, 0), some (.getfield 60, 6, 19, 2, 0, 0), none, none, some (.iload 5, 0, 0, 0, 0, 0), none, some (.lload_n 3, 0, 0, 0, 0, 0), some (.lastore, 0, 0, 0, 0, 0), some (.aload_n 0, 0, 0, 0, 0, 0), some (.dup, 0, 0, 0, 0, 0), some (.getfield 128, 6, 20, 0, 0, 0), none, none, some (.iconst 1, 0, 0, 0, 1, 0), some (.iadd, 0, 0, 0, 0, 0), some (.putfield 128, 6, 20, 0, 0, 0), none, none, some (.return_, 0, 0, 0, 0, 0)]
def tb_X7_fits : List (Option XI) := [some (.iconst 0, 0, 0, 0, 0, 0), some (.istore_n 1, 0, 0, 0, 0, 0), some (.iconst 1, 0, 0, 0, 1, 0), some (.istore_n 2, 0, 0, 0, 0, 0), some (.iconst 0, 0, 0, 0, 0, 0), some (.istore_n 3, 0, 0, 0, 0, 0), some (.iload_n 3, 0, 0, 0, 0, 0), some (.aload_n 0, 0, 0, 0, 0, 0), some (.getfield 128, 6, 20, 0, 0, 0), none, none, some (.if_icmp .ge 123, 134, 0, 0, 0, 0), none, none, some (.aload_n 0, 0, 0, 0, 0, 0), some (.getfield 60, 6, 19, 2, 0, 0), none, none, some (.iload_n 3, 0, 0, 0, 0, 0), some (.laload, 0, 0, 0, 0, 0), some (.lconst 0, 0, 0, 0, 0, 0), some (.lcmp, 0, 0, 0, 0, 0), some (.ifCond .eq 106, 128, 0, 0, 0, 0), none, none, some (.aload_n 0, 0, 0, 0, 0, 0), some (.getfield 57, 6, 18, 2, 0, 0), none, none, some (.iload_n 1, 0, 0, 0, 0, 0), some (.aload_n 0, 0, 0, 0, 0, 0), some (.getfield 57, 6, 18, 2, 0, 0), none, none, some (.iload_n 3, 0, 0, 0, 0, 0), some (.laload, 0, 0, 0, 0, 0), some (.lastore, 0, 0, 0, 0, 0), some (.aload_n 0, 0, 0, 0, 0, 0), some (.getfield 60, 6, 19, 2, 0, 0), none, none, some (.iload_n 1, 0, 0, 0, 0, 0), some (.aload_n 0, 0, 0, 0, 0, 0), some (.getfield 60, 6, 19, 2, 0, 0), none, none, some (.iload_n 3, 0, 0, 0, 0, 0), some (.laload, 0, 0, 0, 0, 0), some (.lastore, 0, 0, 0, 0, 0), some (.iload_n 2, 0, 0, 0, 0, 0), some (.ifCond .eq 25, 75, 0, 0, 0, 0), none, none, some (.aload_n 0, 0, 0, 0, 0, 0), some (.getfield 60, 6, 19, 2, 0, 0), none, none, some (.iload_n 1, 0, 0, 0, 0, 0), some (.laload, 0, 0, 0, 0, 0), some (.ldc2_w 131, 0, 0, 0, 0, (-100000000)), none, none, some (.ldc2_w 133, 0, 0, 0, 0, 100000000), none, none, some (.invokestatic 68, 115, 3, 0, 0, 0), none, none, some (.ifCond .eq 7, 75, 0, 0, 0, 0), none, none, some (.iconst 1, 0, 0, 0, 1, 0), some (.goto 4, 76, 0, 0, 0, 0), none, none, some (.iconst 0, 0, 0, 0, 0, 0), some (.istore_n 2, 0, 0, 0, 0, 0), some (.iconst 1, 0, 0, 0, 1, 0), some (.istore 4, 0, 0, 0, 0, 0), none, some (.iload 4, 0, 0, 0, 0, 0), none, some (.iconst 5, 0, 0, 0, 5, 0), some (.if_icmp .ge 42, 125, 0, 0, 0, 0), none, none, some (.iload_n 2, 0, 0, 0, 0, 0), some (.ifCond .eq 30, 117, 0, 0, 0, 0), none, none, some (.aload_n 0, 0, 0, 0, 0, 0), some (.getfield 57, 6, 18, 2, 0, 0), none, none, some (.iload_n 1, 0, 0, 0, 0, 0), some (.laload, 0, 0, 0, 0, 0), some (.iload 4, 0, 0, 0, 0, 0), none, some (.invokestatic 135, 134, 2, 0, 0, 0), none, none, some (.ldc2_w 139, 0, 0, 0, 0, (-99)), none, none, some (.ldc2_w 141, 0, 0, 0, 0, 99), none, none, some (.invokestatic 68, 115, 3, 0, 0, 0), none, none, some (.ifCond .eq 7, 117, 0, 0, 0, 0), none, none, some (.iconst 1, 0, 0, 0, 1, 0), some (.goto 4, 118, 0, 0, 0, 0), none, none, some (.iconst 0, 0, 0, 0, 0, 0), some (.istore_n 2, 0, 0, 0, 0, 0), some (.iinc 4 1, 0, 0, 0, 1, 0), none, none, some (.goto (-42), 80, 0, 0, 0, 0), none, none, some (.iinc 1 1, 0, 0, 0, 1, 0), none, none, some (.iinc 3 1, 0, 0, 0, 1, 0), none, none, some (.goto (-125), 6, 0, 0, 0, 0), none, none, some (.aload_n 0, 0, 0, 0, 0, 0), some (.iload_n 1, 0, 0, 0, 0, 0), some (.putfield 128, 6, 20, 0, 0, 0), none, none, some (.iload_n 2, 0, 0, 0, 0, 0), some (.ifCond .eq 13, 153, 0, 0, 0, 0), none, none, some (.iload_n 1, 0, 0, 0, 0, 0), some (.bipush 20, 0, 0, 0, 20, 0), none, some (.if_icmp .gt 7, 153, 0, 0, 0, 0), none, none, some (.iconst 1, 0, 0, 0, 1, 0), some (.goto 4, 154, 0, 0, 0, 0), none, none, some (.iconst 0, 0, 0, 0, 0, 0), some (.ireturn, 2, 0, 0, 0, 0)]
def tb_X7_laysGrowth : List (Option XI) := [some (.aload_n 0, 0, 0, 0, 0, 0), some (.iload_n 1, 0, 0, 0, 0, 0), some (.iconst 3, 0, 0, 0, 3, 0), some (.aload_n 0, 0, 0, 0, 0, 0), some (.getfield 128, 6, 20, 0, 0, 0), none, none, some (.invokevirtual 143, 118, 4, 6, 0, 0), none, none, some (.iconst 0, 0, 0, 0, 0, 0), some (.istore_n 2, 0, 0, 0, 0, 0), some (.iload_n 2, 0, 0, 0, 0, 0), some (.aload_n 0, 0, 0, 0, 0, 0), some (.getfield 128, 6, 20, 0, 0, 0), none, none, some (.if_icmp .ge 44, 61, 0, 0, 0, 0), none, none, some (.aload_n 0, 0, 0, 0, 0, 0), some (.getfield 51, 6, 16, 2, 0, 0), none, none, some (.bipush 20, 0, 0, 0, 20, 0), none, some (.iload_n 1, 0, 0, 0, 0, 0), some (.imul, 0, 0, 0, 0, 0), some (.iload_n 2, 0, 0, 0, 0, 0), some (.iadd, 0, 0, 0, 0, 0), some (.aload_n 0, 0, 0, 0, 0, 0), some (.getfield 57, 6, 18, 2, 0, 0), none, none, some (.iload_n 2, 0, 0, 0, 0, 0), some (.laload, 0, 0, 0, 0, 0), some (.lastore, 0, 0, 0, 0, 0), some (.aload_n 0, 0, 0, 0, 0, 0), some (.getfield 54, 6, 17, 2, 0, 0), none, none, some (.bipush 20, 0, 0, 0, 20, 0), none, some (.iload_n 1, 0, 0, 0, 0, 0), some (.imul, 0, 0, 0, 0, 0), some (.iload_n 2, 0, 0, 0, 0, 0), some (.iadd, 0, 0, 0, 0, 0), some (.aload_n 0, 0, 0, 0, 0, 0), some (.getfield 60, 6, 19, 2, 0, 0), none, none, some (.iload_n 2, 0, 0, 0, 0, 0), some (.laload, 0, 0, 0, 0, 0), some (.l2i, 0, 0, 0, 0, 0), some (.iastore, 0, 0, 0, 0, 0), some (.iinc 2 1, 0, 0, 0, 1, 0), none, none, some (.goto (-46), 12, 0, 0, 0, 0), none, none, some (.return_, 0, 0, 0, 0, 0)]
def tb_X7_joinsAll : List (Option XI) := [some (.bipush 20, 0, 0, 0, 20, 0), none, some (.iload_n 1, 0, 0, 0, 0, 0), some (.imul, 0, 0, 0, 0, 0), some (.istore_n 3, 0, 0, 0, 0, 0), some (.iload_n 3, 0, 0, 0, 0, 0), some (.bipush 20, 0, 0, 0, 20, 0), none, some (.iload_n 1, 0, 0, 0, 0, 0), some (.imul, 0, 0, 0, 0, 0), some (.aload_n 0, 0, 0, 0, 0, 0), some (.getfield 13, 6, 2, 2, 0, 0), none, none, some (.iload_n 1, 0, 0, 0, 0, 0), some (.iaload, 0, 0, 0, 0, 0), some (.iadd, 0, 0, 0, 0, 0), some (.if_icmp .ge 29, 46, 0, 0, 0, 0), none, none, some (.aload_n 0, 0, 0, 0, 0, 0), some (.aload_n 0, 0, 0, 0, 0, 0), some (.getfield 51, 6, 16, 2, 0, 0), none, none, some (.iload_n 3, 0, 0, 0, 0, 0), some (.laload, 0, 0, 0, 0, 0), some (.iload_n 2, 0, 0, 0, 0, 0), some (.i2l, 0, 0, 0, 0, 0), some (.aload_n 0, 0, 0, 0, 0, 0), some (.getfield 54, 6, 17, 2, 0, 0), none, none, some (.iload_n 3, 0, 0, 0, 0, 0), some (.iaload, 0, 0, 0, 0, 0), some (.i2l, 0, 0, 0, 0, 0), some (.lmul, 0, 0, 0, 0, 0), some (.invokevirtual 147, 135, 3, 6, 0, 0), none, none, some (.iinc 3 1, 0, 0, 0, 1, 0), none, none, some (.goto (-38), 5, 0, 0, 0, 0), none, none, some (.return_, 0, 0, 0, 0, 0)]
def tb_X7_joinsBoth : List (Option XI) := [some (.aload_n 0, 0, 0, 0, 0, 0), some (.iconst 0, 0, 0, 0, 0, 0), some (.putfield 128, 6, 20, 0, 0, 0), none, none, some (.aload_n 0, 0, 0, 0, 0, 0), some (.iload_n 1, 0, 0, 0, 0, 0), some (.iconst 1, 0, 0, 0, 1, 0), some (.invokevirtual 151, 138, 3, 6, 0, 0), none, none, some (.aload_n 0, 0, 0, 0, 0, 0), some (.iload_n 2, 0, 0, 0, 0, 0), some (.iload_n 3, 0, 0, 0, 0, 0), some (.invokevirtual 151, 138, 3, 6, 0, 0), none, none, some (.aload_n 0, 0, 0, 0, 0, 0), some (.invokevirtual 155, 136, 1, 6, 0, 0), none, none, some (.ireturn, 2, 0, 0, 0, 0)]
def tb_X7_multiplies : List (Option XI) := [some (.aload_n 0, 0, 0, 0, 0, 0), some (.iconst 0, 0, 0, 0, 0, 0), some (.putfield 128, 6, 20, 0, 0, 0), none, none, some (.bipush 20, 0, 0, 0, 20, 0), none, some (.iload_n 1, 0, 0, 0, 0, 0), some (.imul, 0, 0, 0, 0, 0), some (.istore_n 3, 0, 0, 0, 0, 0), some (.iload_n 3, 0, 0, 0, 0, 0), some (.bipush 20, 0, 0, 0, 20, 0), none, some (.iload_n 1, 0, 0, 0, 0, 0), some (.imul, 0, 0, 0, 0, 0), some (.aload_n 0, 0, 0, 0, 0, 0), some (.getfield 13, 6, 2, 2, 0, 0), none, none, some (.iload_n 1, 0, 0, 0, 0, 0), some (.iaload, 0, 0, 0, 0, 0), some (.iadd, 0, 0, 0, 0, 0), some (.if_icmp .ge 75, 97, 0, 0, 0, 0), none, none, some (.bipush 20, 0, 0, 0, 20, 0), none, some (.iload_n 2, 0, 0, 0, 0, 0), some (.imul, 0, 0, 0, 0, 0), some (.istore 4, 0, 0, 0, 0, 0), none, some (.iload 4, 0, 0, 0, 0, 0), none, some (.bipush 20, 0, 0, 0, 20, 0), none, some (.iload_n 2, 0, 0, 0, 0, 0), some (.imul, 0, 0, 0, 0, 0), some (.aload_n 0, 0, 0, 0, 0, 0), some (.getfield 13, 6, 2, 2, 0, 0), none, none, some (.iload_n 2, 0, 0, 0, 0, 0), some (.iaload, 0, 0, 0, 0, 0), some (.iadd, 0, 0, 0, 0, 0), some (.if_icmp .ge 47, 91, 0, 0, 0, 0), none, none, some (.aload_n 0, 0, 0, 0, 0, 0), some (.aload_n 0, 0, 0, 0, 0, 0), some (.getfield 51, 6, 16, 2, 0, 0), none, none, some (.iload_n 3, 0, 0, 0, 0, 0), some (.laload, 0, 0, 0, 0, 0), some (.aload_n 0, 0, 0, 0, 0, 0), some (.getfield 51, 6, 16, 2, 0, 0), none, none, some (.iload 4, 0, 0, 0, 0, 0), none, some (.laload, 0, 0, 0, 0, 0), some (.ladd, 0, 0, 0, 0, 0), some (.invokestatic 159, 133, 0, 0, 0, 0), none, none, some (.lsub, 0, 0, 0, 0, 0), some (.aload_n 0, 0, 0, 0, 0, 0), some (.getfield 54, 6, 17, 2, 0, 0), none, none, some (.iload_n 3, 0, 0, 0, 0, 0), some (.iaload, 0, 0, 0, 0, 0), some (.i2l, 0, 0, 0, 0, 0), some (.aload_n 0, 0, 0, 0, 0, 0), some (.getfield 54, 6, 17, 2, 0, 0), none, none, some (.iload 4, 0, 0, 0, 0, 0), none, some (.iaload, 0, 0, 0, 0, 0), some (.i2l, 0, 0, 0, 0, 0), some (.lmul, 0, 0, 0, 0, 0), some (.invokevirtual 147, 135, 3, 6, 0, 0), none, none, some (.iinc 4 1, 0, 0, 0, 1, 0), none, none, some (.goto (-57), 31, 0, 0, 0, 0), none, none, some (.iinc 3 1, 0, 0, 0, 1, 0), none, none, some (.goto (-84), 10, 0, 0, 0, 0), none, none, some (.aload_n 0, 0, 0, 0, 0, 0), some (.invokevirtual 155, 136, 1, 6, 0, 0), none, none, some (.ireturn, 2, 0, 0, 0, 0)]
def tb_X7_derives : List (Option XI) := [some (.aload_n 0, 0, 0, 0, 0, 0), some (.iconst 0, 0, 0, 0, 0, 0), some (.putfield 128, 6, 20, 0, 0, 0), none, none, some (.bipush 20, 0, 0, 0, 20, 0), none, some (.iload_n 1, 0, 0, 0, 0, 0), some (.imul, 0, 0, 0, 0, 0), some (.istore_n 2, 0, 0, 0, 0, 0), some (.iload_n 2, 0, 0, 0, 0, 0), some (.bipush 20, 0, 0, 0, 20, 0), none, some (.iload_n 1, 0, 0, 0, 0, 0), some (.imul, 0, 0, 0, 0, 0), some (.aload_n 0, 0, 0, 0, 0, 0), some (.getfield 13, 6, 2, 2, 0, 0), none, none, some (.iload_n 1, 0, 0, 0, 0, 0), some (.iaload, 0, 0, 0, 0, 0), some (.iadd, 0, 0, 0, 0, 0), some (.if_icmp .ge 75, 97, 0, 0, 0, 0), none, none, some (.lconst 0, 0, 0, 0, 0, 0), some (.lstore_n 3, 0, 0, 0, 0, 0), some (.iconst 1, 0, 0, 0, 1, 0), some (.istore 5, 0, 0, 0, 0, 0), none, some (.iload 5, 0, 0, 0, 0, 0), none, some (.iconst 5, 0, 0, 0, 5, 0), some (.if_icmp .ge 58, 91, 0, 0, 0, 0), none, none, some (.lload_n 3, 0, 0, 0, 0, 0), some (.iload 5, 0, 0, 0, 0, 0), none, some (.iconst 1, 0, 0, 0, 1, 0), some (.if_icmp .ne 7, 47, 0, 0, 0, 0), none, none, some (.lconst 0, 0, 0, 0, 0, 0), some (.goto 8, 52, 0, 0, 0, 0), none, none, some (.iload 5, 0, 0, 0, 0, 0), none, some (.invokestatic 124, 132, 1, 0, 0, 0), none, none, some (.ladd, 0, 0, 0, 0, 0), some (.lstore_n 3, 0, 0, 0, 0, 0), some (.aload_n 0, 0, 0, 0, 0, 0), some (.aload_n 0, 0, 0, 0, 0, 0), some (.getfield 51, 6, 16, 2, 0, 0), none, none, some (.iload_n 2, 0, 0, 0, 0, 0), some (.laload, 0, 0, 0, 0, 0), some (.lload_n 3, 0, 0, 0, 0, 0), some (.lsub, 0, 0, 0, 0, 0), some (.aload_n 0, 0, 0, 0, 0, 0), some (.getfield 54, 6, 17, 2, 0, 0), none, none, some (.iload_n 2, 0, 0, 0, 0, 0), some (.iaload, 0, 0, 0, 0, 0), some (.i2l, 0, 0, 0, 0, 0), some (.aload_n 0, 0, 0, 0, 0, 0), some (.getfield 51, 6, 16, 2, 0, 0), none, none, some (.iload_n 2, 0, 0, 0, 0, 0), some (.laload, 0, 0, 0, 0, 0), some (.iload 5, 0, 0, 0, 0, 0), none, some (.invokestatic 135, 134, 2, 0, 0, 0), none, none, some (.lmul, 0, 0, 0, 0, 0), some (.invokevirtual 147, 135, 3, 6, 0, 0), none, none, some (.iinc 5 1, 0, 0, 0, 1, 0), none, none, some (.goto (-58), 30, 0, 0, 0, 0), none, none, some (.iinc 2 1, 0, 0, 0, 1, 0), none, none, some (.goto (-84), 10, 0, 0, 0, 0), none, none, some (.aload_n 0, 0, 0, 0, 0, 0), some (.invokevirtual 155, 136, 1, 6, 0, 0), none, none, some (.ireturn, 2, 0, 0, 0, 0)]
def tb_X7_isNumber : List (Option XI) := [some (.lload_n 0, 0, 0, 0, 0, 0), some (.ldc2_w 163, 0, 0, 0, 0, (-268435456)), none, none, some (.ldc2_w 165, 0, 0, 0, 0, 268435456), none, none, some (.invokestatic 68, 115, 3, 0, 0, 0), none, none, some (.ireturn, 2, 0, 0, 0, 0)]
def tb_X7_begins : List (Option XI) := [some (.aload_n 0, 0, 0, 0, 0, 0), some (.iconst 0, 0, 0, 0, 0, 0), some (.putfield 167, 6, 21, 3, 0, 0), none, none, some (.aload_n 0, 0, 0, 0, 0, 0), some (.iconst 0, 0, 0, 0, 0, 0), some (.putfield 171, 6, 22, 3, 0, 0), none, none, some (.aload_n 0, 0, 0, 0, 0, 0), some (.lconst 0, 0, 0, 0, 0, 0), some (.putfield 174, 6, 25, 1, 0, 0), none, none, some (.aload_n 0, 0, 0, 0, 0, 0), some (.iconst 0, 0, 0, 0, 0, 0), some (.putfield 178, 6, 26, 0, 0, 0), none, none, some (.return_, 0, 0, 0, 0, 0)]
def tb_X7_goes : List (Option XI) := [some (.iload_n 1, 0, 0, 0, 0, 0), some (.ifCond .eq 19, 20, 0, 0, 0, 0), none, none, some (.aload_n 0, 0, 0, 0, 0, 0), some (.iconst 1, 0, 0, 0, 1, 0), some (.putfield 171, 6, 22, 3, 0, 0), none, none, some (.aload_n 0, 0, 0, 0, 0, 0), some (.aload_n 0, 0, 0, 0, 0, 0), some (.getfield 174, 6, 25, 1, 0, 0), none, none, some (.putfield 181, 6, 24, 1, 0, 0), none, none, some (.goto 16, 33, 0, 0, 0, 0), none, none, some (.aload_n 0, 0, 0, 0, 0, 0), some (.iconst 1, 0, 0, 0, 1, 0), some (.putfield 167, 6, 21, 3, 0, 0), none, none, some (.aload_n 0, 0, 0, 0, 0, 0), some (.aload_n 0, 0, 0, 0, 0, 0), some (.getfield 174, 6, 25, 1, 0, 0), none, none, some (.putfield 184, 6, 23, 1, 0, 0), none, none, some (.iload_n 1, 0, 0, 0, 0, 0), some (.ifCond .eq 10, 44, 0, 0, 0, 0), none, none, some (.aload_n 0, 0, 0, 0, 0, 0), some (.getfield 167, 6, 21, 3, 0, 0), none, none, some (.goto 7, 48, 0, 0, 0, 0), none, none, some (.aload_n 0, 0, 0, 0, 0, 0), some (.getfield 171, 6, 22, 3, 0, 0), none, none, some (.istore_n 2, 0, 0, 0, 0, 0), some (.iload_n 1, 0, 0, 0, 0, 0), some (.ifCond .eq 37, 87, 0, 0, 0, 0), none, none, some (.aload_n 0, 0, 0, 0, 0, 0), some (.getfield 167, 6, 21, 3, 0, 0), none, none, some (.ifCond .eq 15, 72, 0, 0, 0, 0), none, none, some (.aload_n 0, 0, 0, 0, 0, 0), some (.getfield 174, 6, 25, 1, 0, 0), none, none, some (.aload_n 0, 0, 0, 0, 0, 0), some (.getfield 184, 6, 23, 1, 0, 0), none, none, some (.ladd, 0, 0, 0, 0, 0), some (.goto 49, 118, 0, 0, 0, 0), none, none, some (.ldc2_w 187, 0, 0, 0, 0, 2), none, none, some (.aload_n 0, 0, 0, 0, 0, 0), some (.getfield 174, 6, 25, 1, 0, 0), none, none, some (.ldc2_w 189, 0, 0, 0, 0, 1048576), none, none, some (.ladd, 0, 0, 0, 0, 0), some (.lmul, 0, 0, 0, 0, 0), some (.goto 34, 118, 0, 0, 0, 0), none, none, some (.aload_n 0, 0, 0, 0, 0, 0), some (.getfield 171, 6, 22, 3, 0, 0), none, none, some (.ifCond .eq 15, 106, 0, 0, 0, 0), none, none, some (.aload_n 0, 0, 0, 0, 0, 0), some (.getfield 174, 6, 25, 1, 0, 0), none, none, some (.aload_n 0, 0, 0, 0, 0, 0), some (.getfield 181, 6, 24, 1, 0, 0), none, none, some (.ladd, 0, 0, 0, 0, 0), some (.goto 15, 118, 0, 0, 0, 0), none, none, some (.ldc2_w 187, 0, 0, 0, 0, 2), none, none, some (.aload_n 0, 0, 0, 0, 0, 0), some (.getfield 174, 6, 25, 1, 0, 0), none, none, some (.ldc2_w 189, 0, 0, 0, 0, 1048576), none, none, some (.lsub, 0, 0, 0, 0, 0), some (.lmul, 0, 0, 0, 0, 0), some (.lstore_n 3, 0, 0, 0, 0, 0), some (.aload_n 0, 0, 0, 0, 0, 0), some (.dup, 0, 0, 0, 0, 0), some (.getfield 178, 6, 26, 0, 0, 0), none, none, some (.iconst 1, 0, 0, 0, 1, 0), some (.iadd, 0, 0, 0, 0, 0), some (.putfield 178, 6, 26, 0, 0, 0), none, none, some (.iload_n 2, 0, 0, 0, 0, 0), some (.ifCond .eq 15, 145, 0, 0, 0, 0), none, none, some (.lload_n 3, 0, 0, 0, 0, 0), some (.ldc2_w 187, 0, 0, 0, 0, 2), none, none, some (.lrem, 0, 0, 0, 0, 0), some (.lconst 0, 0, 0, 0, 0, 0), some (.lcmp, 0, 0, 0, 0, 0), some (.ifCond .eq 5, 145, 0, 0, 0, 0), none, none, some (.iconst 0, 0, 0, 0, 0, 0), some (.ireturn, 2, 0, 0, 0, 0), some (.aload_n 0, 0, 0, 0, 0, 0), some (.lload_n 3, 0, 0, 0, 0, 0), some (.ldc2_w 187, 0, 0, 0, 0, 2), none, none, some (.ldiv, 0, 0, 0, 0, 0), some (.putfield 174, 6, 25, 1, 0, 0), none, none, some (.iconst 1, 0, 0, 0, 1, 0), some (.ireturn, 2, 0, 0, 0, 0)]
def tb_X7_goesTo : List (Option XI) := [some (.aload_n 0, 0, 0, 0, 0, 0), some (.invokevirtual 191, 143, 1, 6, 0, 0), none, none, some (.iconst 0, 0, 0, 0, 0, 0), some (.istore 4, 0, 0, 0, 0, 0), none, some (.aload_n 0, 0, 0, 0, 0, 0), some (.getfield 174, 6, 25, 1, 0, 0), none, none, some (.lload_n 1, 0, 0, 0, 0, 0), some (.lcmp, 0, 0, 0, 0, 0), some (.ifCond .eq 50, 63, 0, 0, 0, 0), none, none, some (.aload_n 0, 0, 0, 0, 0, 0), some (.getfield 178, 6, 26, 0, 0, 0), none, none, some (.iload_n 3, 0, 0, 0, 0, 0), some (.if_icmp .ge 42, 63, 0, 0, 0, 0), none, none, some (.lload_n 1, 0, 0, 0, 0, 0), some (.aload_n 0, 0, 0, 0, 0, 0), some (.getfield 174, 6, 25, 1, 0, 0), none, none, some (.lcmp, 0, 0, 0, 0, 0), some (.ifCond .le 7, 37, 0, 0, 0, 0), none, none, some (.iconst 1, 0, 0, 0, 1, 0), some (.goto 4, 38, 0, 0, 0, 0), none, none, some (.iconst (-1), 0, 0, 0, (-1), 0), some (.istore 4, 0, 0, 0, 0, 0), none, some (.aload_n 0, 0, 0, 0, 0, 0), some (.lload_n 1, 0, 0, 0, 0, 0), some (.aload_n 0, 0, 0, 0, 0, 0), some (.getfield 174, 6, 25, 1, 0, 0), none, none, some (.lcmp, 0, 0, 0, 0, 0), some (.ifCond .le 7, 54, 0, 0, 0, 0), none, none, some (.iconst 1, 0, 0, 0, 1, 0), some (.goto 4, 55, 0, 0, 0, 0), none, none, some (.iconst 0, 0, 0, 0, 0, 0), some (.invokevirtual 194, 144, 2, 6, 0, 0), none, none, some (.istore 5, 0, 0, 0, 0, 0), none, some (.goto (-53), 7, 0, 0, 0, 0), none, none, some (.iload 4, 0, 0, 0, 0, 0), none, some (.ireturn, 1, 0, 0, 0, 0)]
def tb_X7_finds : List (Option XI) := [some (.aload_n 0, 0, 0, 0, 0, 0), some (.invokevirtual 191, 143, 1, 6, 0, 0), none, none, some (.iconst 1, 0, 0, 0, 1, 0), some (.istore 7, 0, 0, 0, 0, 0), none, some (.iload 7, 0, 0, 0, 0, 0), none, some (.ifCond .eq 76, 85, 0, 0, 0, 0), none, none, some (.iload_n 1, 0, 0, 0, 0, 0), some (.ifCond .eq 12, 25, 0, 0, 0, 0), none, none, some (.aload_n 0, 0, 0, 0, 0, 0), some (.getfield 174, 6, 25, 1, 0, 0), none, none, some (.lload_n 2, 0, 0, 0, 0, 0), some (.lcmp, 0, 0, 0, 0, 0), some (.ifCond .le 18, 40, 0, 0, 0, 0), none, none, some (.iload 4, 0, 0, 0, 0, 0), none, some (.ifCond .eq 58, 85, 0, 0, 0, 0), none, none, some (.aload_n 0, 0, 0, 0, 0, 0), some (.getfield 174, 6, 25, 1, 0, 0), none, none, some (.lload 5, 0, 0, 0, 0, 0), none, some (.lcmp, 0, 0, 0, 0, 0), some (.ifCond .lt 48, 85, 0, 0, 0, 0), none, none, some (.aload_n 0, 0, 0, 0, 0, 0), some (.iload_n 1, 0, 0, 0, 0, 0), some (.ifCond .eq 16, 58, 0, 0, 0, 0), none, none, some (.aload_n 0, 0, 0, 0, 0, 0), some (.getfield 174, 6, 25, 1, 0, 0), none, none, some (.lload_n 2, 0, 0, 0, 0, 0), some (.lcmp, 0, 0, 0, 0, 0), some (.ifCond .gt 7, 58, 0, 0, 0, 0), none, none, some (.iconst 1, 0, 0, 0, 1, 0), some (.goto 4, 59, 0, 0, 0, 0), none, none, some (.iconst 0, 0, 0, 0, 0, 0), some (.invokevirtual 194, 144, 2, 6, 0, 0), none, none, some (.ifCond .eq 17, 79, 0, 0, 0, 0), none, none, some (.aload_n 0, 0, 0, 0, 0, 0), some (.getfield 174, 6, 25, 1, 0, 0), none, none, some (.invokestatic 198, 142, 1, 0, 0, 0), none, none, some (.ifCond .eq 7, 79, 0, 0, 0, 0), none, none, some (.iconst 1, 0, 0, 0, 1, 0), some (.goto 4, 80, 0, 0, 0, 0), none, none, some (.iconst 0, 0, 0, 0, 0, 0), some (.istore 7, 0, 0, 0, 0, 0), none, some (.goto (-75), 7, 0, 0, 0, 0), none, none, some (.iload 7, 0, 0, 0, 0, 0), none, some (.ireturn, 2, 0, 0, 0, 0)]
def tb_X7_kind : List (Option XI) := [some (.aload_n 0, 0, 0, 0, 0, 0), some (.iload_n 1, 0, 0, 0, 0, 0), some (.invokestatic 72, 116, 1, 0, 0, 0), none, none, some (.ifCond .eq 7, 12, 0, 0, 0, 0), none, none, some (.iconst 0, 0, 0, 0, 0, 0), some (.goto 4, 13, 0, 0, 0, 0), none, none, some (.iconst 1, 0, 0, 0, 1, 0), some (.invokevirtual 202, 114, 2, 6, 0, 0), none, none, some (.ifCond .eq 12, 28, 0, 0, 0, 0), none, none, some (.aload_n 0, 0, 0, 0, 0, 0), some (.getfield 7, 6, 1, 2, 0, 0), none, none, some (.iload_n 1, 0, 0, 0, 0, 0), some (.iaload, 0, 0, 0, 0, 0), some (.goto 4, 29, 0, 0, 0, 0), none, none, some (.iconst 0, 0, 0, 0, 0, 0), some (.ireturn, 1, 0, 0, 0, 0)]
def tb_X7_clear : List (Option XI) := [some (.aload_n 0, 0, 0, 0, 0, 0), some (.iload_n 1, 0, 0, 0, 0, 0), some (.invokestatic 72, 116, 1, 0, 0, 0), none, none, some (.ifCond .eq 7, 12, 0, 0, 0, 0), none, none, some (.iconst 0, 0, 0, 0, 0, 0), some (.goto 4, 13, 0, 0, 0, 0), none, none, some (.iconst 1, 0, 0, 0, 1, 0), some (.invokevirtual 202, 114, 2, 6, 0, 0), none, none, some (.ifCond .ne 5, 21, 0, 0, 0, 0), none, none, some (.iconst 0, 0, 0, 0, 0, 0), some (.ireturn, 1, 0, 0, 0, 0), some (.aload_n 0, 0, 0, 0, 0, 0), some (.getfield 7, 6, 1, 2, 0, 0), none, none, some (.iload_n 1, 0, 0, 0, 0, 0), some (.iaload, 0, 0, 0, 0, 0), some (.istore_n 2, 0, 0, 0, 0, 0), some (.aload_n 0, 0, 0, 0, 0, 0), some (.iload_n 1, 0, 0, 0, 0, 0), some (.iconst 0, 0, 0, 0, 0, 0), some (.iconst 0, 0, 0, 0, 0, 0), some (.invokevirtual 143, 118, 4, 6, 0, 0), none, none, some (.iload_n 2, 0, 0, 0, 0, 0), some (.ireturn, 1, 0, 0, 0, 0)]
def tb_X7_finiteOne : List (Option XI) := [some (.aload_n 0, 0, 0, 0, 0, 0), some (.iconst 0, 0, 0, 0, 0, 0), some (.putfield 76, 6, 11, 0, 0, 0), none, none, some (.iload_n 1, 0, 0, 0, 0, 0), some (.ifCond .le 10, 16, 0, 0, 0, 0), none, none, some (.aload_n 0, 0, 0, 0, 0, 0), some (.iconst 0, 0, 0, 0, 0, 0), some (.iload_n 1, 0, 0, 0, 0, 0), some (.i2l, 0, 0, 0, 0, 0), some (.invokevirtual 91, 121, 3, 6, 0, 0), none, none, some (.aload_n 0, 0, 0, 0, 0, 0), some (.invokevirtual 95, 123, 1, 6, 0, 0), none, none, some (.ireturn, 1, 0, 0, 0, 0)]
def tb_X7_begin : List (Option XI) := [some (.aload_n 0, 0, 0, 0, 0, 0), some (.iconst 0, 0, 0, 0, 0, 0), some (.putfield 84, 6, 15, 0, 0, 0), none, none, some (.aload_n 0, 0, 0, 0, 0, 0), some (.invokevirtual 205, 124, 1, 6, 0, 0), none, none, some (.return_, 0, 0, 0, 0, 0)]
def tb_X7_finite : List (Option XI) := [some (.aload_n 0, 0, 0, 0, 0, 0), some (.iload_n 1, 0, 0, 0, 0, 0), some (.invokestatic 72, 116, 1, 0, 0, 0), none, none, some (.ifCond .ne 7, 12, 0, 0, 0, 0), none, none, some (.iconst 1, 0, 0, 0, 1, 0), some (.goto 20, 29, 0, 0, 0, 0), none, none, some (.iload_n 2, 0, 0, 0, 0, 0), some (.i2l, 0, 0, 0, 0, 0), some (.lconst 0, 0, 0, 0, 0, 0), some (.ldc2_w 79, 0, 0, 0, 0, 1000000), none, none, some (.invokestatic 68, 115, 3, 0, 0, 0), none, none, some (.ifCond .ne 7, 28, 0, 0, 0, 0), none, none, some (.iconst 2, 0, 0, 0, 2, 0), some (.goto 4, 29, 0, 0, 0, 0), none, none, some (.iconst 0, 0, 0, 0, 0, 0), some (.invokevirtual 202, 114, 2, 6, 0, 0), none, none, some (.ifCond .eq 18, 50, 0, 0, 0, 0), none, none, some (.aload_n 0, 0, 0, 0, 0, 0), some (.invokevirtual 208, 150, 1, 6, 0, 0), none, none, some (.aload_n 0, 0, 0, 0, 0, 0), some (.iload_n 1, 0, 0, 0, 0, 0), some (.iconst 1, 0, 0, 0, 1, 0), some (.aload_n 0, 0, 0, 0, 0, 0), some (.iload_n 2, 0, 0, 0, 0, 0), some (.invokevirtual 211, 149, 2, 6, 0, 0), none, none, some (.invokevirtual 143, 118, 4, 6, 0, 0), none, none, some (.return_, 0, 0, 0, 0, 0)]
def tb_X7_powerOf : List (Option XI) := [some (.aload_n 0, 0, 0, 0, 0, 0), some (.invokevirtual 208, 150, 1, 6, 0, 0), none, none, some (.aload_n 0, 0, 0, 0, 0, 0), some (.iconst 0, 0, 0, 0, 0, 0), some (.putfield 76, 6, 11, 0, 0, 0), none, none, some (.aload_n 0, 0, 0, 0, 0, 0), some (.aload_n 0, 0, 0, 0, 0, 0), some (.getfield 13, 6, 2, 2, 0, 0), none, none, some (.iload_n 1, 0, 0, 0, 0, 0), some (.iaload, 0, 0, 0, 0, 0), some (.lconst 1, 0, 0, 0, 0, 1), some (.invokevirtual 91, 121, 3, 6, 0, 0), none, none, some (.aload_n 0, 0, 0, 0, 0, 0), some (.invokevirtual 95, 123, 1, 6, 0, 0), none, none, some (.ireturn, 1, 0, 0, 0, 0)]
def tb_X7_isKind : List (Option XI) := [some (.aload_n 0, 0, 0, 0, 0, 0), some (.getfield 7, 6, 1, 2, 0, 0), none, none, some (.iload_n 1, 0, 0, 0, 0, 0), some (.iaload, 0, 0, 0, 0, 0), some (.iload_n 2, 0, 0, 0, 0, 0), some (.if_icmp .ne 7, 14, 0, 0, 0, 0), none, none, some (.iconst 1, 0, 0, 0, 1, 0), some (.goto 4, 15, 0, 0, 0, 0), none, none, some (.iconst 0, 0, 0, 0, 0, 0), some (.ireturn, 2, 0, 0, 0, 0)]
def tb_X7_omega : List (Option XI) := [some (.iload_n 1, 0, 0, 0, 0, 0), some (.invokestatic 72, 116, 1, 0, 0, 0), none, none, some (.ifCond .eq 14, 18, 0, 0, 0, 0), none, none, some (.iload_n 2, 0, 0, 0, 0, 0), some (.invokestatic 72, 116, 1, 0, 0, 0), none, none, some (.ifCond .eq 7, 18, 0, 0, 0, 0), none, none, some (.iconst 1, 0, 0, 0, 1, 0), some (.goto 4, 19, 0, 0, 0, 0), none, none, some (.iconst 0, 0, 0, 0, 0, 0), some (.istore_n 3, 0, 0, 0, 0, 0), some (.iload_n 3, 0, 0, 0, 0, 0), some (.ifCond .eq 20, 41, 0, 0, 0, 0), none, none, some (.aload_n 0, 0, 0, 0, 0, 0), some (.iload_n 2, 0, 0, 0, 0, 0), some (.iconst 1, 0, 0, 0, 1, 0), some (.invokevirtual 214, 153, 3, 6, 0, 0), none, none, some (.ifCond .eq 11, 41, 0, 0, 0, 0), none, none, some (.aload_n 0, 0, 0, 0, 0, 0), some (.iload_n 2, 0, 0, 0, 0, 0), some (.invokevirtual 218, 152, 2, 6, 0, 0), none, none, some (.goto 4, 42, 0, 0, 0, 0), none, none, some (.iconst (-1), 0, 0, 0, (-1), 0), some (.istore 4, 0, 0, 0, 0, 0), none, some (.aload_n 0, 0, 0, 0, 0, 0), some (.iload_n 3, 0, 0, 0, 0, 0), some (.ifCond .ne 7, 53, 0, 0, 0, 0), none, none, some (.iconst 1, 0, 0, 0, 1, 0), some (.goto 14, 64, 0, 0, 0, 0), none, none, some (.iload 4, 0, 0, 0, 0, 0), none, some (.iconst (-1), 0, 0, 0, (-1), 0), some (.if_icmp .ne 7, 63, 0, 0, 0, 0), none, none, some (.iconst 2, 0, 0, 0, 2, 0), some (.goto 4, 64, 0, 0, 0, 0), none, none, some (.iconst 0, 0, 0, 0, 0, 0), some (.invokevirtual 202, 114, 2, 6, 0, 0), none, none, some (.ifCond .eq 11, 78, 0, 0, 0, 0), none, none, some (.aload_n 0, 0, 0, 0, 0, 0), some (.iload_n 1, 0, 0, 0, 0, 0), some (.iconst 1, 0, 0, 0, 1, 0), some (.iload 4, 0, 0, 0, 0, 0), none, some (.invokevirtual 143, 118, 4, 6, 0, 0), none, none, some (.return_, 0, 0, 0, 0, 0)]
def tb_X7_number : List (Option XI) := [some (.iload_n 3, 0, 0, 0, 0, 0), some (.i2l, 0, 0, 0, 0, 0), some (.lconst 0, 0, 0, 0, 0, 0), some (.ldc2_w 221, 0, 0, 0, 0, 20), none, none, some (.invokestatic 68, 115, 3, 0, 0, 0), none, none, some (.istore 4, 0, 0, 0, 0, 0), none, some (.iload_n 2, 0, 0, 0, 0, 0), some (.i2l, 0, 0, 0, 0, 0), some (.lstore 5, 0, 0, 0, 0, 0), none, some (.iload 4, 0, 0, 0, 0, 0), none, some (.ifCond .eq 7, 24, 0, 0, 0, 0), none, none, some (.iload_n 3, 0, 0, 0, 0, 0), some (.goto 5, 26, 0, 0, 0, 0), none, none, some (.bipush 20, 0, 0, 0, 20, 0), none, some (.istore 7, 0, 0, 0, 0, 0), none, some (.iload 7, 0, 0, 0, 0, 0), none, some (.bipush 20, 0, 0, 0, 20, 0), none, some (.if_icmp .ge 17, 49, 0, 0, 0, 0), none, none, some (.lload 5, 0, 0, 0, 0, 0), none, some (.ldc2_w 187, 0, 0, 0, 0, 2), none, none, some (.lmul, 0, 0, 0, 0, 0), some (.lstore 5, 0, 0, 0, 0, 0), none, some (.iinc 7 1, 0, 0, 0, 1, 0), none, none, some (.goto (-18), 28, 0, 0, 0, 0), none, none, some (.aload_n 0, 0, 0, 0, 0, 0), some (.iload_n 1, 0, 0, 0, 0, 0), some (.invokestatic 72, 116, 1, 0, 0, 0), none, none, some (.ifCond .ne 7, 61, 0, 0, 0, 0), none, none, some (.iconst 1, 0, 0, 0, 1, 0), some (.goto 21, 79, 0, 0, 0, 0), none, none, some (.iload 4, 0, 0, 0, 0, 0), none, some (.ifCond .eq 11, 74, 0, 0, 0, 0), none, none, some (.lload 5, 0, 0, 0, 0, 0), none, some (.invokestatic 198, 142, 1, 0, 0, 0), none, none, some (.ifCond .ne 7, 78, 0, 0, 0, 0), none, none, some (.iconst 2, 0, 0, 0, 2, 0), some (.goto 4, 79, 0, 0, 0, 0), none, none, some (.iconst 0, 0, 0, 0, 0, 0), some (.invokevirtual 202, 114, 2, 6, 0, 0), none, none, some (.ifCond .eq 12, 94, 0, 0, 0, 0), none, none, some (.aload_n 0, 0, 0, 0, 0, 0), some (.iload_n 1, 0, 0, 0, 0, 0), some (.iconst 2, 0, 0, 0, 2, 0), some (.lload 5, 0, 0, 0, 0, 0), none, some (.l2i, 0, 0, 0, 0, 0), some (.invokevirtual 143, 118, 4, 6, 0, 0), none, none, some (.return_, 0, 0, 0, 0, 0)]
def tb_X7_signs : List (Option XI) := [some (.iload_n 3, 0, 0, 0, 0, 0), some (.i2l, 0, 0, 0, 0, 0), some (.lconst 0, 0, 0, 0, 0, 0), some (.ldc2_w 221, 0, 0, 0, 0, 20), none, none, some (.invokestatic 68, 115, 3, 0, 0, 0), none, none, some (.ifCond .eq 17, 26, 0, 0, 0, 0), none, none, some (.iload_n 2, 0, 0, 0, 0, 0), some (.ifCond .lt 13, 26, 0, 0, 0, 0), none, none, some (.iload_n 2, 0, 0, 0, 0, 0), some (.iload_n 3, 0, 0, 0, 0, 0), some (.ishr, 0, 0, 0, 0, 0), some (.ifCond .ne 7, 26, 0, 0, 0, 0), none, none, some (.iconst 1, 0, 0, 0, 1, 0), some (.goto 4, 27, 0, 0, 0, 0), none, none, some (.iconst 0, 0, 0, 0, 0, 0), some (.istore 4, 0, 0, 0, 0, 0), none, some (.aload_n 0, 0, 0, 0, 0, 0), some (.iload_n 1, 0, 0, 0, 0, 0), some (.invokestatic 72, 116, 1, 0, 0, 0), none, none, some (.ifCond .ne 7, 41, 0, 0, 0, 0), none, none, some (.iconst 1, 0, 0, 0, 1, 0), some (.goto 13, 51, 0, 0, 0, 0), none, none, some (.iload 4, 0, 0, 0, 0, 0), none, some (.ifCond .ne 7, 50, 0, 0, 0, 0), none, none, some (.iconst 2, 0, 0, 0, 2, 0), some (.goto 4, 51, 0, 0, 0, 0), none, none, some (.iconst 0, 0, 0, 0, 0, 0), some (.invokevirtual 202, 114, 2, 6, 0, 0), none, none, some (.ifCond .ne 4, 58, 0, 0, 0, 0), none, none, some (.return_, 0, 0, 0, 0, 0), some (.aload_n 0, 0, 0, 0, 0, 0), some (.invokevirtual 191, 143, 1, 6, 0, 0), none, none, some (.iconst 0, 0, 0, 0, 0, 0), some (.istore 5, 0, 0, 0, 0, 0), none, some (.iload 5, 0, 0, 0, 0, 0), none, some (.iload_n 3, 0, 0, 0, 0, 0), some (.if_icmp .ge 30, 98, 0, 0, 0, 0), none, none, some (.aload_n 0, 0, 0, 0, 0, 0), some (.iload_n 2, 0, 0, 0, 0, 0), some (.iload 5, 0, 0, 0, 0, 0), none, some (.ishr, 0, 0, 0, 0, 0), some (.iconst 1, 0, 0, 0, 1, 0), some (.iand, 0, 0, 0, 0, 0), some (.iconst 1, 0, 0, 0, 1, 0), some (.if_icmp .ne 7, 86, 0, 0, 0, 0), none, none, some (.iconst 1, 0, 0, 0, 1, 0), some (.goto 4, 87, 0, 0, 0, 0), none, none, some (.iconst 0, 0, 0, 0, 0, 0), some (.invokevirtual 194, 144, 2, 6, 0, 0), none, none, some (.istore 6, 0, 0, 0, 0, 0), none, some (.iinc 5 1, 0, 0, 0, 1, 0), none, none, some (.goto (-30), 65, 0, 0, 0, 0), none, none, some (.aload_n 0, 0, 0, 0, 0, 0), some (.iload_n 1, 0, 0, 0, 0, 0), some (.iconst 2, 0, 0, 0, 2, 0), some (.aload_n 0, 0, 0, 0, 0, 0), some (.getfield 174, 6, 25, 1, 0, 0), none, none, some (.l2i, 0, 0, 0, 0, 0), some (.invokevirtual 143, 118, 4, 6, 0, 0), none, none, some (.return_, 0, 0, 0, 0, 0)]
def tb_X7_term : List (Option XI) := [some (.iload_n 2, 0, 0, 0, 0, 0), some (.i2l, 0, 0, 0, 0, 0), some (.ldc2_w 223, 0, 0, 0, 0, (-1000000)), none, none, some (.ldc2_w 79, 0, 0, 0, 0, 1000000), none, none, some (.invokestatic 68, 115, 3, 0, 0, 0), none, none, some (.ifCond .eq 66, 77, 0, 0, 0, 0), none, none, some (.iload_n 3, 0, 0, 0, 0, 0), some (.i2l, 0, 0, 0, 0, 0), some (.ldc2_w 225, 0, 0, 0, 0, (-20)), none, none, some (.ldc2_w 221, 0, 0, 0, 0, 20), none, none, some (.invokestatic 68, 115, 3, 0, 0, 0), none, none, some (.ifCond .eq 52, 77, 0, 0, 0, 0), none, none, some (.iload 4, 0, 0, 0, 0, 0), none, some (.i2l, 0, 0, 0, 0, 0), some (.ldc2_w 225, 0, 0, 0, 0, (-20)), none, none, some (.ldc2_w 221, 0, 0, 0, 0, 20), none, none, some (.invokestatic 68, 115, 3, 0, 0, 0), none, none, some (.ifCond .eq 37, 77, 0, 0, 0, 0), none, none, some (.iload 5, 0, 0, 0, 0, 0), none, some (.i2l, 0, 0, 0, 0, 0), some (.ldc2_w 225, 0, 0, 0, 0, (-20)), none, none, some (.ldc2_w 221, 0, 0, 0, 0, 20), none, none, some (.invokestatic 68, 115, 3, 0, 0, 0), none, none, some (.ifCond .eq 22, 77, 0, 0, 0, 0), none, none, some (.iload 6, 0, 0, 0, 0, 0), none, some (.i2l, 0, 0, 0, 0, 0), some (.ldc2_w 225, 0, 0, 0, 0, (-20)), none, none, some (.ldc2_w 221, 0, 0, 0, 0, 20), none, none, some (.invokestatic 68, 115, 3, 0, 0, 0), none, none, some (.ifCond .eq 7, 77, 0, 0, 0, 0), none, none, some (.iconst 1, 0, 0, 0, 1, 0), some (.goto 4, 78, 0, 0, 0, 0), none, none, some (.iconst 0, 0, 0, 0, 0, 0), some (.istore 7, 0, 0, 0, 0, 0), none, some (.aload_n 0, 0, 0, 0, 0, 0), some (.iload_n 1, 0, 0, 0, 0, 0), some (.invokestatic 72, 116, 1, 0, 0, 0), none, none, some (.ifCond .ne 7, 92, 0, 0, 0, 0), none, none, some (.iconst 1, 0, 0, 0, 1, 0), some (.goto 13, 102, 0, 0, 0, 0), none, none, some (.iload 7, 0, 0, 0, 0, 0), none, some (.ifCond .ne 7, 101, 0, 0, 0, 0), none, none, some (.iconst 2, 0, 0, 0, 2, 0), some (.goto 4, 102, 0, 0, 0, 0), none, none, some (.iconst 0, 0, 0, 0, 0, 0), some (.invokevirtual 202, 114, 2, 6, 0, 0), none, none, some (.ifCond .eq 58, 163, 0, 0, 0, 0), none, none, some (.aload_n 0, 0, 0, 0, 0, 0), some (.iconst 0, 0, 0, 0, 0, 0), some (.putfield 128, 6, 20, 0, 0, 0), none, none, some (.aload_n 0, 0, 0, 0, 0, 0), some (.invokestatic 159, 133, 0, 0, 0, 0), none, none, some (.iload_n 3, 0, 0, 0, 0, 0), some (.i2l, 0, 0, 0, 0, 0), some (.iconst 1, 0, 0, 0, 1, 0), some (.invokestatic 124, 132, 1, 0, 0, 0), none, none, some (.lmul, 0, 0, 0, 0, 0), some (.ladd, 0, 0, 0, 0, 0), some (.iload 4, 0, 0, 0, 0, 0), none, some (.i2l, 0, 0, 0, 0, 0), some (.iconst 2, 0, 0, 0, 2, 0), some (.invokestatic 124, 132, 1, 0, 0, 0), none, none, some (.lmul, 0, 0, 0, 0, 0), some (.ladd, 0, 0, 0, 0, 0), some (.iload 5, 0, 0, 0, 0, 0), none, some (.i2l, 0, 0, 0, 0, 0), some (.iconst 3, 0, 0, 0, 3, 0), some (.invokestatic 124, 132, 1, 0, 0, 0), none, none, some (.lmul, 0, 0, 0, 0, 0), some (.ladd, 0, 0, 0, 0, 0), some (.iload 6, 0, 0, 0, 0, 0), none, some (.i2l, 0, 0, 0, 0, 0), some (.ladd, 0, 0, 0, 0, 0), some (.iload_n 2, 0, 0, 0, 0, 0), some (.i2l, 0, 0, 0, 0, 0), some (.invokevirtual 147, 135, 3, 6, 0, 0), none, none, some (.aload_n 0, 0, 0, 0, 0, 0), some (.invokevirtual 155, 136, 1, 6, 0, 0), none, none, some (.istore 8, 0, 0, 0, 0, 0), none, some (.aload_n 0, 0, 0, 0, 0, 0), some (.iload_n 1, 0, 0, 0, 0, 0), some (.invokevirtual 227, 137, 2, 6, 0, 0), none, none, some (.return_, 0, 0, 0, 0, 0)]
def tb_X7_areBoth : List (Option XI) := [some (.aload_n 0, 0, 0, 0, 0, 0), some (.getfield 7, 6, 1, 2, 0, 0), none, none, some (.iload_n 1, 0, 0, 0, 0, 0), some (.iaload, 0, 0, 0, 0, 0), some (.iload_n 3, 0, 0, 0, 0, 0), some (.if_icmp .ne 17, 24, 0, 0, 0, 0), none, none, some (.aload_n 0, 0, 0, 0, 0, 0), some (.getfield 7, 6, 1, 2, 0, 0), none, none, some (.iload_n 2, 0, 0, 0, 0, 0), some (.iaload, 0, 0, 0, 0, 0), some (.iload_n 3, 0, 0, 0, 0, 0), some (.if_icmp .ne 7, 24, 0, 0, 0, 0), none, none, some (.iconst 1, 0, 0, 0, 1, 0), some (.goto 4, 25, 0, 0, 0, 0), none, none, some (.iconst 0, 0, 0, 0, 0, 0), some (.ireturn, 2, 0, 0, 0, 0)]
def tb_X7_setsOrdinal : List (Option XI) := [some (.iload_n 2, 0, 0, 0, 0, 0), some (.iconst (-1), 0, 0, 0, (-1), 0), some (.if_icmp .eq 10, 12, 0, 0, 0, 0), none, none, some (.aload_n 0, 0, 0, 0, 0, 0), some (.iload_n 1, 0, 0, 0, 0, 0), some (.iconst 1, 0, 0, 0, 1, 0), some (.iload_n 2, 0, 0, 0, 0, 0), some (.invokevirtual 143, 118, 4, 6, 0, 0), none, none, some (.iload_n 2, 0, 0, 0, 0, 0), some (.iconst (-1), 0, 0, 0, (-1), 0), some (.if_icmp .eq 7, 21, 0, 0, 0, 0), none, none, some (.iconst 1, 0, 0, 0, 1, 0), some (.goto 4, 22, 0, 0, 0, 0), none, none, some (.iconst 0, 0, 0, 0, 0, 0), some (.ireturn, 2, 0, 0, 0, 0)]
def tb_X7_setsNumber : List (Option XI) := [some (.lload_n 2, 0, 0, 0, 0, 0), some (.invokestatic 198, 142, 1, 0, 0, 0), none, none, some (.ifCond .eq 11, 15, 0, 0, 0, 0), none, none, some (.aload_n 0, 0, 0, 0, 0, 0), some (.iload_n 1, 0, 0, 0, 0, 0), some (.iconst 2, 0, 0, 0, 2, 0), some (.lload_n 2, 0, 0, 0, 0, 0), some (.l2i, 0, 0, 0, 0, 0), some (.invokevirtual 143, 118, 4, 6, 0, 0), none, none, some (.lload_n 2, 0, 0, 0, 0, 0), some (.invokestatic 198, 142, 1, 0, 0, 0), none, none, some (.ireturn, 2, 0, 0, 0, 0)]
def tb_X7_setsGrowth : List (Option XI) := [some (.iload_n 2, 0, 0, 0, 0, 0), some (.ifCond .eq 8, 9, 0, 0, 0, 0), none, none, some (.aload_n 0, 0, 0, 0, 0, 0), some (.iload_n 1, 0, 0, 0, 0, 0), some (.invokevirtual 227, 137, 2, 6, 0, 0), none, none, some (.iload_n 2, 0, 0, 0, 0, 0), some (.ireturn, 2, 0, 0, 0, 0)]
def tb_X7_setsSum : List (Option XI) := [some (.aload_n 0, 0, 0, 0, 0, 0), some (.invokevirtual 208, 150, 1, 6, 0, 0), none, none, some (.aload_n 0, 0, 0, 0, 0, 0), some (.iload_n 2, 0, 0, 0, 0, 0), some (.iload_n 3, 0, 0, 0, 0, 0), some (.iconst 1, 0, 0, 0, 1, 0), some (.invokevirtual 230, 158, 4, 6, 0, 0), none, none, some (.ifCond .eq 27, 38, 0, 0, 0, 0), none, none, some (.aload_n 0, 0, 0, 0, 0, 0), some (.iload_n 1, 0, 0, 0, 0, 0), some (.aload_n 0, 0, 0, 0, 0, 0), some (.aload_n 0, 0, 0, 0, 0, 0), some (.getfield 13, 6, 2, 2, 0, 0), none, none, some (.iload_n 2, 0, 0, 0, 0, 0), some (.iaload, 0, 0, 0, 0, 0), some (.aload_n 0, 0, 0, 0, 0, 0), some (.getfield 13, 6, 2, 2, 0, 0), none, none, some (.iload_n 3, 0, 0, 0, 0, 0), some (.iaload, 0, 0, 0, 0, 0), some (.invokevirtual 99, 125, 3, 6, 0, 0), none, none, some (.invokevirtual 234, 159, 3, 6, 0, 0), none, none, some (.goto 66, 101, 0, 0, 0, 0), none, none, some (.aload_n 0, 0, 0, 0, 0, 0), some (.iload_n 2, 0, 0, 0, 0, 0), some (.iload_n 3, 0, 0, 0, 0, 0), some (.iconst 2, 0, 0, 0, 2, 0), some (.invokevirtual 230, 158, 4, 6, 0, 0), none, none, some (.ifCond .eq 26, 71, 0, 0, 0, 0), none, none, some (.aload_n 0, 0, 0, 0, 0, 0), some (.iload_n 1, 0, 0, 0, 0, 0), some (.aload_n 0, 0, 0, 0, 0, 0), some (.getfield 13, 6, 2, 2, 0, 0), none, none, some (.iload_n 2, 0, 0, 0, 0, 0), some (.iaload, 0, 0, 0, 0, 0), some (.i2l, 0, 0, 0, 0, 0), some (.aload_n 0, 0, 0, 0, 0, 0), some (.getfield 13, 6, 2, 2, 0, 0), none, none, some (.iload_n 3, 0, 0, 0, 0, 0), some (.iaload, 0, 0, 0, 0, 0), some (.i2l, 0, 0, 0, 0, 0), some (.ladd, 0, 0, 0, 0, 0), some (.invokevirtual 237, 160, 3, 6, 0, 0), none, none, some (.goto 33, 101, 0, 0, 0, 0), none, none, some (.aload_n 0, 0, 0, 0, 0, 0), some (.iload_n 2, 0, 0, 0, 0, 0), some (.iload_n 3, 0, 0, 0, 0, 0), some (.iconst 3, 0, 0, 0, 3, 0), some (.invokevirtual 230, 158, 4, 6, 0, 0), none, none, some (.ifCond .eq 22, 100, 0, 0, 0, 0), none, none, some (.aload_n 0, 0, 0, 0, 0, 0), some (.iload_n 1, 0, 0, 0, 0, 0), some (.aload_n 0, 0, 0, 0, 0, 0), some (.iload_n 2, 0, 0, 0, 0, 0), some (.iload_n 3, 0, 0, 0, 0, 0), some (.iconst 1, 0, 0, 0, 1, 0), some (.invokevirtual 241, 139, 4, 6, 0, 0), none, none, some (.invokevirtual 244, 161, 3, 6, 0, 0), none, none, some (.ifCond .eq 7, 100, 0, 0, 0, 0), none, none, some (.iconst 1, 0, 0, 0, 1, 0), some (.goto 4, 101, 0, 0, 0, 0), none, none, some (.iconst 0, 0, 0, 0, 0, 0), some (.ireturn, 2, 0, 0, 0, 0)]
def tb_X7_told : List (Option XI) := [some (.aload_n 0, 0, 0, 0, 0, 0), some (.iload_n 2, 0, 0, 0, 0, 0), some (.ifCond .ne 7, 9, 0, 0, 0, 0), none, none, some (.iconst 1, 0, 0, 0, 1, 0), some (.goto 12, 18, 0, 0, 0, 0), none, none, some (.iload_n 3, 0, 0, 0, 0, 0), some (.ifCond .ne 7, 17, 0, 0, 0, 0), none, none, some (.iconst 2, 0, 0, 0, 2, 0), some (.goto 4, 18, 0, 0, 0, 0), none, none, some (.iconst 0, 0, 0, 0, 0, 0), some (.invokevirtual 202, 114, 2, 6, 0, 0), none, none, some (.ifCond .eq 12, 33, 0, 0, 0, 0), none, none, some (.aload_n 0, 0, 0, 0, 0, 0), some (.getfield 7, 6, 1, 2, 0, 0), none, none, some (.iload_n 1, 0, 0, 0, 0, 0), some (.iaload, 0, 0, 0, 0, 0), some (.goto 4, 34, 0, 0, 0, 0), none, none, some (.iconst 0, 0, 0, 0, 0, 0), some (.ireturn, 1, 0, 0, 0, 0)]
def tb_X7_sum : List (Option XI) := [some (.iload_n 1, 0, 0, 0, 0, 0), some (.iload_n 2, 0, 0, 0, 0, 0), some (.iload_n 3, 0, 0, 0, 0, 0), some (.invokestatic 248, 117, 3, 0, 0, 0), none, none, some (.istore 4, 0, 0, 0, 0, 0), none, some (.aload_n 0, 0, 0, 0, 0, 0), some (.iload_n 1, 0, 0, 0, 0, 0), some (.iload 4, 0, 0, 0, 0, 0), none, some (.iload 4, 0, 0, 0, 0, 0), none, some (.ifCond .eq 17, 31, 0, 0, 0, 0), none, none, some (.aload_n 0, 0, 0, 0, 0, 0), some (.iload_n 1, 0, 0, 0, 0, 0), some (.iload_n 2, 0, 0, 0, 0, 0), some (.iload_n 3, 0, 0, 0, 0, 0), some (.invokevirtual 251, 162, 4, 6, 0, 0), none, none, some (.ifCond .eq 7, 31, 0, 0, 0, 0), none, none, some (.iconst 1, 0, 0, 0, 1, 0), some (.goto 4, 32, 0, 0, 0, 0), none, none, some (.iconst 0, 0, 0, 0, 0, 0), some (.invokevirtual 254, 163, 4, 6, 0, 0), none, none, some (.ireturn, 1, 0, 0, 0, 0)]
def tb_X7_setsProduct : List (Option XI) := [some (.aload_n 0, 0, 0, 0, 0, 0), some (.invokevirtual 208, 150, 1, 6, 0, 0), none, none, some (.aload_n 0, 0, 0, 0, 0, 0), some (.iload_n 2, 0, 0, 0, 0, 0), some (.iload_n 3, 0, 0, 0, 0, 0), some (.iconst 2, 0, 0, 0, 2, 0), some (.invokevirtual 230, 158, 4, 6, 0, 0), none, none, some (.ifCond .eq 21, 32, 0, 0, 0, 0), none, none, some (.aload_n 0, 0, 0, 0, 0, 0), some (.getfield 13, 6, 2, 2, 0, 0), none, none, some (.iload_n 2, 0, 0, 0, 0, 0), some (.iaload, 0, 0, 0, 0, 0), some (.i2l, 0, 0, 0, 0, 0), some (.aload_n 0, 0, 0, 0, 0, 0), some (.getfield 13, 6, 2, 2, 0, 0), none, none, some (.iload_n 3, 0, 0, 0, 0, 0), some (.iaload, 0, 0, 0, 0, 0), some (.i2l, 0, 0, 0, 0, 0), some (.lmul, 0, 0, 0, 0, 0), some (.goto 4, 33, 0, 0, 0, 0), none, none, some (.lconst 0, 0, 0, 0, 0, 0), some (.lstore 4, 0, 0, 0, 0, 0), none, some (.aload_n 0, 0, 0, 0, 0, 0), some (.iload_n 2, 0, 0, 0, 0, 0), some (.iload_n 3, 0, 0, 0, 0, 0), some (.iconst 1, 0, 0, 0, 1, 0), some (.invokevirtual 230, 158, 4, 6, 0, 0), none, none, some (.ifCond .eq 27, 69, 0, 0, 0, 0), none, none, some (.aload_n 0, 0, 0, 0, 0, 0), some (.iload_n 1, 0, 0, 0, 0, 0), some (.aload_n 0, 0, 0, 0, 0, 0), some (.aload_n 0, 0, 0, 0, 0, 0), some (.getfield 13, 6, 2, 2, 0, 0), none, none, some (.iload_n 2, 0, 0, 0, 0, 0), some (.iaload, 0, 0, 0, 0, 0), some (.aload_n 0, 0, 0, 0, 0, 0), some (.getfield 13, 6, 2, 2, 0, 0), none, none, some (.iload_n 3, 0, 0, 0, 0, 0), some (.iaload, 0, 0, 0, 0, 0), some (.invokevirtual 258, 127, 3, 6, 0, 0), none, none, some (.invokevirtual 234, 159, 3, 6, 0, 0), none, none, some (.goto 75, 141, 0, 0, 0, 0), none, none, some (.aload_n 0, 0, 0, 0, 0, 0), some (.iload_n 2, 0, 0, 0, 0, 0), some (.iload_n 3, 0, 0, 0, 0, 0), some (.iconst 2, 0, 0, 0, 2, 0), some (.invokevirtual 230, 158, 4, 6, 0, 0), none, none, some (.ifCond .eq 36, 112, 0, 0, 0, 0), none, none, some (.lload 4, 0, 0, 0, 0, 0), none, some (.ldc2_w 189, 0, 0, 0, 0, 1048576), none, none, some (.lrem, 0, 0, 0, 0, 0), some (.lconst 0, 0, 0, 0, 0, 0), some (.lcmp, 0, 0, 0, 0, 0), some (.ifCond .ne 21, 108, 0, 0, 0, 0), none, none, some (.aload_n 0, 0, 0, 0, 0, 0), some (.iload_n 1, 0, 0, 0, 0, 0), some (.lload 4, 0, 0, 0, 0, 0), none, some (.ldc2_w 189, 0, 0, 0, 0, 1048576), none, none, some (.ldiv, 0, 0, 0, 0, 0), some (.invokevirtual 237, 160, 3, 6, 0, 0), none, none, some (.ifCond .eq 7, 108, 0, 0, 0, 0), none, none, some (.iconst 1, 0, 0, 0, 1, 0), some (.goto 36, 141, 0, 0, 0, 0), none, none, some (.iconst 0, 0, 0, 0, 0, 0), some (.goto 32, 141, 0, 0, 0, 0), none, none, some (.aload_n 0, 0, 0, 0, 0, 0), some (.iload_n 2, 0, 0, 0, 0, 0), some (.iload_n 3, 0, 0, 0, 0, 0), some (.iconst 3, 0, 0, 0, 3, 0), some (.invokevirtual 230, 158, 4, 6, 0, 0), none, none, some (.ifCond .eq 21, 140, 0, 0, 0, 0), none, none, some (.aload_n 0, 0, 0, 0, 0, 0), some (.iload_n 1, 0, 0, 0, 0, 0), some (.aload_n 0, 0, 0, 0, 0, 0), some (.iload_n 2, 0, 0, 0, 0, 0), some (.iload_n 3, 0, 0, 0, 0, 0), some (.invokevirtual 261, 140, 3, 6, 0, 0), none, none, some (.invokevirtual 244, 161, 3, 6, 0, 0), none, none, some (.ifCond .eq 7, 140, 0, 0, 0, 0), none, none, some (.iconst 1, 0, 0, 0, 1, 0), some (.goto 4, 141, 0, 0, 0, 0), none, none, some (.iconst 0, 0, 0, 0, 0, 0), some (.ireturn, 2, 0, 0, 0, 0)]
def tb_X7_product : List (Option XI) := [some (.iload_n 1, 0, 0, 0, 0, 0), some (.iload_n 2, 0, 0, 0, 0, 0), some (.iload_n 3, 0, 0, 0, 0, 0), some (.invokestatic 248, 117, 3, 0, 0, 0), none, none, some (.istore 4, 0, 0, 0, 0, 0), none, some (.aload_n 0, 0, 0, 0, 0, 0), some (.iload_n 1, 0, 0, 0, 0, 0), some (.iload 4, 0, 0, 0, 0, 0), none, some (.iload 4, 0, 0, 0, 0, 0), none, some (.ifCond .eq 17, 31, 0, 0, 0, 0), none, none, some (.aload_n 0, 0, 0, 0, 0, 0), some (.iload_n 1, 0, 0, 0, 0, 0), some (.iload_n 2, 0, 0, 0, 0, 0), some (.iload_n 3, 0, 0, 0, 0, 0), some (.invokevirtual 264, 165, 4, 6, 0, 0), none, none, some (.ifCond .eq 7, 31, 0, 0, 0, 0), none, none, some (.iconst 1, 0, 0, 0, 1, 0), some (.goto 4, 32, 0, 0, 0, 0), none, none, some (.iconst 0, 0, 0, 0, 0, 0), some (.invokevirtual 254, 163, 4, 6, 0, 0), none, none, some (.ireturn, 1, 0, 0, 0, 0)]
def tb_X7_setsDifference : List (Option XI) := [some (.aload_n 0, 0, 0, 0, 0, 0), some (.iload_n 2, 0, 0, 0, 0, 0), some (.iload_n 3, 0, 0, 0, 0, 0), some (.iconst 2, 0, 0, 0, 2, 0), some (.invokevirtual 230, 158, 4, 6, 0, 0), none, none, some (.ifCond .eq 26, 33, 0, 0, 0, 0), none, none, some (.aload_n 0, 0, 0, 0, 0, 0), some (.iload_n 1, 0, 0, 0, 0, 0), some (.aload_n 0, 0, 0, 0, 0, 0), some (.getfield 13, 6, 2, 2, 0, 0), none, none, some (.iload_n 2, 0, 0, 0, 0, 0), some (.iaload, 0, 0, 0, 0, 0), some (.i2l, 0, 0, 0, 0, 0), some (.aload_n 0, 0, 0, 0, 0, 0), some (.getfield 13, 6, 2, 2, 0, 0), none, none, some (.iload_n 3, 0, 0, 0, 0, 0), some (.iaload, 0, 0, 0, 0, 0), some (.i2l, 0, 0, 0, 0, 0), some (.lsub, 0, 0, 0, 0, 0), some (.invokevirtual 237, 160, 3, 6, 0, 0), none, none, some (.goto 33, 63, 0, 0, 0, 0), none, none, some (.aload_n 0, 0, 0, 0, 0, 0), some (.iload_n 2, 0, 0, 0, 0, 0), some (.iload_n 3, 0, 0, 0, 0, 0), some (.iconst 3, 0, 0, 0, 3, 0), some (.invokevirtual 230, 158, 4, 6, 0, 0), none, none, some (.ifCond .eq 22, 62, 0, 0, 0, 0), none, none, some (.aload_n 0, 0, 0, 0, 0, 0), some (.iload_n 1, 0, 0, 0, 0, 0), some (.aload_n 0, 0, 0, 0, 0, 0), some (.iload_n 2, 0, 0, 0, 0, 0), some (.iload_n 3, 0, 0, 0, 0, 0), some (.iconst (-1), 0, 0, 0, (-1), 0), some (.invokevirtual 241, 139, 4, 6, 0, 0), none, none, some (.invokevirtual 244, 161, 3, 6, 0, 0), none, none, some (.ifCond .eq 7, 62, 0, 0, 0, 0), none, none, some (.iconst 1, 0, 0, 0, 1, 0), some (.goto 4, 63, 0, 0, 0, 0), none, none, some (.iconst 0, 0, 0, 0, 0, 0), some (.ireturn, 2, 0, 0, 0, 0)]
def tb_X7_difference : List (Option XI) := [some (.iload_n 1, 0, 0, 0, 0, 0), some (.iload_n 2, 0, 0, 0, 0, 0), some (.iload_n 3, 0, 0, 0, 0, 0), some (.invokestatic 248, 117, 3, 0, 0, 0), none, none, some (.istore 4, 0, 0, 0, 0, 0), none, some (.aload_n 0, 0, 0, 0, 0, 0), some (.iload_n 1, 0, 0, 0, 0, 0), some (.iload 4, 0, 0, 0, 0, 0), none, some (.iload 4, 0, 0, 0, 0, 0), none, some (.ifCond .eq 17, 31, 0, 0, 0, 0), none, none, some (.aload_n 0, 0, 0, 0, 0, 0), some (.iload_n 1, 0, 0, 0, 0, 0), some (.iload_n 2, 0, 0, 0, 0, 0), some (.iload_n 3, 0, 0, 0, 0, 0), some (.invokevirtual 267, 167, 4, 6, 0, 0), none, none, some (.ifCond .eq 7, 31, 0, 0, 0, 0), none, none, some (.iconst 1, 0, 0, 0, 1, 0), some (.goto 4, 32, 0, 0, 0, 0), none, none, some (.iconst 0, 0, 0, 0, 0, 0), some (.invokevirtual 254, 163, 4, 6, 0, 0), none, none, some (.ireturn, 1, 0, 0, 0, 0)]
def tb_X7_setsNatural : List (Option XI) := [some (.aload_n 0, 0, 0, 0, 0, 0), some (.invokevirtual 208, 150, 1, 6, 0, 0), none, none, some (.aload_n 0, 0, 0, 0, 0, 0), some (.iload_n 2, 0, 0, 0, 0, 0), some (.iload_n 3, 0, 0, 0, 0, 0), some (.iconst 1, 0, 0, 0, 1, 0), some (.invokevirtual 230, 158, 4, 6, 0, 0), none, none, some (.ifCond .eq 55, 66, 0, 0, 0, 0), none, none, some (.aload_n 0, 0, 0, 0, 0, 0), some (.iload_n 1, 0, 0, 0, 0, 0), some (.iload 4, 0, 0, 0, 0, 0), none, some (.ifCond .eq 22, 40, 0, 0, 0, 0), none, none, some (.aload_n 0, 0, 0, 0, 0, 0), some (.aload_n 0, 0, 0, 0, 0, 0), some (.getfield 13, 6, 2, 2, 0, 0), none, none, some (.iload_n 2, 0, 0, 0, 0, 0), some (.iaload, 0, 0, 0, 0, 0), some (.aload_n 0, 0, 0, 0, 0, 0), some (.getfield 13, 6, 2, 2, 0, 0), none, none, some (.iload_n 3, 0, 0, 0, 0, 0), some (.iaload, 0, 0, 0, 0, 0), some (.invokevirtual 270, 129, 3, 6, 0, 0), none, none, some (.goto 19, 56, 0, 0, 0, 0), none, none, some (.aload_n 0, 0, 0, 0, 0, 0), some (.aload_n 0, 0, 0, 0, 0, 0), some (.getfield 13, 6, 2, 2, 0, 0), none, none, some (.iload_n 2, 0, 0, 0, 0, 0), some (.iaload, 0, 0, 0, 0, 0), some (.aload_n 0, 0, 0, 0, 0, 0), some (.getfield 13, 6, 2, 2, 0, 0), none, none, some (.iload_n 3, 0, 0, 0, 0, 0), some (.iaload, 0, 0, 0, 0, 0), some (.invokevirtual 106, 126, 3, 6, 0, 0), none, none, some (.invokevirtual 234, 159, 3, 6, 0, 0), none, none, some (.ifCond .eq 7, 66, 0, 0, 0, 0), none, none, some (.iconst 1, 0, 0, 0, 1, 0), some (.goto 4, 67, 0, 0, 0, 0), none, none, some (.iconst 0, 0, 0, 0, 0, 0), some (.ireturn, 2, 0, 0, 0, 0)]
def tb_X7_natural : List (Option XI) := [some (.iload_n 1, 0, 0, 0, 0, 0), some (.iload_n 2, 0, 0, 0, 0, 0), some (.iload_n 3, 0, 0, 0, 0, 0), some (.invokestatic 248, 117, 3, 0, 0, 0), none, none, some (.istore 5, 0, 0, 0, 0, 0), none, some (.iload 5, 0, 0, 0, 0, 0), none, some (.ifCond .eq 19, 29, 0, 0, 0, 0), none, none, some (.aload_n 0, 0, 0, 0, 0, 0), some (.iload_n 1, 0, 0, 0, 0, 0), some (.iload_n 2, 0, 0, 0, 0, 0), some (.iload_n 3, 0, 0, 0, 0, 0), some (.iload 4, 0, 0, 0, 0, 0), none, some (.invokevirtual 273, 169, 5, 6, 0, 0), none, none, some (.ifCond .eq 7, 29, 0, 0, 0, 0), none, none, some (.iconst 1, 0, 0, 0, 1, 0), some (.goto 4, 30, 0, 0, 0, 0), none, none, some (.iconst 0, 0, 0, 0, 0, 0), some (.istore 6, 0, 0, 0, 0, 0), none, some (.aload_n 0, 0, 0, 0, 0, 0), some (.iload 5, 0, 0, 0, 0, 0), none, some (.ifCond .ne 7, 42, 0, 0, 0, 0), none, none, some (.iconst 1, 0, 0, 0, 1, 0), some (.goto 13, 52, 0, 0, 0, 0), none, none, some (.iload 6, 0, 0, 0, 0, 0), none, some (.ifCond .ne 7, 51, 0, 0, 0, 0), none, none, some (.iconst 2, 0, 0, 0, 2, 0), some (.goto 4, 52, 0, 0, 0, 0), none, none, some (.iconst 0, 0, 0, 0, 0, 0), some (.putfield 63, 6, 0, 0, 0, 0), none, none, some (.return_, 0, 0, 0, 0, 0)]
def tb_X7_derive : List (Option XI) := [some (.iload_n 1, 0, 0, 0, 0, 0), some (.invokestatic 72, 116, 1, 0, 0, 0), none, none, some (.ifCond .eq 14, 18, 0, 0, 0, 0), none, none, some (.iload_n 2, 0, 0, 0, 0, 0), some (.invokestatic 72, 116, 1, 0, 0, 0), none, none, some (.ifCond .eq 7, 18, 0, 0, 0, 0), none, none, some (.iconst 1, 0, 0, 0, 1, 0), some (.goto 4, 19, 0, 0, 0, 0), none, none, some (.iconst 0, 0, 0, 0, 0, 0), some (.istore_n 3, 0, 0, 0, 0, 0), some (.iload_n 3, 0, 0, 0, 0, 0), some (.ifCond .eq 29, 50, 0, 0, 0, 0), none, none, some (.aload_n 0, 0, 0, 0, 0, 0), some (.iload_n 2, 0, 0, 0, 0, 0), some (.iconst 3, 0, 0, 0, 3, 0), some (.invokevirtual 214, 153, 3, 6, 0, 0), none, none, some (.ifCond .eq 20, 50, 0, 0, 0, 0), none, none, some (.aload_n 0, 0, 0, 0, 0, 0), some (.iload_n 1, 0, 0, 0, 0, 0), some (.aload_n 0, 0, 0, 0, 0, 0), some (.iload_n 2, 0, 0, 0, 0, 0), some (.invokevirtual 277, 141, 2, 6, 0, 0), none, none, some (.invokevirtual 244, 161, 3, 6, 0, 0), none, none, some (.ifCond .eq 7, 50, 0, 0, 0, 0), none, none, some (.iconst 1, 0, 0, 0, 1, 0), some (.goto 4, 51, 0, 0, 0, 0), none, none, some (.iconst 0, 0, 0, 0, 0, 0), some (.istore 4, 0, 0, 0, 0, 0), none, some (.aload_n 0, 0, 0, 0, 0, 0), some (.iload_n 3, 0, 0, 0, 0, 0), some (.ifCond .ne 7, 62, 0, 0, 0, 0), none, none, some (.iconst 1, 0, 0, 0, 1, 0), some (.goto 13, 72, 0, 0, 0, 0), none, none, some (.iload 4, 0, 0, 0, 0, 0), none, some (.ifCond .ne 7, 71, 0, 0, 0, 0), none, none, some (.iconst 2, 0, 0, 0, 2, 0), some (.goto 4, 72, 0, 0, 0, 0), none, none, some (.iconst 0, 0, 0, 0, 0, 0), some (.putfield 63, 6, 0, 0, 0, 0), none, none, some (.return_, 0, 0, 0, 0, 0)]
def tb_X7_comparedGrowths : List (Option XI) := [some (.aload_n 0, 0, 0, 0, 0, 0), some (.iload_n 1, 0, 0, 0, 0, 0), some (.iload_n 2, 0, 0, 0, 0, 0), some (.iconst (-1), 0, 0, 0, (-1), 0), some (.invokevirtual 241, 139, 4, 6, 0, 0), none, none, some (.istore_n 3, 0, 0, 0, 0, 0), some (.aload_n 0, 0, 0, 0, 0, 0), some (.getfield 128, 6, 20, 0, 0, 0), none, none, some (.ifCond .ne 7, 19, 0, 0, 0, 0), none, none, some (.iconst 0, 0, 0, 0, 0, 0), some (.goto 19, 35, 0, 0, 0, 0), none, none, some (.aload_n 0, 0, 0, 0, 0, 0), some (.getfield 60, 6, 19, 2, 0, 0), none, none, some (.iconst 0, 0, 0, 0, 0, 0), some (.laload, 0, 0, 0, 0, 0), some (.lconst 0, 0, 0, 0, 0, 0), some (.lcmp, 0, 0, 0, 0, 0), some (.ifCond .le 7, 34, 0, 0, 0, 0), none, none, some (.iconst 1, 0, 0, 0, 1, 0), some (.goto 4, 35, 0, 0, 0, 0), none, none, some (.iconst (-1), 0, 0, 0, (-1), 0), some (.ireturn, 1, 0, 0, 0, 0)]
def tb_X7_comparedBoth : List (Option XI) := [some (.aload_n 0, 0, 0, 0, 0, 0), some (.iload_n 1, 0, 0, 0, 0, 0), some (.iconst 2, 0, 0, 0, 2, 0), some (.invokevirtual 214, 153, 3, 6, 0, 0), none, none, some (.ifCond .eq 43, 49, 0, 0, 0, 0), none, none, some (.aload_n 0, 0, 0, 0, 0, 0), some (.getfield 13, 6, 2, 2, 0, 0), none, none, some (.iload_n 1, 0, 0, 0, 0, 0), some (.iaload, 0, 0, 0, 0, 0), some (.aload_n 0, 0, 0, 0, 0, 0), some (.getfield 13, 6, 2, 2, 0, 0), none, none, some (.iload_n 2, 0, 0, 0, 0, 0), some (.iaload, 0, 0, 0, 0, 0), some (.if_icmp .le 7, 28, 0, 0, 0, 0), none, none, some (.iconst 1, 0, 0, 0, 1, 0), some (.goto 23, 48, 0, 0, 0, 0), none, none, some (.aload_n 0, 0, 0, 0, 0, 0), some (.getfield 13, 6, 2, 2, 0, 0), none, none, some (.iload_n 1, 0, 0, 0, 0, 0), some (.iaload, 0, 0, 0, 0, 0), some (.aload_n 0, 0, 0, 0, 0, 0), some (.getfield 13, 6, 2, 2, 0, 0), none, none, some (.iload_n 2, 0, 0, 0, 0, 0), some (.iaload, 0, 0, 0, 0, 0), some (.if_icmp .ge 7, 47, 0, 0, 0, 0), none, none, some (.iconst (-1), 0, 0, 0, (-1), 0), some (.goto 4, 48, 0, 0, 0, 0), none, none, some (.iconst 0, 0, 0, 0, 0, 0), some (.ireturn, 1, 0, 0, 0, 0), some (.aload_n 0, 0, 0, 0, 0, 0), some (.iload_n 1, 0, 0, 0, 0, 0), some (.iconst 1, 0, 0, 0, 1, 0), some (.invokevirtual 214, 153, 3, 6, 0, 0), none, none, some (.ifCond .eq 22, 77, 0, 0, 0, 0), none, none, some (.aload_n 0, 0, 0, 0, 0, 0), some (.aload_n 0, 0, 0, 0, 0, 0), some (.getfield 13, 6, 2, 2, 0, 0), none, none, some (.iload_n 1, 0, 0, 0, 0, 0), some (.iaload, 0, 0, 0, 0, 0), some (.aload_n 0, 0, 0, 0, 0, 0), some (.getfield 13, 6, 2, 2, 0, 0), none, none, some (.iload_n 2, 0, 0, 0, 0, 0), some (.iaload, 0, 0, 0, 0, 0), some (.invokevirtual 87, 120, 3, 6, 0, 0), none, none, some (.goto 9, 83, 0, 0, 0, 0), none, none, some (.aload_n 0, 0, 0, 0, 0, 0), some (.iload_n 1, 0, 0, 0, 0, 0), some (.iload_n 2, 0, 0, 0, 0, 0), some (.invokevirtual 280, 172, 3, 6, 0, 0), none, none, some (.ireturn, 1, 0, 0, 0, 0)]
def tb_X7_compare : List (Option XI) := [some (.iload_n 1, 0, 0, 0, 0, 0), some (.invokestatic 72, 116, 1, 0, 0, 0), none, none, some (.ifCond .eq 14, 18, 0, 0, 0, 0), none, none, some (.iload_n 2, 0, 0, 0, 0, 0), some (.invokestatic 72, 116, 1, 0, 0, 0), none, none, some (.ifCond .eq 7, 18, 0, 0, 0, 0), none, none, some (.iconst 1, 0, 0, 0, 1, 0), some (.goto 4, 19, 0, 0, 0, 0), none, none, some (.iconst 0, 0, 0, 0, 0, 0), some (.istore_n 3, 0, 0, 0, 0, 0), some (.aload_n 0, 0, 0, 0, 0, 0), some (.iload_n 3, 0, 0, 0, 0, 0), some (.ifCond .ne 7, 29, 0, 0, 0, 0), none, none, some (.iconst 1, 0, 0, 0, 1, 0), some (.goto 32, 58, 0, 0, 0, 0), none, none, some (.aload_n 0, 0, 0, 0, 0, 0), some (.iload_n 1, 0, 0, 0, 0, 0), some (.iconst 0, 0, 0, 0, 0, 0), some (.invokevirtual 214, 153, 3, 6, 0, 0), none, none, some (.ifCond .ne 18, 53, 0, 0, 0, 0), none, none, some (.aload_n 0, 0, 0, 0, 0, 0), some (.getfield 7, 6, 1, 2, 0, 0), none, none, some (.iload_n 1, 0, 0, 0, 0, 0), some (.iaload, 0, 0, 0, 0, 0), some (.aload_n 0, 0, 0, 0, 0, 0), some (.getfield 7, 6, 1, 2, 0, 0), none, none, some (.iload_n 2, 0, 0, 0, 0, 0), some (.iaload, 0, 0, 0, 0, 0), some (.if_icmp .eq 7, 57, 0, 0, 0, 0), none, none, some (.iconst 2, 0, 0, 0, 2, 0), some (.goto 4, 58, 0, 0, 0, 0), none, none, some (.iconst 0, 0, 0, 0, 0, 0), some (.invokevirtual 202, 114, 2, 6, 0, 0), none, none, some (.ifCond .eq 12, 73, 0, 0, 0, 0), none, none, some (.aload_n 0, 0, 0, 0, 0, 0), some (.iload_n 1, 0, 0, 0, 0, 0), some (.iload_n 2, 0, 0, 0, 0, 0), some (.invokevirtual 283, 173, 3, 6, 0, 0), none, none, some (.goto 4, 74, 0, 0, 0, 0), none, none, some (.iconst 0, 0, 0, 0, 0, 0), some (.ireturn, 1, 0, 0, 0, 0)]
def tb_X7_stepOf : List (Option XI) := [some (.aload_n 0, 0, 0, 0, 0, 0), some (.invokevirtual 208, 150, 1, 6, 0, 0), none, none, some (.aload_n 0, 0, 0, 0, 0, 0), some (.iload_n 1, 0, 0, 0, 0, 0), some (.iconst 1, 0, 0, 0, 1, 0), some (.invokevirtual 214, 153, 3, 6, 0, 0), none, none, some (.ifCond .eq 26, 36, 0, 0, 0, 0), none, none, some (.aload_n 0, 0, 0, 0, 0, 0), some (.getfield 13, 6, 2, 2, 0, 0), none, none, some (.iload_n 1, 0, 0, 0, 0, 0), some (.iaload, 0, 0, 0, 0, 0), some (.ifCond .eq 17, 36, 0, 0, 0, 0), none, none, some (.aload_n 0, 0, 0, 0, 0, 0), some (.aload_n 0, 0, 0, 0, 0, 0), some (.getfield 13, 6, 2, 2, 0, 0), none, none, some (.iload_n 1, 0, 0, 0, 0, 0), some (.iaload, 0, 0, 0, 0, 0), some (.iload_n 2, 0, 0, 0, 0, 0), some (.invokevirtual 286, 131, 3, 6, 0, 0), none, none, some (.goto 4, 37, 0, 0, 0, 0), none, none, some (.iconst (-1), 0, 0, 0, (-1), 0), some (.ireturn, 1, 0, 0, 0, 0)]
def tb_X7_step : List (Option XI) := [some (.iload_n 1, 0, 0, 0, 0, 0), some (.invokestatic 72, 116, 1, 0, 0, 0), none, none, some (.ifCond .eq 14, 18, 0, 0, 0, 0), none, none, some (.iload_n 2, 0, 0, 0, 0, 0), some (.invokestatic 72, 116, 1, 0, 0, 0), none, none, some (.ifCond .eq 7, 18, 0, 0, 0, 0), none, none, some (.iconst 1, 0, 0, 0, 1, 0), some (.goto 4, 19, 0, 0, 0, 0), none, none, some (.iconst 0, 0, 0, 0, 0, 0), some (.istore 4, 0, 0, 0, 0, 0), none, some (.iload_n 3, 0, 0, 0, 0, 0), some (.i2l, 0, 0, 0, 0, 0), some (.lconst 1, 0, 0, 0, 0, 1), some (.ldc2_w 141, 0, 0, 0, 0, 99), none, none, some (.invokestatic 68, 115, 3, 0, 0, 0), none, none, some (.istore 5, 0, 0, 0, 0, 0), none, some (.iload 4, 0, 0, 0, 0, 0), none, some (.ifCond .eq 17, 51, 0, 0, 0, 0), none, none, some (.iload 5, 0, 0, 0, 0, 0), none, some (.ifCond .eq 12, 51, 0, 0, 0, 0), none, none, some (.aload_n 0, 0, 0, 0, 0, 0), some (.iload_n 2, 0, 0, 0, 0, 0), some (.iload_n 3, 0, 0, 0, 0, 0), some (.invokevirtual 289, 175, 3, 6, 0, 0), none, none, some (.goto 4, 52, 0, 0, 0, 0), none, none, some (.iconst (-1), 0, 0, 0, (-1), 0), some (.istore 6, 0, 0, 0, 0, 0), none, some (.aload_n 0, 0, 0, 0, 0, 0), some (.iload 4, 0, 0, 0, 0, 0), none, some (.ifCond .ne 7, 64, 0, 0, 0, 0), none, none, some (.iconst 1, 0, 0, 0, 1, 0), some (.goto 23, 84, 0, 0, 0, 0), none, none, some (.iload 5, 0, 0, 0, 0, 0), none, some (.ifCond .ne 7, 73, 0, 0, 0, 0), none, none, some (.iconst 2, 0, 0, 0, 2, 0), some (.goto 14, 84, 0, 0, 0, 0), none, none, some (.iload 6, 0, 0, 0, 0, 0), none, some (.iconst (-1), 0, 0, 0, (-1), 0), some (.if_icmp .ne 7, 83, 0, 0, 0, 0), none, none, some (.iconst 3, 0, 0, 0, 3, 0), some (.goto 4, 84, 0, 0, 0, 0), none, none, some (.iconst 0, 0, 0, 0, 0, 0), some (.invokevirtual 202, 114, 2, 6, 0, 0), none, none, some (.ifCond .eq 11, 98, 0, 0, 0, 0), none, none, some (.aload_n 0, 0, 0, 0, 0, 0), some (.iload_n 1, 0, 0, 0, 0, 0), some (.iconst 1, 0, 0, 0, 1, 0), some (.iload 6, 0, 0, 0, 0, 0), none, some (.invokevirtual 143, 118, 4, 6, 0, 0), none, none, some (.return_, 0, 0, 0, 0, 0)]
def tb_X7_descends : List (Option XI) := [some (.aload_n 0, 0, 0, 0, 0, 0), some (.aload_n 0, 0, 0, 0, 0, 0), some (.getfield 13, 6, 2, 2, 0, 0), none, none, some (.iload_n 1, 0, 0, 0, 0, 0), some (.iaload, 0, 0, 0, 0, 0), some (.putfield 84, 6, 15, 0, 0, 0), none, none, some (.aload_n 0, 0, 0, 0, 0, 0), some (.iconst 0, 0, 0, 0, 0, 0), some (.putfield 292, 6, 27, 0, 0, 0), none, none, some (.aload_n 0, 0, 0, 0, 0, 0), some (.getfield 84, 6, 15, 0, 0, 0), none, none, some (.ifCond .eq 58, 77, 0, 0, 0, 0), none, none, some (.aload_n 0, 0, 0, 0, 0, 0), some (.getfield 292, 6, 27, 0, 0, 0), none, none, some (.iload_n 3, 0, 0, 0, 0, 0), some (.if_icmp .ge 50, 77, 0, 0, 0, 0), none, none, some (.aload_n 0, 0, 0, 0, 0, 0), some (.invokevirtual 205, 124, 1, 6, 0, 0), none, none, some (.aload_n 0, 0, 0, 0, 0, 0), some (.aload_n 0, 0, 0, 0, 0, 0), some (.getfield 84, 6, 15, 0, 0, 0), none, none, some (.iload_n 2, 0, 0, 0, 0, 0), some (.aload_n 0, 0, 0, 0, 0, 0), some (.getfield 292, 6, 27, 0, 0, 0), none, none, some (.iadd, 0, 0, 0, 0, 0), some (.invokevirtual 286, 131, 3, 6, 0, 0), none, none, some (.istore 4, 0, 0, 0, 0, 0), none, some (.iload 4, 0, 0, 0, 0, 0), none, some (.iconst (-1), 0, 0, 0, (-1), 0), some (.if_icmp .ne 5, 58, 0, 0, 0, 0), none, none, some (.iconst 0, 0, 0, 0, 0, 0), some (.ireturn, 2, 0, 0, 0, 0), some (.aload_n 0, 0, 0, 0, 0, 0), some (.iload 4, 0, 0, 0, 0, 0), none, some (.putfield 84, 6, 15, 0, 0, 0), none, none, some (.aload_n 0, 0, 0, 0, 0, 0), some (.dup, 0, 0, 0, 0, 0), some (.getfield 292, 6, 27, 0, 0, 0), none, none, some (.iconst 1, 0, 0, 0, 1, 0), some (.iadd, 0, 0, 0, 0, 0), some (.putfield 292, 6, 27, 0, 0, 0), none, none, some (.goto (-59), 15, 0, 0, 0, 0), none, none, some (.aload_n 0, 0, 0, 0, 0, 0), some (.aload_n 0, 0, 0, 0, 0, 0), some (.getfield 84, 6, 15, 0, 0, 0), none, none, some (.ifCond .ne 10, 92, 0, 0, 0, 0), none, none, some (.aload_n 0, 0, 0, 0, 0, 0), some (.getfield 292, 6, 27, 0, 0, 0), none, none, some (.goto 4, 93, 0, 0, 0, 0), none, none, some (.iconst (-1), 0, 0, 0, (-1), 0), some (.putfield 292, 6, 27, 0, 0, 0), none, none, some (.iconst 1, 0, 0, 0, 1, 0), some (.ireturn, 2, 0, 0, 0, 0)]
def tb_X7_descent : List (Option XI) := [some (.iload_n 1, 0, 0, 0, 0, 0), some (.invokestatic 72, 116, 1, 0, 0, 0), none, none, some (.istore 4, 0, 0, 0, 0, 0), none, some (.iload_n 2, 0, 0, 0, 0, 0), some (.i2l, 0, 0, 0, 0, 0), some (.lconst 1, 0, 0, 0, 0, 1), some (.ldc2_w 141, 0, 0, 0, 0, 99), none, none, some (.invokestatic 68, 115, 3, 0, 0, 0), none, none, some (.ifCond .eq 19, 34, 0, 0, 0, 0), none, none, some (.iload_n 3, 0, 0, 0, 0, 0), some (.i2l, 0, 0, 0, 0, 0), some (.lconst 0, 0, 0, 0, 0, 0), some (.ldc2_w 295, 0, 0, 0, 0, 2000), none, none, some (.invokestatic 68, 115, 3, 0, 0, 0), none, none, some (.ifCond .eq 7, 34, 0, 0, 0, 0), none, none, some (.iconst 1, 0, 0, 0, 1, 0), some (.goto 4, 35, 0, 0, 0, 0), none, none, some (.iconst 0, 0, 0, 0, 0, 0), some (.istore 5, 0, 0, 0, 0, 0), none, some (.aload_n 0, 0, 0, 0, 0, 0), some (.iload 4, 0, 0, 0, 0, 0), none, some (.ifCond .ne 7, 47, 0, 0, 0, 0), none, none, some (.iconst 1, 0, 0, 0, 1, 0), some (.goto 36, 80, 0, 0, 0, 0), none, none, some (.iload 5, 0, 0, 0, 0, 0), none, some (.ifCond .ne 7, 56, 0, 0, 0, 0), none, none, some (.iconst 2, 0, 0, 0, 2, 0), some (.goto 27, 80, 0, 0, 0, 0), none, none, some (.aload_n 0, 0, 0, 0, 0, 0), some (.iload_n 1, 0, 0, 0, 0, 0), some (.iconst 1, 0, 0, 0, 1, 0), some (.invokevirtual 214, 153, 3, 6, 0, 0), none, none, some (.ifCond .eq 13, 75, 0, 0, 0, 0), none, none, some (.aload_n 0, 0, 0, 0, 0, 0), some (.iload_n 1, 0, 0, 0, 0, 0), some (.iload_n 2, 0, 0, 0, 0, 0), some (.iload_n 3, 0, 0, 0, 0, 0), some (.invokevirtual 297, 177, 4, 6, 0, 0), none, none, some (.ifCond .ne 7, 79, 0, 0, 0, 0), none, none, some (.iconst 3, 0, 0, 0, 3, 0), some (.goto 4, 80, 0, 0, 0, 0), none, none, some (.iconst 0, 0, 0, 0, 0, 0), some (.invokevirtual 202, 114, 2, 6, 0, 0), none, none, some (.ifCond .eq 10, 93, 0, 0, 0, 0), none, none, some (.aload_n 0, 0, 0, 0, 0, 0), some (.getfield 292, 6, 27, 0, 0, 0), none, none, some (.goto 4, 94, 0, 0, 0, 0), none, none, some (.iconst 0, 0, 0, 0, 0, 0), some (.ireturn, 1, 0, 0, 0, 0)]
def tb_X7_powers : List (Option XI) := [some (.iload_n 1, 0, 0, 0, 0, 0), some (.invokestatic 72, 116, 1, 0, 0, 0), none, none, some (.istore_n 2, 0, 0, 0, 0, 0), some (.aload_n 0, 0, 0, 0, 0, 0), some (.iload_n 2, 0, 0, 0, 0, 0), some (.ifCond .ne 7, 14, 0, 0, 0, 0), none, none, some (.iconst 1, 0, 0, 0, 1, 0), some (.goto 17, 28, 0, 0, 0, 0), none, none, some (.aload_n 0, 0, 0, 0, 0, 0), some (.iload_n 1, 0, 0, 0, 0, 0), some (.iconst 1, 0, 0, 0, 1, 0), some (.invokevirtual 214, 153, 3, 6, 0, 0), none, none, some (.ifCond .ne 7, 27, 0, 0, 0, 0), none, none, some (.iconst 2, 0, 0, 0, 2, 0), some (.goto 4, 28, 0, 0, 0, 0), none, none, some (.iconst 0, 0, 0, 0, 0, 0), some (.invokevirtual 202, 114, 2, 6, 0, 0), none, none, some (.ifCond .eq 17, 48, 0, 0, 0, 0), none, none, some (.aload_n 0, 0, 0, 0, 0, 0), some (.getfield 22, 6, 5, 2, 0, 0), none, none, some (.aload_n 0, 0, 0, 0, 0, 0), some (.getfield 13, 6, 2, 2, 0, 0), none, none, some (.iload_n 1, 0, 0, 0, 0, 0), some (.iaload, 0, 0, 0, 0, 0), some (.iaload, 0, 0, 0, 0, 0), some (.goto 4, 49, 0, 0, 0, 0), none, none, some (.iconst 0, 0, 0, 0, 0, 0), some (.ireturn, 1, 0, 0, 0, 0)]
def tb_X7_hasPower : List (Option XI) := [some (.aload_n 0, 0, 0, 0, 0, 0), some (.iload_n 1, 0, 0, 0, 0, 0), some (.iconst 1, 0, 0, 0, 1, 0), some (.invokevirtual 214, 153, 3, 6, 0, 0), none, none, some (.ifCond .eq 22, 28, 0, 0, 0, 0), none, none, some (.iload_n 2, 0, 0, 0, 0, 0), some (.aload_n 0, 0, 0, 0, 0, 0), some (.getfield 22, 6, 5, 2, 0, 0), none, none, some (.aload_n 0, 0, 0, 0, 0, 0), some (.getfield 13, 6, 2, 2, 0, 0), none, none, some (.iload_n 1, 0, 0, 0, 0, 0), some (.iaload, 0, 0, 0, 0, 0), some (.iaload, 0, 0, 0, 0, 0), some (.if_icmp .ge 7, 28, 0, 0, 0, 0), none, none, some (.iconst 1, 0, 0, 0, 1, 0), some (.goto 4, 29, 0, 0, 0, 0), none, none, some (.iconst 0, 0, 0, 0, 0, 0), some (.ireturn, 2, 0, 0, 0, 0)]
def tb_X7_times : List (Option XI) := [some (.iload_n 1, 0, 0, 0, 0, 0), some (.invokestatic 72, 116, 1, 0, 0, 0), none, none, some (.ifCond .eq 11, 15, 0, 0, 0, 0), none, none, some (.iload_n 2, 0, 0, 0, 0, 0), some (.ifCond .lt 7, 15, 0, 0, 0, 0), none, none, some (.iconst 1, 0, 0, 0, 1, 0), some (.goto 4, 16, 0, 0, 0, 0), none, none, some (.iconst 0, 0, 0, 0, 0, 0), some (.istore_n 3, 0, 0, 0, 0, 0), some (.aload_n 0, 0, 0, 0, 0, 0), some (.iload_n 3, 0, 0, 0, 0, 0), some (.ifCond .ne 7, 26, 0, 0, 0, 0), none, none, some (.iconst 1, 0, 0, 0, 1, 0), some (.goto 17, 40, 0, 0, 0, 0), none, none, some (.aload_n 0, 0, 0, 0, 0, 0), some (.iload_n 1, 0, 0, 0, 0, 0), some (.iload_n 2, 0, 0, 0, 0, 0), some (.invokevirtual 300, 180, 3, 6, 0, 0), none, none, some (.ifCond .ne 7, 39, 0, 0, 0, 0), none, none, some (.iconst 2, 0, 0, 0, 2, 0), some (.goto 4, 40, 0, 0, 0, 0), none, none, some (.iconst 0, 0, 0, 0, 0, 0), some (.invokevirtual 202, 114, 2, 6, 0, 0), none, none, some (.ifCond .eq 23, 66, 0, 0, 0, 0), none, none, some (.aload_n 0, 0, 0, 0, 0, 0), some (.getfield 19, 6, 4, 2, 0, 0), none, none, some (.bipush 8, 0, 0, 0, 8, 0), none, some (.aload_n 0, 0, 0, 0, 0, 0), some (.getfield 13, 6, 2, 2, 0, 0), none, none, some (.iload_n 1, 0, 0, 0, 0, 0), some (.iaload, 0, 0, 0, 0, 0), some (.imul, 0, 0, 0, 0, 0), some (.iload_n 2, 0, 0, 0, 0, 0), some (.iadd, 0, 0, 0, 0, 0), some (.iaload, 0, 0, 0, 0, 0), some (.i2l, 0, 0, 0, 0, 0), some (.goto 4, 67, 0, 0, 0, 0), none, none, some (.lconst 0, 0, 0, 0, 0, 0), some (.lreturn, 0, 0, 0, 0, 0)]
def tb_X7_exponent : List (Option XI) := [some (.iload_n 1, 0, 0, 0, 0, 0), some (.invokestatic 72, 116, 1, 0, 0, 0), none, none, some (.ifCond .eq 18, 22, 0, 0, 0, 0), none, none, some (.iload_n 2, 0, 0, 0, 0, 0), some (.invokestatic 72, 116, 1, 0, 0, 0), none, none, some (.ifCond .eq 11, 22, 0, 0, 0, 0), none, none, some (.iload_n 3, 0, 0, 0, 0, 0), some (.ifCond .lt 7, 22, 0, 0, 0, 0), none, none, some (.iconst 1, 0, 0, 0, 1, 0), some (.goto 4, 23, 0, 0, 0, 0), none, none, some (.iconst 0, 0, 0, 0, 0, 0), some (.istore 4, 0, 0, 0, 0, 0), none, some (.aload_n 0, 0, 0, 0, 0, 0), some (.iload 4, 0, 0, 0, 0, 0), none, some (.ifCond .ne 7, 35, 0, 0, 0, 0), none, none, some (.iconst 1, 0, 0, 0, 1, 0), some (.goto 17, 49, 0, 0, 0, 0), none, none, some (.aload_n 0, 0, 0, 0, 0, 0), some (.iload_n 2, 0, 0, 0, 0, 0), some (.iload_n 3, 0, 0, 0, 0, 0), some (.invokevirtual 300, 180, 3, 6, 0, 0), none, none, some (.ifCond .ne 7, 48, 0, 0, 0, 0), none, none, some (.iconst 2, 0, 0, 0, 2, 0), some (.goto 4, 49, 0, 0, 0, 0), none, none, some (.iconst 0, 0, 0, 0, 0, 0), some (.invokevirtual 202, 114, 2, 6, 0, 0), none, none, some (.ifCond .eq 25, 77, 0, 0, 0, 0), none, none, some (.aload_n 0, 0, 0, 0, 0, 0), some (.iload_n 1, 0, 0, 0, 0, 0), some (.iconst 1, 0, 0, 0, 1, 0), some (.aload_n 0, 0, 0, 0, 0, 0), some (.getfield 16, 6, 3, 2, 0, 0), none, none, some (.bipush 8, 0, 0, 0, 8, 0), none, some (.aload_n 0, 0, 0, 0, 0, 0), some (.getfield 13, 6, 2, 2, 0, 0), none, none, some (.iload_n 2, 0, 0, 0, 0, 0), some (.iaload, 0, 0, 0, 0, 0), some (.imul, 0, 0, 0, 0, 0), some (.iload_n 3, 0, 0, 0, 0, 0), some (.iadd, 0, 0, 0, 0, 0), some (.iaload, 0, 0, 0, 0, 0), some (.invokevirtual 143, 118, 4, 6, 0, 0), none, none, some (.return_, 0, 0, 0, 0, 0)]
def tb_X7_hasPlace : List (Option XI) := [some (.iload_n 0, 0, 0, 0, 0, 0), some (.iload_n 1, 0, 0, 0, 0, 0), some (.ishr, 0, 0, 0, 0, 0), some (.iconst 1, 0, 0, 0, 1, 0), some (.iand, 0, 0, 0, 0, 0), some (.iconst 1, 0, 0, 0, 1, 0), some (.if_icmp .ne 7, 13, 0, 0, 0, 0), none, none, some (.iconst 1, 0, 0, 0, 1, 0), some (.goto 4, 14, 0, 0, 0, 0), none, none, some (.iconst 0, 0, 0, 0, 0, 0), some (.ireturn, 2, 0, 0, 0, 0)]
def tb_X7_cuts : List (Option XI) := [some (.lconst 0, 0, 0, 0, 0, 0), some (.lstore_n 3, 0, 0, 0, 0, 0), some (.lconst 0, 0, 0, 0, 0, 0), some (.lstore 5, 0, 0, 0, 0, 0), none, some (.iconst 0, 0, 0, 0, 0, 0), some (.istore 7, 0, 0, 0, 0, 0), none, some (.iconst 0, 0, 0, 0, 0, 0), some (.istore 8, 0, 0, 0, 0, 0), none, some (.iconst 1, 0, 0, 0, 1, 0), some (.istore 9, 0, 0, 0, 0, 0), none, some (.iconst 0, 0, 0, 0, 0, 0), some (.istore 10, 0, 0, 0, 0, 0), none, some (.iload 10, 0, 0, 0, 0, 0), none, some (.bipush 16, 0, 0, 0, 16, 0), none, some (.if_icmp .ge 142, 163, 0, 0, 0, 0), none, none, some (.iload_n 1, 0, 0, 0, 0, 0), some (.iload 10, 0, 0, 0, 0, 0), none, some (.invokestatic 303, 183, 2, 0, 0, 0), none, none, some (.ifCond .eq 59, 89, 0, 0, 0, 0), none, none, some (.iload 9, 0, 0, 0, 0, 0), none, some (.ifCond .eq 17, 52, 0, 0, 0, 0), none, none, some (.aload_n 0, 0, 0, 0, 0, 0), some (.iload 10, 0, 0, 0, 0, 0), none, some (.iconst 2, 0, 0, 0, 2, 0), some (.invokevirtual 214, 153, 3, 6, 0, 0), none, none, some (.ifCond .eq 7, 52, 0, 0, 0, 0), none, none, some (.iconst 1, 0, 0, 0, 1, 0), some (.goto 4, 53, 0, 0, 0, 0), none, none, some (.iconst 0, 0, 0, 0, 0, 0), some (.istore 9, 0, 0, 0, 0, 0), none, some (.iload 7, 0, 0, 0, 0, 0), none, some (.ifCond .eq 16, 73, 0, 0, 0, 0), none, none, some (.aload_n 0, 0, 0, 0, 0, 0), some (.getfield 13, 6, 2, 2, 0, 0), none, none, some (.iload 10, 0, 0, 0, 0, 0), none, some (.iaload, 0, 0, 0, 0, 0), some (.i2l, 0, 0, 0, 0, 0), some (.lload_n 3, 0, 0, 0, 0, 0), some (.lcmp, 0, 0, 0, 0, 0), some (.ifCond .le 14, 84, 0, 0, 0, 0), none, none, some (.aload_n 0, 0, 0, 0, 0, 0), some (.getfield 13, 6, 2, 2, 0, 0), none, none, some (.iload 10, 0, 0, 0, 0, 0), none, some (.iaload, 0, 0, 0, 0, 0), some (.i2l, 0, 0, 0, 0, 0), some (.goto 4, 85, 0, 0, 0, 0), none, none, some (.lload_n 3, 0, 0, 0, 0, 0), some (.lstore_n 3, 0, 0, 0, 0, 0), some (.iconst 1, 0, 0, 0, 1, 0), some (.istore 7, 0, 0, 0, 0, 0), none, some (.iload_n 2, 0, 0, 0, 0, 0), some (.iload 10, 0, 0, 0, 0, 0), none, some (.invokestatic 303, 183, 2, 0, 0, 0), none, none, some (.ifCond .eq 62, 157, 0, 0, 0, 0), none, none, some (.iload 9, 0, 0, 0, 0, 0), none, some (.ifCond .eq 17, 117, 0, 0, 0, 0), none, none, some (.aload_n 0, 0, 0, 0, 0, 0), some (.iload 10, 0, 0, 0, 0, 0), none, some (.iconst 2, 0, 0, 0, 2, 0), some (.invokevirtual 214, 153, 3, 6, 0, 0), none, none, some (.ifCond .eq 7, 117, 0, 0, 0, 0), none, none, some (.iconst 1, 0, 0, 0, 1, 0), some (.goto 4, 118, 0, 0, 0, 0), none, none, some (.iconst 0, 0, 0, 0, 0, 0), some (.istore 9, 0, 0, 0, 0, 0), none, some (.iload 8, 0, 0, 0, 0, 0), none, some (.ifCond .eq 17, 139, 0, 0, 0, 0), none, none, some (.aload_n 0, 0, 0, 0, 0, 0), some (.getfield 13, 6, 2, 2, 0, 0), none, none, some (.iload 10, 0, 0, 0, 0, 0), none, some (.iaload, 0, 0, 0, 0, 0), some (.i2l, 0, 0, 0, 0, 0), some (.lload 5, 0, 0, 0, 0, 0), none, some (.lcmp, 0, 0, 0, 0, 0), some (.ifCond .ge 14, 150, 0, 0, 0, 0), none, none, some (.aload_n 0, 0, 0, 0, 0, 0), some (.getfield 13, 6, 2, 2, 0, 0), none, none, some (.iload 10, 0, 0, 0, 0, 0), none, some (.iaload, 0, 0, 0, 0, 0), some (.i2l, 0, 0, 0, 0, 0), some (.goto 5, 152, 0, 0, 0, 0), none, none, some (.lload 5, 0, 0, 0, 0, 0), none, some (.lstore 5, 0, 0, 0, 0, 0), none, some (.iconst 1, 0, 0, 0, 1, 0), some (.istore 8, 0, 0, 0, 0, 0), none, some (.iinc 10 1, 0, 0, 0, 1, 0), none, none, some (.goto (-143), 17, 0, 0, 0, 0), none, none, some (.iload 9, 0, 0, 0, 0, 0), none, some (.ifCond .eq 38, 203, 0, 0, 0, 0), none, none, some (.iload 7, 0, 0, 0, 0, 0), none, some (.ifCond .eq 15, 185, 0, 0, 0, 0), none, none, some (.iload 8, 0, 0, 0, 0, 0), none, some (.ifCond .eq 10, 185, 0, 0, 0, 0), none, none, some (.lload_n 3, 0, 0, 0, 0, 0), some (.lload 5, 0, 0, 0, 0, 0), none, some (.lcmp, 0, 0, 0, 0, 0), some (.ifCond .ge 21, 203, 0, 0, 0, 0), none, none, some (.aload_n 0, 0, 0, 0, 0, 0), some (.iload 7, 0, 0, 0, 0, 0), none, some (.lload_n 3, 0, 0, 0, 0, 0), some (.iload 8, 0, 0, 0, 0, 0), none, some (.lload 5, 0, 0, 0, 0, 0), none, some (.invokevirtual 306, 146, 5, 6, 0, 0), none, none, some (.ifCond .eq 7, 203, 0, 0, 0, 0), none, none, some (.iconst 1, 0, 0, 0, 1, 0), some (.goto 4, 204, 0, 0, 0, 0), none, none, some (.iconst 0, 0, 0, 0, 0, 0), some (.ireturn, 2, 0, 0, 0, 0)]
def tb_X7_cut : List (Option XI) := [some (.iload_n 1, 0, 0, 0, 0, 0), some (.invokestatic 72, 116, 1, 0, 0, 0), none, none, some (.istore 4, 0, 0, 0, 0, 0), none, some (.iload_n 2, 0, 0, 0, 0, 0), some (.i2l, 0, 0, 0, 0, 0), some (.lconst 0, 0, 0, 0, 0, 0), some (.ldc2_w 310, 0, 0, 0, 0, 65535), none, none, some (.invokestatic 68, 115, 3, 0, 0, 0), none, none, some (.ifCond .eq 19, 34, 0, 0, 0, 0), none, none, some (.iload_n 3, 0, 0, 0, 0, 0), some (.i2l, 0, 0, 0, 0, 0), some (.lconst 0, 0, 0, 0, 0, 0), some (.ldc2_w 310, 0, 0, 0, 0, 65535), none, none, some (.invokestatic 68, 115, 3, 0, 0, 0), none, none, some (.ifCond .eq 7, 34, 0, 0, 0, 0), none, none, some (.iconst 1, 0, 0, 0, 1, 0), some (.goto 4, 35, 0, 0, 0, 0), none, none, some (.iconst 0, 0, 0, 0, 0, 0), some (.istore 5, 0, 0, 0, 0, 0), none, some (.aload_n 0, 0, 0, 0, 0, 0), some (.iload 4, 0, 0, 0, 0, 0), none, some (.ifCond .ne 7, 47, 0, 0, 0, 0), none, none, some (.iconst 1, 0, 0, 0, 1, 0), some (.goto 26, 70, 0, 0, 0, 0), none, none, some (.iload 5, 0, 0, 0, 0, 0), none, some (.ifCond .ne 7, 56, 0, 0, 0, 0), none, none, some (.iconst 2, 0, 0, 0, 2, 0), some (.goto 17, 70, 0, 0, 0, 0), none, none, some (.aload_n 0, 0, 0, 0, 0, 0), some (.iload_n 2, 0, 0, 0, 0, 0), some (.iload_n 3, 0, 0, 0, 0, 0), some (.invokevirtual 312, 184, 3, 6, 0, 0), none, none, some (.ifCond .ne 7, 69, 0, 0, 0, 0), none, none, some (.iconst 3, 0, 0, 0, 3, 0), some (.goto 4, 70, 0, 0, 0, 0), none, none, some (.iconst 0, 0, 0, 0, 0, 0), some (.invokevirtual 202, 114, 2, 6, 0, 0), none, none, some (.ifCond .ne 5, 78, 0, 0, 0, 0), none, none, some (.iconst 0, 0, 0, 0, 0, 0), some (.ireturn, 1, 0, 0, 0, 0), some (.aload_n 0, 0, 0, 0, 0, 0), some (.iload_n 1, 0, 0, 0, 0, 0), some (.iconst 2, 0, 0, 0, 2, 0), some (.aload_n 0, 0, 0, 0, 0, 0), some (.getfield 174, 6, 25, 1, 0, 0), none, none, some (.l2i, 0, 0, 0, 0, 0), some (.invokevirtual 143, 118, 4, 6, 0, 0), none, none, some (.aload_n 0, 0, 0, 0, 0, 0), some (.getfield 178, 6, 26, 0, 0, 0), none, none, some (.ireturn, 1, 0, 0, 0, 0)]
def tb_X7_birthdayOf : List (Option XI) := [some (.aload_n 0, 0, 0, 0, 0, 0), some (.aload_n 0, 0, 0, 0, 0, 0), some (.getfield 13, 6, 2, 2, 0, 0), none, none, some (.iload_n 1, 0, 0, 0, 0, 0), some (.iaload, 0, 0, 0, 0, 0), some (.i2l, 0, 0, 0, 0, 0), some (.sipush 1000, 0, 0, 0, 1000, 0), none, none, some (.invokevirtual 315, 145, 3, 6, 0, 0), none, none, some (.istore_n 2, 0, 0, 0, 0, 0), some (.aload_n 0, 0, 0, 0, 0, 0), some (.getfield 178, 6, 26, 0, 0, 0), none, none, some (.ireturn, 1, 0, 0, 0, 0)]
def tb_X7_birthday : List (Option XI) := [some (.iload_n 1, 0, 0, 0, 0, 0), some (.invokestatic 72, 116, 1, 0, 0, 0), none, none, some (.istore_n 2, 0, 0, 0, 0, 0), some (.aload_n 0, 0, 0, 0, 0, 0), some (.iload_n 2, 0, 0, 0, 0, 0), some (.ifCond .ne 7, 14, 0, 0, 0, 0), none, none, some (.iconst 1, 0, 0, 0, 1, 0), some (.goto 17, 28, 0, 0, 0, 0), none, none, some (.aload_n 0, 0, 0, 0, 0, 0), some (.iload_n 1, 0, 0, 0, 0, 0), some (.iconst 2, 0, 0, 0, 2, 0), some (.invokevirtual 214, 153, 3, 6, 0, 0), none, none, some (.ifCond .ne 7, 27, 0, 0, 0, 0), none, none, some (.iconst 2, 0, 0, 0, 2, 0), some (.goto 4, 28, 0, 0, 0, 0), none, none, some (.iconst 0, 0, 0, 0, 0, 0), some (.invokevirtual 202, 114, 2, 6, 0, 0), none, none, some (.ifCond .eq 11, 42, 0, 0, 0, 0), none, none, some (.aload_n 0, 0, 0, 0, 0, 0), some (.iload_n 1, 0, 0, 0, 0, 0), some (.invokevirtual 319, 186, 2, 6, 0, 0), none, none, some (.goto 4, 43, 0, 0, 0, 0), none, none, some (.iconst 0, 0, 0, 0, 0, 0), some (.ireturn, 1, 0, 0, 0, 0)]
def tb_X7_signAt : List (Option XI) := [some (.iload_n 2, 0, 0, 0, 0, 0), some (.aload_n 0, 0, 0, 0, 0, 0), some (.iload_n 1, 0, 0, 0, 0, 0), some (.invokevirtual 319, 186, 2, 6, 0, 0), none, none, some (.if_icmp .ge 20, 26, 0, 0, 0, 0), none, none, some (.aload_n 0, 0, 0, 0, 0, 0), some (.aload_n 0, 0, 0, 0, 0, 0), some (.getfield 13, 6, 2, 2, 0, 0), none, none, some (.iload_n 1, 0, 0, 0, 0, 0), some (.iaload, 0, 0, 0, 0, 0), some (.i2l, 0, 0, 0, 0, 0), some (.iload_n 2, 0, 0, 0, 0, 0), some (.iconst 1, 0, 0, 0, 1, 0), some (.iadd, 0, 0, 0, 0, 0), some (.invokevirtual 315, 145, 3, 6, 0, 0), none, none, some (.goto 4, 27, 0, 0, 0, 0), none, none, some (.iconst 0, 0, 0, 0, 0, 0), some (.ireturn, 1, 0, 0, 0, 0)]
def tb_X7_signOf : List (Option XI) := [some (.iload_n 1, 0, 0, 0, 0, 0), some (.invokestatic 72, 116, 1, 0, 0, 0), none, none, some (.ifCond .eq 11, 15, 0, 0, 0, 0), none, none, some (.iload_n 2, 0, 0, 0, 0, 0), some (.ifCond .lt 7, 15, 0, 0, 0, 0), none, none, some (.iconst 1, 0, 0, 0, 1, 0), some (.goto 4, 16, 0, 0, 0, 0), none, none, some (.iconst 0, 0, 0, 0, 0, 0), some (.istore_n 3, 0, 0, 0, 0, 0), some (.aload_n 0, 0, 0, 0, 0, 0), some (.iload_n 3, 0, 0, 0, 0, 0), some (.ifCond .ne 7, 26, 0, 0, 0, 0), none, none, some (.iconst 1, 0, 0, 0, 1, 0), some (.goto 17, 40, 0, 0, 0, 0), none, none, some (.aload_n 0, 0, 0, 0, 0, 0), some (.iload_n 1, 0, 0, 0, 0, 0), some (.iconst 2, 0, 0, 0, 2, 0), some (.invokevirtual 214, 153, 3, 6, 0, 0), none, none, some (.ifCond .ne 7, 39, 0, 0, 0, 0), none, none, some (.iconst 2, 0, 0, 0, 2, 0), some (.goto 4, 40, 0, 0, 0, 0), none, none, some (.iconst 0, 0, 0, 0, 0, 0), some (.invokevirtual 202, 114, 2, 6, 0, 0), none, none, some (.ifCond .eq 12, 55, 0, 0, 0, 0), none, none, some (.aload_n 0, 0, 0, 0, 0, 0), some (.iload_n 1, 0, 0, 0, 0, 0), some (.iload_n 2, 0, 0, 0, 0, 0), some (.invokevirtual 322, 188, 3, 6, 0, 0), none, none, some (.goto 4, 56, 0, 0, 0, 0), none, none, some (.iconst 0, 0, 0, 0, 0, 0), some (.ireturn, 1, 0, 0, 0, 0)]
def tb_X7_parts : List (Option XI) := [some (.iload_n 1, 0, 0, 0, 0, 0), some (.invokestatic 72, 116, 1, 0, 0, 0), none, none, some (.istore_n 2, 0, 0, 0, 0, 0), some (.aload_n 0, 0, 0, 0, 0, 0), some (.iload_n 2, 0, 0, 0, 0, 0), some (.ifCond .ne 7, 14, 0, 0, 0, 0), none, none, some (.iconst 1, 0, 0, 0, 1, 0), some (.goto 17, 28, 0, 0, 0, 0), none, none, some (.aload_n 0, 0, 0, 0, 0, 0), some (.iload_n 1, 0, 0, 0, 0, 0), some (.iconst 2, 0, 0, 0, 2, 0), some (.invokevirtual 214, 153, 3, 6, 0, 0), none, none, some (.ifCond .ne 7, 27, 0, 0, 0, 0), none, none, some (.iconst 2, 0, 0, 0, 2, 0), some (.goto 4, 28, 0, 0, 0, 0), none, none, some (.iconst 0, 0, 0, 0, 0, 0), some (.invokevirtual 202, 114, 2, 6, 0, 0), none, none, some (.ifCond .eq 13, 44, 0, 0, 0, 0), none, none, some (.aload_n 0, 0, 0, 0, 0, 0), some (.getfield 13, 6, 2, 2, 0, 0), none, none, some (.iload_n 1, 0, 0, 0, 0, 0), some (.iaload, 0, 0, 0, 0, 0), some (.i2l, 0, 0, 0, 0, 0), some (.goto 4, 45, 0, 0, 0, 0), none, none, some (.lconst 0, 0, 0, 0, 0, 0), some (.lreturn, 0, 0, 0, 0, 0)]
def tb_X7_tendsTo : List (Option XI) := [some (.bipush 20, 0, 0, 0, 20, 0), none, some (.iload_n 1, 0, 0, 0, 0, 0), some (.imul, 0, 0, 0, 0, 0), some (.istore_n 2, 0, 0, 0, 0, 0), some (.aload_n 0, 0, 0, 0, 0, 0), some (.getfield 13, 6, 2, 2, 0, 0), none, none, some (.iload_n 1, 0, 0, 0, 0, 0), some (.iaload, 0, 0, 0, 0, 0), some (.ifCond .eq 16, 27, 0, 0, 0, 0), none, none, some (.aload_n 0, 0, 0, 0, 0, 0), some (.getfield 51, 6, 16, 2, 0, 0), none, none, some (.iload_n 2, 0, 0, 0, 0, 0), some (.laload, 0, 0, 0, 0, 0), some (.invokestatic 159, 133, 0, 0, 0, 0), none, none, some (.lcmp, 0, 0, 0, 0, 0), some (.ifCond .ge 5, 29, 0, 0, 0, 0), none, none, some (.iconst 0, 0, 0, 0, 0, 0), some (.ireturn, 1, 0, 0, 0, 0), some (.aload_n 0, 0, 0, 0, 0, 0), some (.getfield 51, 6, 16, 2, 0, 0), none, none, some (.iload_n 2, 0, 0, 0, 0, 0), some (.laload, 0, 0, 0, 0, 0), some (.invokestatic 159, 133, 0, 0, 0, 0), none, none, some (.lcmp, 0, 0, 0, 0, 0), some (.ifCond .ne 7, 46, 0, 0, 0, 0), none, none, some (.iconst 1, 0, 0, 0, 1, 0), some (.goto 17, 60, 0, 0, 0, 0), none, none, some (.aload_n 0, 0, 0, 0, 0, 0), some (.getfield 54, 6, 17, 2, 0, 0), none, none, some (.iload_n 2, 0, 0, 0, 0, 0), some (.iaload, 0, 0, 0, 0, 0), some (.ifCond .le 7, 59, 0, 0, 0, 0), none, none, some (.iconst 2, 0, 0, 0, 2, 0), some (.goto 4, 60, 0, 0, 0, 0), none, none, some (.iconst 3, 0, 0, 0, 3, 0), some (.ireturn, 1, 0, 0, 0, 0)]
def tb_X7_tends : List (Option XI) := [some (.iload_n 1, 0, 0, 0, 0, 0), some (.invokestatic 72, 116, 1, 0, 0, 0), none, none, some (.istore_n 2, 0, 0, 0, 0, 0), some (.aload_n 0, 0, 0, 0, 0, 0), some (.iload_n 2, 0, 0, 0, 0, 0), some (.ifCond .ne 7, 14, 0, 0, 0, 0), none, none, some (.iconst 1, 0, 0, 0, 1, 0), some (.goto 17, 28, 0, 0, 0, 0), none, none, some (.aload_n 0, 0, 0, 0, 0, 0), some (.iload_n 1, 0, 0, 0, 0, 0), some (.iconst 3, 0, 0, 0, 3, 0), some (.invokevirtual 214, 153, 3, 6, 0, 0), none, none, some (.ifCond .ne 7, 27, 0, 0, 0, 0), none, none, some (.iconst 2, 0, 0, 0, 2, 0), some (.goto 4, 28, 0, 0, 0, 0), none, none, some (.iconst 0, 0, 0, 0, 0, 0), some (.invokevirtual 202, 114, 2, 6, 0, 0), none, none, some (.ifCond .eq 11, 42, 0, 0, 0, 0), none, none, some (.aload_n 0, 0, 0, 0, 0, 0), some (.iload_n 1, 0, 0, 0, 0, 0), some (.invokevirtual 325, 191, 2, 6, 0, 0), none, none, some (.goto 4, 43, 0, 0, 0, 0), none, none, some (.iconst 0, 0, 0, 0, 0, 0), some (.ireturn, 1, 0, 0, 0, 0)]
def tb_X7_terms : List (Option XI) := [some (.iload_n 1, 0, 0, 0, 0, 0), some (.invokestatic 72, 116, 1, 0, 0, 0), none, none, some (.istore_n 2, 0, 0, 0, 0, 0), some (.aload_n 0, 0, 0, 0, 0, 0), some (.iload_n 2, 0, 0, 0, 0, 0), some (.ifCond .ne 7, 14, 0, 0, 0, 0), none, none, some (.iconst 1, 0, 0, 0, 1, 0), some (.goto 17, 28, 0, 0, 0, 0), none, none, some (.aload_n 0, 0, 0, 0, 0, 0), some (.iload_n 1, 0, 0, 0, 0, 0), some (.iconst 3, 0, 0, 0, 3, 0), some (.invokevirtual 214, 153, 3, 6, 0, 0), none, none, some (.ifCond .ne 7, 27, 0, 0, 0, 0), none, none, some (.iconst 2, 0, 0, 0, 2, 0), some (.goto 4, 28, 0, 0, 0, 0), none, none, some (.iconst 0, 0, 0, 0, 0, 0), some (.invokevirtual 202, 114, 2, 6, 0, 0), none, none, some (.ifCond .eq 12, 43, 0, 0, 0, 0), none, none, some (.aload_n 0, 0, 0, 0, 0, 0), some (.getfield 13, 6, 2, 2, 0, 0), none, none, some (.iload_n 1, 0, 0, 0, 0, 0), some (.iaload, 0, 0, 0, 0, 0), some (.goto 4, 44, 0, 0, 0, 0), none, none, some (.iconst 0, 0, 0, 0, 0, 0), some (.ireturn, 1, 0, 0, 0, 0)]
def tb_X7_toldPart : List (Option XI) := [some (.iload_n 2, 0, 0, 0, 0, 0), some (.ifCond .ne 13, 14, 0, 0, 0, 0), none, none, some (.aload_n 0, 0, 0, 0, 0, 0), some (.getfield 54, 6, 17, 2, 0, 0), none, none, some (.iload_n 1, 0, 0, 0, 0, 0), some (.iaload, 0, 0, 0, 0, 0), some (.i2l, 0, 0, 0, 0, 0), some (.goto 13, 24, 0, 0, 0, 0), none, none, some (.aload_n 0, 0, 0, 0, 0, 0), some (.getfield 51, 6, 16, 2, 0, 0), none, none, some (.iload_n 1, 0, 0, 0, 0, 0), some (.laload, 0, 0, 0, 0, 0), some (.iload_n 2, 0, 0, 0, 0, 0), some (.invokestatic 135, 134, 2, 0, 0, 0), none, none, some (.lreturn, 0, 0, 0, 0, 0)]
def tb_X7_part : List (Option XI) := [some (.iload_n 1, 0, 0, 0, 0, 0), some (.invokestatic 72, 116, 1, 0, 0, 0), none, none, some (.ifCond .eq 11, 15, 0, 0, 0, 0), none, none, some (.iload_n 2, 0, 0, 0, 0, 0), some (.ifCond .lt 7, 15, 0, 0, 0, 0), none, none, some (.iconst 1, 0, 0, 0, 1, 0), some (.goto 4, 16, 0, 0, 0, 0), none, none, some (.iconst 0, 0, 0, 0, 0, 0), some (.istore 4, 0, 0, 0, 0, 0), none, some (.aload_n 0, 0, 0, 0, 0, 0), some (.iload 4, 0, 0, 0, 0, 0), none, some (.ifCond .ne 7, 28, 0, 0, 0, 0), none, none, some (.iconst 1, 0, 0, 0, 1, 0), some (.goto 43, 68, 0, 0, 0, 0), none, none, some (.iload_n 3, 0, 0, 0, 0, 0), some (.i2l, 0, 0, 0, 0, 0), some (.lconst 0, 0, 0, 0, 0, 0), some (.ldc2_w 328, 0, 0, 0, 0, 4), none, none, some (.invokestatic 68, 115, 3, 0, 0, 0), none, none, some (.ifCond .ne 7, 44, 0, 0, 0, 0), none, none, some (.iconst 2, 0, 0, 0, 2, 0), some (.goto 27, 68, 0, 0, 0, 0), none, none, some (.aload_n 0, 0, 0, 0, 0, 0), some (.iload_n 1, 0, 0, 0, 0, 0), some (.iconst 3, 0, 0, 0, 3, 0), some (.invokevirtual 214, 153, 3, 6, 0, 0), none, none, some (.ifCond .eq 13, 63, 0, 0, 0, 0), none, none, some (.iload_n 2, 0, 0, 0, 0, 0), some (.aload_n 0, 0, 0, 0, 0, 0), some (.getfield 13, 6, 2, 2, 0, 0), none, none, some (.iload_n 1, 0, 0, 0, 0, 0), some (.iaload, 0, 0, 0, 0, 0), some (.if_icmp .lt 7, 67, 0, 0, 0, 0), none, none, some (.iconst 3, 0, 0, 0, 3, 0), some (.goto 4, 68, 0, 0, 0, 0), none, none, some (.iconst 0, 0, 0, 0, 0, 0), some (.invokevirtual 202, 114, 2, 6, 0, 0), none, none, some (.ifCond .eq 17, 88, 0, 0, 0, 0), none, none, some (.aload_n 0, 0, 0, 0, 0, 0), some (.bipush 20, 0, 0, 0, 20, 0), none, some (.iload_n 1, 0, 0, 0, 0, 0), some (.imul, 0, 0, 0, 0, 0), some (.iload_n 2, 0, 0, 0, 0, 0), some (.iadd, 0, 0, 0, 0, 0), some (.iload_n 3, 0, 0, 0, 0, 0), some (.invokevirtual 330, 194, 3, 6, 0, 0), none, none, some (.goto 4, 89, 0, 0, 0, 0), none, none, some (.lconst 0, 0, 0, 0, 0, 0), some (.lreturn, 0, 0, 0, 0, 0)]
def tb_J6_compare_7cf53 : List (Option XI) := [some (.iload_n 0, 0, 0, 0, 0, 0), some (.iload_n 1, 0, 0, 0, 0, 0), some (.if_icmp .ge 7, 9, 0, 0, 0, 0), none, none, some (.iconst (-1), 0, 0, 0, (-1), 0), some (.goto 13, 19, 0, 0, 0, 0), none, none, some (.iload_n 0, 0, 0, 0, 0, 0), some (.iload_n 1, 0, 0, 0, 0, 0), some (.if_icmp .ne 7, 18, 0, 0, 0, 0), none, none, some (.iconst 0, 0, 0, 0, 0, 0), some (.goto 4, 19, 0, 0, 0, 0), none, none, some (.iconst 1, 0, 0, 0, 1, 0), some (.ireturn, 1, 0, 0, 0, 0)]
def tb_J13_compare_74951 : List (Option XI) := [some (.lload_n 0, 0, 0, 0, 0, 0), some (.lload_n 2, 0, 0, 0, 0, 0), some (.lcmp, 0, 0, 0, 0, 0), some (.ifCond .ge 7, 10, 0, 0, 0, 0), none, none, some (.iconst (-1), 0, 0, 0, (-1), 0), some (.goto 14, 21, 0, 0, 0, 0), none, none, some (.lload_n 0, 0, 0, 0, 0, 0), some (.lload_n 2, 0, 0, 0, 0, 0), some (.lcmp, 0, 0, 0, 0, 0), some (.ifCond .ne 7, 20, 0, 0, 0, 0), none, none, some (.iconst 0, 0, 0, 0, 0, 0), some (.goto 4, 21, 0, 0, 0, 0), none, none, some (.iconst 1, 0, 0, 0, 1, 0), some (.ireturn, 1, 0, 0, 0, 0)]
def tb_J7_copyOf_59c91 : List (Option XI) := [some (.iload_n 1, 0, 0, 0, 0, 0), some (.aload_n 0, 0, 0, 0, 0, 0), some (.arraylength, 0, 0, 0, 0, 0), some (.if_icmp .ne 11, 14, 0, 0, 0, 0), none, none, some (.aload_n 0, 0, 0, 0, 0, 0), none, none, none, none, none, none, some (.areturn, 0, 0, 0, 0, 0), some (.iload_n 1, 0, 0, 0, 0, 0), some (.newarray .int, 1, 0, 0, 0, 0), none, some (.astore_n 2, 0, 0, 0, 0, 0), some (.aload_n 0, 0, 0, 0, 0, 0), some (.iconst 0, 0, 0, 0, 0, 0), some (.aload_n 2, 0, 0, 0, 0, 0), some (.iconst 0, 0, 0, 0, 0, 0), some (.aload_n 0, 0, 0, 0, 0, 0), some (.arraylength, 0, 0, 0, 0, 0), some (.iload_n 1, 0, 0, 0, 0, 0), some (.invokestatic 304, 0, 2, 2, 0, 0), none, none, some (.invokestatic 150, 0, 5, 6, 0, 0), none, none, some (.aload_n 2, 0, 0, 0, 0, 0), some (.areturn, 0, 0, 0, 0, 0)]
def tb_L_kind : List (Option XI) := [some (.aload_n 2, 0, 0, 0, 0, 0), some (.iconst 0, 0, 0, 0, 0, 0), some (.aload_n 0, 0, 0, 0, 0, 0), some (.iload_n 1, 0, 0, 0, 0, 0), some (.invokevirtual 7, 68, 2, 5, 0, 0), none, none, some (.i2l, 0, 0, 0, 0, 0), some (.lastore, 0, 0, 0, 0, 0), some (.goto 6, 15, 0, 0, 0, 0), none, none, some (.astore_n 3, 0, 0, 0, 0, 0), some (.iconst 1, 0, 0, 0, 1, 0), some (.ireturn, 1, 0, 0, 0, 0), some (.iconst 0, 0, 0, 0, 0, 0), some (.ireturn, 1, 0, 0, 0, 0)]
def tb_L_clear : List (Option XI) := [some (.aload_n 2, 0, 0, 0, 0, 0), some (.iconst 0, 0, 0, 0, 0, 0), some (.aload_n 0, 0, 0, 0, 0, 0), some (.iload_n 1, 0, 0, 0, 0, 0), some (.invokevirtual 15, 69, 2, 5, 0, 0), none, none, some (.i2l, 0, 0, 0, 0, 0), some (.lastore, 0, 0, 0, 0, 0), some (.goto 6, 15, 0, 0, 0, 0), none, none, some (.astore_n 3, 0, 0, 0, 0, 0), some (.iconst 1, 0, 0, 0, 1, 0), some (.ireturn, 1, 0, 0, 0, 0), some (.iconst 0, 0, 0, 0, 0, 0), some (.ireturn, 1, 0, 0, 0, 0)]
def tb_L_finite : List (Option XI) := [some (.aload_n 0, 0, 0, 0, 0, 0), some (.iload_n 1, 0, 0, 0, 0, 0), some (.iload_n 2, 0, 0, 0, 0, 0), some (.invokevirtual 18, 70, 3, 5, 0, 0), none, none, some (.goto 9, 15, 0, 0, 0, 0), none, none, some (.astore_n 3, 0, 0, 0, 0, 0), some (.iconst 1, 0, 0, 0, 1, 0), some (.ireturn, 1, 0, 0, 0, 0), some (.astore_n 3, 0, 0, 0, 0, 0), some (.iconst 2, 0, 0, 0, 2, 0), some (.ireturn, 1, 0, 0, 0, 0), some (.iconst 0, 0, 0, 0, 0, 0), some (.ireturn, 1, 0, 0, 0, 0)]
def tb_L_omega : List (Option XI) := [some (.aload_n 0, 0, 0, 0, 0, 0), some (.iload_n 1, 0, 0, 0, 0, 0), some (.iload_n 2, 0, 0, 0, 0, 0), some (.invokevirtual 24, 71, 3, 5, 0, 0), none, none, some (.goto 9, 15, 0, 0, 0, 0), none, none, some (.astore_n 3, 0, 0, 0, 0, 0), some (.iconst 1, 0, 0, 0, 1, 0), some (.ireturn, 1, 0, 0, 0, 0), some (.astore_n 3, 0, 0, 0, 0, 0), some (.iconst 2, 0, 0, 0, 2, 0), some (.ireturn, 1, 0, 0, 0, 0), some (.iconst 0, 0, 0, 0, 0, 0), some (.ireturn, 1, 0, 0, 0, 0)]
def tb_L_number : List (Option XI) := [some (.aload_n 0, 0, 0, 0, 0, 0), some (.iload_n 1, 0, 0, 0, 0, 0), some (.iload_n 2, 0, 0, 0, 0, 0), some (.iload_n 3, 0, 0, 0, 0, 0), some (.invokevirtual 29, 72, 4, 5, 0, 0), none, none, some (.goto 11, 18, 0, 0, 0, 0), none, none, some (.astore 4, 0, 0, 0, 0, 0), none, some (.iconst 1, 0, 0, 0, 1, 0), some (.ireturn, 1, 0, 0, 0, 0), some (.astore 4, 0, 0, 0, 0, 0), none, some (.iconst 2, 0, 0, 0, 2, 0), some (.ireturn, 1, 0, 0, 0, 0), some (.iconst 0, 0, 0, 0, 0, 0), some (.ireturn, 1, 0, 0, 0, 0)]
def tb_L_signs : List (Option XI) := [some (.aload_n 0, 0, 0, 0, 0, 0), some (.iload_n 1, 0, 0, 0, 0, 0), some (.iload_n 2, 0, 0, 0, 0, 0), some (.iload_n 3, 0, 0, 0, 0, 0), some (.invokevirtual 33, 73, 4, 5, 0, 0), none, none, some (.goto 11, 18, 0, 0, 0, 0), none, none, some (.astore 4, 0, 0, 0, 0, 0), none, some (.iconst 1, 0, 0, 0, 1, 0), some (.ireturn, 1, 0, 0, 0, 0), some (.astore 4, 0, 0, 0, 0, 0), none, some (.iconst 2, 0, 0, 0, 2, 0), some (.ireturn, 1, 0, 0, 0, 0), some (.iconst 0, 0, 0, 0, 0, 0), some (.ireturn, 1, 0, 0, 0, 0)]
def tb_L_term : List (Option XI) := [some (.aload_n 0, 0, 0, 0, 0, 0), some (.iload_n 1, 0, 0, 0, 0, 0), some (.iload_n 2, 0, 0, 0, 0, 0), some (.iload_n 3, 0, 0, 0, 0, 0), some (.iload 4, 0, 0, 0, 0, 0), none, some (.iload 5, 0, 0, 0, 0, 0), none, some (.iload 6, 0, 0, 0, 0, 0), none, some (.invokevirtual 36, 74, 7, 5, 0, 0), none, none, some (.goto 11, 24, 0, 0, 0, 0), none, none, some (.astore 7, 0, 0, 0, 0, 0), none, some (.iconst 1, 0, 0, 0, 1, 0), some (.ireturn, 1, 0, 0, 0, 0), some (.astore 7, 0, 0, 0, 0, 0), none, some (.iconst 2, 0, 0, 0, 2, 0), some (.ireturn, 1, 0, 0, 0, 0), some (.iconst 0, 0, 0, 0, 0, 0), some (.ireturn, 1, 0, 0, 0, 0)]
def tb_L_sum : List (Option XI) := [some (.aload 4, 0, 0, 0, 0, 0), none, some (.iconst 0, 0, 0, 0, 0, 0), some (.aload_n 0, 0, 0, 0, 0, 0), some (.iload_n 1, 0, 0, 0, 0, 0), some (.iload_n 2, 0, 0, 0, 0, 0), some (.iload_n 3, 0, 0, 0, 0, 0), some (.invokevirtual 40, 75, 4, 5, 0, 0), none, none, some (.i2l, 0, 0, 0, 0, 0), some (.lastore, 0, 0, 0, 0, 0), some (.goto 11, 23, 0, 0, 0, 0), none, none, some (.astore 5, 0, 0, 0, 0, 0), none, some (.iconst 1, 0, 0, 0, 1, 0), some (.ireturn, 1, 0, 0, 0, 0), some (.astore 5, 0, 0, 0, 0, 0), none, some (.iconst 2, 0, 0, 0, 2, 0), some (.ireturn, 1, 0, 0, 0, 0), some (.iconst 0, 0, 0, 0, 0, 0), some (.ireturn, 1, 0, 0, 0, 0)]
def tb_L_product : List (Option XI) := [some (.aload 4, 0, 0, 0, 0, 0), none, some (.iconst 0, 0, 0, 0, 0, 0), some (.aload_n 0, 0, 0, 0, 0, 0), some (.iload_n 1, 0, 0, 0, 0, 0), some (.iload_n 2, 0, 0, 0, 0, 0), some (.iload_n 3, 0, 0, 0, 0, 0), some (.invokevirtual 44, 76, 4, 5, 0, 0), none, none, some (.i2l, 0, 0, 0, 0, 0), some (.lastore, 0, 0, 0, 0, 0), some (.goto 11, 23, 0, 0, 0, 0), none, none, some (.astore 5, 0, 0, 0, 0, 0), none, some (.iconst 1, 0, 0, 0, 1, 0), some (.ireturn, 1, 0, 0, 0, 0), some (.astore 5, 0, 0, 0, 0, 0), none, some (.iconst 2, 0, 0, 0, 2, 0), some (.ireturn, 1, 0, 0, 0, 0), some (.iconst 0, 0, 0, 0, 0, 0), some (.ireturn, 1, 0, 0, 0, 0)]
def tb_L_difference : List (Option XI) := [some (.aload 4, 0, 0, 0, 0, 0), none, some (.iconst 0, 0, 0, 0, 0, 0), some (.aload_n 0, 0, 0, 0, 0, 0), some (.iload_n 1, 0, 0, 0, 0, 0), some (.iload_n 2, 0, 0, 0, 0, 0), some (.iload_n 3, 0, 0, 0, 0, 0), some (.invokevirtual 47, 77, 4, 5, 0, 0), none, none, some (.i2l, 0, 0, 0, 0, 0), some (.lastore, 0, 0, 0, 0, 0), some (.goto 11, 23, 0, 0, 0, 0), none, none, some (.astore 5, 0, 0, 0, 0, 0), none, some (.iconst 1, 0, 0, 0, 1, 0), some (.ireturn, 1, 0, 0, 0, 0), some (.astore 5, 0, 0, 0, 0, 0), none, some (.iconst 2, 0, 0, 0, 2, 0), some (.ireturn, 1, 0, 0, 0, 0), some (.iconst 0, 0, 0, 0, 0, 0), some (.ireturn, 1, 0, 0, 0, 0)]
def tb_L_natural : List (Option XI) := [some (.aload_n 0, 0, 0, 0, 0, 0), some (.iload_n 1, 0, 0, 0, 0, 0), some (.iload_n 2, 0, 0, 0, 0, 0), some (.iload_n 3, 0, 0, 0, 0, 0), some (.iload 4, 0, 0, 0, 0, 0), none, some (.invokevirtual 50, 78, 5, 5, 0, 0), none, none, some (.goto 11, 20, 0, 0, 0, 0), none, none, some (.astore 5, 0, 0, 0, 0, 0), none, some (.iconst 1, 0, 0, 0, 1, 0), some (.ireturn, 1, 0, 0, 0, 0), some (.astore 5, 0, 0, 0, 0, 0), none, some (.iconst 2, 0, 0, 0, 2, 0), some (.ireturn, 1, 0, 0, 0, 0), some (.iconst 0, 0, 0, 0, 0, 0), some (.ireturn, 1, 0, 0, 0, 0)]
def tb_L_derive : List (Option XI) := [some (.aload_n 0, 0, 0, 0, 0, 0), some (.iload_n 1, 0, 0, 0, 0, 0), some (.iload_n 2, 0, 0, 0, 0, 0), some (.invokevirtual 54, 79, 3, 5, 0, 0), none, none, some (.goto 9, 15, 0, 0, 0, 0), none, none, some (.astore_n 3, 0, 0, 0, 0, 0), some (.iconst 1, 0, 0, 0, 1, 0), some (.ireturn, 1, 0, 0, 0, 0), some (.astore_n 3, 0, 0, 0, 0, 0), some (.iconst 2, 0, 0, 0, 2, 0), some (.ireturn, 1, 0, 0, 0, 0), some (.iconst 0, 0, 0, 0, 0, 0), some (.ireturn, 1, 0, 0, 0, 0)]
def tb_L_compare : List (Option XI) := [some (.aload_n 3, 0, 0, 0, 0, 0), some (.iconst 0, 0, 0, 0, 0, 0), some (.aload_n 0, 0, 0, 0, 0, 0), some (.iload_n 1, 0, 0, 0, 0, 0), some (.iload_n 2, 0, 0, 0, 0, 0), some (.invokevirtual 57, 80, 3, 5, 0, 0), none, none, some (.i2l, 0, 0, 0, 0, 0), some (.lastore, 0, 0, 0, 0, 0), some (.goto 11, 21, 0, 0, 0, 0), none, none, some (.astore 4, 0, 0, 0, 0, 0), none, some (.iconst 1, 0, 0, 0, 1, 0), some (.ireturn, 1, 0, 0, 0, 0), some (.astore 4, 0, 0, 0, 0, 0), none, some (.iconst 2, 0, 0, 0, 2, 0), some (.ireturn, 1, 0, 0, 0, 0), some (.iconst 0, 0, 0, 0, 0, 0), some (.ireturn, 1, 0, 0, 0, 0)]
def tb_L_step : List (Option XI) := [some (.aload_n 0, 0, 0, 0, 0, 0), some (.iload_n 1, 0, 0, 0, 0, 0), some (.iload_n 2, 0, 0, 0, 0, 0), some (.iload_n 3, 0, 0, 0, 0, 0), some (.invokevirtual 61, 81, 4, 5, 0, 0), none, none, some (.goto 15, 22, 0, 0, 0, 0), none, none, some (.astore 4, 0, 0, 0, 0, 0), none, some (.iconst 1, 0, 0, 0, 1, 0), some (.ireturn, 1, 0, 0, 0, 0), some (.astore 4, 0, 0, 0, 0, 0), none, some (.iconst 2, 0, 0, 0, 2, 0), some (.ireturn, 1, 0, 0, 0, 0), some (.astore 4, 0, 0, 0, 0, 0), none, some (.iconst 3, 0, 0, 0, 3, 0), some (.ireturn, 1, 0, 0, 0, 0), some (.iconst 0, 0, 0, 0, 0, 0), some (.ireturn, 1, 0, 0, 0, 0)]
def tb_L_descent : List (Option XI) := [some (.aload 4, 0, 0, 0, 0, 0), none, some (.iconst 0, 0, 0, 0, 0, 0), some (.aload_n 0, 0, 0, 0, 0, 0), some (.iload_n 1, 0, 0, 0, 0, 0), some (.iload_n 2, 0, 0, 0, 0, 0), some (.iload_n 3, 0, 0, 0, 0, 0), some (.invokevirtual 64, 82, 4, 5, 0, 0), none, none, some (.i2l, 0, 0, 0, 0, 0), some (.lastore, 0, 0, 0, 0, 0), some (.goto 15, 27, 0, 0, 0, 0), none, none, some (.astore 5, 0, 0, 0, 0, 0), none, some (.iconst 1, 0, 0, 0, 1, 0), some (.ireturn, 1, 0, 0, 0, 0), some (.astore 5, 0, 0, 0, 0, 0), none, some (.iconst 2, 0, 0, 0, 2, 0), some (.ireturn, 1, 0, 0, 0, 0), some (.astore 5, 0, 0, 0, 0, 0), none, some (.iconst 3, 0, 0, 0, 3, 0), some (.ireturn, 1, 0, 0, 0, 0), some (.iconst 0, 0, 0, 0, 0, 0), some (.ireturn, 1, 0, 0, 0, 0)]
def tb_L_powers : List (Option XI) := [some (.aload_n 2, 0, 0, 0, 0, 0), some (.iconst 0, 0, 0, 0, 0, 0), some (.aload_n 0, 0, 0, 0, 0, 0), some (.iload_n 1, 0, 0, 0, 0, 0), some (.invokevirtual 67, 83, 2, 5, 0, 0), none, none, some (.i2l, 0, 0, 0, 0, 0), some (.lastore, 0, 0, 0, 0, 0), some (.goto 9, 18, 0, 0, 0, 0), none, none, some (.astore_n 3, 0, 0, 0, 0, 0), some (.iconst 1, 0, 0, 0, 1, 0), some (.ireturn, 1, 0, 0, 0, 0), some (.astore_n 3, 0, 0, 0, 0, 0), some (.iconst 2, 0, 0, 0, 2, 0), some (.ireturn, 1, 0, 0, 0, 0), some (.iconst 0, 0, 0, 0, 0, 0), some (.ireturn, 1, 0, 0, 0, 0)]
def tb_L_times : List (Option XI) := [some (.aload_n 3, 0, 0, 0, 0, 0), some (.iconst 0, 0, 0, 0, 0, 0), some (.aload_n 0, 0, 0, 0, 0, 0), some (.iload_n 1, 0, 0, 0, 0, 0), some (.iload_n 2, 0, 0, 0, 0, 0), some (.invokevirtual 70, 84, 3, 5, 0, 0), none, none, some (.lastore, 0, 0, 0, 0, 0), some (.goto 11, 20, 0, 0, 0, 0), none, none, some (.astore 4, 0, 0, 0, 0, 0), none, some (.iconst 1, 0, 0, 0, 1, 0), some (.ireturn, 1, 0, 0, 0, 0), some (.astore 4, 0, 0, 0, 0, 0), none, some (.iconst 2, 0, 0, 0, 2, 0), some (.ireturn, 1, 0, 0, 0, 0), some (.iconst 0, 0, 0, 0, 0, 0), some (.ireturn, 1, 0, 0, 0, 0)]
def tb_L_exponent : List (Option XI) := [some (.aload_n 0, 0, 0, 0, 0, 0), some (.iload_n 1, 0, 0, 0, 0, 0), some (.iload_n 2, 0, 0, 0, 0, 0), some (.iload_n 3, 0, 0, 0, 0, 0), some (.invokevirtual 74, 85, 4, 5, 0, 0), none, none, some (.goto 11, 18, 0, 0, 0, 0), none, none, some (.astore 4, 0, 0, 0, 0, 0), none, some (.iconst 1, 0, 0, 0, 1, 0), some (.ireturn, 1, 0, 0, 0, 0), some (.astore 4, 0, 0, 0, 0, 0), none, some (.iconst 2, 0, 0, 0, 2, 0), some (.ireturn, 1, 0, 0, 0, 0), some (.iconst 0, 0, 0, 0, 0, 0), some (.ireturn, 1, 0, 0, 0, 0)]
def tb_L_cut : List (Option XI) := [some (.aload 4, 0, 0, 0, 0, 0), none, some (.iconst 0, 0, 0, 0, 0, 0), some (.aload_n 0, 0, 0, 0, 0, 0), some (.iload_n 1, 0, 0, 0, 0, 0), some (.iload_n 2, 0, 0, 0, 0, 0), some (.iload_n 3, 0, 0, 0, 0, 0), some (.invokevirtual 77, 86, 4, 5, 0, 0), none, none, some (.i2l, 0, 0, 0, 0, 0), some (.lastore, 0, 0, 0, 0, 0), some (.goto 15, 27, 0, 0, 0, 0), none, none, some (.astore 5, 0, 0, 0, 0, 0), none, some (.iconst 1, 0, 0, 0, 1, 0), some (.ireturn, 1, 0, 0, 0, 0), some (.astore 5, 0, 0, 0, 0, 0), none, some (.iconst 2, 0, 0, 0, 2, 0), some (.ireturn, 1, 0, 0, 0, 0), some (.astore 5, 0, 0, 0, 0, 0), none, some (.iconst 3, 0, 0, 0, 3, 0), some (.ireturn, 1, 0, 0, 0, 0), some (.iconst 0, 0, 0, 0, 0, 0), some (.ireturn, 1, 0, 0, 0, 0)]
def tb_L_birthday : List (Option XI) := [some (.aload_n 2, 0, 0, 0, 0, 0), some (.iconst 0, 0, 0, 0, 0, 0), some (.aload_n 0, 0, 0, 0, 0, 0), some (.iload_n 1, 0, 0, 0, 0, 0), some (.invokevirtual 80, 87, 2, 5, 0, 0), none, none, some (.i2l, 0, 0, 0, 0, 0), some (.lastore, 0, 0, 0, 0, 0), some (.goto 9, 18, 0, 0, 0, 0), none, none, some (.astore_n 3, 0, 0, 0, 0, 0), some (.iconst 1, 0, 0, 0, 1, 0), some (.ireturn, 1, 0, 0, 0, 0), some (.astore_n 3, 0, 0, 0, 0, 0), some (.iconst 2, 0, 0, 0, 2, 0), some (.ireturn, 1, 0, 0, 0, 0), some (.iconst 0, 0, 0, 0, 0, 0), some (.ireturn, 1, 0, 0, 0, 0)]
def tb_L_signOf : List (Option XI) := [some (.aload_n 3, 0, 0, 0, 0, 0), some (.iconst 0, 0, 0, 0, 0, 0), some (.aload_n 0, 0, 0, 0, 0, 0), some (.iload_n 1, 0, 0, 0, 0, 0), some (.iload_n 2, 0, 0, 0, 0, 0), some (.invokevirtual 83, 88, 3, 5, 0, 0), none, none, some (.i2l, 0, 0, 0, 0, 0), some (.lastore, 0, 0, 0, 0, 0), some (.goto 11, 21, 0, 0, 0, 0), none, none, some (.astore 4, 0, 0, 0, 0, 0), none, some (.iconst 1, 0, 0, 0, 1, 0), some (.ireturn, 1, 0, 0, 0, 0), some (.astore 4, 0, 0, 0, 0, 0), none, some (.iconst 2, 0, 0, 0, 2, 0), some (.ireturn, 1, 0, 0, 0, 0), some (.iconst 0, 0, 0, 0, 0, 0), some (.ireturn, 1, 0, 0, 0, 0)]
def tb_L_parts : List (Option XI) := [some (.aload_n 2, 0, 0, 0, 0, 0), some (.iconst 0, 0, 0, 0, 0, 0), some (.aload_n 0, 0, 0, 0, 0, 0), some (.iload_n 1, 0, 0, 0, 0, 0), some (.invokevirtual 86, 89, 2, 5, 0, 0), none, none, some (.lastore, 0, 0, 0, 0, 0), some (.goto 9, 17, 0, 0, 0, 0), none, none, some (.astore_n 3, 0, 0, 0, 0, 0), some (.iconst 1, 0, 0, 0, 1, 0), some (.ireturn, 1, 0, 0, 0, 0), some (.astore_n 3, 0, 0, 0, 0, 0), some (.iconst 2, 0, 0, 0, 2, 0), some (.ireturn, 1, 0, 0, 0, 0), some (.iconst 0, 0, 0, 0, 0, 0), some (.ireturn, 1, 0, 0, 0, 0)]
def tb_L_tends : List (Option XI) := [some (.aload_n 2, 0, 0, 0, 0, 0), some (.iconst 0, 0, 0, 0, 0, 0), some (.aload_n 0, 0, 0, 0, 0, 0), some (.iload_n 1, 0, 0, 0, 0, 0), some (.invokevirtual 90, 90, 2, 5, 0, 0), none, none, some (.i2l, 0, 0, 0, 0, 0), some (.lastore, 0, 0, 0, 0, 0), some (.goto 9, 18, 0, 0, 0, 0), none, none, some (.astore_n 3, 0, 0, 0, 0, 0), some (.iconst 1, 0, 0, 0, 1, 0), some (.ireturn, 1, 0, 0, 0, 0), some (.astore_n 3, 0, 0, 0, 0, 0), some (.iconst 2, 0, 0, 0, 2, 0), some (.ireturn, 1, 0, 0, 0, 0), some (.iconst 0, 0, 0, 0, 0, 0), some (.ireturn, 1, 0, 0, 0, 0)]
def tb_L_terms : List (Option XI) := [some (.aload_n 2, 0, 0, 0, 0, 0), some (.iconst 0, 0, 0, 0, 0, 0), some (.aload_n 0, 0, 0, 0, 0, 0), some (.iload_n 1, 0, 0, 0, 0, 0), some (.invokevirtual 93, 91, 2, 5, 0, 0), none, none, some (.i2l, 0, 0, 0, 0, 0), some (.lastore, 0, 0, 0, 0, 0), some (.goto 9, 18, 0, 0, 0, 0), none, none, some (.astore_n 3, 0, 0, 0, 0, 0), some (.iconst 1, 0, 0, 0, 1, 0), some (.ireturn, 1, 0, 0, 0, 0), some (.astore_n 3, 0, 0, 0, 0, 0), some (.iconst 2, 0, 0, 0, 2, 0), some (.ireturn, 1, 0, 0, 0, 0), some (.iconst 0, 0, 0, 0, 0, 0), some (.ireturn, 1, 0, 0, 0, 0)]
def tb_L_part : List (Option XI) := [some (.aload 4, 0, 0, 0, 0, 0), none, some (.iconst 0, 0, 0, 0, 0, 0), some (.aload_n 0, 0, 0, 0, 0, 0), some (.iload_n 1, 0, 0, 0, 0, 0), some (.iload_n 2, 0, 0, 0, 0, 0), some (.iload_n 3, 0, 0, 0, 0, 0), some (.invokevirtual 96, 92, 4, 5, 0, 0), none, none, some (.lastore, 0, 0, 0, 0, 0), some (.goto 15, 26, 0, 0, 0, 0), none, none, some (.astore 5, 0, 0, 0, 0, 0), none, some (.iconst 1, 0, 0, 0, 1, 0), some (.ireturn, 1, 0, 0, 0, 0), some (.astore 5, 0, 0, 0, 0, 0), none, some (.iconst 2, 0, 0, 0, 2, 0), some (.ireturn, 1, 0, 0, 0, 0), some (.astore 5, 0, 0, 0, 0, 0), none, some (.iconst 3, 0, 0, 0, 3, 0), some (.ireturn, 1, 0, 0, 0, 0), some (.iconst 0, 0, 0, 0, 0, 0), some (.ireturn, 1, 0, 0, 0, 0)]
def tb_L_law : List (Option XI) := [some (.new 8, 5, 7, 0, 0, 0), none, none, some (.dup, 0, 0, 0, 0, 0), some (.invokespecial 100, 67, 1, 0, 0, 0), none, none, some (.astore_n 1, 0, 0, 0, 0, 0), some (.new 101, 6, 28, 0, 0, 0), none, none, some (.dup, 0, 0, 0, 0, 0), some (.invokespecial 103, 112, 1, 0, 0, 0), none, none, some (.astore_n 2, 0, 0, 0, 0, 0), some (.iconst 1, 0, 0, 0, 1, 0), some (.newarray .long, 2, 0, 0, 0, 0), none, some (.astore_n 3, 0, 0, 0, 0, 0), some (.iconst 0, 0, 0, 0, 0, 0), some (.istore 4, 0, 0, 0, 0, 0), none, some (.iload 4, 0, 0, 0, 0, 0), none, some (.aload_n 0, 0, 0, 0, 0, 0), some (.arraylength, 0, 0, 0, 0, 0), some (.bipush 7, 0, 0, 0, 7, 0), none, some (.isub, 0, 0, 0, 0, 0), some (.if_icmp .gt 1775, 1805, 0, 0, 0, 0), none, none, some (.aload_n 0, 0, 0, 0, 0, 0), some (.iload 4, 0, 0, 0, 0, 0), none, some (.iaload, 0, 0, 0, 0, 0), some (.bipush 31, 0, 0, 0, 31, 0), none, some (.iand, 0, 0, 0, 0, 0), some (.tableswitch 1759 0 24 #[116, 172, 228, 276, 324, 384, 444, 542, 622, 702, 782, 870, 918, 986, 1046, 1126, 1182, 1249, 1309, 1389, 1445, 1513, 1568, 1624, 1680], 116, 0, 0, 0, 0), none, none, none, none, none, none, none, none, none, none, none, none, none, none, none, none, none, none, none, none, none, none, none, none, none, none, none, none, none, none, none, none, none, none, none, none, none, none, none, none, none, none, none, none, none, none, none, none, none, none, none, none, none, none, none, none, none, none, none, none, none, none, none, none, none, none, none, none, none, none, none, none, none, none, none, none, none, none, none, none, none, none, none, none, none, none, none, none, none, none, none, none, none, none, none, none, none, none, none, none, none, none, none, none, none, none, none, none, none, none, none, none, none, none, none, some (.aload_n 1, 0, 0, 0, 0, 0), some (.aload_n 0, 0, 0, 0, 0, 0), some (.iload 4, 0, 0, 0, 0, 0), none, some (.iconst 1, 0, 0, 0, 1, 0), some (.iadd, 0, 0, 0, 0, 0), some (.iaload, 0, 0, 0, 0, 0), some (.aload_n 3, 0, 0, 0, 0, 0), some (.invokestatic 104, 199, 3, 0, 0, 0), none, none, some (.istore 5, 0, 0, 0, 0, 0), none, some (.aload_n 2, 0, 0, 0, 0, 0), some (.aload_n 0, 0, 0, 0, 0, 0), some (.iload 4, 0, 0, 0, 0, 0), none, some (.iconst 1, 0, 0, 0, 1, 0), some (.iadd, 0, 0, 0, 0, 0), some (.iaload, 0, 0, 0, 0, 0), some (.invokevirtual 109, 147, 2, 6, 0, 0), none, none, some (.istore 6, 0, 0, 0, 0, 0), none, some (.aload_n 2, 0, 0, 0, 0, 0), some (.invokevirtual 110, 113, 1, 6, 0, 0), none, none, some (.iload 5, 0, 0, 0, 0, 0), none, some (.if_icmp .eq 5, 192, 0, 0, 0, 0), none, none, some (.iconst 0, 0, 0, 0, 0, 0), some (.ireturn, 2, 0, 0, 0, 0), some (.iload 5, 0, 0, 0, 0, 0), none, some (.ifCond .ne 15, 209, 0, 0, 0, 0), none, none, some (.aload_n 3, 0, 0, 0, 0, 0), some (.iconst 0, 0, 0, 0, 0, 0), some (.laload, 0, 0, 0, 0, 0), some (.iload 6, 0, 0, 0, 0, 0), none, some (.i2l, 0, 0, 0, 0, 0), some (.lcmp, 0, 0, 0, 0, 0), some (.ifCond .eq 5, 209, 0, 0, 0, 0), none, none, some (.iconst 0, 0, 0, 0, 0, 0), some (.ireturn, 2, 0, 0, 0, 0), some (.goto 1590, 1799, 0, 0, 0, 0), none, none, some (.aload_n 1, 0, 0, 0, 0, 0), some (.aload_n 0, 0, 0, 0, 0, 0), some (.iload 4, 0, 0, 0, 0, 0), none, some (.iconst 1, 0, 0, 0, 1, 0), some (.iadd, 0, 0, 0, 0, 0), some (.iaload, 0, 0, 0, 0, 0), some (.aload_n 3, 0, 0, 0, 0, 0), some (.invokestatic 114, 200, 3, 0, 0, 0), none, none, some (.istore 5, 0, 0, 0, 0, 0), none, some (.aload_n 2, 0, 0, 0, 0, 0), some (.aload_n 0, 0, 0, 0, 0, 0), some (.iload 4, 0, 0, 0, 0, 0), none, some (.iconst 1, 0, 0, 0, 1, 0), some (.iadd, 0, 0, 0, 0, 0), some (.iaload, 0, 0, 0, 0, 0), some (.invokevirtual 116, 148, 2, 6, 0, 0), none, none, some (.istore 6, 0, 0, 0, 0, 0), none, some (.aload_n 2, 0, 0, 0, 0, 0), some (.invokevirtual 110, 113, 1, 6, 0, 0), none, none, some (.iload 5, 0, 0, 0, 0, 0), none, some (.if_icmp .eq 5, 248, 0, 0, 0, 0), none, none, some (.iconst 0, 0, 0, 0, 0, 0), some (.ireturn, 2, 0, 0, 0, 0), some (.iload 5, 0, 0, 0, 0, 0), none, some (.ifCond .ne 15, 265, 0, 0, 0, 0), none, none, some (.aload_n 3, 0, 0, 0, 0, 0), some (.iconst 0, 0, 0, 0, 0, 0), some (.laload, 0, 0, 0, 0, 0), some (.iload 6, 0, 0, 0, 0, 0), none, some (.i2l, 0, 0, 0, 0, 0), some (.lcmp, 0, 0, 0, 0, 0), some (.ifCond .eq 5, 265, 0, 0, 0, 0), none, none, some (.iconst 0, 0, 0, 0, 0, 0), some (.ireturn, 2, 0, 0, 0, 0), some (.goto 1534, 1799, 0, 0, 0, 0), none, none, some (.aload_n 1, 0, 0, 0, 0, 0), some (.aload_n 0, 0, 0, 0, 0, 0), some (.iload 4, 0, 0, 0, 0, 0), none, some (.iconst 1, 0, 0, 0, 1, 0), some (.iadd, 0, 0, 0, 0, 0), some (.iaload, 0, 0, 0, 0, 0), some (.aload_n 0, 0, 0, 0, 0, 0), some (.iload 4, 0, 0, 0, 0, 0), none, some (.iconst 2, 0, 0, 0, 2, 0), some (.iadd, 0, 0, 0, 0, 0), some (.iaload, 0, 0, 0, 0, 0), some (.invokestatic 117, 201, 3, 0, 0, 0), none, none, some (.istore 5, 0, 0, 0, 0, 0), none, some (.aload_n 2, 0, 0, 0, 0, 0), some (.aload_n 0, 0, 0, 0, 0, 0), some (.iload 4, 0, 0, 0, 0, 0), none, some (.iconst 1, 0, 0, 0, 1, 0), some (.iadd, 0, 0, 0, 0, 0), some (.iaload, 0, 0, 0, 0, 0), some (.aload_n 0, 0, 0, 0, 0, 0), some (.iload 4, 0, 0, 0, 0, 0), none, some (.iconst 2, 0, 0, 0, 2, 0), some (.iadd, 0, 0, 0, 0, 0), some (.iaload, 0, 0, 0, 0, 0), some (.invokevirtual 120, 151, 3, 6, 0, 0), none, none, some (.aload_n 2, 0, 0, 0, 0, 0), some (.invokevirtual 110, 113, 1, 6, 0, 0), none, none, some (.iload 5, 0, 0, 0, 0, 0), none, some (.if_icmp .eq 5, 313, 0, 0, 0, 0), none, none, some (.iconst 0, 0, 0, 0, 0, 0), some (.ireturn, 2, 0, 0, 0, 0), some (.goto 1486, 1799, 0, 0, 0, 0), none, none, some (.aload_n 1, 0, 0, 0, 0, 0), some (.aload_n 0, 0, 0, 0, 0, 0), some (.iload 4, 0, 0, 0, 0, 0), none, some (.iconst 1, 0, 0, 0, 1, 0), some (.iadd, 0, 0, 0, 0, 0), some (.iaload, 0, 0, 0, 0, 0), some (.aload_n 0, 0, 0, 0, 0, 0), some (.iload 4, 0, 0, 0, 0, 0), none, some (.iconst 2, 0, 0, 0, 2, 0), some (.iadd, 0, 0, 0, 0, 0), some (.iaload, 0, 0, 0, 0, 0), some (.invokestatic 121, 202, 3, 0, 0, 0), none, none, some (.istore 5, 0, 0, 0, 0, 0), none, some (.aload_n 2, 0, 0, 0, 0, 0), some (.aload_n 0, 0, 0, 0, 0, 0), some (.iload 4, 0, 0, 0, 0, 0), none, some (.iconst 1, 0, 0, 0, 1, 0), some (.iadd, 0, 0, 0, 0, 0), some (.iaload, 0, 0, 0, 0, 0), some (.aload_n 0, 0, 0, 0, 0, 0), some (.iload 4, 0, 0, 0, 0, 0), none, some (.iconst 2, 0, 0, 0, 2, 0), some (.iadd, 0, 0, 0, 0, 0), some (.iaload, 0, 0, 0, 0, 0), some (.invokevirtual 123, 154, 3, 6, 0, 0), none, none, some (.aload_n 2, 0, 0, 0, 0, 0), some (.invokevirtual 110, 113, 1, 6, 0, 0), none, none, some (.iload 5, 0, 0, 0, 0, 0), none, some (.if_icmp .eq 5, 361, 0, 0, 0, 0), none, none, some (.iconst 0, 0, 0, 0, 0, 0), some (.ireturn, 2, 0, 0, 0, 0), some (.goto 1438, 1799, 0, 0, 0, 0), none, none, some (.aload_n 1, 0, 0, 0, 0, 0), some (.aload_n 0, 0, 0, 0, 0, 0), some (.iload 4, 0, 0, 0, 0, 0), none, some (.iconst 1, 0, 0, 0, 1, 0), some (.iadd, 0, 0, 0, 0, 0), some (.iaload, 0, 0, 0, 0, 0), some (.aload_n 0, 0, 0, 0, 0, 0), some (.iload 4, 0, 0, 0, 0, 0), none, some (.iconst 2, 0, 0, 0, 2, 0), some (.iadd, 0, 0, 0, 0, 0), some (.iaload, 0, 0, 0, 0, 0), some (.aload_n 0, 0, 0, 0, 0, 0), some (.iload 4, 0, 0, 0, 0, 0), none, some (.iconst 3, 0, 0, 0, 3, 0), some (.iadd, 0, 0, 0, 0, 0), some (.iaload, 0, 0, 0, 0, 0), some (.invokestatic 124, 203, 4, 0, 0, 0), none, none, some (.istore 5, 0, 0, 0, 0, 0), none, some (.aload_n 2, 0, 0, 0, 0, 0), some (.aload_n 0, 0, 0, 0, 0, 0), some (.iload 4, 0, 0, 0, 0, 0), none, some (.iconst 1, 0, 0, 0, 1, 0), some (.iadd, 0, 0, 0, 0, 0), some (.iaload, 0, 0, 0, 0, 0), some (.aload_n 0, 0, 0, 0, 0, 0), some (.iload 4, 0, 0, 0, 0, 0), none, some (.iconst 2, 0, 0, 0, 2, 0), some (.iadd, 0, 0, 0, 0, 0), some (.iaload, 0, 0, 0, 0, 0), some (.aload_n 0, 0, 0, 0, 0, 0), some (.iload 4, 0, 0, 0, 0, 0), none, some (.iconst 3, 0, 0, 0, 3, 0), some (.iadd, 0, 0, 0, 0, 0), some (.iaload, 0, 0, 0, 0, 0), some (.invokevirtual 127, 155, 4, 6, 0, 0), none, none, some (.aload_n 2, 0, 0, 0, 0, 0), some (.invokevirtual 110, 113, 1, 6, 0, 0), none, none, some (.iload 5, 0, 0, 0, 0, 0), none, some (.if_icmp .eq 5, 421, 0, 0, 0, 0), none, none, some (.iconst 0, 0, 0, 0, 0, 0), some (.ireturn, 2, 0, 0, 0, 0), some (.goto 1378, 1799, 0, 0, 0, 0), none, none, some (.aload_n 1, 0, 0, 0, 0, 0), some (.aload_n 0, 0, 0, 0, 0, 0), some (.iload 4, 0, 0, 0, 0, 0), none, some (.iconst 1, 0, 0, 0, 1, 0), some (.iadd, 0, 0, 0, 0, 0), some (.iaload, 0, 0, 0, 0, 0), some (.aload_n 0, 0, 0, 0, 0, 0), some (.iload 4, 0, 0, 0, 0, 0), none, some (.iconst 2, 0, 0, 0, 2, 0), some (.iadd, 0, 0, 0, 0, 0), some (.iaload, 0, 0, 0, 0, 0), some (.aload_n 0, 0, 0, 0, 0, 0), some (.iload 4, 0, 0, 0, 0, 0), none, some (.iconst 3, 0, 0, 0, 3, 0), some (.iadd, 0, 0, 0, 0, 0), some (.iaload, 0, 0, 0, 0, 0), some (.invokestatic 128, 204, 4, 0, 0, 0), none, none, some (.istore 5, 0, 0, 0, 0, 0), none, some (.aload_n 2, 0, 0, 0, 0, 0), some (.aload_n 0, 0, 0, 0, 0, 0), some (.iload 4, 0, 0, 0, 0, 0), none, some (.iconst 1, 0, 0, 0, 1, 0), some (.iadd, 0, 0, 0, 0, 0), some (.iaload, 0, 0, 0, 0, 0), some (.aload_n 0, 0, 0, 0, 0, 0), some (.iload 4, 0, 0, 0, 0, 0), none, some (.iconst 2, 0, 0, 0, 2, 0), some (.iadd, 0, 0, 0, 0, 0), some (.iaload, 0, 0, 0, 0, 0), some (.aload_n 0, 0, 0, 0, 0, 0), some (.iload 4, 0, 0, 0, 0, 0), none, some (.iconst 3, 0, 0, 0, 3, 0), some (.iadd, 0, 0, 0, 0, 0), some (.iaload, 0, 0, 0, 0, 0), some (.invokevirtual 130, 156, 4, 6, 0, 0), none, none, some (.aload_n 2, 0, 0, 0, 0, 0), some (.invokevirtual 110, 113, 1, 6, 0, 0), none, none, some (.iload 5, 0, 0, 0, 0, 0), none, some (.if_icmp .eq 5, 481, 0, 0, 0, 0), none, none, some (.iconst 0, 0, 0, 0, 0, 0), some (.ireturn, 2, 0, 0, 0, 0), some (.goto 1318, 1799, 0, 0, 0, 0), none, none, some (.aload_n 1, 0, 0, 0, 0, 0), some (.aload_n 0, 0, 0, 0, 0, 0), some (.iload 4, 0, 0, 0, 0, 0), none, some (.iconst 1, 0, 0, 0, 1, 0), some (.iadd, 0, 0, 0, 0, 0), some (.iaload, 0, 0, 0, 0, 0), some (.aload_n 0, 0, 0, 0, 0, 0), some (.iload 4, 0, 0, 0, 0, 0), none, some (.iconst 2, 0, 0, 0, 2, 0), some (.iadd, 0, 0, 0, 0, 0), some (.iaload, 0, 0, 0, 0, 0), some (.aload_n 0, 0, 0, 0, 0, 0), some (.iload 4, 0, 0, 0, 0, 0), none, some (.iconst 3, 0, 0, 0, 3, 0), some (.iadd, 0, 0, 0, 0, 0), some (.iaload, 0, 0, 0, 0, 0), some (.aload_n 0, 0, 0, 0, 0, 0), some (.iload 4, 0, 0, 0, 0, 0), none, some (.iconst 4, 0, 0, 0, 4, 0), some (.iadd, 0, 0, 0, 0, 0), some (.iaload, 0, 0, 0, 0, 0), some (.aload_n 0, 0, 0, 0, 0, 0), some (.iload 4, 0, 0, 0, 0, 0), none, some (.iconst 5, 0, 0, 0, 5, 0), some (.iadd, 0, 0, 0, 0, 0), some (.iaload, 0, 0, 0, 0, 0), some (.aload_n 0, 0, 0, 0, 0, 0), some (.iload 4, 0, 0, 0, 0, 0), none, some (.bipush 6, 0, 0, 0, 6, 0), none, some (.iadd, 0, 0, 0, 0, 0), some (.iaload, 0, 0, 0, 0, 0), some (.invokestatic 131, 205, 7, 0, 0, 0), none, none, some (.istore 5, 0, 0, 0, 0, 0), none, some (.aload_n 2, 0, 0, 0, 0, 0), some (.aload_n 0, 0, 0, 0, 0, 0), some (.iload 4, 0, 0, 0, 0, 0), none, some (.iconst 1, 0, 0, 0, 1, 0), some (.iadd, 0, 0, 0, 0, 0), some (.iaload, 0, 0, 0, 0, 0), some (.aload_n 0, 0, 0, 0, 0, 0), some (.iload 4, 0, 0, 0, 0, 0), none, some (.iconst 2, 0, 0, 0, 2, 0), some (.iadd, 0, 0, 0, 0, 0), some (.iaload, 0, 0, 0, 0, 0), some (.aload_n 0, 0, 0, 0, 0, 0), some (.iload 4, 0, 0, 0, 0, 0), none, some (.iconst 3, 0, 0, 0, 3, 0), some (.iadd, 0, 0, 0, 0, 0), some (.iaload, 0, 0, 0, 0, 0), some (.aload_n 0, 0, 0, 0, 0, 0), some (.iload 4, 0, 0, 0, 0, 0), none, some (.iconst 4, 0, 0, 0, 4, 0), some (.iadd, 0, 0, 0, 0, 0), some (.iaload, 0, 0, 0, 0, 0), some (.aload_n 0, 0, 0, 0, 0, 0), some (.iload 4, 0, 0, 0, 0, 0), none, some (.iconst 5, 0, 0, 0, 5, 0), some (.iadd, 0, 0, 0, 0, 0), some (.iaload, 0, 0, 0, 0, 0), some (.aload_n 0, 0, 0, 0, 0, 0), some (.iload 4, 0, 0, 0, 0, 0), none, some (.bipush 6, 0, 0, 0, 6, 0), none, some (.iadd, 0, 0, 0, 0, 0), some (.iaload, 0, 0, 0, 0, 0), some (.invokevirtual 134, 157, 7, 6, 0, 0), none, none, some (.aload_n 2, 0, 0, 0, 0, 0), some (.invokevirtual 110, 113, 1, 6, 0, 0), none, none, some (.iload 5, 0, 0, 0, 0, 0), none, some (.if_icmp .eq 5, 579, 0, 0, 0, 0), none, none, some (.iconst 0, 0, 0, 0, 0, 0), some (.ireturn, 2, 0, 0, 0, 0), some (.goto 1220, 1799, 0, 0, 0, 0), none, none, some (.aload_n 1, 0, 0, 0, 0, 0), some (.aload_n 0, 0, 0, 0, 0, 0), some (.iload 4, 0, 0, 0, 0, 0), none, some (.iconst 1, 0, 0, 0, 1, 0), some (.iadd, 0, 0, 0, 0, 0), some (.iaload, 0, 0, 0, 0, 0), some (.aload_n 0, 0, 0, 0, 0, 0), some (.iload 4, 0, 0, 0, 0, 0), none, some (.iconst 2, 0, 0, 0, 2, 0), some (.iadd, 0, 0, 0, 0, 0), some (.iaload, 0, 0, 0, 0, 0), some (.aload_n 0, 0, 0, 0, 0, 0), some (.iload 4, 0, 0, 0, 0, 0), none, some (.iconst 3, 0, 0, 0, 3, 0), some (.iadd, 0, 0, 0, 0, 0), some (.iaload, 0, 0, 0, 0, 0), some (.aload_n 3, 0, 0, 0, 0, 0), some (.invokestatic 135, 206, 5, 0, 0, 0), none, none, some (.istore 5, 0, 0, 0, 0, 0), none, some (.aload_n 2, 0, 0, 0, 0, 0), some (.aload_n 0, 0, 0, 0, 0, 0), some (.iload 4, 0, 0, 0, 0, 0), none, some (.iconst 1, 0, 0, 0, 1, 0), some (.iadd, 0, 0, 0, 0, 0), some (.iaload, 0, 0, 0, 0, 0), some (.aload_n 0, 0, 0, 0, 0, 0), some (.iload 4, 0, 0, 0, 0, 0), none, some (.iconst 2, 0, 0, 0, 2, 0), some (.iadd, 0, 0, 0, 0, 0), some (.iaload, 0, 0, 0, 0, 0), some (.aload_n 0, 0, 0, 0, 0, 0), some (.iload 4, 0, 0, 0, 0, 0), none, some (.iconst 3, 0, 0, 0, 3, 0), some (.iadd, 0, 0, 0, 0, 0), some (.iaload, 0, 0, 0, 0, 0), some (.invokevirtual 138, 164, 4, 6, 0, 0), none, none, some (.istore 6, 0, 0, 0, 0, 0), none, some (.aload_n 2, 0, 0, 0, 0, 0), some (.invokevirtual 110, 113, 1, 6, 0, 0), none, none, some (.iload 5, 0, 0, 0, 0, 0), none, some (.if_icmp .eq 5, 642, 0, 0, 0, 0), none, none, some (.iconst 0, 0, 0, 0, 0, 0), some (.ireturn, 2, 0, 0, 0, 0), some (.iload 5, 0, 0, 0, 0, 0), none, some (.ifCond .ne 15, 659, 0, 0, 0, 0), none, none, some (.aload_n 3, 0, 0, 0, 0, 0), some (.iconst 0, 0, 0, 0, 0, 0), some (.laload, 0, 0, 0, 0, 0), some (.iload 6, 0, 0, 0, 0, 0), none, some (.i2l, 0, 0, 0, 0, 0), some (.lcmp, 0, 0, 0, 0, 0), some (.ifCond .eq 5, 659, 0, 0, 0, 0), none, none, some (.iconst 0, 0, 0, 0, 0, 0), some (.ireturn, 2, 0, 0, 0, 0), some (.goto 1140, 1799, 0, 0, 0, 0), none, none, some (.aload_n 1, 0, 0, 0, 0, 0), some (.aload_n 0, 0, 0, 0, 0, 0), some (.iload 4, 0, 0, 0, 0, 0), none, some (.iconst 1, 0, 0, 0, 1, 0), some (.iadd, 0, 0, 0, 0, 0), some (.iaload, 0, 0, 0, 0, 0), some (.aload_n 0, 0, 0, 0, 0, 0), some (.iload 4, 0, 0, 0, 0, 0), none, some (.iconst 2, 0, 0, 0, 2, 0), some (.iadd, 0, 0, 0, 0, 0), some (.iaload, 0, 0, 0, 0, 0), some (.aload_n 0, 0, 0, 0, 0, 0), some (.iload 4, 0, 0, 0, 0, 0), none, some (.iconst 3, 0, 0, 0, 3, 0), some (.iadd, 0, 0, 0, 0, 0), some (.iaload, 0, 0, 0, 0, 0), some (.aload_n 3, 0, 0, 0, 0, 0), some (.invokestatic 139, 207, 5, 0, 0, 0), none, none, some (.istore 5, 0, 0, 0, 0, 0), none, some (.aload_n 2, 0, 0, 0, 0, 0), some (.aload_n 0, 0, 0, 0, 0, 0), some (.iload 4, 0, 0, 0, 0, 0), none, some (.iconst 1, 0, 0, 0, 1, 0), some (.iadd, 0, 0, 0, 0, 0), some (.iaload, 0, 0, 0, 0, 0), some (.aload_n 0, 0, 0, 0, 0, 0), some (.iload 4, 0, 0, 0, 0, 0), none, some (.iconst 2, 0, 0, 0, 2, 0), some (.iadd, 0, 0, 0, 0, 0), some (.iaload, 0, 0, 0, 0, 0), some (.aload_n 0, 0, 0, 0, 0, 0), some (.iload 4, 0, 0, 0, 0, 0), none, some (.iconst 3, 0, 0, 0, 3, 0), some (.iadd, 0, 0, 0, 0, 0), some (.iaload, 0, 0, 0, 0, 0), some (.invokevirtual 141, 166, 4, 6, 0, 0), none, none, some (.istore 6, 0, 0, 0, 0, 0), none, some (.aload_n 2, 0, 0, 0, 0, 0), some (.invokevirtual 110, 113, 1, 6, 0, 0), none, none, some (.iload 5, 0, 0, 0, 0, 0), none, some (.if_icmp .eq 5, 722, 0, 0, 0, 0), none, none, some (.iconst 0, 0, 0, 0, 0, 0), some (.ireturn, 2, 0, 0, 0, 0), some (.iload 5, 0, 0, 0, 0, 0), none, some (.ifCond .ne 15, 739, 0, 0, 0, 0), none, none, some (.aload_n 3, 0, 0, 0, 0, 0), some (.iconst 0, 0, 0, 0, 0, 0), some (.laload, 0, 0, 0, 0, 0), some (.iload 6, 0, 0, 0, 0, 0), none, some (.i2l, 0, 0, 0, 0, 0), some (.lcmp, 0, 0, 0, 0, 0), some (.ifCond .eq 5, 739, 0, 0, 0, 0), none, none, some (.iconst 0, 0, 0, 0, 0, 0), some (.ireturn, 2, 0, 0, 0, 0), some (.goto 1060, 1799, 0, 0, 0, 0), none, none, some (.aload_n 1, 0, 0, 0, 0, 0), some (.aload_n 0, 0, 0, 0, 0, 0), some (.iload 4, 0, 0, 0, 0, 0), none, some (.iconst 1, 0, 0, 0, 1, 0), some (.iadd, 0, 0, 0, 0, 0), some (.iaload, 0, 0, 0, 0, 0), some (.aload_n 0, 0, 0, 0, 0, 0), some (.iload 4, 0, 0, 0, 0, 0), none, some (.iconst 2, 0, 0, 0, 2, 0), some (.iadd, 0, 0, 0, 0, 0), some (.iaload, 0, 0, 0, 0, 0), some (.aload_n 0, 0, 0, 0, 0, 0), some (.iload 4, 0, 0, 0, 0, 0), none, some (.iconst 3, 0, 0, 0, 3, 0), some (.iadd, 0, 0, 0, 0, 0), some (.iaload, 0, 0, 0, 0, 0), some (.aload_n 3, 0, 0, 0, 0, 0), some (.invokestatic 142, 208, 5, 0, 0, 0), none, none, some (.istore 5, 0, 0, 0, 0, 0), none, some (.aload_n 2, 0, 0, 0, 0, 0), some (.aload_n 0, 0, 0, 0, 0, 0), some (.iload 4, 0, 0, 0, 0, 0), none, some (.iconst 1, 0, 0, 0, 1, 0), some (.iadd, 0, 0, 0, 0, 0), some (.iaload, 0, 0, 0, 0, 0), some (.aload_n 0, 0, 0, 0, 0, 0), some (.iload 4, 0, 0, 0, 0, 0), none, some (.iconst 2, 0, 0, 0, 2, 0), some (.iadd, 0, 0, 0, 0, 0), some (.iaload, 0, 0, 0, 0, 0), some (.aload_n 0, 0, 0, 0, 0, 0), some (.iload 4, 0, 0, 0, 0, 0), none, some (.iconst 3, 0, 0, 0, 3, 0), some (.iadd, 0, 0, 0, 0, 0), some (.iaload, 0, 0, 0, 0, 0), some (.invokevirtual 144, 168, 4, 6, 0, 0), none, none, some (.istore 6, 0, 0, 0, 0, 0), none, some (.aload_n 2, 0, 0, 0, 0, 0), some (.invokevirtual 110, 113, 1, 6, 0, 0), none, none, some (.iload 5, 0, 0, 0, 0, 0), none, some (.if_icmp .eq 5, 802, 0, 0, 0, 0), none, none, some (.iconst 0, 0, 0, 0, 0, 0), some (.ireturn, 2, 0, 0, 0, 0), some (.iload 5, 0, 0, 0, 0, 0), none, some (.ifCond .ne 15, 819, 0, 0, 0, 0), none, none, some (.aload_n 3, 0, 0, 0, 0, 0), some (.iconst 0, 0, 0, 0, 0, 0), some (.laload, 0, 0, 0, 0, 0), some (.iload 6, 0, 0, 0, 0, 0), none, some (.i2l, 0, 0, 0, 0, 0), some (.lcmp, 0, 0, 0, 0, 0), some (.ifCond .eq 5, 819, 0, 0, 0, 0), none, none, some (.iconst 0, 0, 0, 0, 0, 0), some (.ireturn, 2, 0, 0, 0, 0), some (.goto 980, 1799, 0, 0, 0, 0), none, none, some (.aload_n 1, 0, 0, 0, 0, 0), some (.aload_n 0, 0, 0, 0, 0, 0), some (.iload 4, 0, 0, 0, 0, 0), none, some (.iconst 1, 0, 0, 0, 1, 0), some (.iadd, 0, 0, 0, 0, 0), some (.iaload, 0, 0, 0, 0, 0), some (.aload_n 0, 0, 0, 0, 0, 0), some (.iload 4, 0, 0, 0, 0, 0), none, some (.iconst 2, 0, 0, 0, 2, 0), some (.iadd, 0, 0, 0, 0, 0), some (.iaload, 0, 0, 0, 0, 0), some (.aload_n 0, 0, 0, 0, 0, 0), some (.iload 4, 0, 0, 0, 0, 0), none, some (.iconst 3, 0, 0, 0, 3, 0), some (.iadd, 0, 0, 0, 0, 0), some (.iaload, 0, 0, 0, 0, 0), some (.aload_n 0, 0, 0, 0, 0, 0), some (.iload 4, 0, 0, 0, 0, 0), none, some (.iconst 4, 0, 0, 0, 4, 0), some (.iadd, 0, 0, 0, 0, 0), some (.iaload, 0, 0, 0, 0, 0), some (.ifCond .eq 7, 854, 0, 0, 0, 0), none, none, some (.iconst 1, 0, 0, 0, 1, 0), some (.goto 4, 855, 0, 0, 0, 0), none, none, some (.iconst 0, 0, 0, 0, 0, 0), some (.invokestatic 145, 209, 5, 0, 0, 0), none, none, some (.istore 5, 0, 0, 0, 0, 0), none, some (.aload_n 2, 0, 0, 0, 0, 0), some (.aload_n 0, 0, 0, 0, 0, 0), some (.iload 4, 0, 0, 0, 0, 0), none, some (.iconst 1, 0, 0, 0, 1, 0), some (.iadd, 0, 0, 0, 0, 0), some (.iaload, 0, 0, 0, 0, 0), some (.aload_n 0, 0, 0, 0, 0, 0), some (.iload 4, 0, 0, 0, 0, 0), none, some (.iconst 2, 0, 0, 0, 2, 0), some (.iadd, 0, 0, 0, 0, 0), some (.iaload, 0, 0, 0, 0, 0), some (.aload_n 0, 0, 0, 0, 0, 0), some (.iload 4, 0, 0, 0, 0, 0), none, some (.iconst 3, 0, 0, 0, 3, 0), some (.iadd, 0, 0, 0, 0, 0), some (.iaload, 0, 0, 0, 0, 0), some (.aload_n 0, 0, 0, 0, 0, 0), some (.iload 4, 0, 0, 0, 0, 0), none, some (.iconst 4, 0, 0, 0, 4, 0), some (.iadd, 0, 0, 0, 0, 0), some (.iaload, 0, 0, 0, 0, 0), some (.ifCond .eq 7, 892, 0, 0, 0, 0), none, none, some (.iconst 1, 0, 0, 0, 1, 0), some (.goto 4, 893, 0, 0, 0, 0), none, none, some (.iconst 0, 0, 0, 0, 0, 0), some (.invokevirtual 148, 170, 5, 6, 0, 0), none, none, some (.aload_n 2, 0, 0, 0, 0, 0), some (.invokevirtual 110, 113, 1, 6, 0, 0), none, none, some (.iload 5, 0, 0, 0, 0, 0), none, some (.if_icmp .eq 5, 907, 0, 0, 0, 0), none, none, some (.iconst 0, 0, 0, 0, 0, 0), some (.ireturn, 2, 0, 0, 0, 0), some (.goto 892, 1799, 0, 0, 0, 0), none, none, some (.aload_n 1, 0, 0, 0, 0, 0), some (.aload_n 0, 0, 0, 0, 0, 0), some (.iload 4, 0, 0, 0, 0, 0), none, some (.iconst 1, 0, 0, 0, 1, 0), some (.iadd, 0, 0, 0, 0, 0), some (.iaload, 0, 0, 0, 0, 0), some (.aload_n 0, 0, 0, 0, 0, 0), some (.iload 4, 0, 0, 0, 0, 0), none, some (.iconst 2, 0, 0, 0, 2, 0), some (.iadd, 0, 0, 0, 0, 0), some (.iaload, 0, 0, 0, 0, 0), some (.invokestatic 149, 210, 3, 0, 0, 0), none, none, some (.istore 5, 0, 0, 0, 0, 0), none, some (.aload_n 2, 0, 0, 0, 0, 0), some (.aload_n 0, 0, 0, 0, 0, 0), some (.iload 4, 0, 0, 0, 0, 0), none, some (.iconst 1, 0, 0, 0, 1, 0), some (.iadd, 0, 0, 0, 0, 0), some (.iaload, 0, 0, 0, 0, 0), some (.aload_n 0, 0, 0, 0, 0, 0), some (.iload 4, 0, 0, 0, 0, 0), none, some (.iconst 2, 0, 0, 0, 2, 0), some (.iadd, 0, 0, 0, 0, 0), some (.iaload, 0, 0, 0, 0, 0), some (.invokevirtual 151, 171, 3, 6, 0, 0), none, none, some (.aload_n 2, 0, 0, 0, 0, 0), some (.invokevirtual 110, 113, 1, 6, 0, 0), none, none, some (.iload 5, 0, 0, 0, 0, 0), none, some (.if_icmp .eq 5, 955, 0, 0, 0, 0), none, none, some (.iconst 0, 0, 0, 0, 0, 0), some (.ireturn, 2, 0, 0, 0, 0), some (.goto 844, 1799, 0, 0, 0, 0), none, none, some (.aload_n 1, 0, 0, 0, 0, 0), some (.aload_n 0, 0, 0, 0, 0, 0), some (.iload 4, 0, 0, 0, 0, 0), none, some (.iconst 1, 0, 0, 0, 1, 0), some (.iadd, 0, 0, 0, 0, 0), some (.iaload, 0, 0, 0, 0, 0), some (.aload_n 0, 0, 0, 0, 0, 0), some (.iload 4, 0, 0, 0, 0, 0), none, some (.iconst 2, 0, 0, 0, 2, 0), some (.iadd, 0, 0, 0, 0, 0), some (.iaload, 0, 0, 0, 0, 0), some (.aload_n 3, 0, 0, 0, 0, 0), some (.invokestatic 152, 211, 4, 0, 0, 0), none, none, some (.istore 5, 0, 0, 0, 0, 0), none, some (.aload_n 2, 0, 0, 0, 0, 0), some (.aload_n 0, 0, 0, 0, 0, 0), some (.iload 4, 0, 0, 0, 0, 0), none, some (.iconst 1, 0, 0, 0, 1, 0), some (.iadd, 0, 0, 0, 0, 0), some (.iaload, 0, 0, 0, 0, 0), some (.aload_n 0, 0, 0, 0, 0, 0), some (.iload 4, 0, 0, 0, 0, 0), none, some (.iconst 2, 0, 0, 0, 2, 0), some (.iadd, 0, 0, 0, 0, 0), some (.iaload, 0, 0, 0, 0, 0), some (.invokevirtual 155, 174, 3, 6, 0, 0), none, none, some (.istore 6, 0, 0, 0, 0, 0), none, some (.aload_n 2, 0, 0, 0, 0, 0), some (.invokevirtual 110, 113, 1, 6, 0, 0), none, none, some (.iload 5, 0, 0, 0, 0, 0), none, some (.if_icmp .eq 5, 1006, 0, 0, 0, 0), none, none, some (.iconst 0, 0, 0, 0, 0, 0), some (.ireturn, 2, 0, 0, 0, 0), some (.iload 5, 0, 0, 0, 0, 0), none, some (.ifCond .ne 15, 1023, 0, 0, 0, 0), none, none, some (.aload_n 3, 0, 0, 0, 0, 0), some (.iconst 0, 0, 0, 0, 0, 0), some (.laload, 0, 0, 0, 0, 0), some (.iload 6, 0, 0, 0, 0, 0), none, some (.i2l, 0, 0, 0, 0, 0), some (.lcmp, 0, 0, 0, 0, 0), some (.ifCond .eq 5, 1023, 0, 0, 0, 0), none, none, some (.iconst 0, 0, 0, 0, 0, 0), some (.ireturn, 2, 0, 0, 0, 0), some (.goto 776, 1799, 0, 0, 0, 0), none, none, some (.aload_n 1, 0, 0, 0, 0, 0), some (.aload_n 0, 0, 0, 0, 0, 0), some (.iload 4, 0, 0, 0, 0, 0), none, some (.iconst 1, 0, 0, 0, 1, 0), some (.iadd, 0, 0, 0, 0, 0), some (.iaload, 0, 0, 0, 0, 0), some (.aload_n 0, 0, 0, 0, 0, 0), some (.iload 4, 0, 0, 0, 0, 0), none, some (.iconst 2, 0, 0, 0, 2, 0), some (.iadd, 0, 0, 0, 0, 0), some (.iaload, 0, 0, 0, 0, 0), some (.aload_n 0, 0, 0, 0, 0, 0), some (.iload 4, 0, 0, 0, 0, 0), none, some (.iconst 3, 0, 0, 0, 3, 0), some (.iadd, 0, 0, 0, 0, 0), some (.iaload, 0, 0, 0, 0, 0), some (.invokestatic 156, 212, 4, 0, 0, 0), none, none, some (.istore 5, 0, 0, 0, 0, 0), none, some (.aload_n 2, 0, 0, 0, 0, 0), some (.aload_n 0, 0, 0, 0, 0, 0), some (.iload 4, 0, 0, 0, 0, 0), none, some (.iconst 1, 0, 0, 0, 1, 0), some (.iadd, 0, 0, 0, 0, 0), some (.iaload, 0, 0, 0, 0, 0), some (.aload_n 0, 0, 0, 0, 0, 0), some (.iload 4, 0, 0, 0, 0, 0), none, some (.iconst 2, 0, 0, 0, 2, 0), some (.iadd, 0, 0, 0, 0, 0), some (.iaload, 0, 0, 0, 0, 0), some (.aload_n 0, 0, 0, 0, 0, 0), some (.iload 4, 0, 0, 0, 0, 0), none, some (.iconst 3, 0, 0, 0, 3, 0), some (.iadd, 0, 0, 0, 0, 0), some (.iaload, 0, 0, 0, 0, 0), some (.invokevirtual 158, 176, 4, 6, 0, 0), none, none, some (.aload_n 2, 0, 0, 0, 0, 0), some (.invokevirtual 110, 113, 1, 6, 0, 0), none, none, some (.iload 5, 0, 0, 0, 0, 0), none, some (.if_icmp .eq 5, 1083, 0, 0, 0, 0), none, none, some (.iconst 0, 0, 0, 0, 0, 0), some (.ireturn, 2, 0, 0, 0, 0), some (.goto 716, 1799, 0, 0, 0, 0), none, none, some (.aload_n 1, 0, 0, 0, 0, 0), some (.aload_n 0, 0, 0, 0, 0, 0), some (.iload 4, 0, 0, 0, 0, 0), none, some (.iconst 1, 0, 0, 0, 1, 0), some (.iadd, 0, 0, 0, 0, 0), some (.iaload, 0, 0, 0, 0, 0), some (.aload_n 0, 0, 0, 0, 0, 0), some (.iload 4, 0, 0, 0, 0, 0), none, some (.iconst 2, 0, 0, 0, 2, 0), some (.iadd, 0, 0, 0, 0, 0), some (.iaload, 0, 0, 0, 0, 0), some (.aload_n 0, 0, 0, 0, 0, 0), some (.iload 4, 0, 0, 0, 0, 0), none, some (.iconst 3, 0, 0, 0, 3, 0), some (.iadd, 0, 0, 0, 0, 0), some (.iaload, 0, 0, 0, 0, 0), some (.aload_n 3, 0, 0, 0, 0, 0), some (.invokestatic 159, 213, 5, 0, 0, 0), none, none, some (.istore 5, 0, 0, 0, 0, 0), none, some (.aload_n 2, 0, 0, 0, 0, 0), some (.aload_n 0, 0, 0, 0, 0, 0), some (.iload 4, 0, 0, 0, 0, 0), none, some (.iconst 1, 0, 0, 0, 1, 0), some (.iadd, 0, 0, 0, 0, 0), some (.iaload, 0, 0, 0, 0, 0), some (.aload_n 0, 0, 0, 0, 0, 0), some (.iload 4, 0, 0, 0, 0, 0), none, some (.iconst 2, 0, 0, 0, 2, 0), some (.iadd, 0, 0, 0, 0, 0), some (.iaload, 0, 0, 0, 0, 0), some (.aload_n 0, 0, 0, 0, 0, 0), some (.iload 4, 0, 0, 0, 0, 0), none, some (.iconst 3, 0, 0, 0, 3, 0), some (.iadd, 0, 0, 0, 0, 0), some (.iaload, 0, 0, 0, 0, 0), some (.invokevirtual 161, 178, 4, 6, 0, 0), none, none, some (.istore 6, 0, 0, 0, 0, 0), none, some (.aload_n 2, 0, 0, 0, 0, 0), some (.invokevirtual 110, 113, 1, 6, 0, 0), none, none, some (.iload 5, 0, 0, 0, 0, 0), none, some (.if_icmp .eq 5, 1146, 0, 0, 0, 0), none, none, some (.iconst 0, 0, 0, 0, 0, 0), some (.ireturn, 2, 0, 0, 0, 0), some (.iload 5, 0, 0, 0, 0, 0), none, some (.ifCond .ne 15, 1163, 0, 0, 0, 0), none, none, some (.aload_n 3, 0, 0, 0, 0, 0), some (.iconst 0, 0, 0, 0, 0, 0), some (.laload, 0, 0, 0, 0, 0), some (.iload 6, 0, 0, 0, 0, 0), none, some (.i2l, 0, 0, 0, 0, 0), some (.lcmp, 0, 0, 0, 0, 0), some (.ifCond .eq 5, 1163, 0, 0, 0, 0), none, none, some (.iconst 0, 0, 0, 0, 0, 0), some (.ireturn, 2, 0, 0, 0, 0), some (.goto 636, 1799, 0, 0, 0, 0), none, none, some (.aload_n 1, 0, 0, 0, 0, 0), some (.aload_n 0, 0, 0, 0, 0, 0), some (.iload 4, 0, 0, 0, 0, 0), none, some (.iconst 1, 0, 0, 0, 1, 0), some (.iadd, 0, 0, 0, 0, 0), some (.iaload, 0, 0, 0, 0, 0), some (.aload_n 3, 0, 0, 0, 0, 0), some (.invokestatic 162, 214, 3, 0, 0, 0), none, none, some (.istore 5, 0, 0, 0, 0, 0), none, some (.aload_n 2, 0, 0, 0, 0, 0), some (.aload_n 0, 0, 0, 0, 0, 0), some (.iload 4, 0, 0, 0, 0, 0), none, some (.iconst 1, 0, 0, 0, 1, 0), some (.iadd, 0, 0, 0, 0, 0), some (.iaload, 0, 0, 0, 0, 0), some (.invokevirtual 164, 179, 2, 6, 0, 0), none, none, some (.istore 6, 0, 0, 0, 0, 0), none, some (.aload_n 2, 0, 0, 0, 0, 0), some (.invokevirtual 110, 113, 1, 6, 0, 0), none, none, some (.iload 5, 0, 0, 0, 0, 0), none, some (.if_icmp .eq 5, 1202, 0, 0, 0, 0), none, none, some (.iconst 0, 0, 0, 0, 0, 0), some (.ireturn, 2, 0, 0, 0, 0), some (.iload 5, 0, 0, 0, 0, 0), none, some (.ifCond .ne 15, 1219, 0, 0, 0, 0), none, none, some (.aload_n 3, 0, 0, 0, 0, 0), some (.iconst 0, 0, 0, 0, 0, 0), some (.laload, 0, 0, 0, 0, 0), some (.iload 6, 0, 0, 0, 0, 0), none, some (.i2l, 0, 0, 0, 0, 0), some (.lcmp, 0, 0, 0, 0, 0), some (.ifCond .eq 5, 1219, 0, 0, 0, 0), none, none, some (.iconst 0, 0, 0, 0, 0, 0), some (.ireturn, 2, 0, 0, 0, 0), some (.goto 580, 1799, 0, 0, 0, 0), none, none, some (.aload_n 1, 0, 0, 0, 0, 0), some (.aload_n 0, 0, 0, 0, 0, 0), some (.iload 4, 0, 0, 0, 0, 0), none, some (.iconst 1, 0, 0, 0, 1, 0), some (.iadd, 0, 0, 0, 0, 0), some (.iaload, 0, 0, 0, 0, 0), some (.aload_n 0, 0, 0, 0, 0, 0), some (.iload 4, 0, 0, 0, 0, 0), none, some (.iconst 2, 0, 0, 0, 2, 0), some (.iadd, 0, 0, 0, 0, 0), some (.iaload, 0, 0, 0, 0, 0), some (.aload_n 3, 0, 0, 0, 0, 0), some (.invokestatic 165, 215, 4, 0, 0, 0), none, none, some (.istore 5, 0, 0, 0, 0, 0), none, some (.aload_n 2, 0, 0, 0, 0, 0), some (.aload_n 0, 0, 0, 0, 0, 0), some (.iload 4, 0, 0, 0, 0, 0), none, some (.iconst 1, 0, 0, 0, 1, 0), some (.iadd, 0, 0, 0, 0, 0), some (.iaload, 0, 0, 0, 0, 0), some (.aload_n 0, 0, 0, 0, 0, 0), some (.iload 4, 0, 0, 0, 0, 0), none, some (.iconst 2, 0, 0, 0, 2, 0), some (.iadd, 0, 0, 0, 0, 0), some (.iaload, 0, 0, 0, 0, 0), some (.invokevirtual 167, 181, 3, 6, 0, 0), none, none, some (.lstore 6, 0, 0, 0, 0, 0), none, some (.aload_n 2, 0, 0, 0, 0, 0), some (.invokevirtual 110, 113, 1, 6, 0, 0), none, none, some (.iload 5, 0, 0, 0, 0, 0), none, some (.if_icmp .eq 5, 1270, 0, 0, 0, 0), none, none, some (.iconst 0, 0, 0, 0, 0, 0), some (.ireturn, 2, 0, 0, 0, 0), some (.iload 5, 0, 0, 0, 0, 0), none, some (.ifCond .ne 14, 1286, 0, 0, 0, 0), none, none, some (.aload_n 3, 0, 0, 0, 0, 0), some (.iconst 0, 0, 0, 0, 0, 0), some (.laload, 0, 0, 0, 0, 0), some (.lload 6, 0, 0, 0, 0, 0), none, some (.lcmp, 0, 0, 0, 0, 0), some (.ifCond .eq 5, 1286, 0, 0, 0, 0), none, none, some (.iconst 0, 0, 0, 0, 0, 0), some (.ireturn, 2, 0, 0, 0, 0), some (.goto 513, 1799, 0, 0, 0, 0), none, none, some (.aload_n 1, 0, 0, 0, 0, 0), some (.aload_n 0, 0, 0, 0, 0, 0), some (.iload 4, 0, 0, 0, 0, 0), none, some (.iconst 1, 0, 0, 0, 1, 0), some (.iadd, 0, 0, 0, 0, 0), some (.iaload, 0, 0, 0, 0, 0), some (.aload_n 0, 0, 0, 0, 0, 0), some (.iload 4, 0, 0, 0, 0, 0), none, some (.iconst 2, 0, 0, 0, 2, 0), some (.iadd, 0, 0, 0, 0, 0), some (.iaload, 0, 0, 0, 0, 0), some (.aload_n 0, 0, 0, 0, 0, 0), some (.iload 4, 0, 0, 0, 0, 0), none, some (.iconst 3, 0, 0, 0, 3, 0), some (.iadd, 0, 0, 0, 0, 0), some (.iaload, 0, 0, 0, 0, 0), some (.invokestatic 168, 216, 4, 0, 0, 0), none, none, some (.istore 5, 0, 0, 0, 0, 0), none, some (.aload_n 2, 0, 0, 0, 0, 0), some (.aload_n 0, 0, 0, 0, 0, 0), some (.iload 4, 0, 0, 0, 0, 0), none, some (.iconst 1, 0, 0, 0, 1, 0), some (.iadd, 0, 0, 0, 0, 0), some (.iaload, 0, 0, 0, 0, 0), some (.aload_n 0, 0, 0, 0, 0, 0), some (.iload 4, 0, 0, 0, 0, 0), none, some (.iconst 2, 0, 0, 0, 2, 0), some (.iadd, 0, 0, 0, 0, 0), some (.iaload, 0, 0, 0, 0, 0), some (.aload_n 0, 0, 0, 0, 0, 0), some (.iload 4, 0, 0, 0, 0, 0), none, some (.iconst 3, 0, 0, 0, 3, 0), some (.iadd, 0, 0, 0, 0, 0), some (.iaload, 0, 0, 0, 0, 0), some (.invokevirtual 170, 182, 4, 6, 0, 0), none, none, some (.aload_n 2, 0, 0, 0, 0, 0), some (.invokevirtual 110, 113, 1, 6, 0, 0), none, none, some (.iload 5, 0, 0, 0, 0, 0), none, some (.if_icmp .eq 5, 1346, 0, 0, 0, 0), none, none, some (.iconst 0, 0, 0, 0, 0, 0), some (.ireturn, 2, 0, 0, 0, 0), some (.goto 453, 1799, 0, 0, 0, 0), none, none, some (.aload_n 1, 0, 0, 0, 0, 0), some (.aload_n 0, 0, 0, 0, 0, 0), some (.iload 4, 0, 0, 0, 0, 0), none, some (.iconst 1, 0, 0, 0, 1, 0), some (.iadd, 0, 0, 0, 0, 0), some (.iaload, 0, 0, 0, 0, 0), some (.aload_n 0, 0, 0, 0, 0, 0), some (.iload 4, 0, 0, 0, 0, 0), none, some (.iconst 2, 0, 0, 0, 2, 0), some (.iadd, 0, 0, 0, 0, 0), some (.iaload, 0, 0, 0, 0, 0), some (.aload_n 0, 0, 0, 0, 0, 0), some (.iload 4, 0, 0, 0, 0, 0), none, some (.iconst 3, 0, 0, 0, 3, 0), some (.iadd, 0, 0, 0, 0, 0), some (.iaload, 0, 0, 0, 0, 0), some (.aload_n 3, 0, 0, 0, 0, 0), some (.invokestatic 171, 217, 5, 0, 0, 0), none, none, some (.istore 5, 0, 0, 0, 0, 0), none, some (.aload_n 2, 0, 0, 0, 0, 0), some (.aload_n 0, 0, 0, 0, 0, 0), some (.iload 4, 0, 0, 0, 0, 0), none, some (.iconst 1, 0, 0, 0, 1, 0), some (.iadd, 0, 0, 0, 0, 0), some (.iaload, 0, 0, 0, 0, 0), some (.aload_n 0, 0, 0, 0, 0, 0), some (.iload 4, 0, 0, 0, 0, 0), none, some (.iconst 2, 0, 0, 0, 2, 0), some (.iadd, 0, 0, 0, 0, 0), some (.iaload, 0, 0, 0, 0, 0), some (.aload_n 0, 0, 0, 0, 0, 0), some (.iload 4, 0, 0, 0, 0, 0), none, some (.iconst 3, 0, 0, 0, 3, 0), some (.iadd, 0, 0, 0, 0, 0), some (.iaload, 0, 0, 0, 0, 0), some (.invokevirtual 173, 185, 4, 6, 0, 0), none, none, some (.istore 6, 0, 0, 0, 0, 0), none, some (.aload_n 2, 0, 0, 0, 0, 0), some (.invokevirtual 110, 113, 1, 6, 0, 0), none, none, some (.iload 5, 0, 0, 0, 0, 0), none, some (.if_icmp .eq 5, 1409, 0, 0, 0, 0), none, none, some (.iconst 0, 0, 0, 0, 0, 0), some (.ireturn, 2, 0, 0, 0, 0), some (.iload 5, 0, 0, 0, 0, 0), none, some (.ifCond .ne 15, 1426, 0, 0, 0, 0), none, none, some (.aload_n 3, 0, 0, 0, 0, 0), some (.iconst 0, 0, 0, 0, 0, 0), some (.laload, 0, 0, 0, 0, 0), some (.iload 6, 0, 0, 0, 0, 0), none, some (.i2l, 0, 0, 0, 0, 0), some (.lcmp, 0, 0, 0, 0, 0), some (.ifCond .eq 5, 1426, 0, 0, 0, 0), none, none, some (.iconst 0, 0, 0, 0, 0, 0), some (.ireturn, 2, 0, 0, 0, 0), some (.goto 373, 1799, 0, 0, 0, 0), none, none, some (.aload_n 1, 0, 0, 0, 0, 0), some (.aload_n 0, 0, 0, 0, 0, 0), some (.iload 4, 0, 0, 0, 0, 0), none, some (.iconst 1, 0, 0, 0, 1, 0), some (.iadd, 0, 0, 0, 0, 0), some (.iaload, 0, 0, 0, 0, 0), some (.aload_n 3, 0, 0, 0, 0, 0), some (.invokestatic 174, 218, 3, 0, 0, 0), none, none, some (.istore 5, 0, 0, 0, 0, 0), none, some (.aload_n 2, 0, 0, 0, 0, 0), some (.aload_n 0, 0, 0, 0, 0, 0), some (.iload 4, 0, 0, 0, 0, 0), none, some (.iconst 1, 0, 0, 0, 1, 0), some (.iadd, 0, 0, 0, 0, 0), some (.iaload, 0, 0, 0, 0, 0), some (.invokevirtual 176, 187, 2, 6, 0, 0), none, none, some (.istore 6, 0, 0, 0, 0, 0), none, some (.aload_n 2, 0, 0, 0, 0, 0), some (.invokevirtual 110, 113, 1, 6, 0, 0), none, none, some (.iload 5, 0, 0, 0, 0, 0), none, some (.if_icmp .eq 5, 1465, 0, 0, 0, 0), none, none, some (.iconst 0, 0, 0, 0, 0, 0), some (.ireturn, 2, 0, 0, 0, 0), some (.iload 5, 0, 0, 0, 0, 0), none, some (.ifCond .ne 15, 1482, 0, 0, 0, 0), none, none, some (.aload_n 3, 0, 0, 0, 0, 0), some (.iconst 0, 0, 0, 0, 0, 0), some (.laload, 0, 0, 0, 0, 0), some (.iload 6, 0, 0, 0, 0, 0), none, some (.i2l, 0, 0, 0, 0, 0), some (.lcmp, 0, 0, 0, 0, 0), some (.ifCond .eq 5, 1482, 0, 0, 0, 0), none, none, some (.iconst 0, 0, 0, 0, 0, 0), some (.ireturn, 2, 0, 0, 0, 0), some (.goto 317, 1799, 0, 0, 0, 0), none, none, some (.aload_n 1, 0, 0, 0, 0, 0), some (.aload_n 0, 0, 0, 0, 0, 0), some (.iload 4, 0, 0, 0, 0, 0), none, some (.iconst 1, 0, 0, 0, 1, 0), some (.iadd, 0, 0, 0, 0, 0), some (.iaload, 0, 0, 0, 0, 0), some (.aload_n 0, 0, 0, 0, 0, 0), some (.iload 4, 0, 0, 0, 0, 0), none, some (.iconst 2, 0, 0, 0, 2, 0), some (.iadd, 0, 0, 0, 0, 0), some (.iaload, 0, 0, 0, 0, 0), some (.aload_n 3, 0, 0, 0, 0, 0), some (.invokestatic 177, 219, 4, 0, 0, 0), none, none, some (.istore 5, 0, 0, 0, 0, 0), none, some (.aload_n 2, 0, 0, 0, 0, 0), some (.aload_n 0, 0, 0, 0, 0, 0), some (.iload 4, 0, 0, 0, 0, 0), none, some (.iconst 1, 0, 0, 0, 1, 0), some (.iadd, 0, 0, 0, 0, 0), some (.iaload, 0, 0, 0, 0, 0), some (.aload_n 0, 0, 0, 0, 0, 0), some (.iload 4, 0, 0, 0, 0, 0), none, some (.iconst 2, 0, 0, 0, 2, 0), some (.iadd, 0, 0, 0, 0, 0), some (.iaload, 0, 0, 0, 0, 0), some (.invokevirtual 179, 189, 3, 6, 0, 0), none, none, some (.istore 6, 0, 0, 0, 0, 0), none, some (.aload_n 2, 0, 0, 0, 0, 0), some (.invokevirtual 110, 113, 1, 6, 0, 0), none, none, some (.iload 5, 0, 0, 0, 0, 0), none, some (.if_icmp .eq 5, 1533, 0, 0, 0, 0), none, none, some (.iconst 0, 0, 0, 0, 0, 0), some (.ireturn, 2, 0, 0, 0, 0), some (.iload 5, 0, 0, 0, 0, 0), none, some (.ifCond .ne 15, 1550, 0, 0, 0, 0), none, none, some (.aload_n 3, 0, 0, 0, 0, 0), some (.iconst 0, 0, 0, 0, 0, 0), some (.laload, 0, 0, 0, 0, 0), some (.iload 6, 0, 0, 0, 0, 0), none, some (.i2l, 0, 0, 0, 0, 0), some (.lcmp, 0, 0, 0, 0, 0), some (.ifCond .eq 5, 1550, 0, 0, 0, 0), none, none, some (.iconst 0, 0, 0, 0, 0, 0), some (.ireturn, 2, 0, 0, 0, 0), some (.goto 249, 1799, 0, 0, 0, 0), none, none, some (.aload_n 1, 0, 0, 0, 0, 0), some (.aload_n 0, 0, 0, 0, 0, 0), some (.iload 4, 0, 0, 0, 0, 0), none, some (.iconst 1, 0, 0, 0, 1, 0), some (.iadd, 0, 0, 0, 0, 0), some (.iaload, 0, 0, 0, 0, 0), some (.aload_n 3, 0, 0, 0, 0, 0), some (.invokestatic 180, 220, 3, 0, 0, 0), none, none, some (.istore 5, 0, 0, 0, 0, 0), none, some (.aload_n 2, 0, 0, 0, 0, 0), some (.aload_n 0, 0, 0, 0, 0, 0), some (.iload 4, 0, 0, 0, 0, 0), none, some (.iconst 1, 0, 0, 0, 1, 0), some (.iadd, 0, 0, 0, 0, 0), some (.iaload, 0, 0, 0, 0, 0), some (.invokevirtual 182, 190, 2, 6, 0, 0), none, none, some (.lstore 6, 0, 0, 0, 0, 0), none, some (.aload_n 2, 0, 0, 0, 0, 0), some (.invokevirtual 110, 113, 1, 6, 0, 0), none, none, some (.iload 5, 0, 0, 0, 0, 0), none, some (.if_icmp .eq 5, 1589, 0, 0, 0, 0), none, none, some (.iconst 0, 0, 0, 0, 0, 0), some (.ireturn, 2, 0, 0, 0, 0), some (.iload 5, 0, 0, 0, 0, 0), none, some (.ifCond .ne 14, 1605, 0, 0, 0, 0), none, none, some (.aload_n 3, 0, 0, 0, 0, 0), some (.iconst 0, 0, 0, 0, 0, 0), some (.laload, 0, 0, 0, 0, 0), some (.lload 6, 0, 0, 0, 0, 0), none, some (.lcmp, 0, 0, 0, 0, 0), some (.ifCond .eq 5, 1605, 0, 0, 0, 0), none, none, some (.iconst 0, 0, 0, 0, 0, 0), some (.ireturn, 2, 0, 0, 0, 0), some (.goto 194, 1799, 0, 0, 0, 0), none, none, some (.aload_n 1, 0, 0, 0, 0, 0), some (.aload_n 0, 0, 0, 0, 0, 0), some (.iload 4, 0, 0, 0, 0, 0), none, some (.iconst 1, 0, 0, 0, 1, 0), some (.iadd, 0, 0, 0, 0, 0), some (.iaload, 0, 0, 0, 0, 0), some (.aload_n 3, 0, 0, 0, 0, 0), some (.invokestatic 183, 221, 3, 0, 0, 0), none, none, some (.istore 5, 0, 0, 0, 0, 0), none, some (.aload_n 2, 0, 0, 0, 0, 0), some (.aload_n 0, 0, 0, 0, 0, 0), some (.iload 4, 0, 0, 0, 0, 0), none, some (.iconst 1, 0, 0, 0, 1, 0), some (.iadd, 0, 0, 0, 0, 0), some (.iaload, 0, 0, 0, 0, 0), some (.invokevirtual 185, 192, 2, 6, 0, 0), none, none, some (.istore 6, 0, 0, 0, 0, 0), none, some (.aload_n 2, 0, 0, 0, 0, 0), some (.invokevirtual 110, 113, 1, 6, 0, 0), none, none, some (.iload 5, 0, 0, 0, 0, 0), none, some (.if_icmp .eq 5, 1644, 0, 0, 0, 0), none, none, some (.iconst 0, 0, 0, 0, 0, 0), some (.ireturn, 2, 0, 0, 0, 0), some (.iload 5, 0, 0, 0, 0, 0), none, some (.ifCond .ne 15, 1661, 0, 0, 0, 0), none, none, some (.aload_n 3, 0, 0, 0, 0, 0), some (.iconst 0, 0, 0, 0, 0, 0), some (.laload, 0, 0, 0, 0, 0), some (.iload 6, 0, 0, 0, 0, 0), none, some (.i2l, 0, 0, 0, 0, 0), some (.lcmp, 0, 0, 0, 0, 0), some (.ifCond .eq 5, 1661, 0, 0, 0, 0), none, none, some (.iconst 0, 0, 0, 0, 0, 0), some (.ireturn, 2, 0, 0, 0, 0), some (.goto 138, 1799, 0, 0, 0, 0), none, none, some (.aload_n 1, 0, 0, 0, 0, 0), some (.aload_n 0, 0, 0, 0, 0, 0), some (.iload 4, 0, 0, 0, 0, 0), none, some (.iconst 1, 0, 0, 0, 1, 0), some (.iadd, 0, 0, 0, 0, 0), some (.iaload, 0, 0, 0, 0, 0), some (.aload_n 3, 0, 0, 0, 0, 0), some (.invokestatic 186, 222, 3, 0, 0, 0), none, none, some (.istore 5, 0, 0, 0, 0, 0), none, some (.aload_n 2, 0, 0, 0, 0, 0), some (.aload_n 0, 0, 0, 0, 0, 0), some (.iload 4, 0, 0, 0, 0, 0), none, some (.iconst 1, 0, 0, 0, 1, 0), some (.iadd, 0, 0, 0, 0, 0), some (.iaload, 0, 0, 0, 0, 0), some (.invokevirtual 188, 193, 2, 6, 0, 0), none, none, some (.istore 6, 0, 0, 0, 0, 0), none, some (.aload_n 2, 0, 0, 0, 0, 0), some (.invokevirtual 110, 113, 1, 6, 0, 0), none, none, some (.iload 5, 0, 0, 0, 0, 0), none, some (.if_icmp .eq 5, 1700, 0, 0, 0, 0), none, none, some (.iconst 0, 0, 0, 0, 0, 0), some (.ireturn, 2, 0, 0, 0, 0), some (.iload 5, 0, 0, 0, 0, 0), none, some (.ifCond .ne 15, 1717, 0, 0, 0, 0), none, none, some (.aload_n 3, 0, 0, 0, 0, 0), some (.iconst 0, 0, 0, 0, 0, 0), some (.laload, 0, 0, 0, 0, 0), some (.iload 6, 0, 0, 0, 0, 0), none, some (.i2l, 0, 0, 0, 0, 0), some (.lcmp, 0, 0, 0, 0, 0), some (.ifCond .eq 5, 1717, 0, 0, 0, 0), none, none, some (.iconst 0, 0, 0, 0, 0, 0), some (.ireturn, 2, 0, 0, 0, 0), some (.goto 82, 1799, 0, 0, 0, 0), none, none, some (.aload_n 1, 0, 0, 0, 0, 0), some (.aload_n 0, 0, 0, 0, 0, 0), some (.iload 4, 0, 0, 0, 0, 0), none, some (.iconst 1, 0, 0, 0, 1, 0), some (.iadd, 0, 0, 0, 0, 0), some (.iaload, 0, 0, 0, 0, 0), some (.aload_n 0, 0, 0, 0, 0, 0), some (.iload 4, 0, 0, 0, 0, 0), none, some (.iconst 2, 0, 0, 0, 2, 0), some (.iadd, 0, 0, 0, 0, 0), some (.iaload, 0, 0, 0, 0, 0), some (.aload_n 0, 0, 0, 0, 0, 0), some (.iload 4, 0, 0, 0, 0, 0), none, some (.iconst 3, 0, 0, 0, 3, 0), some (.iadd, 0, 0, 0, 0, 0), some (.iaload, 0, 0, 0, 0, 0), some (.aload_n 3, 0, 0, 0, 0, 0), some (.invokestatic 189, 223, 5, 0, 0, 0), none, none, some (.istore 5, 0, 0, 0, 0, 0), none, some (.aload_n 2, 0, 0, 0, 0, 0), some (.aload_n 0, 0, 0, 0, 0, 0), some (.iload 4, 0, 0, 0, 0, 0), none, some (.iconst 1, 0, 0, 0, 1, 0), some (.iadd, 0, 0, 0, 0, 0), some (.iaload, 0, 0, 0, 0, 0), some (.aload_n 0, 0, 0, 0, 0, 0), some (.iload 4, 0, 0, 0, 0, 0), none, some (.iconst 2, 0, 0, 0, 2, 0), some (.iadd, 0, 0, 0, 0, 0), some (.iaload, 0, 0, 0, 0, 0), some (.aload_n 0, 0, 0, 0, 0, 0), some (.iload 4, 0, 0, 0, 0, 0), none, some (.iconst 3, 0, 0, 0, 3, 0), some (.iadd, 0, 0, 0, 0, 0), some (.iaload, 0, 0, 0, 0, 0), some (.invokevirtual 191, 195, 4, 6, 0, 0), none, none, some (.lstore 6, 0, 0, 0, 0, 0), none, some (.aload_n 2, 0, 0, 0, 0, 0), some (.invokevirtual 110, 113, 1, 6, 0, 0), none, none, some (.iload 5, 0, 0, 0, 0, 0), none, some (.if_icmp .eq 5, 1780, 0, 0, 0, 0), none, none, some (.iconst 0, 0, 0, 0, 0, 0), some (.ireturn, 2, 0, 0, 0, 0), some (.iload 5, 0, 0, 0, 0, 0), none, some (.ifCond .ne 14, 1796, 0, 0, 0, 0), none, none, some (.aload_n 3, 0, 0, 0, 0, 0), some (.iconst 0, 0, 0, 0, 0, 0), some (.laload, 0, 0, 0, 0, 0), some (.lload 6, 0, 0, 0, 0, 0), none, some (.lcmp, 0, 0, 0, 0, 0), some (.ifCond .eq 5, 1796, 0, 0, 0, 0), none, none, some (.iconst 0, 0, 0, 0, 0, 0), some (.ireturn, 2, 0, 0, 0, 0), some (.goto 3, 1799, 0, 0, 0, 0), none, none, some (.iinc 4 7, 0, 0, 0, 7, 0), none, none, some (.goto (-1779), 23, 0, 0, 0, 0), none, none, some (.iconst 1, 0, 0, 0, 1, 0), some (.ireturn, 2, 0, 0, 0, 0)]
def xtbs : List (List (Option XI)) := [tb_X0_init, tb_X0_count, tb_X0_timesAt, tb_X0_exponentAt, tb_X0_restart, tb_X0_add, tb_X0_insert, tb_X0_raise, tb_X1_init, tb_X1_keyOf, tb_X1_exponentIn, tb_X1_count, tb_X1_timesAt, tb_X1_keyAt, tb_X1_restart, tb_X1_add, tb_X1_copy, tb_X1_fits, tb_X1_exponentsFit, tb_X1_comparedWith, tb_X1_limit, tb_X2_init, tb_X2_powersOf, tb_X2_timesOf, tb_X2_exponentOf, tb_X2_keep, tb_X2_forget, tb_X2_powerOf, tb_X2_added, tb_X2_multiplied, tb_X2_naturallyAdded, tb_X2_naturallyMultiplied, tb_X2_addPair, tb_X2_compared, tb_X2_order, tb_X2_stepped, tb_X2_lower, tb_X2_stepsToZero, tb_X2_lessened, tb_X2_finiteTail, tb_X2_powersAbove, tb_X2_draftLess, tb_X2_draftPowers, tb_X2_made, tb_X2_depthOf, tb_X2_powersFit, tb_X2_write, tb_X3_at, tb_X3_at_, tb_X3_put, tb_X3_put_, tb_X3_withRoom, tb_X4_init, tb_X4_growth, tb_X4_restart, tb_X4_addPart, tb_X4_addMultiple, tb_X4_addSlopes, tb_X4_addRow, tb_X5_init, tb_X5_value, tb_X5_length, tb_X5_restart, tb_X5_along, tb_X5_toward, tb_X5_between, tb_X5_goes, tb_X6_init, tb_X6_kind, tb_X6_clear, tb_X6_finite, tb_X6_omega, tb_X6_number, tb_X6_signs, tb_X6_term, tb_X6_sum, tb_X6_product, tb_X6_difference, tb_X6_natural, tb_X6_derive, tb_X6_compare, tb_X6_step, tb_X6_descent, tb_X6_powers, tb_X6_times, tb_X6_exponent, tb_X6_cut, tb_X6_birthday, tb_X6_signOf, tb_X6_parts, tb_X6_tends, tb_X6_terms, tb_X6_part, tb_X6_needPlace, tb_X6_needThree, tb_X6_needRow, tb_X6_needRange, tb_X6_commonKind, tb_X6_ordinalAt, tb_X6_ordinalWithPower, tb_X6_numberAt, tb_X6_growthAt, tb_X6_growthRow, tb_X6_keepOrdinal, tb_X6_keepNumber, tb_X6_keepGrowth, tb_X6_numberFits, tb_X6_multipliedNumbers, tb_X6_greatestOf, tb_X6_leastOf, tb_X6_addGrowths, tb_X6_multiplyGrowths, tb_X7_init, tb_X7_thrown, tb_X7_holds, tb_X7_isIn, tb_X7_isPlace, tb_X7_are, tb_X7_lays, tb_X7_last, tb_X7_compared, tb_X7_adds, tb_X7_isMade, tb_X7_makes, tb_X7_gathers, tb_X7_summed, tb_X7_summedNaturally, tb_X7_multiplied, tb_X7_puts, tb_X7_multipliedNaturally, tb_X7_lessOne, tb_X7_stepped, tb_X7_unit, tb_X7_level, tb_X7_exponentOf, tb_X7_joins, tb_X7_fits, tb_X7_laysGrowth, tb_X7_joinsAll, tb_X7_joinsBoth, tb_X7_multiplies, tb_X7_derives, tb_X7_isNumber, tb_X7_begins, tb_X7_goes, tb_X7_goesTo, tb_X7_finds, tb_X7_kind, tb_X7_clear, tb_X7_finiteOne, tb_X7_begin, tb_X7_finite, tb_X7_powerOf, tb_X7_isKind, tb_X7_omega, tb_X7_number, tb_X7_signs, tb_X7_term, tb_X7_areBoth, tb_X7_setsOrdinal, tb_X7_setsNumber, tb_X7_setsGrowth, tb_X7_setsSum, tb_X7_told, tb_X7_sum, tb_X7_setsProduct, tb_X7_product, tb_X7_setsDifference, tb_X7_difference, tb_X7_setsNatural, tb_X7_natural, tb_X7_derive, tb_X7_comparedGrowths, tb_X7_comparedBoth, tb_X7_compare, tb_X7_stepOf, tb_X7_step, tb_X7_descends, tb_X7_descent, tb_X7_powers, tb_X7_hasPower, tb_X7_times, tb_X7_exponent, tb_X7_hasPlace, tb_X7_cuts, tb_X7_cut, tb_X7_birthdayOf, tb_X7_birthday, tb_X7_signAt, tb_X7_signOf, tb_X7_parts, tb_X7_tendsTo, tb_X7_tends, tb_X7_terms, tb_X7_toldPart, tb_X7_part, tb_J6_compare_7cf53, tb_J13_compare_74951, tb_J7_copyOf_59c91, tb_L_kind, tb_L_clear, tb_L_finite, tb_L_omega, tb_L_number, tb_L_signs, tb_L_term, tb_L_sum, tb_L_product, tb_L_difference, tb_L_natural, tb_L_derive, tb_L_compare, tb_L_step, tb_L_descent, tb_L_powers, tb_L_times, tb_L_exponent, tb_L_cut, tb_L_birthday, tb_L_signOf, tb_L_parts, tb_L_tends, tb_L_terms, tb_L_part, tb_L_law]
def xtb (j : Nat) : List (Option XI) := xtbs.getD j []
/-- the toy machine: F steps in a method, d calls deep -/
def xrun (F : Nat) : Nat → Nat → List Value → XH → Option (XO × XH)
  | 0 => fun _ _ _ => none
  | d + 1 => fun j as h => if (x_args as).length ≤ xml j ∧ x_nod as = true then xex (xrun F d) (xhs j) (xtb j) F (0, x_entry as (xml j), []) h else none
end
section
/-! ===== what ties the toy heap to the heap of the model ===== -/
def x_kk : FieldType → Nat
  | .int => 0
  | .long => 1
  | .boolean => 3
  | _ => 2
def xT : List Cond := lw_tbl.filter goodWord
/-- b (the script's cell), b0 (handle k of the run lies at b0 + k), the classes, the three kinds of rows, the script's cell itself -/
abbrev XG : Type := Nat × Nat × va_G × ClassId × ClassId × ClassId × Cell
def xA (G : XG) (k : Nat) : Nat := if k = 0 then G.1 else G.2.1 + k
def xV (G : XG) : Value → Value
  | .ref k => .ref (xA G k)
  | v => v
def xFr (G : XG) : Nat → Prop := fun q => G.2.1 < q
theorem xV_cat (G : XG) (v : Value) : (xV G v).category = v.category := by cases v <;> rfl
theorem xA_pos {G : XG} {k : Nat} (h : k ≠ 0) : xA G k = G.2.1 + k := if_neg h
theorem xA_in {G : XG} {k : Nat} (h : k ≠ 0) : xFr G (xA G k) := by
  rw [xA_pos h]
  exact Nat.lt_add_of_pos_right (Nat.pos_of_ne_zero h)
theorem xA_inj {G : XG} (hb : G.1 ≤ G.2.1) {k q : Nat} (h : k ≠ q) : xA G k ≠ xA G q := by
  unfold xA
  split <;> split <;> omega
def x_fv (G : XG) (h : XH) (q : Nat) (rs : List (Option Nat)) (k kd : Nat) : Value := if kd = 2 then va_rf ((rs.getD k none).map (xA G)) else if kd = 1 then .long (h.2.2.1 q k) else .int (h.2.1 q k)
def x_fs (G : XG) (h : XH) (q ci : Nat) (rs : List (Option Nat)) : List Value := (x_kd ci).mapIdx (fun k kd => x_fv G h q rs k kd)
def x_at (G : XG) (h : XH) (H : Heap) (k : Nat) (t : XT) : Prop := match t.1 with
  | 0 => va_at G.2.2.1 vwCl (xA G k, .inr (t.2.1, x_fs G h k t.2.1 t.2.2)) H
  | 1 => H[xA G k]? = some (vp_cell G.2.2.2.1 (t.2.1, .inl (h.2.1 k)))
  | 2 => H[xA G k]? = some (vp_cell G.2.2.2.2.1 (t.2.1, .inr (.inl (h.2.2.1 k))))
  | 3 => H[xA G k]? = some (vp_cell G.2.2.2.2.2.1 (t.2.1, .inr (.inr (.inr (.inr (fun i => (t.2.2.getD i none).map (xA G)))))))
  | 5 => k = 0 ∧ H[xA G k]? = some G.2.2.2.2.2.2 ∧ G.2.2.2.2.2.2.slots.size = t.2.1 ∧ ∀ j, j < t.2.1 → G.2.2.2.2.2.2.slots[j]? = some (.int (h.2.1 0 j))
  | _ => True
def xR (G : XG) (h : XH) (H : Heap) : Prop := H.size = G.2.1 + h.1.length ∧ (∃ n, h.1[0]? = some (5, n, [])) ∧ ∀ k t, h.1[k]? = some t → x_at G h H k t
theorem x_fs_congr {G : XG} {h h2 : XH} {q ci : Nat} {rs : List (Option Nat)} (e1 : h2.2.1 q = h.2.1 q) (e2 : h2.2.2.1 q = h.2.2.1 q) : x_fs G h2 q ci rs = x_fs G h q ci rs := by
  unfold x_fs x_fv
  rw [e1, e2]
theorem x_at_kept {G : XG} {h h2 : XH} {H H2 : Heap} {k : Nat} {t : XT} (e1 : h2.2.1 k = h.2.1 k) (e2 : h2.2.2.1 k = h.2.2.1 k) (e3 : H2[xA G k]? = H[xA G k]?) (hx : x_at G h H k t) : x_at G h2 H2 k t := by
  obtain ⟨a, n, rs⟩ := t
  unfold x_at at hx ⊢
  dsimp only at hx ⊢
  split
  · rw [x_fs_congr e1 e2]
    exact va_at.kept hx e3
  · rw [e3, e1]; exact hx
  · rw [e3, e2]; exact hx
  · rw [e3]; exact hx
  · obtain ⟨h1, h2, h3, h4⟩ := hx
    subst h1
    rw [e3, e1]
    exact ⟨rfl, h2, h3, h4⟩
  · trivial
theorem xR_ne0 {G : XG} {h : XH} {H : Heap} (hR : xR G h H) {q : Nat} {t : XT} (ht : h.1[q]? = some t) (h5 : t.1 ≠ 5) : q ≠ 0 := by
  intro e
  subst e
  obtain ⟨n, hn⟩ := hR.2.1
  rw [ht] at hn
  cases hn
  exact h5 rfl
/-- one cell is written -/
theorem xR_put {G : XG} (hb : G.1 ≤ G.2.1) {h h2 : XH} {H H2 : Heap} {q : Nat} {t t2 : XT} (hR : xR G h H) (ht : h.1[q]? = some t) (h5 : t.1 ≠ 5) (e0 : h2.1 = h.1.set q t2) (e1 : ∀ k, k ≠ q → h2.2.1 k = h.2.1 k) (e2 : ∀ k, k ≠ q → h2.2.2.1 k = h.2.2.1 k) (ez : H2.size = H.size) (eo : ∀ a : Nat, a ≠ xA G q → H2[a]? = H[a]?) (hx : x_at G h2 H2 q t2) : xR G h2 H2 := by
  have hq := xR_ne0 hR ht h5
  refine ⟨by rw [ez, e0, List.length_set]; exact hR.1, ?_, fun k u hk => ?_⟩
  · obtain ⟨n, hn⟩ := hR.2.1
    exact ⟨n, by rw [e0, List.getElem?_set_ne hq]; exact hn⟩
  · by_cases hkq : k = q
    · subst hkq
      rw [e0, List.getElem?_set_self (List.getElem?_eq_some_iff.mp ht).1] at hk
      cases hk
      exact hx
    · rw [e0, List.getElem?_set_ne (Ne.symm hkq)] at hk
      exact x_at_kept (e1 k hkq) (e2 k hkq) (eo _ (xA_inj hb hkq)) (hR.2.2 k u hk)
/-- one cell comes -/
theorem xR_new {G : XG} {h : XH} {H H2 : Heap} {t : XT} {z : Nat} (hR : xR G h H) (ez : H2.size = H.size + 1) (eo : ∀ a : Nat, a < H.size → H2[a]? = H[a]?) (hx : x_at G (x_new h t z) H2 h.1.length t) (hlt : ∀ k, k < h.1.length → xA G k < H.size) : xR G (x_new h t z) H2 := by
  have hpos : 0 < h.1.length := by
    obtain ⟨n, hn⟩ := hR.2.1
    exact (List.getElem?_eq_some_iff.mp hn).1
  refine ⟨by rw [ez, hR.1]; simp [x_new]; omega, ?_, fun k u hk => ?_⟩
  · obtain ⟨n, hn⟩ := hR.2.1
    exact ⟨n, by simp only [x_new]; rw [List.getElem?_append_left hpos]; exact hn⟩
  · by_cases hkl : k < h.1.length
    · simp only [x_new] at hk
      rw [List.getElem?_append_left hkl] at hk
      have hne : k ≠ h.1.length := Nat.ne_of_lt hkl
      exact x_at_kept (by simp [x_new, hne]) (by simp [x_new, hne]) (eo _ (hlt k hkl)) (hR.2.2 k u hk)
    · simp only [x_new] at hk
      rw [List.getElem?_append_right (by omega)] at hk
      have hz : k - h.1.length < 1 := (List.getElem?_eq_some_iff.mp hk).1
      rw [show k - h.1.length = 0 by omega] at hk
      cases hk
      rw [show k = h.1.length by omega]
      exact hx
theorem xR_lt {G : XG} (hb : G.1 ≤ G.2.1) {h : XH} {H : Heap} (hR : xR G h H) : ∀ k, k < h.1.length → xA G k < H.size := by
  intro k hk
  rw [hR.1]
  unfold xA
  split <;> omega
theorem xR_top {G : XG} {h : XH} {H : Heap} (hR : xR G h H) : xA G h.1.length = H.size := by
  have hpos : 0 < h.1.length := by
    obtain ⟨n, hn⟩ := hR.2.1
    exact (List.getElem?_eq_some_iff.mp hn).1
  rw [xA_pos (by omega), hR.1]
/-- the locals -/
def x_ents (G : XG) (L : XL) : List (Nat × Value) := (List.range L.length).filterMap fun i => match L[i]? with
  | some (some v) => some (i, xV G v)
  | _ => none
theorem x_ents_mem {G : XG} {L : XL} {q : Nat × Value} : q ∈ x_ents G L ↔ ∃ v, L[q.1]? = some (some v) ∧ q.2 = xV G v := by
  unfold x_ents
  rw [List.mem_filterMap]
  constructor
  · rintro ⟨i, -, hi⟩
    split at hi
    · rename_i v hv
      cases hi
      exact ⟨v, hv, rfl⟩
    · cases hi
  · rintro ⟨v, hv, e⟩
    refine ⟨q.1, List.mem_range.mpr (List.getElem?_eq_some_iff.mp hv).1, ?_⟩
    rw [hv]
    dsimp only
    rw [← e]
def x_ls (G : XG) (ls : Array Slot) (L : XL) : Prop := lv_has ls L.length (x_ents G L)
theorem x_ls_at {G : XG} {ls : Array Slot} {L : XL} (hl : x_ls G ls L) {i : Nat} {v : Value} (hi : L[i]? = some (some v)) : ls[i]? = some (.val (xV G v)) := hl.2.2 (i, xV G v) (x_ents_mem.mpr ⟨v, hi, rfl⟩)
theorem x_cl_len (L : XL) (k : Nat) : (x_cl L k).length = L.length := by
  unfold x_cl
  split
  · rfl
  · split <;> simp
/-- what stands in the locals behind a store -/
theorem x_cl_get {L : XL} {k i : Nat} {v : Value} (h : (x_cl L k)[i]? = some (some v)) : L[i]? = some (some v) ∧ (i + 1 = k → v.category ≠ 2) := by
  unfold x_cl at h
  split at h
  · exact ⟨h, fun e => by omega⟩
  · rename_i j
    split at h
    · rename_i x hx
      by_cases e : i = j
      · subst e
        rw [List.getElem?_set_self (List.getElem?_eq_some_iff.mp hx).1] at h
        cases h
      · rw [List.getElem?_set_ne (Ne.symm e)] at h
        exact ⟨h, fun q => absurd (Nat.succ.inj q) e⟩
    · rename_i x hx
      by_cases e : i = j
      · subst e
        rw [List.getElem?_set_self (List.getElem?_eq_some_iff.mp hx).1] at h
        cases h
      · rw [List.getElem?_set_ne (Ne.symm e)] at h
        exact ⟨h, fun q => absurd (Nat.succ.inj q) e⟩
    · rename_i h1 h2
      refine ⟨h, fun q => ?_⟩
      have q' : i = j := Nat.succ.inj q
      subst q'
      cases v with
      | long x => exact absurd h (h1 x)
      | double x => exact absurd h (h2 x)
      | _ => simp [Value.category]
theorem x_ls_s1 {G : XG} {ls : Array Slot} {L : XL} {k : Nat} {v : Value} (hk : k < L.length) (h : lv_has ls L.length ((k, xV G v) :: (x_ents G L).filter (fun q => !(q.1 == k) && !(q.1 + 1 == k && q.2.category == 2)))) : x_ls G ls (x_s1 L k v) := by
  refine ⟨by rw [h.1]; simp [x_s1, x_cl_len], h.2.1, fun q hq => ?_⟩
  obtain ⟨w, hw, e⟩ := x_ents_mem.mp hq
  refine h.2.2 q ?_
  unfold x_s1 at hw
  by_cases hi : q.1 = k
  · rw [hi, List.getElem?_set_self (by rw [x_cl_len]; exact hk)] at hw
    cases hw
    obtain ⟨q1, q2⟩ := q
    subst hi e
    exact List.mem_cons_self
  · rw [List.getElem?_set_ne (Ne.symm hi)] at hw
    obtain ⟨h1, h2⟩ := x_cl_get hw
    refine List.mem_cons_of_mem _ (List.mem_filter.mpr ⟨x_ents_mem.mpr ⟨w, h1, e⟩, ?_⟩)
    rw [e, xV_cat]
    have hi' : (q.1 == k) = false := by simpa using hi
    rw [hi']
    by_cases hn : q.1 + 1 = k
    · simp [h2 hn]
    · simp [hn]
theorem x_ls_s2 {G : XG} {ls : Array Slot} {L : XL} {k : Nat} {v : Value} (hk : k + 1 < L.length) (h : lv_has ls L.length ((k, xV G v) :: (x_ents G L).filter (fun q => !(q.1 == k) && (!(q.1 == k + 1) && !(q.1 + 1 == k && q.2.category == 2))))) : x_ls G ls (x_s2 L k v) := by
  refine ⟨by rw [h.1]; simp [x_s2, x_cl_len], h.2.1, fun q hq => ?_⟩
  obtain ⟨w, hw, e⟩ := x_ents_mem.mp hq
  refine h.2.2 q ?_
  unfold x_s2 at hw
  have hlen : (x_cl L k).length = L.length := x_cl_len L k
  by_cases hj : q.1 = k + 1
  · rw [hj, List.getElem?_set_self (by rw [List.length_set, hlen]; exact hk)] at hw
    cases hw
  rw [List.getElem?_set_ne (Ne.symm hj)] at hw
  by_cases hi : q.1 = k
  · rw [hi, List.getElem?_set_self (by rw [hlen]; omega)] at hw
    cases hw
    obtain ⟨q1, q2⟩ := q
    subst hi e
    exact List.mem_cons_self
  · rw [List.getElem?_set_ne (Ne.symm hi)] at hw
    obtain ⟨h1, h2⟩ := x_cl_get hw
    refine List.mem_cons_of_mem _ (List.mem_filter.mpr ⟨x_ents_mem.mpr ⟨w, h1, e⟩, ?_⟩)
    rw [e, xV_cat]
    have hi' : (q.1 == k) = false := by simpa using hi
    have hj' : (q.1 == k + 1) = false := by simpa using hj
    rw [hi', hj']
    by_cases hn : q.1 + 1 = k
    · simp [h2 hn]
    · simp [hn]
theorem x_ls_s0 {G : XG} {ls : Array Slot} {L : XL} {k : Nat} {v : Value} (hk : k < L.length) (h : lv_has ls L.length ((k, v) :: (x_ents G L).filter (fun q => !(q.1 == k) && !(q.1 + 1 == k && q.2.category == 2)))) : x_ls G ls ((x_cl L k).set k none) := by
  refine ⟨by rw [h.1]; simp [x_cl_len], h.2.1, fun q hq => ?_⟩
  obtain ⟨w, hw, e⟩ := x_ents_mem.mp hq
  refine h.2.2 q ?_
  by_cases hi : q.1 = k
  · rw [hi, List.getElem?_set_self (by rw [x_cl_len]; exact hk)] at hw
    cases hw
  · rw [List.getElem?_set_ne (Ne.symm hi)] at hw
    obtain ⟨h1, h2⟩ := x_cl_get hw
    refine List.mem_cons_of_mem _ (List.mem_filter.mpr ⟨x_ents_mem.mpr ⟨w, h1, e⟩, ?_⟩)
    rw [e, xV_cat]
    have hi' : (q.1 == k) = false := by simpa using hi
    rw [hi']
    by_cases hn : q.1 + 1 = k
    · simp [h2 hn]
    · simp [hn]
/-- the locals at the entry -/
theorem x_args_mem {G : XG} : ∀ (vs : List Value) (o i : Nat) (v : Value), (∀ u, u ∈ vs → ∀ x, u ≠ .double x) → (x_args vs)[i]? = some (some v) → (o + i, xV G v) ∈ lv_args o (vs.map (xV G)) := by
  intro vs
  induction vs with
  | nil => intro o i v _ h; simp [x_args] at h
  | cons u vs ih =>
    intro o i v hd h
    have hd' : ∀ u, u ∈ vs → ∀ x, u ≠ .double x := fun u hu => hd u (List.mem_cons_of_mem _ hu)
    have hone : ∀ {u : Value}, (some u :: x_args vs)[i]? = some (some v) → u.category = 1 → (o + i, xV G v) ∈ lv_args o ((u :: vs).map (xV G)) := by
      intro u h hc
      cases i with
      | zero =>
        cases h
        simp [lv_args]
      | succ i =>
        have h2 := ih (o + 1) i v hd' h
        rw [show o + 1 + i = o + (i + 1) by omega] at h2
        simp only [List.map_cons, lv_args, xV_cat, hc]
        exact List.mem_cons_of_mem _ h2
    cases u with
    | long x =>
      cases i with
      | zero => cases h; simp [lv_args]
      | succ i =>
        cases i with
        | zero => cases h
        | succ i =>
          have h2 := ih (o + 2) i v hd' h
          rw [show o + 2 + i = o + (i + 1 + 1) by omega] at h2
          simp only [List.map_cons, lv_args, xV_cat]
          exact List.mem_cons_of_mem _ h2
    | double x => exact absurd rfl (hd _ List.mem_cons_self x)
    | int x => exact hone h rfl
    | float x => exact hone h rfl
    | null => exact hone h rfl
    | ref x => exact hone h rfl
    | retAddr x => exact hone h rfl
end
section
/-! ===== the pure instructions ===== -/
def xen : Nat → String
  | 1 => "java/lang/IndexOutOfBoundsException"
  | 2 => "java/lang/IllegalArgumentException"
  | _ => "java/lang/IllegalStateException"
def xlen (ins : Instr) (a : Nat) : Nat := match ins with
  | .bipush _ => 2
  | .ldc _ => 2
  | .iload _ => 2
  | .lload _ => 2
  | .aload _ => 2
  | .istore _ => 2
  | .lstore _ => 2
  | .astore _ => 2
  | .newarray _ => 2
  | .sipush _ => 3
  | .ldc_w _ => 3
  | .ldc2_w _ => 3
  | .iinc _ _ => 3
  | .ifCond _ _ => 3
  | .if_icmp _ _ => 3
  | .ifnull _ => 3
  | .ifnonnull _ => 3
  | .goto _ => 3
  | .getfield _ => 3
  | .putfield _ => 3
  | .invokestatic _ => 3
  | .invokevirtual _ => 3
  | .invokespecial _ => 3
  | .new _ => 3
  | .anewarray _ => 3
  | .tableswitch _ _ _ _ => a
  | _ => 1
/-- what the table must have of a pure instruction -/
def xckP (o pc : Nat) (ins : Instr) (a : Nat) (v : Int32) (w : Int64) : Bool := match ins with
  | .iconst n => decide (Int32.ofInt n = v)
  | .bipush n => decide ((Int8.ofInt n).toInt32 = v)
  | .sipush n => decide ((Int16.ofInt n).toInt32 = v)
  | .lconst n => decide (Int64.ofNat (n : Nat) = w)
  | .iinc _ n => decide (Int32.ofInt n = v)
  | .ifCond _ off => decide ((pc : Int) + off = (a : Int))
  | .if_icmp _ off => decide ((pc : Int) + off = (a : Int))
  | .ifnull off => decide ((pc : Int) + off = (a : Int))
  | .ifnonnull off => decide ((pc : Int) + off = (a : Int))
  | .goto off => decide ((pc : Int) + off = (a : Int))
  | .ldc2_w i => decide ((o, i, w) ∈ xKL)
  | .ldc_w i => decide ((o, i, v) ∈ xKI)
  | .ldc i => decide ((o, i, v) ∈ xKI)
  | .tableswitch d lo hi os => decide (0 ≤ (pc : Int) + d) && os.toList.all (fun x => decide (0 ≤ (pc : Int) + x)) && decide (hi - lo + 1 = (os.size : Int))
  | _ => true
def xDec : List MethodName := [Bundle.initS "java/lang/RuntimeException", Bundle.initS "java/lang/Exception", Bundle.initS Bundle.tN]
/-- what holds of a state of the machine all along -/
def xS (G : XG) (U : State) : Prop :=
  G.1 ≤ G.2.1 ∧ va_K G.2.2.1 vwCl [(G.2.2.2.1, .int), (G.2.2.2.2.1, .long), (G.2.2.2.2.2.1, .object RX1)] U ∧ (U.isArrayOf G.2.2.2.2.2.2 .int ∧ G.2.2.2.2.2.2.vm ≠ .unknown) ∧
  vx_Zq Bundle.tN "UNASSIGNED_STACK" Bundle.steD (xFr G) U U.heap ∧ vx_Zq Bundle.tN "SUPPRESSED_SENTINEL" Bundle.listD (xFr G) U U.heap ∧
  (∀ q ∈ xTH, ∃ sa, vk_R (xcn q.1) q.2.2.2.1 q.2.2.2.2.2.2 sa U) ∧ va_AO RX1 U ∧ (∀ q ∈ xNS, va_Nw (.methodLinkNest (xcn q.1) q.2.1 (xy q.2.2) "Transseria") U) ∧
  (∀ n : Nat, va_Nw (.castable (xen n) (xen n)) U) ∧ (∀ a b : Nat, xen a ≠ xen b → va_Nc (xen a) (xen b) U) ∧ (∀ y ∈ xDec, va_Nw (.declares y) U)
theorem xS.warm {G : XG} {s U : State} (h : xS G s) (hW : s.WarmedH U.vm) (hk : ∀ q : Nat, q < s.heap.size → ¬ xFr G q → U.heap[q]? = s.heap[q]?) : xS G U := by
  obtain ⟨h1, h2, h3, h4, h5, h6, h7, h8, h9, h10, h11⟩ := h
  exact ⟨h1, va_K.moved hW.alike h2, ⟨State.isArrayOf_alike hW.alike h3.1, h3.2⟩, vx_Zq.moved hW.alike (h4.kept hk), vx_Zq.moved hW.alike (h5.kept hk),
    fun q hq => by obtain ⟨sa, hs⟩ := h6 q hq; exact ⟨sa, vk_R.warm hW hs⟩, va_AO.moved hW.alike h7, fun q hq => va_Nw.warmM hW (h8 q hq), fun n => va_Nw.warmC hW (h9 n), fun a b hab => va_Nc.moved hW.alike (h10 a b hab), fun y hy => va_Nw.warmD hW (h11 y hy)⟩
/-- what holds in a frame of a method -/
def xCx (p : Program) (l : Launch) (s : State) (m : MethodId) (args : Array Value) (meth : Method) (c : Code) (G : XG) (o : Nat) (bytes : ByteArray) (mL : Nat) : Prop :=
  p.tables.exec = Jvm.exec ∧ c.code = bytes ∧ c.maxLocals = mL ∧ s.vm.findClass (xcn o) = some m.cls ∧ (∀ w ∈ xT, w.before args s = true) ∧ meth.locks = false ∧ xS G s ∧ l.stackTraces = false
theorem xKI_ok : ∀ q ∈ xKI, Cond.constant (xcn q.1) q.2.1 q.2.2 ∈ lw_tbl := by decide +kernel
theorem xKL_ok : ∀ q ∈ xKL, Cond.constantLong (xcn q.1) q.2.1 q.2.2 ∈ lw_tbl := by decide +kernel
theorem xT_of {w : Cond} (h : w ∈ lw_tbl) (hg : goodWord w = true) : w ∈ xT := List.mem_filter.mpr ⟨h, hg⟩
section XP
variable {p : Program} {l : Launch} {e : Env} {R : Room} {s : State} {m : MethodId} {args : Array Value} {below : List Frame} {meth : Method} {c : Code} {G : XG}
/-- the walk of the model from where the toy stands -/
def xW (p : Program) (l : Launch) (e : Env) (R : Room) (s : State) (m : MethodId) (args : Array Value) (below : List Frame) (meth : Method) (c : Code) (G : XG) (n0 z0 : Nat) (Q : State → Prop) (fr : XF) (h : XH) : Prop :=
  ∀ (H : Heap) (locs : List Loc) (ls : Array Slot) (cells slots : Nat), xR G h H → va_S (xFr G) s.heap H locs → x_ls G ls fr.2.1 → n0 + cells = h.1.length → z0 + slots = h.2.2.2 →
    W p l e R s m args below meth c H locs cells slots Q (F0 m fr.1 ls (fr.2.2.map (xV G)))
set_option maxHeartbeats 8000000 in
theorem xpure_ok {o : Nat} {bytes : ByteArray} {mL n0 z0 : Nat} {Q : State → Prop} (C : xCx p l s m args meth c G o bytes mL) {pc : Nat} {ins : Instr} {a : Nat} {v : Int32} {w : Int64} {L : XL} {st : List Value} {h : XH} {fr2 : XF}
    (hd : decode bytes pc = .ok (ins, xlen ins a)) (hck : xckP o pc ins a v w = true) (e0 : xpure pc ins a v w L st = some fr2) (k : xW p l e R s m args below meth c G n0 z0 Q fr2 h) : xW p l e R s m args below meth c G n0 z0 Q (pc, L, st) h := by
  obtain ⟨hx, hb, hml, hown, hts, hlocks, hS, hfl⟩ := C
  intro H locs ls cells slots hR hV hl hc hz
  unfold xpure at e0
  split at e0
  case h_1 n st => cases e0; exact lv_iconst hx hb hd (of_decide_eq_true hck) (k H locs ls cells slots hR hV hl hc hz)
  case h_2 n st => cases e0; exact lv_bipush hx hb hd (of_decide_eq_true hck) (k H locs ls cells slots hR hV hl hc hz)
  case h_3 n st => cases e0; exact lv_sipush hx hb hd (of_decide_eq_true hck) (k H locs ls cells slots hR hV hl hc hz)
  case h_4 n st => cases e0; exact lv_lconst hx hb hd (of_decide_eq_true hck) (k H locs ls cells slots hR hV hl hc hz)
  case h_5 st => cases e0; exact lv_null hx hb hd (k H locs ls cells slots hR hV hl hc hz)
  case h_6 i st => cases e0; exact lv_ldc hx hb hown (hts _ (xT_of (xKI_ok _ (of_decide_eq_true hck)) rfl)) hd (k H locs ls cells slots hR hV hl hc hz)
  case h_7 i st => cases e0; exact lv_ldcw hx hb hown (hts _ (xT_of (xKI_ok _ (of_decide_eq_true hck)) rfl)) hd (k H locs ls cells slots hR hV hl hc hz)
  case h_8 i st => cases e0; exact lv_ldc2 hx hb hown (hts _ (xT_of (xKL_ok _ (of_decide_eq_true hck)) rfl)) hd (k H locs ls cells slots hR hV hl hc hz)
  case h_9 i st =>
    unfold x_ldI at e0; split at e0
    · rename_i x hi; cases e0; exact lv_iload hx hb hd (x_ls_at hl hi) (k H locs ls cells slots hR hV hl hc hz)
    · cases e0
  case h_10 i st =>
    unfold x_ldI at e0; split at e0
    · rename_i x hi; cases e0; exact lv_iload_n hx hb hd rfl (x_ls_at hl hi) (k H locs ls cells slots hR hV hl hc hz)
    · cases e0
  case h_11 i st =>
    unfold x_ldL at e0; split at e0
    · rename_i x hi; cases e0; exact lv_lload hx hb hd (x_ls_at hl hi) (k H locs ls cells slots hR hV hl hc hz)
    · cases e0
  case h_12 i st =>
    unfold x_ldL at e0; split at e0
    · rename_i x hi; cases e0; exact lv_lload_n hx hb hd rfl (x_ls_at hl hi) (k H locs ls cells slots hR hV hl hc hz)
    · cases e0
  case h_13 i st =>
    unfold x_ldA at e0; split at e0
    · rename_i x hi; cases e0; exact lv_aload hx hb hd (x_ls_at hl hi) (k H locs ls cells slots hR hV hl hc hz)
    · rename_i hi; cases e0; exact lv_aloadN hx hb hd (x_ls_at hl hi) (k H locs ls cells slots hR hV hl hc hz)
    · cases e0
  case h_14 i st =>
    unfold x_ldA at e0; split at e0
    · rename_i x hi; cases e0; exact lv_aload_n hx hb hd rfl (x_ls_at hl hi) (k H locs ls cells slots hR hV hl hc hz)
    · rename_i hi; cases e0; exact lv_aload_nN hx hb hd rfl (x_ls_at hl hi) (k H locs ls cells slots hR hV hl hc hz)
    · cases e0
  case h_15 i x st =>
    split at e0
    · rename_i hi; cases e0; exact lv_istore hx hb hd hl hi rfl (fun ls' hl' => k H locs ls' cells slots hR hV (x_ls_s1 hi hl') hc hz)
    · cases e0
  case h_16 i x st =>
    split at e0
    · rename_i hi; cases e0; exact lv_istore_n hx hb hd rfl hl hi rfl (fun ls' hl' => k H locs ls' cells slots hR hV (x_ls_s1 hi hl') hc hz)
    · cases e0
  case h_17 i x st =>
    split at e0
    · rename_i hi; cases e0; exact lv_lstore hx hb hd hl hi rfl (fun ls' hl' => k H locs ls' cells slots hR hV (x_ls_s2 hi hl') hc hz)
    · cases e0
  case h_18 i x st =>
    split at e0
    · rename_i hi; cases e0; exact lv_lstore_n hx hb hd rfl hl hi rfl (fun ls' hl' => k H locs ls' cells slots hR hV (x_ls_s2 hi hl') hc hz)
    · cases e0
  case h_19 i x st =>
    split at e0
    · rename_i hi; cases e0; exact lv_astore hx hb hd hl hi rfl (fun ls' hl' => k H locs ls' cells slots hR hV (x_ls_s1 (v := .ref x) hi hl') hc hz)
    · cases e0
  case h_20 i x st =>
    split at e0
    · rename_i hi; cases e0; exact lv_astore_n hx hb hd rfl hl hi rfl (fun ls' hl' => k H locs ls' cells slots hR hV (x_ls_s1 (v := .ref x) hi hl') hc hz)
    · cases e0
  case h_21 i n st =>
    split at e0
    · rename_i hi
      unfold x_ldI at e0; split at e0
      · rename_i x hx2; cases e0
        obtain ⟨j, hj⟩ := List.getElem?_of_mem ((x_ents_mem (G := G) (q := (_, Value.int x))).mpr ⟨.int x, hx2, rfl⟩)
        exact lv_iinc (k := j) hx hb hd hl hj (by rw [of_decide_eq_true hck]) hi rfl (fun ls' hl' => k H locs ls' cells slots hR hV (x_ls_s1 hi hl') hc hz)
      · cases e0
    · cases e0
  case h_22 y x st => cases e0; exact lv_iadd hx hb hd (k H locs ls cells slots hR hV hl hc hz)
  case h_23 y x st => cases e0; exact lv_isub hx hb hd (k H locs ls cells slots hR hV hl hc hz)
  case h_24 y x st => cases e0; exact lv_imul hx hb hd (k H locs ls cells slots hR hV hl hc hz)
  case h_25 y x st => cases e0; exact lv_iand hx hb hd (k H locs ls cells slots hR hV hl hc hz)
  case h_26 y x st => cases e0; exact lv_ishl hx hb hd (k H locs ls cells slots hR hV hl hc hz)
  case h_27 y x st => cases e0; exact lv_ishr hx hb hd (k H locs ls cells slots hR hV hl hc hz)
  case h_28 y x st => cases e0; exact lv_ladd hx hb hd (k H locs ls cells slots hR hV hl hc hz)
  case h_29 y x st => cases e0; exact lv_lsub hx hb hd (k H locs ls cells slots hR hV hl hc hz)
  case h_30 y x st => cases e0; exact lv_lmul hx hb hd (k H locs ls cells slots hR hV hl hc hz)
  case h_31 y x st => cases e0; exact lv_land hx hb hd (k H locs ls cells slots hR hV hl hc hz)
  case h_32 y x st =>
    split at e0
    · cases e0
    · rename_i hy; cases e0; exact lv_ldiv hx hb hd hy (k H locs ls cells slots hR hV hl hc hz)
  case h_33 y x st =>
    split at e0
    · cases e0
    · rename_i hy; cases e0; exact lv_lrem hx hb hd hy (k H locs ls cells slots hR hV hl hc hz)
  case h_34 y x st => cases e0; exact lv_lshl hx hb hd rfl (k H locs ls cells slots hR hV hl hc hz)
  case h_35 y x st => cases e0; exact lv_lshr hx hb hd rfl (k H locs ls cells slots hR hV hl hc hz)
  case h_36 x st => cases e0; exact lv_i2l hx hb hd rfl (k H locs ls cells slots hR hV hl hc hz)
  case h_37 x st => cases e0; exact lv_l2i hx hb hd rfl (k H locs ls cells slots hR hV hl hc hz)
  case h_38 y x st => cases e0; exact W.lcmp hx hb hd (k H locs ls cells slots hR hV hl hc hz)
  case h_39 x st => cases e0; exact lv_dup hx hb hd rfl (k H locs ls cells slots hR hV hl hc hz)
  case h_40 x st => cases e0; exact lv_dup hx hb hd rfl (k H locs ls cells slots hR hV hl hc hz)
  case h_41 y x st => cases e0; exact lv_dup2_11 hx hb hd rfl rfl (k H locs ls cells slots hR hV hl hc hz)
  case h_42 y st => cases e0; exact lv_pop hx hb hd rfl (k H locs ls cells slots hR hV hl hc hz)
  case h_43 x st => cases e0; exact lv_if_eq hx hb hd (of_decide_eq_true hck) (fun q => by have k2 := k H locs ls cells slots hR hV; rw [if_pos q] at k2; exact k2 hl hc hz) (fun q => by have k2 := k H locs ls cells slots hR hV; rw [if_neg q] at k2; exact k2 hl hc hz)
  case h_44 x st => cases e0; exact lv_if_ne hx hb hd (of_decide_eq_true hck) (fun q => by have k2 := k H locs ls cells slots hR hV; rw [if_pos q] at k2; exact k2 hl hc hz) (fun q => by have k2 := k H locs ls cells slots hR hV; rw [if_neg (not_not_intro q)] at k2; exact k2 hl hc hz)
  case h_45 x st => cases e0; exact lv_if_lt hx hb hd (of_decide_eq_true hck) (fun q => by have k2 := k H locs ls cells slots hR hV; rw [if_pos q] at k2; exact k2 hl hc hz) (fun q => by have k2 := k H locs ls cells slots hR hV; rw [if_neg q] at k2; exact k2 hl hc hz)
  case h_46 x st => cases e0; exact lv_if_ge hx hb hd (of_decide_eq_true hck) (fun q => by have k2 := k H locs ls cells slots hR hV; rw [if_pos q] at k2; exact k2 hl hc hz) (fun q => by have k2 := k H locs ls cells slots hR hV; rw [if_neg q] at k2; exact k2 hl hc hz)
  case h_47 x st => cases e0; exact lv_if_gt hx hb hd (of_decide_eq_true hck) (fun q => by have k2 := k H locs ls cells slots hR hV; rw [if_pos q] at k2; exact k2 hl hc hz) (fun q => by have k2 := k H locs ls cells slots hR hV; rw [if_neg q] at k2; exact k2 hl hc hz)
  case h_48 x st => cases e0; exact lv_if_le hx hb hd (of_decide_eq_true hck) (fun q => by have k2 := k H locs ls cells slots hR hV; rw [if_pos q] at k2; exact k2 hl hc hz) (fun q => by have k2 := k H locs ls cells slots hR hV; rw [if_neg q] at k2; exact k2 hl hc hz)
  case h_49 y x st => cases e0; exact lv_icmp_eq hx hb hd (of_decide_eq_true hck) (fun q => by have k2 := k H locs ls cells slots hR hV; rw [if_pos q] at k2; exact k2 hl hc hz) (fun q => by have k2 := k H locs ls cells slots hR hV; rw [if_neg q] at k2; exact k2 hl hc hz)
  case h_50 y x st => cases e0; exact lv_icmp_ne hx hb hd (of_decide_eq_true hck) (fun q => by have k2 := k H locs ls cells slots hR hV; rw [if_pos q] at k2; exact k2 hl hc hz) (fun q => by have k2 := k H locs ls cells slots hR hV; rw [if_neg (not_not_intro q)] at k2; exact k2 hl hc hz)
  case h_51 y x st => cases e0; exact lv_icmp_lt hx hb hd (of_decide_eq_true hck) (fun q => by have k2 := k H locs ls cells slots hR hV; rw [if_pos q] at k2; exact k2 hl hc hz) (fun q => by have k2 := k H locs ls cells slots hR hV; rw [if_neg q] at k2; exact k2 hl hc hz)
  case h_52 y x st => cases e0; exact lv_icmp_ge hx hb hd (of_decide_eq_true hck) (fun q => by have k2 := k H locs ls cells slots hR hV; rw [if_pos q] at k2; exact k2 hl hc hz) (fun q => by have k2 := k H locs ls cells slots hR hV; rw [if_neg q] at k2; exact k2 hl hc hz)
  case h_53 y x st => cases e0; exact lv_icmp_gt hx hb hd (of_decide_eq_true hck) (fun q => by have k2 := k H locs ls cells slots hR hV; rw [if_pos q] at k2; exact k2 hl hc hz) (fun q => by have k2 := k H locs ls cells slots hR hV; rw [if_neg q] at k2; exact k2 hl hc hz)
  case h_54 y x st => cases e0; exact lv_icmp_le hx hb hd (of_decide_eq_true hck) (fun q => by have k2 := k H locs ls cells slots hR hV; rw [if_pos q] at k2; exact k2 hl hc hz) (fun q => by have k2 := k H locs ls cells slots hR hV; rw [if_neg q] at k2; exact k2 hl hc hz)
  case h_55 y st => cases e0; exact lv_ifnull hx hb hd (k H locs ls cells slots hR hV hl hc hz)
  case h_56 st => cases e0; exact lv_ifnullN hx hb hd (of_decide_eq_true hck) (k H locs ls cells slots hR hV hl hc hz)
  case h_57 y st => cases e0; exact lv_ifnonnull hx hb hd (of_decide_eq_true hck) (k H locs ls cells slots hR hV hl hc hz)
  case h_58 st => cases e0; exact lv_ifnonnullN hx hb hd (k H locs ls cells slots hR hV hl hc hz)
  case h_59 st => cases e0; exact lv_goto hx hb hd (of_decide_eq_true hck) (k H locs ls cells slots hR hV hl hc hz)
  case h_60 d lo hi os x st =>
    cases e0
    have k2 := k H locs ls cells slots hR hV hl hc hz
    simp only [xckP, Bool.and_eq_true, decide_eq_true_eq, List.all_eq_true] at hck
    obtain ⟨⟨g1, g2⟩, g3⟩ := hck
    by_cases hq : x.toInt < lo ∨ hi < x.toInt
    · rw [if_pos hq] at k2
      exact lv_tableOut hx hb hd hq (by omega) k2
    · rw [if_neg hq] at k2
      have q1 : ¬ x.toInt < lo := fun z => hq (Or.inl z)
      have q2 : ¬ hi < x.toInt := fun z => hq (Or.inr z)
      have hlt : (x.toInt - lo).toNat < os.size := by omega
      have hos : os[(x.toInt - lo).toNat]? = some (os.getD (x.toInt - lo).toNat 0) := by
        rw [Array.getD_eq_getD_getElem?, Array.getElem?_eq_getElem hlt]
        rfl
      have g4 := g2 (os.getD (x.toInt - lo).toNat 0) (by rw [Array.getD_eq_getD_getElem?, Array.getElem?_eq_getElem hlt]; exact Array.getElem_mem_toList hlt)
      exact lv_tableIn hx hb hd q1 q2 hos (by omega) k2
  case h_61 => cases e0
end XP
end
section
/-! ===== the instructions that read and write the heap ===== -/
theorem xc_cl : ∀ a, a < 7 → vwCl[a]? = some (xcC a, xcT a, xcN a)
  | 0, _ => rfl
  | 1, _ => rfl
  | 2, _ => rfl
  | 3, _ => rfl
  | 4, _ => rfl
  | 5, _ => rfl
  | 6, _ => rfl
  | a + 7, h => absurd h (by omega)
theorem xc_in0 : ∀ a, a < 7 → ∀ w ∈ u_ws (xcC a) (xcT a) (xcN a), w ∈ lw_tbl ∧ goodWord w = true := by decide +kernel
theorem xc_in (a : Nat) (h : a < 7) : ∀ w ∈ u_ws (xcC a) (xcT a) (xcN a), w ∈ xT := fun w hw => xT_of (xc_in0 a h w hw).1 (xc_in0 a h w hw).2
theorem xc_nm : ∀ a, a < 7 → ∀ x, x < xcN a → ∀ y, y < xcN a → x ≠ y → (xcT a x).2.1 ≠ (xcT a y).2.1 := by decide +kernel
theorem xc_ty : ∀ a, a < 7 → ∀ k, k < xcN a → parseFieldDescriptor (xcT a k).2.2.1 = some (xcY a k) := by decide +kernel
theorem xc_kd : ∀ a, a < 7 → ∀ k, k < xcN a → (x_kd a)[k]? = some (x_kk (xcY a k)) := by decide +kernel
theorem xc_len : ∀ a, a < 7 → (x_kd a).length = xcN a := by decide +kernel
theorem xFL_ok : ∀ q ∈ xFL, q.2.2.1 < 7 ∧ q.2.2.2 < xcN q.2.2.1 ∧ Cond.fieldLink (xcn q.1) q.2.1 (xcC q.2.2.1) (xcT q.2.2.1 q.2.2.2).2.1 (xcT q.2.2.1 q.2.2.2).2.2.1 ∈ lw_tbl ∧ (xcT q.2.2.1 q.2.2.2).1 = xcC q.2.2.1 := by decide +kernel
theorem xCL_ok : ∀ q ∈ xCL, q.2.2 < 7 ∧ Cond.classLink (xcn q.1) q.2.1 (xcC q.2.2) ∈ lw_tbl ∧ Cond.instantiable (xcC q.2.2) (xcN q.2.2) ∈ lw_tbl ∧ Cond.initialized (xcC q.2.2) ∈ lw_tbl := by decide +kernel
theorem xAr_ok : Cond.arrayClass .int ∈ lw_tbl ∧ Cond.arrayClass .long ∈ lw_tbl := by decide +kernel
theorem x_setC_i (cA : ClassId) (n : Nat) (f : Nat → Int32) (j : Nat) (x : Int32) : (vp_cell cA (n, .inl f)).setSlot j (.int x) = vp_cell cA (n, .inl (x_u1 f j x)) := by
  rw [vp_cell_i, vp_cell_i, arrV_store]
  congr 1
  funext q
  by_cases hq : q = j
  · subst hq; simp [updV, x_u1]
  · simp [updV, x_u1, hq]
theorem x_setC_l (cA : ClassId) (n : Nat) (f : Nat → Int64) (j : Nat) (x : Int64) : (vp_cell cA (n, .inr (.inl f))).setSlot j (.long x) = vp_cell cA (n, .inr (.inl (x_u1 f j x))) := by
  rw [vp_cell_l, vp_cell_l, arrV_store]
  congr 1
  funext q
  by_cases hq : q = j
  · subst hq; simp [updV, x_u1]
  · simp [updV, x_u1, hq]
theorem x_setC_q (cA : ClassId) (n : Nat) (f : Nat → Option Nat) (j : Nat) (x : Nat) : (vp_cell cA (n, .inr (.inr (.inr (.inr f))))).setSlot j (.ref x) = vp_cell cA (n, .inr (.inr (.inr (.inr (x_u1 f j (some x)))))) := by
  rw [vp_cell_q, vp_cell_q, arrV_store]
  congr 1
  funext q
  by_cases hq : q = j
  · subst hq; simp [updV, x_u1, va_rf]
  · simp [updV, x_u1, hq]
theorem x_fs_len (G : XG) (h : XH) (q ci : Nat) (rs : List (Option Nat)) : (x_fs G h q ci rs).length = (x_kd ci).length := by simp [x_fs]
theorem x_fs_get {G : XG} {h : XH} {q ci k kd : Nat} {rs : List (Option Nat)} (hk : (x_kd ci)[k]? = some kd) : (x_fs G h q ci rs)[k]? = some (x_fv G h q rs k kd) := by
  simp [x_fs, hk]
/-- a field of numbers is written: the list of the fields -/
theorem x_fs_setI {G : XG} {h : XH} {q ci b kd : Nat} {rs : List (Option Nat)} {x : Int32} (hk : (x_kd ci)[b]? = some kd) (h1 : kd ≠ 1) (h2 : kd ≠ 2) : x_fs G (x_setI h q b x) q ci rs = (x_fs G h q ci rs).set b (.int x) := by
  apply List.ext_getElem?
  intro j
  rw [List.getElem?_set]
  by_cases hj : b = j
  · subst hj
    have hl : b < (x_fs G h q ci rs).length := by rw [x_fs_len]; exact (List.getElem?_eq_some_iff.mp hk).1
    rw [if_pos rfl, if_pos hl, x_fs_get hk]
    simp [x_fv, x_setI, x_u2, x_u1, h1, h2]
  · rw [if_neg hj]
    cases hc : (x_kd ci)[j]? with
    | none => simp [x_fs, hc]
    | some kj =>
      rw [x_fs_get hc, x_fs_get hc]
      simp [x_fv, x_setI, x_u2, x_u1, Ne.symm hj]
theorem x_fs_setJ {G : XG} {h : XH} {q ci b : Nat} {rs : List (Option Nat)} {x : Int64} (hk : (x_kd ci)[b]? = some 1) : x_fs G (x_setJ h q b x) q ci rs = (x_fs G h q ci rs).set b (.long x) := by
  apply List.ext_getElem?
  intro j
  rw [List.getElem?_set]
  by_cases hj : b = j
  · subst hj
    have hl : b < (x_fs G h q ci rs).length := by rw [x_fs_len]; exact (List.getElem?_eq_some_iff.mp hk).1
    rw [if_pos rfl, if_pos hl, x_fs_get hk]
    simp [x_fv, x_setJ, x_u2, x_u1]
  · rw [if_neg hj]
    cases hc : (x_kd ci)[j]? with
    | none => simp [x_fs, hc]
    | some kj =>
      rw [x_fs_get hc, x_fs_get hc]
      simp [x_fv, x_setJ, x_u2, x_u1, Ne.symm hj]
theorem x_fs_setQ {G : XG} {h h2 : XH} {q ci b x : Nat} {rs : List (Option Nat)} (e1 : h2.2.1 q = h.2.1 q) (e2 : h2.2.2.1 q = h.2.2.1 q) (hk : (x_kd ci)[b]? = some 2) (hb : b < rs.length) : x_fs G h2 q ci (rs.set b (some x)) = (x_fs G h q ci rs).set b (.ref (xA G x)) := by
  apply List.ext_getElem?
  intro j
  rw [List.getElem?_set]
  by_cases hj : b = j
  · subst hj
    have hl : b < (x_fs G h q ci rs).length := by rw [x_fs_len]; exact (List.getElem?_eq_some_iff.mp hk).1
    rw [if_pos rfl, if_pos hl, x_fs_get hk]
    simp [x_fv, hb, va_rf]
  · rw [if_neg hj]
    cases hc : (x_kd ci)[j]? with
    | none => simp [x_fs, hc]
    | some kj =>
      rw [x_fs_get hc, x_fs_get hc]
      simp [x_fv, e1, e2, List.getD_eq_getElem?_getD, List.getElem?_set_ne hj]
section XM
variable {p : Program} {l : Launch} {e : Env} {R : Room} {s : State} {m : MethodId} {args : Array Value} {below : List Frame} {meth : Method} {c0 : Code} {G : XG} {o : Nat} {bytes : ByteArray} {mL : Nat} {H : Heap} {locs : List Loc} {cells slots : Nat} {Q : State → Prop} {pc : Nat} {ls : Array Slot} {rest : List Value}
theorem x_one {D : va_G} {q : Nat × va_E} {H : Heap} (h : va_at D vwCl q H) : va_P D vwCl [q] H := by
  intro k x hk
  have hz : k < 1 := (List.getElem?_eq_some_iff.mp hk).1
  rw [show k = 0 by omega] at hk
  cases hk
  exact h
theorem x_getf (C : xCx p l s m args meth c0 G o bytes mL) {A ci b i : Nat} {fs : List Value} {v : Value} (hf : (o, i, ci, b) ∈ xFL) (he : va_at G.2.2.1 vwCl (A, .inr (ci, fs)) H) (hv : fs[b]? = some v) (hd : decode bytes pc = .ok (.getfield i, 3))
    (k : W p l e R s m args below meth c0 H locs cells slots Q (F0 m (pc + 3) ls (v :: rest))) : W p l e R s m args below meth c0 H locs cells slots Q (F0 m pc ls (.ref A :: rest)) := by
  obtain ⟨hx, hb, hml, hown, hts, hlocks, hS, hfl⟩ := C
  obtain ⟨h1, h2, h3, h4⟩ := xFL_ok _ hf
  exact va_get hx hb hts (xc_in ci h1) hown hS.2.1 (x_one he) 0 rfl (xc_cl ci h1) b h2 (hts _ (xT_of h3 rfl)) (fun x hx => by rw [h4] at hx; exact hx) hv hd k
theorem x_putf (C : xCx p l s m args meth c0 G o bytes mL) {A ci b i : Nat} {fs : List Value} {v : Value} (hf : (o, i, ci, b) ∈ xFL) (hfin : (xcT ci b).2.2.2 = false ∨ (meth.name = "<init>" ∧ xcC ci = xcn o)) (he : va_at G.2.2.1 vwCl (A, .inr (ci, fs)) H) (hn : narrow (xcY ci b) v = v) (hfit : fits (xcY ci b) v = true) (hl : b < fs.length) (hd : decode bytes pc = .ok (.putfield i, 3))
    (kk : ∀ (H1 : Heap) (z : Nat), va_at G.2.2.1 vwCl (A, .inr (ci, fs.set b v)) H1 → H1.size = H.size → (∀ q : Nat, q ≠ A → H1[q]? = H[q]?) → W p l e R s m args below meth c0 H1 (locs ++ [⟨A, z⟩]) cells slots Q (F0 m (pc + 3) ls rest)) : W p l e R s m args below meth c0 H locs cells slots Q (F0 m pc ls (v :: .ref A :: rest)) := by
  obtain ⟨hx, hb, hml, hown, hts, hlocks, hS, hfl⟩ := C
  obtain ⟨f1, f2, f3, f4⟩ := xFL_ok _ hf
  have hc := xc_cl ci f1
  have hin := xc_in ci f1
  have hK := hS.2.1
  have hty := xc_ty ci f1
  have hap := va_apart (own := xcn o) hts hin (xcY ci) hty (xc_nm ci f1) hK hc
  obtain ⟨r, h1, cell, q1, q2, q3, q4⟩ := he
  have hr : r = (xcC ci, xcT ci, xcN ci) := Option.some.inj (h1.symm.trans hc)
  subst hr
  obtain ⟨hSl, hfc, kC, hkC, hkind⟩ := hK.1 ci _ hc
  obtain ⟨cf, kf, fi, f, hi, hsl⟩ := hSl b f2
  have hlay := hts _ (hin _ (u_in_lay f2))
  have hst := (u_facts hfc hkC (u_lays hts hin f2) hi).1
  have hlink := hts _ (xT_of f3 rfl)
  have hsame : ∀ x, s.fieldFound? (xcT ci b).1 (xcT ci b).2.1 (xcT ci b).2.2.1 = some x → s.fieldFound? (xcC ci) (xcT ci b).2.1 (xcT ci b).2.2.1 = some x := fun x hx => by rw [f4] at hx; exact hx
  by_cases hff : (xcT ci b).2.2.2 = true
  · unfold u_lay at hlay
    rw [if_pos hff] at hlay
    have hin2 : meth.name = "<init>" ∧ xcC ci = xcn o := by
      rcases hfin with z | z
      · rw [hff] at z; cases z
      · exact z
    have hcf : m.cls = cf := by
      obtain ⟨_, _, c', _, _, _, -, -, hf', -, -, -, hown2, -⟩ := Cond.laysFinal_spec hlay
      have e1 : c' = cf := by have := hi.symm.trans hf'; simp at this; exact this.1.symm
      rw [f4, hin2.2] at hown2
      rw [← e1]; exact Option.some.inj (hown.symm.trans hown2)
    have h6 := u_fits hfc hkC hkind (Or.inr hlay) hi (hty b f2) hn hfit
    refine W.putFinK hx hb hown hlink (hsame _ hi) hst hcf hin2.1 (by rw [q2]; exact h6) q1 q3 (by rw [hsl]; exact k2_hasslot (q4 b f2)) rfl rfl hd fun H' e1 e2 e3 => ?_
    rw [hsl] at e1 ⊢
    exact kk H' _ ⟨_, hc, t_OB.to (V := updV (vp_V fs) b v) ⟨_, e1, q2, q3, t_set q4 hap f2 v⟩ (fun j _ => vp_updV_set hl v j)⟩ e2 e3
  · unfold u_lay at hlay
    rw [if_neg hff] at hlay
    have h6 := u_store hfc hkC hkind hlay hi (hty b f2) hn hfit
    refine W.putK hx hb (f := f) ⟨hown, hlink, ⟨_, _, _, hsame _ hi⟩, hst⟩ (by rw [q2]; exact h6) q1 q3 (by rw [hsl]; exact k2_hasslot (q4 b f2)) rfl rfl hd fun H' e1 e2 e3 => ?_
    rw [hsl] at e1 ⊢
    exact kk H' _ ⟨_, hc, t_OB.to (V := updV (vp_V fs) b v) ⟨_, e1, q2, q3, t_set q4 hap f2 v⟩ (fun j _ => vp_updV_set hl v j)⟩ e2 e3
end XM
end
section
/-! ===== the instructions that read and write the heap: one theorem ===== -/
def x_isR : FieldType → Bool
  | .object _ => true
  | .array _ => true
  | _ => false
theorem xc_rf : ∀ a, a < 7 → ∀ k, k < xcN a → x_kk (xcY a k) = 2 → x_isR (xcY a k) = true := by decide +kernel
theorem x_kk0 {t : FieldType} (h : x_kk t = 0) : t = .int := by cases t <;> simp [x_kk] at h ⊢
theorem x_kk1 {t : FieldType} (h : x_kk t = 1) : t = .long := by cases t <;> simp [x_kk] at h ⊢
theorem x_kk3 {t : FieldType} (h : x_kk t = 3) : t = .boolean := by cases t <;> simp [x_kk] at h ⊢
def xckM (o : Nat) (ini : Bool) (rt : Option FieldType) (ins : Instr) (a b c : Nat) : Bool := match ins with
  | .getfield i => decide ((o, i, a, b) ∈ xFL) && decide ((x_kd a)[b]? = some c)
  | .putfield i => decide ((o, i, a, b) ∈ xFL) && decide ((x_kd a)[b]? = some c) && (decide ((xcT a b).2.2.2 = false) || (ini && decide (xcC a = xcn o)))
  | .newarray .int => decide (a = 1)
  | .newarray .long => decide (a = 2)
  | .newarray _ => false
  | .anewarray i => decide ((o, i, 1) ∈ xCL)
  | .new i => decide (c = 1) || (decide ((o, i, a) ∈ xCL) && decide (b = xcN a))
  | .ireturn => (decide (a = 1) && decide (rt = some .int)) || (decide (a = 2) && decide (rt = some .boolean))
  | .lreturn => decide (rt = some .long)
  | .areturn => match rt with
    | some t => x_isR t
    | none => false
  | .return_ => decide (rt = none)
  | _ => true
theorem x_set_self {α : Type} {l : List α} {i : Nat} {a : α} (h : l[i]? = some a) : l.set i a = l := by
  apply List.ext_getElem?
  intro j
  rw [List.getElem?_set]
  split
  · rename_i e
    subst e
    split
    · exact h.symm
    · rename_i z
      exact absurd (List.getElem?_eq_some_iff.mp h).1 z
  · rfl
theorem xV_rf (G : XG) (x : Option Nat) : xV G (va_rf x) = va_rf (x.map (xA G)) := by cases x <;> rfl
section XM2
variable {p : Program} {l : Launch} {e : Env} {R : Room} {s : State} {m : MethodId} {args : Array Value} {below : List Frame} {meth : Method} {c0 : Code} {G : XG} {o : Nat} {bytes : ByteArray} {mL : Nat} {n0 z0 : Nat} {Q : State → Prop}
theorem x_bad_not {j : Int32} {n : Nat} (h : ¬ (j < 0 ∨ n ≤ j.toNatClampNeg)) : vp_in j n := h
/-- an int is written to a field -/
theorem x_stI (C : xCx p l s m args meth c0 G o bytes mL) {pc i ci b c q : Nat} {x : Int32} {L : XL} {st : List Value} {h : XH} {rs : List (Option Nat)} (hf : (o, i, ci, b) ∈ xFL) (hk : (x_kd ci)[b]? = some c) (hfin : (xcT ci b).2.2.2 = false ∨ (meth.name = "<init>" ∧ xcC ci = xcn o)) (ht : h.1[q]? = some (0, ci, rs)) (hcx : c = 0 ∨ c = 3 ∧ (x = 0 ∨ x = 1)) (hd : decode bytes pc = .ok (.putfield i, 3))
    (k : xW p l e R s m args below meth c0 G n0 z0 Q (pc + 3, L, st) (x_setI h q b x)) : xW p l e R s m args below meth c0 G n0 z0 Q (pc, L, .int x :: .ref q :: st) h := by
  intro H locs ls cells slots hR hV hl hc hz
  obtain ⟨f1, f2, -, -⟩ := xFL_ok _ hf
  have hkk : x_kk (xcY ci b) = c := by
    have h9 := xc_kd ci f1 b f2
    rw [hk] at h9
    exact (Option.some.inj h9).symm
  have he : va_at G.2.2.1 vwCl (xA G q, .inr (ci, x_fs G h q ci rs)) H := hR.2.2 q _ ht
  have hnf : narrow (xcY ci b) (.int x) = .int x ∧ fits (xcY ci b) (.int x) = true := by
    rcases hcx with h0 | ⟨h3, hx01⟩
    · rw [x_kk0 (hkk.trans h0)]
      exact ⟨rfl, rfl⟩
    · rw [x_kk3 (hkk.trans h3)]
      rcases hx01 with z | z <;> subst z <;> exact ⟨by decide, by decide⟩
  have h12 : c ≠ 1 ∧ c ≠ 2 := by omega
  refine x_putf C hf hfin he hnf.1 hnf.2 (by rw [x_fs_len]; exact (List.getElem?_eq_some_iff.mp hk).1) hd (fun H1 z e1 e2 e3 => ?_)
  have hq := xR_ne0 hR ht (show (0 : Nat) ≠ 5 by decide)
  obtain ⟨hx, hb, hml, hown, hts, hlocks, hS, hfl⟩ := C
  refine k H1 _ ls cells slots (xR_put (t2 := (0, ci, rs)) hS.1 hR ht (show (0 : Nat) ≠ 5 by decide) ?_ ?_ (fun _ _ => rfl) e2 e3 ?_) (hV.put e2 e3 (xA_in hq)) hl hc hz
  · show h.1 = h.1.set q _
    exact (x_set_self ht).symm
  · intro k' hk'
    simp [x_setI, x_u2, hk']
  · show va_at _ _ (xA G q, .inr (ci, x_fs G (x_setI h q b x) q ci rs)) H1
    rw [x_fs_setI hk h12.1 h12.2]
    exact e1
theorem x_stJ (C : xCx p l s m args meth c0 G o bytes mL) {pc i ci b q : Nat} {x : Int64} {L : XL} {st : List Value} {h : XH} {rs : List (Option Nat)} (hf : (o, i, ci, b) ∈ xFL) (hk : (x_kd ci)[b]? = some 1) (hfin : (xcT ci b).2.2.2 = false ∨ (meth.name = "<init>" ∧ xcC ci = xcn o)) (ht : h.1[q]? = some (0, ci, rs)) (hd : decode bytes pc = .ok (.putfield i, 3))
    (k : xW p l e R s m args below meth c0 G n0 z0 Q (pc + 3, L, st) (x_setJ h q b x)) : xW p l e R s m args below meth c0 G n0 z0 Q (pc, L, .long x :: .ref q :: st) h := by
  intro H locs ls cells slots hR hV hl hc hz
  obtain ⟨f1, f2, -, -⟩ := xFL_ok _ hf
  have hkk : x_kk (xcY ci b) = 1 := by
    have h9 := xc_kd ci f1 b f2
    rw [hk] at h9
    exact (Option.some.inj h9).symm
  have he : va_at G.2.2.1 vwCl (xA G q, .inr (ci, x_fs G h q ci rs)) H := hR.2.2 q _ ht
  have hnf : narrow (xcY ci b) (.long x) = .long x ∧ fits (xcY ci b) (.long x) = true := by
    rw [x_kk1 hkk]
    exact ⟨rfl, rfl⟩
  refine x_putf C hf hfin he hnf.1 hnf.2 (by rw [x_fs_len]; exact (List.getElem?_eq_some_iff.mp hk).1) hd (fun H1 z e1 e2 e3 => ?_)
  have hq := xR_ne0 hR ht (show (0 : Nat) ≠ 5 by decide)
  obtain ⟨hx, hb, hml, hown, hts, hlocks, hS, hfl⟩ := C
  refine k H1 _ ls cells slots (xR_put (t2 := (0, ci, rs)) hS.1 hR ht (show (0 : Nat) ≠ 5 by decide) ?_ (fun _ _ => rfl) ?_ e2 e3 ?_) (hV.put e2 e3 (xA_in hq)) hl hc hz
  · show h.1 = h.1.set q _
    exact (x_set_self ht).symm
  · intro k' hk'
    simp [x_setJ, x_u2, hk']
  · show va_at _ _ (xA G q, .inr (ci, x_fs G (x_setJ h q b x) q ci rs)) H1
    rw [x_fs_setJ hk]
    exact e1
theorem x_stQ (C : xCx p l s m args meth c0 G o bytes mL) {pc i ci b q x : Nat} {L : XL} {st : List Value} {h : XH} {rs : List (Option Nat)} (hf : (o, i, ci, b) ∈ xFL) (hk : (x_kd ci)[b]? = some 2) (hfin : (xcT ci b).2.2.2 = false ∨ (meth.name = "<init>" ∧ xcC ci = xcn o)) (ht : h.1[q]? = some (0, ci, rs)) (hbr : b < rs.length) (hd : decode bytes pc = .ok (.putfield i, 3))
    (k : xW p l e R s m args below meth c0 G n0 z0 Q (pc + 3, L, st) (x_setT h q (0, ci, rs.set b (some x)))) : xW p l e R s m args below meth c0 G n0 z0 Q (pc, L, .ref x :: .ref q :: st) h := by
  intro H locs ls cells slots hR hV hl hc hz
  obtain ⟨f1, f2, -, -⟩ := xFL_ok _ hf
  have hkk : x_kk (xcY ci b) = 2 := by
    have h9 := xc_kd ci f1 b f2
    rw [hk] at h9
    exact (Option.some.inj h9).symm
  have he : va_at G.2.2.1 vwCl (xA G q, .inr (ci, x_fs G h q ci rs)) H := hR.2.2 q _ ht
  have hnf : narrow (xcY ci b) (.ref (xA G x)) = .ref (xA G x) ∧ fits (xcY ci b) (.ref (xA G x)) = true := by
    have h9 := xc_rf ci f1 b f2 hkk
    generalize xcY ci b = ty at h9
    cases ty <;> first | (simp [x_isR] at h9; done) | exact ⟨rfl, rfl⟩
  refine x_putf C hf hfin he hnf.1 hnf.2 (by rw [x_fs_len]; exact (List.getElem?_eq_some_iff.mp hk).1) hd (fun H1 z e1 e2 e3 => ?_)
  have hq := xR_ne0 hR ht (show (0 : Nat) ≠ 5 by decide)
  obtain ⟨hx, hb, hml, hown, hts, hlocks, hS, hfl⟩ := C
  refine k H1 _ ls cells slots (xR_put (t2 := (0, ci, rs.set b (some x))) hS.1 hR ht (show (0 : Nat) ≠ 5 by decide) rfl (fun _ _ => rfl) (fun _ _ => rfl) e2 e3 ?_) (hV.put e2 e3 (xA_in hq)) hl (by rw [hc]; simp [x_setT]) (by rw [hz]; rfl)
  show va_at _ _ (xA G q, .inr (ci, x_fs G (x_setT h q (0, ci, rs.set b (some x))) q ci (rs.set b (some x)))) H1
  rw [x_fs_setQ (h := h) (h2 := x_setT h q (0, ci, rs.set b (some x))) rfl rfl hk hbr]
  exact e1
/-- an array's place is written -/
theorem x_arr (C : xCx p l s m args meth c0 G o bytes mL) {q : Nat} {t t2 : XT} {h h2 : XH} {H H1 : Heap} {locs : List Loc} {pc : Nat} {L : XL} {st : List Value} {ls : Array Slot} {cells slots z : Nat} (hR : xR G h H) (hV : va_S (xFr G) s.heap H locs) (hl : x_ls G ls L) (hc : n0 + cells = h.1.length) (hz : z0 + slots = h.2.2.2) (ht : h.1[q]? = some t) (h5 : t.1 ≠ 5) (e0 : h2.1 = h.1.set q t2) (ez2 : h2.2.2.2 = h.2.2.2) (e1 : ∀ k, k ≠ q → h2.2.1 k = h.2.1 k) (e2 : ∀ k, k ≠ q → h2.2.2.1 k = h.2.2.1 k) (ez : H1.size = H.size) (eo : ∀ a : Nat, a ≠ xA G q → H1[a]? = H[a]?) (hx : x_at G h2 H1 q t2)
    (k : xW p l e R s m args below meth c0 G n0 z0 Q (pc, L, st) h2) : W p l e R s m args below meth c0 H1 (locs ++ [⟨xA G q, z⟩]) cells slots Q (F0 m pc ls (st.map (xV G))) := by
  have hq := xR_ne0 hR ht h5
  obtain ⟨-, -, -, -, -, -, hS, -⟩ := C
  exact k H1 _ ls cells slots (xR_put hS.1 hR ht h5 e0 e1 e2 ez eo hx) (hV.put ez eo (xA_in hq)) hl (by rw [hc, e0, List.length_set]) (by rw [hz, ez2])
theorem x_born {a : Nat} (ha : a < 7) {G : XG} {h : XH} {q b : Nat} (h1 : h.2.1 q = fun _ => 0) (h2 : h.2.2.1 q = fun _ => 0) : ∀ j, j < xcN a → defaultValue (xcY a j) = vp_V (x_fs G h q a (List.replicate b none)) j := by
  intro j hj
  have hk := xc_kd a ha j hj
  have hr := xc_rf a ha j hj
  unfold vp_V
  rw [List.getD_eq_getElem?_getD, x_fs_get hk]
  generalize xcY a j = ty at hr ⊢
  have hn : ((List.replicate b (none : Option Nat)).getD j none) = none := by
    rw [List.getD_eq_getElem?_getD, List.getElem?_replicate]
    split <;> rfl
  have hn2 : ((List.replicate b (none : Option Nat))[j]?.getD none) = none := by
    rw [List.getElem?_replicate]
    split <;> rfl
  cases ty <;> simp [x_kk, x_isR] at hr ⊢ <;> simp [x_fv, h1, h2, hn2, va_rf, defaultValue]
theorem x_sgrow {G : XG} {H0 H H1 : Heap} {locs : List Loc} (hV : va_S (xFr G) H0 H locs) (z1 : H1.size = H.size + 1) (o1 : ∀ q : Nat, q < H.size → H1[q]? = H[q]?) : va_S (xFr G) H0 H1 locs :=
  ⟨Nat.le_trans hV.1 (by omega), fun x h1 h2 => (o1 x (Nat.lt_of_lt_of_le h1 hV.1)).trans (hV.2.1 x h1 h2), hV.2.2⟩
set_option maxHeartbeats 8000000 in
theorem xmem_ok (C : xCx p l s m args meth c0 G o bytes mL) {pc : Nat} {ins : Instr} {a b c : Nat} {ini : Bool} {rt : Option FieldType} {L : XL} {st : List Value} {h h2 : XH} {fr2 : XF} (hini : ini = true → meth.name = "<init>")
    (hd : decode bytes pc = .ok (ins, xlen ins a)) (hck : xckM o ini rt ins a b c = true) (e0 : xmem pc ins a b c L st h = some (.inl (fr2, h2))) (hcap : h2.1.length ≤ n0 + R.cells ∧ h2.2.2.2 ≤ z0 + R.slots) (k : xW p l e R s m args below meth c0 G n0 z0 Q fr2 h2) : xW p l e R s m args below meth c0 G n0 z0 Q (pc, L, st) h := by
  have C' := C
  obtain ⟨hx, hb, hml, hown, hts, hlocks, hS, hfl⟩ := C'
  unfold xmem at e0
  split at e0
  case h_1 i q st =>
    simp only [xckM, Bool.and_eq_true, decide_eq_true_eq] at hck
    split at e0
    · rename_i ci rs ht
      split at e0
      · rename_i hci
        subst hci
        intro H locs ls cells slots hR hV hl hc hz
        have he : va_at G.2.2.1 vwCl (xA G q, .inr (ci, x_fs G h q ci rs)) H := hR.2.2 q _ ht
        split at e0
        · cases e0
          exact x_getf C hck.1 he (v := .int (h.2.1 q b)) (x_fs_get hck.2) hd (k H locs ls cells slots hR hV hl hc hz)
        · cases e0
          exact x_getf C hck.1 he (v := .int (h.2.1 q b)) (x_fs_get hck.2) hd (k H locs ls cells slots hR hV hl hc hz)
        · cases e0
          exact x_getf C hck.1 he (v := .long (h.2.2.1 q b)) (x_fs_get hck.2) hd (k H locs ls cells slots hR hV hl hc hz)
        · cases e0
          have k2 := k H locs ls cells slots hR hV hl hc hz
          simp only [List.map_cons, xV_rf] at k2
          exact x_getf C hck.1 he (v := va_rf ((rs.getD b none).map (xA G))) (x_fs_get hck.2) hd k2
        · cases e0
      · cases e0
    · cases e0
  case h_2 i x q st =>
    simp only [xckM, Bool.and_eq_true, Bool.or_eq_true, decide_eq_true_eq] at hck
    obtain ⟨⟨f1, f2⟩, f3⟩ := hck
    have f3 : (xcT a b).2.2.2 = false ∨ (meth.name = "<init>" ∧ xcC a = xcn o) := f3.imp id (fun z => ⟨hini z.1, z.2⟩)
    split at e0
    · rename_i ci rs ht
      split at e0
      · rename_i hci
        subst hci
        split at e0
        · cases e0
          exact x_stI C f1 f2 f3 ht (Or.inl rfl) hd k
        · split at e0
          · rename_i hx01
            cases e0
            exact x_stI C f1 f2 f3 ht (Or.inr ⟨rfl, hx01⟩) hd k
          · cases e0
        · cases e0
      · cases e0
    · cases e0
  case h_3 i x q st =>
    simp only [xckM, Bool.and_eq_true, Bool.or_eq_true, decide_eq_true_eq] at hck
    obtain ⟨⟨f1, f2⟩, f3⟩ := hck
    have f3 : (xcT a b).2.2.2 = false ∨ (meth.name = "<init>" ∧ xcC a = xcn o) := f3.imp id (fun z => ⟨hini z.1, z.2⟩)
    split at e0
    · rename_i ci rs ht
      split at e0
      · rename_i hci
        obtain ⟨hci, hc1⟩ := hci
        subst hci hc1
        cases e0
        exact x_stJ C f1 f2 f3 ht hd k
      · cases e0
    · cases e0
  case h_4 i x q st =>
    simp only [xckM, Bool.and_eq_true, Bool.or_eq_true, decide_eq_true_eq] at hck
    obtain ⟨⟨f1, f2⟩, f3⟩ := hck
    have f3 : (xcT a b).2.2.2 = false ∨ (meth.name = "<init>" ∧ xcC a = xcn o) := f3.imp id (fun z => ⟨hini z.1, z.2⟩)
    split at e0
    · rename_i ci rs ht
      split at e0
      · rename_i hci
        obtain ⟨hci, hc1, hbr⟩ := hci
        subst hci hc1
        cases e0
        exact x_stQ C f1 f2 f3 ht hbr hd k
      · cases e0
    · cases e0
  case h_5 j q st =>
    intro H locs ls cells slots hR hV hl hc hz
    split at e0
    · rename_i n rs ht
      split at e0
      · cases e0
      · rename_i hin
        cases e0
        have he : va_at G.2.2.1 vwCl (xA G q, .inl (G.2.2.2.1, (n, .inl (h.2.1 q)))) H := hR.2.2 q _ ht
        exact va_iald hx hb hS.2.1 (x_one he) 0 0 rfl rfl hin hd (k H locs ls cells slots hR hV hl hc hz)
    · rename_i n rs ht
      split at e0
      · cases e0
      · rename_i hin
        cases e0
        obtain ⟨g0, g1, g2, g3⟩ : q = 0 ∧ H[xA G q]? = some G.2.2.2.2.2.2 ∧ G.2.2.2.2.2.2.slots.size = n ∧ ∀ j, j < n → G.2.2.2.2.2.2.slots[j]? = some (.int (h.2.1 0 j)) := hR.2.2 q _ ht
        subst g0
        have hlt : j.toNatClampNeg < n := Nat.not_le.mp fun z => hin (Or.inr z)
        exact W.iald (v := .int (h.2.1 0 j.toNatClampNeg)) hx hb g1 hS.2.2.1.1 hS.2.2.1.2 (by rw [g2]; exact hin) (g3 _ hlt) rfl rfl hd (k H locs ls cells slots hR hV hl hc hz)
    · cases e0
  case h_6 j q st =>
    intro H locs ls cells slots hR hV hl hc hz
    split at e0
    · rename_i n rs ht
      split at e0
      · cases e0
      · rename_i hin
        cases e0
        have he : va_at G.2.2.1 vwCl (xA G q, .inl (G.2.2.2.2.1, (n, .inr (.inl (h.2.2.1 q))))) H := hR.2.2 q _ ht
        exact va_lald hx hb hS.2.1 (x_one he) 0 1 rfl rfl hin hd (k H locs ls cells slots hR hV hl hc hz)
    · cases e0
  case h_7 j q st =>
    intro H locs ls cells slots hR hV hl hc hz
    split at e0
    · rename_i n rs ht
      split at e0
      · cases e0
      · rename_i hin
        cases e0
        have he : va_at G.2.2.1 vwCl (xA G q, .inl (G.2.2.2.2.2.1, (n, .inr (.inr (.inr (.inr (fun i => (rs.getD i none).map (xA G)))))))) H := hR.2.2 q _ ht
        have k2 := k H locs ls cells slots hR hV hl hc hz
        simp only [List.map_cons, xV_rf] at k2
        exact va_aldq hx hb hS.2.1 (x_one he) 0 2 rfl rfl hin hd k2
    · cases e0
  case h_8 x j q st =>
    intro H locs ls cells slots hR hV hl hc hz
    split at e0
    · rename_i n rs ht
      split at e0
      · cases e0
      · rename_i hin
        cases e0
        have he : H[xA G q]? = some (vp_cell G.2.2.2.1 (n, .inl (h.2.1 q))) := hR.2.2 q _ ht
        refine W.iast hx hb he ((hS.2.1.2 0 _ rfl).1 n (fun j => .int (h.2.1 q j))) (fun z => by cases z) (by show ¬ (j < 0 ∨ (arrV _ _ _).slots.size ≤ _); rw [arrV_size]; exact hin) rfl rfl hd (fun H1 e1 e2 e3 => ?_)
        refine x_arr C (h2 := x_setI h q j.toNatClampNeg x) (t2 := (1, n, rs)) hR hV hl hc hz ht (show (1 : Nat) ≠ 5 by decide) (x_set_self ht).symm rfl (fun k' hk' => by simp [x_setI, x_u2, hk']) (fun _ _ => rfl) e2 e3 ?_ k
        show H1[xA G q]? = some (vp_cell G.2.2.2.1 (n, .inl ((x_setI h q j.toNatClampNeg x).2.1 q)))
        rw [e1, x_setC_i]
        simp [x_setI, x_u2]
    · cases e0
  case h_9 x j q st =>
    intro H locs ls cells slots hR hV hl hc hz
    split at e0
    · rename_i n rs ht
      split at e0
      · cases e0
      · rename_i hin
        cases e0
        have he : H[xA G q]? = some (vp_cell G.2.2.2.2.1 (n, .inr (.inl (h.2.2.1 q)))) := hR.2.2 q _ ht
        refine W.last hx hb he ((hS.2.1.2 1 _ rfl).1 n (fun j => .long (h.2.2.1 q j))) (fun z => by cases z) (by show ¬ (j < 0 ∨ (arrV _ _ _).slots.size ≤ _); rw [arrV_size]; exact hin) rfl rfl hd (fun H1 e1 e2 e3 => ?_)
        refine x_arr C (h2 := x_setJ h q j.toNatClampNeg x) (t2 := (2, n, rs)) hR hV hl hc hz ht (show (2 : Nat) ≠ 5 by decide) (x_set_self ht).symm rfl (fun _ _ => rfl) (fun k' hk' => by simp [x_setJ, x_u2, hk']) e2 e3 ?_ k
        show H1[xA G q]? = some (vp_cell G.2.2.2.2.1 (n, .inr (.inl ((x_setJ h q j.toNatClampNeg x).2.2.1 q))))
        rw [e1, x_setC_l]
        simp [x_setJ, x_u2]
    · cases e0
  case h_10 x j q st =>
    intro H locs ls cells slots hR hV hl hc hz
    split at e0
    · rename_i n rs rs2 ht htx
      split at e0
      · cases e0
      · rename_i hin
        cases e0
        have hlt : j.toNatClampNeg < n := by
          rcases Nat.lt_or_ge j.toNatClampNeg n with z | z
          · exact z
          · exact absurd (Or.inr (Or.inl z)) hin
        have hlr : j.toNatClampNeg < rs.length := by
          rcases Nat.lt_or_ge j.toNatClampNeg rs.length with z | z
          · exact z
          · exact absurd (Or.inr (Or.inr z)) hin
        have hj0 : ¬ j < 0 := fun z => hin (Or.inl z)
        have he : H[xA G q]? = some (vp_cell G.2.2.2.2.2.1 (n, .inr (.inr (.inr (.inr (fun i => (rs.getD i none).map (xA G))))))) := hR.2.2 q _ ht
        obtain ⟨r', hr', cellV, g1, g2, g3, -⟩ : va_at G.2.2.1 vwCl (xA G x, .inr (1, x_fs G h x 1 rs2)) H := hR.2.2 x _ htx
        have hcls := (hS.2.1.1 1 (RX1, TX1, 3) rfl).2
        obtain ⟨kA, comp, k1, k2, k3, -⟩ := (hS.2.1.2 2 _ rfl).2
        have hcomp : comp = G.2.2.1.1 1 := Option.some.inj (k3.symm.trans hcls.1)
        subst hcomp
        obtain ⟨kC, hkC, -⟩ := hcls.2
        refine W.aast hx hb he (fun z h => by cases h) (fun h => by cases h) k1 k2 rfl hkC ⟨hj0, by show _ < (arrV _ _ _).slots.size; rw [arrV_size]; exact hlt⟩ g1 (fun z h => by rw [g3] at h; cases h) (by rw [g2]; exact hkC) (by rw [g2]; exact va_assign hcls) rfl rfl hd fun H1 e1 e2 e3 => ?_
        refine x_arr C (h2 := x_setT h q (3, n, rs.set j.toNatClampNeg (some x))) (t2 := (3, n, rs.set j.toNatClampNeg (some x))) hR hV hl hc hz ht (show (3 : Nat) ≠ 5 by decide) rfl rfl (fun _ _ => rfl) (fun _ _ => rfl) e2 e3 ?_ k
        show H1[xA G q]? = some (vp_cell G.2.2.2.2.2.1 (n, .inr (.inr (.inr (.inr (fun i => ((rs.set j.toNatClampNeg (some x)).getD i none).map (xA G)))))))
        rw [e1, x_setC_q]
        congr 7
        funext i
        by_cases hi : i = j.toNatClampNeg
        · subst hi
          simp [x_u1, hlr]
        · simp [x_u1, hi, List.getD_eq_getElem?_getD, List.getElem?_set_ne (Ne.symm hi)]
    · cases e0
  case h_11 q st =>
    intro H locs ls cells slots hR hV hl hc hz
    split at e0
    · rename_i n rs ht
      cases e0
      have he : va_at G.2.2.1 vwCl (xA G q, .inl (G.2.2.2.1, (n, .inl (h.2.1 q)))) H := hR.2.2 q _ ht
      exact va_alen hx hb hS.2.1 (x_one he) 0 0 rfl rfl rfl hd (k H locs ls cells slots hR hV hl hc hz)
    · rename_i n rs ht
      cases e0
      have he : va_at G.2.2.1 vwCl (xA G q, .inl (G.2.2.2.2.1, (n, .inr (.inl (h.2.2.1 q))))) H := hR.2.2 q _ ht
      exact va_alen hx hb hS.2.1 (x_one he) 0 1 rfl rfl rfl hd (k H locs ls cells slots hR hV hl hc hz)
    · rename_i n rs ht
      cases e0
      have he : va_at G.2.2.1 vwCl (xA G q, .inl (G.2.2.2.2.2.1, (n, .inr (.inr (.inr (.inr (fun i => (rs.getD i none).map (xA G)))))))) H := hR.2.2 q _ ht
      exact va_alen hx hb hS.2.1 (x_one he) 0 2 rfl rfl rfl hd (k H locs ls cells slots hR hV hl hc hz)
    · rename_i n rs ht
      cases e0
      obtain ⟨g0, g1, g2, g3⟩ : q = 0 ∧ H[xA G q]? = some G.2.2.2.2.2.2 ∧ G.2.2.2.2.2.2.slots.size = n ∧ ∀ j, j < n → G.2.2.2.2.2.2.slots[j]? = some (.int (h.2.1 0 j)) := hR.2.2 q _ ht
      exact W.alen (n := Int32.ofNat n) hx hb g1 hS.2.2.1.1 (by rw [g2] <;> rfl) rfl rfl hd (k H locs ls cells slots hR hV hl hc hz)
    · cases e0
  case h_12 t n st =>
    intro H locs ls cells slots hR hV hl hc hz
    split at e0
    · cases e0
    · rename_i hin
      cases e0
      have hn : ¬ n < 0 := fun z => hin (Or.inl z)
      have hn2 : n.toNatClampNeg ≤ 67108864 := Nat.not_lt.mp fun z => hin (Or.inr z)
      have hcap' : cells + 1 ≤ R.cells ∧ slots + n.toNatClampNeg ≤ R.slots := by
        simp only [x_new, List.length_append, List.length_singleton] at hcap
        omega
      have k1 := fun H1 hR1 hV1 hz1 => k H1 locs ls (cells + 1) (slots + n.toNatClampNeg) hR1 hV1 hl (by simp only [x_new, List.length_append, List.length_singleton]; omega) hz1
      simp only [List.map_cons, xV] at k1
      rw [xR_top hR] at k1
      cases t
      case int =>
        have ha : a = 1 := of_decide_eq_true hck
        subst ha
        refine va_newaK (atype := .int) hx hb (hts _ (xT_of xAr_ok.1 rfl)) rfl hd rfl hn rfl (by show n.toNatClampNeg * 4 ≤ _; omega) hcap'.1 hcap'.2 rfl fun H1 cA e1 z1 o1 hAr hNm => ?_
        have hcA : cA = G.2.2.2.1 := Option.some.inj (hNm.symm.trans (hS.2.1.2 0 _ rfl).2)
        subst hcA
        refine k1 H1 (xR_new hR z1 o1 ?_ (xR_lt hS.1 hR)) (x_sgrow hV z1 o1) (by simp only [x_new]; omega)
        show H1[xA G h.1.length]? = some (vp_cell G.2.2.2.1 (n.toNatClampNeg, .inl ((x_new h (1, n.toNatClampNeg, []) n.toNatClampNeg).2.1 h.1.length)))
        rw [xR_top hR, e1, vp_cell_i]
        simp [x_new, newarray.typeOf, defaultValue]
      case long =>
        have ha : a = 2 := of_decide_eq_true hck
        subst ha
        refine va_newaK (atype := .long) hx hb (hts _ (xT_of xAr_ok.2 rfl)) rfl hd rfl hn rfl (by show n.toNatClampNeg * 8 ≤ _; omega) hcap'.1 hcap'.2 rfl fun H1 cA e1 z1 o1 hAr hNm => ?_
        have hcA : cA = G.2.2.2.2.1 := Option.some.inj (hNm.symm.trans (hS.2.1.2 1 _ rfl).2)
        subst hcA
        refine k1 H1 (xR_new hR z1 o1 ?_ (xR_lt hS.1 hR)) (x_sgrow hV z1 o1) (by simp only [x_new]; omega)
        show H1[xA G h.1.length]? = some (vp_cell G.2.2.2.2.1 (n.toNatClampNeg, .inr (.inl ((x_new h (2, n.toNatClampNeg, []) n.toNatClampNeg).2.2.1 h.1.length))))
        rw [xR_top hR, e1, vp_cell_l]
        simp [x_new, newarray.typeOf, defaultValue]
      all_goals (exact absurd hck (by simp [xckM]))
  case h_13 i n st =>
    intro H locs ls cells slots hR hV hl hc hz
    split at e0
    · cases e0
    · rename_i hin
      cases e0
      have hn : ¬ n < 0 := fun z => hin (Or.inl z)
      have hn2 : n.toNatClampNeg ≤ 67108864 := Nat.not_lt.mp fun z => hin (Or.inr z)
      have hcap' : cells + 1 ≤ R.cells ∧ slots + n.toNatClampNeg ≤ R.slots := by
        simp only [x_new, List.length_append, List.length_singleton] at hcap
        omega
      have k1 := fun H1 hR1 hV1 hz1 => k H1 locs ls (cells + 1) (slots + n.toNatClampNeg) hR1 hV1 hl (by simp only [x_new, List.length_append, List.length_singleton]; omega) hz1
      simp only [List.map_cons, xV] at k1
      rw [xR_top hR] at k1
      obtain ⟨-, w1, -, -⟩ := xCL_ok _ (of_decide_eq_true hck)
      refine W.anew hx hb hown (hts _ (xT_of w1 rfl)) (va_AO.use hS.2.2.2.2.2.2.1) rfl hd rfl hn (by omega) hcap'.1 hcap'.2 fun cA kA comp f1 f2 f3 f4 => ?_
      generalize hH1 : H.push ({ cls := cA, slots := Array.replicate n.toNatClampNeg .null, vm := .none } : Cell) = H1
      have z1 : H1.size = H.size + 1 := by rw [← hH1, Array.size_push]
      have e1 : H1[H.size]? = some (arrV cA n.toNatClampNeg (fun _ => .null)) := by rw [← hH1, Array.getElem?_push_size, ← arrV_new]
      have o1 : ∀ q : Nat, q < H.size → H1[q]? = H[q]? := fun q hq => by rw [← hH1, Array.getElem?_push, if_neg (Nat.ne_of_lt hq)]
      obtain ⟨kA', comp', g1, g2, g3, g4⟩ := (hS.2.1.2 2 _ rfl).2
      have hcA : cA = G.2.2.2.2.2.1 := Option.some.inj (f1.symm.trans g4)
      subst hcA
      refine k1 H1 (xR_new hR z1 o1 ?_ (xR_lt hS.1 hR)) (x_sgrow hV z1 o1) (by simp only [x_new]; omega)
      show H1[xA G h.1.length]? = some (vp_cell G.2.2.2.2.2.1 (n.toNatClampNeg, .inr (.inr (.inr (.inr (fun i => ((List.replicate n.toNatClampNeg (none : Option Nat)).getD i none).map (xA G)))))))
      rw [xR_top hR, e1, vp_cell_q]
      congr 2
      funext i
      have hnn : ((List.replicate n.toNatClampNeg (none : Option Nat)).getD i none) = none := by
        rw [List.getD_eq_getElem?_getD, List.getElem?_replicate]
        split <;> rfl
      rw [hnn]
      rfl
  case h_14 i st =>
    intro H locs ls cells slots hR hV hl hc hz
    split at e0
    · cases e0
      simp only [xckM, Bool.or_eq_true, Bool.and_eq_true, decide_eq_true_eq] at hck
      rcases hck with z | ⟨f1, f2⟩
      · cases z
      subst f2
      obtain ⟨w0, w1, w2, w3⟩ := xCL_ok _ f1
      have hcap' : cells + 1 ≤ R.cells ∧ slots + xcN a ≤ R.slots := by
        simp only [x_new, List.length_append, List.length_singleton] at hcap
        omega
      have hcc := xc_cl a w0
      have hKn := hS.2.1.1 a _ hcc
      have k1 := fun H1 hR1 hV1 hz1 => k H1 locs ls (cells + 1) (slots + xcN a) hR1 hV1 hl (by simp only [x_new, List.length_append, List.length_singleton]; omega) hz1
      simp only [List.map_cons, xV] at k1
      rw [xR_top hR] at k1
      refine W.newcK hx hb hown (hts _ (xT_of w1 rfl)) (hts _ (xT_of w2 rfl)) (hts _ (xT_of w3 rfl)) rfl hd hcap'.1 hcap'.2 hKn.2.1 rfl fun H1 kC hkC e1 z1 o1 => ?_
      refine k1 H1 (xR_new hR z1 o1 ?_ (xR_lt hS.1 hR)) (x_sgrow hV z1 o1) (by simp only [x_new]; omega)
      refine ⟨_, hcc, ?_⟩
      show t_OB (xA G h.1.length) _ _ _ _ _
      rw [xR_top hR]
      exact (u_born (xcY a) hts (xc_in a w0) hKn hkC e1 (xc_ty a w0)).to (x_born w0 (by simp [x_new]) (by simp [x_new]))
    · split at e0 <;> cases e0
    · cases e0
  case h_15 x => split at e0 <;> cases e0
  case h_16 x => cases e0
  case h_17 x => cases e0
  case h_18 => cases e0
  case h_19 => cases e0
  case h_20 => cases e0
end XM2
end
section
/-! ===== 'throw new E("text")': these two follow vx_throwS and vx_throwSW of the kit's rows, with the heap's exact size ===== -/
section XTH
variable {p : Program} {l : Launch} {e : Env} {R : Room} {s : State} {m : MethodId} {args : Array Value} {below : List Frame} {meth : Method} {c : Code} {H : Heap} {locs : List Loc} {cells slots : Nat} {Q : State → Prop}
variable {mc ms : Nat} {free : Addr → Prop} {A0 A1 : Nat → Prop} {H0 : Heap} {a : Array Value} {ls : Array Slot} {st0 rest : List Value}
variable {Qc : Array Value → State → Outcome → State → Prop} {XC : String → State → State → Prop}
theorem x_throwS {cc : ByteArray} {pc : Nat} (hexec : p.tables.exec = Jvm.exec) (hb : c.code = cc) (hl : l.stackTraces = false) {own cls text : String} {names : List String} {ik is ic mc ms sa : Nat} {A : Nat → Prop}
    (hown : s.vm.findClass own = some m.cls) (hcls : Bundle.fit cls = true) (hnames : ∀ n ∈ names, Bundle.fit n = true)
    (hk : (Cond.classLink own ik cls).before args s = true) (hini : (Cond.initialized cls).before args s = true) (hstr : vk_R own is text sa s) (hat : ∀ w ∈ vx_atS own ic cls names, w.before args s = true)
    (hgood : ∀ w ∈ Cond.classLink own ik cls :: Cond.initialized cls :: vx_atS own ic cls names, vx_ot w = true)
    (hU : vx_Zq Bundle.tN "UNASSIGNED_STACK" Bundle.steD A s s.heap) (hN : vx_Zq Bundle.tN "SUPPRESSED_SENTINEL" Bundle.listD A s s.heap) (hS : va_S A s.heap H locs) (hsize : ls.size = c.maxLocals)
    (d0 : decode cc pc = .ok (.new ik, 3)) (d3 : decode cc (pc + 3) = .ok (.dup, 1)) (d4 : decode cc (pc + 4) = .ok (.ldc is, 2)) (d6 : decode cc (pc + 6) = .ok (.invokespecial ic, 3)) (d9 : decode cc (pc + 9) = .ok (.athrow, 1))
    (hout : ∀ x ∈ c.exceptionTable.toList, covers x (pc + 9) = false)
    (hRframes : names.length + 3 < R.frames) (hRlocals : (rest.map fun v => v.category).sum + (13 * (names.length + 1) + 43) ≤ R.locals) (hRcells : cells + 1 ≤ R.cells) (hRslots : slots + 6 ≤ R.slots) (hlocks : meth.locks = false)
    (hx : ∀ t : State, s.vm.Alike t.vm → t.heap.size = H.size + 1 → (∀ q : Nat, q < H.size → t.heap[q]? = H[q]?) → XC cls s t)
    (hf : ∀ z ∈ locs, free z.base) (hc : cells + 1 ≤ mc) (hs : slots + 6 ≤ ms) :
    W p l e R s m args below meth c H locs cells slots (vx_MQ below Qc XC args s mc ms free) (F0 m pc ls rest) := by
  intro T hT X
  have htr : e.platform.stackTraces = false := (show e.platform.stackTraces = l.stackTraces by rw [X.admits.platform]).trans hl
  have Y := vx_rebase X (R' := { frames := R.frames, locals := R.locals, cells := 1, slots := 6 }) (Nat.le_refl _) (Nat.le_refl _) hRcells hRslots
  obtain ⟨s', hA⟩ : ∃ z, z = (T.setVm s.vm).setFrames (.invoking m args :: below) := ⟨_, rfl⟩
  rw [← hA] at Y
  have hvm : s'.vm = s.vm := by rw [hA]; rfl
  have hhp : s'.heap = H := by rw [hA]; exact hT
  have hW0 : s.WarmedH s'.vm := by rw [hvm]; exact State.WarmedH.refl s
  have hat' : ∀ w ∈ vx_atS own ic cls names, w.before args s' = true := fun w hw => vx_ot_at hW0 hvm.symm (hgood w (List.mem_cons_of_mem _ (List.mem_cons_of_mem _ hw))) (hat w hw)
  have hk' : (Cond.classLink own ik cls).before args s' = true := vx_ot_at hW0 hvm.symm (hgood _ List.mem_cons_self) hk
  have hini' : (Cond.initialized cls).before args s' = true := vx_ot_at hW0 hvm.symm (hgood _ (List.mem_cons_of_mem _ List.mem_cons_self)) hini
  have hU' : vx_Zq Bundle.tN "UNASSIGNED_STACK" Bundle.steD A s' s'.heap := by rw [hhp]; exact vx_Zq.moved hW0.alike (hU.kept hS.2.1)
  have hN' : vx_Zq Bundle.tN "SUPPRESSED_SENTINEL" Bundle.listD A s' s'.heap := by rw [hhp]; exact vx_Zq.moved hW0.alike (hN.kept hS.2.1)
  have h : ∀ w ∈ Bundle.ownAtoms own ic cls names, w.before args s' = true := vx_own hat' (vx_isRefq hU'.1) (vx_isRefq hN'.1) hU'.2.word hN'.2.word
  have hown' : s'.vm.findClass own = some m.cls := by rw [hvm]; exact hown
  have hins : (Cond.instantiable cls 6).before args s' = true := h _ (by simp [Bundle.ownAtoms])
  obtain ⟨vm₁, cX, kX, hfX, hkX, -, -, X₁, st1⟩ := Y.newCold hexec (own := own) (C := cls) (index := ik) (n := 6) hown' hk' hins hini'
    (g := F0 m pc ls rest) rfl (by rw [hb]; exact d0) (Nat.le_refl _) (Nat.le_refl _)
  generalize hT1 : (T.setVm vm₁).pushCell { cls := cX, slots := kX.instanceTypes.map defaultValue, vm := .none } = T1 at X₁ st1
  have hcat : (Value.ref T.heap.size).category = 1 := rfl
  have hcellA : T1.heap[T.heap.size]? = some (freshCell cX kX) := by rw [← hT1]; exact State.heap_pushCell_size _ _
  have d3' : decode c.code (pc + 3) = .ok (.dup, 1) := by rw [hb]; exact d3
  have d4' : decode c.code (pc + 4) = .ok (.ldc is, 2) := by rw [hb]; exact d4
  have hstr' : vk_R own is text sa s' := vk_R.warm hW0 hstr
  obtain ⟨U, hsteps, hrun, hend, hW, hsame, ce, hce, hO⟩ := X₁.ctorThrowS hexec htr (own := own) (cls := cls) (names := names) (ic := ic) hown' hcls hnames h (fun x hx => nomatch hx) hfX hkX hcellA (by rw [hhp, hT]; exact Nat.le_refl _) (msg := .ref sa) rfl
    (g := { method := m, pc := pc + 6, locals := ls, stack := .ref sa :: .ref T.heap.size :: .ref T.heap.size :: rest, locked := none }) rfl hsize rfl rfl (rest := rest) rfl
    (by rw [hb]; exact d6) (by rw [hb]; exact d9) hout hRframes (by simp only [List.map_cons, List.sum_cons, hcat]; omega) hlocks
  obtain ⟨f1, f2⟩ := vx_frame hsame
  rw [hhp] at f1 f2
  have hWs : s.WarmedH U.vm := State.WarmedH.trans hW0 hW
  have hcl : s.vm.findClass cls = some ce.cls := by
    have h9 := hO.cls
    rw [hvm] at h9
    exact h9
  have hall : s.sameButNew ({ U with vm := s.vm } : State) locs mc ms := by
    subst hA
    obtain ⟨e1, e2⟩ := hsame
    rw [State.setFrames_setFrames] at e1
    have h2 : (T.setVm s.vm).sameButNew ({ U with vm := s.vm } : State) [] (0 + 1) (0 + 6) := ⟨e1, e2⟩
    have h3 := X.same.trans h2
    rw [List.append_nil] at h3
    exact h3.mono hc hs
  have hsz : U.heap.size = H.size + 1 := by
    have g1 : T.heap.size < U.heap.size := (Array.getElem?_eq_some_iff.mp hce).1
    have g2 : U.heap.size ≤ s'.heap.size + (0 + 1) := hsame.2.2.1
    rw [hT] at g1
    rw [hhp] at g2
    omega
  refine ⟨U, ?_, .threw T.heap.size, hrun, hend, Or.inr ⟨T.heap.size, rfl, cls, ce, locs, hx U hWs.alike hsz (fun q hq => f2 q hq (fun z hz => nomatch hz)), hce, hO.vm, hcl, hWs, hall, hf⟩⟩
  refine st1 _ ?_
  show Steps p.tables e below (T1.setTop { method := m, pc := pc + 3, locals := ls, stack := .ref T.heap.size :: rest, locked := none }) _
  jvm_step X₁.here [X₁.here.top, hexec, d3', Value.category]
  exact X₁.ldcString hexec (own := own) (text := text) (index := is) (a := sa) hown' hstr'.1 hstr'.2
    (g := { method := m, pc := pc + 4, locals := ls, stack := .ref T.heap.size :: .ref T.heap.size :: rest, locked := none }) rfl d4' _ hsteps
theorem x_throwW {cc : ByteArray} {pc : Nat} (hexec : p.tables.exec = Jvm.exec) (hb : c.code = cc) (hl : l.stackTraces = false) {own cls text : String} {names : List String} {ik is ic mc ms sa : Nat} {A : Nat → Prop}
    (hown : s.vm.findClass own = some m.cls) (hcls : Bundle.fit cls = true) (hnames : ∀ n ∈ names, Bundle.fit n = true)
    (hk : (Cond.classLink own ik cls).before args s = true) (hini : (Cond.initialized cls).before args s = true) (hstr : vk_R own is text sa s) (hat : ∀ w ∈ vx_atS own ic cls names, w.before args s = true)
    (hgood : ∀ w ∈ Cond.classLink own ik cls :: Cond.initialized cls :: vx_atS own ic cls names, vx_ot w = true)
    (hU : vx_Zq Bundle.tN "UNASSIGNED_STACK" Bundle.steD A s s.heap) (hN : vx_Zq Bundle.tN "SUPPRESSED_SENTINEL" Bundle.listD A s s.heap) (hS : va_S A s.heap H locs) (hsize : ls.size = c.maxLocals)
    (d0 : decode cc pc = .ok (.new ik, 3)) (d3 : decode cc (pc + 3) = .ok (.dup, 1)) (d4 : decode cc (pc + 4) = .ok (.ldc_w is, 3)) (d7 : decode cc (pc + 7) = .ok (.invokespecial ic, 3)) (d10 : decode cc (pc + 10) = .ok (.athrow, 1))
    (hout : ∀ x ∈ c.exceptionTable.toList, covers x (pc + 10) = false)
    (hRframes : names.length + 3 < R.frames) (hRlocals : (rest.map fun v => v.category).sum + (13 * (names.length + 1) + 43) ≤ R.locals) (hRcells : cells + 1 ≤ R.cells) (hRslots : slots + 6 ≤ R.slots) (hlocks : meth.locks = false)
    (hx : ∀ t : State, s.vm.Alike t.vm → t.heap.size = H.size + 1 → (∀ q : Nat, q < H.size → t.heap[q]? = H[q]?) → XC cls s t)
    (hf : ∀ z ∈ locs, free z.base) (hc : cells + 1 ≤ mc) (hs : slots + 6 ≤ ms) :
    W p l e R s m args below meth c H locs cells slots (vx_MQ below Qc XC args s mc ms free) (F0 m pc ls rest) := by
  intro T hT X
  have htr : e.platform.stackTraces = false := (show e.platform.stackTraces = l.stackTraces by rw [X.admits.platform]).trans hl
  have Y := vx_rebase X (R' := { frames := R.frames, locals := R.locals, cells := 1, slots := 6 }) (Nat.le_refl _) (Nat.le_refl _) hRcells hRslots
  obtain ⟨s', hA⟩ : ∃ z, z = (T.setVm s.vm).setFrames (.invoking m args :: below) := ⟨_, rfl⟩
  rw [← hA] at Y
  have hvm : s'.vm = s.vm := by rw [hA]; rfl
  have hhp : s'.heap = H := by rw [hA]; exact hT
  have hW0 : s.WarmedH s'.vm := by rw [hvm]; exact State.WarmedH.refl s
  have hat' : ∀ w ∈ vx_atS own ic cls names, w.before args s' = true := fun w hw => vx_ot_at hW0 hvm.symm (hgood w (List.mem_cons_of_mem _ (List.mem_cons_of_mem _ hw))) (hat w hw)
  have hk' : (Cond.classLink own ik cls).before args s' = true := vx_ot_at hW0 hvm.symm (hgood _ List.mem_cons_self) hk
  have hini' : (Cond.initialized cls).before args s' = true := vx_ot_at hW0 hvm.symm (hgood _ (List.mem_cons_of_mem _ List.mem_cons_self)) hini
  have hU' : vx_Zq Bundle.tN "UNASSIGNED_STACK" Bundle.steD A s' s'.heap := by rw [hhp]; exact vx_Zq.moved hW0.alike (hU.kept hS.2.1)
  have hN' : vx_Zq Bundle.tN "SUPPRESSED_SENTINEL" Bundle.listD A s' s'.heap := by rw [hhp]; exact vx_Zq.moved hW0.alike (hN.kept hS.2.1)
  have h : ∀ w ∈ Bundle.ownAtoms own ic cls names, w.before args s' = true := vx_own hat' (vx_isRefq hU'.1) (vx_isRefq hN'.1) hU'.2.word hN'.2.word
  have hown' : s'.vm.findClass own = some m.cls := by rw [hvm]; exact hown
  have hins : (Cond.instantiable cls 6).before args s' = true := h _ (by simp [Bundle.ownAtoms])
  obtain ⟨vm₁, cX, kX, hfX, hkX, -, -, X₁, st1⟩ := Y.newCold hexec (own := own) (C := cls) (index := ik) (n := 6) hown' hk' hins hini'
    (g := F0 m pc ls rest) rfl (by rw [hb]; exact d0) (Nat.le_refl _) (Nat.le_refl _)
  generalize hT1 : (T.setVm vm₁).pushCell { cls := cX, slots := kX.instanceTypes.map defaultValue, vm := .none } = T1 at X₁ st1
  have hcat : (Value.ref T.heap.size).category = 1 := rfl
  have hcellA : T1.heap[T.heap.size]? = some (freshCell cX kX) := by rw [← hT1]; exact State.heap_pushCell_size _ _
  have d3' : decode c.code (pc + 3) = .ok (.dup, 1) := by rw [hb]; exact d3
  have d4' : decode c.code (pc + 4) = .ok (.ldc_w is, 3) := by rw [hb]; exact d4
  have hstr' : vk_R own is text sa s' := vk_R.warm hW0 hstr
  obtain ⟨U, hsteps, hrun, hend, hW, hsame, ce, hce, hO⟩ := X₁.ctorThrowS hexec htr (own := own) (cls := cls) (names := names) (ic := ic) hown' hcls hnames h (fun x hx => nomatch hx) hfX hkX hcellA (by rw [hhp, hT]; exact Nat.le_refl _) (msg := .ref sa) rfl
    (g := { method := m, pc := pc + 7, locals := ls, stack := .ref sa :: .ref T.heap.size :: .ref T.heap.size :: rest, locked := none }) rfl hsize rfl rfl (rest := rest) rfl
    (by rw [hb]; exact d7) (by rw [hb]; exact d10) hout hRframes (by simp only [List.map_cons, List.sum_cons, hcat]; omega) hlocks
  obtain ⟨f1, f2⟩ := vx_frame hsame
  rw [hhp] at f1 f2
  have hWs : s.WarmedH U.vm := State.WarmedH.trans hW0 hW
  have hcl : s.vm.findClass cls = some ce.cls := by
    have h9 := hO.cls
    rw [hvm] at h9
    exact h9
  have hall : s.sameButNew ({ U with vm := s.vm } : State) locs mc ms := by
    subst hA
    obtain ⟨e1, e2⟩ := hsame
    rw [State.setFrames_setFrames] at e1
    have h2 : (T.setVm s.vm).sameButNew ({ U with vm := s.vm } : State) [] (0 + 1) (0 + 6) := ⟨e1, e2⟩
    have h3 := X.same.trans h2
    rw [List.append_nil] at h3
    exact h3.mono hc hs
  have hsz : U.heap.size = H.size + 1 := by
    have g1 : T.heap.size < U.heap.size := (Array.getElem?_eq_some_iff.mp hce).1
    have g2 : U.heap.size ≤ s'.heap.size + (0 + 1) := hsame.2.2.1
    rw [hT] at g1
    rw [hhp] at g2
    omega
  refine ⟨U, ?_, .threw T.heap.size, hrun, hend, Or.inr ⟨T.heap.size, rfl, cls, ce, locs, hx U hWs.alike hsz (fun q hq => f2 q hq (fun z hz => nomatch hz)), hce, hO.vm, hcl, hWs, hall, hf⟩⟩
  refine st1 _ ?_
  show Steps p.tables e below (T1.setTop { method := m, pc := pc + 3, locals := ls, stack := .ref T.heap.size :: rest, locked := none }) _
  jvm_step X₁.here [X₁.here.top, hexec, d3', Value.category]
  exact X₁.ldcStringW hexec (own := own) (text := text) (index := is) (a := sa) hown' hstr'.1 hstr'.2
    (g := { method := m, pc := pc + 4, locals := ls, stack := .ref T.heap.size :: .ref T.heap.size :: rest, locked := none }) rfl d4' _ hsteps
end XTH
end
section
/-! ===== calls, throws and ends ===== -/
theorem xT_good {w : Cond} (h : w ∈ xT) : (w.onTables && w.keeps) = true ∨ ∃ ty, w = .arrayClass ty := good_of_word (List.mem_filter.mp h).2
def xws (j : Nat) : List Cond := xcw j :: xT
theorem xcw_good (j : Nat) : goodWord (xcw j) = true := by
  unfold xcw
  split <;> rfl
theorem xws_good {j : Nat} (h : j + 1 < xNM) : GoodIn xT (xws j) := by
  intro w hw
  rcases List.mem_cons.mp hw with e | e
  · subst e
    exact ⟨xT_of (xcw_in j h) (xcw_good j), good_of_word (xcw_good j)⟩
  · exact ⟨e, xT_good e⟩
def xPre (G : XG) (as : List Value) (h : XH) : Array Value → State → Prop := va_Pc (as.map (xV G)) (fun U => xS G U ∧ xR G h U.heap)
def xQ (G : XG) (o : XO) (h2 : XH) : Array Value → State → Outcome → State → Prop := fun _ st oc t => (∃ v, o = .inl v ∧ oc = .returned (v.map (xV G)) ∧ xR G h2 t.heap) ∧ va_F (xFr G) st t
def xX (G : XG) (o : XO) (h2 : XH) : String → State → State → Prop := fun E st t => (∃ n, o = .inr n ∧ E = xen n ∧ xR G h2 t.heap) ∧ va_F (xFr G) st t
/-- the contract of method j: what the toy says it does, it does -/
def xMt (l : Launch) (G : XG) (d j : Nat) (as : List Value) (h : XH) (o : XO) (h2 : XH) : Prop := ∀ mc ms, h.1.length + mc = h2.1.length → h.2.2.2 + ms = h2.2.2.2 →
  vx_Met l (xy j) (xws j) { frames := d + 6, cells := mc, slots := ms, locals := 60 * d + 120 } (xPre G as h) (xQ G o h2) (xX G o h2) mc ms (xFr G)
theorem xPre_blind (G : XG) (as : List Value) (h : XH) : FrameBlind (xPre G as h) := fun a U g mk q => ⟨q.1, xS.warm (s := U) (U := U.calling g mk a) q.2.1 (State.WarmedH.refl U) (fun _ _ _ => rfl), q.2.2⟩
theorem x_cats_map (G : XG) (st : List Value) : ((st.map (xV G)).map fun v => v.category).sum = x_cats st := by
  unfold x_cats
  rw [List.map_map]
  congr 1
  apply List.map_congr_left
  intro v _
  exact xV_cat G v
section XCALL
variable {p : Program} {l : Launch} {e : Env} {R : Room} {s : State} {m : MethodId} {args : Array Value} {below : List Frame} {meth : Method} {c : Code} {G : XG} {o : Nat} {bytes : ByteArray} {mL : Nat} {n0 z0 : Nat} {Q : State → Prop}
theorem x_pre {H : Heap} {locs : List Loc} {as : List Value} {h : XH} (hS : xS G s) (hR : xR G h H) (hV : va_S (xFr G) s.heap H locs) : PreS s H (xPre G as h) (as.map (xV G)) :=
  ⟨xPre_blind G as h, fun U hU hW => ⟨rfl, xS.warm hS hW (fun q hq hn => by rw [hU]; exact hV.2.1 q hq hn), by rw [hU]; exact hR⟩⟩
theorem x_callB {idx j mc ms : Nat} {rm : Room} (hts : ∀ w ∈ xT, w.before args s = true) (hj : j + 1 < xNM) (hh : xhr j = []) (hl : (Cond.methodLink (xcn o) idx (xy j)).before args s = true) (hrc : rm.cells = mc) (hrs : rm.slots = ms) (hR : rm.frames + 1 ≤ R.frames ∧ 8 + (xml j + 11) + rm.locals ≤ R.locals) :
    CallB R s args (xcn o) idx (xy j) (xb j) (xml j) (xr j) (xws j) rm mc ms (xn j) := by
  have hc : xcw j = .code (xy j) (xb j) (xml j) (xr j) := by unfold xcw; rw [hh]
  have hG := xws_good hj
  have hm : Cond.code (xy j) (xb j) (xml j) (xr j) ∈ xws j := by rw [← hc]; exact List.mem_cons_self
  obtain ⟨h1, h2, -⟩ := xcw_ok2 j (by unfold xNM at hj; omega)
  have h3 := xcw_ok3 j (by unfold xNM at hj; omega)
  refine ⟨hrc, hrs, hR.1, hR.2, pay_in hts hG, hm, hts _ (hG _ hm).1, hts _ (xT_of (xci_in j hj) rfl), h2, fun sig hs => ?_, hl⟩
  rw [hs] at h3
  exact (Option.some.inj h3).symm
/-- a call, behind it: it has returned, or thrown -/
theorem x_call {H : Heap} {locs : List Loc} {ls : Array Slot} {cells slots mc ms pc : Nat} {st0 rest : List Value} {a : Array Value} {ro : XO} {h2 : XH} (hr : vx_Run p l e R s m args below meth c H locs cells slots mc ms (F0 m pc ls st0) rest (xQ G ro h2 a) (xX G ro h2) (xFr G)) (hV : va_S (xFr G) s.heap H locs)
    (kk : ∀ (v : Option Value) (H1 : Heap) (locs1 : List Loc), ro = .inl v → xR G h2 H1 → va_S (xFr G) s.heap H1 locs1 → W p l e R s m args below meth c H1 locs1 (cells + mc) (slots + ms) Q (F0 m (pc + 3) ls ((v.map (xV G)).toList ++ rest)))
    (kx : ∀ (n : Nat) (q9 : Addr) (ce : Cell) (H1 : Heap) (locs1 : List Loc), ro = .inr n → xR G h2 H1 → va_S (xFr G) s.heap H1 locs1 → H1[q9]? = some ce → ce.vm = .none → s.vm.findClass (xen n) = some ce.cls → vx_W p l e R s m args below meth c H1 locs1 (cells + mc) (slots + ms) Q (F0 m pc ls rest) q9) :
    W p l e R s m args below meth c H locs cells slots Q (F0 m pc ls st0) := by
  intro T hT X
  rcases hr T hT X with ⟨v, st₀, t, T', L, h0, X', hL, e1, e2, ⟨⟨v', hv, hv2, hR2⟩, hF⟩, st⟩ | ⟨q, st₀, t, T', L, E, ce, h0, X', hL, e1, e2, ⟨⟨n, hn, hE, hR2⟩, hF⟩, hce, hcv, hcl, st⟩
  · cases hv2
    obtain ⟨k1, k2, k3⟩ := vx_keep h0 e1 hV (fun _ _ z => z) (fun _ z => z) hL hF
    obtain ⟨t2, a1, b1⟩ := kk v' T'.heap (locs ++ L) hv (by rw [e1]; exact hR2) k3 T' rfl X'
    exact ⟨t2, st t2 a1, b1⟩
  · obtain ⟨k1, k2, k3⟩ := vx_keep h0 e1 hV (fun _ _ z => z) (fun _ z => z) hL hF
    subst hE
    obtain ⟨t2, a1, b1⟩ := kx n q ce T'.heap (locs ++ L) hn (by rw [e1]; exact hR2) k3 (by rw [e1]; exact hce) hcv hcl T' rfl X'
    exact ⟨t2, st.trans a1, b1⟩
/-- the method's own table against the toy's -/
def xhOK (o : Nat) (bytes : ByteArray) : List (Nat × Nat × Nat × Nat × Nat × Nat) → List (Nat × Nat × Nat × Nat) → Prop
  | [], [] => True
  | (s, e, h, x, k, w) :: hs, (s', e', h', ct) :: hr => (s = s' ∧ e = e' ∧ h = h' ∧ ct ≠ 0 ∧ Cond.classLink (xcn o) ct (xen x) ∈ lw_tbl ∧ (x = 1 ∨ x = 2 ∨ x = 3) ∧ (w = 2 ∧ decode bytes h = .ok (.astore k, 2) ∨ w = 1 ∧ ∃ kf : Fin 4, (kf : Nat) = k ∧ decode bytes h = .ok (.astore_n kf, 1))) ∧ xhOK o bytes hs hr
  | _, _ => False
theorem x_hand_ok {o : Nat} {bytes : ByteArray} {args : Array Value} {s : State} {G : XG} (hts : ∀ w ∈ xT, w.before args s = true) (hS : xS G s) {pc ex p2 k : Nat} (hex : ex = 1 ∨ ex = 2 ∨ ex = 3) : ∀ (hs : List (Nat × Nat × Nat × Nat × Nat × Nat)) (hr : List (Nat × Nat × Nat × Nat)), xhOK o bytes hs hr → x_hand hs pc ex = some (p2, k) →
    ∃ (pre : List ExceptionTableEntry) (x : ExceptionTableEntry) (suf : List ExceptionTableEntry), tableOf hr = pre ++ x :: suf ∧ (∀ z ∈ pre, covers z pc = false ∨ (z.catchType ≠ 0 ∧ ∃ nm : String, (Cond.classLink (xcn o) z.catchType nm).before args s = true ∧ va_Nc (xen ex) nm s)) ∧ covers x pc = true ∧ x.catchType ≠ 0 ∧ (Cond.classLink (xcn o) x.catchType (xen ex)).before args s = true ∧
      (p2 = x.handlerPc + 2 ∧ decode bytes x.handlerPc = .ok (.astore k, 2) ∨ p2 = x.handlerPc + 1 ∧ ∃ kf : Fin 4, (kf : Nat) = k ∧ decode bytes x.handlerPc = .ok (.astore_n kf, 1)) := by
  intro hs
  induction hs with
  | nil => intro hr _ h; cases h
  | cons q hs ih =>
    intro hr hok h
    obtain ⟨s1, e1, h1, x1, k1, w1⟩ := q
    cases hr with
    | nil => exact hok.elim
    | cons r hr =>
      obtain ⟨s2, e2, h2, ct⟩ := r
      obtain ⟨⟨g1, g2, g3, g4, g5, g6, g7⟩, hok⟩ := hok
      subst g1; subst g2; subst g3
      simp only [x_hand] at h
      by_cases hq : s1 ≤ pc ∧ pc < e1 ∧ x1 = ex
      · rw [if_pos hq] at h
        cases h
        obtain ⟨q1, q2, q3⟩ := hq
        subst q3
        refine ⟨[], ⟨s1, e1, h1, ct⟩, tableOf hr, rfl, (fun z hz => by cases hz), (by simp [covers, q1, q2]), g4, hts _ (xT_of g5 rfl), ?_⟩
        rcases g7 with ⟨a1, a2⟩ | ⟨a1, a2⟩
        · exact Or.inl ⟨by rw [a1], a2⟩
        · exact Or.inr ⟨by rw [a1], a2⟩
      · rw [if_neg hq] at h
        obtain ⟨pre, x, suf, i1, i2, i3⟩ := ih hr hok h
        refine ⟨⟨s1, e1, h1, ct⟩ :: pre, x, suf, ?_, ?_, i3⟩
        · show _ :: tableOf hr = _ :: (pre ++ x :: suf)
          rw [i1]
        · intro z hz
          rcases List.mem_cons.mp hz with e | e
          · subst e
            by_cases hc : s1 ≤ pc ∧ pc < e1
            · refine Or.inr ⟨g4, xen x1, hts _ (xT_of g5 rfl), ?_⟩
              have hne : x1 ≠ ex := fun z => hq ⟨hc.1, hc.2, z⟩
              refine hS.2.2.2.2.2.2.2.2.2.1 ex x1 ?_
              rcases hex with z | z | z <;> rcases g6 with y | y | y <;> subst z <;> subst y <;> first | exact absurd rfl hne | decide
            · refine Or.inl ?_
              simp only [covers, Bool.and_eq_false_iff, decide_eq_false_iff_not]
              by_cases hc1 : s1 ≤ pc
              · exact Or.inr fun z => hc ⟨hc1, z⟩
              · exact Or.inl hc1
          · exact i2 z e
/-- caught: the walk goes on behind the handler's first store -/
theorem x_caught (C : xCx p l s m args meth c G o bytes mL) {hs : List (Nat × Nat × Nat × Nat × Nat × Nat)} {hr : List (Nat × Nat × Nat × Nat)} (hT : c.exceptionTable.toList = tableOf hr) (hok : xhOK o bytes hs hr) {pc ex p2 k : Nat} (hex : ex = 1 ∨ ex = 2 ∨ ex = 3) (hh : x_hand hs pc ex = some (p2, k)) {L : XL} (hk : k < L.length) {h2 : XH} (kc : xW p l e R s m args below meth c G n0 z0 Q (p2, (x_cl L k).set k none, []) h2)
    {H1 : Heap} {locs1 : List Loc} {ls : Array Slot} {cells slots : Nat} {q9 : Addr} {ce : Cell} {rest : List Value} (hR : xR G h2 H1) (hV : va_S (xFr G) s.heap H1 locs1) (hl : x_ls G ls L) (hc : n0 + cells = h2.1.length) (hz : z0 + slots = h2.2.2.2) (hcell : H1[q9]? = some ce) (hcv : ce.vm = .none) (hcl : s.vm.findClass (xen ex) = some ce.cls) :
    vx_W p l e R s m args below meth c H1 locs1 cells slots Q (F0 m pc ls rest) q9 := by
  obtain ⟨hx, hb, hml, hown, hts, hlocks, hS, hfl⟩ := C
  obtain ⟨pre, x, suf, i1, i2, i3, i4, i5, i6⟩ := x_hand_ok hts hS hex hs hr hok hh
  refine vx_catch hown pre x suf (hT.trans i1) i2 i3 i4 i5 (va_Nw.use rfl (hS.2.2.2.2.2.2.2.2.1 ex)) hcell hcv hcl ?_
  rcases i6 with ⟨e1, e2⟩ | ⟨e1, kf, e2, e3⟩
  · subst e1
    exact lv_astore hx hb e2 hl hk rfl (fun ls' hl' => kc H1 locs1 ls' cells slots hR hV (x_ls_s0 hk hl') hc hz)
  · subst e1
    exact lv_astore_n hx hb e3 e2 hl hk rfl (fun ls' hl' => kc H1 locs1 ls' cells slots hR hV (x_ls_s0 hk hl') hc hz)
end XCALL
end
section
/-! ===== a step of the toy machine is a walk of the model ===== -/
set_option maxHeartbeats 4000000 in
theorem xpure_len {pc : Nat} {ins : Instr} {a : Nat} {v : Int32} {w : Int64} {L : XL} {st : List Value} {fr2 : XF} (e0 : xpure pc ins a v w L st = some fr2) : fr2.2.1.length = L.length := by
  unfold xpure at e0
  split at e0 <;> first
    | (cases e0; done)
    | (cases e0; rfl)
    | (unfold x_ldI at e0; split at e0 <;> first | (cases e0; rfl) | cases e0)
    | (unfold x_ldL at e0; split at e0 <;> first | (cases e0; rfl) | cases e0)
    | (unfold x_ldA at e0; split at e0 <;> first | (cases e0; rfl) | cases e0)
    | (split at e0 <;> first | (cases e0; rfl) | (cases e0; simp [x_s1, x_s2, x_cl_len]; done) | (unfold x_ldI at e0; split at e0 <;> first | (cases e0; simp [x_s1, x_s2, x_cl_len]; done) | cases e0) | cases e0)
    | (cases e0; split <;> rfl)
theorem x_go_len {pc : Nat} {L : XL} {st : List Value} {h : XH} {fr2 : XF} {h2 : XH} (e0 : x_go pc L st h = some (.inl (fr2, h2))) : fr2.2.1.length = L.length := by cases e0; rfl
theorem x_back_len {hs : List (Nat × Nat × Nat × Nat × Nat × Nat)} {pc : Nat} {L : XL} {rest : List Value} {r : Option (XO × XH)} {fr2 : XF} {h2 : XH} (e0 : x_back hs pc L rest r = some (.inl (fr2, h2))) : fr2.2.1.length = L.length := by
  cases r with
  | none => cases e0
  | some y =>
    obtain ⟨o, h3⟩ := y
    cases o with
    | inl v => exact x_go_len e0
    | inr ex =>
      simp only [x_back] at e0
      cases hh : x_hand hs pc ex with
      | none =>
        rw [hh] at e0
        cases hs with
        | nil => cases e0
        | cons x xs => cases e0
      | some y =>
        rw [hh] at e0
        obtain ⟨p2, k⟩ := y
        dsimp only at e0
        split at e0
        · rw [x_go_len e0]
          simp [x_cl_len]
        · cases e0
set_option maxHeartbeats 4000000 in
theorem xmem_len {pc : Nat} {ins : Instr} {a b c : Nat} {L : XL} {st : List Value} {h : XH} {fr2 : XF} {h2 : XH} (e0 : xmem pc ins a b c L st h = some (.inl (fr2, h2))) : fr2.2.1.length = L.length := by
  unfold xmem at e0
  repeat' split at e0
  all_goals first
    | exact x_go_len e0
    | cases e0
theorem xeff_len {call : Nat → List Value → XH → Option (XO × XH)} {hs : List (Nat × Nat × Nat × Nat × Nat × Nat)} {pc : Nat} {ins : Instr} {a b c : Nat} {L : XL} {st : List Value} {h : XH} {fr2 : XF} {h2 : XH} (e0 : xeff call hs pc ins a b c L st h = some (.inl (fr2, h2))) : fr2.2.1.length = L.length := by
  unfold xeff at e0
  split at e0
  · unfold xinvS at e0
    repeat' split at e0
    all_goals first
      | exact x_back_len e0
      | exact x_go_len e0
      | cases e0
  · unfold xinvV at e0
    repeat' split at e0
    all_goals first
      | exact x_back_len e0
      | cases e0
  · unfold xinvI at e0
    repeat' split at e0
    all_goals first
      | exact x_back_len e0
      | exact x_go_len e0
      | cases e0
  · exact xmem_len e0
def x_retn (rt : Option FieldType) (ins : Instr) (st : List Value) (v : Option Value) : Prop :=
  (ins = .ireturn ∧ ∃ x, st = [.int x] ∧ v = some (.int x) ∧ (rt = some .int ∨ rt = some .boolean ∧ (x = 0 ∨ x = 1))) ∨
  (ins = .lreturn ∧ ∃ x, st = [.long x] ∧ v = some (.long x) ∧ rt = some .long) ∨
  (ins = .areturn ∧ ∃ x, st = [x] ∧ v = some x ∧ (x = .null ∨ ∃ q, x = .ref q) ∧ ∃ t, rt = some t ∧ x_isR t = true) ∨
  (ins = .return_ ∧ st = [] ∧ v = none ∧ rt = none)
section XSTEP
variable {p : Program} {l : Launch} {e : Env} {R : Room} {s : State} {m : MethodId} {args : Array Value} {below : List Frame} {meth : Method} {c : Code} {G : XG} {o : Nat} {bytes : ByteArray} {mL : Nat} {n0 z0 : Nat} {Q : State → Prop}
/-- what the frame's end must bear -/
def xEnd (p : Program) (l : Launch) (e : Env) (R : Room) (s : State) (m : MethodId) (args : Array Value) (below : List Frame) (meth : Method) (c : Code) (G : XG) (bytes : ByteArray) (rt : Option FieldType) (n0 z0 : Nat) (Q : State → Prop) (o2 : XO) (h2 : XH) : Prop :=
  (∀ (v : Option Value) (ins : Instr) (st : List Value) (pc : Nat) (H : Heap) (locs : List Loc) (ls : Array Slot) (cells slots : Nat), o2 = .inl v → x_retn rt ins st v → decode bytes pc = .ok (ins, 1) → xR G h2 H → va_S (xFr G) s.heap H locs → n0 + cells = h2.1.length → z0 + slots = h2.2.2.2 → W p l e R s m args below meth c H locs cells slots Q (F0 m pc ls (st.map (xV G)))) ∧
  (∀ n, o2 = .inr n → ∃ mc ms, Q = vx_MQ below (xQ G o2 h2) (xX G o2 h2) args s mc ms (xFr G) ∧ n0 + mc = h2.1.length ∧ z0 + ms = h2.2.2.2)
/-- what is owed of a step's result -/
def xK (p : Program) (l : Launch) (e : Env) (R : Room) (s : State) (m : MethodId) (args : Array Value) (below : List Frame) (meth : Method) (c : Code) (G : XG) (bytes : ByteArray) (rt : Option FieldType) (n0 z0 : Nat) (Q : State → Prop) : XR → Prop
  | .inl (fr2, h2) => xW p l e R s m args below meth c G n0 z0 Q fr2 h2
  | .inr (o2, h2) => xEnd p l e R s m args below meth c G bytes rt n0 z0 Q o2 h2
theorem x_hand_ex {o : Nat} {bytes : ByteArray} {pc ex : Nat} {y : Nat × Nat} : ∀ (hs : List (Nat × Nat × Nat × Nat × Nat × Nat)) (hr : List (Nat × Nat × Nat × Nat)), xhOK o bytes hs hr → x_hand hs pc ex = some y → ex = 1 ∨ ex = 2 ∨ ex = 3 := by
  intro hs
  induction hs with
  | nil => intro hr _ h; cases h
  | cons q hs ih =>
    intro hr hok h
    obtain ⟨s1, e1, h1, x1, k1, w1⟩ := q
    cases hr with
    | nil => exact hok.elim
    | cons r hr =>
      obtain ⟨s2, e2, h2, ct⟩ := r
      obtain ⟨⟨-, -, -, -, -, g6, -⟩, hok⟩ := hok
      simp only [x_hand] at h
      split at h
      · rename_i hq
        rw [← hq.2.2]
        exact g6
      · exact ih hr hok h
/-- behind a call -/
theorem x_fin (C : xCx p l s m args meth c G o bytes mL) {hs : List (Nat × Nat × Nat × Nat × Nat × Nat)} {hr : List (Nat × Nat × Nat × Nat)} {rt : Option FieldType} (hT : c.exceptionTable.toList = tableOf hr) (hok : xhOK o bytes hs hr) {pc : Nat} {L : XL} {rest : List Value} {ro : XO} {h3 : XH} {r : XR} (e0 : x_back hs pc L rest (some (ro, h3)) = some r) (k : xK p l e R s m args below meth c G bytes rt n0 z0 Q r)
    {H : Heap} {locs : List Loc} {ls : Array Slot} {cells slots mc ms : Nat} {st0 : List Value} {a : Array Value} (hrun : vx_Run p l e R s m args below meth c H locs cells slots mc ms (F0 m pc ls st0) (rest.map (xV G)) (xQ G ro h3 a) (xX G ro h3) (xFr G)) (hV : va_S (xFr G) s.heap H locs) (hl : x_ls G ls L) (hc : n0 + (cells + mc) = h3.1.length) (hz : z0 + (slots + ms) = h3.2.2.2) :
    W p l e R s m args below meth c H locs cells slots Q (F0 m pc ls st0) := by
  refine x_call hrun hV (fun v H1 locs1 hv hR1 hV1 => ?_) (fun n q9 ce H1 locs1 hn hR1 hV1 hce hcv hcl => ?_)
  · subst hv
    cases e0
    have k2 := k H1 locs1 ls (cells + mc) (slots + ms) hR1 hV1 hl hc hz
    cases v with
    | none => exact k2
    | some v => exact k2
  · subst hn
    simp only [x_back] at e0
    cases hh : x_hand hs pc n with
    | none =>
      rw [hh] at e0
      cases hs with
      | cons x xs => cases e0
      | nil =>
        cases e0
        cases hr with
        | cons x xs => exact hok.elim
        | nil =>
          obtain ⟨mc2, ms2, hQ, g1, g2⟩ := k.2 n rfl
          subst hQ
          obtain ⟨-, -, -, -, -, hlocks, -, -⟩ := C
          refine vx_out (fun x hx => ?_) hlocks hce hcv hcl (fun t ht hA => ⟨⟨n, rfl, rfl, by rw [ht]; exact hR1⟩, hV1.F ht⟩) hV1.2.2 (by omega) (by omega)
          rw [hT] at hx
          cases hx
    | some y =>
      rw [hh] at e0
      obtain ⟨p2, k'⟩ := y
      dsimp only at e0
      split at e0
      · rename_i hk'
        cases e0
        exact x_caught C hT hok (x_hand_ex hs hr hok hh) hh hk' k hR1 hV1 hl hc hz hce hcv hcl
      · cases e0
theorem x_stk (G : XG) {st : List Value} {b : Nat} : st.map (xV G) = (((st.take b).reverse.map (xV G)).reverse) ++ (st.drop b).map (xV G) := by
  rw [List.map_reverse, List.reverse_reverse, ← List.map_append, List.take_append_drop]
/-- the four kinds of calls, run -/
theorem x_runS {d j b idx : Nat} (C : xCx p l s m args meth c G o bytes mL) (hRm : d + 7 ≤ R.frames ∧ 60 * d + 180 ≤ R.locals) (hck : (o, idx, j, 0) ∈ xML) (hb : b = xn j) {pc : Nat} {L : XL} {st : List Value} {h h3 : XH} {ro : XO} (hL : L.length = mL) (hst : b ≤ st.length ∧ x_cats (st.drop b) ≤ 8) (hM : j + 1 < xNM → xMt l G d j (st.take b).reverse h ro h3) (hd : decode bytes pc = .ok (.invokestatic idx, 3))
    {H : Heap} {locs : List Loc} {ls : Array Slot} {cells slots mc ms : Nat} (hR : xR G h H) (hV : va_S (xFr G) s.heap H locs) (hl : x_ls G ls L) (h1 : h.1.length + mc = h3.1.length) (h2 : h.2.2.2 + ms = h3.2.2.2) (hf : cells + mc ≤ R.cells ∧ slots + ms ≤ R.slots) :
    vx_Run p l e R s m args below meth c H locs cells slots mc ms (F0 m pc ls (st.map (xV G))) ((st.drop b).map (xV G)) (xQ G ro h3 ((st.take b).reverse.map (xV G)).toArray) (xX G ro h3) (xFr G) := by
  obtain ⟨hx, hb', hml, hown, hts, hlocks, hS, hfl⟩ := C
  rw [xML_eq] at hck
  obtain ⟨q, hq, e⟩ := List.mem_map.mp hck
  obtain ⟨w1, w2, -, -, -, hj⟩ := xMLp_ok q hq
  obtain ⟨q1, q2, q3, q4, q5, q6, q7⟩ := q
  cases e
  have hj : q3 + 1 < xNM := hj
  have hlink := hts _ (xT_of (List.mem_of_getElem? w1) rfl)
  have hstat := hts _ (xT_of (List.mem_of_getElem? (w2 rfl)) rfl)
  have hlen : (((st.take b).reverse).map (xV G)).length = xn q3 := by
    rw [List.length_map, List.length_reverse, List.length_take, Nat.min_eq_left hst.1, hb]
  have hroom : ({ frames := d + 6, cells := mc, slots := ms, locals := 60 * d + 120 } : Room).frames + 1 ≤ R.frames ∧ 8 + (xml q3 + 11) + ({ frames := d + 6, cells := mc, slots := ms, locals := 60 * d + 120 } : Room).locals ≤ R.locals := by
    have h9 := (xcw_ok2 q3 (by unfold xNM at hj; omega)).2.2
    refine ⟨by show d + 6 + 1 ≤ _; omega, by show 8 + (xml q3 + 11) + (60 * d + 120) ≤ _; omega⟩
  have hW : 2 * (F0 m pc ls (st.map (xV G))).monitorRoom + (((st.drop b).map (xV G)).map fun v => v.category).sum ≤ 8 := by
    have h9 := x_cats_map G (st.drop b)
    show 2 * 0 + _ ≤ 8
    omega
  by_cases hh : xhr q3 = []
  · exact vx_runS ⟨hx, hb', hml, hown, hts⟩ (hM hj mc ms h1 h2) ⟨x_callB hts hj hh hlink rfl rfl hroom, hstat⟩ (x_pre hS hR hV) rfl hlen (hl.1.trans hL) (x_stk G) hW hd hf
  · obtain ⟨g, gs, hg⟩ := List.exists_cons_of_ne_nil hh
    have hc : xcw q3 = .codeWith (xy q3) (xb q3) (xml q3) (xr q3) (g :: gs) := by unfold xcw; rw [hg]
    have hG := xws_good hj
    have hm : Cond.codeWith (xy q3) (xb q3) (xml q3) (xr q3) (g :: gs) ∈ xws q3 := by rw [← hc]; exact List.mem_cons_self
    have h3' := xcw_ok3 q3 (by unfold xNM at hj; omega)
    refine vx_runSX (hh := g :: gs) (bytes := xb q3) (maxL := xml q3) (ret := xr q3) (n := xn q3) ⟨hx, hb', hml, hown, hts⟩ (hM hj mc ms h1 h2) ⟨⟨rfl, rfl, hroom.1, hroom.2, pay_in hts hG, hm⟩, hts _ (hG _ hm).1, hts _ (xT_of (xci_in q3 hj) rfl), (xcw_ok2 q3 (by unfold xNM at hj; omega)).2.1, fun sig hs => ?_, hlink, hstat⟩ (x_pre hS hR hV) rfl hlen (hl.1.trans hL) (x_stk G) hW hd hf
    rw [hs] at h3'
    exact (Option.some.inj h3').symm
theorem x_rev {st : List Value} {b q : Nat} {vs : List Value} (hv : (st.take b).reverse = .ref q :: vs) (G : XG) : st.map (xV G) = (vs.map (xV G)).reverse ++ .ref (xA G q) :: (st.drop b).map (xV G) := by
  rw [x_stk G (b := b), hv]
  simp [xV]
theorem x_revlen {st : List Value} {b q : Nat} {vs : List Value} (hv : (st.take b).reverse = .ref q :: vs) (hb : b ≤ st.length) : vs.length + 1 = b := by
  have h := congrArg List.length hv
  rw [List.length_reverse, List.length_take, Nat.min_eq_left hb] at h
  exact h.symm
theorem x_preV {H : Heap} {locs : List Loc} {vs : List Value} {h : XH} {q ci : Nat} {rs : List (Option Nat)} (hS : xS G s) (hR : xR G h H) (hV : va_S (xFr G) s.heap H locs) (hci : ci < 7) (ht : h.1[q]? = some (0, ci, rs)) : PreV s H (xcC ci) (xA G q) (xPre G (.ref q :: vs) h) (vs.map (xV G)) := by
  obtain ⟨r, h1, cell, g1, g2, g3, -⟩ : va_at G.2.2.1 vwCl (xA G q, .inr (ci, x_fs G h q ci rs)) H := hR.2.2 q _ ht
  obtain ⟨p1, p2⟩ := x_pre (as := .ref q :: vs) hS hR hV
  refine ⟨p1, ⟨cell, g1, by rw [g3]; rfl, by rw [g2]; exact (hS.2.1.1 ci _ (xc_cl ci hci)).2.1⟩, fun U hU hW => p2 U hU hW⟩
theorem x_runV {d j b idx ci q : Nat} {vs : List Value} {rs : List (Option Nat)} (C : xCx p l s m args meth c G o bytes mL) (hRm : d + 7 ≤ R.frames ∧ 60 * d + 180 ≤ R.locals) (hck : (o, idx, j, 1) ∈ xML) (hb : b = xn j + 1) (hci : ci < 7) (hcl : (xy j).cls = xcC ci) {pc : Nat} {L : XL} {st : List Value} {h h3 : XH} {ro : XO} (hL : L.length = mL) (hst : b ≤ st.length ∧ x_cats (st.drop b) ≤ 8) (hv : (st.take b).reverse = .ref q :: vs) (ht : h.1[q]? = some (0, ci, rs)) (hM : j + 1 < xNM → xMt l G d j (.ref q :: vs) h ro h3) (hd : decode bytes pc = .ok (.invokevirtual idx, 3))
    {H : Heap} {locs : List Loc} {ls : Array Slot} {cells slots mc ms : Nat} (hR : xR G h H) (hV : va_S (xFr G) s.heap H locs) (hl : x_ls G ls L) (h1 : h.1.length + mc = h3.1.length) (h2 : h.2.2.2 + ms = h3.2.2.2) (hf : cells + mc ≤ R.cells ∧ slots + ms ≤ R.slots) :
    vx_Run p l e R s m args below meth c H locs cells slots mc ms (F0 m pc ls (st.map (xV G))) ((st.drop b).map (xV G)) (xQ G ro h3 (Value.ref (xA G q) :: vs.map (xV G)).toArray) (xX G ro h3) (xFr G) := by
  obtain ⟨hx, hb', hml, hown, hts, hlocks, hS, hfl⟩ := C
  rw [xML_eq] at hck
  obtain ⟨z, hz, e⟩ := List.mem_map.mp hck
  obtain ⟨w1, -, w3, w4, -, hj⟩ := xMLp_ok z hz
  obtain ⟨q1, q2, q3, q4, q5, q6, q7⟩ := z
  cases e
  have hj : q3 + 1 < xNM := hj
  have hlink := hts _ (xT_of (List.mem_of_getElem? w1) rfl)
  obtain ⟨w31, hh⟩ := w3 (show (1 : Nat) ≠ 0 by decide)
  have hinst := hts _ (xT_of (List.mem_of_getElem? w31) rfl)
  have hsel := hts _ (xT_of (List.mem_of_getElem? (w4 rfl)) rfl)
  rw [hcl] at hsel
  have hb : b = xn q3 + 1 := hb
  have hlen : (vs.map (xV G)).length = xn q3 := by
    have h9 := x_revlen hv hst.1
    rw [List.length_map]
    omega
  have hroom : ({ frames := d + 6, cells := mc, slots := ms, locals := 60 * d + 120 } : Room).frames + 1 ≤ R.frames ∧ 8 + (xml q3 + 11) + ({ frames := d + 6, cells := mc, slots := ms, locals := 60 * d + 120 } : Room).locals ≤ R.locals := by
    have h9 := (xcw_ok2 q3 (by unfold xNM at hj; omega)).2.2
    refine ⟨by show d + 6 + 1 ≤ _; omega, by show 8 + (xml q3 + 11) + (60 * d + 120) ≤ _; omega⟩
  have hW : 2 * (F0 m pc ls (st.map (xV G))).monitorRoom + (((st.drop b).map (xV G)).map fun v => v.category).sum ≤ 8 := by
    have h9 := x_cats_map G (st.drop b)
    show 2 * 0 + _ ≤ 8
    omega
  exact vx_runV ⟨hx, hb', hml, hown, hts⟩ (hM hj mc ms h1 h2) ⟨x_callB hts hj hh hlink rfl rfl hroom, hinst, hsel⟩ (x_preV hS hR hV hci ht) rfl hlen (hl.1.trans hL) (x_rev hv G) hW hd hf
theorem x_runI {d j b idx q : Nat} {vs : List Value} (C : xCx p l s m args meth c G o bytes mL) (hRm : d + 7 ≤ R.frames ∧ 60 * d + 180 ≤ R.locals) (hck : (o, idx, j, 2) ∈ xML ∨ (o, idx, j) ∈ xNS) (hb : b = xn j + 1) {pc : Nat} {L : XL} {st : List Value} {h h3 : XH} {ro : XO} (hL : L.length = mL) (hst : b ≤ st.length ∧ x_cats (st.drop b) ≤ 8) (hv : (st.take b).reverse = .ref q :: vs) (hM : j + 1 < xNM → xMt l G d j (.ref q :: vs) h ro h3) (hd : decode bytes pc = .ok (.invokespecial idx, 3))
    {H : Heap} {locs : List Loc} {ls : Array Slot} {cells slots mc ms : Nat} (hR : xR G h H) (hV : va_S (xFr G) s.heap H locs) (hl : x_ls G ls L) (h1 : h.1.length + mc = h3.1.length) (h2 : h.2.2.2 + ms = h3.2.2.2) (hf : cells + mc ≤ R.cells ∧ slots + ms ≤ R.slots) :
    vx_Run p l e R s m args below meth c H locs cells slots mc ms (F0 m pc ls (st.map (xV G))) ((st.drop b).map (xV G)) (xQ G ro h3 (Value.ref (xA G q) :: vs.map (xV G)).toArray) (xX G ro h3) (xFr G) := by
  obtain ⟨hx, hb', hml, hown, hts, hlocks, hS, hfl⟩ := C
  have hlen : (vs.map (xV G)).length = xn j := by
    have h9 := x_revlen hv hst.1
    rw [List.length_map]
    omega
  have hW : 2 * (F0 m pc ls (st.map (xV G))).monitorRoom + (((st.drop b).map (xV G)).map fun v => v.category).sum ≤ 8 := by
    have h9 := x_cats_map G (st.drop b)
    show 2 * 0 + _ ≤ 8
    omega
  have hroom : ∀ hj : j + 1 < xNM, ({ frames := d + 6, cells := mc, slots := ms, locals := 60 * d + 120 } : Room).frames + 1 ≤ R.frames ∧ 8 + (xml j + 11) + ({ frames := d + 6, cells := mc, slots := ms, locals := 60 * d + 120 } : Room).locals ≤ R.locals := by
    intro hj
    have h9 := (xcw_ok2 j (by unfold xNM at hj; omega)).2.2
    refine ⟨by show d + 6 + 1 ≤ _; omega, by show 8 + (xml j + 11) + (60 * d + 120) ≤ _; omega⟩
  rcases hck with hck | hck
  · rw [xML_eq] at hck
    obtain ⟨z, hz, e⟩ := List.mem_map.mp hck
    obtain ⟨w1, -, w3, -, w5, hj⟩ := xMLp_ok z hz
    obtain ⟨q1, q2, q3, q4, q5, q6, q7⟩ := z
    cases e
    have hj : q3 + 1 < xNM := hj
    have hlink := hts _ (xT_of (List.mem_of_getElem? w1) rfl)
    obtain ⟨w31, hh⟩ := w3 (show (2 : Nat) ≠ 0 by decide)
    have hinst := hts _ (xT_of (List.mem_of_getElem? w31) rfl)
    obtain ⟨hname, hrn⟩ := w5 rfl
    have hcb := x_callB (mc := mc) (ms := ms) (rm := { frames := d + 6, cells := mc, slots := ms, locals := 60 * d + 120 }) hts hj hh hlink rfl rfl (hroom hj)
    dsimp only at hrn
    rw [hrn] at hcb
    exact vx_runI ⟨hx, hb', hml, hown, hts⟩ (hM hj mc ms h1 h2) ⟨hcb, hname, hinst⟩ (x_pre (as := .ref q :: vs) hS hR hV) rfl hlen (hl.1.trans hL) (x_rev hv G) hW hd hf
  · have hnest := hS.2.2.2.2.2.2.2.1 _ hck
    rw [xNS_eq] at hck
    obtain ⟨z, hz, e⟩ := List.mem_map.mp hck
    obtain ⟨w1, hname, hrn, hj, hh⟩ := xNS_ok z hz
    obtain ⟨q1, q2, q3, q4⟩ := z
    cases e
    have hj : q3 + 1 < xNM := hj
    have hinst := hts _ (xT_of (List.mem_of_getElem? w1) rfl)
    dsimp only at hrn hh hname hj
    have hc : xcw q3 = .code (xy q3) (xb q3) (xml q3) none := by unfold xcw; rw [hh]; dsimp only; rw [hrn]
    have hG := xws_good hj
    have hm : Cond.code (xy q3) (xb q3) (xml q3) none ∈ xws q3 := by rw [← hc]; exact List.mem_cons_self
    have h3' := xcw_ok3 q3 (by unfold xNM at hj; omega)
    refine vx_runIN (host := "Transseria") (bytes := xb q3) (maxL := xml q3) (n := xn q3) ⟨hx, hb', hml, hown, hts⟩ (hM hj mc ms h1 h2) ⟨⟨⟨rfl, rfl, (hroom hj).1, (hroom hj).2, pay_in hts hG, hm⟩, hts _ (hG _ hm).1, hts _ (xT_of (xci_in q3 hj) rfl), (xcw_ok2 q3 (by unfold xNM at hj; omega)).2.1, fun sig hs => ?_, va_Nw.use rfl hnest⟩, hname, hinst⟩ (x_pre (as := .ref q :: vs) hS hR hV) rfl hlen (hl.1.trans hL) (x_rev hv G) hW hd hf
    rw [hs] at h3'
    exact (Option.some.inj h3').symm
/-- System.arraycopy, from the start of one row of ints to the start of another -/
theorem x_acopy (C : xCx p l s m args meth c G 9 bytes mL) (hRm : 1 ≤ R.frames ∧ 60 ≤ R.locals) {pc : Nat} {L : XL} {st : List Value} {h : XH} (hL : L.length = mL) {q0 q n0' n1' : Nat} {n : Int32} {r0 r1 : List (Option Nat)} (ht0 : h.1[q0]? = some (1, n0', r0)) (ht1 : h.1[q]? = some (1, n1', r1)) (hn : ¬ n < 0) (hn0 : n.toNatClampNeg ≤ n0') (hn1 : n.toNatClampNeg ≤ n1') (hq : q0 ≠ q) (hst : x_cats st ≤ 8) (hd : decode bytes pc = .ok (.invokestatic 150, 3))
    (k : xW p l e R s m args below meth c G n0 z0 Q (pc + 3, L, st) (x_copy h q0 q n.toNatClampNeg)) : xW p l e R s m args below meth c G n0 z0 Q (pc, L, .int n :: .int 0 :: .ref q :: .int 0 :: .ref q0 :: st) h := by
  have C' := C
  obtain ⟨hx, hb, hml, hown, hts, hlocks, hS, hfl⟩ := C'
  intro H locs ls cells slots hR hV hl hc hz
  have nn : n.toInt = (n.toNatClampNeg : Int) := by
    have hz0 : (0 : Int) ≤ n.toInt := by
      have := Int32.not_lt.mp hn
      simpa using Int32.le_iff_toInt_le.mp this
    show n.toInt = ((n.toInt.toNat : Nat) : Int)
    omega
  have hc0 : H[xA G q0]? = some (vp_cell G.2.2.2.1 (n0', .inl (h.2.1 q0))) := hR.2.2 q0 _ ht0
  have hc1 : H[xA G q]? = some (vp_cell G.2.2.2.1 (n1', .inl (h.2.1 q))) := hR.2.2 q _ ht1
  intro T hT X
  obtain ⟨-, k0, hk0, cm0, hkk0⟩ := (hS.2.1.2 0 _ rfl).1 n0' (fun j => .int (h.2.1 q0 j))
  obtain ⟨-, k1, hk1, cm1, hkk1⟩ := (hS.2.1.2 0 _ rfl).1 n1' (fun j => .int (h.2.1 q j))
  have h0c : (0 : Int32).toNatClampNeg = 0 := rfl
  have hfr : (0 : Int32).toInt = 0 := rfl
  have h8 : nativeFrameWords "java/lang/System" "arraycopy" 5 ≤ 40 := by decide +kernel
  obtain ⟨vm', X', step⟩ := X.arraycopy hx hown (hts _ (xT_of (List.mem_of_getElem? xAC_l) rfl)) (hts _ (xT_of (List.mem_of_getElem? xAC_n) rfl)) (hts _ (xT_of (List.mem_of_getElem? xAC_s) rfl)) (hts _ (xT_of (List.mem_of_getElem? xAC_i) rfl)) (src := xA G q0) (dst := xA G q) (cs := vp_cell G.2.2.2.1 (n0', .inl (h.2.1 q0))) (cd := vp_cell G.2.2.2.1 (n1', .inl (h.2.1 q))) (srcPos := 0) (destPos := 0) (n := n) (by rw [hT]; exact hc0) (by rw [hT]; exact hc1)
    (fun _ h => by cases h) (fun _ h => by cases h) (fun h => by cases h) (fun h => by cases h) hk0 hk1 hkk0 hkk1 (by simp [refKind]) (by decide) (by decide) hn
    (by rw [hfr, nn]; show ¬ _ > ((arrV _ n0' (fun j => .int (h.2.1 q0 j))).slots.size : Int); rw [arrV_size]; omega)
    (by rw [hfr, nn]; show ¬ _ > ((arrV _ n1' (fun j => .int (h.2.1 q j))).slots.size : Int); rw [arrV_size]; omega)
    (fun vm₁ _ i hi => by
      have e : (vp_cell G.2.2.2.1 (n0', .inl (h.2.1 q0))).slots.getD ((0 : Int32).toNatClampNeg + i) .null = .int (h.2.1 q0 ((0 : Int32).toNatClampNeg + i)) := by
        show (arrV _ n0' (fun j => .int (h.2.1 q0 j))).slots.getD _ _ = _
        rw [Array.getD_eq_getD_getElem?, arrV_read _ _ (by rw [h0c]; omega)]
        rfl
      refine ⟨?_, ?_⟩
      · rw [e]
        rfl
      · rw [e]
        exact trivial)
    (g := F0 m pc ls (.int n :: .int 0 :: .ref (xA G q) :: .int 0 :: .ref (xA G q0) :: st.map (xV G))) rfl (by rw [hml, ← hL]; exact hl.1) (rest := st.map (xV G)) rfl (by rw [hb]; exact hd) hRm.1 (by have h9 := x_cats_map G st; show 2 * 0 + _ + (nativeFrameWords "java/lang/System" "arraycopy" 5 + 11) ≤ _; omega)
  have e1 : copied (vp_cell G.2.2.2.1 (n0', .inl (h.2.1 q0))) (vp_cell G.2.2.2.1 (n1', .inl (h.2.1 q))) 0 0 n = vp_cell G.2.2.2.1 (n1', .inl (va_cpy (h.2.1 q0) (h.2.1 q) (0 : Int32).toNatClampNeg (0 : Int32).toNatClampNeg n.toNatClampNeg)) := va_copied (fun z => .int z) _ _ _ _ (by rw [h0c]; omega)
  rw [e1] at X' step
  have hlt : xA G q < H.size := (Array.getElem?_eq_some_iff.mp hc1).1
  generalize hH1 : H.setIfInBounds (xA G q) (vp_cell G.2.2.2.1 (n1', .inl (va_cpy (h.2.1 q0) (h.2.1 q) (0 : Int32).toNatClampNeg (0 : Int32).toNatClampNeg n.toNatClampNeg))) = H1
  have hheap : ((T.setVm vm').setCell (xA G q) (vp_cell G.2.2.2.1 (n1', .inl (va_cpy (h.2.1 q0) (h.2.1 q) (0 : Int32).toNatClampNeg (0 : Int32).toNatClampNeg n.toNatClampNeg)))).heap = H1 := by rw [← hH1, ← hT]; rfl
  have eo : ∀ a : Nat, a ≠ xA G q → H1[a]? = H[a]? := fun a ha => by rw [← hH1]; simp [Array.getElem?_setIfInBounds, Ne.symm ha]
  have ez : H1.size = H.size := by rw [← hH1]; simp
  have ea : H1[xA G q]? = some (vp_cell G.2.2.2.1 (n1', .inl (fun j => if j < n.toNatClampNeg then h.2.1 q0 j else h.2.1 q j))) := by
    rw [← hH1]
    simp only [Array.getElem?_setIfInBounds, hlt, if_true]
    congr 5
    funext j
    simp [va_cpy]
  have hqn := xR_ne0 hR ht1 (show (1 : Nat) ≠ 5 by decide)
  have hR1 : xR G (x_copy h q0 q n.toNatClampNeg) H1 := xR_put (t2 := (1, n1', r1)) hS.1 hR ht1 (show (1 : Nat) ≠ 5 by decide) (x_set_self ht1).symm (fun k' hk' => by simp [x_copy, hk']) (fun _ _ => rfl) ez eo (by
    show H1[xA G q]? = some (vp_cell G.2.2.2.1 (n1', .inl ((x_copy h q0 q n.toNatClampNeg).2.1 q)))
    rw [ea]
    simp [x_copy])
  obtain ⟨t, a1, b1⟩ := k H1 _ ls cells slots hR1 ⟨by rw [ez]; exact hV.1, fun a g1 g2 => by
      rw [eo a (fun z => g2 (by rw [z]; exact xA_in hqn))]
      exact hV.2.1 a g1 g2, fun z hz => by
      rcases List.mem_append.mp hz with z1 | z1
      · exact hV.2.2 z z1
      · obtain ⟨y, -, hy⟩ := List.mem_map.mp z1
        rw [← hy]
        exact xA_in hqn⟩ hl hc hz _ hheap X'
  exact ⟨t, step t a1, b1⟩
end XSTEP
end
section
/-! ===== the words of the throws ===== -/
/-- the throws: class, constructor, their words -/
def xTA : List (Nat × Nat × Nat) := [(2, 157, 3), (6, 88, 2), (6, 153, 3), (6, 244, 1)]
def xTN : List String := ["java/lang/RuntimeException", "java/lang/Exception"]
theorem xTA_1 : ∀ q ∈ xTA, ∀ w ∈ (vx_atS (xcn q.1) q.2.1 (xen q.2.2) xTN).filter goodWord, w ∈ lw_tbl := by decide +kernel
theorem xTA_2 : ∀ q ∈ xTA, ∀ w ∈ (vx_atS (xcn q.1) q.2.1 (xen q.2.2) xTN).filter (fun w => !goodWord w), w ∈ Cond.castable (xen q.2.2) (xen q.2.2) :: xDec.map Cond.declares := by decide +kernel
theorem xTA_3 : ∀ q ∈ xTA, ∀ w ∈ vx_atS (xcn q.1) q.2.1 (xen q.2.2) xTN, vx_ot w = true := by decide +kernel
theorem xTA_4 : Bundle.fit (xen 1) = true ∧ Bundle.fit (xen 2) = true ∧ Bundle.fit (xen 3) = true ∧ ∀ n ∈ xTN, Bundle.fit n = true := by decide +kernel
theorem xTH_ok : ∀ q ∈ xTH, (q.1, q.2.2.2.2.1, q.2.2.1) ∈ xTA ∧ Cond.classLink (xcn q.1) q.2.1 (xen q.2.2.1) ∈ lw_tbl ∧ Cond.initialized (xen q.2.2.1) ∈ lw_tbl ∧ (q.2.2.1 = 1 ∨ q.2.2.1 = 2 ∨ q.2.2.1 = 3) := by decide +kernel
end
section
/-! ===== the toy machine against the model: the whole ===== -/
/-- what the table must have of a call, a throw -/
def xckI (o : Nat) (ins : Instr) (a b c : Nat) : Bool := match ins with
  | .invokestatic i => if c = 0 then decide ((o, i, a, 0) ∈ xML) && decide (b = xn a) else if c = 6 then decide (o = 9) && decide (i = 150) && decide (b = 5) else decide ((o, i, c) ∈ xMM) && decide (b = 2)
  | .invokevirtual i => decide ((o, i, a, 1) ∈ xML) && decide (b = xn a + 1) && decide (c < 7) && decide ((xy a).cls = xcC c)
  | .invokespecial i => if c = 5 then decide ((o, i) ∈ xOI) else (decide ((o, i, a, 2) ∈ xML) || decide ((o, i, a) ∈ xNS)) && decide (b = xn a + 1)
  | _ => true
def x_dec (bytes : ByteArray) (pc : Nat) (ins : Instr) (n : Nat) : Bool := match decode bytes pc with
  | .ok (i2, n2) => decide (i2 = ins) && decide (n2 = n)
  | _ => false
theorem x_dec_ok {bytes : ByteArray} {pc : Nat} {ins : Instr} {n : Nat} (h : x_dec bytes pc ins n = true) : decode bytes pc = .ok (ins, n) := by
  unfold x_dec at h
  split at h
  · rename_i i2 n2 hd
    simp only [Bool.and_eq_true, decide_eq_true_eq] at h
    rw [hd, h.1, h.2]
  · cases h
/-- a throw: 'new X("..")' and its throw, as the list of throws has it -/
def xckT (o : Nat) (nh : Bool) (bytes : ByteArray) (pc : Nat) (ins : Instr) (a c : Nat) : Bool := match ins with
  | .new i => if c = 1 then nh && xTH.any (fun q => decide (q.1 = o) && decide (q.2.1 = i) && decide (q.2.2.1 = a) && x_dec bytes (pc + 3) .dup 1 &&
      ((x_dec bytes (pc + 4) (.ldc q.2.2.2.1) 2 && x_dec bytes (pc + 6) (.invokespecial q.2.2.2.2.1) 3 && x_dec bytes (pc + 9) .athrow 1) ||
       (x_dec bytes (pc + 4) (.ldc_w q.2.2.2.1) 3 && x_dec bytes (pc + 7) (.invokespecial q.2.2.2.2.1) 3 && x_dec bytes (pc + 10) .athrow 1))) else true
  | _ => true
/-- one row of a table -/
def xck (o : Nat) (ini nh : Bool) (rt : Option FieldType) (bytes : ByteArray) (pc : Nat) (t : XI) : Bool :=
  x_dec bytes pc t.1 (xlen t.1 t.2.1) && (xckP o pc t.1 t.2.1 t.2.2.2.2.1 t.2.2.2.2.2 && (xckM o ini rt t.1 t.2.1 t.2.2.1 t.2.2.2.1 && (xckI o t.1 t.2.1 t.2.2.1 t.2.2.2.1 && xckT o nh bytes pc t.1 t.2.1 t.2.2.2.1)))
def xall (f : Nat → XI → Bool) : Nat → List (Option XI) → Bool
  | _, [] => true
  | n, none :: l => xall f (n + 1) l
  | n, some t :: l => f n t && xall f (n + 1) l
theorem xall_get {f : Nat → XI → Bool} : ∀ (l : List (Option XI)) (n k : Nat) (t : XI), xall f n l = true → l[k]? = some (some t) → f (n + k) t = true := by
  intro l
  induction l with
  | nil => intro n k t _ h; simp at h
  | cons x l ih =>
    intro n k t h hk
    cases k with
    | zero =>
      simp at hk
      subst hk
      simp only [xall, Bool.and_eq_true] at h
      exact h.1
    | succ k =>
      have hk' : l[k]? = some (some t) := by simpa using hk
      rw [show n + (k + 1) = n + 1 + k by omega]
      cases x with
      | none => exact ih _ _ _ h hk'
      | some y =>
        simp only [xall, Bool.and_eq_true] at h
        exact ih _ _ _ h.2 hk'
theorem x_back_of {hs : List (Nat × Nat × Nat × Nat × Nat × Nat)} {pc : Nat} {L : XL} {rest : List Value} {ro : XO} {h3 : XH} {r : XR} (e0 : x_back hs pc L rest (some (ro, h3)) = some r) : x_of r = h3 := by
  cases ro with
  | inl v => cases e0; rfl
  | inr ex =>
    simp only [x_back] at e0
    cases hh : x_hand hs pc ex with
    | none =>
      rw [hh] at e0
      cases hs with
      | nil => cases e0; rfl
      | cons x xs => cases e0
    | some y =>
      rw [hh] at e0
      obtain ⟨p2, k⟩ := y
      dsimp only at e0
      split at e0
      · cases e0; rfl
      · cases e0
section XMAIN
variable {p : Program} {l : Launch} {e : Env} {R : Room} {s : State} {m : MethodId} {args : Array Value} {below : List Frame} {meth : Method} {c : Code} {G : XG} {o : Nat} {bytes : ByteArray} {mL : Nat} {n0 z0 : Nat} {Q : State → Prop}
set_option maxHeartbeats 4000000 in
theorem x_thr (C : xCx p l s m args meth c G o bytes mL) (hRm : 6 ≤ R.frames ∧ 90 ≤ R.locals) {rt : Option FieldType} {pc i a : Nat} {L : XL} {st : List Value} {h : XH} (hT : c.exceptionTable.toList = []) (hL : L.length = mL) (hd : decode bytes pc = .ok (.new i, 3)) (hck : xckT o true bytes pc (.new i) a 1 = true) (hst : x_cats st ≤ 8) (hcap : h.1.length + 1 ≤ n0 + R.cells ∧ h.2.2.2 + 6 ≤ z0 + R.slots)
    (k : xEnd p l e R s m args below meth c G bytes rt n0 z0 Q (.inr a) (x_new h (4, a, []) 6)) : xW p l e R s m args below meth c G n0 z0 Q (pc, L, st) h := by
  obtain ⟨mc, ms, hQ, g1, g2⟩ := k.2 a rfl
  subst hQ
  simp only [x_new, List.length_append, List.length_singleton] at g1 g2
  intro H locs ls cells slots hR hV hl hc hz
  obtain ⟨hx, hb, hml, hown, hts, hlocks, hS, hfl⟩ := C
  simp only [xckT, if_true, Bool.true_and, List.any_eq_true, Bool.and_eq_true, Bool.or_eq_true, decide_eq_true_eq] at hck
  obtain ⟨q, hq, ⟨⟨⟨⟨e1, e2⟩, e3⟩, d3⟩, d4⟩⟩ := hck
  obtain ⟨w1, w2, w3, w4⟩ := xTH_ok q hq
  obtain ⟨sa, hsa⟩ := hS.2.2.2.2.2.1 q hq
  obtain ⟨q1, q2, q3, q4, q5, q6, q7⟩ := q
  dsimp only at e1 e2 e3 d4 w1 w2 w3 w4 hsa
  subst e1; subst e2; subst e3
  have hfit : Bundle.fit (xen q3) = true := by
    rcases w4 with z | z | z
    · rw [z]; exact xTA_4.1
    · rw [z]; exact xTA_4.2.1
    · rw [z]; exact xTA_4.2.2.1
  have t1 : ∀ w ∈ (vx_atS (xcn q1) q5 (xen q3) xTN).filter goodWord, w ∈ lw_tbl := xTA_1 (q1, q5, q3) w1
  have t2 : ∀ w ∈ (vx_atS (xcn q1) q5 (xen q3) xTN).filter (fun w => !goodWord w), w ∈ Cond.castable (xen q3) (xen q3) :: xDec.map Cond.declares := xTA_2 (q1, q5, q3) w1
  have t3 : ∀ w ∈ vx_atS (xcn q1) q5 (xen q3) xTN, vx_ot w = true := xTA_3 (q1, q5, q3) w1
  generalize hLL : vx_atS (xcn q1) q5 (xen q3) xTN = LL at t1 t2 t3
  have hat : ∀ w ∈ LL, w.before args s = true := by
    refine vx_hat (fun w hw => ?_) t2 (fun w hw => ?_)
    · exact hts w (xT_of (t1 w hw) (List.mem_filter.mp hw).2)
    · rcases List.mem_cons.mp hw with z | z
      · rw [z]
        exact va_Nw.use rfl (hS.2.2.2.2.2.2.2.2.1 q3)
      · obtain ⟨y, hy, ey⟩ := List.mem_map.mp z
        rw [← ey]
        exact va_Nw.use rfl (hS.2.2.2.2.2.2.2.2.2.2 y hy)
  have hk := hts _ (xT_of w2 rfl)
  have hini := hts _ (xT_of w3 rfl)
  have hgood : ∀ w ∈ Cond.classLink (xcn q1) q2 (xen q3) :: Cond.initialized (xen q3) :: LL, vx_ot w = true := by
    intro w hw
    rcases List.mem_cons.mp hw with z | z
    · subst z; rfl
    rcases List.mem_cons.mp z with z | z
    · subst z; rfl
    exact t3 w z
  have hsum : ((st.map (xV G)).map fun v => v.category).sum + (13 * (xTN.length + 1) + 43) ≤ R.locals := by
    rw [x_cats_map]
    show x_cats st + 82 ≤ _
    omega
  have hxx : ∀ t : State, s.vm.Alike t.vm → t.heap.size = H.size + 1 → (∀ q : Nat, q < H.size → t.heap[q]? = H[q]?) → xX G (.inr q3) (x_new h (4, q3, []) 6) (xen q3) s t := by
    intro t _ t1 t2
    refine ⟨⟨q3, rfl, rfl, xR_new hR t1 t2 trivial (xR_lt hS.1 hR)⟩, ?_⟩
    have hg := x_sgrow hV t1 t2
    exact ⟨hg.1, hg.2.1⟩
  rw [← hLL] at hat hgood
  have hsz : ls.size = c.maxLocals := by rw [hml, ← hL]; exact hl.1
  rcases d4 with ⟨⟨d4, d6⟩, d9⟩ | ⟨⟨d4, d7⟩, d10⟩
  · exact x_throwS hx hb hfl hown hfit xTA_4.2.2.2 hk hini hsa hat hgood hS.2.2.2.1 hS.2.2.2.2.1 hV hsz hd (x_dec_ok d3) (x_dec_ok d4) (x_dec_ok d6) (x_dec_ok d9) (fun x hx => by rw [hT] at hx; cases hx) (by show 2 + 3 < _; omega) hsum (by omega) (by omega) hlocks hxx hV.2.2 (by omega) (by omega)
  · exact x_throwW hx hb hfl hown hfit xTA_4.2.2.2 hk hini hsa hat hgood hS.2.2.2.1 hS.2.2.2.2.1 hV hsz hd (x_dec_ok d3) (x_dec_ok d4) (x_dec_ok d7) (x_dec_ok d10) (fun x hx => by rw [hT] at hx; cases hx) (by show 2 + 3 < _; omega) hsum (by omega) (by omega) hlocks hxx hV.2.2 (by omega) (by omega)
set_option maxHeartbeats 8000000 in
/-- the method's end, or a throw -/
theorem xmem_end (C : xCx p l s m args meth c G o bytes mL) (hRm : 6 ≤ R.frames ∧ 90 ≤ R.locals) {ini nh : Bool} {rt : Option FieldType} {pc : Nat} {ins : Instr} {a b cc : Nat} {L : XL} {st : List Value} {h h2 : XH} {o2 : XO} (hT : nh = true → c.exceptionTable.toList = []) (hL : L.length = mL) (hd : decode bytes pc = .ok (ins, xlen ins a)) (hck : xckM o ini rt ins a b cc = true) (hckT : xckT o nh bytes pc ins a cc = true) (e0 : xmem pc ins a b cc L st h = some (.inr (o2, h2))) (hcap : h2.1.length ≤ n0 + R.cells ∧ h2.2.2.2 ≤ z0 + R.slots)
    (k : xEnd p l e R s m args below meth c G bytes rt n0 z0 Q o2 h2) : xW p l e R s m args below meth c G n0 z0 Q (pc, L, st) h := by
  have key : ∀ (v : Option Value), o2 = .inl v → h2 = h → x_retn rt ins st v → xlen ins a = 1 → xW p l e R s m args below meth c G n0 z0 Q (pc, L, st) h := by
    intro v hv hh hr h1
    subst hh
    intro H locs ls cells slots hR hV hl hc hz
    rw [h1] at hd
    exact k.1 v ins st pc H locs ls cells slots hv hr hd hR hV hc hz
  unfold xmem at e0
  split at e0
  case h_14 st i =>
    split at e0
    · cases e0
    · split at e0
      · rename_i hs
        cases e0
        have hnh : nh = true := by
          cases nh
          · simp [xckT] at hckT
          · rfl
        subst hnh
        simp only [x_new, List.length_append, List.length_singleton] at hcap
        exact x_thr C hRm (hT rfl) hL hd hckT hs (by omega) k
      · cases e0
    · cases e0
  case h_15 x =>
    split at e0
    · rename_i hx
      cases e0
      refine key _ rfl rfl (Or.inl ⟨rfl, x, rfl, rfl, ?_⟩) rfl
      simp only [xckM, Bool.or_eq_true, Bool.and_eq_true, decide_eq_true_eq] at hck
      rcases hck with ⟨z1, z2⟩ | ⟨z1, z2⟩
      · exact Or.inl z2
      · refine Or.inr ⟨z2, ?_⟩
        rcases hx with y | y
        · omega
        · exact y.2
    · cases e0
  case h_16 x =>
    cases e0
    exact key _ rfl rfl (Or.inr (Or.inl ⟨rfl, x, rfl, rfl, of_decide_eq_true hck⟩)) rfl
  case h_17 x =>
    cases e0
    refine key _ rfl rfl (Or.inr (Or.inr (Or.inl ⟨rfl, .ref x, rfl, rfl, Or.inr ⟨x, rfl⟩, ?_⟩))) rfl
    cases rt with
    | none => cases hck
    | some t => exact ⟨t, rfl, hck⟩
  case h_18 =>
    cases e0
    refine key _ rfl rfl (Or.inr (Or.inr (Or.inl ⟨rfl, .null, rfl, rfl, Or.inl rfl, ?_⟩))) rfl
    cases rt with
    | none => cases hck
    | some t => exact ⟨t, rfl, hck⟩
  case h_19 =>
    cases e0
    exact key _ rfl rfl (Or.inr (Or.inr (Or.inr ⟨rfl, rfl, rfl, of_decide_eq_true hck⟩))) rfl
  all_goals (exfalso; repeat' split at e0)
  all_goals first
    | (cases e0; done)
    | (simp [x_go] at e0; done)
end XMAIN
end
section
/-! ===== one step, many steps, all methods ===== -/
section XSIM
variable {p : Program} {l : Launch} {e : Env} {R : Room} {s : State} {m : MethodId} {args : Array Value} {below : List Frame} {meth : Method} {c : Code} {G : XG} {o : Nat} {bytes : ByteArray} {mL : Nat} {n0 z0 : Nat} {Q : State → Prop}
theorem xMM_ok {o i cc : Nat} (h : (o, i, cc) ∈ xMM) : ∃ pos : Nat, (cc = 1 → lw_tbl[pos]? = some (Cond.methodLink (xcn o) i Lib.Math.max.name)) ∧ (cc = 2 → lw_tbl[pos]? = some (Cond.methodLink (xcn o) i Lib.Math.min.name)) ∧ (cc = 3 → lw_tbl[pos]? = some (Cond.methodLink (xcn o) i Lib.MathLoose.max_long.x)) ∧ (cc = 4 → lw_tbl[pos]? = some (Cond.methodLink (xcn o) i Lib.MathLoose.min_long.x)) := by
  obtain ⟨q, hq, e⟩ := List.mem_map.mp h
  have w := xMMp_ok q hq
  obtain ⟨q1, q2, q3, q4⟩ := q
  cases e
  exact ⟨q4, fun z => by dsimp only at z; subst z; exact w, fun z => by dsimp only at z; subst z; exact w, fun z => by dsimp only at z; subst z; exact w, fun z => by dsimp only at z; subst z; exact w⟩
theorem x_of_go {pc : Nat} {L : XL} {st : List Value} {h : XH} {r : XR} (e0 : x_go pc L st h = some r) : r = .inl ((pc, L, st), h) := by cases e0; rfl
set_option maxHeartbeats 8000000 in
theorem xinvS_ok {d : Nat} (C : xCx p l s m args meth c G o bytes mL) (hRm : d + 7 ≤ R.frames ∧ 60 * d + 180 ≤ R.locals) {hs : List (Nat × Nat × Nat × Nat × Nat × Nat)} {hr : List (Nat × Nat × Nat × Nat)} {rt : Option FieldType} (hT : c.exceptionTable.toList = tableOf hr) (hok : xhOK o bytes hs hr) {call : Nat → List Value → XH → Option (XO × XH)} (hcall : ∀ j as h o2 h2, call j as h = some (o2, h2) → j + 1 < xNM → xMt l G d j as h o2 h2) (hcle : ∀ j as h o h2, call j as h = some (o, h2) → x_le h h2)
    {pc i a b cc : Nat} {L : XL} {st : List Value} {h : XH} {r : XR} (hL : L.length = mL) (hd : decode bytes pc = .ok (.invokestatic i, 3)) (hck : xckI o (.invokestatic i) a b cc = true) (e0 : xinvS call hs pc a b cc L st h = some r) (hcap : (x_of r).1.length ≤ n0 + R.cells ∧ (x_of r).2.2.2 ≤ z0 + R.slots) (k : xK p l e R s m args below meth c G bytes rt n0 z0 Q r) : xW p l e R s m args below meth c G n0 z0 Q (pc, L, st) h := by
  unfold xinvS at e0
  split at e0
  · rename_i hst
    split at e0
    · simp only [xckI, if_true, Bool.and_eq_true, decide_eq_true_eq] at hck
      cases hcl : call a (st.take b).reverse h with
      | none => rw [hcl] at e0; cases e0
      | some y =>
        obtain ⟨ro, h3⟩ := y
        rw [hcl] at e0
        have hle := hcle _ _ _ _ _ hcl
        rw [x_back_of e0] at hcap
        intro H locs ls cells slots hR hV hl hc hz
        obtain ⟨mc, hmc⟩ := Nat.exists_eq_add_of_le hle.1
        obtain ⟨ms, hms⟩ := Nat.exists_eq_add_of_le hle.2
        exact x_fin C hT hok e0 k (x_runS C hRm hck.1 hck.2 hL hst (fun hj => hcall _ _ _ _ _ hcl hj) hd hR hV hl hmc.symm hms.symm (by omega)) hV hl (by omega) (by omega)
    all_goals (have C' := C; obtain ⟨hx, hb, hml, hown, hts, hlocks, hS, hfl⟩ := C')
    · split at e0
      · rename_i y x st
        have e1 := x_of_go e0
        subst e1
        intro H locs ls cells slots hR hV hl hc hz
        replace hck : (decide ((o, i, 1) ∈ xMM) && decide (b = 2)) = true := hck
        simp only [Bool.and_eq_true, decide_eq_true_eq] at hck
        obtain ⟨pos, w1, w2, w3, w4⟩ := xMM_ok  hck.1
        have hcap : h.1.length ≤ n0 + R.cells ∧ h.2.2.2 ≤ z0 + R.slots := hcap
        have hb2 : b = 2 := hck.2
        subst hb2
        have hst2 : x_cats st ≤ 8 := hst.2
        exact va_mmax hx hb (by rw [hml, ← hL]; exact hl.1.symm) hown (hts _ (xT_of (List.mem_of_getElem? (w1 rfl)) rfl)) (hts _ (xT_of (List.mem_of_getElem? xmm_s1) rfl)) (hts _ (xT_of (List.mem_of_getElem? xmm_i) rfl)) (hts _ (xT_of (List.mem_of_getElem? xmm_c1) rfl)) (by omega) (by rw [x_cats_map]; omega) (by omega) (by omega) hd (k H locs ls cells slots hR hV hl hc hz)
      · cases e0
    · split at e0
      · rename_i y x st
        have e1 := x_of_go e0
        subst e1
        intro H locs ls cells slots hR hV hl hc hz
        replace hck : (decide ((o, i, 2) ∈ xMM) && decide (b = 2)) = true := hck
        simp only [Bool.and_eq_true, decide_eq_true_eq] at hck
        obtain ⟨pos, w1, w2, w3, w4⟩ := xMM_ok  hck.1
        have hcap : h.1.length ≤ n0 + R.cells ∧ h.2.2.2 ≤ z0 + R.slots := hcap
        have hb2 : b = 2 := hck.2
        subst hb2
        have hst2 : x_cats st ≤ 8 := hst.2
        exact va_mmin hx hb (by rw [hml, ← hL]; exact hl.1.symm) hown (hts _ (xT_of (List.mem_of_getElem? (w2 rfl)) rfl)) (hts _ (xT_of (List.mem_of_getElem? xmm_s2) rfl)) (hts _ (xT_of (List.mem_of_getElem? xmm_i) rfl)) (hts _ (xT_of (List.mem_of_getElem? xmm_c2) rfl)) (by omega) (by rw [x_cats_map]; omega) (by omega) (by omega) hd (k H locs ls cells slots hR hV hl hc hz)
      · cases e0
    · split at e0
      · rename_i y x st
        have e1 := x_of_go e0
        subst e1
        intro H locs ls cells slots hR hV hl hc hz
        replace hck : (decide ((o, i, 3) ∈ xMM) && decide (b = 2)) = true := hck
        simp only [Bool.and_eq_true, decide_eq_true_eq] at hck
        obtain ⟨pos, w1, w2, w3, w4⟩ := xMM_ok  hck.1
        have hcap : h.1.length ≤ n0 + R.cells ∧ h.2.2.2 ≤ z0 + R.slots := hcap
        have hb2 : b = 2 := hck.2
        subst hb2
        have hst2 : x_cats st ≤ 8 := hst.2
        exact va_mmax_long hx hb (by rw [hml, ← hL]; exact hl.1.symm) hown (hts _ (xT_of (List.mem_of_getElem? (w3 rfl)) rfl)) (hts _ (xT_of (List.mem_of_getElem? xmm_s3) rfl)) (hts _ (xT_of (List.mem_of_getElem? xmm_i) rfl)) (hts _ (xT_of (List.mem_of_getElem? xmm_c3) rfl)) (by omega) (by rw [x_cats_map]; omega) (by omega) (by omega) hd (k H locs ls cells slots hR hV hl hc hz)
      · cases e0
    · split at e0
      · rename_i y x st
        have e1 := x_of_go e0
        subst e1
        intro H locs ls cells slots hR hV hl hc hz
        replace hck : (decide ((o, i, 4) ∈ xMM) && decide (b = 2)) = true := hck
        simp only [Bool.and_eq_true, decide_eq_true_eq] at hck
        obtain ⟨pos, w1, w2, w3, w4⟩ := xMM_ok  hck.1
        have hcap : h.1.length ≤ n0 + R.cells ∧ h.2.2.2 ≤ z0 + R.slots := hcap
        have hb2 : b = 2 := hck.2
        subst hb2
        have hst2 : x_cats st ≤ 8 := hst.2
        exact va_mmin_long hx hb (by rw [hml, ← hL]; exact hl.1.symm) hown (hts _ (xT_of (List.mem_of_getElem? (w4 rfl)) rfl)) (hts _ (xT_of (List.mem_of_getElem? xmm_s4) rfl)) (hts _ (xT_of (List.mem_of_getElem? xmm_i) rfl)) (hts _ (xT_of (List.mem_of_getElem? xmm_c4) rfl)) (by omega) (by rw [x_cats_map]; omega) (by omega) (by omega) hd (k H locs ls cells slots hR hV hl hc hz)
      · cases e0
    · split at e0
      · rename_i n dp q sp q0 st
        split at e0
        · rename_i n0' r0 n1' r1 ht0 ht1
          split at e0
          · cases e0
          · rename_i hno
            have e1 := x_of_go e0
            subst e1
            replace hck : (decide (o = 9) && decide (i = 150) && decide (b = 5)) = true := hck
            simp only [Bool.and_eq_true, decide_eq_true_eq] at hck
            obtain ⟨⟨o9, i9⟩, b5⟩ := hck
            subst o9 i9 b5
            have g1 : ¬ n < 0 := fun z => hno (Or.inl z)
            have g2 : dp = 0 := Classical.byContradiction fun z => hno (Or.inr (Or.inl z))
            have g3 : sp = 0 := Classical.byContradiction fun z => hno (Or.inr (Or.inr (Or.inl z)))
            have g4 : n.toNatClampNeg ≤ n0' := Nat.not_lt.mp fun z => hno (Or.inr (Or.inr (Or.inr (Or.inl z))))
            have g5 : n.toNatClampNeg ≤ n1' := Nat.not_lt.mp fun z => hno (Or.inr (Or.inr (Or.inr (Or.inr (Or.inl z)))))
            have g6 : q0 ≠ q := fun z => hno (Or.inr (Or.inr (Or.inr (Or.inr (Or.inr z)))))
            subst g2 g3
            exact x_acopy C (by omega) hL ht0 ht1 g1 g4 g5 g6 hst.2 hd k
        · cases e0
      · cases e0
    · cases e0
  · cases e0
theorem xinvV_ok {d : Nat} (C : xCx p l s m args meth c G o bytes mL) (hRm : d + 7 ≤ R.frames ∧ 60 * d + 180 ≤ R.locals) {hs : List (Nat × Nat × Nat × Nat × Nat × Nat)} {hr : List (Nat × Nat × Nat × Nat)} {rt : Option FieldType} (hT : c.exceptionTable.toList = tableOf hr) (hok : xhOK o bytes hs hr) {call : Nat → List Value → XH → Option (XO × XH)} (hcall : ∀ j as h o2 h2, call j as h = some (o2, h2) → j + 1 < xNM → xMt l G d j as h o2 h2) (hcle : ∀ j as h o h2, call j as h = some (o, h2) → x_le h h2)
    {pc i a b cc : Nat} {L : XL} {st : List Value} {h : XH} {r : XR} (hL : L.length = mL) (hd : decode bytes pc = .ok (.invokevirtual i, 3)) (hck : xckI o (.invokevirtual i) a b cc = true) (e0 : xinvV call hs pc a b cc L st h = some r) (hcap : (x_of r).1.length ≤ n0 + R.cells ∧ (x_of r).2.2.2 ≤ z0 + R.slots) (k : xK p l e R s m args below meth c G bytes rt n0 z0 Q r) : xW p l e R s m args below meth c G n0 z0 Q (pc, L, st) h := by
  simp only [xckI, Bool.and_eq_true, decide_eq_true_eq] at hck
  obtain ⟨⟨⟨f1, f2⟩, f3⟩, f4⟩ := hck
  unfold xinvV at e0
  split at e0
  · rename_i hst
    split at e0
    · rename_i q vs hv
      split at e0
      · rename_i ci rs ht
        split at e0
        · rename_i hci
          subst hci
          cases hcl : call a (.ref q :: vs) h with
          | none => rw [hcl] at e0; cases e0
          | some y =>
            obtain ⟨ro, h3⟩ := y
            rw [hcl] at e0
            have hle := hcle _ _ _ _ _ hcl
            rw [x_back_of e0] at hcap
            intro H locs ls cells slots hR hV hl hc hz
            obtain ⟨mc, hmc⟩ := Nat.exists_eq_add_of_le hle.1
            obtain ⟨ms, hms⟩ := Nat.exists_eq_add_of_le hle.2
            exact x_fin C hT hok e0 k (x_runV C hRm f1 f2 f3 f4 hL hst hv ht (fun hj => hcall _ _ _ _ _ hcl hj) hd hR hV hl hmc.symm hms.symm (by omega)) hV hl (by omega) (by omega)
        · cases e0
      · cases e0
    · cases e0
  · cases e0
theorem xinvI_ok {d : Nat} (C : xCx p l s m args meth c G o bytes mL) (hRm : d + 7 ≤ R.frames ∧ 60 * d + 180 ≤ R.locals) {hs : List (Nat × Nat × Nat × Nat × Nat × Nat)} {hr : List (Nat × Nat × Nat × Nat)} {rt : Option FieldType} (hT : c.exceptionTable.toList = tableOf hr) (hok : xhOK o bytes hs hr) {call : Nat → List Value → XH → Option (XO × XH)} (hcall : ∀ j as h o2 h2, call j as h = some (o2, h2) → j + 1 < xNM → xMt l G d j as h o2 h2) (hcle : ∀ j as h o h2, call j as h = some (o, h2) → x_le h h2)
    {pc i a b cc : Nat} {L : XL} {st : List Value} {h : XH} {r : XR} (hL : L.length = mL) (hd : decode bytes pc = .ok (.invokespecial i, 3)) (hck : xckI o (.invokespecial i) a b cc = true) (e0 : xinvI call hs pc a b cc L st h = some r) (hcap : (x_of r).1.length ≤ n0 + R.cells ∧ (x_of r).2.2.2 ≤ z0 + R.slots) (k : xK p l e R s m args below meth c G bytes rt n0 z0 Q r) : xW p l e R s m args below meth c G n0 z0 Q (pc, L, st) h := by
  unfold xinvI at e0
  split at e0
  · rename_i hst
    split at e0
    · rename_i q vs hv
      split at e0
      · split at e0
        · simp only [xckI, if_true, decide_eq_true_eq] at hck
          rw [xOI_eq] at hck
          obtain ⟨z, hz', ez⟩ := List.mem_map.mp hck
          have w1 := xOI_ok z hz'
          obtain ⟨z1, z2, z3⟩ := z
          cases ez
          obtain ⟨hx, hb, hml, hown, hts, hlocks, hS, hfl⟩ := C
          have e1 := x_of_go e0
          subst e1
          intro H locs ls cells slots hR hV hl hc hz
          have hsk := x_rev hv G
          show W p l e R s m args below meth c H locs cells slots Q (F0 m pc ls (st.map (xV G)))
          rw [hsk]
          exact W.objInit hx hb hown (hts _ (xT_of (List.mem_of_getElem? w1) rfl)) (hts _ (xT_of (List.mem_of_getElem? xOI_i) rfl)) (hts _ (xT_of (List.mem_of_getElem? xOI_c) rfl)) rfl (by rw [hml, ← hL]; exact hl.1) rfl hd (by omega) (by have h9 := x_cats_map G (st.drop b); show 2 * 0 + _ + 12 ≤ _; omega) (k H locs ls cells slots hR hV hl hc hz)
        · cases e0
      · rename_i hc5
        have hck : (((o, i, a, 2) ∈ xML ∨ (o, i, a) ∈ xNS) ∧ b = xn a + 1) := by
          simp only [xckI] at hck
          rw [if_neg (by intro z; exact hc5 z)] at hck
          simpa using hck
        cases hcl : call a (.ref q :: vs) h with
        | none => rw [hcl] at e0; cases e0
        | some y =>
          obtain ⟨ro, h3⟩ := y
          rw [hcl] at e0
          have hle := hcle _ _ _ _ _ hcl
          rw [x_back_of e0] at hcap
          intro H locs ls cells slots hR hV hl hc hz
          obtain ⟨mc, hmc⟩ := Nat.exists_eq_add_of_le hle.1
          obtain ⟨ms, hms⟩ := Nat.exists_eq_add_of_le hle.2
          exact x_fin C hT hok e0 k (x_runI C hRm hck.1 hck.2 hL hst hv (fun hj => hcall _ _ _ _ _ hcl hj) hd hR hV hl hmc.symm hms.symm (by omega)) hV hl (by omega) (by omega)
    · cases e0
  · cases e0
theorem xstp_ok {d : Nat} (C : xCx p l s m args meth c G o bytes mL) (hRm : d + 7 ≤ R.frames ∧ 60 * d + 180 ≤ R.locals) {ini nh : Bool} {hs : List (Nat × Nat × Nat × Nat × Nat × Nat)} {hr : List (Nat × Nat × Nat × Nat)} {rt : Option FieldType} (hini : ini = true → meth.name = "<init>") (hT : c.exceptionTable.toList = tableOf hr) (hnh : nh = true → hr = []) (hok : xhOK o bytes hs hr) {call : Nat → List Value → XH → Option (XO × XH)} (hcall : ∀ j as h o2 h2, call j as h = some (o2, h2) → j + 1 < xNM → xMt l G d j as h o2 h2) (hcle : ∀ j as h o h2, call j as h = some (o, h2) → x_le h h2)
    {tb : List (Option XI)} (htb : ∀ pc t, tb[pc]? = some (some t) → xck o ini nh rt bytes pc t = true) {fr : XF} {h : XH} {r : XR} (hL : fr.2.1.length = mL) (e0 : xstp call hs tb fr h = some r) (hcap : (x_of r).1.length ≤ n0 + R.cells ∧ (x_of r).2.2.2 ≤ z0 + R.slots) (k : xK p l e R s m args below meth c G bytes rt n0 z0 Q r) : xW p l e R s m args below meth c G n0 z0 Q fr h := by
  obtain ⟨pc, L, st⟩ := fr
  unfold xstp at e0
  cases ht : tb[pc]? with
  | none => rw [ht] at e0; cases e0
  | some t =>
    cases t with
    | none => rw [ht] at e0; cases e0
    | some t =>
      rw [ht] at e0
      have hck := htb _ _ ht
      obtain ⟨ins, a, b, cc, v, w⟩ := t
      simp only [xck, Bool.and_eq_true] at hck
      obtain ⟨hd0, k1, k2, k3, k4⟩ := hck
      have hd := x_dec_ok hd0
      dsimp only at e0
      cases hp : xpure pc ins a v w L st with
      | some fr2 =>
        rw [hp] at e0
        cases e0
        exact xpure_ok C hd k1 hp k
      | none =>
        rw [hp] at e0
        dsimp only at e0
        unfold xeff at e0
        split at e0
        · exact xinvS_ok C hRm hT hok hcall hcle hL hd k3 e0 hcap k
        · exact xinvV_ok C hRm hT hok hcall hcle hL hd k3 e0 hcap k
        · exact xinvI_ok C hRm hT hok hcall hcle hL hd k3 e0 hcap k
        · cases r with
          | inl r => exact xmem_ok C hini hd k2 e0 hcap k
          | inr r => exact xmem_end C (by omega) (fun z => by rw [hT, hnh z]; rfl) hL hd k2 k4 e0 hcap k
theorem xex_ok {d : Nat} (C : xCx p l s m args meth c G o bytes mL) (hRm : d + 7 ≤ R.frames ∧ 60 * d + 180 ≤ R.locals) {ini nh : Bool} {hs : List (Nat × Nat × Nat × Nat × Nat × Nat)} {hr : List (Nat × Nat × Nat × Nat)} {rt : Option FieldType} (hini : ini = true → meth.name = "<init>") (hT : c.exceptionTable.toList = tableOf hr) (hnh : nh = true → hr = []) (hok : xhOK o bytes hs hr) {call : Nat → List Value → XH → Option (XO × XH)} (hcall : ∀ j as h o2 h2, call j as h = some (o2, h2) → j + 1 < xNM → xMt l G d j as h o2 h2) (hcle : ∀ j as h o h2, call j as h = some (o, h2) → x_le h h2)
    {tb : List (Option XI)} (htb : ∀ pc t, tb[pc]? = some (some t) → xck o ini nh rt bytes pc t = true) {o2 : XO} {h2 : XH} (hcap : h2.1.length ≤ n0 + R.cells ∧ h2.2.2.2 ≤ z0 + R.slots) (k : xEnd p l e R s m args below meth c G bytes rt n0 z0 Q o2 h2) :
    ∀ (f : Nat) (fr : XF) (h : XH), fr.2.1.length = mL → xex call hs tb f fr h = some (o2, h2) → xW p l e R s m args below meth c G n0 z0 Q fr h := by
  intro f
  induction f with
  | zero => intro fr h _ e0; cases e0
  | succ f ih =>
    intro fr h hL e0
    simp only [xex] at e0
    cases es : xstp call hs tb fr h with
    | none => rw [es] at e0; cases e0
    | some y =>
      rw [es] at e0
      cases y with
      | inl y =>
        obtain ⟨fr2, h3⟩ := y
        have hl2 : fr2.2.1.length = mL := by
          rw [← hL]
          have es2 := es
          unfold xstp at es2
          split at es2
          · split at es2
            · rename_i hp
              cases es2
              exact xpure_len hp
            · exact xeff_len es2
          · cases es2
        have hle : x_le h3 h2 := xex_le hcle f fr2 h3 o2 h2 e0
        exact xstp_ok C hRm hini hT hnh hok hcall hcle htb hL es ⟨Nat.le_trans hle.1 hcap.1, Nat.le_trans hle.2 hcap.2⟩ (ih fr2 h3 hl2 e0)
      | inr y =>
        cases e0
        exact xstp_ok C hRm hini hT hnh hok hcall hcle htb hL es hcap k
end XSIM
end
section
/-! ===== every table row is what the class files say ===== -/
def xmOK (j : Nat) : Prop := xall (xck (xo j) (decide ((xy j).name = "<init>")) (xhr j).isEmpty (xr j) (xb j)) 0 (xtb j) = true
theorem xm_0 : xmOK 0 := by
  unfold xmOK
  decide +kernel
theorem xm_1 : xmOK 1 := by
  unfold xmOK
  decide +kernel
theorem xm_2 : xmOK 2 := by
  unfold xmOK
  decide +kernel
theorem xm_3 : xmOK 3 := by
  unfold xmOK
  decide +kernel
theorem xm_4 : xmOK 4 := by
  unfold xmOK
  decide +kernel
theorem xm_5 : xmOK 5 := by
  unfold xmOK
  decide +kernel
theorem xm_6 : xmOK 6 := by
  unfold xmOK
  decide +kernel
theorem xm_7 : xmOK 7 := by
  unfold xmOK
  decide +kernel
theorem xm_8 : xmOK 8 := by
  unfold xmOK
  decide +kernel
theorem xm_9 : xmOK 9 := by
  unfold xmOK
  decide +kernel
theorem xm_10 : xmOK 10 := by
  unfold xmOK
  decide +kernel
theorem xm_11 : xmOK 11 := by
  unfold xmOK
  decide +kernel
theorem xm_12 : xmOK 12 := by
  unfold xmOK
  decide +kernel
theorem xm_13 : xmOK 13 := by
  unfold xmOK
  decide +kernel
theorem xm_14 : xmOK 14 := by
  unfold xmOK
  decide +kernel
theorem xm_15 : xmOK 15 := by
  unfold xmOK
  decide +kernel
theorem xm_16 : xmOK 16 := by
  unfold xmOK
  decide +kernel
theorem xm_17 : xmOK 17 := by
  unfold xmOK
  decide +kernel
theorem xm_18 : xmOK 18 := by
  unfold xmOK
  decide +kernel
theorem xm_19 : xmOK 19 := by
  unfold xmOK
  decide +kernel
theorem xm_20 : xmOK 20 := by
  unfold xmOK
  decide +kernel
theorem xm_21 : xmOK 21 := by
  unfold xmOK
  decide +kernel
theorem xm_22 : xmOK 22 := by
  unfold xmOK
  decide +kernel
theorem xm_23 : xmOK 23 := by
  unfold xmOK
  decide +kernel
theorem xm_24 : xmOK 24 := by
  unfold xmOK
  decide +kernel
theorem xm_25 : xmOK 25 := by
  unfold xmOK
  decide +kernel
theorem xm_26 : xmOK 26 := by
  unfold xmOK
  decide +kernel
theorem xm_27 : xmOK 27 := by
  unfold xmOK
  decide +kernel
theorem xm_28 : xmOK 28 := by
  unfold xmOK
  decide +kernel
theorem xm_29 : xmOK 29 := by
  unfold xmOK
  decide +kernel
theorem xm_30 : xmOK 30 := by
  unfold xmOK
  decide +kernel
theorem xm_31 : xmOK 31 := by
  unfold xmOK
  decide +kernel
theorem xm_32 : xmOK 32 := by
  unfold xmOK
  decide +kernel
theorem xm_33 : xmOK 33 := by
  unfold xmOK
  decide +kernel
theorem xm_34 : xmOK 34 := by
  unfold xmOK
  decide +kernel
theorem xm_35 : xmOK 35 := by
  unfold xmOK
  decide +kernel
theorem xm_36 : xmOK 36 := by
  unfold xmOK
  decide +kernel
theorem xm_37 : xmOK 37 := by
  unfold xmOK
  decide +kernel
theorem xm_38 : xmOK 38 := by
  unfold xmOK
  decide +kernel
theorem xm_39 : xmOK 39 := by
  unfold xmOK
  decide +kernel
theorem xm_40 : xmOK 40 := by
  unfold xmOK
  decide +kernel
theorem xm_41 : xmOK 41 := by
  unfold xmOK
  decide +kernel
theorem xm_42 : xmOK 42 := by
  unfold xmOK
  decide +kernel
theorem xm_43 : xmOK 43 := by
  unfold xmOK
  decide +kernel
theorem xm_44 : xmOK 44 := by
  unfold xmOK
  decide +kernel
theorem xm_45 : xmOK 45 := by
  unfold xmOK
  decide +kernel
theorem xm_46 : xmOK 46 := by
  unfold xmOK
  decide +kernel
theorem xm_47 : xmOK 47 := by
  unfold xmOK
  decide +kernel
theorem xm_48 : xmOK 48 := by
  unfold xmOK
  decide +kernel
theorem xm_49 : xmOK 49 := by
  unfold xmOK
  decide +kernel
theorem xm_50 : xmOK 50 := by
  unfold xmOK
  decide +kernel
theorem xm_51 : xmOK 51 := by
  unfold xmOK
  decide +kernel
theorem xm_52 : xmOK 52 := by
  unfold xmOK
  decide +kernel
theorem xm_53 : xmOK 53 := by
  unfold xmOK
  decide +kernel
theorem xm_54 : xmOK 54 := by
  unfold xmOK
  decide +kernel
theorem xm_55 : xmOK 55 := by
  unfold xmOK
  decide +kernel
theorem xm_56 : xmOK 56 := by
  unfold xmOK
  decide +kernel
theorem xm_57 : xmOK 57 := by
  unfold xmOK
  decide +kernel
theorem xm_58 : xmOK 58 := by
  unfold xmOK
  decide +kernel
theorem xm_59 : xmOK 59 := by
  unfold xmOK
  decide +kernel
theorem xm_60 : xmOK 60 := by
  unfold xmOK
  decide +kernel
theorem xm_61 : xmOK 61 := by
  unfold xmOK
  decide +kernel
theorem xm_62 : xmOK 62 := by
  unfold xmOK
  decide +kernel
theorem xm_63 : xmOK 63 := by
  unfold xmOK
  decide +kernel
theorem xm_64 : xmOK 64 := by
  unfold xmOK
  decide +kernel
theorem xm_65 : xmOK 65 := by
  unfold xmOK
  decide +kernel
theorem xm_66 : xmOK 66 := by
  unfold xmOK
  decide +kernel
theorem xm_67 : xmOK 67 := by
  unfold xmOK
  decide +kernel
theorem xm_68 : xmOK 68 := by
  unfold xmOK
  decide +kernel
theorem xm_69 : xmOK 69 := by
  unfold xmOK
  decide +kernel
theorem xm_70 : xmOK 70 := by
  unfold xmOK
  decide +kernel
theorem xm_71 : xmOK 71 := by
  unfold xmOK
  decide +kernel
theorem xm_72 : xmOK 72 := by
  unfold xmOK
  decide +kernel
theorem xm_73 : xmOK 73 := by
  unfold xmOK
  decide +kernel
theorem xm_74 : xmOK 74 := by
  unfold xmOK
  decide +kernel
theorem xm_75 : xmOK 75 := by
  unfold xmOK
  decide +kernel
theorem xm_76 : xmOK 76 := by
  unfold xmOK
  decide +kernel
theorem xm_77 : xmOK 77 := by
  unfold xmOK
  decide +kernel
theorem xm_78 : xmOK 78 := by
  unfold xmOK
  decide +kernel
theorem xm_79 : xmOK 79 := by
  unfold xmOK
  decide +kernel
theorem xm_80 : xmOK 80 := by
  unfold xmOK
  decide +kernel
theorem xm_81 : xmOK 81 := by
  unfold xmOK
  decide +kernel
theorem xm_82 : xmOK 82 := by
  unfold xmOK
  decide +kernel
theorem xm_83 : xmOK 83 := by
  unfold xmOK
  decide +kernel
theorem xm_84 : xmOK 84 := by
  unfold xmOK
  decide +kernel
theorem xm_85 : xmOK 85 := by
  unfold xmOK
  decide +kernel
theorem xm_86 : xmOK 86 := by
  unfold xmOK
  decide +kernel
theorem xm_87 : xmOK 87 := by
  unfold xmOK
  decide +kernel
theorem xm_88 : xmOK 88 := by
  unfold xmOK
  decide +kernel
theorem xm_89 : xmOK 89 := by
  unfold xmOK
  decide +kernel
theorem xm_90 : xmOK 90 := by
  unfold xmOK
  decide +kernel
theorem xm_91 : xmOK 91 := by
  unfold xmOK
  decide +kernel
theorem xm_92 : xmOK 92 := by
  unfold xmOK
  decide +kernel
theorem xm_93 : xmOK 93 := by
  unfold xmOK
  decide +kernel
theorem xm_94 : xmOK 94 := by
  unfold xmOK
  decide +kernel
theorem xm_95 : xmOK 95 := by
  unfold xmOK
  decide +kernel
theorem xm_96 : xmOK 96 := by
  unfold xmOK
  decide +kernel
theorem xm_97 : xmOK 97 := by
  unfold xmOK
  decide +kernel
theorem xm_98 : xmOK 98 := by
  unfold xmOK
  decide +kernel
theorem xm_99 : xmOK 99 := by
  unfold xmOK
  decide +kernel
theorem xm_100 : xmOK 100 := by
  unfold xmOK
  decide +kernel
theorem xm_101 : xmOK 101 := by
  unfold xmOK
  decide +kernel
theorem xm_102 : xmOK 102 := by
  unfold xmOK
  decide +kernel
theorem xm_103 : xmOK 103 := by
  unfold xmOK
  decide +kernel
theorem xm_104 : xmOK 104 := by
  unfold xmOK
  decide +kernel
theorem xm_105 : xmOK 105 := by
  unfold xmOK
  decide +kernel
theorem xm_106 : xmOK 106 := by
  unfold xmOK
  decide +kernel
theorem xm_107 : xmOK 107 := by
  unfold xmOK
  decide +kernel
theorem xm_108 : xmOK 108 := by
  unfold xmOK
  decide +kernel
theorem xm_109 : xmOK 109 := by
  unfold xmOK
  decide +kernel
theorem xm_110 : xmOK 110 := by
  unfold xmOK
  decide +kernel
theorem xm_111 : xmOK 111 := by
  unfold xmOK
  decide +kernel
theorem xm_112 : xmOK 112 := by
  unfold xmOK
  decide +kernel
theorem xm_113 : xmOK 113 := by
  unfold xmOK
  decide +kernel
theorem xm_114 : xmOK 114 := by
  unfold xmOK
  decide +kernel
theorem xm_115 : xmOK 115 := by
  unfold xmOK
  decide +kernel
theorem xm_116 : xmOK 116 := by
  unfold xmOK
  decide +kernel
theorem xm_117 : xmOK 117 := by
  unfold xmOK
  decide +kernel
theorem xm_118 : xmOK 118 := by
  unfold xmOK
  decide +kernel
theorem xm_119 : xmOK 119 := by
  unfold xmOK
  decide +kernel
theorem xm_120 : xmOK 120 := by
  unfold xmOK
  decide +kernel
theorem xm_121 : xmOK 121 := by
  unfold xmOK
  decide +kernel
theorem xm_122 : xmOK 122 := by
  unfold xmOK
  decide +kernel
theorem xm_123 : xmOK 123 := by
  unfold xmOK
  decide +kernel
theorem xm_124 : xmOK 124 := by
  unfold xmOK
  decide +kernel
theorem xm_125 : xmOK 125 := by
  unfold xmOK
  decide +kernel
theorem xm_126 : xmOK 126 := by
  unfold xmOK
  decide +kernel
theorem xm_127 : xmOK 127 := by
  unfold xmOK
  decide +kernel
theorem xm_128 : xmOK 128 := by
  unfold xmOK
  decide +kernel
theorem xm_129 : xmOK 129 := by
  unfold xmOK
  decide +kernel
theorem xm_130 : xmOK 130 := by
  unfold xmOK
  decide +kernel
theorem xm_131 : xmOK 131 := by
  unfold xmOK
  decide +kernel
theorem xm_132 : xmOK 132 := by
  unfold xmOK
  decide +kernel
theorem xm_133 : xmOK 133 := by
  unfold xmOK
  decide +kernel
theorem xm_134 : xmOK 134 := by
  unfold xmOK
  decide +kernel
theorem xm_135 : xmOK 135 := by
  unfold xmOK
  decide +kernel
theorem xm_136 : xmOK 136 := by
  unfold xmOK
  decide +kernel
theorem xm_137 : xmOK 137 := by
  unfold xmOK
  decide +kernel
theorem xm_138 : xmOK 138 := by
  unfold xmOK
  decide +kernel
theorem xm_139 : xmOK 139 := by
  unfold xmOK
  decide +kernel
theorem xm_140 : xmOK 140 := by
  unfold xmOK
  decide +kernel
theorem xm_141 : xmOK 141 := by
  unfold xmOK
  decide +kernel
theorem xm_142 : xmOK 142 := by
  unfold xmOK
  decide +kernel
theorem xm_143 : xmOK 143 := by
  unfold xmOK
  decide +kernel
theorem xm_144 : xmOK 144 := by
  unfold xmOK
  decide +kernel
theorem xm_145 : xmOK 145 := by
  unfold xmOK
  decide +kernel
theorem xm_146 : xmOK 146 := by
  unfold xmOK
  decide +kernel
theorem xm_147 : xmOK 147 := by
  unfold xmOK
  decide +kernel
theorem xm_148 : xmOK 148 := by
  unfold xmOK
  decide +kernel
theorem xm_149 : xmOK 149 := by
  unfold xmOK
  decide +kernel
theorem xm_150 : xmOK 150 := by
  unfold xmOK
  decide +kernel
theorem xm_151 : xmOK 151 := by
  unfold xmOK
  decide +kernel
theorem xm_152 : xmOK 152 := by
  unfold xmOK
  decide +kernel
theorem xm_153 : xmOK 153 := by
  unfold xmOK
  decide +kernel
theorem xm_154 : xmOK 154 := by
  unfold xmOK
  decide +kernel
theorem xm_155 : xmOK 155 := by
  unfold xmOK
  decide +kernel
theorem xm_156 : xmOK 156 := by
  unfold xmOK
  decide +kernel
theorem xm_157 : xmOK 157 := by
  unfold xmOK
  decide +kernel
theorem xm_158 : xmOK 158 := by
  unfold xmOK
  decide +kernel
theorem xm_159 : xmOK 159 := by
  unfold xmOK
  decide +kernel
theorem xm_160 : xmOK 160 := by
  unfold xmOK
  decide +kernel
theorem xm_161 : xmOK 161 := by
  unfold xmOK
  decide +kernel
theorem xm_162 : xmOK 162 := by
  unfold xmOK
  decide +kernel
theorem xm_163 : xmOK 163 := by
  unfold xmOK
  decide +kernel
theorem xm_164 : xmOK 164 := by
  unfold xmOK
  decide +kernel
theorem xm_165 : xmOK 165 := by
  unfold xmOK
  decide +kernel
theorem xm_166 : xmOK 166 := by
  unfold xmOK
  decide +kernel
theorem xm_167 : xmOK 167 := by
  unfold xmOK
  decide +kernel
theorem xm_168 : xmOK 168 := by
  unfold xmOK
  decide +kernel
theorem xm_169 : xmOK 169 := by
  unfold xmOK
  decide +kernel
theorem xm_170 : xmOK 170 := by
  unfold xmOK
  decide +kernel
theorem xm_171 : xmOK 171 := by
  unfold xmOK
  decide +kernel
theorem xm_172 : xmOK 172 := by
  unfold xmOK
  decide +kernel
theorem xm_173 : xmOK 173 := by
  unfold xmOK
  decide +kernel
theorem xm_174 : xmOK 174 := by
  unfold xmOK
  decide +kernel
theorem xm_175 : xmOK 175 := by
  unfold xmOK
  decide +kernel
theorem xm_176 : xmOK 176 := by
  unfold xmOK
  decide +kernel
theorem xm_177 : xmOK 177 := by
  unfold xmOK
  decide +kernel
theorem xm_178 : xmOK 178 := by
  unfold xmOK
  decide +kernel
theorem xm_179 : xmOK 179 := by
  unfold xmOK
  decide +kernel
theorem xm_180 : xmOK 180 := by
  unfold xmOK
  decide +kernel
theorem xm_181 : xmOK 181 := by
  unfold xmOK
  decide +kernel
theorem xm_182 : xmOK 182 := by
  unfold xmOK
  decide +kernel
theorem xm_183 : xmOK 183 := by
  unfold xmOK
  decide +kernel
theorem xm_184 : xmOK 184 := by
  unfold xmOK
  decide +kernel
theorem xm_185 : xmOK 185 := by
  unfold xmOK
  decide +kernel
theorem xm_186 : xmOK 186 := by
  unfold xmOK
  decide +kernel
theorem xm_187 : xmOK 187 := by
  unfold xmOK
  decide +kernel
theorem xm_188 : xmOK 188 := by
  unfold xmOK
  decide +kernel
theorem xm_189 : xmOK 189 := by
  unfold xmOK
  decide +kernel
theorem xm_190 : xmOK 190 := by
  unfold xmOK
  decide +kernel
theorem xm_191 : xmOK 191 := by
  unfold xmOK
  decide +kernel
theorem xm_192 : xmOK 192 := by
  unfold xmOK
  decide +kernel
theorem xm_193 : xmOK 193 := by
  unfold xmOK
  decide +kernel
theorem xm_194 : xmOK 194 := by
  unfold xmOK
  decide +kernel
theorem xm_195 : xmOK 195 := by
  unfold xmOK
  decide +kernel
theorem xm_196 : xmOK 196 := by
  unfold xmOK
  decide +kernel
theorem xm_197 : xmOK 197 := by
  unfold xmOK
  decide +kernel
theorem xm_198 : xmOK 198 := by
  unfold xmOK
  decide +kernel
theorem xm_199 : xmOK 199 := by
  unfold xmOK
  decide +kernel
theorem xm_200 : xmOK 200 := by
  unfold xmOK
  decide +kernel
theorem xm_201 : xmOK 201 := by
  unfold xmOK
  decide +kernel
theorem xm_202 : xmOK 202 := by
  unfold xmOK
  decide +kernel
theorem xm_203 : xmOK 203 := by
  unfold xmOK
  decide +kernel
theorem xm_204 : xmOK 204 := by
  unfold xmOK
  decide +kernel
theorem xm_205 : xmOK 205 := by
  unfold xmOK
  decide +kernel
theorem xm_206 : xmOK 206 := by
  unfold xmOK
  decide +kernel
theorem xm_207 : xmOK 207 := by
  unfold xmOK
  decide +kernel
theorem xm_208 : xmOK 208 := by
  unfold xmOK
  decide +kernel
theorem xm_209 : xmOK 209 := by
  unfold xmOK
  decide +kernel
theorem xm_210 : xmOK 210 := by
  unfold xmOK
  decide +kernel
theorem xm_211 : xmOK 211 := by
  unfold xmOK
  decide +kernel
theorem xm_212 : xmOK 212 := by
  unfold xmOK
  decide +kernel
theorem xm_213 : xmOK 213 := by
  unfold xmOK
  decide +kernel
theorem xm_214 : xmOK 214 := by
  unfold xmOK
  decide +kernel
theorem xm_215 : xmOK 215 := by
  unfold xmOK
  decide +kernel
theorem xm_216 : xmOK 216 := by
  unfold xmOK
  decide +kernel
theorem xm_217 : xmOK 217 := by
  unfold xmOK
  decide +kernel
theorem xm_218 : xmOK 218 := by
  unfold xmOK
  decide +kernel
theorem xm_219 : xmOK 219 := by
  unfold xmOK
  decide +kernel
theorem xm_220 : xmOK 220 := by
  unfold xmOK
  decide +kernel
theorem xm_221 : xmOK 221 := by
  unfold xmOK
  decide +kernel
theorem xm_222 : xmOK 222 := by
  unfold xmOK
  decide +kernel
theorem xm_223 : xmOK 223 := by
  unfold xmOK
  decide +kernel
theorem xm_all : xAll xmOK 224 := ⟨xm_223, xm_222, xm_221, xm_220, xm_219, xm_218, xm_217, xm_216, xm_215, xm_214, xm_213, xm_212, xm_211, xm_210, xm_209, xm_208, xm_207, xm_206, xm_205, xm_204, xm_203, xm_202, xm_201, xm_200, xm_199, xm_198, xm_197, xm_196, xm_195, xm_194, xm_193, xm_192, xm_191, xm_190, xm_189, xm_188, xm_187, xm_186, xm_185, xm_184, xm_183, xm_182, xm_181, xm_180, xm_179, xm_178, xm_177, xm_176, xm_175, xm_174, xm_173, xm_172, xm_171, xm_170, xm_169, xm_168, xm_167, xm_166, xm_165, xm_164, xm_163, xm_162, xm_161, xm_160, xm_159, xm_158, xm_157, xm_156, xm_155, xm_154, xm_153, xm_152, xm_151, xm_150, xm_149, xm_148, xm_147, xm_146, xm_145, xm_144, xm_143, xm_142, xm_141, xm_140, xm_139, xm_138, xm_137, xm_136, xm_135, xm_134, xm_133, xm_132, xm_131, xm_130, xm_129, xm_128, xm_127, xm_126, xm_125, xm_124, xm_123, xm_122, xm_121, xm_120, xm_119, xm_118, xm_117, xm_116, xm_115, xm_114, xm_113, xm_112, xm_111, xm_110, xm_109, xm_108, xm_107, xm_106, xm_105, xm_104, xm_103, xm_102, xm_101, xm_100, xm_99, xm_98, xm_97, xm_96, xm_95, xm_94, xm_93, xm_92, xm_91, xm_90, xm_89, xm_88, xm_87, xm_86, xm_85, xm_84, xm_83, xm_82, xm_81, xm_80, xm_79, xm_78, xm_77, xm_76, xm_75, xm_74, xm_73, xm_72, xm_71, xm_70, xm_69, xm_68, xm_67, xm_66, xm_65, xm_64, xm_63, xm_62, xm_61, xm_60, xm_59, xm_58, xm_57, xm_56, xm_55, xm_54, xm_53, xm_52, xm_51, xm_50, xm_49, xm_48, xm_47, xm_46, xm_45, xm_44, xm_43, xm_42, xm_41, xm_40, xm_39, xm_38, xm_37, xm_36, xm_35, xm_34, xm_33, xm_32, xm_31, xm_30, xm_29, xm_28, xm_27, xm_26, xm_25, xm_24, xm_23, xm_22, xm_21, xm_20, xm_19, xm_18, xm_17, xm_16, xm_15, xm_14, xm_13, xm_12, xm_11, xm_10, xm_9, xm_8, xm_7, xm_6, xm_5, xm_4, xm_3, xm_2, xm_1, xm_0, trivial⟩
def xhP (j : Nat) : Prop := xhOK (xo j) (xb j) (xhs j) (xhr j)
theorem xh_0 : xhP 0 := trivial
theorem xh_1 : xhP 1 := trivial
theorem xh_2 : xhP 2 := trivial
theorem xh_3 : xhP 3 := trivial
theorem xh_4 : xhP 4 := trivial
theorem xh_5 : xhP 5 := trivial
theorem xh_6 : xhP 6 := trivial
theorem xh_7 : xhP 7 := trivial
theorem xh_8 : xhP 8 := trivial
theorem xh_9 : xhP 9 := trivial
theorem xh_10 : xhP 10 := trivial
theorem xh_11 : xhP 11 := trivial
theorem xh_12 : xhP 12 := trivial
theorem xh_13 : xhP 13 := trivial
theorem xh_14 : xhP 14 := trivial
theorem xh_15 : xhP 15 := trivial
theorem xh_16 : xhP 16 := trivial
theorem xh_17 : xhP 17 := trivial
theorem xh_18 : xhP 18 := trivial
theorem xh_19 : xhP 19 := trivial
theorem xh_20 : xhP 20 := trivial
theorem xh_21 : xhP 21 := trivial
theorem xh_22 : xhP 22 := trivial
theorem xh_23 : xhP 23 := trivial
theorem xh_24 : xhP 24 := trivial
theorem xh_25 : xhP 25 := trivial
theorem xh_26 : xhP 26 := trivial
theorem xh_27 : xhP 27 := trivial
theorem xh_28 : xhP 28 := trivial
theorem xh_29 : xhP 29 := trivial
theorem xh_30 : xhP 30 := trivial
theorem xh_31 : xhP 31 := trivial
theorem xh_32 : xhP 32 := trivial
theorem xh_33 : xhP 33 := trivial
theorem xh_34 : xhP 34 := trivial
theorem xh_35 : xhP 35 := trivial
theorem xh_36 : xhP 36 := trivial
theorem xh_37 : xhP 37 := trivial
theorem xh_38 : xhP 38 := trivial
theorem xh_39 : xhP 39 := trivial
theorem xh_40 : xhP 40 := trivial
theorem xh_41 : xhP 41 := trivial
theorem xh_42 : xhP 42 := trivial
theorem xh_43 : xhP 43 := trivial
theorem xh_44 : xhP 44 := trivial
theorem xh_45 : xhP 45 := trivial
theorem xh_46 : xhP 46 := trivial
theorem xh_47 : xhP 47 := trivial
theorem xh_48 : xhP 48 := trivial
theorem xh_49 : xhP 49 := trivial
theorem xh_50 : xhP 50 := trivial
theorem xh_51 : xhP 51 := trivial
theorem xh_52 : xhP 52 := trivial
theorem xh_53 : xhP 53 := trivial
theorem xh_54 : xhP 54 := trivial
theorem xh_55 : xhP 55 := trivial
theorem xh_56 : xhP 56 := trivial
theorem xh_57 : xhP 57 := trivial
theorem xh_58 : xhP 58 := trivial
theorem xh_59 : xhP 59 := trivial
theorem xh_60 : xhP 60 := trivial
theorem xh_61 : xhP 61 := trivial
theorem xh_62 : xhP 62 := trivial
theorem xh_63 : xhP 63 := trivial
theorem xh_64 : xhP 64 := trivial
theorem xh_65 : xhP 65 := trivial
theorem xh_66 : xhP 66 := trivial
theorem xh_67 : xhP 67 := trivial
theorem xh_68 : xhP 68 := trivial
theorem xh_69 : xhP 69 := trivial
theorem xh_70 : xhP 70 := trivial
theorem xh_71 : xhP 71 := trivial
theorem xh_72 : xhP 72 := trivial
theorem xh_73 : xhP 73 := trivial
theorem xh_74 : xhP 74 := trivial
theorem xh_75 : xhP 75 := trivial
theorem xh_76 : xhP 76 := trivial
theorem xh_77 : xhP 77 := trivial
theorem xh_78 : xhP 78 := trivial
theorem xh_79 : xhP 79 := trivial
theorem xh_80 : xhP 80 := trivial
theorem xh_81 : xhP 81 := trivial
theorem xh_82 : xhP 82 := trivial
theorem xh_83 : xhP 83 := trivial
theorem xh_84 : xhP 84 := trivial
theorem xh_85 : xhP 85 := trivial
theorem xh_86 : xhP 86 := trivial
theorem xh_87 : xhP 87 := trivial
theorem xh_88 : xhP 88 := trivial
theorem xh_89 : xhP 89 := trivial
theorem xh_90 : xhP 90 := trivial
theorem xh_91 : xhP 91 := trivial
theorem xh_92 : xhP 92 := trivial
theorem xh_93 : xhP 93 := trivial
theorem xh_94 : xhP 94 := trivial
theorem xh_95 : xhP 95 := trivial
theorem xh_96 : xhP 96 := trivial
theorem xh_97 : xhP 97 := trivial
theorem xh_98 : xhP 98 := trivial
theorem xh_99 : xhP 99 := trivial
theorem xh_100 : xhP 100 := trivial
theorem xh_101 : xhP 101 := trivial
theorem xh_102 : xhP 102 := trivial
theorem xh_103 : xhP 103 := trivial
theorem xh_104 : xhP 104 := trivial
theorem xh_105 : xhP 105 := trivial
theorem xh_106 : xhP 106 := trivial
theorem xh_107 : xhP 107 := trivial
theorem xh_108 : xhP 108 := trivial
theorem xh_109 : xhP 109 := trivial
theorem xh_110 : xhP 110 := trivial
theorem xh_111 : xhP 111 := trivial
theorem xh_112 : xhP 112 := trivial
theorem xh_113 : xhP 113 := trivial
theorem xh_114 : xhP 114 := trivial
theorem xh_115 : xhP 115 := trivial
theorem xh_116 : xhP 116 := trivial
theorem xh_117 : xhP 117 := trivial
theorem xh_118 : xhP 118 := trivial
theorem xh_119 : xhP 119 := trivial
theorem xh_120 : xhP 120 := trivial
theorem xh_121 : xhP 121 := trivial
theorem xh_122 : xhP 122 := trivial
theorem xh_123 : xhP 123 := trivial
theorem xh_124 : xhP 124 := trivial
theorem xh_125 : xhP 125 := trivial
theorem xh_126 : xhP 126 := trivial
theorem xh_127 : xhP 127 := trivial
theorem xh_128 : xhP 128 := trivial
theorem xh_129 : xhP 129 := trivial
theorem xh_130 : xhP 130 := trivial
theorem xh_131 : xhP 131 := trivial
theorem xh_132 : xhP 132 := trivial
theorem xh_133 : xhP 133 := trivial
theorem xh_134 : xhP 134 := trivial
theorem xh_135 : xhP 135 := trivial
theorem xh_136 : xhP 136 := trivial
theorem xh_137 : xhP 137 := trivial
theorem xh_138 : xhP 138 := trivial
theorem xh_139 : xhP 139 := trivial
theorem xh_140 : xhP 140 := trivial
theorem xh_141 : xhP 141 := trivial
theorem xh_142 : xhP 142 := trivial
theorem xh_143 : xhP 143 := trivial
theorem xh_144 : xhP 144 := trivial
theorem xh_145 : xhP 145 := trivial
theorem xh_146 : xhP 146 := trivial
theorem xh_147 : xhP 147 := trivial
theorem xh_148 : xhP 148 := trivial
theorem xh_149 : xhP 149 := trivial
theorem xh_150 : xhP 150 := trivial
theorem xh_151 : xhP 151 := trivial
theorem xh_152 : xhP 152 := trivial
theorem xh_153 : xhP 153 := trivial
theorem xh_154 : xhP 154 := trivial
theorem xh_155 : xhP 155 := trivial
theorem xh_156 : xhP 156 := trivial
theorem xh_157 : xhP 157 := trivial
theorem xh_158 : xhP 158 := trivial
theorem xh_159 : xhP 159 := trivial
theorem xh_160 : xhP 160 := trivial
theorem xh_161 : xhP 161 := trivial
theorem xh_162 : xhP 162 := trivial
theorem xh_163 : xhP 163 := trivial
theorem xh_164 : xhP 164 := trivial
theorem xh_165 : xhP 165 := trivial
theorem xh_166 : xhP 166 := trivial
theorem xh_167 : xhP 167 := trivial
theorem xh_168 : xhP 168 := trivial
theorem xh_169 : xhP 169 := trivial
theorem xh_170 : xhP 170 := trivial
theorem xh_171 : xhP 171 := trivial
theorem xh_172 : xhP 172 := trivial
theorem xh_173 : xhP 173 := trivial
theorem xh_174 : xhP 174 := trivial
theorem xh_175 : xhP 175 := trivial
theorem xh_176 : xhP 176 := trivial
theorem xh_177 : xhP 177 := trivial
theorem xh_178 : xhP 178 := trivial
theorem xh_179 : xhP 179 := trivial
theorem xh_180 : xhP 180 := trivial
theorem xh_181 : xhP 181 := trivial
theorem xh_182 : xhP 182 := trivial
theorem xh_183 : xhP 183 := trivial
theorem xh_184 : xhP 184 := trivial
theorem xh_185 : xhP 185 := trivial
theorem xh_186 : xhP 186 := trivial
theorem xh_187 : xhP 187 := trivial
theorem xh_188 : xhP 188 := trivial
theorem xh_189 : xhP 189 := trivial
theorem xh_190 : xhP 190 := trivial
theorem xh_191 : xhP 191 := trivial
theorem xh_192 : xhP 192 := trivial
theorem xh_193 : xhP 193 := trivial
theorem xh_194 : xhP 194 := trivial
theorem xh_195 : xhP 195 := trivial
theorem xh_196 : xhP 196 := trivial
theorem xh_197 : xhP 197 := trivial
theorem xh_198 : xhP 198 := trivial
theorem xh_199 : xhP 199 := ⟨⟨rfl, rfl, rfl, by decide, List.mem_of_getElem? (i := 240) (by decide +kernel), Or.inl rfl, Or.inr ⟨rfl, 3, rfl, by decide +kernel⟩⟩, trivial⟩
theorem xh_200 : xhP 200 := ⟨⟨rfl, rfl, rfl, by decide, List.mem_of_getElem? (i := 240) (by decide +kernel), Or.inl rfl, Or.inr ⟨rfl, 3, rfl, by decide +kernel⟩⟩, trivial⟩
theorem xh_201 : xhP 201 := ⟨⟨rfl, rfl, rfl, by decide, List.mem_of_getElem? (i := 240) (by decide +kernel), Or.inl rfl, Or.inr ⟨rfl, 3, rfl, by decide +kernel⟩⟩, ⟨rfl, rfl, rfl, by decide, List.mem_of_getElem? (i := 332) (by decide +kernel), Or.inr (Or.inl rfl), Or.inr ⟨rfl, 3, rfl, by decide +kernel⟩⟩, trivial⟩
theorem xh_202 : xhP 202 := ⟨⟨rfl, rfl, rfl, by decide, List.mem_of_getElem? (i := 240) (by decide +kernel), Or.inl rfl, Or.inr ⟨rfl, 3, rfl, by decide +kernel⟩⟩, ⟨rfl, rfl, rfl, by decide, List.mem_of_getElem? (i := 459) (by decide +kernel), Or.inr (Or.inr rfl), Or.inr ⟨rfl, 3, rfl, by decide +kernel⟩⟩, trivial⟩
theorem xh_203 : xhP 203 := ⟨⟨rfl, rfl, rfl, by decide, List.mem_of_getElem? (i := 240) (by decide +kernel), Or.inl rfl, Or.inl ⟨rfl, by decide +kernel⟩⟩, ⟨rfl, rfl, rfl, by decide, List.mem_of_getElem? (i := 332) (by decide +kernel), Or.inr (Or.inl rfl), Or.inl ⟨rfl, by decide +kernel⟩⟩, trivial⟩
theorem xh_204 : xhP 204 := ⟨⟨rfl, rfl, rfl, by decide, List.mem_of_getElem? (i := 240) (by decide +kernel), Or.inl rfl, Or.inl ⟨rfl, by decide +kernel⟩⟩, ⟨rfl, rfl, rfl, by decide, List.mem_of_getElem? (i := 332) (by decide +kernel), Or.inr (Or.inl rfl), Or.inl ⟨rfl, by decide +kernel⟩⟩, trivial⟩
theorem xh_205 : xhP 205 := ⟨⟨rfl, rfl, rfl, by decide, List.mem_of_getElem? (i := 240) (by decide +kernel), Or.inl rfl, Or.inl ⟨rfl, by decide +kernel⟩⟩, ⟨rfl, rfl, rfl, by decide, List.mem_of_getElem? (i := 332) (by decide +kernel), Or.inr (Or.inl rfl), Or.inl ⟨rfl, by decide +kernel⟩⟩, trivial⟩
theorem xh_206 : xhP 206 := ⟨⟨rfl, rfl, rfl, by decide, List.mem_of_getElem? (i := 240) (by decide +kernel), Or.inl rfl, Or.inl ⟨rfl, by decide +kernel⟩⟩, ⟨rfl, rfl, rfl, by decide, List.mem_of_getElem? (i := 459) (by decide +kernel), Or.inr (Or.inr rfl), Or.inl ⟨rfl, by decide +kernel⟩⟩, trivial⟩
theorem xh_207 : xhP 207 := ⟨⟨rfl, rfl, rfl, by decide, List.mem_of_getElem? (i := 240) (by decide +kernel), Or.inl rfl, Or.inl ⟨rfl, by decide +kernel⟩⟩, ⟨rfl, rfl, rfl, by decide, List.mem_of_getElem? (i := 459) (by decide +kernel), Or.inr (Or.inr rfl), Or.inl ⟨rfl, by decide +kernel⟩⟩, trivial⟩
theorem xh_208 : xhP 208 := ⟨⟨rfl, rfl, rfl, by decide, List.mem_of_getElem? (i := 240) (by decide +kernel), Or.inl rfl, Or.inl ⟨rfl, by decide +kernel⟩⟩, ⟨rfl, rfl, rfl, by decide, List.mem_of_getElem? (i := 459) (by decide +kernel), Or.inr (Or.inr rfl), Or.inl ⟨rfl, by decide +kernel⟩⟩, trivial⟩
theorem xh_209 : xhP 209 := ⟨⟨rfl, rfl, rfl, by decide, List.mem_of_getElem? (i := 240) (by decide +kernel), Or.inl rfl, Or.inl ⟨rfl, by decide +kernel⟩⟩, ⟨rfl, rfl, rfl, by decide, List.mem_of_getElem? (i := 459) (by decide +kernel), Or.inr (Or.inr rfl), Or.inl ⟨rfl, by decide +kernel⟩⟩, trivial⟩
theorem xh_210 : xhP 210 := ⟨⟨rfl, rfl, rfl, by decide, List.mem_of_getElem? (i := 240) (by decide +kernel), Or.inl rfl, Or.inr ⟨rfl, 3, rfl, by decide +kernel⟩⟩, ⟨rfl, rfl, rfl, by decide, List.mem_of_getElem? (i := 459) (by decide +kernel), Or.inr (Or.inr rfl), Or.inr ⟨rfl, 3, rfl, by decide +kernel⟩⟩, trivial⟩
theorem xh_211 : xhP 211 := ⟨⟨rfl, rfl, rfl, by decide, List.mem_of_getElem? (i := 240) (by decide +kernel), Or.inl rfl, Or.inl ⟨rfl, by decide +kernel⟩⟩, ⟨rfl, rfl, rfl, by decide, List.mem_of_getElem? (i := 459) (by decide +kernel), Or.inr (Or.inr rfl), Or.inl ⟨rfl, by decide +kernel⟩⟩, trivial⟩
theorem xh_212 : xhP 212 := ⟨⟨rfl, rfl, rfl, by decide, List.mem_of_getElem? (i := 240) (by decide +kernel), Or.inl rfl, Or.inl ⟨rfl, by decide +kernel⟩⟩, ⟨rfl, rfl, rfl, by decide, List.mem_of_getElem? (i := 332) (by decide +kernel), Or.inr (Or.inl rfl), Or.inl ⟨rfl, by decide +kernel⟩⟩, ⟨rfl, rfl, rfl, by decide, List.mem_of_getElem? (i := 459) (by decide +kernel), Or.inr (Or.inr rfl), Or.inl ⟨rfl, by decide +kernel⟩⟩, trivial⟩
theorem xh_213 : xhP 213 := ⟨⟨rfl, rfl, rfl, by decide, List.mem_of_getElem? (i := 240) (by decide +kernel), Or.inl rfl, Or.inl ⟨rfl, by decide +kernel⟩⟩, ⟨rfl, rfl, rfl, by decide, List.mem_of_getElem? (i := 332) (by decide +kernel), Or.inr (Or.inl rfl), Or.inl ⟨rfl, by decide +kernel⟩⟩, ⟨rfl, rfl, rfl, by decide, List.mem_of_getElem? (i := 459) (by decide +kernel), Or.inr (Or.inr rfl), Or.inl ⟨rfl, by decide +kernel⟩⟩, trivial⟩
theorem xh_214 : xhP 214 := ⟨⟨rfl, rfl, rfl, by decide, List.mem_of_getElem? (i := 240) (by decide +kernel), Or.inl rfl, Or.inr ⟨rfl, 3, rfl, by decide +kernel⟩⟩, ⟨rfl, rfl, rfl, by decide, List.mem_of_getElem? (i := 459) (by decide +kernel), Or.inr (Or.inr rfl), Or.inr ⟨rfl, 3, rfl, by decide +kernel⟩⟩, trivial⟩
theorem xh_215 : xhP 215 := ⟨⟨rfl, rfl, rfl, by decide, List.mem_of_getElem? (i := 240) (by decide +kernel), Or.inl rfl, Or.inl ⟨rfl, by decide +kernel⟩⟩, ⟨rfl, rfl, rfl, by decide, List.mem_of_getElem? (i := 459) (by decide +kernel), Or.inr (Or.inr rfl), Or.inl ⟨rfl, by decide +kernel⟩⟩, trivial⟩
theorem xh_216 : xhP 216 := ⟨⟨rfl, rfl, rfl, by decide, List.mem_of_getElem? (i := 240) (by decide +kernel), Or.inl rfl, Or.inl ⟨rfl, by decide +kernel⟩⟩, ⟨rfl, rfl, rfl, by decide, List.mem_of_getElem? (i := 459) (by decide +kernel), Or.inr (Or.inr rfl), Or.inl ⟨rfl, by decide +kernel⟩⟩, trivial⟩
theorem xh_217 : xhP 217 := ⟨⟨rfl, rfl, rfl, by decide, List.mem_of_getElem? (i := 240) (by decide +kernel), Or.inl rfl, Or.inl ⟨rfl, by decide +kernel⟩⟩, ⟨rfl, rfl, rfl, by decide, List.mem_of_getElem? (i := 332) (by decide +kernel), Or.inr (Or.inl rfl), Or.inl ⟨rfl, by decide +kernel⟩⟩, ⟨rfl, rfl, rfl, by decide, List.mem_of_getElem? (i := 459) (by decide +kernel), Or.inr (Or.inr rfl), Or.inl ⟨rfl, by decide +kernel⟩⟩, trivial⟩
theorem xh_218 : xhP 218 := ⟨⟨rfl, rfl, rfl, by decide, List.mem_of_getElem? (i := 240) (by decide +kernel), Or.inl rfl, Or.inr ⟨rfl, 3, rfl, by decide +kernel⟩⟩, ⟨rfl, rfl, rfl, by decide, List.mem_of_getElem? (i := 459) (by decide +kernel), Or.inr (Or.inr rfl), Or.inr ⟨rfl, 3, rfl, by decide +kernel⟩⟩, trivial⟩
theorem xh_219 : xhP 219 := ⟨⟨rfl, rfl, rfl, by decide, List.mem_of_getElem? (i := 240) (by decide +kernel), Or.inl rfl, Or.inl ⟨rfl, by decide +kernel⟩⟩, ⟨rfl, rfl, rfl, by decide, List.mem_of_getElem? (i := 459) (by decide +kernel), Or.inr (Or.inr rfl), Or.inl ⟨rfl, by decide +kernel⟩⟩, trivial⟩
theorem xh_220 : xhP 220 := ⟨⟨rfl, rfl, rfl, by decide, List.mem_of_getElem? (i := 240) (by decide +kernel), Or.inl rfl, Or.inr ⟨rfl, 3, rfl, by decide +kernel⟩⟩, ⟨rfl, rfl, rfl, by decide, List.mem_of_getElem? (i := 459) (by decide +kernel), Or.inr (Or.inr rfl), Or.inr ⟨rfl, 3, rfl, by decide +kernel⟩⟩, trivial⟩
theorem xh_221 : xhP 221 := ⟨⟨rfl, rfl, rfl, by decide, List.mem_of_getElem? (i := 240) (by decide +kernel), Or.inl rfl, Or.inr ⟨rfl, 3, rfl, by decide +kernel⟩⟩, ⟨rfl, rfl, rfl, by decide, List.mem_of_getElem? (i := 459) (by decide +kernel), Or.inr (Or.inr rfl), Or.inr ⟨rfl, 3, rfl, by decide +kernel⟩⟩, trivial⟩
theorem xh_222 : xhP 222 := ⟨⟨rfl, rfl, rfl, by decide, List.mem_of_getElem? (i := 240) (by decide +kernel), Or.inl rfl, Or.inr ⟨rfl, 3, rfl, by decide +kernel⟩⟩, ⟨rfl, rfl, rfl, by decide, List.mem_of_getElem? (i := 459) (by decide +kernel), Or.inr (Or.inr rfl), Or.inr ⟨rfl, 3, rfl, by decide +kernel⟩⟩, trivial⟩
theorem xh_223 : xhP 223 := ⟨⟨rfl, rfl, rfl, by decide, List.mem_of_getElem? (i := 240) (by decide +kernel), Or.inl rfl, Or.inl ⟨rfl, by decide +kernel⟩⟩, ⟨rfl, rfl, rfl, by decide, List.mem_of_getElem? (i := 332) (by decide +kernel), Or.inr (Or.inl rfl), Or.inl ⟨rfl, by decide +kernel⟩⟩, ⟨rfl, rfl, rfl, by decide, List.mem_of_getElem? (i := 459) (by decide +kernel), Or.inr (Or.inr rfl), Or.inl ⟨rfl, by decide +kernel⟩⟩, trivial⟩
theorem xh_all : xAll xhP 224 := ⟨xh_223, xh_222, xh_221, xh_220, xh_219, xh_218, xh_217, xh_216, xh_215, xh_214, xh_213, xh_212, xh_211, xh_210, xh_209, xh_208, xh_207, xh_206, xh_205, xh_204, xh_203, xh_202, xh_201, xh_200, xh_199, xh_198, xh_197, xh_196, xh_195, xh_194, xh_193, xh_192, xh_191, xh_190, xh_189, xh_188, xh_187, xh_186, xh_185, xh_184, xh_183, xh_182, xh_181, xh_180, xh_179, xh_178, xh_177, xh_176, xh_175, xh_174, xh_173, xh_172, xh_171, xh_170, xh_169, xh_168, xh_167, xh_166, xh_165, xh_164, xh_163, xh_162, xh_161, xh_160, xh_159, xh_158, xh_157, xh_156, xh_155, xh_154, xh_153, xh_152, xh_151, xh_150, xh_149, xh_148, xh_147, xh_146, xh_145, xh_144, xh_143, xh_142, xh_141, xh_140, xh_139, xh_138, xh_137, xh_136, xh_135, xh_134, xh_133, xh_132, xh_131, xh_130, xh_129, xh_128, xh_127, xh_126, xh_125, xh_124, xh_123, xh_122, xh_121, xh_120, xh_119, xh_118, xh_117, xh_116, xh_115, xh_114, xh_113, xh_112, xh_111, xh_110, xh_109, xh_108, xh_107, xh_106, xh_105, xh_104, xh_103, xh_102, xh_101, xh_100, xh_99, xh_98, xh_97, xh_96, xh_95, xh_94, xh_93, xh_92, xh_91, xh_90, xh_89, xh_88, xh_87, xh_86, xh_85, xh_84, xh_83, xh_82, xh_81, xh_80, xh_79, xh_78, xh_77, xh_76, xh_75, xh_74, xh_73, xh_72, xh_71, xh_70, xh_69, xh_68, xh_67, xh_66, xh_65, xh_64, xh_63, xh_62, xh_61, xh_60, xh_59, xh_58, xh_57, xh_56, xh_55, xh_54, xh_53, xh_52, xh_51, xh_50, xh_49, xh_48, xh_47, xh_46, xh_45, xh_44, xh_43, xh_42, xh_41, xh_40, xh_39, xh_38, xh_37, xh_36, xh_35, xh_34, xh_33, xh_32, xh_31, xh_30, xh_29, xh_28, xh_27, xh_26, xh_25, xh_24, xh_23, xh_22, xh_21, xh_20, xh_19, xh_18, xh_17, xh_16, xh_15, xh_14, xh_13, xh_12, xh_11, xh_10, xh_9, xh_8, xh_7, xh_6, xh_5, xh_4, xh_3, xh_2, xh_1, xh_0, trivial⟩
theorem xo_ok : ∀ j, j < 224 → xcn (xo j) = (xy j).cls := by decide +kernel
end
section
/-! ===== the rows of the law, in pieces ===== -/
def xallR (f : Nat → XI → Bool) (tb : List (Option XI)) : Nat → Nat → Bool
  | _, 0 => true
  | a, n + 1 => (match tb[a]? with
    | some (some t) => f a t
    | _ => true) && xallR f tb (a + 1) n
theorem xallR_get {f : Nat → XI → Bool} {tb : List (Option XI)} {k : Nat} {t : XI} (ht : tb[k]? = some (some t)) : ∀ (n a : Nat), xallR f tb a n = true → a ≤ k → k < a + n → f k t = true := by
  intro n
  induction n with
  | zero => intro a _ h1 h2; omega
  | succ n ih =>
    intro a h h1 h2
    simp only [xallR, Bool.and_eq_true] at h
    by_cases he : a = k
    · subst he
      rw [ht] at h
      exact h.1
    · exact ih (a + 1) h.2 (by omega) (by omega)
def xlP (k : Nat) : Prop := xallR (xck 8 false true (some .boolean) code) tb_L_law (40 * k) 40 = true
theorem xl_0 : xlP 0 := by
  unfold xlP
  decide +kernel
theorem xl_1 : xlP 1 := by
  unfold xlP
  decide +kernel
theorem xl_2 : xlP 2 := by
  unfold xlP
  decide +kernel
theorem xl_3 : xlP 3 := by
  unfold xlP
  decide +kernel
theorem xl_4 : xlP 4 := by
  unfold xlP
  decide +kernel
theorem xl_5 : xlP 5 := by
  unfold xlP
  decide +kernel
theorem xl_6 : xlP 6 := by
  unfold xlP
  decide +kernel
theorem xl_7 : xlP 7 := by
  unfold xlP
  decide +kernel
theorem xl_8 : xlP 8 := by
  unfold xlP
  decide +kernel
theorem xl_9 : xlP 9 := by
  unfold xlP
  decide +kernel
theorem xl_10 : xlP 10 := by
  unfold xlP
  decide +kernel
theorem xl_11 : xlP 11 := by
  unfold xlP
  decide +kernel
theorem xl_12 : xlP 12 := by
  unfold xlP
  decide +kernel
theorem xl_13 : xlP 13 := by
  unfold xlP
  decide +kernel
theorem xl_14 : xlP 14 := by
  unfold xlP
  decide +kernel
theorem xl_15 : xlP 15 := by
  unfold xlP
  decide +kernel
theorem xl_16 : xlP 16 := by
  unfold xlP
  decide +kernel
theorem xl_17 : xlP 17 := by
  unfold xlP
  decide +kernel
theorem xl_18 : xlP 18 := by
  unfold xlP
  decide +kernel
theorem xl_19 : xlP 19 := by
  unfold xlP
  decide +kernel
theorem xl_20 : xlP 20 := by
  unfold xlP
  decide +kernel
theorem xl_21 : xlP 21 := by
  unfold xlP
  decide +kernel
theorem xl_22 : xlP 22 := by
  unfold xlP
  decide +kernel
theorem xl_23 : xlP 23 := by
  unfold xlP
  decide +kernel
theorem xl_24 : xlP 24 := by
  unfold xlP
  decide +kernel
theorem xl_25 : xlP 25 := by
  unfold xlP
  decide +kernel
theorem xl_26 : xlP 26 := by
  unfold xlP
  decide +kernel
theorem xl_27 : xlP 27 := by
  unfold xlP
  decide +kernel
theorem xl_28 : xlP 28 := by
  unfold xlP
  decide +kernel
theorem xl_29 : xlP 29 := by
  unfold xlP
  decide +kernel
theorem xl_30 : xlP 30 := by
  unfold xlP
  decide +kernel
theorem xl_31 : xlP 31 := by
  unfold xlP
  decide +kernel
theorem xl_32 : xlP 32 := by
  unfold xlP
  decide +kernel
theorem xl_33 : xlP 33 := by
  unfold xlP
  decide +kernel
theorem xl_34 : xlP 34 := by
  unfold xlP
  decide +kernel
theorem xl_35 : xlP 35 := by
  unfold xlP
  decide +kernel
theorem xl_36 : xlP 36 := by
  unfold xlP
  decide +kernel
theorem xl_37 : xlP 37 := by
  unfold xlP
  decide +kernel
theorem xl_38 : xlP 38 := by
  unfold xlP
  decide +kernel
theorem xl_39 : xlP 39 := by
  unfold xlP
  decide +kernel
theorem xl_40 : xlP 40 := by
  unfold xlP
  decide +kernel
theorem xl_41 : xlP 41 := by
  unfold xlP
  decide +kernel
theorem xl_42 : xlP 42 := by
  unfold xlP
  decide +kernel
theorem xl_43 : xlP 43 := by
  unfold xlP
  decide +kernel
theorem xl_44 : xlP 44 := by
  unfold xlP
  decide +kernel
theorem xl_45 : xlP 45 := by
  unfold xlP
  decide +kernel
theorem xl_all : xAll xlP 46 := ⟨xl_45, xl_44, xl_43, xl_42, xl_41, xl_40, xl_39, xl_38, xl_37, xl_36, xl_35, xl_34, xl_33, xl_32, xl_31, xl_30, xl_29, xl_28, xl_27, xl_26, xl_25, xl_24, xl_23, xl_22, xl_21, xl_20, xl_19, xl_18, xl_17, xl_16, xl_15, xl_14, xl_13, xl_12, xl_11, xl_10, xl_9, xl_8, xl_7, xl_6, xl_5, xl_4, xl_3, xl_2, xl_1, xl_0, trivial⟩
theorem xl_len : tb_L_law.length = 1807 := by decide +kernel
theorem xm_law (pc : Nat) (t : XI) (ht : tb_L_law[pc]? = some (some t)) : xck 8 false true (some .boolean) code pc t = true := by
  have hl : pc < 1807 := by rw [← xl_len]; exact (List.getElem?_eq_some_iff.mp ht).1
  have h := xAll_get xl_all (pc / 40) (by omega)
  exact xallR_get ht 40 (40 * (pc / 40)) h (by omega) (by omega)
end
section
/-! ===== the contract of every method ===== -/
theorem xrun_le : ∀ (d F j : Nat) (as : List Value) (h : XH) (o : XO) (h2 : XH), xrun F d j as h = some (o, h2) → x_le h h2 := by
  intro d
  induction d with
  | zero => intro F j as h o h2 e; cases e
  | succ d ih =>
    intro F j as h o h2 e
    simp only [xrun] at e
    split at e
    · exact xex_le (fun j as h o h2 => ih F j as h o h2) _ _ _ _ _ e
    · cases e
theorem x_args_len (G : XG) : ∀ (vs : List Value), x_nod vs = true → (lg_sl (vs.map (xV G))).length = (x_args vs).length := by
  intro vs
  induction vs with
  | nil => intro _; rfl
  | cons v vs ih =>
    intro h
    simp only [x_nod, List.all_cons, Bool.and_eq_true] at h
    have h2 := ih h.2
    have hc : ∀ (a : Value) (l : List Value), lg_sl (a :: l) = (if a.category = 2 then [Slot.val a, Slot.second] else [Slot.val a]) ++ lg_sl l := fun a l => rfl
    rw [List.map_cons, hc, List.length_append, h2]
    cases v with
    | long x => show 2 + (x_args vs).length = (x_args vs).length + 1 + 1; omega
    | double x => cases h.1
    | int x => show 1 + (x_args vs).length = (x_args vs).length + 1; omega
    | float x => show 1 + (x_args vs).length = (x_args vs).length + 1; omega
    | null => show 1 + (x_args vs).length = (x_args vs).length + 1; omega
    | ref x => show 1 + (x_args vs).length = (x_args vs).length + 1; omega
    | retAddr x => show 1 + (x_args vs).length = (x_args vs).length + 1; omega
theorem x_nod_ne {vs : List Value} (h : x_nod vs = true) : ∀ u, u ∈ vs → ∀ x, u ≠ .double x := by
  intro u hu x e
  subst e
  have := List.all_eq_true.mp h _ hu
  cases this
/-- the locals at the entry of the model's frame are the toy's -/
theorem x_ls_entry (G : XG) {vs : List Value} {n : Nat} (hn : (x_args vs).length ≤ n) (hd : x_nod vs = true) : x_ls G ((lg_sl (vs.map (xV G)) ++ List.replicate (n - (lg_sl (vs.map (xV G))).length) Slot.unset).toArray) (x_entry vs n) := by
  have hlen : (x_entry vs n).length = n := by
    unfold x_entry
    rw [List.length_append, List.length_replicate]
    omega
  have h9 := x_args_len G vs hd
  have hl := lv_entry (vs.map (xV G)) (n := n) (by rw [h9]; exact hn)
  unfold x_ls
  rw [hlen]
  refine ⟨hl.1, hl.2.1, fun q hq => ?_⟩
  obtain ⟨v, hv, e⟩ := x_ents_mem.mp hq
  have hv2 : (x_args vs)[q.1]? = some (some v) := by
    unfold x_entry at hv
    by_cases hi : q.1 < (x_args vs).length
    · rwa [List.getElem?_append_left hi] at hv
    · rw [List.getElem?_append_right (by omega), List.getElem?_replicate] at hv
      split at hv <;> cases hv
  have h3 := x_args_mem (G := G) vs 0 q.1 v (x_nod_ne hd) hv2
  rw [Nat.zero_add] at h3
  have h4 := hl.2.2 _ h3
  rw [e]
  exact h4
theorem x_entry_len {vs : List Value} {n : Nat} (hn : (x_args vs).length ≤ n) : (x_entry vs n).length = n := by
  unfold x_entry
  rw [List.length_append, List.length_replicate]
  omega
theorem x_endM {p : Program} {l : Launch} {e : Env} {R : Room} {s : State} {m : MethodId} {args : Array Value} {below : List Frame} {meth : Method} {c : Code} {G : XG} {o : Nat} {bytes : ByteArray} {mL n0 z0 mc ms : Nat} {o2 : XO} {h2 : XH} (C : xCx p l s m args meth c G o bytes mL) {rt : Option FieldType} (hr : meth.sig.returnType = rt) (g1 : n0 + mc = h2.1.length) (g2 : z0 + ms = h2.2.2.2) :
    xEnd p l e R s m args below meth c G bytes rt n0 z0 (vx_MQ below (xQ G o2 h2) (xX G o2 h2) args s mc ms (xFr G)) o2 h2 := by
  obtain ⟨hx, hb, hml, hown, hts, hlocks, hS, hfl⟩ := C
  refine ⟨fun v ins st pc H locs ls cells slots hv hrn hd hR hV hc hz => ?_, fun n hn => ⟨mc, ms, rfl, g1, g2⟩⟩
  have hmc : mc = cells := by omega
  have hms : ms = slots := by omega
  subst hmc
  subst hms
  refine vx_ret ?_
  have hq : ∀ t : State, t.heap = H → xQ G o2 h2 args s (.returned (v.map (xV G))) t := fun t ht => ⟨⟨v, hv, rfl, by rw [ht]; exact hR⟩, hV.F ht⟩
  rcases hrn with ⟨hi, x, hs, hvx, hrt⟩ | ⟨hi, x, hs, hvx, hrt⟩ | ⟨hi, x, hs, hvx, hxx, t, hrt, ht⟩ | ⟨hi, hs, hvx, hrt⟩
  · subst hi hs hvx
    rcases hrt with hrt | ⟨hrt, h01⟩
    · exact W.iret hx hb (hr.trans hrt) (fun t ht _ => hq t ht) hV.2.2 hd hlocks
    · exact W.zret hx hb (hr.trans hrt) (by rcases h01 with z | z <;> subst z <;> decide) (fun t ht _ => hq t ht) hV.2.2 hd hlocks
  · subst hi hs hvx
    exact W.lret hx hb (hr.trans hrt) (fun t ht _ => hq t ht) hV.2.2 hd hlocks
  · subst hi hs hvx
    refine W.aret hx hb (hr.trans hrt) ?_ ?_ (fun t ht _ => hq t ht) hV.2.2 hd hlocks
    · cases t <;> first | (simp [x_isR] at ht; done) | exact Or.inl ⟨_, rfl⟩ | exact Or.inr ⟨_, rfl⟩
    · rcases hxx with z | ⟨q, z⟩
      · subst z; exact Or.inl rfl
      · subst z; exact Or.inr ⟨_, rfl⟩
  · subst hi hs hvx
    exact W.vret hx hb (hr.trans hrt) (fun t ht _ => hq t ht) hV.2.2 hd hlocks
set_option maxHeartbeats 4000000 in
theorem x_all (l : Launch) (hfl : l.stackTraces = false) (G : XG) : ∀ (d F j : Nat) (as : List Value) (h : XH) (o2 : XO) (h2 : XH), xrun F d j as h = some (o2, h2) → j + 1 < xNM → xMt l G d j as h o2 h2 := by
  intro d
  induction d with
  | zero => intro F j as h o2 h2 e; cases e
  | succ d ih =>
    intro F j as h o2 h2 e0 hj mc ms g1 g2
    have hj' : j < 224 := by unfold xNM at hj; omega
    simp only [xrun] at e0
    split at e0
    · rename_i hent
      have hm := xAll_get xm_all j hj'
      have hh := xAll_get xh_all j hj'
      have htb : ∀ pc t, (xtb j)[pc]? = some (some t) → xck (xo j) (decide ((xy j).name = "<init>")) (xhr j).isEmpty (xr j) (xb j) pc t = true := fun pc t ht => by
        have h9 := xall_get _ 0 pc t hm ht
        rwa [Nat.zero_add] at h9
      have hbody : ∀ (p : Program) (e : Env) (s : State) (m : MethodId) (args : Array Value) (below : List Frame) (meth : Method) (c : Code) (s₁ : State), BodyLoose p l (xy j) (headSpec (xws j) { frames := d + 1 + 6, cells := mc, slots := ms, locals := 60 * (d + 1) + 120 }) (xb j) (xml j) (xr j) e s m args below meth c s₁ → c.maxLocals = xml j → c.exceptionTable.toList = tableOf (xhr j) → xPre G as h args s →
          W p l e { frames := d + 1 + 6, cells := mc, slots := ms, locals := 60 * (d + 1) + 120 } s m args below meth c s.heap [] 0 0 (vx_MQ below (xQ G o2 h2) (xX G o2 h2) args s mc ms (xFr G)) (entryFrame m args (xml j)) := by
        intro p e s m args below meth c s₁ B hml hT hP
        obtain ⟨rfl, hS, hR⟩ := hP
        have hts0 := atoms_spec (ws := xws j) B.pre
        have hts : ∀ w ∈ xT, w.before (as.map (xV G)).toArray s = true := fun w hw => hts0 w (List.mem_cons_of_mem _ hw)
        have hown : s.vm.findClass (xcn (xo j)) = some m.cls := by rw [xo_ok j hj']; exact findClass_of_methodNamed B.named
        have hname : meth.name = (xy j).name := (name_of_methodNamed B.named B.method).1
        have C : xCx p l s m (as.map (xV G)).toArray meth c G (xo j) (xb j) (xml j) := ⟨B.exec, B.bytes, hml, hown, hts, B.notSynchronized, hS, hfl⟩
        rw [lg_entry_eq]
        exact xex_ok (d := d) C ⟨by show d + 7 ≤ d + 1 + 6; omega, by show 60 * d + 180 ≤ 60 * (d + 1) + 120; omega⟩ (ini := decide ((xy j).name = "<init>")) (nh := (xhr j).isEmpty) (fun z => hname.trans (of_decide_eq_true z)) hT (fun z => List.isEmpty_iff.mp z) hh (fun j as h o2 h2 z1 z2 => ih F j as h o2 h2 z1 z2) (fun j as h o h2 z => xrun_le d F j as h o h2 z) htb (n0 := h.1.length) (z0 := h.2.2.2) ⟨by show h2.1.length ≤ h.1.length + mc; omega, by show h2.2.2.2 ≤ h.2.2.2 + ms; omega⟩ (x_endM C B.returns g1 g2) F _ h (x_entry_len hent.1) e0 s.heap [] _ 0 0 hR va_S.rf (x_ls_entry G hent.1 hent.2) (by omega) (by omega)
      have hpl := (xcw_ok2 j hj').1
      by_cases hx0 : xhr j = []
      · refine vx_ofW (cc := xb j) (maxL := xml j) (ret := xr j) (ws' := xT) hpl (by unfold xws xcw; rw [hx0]) (fun p e s m args below meth c s₁ B hml ht hP => ?_)
        refine hbody p e s m args below meth c s₁ B hml ?_ hP
        rw [hx0]
        exact List.eq_nil_iff_forall_not_mem.mpr ht
      · obtain ⟨g, gs, hg⟩ := List.exists_cons_of_ne_nil hx0
        have hcw : xcw j = .codeWith (xy j) (xb j) (xml j) (xr j) (g :: gs) := by unfold xcw; rw [hg]
        refine vx_ofWH (cc := xb j) (maxL := xml j) (ret := xr j) (hh := g :: gs) (ws' := xT) hpl (by unfold xws; rw [hcw]) (fun p e s m args below meth c s₁ B hml hP => ?_)
        refine hbody p e s m args below meth c s₁ B hml ?_ hP
        rw [hg]
        exact vx_table (x := xy j) B (by have h9 := atoms_spec (ws := xws j) B.pre _ (List.mem_cons_self); rw [hcw] at h9; exact h9)
    · cases e0
end
section
/-! ===== the law's entry ===== -/
theorem xs_ins : ∀ a, a < 7 → Cond.instantiable (xcC a) (xcN a) ∈ lw_tbl := by decide +kernel
theorem xs_arr : Cond.arrayOver (.object RX1) ∈ lw_tbl := by decide +kernel
theorem xs_nest : ∀ q ∈ xNS, Cond.methodLinkNest (xcn q.1) q.2.1 (xy q.2.2) "Transseria" ∈ lw_tbl := by decide +kernel
theorem xs_cast : Cond.castable (xen 1) (xen 1) ∈ lw_tbl ∧ Cond.castable (xen 2) (xen 2) ∈ lw_tbl ∧ Cond.castable (xen 3) (xen 3) ∈ lw_tbl := by decide +kernel
theorem xs_decl : ∀ y ∈ xDec, Cond.declares y ∈ lw_tbl := by decide +kernel
theorem xs_str : ∀ q ∈ xTH, Cond.stringRef (xcn q.1) q.2.2.2.1 q.2.2.2.2.2.2 ∈ lw_tbl := by decide +kernel
theorem xs_thr : Cond.laysStatic Bundle.tN "UNASSIGNED_STACK" Bundle.steD ∈ lw_tbl ∧ Cond.laysStatic Bundle.tN "SUPPRESSED_SENTINEL" Bundle.listD ∈ lw_tbl ∧ Cond.initialized Bundle.tN ∈ lw_tbl := by decide +kernel
theorem xs_flat1 : Cond.isRef (.static Bundle.tN "UNASSIGNED_STACK" Bundle.steD) ∈ flatC (Jvm.Cond.and given_1 narrow_1) ∧ Cond.isRef (.static Bundle.tN "SUPPRESSED_SENTINEL" Bundle.listD) ∈ flatC (Jvm.Cond.and given_1 narrow_1) := by decide +kernel
theorem xs_flat2 : ∀ q ∈ xTH, Cond.exactly (.string (xcn q.1) q.2.2.2.1) "java/lang/String" ∈ flatC (Jvm.Cond.and given_1 narrow_1) := by decide +kernel
theorem xs_flat3 : ∀ a, a < 4 → ∀ b, b < 4 → xen a ≠ xen b → Cond.not (.castable (xen a) (xen b)) ∈ flatC (Jvm.Cond.and given_1 narrow_1) := by decide +kernel
theorem xen_big (n : Nat) : ∃ a, a < 4 ∧ xen n = xen a := by
  match n with
  | 0 => exact ⟨0, by decide, rfl⟩
  | 1 => exact ⟨1, by decide, rfl⟩
  | 2 => exact ⟨2, by decide, rfl⟩
  | n + 3 => exact ⟨3, by decide, rfl⟩
theorem xS_of {s : State} {b L : Nat} {xs : Nat → Int32} (hts : ∀ w ∈ lw_tbl, w.before #[Value.ref b] s = true) (hX : va_X b L xs s s.heap) (hbl : b < s.heap.size) (hgv : (Jvm.Cond.and given_1 narrow_1).before #[Value.ref b] s = true) :
    ∃ G : XG, G.1 = b ∧ G.2.1 + 1 = s.heap.size ∧ xS G s ∧ s.heap[b]? = some G.2.2.2.2.2.2 ∧ G.2.2.2.2.2.2.slots.size = L ∧ ∀ j, j < L → G.2.2.2.2.2.2.slots[j]? = some (.int (xs j)) := by
  obtain ⟨scr, h1, h2, h3, h4, h5⟩ := hX
  have hf := flat_of_before _ hgv
  have hk : ∀ a, ∃ (c : ClassId) (iS : Nat → Nat), a < 7 → u_Kn s (xcC a) (xcT a) (xcN a) c iS := by
    intro a
    by_cases ha : a < 7
    · obtain ⟨c, iS, h⟩ := u_known (C := xcC a) (T := xcT a) (N := xcN a) (n := xcN a) hts (fun w hw => (xc_in0 a ha w hw).1) (hts _ (xs_ins a ha))
      exact ⟨c, iS, fun _ => h⟩
    · exact ⟨0, fun _ => 0, fun z => absurd z ha⟩
  obtain ⟨cI, kI, pI, i1, i2, i3⟩ := Cond.arrayClass_spec (hts _ xAr_ok.1)
  obtain ⟨cJ, kJ, pJ, j1, j2, j3⟩ := Cond.arrayClass_spec (hts _ xAr_ok.2)
  obtain ⟨pG, cG, kG, o1, -, o2, o3, o4⟩ := Cond.arrayOver_spec (hts _ xs_arr)
  refine ⟨(b, s.heap.size - 1, (fun a => Classical.choose (hk a), fun a => Classical.choose (Classical.choose_spec (hk a))), cI, cJ, cG, scr), rfl, by show s.heap.size - 1 + 1 = _; omega, ⟨by show b ≤ s.heap.size - 1; omega, ⟨fun c q hq => ?_, fun k q hq => ?_⟩, ⟨h2, h3⟩, ?_, ?_, fun q hq => ?_, va_AO.of (hts _ xs_arr), fun q hq => va_Nw.of rfl (hts _ (xs_nest q hq)), fun n => ?_, fun x y hxy => ?_, fun y hy => va_Nw.of rfl (hts _ (xs_decl y hy))⟩, h1, h4, h5⟩
  · have hc : c < 7 := (List.getElem?_eq_some_iff.mp hq).1
    rw [xc_cl c hc] at hq
    cases hq
    exact Classical.choose_spec (Classical.choose_spec (hk c)) hc
  · match k, hq with
    | 0, hq => cases hq; exact ⟨fun n z => ⟨fun k h => (by cases h), kI, i2, pI, i3⟩, i1⟩
    | 1, hq => cases hq; exact ⟨fun n z => ⟨fun k h => (by cases h), kJ, j2, pJ, j3⟩, j1⟩
    | 2, hq => cases hq; exact ⟨fun n z => ⟨fun k h => (by cases h), kG, o2, pG, o3⟩, kG, pG, o2, o3, o1, o4⟩
    | k + 3, hq => simp at hq
  · exact vx_Zqof (hts _ xs_thr.1) (hts _ xs_thr.2.2) (hf _ xs_flat1.1) (fun a ha z => by have z : s.heap.size - 1 < a := z; omega)
  · exact vx_Zqof (hts _ xs_thr.2.1) (hts _ xs_thr.2.2) (hf _ xs_flat1.2) (fun a ha z => by have z : s.heap.size - 1 < a := z; omega)
  · obtain ⟨sa, c, cA, kA, q1, -⟩ := Cond.exactly_spec (args := #[Value.ref b]) (first := s) (o := none) (s := s) (idx := []) (hf _ (xs_flat2 q hq))
    exact ⟨sa, vk_R.of (hts _ (xs_str q hq)) q1⟩
  · obtain ⟨a, ha, e⟩ := xen_big n
    rw [e]
    match a, ha with
    | 0, _ => exact va_Nw.of rfl (hts _ xs_cast.2.2)
    | 1, _ => exact va_Nw.of rfl (hts _ xs_cast.1)
    | 2, _ => exact va_Nw.of rfl (hts _ xs_cast.2.1)
    | 3, _ => exact va_Nw.of rfl (hts _ xs_cast.2.2)
    | a + 4, ha => omega
  · obtain ⟨a, ha, e1⟩ := xen_big x
    obtain ⟨c, hc, e2⟩ := xen_big y
    rw [e1, e2] at hxy ⊢
    exact va_Nc.of (hf _ (xs_flat3 a ha c hc hxy))
/-- the heap of the toy at the law's entry: the script alone -/
def x_h0 (L : Nat) (xs : Nat → Int32) : XH := ([(5, L, [])], (fun q => if q = 0 then xs else fun _ => 0), (fun _ _ => 0), 0)
/-- what the toy must show of the law -/
def x_Law : Prop := ∀ (L : Nat) (xs : Nat → Int32), L ≤ 3584 → ∃ (d F f : Nat) (h2 : XH), d ≤ 1000 ∧ xex (xrun F d) [] tb_L_law f (0, x_entry [.ref 0] 8, []) (x_h0 L xs) = some (.inl (some (.int 1)), h2) ∧ h2.1.length ≤ 601025 ∧ h2.2.2.2 ≤ 7293034
end
section
/-! ===== layer 2: what a run of the toy does, by steps (for proofs about the methods) ===== -/
abbrev XHs : Type := List (Nat × Nat × Nat × Nat × Nat × Nat)
theorem xrun_up : ∀ (d1 d2 F1 F2 j : Nat) (as : List Value) (h : XH) (r : XO × XH), d1 ≤ d2 → F1 ≤ F2 → xrun F1 d1 j as h = some r → xrun F2 d2 j as h = some r := by
  intro d1
  induction d1 with
  | zero => intro d2 F1 F2 j as h r _ _ e; cases e
  | succ d1 ih =>
    intro d2 F1 F2 j as h r hd hF e
    obtain ⟨d3, rfl⟩ : ∃ d3, d2 = d3 + 1 := ⟨d2 - 1, by omega⟩
    simp only [xrun] at e ⊢
    split at e
    · rename_i hent
      rw [if_pos hent]
      exact xex_up (fun j as h r z => ih d3 F1 F2 j as h r (by omega) hF z) _ _ _ _ _ hF e
    · cases e
/-- from the frame on the run ends, and so that P -/
def Ex (d : Nat) (hs : XHs) (tb : List (Option XI)) (fr : XF) (h : XH) (P : XO → XH → Prop) : Prop := ∃ (o : XO) (h2 : XH) (F : Nat), P o h2 ∧ xex (xrun F d) hs tb F fr h = some (o, h2)
/-- the call ends, and so that P -/
def Tr (d j : Nat) (as : List Value) (h : XH) (P : XO → XH → Prop) : Prop := ∃ (o : XO) (h2 : XH) (F : Nat), P o h2 ∧ xrun F d j as h = some (o, h2)
/-- after a step -/
def Rs (d : Nat) (hs : XHs) (tb : List (Option XI)) (r : Option XR) (P : XO → XH → Prop) : Prop := match r with
  | some (.inl (fr, h)) => Ex d hs tb fr h P
  | some (.inr (o, h)) => P o h
  | none => False
theorem Tr.mono {d e j : Nat} {as : List Value} {h : XH} {P Q : XO → XH → Prop} (H : Tr d j as h P) (hd : d ≤ e) (hp : ∀ o h2, P o h2 → Q o h2) : Tr e j as h Q := by
  obtain ⟨o, h2, F, h3, h4⟩ := H
  exact ⟨o, h2, F, hp _ _ h3, xrun_up _ _ _ _ _ _ _ _ hd (Nat.le_refl _) h4⟩
theorem Ex.mono {d e : Nat} {hs : XHs} {tb : List (Option XI)} {fr : XF} {h : XH} {P Q : XO → XH → Prop} (H : Ex d hs tb fr h P) (hd : d ≤ e) (hp : ∀ o h2, P o h2 → Q o h2) : Ex e hs tb fr h Q := by
  obtain ⟨o, h2, F, h3, h4⟩ := H
  exact ⟨o, h2, F, hp _ _ h3, xex_up (fun j as h r z => xrun_up _ _ _ _ _ _ _ _ hd (Nat.le_refl _) z) _ _ _ _ _ (Nat.le_refl _) h4⟩
theorem Tr.of {d j : Nat} {as : List Value} {h : XH} {P : XO → XH → Prop} (h1 : (x_args as).length ≤ xml j ∧ x_nod as = true) (H : Ex d (xhs j) (xtb j) (0, x_entry as (xml j), []) h P) : Tr (d + 1) j as h P := by
  obtain ⟨o, h2, F, h3, h4⟩ := H
  refine ⟨o, h2, F, h3, ?_⟩
  simp only [xrun]
  rw [if_pos h1]
  exact h4
/-- one step, which asks no callee -/
theorem Ex.st {d : Nat} {hs : XHs} {tb : List (Option XI)} {fr : XF} {h : XH} {P : XO → XH → Prop} {r : Option XR} (h1 : ∀ c, xstp c hs tb fr h = r) (H : Rs d hs tb r P) : Ex d hs tb fr h P := by
  match r, H with
  | some (.inl (fr2, h2)), H =>
    obtain ⟨o, h3, F, hp, e⟩ := H
    refine ⟨o, h3, F + 1, hp, ?_⟩
    simp only [xex]
    rw [h1]
    exact xex_up (fun j as h r z => xrun_up _ _ _ _ _ _ _ _ (Nat.le_refl _) (by omega) z) _ _ _ _ _ (Nat.le_refl _) e
  | some (.inr (o, h2)), H =>
    refine ⟨o, h2, 1, H, ?_⟩
    simp only [xex]
    rw [h1]
/-- one step, which asks the callee j -/
theorem Ex.ask {d : Nat} {hs : XHs} {tb : List (Option XI)} {pc : Nat} {L : XL} {st rest : List Value} {h : XH} {P Q : XO → XH → Prop} {j : Nat} {as : List Value} (h1 : ∀ c, xstp c hs tb (pc, L, st) h = x_back hs pc L rest (c j as h)) (h2 : Tr d j as h Q) (H : ∀ o h3, Q o h3 → Rs d hs tb (x_back hs pc L rest (some (o, h3))) P) : Ex d hs tb (pc, L, st) h P := by
  obtain ⟨o, h3, F, hq, e⟩ := h2
  have H2 := H o h3 hq
  generalize hr : x_back hs pc L rest (some (o, h3)) = r at H2
  match r, H2 with
  | some (.inl (fr2, h4)), H2 =>
    obtain ⟨o2, h5, F2, hp, e2⟩ := H2
    refine ⟨o2, h5, F + F2 + 1, hp, ?_⟩
    simp only [xex]
    rw [h1, xrun_up d d F (F + F2 + 1) j as h _ (Nat.le_refl _) (by omega) e, hr]
    exact xex_up (fun j as h r z => xrun_up _ _ _ _ _ _ _ _ (Nat.le_refl _) (by omega) z) _ _ _ _ _ (by omega) e2
  | some (.inr (o2, h4)), H2 =>
    refine ⟨o2, h4, F + 1, H2, ?_⟩
    simp only [xex]
    rw [h1, xrun_up d d F (F + 1) j as h _ (Nat.le_refl _) (by omega) e, hr]
/-- n steps that touch no heap -/
def xpn (tb : List (Option XI)) : Nat → XF → Option XF
  | 0, fr => some fr
  | n + 1, fr => match tb[fr.1]? with
    | some (some (ins, a, _, _, v, w)) => (match xpure fr.1 ins a v w fr.2.1 fr.2.2 with
      | some fr2 => xpn tb n fr2
      | none => none)
    | _ => none
theorem Ex.pure {d : Nat} {hs : XHs} {tb : List (Option XI)} {h : XH} {P : XO → XH → Prop} {fr2 : XF} : ∀ (n : Nat) {fr : XF}, xpn tb n fr = some fr2 → Ex d hs tb fr2 h P → Ex d hs tb fr h P := by
  intro n
  induction n with
  | zero => intro fr e H; cases e; exact H
  | succ n ih =>
    intro fr e H
    simp only [xpn] at e
    split at e
    · rename_i ins a b c v w ht
      split at e
      · rename_i fr3 hp
        refine Ex.st (r := some (.inl (fr3, h))) (fun c2 => ?_) (ih e H)
        unfold xstp
        rw [ht]
        dsimp only
        rw [hp]
      · cases e
    · cases e
/-- a branch: what the test says decides -/
theorem Ex.br {d : Nat} {hs : XHs} {tb : List (Option XI)} {fr x y : XF} {h : XH} {P : XO → XH → Prop} {b : Prop} [Decidable b] (e : xpn tb 1 fr = some (if b then x else y)) (H1 : b → Ex d hs tb x h P) (H2 : ¬ b → Ex d hs tb y h P) : Ex d hs tb fr h P := by
  refine Ex.pure 1 e ?_
  by_cases hb : b
  · rw [if_pos hb]
    exact H1 hb
  · rw [if_neg hb]
    exact H2 hb
end
section
/-! ===== layer 2: one row for each instruction that reads or writes the heap ===== -/
theorem Ex.hp {d : Nat} {hs : XHs} {tb : List (Option XI)} {pc : Nat} {L : XL} {st : List Value} {h : XH} {P : XO → XH → Prop} {ins : Instr} {a b c : Nat} {v : Int32} {w : Int64} {r : Option XR} (ht : tb[pc]? = some (some (ins, a, b, c, v, w))) (hp : xpure pc ins a v w L st = none) (hm : ∀ c2, xeff c2 hs pc ins a b c L st h = r) (H : Rs d hs tb r P) : Ex d hs tb (pc, L, st) h P := by
  refine Ex.st (fun c2 => ?_) H
  unfold xstp
  rw [ht]
  (try dsimp only)
  rw [hp]
  exact hm c2
section
variable {d : Nat} {hs : XHs} {tb : List (Option XI)} {pc : Nat} {L : XL} {st : List Value} {h : XH} {P : XO → XH → Prop} {a b c q : Nat} {v : Int32} {w : Int64}
theorem Ex.getI {i : Nat} {rs : List (Option Nat)} (ht : tb[pc]? = some (some (.getfield i, a, b, c, v, w))) (hc : c = 0 ∨ c = 3) (hq : h.1[q]? = some (0, a, rs)) (H : Ex d hs tb (pc + 3, L, .int (h.2.1 q b) :: st) h P) : Ex d hs tb (pc, L, .ref q :: st) h P := by
  refine Ex.hp ht rfl (r := some (.inl ((pc + 3, L, .int (h.2.1 q b) :: st), h))) (fun c2 => ?_) H
  show xmem pc (.getfield i) a b c L (.ref q :: st) h = _
  unfold xmem
  (try dsimp only)
  rw [hq]
  show (if a = a then _ else (none : Option XR)) = _
  rw [if_pos rfl]
  rcases hc with z | z <;> subst z <;> rfl
theorem Ex.getJ {i : Nat} {rs : List (Option Nat)} (ht : tb[pc]? = some (some (.getfield i, a, b, 1, v, w))) (hq : h.1[q]? = some (0, a, rs)) (H : Ex d hs tb (pc + 3, L, .long (h.2.2.1 q b) :: st) h P) : Ex d hs tb (pc, L, .ref q :: st) h P := by
  refine Ex.hp ht rfl (r := some (.inl ((pc + 3, L, .long (h.2.2.1 q b) :: st), h))) (fun c2 => ?_) H
  show xmem pc (.getfield i) a b 1 L (.ref q :: st) h = _
  unfold xmem
  (try dsimp only)
  rw [hq]
  show (if a = a then _ else (none : Option XR)) = _
  rw [if_pos rfl]
  rfl
theorem Ex.getQ {i : Nat} {rs : List (Option Nat)} {x : Nat} (ht : tb[pc]? = some (some (.getfield i, a, b, 2, v, w))) (hq : h.1[q]? = some (0, a, rs)) (hx : rs[b]? = some (some x)) (H : Ex d hs tb (pc + 3, L, .ref x :: st) h P) : Ex d hs tb (pc, L, .ref q :: st) h P := by
  refine Ex.hp ht rfl (r := some (.inl ((pc + 3, L, .ref x :: st), h))) (fun c2 => ?_) H
  show xmem pc (.getfield i) a b 2 L (.ref q :: st) h = _
  unfold xmem
  (try dsimp only)
  rw [hq]
  show (if a = a then _ else (none : Option XR)) = _
  rw [if_pos rfl]
  have hg : rs.getD b none = some x := by rw [List.getD_eq_getElem?_getD, hx]; rfl
  rw [hg]
  rfl
theorem Ex.putI {i : Nat} {rs : List (Option Nat)} {x : Int32} (ht : tb[pc]? = some (some (.putfield i, a, b, 0, v, w))) (hq : h.1[q]? = some (0, a, rs)) (H : Ex d hs tb (pc + 3, L, st) (x_setI h q b x) P) : Ex d hs tb (pc, L, .int x :: .ref q :: st) h P := by
  refine Ex.hp ht rfl (r := some (.inl ((pc + 3, L, st), x_setI h q b x))) (fun c2 => ?_) H
  show xmem pc (.putfield i) a b 0 L (.int x :: .ref q :: st) h = _
  unfold xmem
  (try dsimp only)
  rw [hq]
  show (if a = a then _ else (none : Option XR)) = _
  rw [if_pos rfl]
  rfl
theorem Ex.putZ {i : Nat} {rs : List (Option Nat)} {x : Int32} (ht : tb[pc]? = some (some (.putfield i, a, b, 3, v, w))) (hq : h.1[q]? = some (0, a, rs)) (hx : x = 0 ∨ x = 1) (H : Ex d hs tb (pc + 3, L, st) (x_setI h q b x) P) : Ex d hs tb (pc, L, .int x :: .ref q :: st) h P := by
  refine Ex.hp ht rfl (r := some (.inl ((pc + 3, L, st), x_setI h q b x))) (fun c2 => ?_) H
  show xmem pc (.putfield i) a b 3 L (.int x :: .ref q :: st) h = _
  unfold xmem
  (try dsimp only)
  rw [hq]
  show (if a = a then _ else (none : Option XR)) = _
  rw [if_pos rfl]
  show (if x = 0 ∨ x = 1 then _ else (none : Option XR)) = _
  rw [if_pos hx]
  rfl
theorem Ex.putJ {i : Nat} {rs : List (Option Nat)} {x : Int64} (ht : tb[pc]? = some (some (.putfield i, a, b, 1, v, w))) (hq : h.1[q]? = some (0, a, rs)) (H : Ex d hs tb (pc + 3, L, st) (x_setJ h q b x) P) : Ex d hs tb (pc, L, .long x :: .ref q :: st) h P := by
  refine Ex.hp ht rfl (r := some (.inl ((pc + 3, L, st), x_setJ h q b x))) (fun c2 => ?_) H
  show xmem pc (.putfield i) a b 1 L (.long x :: .ref q :: st) h = _
  unfold xmem
  (try dsimp only)
  rw [hq]
  show (if a = a ∧ 1 = 1 then _ else (none : Option XR)) = _
  rw [if_pos ⟨rfl, rfl⟩]
  rfl
theorem Ex.putQ {i : Nat} {rs : List (Option Nat)} {x : Nat} (ht : tb[pc]? = some (some (.putfield i, a, b, 2, v, w))) (hq : h.1[q]? = some (0, a, rs)) (hb : b < rs.length) (H : Ex d hs tb (pc + 3, L, st) (x_setT h q (0, a, rs.set b (some x))) P) : Ex d hs tb (pc, L, .ref x :: .ref q :: st) h P := by
  refine Ex.hp ht rfl (r := some (.inl ((pc + 3, L, st), x_setT h q (0, a, rs.set b (some x))))) (fun c2 => ?_) H
  show xmem pc (.putfield i) a b 2 L (.ref x :: .ref q :: st) h = _
  unfold xmem
  (try dsimp only)
  rw [hq]
  show (if a = a ∧ 2 = 2 ∧ b < rs.length then _ else (none : Option XR)) = _
  rw [if_pos ⟨rfl, rfl, hb⟩]
  rfl
theorem Ex.iald {k n : Nat} {rs : List (Option Nat)} {j : Int32} (ht : tb[pc]? = some (some (.iaload, a, b, c, v, w))) (hk : k = 1 ∨ k = 5) (hq : h.1[q]? = some (k, n, rs)) (hj : ¬ (j < 0 ∨ n ≤ j.toNatClampNeg)) (H : Ex d hs tb (pc + 1, L, .int (h.2.1 q j.toNatClampNeg) :: st) h P) : Ex d hs tb (pc, L, .int j :: .ref q :: st) h P := by
  refine Ex.hp ht rfl (r := some (.inl ((pc + 1, L, .int (h.2.1 q j.toNatClampNeg) :: st), h))) (fun c2 => ?_) H
  show xmem pc .iaload a b c L (.int j :: .ref q :: st) h = _
  unfold xmem
  (try dsimp only)
  rw [hq]
  rcases hk with z | z <;> subst z <;> (show (if j < 0 ∨ n ≤ j.toNatClampNeg then (none : Option XR) else _) = _) <;> rw [if_neg hj] <;> rfl
theorem Ex.lald {n : Nat} {rs : List (Option Nat)} {j : Int32} (ht : tb[pc]? = some (some (.laload, a, b, c, v, w))) (hq : h.1[q]? = some (2, n, rs)) (hj : ¬ (j < 0 ∨ n ≤ j.toNatClampNeg)) (H : Ex d hs tb (pc + 1, L, .long (h.2.2.1 q j.toNatClampNeg) :: st) h P) : Ex d hs tb (pc, L, .int j :: .ref q :: st) h P := by
  refine Ex.hp ht rfl (r := some (.inl ((pc + 1, L, .long (h.2.2.1 q j.toNatClampNeg) :: st), h))) (fun c2 => ?_) H
  show xmem pc .laload a b c L (.int j :: .ref q :: st) h = _
  unfold xmem
  (try dsimp only)
  rw [hq]
  show (if j < 0 ∨ n ≤ j.toNatClampNeg then (none : Option XR) else _) = _
  rw [if_neg hj]
  rfl
theorem Ex.aald {n x : Nat} {rs : List (Option Nat)} {j : Int32} (ht : tb[pc]? = some (some (.aaload, a, b, c, v, w))) (hq : h.1[q]? = some (3, n, rs)) (hj : ¬ (j < 0 ∨ n ≤ j.toNatClampNeg)) (hx : rs[j.toNatClampNeg]? = some (some x)) (H : Ex d hs tb (pc + 1, L, .ref x :: st) h P) : Ex d hs tb (pc, L, .int j :: .ref q :: st) h P := by
  refine Ex.hp ht rfl (r := some (.inl ((pc + 1, L, .ref x :: st), h))) (fun c2 => ?_) H
  show xmem pc .aaload a b c L (.int j :: .ref q :: st) h = _
  unfold xmem
  (try dsimp only)
  rw [hq]
  show (if j < 0 ∨ n ≤ j.toNatClampNeg then (none : Option XR) else _) = _
  rw [if_neg hj]
  have hg : rs.getD j.toNatClampNeg none = some x := by rw [List.getD_eq_getElem?_getD, hx]; rfl
  rw [hg]
  rfl
theorem Ex.iast {n : Nat} {rs : List (Option Nat)} {j x : Int32} (ht : tb[pc]? = some (some (.iastore, a, b, c, v, w))) (hq : h.1[q]? = some (1, n, rs)) (hj : ¬ (j < 0 ∨ n ≤ j.toNatClampNeg)) (H : Ex d hs tb (pc + 1, L, st) (x_setI h q j.toNatClampNeg x) P) : Ex d hs tb (pc, L, .int x :: .int j :: .ref q :: st) h P := by
  refine Ex.hp ht rfl (r := some (.inl ((pc + 1, L, st), x_setI h q j.toNatClampNeg x))) (fun c2 => ?_) H
  show xmem pc .iastore a b c L (.int x :: .int j :: .ref q :: st) h = _
  unfold xmem
  (try dsimp only)
  rw [hq]
  show (if j < 0 ∨ n ≤ j.toNatClampNeg then (none : Option XR) else _) = _
  rw [if_neg hj]
  rfl
theorem Ex.last {n : Nat} {rs : List (Option Nat)} {j : Int32} {x : Int64} (ht : tb[pc]? = some (some (.lastore, a, b, c, v, w))) (hq : h.1[q]? = some (2, n, rs)) (hj : ¬ (j < 0 ∨ n ≤ j.toNatClampNeg)) (H : Ex d hs tb (pc + 1, L, st) (x_setJ h q j.toNatClampNeg x) P) : Ex d hs tb (pc, L, .long x :: .int j :: .ref q :: st) h P := by
  refine Ex.hp ht rfl (r := some (.inl ((pc + 1, L, st), x_setJ h q j.toNatClampNeg x))) (fun c2 => ?_) H
  show xmem pc .lastore a b c L (.long x :: .int j :: .ref q :: st) h = _
  unfold xmem
  (try dsimp only)
  rw [hq]
  show (if j < 0 ∨ n ≤ j.toNatClampNeg then (none : Option XR) else _) = _
  rw [if_neg hj]
  rfl
theorem Ex.aast {n x ts : Nat} {rs us : List (Option Nat)} {j : Int32} (ht : tb[pc]? = some (some (.aastore, a, b, c, v, w))) (hq : h.1[q]? = some (3, n, rs)) (hx : h.1[x]? = some (0, 1, us)) (hj : ¬ (j < 0 ∨ n ≤ j.toNatClampNeg ∨ rs.length ≤ j.toNatClampNeg)) (H : Ex d hs tb (pc + 1, L, st) (x_setT h q (3, n, rs.set j.toNatClampNeg (some x))) P) : Ex d hs tb (pc, L, .ref x :: .int j :: .ref q :: st) h P := by
  refine Ex.hp ht rfl (r := some (.inl ((pc + 1, L, st), x_setT h q (3, n, rs.set j.toNatClampNeg (some x))))) (fun c2 => ?_) H
  show xmem pc .aastore a b c L (.ref x :: .int j :: .ref q :: st) h = _
  unfold xmem
  (try dsimp only)
  rw [hq, hx]
  show (if j < 0 ∨ n ≤ j.toNatClampNeg ∨ rs.length ≤ j.toNatClampNeg then (none : Option XR) else _) = _
  rw [if_neg hj]
  rfl
theorem Ex.alen {k n : Nat} {rs : List (Option Nat)} (ht : tb[pc]? = some (some (.arraylength, a, b, c, v, w))) (hk : k = 1 ∨ k = 2 ∨ k = 3 ∨ k = 5) (hq : h.1[q]? = some (k, n, rs)) (H : Ex d hs tb (pc + 1, L, .int (Int32.ofNat n) :: st) h P) : Ex d hs tb (pc, L, .ref q :: st) h P := by
  refine Ex.hp ht rfl (r := some (.inl ((pc + 1, L, .int (Int32.ofNat n) :: st), h))) (fun c2 => ?_) H
  show xmem pc .arraylength a b c L (.ref q :: st) h = _
  unfold xmem
  (try dsimp only)
  rw [hq]
  rcases hk with z | z | z | z <;> subst z <;> rfl
theorem Ex.newA {i : ArrayType} {n : Int32} (ht : tb[pc]? = some (some (.newarray i, a, b, c, v, w))) (hn : ¬ (n < 0 ∨ 67108864 < n.toNatClampNeg)) (H : Ex d hs tb (pc + 2, L, .ref h.1.length :: st) (x_new h (a, n.toNatClampNeg, []) n.toNatClampNeg) P) : Ex d hs tb (pc, L, .int n :: st) h P := by
  refine Ex.hp ht rfl (r := some (.inl ((pc + 2, L, .ref h.1.length :: st), x_new h (a, n.toNatClampNeg, []) n.toNatClampNeg))) (fun c2 => ?_) H
  show xmem pc (.newarray i) a b c L (.int n :: st) h = _
  unfold xmem
  (try dsimp only)
  rw [if_neg hn]
  rfl
theorem Ex.newR {i : Nat} {n : Int32} (ht : tb[pc]? = some (some (.anewarray i, a, b, c, v, w))) (hn : ¬ (n < 0 ∨ 67108864 < n.toNatClampNeg)) (H : Ex d hs tb (pc + 3, L, .ref h.1.length :: st) (x_new h (3, n.toNatClampNeg, List.replicate n.toNatClampNeg none) n.toNatClampNeg) P) : Ex d hs tb (pc, L, .int n :: st) h P := by
  refine Ex.hp ht rfl (r := some (.inl ((pc + 3, L, .ref h.1.length :: st), x_new h (3, n.toNatClampNeg, List.replicate n.toNatClampNeg none) n.toNatClampNeg))) (fun c2 => ?_) H
  show xmem pc (.anewarray i) a b c L (.int n :: st) h = _
  unfold xmem
  (try dsimp only)
  rw [if_neg hn]
  rfl
theorem Ex.newO {i : Nat} (ht : tb[pc]? = some (some (.new i, a, b, 0, v, w))) (H : Ex d hs tb (pc + 3, L, .ref h.1.length :: st) (x_new h (0, a, List.replicate b none) b) P) : Ex d hs tb (pc, L, st) h P := by
  refine Ex.hp ht rfl (r := some (.inl ((pc + 3, L, .ref h.1.length :: st), x_new h (0, a, List.replicate b none) b))) (fun c2 => ?_) H
  rfl
theorem Ex.thr {i : Nat} (ht : tb[pc]? = some (some (.new i, a, b, 1, v, w))) (hst : x_cats st ≤ 8) (H : P (.inr a) (x_new h (4, a, []) 6)) : Ex d hs tb (pc, L, st) h P := by
  refine Ex.hp ht rfl (r := some (.inr (.inr a, x_new h (4, a, []) 6))) (fun c2 => ?_) H
  show (if x_cats st ≤ 8 then _ else _) = _
  rw [if_pos hst]
theorem Ex.iret {x : Int32} (ht : tb[pc]? = some (some (.ireturn, a, b, c, v, w))) (ha : a = 1 ∨ a = 2 ∧ (x = 0 ∨ x = 1)) (H : P (.inl (some (.int x))) h) : Ex d hs tb (pc, L, [.int x]) h P := by
  refine Ex.hp ht rfl (r := some (.inr (.inl (some (.int x)), h))) (fun c2 => ?_) H
  show (if a = 1 ∨ a = 2 ∧ (x = 0 ∨ x = 1) then _ else _) = _
  rw [if_pos ha]
theorem Ex.lret {x : Int64} (ht : tb[pc]? = some (some (.lreturn, a, b, c, v, w))) (H : P (.inl (some (.long x))) h) : Ex d hs tb (pc, L, [.long x]) h P :=
  Ex.hp ht rfl (r := some (.inr (.inl (some (.long x)), h))) (fun _ => rfl) H
theorem Ex.aret {x : Nat} (ht : tb[pc]? = some (some (.areturn, a, b, c, v, w))) (H : P (.inl (some (.ref x))) h) : Ex d hs tb (pc, L, [.ref x]) h P :=
  Ex.hp ht rfl (r := some (.inr (.inl (some (.ref x)), h))) (fun _ => rfl) H
theorem Ex.vret (ht : tb[pc]? = some (some (.return_, a, b, c, v, w))) (H : P (.inl none) h) : Ex d hs tb (pc, L, []) h P :=
  Ex.hp ht rfl (r := some (.inr (.inl none, h))) (fun _ => rfl) H
end
end
section
/-! ===== layer 2: Rows ===== -/
theorem i_len {n : Nat} {k : Int32} (hn : n < 2 ^ 31) (hk : ¬ k < 0) : Int32.ofNat n ≤ k ↔ n ≤ k.toNatClampNeg := by
  rw [Int32.le_iff_toInt_le, Int32.toInt_ofNat_of_lt hn]
  rw [Int32.lt_iff_toInt_lt] at hk
  have h0 : (0 : Int32).toInt = 0 := rfl
  rw [h0] at hk
  have h1 : k.toNatClampNeg = k.toInt.toNat := rfl
  rw [h1]
  omega
/-- what is read at k of a row of n: 0 outside -/
def g_I (h : XH) (q n : Nat) (k : Int32) : Int32 := if k < 0 ∨ n ≤ k.toNatClampNeg then 0 else h.2.1 q k.toNatClampNeg
def g_J (h : XH) (q n : Nat) (k : Int32) : Int64 := if k < 0 ∨ n ≤ k.toNatClampNeg then 0 else h.2.2.1 q k.toNatClampNeg
def p_I (h : XH) (q n : Nat) (k v : Int32) : XH := if k < 0 ∨ n ≤ k.toNatClampNeg then h else x_setI h q k.toNatClampNeg v
def p_J (h : XH) (q n : Nat) (k : Int32) (v : Int64) : XH := if k < 0 ∨ n ≤ k.toNatClampNeg then h else x_setJ h q k.toNatClampNeg v
theorem t_X3_at {d : Nat} {h : XH} {q n : Nat} {rs : List (Option Nat)} {k : Int32} (hq : h.1[q]? = some (1, n, rs)) (hn : n < 2 ^ 31) : Tr (d + 1) m_X3_at [.ref q, .int k] h (fun o h2 => o = .inl (some (.int (g_I h q n k))) ∧ h2 = h) := by
  refine Tr.of ⟨Nat.le_refl 2, rfl⟩ ?_
  show Ex d [] tb_X3_at (0, [some (.ref q), some (.int k)], []) h _
  refine Ex.pure 1 (fr2 := (1, [some (.ref q), some (.int k)], [.int k])) rfl ?_
  refine Ex.br (x := (16, [some (.ref q), some (.int k)], [])) (y := (4, [some (.ref q), some (.int k)], [])) (b := k < 0) rfl (fun hb => ?_) (fun hb => ?_)
  · refine Ex.pure 1 (fr2 := (17, [some (.ref q), some (.int k)], [.int 0])) rfl ?_
    refine Ex.iret rfl (Or.inl rfl) ⟨?_, rfl⟩
    rw [g_I, if_pos (Or.inl hb)]
  · refine Ex.pure 2 (fr2 := (6, [some (.ref q), some (.int k)], [.ref q, .int k])) rfl ?_
    refine Ex.alen rfl (Or.inl rfl) hq ?_
    refine Ex.br (x := (16, [some (.ref q), some (.int k)], [])) (y := (10, [some (.ref q), some (.int k)], [])) (b := Int32.ofNat n ≤ k) rfl (fun hc => ?_) (fun hc => ?_)
    · refine Ex.pure 1 (fr2 := (17, [some (.ref q), some (.int k)], [.int 0])) rfl ?_
      refine Ex.iret rfl (Or.inl rfl) ⟨?_, rfl⟩
      rw [g_I, if_pos (Or.inr ((i_len hn hb).mp hc))]
    · have hj : ¬ (k < 0 ∨ n ≤ k.toNatClampNeg) := fun z => z.elim hb (fun z => hc ((i_len hn hb).mpr z))
      refine Ex.pure 2 (fr2 := (12, [some (.ref q), some (.int k)], [.int k, .ref q])) rfl ?_
      refine Ex.iald rfl (Or.inl rfl) hq hj ?_
      refine Ex.pure 1 (fr2 := (17, [some (.ref q), some (.int k)], [.int (h.2.1 q k.toNatClampNeg)])) rfl ?_
      refine Ex.iret rfl (Or.inl rfl) ⟨?_, rfl⟩
      rw [g_I, if_neg hj]
theorem t_X3_at_ {d : Nat} {h : XH} {q n : Nat} {rs : List (Option Nat)} {k : Int32} (hq : h.1[q]? = some (2, n, rs)) (hn : n < 2 ^ 31) : Tr (d + 1) m_X3_at_ [.ref q, .int k] h (fun o h2 => o = .inl (some (.long (g_J h q n k))) ∧ h2 = h) := by
  refine Tr.of ⟨Nat.le_refl 2, rfl⟩ ?_
  show Ex d [] tb_X3_at_ (0, [some (.ref q), some (.int k)], []) h _
  refine Ex.pure 1 (fr2 := (1, [some (.ref q), some (.int k)], [.int k])) rfl ?_
  refine Ex.br (x := (16, [some (.ref q), some (.int k)], [])) (y := (4, [some (.ref q), some (.int k)], [])) (b := k < 0) rfl (fun hb => ?_) (fun hb => ?_)
  · refine Ex.pure 1 (fr2 := (17, [some (.ref q), some (.int k)], [.long 0])) rfl ?_
    refine Ex.lret rfl ⟨?_, rfl⟩
    rw [g_J, if_pos (Or.inl hb)]
  · refine Ex.pure 2 (fr2 := (6, [some (.ref q), some (.int k)], [.ref q, .int k])) rfl ?_
    refine Ex.alen rfl (Or.inr (Or.inl rfl)) hq ?_
    refine Ex.br (x := (16, [some (.ref q), some (.int k)], [])) (y := (10, [some (.ref q), some (.int k)], [])) (b := Int32.ofNat n ≤ k) rfl (fun hc => ?_) (fun hc => ?_)
    · refine Ex.pure 1 (fr2 := (17, [some (.ref q), some (.int k)], [.long 0])) rfl ?_
      refine Ex.lret rfl ⟨?_, rfl⟩
      rw [g_J, if_pos (Or.inr ((i_len hn hb).mp hc))]
    · have hj : ¬ (k < 0 ∨ n ≤ k.toNatClampNeg) := fun z => z.elim hb (fun z => hc ((i_len hn hb).mpr z))
      refine Ex.pure 2 (fr2 := (12, [some (.ref q), some (.int k)], [.int k, .ref q])) rfl ?_
      refine Ex.lald rfl hq hj ?_
      refine Ex.pure 1 (fr2 := (17, [some (.ref q), some (.int k)], [.long (h.2.2.1 q k.toNatClampNeg)])) rfl ?_
      refine Ex.lret rfl ⟨?_, rfl⟩
      rw [g_J, if_neg hj]
theorem t_X3_put {d : Nat} {h : XH} {q n : Nat} {rs : List (Option Nat)} {k v : Int32} (hq : h.1[q]? = some (1, n, rs)) (hn : n < 2 ^ 31) : Tr (d + 1) m_X3_put [.ref q, .int k, .int v] h (fun o h2 => o = .inl none ∧ h2 = p_I h q n k v) := by
  refine Tr.of ⟨Nat.le_refl 3, rfl⟩ ?_
  show Ex d [] tb_X3_put (0, [some (.ref q), some (.int k), some (.int v)], []) h _
  refine Ex.pure 1 (fr2 := (1, [some (.ref q), some (.int k), some (.int v)], [.int k])) rfl ?_
  refine Ex.br (x := (14, [some (.ref q), some (.int k), some (.int v)], [])) (y := (4, [some (.ref q), some (.int k), some (.int v)], [])) (b := k < 0) rfl (fun hb => ?_) (fun hb => ?_)
  · refine Ex.vret rfl ⟨rfl, ?_⟩
    rw [p_I, if_pos (Or.inl hb)]
  · refine Ex.pure 2 (fr2 := (6, [some (.ref q), some (.int k), some (.int v)], [.ref q, .int k])) rfl ?_
    refine Ex.alen rfl (Or.inl rfl) hq ?_
    refine Ex.br (x := (14, [some (.ref q), some (.int k), some (.int v)], [])) (y := (10, [some (.ref q), some (.int k), some (.int v)], [])) (b := Int32.ofNat n ≤ k) rfl (fun hc => ?_) (fun hc => ?_)
    · refine Ex.vret rfl ⟨rfl, ?_⟩
      rw [p_I, if_pos (Or.inr ((i_len hn hb).mp hc))]
    · have hj : ¬ (k < 0 ∨ n ≤ k.toNatClampNeg) := fun z => z.elim hb (fun z => hc ((i_len hn hb).mpr z))
      refine Ex.pure 3 (fr2 := (13, [some (.ref q), some (.int k), some (.int v)], [.int v, .int k, .ref q])) rfl ?_
      refine Ex.iast rfl hq hj ?_
      refine Ex.vret rfl ⟨rfl, ?_⟩
      rw [p_I, if_neg hj]
theorem t_X3_put_ {d : Nat} {h : XH} {q n : Nat} {rs : List (Option Nat)} {k : Int32} {v : Int64} (hq : h.1[q]? = some (2, n, rs)) (hn : n < 2 ^ 31) : Tr (d + 1) m_X3_put_ [.ref q, .int k, .long v] h (fun o h2 => o = .inl none ∧ h2 = p_J h q n k v) := by
  refine Tr.of ⟨Nat.le_refl 4, rfl⟩ ?_
  show Ex d [] tb_X3_put_ (0, [some (.ref q), some (.int k), some (.long v), none], []) h _
  refine Ex.pure 1 (fr2 := (1, [some (.ref q), some (.int k), some (.long v), none], [.int k])) rfl ?_
  refine Ex.br (x := (14, [some (.ref q), some (.int k), some (.long v), none], [])) (y := (4, [some (.ref q), some (.int k), some (.long v), none], [])) (b := k < 0) rfl (fun hb => ?_) (fun hb => ?_)
  · refine Ex.vret rfl ⟨rfl, ?_⟩
    rw [p_J, if_pos (Or.inl hb)]
  · refine Ex.pure 2 (fr2 := (6, [some (.ref q), some (.int k), some (.long v), none], [.ref q, .int k])) rfl ?_
    refine Ex.alen rfl (Or.inr (Or.inl rfl)) hq ?_
    refine Ex.br (x := (14, [some (.ref q), some (.int k), some (.long v), none], [])) (y := (10, [some (.ref q), some (.int k), some (.long v), none], [])) (b := Int32.ofNat n ≤ k) rfl (fun hc => ?_) (fun hc => ?_)
    · refine Ex.vret rfl ⟨rfl, ?_⟩
      rw [p_J, if_pos (Or.inr ((i_len hn hb).mp hc))]
    · have hj : ¬ (k < 0 ∨ n ≤ k.toNatClampNeg) := fun z => z.elim hb (fun z => hc ((i_len hn hb).mpr z))
      refine Ex.pure 3 (fr2 := (13, [some (.ref q), some (.int k), some (.long v), none], [.long v, .int k, .ref q])) rfl ?_
      refine Ex.last rfl hq hj ?_
      refine Ex.vret rfl ⟨rfl, ?_⟩
      rw [p_J, if_neg hj]
end
section
/-! ===== layer 2: Draft ===== -/
theorem t_X0_count {d : Nat} {h : XH} {q : Nat} {rs : List (Option Nat)} (hq : h.1[q]? = some (0, 0, rs)) : Tr (d + 1) m_X0_count [.ref q] h (fun o h2 => o = .inl (some (.int (h.2.1 q 2))) ∧ h2 = h) := by
  refine Tr.of ⟨Nat.le_refl 1, rfl⟩ ?_
  show Ex d [] tb_X0_count (0, [some (.ref q)], []) h _
  refine Ex.pure 1 (fr2 := (1, [some (.ref q)], [.ref q])) rfl ?_
  refine Ex.getI rfl (Or.inl rfl) hq ?_
  exact Ex.iret rfl (Or.inl rfl) ⟨rfl, rfl⟩
theorem t_X0_timesAt {d : Nat} {h : XH} {q t n : Nat} {k : Int32} {rs us : List (Option Nat)} (hq : h.1[q]? = some (0, 0, rs)) (hr : rs[0]? = some (some t)) (ht : h.1[t]? = some (2, n, us)) (hn : n < 2 ^ 31) : Tr (d + 2) m_X0_timesAt [.ref q, .int k] h (fun o h2 => o = .inl (some (.long (g_J h t n k))) ∧ h2 = h) := by
  refine Tr.of ⟨Nat.le_refl 2, rfl⟩ ?_
  show Ex (d + 1) [] tb_X0_timesAt (0, [some (.ref q), some (.int k)], []) h _
  refine Ex.pure 1 (fr2 := (1, [some (.ref q), some (.int k)], [.ref q])) rfl ?_
  refine Ex.getQ rfl hq hr ?_
  refine Ex.pure 1 (fr2 := (5, [some (.ref q), some (.int k)], [.int k, .ref t])) rfl ?_
  refine Ex.ask (rest := []) (j := m_X3_at_) (as := [.ref t, .int k]) (fun c => rfl) (t_X3_at_ ht hn) ?_
  rintro o h3 ⟨rfl, rfl⟩
  show Ex (d + 1) [] tb_X0_timesAt (8, [some (.ref q), some (.int k)], [.long (g_J h3 t n k)]) h3 _
  exact Ex.lret rfl ⟨rfl, rfl⟩
theorem t_X0_exponentAt {d : Nat} {h : XH} {q t n : Nat} {k : Int32} {rs us : List (Option Nat)} (hq : h.1[q]? = some (0, 0, rs)) (hr : rs[1]? = some (some t)) (ht : h.1[t]? = some (1, n, us)) (hn : n < 2 ^ 31) : Tr (d + 2) m_X0_exponentAt [.ref q, .int k] h (fun o h2 => o = .inl (some (.int (g_I h t n k))) ∧ h2 = h) := by
  refine Tr.of ⟨Nat.le_refl 2, rfl⟩ ?_
  show Ex (d + 1) [] tb_X0_exponentAt (0, [some (.ref q), some (.int k)], []) h _
  refine Ex.pure 1 (fr2 := (1, [some (.ref q), some (.int k)], [.ref q])) rfl ?_
  refine Ex.getQ rfl hq hr ?_
  refine Ex.pure 1 (fr2 := (5, [some (.ref q), some (.int k)], [.int k, .ref t])) rfl ?_
  refine Ex.ask (rest := []) (j := m_X3_at) (as := [.ref t, .int k]) (fun c => rfl) (t_X3_at ht hn) ?_
  rintro o h3 ⟨rfl, rfl⟩
  show Ex (d + 1) [] tb_X0_exponentAt (8, [some (.ref q), some (.int k)], [.int (g_I h3 t n k)]) h3 _
  exact Ex.iret rfl (Or.inl rfl) ⟨rfl, rfl⟩
theorem t_X0_restart {d : Nat} {h : XH} {q : Nat} {rs : List (Option Nat)} (hq : h.1[q]? = some (0, 0, rs)) : Tr (d + 1) m_X0_restart [.ref q] h (fun o h2 => o = .inl none ∧ h2 = x_setI h q 2 0) := by
  refine Tr.of ⟨Nat.le_refl 1, rfl⟩ ?_
  show Ex d [] tb_X0_restart (0, [some (.ref q)], []) h _
  refine Ex.pure 2 (fr2 := (2, [some (.ref q)], [.int 0, .ref q])) rfl ?_
  refine Ex.putI rfl hq ?_
  exact Ex.vret rfl ⟨rfl, rfl⟩
/-- shapes are what they were -/
theorem p_I_sh (h : XH) (q n : Nat) (k v : Int32) : (p_I h q n k v).1 = h.1 := by unfold p_I; split <;> rfl
theorem p_J_sh (h : XH) (q n : Nat) (k : Int32) (v : Int64) : (p_J h q n k v).1 = h.1 := by unfold p_J; split <;> rfl
theorem t_X0_raise {d : Nat} {h : XH} {q t n : Nat} {k : Int32} {v : Int64} {rs us : List (Option Nat)} (hq : h.1[q]? = some (0, 0, rs)) (hr : rs[0]? = some (some t)) (ht : h.1[t]? = some (2, n, us)) (hn : n < 2 ^ 31) : Tr (d + 2) m_X0_raise [.ref q, .int k, .long v] h (fun o h2 => o = .inl none ∧ h2 = p_J h t n k (g_J h t n k + v)) := by
  refine Tr.of ⟨Nat.le_refl 4, rfl⟩ ?_
  show Ex (d + 1) [] tb_X0_raise (0, [some (.ref q), some (.int k), some (.long v), none], []) h _
  refine Ex.pure 1 (fr2 := (1, [some (.ref q), some (.int k), some (.long v), none], [.ref q])) rfl ?_
  refine Ex.getQ rfl hq hr ?_
  refine Ex.pure 2 (fr2 := (6, [some (.ref q), some (.int k), some (.long v), none], [.ref q, .int k, .ref t])) rfl ?_
  refine Ex.getQ rfl hq hr ?_
  refine Ex.pure 1 (fr2 := (10, [some (.ref q), some (.int k), some (.long v), none], [.int k, .ref t, .int k, .ref t])) rfl ?_
  refine Ex.ask (rest := [.int k, .ref t]) (j := m_X3_at_) (as := [.ref t, .int k]) (fun c => rfl) (t_X3_at_ ht hn) ?_
  rintro o h3 ⟨rfl, rfl⟩
  show Ex (d + 1) [] tb_X0_raise (13, [some (.ref q), some (.int k), some (.long v), none], [.long (g_J h3 t n k), .int k, .ref t]) h3 _
  refine Ex.pure 2 (fr2 := (15, [some (.ref q), some (.int k), some (.long v), none], [.long (g_J h3 t n k + v), .int k, .ref t])) rfl ?_
  refine Ex.ask (rest := []) (j := m_X3_put_) (as := [.ref t, .int k, .long (g_J h3 t n k + v)]) (fun c => rfl) (t_X3_put_ ht hn) ?_
  rintro o h4 ⟨rfl, rfl⟩
  exact Ex.vret rfl ⟨rfl, rfl⟩
theorem p_J_I (h : XH) (q n : Nat) (k : Int32) (v : Int64) : (p_J h q n k v).2.1 = h.2.1 := by unfold p_J; split <;> rfl
theorem p_I_J (h : XH) (q n : Nat) (k v : Int32) : (p_I h q n k v).2.2.1 = h.2.2.1 := by unfold p_I; split <;> rfl
theorem p_I_ne {h : XH} {q n r : Nat} {k v : Int32} (hr : r ≠ q) : (p_I h q n k v).2.1 r = h.2.1 r := by
  unfold p_I
  split
  · rfl
  · show (if r = q then _ else h.2.1 r) = _
    rw [if_neg hr]
/-- the heap behind Draft.add -/
def a_Dr (h : XH) (q t u n : Nat) (v : Int64) (e : Int32) : XH := if Int32.ofNat n ≤ h.2.1 q 2 then h else x_setI (p_I (p_J h t n (h.2.1 q 2) v) u n (h.2.1 q 2) e) q 2 (h.2.1 q 2 + 1)
theorem t_X0_add {d : Nat} {h : XH} {q t u n : Nat} {v : Int64} {e : Int32} {rs us vs : List (Option Nat)} (hq : h.1[q]? = some (0, 0, rs)) (hr : rs[0]? = some (some t)) (hr2 : rs[1]? = some (some u)) (ht : h.1[t]? = some (2, n, us)) (hu : h.1[u]? = some (1, n, vs)) (hqu : q ≠ u) (hn : n < 2 ^ 31) : Tr (d + 2) m_X0_add [.ref q, .long v, .int e] h (fun o h2 => o = .inl none ∧ h2 = a_Dr h q t u n v e) := by
  refine Tr.of ⟨Nat.le_refl 4, rfl⟩ ?_
  show Ex (d + 1) [] tb_X0_add (0, [some (.ref q), some (.long v), none, some (.int e)], []) h _
  refine Ex.pure 1 (fr2 := (1, [some (.ref q), some (.long v), none, some (.int e)], [.ref q])) rfl ?_
  refine Ex.getI rfl (Or.inl rfl) hq ?_
  refine Ex.pure 1 (fr2 := (5, [some (.ref q), some (.long v), none, some (.int e)], [.ref q, .int (h.2.1 q 2)])) rfl ?_
  refine Ex.getQ rfl hq hr ?_
  refine Ex.alen rfl (Or.inr (Or.inl rfl)) ht ?_
  refine Ex.br (x := (46, [some (.ref q), some (.long v), none, some (.int e)], [])) (y := (12, [some (.ref q), some (.long v), none, some (.int e)], [])) (b := Int32.ofNat n ≤ h.2.1 q 2) rfl (fun hc => ?_) (fun hc => ?_)
  · refine Ex.vret rfl ⟨rfl, ?_⟩
    rw [a_Dr, if_pos hc]
  · refine Ex.pure 1 (fr2 := (13, [some (.ref q), some (.long v), none, some (.int e)], [.ref q])) rfl ?_
    refine Ex.getQ rfl hq hr ?_
    refine Ex.pure 1 (fr2 := (17, [some (.ref q), some (.long v), none, some (.int e)], [.ref q, .ref t])) rfl ?_
    refine Ex.getI rfl (Or.inl rfl) hq ?_
    refine Ex.pure 1 (fr2 := (21, [some (.ref q), some (.long v), none, some (.int e)], [.long v, .int (h.2.1 q 2), .ref t])) rfl ?_
    refine Ex.ask (rest := []) (j := m_X3_put_) (as := [.ref t, .int (h.2.1 q 2), .long v]) (fun c => rfl) (t_X3_put_ ht hn) ?_
    rintro o h3 ⟨rfl, e3⟩
    have hs3 : h3.1 = h.1 := by rw [e3, p_J_sh]
    have hi3 : h3.2.1 = h.2.1 := by rw [e3, p_J_I]
    rw [← hs3] at hq hu
    show Ex (d + 1) [] tb_X0_add (24, [some (.ref q), some (.long v), none, some (.int e)], []) h3 _
    refine Ex.pure 1 (fr2 := (25, [some (.ref q), some (.long v), none, some (.int e)], [.ref q])) rfl ?_
    refine Ex.getQ rfl hq hr2 ?_
    refine Ex.pure 1 (fr2 := (29, [some (.ref q), some (.long v), none, some (.int e)], [.ref q, .ref u])) rfl ?_
    refine Ex.getI rfl (Or.inl rfl) hq ?_
    rw [hi3]
    refine Ex.pure 1 (fr2 := (33, [some (.ref q), some (.long v), none, some (.int e)], [.int e, .int (h.2.1 q 2), .ref u])) rfl ?_
    refine Ex.ask (rest := []) (j := m_X3_put) (as := [.ref u, .int (h.2.1 q 2), .int e]) (fun c => rfl) (t_X3_put hu hn) ?_
    rintro o h4 ⟨rfl, e4⟩
    have hs4 : h4.1 = h3.1 := by rw [e4, p_I_sh]
    have hi4 : h4.2.1 q = h.2.1 q := by rw [e4, p_I_ne hqu, hi3]
    rw [← hs4] at hq
    show Ex (d + 1) [] tb_X0_add (36, [some (.ref q), some (.long v), none, some (.int e)], []) h4 _
    refine Ex.pure 2 (fr2 := (38, [some (.ref q), some (.long v), none, some (.int e)], [.ref q, .ref q])) rfl ?_
    refine Ex.getI rfl (Or.inl rfl) hq ?_
    rw [hi4]
    refine Ex.pure 2 (fr2 := (43, [some (.ref q), some (.long v), none, some (.int e)], [.int (h.2.1 q 2 + 1), .ref q])) rfl ?_
    refine Ex.putI rfl hq ?_
    refine Ex.vret rfl ⟨rfl, ?_⟩
    rw [a_Dr, if_neg hc, ← e3, ← e4]
end
section
/-! ===== layer 2: Ordinals, its readers ===== -/
theorem t_X2_powersOf {d : Nat} {h : XH} {q s n : Nat} {a : Int32} {rs us : List (Option Nat)} (hq : h.1[q]? = some (0, 2, rs)) (hr : rs[0]? = some (some s)) (hs : h.1[s]? = some (1, n, us)) (hn : n < 2 ^ 31) : Tr (d + 2) m_X2_powersOf [.ref q, .int a] h (fun o h2 => o = .inl (some (.int (g_I h s n (a + 1) - g_I h s n a))) ∧ h2 = h) := by
  refine Tr.of ⟨Nat.le_refl 2, rfl⟩ ?_
  show Ex (d + 1) [] tb_X2_powersOf (0, [some (.ref q), some (.int a)], []) h _
  refine Ex.pure 1 (fr2 := (1, [some (.ref q), some (.int a)], [.ref q])) rfl ?_
  refine Ex.getQ rfl hq hr ?_
  refine Ex.pure 3 (fr2 := (7, [some (.ref q), some (.int a)], [.int (a + 1), .ref s])) rfl ?_
  refine Ex.ask (rest := []) (j := m_X3_at) (as := [.ref s, .int (a + 1)]) (fun c => rfl) (t_X3_at hs hn) ?_
  rintro o h3 ⟨rfl, rfl⟩
  show Ex (d + 1) [] tb_X2_powersOf (10, [some (.ref q), some (.int a)], [.int (g_I h3 s n (a + 1))]) h3 _
  refine Ex.pure 1 (fr2 := (11, [some (.ref q), some (.int a)], [.ref q, .int (g_I h3 s n (a + 1))])) rfl ?_
  refine Ex.getQ rfl hq hr ?_
  refine Ex.pure 1 (fr2 := (15, [some (.ref q), some (.int a)], [.int a, .ref s, .int (g_I h3 s n (a + 1))])) rfl ?_
  refine Ex.ask (rest := [.int (g_I h3 s n (a + 1))]) (j := m_X3_at) (as := [.ref s, .int a]) (fun c => rfl) (t_X3_at hs hn) ?_
  rintro o h4 ⟨rfl, rfl⟩
  show Ex (d + 1) [] tb_X2_powersOf (18, [some (.ref q), some (.int a)], [.int (g_I h4 s n a), .int (g_I h4 s n (a + 1))]) h4 _
  refine Ex.pure 1 (fr2 := (19, [some (.ref q), some (.int a)], [.int (g_I h4 s n (a + 1) - g_I h4 s n a)])) rfl ?_
  exact Ex.iret rfl (Or.inl rfl) ⟨rfl, rfl⟩
theorem t_X2_timesOf {d : Nat} {h : XH} {q s t n m : Nat} {a k : Int32} {rs us vs : List (Option Nat)} (hq : h.1[q]? = some (0, 2, rs)) (hr : rs[0]? = some (some s)) (hr2 : rs[2]? = some (some t)) (hs : h.1[s]? = some (1, n, us)) (hn : n < 2 ^ 31) (ht : h.1[t]? = some (1, m, vs)) (hm : m < 2 ^ 31) : Tr (d + 2) m_X2_timesOf [.ref q, .int a, .int k] h (fun o h2 => o = .inl (some (.int (g_I h t m (g_I h s n a + k)))) ∧ h2 = h) := by
  refine Tr.of ⟨Nat.le_refl 3, rfl⟩ ?_
  show Ex (d + 1) [] tb_X2_timesOf (0, [some (.ref q), some (.int a), some (.int k)], []) h _
  refine Ex.pure 1 (fr2 := (1, [some (.ref q), some (.int a), some (.int k)], [.ref q])) rfl ?_
  refine Ex.getQ rfl hq hr2 ?_
  refine Ex.pure 1 (fr2 := (5, [some (.ref q), some (.int a), some (.int k)], [.ref q, .ref t])) rfl ?_
  refine Ex.getQ rfl hq hr ?_
  refine Ex.pure 1 (fr2 := (9, [some (.ref q), some (.int a), some (.int k)], [.int a, .ref s, .ref t])) rfl ?_
  refine Ex.ask (rest := [.ref t]) (j := m_X3_at) (as := [.ref s, .int a]) (fun c => rfl) (t_X3_at hs hn) ?_
  rintro o h3 ⟨rfl, rfl⟩
  show Ex (d + 1) [] tb_X2_timesOf (12, [some (.ref q), some (.int a), some (.int k)], [.int (g_I h3 s n a), .ref t]) h3 _
  refine Ex.pure 2 (fr2 := (14, [some (.ref q), some (.int a), some (.int k)], [.int (g_I h3 s n a + k), .ref t])) rfl ?_
  refine Ex.ask (rest := []) (j := m_X3_at) (as := [.ref t, .int (g_I h3 s n a + k)]) (fun c => rfl) (t_X3_at ht hm) ?_
  rintro o h4 ⟨rfl, rfl⟩
  show Ex (d + 1) [] tb_X2_timesOf (17, [some (.ref q), some (.int a), some (.int k)], [.int (g_I h4 t m (g_I h4 s n a + k))]) h4 _
  exact Ex.iret rfl (Or.inl rfl) ⟨rfl, rfl⟩
theorem t_X2_exponentOf {d : Nat} {h : XH} {q s t n m : Nat} {a k : Int32} {rs us vs : List (Option Nat)} (hq : h.1[q]? = some (0, 2, rs)) (hr : rs[0]? = some (some s)) (hr2 : rs[3]? = some (some t)) (hs : h.1[s]? = some (1, n, us)) (hn : n < 2 ^ 31) (ht : h.1[t]? = some (1, m, vs)) (hm : m < 2 ^ 31) : Tr (d + 2) m_X2_exponentOf [.ref q, .int a, .int k] h (fun o h2 => o = .inl (some (.int (g_I h t m (g_I h s n a + k)))) ∧ h2 = h) := by
  refine Tr.of ⟨Nat.le_refl 3, rfl⟩ ?_
  show Ex (d + 1) [] tb_X2_exponentOf (0, [some (.ref q), some (.int a), some (.int k)], []) h _
  refine Ex.pure 1 (fr2 := (1, [some (.ref q), some (.int a), some (.int k)], [.ref q])) rfl ?_
  refine Ex.getQ rfl hq hr2 ?_
  refine Ex.pure 1 (fr2 := (5, [some (.ref q), some (.int a), some (.int k)], [.ref q, .ref t])) rfl ?_
  refine Ex.getQ rfl hq hr ?_
  refine Ex.pure 1 (fr2 := (9, [some (.ref q), some (.int a), some (.int k)], [.int a, .ref s, .ref t])) rfl ?_
  refine Ex.ask (rest := [.ref t]) (j := m_X3_at) (as := [.ref s, .int a]) (fun c => rfl) (t_X3_at hs hn) ?_
  rintro o h3 ⟨rfl, rfl⟩
  show Ex (d + 1) [] tb_X2_exponentOf (12, [some (.ref q), some (.int a), some (.int k)], [.int (g_I h3 s n a), .ref t]) h3 _
  refine Ex.pure 2 (fr2 := (14, [some (.ref q), some (.int a), some (.int k)], [.int (g_I h3 s n a + k), .ref t])) rfl ?_
  refine Ex.ask (rest := []) (j := m_X3_at) (as := [.ref t, .int (g_I h3 s n a + k)]) (fun c => rfl) (t_X3_at ht hm) ?_
  rintro o h4 ⟨rfl, rfl⟩
  show Ex (d + 1) [] tb_X2_exponentOf (17, [some (.ref q), some (.int a), some (.int k)], [.int (g_I h4 t m (g_I h4 s n a + k))]) h4 _
  exact Ex.iret rfl (Or.inl rfl) ⟨rfl, rfl⟩
theorem t_X2_keep {d : Nat} {h : XH} {q : Nat} {rs : List (Option Nat)} (hq : h.1[q]? = some (0, 2, rs)) : Tr (d + 1) m_X2_keep [.ref q] h (fun o h2 => o = .inl none ∧ h2 = x_setI h q 5 (h.2.1 q 4)) := by
  refine Tr.of ⟨Nat.le_refl 1, rfl⟩ ?_
  show Ex d [] tb_X2_keep (0, [some (.ref q)], []) h _
  refine Ex.pure 2 (fr2 := (2, [some (.ref q)], [.ref q, .ref q])) rfl ?_
  refine Ex.getI rfl (Or.inl rfl) hq ?_
  refine Ex.putI rfl hq ?_
  exact Ex.vret rfl ⟨rfl, rfl⟩
theorem t_X2_forget {d : Nat} {h : XH} {q : Nat} {rs : List (Option Nat)} (hq : h.1[q]? = some (0, 2, rs)) : Tr (d + 1) m_X2_forget [.ref q] h (fun o h2 => o = .inl none ∧ h2 = x_setI h q 4 (h.2.1 q 5)) := by
  refine Tr.of ⟨Nat.le_refl 1, rfl⟩ ?_
  show Ex d [] tb_X2_forget (0, [some (.ref q)], []) h _
  refine Ex.pure 2 (fr2 := (2, [some (.ref q)], [.ref q, .ref q])) rfl ?_
  refine Ex.getI rfl (Or.inl rfl) hq ?_
  refine Ex.putI rfl hq ?_
  exact Ex.vret rfl ⟨rfl, rfl⟩
end
section
/-! ===== layer 2: the machine's own calls, and copyOf ===== -/
theorem Ex.acopy {d : Nat} {hs : XHs} {tb : List (Option XI)} {pc : Nat} {L : XL} {st : List Value} {h : XH} {P : XO → XH → Prop} {a q q0 n0 n1 i : Nat} {v n : Int32} {w : Int64} {rs us : List (Option Nat)} (ht : tb[pc]? = some (some (.invokestatic i, a, 5, 6, v, w))) (h0 : h.1[q0]? = some (1, n0, rs)) (h1 : h.1[q]? = some (1, n1, us)) (hn : ¬ n < 0) (hn0 : n.toNatClampNeg ≤ n0) (hn1 : n.toNatClampNeg ≤ n1) (hne : q0 ≠ q) (hst : x_cats st ≤ 8) (H : Ex d hs tb (pc + 3, L, st) (x_copy h q0 q n.toNatClampNeg) P) : Ex d hs tb (pc, L, .int n :: .int 0 :: .ref q :: .int 0 :: .ref q0 :: st) h P := by
  refine Ex.hp ht rfl (r := some (.inl ((pc + 3, L, st), x_copy h q0 q n.toNatClampNeg))) (fun c2 => ?_) H
  show xinvS c2 hs pc a 5 6 L (.int n :: .int 0 :: .ref q :: .int 0 :: .ref q0 :: st) h = _
  unfold xinvS
  rw [if_pos ⟨by simp, hst⟩]
  dsimp only
  rw [h0, h1]
  show (if n < 0 ∨ ¬ (0 : Int32) = 0 ∨ ¬ (0 : Int32) = 0 ∨ n0 < n.toNatClampNeg ∨ n1 < n.toNatClampNeg ∨ q0 = q then (none : Option XR) else _) = _
  rw [if_neg]
  · rfl
  · rintro (z | z | z | z | z | z)
    · exact hn z
    · exact z rfl
    · exact z rfl
    · omega
    · omega
    · exact hne z
theorem sh_new {h : XH} {t u : XT} {q z : Nat} (hq : h.1[q]? = some t) : (x_new h u z).1[q]? = some t := by
  show (h.1 ++ [u])[q]? = some t
  rw [List.getElem?_append_left (List.getElem?_eq_some_iff.mp hq).1]
  exact hq
theorem sh_last (h : XH) (u : XT) (z : Nat) : (x_new h u z).1[h.1.length]? = some u := by
  show (h.1 ++ [u])[h.1.length]? = some u
  rw [List.getElem?_append_right (Nat.le_refl _), Nat.sub_self]
  rfl
theorem i_nat {n : Nat} (hn : n < 2 ^ 31) : (Int32.ofNat n).toNatClampNeg = n ∧ ¬ Int32.ofNat n < 0 := by
  have h1 : (Int32.ofNat n).toInt = n := Int32.toInt_ofNat_of_lt hn
  constructor
  · show (Int32.ofNat n).toInt.toNat = n
    rw [h1]
    rfl
  · rw [Int32.lt_iff_toInt_lt, h1]
    have h0 : (0 : Int32).toInt = 0 := rfl
    rw [h0]
    omega
theorem t_J7_copyOf_59c91 {d : Nat} {h : XH} {q n : Nat} {us : List (Option Nat)} {k : Int32} (hq : h.1[q]? = some (1, n, us)) (hn : n < 2 ^ 31) (hk : ¬ k < 0) (hk2 : k.toNatClampNeg ≤ 67108864) (hk3 : n < k.toNatClampNeg) : Tr (d + 1) m_J7_copyOf_59c91 [.ref q, .int k] h (fun o h2 => o = .inl (some (.ref h.1.length)) ∧ h2 = x_copy (x_new h (1, k.toNatClampNeg, []) k.toNatClampNeg) q h.1.length n) := by
  have hlt : ¬ k < Int32.ofNat n := by
    rw [Int32.lt_iff_toInt_lt, Int32.toInt_ofNat_of_lt hn]
    have h1 : k.toNatClampNeg = k.toInt.toNat := rfl
    rw [h1] at hk3
    omega
  have hne : ¬ k = Int32.ofNat n := by
    intro z
    rw [z, (i_nat hn).1] at hk3
    omega
  have hql : q < h.1.length := (List.getElem?_eq_some_iff.mp hq).1
  refine Tr.of ⟨by show 2 ≤ 3; omega, rfl⟩ ?_
  show Ex d [] tb_J7_copyOf_59c91 (0, [some (.ref q), some (.int k), none], []) h _
  refine Ex.pure 2 (fr2 := (2, [some (.ref q), some (.int k), none], [.ref q, .int k])) rfl ?_
  refine Ex.alen rfl (Or.inl rfl) hq ?_
  refine Ex.br (x := (14, [some (.ref q), some (.int k), none], [])) (y := (6, [some (.ref q), some (.int k), none], [])) (b := ¬ k = (Int32.ofNat n)) rfl (fun hb => ?_) (fun hb => absurd hne hb)
  refine Ex.pure 1 (fr2 := (15, [some (.ref q), some (.int k), none], [.int k])) rfl ?_
  refine Ex.newA rfl (fun z => z.elim hk (by omega)) ?_
  refine Ex.pure 6 (fr2 := (23, [some (.ref q), some (.int k), some (.ref h.1.length)], [.ref q, .int 0, .ref h.1.length, .int 0, .ref q])) rfl ?_
  refine Ex.alen rfl (Or.inl rfl) (sh_new hq) ?_
  refine Ex.pure 1 (fr2 := (25, [some (.ref q), some (.int k), some (.ref h.1.length)], [.int k, .int (Int32.ofNat n), .int 0, .ref h.1.length, .int 0, .ref q])) rfl ?_
  refine Ex.st (r := some (.inl ((28, [some (.ref q), some (.int k), some (.ref h.1.length)], [.int (if k < Int32.ofNat n then k else Int32.ofNat n), .int 0, .ref h.1.length, .int 0, .ref q]), x_new h (1, k.toNatClampNeg, []) k.toNatClampNeg))) (fun c => rfl) ?_
  show Ex d [] tb_J7_copyOf_59c91 _ _ _
  rw [if_neg hlt]
  refine Ex.acopy rfl (sh_new hq) (sh_last h _ _) (i_nat hn).2 (by rw [(i_nat hn).1]; exact Nat.le_refl _) (by rw [(i_nat hn).1]; omega) (by omega) (by decide) ?_
  rw [(i_nat hn).1]
  refine Ex.pure 1 (fr2 := (32, [some (.ref q), some (.int k), some (.ref h.1.length)], [.ref h.1.length])) rfl ?_
  exact Ex.aret rfl ⟨rfl, rfl⟩
theorem i_two {k : Int32} (h0 : 0 ≤ k.toInt) (h1 : k.toInt ≤ 1048576) : (2 * k).toInt = 2 * k.toInt := by
  rw [Int32.toInt_mul]
  show Int.bmod (2 * k.toInt) (2 ^ 32) = _
  rw [Int.bmod_eq_of_le] <;> omega
theorem t_X3_withRoom {d : Nat} {h : XH} {q n : Nat} {us : List (Option Nat)} {k : Int32} (hq : h.1[q]? = some (1, n, us)) (hn : n < 2 ^ 31) : Tr (d + 2) m_X3_withRoom [.ref q, .int k] h (fun o h2 => if k ≤ Int32.ofNat n ∨ ¬ k ≤ 1048576 then o = .inl (some (.ref q)) ∧ h2 = h else o = .inl (some (.ref h.1.length)) ∧ h2 = x_copy (x_new h (1, 2 * k.toNatClampNeg, []) (2 * k.toNatClampNeg)) q h.1.length n) := by
  refine Tr.of ⟨by show 2 ≤ 2; omega, rfl⟩ ?_
  show Ex (d + 1) [] tb_X3_withRoom (0, [some (.ref q), some (.int k)], []) h _
  refine Ex.pure 2 (fr2 := (2, [some (.ref q), some (.int k)], [.ref q, .int k])) rfl ?_
  refine Ex.alen rfl (Or.inl rfl) hq ?_
  refine Ex.br (x := (12, [some (.ref q), some (.int k)], [])) (y := (6, [some (.ref q), some (.int k)], [])) (b := k ≤ (Int32.ofNat n)) rfl (fun hb => ?_) (fun hb => ?_)
  · refine Ex.pure 2 (fr2 := (23, [some (.ref q), some (.int k)], [.ref q])) rfl ?_
    refine Ex.aret rfl ?_
    rw [if_pos (Or.inl hb)]
    exact ⟨rfl, rfl⟩
  · refine Ex.pure 2 (fr2 := (9, [some (.ref q), some (.int k)], [.int 1048576, .int k])) rfl ?_
    refine Ex.br (x := (16, [some (.ref q), some (.int k)], [])) (y := (12, [some (.ref q), some (.int k)], [])) (b := k ≤ 1048576) rfl (fun hc => ?_) (fun hc => ?_)
    · have h5 : n < k.toInt := by
        rw [Int32.le_iff_toInt_le, Int32.toInt_ofNat_of_lt hn] at hb
        omega
      have h6 : k.toInt ≤ 1048576 := by
        rw [Int32.le_iff_toInt_le] at hc
        exact hc
      have h7 := i_two (k := k) (by omega) h6
      have h8 : (2 * k).toNatClampNeg = 2 * k.toNatClampNeg := by
        show (2 * k).toInt.toNat = 2 * k.toInt.toNat
        rw [h7]
        omega
      have h9 : k.toNatClampNeg = k.toInt.toNat := rfl
      have h10 : ¬ 2 * k < 0 := by
        rw [Int32.lt_iff_toInt_lt, h7]
        have h0 : (0 : Int32).toInt = 0 := rfl
        rw [h0]
        omega
      refine Ex.pure 4 (fr2 := (20, [some (.ref q), some (.int k)], [.int (2 * k), .ref q])) rfl ?_
      refine Ex.ask (rest := []) (j := m_J7_copyOf_59c91) (as := [.ref q, .int (2 * k)]) (fun c => rfl) (t_J7_copyOf_59c91 hq hn h10 (by omega) (by omega)) ?_
      rintro o h3 ⟨rfl, e3⟩
      show Ex (d + 1) [] tb_X3_withRoom (23, [some (.ref q), some (.int k)], [.ref h.1.length]) h3 _
      refine Ex.aret rfl ?_
      rw [if_neg (fun z => z.elim hb (fun z => z hc))]
      rw [h8] at e3
      exact ⟨rfl, e3⟩
    · refine Ex.pure 2 (fr2 := (23, [some (.ref q), some (.int k)], [.ref q])) rfl ?_
      refine Ex.aret rfl ?_
      rw [if_pos (Or.inr hc)]
      exact ⟨rfl, rfl⟩
end
section
/-! ===== layer 2: Growth, its readers ===== -/
theorem t_X1_count {d : Nat} {h : XH} {q : Nat} {rs : List (Option Nat)} (hq : h.1[q]? = some (0, 1, rs)) : Tr (d + 1) m_X1_count [.ref q] h (fun o h2 => o = .inl (some (.int (h.2.1 q 2))) ∧ h2 = h) := by
  refine Tr.of ⟨by show 1 ≤ 1; omega, rfl⟩ ?_
  show Ex d [] tb_X1_count (0, [some (.ref q)], []) h _
  refine Ex.pure 1 (fr2 := (1, [some (.ref q)], [.ref q])) rfl ?_
  refine Ex.getI rfl (Or.inl rfl) hq ?_
  exact Ex.iret rfl (Or.inl rfl) ⟨rfl, rfl⟩
theorem t_X1_timesAt {d : Nat} {h : XH} {q t n : Nat} {k : Int32} {rs us : List (Option Nat)} (hq : h.1[q]? = some (0, 1, rs)) (hr : rs[0]? = some (some t)) (ht : h.1[t]? = some (2, n, us)) (hn : n < 2 ^ 31) : Tr (d + 2) m_X1_timesAt [.ref q, .int k] h (fun o h2 => o = .inl (some (.long (g_J h t n k))) ∧ h2 = h) := by
  refine Tr.of ⟨by show 2 ≤ 2; omega, rfl⟩ ?_
  show Ex (d + 1) [] tb_X1_timesAt (0, [some (.ref q), some (.int k)], []) h _
  refine Ex.pure 1 (fr2 := (1, [some (.ref q), some (.int k)], [.ref q])) rfl ?_
  refine Ex.getQ rfl hq hr ?_
  refine Ex.pure 1 (fr2 := (5, [some (.ref q), some (.int k)], [.int k, .ref t])) rfl ?_
  refine Ex.ask (rest := []) (j := m_X3_at_) (as := [.ref t, .int k]) (fun c => rfl) (t_X3_at_ ht hn) ?_
  rintro o h3 ⟨rfl, rfl⟩
  show Ex (d + 1) [] tb_X1_timesAt (8, [some (.ref q), some (.int k)], [.long (g_J h3 t n k)]) h3 _
  exact Ex.lret rfl ⟨rfl, rfl⟩
theorem t_X1_keyAt {d : Nat} {h : XH} {q t n : Nat} {k : Int32} {rs us : List (Option Nat)} (hq : h.1[q]? = some (0, 1, rs)) (hr : rs[1]? = some (some t)) (ht : h.1[t]? = some (2, n, us)) (hn : n < 2 ^ 31) : Tr (d + 2) m_X1_keyAt [.ref q, .int k] h (fun o h2 => o = .inl (some (.long (g_J h t n k))) ∧ h2 = h) := by
  refine Tr.of ⟨by show 2 ≤ 2; omega, rfl⟩ ?_
  show Ex (d + 1) [] tb_X1_keyAt (0, [some (.ref q), some (.int k)], []) h _
  refine Ex.pure 1 (fr2 := (1, [some (.ref q), some (.int k)], [.ref q])) rfl ?_
  refine Ex.getQ rfl hq hr ?_
  refine Ex.pure 1 (fr2 := (5, [some (.ref q), some (.int k)], [.int k, .ref t])) rfl ?_
  refine Ex.ask (rest := []) (j := m_X3_at_) (as := [.ref t, .int k]) (fun c => rfl) (t_X3_at_ ht hn) ?_
  rintro o h3 ⟨rfl, rfl⟩
  show Ex (d + 1) [] tb_X1_keyAt (8, [some (.ref q), some (.int k)], [.long (g_J h3 t n k)]) h3 _
  exact Ex.lret rfl ⟨rfl, rfl⟩
theorem t_X1_restart {d : Nat} {h : XH} {q : Nat} {rs : List (Option Nat)} (hq : h.1[q]? = some (0, 1, rs)) : Tr (d + 1) m_X1_restart [.ref q] h (fun o h2 => o = .inl none ∧ h2 = x_setI h q 2 0) := by
  refine Tr.of ⟨by show 1 ≤ 1; omega, rfl⟩ ?_
  show Ex d [] tb_X1_restart (0, [some (.ref q)], []) h _
  refine Ex.pure 2 (fr2 := (2, [some (.ref q)], [.int 0, .ref q])) rfl ?_
  refine Ex.putI rfl hq ?_
  exact Ex.vret rfl ⟨rfl, rfl⟩
end
section
/-! ===== layer 2: calls by continuation, the shapes of the run's cells ===== -/
abbrev XK : Type := Option Value → XH → Prop
abbrev XE : Type := Nat → XH → Prop
/-- what is owed at a method's end: K of what is returned, E of what is thrown -/
def Po (K : XK) (E : XE) (o : XO) (h : XH) : Prop := match o with
  | .inl v => K v h
  | .inr e => E e h
/-- the call ends, and so that K or E -/
def Ca (d j : Nat) (as : List Value) (h : XH) (K : XK) (E : XE) : Prop := Tr d j as h (Po K E)
theorem Ca.imp {d j : Nat} {as : List Value} {h : XH} {K K2 : XK} {E : XE} (H : Ca d j as h K E) (hk : ∀ v h2, K v h2 → K2 v h2) : Ca d j as h K2 E :=
  Tr.mono H (Nat.le_refl _) (fun o h2 z => by
    cases o with
    | inl v => exact hk _ _ z
    | inr e => exact z)
theorem Ca.of {d j : Nat} {as : List Value} {h : XH} {K : XK} {E : XE} (h1 : (x_args as).length ≤ xml j ∧ x_nod as = true) (H : Ex d (xhs j) (xtb j) (0, x_entry as (xml j), []) h (Po K E)) : Ca (d + 1) j as h K E := Tr.of h1 H
/-- out of a row that says what is returned and the heap behind it -/
theorem Ca.tr {d e j : Nat} {as : List Value} {h h3 : XH} {v : Option Value} {K : XK} {E : XE} (T : Tr d j as h (fun o h2 => o = .inl v ∧ h2 = h3)) (hd : d ≤ e) (H : K v h3) : Ca e j as h K E :=
  Tr.mono T hd (fun o h2 z => by
    obtain ⟨rfl, rfl⟩ := z
    exact H)
theorem Ex.cal {d : Nat} {tb : List (Option XI)} {pc : Nat} {L : XL} {st rest : List Value} {h : XH} {K : XK} {E : XE} {j : Nat} {as : List Value} (h1 : ∀ c, xstp c [] tb (pc, L, st) h = x_back [] pc L rest (c j as h)) (H : Ca d j as h (fun v h3 => Ex d [] tb (pc + 3, L, v.toList ++ rest) h3 (Po K E)) E) : Ex d [] tb (pc, L, st) h (Po K E) :=
  Ex.ask h1 H (fun o h3 hq => by
    cases o with
    | inl v => exact hq
    | inr e => exact hq)
theorem Ex.ldiv {d : Nat} {hs : XHs} {tb : List (Option XI)} {pc : Nat} {L : XL} {st : List Value} {h : XH} {P : XO → XH → Prop} {a b c : Nat} {v : Int32} {w x y : Int64} (ht : tb[pc]? = some (some (.ldiv, a, b, c, v, w))) (hy : ¬ y = 0) (H : Ex d hs tb (pc + 1, L, .long (x / y) :: st) h P) : Ex d hs tb (pc, L, .long y :: .long x :: st) h P := by
  refine Ex.st (r := some (.inl ((pc + 1, L, .long (x / y) :: st), h))) (fun c2 => ?_) H
  unfold xstp
  rw [ht]
  dsimp only [xpure]
  rw [if_neg hy]
theorem Ex.lrem {d : Nat} {hs : XHs} {tb : List (Option XI)} {pc : Nat} {L : XL} {st : List Value} {h : XH} {P : XO → XH → Prop} {a b c : Nat} {v : Int32} {w x y : Int64} (ht : tb[pc]? = some (some (.lrem, a, b, c, v, w))) (hy : ¬ y = 0) (H : Ex d hs tb (pc + 1, L, .long (x - x / y * y) :: st) h P) : Ex d hs tb (pc, L, .long y :: .long x :: st) h P := by
  refine Ex.st (r := some (.inl ((pc + 1, L, .long (x - x / y * y) :: st), h))) (fun c2 => ?_) H
  unfold xstp
  rw [ht]
  dsimp only [xpure]
  rw [if_neg hy]
theorem j_nlt {a b : Int64} : ¬ a < b ↔ b ≤ a := by
  rw [Int64.lt_iff_toInt_lt, Int64.le_iff_toInt_le]
  omega
theorem j_nle {a b : Int64} : ¬ a ≤ b ↔ b < a := by
  rw [Int64.lt_iff_toInt_lt, Int64.le_iff_toInt_le]
  omega
theorem i_nlt {a b : Int32} : ¬ a < b ↔ b ≤ a := by
  rw [Int32.lt_iff_toInt_lt, Int32.le_iff_toInt_le]
  omega
theorem i_nle {a b : Int32} : ¬ a ≤ b ↔ b < a := by
  rw [Int32.lt_iff_toInt_lt, Int32.le_iff_toInt_le]
  omega
/-- an index in range -/
abbrev Ix (j : Int32) (n : Nat) : Prop := ¬ (j < 0 ∨ n ≤ j.toNatClampNeg)
abbrev ix (j : Int32) : Nat := j.toNatClampNeg
def bi (p : Prop) [Decidable p] : Int32 := if p then 1 else 0
theorem bi_01 (p : Prop) [Decidable p] : bi p = 0 ∨ bi p = 1 := by
  unfold bi
  split
  · exact Or.inr rfl
  · exact Or.inl rfl
theorem bi_ne {p : Prop} [Decidable p] : ¬ bi p = 0 ↔ p := by
  unfold bi
  split
  · exact ⟨fun _ => ‹p›, fun _ => by decide⟩
  · exact ⟨fun z => absurd rfl z, fun z => absurd z ‹¬ p›⟩
theorem bi_eq {p : Prop} [Decidable p] : bi p = 0 ↔ ¬ p := by
  unfold bi
  split
  · exact ⟨fun z => absurd z (by decide), fun z => absurd ‹p› z⟩
  · exact ⟨fun _ => ‹¬ p›, fun _ => rfl⟩
theorem bi_nne {p : Prop} [Decidable p] : ¬ ¬ bi p = 0 ↔ ¬ p := by
  rw [Classical.not_not]
  exact bi_eq
theorem bi_neq {p : Prop} [Decidable p] : ¬ bi p = 0 ↔ p := bi_ne
def mxI (x y : Int32) : Int32 := if x < y then y else x
def mnI (x y : Int32) : Int32 := if y < x then y else x
def mxJ (x y : Int64) : Int64 := if y < x then x else y
def mnJ (x y : Int64) : Int64 := if y < x then y else x
/-- Integer.compare, Long.compare -/
def c_I (x y : Int32) : Int32 := if x < y then (-1) else if x = y then 0 else 1
def c_J (x y : Int64) : Int32 := if x < y then (-1) else if x = y then 0 else 1
theorem bi_t {p : Prop} [Decidable p] (h : p) : bi p = 1 := if_pos h
theorem bi_f {p : Prop} [Decidable p] (h : ¬ p) : bi p = 0 := if_neg h
theorem Tr.ca {d j : Nat} {as : List Value} {h h3 : XH} {v : Option Value} (H : Ca d j as h (fun v2 h2 => v2 = v ∧ h2 = h3) (fun _ _ => False)) : Tr d j as h (fun o h2 => o = .inl v ∧ h2 = h3) :=
  Tr.mono H (Nat.le_refl _) (fun o h2 z => by
    cases o with
    | inl v => exact ⟨congrArg _ z.1, z.2⟩
    | inr e => exact False.elim z)
/-- units and figures of the model's powers; the class's keys -/
def unt (a : Int32) : Int64 := if a = 1 then 64481201 else if a = 2 then 160801 else if a = 3 then 401 else 1
def lvl : Int64 := 200 * ((((unt 1) + (unt 2)) + (unt 3)) + (unt 4))
def xpn4 (p : Int64) (a : Int32) : Int64 := p / unt a - p / unt a / 401 * 401 - 200
def keyv (a b c e : Int32) : Int64 := (((550293209600 + (a.toInt64 <<< ((30 : Int32).toInt64 &&& 63))) + (b.toInt64 <<< ((20 : Int32).toInt64 &&& 63))) + (c.toInt64 <<< ((10 : Int32).toInt64 &&& 63))) + e.toInt64
def xpin (a : Int64) (b : Int32) : Int32 := (((a >>> ((10 * (4 - b)).toInt64 &&& 63)) &&& 1023) - 512).toInt32
/-- the class's readers of its ordinals -/
def pw (h : XH) (y : Nat → Nat) (a : Int32) : Int32 := g_I h (y 0) (y 4) (a + 1) - g_I h (y 0) (y 4) a
def tm (h : XH) (y : Nat → Nat) (a k : Int32) : Int32 := g_I h (y 2) (y 6) (g_I h (y 0) (y 4) a + k)
def xp (h : XH) (y : Nat → Nat) (a k : Int32) : Int32 := g_I h (y 3) (y 7) (g_I h (y 0) (y 4) a + k)
/-- a place, as the model asks for it -/
abbrev isp (p : Int32) : Prop := (0 : Int64) ≤ p.toInt64 ∧ p.toInt64 ≤ 15
/-- a Draft at q, its rows behind it; a Growth likewise, of n parts at most -/
def Dq (T : List XT) (q : Nat) : Prop := T[q]? = some (0, 0, [some (q + 1), some (q + 2), none]) ∧ T[q + 1]? = some (2, 64, []) ∧ T[q + 2]? = some (1, 64, [])
def Gq (T : List XT) (q n : Nat) : Prop := T[q]? = some (0, 1, [some (q + 1), some (q + 2), none]) ∧ T[q + 1]? = some (2, n, []) ∧ T[q + 2]? = some (2, n, [])
/-- the shapes that never change -/
def shp : Nat → Option XT
  | 1 => some (0, 5, [some 2, some 3, some 4, some 5, some 6, some 18, some 19])
  | 2 => some (1, 16, [])
  | 3 => some (1, 16, [])
  | 4 => some (2, 16, [])
  | 5 => some (3, 16, [some 29, some 32, some 35, some 38, some 41, some 44, some 47, some 50, some 53, some 56, some 59, some 62, some 65, some 68, some 71, some 74])
  | 11 => some (0, 0, [some 12, some 13, none])
  | 12 => some (2, 64, [])
  | 13 => some (1, 64, [])
  | 14 => some (0, 0, [some 15, some 16, none])
  | 15 => some (2, 64, [])
  | 16 => some (1, 64, [])
  | 17 => some (1, 8, [])
  | 18 => some (0, 4, [none, none, none, none])
  | 20 => some (0, 1, [some 21, some 22, none])
  | 21 => some (2, 400, [])
  | 22 => some (2, 400, [])
  | 23 => some (0, 1, [some 24, some 25, none])
  | 24 => some (2, 400, [])
  | 25 => some (2, 400, [])
  | 26 => some (0, 1, [some 27, some 28, none])
  | 27 => some (2, 20, [])
  | 28 => some (2, 20, [])
  | 29 => some (0, 1, [some 30, some 31, none])
  | 30 => some (2, 20, [])
  | 31 => some (2, 20, [])
  | 32 => some (0, 1, [some 33, some 34, none])
  | 33 => some (2, 20, [])
  | 34 => some (2, 20, [])
  | 35 => some (0, 1, [some 36, some 37, none])
  | 36 => some (2, 20, [])
  | 37 => some (2, 20, [])
  | 38 => some (0, 1, [some 39, some 40, none])
  | 39 => some (2, 20, [])
  | 40 => some (2, 20, [])
  | 41 => some (0, 1, [some 42, some 43, none])
  | 42 => some (2, 20, [])
  | 43 => some (2, 20, [])
  | 44 => some (0, 1, [some 45, some 46, none])
  | 45 => some (2, 20, [])
  | 46 => some (2, 20, [])
  | 47 => some (0, 1, [some 48, some 49, none])
  | 48 => some (2, 20, [])
  | 49 => some (2, 20, [])
  | 50 => some (0, 1, [some 51, some 52, none])
  | 51 => some (2, 20, [])
  | 52 => some (2, 20, [])
  | 53 => some (0, 1, [some 54, some 55, none])
  | 54 => some (2, 20, [])
  | 55 => some (2, 20, [])
  | 56 => some (0, 1, [some 57, some 58, none])
  | 57 => some (2, 20, [])
  | 58 => some (2, 20, [])
  | 59 => some (0, 1, [some 60, some 61, none])
  | 60 => some (2, 20, [])
  | 61 => some (2, 20, [])
  | 62 => some (0, 1, [some 63, some 64, none])
  | 63 => some (2, 20, [])
  | 64 => some (2, 20, [])
  | 65 => some (0, 1, [some 66, some 67, none])
  | 66 => some (2, 20, [])
  | 67 => some (2, 20, [])
  | 68 => some (0, 1, [some 69, some 70, none])
  | 69 => some (2, 20, [])
  | 70 => some (2, 20, [])
  | 71 => some (0, 1, [some 72, some 73, none])
  | 72 => some (2, 20, [])
  | 73 => some (2, 20, [])
  | 74 => some (0, 1, [some 75, some 76, none])
  | 75 => some (2, 20, [])
  | 76 => some (2, 20, [])
  | 77 => some (0, 6, [none, some 78, some 79, some 80, some 81, some 82, some 83, none, some 84, some 85, some 86, none, some 87, some 88, some 89, none, some 90, some 91, some 92, some 93, none, none, none, none, none, none, none, none])
  | 78 => some (1, 16, [])
  | 79 => some (1, 16, [])
  | 80 => some (1, 16000, [])
  | 81 => some (1, 16000, [])
  | 82 => some (1, 2000, [])
  | 83 => some (1, 2000, [])
  | 84 => some (1, 2000, [])
  | 85 => some (1, 80, [])
  | 86 => some (2, 80, [])
  | 87 => some (1, 64, [])
  | 88 => some (2, 64, [])
  | 89 => some (1, 6, [])
  | 90 => some (2, 320, [])
  | 91 => some (1, 320, [])
  | 92 => some (2, 400, [])
  | 93 => some (2, 400, [])
  | 94 => some (2, 1, [])
  | _ => none
/-- the shapes of the run; y: the rows of the ordinals, their lengths, the growth now and the next one -/
def Sg (T : List XT) (y : Nat → Nat) : Prop :=
  (∀ k t, shp k = some t → T[k]? = some t) ∧ T[6]? = some (0, 2, [some (y 0), some (y 1), some (y 2), some (y 3), none, none, some 11, some 14, some 17]) ∧
  (T[y 0]? = some (1, y 4, []) ∧ T[y 1]? = some (1, y 5, []) ∧ T[y 2]? = some (1, y 6, []) ∧ T[y 3]? = some (1, y 7, [])) ∧
  T[19]? = some (0, 3, [some (y 8), some (y 9), some 26]) ∧ (y 8 = 20 ∧ y 9 = 23 ∨ y 8 = 23 ∧ y 9 = 20) ∧
  ((y 0 = 7 ∨ 95 ≤ y 0) ∧ (y 1 = 8 ∨ 95 ≤ y 1) ∧ (y 2 = 9 ∨ 95 ≤ y 2) ∧ (y 3 = 10 ∨ 95 ≤ y 3)) ∧
  (y 0 ≠ y 1 ∧ y 0 ≠ y 2 ∧ y 0 ≠ y 3 ∧ y 1 ≠ y 2 ∧ y 1 ≠ y 3 ∧ y 2 ≠ y 3) ∧
  (y 4 < 2 ^ 30 ∧ y 5 < 2 ^ 30 ∧ y 6 < 2 ^ 30 ∧ y 7 < 2 ^ 30)
section
variable {T : List XT} {y : Nat → Nat}
theorem sg_1 (hs : Sg T y) : T[1]? = some (0, 5, [some 2, some 3, some 4, some 5, some 6, some 18, some 19]) := hs.1 1 _ rfl
theorem sg_2 (hs : Sg T y) : T[2]? = some (1, 16, []) := hs.1 2 _ rfl
theorem sg_3 (hs : Sg T y) : T[3]? = some (1, 16, []) := hs.1 3 _ rfl
theorem sg_4 (hs : Sg T y) : T[4]? = some (2, 16, []) := hs.1 4 _ rfl
theorem sg_5 (hs : Sg T y) : T[5]? = some (3, 16, [some 29, some 32, some 35, some 38, some 41, some 44, some 47, some 50, some 53, some 56, some 59, some 62, some 65, some 68, some 71, some 74]) := hs.1 5 _ rfl
theorem sg_11 (hs : Sg T y) : T[11]? = some (0, 0, [some 12, some 13, none]) := hs.1 11 _ rfl
theorem sg_12 (hs : Sg T y) : T[12]? = some (2, 64, []) := hs.1 12 _ rfl
theorem sg_13 (hs : Sg T y) : T[13]? = some (1, 64, []) := hs.1 13 _ rfl
theorem sg_14 (hs : Sg T y) : T[14]? = some (0, 0, [some 15, some 16, none]) := hs.1 14 _ rfl
theorem sg_15 (hs : Sg T y) : T[15]? = some (2, 64, []) := hs.1 15 _ rfl
theorem sg_16 (hs : Sg T y) : T[16]? = some (1, 64, []) := hs.1 16 _ rfl
theorem sg_17 (hs : Sg T y) : T[17]? = some (1, 8, []) := hs.1 17 _ rfl
theorem sg_18 (hs : Sg T y) : T[18]? = some (0, 4, [none, none, none, none]) := hs.1 18 _ rfl
theorem sg_20 (hs : Sg T y) : T[20]? = some (0, 1, [some 21, some 22, none]) := hs.1 20 _ rfl
theorem sg_21 (hs : Sg T y) : T[21]? = some (2, 400, []) := hs.1 21 _ rfl
theorem sg_22 (hs : Sg T y) : T[22]? = some (2, 400, []) := hs.1 22 _ rfl
theorem sg_23 (hs : Sg T y) : T[23]? = some (0, 1, [some 24, some 25, none]) := hs.1 23 _ rfl
theorem sg_24 (hs : Sg T y) : T[24]? = some (2, 400, []) := hs.1 24 _ rfl
theorem sg_25 (hs : Sg T y) : T[25]? = some (2, 400, []) := hs.1 25 _ rfl
theorem sg_26 (hs : Sg T y) : T[26]? = some (0, 1, [some 27, some 28, none]) := hs.1 26 _ rfl
theorem sg_27 (hs : Sg T y) : T[27]? = some (2, 20, []) := hs.1 27 _ rfl
theorem sg_28 (hs : Sg T y) : T[28]? = some (2, 20, []) := hs.1 28 _ rfl
theorem sg_29 (hs : Sg T y) : T[29]? = some (0, 1, [some 30, some 31, none]) := hs.1 29 _ rfl
theorem sg_30 (hs : Sg T y) : T[30]? = some (2, 20, []) := hs.1 30 _ rfl
theorem sg_31 (hs : Sg T y) : T[31]? = some (2, 20, []) := hs.1 31 _ rfl
theorem sg_32 (hs : Sg T y) : T[32]? = some (0, 1, [some 33, some 34, none]) := hs.1 32 _ rfl
theorem sg_33 (hs : Sg T y) : T[33]? = some (2, 20, []) := hs.1 33 _ rfl
theorem sg_34 (hs : Sg T y) : T[34]? = some (2, 20, []) := hs.1 34 _ rfl
theorem sg_35 (hs : Sg T y) : T[35]? = some (0, 1, [some 36, some 37, none]) := hs.1 35 _ rfl
theorem sg_36 (hs : Sg T y) : T[36]? = some (2, 20, []) := hs.1 36 _ rfl
theorem sg_37 (hs : Sg T y) : T[37]? = some (2, 20, []) := hs.1 37 _ rfl
theorem sg_38 (hs : Sg T y) : T[38]? = some (0, 1, [some 39, some 40, none]) := hs.1 38 _ rfl
theorem sg_39 (hs : Sg T y) : T[39]? = some (2, 20, []) := hs.1 39 _ rfl
theorem sg_40 (hs : Sg T y) : T[40]? = some (2, 20, []) := hs.1 40 _ rfl
theorem sg_41 (hs : Sg T y) : T[41]? = some (0, 1, [some 42, some 43, none]) := hs.1 41 _ rfl
theorem sg_42 (hs : Sg T y) : T[42]? = some (2, 20, []) := hs.1 42 _ rfl
theorem sg_43 (hs : Sg T y) : T[43]? = some (2, 20, []) := hs.1 43 _ rfl
theorem sg_44 (hs : Sg T y) : T[44]? = some (0, 1, [some 45, some 46, none]) := hs.1 44 _ rfl
theorem sg_45 (hs : Sg T y) : T[45]? = some (2, 20, []) := hs.1 45 _ rfl
theorem sg_46 (hs : Sg T y) : T[46]? = some (2, 20, []) := hs.1 46 _ rfl
theorem sg_47 (hs : Sg T y) : T[47]? = some (0, 1, [some 48, some 49, none]) := hs.1 47 _ rfl
theorem sg_48 (hs : Sg T y) : T[48]? = some (2, 20, []) := hs.1 48 _ rfl
theorem sg_49 (hs : Sg T y) : T[49]? = some (2, 20, []) := hs.1 49 _ rfl
theorem sg_50 (hs : Sg T y) : T[50]? = some (0, 1, [some 51, some 52, none]) := hs.1 50 _ rfl
theorem sg_51 (hs : Sg T y) : T[51]? = some (2, 20, []) := hs.1 51 _ rfl
theorem sg_52 (hs : Sg T y) : T[52]? = some (2, 20, []) := hs.1 52 _ rfl
theorem sg_53 (hs : Sg T y) : T[53]? = some (0, 1, [some 54, some 55, none]) := hs.1 53 _ rfl
theorem sg_54 (hs : Sg T y) : T[54]? = some (2, 20, []) := hs.1 54 _ rfl
theorem sg_55 (hs : Sg T y) : T[55]? = some (2, 20, []) := hs.1 55 _ rfl
theorem sg_56 (hs : Sg T y) : T[56]? = some (0, 1, [some 57, some 58, none]) := hs.1 56 _ rfl
theorem sg_57 (hs : Sg T y) : T[57]? = some (2, 20, []) := hs.1 57 _ rfl
theorem sg_58 (hs : Sg T y) : T[58]? = some (2, 20, []) := hs.1 58 _ rfl
theorem sg_59 (hs : Sg T y) : T[59]? = some (0, 1, [some 60, some 61, none]) := hs.1 59 _ rfl
theorem sg_60 (hs : Sg T y) : T[60]? = some (2, 20, []) := hs.1 60 _ rfl
theorem sg_61 (hs : Sg T y) : T[61]? = some (2, 20, []) := hs.1 61 _ rfl
theorem sg_62 (hs : Sg T y) : T[62]? = some (0, 1, [some 63, some 64, none]) := hs.1 62 _ rfl
theorem sg_63 (hs : Sg T y) : T[63]? = some (2, 20, []) := hs.1 63 _ rfl
theorem sg_64 (hs : Sg T y) : T[64]? = some (2, 20, []) := hs.1 64 _ rfl
theorem sg_65 (hs : Sg T y) : T[65]? = some (0, 1, [some 66, some 67, none]) := hs.1 65 _ rfl
theorem sg_66 (hs : Sg T y) : T[66]? = some (2, 20, []) := hs.1 66 _ rfl
theorem sg_67 (hs : Sg T y) : T[67]? = some (2, 20, []) := hs.1 67 _ rfl
theorem sg_68 (hs : Sg T y) : T[68]? = some (0, 1, [some 69, some 70, none]) := hs.1 68 _ rfl
theorem sg_69 (hs : Sg T y) : T[69]? = some (2, 20, []) := hs.1 69 _ rfl
theorem sg_70 (hs : Sg T y) : T[70]? = some (2, 20, []) := hs.1 70 _ rfl
theorem sg_71 (hs : Sg T y) : T[71]? = some (0, 1, [some 72, some 73, none]) := hs.1 71 _ rfl
theorem sg_72 (hs : Sg T y) : T[72]? = some (2, 20, []) := hs.1 72 _ rfl
theorem sg_73 (hs : Sg T y) : T[73]? = some (2, 20, []) := hs.1 73 _ rfl
theorem sg_74 (hs : Sg T y) : T[74]? = some (0, 1, [some 75, some 76, none]) := hs.1 74 _ rfl
theorem sg_75 (hs : Sg T y) : T[75]? = some (2, 20, []) := hs.1 75 _ rfl
theorem sg_76 (hs : Sg T y) : T[76]? = some (2, 20, []) := hs.1 76 _ rfl
theorem sg_77 (hs : Sg T y) : T[77]? = some (0, 6, [none, some 78, some 79, some 80, some 81, some 82, some 83, none, some 84, some 85, some 86, none, some 87, some 88, some 89, none, some 90, some 91, some 92, some 93, none, none, none, none, none, none, none, none]) := hs.1 77 _ rfl
theorem sg_78 (hs : Sg T y) : T[78]? = some (1, 16, []) := hs.1 78 _ rfl
theorem sg_79 (hs : Sg T y) : T[79]? = some (1, 16, []) := hs.1 79 _ rfl
theorem sg_80 (hs : Sg T y) : T[80]? = some (1, 16000, []) := hs.1 80 _ rfl
theorem sg_81 (hs : Sg T y) : T[81]? = some (1, 16000, []) := hs.1 81 _ rfl
theorem sg_82 (hs : Sg T y) : T[82]? = some (1, 2000, []) := hs.1 82 _ rfl
theorem sg_83 (hs : Sg T y) : T[83]? = some (1, 2000, []) := hs.1 83 _ rfl
theorem sg_84 (hs : Sg T y) : T[84]? = some (1, 2000, []) := hs.1 84 _ rfl
theorem sg_85 (hs : Sg T y) : T[85]? = some (1, 80, []) := hs.1 85 _ rfl
theorem sg_86 (hs : Sg T y) : T[86]? = some (2, 80, []) := hs.1 86 _ rfl
theorem sg_87 (hs : Sg T y) : T[87]? = some (1, 64, []) := hs.1 87 _ rfl
theorem sg_88 (hs : Sg T y) : T[88]? = some (2, 64, []) := hs.1 88 _ rfl
theorem sg_89 (hs : Sg T y) : T[89]? = some (1, 6, []) := hs.1 89 _ rfl
theorem sg_90 (hs : Sg T y) : T[90]? = some (2, 320, []) := hs.1 90 _ rfl
theorem sg_91 (hs : Sg T y) : T[91]? = some (1, 320, []) := hs.1 91 _ rfl
theorem sg_92 (hs : Sg T y) : T[92]? = some (2, 400, []) := hs.1 92 _ rfl
theorem sg_93 (hs : Sg T y) : T[93]? = some (2, 400, []) := hs.1 93 _ rfl
theorem sg_94 (hs : Sg T y) : T[94]? = some (2, 1, []) := hs.1 94 _ rfl
theorem sg_6 (hs : Sg T y) : T[6]? = some (0, 2, [some (y 0), some (y 1), some (y 2), some (y 3), none, none, some 11, some 14, some 17]) := hs.2.1
theorem sg_y0 (hs : Sg T y) : T[y 0]? = some (1, y 4, []) := hs.2.2.1.1
theorem sg_y1 (hs : Sg T y) : T[y 1]? = some (1, y 5, []) := hs.2.2.1.2.1
theorem sg_y2 (hs : Sg T y) : T[y 2]? = some (1, y 6, []) := hs.2.2.1.2.2.1
theorem sg_y3 (hs : Sg T y) : T[y 3]? = some (1, y 7, []) := hs.2.2.1.2.2.2
theorem sg_19 (hs : Sg T y) : T[19]? = some (0, 3, [some (y 8), some (y 9), some 26]) := hs.2.2.2.1
theorem sg_89v (hs : Sg T y) : y 8 = 20 ∧ y 9 = 23 ∨ y 8 = 23 ∧ y 9 = 20 := hs.2.2.2.2.1
theorem sg_hnd (hs : Sg T y) : (y 0 = 7 ∨ 95 ≤ y 0) ∧ (y 1 = 8 ∨ 95 ≤ y 1) ∧ (y 2 = 9 ∨ 95 ≤ y 2) ∧ (y 3 = 10 ∨ 95 ≤ y 3) := hs.2.2.2.2.2.1
theorem sg_dis (hs : Sg T y) : y 0 ≠ y 1 ∧ y 0 ≠ y 2 ∧ y 0 ≠ y 3 ∧ y 1 ≠ y 2 ∧ y 1 ≠ y 3 ∧ y 2 ≠ y 3 := hs.2.2.2.2.2.2.1
theorem sg_len (hs : Sg T y) : y 4 < 2 ^ 30 ∧ y 5 < 2 ^ 30 ∧ y 6 < 2 ^ 30 ∧ y 7 < 2 ^ 30 := hs.2.2.2.2.2.2.2
theorem sg_l0 (hs : Sg T y) : y 4 < 2 ^ 31 := by have := sg_len hs; omega
theorem sg_l1 (hs : Sg T y) : y 5 < 2 ^ 31 := by have := sg_len hs; omega
theorem sg_l2 (hs : Sg T y) : y 6 < 2 ^ 31 := by have := sg_len hs; omega
theorem sg_l3 (hs : Sg T y) : y 7 < 2 ^ 31 := by have := sg_len hs; omega
theorem sg_D11 (hs : Sg T y) : Dq T 11 := ⟨sg_11 hs, sg_12 hs, sg_13 hs⟩
theorem sg_D14 (hs : Sg T y) : Dq T 14 := ⟨sg_14 hs, sg_15 hs, sg_16 hs⟩
theorem sg_G26 (hs : Sg T y) : Gq T 26 20 := ⟨sg_26 hs, sg_27 hs, sg_28 hs⟩
theorem sg_G20 (hs : Sg T y) : Gq T 20 400 := ⟨sg_20 hs, sg_21 hs, sg_22 hs⟩
theorem sg_G23 (hs : Sg T y) : Gq T 23 400 := ⟨sg_23 hs, sg_24 hs, sg_25 hs⟩
theorem sg_Gr (hs : Sg T y) {p : Nat} (hp : p < 16) : Gq T (29 + 3 * p) 20 := by
  have : p = 0 ∨ p = 1 ∨ p = 2 ∨ p = 3 ∨ p = 4 ∨ p = 5 ∨ p = 6 ∨ p = 7 ∨ p = 8 ∨ p = 9 ∨ p = 10 ∨ p = 11 ∨ p = 12 ∨ p = 13 ∨ p = 14 ∨ p = 15 := by omega
  rcases this with z | z | z | z | z | z | z | z | z | z | z | z | z | z | z | z <;> subst z
  · exact ⟨sg_29 hs, sg_30 hs, sg_31 hs⟩
  · exact ⟨sg_32 hs, sg_33 hs, sg_34 hs⟩
  · exact ⟨sg_35 hs, sg_36 hs, sg_37 hs⟩
  · exact ⟨sg_38 hs, sg_39 hs, sg_40 hs⟩
  · exact ⟨sg_41 hs, sg_42 hs, sg_43 hs⟩
  · exact ⟨sg_44 hs, sg_45 hs, sg_46 hs⟩
  · exact ⟨sg_47 hs, sg_48 hs, sg_49 hs⟩
  · exact ⟨sg_50 hs, sg_51 hs, sg_52 hs⟩
  · exact ⟨sg_53 hs, sg_54 hs, sg_55 hs⟩
  · exact ⟨sg_56 hs, sg_57 hs, sg_58 hs⟩
  · exact ⟨sg_59 hs, sg_60 hs, sg_61 hs⟩
  · exact ⟨sg_62 hs, sg_63 hs, sg_64 hs⟩
  · exact ⟨sg_65 hs, sg_66 hs, sg_67 hs⟩
  · exact ⟨sg_68 hs, sg_69 hs, sg_70 hs⟩
  · exact ⟨sg_71 hs, sg_72 hs, sg_73 hs⟩
  · exact ⟨sg_74 hs, sg_75 hs, sg_76 hs⟩
theorem sg_Gn (hs : Sg T y) : Gq T (y 8) 400 ∧ Gq T (y 9) 400 := by
  rcases sg_89v hs with ⟨z, w⟩ | ⟨z, w⟩ <;> rw [z, w]
  · exact ⟨sg_G20 hs, sg_G23 hs⟩
  · exact ⟨sg_G23 hs, sg_G20 hs⟩
end
end
section
/-! ===== layer 2: small methods ===== -/
theorem unt_ne (a : Int32) : ¬ unt a = 0 := by
  unfold unt
  repeat' split
  all_goals decide
theorem w_X5_value {d : Nat} {h : XH} {y : Nat → Nat} {K : XK} {E : XE} (hd : 0 ≤ d) (hs : Sg h.1 y) (H : K (some (.long (h.2.2.1 18 0))) h) : Ca (d + 1) m_X5_value [.ref 18] h K E := by
  refine Ca.of ⟨by show 1 ≤ 1; omega, rfl⟩ ?_
  show Ex d [] tb_X5_value (0, [some (.ref 18)], []) h _
  refine Ex.pure 1 (fr2 := (1, [some (.ref 18)], [.ref 18])) rfl ?_
  refine Ex.getJ rfl (sg_18 hs) ?_
  exact Ex.lret rfl H
theorem t_X5_value {h : XH} {y : Nat → Nat} (hs : Sg h.1 y) : Tr 1 m_X5_value [.ref 18] h (fun o h2 => o = .inl (some (.long (h.2.2.1 18 0))) ∧ h2 = h) :=
  Tr.ca (w_X5_value (d := 0) (Nat.le_refl _) hs ⟨rfl, rfl⟩)
theorem w_X5_length {d : Nat} {h : XH} {y : Nat → Nat} {K : XK} {E : XE} (hd : 0 ≤ d) (hs : Sg h.1 y) (H : K (some (.int (h.2.1 18 3))) h) : Ca (d + 1) m_X5_length [.ref 18] h K E := by
  refine Ca.of ⟨by show 1 ≤ 1; omega, rfl⟩ ?_
  show Ex d [] tb_X5_length (0, [some (.ref 18)], []) h _
  refine Ex.pure 1 (fr2 := (1, [some (.ref 18)], [.ref 18])) rfl ?_
  refine Ex.getI rfl (Or.inl rfl) (sg_18 hs) ?_
  exact Ex.iret rfl (Or.inl rfl) H
theorem t_X5_length {h : XH} {y : Nat → Nat} (hs : Sg h.1 y) : Tr 1 m_X5_length [.ref 18] h (fun o h2 => o = .inl (some (.int (h.2.1 18 3))) ∧ h2 = h) :=
  Tr.ca (w_X5_length (d := 0) (Nat.le_refl _) hs ⟨rfl, rfl⟩)
theorem w_X4_growth {d : Nat} {h : XH} {y : Nat → Nat} {K : XK} {E : XE} (hd : 0 ≤ d) (hs : Sg h.1 y) (H : K (some (.ref (y 8))) h) : Ca (d + 1) m_X4_growth [.ref 19] h K E := by
  refine Ca.of ⟨by show 1 ≤ 1; omega, rfl⟩ ?_
  show Ex d [] tb_X4_growth (0, [some (.ref 19)], []) h _
  refine Ex.pure 1 (fr2 := (1, [some (.ref 19)], [.ref 19])) rfl ?_
  refine Ex.getQ rfl (sg_19 hs) rfl ?_
  exact Ex.aret rfl H
theorem t_X4_growth {h : XH} {y : Nat → Nat} (hs : Sg h.1 y) : Tr 1 m_X4_growth [.ref 19] h (fun o h2 => o = .inl (some (.ref (y 8))) ∧ h2 = h) :=
  Tr.ca (w_X4_growth (d := 0) (Nat.le_refl _) hs ⟨rfl, rfl⟩)
theorem w_J6_compare_7cf53 {d : Nat} {h : XH} {y : Nat → Nat} {K : XK} {E : XE} {a : Int32} {b : Int32} (hd : 0 ≤ d) (hs : Sg h.1 y) (H : (b ≤ a → (¬ a = b → K (some (.int 1)) h) ∧ (¬ (¬ a = b) → K (some (.int 0)) h)) ∧ (¬ (b ≤ a) → K (some (.int (-1))) h)) : Ca (d + 1) m_J6_compare_7cf53 [.int a, .int b] h K E := by
  refine Ca.of ⟨by show 2 ≤ 2; omega, rfl⟩ ?_
  show Ex d [] tb_J6_compare_7cf53 (0, [some (.int a), some (.int b)], []) h _
  refine Ex.pure 2 (fr2 := (2, [some (.int a), some (.int b)], [.int b, .int a])) rfl ?_
  refine Ex.br (x := (9, [some (.int a), some (.int b)], [])) (y := (5, [some (.int a), some (.int b)], [])) (b := b ≤ a) rfl (fun hb => ?_) (fun hb => ?_)
  · replace H := H.1 (hb)
    refine Ex.pure 2 (fr2 := (11, [some (.int a), some (.int b)], [.int b, .int a])) rfl ?_
    refine Ex.br (x := (18, [some (.int a), some (.int b)], [])) (y := (14, [some (.int a), some (.int b)], [])) (b := ¬ a = b) rfl (fun hb => ?_) (fun hb => ?_)
    · replace H := H.1 (hb)
      refine Ex.pure 1 (fr2 := (19, [some (.int a), some (.int b)], [.int 1])) rfl ?_
      exact Ex.iret rfl (Or.inl rfl) H
    · replace H := H.2 (hb)
      refine Ex.pure 2 (fr2 := (19, [some (.int a), some (.int b)], [.int 0])) rfl ?_
      exact Ex.iret rfl (Or.inl rfl) H
  · replace H := H.2 (hb)
    refine Ex.pure 2 (fr2 := (19, [some (.int a), some (.int b)], [.int (-1)])) rfl ?_
    exact Ex.iret rfl (Or.inl rfl) H
theorem t_J6_compare_7cf53 {h : XH} {y : Nat → Nat} {a : Int32} {b : Int32} (hs : Sg h.1 y) : Tr 1 m_J6_compare_7cf53 [.int a, .int b] h (fun o h2 => o = .inl (some (.int (c_I a b))) ∧ h2 = h) :=
  Tr.ca (w_J6_compare_7cf53 (d := 0) (Nat.le_refl _) hs ⟨fun h1 => ⟨fun h2 => ⟨by rw [c_I, if_neg (i_nlt.mpr h1), if_neg h2], rfl⟩, fun h2 => ⟨by rw [c_I, if_neg (i_nlt.mpr h1), if_pos (Classical.not_not.mp h2)], rfl⟩⟩, fun h1 => ⟨by rw [c_I, if_pos (i_nle.mp h1)], rfl⟩⟩)
theorem w_J13_compare_74951 {d : Nat} {h : XH} {y : Nat → Nat} {K : XK} {E : XE} {a : Int64} {b : Int64} (hd : 0 ≤ d) (hs : Sg h.1 y) (H : (b ≤ a → (¬ a = b → K (some (.int 1)) h) ∧ (¬ (¬ a = b) → K (some (.int 0)) h)) ∧ (¬ (b ≤ a) → K (some (.int (-1))) h)) : Ca (d + 1) m_J13_compare_74951 [.long a, .long b] h K E := by
  refine Ca.of ⟨by show 4 ≤ 4; omega, rfl⟩ ?_
  show Ex d [] tb_J13_compare_74951 (0, [some (.long a), none, some (.long b), none], []) h _
  refine Ex.pure 3 (fr2 := (3, [some (.long a), none, some (.long b), none], [.int (lg_cmp a b)])) rfl ?_
  refine Ex.br (x := (10, [some (.long a), none, some (.long b), none], [])) (y := (6, [some (.long a), none, some (.long b), none], [])) (b := 0 ≤ (lg_cmp a b)) rfl (fun hb => ?_) (fun hb => ?_)
  · replace H := H.1 ((lg_cmp_ge _ _).mp hb)
    refine Ex.pure 3 (fr2 := (13, [some (.long a), none, some (.long b), none], [.int (lg_cmp a b)])) rfl ?_
    refine Ex.br (x := (20, [some (.long a), none, some (.long b), none], [])) (y := (16, [some (.long a), none, some (.long b), none], [])) (b := ¬ (lg_cmp a b) = 0) rfl (fun hb => ?_) (fun hb => ?_)
    · replace H := H.1 (fun z => hb ((lg_cmp_eq _ _).mpr z))
      refine Ex.pure 1 (fr2 := (21, [some (.long a), none, some (.long b), none], [.int 1])) rfl ?_
      exact Ex.iret rfl (Or.inl rfl) H
    · replace H := H.2 (fun z => hb (fun w => z ((lg_cmp_eq _ _).mp w)))
      refine Ex.pure 2 (fr2 := (21, [some (.long a), none, some (.long b), none], [.int 0])) rfl ?_
      exact Ex.iret rfl (Or.inl rfl) H
  · replace H := H.2 (fun z => hb ((lg_cmp_ge _ _).mpr z))
    refine Ex.pure 2 (fr2 := (21, [some (.long a), none, some (.long b), none], [.int (-1)])) rfl ?_
    exact Ex.iret rfl (Or.inl rfl) H
theorem t_J13_compare_74951 {h : XH} {y : Nat → Nat} {a : Int64} {b : Int64} (hs : Sg h.1 y) : Tr 1 m_J13_compare_74951 [.long a, .long b] h (fun o h2 => o = .inl (some (.int (c_J a b))) ∧ h2 = h) :=
  Tr.ca (w_J13_compare_74951 (d := 0) (Nat.le_refl _) hs ⟨fun h1 => ⟨fun h2 => ⟨by rw [c_J, if_neg (j_nlt.mpr h1), if_neg h2], rfl⟩, fun h2 => ⟨by rw [c_J, if_neg (j_nlt.mpr h1), if_pos (Classical.not_not.mp h2)], rfl⟩⟩, fun h1 => ⟨by rw [c_J, if_pos (j_nle.mp h1)], rfl⟩⟩)
theorem w_X6_numberFits {d : Nat} {h : XH} {y : Nat → Nat} {K : XK} {E : XE} {a : Int64} (hd : 0 ≤ d) (hs : Sg h.1 y) (H : (a < (-268435456) → K (some (.int 0)) h) ∧ (¬ (a < (-268435456)) → (268435456 < a → K (some (.int 0)) h) ∧ (¬ (268435456 < a) → K (some (.int 1)) h))) : Ca (d + 1) m_X6_numberFits [.long a] h K E := by
  refine Ca.of ⟨by show 2 ≤ 2; omega, rfl⟩ ?_
  show Ex d [] tb_X6_numberFits (0, [some (.long a), none], []) h _
  refine Ex.pure 3 (fr2 := (5, [some (.long a), none], [.int (lg_cmp a (-268435456))])) rfl ?_
  refine Ex.br (x := (20, [some (.long a), none], [])) (y := (8, [some (.long a), none], [])) (b := (lg_cmp a (-268435456)) < 0) rfl (fun hb => ?_) (fun hb => ?_)
  · replace H := H.1 ((lg_cmp_lt _ _).mp hb)
    refine Ex.pure 1 (fr2 := (21, [some (.long a), none], [.int 0])) rfl ?_
    exact Ex.iret rfl (Or.inr ⟨rfl, by decide⟩) H
  · replace H := H.2 (fun z => hb ((lg_cmp_lt _ _).mpr z))
    refine Ex.pure 3 (fr2 := (13, [some (.long a), none], [.int (lg_cmp a 268435456)])) rfl ?_
    refine Ex.br (x := (20, [some (.long a), none], [])) (y := (16, [some (.long a), none], [])) (b := 0 < (lg_cmp a 268435456)) rfl (fun hb => ?_) (fun hb => ?_)
    · replace H := H.1 ((lg_cmp_gt _ _).mp hb)
      refine Ex.pure 1 (fr2 := (21, [some (.long a), none], [.int 0])) rfl ?_
      exact Ex.iret rfl (Or.inr ⟨rfl, by decide⟩) H
    · replace H := H.2 (fun z => hb ((lg_cmp_gt _ _).mpr z))
      refine Ex.pure 2 (fr2 := (21, [some (.long a), none], [.int 1])) rfl ?_
      exact Ex.iret rfl (Or.inr ⟨rfl, by decide⟩) H
theorem t_X6_numberFits {h : XH} {y : Nat → Nat} {a : Int64} (hs : Sg h.1 y) : Tr 1 m_X6_numberFits [.long a] h (fun o h2 => o = .inl (some (.int (bi ((-268435456) ≤ a ∧ a ≤ 268435456)))) ∧ h2 = h) :=
  Tr.ca (w_X6_numberFits (d := 0) (Nat.le_refl _) hs ⟨fun h1 => ⟨by rw [bi_f (fun z => j_nle.mpr h1 z.1)], rfl⟩, fun h1 => ⟨fun h2 => ⟨by rw [bi_f (fun z => j_nle.mpr h2 z.2)], rfl⟩, fun h2 => ⟨by rw [bi_t ⟨j_nlt.mp h1, j_nlt.mp h2⟩], rfl⟩⟩⟩)
theorem w_X7_thrown {d : Nat} {h : XH} {y : Nat → Nat} {K : XK} {E : XE} (hd : 0 ≤ d) (hs : Sg h.1 y) (H : K (some (.int (h.2.1 77 0))) h) : Ca (d + 1) m_X7_thrown [.ref 77] h K E := by
  refine Ca.of ⟨by show 1 ≤ 1; omega, rfl⟩ ?_
  show Ex d [] tb_X7_thrown (0, [some (.ref 77)], []) h _
  refine Ex.pure 1 (fr2 := (1, [some (.ref 77)], [.ref 77])) rfl ?_
  refine Ex.getI rfl (Or.inl rfl) (sg_77 hs) ?_
  exact Ex.iret rfl (Or.inl rfl) H
theorem t_X7_thrown {h : XH} {y : Nat → Nat} (hs : Sg h.1 y) : Tr 1 m_X7_thrown [.ref 77] h (fun o h2 => o = .inl (some (.int (h.2.1 77 0))) ∧ h2 = h) :=
  Tr.ca (w_X7_thrown (d := 0) (Nat.le_refl _) hs ⟨rfl, rfl⟩)
theorem w_X7_holds {d : Nat} {h : XH} {y : Nat → Nat} {K : XK} {E : XE} {a : Int32} (hd : 0 ≤ d) (hs : Sg h.1 y) (H : (∀ h1 : XH, h1 = (x_setI h 77 0 a) → (¬ a = 0 → K (some (.int 0)) h1) ∧ (¬ (¬ a = 0) → K (some (.int 1)) h1))) : Ca (d + 1) m_X7_holds [.ref 77, .int a] h K E := by
  refine Ca.of ⟨by show 2 ≤ 2; omega, rfl⟩ ?_
  show Ex d [] tb_X7_holds (0, [some (.ref 77), some (.int a)], []) h _
  refine Ex.pure 2 (fr2 := (2, [some (.ref 77), some (.int a)], [.int a, .ref 77])) rfl ?_
  refine Ex.putI rfl (sg_77 hs) ?_
  obtain ⟨h1, e1⟩ : ∃ z : XH, z = (x_setI h 77 0 a) := ⟨_, rfl⟩
  rw [← e1]
  replace H := H h1 e1
  replace hs : Sg h1.1 y := by rw [e1]; exact hs
  refine Ex.pure 1 (fr2 := (6, [some (.ref 77), some (.int a)], [.int a])) rfl ?_
  refine Ex.br (x := (13, [some (.ref 77), some (.int a)], [])) (y := (9, [some (.ref 77), some (.int a)], [])) (b := ¬ a = 0) rfl (fun hb => ?_) (fun hb => ?_)
  · replace H := H.1 (hb)
    refine Ex.pure 1 (fr2 := (14, [some (.ref 77), some (.int a)], [.int 0])) rfl ?_
    exact Ex.iret rfl (Or.inr ⟨rfl, by decide⟩) H
  · replace H := H.2 (hb)
    refine Ex.pure 2 (fr2 := (14, [some (.ref 77), some (.int a)], [.int 1])) rfl ?_
    exact Ex.iret rfl (Or.inr ⟨rfl, by decide⟩) H
theorem t_X7_holds {h : XH} {y : Nat → Nat} {a : Int32} (hs : Sg h.1 y) : Tr 1 m_X7_holds [.ref 77, .int a] h (fun o h2 => o = .inl (some (.int (bi (a = 0)))) ∧ h2 = (x_setI h 77 0 a)) :=
  Tr.ca (w_X7_holds (d := 0) (Nat.le_refl _) hs (fun h1 e1 => ⟨fun h2 => ⟨by rw [bi_f h2], e1⟩, fun h2 => ⟨by rw [bi_t (Classical.not_not.mp h2)], e1⟩⟩))
theorem w_X7_isIn {d : Nat} {h : XH} {y : Nat → Nat} {K : XK} {E : XE} {v : Int64} {a : Int64} {b : Int64} (hd : 0 ≤ d) (hs : Sg h.1 y) (H : (v < a → K (some (.int 0)) h) ∧ (¬ (v < a) → (b < v → K (some (.int 0)) h) ∧ (¬ (b < v) → K (some (.int 1)) h))) : Ca (d + 1) m_X7_isIn [.long v, .long a, .long b] h K E := by
  refine Ca.of ⟨by show 6 ≤ 6; omega, rfl⟩ ?_
  show Ex d [] tb_X7_isIn (0, [some (.long v), none, some (.long a), none, some (.long b), none], []) h _
  refine Ex.pure 3 (fr2 := (3, [some (.long v), none, some (.long a), none, some (.long b), none], [.int (lg_cmp v a)])) rfl ?_
  refine Ex.br (x := (17, [some (.long v), none, some (.long a), none, some (.long b), none], [])) (y := (6, [some (.long v), none, some (.long a), none, some (.long b), none], [])) (b := (lg_cmp v a) < 0) rfl (fun hb => ?_) (fun hb => ?_)
  · replace H := H.1 ((lg_cmp_lt _ _).mp hb)
    refine Ex.pure 1 (fr2 := (18, [some (.long v), none, some (.long a), none, some (.long b), none], [.int 0])) rfl ?_
    exact Ex.iret rfl (Or.inr ⟨rfl, by decide⟩) H
  · replace H := H.2 (fun z => hb ((lg_cmp_lt _ _).mpr z))
    refine Ex.pure 3 (fr2 := (10, [some (.long v), none, some (.long a), none, some (.long b), none], [.int (lg_cmp v b)])) rfl ?_
    refine Ex.br (x := (17, [some (.long v), none, some (.long a), none, some (.long b), none], [])) (y := (13, [some (.long v), none, some (.long a), none, some (.long b), none], [])) (b := 0 < (lg_cmp v b)) rfl (fun hb => ?_) (fun hb => ?_)
    · replace H := H.1 ((lg_cmp_gt _ _).mp hb)
      refine Ex.pure 1 (fr2 := (18, [some (.long v), none, some (.long a), none, some (.long b), none], [.int 0])) rfl ?_
      exact Ex.iret rfl (Or.inr ⟨rfl, by decide⟩) H
    · replace H := H.2 (fun z => hb ((lg_cmp_gt _ _).mpr z))
      refine Ex.pure 2 (fr2 := (18, [some (.long v), none, some (.long a), none, some (.long b), none], [.int 1])) rfl ?_
      exact Ex.iret rfl (Or.inr ⟨rfl, by decide⟩) H
theorem t_X7_isIn {h : XH} {y : Nat → Nat} {v : Int64} {a : Int64} {b : Int64} (hs : Sg h.1 y) : Tr 1 m_X7_isIn [.long v, .long a, .long b] h (fun o h2 => o = .inl (some (.int (bi (a ≤ v ∧ v ≤ b)))) ∧ h2 = h) :=
  Tr.ca (w_X7_isIn (d := 0) (Nat.le_refl _) hs ⟨fun h1 => ⟨by rw [bi_f (fun z => j_nle.mpr h1 z.1)], rfl⟩, fun h1 => ⟨fun h2 => ⟨by rw [bi_f (fun z => j_nle.mpr h2 z.2)], rfl⟩, fun h2 => ⟨by rw [bi_t ⟨j_nlt.mp h1, j_nlt.mp h2⟩], rfl⟩⟩⟩)
theorem w_X7_isPlace {d : Nat} {h : XH} {y : Nat → Nat} {K : XK} {E : XE} {p : Int32} (hd : 1 ≤ d) (hs : Sg h.1 y) (H : K (some (.int (bi (0 ≤ ((p : Int32).toInt64) ∧ ((p : Int32).toInt64) ≤ 15)))) h) : Ca (d + 1) m_X7_isPlace [.int p] h K E := by
  refine Ca.of ⟨by show 1 ≤ 1; omega, rfl⟩ ?_
  show Ex d [] tb_X7_isPlace (0, [some (.int p)], []) h _
  refine Ex.pure 4 (fr2 := (6, [some (.int p)], [.long 15, .long 0, .long ((p : Int32).toInt64)])) rfl ?_
  refine Ex.ask (rest := []) (j := m_X7_isIn) (as := [.long ((p : Int32).toInt64), .long 0, .long 15]) (fun c => rfl) ((t_X7_isIn hs).mono (by omega) (fun _ _ z => z)) ?_
  rintro _ h0 ⟨rfl, e0⟩
  rw [e0]
  show Ex d [] tb_X7_isPlace (9, [some (.int p)], [.int (bi (0 ≤ ((p : Int32).toInt64) ∧ ((p : Int32).toInt64) ≤ 15))]) h _
  exact Ex.iret rfl (Or.inr ⟨rfl, bi_01 _⟩) H
theorem t_X7_isPlace {h : XH} {y : Nat → Nat} {p : Int32} (hs : Sg h.1 y) : Tr 2 m_X7_isPlace [.int p] h (fun o h2 => o = .inl (some (.int (bi (isp p)))) ∧ h2 = h) :=
  Tr.ca (w_X7_isPlace (d := 1) (Nat.le_refl _) hs ⟨rfl, rfl⟩)
theorem w_X7_are {d : Nat} {h : XH} {y : Nat → Nat} {K : XK} {E : XE} {a : Int32} {b : Int32} {c : Int32} (hd : 2 ≤ d) (hs : Sg h.1 y) (H : ((isp a) → ((isp b) → ((isp c) → K (some (.int 1)) h) ∧ (¬ (isp c) → K (some (.int 0)) h)) ∧ (¬ (isp b) → K (some (.int 0)) h)) ∧ (¬ (isp a) → K (some (.int 0)) h)) : Ca (d + 1) m_X7_are [.int a, .int b, .int c] h K E := by
  refine Ca.of ⟨by show 3 ≤ 3; omega, rfl⟩ ?_
  show Ex d [] tb_X7_are (0, [some (.int a), some (.int b), some (.int c)], []) h _
  refine Ex.pure 1 (fr2 := (1, [some (.int a), some (.int b), some (.int c)], [.int a])) rfl ?_
  refine Ex.ask (rest := []) (j := m_X7_isPlace) (as := [.int a]) (fun c => rfl) ((t_X7_isPlace hs).mono (by omega) (fun _ _ z => z)) ?_
  rintro _ h0 ⟨rfl, e0⟩
  rw [e0]
  show Ex d [] tb_X7_are (4, [some (.int a), some (.int b), some (.int c)], [.int (bi (isp a))]) h _
  refine Ex.br (x := (25, [some (.int a), some (.int b), some (.int c)], [])) (y := (7, [some (.int a), some (.int b), some (.int c)], [])) (b := (bi (isp a)) = 0) rfl (fun hb => ?_) (fun hb => ?_)
  · replace H := H.2 (bi_eq.mp hb)
    refine Ex.pure 1 (fr2 := (26, [some (.int a), some (.int b), some (.int c)], [.int 0])) rfl ?_
    exact Ex.iret rfl (Or.inr ⟨rfl, by decide⟩) H
  · replace H := H.1 (bi_neq.mp hb)
    refine Ex.pure 1 (fr2 := (8, [some (.int a), some (.int b), some (.int c)], [.int b])) rfl ?_
    refine Ex.ask (rest := []) (j := m_X7_isPlace) (as := [.int b]) (fun c => rfl) ((t_X7_isPlace hs).mono (by omega) (fun _ _ z => z)) ?_
    rintro _ h0 ⟨rfl, e0⟩
    rw [e0]
    show Ex d [] tb_X7_are (11, [some (.int a), some (.int b), some (.int c)], [.int (bi (isp b))]) h _
    refine Ex.br (x := (25, [some (.int a), some (.int b), some (.int c)], [])) (y := (14, [some (.int a), some (.int b), some (.int c)], [])) (b := (bi (isp b)) = 0) rfl (fun hb => ?_) (fun hb => ?_)
    · replace H := H.2 (bi_eq.mp hb)
      refine Ex.pure 1 (fr2 := (26, [some (.int a), some (.int b), some (.int c)], [.int 0])) rfl ?_
      exact Ex.iret rfl (Or.inr ⟨rfl, by decide⟩) H
    · replace H := H.1 (bi_neq.mp hb)
      refine Ex.pure 1 (fr2 := (15, [some (.int a), some (.int b), some (.int c)], [.int c])) rfl ?_
      refine Ex.ask (rest := []) (j := m_X7_isPlace) (as := [.int c]) (fun c => rfl) ((t_X7_isPlace hs).mono (by omega) (fun _ _ z => z)) ?_
      rintro _ h0 ⟨rfl, e0⟩
      rw [e0]
      show Ex d [] tb_X7_are (18, [some (.int a), some (.int b), some (.int c)], [.int (bi (isp c))]) h _
      refine Ex.br (x := (25, [some (.int a), some (.int b), some (.int c)], [])) (y := (21, [some (.int a), some (.int b), some (.int c)], [])) (b := (bi (isp c)) = 0) rfl (fun hb => ?_) (fun hb => ?_)
      · replace H := H.2 (bi_eq.mp hb)
        refine Ex.pure 1 (fr2 := (26, [some (.int a), some (.int b), some (.int c)], [.int 0])) rfl ?_
        exact Ex.iret rfl (Or.inr ⟨rfl, by decide⟩) H
      · replace H := H.1 (bi_neq.mp hb)
        refine Ex.pure 2 (fr2 := (26, [some (.int a), some (.int b), some (.int c)], [.int 1])) rfl ?_
        exact Ex.iret rfl (Or.inr ⟨rfl, by decide⟩) H
theorem t_X7_are {h : XH} {y : Nat → Nat} {a : Int32} {b : Int32} {c : Int32} (hs : Sg h.1 y) : Tr 3 m_X7_are [.int a, .int b, .int c] h (fun o h2 => o = .inl (some (.int (bi (isp a ∧ isp b ∧ isp c)))) ∧ h2 = h) :=
  Tr.ca (w_X7_are (d := 2) (Nat.le_refl _) hs ⟨fun h1 => ⟨fun h2 => ⟨fun h3 => ⟨by rw [bi_t ⟨h1, h2, h3⟩], rfl⟩, fun h3 => ⟨by rw [bi_f (fun z => h3 z.2.2)], rfl⟩⟩, fun h2 => ⟨by rw [bi_f (fun z => h2 z.2.1)], rfl⟩⟩, fun h1 => ⟨by rw [bi_f (fun z => h1 z.1)], rfl⟩⟩)
theorem w_X7_isNumber {d : Nat} {h : XH} {y : Nat → Nat} {K : XK} {E : XE} {v : Int64} (hd : 1 ≤ d) (hs : Sg h.1 y) (H : K (some (.int (bi ((-268435456) ≤ v ∧ v ≤ 268435456)))) h) : Ca (d + 1) m_X7_isNumber [.long v] h K E := by
  refine Ca.of ⟨by show 2 ≤ 2; omega, rfl⟩ ?_
  show Ex d [] tb_X7_isNumber (0, [some (.long v), none], []) h _
  refine Ex.pure 3 (fr2 := (7, [some (.long v), none], [.long 268435456, .long (-268435456), .long v])) rfl ?_
  refine Ex.ask (rest := []) (j := m_X7_isIn) (as := [.long v, .long (-268435456), .long 268435456]) (fun c => rfl) ((t_X7_isIn hs).mono (by omega) (fun _ _ z => z)) ?_
  rintro _ h0 ⟨rfl, e0⟩
  rw [e0]
  show Ex d [] tb_X7_isNumber (10, [some (.long v), none], [.int (bi ((-268435456) ≤ v ∧ v ≤ 268435456))]) h _
  exact Ex.iret rfl (Or.inr ⟨rfl, bi_01 _⟩) H
theorem t_X7_isNumber {h : XH} {y : Nat → Nat} {v : Int64} (hs : Sg h.1 y) : Tr 2 m_X7_isNumber [.long v] h (fun o h2 => o = .inl (some (.int (bi ((-268435456) ≤ v ∧ v ≤ 268435456)))) ∧ h2 = h) :=
  Tr.ca (w_X7_isNumber (d := 1) (Nat.le_refl _) hs ⟨rfl, rfl⟩)
theorem w_X7_hasPlace {d : Nat} {h : XH} {y : Nat → Nat} {K : XK} {E : XE} {a : Int32} {b : Int32} (hd : 0 ≤ d) (hs : Sg h.1 y) (H : (¬ ((a >>> (b &&& 31)) &&& 1) = 1 → K (some (.int 0)) h) ∧ (¬ (¬ ((a >>> (b &&& 31)) &&& 1) = 1) → K (some (.int 1)) h)) : Ca (d + 1) m_X7_hasPlace [.int a, .int b] h K E := by
  refine Ca.of ⟨by show 2 ≤ 2; omega, rfl⟩ ?_
  show Ex d [] tb_X7_hasPlace (0, [some (.int a), some (.int b)], []) h _
  refine Ex.pure 6 (fr2 := (6, [some (.int a), some (.int b)], [.int 1, .int ((a >>> (b &&& 31)) &&& 1)])) rfl ?_
  refine Ex.br (x := (13, [some (.int a), some (.int b)], [])) (y := (9, [some (.int a), some (.int b)], [])) (b := ¬ ((a >>> (b &&& 31)) &&& 1) = 1) rfl (fun hb => ?_) (fun hb => ?_)
  · replace H := H.1 (hb)
    refine Ex.pure 1 (fr2 := (14, [some (.int a), some (.int b)], [.int 0])) rfl ?_
    exact Ex.iret rfl (Or.inr ⟨rfl, by decide⟩) H
  · replace H := H.2 (hb)
    refine Ex.pure 2 (fr2 := (14, [some (.int a), some (.int b)], [.int 1])) rfl ?_
    exact Ex.iret rfl (Or.inr ⟨rfl, by decide⟩) H
theorem t_X7_hasPlace {h : XH} {y : Nat → Nat} {a : Int32} {b : Int32} (hs : Sg h.1 y) : Tr 1 m_X7_hasPlace [.int a, .int b] h (fun o h2 => o = .inl (some (.int (bi ((a >>> (b &&& 31)) &&& 1 = 1)))) ∧ h2 = h) :=
  Tr.ca (w_X7_hasPlace (d := 0) (Nat.le_refl _) hs ⟨fun h2 => ⟨by rw [bi_f h2], rfl⟩, fun h2 => ⟨by rw [bi_t (Classical.not_not.mp h2)], rfl⟩⟩)
theorem w_X7_unit {d : Nat} {h : XH} {y : Nat → Nat} {K : XK} {E : XE} {a : Int32} (hd : 0 ≤ d) (hs : Sg h.1 y) (H : (¬ a = 1 → (¬ a = 2 → (¬ a = 3 → K (some (.long 1)) h) ∧ (¬ (¬ a = 3) → K (some (.long 401)) h)) ∧ (¬ (¬ a = 2) → K (some (.long 160801)) h)) ∧ (¬ (¬ a = 1) → K (some (.long 64481201)) h)) : Ca (d + 1) m_X7_unit [.int a] h K E := by
  refine Ca.of ⟨by show 1 ≤ 1; omega, rfl⟩ ?_
  show Ex d [] tb_X7_unit (0, [some (.int a)], []) h _
  refine Ex.pure 2 (fr2 := (2, [some (.int a)], [.int 1, .int a])) rfl ?_
  refine Ex.br (x := (11, [some (.int a)], [])) (y := (5, [some (.int a)], [])) (b := ¬ a = 1) rfl (fun hb => ?_) (fun hb => ?_)
  · replace H := H.1 (hb)
    refine Ex.pure 2 (fr2 := (13, [some (.int a)], [.int 2, .int a])) rfl ?_
    refine Ex.br (x := (22, [some (.int a)], [])) (y := (16, [some (.int a)], [])) (b := ¬ a = 2) rfl (fun hb => ?_) (fun hb => ?_)
    · replace H := H.1 (hb)
      refine Ex.pure 2 (fr2 := (24, [some (.int a)], [.int 3, .int a])) rfl ?_
      refine Ex.br (x := (33, [some (.int a)], [])) (y := (27, [some (.int a)], [])) (b := ¬ a = 3) rfl (fun hb => ?_) (fun hb => ?_)
      · replace H := H.1 (hb)
        refine Ex.pure 1 (fr2 := (34, [some (.int a)], [.long 1])) rfl ?_
        exact Ex.lret rfl H
      · replace H := H.2 (hb)
        refine Ex.pure 2 (fr2 := (34, [some (.int a)], [.long 401])) rfl ?_
        exact Ex.lret rfl H
    · replace H := H.2 (hb)
      refine Ex.pure 2 (fr2 := (34, [some (.int a)], [.long 160801])) rfl ?_
      exact Ex.lret rfl H
  · replace H := H.2 (hb)
    refine Ex.pure 2 (fr2 := (34, [some (.int a)], [.long 64481201])) rfl ?_
    exact Ex.lret rfl H
theorem t_X7_unit {h : XH} {y : Nat → Nat} {a : Int32} (hs : Sg h.1 y) : Tr 1 m_X7_unit [.int a] h (fun o h2 => o = .inl (some (.long (unt a))) ∧ h2 = h) :=
  Tr.ca (w_X7_unit (d := 0) (Nat.le_refl _) hs ⟨fun h1 => ⟨fun h2 => ⟨fun h3 => ⟨by rw [unt, if_neg h1, if_neg h2, if_neg h3], rfl⟩, fun h3 => ⟨by rw [unt, if_neg h1, if_neg h2, if_pos (Classical.not_not.mp h3)], rfl⟩⟩, fun h2 => ⟨by rw [unt, if_neg h1, if_pos (Classical.not_not.mp h2)], rfl⟩⟩, fun h1 => ⟨by rw [unt, if_pos (Classical.not_not.mp h1)], rfl⟩⟩)
theorem w_X7_level {d : Nat} {h : XH} {y : Nat → Nat} {K : XK} {E : XE} (hd : 1 ≤ d) (hs : Sg h.1 y) (H : K (some (.long (200 * ((((unt 1) + (unt 2)) + (unt 3)) + (unt 4))))) h) : Ca (d + 1) m_X7_level [] h K E := by
  refine Ca.of ⟨by show 0 ≤ 0; omega, rfl⟩ ?_
  show Ex d [] tb_X7_level (0, [], []) h _
  refine Ex.pure 2 (fr2 := (4, [], [.int 1, .long 200])) rfl ?_
  refine Ex.ask (rest := [.long 200]) (j := m_X7_unit) (as := [.int 1]) (fun c => rfl) ((t_X7_unit hs).mono (by omega) (fun _ _ z => z)) ?_
  rintro _ h0 ⟨rfl, e0⟩
  rw [e0]
  show Ex d [] tb_X7_level (7, [], [.long (unt 1), .long 200]) h _
  refine Ex.pure 1 (fr2 := (8, [], [.int 2, .long (unt 1), .long 200])) rfl ?_
  refine Ex.ask (rest := [.long (unt 1), .long 200]) (j := m_X7_unit) (as := [.int 2]) (fun c => rfl) ((t_X7_unit hs).mono (by omega) (fun _ _ z => z)) ?_
  rintro _ h0 ⟨rfl, e0⟩
  rw [e0]
  show Ex d [] tb_X7_level (11, [], [.long (unt 2), .long (unt 1), .long 200]) h _
  refine Ex.pure 2 (fr2 := (13, [], [.int 3, .long ((unt 1) + (unt 2)), .long 200])) rfl ?_
  refine Ex.ask (rest := [.long ((unt 1) + (unt 2)), .long 200]) (j := m_X7_unit) (as := [.int 3]) (fun c => rfl) ((t_X7_unit hs).mono (by omega) (fun _ _ z => z)) ?_
  rintro _ h0 ⟨rfl, e0⟩
  rw [e0]
  show Ex d [] tb_X7_level (16, [], [.long (unt 3), .long ((unt 1) + (unt 2)), .long 200]) h _
  refine Ex.pure 2 (fr2 := (18, [], [.int 4, .long (((unt 1) + (unt 2)) + (unt 3)), .long 200])) rfl ?_
  refine Ex.ask (rest := [.long (((unt 1) + (unt 2)) + (unt 3)), .long 200]) (j := m_X7_unit) (as := [.int 4]) (fun c => rfl) ((t_X7_unit hs).mono (by omega) (fun _ _ z => z)) ?_
  rintro _ h0 ⟨rfl, e0⟩
  rw [e0]
  show Ex d [] tb_X7_level (21, [], [.long (unt 4), .long (((unt 1) + (unt 2)) + (unt 3)), .long 200]) h _
  refine Ex.pure 2 (fr2 := (23, [], [.long (200 * ((((unt 1) + (unt 2)) + (unt 3)) + (unt 4)))])) rfl ?_
  exact Ex.lret rfl H
theorem t_X7_level {h : XH} {y : Nat → Nat} (hs : Sg h.1 y) : Tr 2 m_X7_level [] h (fun o h2 => o = .inl (some (.long lvl)) ∧ h2 = h) :=
  Tr.ca (w_X7_level (d := 1) (Nat.le_refl _) hs ⟨rfl, rfl⟩)
theorem w_X7_exponentOf {d : Nat} {h : XH} {y : Nat → Nat} {K : XK} {E : XE} {p : Int64} {a : Int32} (hd : 1 ≤ d) (hs : Sg h.1 y) (H : (¬ (unt a) = 0 ∧ K (some (.long (((p / (unt a)) - (p / (unt a)) / 401 * 401) - 200))) h)) : Ca (d + 1) m_X7_exponentOf [.long p, .int a] h K E := by
  refine Ca.of ⟨by show 3 ≤ 3; omega, rfl⟩ ?_
  show Ex d [] tb_X7_exponentOf (0, [some (.long p), none, some (.int a)], []) h _
  refine Ex.pure 2 (fr2 := (2, [some (.long p), none, some (.int a)], [.int a, .long p])) rfl ?_
  refine Ex.ask (rest := [.long p]) (j := m_X7_unit) (as := [.int a]) (fun c => rfl) ((t_X7_unit hs).mono (by omega) (fun _ _ z => z)) ?_
  rintro _ h0 ⟨rfl, e0⟩
  rw [e0]
  show Ex d [] tb_X7_exponentOf (5, [some (.long p), none, some (.int a)], [.long (unt a), .long p]) h _
  refine Ex.ldiv rfl H.1 ?_
  replace H := H.2
  refine Ex.pure 1 (fr2 := (9, [some (.long p), none, some (.int a)], [.long 401, .long (p / (unt a))])) rfl ?_
  refine Ex.lrem rfl (by decide) ?_
  refine Ex.pure 2 (fr2 := (14, [some (.long p), none, some (.int a)], [.long (((p / (unt a)) - (p / (unt a)) / 401 * 401) - 200)])) rfl ?_
  exact Ex.lret rfl H
theorem t_X7_exponentOf {h : XH} {y : Nat → Nat} {p : Int64} {a : Int32} (hs : Sg h.1 y) : Tr 2 m_X7_exponentOf [.long p, .int a] h (fun o h2 => o = .inl (some (.long (xpn4 p a))) ∧ h2 = h) :=
  Tr.ca (w_X7_exponentOf (d := 1) (Nat.le_refl _) hs ⟨unt_ne a, rfl, rfl⟩)
theorem w_X1_keyOf {d : Nat} {h : XH} {y : Nat → Nat} {K : XK} {E : XE} {a : Int32} {b : Int32} {c : Int32} {e : Int32} (hd : 0 ≤ d) (hs : Sg h.1 y) (H : K (some (.long ((((550293209600 + ((a : Int32).toInt64 <<< ((30 : Int32).toInt64 &&& 63))) + ((b : Int32).toInt64 <<< ((20 : Int32).toInt64 &&& 63))) + ((c : Int32).toInt64 <<< ((10 : Int32).toInt64 &&& 63))) + (e : Int32).toInt64))) h) : Ca (d + 1) m_X1_keyOf [.int a, .int b, .int c, .int e] h K E := by
  refine Ca.of ⟨by show 4 ≤ 4; omega, rfl⟩ ?_
  show Ex d [] tb_X1_keyOf (0, [some (.int a), some (.int b), some (.int c), some (.int e)], []) h _
  refine Ex.pure 19 (fr2 := (24, [some (.int a), some (.int b), some (.int c), some (.int e)], [.long ((((550293209600 + ((a : Int32).toInt64 <<< ((30 : Int32).toInt64 &&& 63))) + ((b : Int32).toInt64 <<< ((20 : Int32).toInt64 &&& 63))) + ((c : Int32).toInt64 <<< ((10 : Int32).toInt64 &&& 63))) + (e : Int32).toInt64)])) rfl ?_
  exact Ex.lret rfl H
theorem t_X1_keyOf {h : XH} {y : Nat → Nat} {a : Int32} {b : Int32} {c : Int32} {e : Int32} (hs : Sg h.1 y) : Tr 1 m_X1_keyOf [.int a, .int b, .int c, .int e] h (fun o h2 => o = .inl (some (.long (keyv a b c e))) ∧ h2 = h) :=
  Tr.ca (w_X1_keyOf (d := 0) (Nat.le_refl _) hs ⟨rfl, rfl⟩)
theorem w_X1_exponentIn {d : Nat} {h : XH} {y : Nat → Nat} {K : XK} {E : XE} {a : Int64} {b : Int32} (hd : 0 ≤ d) (hs : Sg h.1 y) (H : K (some (.int (((((a >>> (((10 * (4 - b)) : Int32).toInt64 &&& 63)) &&& 1023) - 512) : Int64).toInt32))) h) : Ca (d + 1) m_X1_exponentIn [.long a, .int b] h K E := by
  refine Ca.of ⟨by show 3 ≤ 3; omega, rfl⟩ ?_
  show Ex d [] tb_X1_exponentIn (0, [some (.long a), none, some (.int b)], []) h _
  refine Ex.pure 12 (fr2 := (17, [some (.long a), none, some (.int b)], [.int (((((a >>> (((10 * (4 - b)) : Int32).toInt64 &&& 63)) &&& 1023) - 512) : Int64).toInt32)])) rfl ?_
  exact Ex.iret rfl (Or.inl rfl) H
theorem t_X1_exponentIn {h : XH} {y : Nat → Nat} {a : Int64} {b : Int32} (hs : Sg h.1 y) : Tr 1 m_X1_exponentIn [.long a, .int b] h (fun o h2 => o = .inl (some (.int (xpin a b))) ∧ h2 = h) :=
  Tr.ca (w_X1_exponentIn (d := 0) (Nat.le_refl _) hs ⟨rfl, rfl⟩)
end
section
/-! ===== layer 3: ordinals as trees: a power (its exponent, its times) and the rest ===== -/
abbrev O : Type := Std.DTreeMap.Internal.Impl Unit (fun _ => Unit)
abbrev OP : Type := O × Nat
def pl : O → List OP
  | .leaf => []
  | .inner n _ _ e r => (e, n) :: pl r
def mk : List OP → O
  | [] => .leaf
  | (e, n) :: l => .inner n () () e (mk l)
theorem pl_mk : ∀ l, pl (mk l) = l := by
  intro l
  induction l with
  | nil => rfl
  | cons p l ih =>
    obtain ⟨e, n⟩ := p
    show (e, n) :: pl (mk l) = _
    rw [ih]
theorem mk_pl : ∀ x, mk (pl x) = x := by
  intro x
  induction x with
  | leaf => rfl
  | inner n k v e r _ ih =>
    show Std.DTreeMap.Internal.Impl.inner n () () e (mk (pl r)) = _
    rw [ih]
theorem pl_inj {x y : O} (h : pl x = pl y) : x = y := by rw [← mk_pl x, ← mk_pl y, h]
theorem mk_inj {a b : List OP} (h : mk a = mk b) : a = b := by rw [← pl_mk a, ← pl_mk b, h]
theorem pl_nil {x : O} (h : pl x = []) : x = .leaf := by rw [← mk_pl x, h]; rfl
def dep : O → Nat
  | .leaf => 0
  | .inner _ _ _ e r => max (dep e + 1) (dep r)
/-- the order: -1, 0, 1 -/
def oc : O → O → Int
  | .leaf => fun y => match y with
    | .leaf => 0
    | .inner _ _ _ _ _ => -1
  | .inner n _ _ e r => fun y => match y with
    | .leaf => 1
    | .inner m _ _ f s => if oc e f = 0 then (if n < m then -1 else if m < n then 1 else oc r s) else oc e f
theorem oc_lz {n : Nat} {k v : Unit} {e r : O} : oc .leaf (.inner n k v e r) = -1 := rfl
theorem oc_zl {n : Nat} {k v : Unit} {e r : O} : oc (.inner n k v e r) .leaf = 1 := rfl
theorem oc_ii {n m : Nat} {k v k2 v2 : Unit} {e r f s : O} : oc (.inner n k v e r) (.inner m k2 v2 f s) = if oc e f = 0 then (if n < m then -1 else if m < n then 1 else oc r s) else oc e f := rfl
theorem oc_self : ∀ x, oc x x = 0 := by
  intro x
  induction x with
  | leaf => rfl
  | inner n k v e r ihe ihr =>
    rw [oc_ii, if_pos ihe, if_neg (Nat.lt_irrefl _), if_neg (Nat.lt_irrefl _)]
    exact ihr
theorem oc_val : ∀ x y, oc x y = -1 ∨ oc x y = 0 ∨ oc x y = 1 := by
  intro x
  induction x with
  | leaf =>
    intro y
    cases y with
    | leaf => exact Or.inr (Or.inl rfl)
    | inner => exact Or.inl rfl
  | inner n k v e r ihe ihr =>
    intro y
    cases y with
    | leaf => exact Or.inr (Or.inr rfl)
    | inner m k2 v2 f s =>
      rw [oc_ii]
      have a := ihe f
      have b := ihr s
      split
      · split
        · omega
        · split <;> omega
      · omega
theorem oc_eq : ∀ x y, oc x y = 0 → x = y := by
  intro x
  induction x with
  | leaf =>
    intro y h
    cases y with
    | leaf => rfl
    | inner => rw [oc_lz] at h; omega
  | inner n k v e r ihe ihr =>
    intro y h
    cases y with
    | leaf => rw [oc_zl] at h; omega
    | inner m k2 v2 f s =>
      rw [oc_ii] at h
      by_cases a : oc e f = 0
      · rw [if_pos a] at h
        by_cases b : n < m
        · rw [if_pos b] at h; omega
        · rw [if_neg b] at h
          by_cases c : m < n
          · rw [if_pos c] at h; omega
          · rw [if_neg c] at h
            rw [ihe _ a, ihr _ h, show n = m by omega]
      · rw [if_neg a] at h
        exact absurd h a
theorem oc_sw : ∀ x y, oc y x = - oc x y := by
  intro x
  induction x with
  | leaf =>
    intro y
    cases y with
    | leaf => rfl
    | inner => rfl
  | inner n k v e r ihe ihr =>
    intro y
    cases y with
    | leaf => rfl
    | inner m k2 v2 f s =>
      rw [oc_ii, oc_ii, ihe f]
      by_cases a : oc e f = 0
      · rw [if_pos a, if_pos (by omega)]
        by_cases b : n < m
        · rw [if_pos b, if_neg (by omega), if_pos b]; rfl
        · by_cases c : m < n
          · rw [if_pos c, if_neg b, if_pos c]
          · rw [if_neg c, if_neg b, if_neg b, if_neg c, ihr s]
      · rw [if_neg a, if_neg (by omega)]
theorem oc_tr : ∀ x y z, oc x y = 1 → oc y z = 1 → oc x z = 1 := by
  intro x
  induction x with
  | leaf =>
    intro y z h1 h2
    cases y with
    | leaf => have : oc .leaf .leaf = 0 := rfl; omega
    | inner => rw [oc_lz] at h1; omega
  | inner n k v e r ihe ihr =>
    intro y z h1 h2
    cases y with
    | leaf =>
      cases z with
      | leaf => rfl
      | inner => rw [oc_lz] at h2; omega
    | inner m k2 v2 f s =>
      cases z with
      | leaf => rfl
      | inner p k3 v3 g t =>
        rw [oc_ii] at h1 h2 ⊢
        by_cases a : oc e f = 0
        · have ea := oc_eq _ _ a
          subst ea
          rw [if_pos a] at h1
          by_cases b : oc e g = 0
          · rw [if_pos b] at h2 ⊢
            by_cases c : n < m
            · rw [if_pos c] at h1; omega
            · rw [if_neg c] at h1
              by_cases c2 : m < p
              · rw [if_pos c2] at h2; omega
              · rw [if_neg c2] at h2
                by_cases c3 : p < n
                · rw [if_neg (by omega), if_pos c3]
                · have e1 : m = n := by omega
                  have e2 : p = n := by omega
                  subst e1 e2
                  rw [if_neg (by omega), if_neg (by omega)]
                  rw [if_neg (by omega)] at h1 h2
                  exact ihr _ _ h1 h2
          · rw [if_neg b] at h2 ⊢
            exact h2
        · rw [if_neg a] at h1
          by_cases b : oc f g = 0
          · have eb := oc_eq _ _ b
            subst eb
            rw [if_neg a]
            exact h1
          · rw [if_neg b] at h2
            have := ihe _ _ h1 h2
            rw [if_neg (by omega)]
            exact this
theorem oc_asym {x y : O} (h : oc x y = 1) : oc y x = -1 := by rw [oc_sw x y, h]
theorem oc_m1 {x y : O} (h : oc x y = -1) : oc y x = 1 := by rw [oc_sw x y, h]; rfl
theorem oc_leaf {x : O} (h : ¬ x = .leaf) : oc x .leaf = 1 := by
  cases x with
  | leaf => exact absurd rfl h
  | inner => rfl
/-- the exponent is above all of the list's -/
def top (e : O) (l : List OP) : Prop := ∀ p ∈ l, oc e p.1 = 1
/-- falling exponents, times 1 or more -/
def srt : List OP → Prop
  | [] => True
  | p :: l => 1 ≤ p.2 ∧ top p.1 l ∧ srt l
/-- normal form, in the exponents too -/
def nf : O → Prop
  | .leaf => True
  | .inner n _ _ e r => 1 ≤ n ∧ top e (pl r) ∧ nf e ∧ nf r
theorem nf_srt : ∀ x, nf x → srt (pl x) := by
  intro x
  induction x with
  | leaf => intro _; trivial
  | inner n k v e r _ ih =>
    intro h
    exact ⟨h.1, h.2.1, ih h.2.2.2⟩
theorem nf_ex : ∀ x, nf x → ∀ p ∈ pl x, nf p.1 := by
  intro x
  induction x with
  | leaf => intro _ p hp; cases hp
  | inner n k v e r _ ih =>
    intro h p hp
    rcases List.mem_cons.mp hp with z | z
    · subst z; exact h.2.2.1
    · exact ih h.2.2.2 p z
theorem nf_mk : ∀ l, srt l → (∀ p ∈ l, nf p.1) → nf (mk l) := by
  intro l
  induction l with
  | nil => intro _ _; trivial
  | cons p l ih =>
    intro h1 h2
    refine ⟨h1.1, ?_, h2 p List.mem_cons_self, ih h1.2.2 (fun q hq => h2 q (List.mem_cons_of_mem _ hq))⟩
    rw [pl_mk]
    exact h1.2.1
theorem dep_pl : ∀ x p, p ∈ pl x → dep p.1 + 1 ≤ dep x := by
  intro x
  induction x with
  | leaf => intro p hp; cases hp
  | inner n k v e r _ ih =>
    intro p hp
    show _ ≤ max (dep e + 1) (dep r)
    rcases List.mem_cons.mp hp with z | z
    · subst z; exact Nat.le_max_left _ _
    · exact Nat.le_trans (ih p z) (Nat.le_max_right _ _)
theorem dep_le : ∀ x n, (∀ p ∈ pl x, dep p.1 + 1 ≤ n) → dep x ≤ n := by
  intro x
  induction x with
  | leaf => intro n _; exact Nat.zero_le _
  | inner m k v e r _ ih =>
    intro n h
    show max (dep e + 1) (dep r) ≤ n
    exact Nat.max_le.mpr ⟨h _ List.mem_cons_self, ih n (fun p hp => h p (List.mem_cons_of_mem _ hp))⟩
/-- of two in normal form the greater one is as deep or deeper -/
theorem dep_mono : ∀ x y, nf x → nf y → oc x y = 1 → dep y ≤ dep x := by
  intro x
  induction x with
  | leaf =>
    intro y _ _ h
    cases y with
    | leaf => exact Nat.le_refl _
    | inner => rw [oc_lz] at h; omega
  | inner n k v e r ihe ihr =>
    intro y hx hy h
    cases y with
    | leaf => exact Nat.zero_le _
    | inner m k2 v2 f s =>
      rw [oc_ii] at h
      have hf : dep f ≤ dep e := by
        by_cases a : oc e f = 0
        · rw [oc_eq _ _ a]; exact Nat.le_refl _
        · rw [if_neg a] at h
          exact ihe f hx.2.2.1 hy.2.2.1 h
      refine dep_le _ _ (fun p hp => ?_)
      have h1 : dep e + 1 ≤ dep (Std.DTreeMap.Internal.Impl.inner n k v e r : O) := dep_pl _ (e, n) List.mem_cons_self
      rcases List.mem_cons.mp hp with z | z
      · subst z
        show dep f + 1 ≤ _
        omega
      · have h2 := hy.2.1 p z
        by_cases a : oc e f = 0
        · have ea := oc_eq _ _ a
          subst ea
          have := ihe p.1 hx.2.2.1 (nf_ex _ hy.2.2.2 p z) h2
          omega
        · rw [if_neg a] at h
          have := ihe p.1 hx.2.2.1 (nf_ex _ hy.2.2.2 p z) (oc_tr _ _ _ h h2)
          omega
/-- may be laid: few powers, few times, not too deep -/
def okm (x : O) : Prop := (pl x).length ≤ 8 ∧ (∀ p ∈ pl x, p.2 ≤ 1000000) ∧ dep x ≤ 5
/-- is laid -/
def gd (x : O) : Prop := nf x ∧ okm x
end

-- ===== PART A: goes FIRST, ahead of the names: the tables' words, and 'selects' of the private methods out of them =====
/-- a private method of a class that the tables say can be made, by its rows of tables_1 -/
def lw_okq (q : MethodName × Nat) : Prop := (q.1.cls ≠ "java/lang/invoke/MethodHandle" ∧ q.1.cls ≠ "java/lang/invoke/VarHandle") ∧ Cond.instantiable q.1.cls q.2 ∈ tables_1 ∧ Cond.privateMethod q.1 ∈ tables_1 ∧ Cond.instanceMethod q.1 ∈ tables_1
theorem lw_p0 : lw_okq (⟨"java/lang/Throwable", "fillInStackTrace", "(I)Ljava/lang/Throwable;"⟩, 6) := ⟨⟨by decide +kernel, by decide +kernel⟩, List.mem_of_getElem? (i := 209) (by decide +kernel), List.mem_of_getElem? (i := 207) (by decide +kernel), List.mem_of_getElem? (i := 208) (by decide +kernel)⟩
theorem lw_p1 : lw_okq (⟨"Transseria$Ordinals", "made", "(LTransseria$Draft;)I"⟩, 9) := ⟨⟨by decide +kernel, by decide +kernel⟩, List.mem_of_getElem? (i := 31) (by decide +kernel), List.mem_of_getElem? (i := 296) (by decide +kernel), List.mem_of_getElem? (i := 297) (by decide +kernel)⟩
theorem lw_p2 : lw_okq (⟨"Transseria$Ordinals", "depthOf", "(LTransseria$Draft;)I"⟩, 9) := ⟨⟨by decide +kernel, by decide +kernel⟩, List.mem_of_getElem? (i := 31) (by decide +kernel), List.mem_of_getElem? (i := 304) (by decide +kernel), List.mem_of_getElem? (i := 305) (by decide +kernel)⟩
theorem lw_p3 : lw_okq (⟨"Transseria$Ordinals", "forget", "()V"⟩, 9) := ⟨⟨by decide +kernel, by decide +kernel⟩, List.mem_of_getElem? (i := 31) (by decide +kernel), List.mem_of_getElem? (i := 326) (by decide +kernel), List.mem_of_getElem? (i := 327) (by decide +kernel)⟩
theorem lw_p4 : lw_okq (⟨"Transseria$Ordinals", "write", "(LTransseria$Draft;I)V"⟩, 9) := ⟨⟨by decide +kernel, by decide +kernel⟩, List.mem_of_getElem? (i := 31) (by decide +kernel), List.mem_of_getElem? (i := 346) (by decide +kernel), List.mem_of_getElem? (i := 347) (by decide +kernel)⟩
theorem lw_p5 : lw_okq (⟨"Transseria", "keepOrdinal", "(II)V"⟩, 7) := ⟨⟨by decide +kernel, by decide +kernel⟩, List.mem_of_getElem? (i := 21) (by decide +kernel), List.mem_of_getElem? (i := 371) (by decide +kernel), List.mem_of_getElem? (i := 372) (by decide +kernel)⟩
theorem lw_p6 : lw_okq (⟨"Transseria", "ordinalAt", "(I)I"⟩, 7) := ⟨⟨by decide +kernel, by decide +kernel⟩, List.mem_of_getElem? (i := 21) (by decide +kernel), List.mem_of_getElem? (i := 387) (by decide +kernel), List.mem_of_getElem? (i := 388) (by decide +kernel)⟩
theorem lw_p7 : lw_okq (⟨"Transseria", "keepNumber", "(IJ)V"⟩, 7) := ⟨⟨by decide +kernel, by decide +kernel⟩, List.mem_of_getElem? (i := 21) (by decide +kernel), List.mem_of_getElem? (i := 407) (by decide +kernel), List.mem_of_getElem? (i := 408) (by decide +kernel)⟩
theorem lw_p8 : lw_okq (⟨"Transseria$Walk", "restart", "()V"⟩, 4) := ⟨⟨by decide +kernel, by decide +kernel⟩, List.mem_of_getElem? (i := 83) (by decide +kernel), List.mem_of_getElem? (i := 424) (by decide +kernel), List.mem_of_getElem? (i := 425) (by decide +kernel)⟩
theorem lw_p9 : lw_okq (⟨"Transseria$Walk", "goes", "(Z)Z"⟩, 4) := ⟨⟨by decide +kernel, by decide +kernel⟩, List.mem_of_getElem? (i := 83) (by decide +kernel), List.mem_of_getElem? (i := 430) (by decide +kernel), List.mem_of_getElem? (i := 431) (by decide +kernel)⟩
theorem lw_p10 : lw_okq (⟨"Transseria$Tally", "addRow", "()V"⟩, 3) := ⟨⟨by decide +kernel, by decide +kernel⟩, List.mem_of_getElem? (i := 102) (by decide +kernel), List.mem_of_getElem? (i := 470) (by decide +kernel), List.mem_of_getElem? (i := 471) (by decide +kernel)⟩
theorem lw_p11 : lw_okq (⟨"Transseria", "keepGrowth", "(I)V"⟩, 7) := ⟨⟨by decide +kernel, by decide +kernel⟩, List.mem_of_getElem? (i := 21) (by decide +kernel), List.mem_of_getElem? (i := 487) (by decide +kernel), List.mem_of_getElem? (i := 488) (by decide +kernel)⟩
theorem lw_p12 : lw_okq (⟨"Transseria", "growthRow", "(I)LTransseria$Growth;"⟩, 7) := ⟨⟨by decide +kernel, by decide +kernel⟩, List.mem_of_getElem? (i := 21) (by decide +kernel), List.mem_of_getElem? (i := 495) (by decide +kernel), List.mem_of_getElem? (i := 496) (by decide +kernel)⟩
theorem lw_p13 : lw_okq (⟨"Transseria", "commonKind", "(II)I"⟩, 7) := ⟨⟨by decide +kernel, by decide +kernel⟩, List.mem_of_getElem? (i := 21) (by decide +kernel), List.mem_of_getElem? (i := 533) (by decide +kernel), List.mem_of_getElem? (i := 534) (by decide +kernel)⟩
theorem lw_p14 : lw_okq (⟨"Transseria$Ordinals", "powersAbove", "(III)I"⟩, 9) := ⟨⟨by decide +kernel, by decide +kernel⟩, List.mem_of_getElem? (i := 31) (by decide +kernel), List.mem_of_getElem? (i := 546) (by decide +kernel), List.mem_of_getElem? (i := 547) (by decide +kernel)⟩
theorem lw_p15 : lw_okq (⟨"Transseria$Ordinals", "order", "(III)I"⟩, 9) := ⟨⟨by decide +kernel, by decide +kernel⟩, List.mem_of_getElem? (i := 31) (by decide +kernel), List.mem_of_getElem? (i := 554) (by decide +kernel), List.mem_of_getElem? (i := 555) (by decide +kernel)⟩
def lw_privs_1 : List (MethodName × Nat) := [(⟨"java/lang/Throwable", "fillInStackTrace", "(I)Ljava/lang/Throwable;"⟩, 6), (⟨"Transseria$Ordinals", "made", "(LTransseria$Draft;)I"⟩, 9), (⟨"Transseria$Ordinals", "depthOf", "(LTransseria$Draft;)I"⟩, 9), (⟨"Transseria$Ordinals", "forget", "()V"⟩, 9), (⟨"Transseria$Ordinals", "write", "(LTransseria$Draft;I)V"⟩, 9), (⟨"Transseria", "keepOrdinal", "(II)V"⟩, 7), (⟨"Transseria", "ordinalAt", "(I)I"⟩, 7), (⟨"Transseria", "keepNumber", "(IJ)V"⟩, 7), (⟨"Transseria$Walk", "restart", "()V"⟩, 4), (⟨"Transseria$Walk", "goes", "(Z)Z"⟩, 4), (⟨"Transseria$Tally", "addRow", "()V"⟩, 3), (⟨"Transseria", "keepGrowth", "(I)V"⟩, 7), (⟨"Transseria", "growthRow", "(I)LTransseria$Growth;"⟩, 7), (⟨"Transseria", "commonKind", "(II)I"⟩, 7), (⟨"Transseria$Ordinals", "powersAbove", "(III)I"⟩, 9), (⟨"Transseria$Ordinals", "order", "(III)I"⟩, 9)]
theorem lw_r1 : ∀ q ∈ lw_privs_1, lw_okq q := List.forall_mem_cons.mpr ⟨lw_p0, List.forall_mem_cons.mpr ⟨lw_p1, List.forall_mem_cons.mpr ⟨lw_p2, List.forall_mem_cons.mpr ⟨lw_p3, List.forall_mem_cons.mpr ⟨lw_p4, List.forall_mem_cons.mpr ⟨lw_p5, List.forall_mem_cons.mpr ⟨lw_p6, List.forall_mem_cons.mpr ⟨lw_p7, List.forall_mem_cons.mpr ⟨lw_p8, List.forall_mem_cons.mpr ⟨lw_p9, List.forall_mem_cons.mpr ⟨lw_p10, List.forall_mem_cons.mpr ⟨lw_p11, List.forall_mem_cons.mpr ⟨lw_p12, List.forall_mem_cons.mpr ⟨lw_p13, List.forall_mem_cons.mpr ⟨lw_p14, List.forall_mem_cons.mpr ⟨lw_p15, fun _ h => absurd h List.not_mem_nil⟩⟩⟩⟩⟩⟩⟩⟩⟩⟩⟩⟩⟩⟩⟩⟩
theorem lw_p16 : lw_okq (⟨"Transseria$Ordinals", "draftPowers", "(III)V"⟩, 9) := ⟨⟨by decide +kernel, by decide +kernel⟩, List.mem_of_getElem? (i := 31) (by decide +kernel), List.mem_of_getElem? (i := 566) (by decide +kernel), List.mem_of_getElem? (i := 567) (by decide +kernel)⟩
theorem lw_p17 : lw_okq (⟨"Transseria", "numberAt", "(I)J"⟩, 7) := ⟨⟨by decide +kernel, by decide +kernel⟩, List.mem_of_getElem? (i := 21) (by decide +kernel), List.mem_of_getElem? (i := 570) (by decide +kernel), List.mem_of_getElem? (i := 571) (by decide +kernel)⟩
theorem lw_p18 : lw_okq (⟨"Transseria", "growthAt", "(I)LTransseria$Growth;"⟩, 7) := ⟨⟨by decide +kernel, by decide +kernel⟩, List.mem_of_getElem? (i := 21) (by decide +kernel), List.mem_of_getElem? (i := 576) (by decide +kernel), List.mem_of_getElem? (i := 577) (by decide +kernel)⟩
theorem lw_p19 : lw_okq (⟨"Transseria", "addGrowths", "(LTransseria$Growth;LTransseria$Growth;I)V"⟩, 7) := ⟨⟨by decide +kernel, by decide +kernel⟩, List.mem_of_getElem? (i := 21) (by decide +kernel), List.mem_of_getElem? (i := 581) (by decide +kernel), List.mem_of_getElem? (i := 582) (by decide +kernel)⟩
theorem lw_p20 : lw_okq (⟨"Transseria", "multiplyGrowths", "(LTransseria$Growth;LTransseria$Growth;)V"⟩, 7) := ⟨⟨by decide +kernel, by decide +kernel⟩, List.mem_of_getElem? (i := 21) (by decide +kernel), List.mem_of_getElem? (i := 608) (by decide +kernel), List.mem_of_getElem? (i := 609) (by decide +kernel)⟩
theorem lw_p21 : lw_okq (⟨"Transseria$Ordinals", "addPair", "(JII)V"⟩, 9) := ⟨⟨by decide +kernel, by decide +kernel⟩, List.mem_of_getElem? (i := 31) (by decide +kernel), List.mem_of_getElem? (i := 634) (by decide +kernel), List.mem_of_getElem? (i := 635) (by decide +kernel)⟩
theorem lw_p22 : lw_okq (⟨"Transseria$Ordinals", "lower", "(III)I"⟩, 9) := ⟨⟨by decide +kernel, by decide +kernel⟩, List.mem_of_getElem? (i := 31) (by decide +kernel), List.mem_of_getElem? (i := 696) (by decide +kernel), List.mem_of_getElem? (i := 697) (by decide +kernel)⟩
theorem lw_p23 : lw_okq (⟨"Transseria$Ordinals", "draftLess", "(II)V"⟩, 9) := ⟨⟨by decide +kernel, by decide +kernel⟩, List.mem_of_getElem? (i := 31) (by decide +kernel), List.mem_of_getElem? (i := 700) (by decide +kernel), List.mem_of_getElem? (i := 701) (by decide +kernel)⟩
theorem lw_p24 : lw_okq (⟨"Transseria$Ordinals", "finiteTail", "(I)I"⟩, 9) := ⟨⟨by decide +kernel, by decide +kernel⟩, List.mem_of_getElem? (i := 31) (by decide +kernel), List.mem_of_getElem? (i := 704) (by decide +kernel), List.mem_of_getElem? (i := 705) (by decide +kernel)⟩
theorem lw_p25 : lw_okq (⟨"Transseria$Ordinals", "lessened", "(II)I"⟩, 9) := ⟨⟨by decide +kernel, by decide +kernel⟩, List.mem_of_getElem? (i := 31) (by decide +kernel), List.mem_of_getElem? (i := 719) (by decide +kernel), List.mem_of_getElem? (i := 720) (by decide +kernel)⟩
theorem lw_p26 : lw_okq (⟨"Transseria", "ordinalWithPower", "(II)I"⟩, 7) := ⟨⟨by decide +kernel, by decide +kernel⟩, List.mem_of_getElem? (i := 21) (by decide +kernel), List.mem_of_getElem? (i := 743) (by decide +kernel), List.mem_of_getElem? (i := 744) (by decide +kernel)⟩
theorem lw_p27 : lw_okq (⟨"Transseria", "greatestOf", "(I)J"⟩, 7) := ⟨⟨by decide +kernel, by decide +kernel⟩, List.mem_of_getElem? (i := 21) (by decide +kernel), List.mem_of_getElem? (i := 765) (by decide +kernel), List.mem_of_getElem? (i := 766) (by decide +kernel)⟩
theorem lw_p28 : lw_okq (⟨"Transseria", "leastOf", "(I)J"⟩, 7) := ⟨⟨by decide +kernel, by decide +kernel⟩, List.mem_of_getElem? (i := 21) (by decide +kernel), List.mem_of_getElem? (i := 773) (by decide +kernel), List.mem_of_getElem? (i := 774) (by decide +kernel)⟩
theorem lw_p29 : lw_okq (⟨"TransseriaModel", "holds", "(I)Z"⟩, 28) := ⟨⟨by decide +kernel, by decide +kernel⟩, List.mem_of_getElem? (i := 843) (by decide +kernel), List.mem_of_getElem? (i := 949) (by decide +kernel), List.mem_of_getElem? (i := 950) (by decide +kernel)⟩
theorem lw_p30 : lw_okq (⟨"TransseriaModel", "lays", "(III)V"⟩, 28) := ⟨⟨by decide +kernel, by decide +kernel⟩, List.mem_of_getElem? (i := 843) (by decide +kernel), List.mem_of_getElem? (i := 957) (by decide +kernel), List.mem_of_getElem? (i := 958) (by decide +kernel)⟩
theorem lw_p31 : lw_okq (⟨"TransseriaModel", "begin", "()V"⟩, 28) := ⟨⟨by decide +kernel, by decide +kernel⟩, List.mem_of_getElem? (i := 843) (by decide +kernel), List.mem_of_getElem? (i := 966) (by decide +kernel), List.mem_of_getElem? (i := 967) (by decide +kernel)⟩
def lw_privs_2 : List (MethodName × Nat) := [(⟨"Transseria$Ordinals", "draftPowers", "(III)V"⟩, 9), (⟨"Transseria", "numberAt", "(I)J"⟩, 7), (⟨"Transseria", "growthAt", "(I)LTransseria$Growth;"⟩, 7), (⟨"Transseria", "addGrowths", "(LTransseria$Growth;LTransseria$Growth;I)V"⟩, 7), (⟨"Transseria", "multiplyGrowths", "(LTransseria$Growth;LTransseria$Growth;)V"⟩, 7), (⟨"Transseria$Ordinals", "addPair", "(JII)V"⟩, 9), (⟨"Transseria$Ordinals", "lower", "(III)I"⟩, 9), (⟨"Transseria$Ordinals", "draftLess", "(II)V"⟩, 9), (⟨"Transseria$Ordinals", "finiteTail", "(I)I"⟩, 9), (⟨"Transseria$Ordinals", "lessened", "(II)I"⟩, 9), (⟨"Transseria", "ordinalWithPower", "(II)I"⟩, 7), (⟨"Transseria", "greatestOf", "(I)J"⟩, 7), (⟨"Transseria", "leastOf", "(I)J"⟩, 7), (⟨"TransseriaModel", "holds", "(I)Z"⟩, 28), (⟨"TransseriaModel", "lays", "(III)V"⟩, 28), (⟨"TransseriaModel", "begin", "()V"⟩, 28)]
theorem lw_r2 : ∀ q ∈ lw_privs_2, lw_okq q := List.forall_mem_cons.mpr ⟨lw_p16, List.forall_mem_cons.mpr ⟨lw_p17, List.forall_mem_cons.mpr ⟨lw_p18, List.forall_mem_cons.mpr ⟨lw_p19, List.forall_mem_cons.mpr ⟨lw_p20, List.forall_mem_cons.mpr ⟨lw_p21, List.forall_mem_cons.mpr ⟨lw_p22, List.forall_mem_cons.mpr ⟨lw_p23, List.forall_mem_cons.mpr ⟨lw_p24, List.forall_mem_cons.mpr ⟨lw_p25, List.forall_mem_cons.mpr ⟨lw_p26, List.forall_mem_cons.mpr ⟨lw_p27, List.forall_mem_cons.mpr ⟨lw_p28, List.forall_mem_cons.mpr ⟨lw_p29, List.forall_mem_cons.mpr ⟨lw_p30, List.forall_mem_cons.mpr ⟨lw_p31, fun _ h => absurd h List.not_mem_nil⟩⟩⟩⟩⟩⟩⟩⟩⟩⟩⟩⟩⟩⟩⟩⟩
theorem lw_p32 : lw_okq (⟨"TransseriaModel", "gathers", "()V"⟩, 28) := ⟨⟨by decide +kernel, by decide +kernel⟩, List.mem_of_getElem? (i := 843) (by decide +kernel), List.mem_of_getElem? (i := 970) (by decide +kernel), List.mem_of_getElem? (i := 971) (by decide +kernel)⟩
theorem lw_p33 : lw_okq (⟨"TransseriaModel", "finiteOne", "(I)I"⟩, 28) := ⟨⟨by decide +kernel, by decide +kernel⟩, List.mem_of_getElem? (i := 843) (by decide +kernel), List.mem_of_getElem? (i := 974) (by decide +kernel), List.mem_of_getElem? (i := 975) (by decide +kernel)⟩
theorem lw_p34 : lw_okq (⟨"TransseriaModel", "adds", "(IJ)V"⟩, 28) := ⟨⟨by decide +kernel, by decide +kernel⟩, List.mem_of_getElem? (i := 843) (by decide +kernel), List.mem_of_getElem? (i := 978) (by decide +kernel), List.mem_of_getElem? (i := 979) (by decide +kernel)⟩
theorem lw_p35 : lw_okq (⟨"TransseriaModel", "makes", "()I"⟩, 28) := ⟨⟨by decide +kernel, by decide +kernel⟩, List.mem_of_getElem? (i := 843) (by decide +kernel), List.mem_of_getElem? (i := 982) (by decide +kernel), List.mem_of_getElem? (i := 983) (by decide +kernel)⟩
theorem lw_p36 : lw_okq (⟨"TransseriaModel", "isMade", "(I)Z"⟩, 28) := ⟨⟨by decide +kernel, by decide +kernel⟩, List.mem_of_getElem? (i := 843) (by decide +kernel), List.mem_of_getElem? (i := 986) (by decide +kernel), List.mem_of_getElem? (i := 987) (by decide +kernel)⟩
theorem lw_p37 : lw_okq (⟨"TransseriaModel", "isKind", "(II)Z"⟩, 28) := ⟨⟨by decide +kernel, by decide +kernel⟩, List.mem_of_getElem? (i := 843) (by decide +kernel), List.mem_of_getElem? (i := 994) (by decide +kernel), List.mem_of_getElem? (i := 995) (by decide +kernel)⟩
theorem lw_p38 : lw_okq (⟨"TransseriaModel", "powerOf", "(I)I"⟩, 28) := ⟨⟨by decide +kernel, by decide +kernel⟩, List.mem_of_getElem? (i := 843) (by decide +kernel), List.mem_of_getElem? (i := 998) (by decide +kernel), List.mem_of_getElem? (i := 999) (by decide +kernel)⟩
theorem lw_p39 : lw_okq (⟨"TransseriaModel", "begins", "()V"⟩, 28) := ⟨⟨by decide +kernel, by decide +kernel⟩, List.mem_of_getElem? (i := 843) (by decide +kernel), List.mem_of_getElem? (i := 1017) (by decide +kernel), List.mem_of_getElem? (i := 1018) (by decide +kernel)⟩
theorem lw_p40 : lw_okq (⟨"TransseriaModel", "goes", "(Z)Z"⟩, 28) := ⟨⟨by decide +kernel, by decide +kernel⟩, List.mem_of_getElem? (i := 843) (by decide +kernel), List.mem_of_getElem? (i := 1021) (by decide +kernel), List.mem_of_getElem? (i := 1022) (by decide +kernel)⟩
theorem lw_p41 : lw_okq (⟨"TransseriaModel", "joins", "(JJ)V"⟩, 28) := ⟨⟨by decide +kernel, by decide +kernel⟩, List.mem_of_getElem? (i := 843) (by decide +kernel), List.mem_of_getElem? (i := 1042) (by decide +kernel), List.mem_of_getElem? (i := 1043) (by decide +kernel)⟩
theorem lw_p42 : lw_okq (⟨"TransseriaModel", "fits", "()Z"⟩, 28) := ⟨⟨by decide +kernel, by decide +kernel⟩, List.mem_of_getElem? (i := 843) (by decide +kernel), List.mem_of_getElem? (i := 1046) (by decide +kernel), List.mem_of_getElem? (i := 1047) (by decide +kernel)⟩
theorem lw_p43 : lw_okq (⟨"TransseriaModel", "laysGrowth", "(I)V"⟩, 28) := ⟨⟨by decide +kernel, by decide +kernel⟩, List.mem_of_getElem? (i := 843) (by decide +kernel), List.mem_of_getElem? (i := 1057) (by decide +kernel), List.mem_of_getElem? (i := 1058) (by decide +kernel)⟩
theorem lw_p44 : lw_okq (⟨"TransseriaModel", "setsSum", "(III)Z"⟩, 28) := ⟨⟨by decide +kernel, by decide +kernel⟩, List.mem_of_getElem? (i := 843) (by decide +kernel), List.mem_of_getElem? (i := 1068) (by decide +kernel), List.mem_of_getElem? (i := 1069) (by decide +kernel)⟩
theorem lw_p45 : lw_okq (⟨"TransseriaModel", "areBoth", "(III)Z"⟩, 28) := ⟨⟨by decide +kernel, by decide +kernel⟩, List.mem_of_getElem? (i := 843) (by decide +kernel), List.mem_of_getElem? (i := 1072) (by decide +kernel), List.mem_of_getElem? (i := 1073) (by decide +kernel)⟩
theorem lw_p46 : lw_okq (⟨"TransseriaModel", "summed", "(II)I"⟩, 28) := ⟨⟨by decide +kernel, by decide +kernel⟩, List.mem_of_getElem? (i := 843) (by decide +kernel), List.mem_of_getElem? (i := 1076) (by decide +kernel), List.mem_of_getElem? (i := 1077) (by decide +kernel)⟩
theorem lw_p47 : lw_okq (⟨"TransseriaModel", "compared", "(II)I"⟩, 28) := ⟨⟨by decide +kernel, by decide +kernel⟩, List.mem_of_getElem? (i := 843) (by decide +kernel), List.mem_of_getElem? (i := 1080) (by decide +kernel), List.mem_of_getElem? (i := 1081) (by decide +kernel)⟩
def lw_privs_3 : List (MethodName × Nat) := [(⟨"TransseriaModel", "gathers", "()V"⟩, 28), (⟨"TransseriaModel", "finiteOne", "(I)I"⟩, 28), (⟨"TransseriaModel", "adds", "(IJ)V"⟩, 28), (⟨"TransseriaModel", "makes", "()I"⟩, 28), (⟨"TransseriaModel", "isMade", "(I)Z"⟩, 28), (⟨"TransseriaModel", "isKind", "(II)Z"⟩, 28), (⟨"TransseriaModel", "powerOf", "(I)I"⟩, 28), (⟨"TransseriaModel", "begins", "()V"⟩, 28), (⟨"TransseriaModel", "goes", "(Z)Z"⟩, 28), (⟨"TransseriaModel", "joins", "(JJ)V"⟩, 28), (⟨"TransseriaModel", "fits", "()Z"⟩, 28), (⟨"TransseriaModel", "laysGrowth", "(I)V"⟩, 28), (⟨"TransseriaModel", "setsSum", "(III)Z"⟩, 28), (⟨"TransseriaModel", "areBoth", "(III)Z"⟩, 28), (⟨"TransseriaModel", "summed", "(II)I"⟩, 28), (⟨"TransseriaModel", "compared", "(II)I"⟩, 28)]
theorem lw_r3 : ∀ q ∈ lw_privs_3, lw_okq q := List.forall_mem_cons.mpr ⟨lw_p32, List.forall_mem_cons.mpr ⟨lw_p33, List.forall_mem_cons.mpr ⟨lw_p34, List.forall_mem_cons.mpr ⟨lw_p35, List.forall_mem_cons.mpr ⟨lw_p36, List.forall_mem_cons.mpr ⟨lw_p37, List.forall_mem_cons.mpr ⟨lw_p38, List.forall_mem_cons.mpr ⟨lw_p39, List.forall_mem_cons.mpr ⟨lw_p40, List.forall_mem_cons.mpr ⟨lw_p41, List.forall_mem_cons.mpr ⟨lw_p42, List.forall_mem_cons.mpr ⟨lw_p43, List.forall_mem_cons.mpr ⟨lw_p44, List.forall_mem_cons.mpr ⟨lw_p45, List.forall_mem_cons.mpr ⟨lw_p46, List.forall_mem_cons.mpr ⟨lw_p47, fun _ h => absurd h List.not_mem_nil⟩⟩⟩⟩⟩⟩⟩⟩⟩⟩⟩⟩⟩⟩⟩⟩
theorem lw_p48 : lw_okq (⟨"TransseriaModel", "setsOrdinal", "(II)Z"⟩, 28) := ⟨⟨by decide +kernel, by decide +kernel⟩, List.mem_of_getElem? (i := 843) (by decide +kernel), List.mem_of_getElem? (i := 1084) (by decide +kernel), List.mem_of_getElem? (i := 1085) (by decide +kernel)⟩
theorem lw_p49 : lw_okq (⟨"TransseriaModel", "setsNumber", "(IJ)Z"⟩, 28) := ⟨⟨by decide +kernel, by decide +kernel⟩, List.mem_of_getElem? (i := 843) (by decide +kernel), List.mem_of_getElem? (i := 1088) (by decide +kernel), List.mem_of_getElem? (i := 1089) (by decide +kernel)⟩
theorem lw_p50 : lw_okq (⟨"TransseriaModel", "joinsBoth", "(III)Z"⟩, 28) := ⟨⟨by decide +kernel, by decide +kernel⟩, List.mem_of_getElem? (i := 843) (by decide +kernel), List.mem_of_getElem? (i := 1092) (by decide +kernel), List.mem_of_getElem? (i := 1093) (by decide +kernel)⟩
theorem lw_p51 : lw_okq (⟨"TransseriaModel", "joinsAll", "(II)V"⟩, 28) := ⟨⟨by decide +kernel, by decide +kernel⟩, List.mem_of_getElem? (i := 843) (by decide +kernel), List.mem_of_getElem? (i := 1096) (by decide +kernel), List.mem_of_getElem? (i := 1097) (by decide +kernel)⟩
theorem lw_p52 : lw_okq (⟨"TransseriaModel", "setsGrowth", "(IZ)Z"⟩, 28) := ⟨⟨by decide +kernel, by decide +kernel⟩, List.mem_of_getElem? (i := 843) (by decide +kernel), List.mem_of_getElem? (i := 1100) (by decide +kernel), List.mem_of_getElem? (i := 1101) (by decide +kernel)⟩
theorem lw_p53 : lw_okq (⟨"TransseriaModel", "told", "(IZZ)I"⟩, 28) := ⟨⟨by decide +kernel, by decide +kernel⟩, List.mem_of_getElem? (i := 843) (by decide +kernel), List.mem_of_getElem? (i := 1104) (by decide +kernel), List.mem_of_getElem? (i := 1105) (by decide +kernel)⟩
theorem lw_p54 : lw_okq (⟨"TransseriaModel", "setsProduct", "(III)Z"⟩, 28) := ⟨⟨by decide +kernel, by decide +kernel⟩, List.mem_of_getElem? (i := 843) (by decide +kernel), List.mem_of_getElem? (i := 1112) (by decide +kernel), List.mem_of_getElem? (i := 1113) (by decide +kernel)⟩
theorem lw_p55 : lw_okq (⟨"TransseriaModel", "multiplied", "(II)I"⟩, 28) := ⟨⟨by decide +kernel, by decide +kernel⟩, List.mem_of_getElem? (i := 843) (by decide +kernel), List.mem_of_getElem? (i := 1116) (by decide +kernel), List.mem_of_getElem? (i := 1117) (by decide +kernel)⟩
theorem lw_p56 : lw_okq (⟨"TransseriaModel", "last", "(I)I"⟩, 28) := ⟨⟨by decide +kernel, by decide +kernel⟩, List.mem_of_getElem? (i := 843) (by decide +kernel), List.mem_of_getElem? (i := 1120) (by decide +kernel), List.mem_of_getElem? (i := 1121) (by decide +kernel)⟩
theorem lw_p57 : lw_okq (⟨"TransseriaModel", "multiplies", "(II)Z"⟩, 28) := ⟨⟨by decide +kernel, by decide +kernel⟩, List.mem_of_getElem? (i := 843) (by decide +kernel), List.mem_of_getElem? (i := 1124) (by decide +kernel), List.mem_of_getElem? (i := 1125) (by decide +kernel)⟩
theorem lw_p58 : lw_okq (⟨"TransseriaModel", "setsDifference", "(III)Z"⟩, 28) := ⟨⟨by decide +kernel, by decide +kernel⟩, List.mem_of_getElem? (i := 843) (by decide +kernel), List.mem_of_getElem? (i := 1132) (by decide +kernel), List.mem_of_getElem? (i := 1133) (by decide +kernel)⟩
theorem lw_p59 : lw_okq (⟨"TransseriaModel", "setsNatural", "(IIIZ)Z"⟩, 28) := ⟨⟨by decide +kernel, by decide +kernel⟩, List.mem_of_getElem? (i := 843) (by decide +kernel), List.mem_of_getElem? (i := 1140) (by decide +kernel), List.mem_of_getElem? (i := 1141) (by decide +kernel)⟩
theorem lw_p60 : lw_okq (⟨"TransseriaModel", "multipliedNaturally", "(II)I"⟩, 28) := ⟨⟨by decide +kernel, by decide +kernel⟩, List.mem_of_getElem? (i := 843) (by decide +kernel), List.mem_of_getElem? (i := 1144) (by decide +kernel), List.mem_of_getElem? (i := 1145) (by decide +kernel)⟩
theorem lw_p61 : lw_okq (⟨"TransseriaModel", "summedNaturally", "(II)I"⟩, 28) := ⟨⟨by decide +kernel, by decide +kernel⟩, List.mem_of_getElem? (i := 843) (by decide +kernel), List.mem_of_getElem? (i := 1148) (by decide +kernel), List.mem_of_getElem? (i := 1149) (by decide +kernel)⟩
theorem lw_p62 : lw_okq (⟨"TransseriaModel", "puts", "(IJ)V"⟩, 28) := ⟨⟨by decide +kernel, by decide +kernel⟩, List.mem_of_getElem? (i := 843) (by decide +kernel), List.mem_of_getElem? (i := 1152) (by decide +kernel), List.mem_of_getElem? (i := 1153) (by decide +kernel)⟩
theorem lw_p63 : lw_okq (⟨"TransseriaModel", "derives", "(I)Z"⟩, 28) := ⟨⟨by decide +kernel, by decide +kernel⟩, List.mem_of_getElem? (i := 843) (by decide +kernel), List.mem_of_getElem? (i := 1160) (by decide +kernel), List.mem_of_getElem? (i := 1161) (by decide +kernel)⟩
def lw_privs_4 : List (MethodName × Nat) := [(⟨"TransseriaModel", "setsOrdinal", "(II)Z"⟩, 28), (⟨"TransseriaModel", "setsNumber", "(IJ)Z"⟩, 28), (⟨"TransseriaModel", "joinsBoth", "(III)Z"⟩, 28), (⟨"TransseriaModel", "joinsAll", "(II)V"⟩, 28), (⟨"TransseriaModel", "setsGrowth", "(IZ)Z"⟩, 28), (⟨"TransseriaModel", "told", "(IZZ)I"⟩, 28), (⟨"TransseriaModel", "setsProduct", "(III)Z"⟩, 28), (⟨"TransseriaModel", "multiplied", "(II)I"⟩, 28), (⟨"TransseriaModel", "last", "(I)I"⟩, 28), (⟨"TransseriaModel", "multiplies", "(II)Z"⟩, 28), (⟨"TransseriaModel", "setsDifference", "(III)Z"⟩, 28), (⟨"TransseriaModel", "setsNatural", "(IIIZ)Z"⟩, 28), (⟨"TransseriaModel", "multipliedNaturally", "(II)I"⟩, 28), (⟨"TransseriaModel", "summedNaturally", "(II)I"⟩, 28), (⟨"TransseriaModel", "puts", "(IJ)V"⟩, 28), (⟨"TransseriaModel", "derives", "(I)Z"⟩, 28)]
theorem lw_r4 : ∀ q ∈ lw_privs_4, lw_okq q := List.forall_mem_cons.mpr ⟨lw_p48, List.forall_mem_cons.mpr ⟨lw_p49, List.forall_mem_cons.mpr ⟨lw_p50, List.forall_mem_cons.mpr ⟨lw_p51, List.forall_mem_cons.mpr ⟨lw_p52, List.forall_mem_cons.mpr ⟨lw_p53, List.forall_mem_cons.mpr ⟨lw_p54, List.forall_mem_cons.mpr ⟨lw_p55, List.forall_mem_cons.mpr ⟨lw_p56, List.forall_mem_cons.mpr ⟨lw_p57, List.forall_mem_cons.mpr ⟨lw_p58, List.forall_mem_cons.mpr ⟨lw_p59, List.forall_mem_cons.mpr ⟨lw_p60, List.forall_mem_cons.mpr ⟨lw_p61, List.forall_mem_cons.mpr ⟨lw_p62, List.forall_mem_cons.mpr ⟨lw_p63, fun _ h => absurd h List.not_mem_nil⟩⟩⟩⟩⟩⟩⟩⟩⟩⟩⟩⟩⟩⟩⟩⟩
theorem lw_p64 : lw_okq (⟨"TransseriaModel", "comparedBoth", "(II)I"⟩, 28) := ⟨⟨by decide +kernel, by decide +kernel⟩, List.mem_of_getElem? (i := 843) (by decide +kernel), List.mem_of_getElem? (i := 1168) (by decide +kernel), List.mem_of_getElem? (i := 1169) (by decide +kernel)⟩
theorem lw_p65 : lw_okq (⟨"TransseriaModel", "comparedGrowths", "(II)I"⟩, 28) := ⟨⟨by decide +kernel, by decide +kernel⟩, List.mem_of_getElem? (i := 843) (by decide +kernel), List.mem_of_getElem? (i := 1172) (by decide +kernel), List.mem_of_getElem? (i := 1173) (by decide +kernel)⟩
theorem lw_p66 : lw_okq (⟨"TransseriaModel", "stepOf", "(II)I"⟩, 28) := ⟨⟨by decide +kernel, by decide +kernel⟩, List.mem_of_getElem? (i := 843) (by decide +kernel), List.mem_of_getElem? (i := 1180) (by decide +kernel), List.mem_of_getElem? (i := 1181) (by decide +kernel)⟩
theorem lw_p67 : lw_okq (⟨"TransseriaModel", "stepped", "(II)I"⟩, 28) := ⟨⟨by decide +kernel, by decide +kernel⟩, List.mem_of_getElem? (i := 843) (by decide +kernel), List.mem_of_getElem? (i := 1184) (by decide +kernel), List.mem_of_getElem? (i := 1185) (by decide +kernel)⟩
theorem lw_p68 : lw_okq (⟨"TransseriaModel", "lessOne", "(I)V"⟩, 28) := ⟨⟨by decide +kernel, by decide +kernel⟩, List.mem_of_getElem? (i := 843) (by decide +kernel), List.mem_of_getElem? (i := 1188) (by decide +kernel), List.mem_of_getElem? (i := 1189) (by decide +kernel)⟩
theorem lw_p69 : lw_okq (⟨"TransseriaModel", "descends", "(III)Z"⟩, 28) := ⟨⟨by decide +kernel, by decide +kernel⟩, List.mem_of_getElem? (i := 843) (by decide +kernel), List.mem_of_getElem? (i := 1197) (by decide +kernel), List.mem_of_getElem? (i := 1198) (by decide +kernel)⟩
theorem lw_p70 : lw_okq (⟨"TransseriaModel", "hasPower", "(II)Z"⟩, 28) := ⟨⟨by decide +kernel, by decide +kernel⟩, List.mem_of_getElem? (i := 843) (by decide +kernel), List.mem_of_getElem? (i := 1209) (by decide +kernel), List.mem_of_getElem? (i := 1210) (by decide +kernel)⟩
theorem lw_p71 : lw_okq (⟨"TransseriaModel", "cuts", "(II)Z"⟩, 28) := ⟨⟨by decide +kernel, by decide +kernel⟩, List.mem_of_getElem? (i := 843) (by decide +kernel), List.mem_of_getElem? (i := 1222) (by decide +kernel), List.mem_of_getElem? (i := 1223) (by decide +kernel)⟩
theorem lw_p72 : lw_okq (⟨"TransseriaModel", "finds", "(ZJZJ)Z"⟩, 28) := ⟨⟨by decide +kernel, by decide +kernel⟩, List.mem_of_getElem? (i := 843) (by decide +kernel), List.mem_of_getElem? (i := 1229) (by decide +kernel), List.mem_of_getElem? (i := 1230) (by decide +kernel)⟩
theorem lw_p73 : lw_okq (⟨"TransseriaModel", "birthdayOf", "(I)I"⟩, 28) := ⟨⟨by decide +kernel, by decide +kernel⟩, List.mem_of_getElem? (i := 843) (by decide +kernel), List.mem_of_getElem? (i := 1237) (by decide +kernel), List.mem_of_getElem? (i := 1238) (by decide +kernel)⟩
theorem lw_p74 : lw_okq (⟨"TransseriaModel", "goesTo", "(JI)I"⟩, 28) := ⟨⟨by decide +kernel, by decide +kernel⟩, List.mem_of_getElem? (i := 843) (by decide +kernel), List.mem_of_getElem? (i := 1241) (by decide +kernel), List.mem_of_getElem? (i := 1242) (by decide +kernel)⟩
theorem lw_p75 : lw_okq (⟨"TransseriaModel", "signAt", "(II)I"⟩, 28) := ⟨⟨by decide +kernel, by decide +kernel⟩, List.mem_of_getElem? (i := 843) (by decide +kernel), List.mem_of_getElem? (i := 1249) (by decide +kernel), List.mem_of_getElem? (i := 1250) (by decide +kernel)⟩
theorem lw_p76 : lw_okq (⟨"TransseriaModel", "tendsTo", "(I)I"⟩, 28) := ⟨⟨by decide +kernel, by decide +kernel⟩, List.mem_of_getElem? (i := 843) (by decide +kernel), List.mem_of_getElem? (i := 1261) (by decide +kernel), List.mem_of_getElem? (i := 1262) (by decide +kernel)⟩
theorem lw_p77 : lw_okq (⟨"TransseriaModel", "toldPart", "(II)J"⟩, 28) := ⟨⟨by decide +kernel, by decide +kernel⟩, List.mem_of_getElem? (i := 843) (by decide +kernel), List.mem_of_getElem? (i := 1274) (by decide +kernel), List.mem_of_getElem? (i := 1275) (by decide +kernel)⟩
def lw_privs_5 : List (MethodName × Nat) := [(⟨"TransseriaModel", "comparedBoth", "(II)I"⟩, 28), (⟨"TransseriaModel", "comparedGrowths", "(II)I"⟩, 28), (⟨"TransseriaModel", "stepOf", "(II)I"⟩, 28), (⟨"TransseriaModel", "stepped", "(II)I"⟩, 28), (⟨"TransseriaModel", "lessOne", "(I)V"⟩, 28), (⟨"TransseriaModel", "descends", "(III)Z"⟩, 28), (⟨"TransseriaModel", "hasPower", "(II)Z"⟩, 28), (⟨"TransseriaModel", "cuts", "(II)Z"⟩, 28), (⟨"TransseriaModel", "finds", "(ZJZJ)Z"⟩, 28), (⟨"TransseriaModel", "birthdayOf", "(I)I"⟩, 28), (⟨"TransseriaModel", "goesTo", "(JI)I"⟩, 28), (⟨"TransseriaModel", "signAt", "(II)I"⟩, 28), (⟨"TransseriaModel", "tendsTo", "(I)I"⟩, 28), (⟨"TransseriaModel", "toldPart", "(II)J"⟩, 28)]
theorem lw_r5 : ∀ q ∈ lw_privs_5, lw_okq q := List.forall_mem_cons.mpr ⟨lw_p64, List.forall_mem_cons.mpr ⟨lw_p65, List.forall_mem_cons.mpr ⟨lw_p66, List.forall_mem_cons.mpr ⟨lw_p67, List.forall_mem_cons.mpr ⟨lw_p68, List.forall_mem_cons.mpr ⟨lw_p69, List.forall_mem_cons.mpr ⟨lw_p70, List.forall_mem_cons.mpr ⟨lw_p71, List.forall_mem_cons.mpr ⟨lw_p72, List.forall_mem_cons.mpr ⟨lw_p73, List.forall_mem_cons.mpr ⟨lw_p74, List.forall_mem_cons.mpr ⟨lw_p75, List.forall_mem_cons.mpr ⟨lw_p76, List.forall_mem_cons.mpr ⟨lw_p77, fun _ h => absurd h List.not_mem_nil⟩⟩⟩⟩⟩⟩⟩⟩⟩⟩⟩⟩⟩⟩
def lw_privs : List (MethodName × Nat) := lw_privs_1 ++ (lw_privs_2 ++ (lw_privs_3 ++ (lw_privs_4 ++ (lw_privs_5))))
def lw_tbl : List Cond := k2_sels lw_privs ++ tables_1
theorem lw_privs_ok : ∀ q ∈ lw_privs, lw_okq q := by
  show ∀ q ∈ lw_privs_1 ++ (lw_privs_2 ++ (lw_privs_3 ++ (lw_privs_4 ++ (lw_privs_5)))), lw_okq q
  exact List.forall_mem_append.mpr ⟨lw_r1, List.forall_mem_append.mpr ⟨lw_r2, List.forall_mem_append.mpr ⟨lw_r3, List.forall_mem_append.mpr ⟨lw_r4, lw_r5⟩⟩⟩⟩
-- ===== end of PART A; then your names; then what follows =====
def RX0 : String := "Transseria$Draft"
def TX0 : u_T := fun k => match k with
  | 0 => ("Transseria$Draft", "times", "[J", true)
  | 1 => ("Transseria$Draft", "exponents", "[I", true)
  | _ => ("Transseria$Draft", "count", "I", false)
def tyX0 : Nat → FieldType := fun k => match k with
  | 0 => .array .long
  | 1 => .array .int
  | _ => .int
abbrev wsX00 : List Cond := u_ws RX0 TX0 3
theorem nmX0 : ∀ a, a < 3 → ∀ b, b < 3 → a ≠ b → (TX0 a).2.1 ≠ (TX0 b).2.1 := by decide +kernel
theorem tyX0_ok : ∀ k, k < 3 → parseFieldDescriptor (TX0 k).2.2.1 = some (tyX0 k) := by decide +kernel
abbrev cX0_init : ByteArray := prog_2_method_1_code
def yX0_init : MethodName := ⟨RX0, "<init>", "()V"⟩
abbrev cX0_count : ByteArray := prog_2_method_2_code
def yX0_count : MethodName := ⟨RX0, "count", "()I"⟩
abbrev cX0_timesAt : ByteArray := prog_2_method_3_code
def yX0_timesAt : MethodName := ⟨RX0, "timesAt", "(I)J"⟩
abbrev cX0_exponentAt : ByteArray := prog_2_method_4_code
def yX0_exponentAt : MethodName := ⟨RX0, "exponentAt", "(I)I"⟩
abbrev cX0_restart : ByteArray := prog_2_method_5_code
def yX0_restart : MethodName := ⟨RX0, "restart", "()V"⟩
abbrev cX0_add : ByteArray := prog_2_method_6_code
def yX0_add : MethodName := ⟨RX0, "add", "(JI)V"⟩
abbrev cX0_insert : ByteArray := prog_2_method_7_code
def yX0_insert : MethodName := ⟨RX0, "insert", "(IJI)V"⟩
abbrev cX0_raise : ByteArray := prog_2_method_8_code
def yX0_raise : MethodName := ⟨RX0, "raise", "(IJ)V"⟩
def RX1 : String := "Transseria$Growth"
def TX1 : u_T := fun k => match k with
  | 0 => ("Transseria$Growth", "times", "[J", true)
  | 1 => ("Transseria$Growth", "keys", "[J", true)
  | _ => ("Transseria$Growth", "count", "I", false)
def tyX1 : Nat → FieldType := fun k => match k with
  | 0 => .array .long
  | 1 => .array .long
  | _ => .int
abbrev wsX10 : List Cond := u_ws RX1 TX1 3
theorem nmX1 : ∀ a, a < 3 → ∀ b, b < 3 → a ≠ b → (TX1 a).2.1 ≠ (TX1 b).2.1 := by decide +kernel
theorem tyX1_ok : ∀ k, k < 3 → parseFieldDescriptor (TX1 k).2.2.1 = some (tyX1 k) := by decide +kernel
abbrev cX1_init : ByteArray := prog_3_method_1_code
def yX1_init : MethodName := ⟨RX1, "<init>", "(I)V"⟩
abbrev cX1_keyOf : ByteArray := prog_3_method_2_code
def yX1_keyOf : MethodName := ⟨RX1, "keyOf", "(IIII)J"⟩
abbrev cX1_exponentIn : ByteArray := prog_3_method_3_code
def yX1_exponentIn : MethodName := ⟨RX1, "exponentIn", "(JI)I"⟩
abbrev cX1_count : ByteArray := prog_3_method_4_code
def yX1_count : MethodName := ⟨RX1, "count", "()I"⟩
abbrev cX1_timesAt : ByteArray := prog_3_method_5_code
def yX1_timesAt : MethodName := ⟨RX1, "timesAt", "(I)J"⟩
abbrev cX1_keyAt : ByteArray := prog_3_method_6_code
def yX1_keyAt : MethodName := ⟨RX1, "keyAt", "(I)J"⟩
abbrev cX1_restart : ByteArray := prog_3_method_7_code
def yX1_restart : MethodName := ⟨RX1, "restart", "()V"⟩
abbrev cX1_add : ByteArray := prog_3_method_8_code
def yX1_add : MethodName := ⟨RX1, "add", "(JJ)V"⟩
abbrev cX1_copy : ByteArray := prog_3_method_9_code
def yX1_copy : MethodName := ⟨RX1, "copy", "(LTransseria$Growth;)V"⟩
abbrev cX1_fits : ByteArray := prog_3_method_10_code
def yX1_fits : MethodName := ⟨RX1, "fits", "()Z"⟩
abbrev cX1_exponentsFit : ByteArray := prog_3_method_11_code
def yX1_exponentsFit : MethodName := ⟨RX1, "exponentsFit", "(J)Z"⟩
abbrev cX1_comparedWith : ByteArray := prog_3_method_12_code
def yX1_comparedWith : MethodName := ⟨RX1, "comparedWith", "(LTransseria$Growth;)I"⟩
abbrev cX1_limit : ByteArray := prog_3_method_13_code
def yX1_limit : MethodName := ⟨RX1, "limit", "()I"⟩
def RX2 : String := "Transseria$Ordinals"
def TX2 : u_T := fun k => match k with
  | 0 => ("Transseria$Ordinals", "starts", "[I", false)
  | 1 => ("Transseria$Ordinals", "depths", "[I", false)
  | 2 => ("Transseria$Ordinals", "times", "[I", false)
  | 3 => ("Transseria$Ordinals", "exponents", "[I", false)
  | 4 => ("Transseria$Ordinals", "count", "I", false)
  | 5 => ("Transseria$Ordinals", "kept", "I", false)
  | 6 => ("Transseria$Ordinals", "draft", "LTransseria$Draft;", true)
  | 7 => ("Transseria$Ordinals", "pairs", "LTransseria$Draft;", true)
  | _ => ("Transseria$Ordinals", "sums", "[I", true)
def tyX2 : Nat → FieldType := fun k => match k with
  | 0 => .array .int
  | 1 => .array .int
  | 2 => .array .int
  | 3 => .array .int
  | 4 => .int
  | 5 => .int
  | 6 => .object "Transseria$Draft"
  | 7 => .object "Transseria$Draft"
  | _ => .array .int
abbrev wsX20 : List Cond := u_ws RX2 TX2 9
theorem nmX2 : ∀ a, a < 9 → ∀ b, b < 9 → a ≠ b → (TX2 a).2.1 ≠ (TX2 b).2.1 := by decide +kernel
theorem tyX2_ok : ∀ k, k < 9 → parseFieldDescriptor (TX2 k).2.2.1 = some (tyX2 k) := by decide +kernel
abbrev cX2_init : ByteArray := prog_4_method_1_code
def yX2_init : MethodName := ⟨RX2, "<init>", "()V"⟩
abbrev cX2_powersOf : ByteArray := prog_4_method_2_code
def yX2_powersOf : MethodName := ⟨RX2, "powersOf", "(I)I"⟩
abbrev cX2_timesOf : ByteArray := prog_4_method_3_code
def yX2_timesOf : MethodName := ⟨RX2, "timesOf", "(II)I"⟩
abbrev cX2_exponentOf : ByteArray := prog_4_method_4_code
def yX2_exponentOf : MethodName := ⟨RX2, "exponentOf", "(II)I"⟩
abbrev cX2_keep : ByteArray := prog_4_method_5_code
def yX2_keep : MethodName := ⟨RX2, "keep", "()V"⟩
abbrev cX2_forget : ByteArray := prog_4_method_6_code
def yX2_forget : MethodName := ⟨RX2, "forget", "()V"⟩
abbrev cX2_powerOf : ByteArray := prog_4_method_7_code
def yX2_powerOf : MethodName := ⟨RX2, "powerOf", "(II)I"⟩
abbrev cX2_added : ByteArray := prog_4_method_8_code
def yX2_added : MethodName := ⟨RX2, "added", "(II)I"⟩
abbrev cX2_multiplied : ByteArray := prog_4_method_9_code
def yX2_multiplied : MethodName := ⟨RX2, "multiplied", "(II)I"⟩
abbrev cX2_naturallyAdded : ByteArray := prog_4_method_10_code
def yX2_naturallyAdded : MethodName := ⟨RX2, "naturallyAdded", "(II)I"⟩
abbrev cX2_naturallyMultiplied : ByteArray := prog_4_method_11_code
def yX2_naturallyMultiplied : MethodName := ⟨RX2, "naturallyMultiplied", "(II)I"⟩
abbrev cX2_addPair : ByteArray := prog_4_method_12_code
def yX2_addPair : MethodName := ⟨RX2, "addPair", "(JII)V"⟩
abbrev cX2_compared : ByteArray := prog_4_method_13_code
def yX2_compared : MethodName := ⟨RX2, "compared", "(II)I"⟩
abbrev cX2_order : ByteArray := prog_4_method_14_code
def yX2_order : MethodName := ⟨RX2, "order", "(III)I"⟩
abbrev cX2_stepped : ByteArray := prog_4_method_15_code
def yX2_stepped : MethodName := ⟨RX2, "stepped", "(II)I"⟩
abbrev cX2_lower : ByteArray := prog_4_method_16_code
def yX2_lower : MethodName := ⟨RX2, "lower", "(III)I"⟩
abbrev cX2_stepsToZero : ByteArray := prog_4_method_17_code
def yX2_stepsToZero : MethodName := ⟨RX2, "stepsToZero", "(III)I"⟩
abbrev cX2_lessened : ByteArray := prog_4_method_18_code
def yX2_lessened : MethodName := ⟨RX2, "lessened", "(II)I"⟩
abbrev cX2_finiteTail : ByteArray := prog_4_method_19_code
def yX2_finiteTail : MethodName := ⟨RX2, "finiteTail", "(I)I"⟩
abbrev cX2_powersAbove : ByteArray := prog_4_method_20_code
def yX2_powersAbove : MethodName := ⟨RX2, "powersAbove", "(III)I"⟩
abbrev cX2_draftLess : ByteArray := prog_4_method_21_code
def yX2_draftLess : MethodName := ⟨RX2, "draftLess", "(II)V"⟩
abbrev cX2_draftPowers : ByteArray := prog_4_method_22_code
def yX2_draftPowers : MethodName := ⟨RX2, "draftPowers", "(III)V"⟩
abbrev cX2_made : ByteArray := prog_4_method_23_code
def yX2_made : MethodName := ⟨RX2, "made", "(LTransseria$Draft;)I"⟩
abbrev cX2_depthOf : ByteArray := prog_4_method_24_code
def yX2_depthOf : MethodName := ⟨RX2, "depthOf", "(LTransseria$Draft;)I"⟩
abbrev cX2_powersFit : ByteArray := prog_4_method_25_code
def yX2_powersFit : MethodName := ⟨RX2, "powersFit", "(LTransseria$Draft;)Z"⟩
abbrev cX2_write : ByteArray := prog_4_method_26_code
def yX2_write : MethodName := ⟨RX2, "write", "(LTransseria$Draft;I)V"⟩
def RX3 : String := "Transseria$Rows"
def TX3 : u_T := fun k => match k with
  | _ => ("", "", "", false)
def tyX3 : Nat → FieldType := fun k => match k with
  | _ => .int
abbrev wsX30 : List Cond := u_ws RX3 TX3 0
theorem nmX3 : ∀ a, a < 0 → ∀ b, b < 0 → a ≠ b → (TX3 a).2.1 ≠ (TX3 b).2.1 := by decide +kernel
theorem tyX3_ok : ∀ k, k < 0 → parseFieldDescriptor (TX3 k).2.2.1 = some (tyX3 k) := by decide +kernel
abbrev cX3_at : ByteArray := prog_5_method_2_code
def yX3_at : MethodName := ⟨RX3, "at", "([II)I"⟩
abbrev cX3_at_ : ByteArray := prog_5_method_3_code
def yX3_at_ : MethodName := ⟨RX3, "at", "([JI)J"⟩
abbrev cX3_put : ByteArray := prog_5_method_4_code
def yX3_put : MethodName := ⟨RX3, "put", "([III)V"⟩
abbrev cX3_put_ : ByteArray := prog_5_method_5_code
def yX3_put_ : MethodName := ⟨RX3, "put", "([JIJ)V"⟩
abbrev cX3_withRoom : ByteArray := prog_5_method_6_code
def yX3_withRoom : MethodName := ⟨RX3, "withRoom", "([II)[I"⟩
def RX4 : String := "Transseria$Tally"
def TX4 : u_T := fun k => match k with
  | 0 => ("Transseria$Tally", "now", "LTransseria$Growth;", false)
  | 1 => ("Transseria$Tally", "next", "LTransseria$Growth;", false)
  | _ => ("Transseria$Tally", "row", "LTransseria$Growth;", true)
def tyX4 : Nat → FieldType := fun k => match k with
  | 0 => .object "Transseria$Growth"
  | 1 => .object "Transseria$Growth"
  | _ => .object "Transseria$Growth"
abbrev wsX40 : List Cond := u_ws RX4 TX4 3
theorem nmX4 : ∀ a, a < 3 → ∀ b, b < 3 → a ≠ b → (TX4 a).2.1 ≠ (TX4 b).2.1 := by decide +kernel
theorem tyX4_ok : ∀ k, k < 3 → parseFieldDescriptor (TX4 k).2.2.1 = some (tyX4 k) := by decide +kernel
abbrev cX4_init : ByteArray := prog_6_method_1_code
def yX4_init : MethodName := ⟨RX4, "<init>", "()V"⟩
abbrev cX4_growth : ByteArray := prog_6_method_2_code
def yX4_growth : MethodName := ⟨RX4, "growth", "()LTransseria$Growth;"⟩
abbrev cX4_restart : ByteArray := prog_6_method_3_code
def yX4_restart : MethodName := ⟨RX4, "restart", "()V"⟩
abbrev cX4_addPart : ByteArray := prog_6_method_4_code
def yX4_addPart : MethodName := ⟨RX4, "addPart", "(JJ)V"⟩
abbrev cX4_addMultiple : ByteArray := prog_6_method_5_code
def yX4_addMultiple : MethodName := ⟨RX4, "addMultiple", "(LTransseria$Growth;JJ)V"⟩
abbrev cX4_addSlopes : ByteArray := prog_6_method_6_code
def yX4_addSlopes : MethodName := ⟨RX4, "addSlopes", "(LTransseria$Growth;I)V"⟩
abbrev cX4_addRow : ByteArray := prog_6_method_7_code
def yX4_addRow : MethodName := ⟨RX4, "addRow", "()V"⟩
def RX5 : String := "Transseria$Walk"
def TX5 : u_T := fun k => match k with
  | 0 => ("Transseria$Walk", "value", "J", false)
  | 1 => ("Transseria$Walk", "below", "J", false)
  | 2 => ("Transseria$Walk", "above", "J", false)
  | _ => ("Transseria$Walk", "length", "I", false)
def tyX5 : Nat → FieldType := fun k => match k with
  | 0 => .long
  | 1 => .long
  | 2 => .long
  | _ => .int
abbrev wsX50 : List Cond := u_ws RX5 TX5 4
theorem nmX5 : ∀ a, a < 4 → ∀ b, b < 4 → a ≠ b → (TX5 a).2.1 ≠ (TX5 b).2.1 := by decide +kernel
theorem tyX5_ok : ∀ k, k < 4 → parseFieldDescriptor (TX5 k).2.2.1 = some (tyX5 k) := by decide +kernel
abbrev cX5_init : ByteArray := prog_7_method_1_code
def yX5_init : MethodName := ⟨RX5, "<init>", "()V"⟩
abbrev cX5_value : ByteArray := prog_7_method_2_code
def yX5_value : MethodName := ⟨RX5, "value", "()J"⟩
abbrev cX5_length : ByteArray := prog_7_method_3_code
def yX5_length : MethodName := ⟨RX5, "length", "()I"⟩
abbrev cX5_restart : ByteArray := prog_7_method_4_code
def yX5_restart : MethodName := ⟨RX5, "restart", "()V"⟩
abbrev cX5_along : ByteArray := prog_7_method_5_code
def yX5_along : MethodName := ⟨RX5, "along", "(II)V"⟩
abbrev cX5_toward : ByteArray := prog_7_method_6_code
def yX5_toward : MethodName := ⟨RX5, "toward", "(JI)V"⟩
abbrev cX5_between : ByteArray := prog_7_method_7_code
def yX5_between : MethodName := ⟨RX5, "between", "(JJ)Z"⟩
abbrev cX5_goes : ByteArray := prog_7_method_8_code
def yX5_goes : MethodName := ⟨RX5, "goes", "(Z)Z"⟩
def RX6 : String := "Transseria"
def TX6 : u_T := fun k => match k with
  | 0 => ("Transseria", "kinds", "[I", true)
  | 1 => ("Transseria", "ordinals", "[I", true)
  | 2 => ("Transseria", "numbers", "[J", true)
  | 3 => ("Transseria", "growths", "[LTransseria$Growth;", true)
  | 4 => ("Transseria", "store", "LTransseria$Ordinals;", true)
  | 5 => ("Transseria", "walk", "LTransseria$Walk;", true)
  | _ => ("Transseria", "tally", "LTransseria$Tally;", true)
def tyX6 : Nat → FieldType := fun k => match k with
  | 0 => .array .int
  | 1 => .array .int
  | 2 => .array .long
  | 3 => .array (.object "Transseria$Growth")
  | 4 => .object "Transseria$Ordinals"
  | 5 => .object "Transseria$Walk"
  | _ => .object "Transseria$Tally"
abbrev wsX60 : List Cond := u_ws RX6 TX6 7
theorem nmX6 : ∀ a, a < 7 → ∀ b, b < 7 → a ≠ b → (TX6 a).2.1 ≠ (TX6 b).2.1 := by decide +kernel
theorem tyX6_ok : ∀ k, k < 7 → parseFieldDescriptor (TX6 k).2.2.1 = some (tyX6 k) := by decide +kernel
abbrev cX6_init : ByteArray := prog_1_method_1_code
def yX6_init : MethodName := ⟨RX6, "<init>", "()V"⟩
abbrev cX6_kind : ByteArray := prog_1_method_2_code
def yX6_kind : MethodName := ⟨RX6, "kind", "(I)I"⟩
abbrev cX6_clear : ByteArray := prog_1_method_3_code
def yX6_clear : MethodName := ⟨RX6, "clear", "(I)I"⟩
abbrev cX6_finite : ByteArray := prog_1_method_4_code
def yX6_finite : MethodName := ⟨RX6, "finite", "(II)V"⟩
abbrev cX6_omega : ByteArray := prog_1_method_5_code
def yX6_omega : MethodName := ⟨RX6, "omega", "(II)V"⟩
abbrev cX6_number : ByteArray := prog_1_method_6_code
def yX6_number : MethodName := ⟨RX6, "number", "(III)V"⟩
abbrev cX6_signs : ByteArray := prog_1_method_7_code
def yX6_signs : MethodName := ⟨RX6, "signs", "(III)V"⟩
abbrev cX6_term : ByteArray := prog_1_method_8_code
def yX6_term : MethodName := ⟨RX6, "term", "(IIIIII)V"⟩
abbrev cX6_sum : ByteArray := prog_1_method_9_code
def yX6_sum : MethodName := ⟨RX6, "sum", "(III)I"⟩
abbrev cX6_product : ByteArray := prog_1_method_10_code
def yX6_product : MethodName := ⟨RX6, "product", "(III)I"⟩
abbrev cX6_difference : ByteArray := prog_1_method_11_code
def yX6_difference : MethodName := ⟨RX6, "difference", "(III)I"⟩
abbrev cX6_natural : ByteArray := prog_1_method_12_code
def yX6_natural : MethodName := ⟨RX6, "natural", "(IIIZ)V"⟩
abbrev cX6_derive : ByteArray := prog_1_method_13_code
def yX6_derive : MethodName := ⟨RX6, "derive", "(II)V"⟩
abbrev cX6_compare : ByteArray := prog_1_method_14_code
def yX6_compare : MethodName := ⟨RX6, "compare", "(II)I"⟩
abbrev cX6_step : ByteArray := prog_1_method_15_code
def yX6_step : MethodName := ⟨RX6, "step", "(III)V"⟩
abbrev cX6_descent : ByteArray := prog_1_method_16_code
def yX6_descent : MethodName := ⟨RX6, "descent", "(III)I"⟩
abbrev cX6_powers : ByteArray := prog_1_method_17_code
def yX6_powers : MethodName := ⟨RX6, "powers", "(I)I"⟩
abbrev cX6_times : ByteArray := prog_1_method_18_code
def yX6_times : MethodName := ⟨RX6, "times", "(II)J"⟩
abbrev cX6_exponent : ByteArray := prog_1_method_19_code
def yX6_exponent : MethodName := ⟨RX6, "exponent", "(III)V"⟩
abbrev cX6_cut : ByteArray := prog_1_method_20_code
def yX6_cut : MethodName := ⟨RX6, "cut", "(III)I"⟩
abbrev cX6_birthday : ByteArray := prog_1_method_21_code
def yX6_birthday : MethodName := ⟨RX6, "birthday", "(I)I"⟩
abbrev cX6_signOf : ByteArray := prog_1_method_22_code
def yX6_signOf : MethodName := ⟨RX6, "signOf", "(II)I"⟩
abbrev cX6_parts : ByteArray := prog_1_method_23_code
def yX6_parts : MethodName := ⟨RX6, "parts", "(I)J"⟩
abbrev cX6_tends : ByteArray := prog_1_method_24_code
def yX6_tends : MethodName := ⟨RX6, "tends", "(I)I"⟩
abbrev cX6_terms : ByteArray := prog_1_method_25_code
def yX6_terms : MethodName := ⟨RX6, "terms", "(I)I"⟩
abbrev cX6_part : ByteArray := prog_1_method_26_code
def yX6_part : MethodName := ⟨RX6, "part", "(III)J"⟩
abbrev cX6_needPlace : ByteArray := prog_1_method_27_code
def yX6_needPlace : MethodName := ⟨RX6, "needPlace", "(I)V"⟩
abbrev cX6_needThree : ByteArray := prog_1_method_28_code
def yX6_needThree : MethodName := ⟨RX6, "needThree", "(III)V"⟩
abbrev cX6_needRow : ByteArray := prog_1_method_29_code
def yX6_needRow : MethodName := ⟨RX6, "needRow", "(I)V"⟩
abbrev cX6_needRange : ByteArray := prog_1_method_30_code
def yX6_needRange : MethodName := ⟨RX6, "needRange", "(III)V"⟩
abbrev cX6_commonKind : ByteArray := prog_1_method_31_code
def yX6_commonKind : MethodName := ⟨RX6, "commonKind", "(II)I"⟩
abbrev cX6_ordinalAt : ByteArray := prog_1_method_32_code
def yX6_ordinalAt : MethodName := ⟨RX6, "ordinalAt", "(I)I"⟩
abbrev cX6_ordinalWithPower : ByteArray := prog_1_method_33_code
def yX6_ordinalWithPower : MethodName := ⟨RX6, "ordinalWithPower", "(II)I"⟩
abbrev cX6_numberAt : ByteArray := prog_1_method_34_code
def yX6_numberAt : MethodName := ⟨RX6, "numberAt", "(I)J"⟩
abbrev cX6_growthAt : ByteArray := prog_1_method_35_code
def yX6_growthAt : MethodName := ⟨RX6, "growthAt", "(I)LTransseria$Growth;"⟩
abbrev cX6_growthRow : ByteArray := prog_1_method_36_code
def yX6_growthRow : MethodName := ⟨RX6, "growthRow", "(I)LTransseria$Growth;"⟩
abbrev cX6_keepOrdinal : ByteArray := prog_1_method_37_code
def yX6_keepOrdinal : MethodName := ⟨RX6, "keepOrdinal", "(II)V"⟩
abbrev cX6_keepNumber : ByteArray := prog_1_method_38_code
def yX6_keepNumber : MethodName := ⟨RX6, "keepNumber", "(IJ)V"⟩
abbrev cX6_keepGrowth : ByteArray := prog_1_method_39_code
def yX6_keepGrowth : MethodName := ⟨RX6, "keepGrowth", "(I)V"⟩
abbrev cX6_numberFits : ByteArray := prog_1_method_40_code
def yX6_numberFits : MethodName := ⟨RX6, "numberFits", "(J)Z"⟩
abbrev cX6_multipliedNumbers : ByteArray := prog_1_method_41_code
def yX6_multipliedNumbers : MethodName := ⟨RX6, "multipliedNumbers", "(JJ)J"⟩
abbrev cX6_greatestOf : ByteArray := prog_1_method_42_code
def yX6_greatestOf : MethodName := ⟨RX6, "greatestOf", "(I)J"⟩
abbrev cX6_leastOf : ByteArray := prog_1_method_43_code
def yX6_leastOf : MethodName := ⟨RX6, "leastOf", "(I)J"⟩
abbrev cX6_addGrowths : ByteArray := prog_1_method_44_code
def yX6_addGrowths : MethodName := ⟨RX6, "addGrowths", "(LTransseria$Growth;LTransseria$Growth;I)V"⟩
abbrev cX6_multiplyGrowths : ByteArray := prog_1_method_45_code
def yX6_multiplyGrowths : MethodName := ⟨RX6, "multiplyGrowths", "(LTransseria$Growth;LTransseria$Growth;)V"⟩
def RX7 : String := "TransseriaModel"
def TX7 : u_T := fun k => match k with
  | 0 => ("TransseriaModel", "thrown", "I", false)
  | 1 => ("TransseriaModel", "kinds", "[I", true)
  | 2 => ("TransseriaModel", "held", "[I", true)
  | 3 => ("TransseriaModel", "exponents", "[I", true)
  | 4 => ("TransseriaModel", "many", "[I", true)
  | 5 => ("TransseriaModel", "size", "[I", true)
  | 6 => ("TransseriaModel", "deep", "[I", true)
  | 7 => ("TransseriaModel", "ordinals", "I", false)
  | 8 => ("TransseriaModel", "need", "[I", true)
  | 9 => ("TransseriaModel", "next", "[I", true)
  | 10 => ("TransseriaModel", "often", "[J", true)
  | 11 => ("TransseriaModel", "made", "I", false)
  | 12 => ("TransseriaModel", "found", "[I", true)
  | 13 => ("TransseriaModel", "foundOften", "[J", true)
  | 14 => ("TransseriaModel", "chain", "[I", true)
  | 15 => ("TransseriaModel", "kept", "I", false)
  | 16 => ("TransseriaModel", "power", "[J", true)
  | 17 => ("TransseriaModel", "times", "[I", true)
  | 18 => ("TransseriaModel", "madePower", "[J", true)
  | 19 => ("TransseriaModel", "madeTimes", "[J", true)
  | 20 => ("TransseriaModel", "parts", "I", false)
  | 21 => ("TransseriaModel", "hasAbove", "Z", false)
  | 22 => ("TransseriaModel", "hasBelow", "Z", false)
  | 23 => ("TransseriaModel", "above", "J", false)
  | 24 => ("TransseriaModel", "below", "J", false)
  | 25 => ("TransseriaModel", "at", "J", false)
  | 26 => ("TransseriaModel", "signs", "I", false)
  | _ => ("TransseriaModel", "steps", "I", false)
def tyX7 : Nat → FieldType := fun k => match k with
  | 0 => .int
  | 1 => .array .int
  | 2 => .array .int
  | 3 => .array .int
  | 4 => .array .int
  | 5 => .array .int
  | 6 => .array .int
  | 7 => .int
  | 8 => .array .int
  | 9 => .array .int
  | 10 => .array .long
  | 11 => .int
  | 12 => .array .int
  | 13 => .array .long
  | 14 => .array .int
  | 15 => .int
  | 16 => .array .long
  | 17 => .array .int
  | 18 => .array .long
  | 19 => .array .long
  | 20 => .int
  | 21 => .boolean
  | 22 => .boolean
  | 23 => .long
  | 24 => .long
  | 25 => .long
  | 26 => .int
  | _ => .int
abbrev wsX70 : List Cond := u_ws RX7 TX7 28
theorem nmX7 : ∀ a, a < 28 → ∀ b, b < 28 → a ≠ b → (TX7 a).2.1 ≠ (TX7 b).2.1 := by decide +kernel
theorem tyX7_ok : ∀ k, k < 28 → parseFieldDescriptor (TX7 k).2.2.1 = some (tyX7 k) := by decide +kernel
abbrev cX7_init : ByteArray := prog_9_method_1_code
def yX7_init : MethodName := ⟨RX7, "<init>", "()V"⟩
abbrev cX7_thrown : ByteArray := prog_9_method_2_code
def yX7_thrown : MethodName := ⟨RX7, "thrown", "()I"⟩
abbrev cX7_holds : ByteArray := prog_9_method_3_code
def yX7_holds : MethodName := ⟨RX7, "holds", "(I)Z"⟩
abbrev cX7_isIn : ByteArray := prog_9_method_4_code
def yX7_isIn : MethodName := ⟨RX7, "isIn", "(JJJ)Z"⟩
abbrev cX7_isPlace : ByteArray := prog_9_method_5_code
def yX7_isPlace : MethodName := ⟨RX7, "isPlace", "(I)Z"⟩
abbrev cX7_are : ByteArray := prog_9_method_6_code
def yX7_are : MethodName := ⟨RX7, "are", "(III)Z"⟩
abbrev cX7_lays : ByteArray := prog_9_method_7_code
def yX7_lays : MethodName := ⟨RX7, "lays", "(III)V"⟩
abbrev cX7_last : ByteArray := prog_9_method_8_code
def yX7_last : MethodName := ⟨RX7, "last", "(I)I"⟩
abbrev cX7_compared : ByteArray := prog_9_method_9_code
def yX7_compared : MethodName := ⟨RX7, "compared", "(II)I"⟩
abbrev cX7_adds : ByteArray := prog_9_method_10_code
def yX7_adds : MethodName := ⟨RX7, "adds", "(IJ)V"⟩
abbrev cX7_isMade : ByteArray := prog_9_method_11_code
def yX7_isMade : MethodName := ⟨RX7, "isMade", "(I)Z"⟩
abbrev cX7_makes : ByteArray := prog_9_method_12_code
def yX7_makes : MethodName := ⟨RX7, "makes", "()I"⟩
abbrev cX7_gathers : ByteArray := prog_9_method_13_code
def yX7_gathers : MethodName := ⟨RX7, "gathers", "()V"⟩
abbrev cX7_summed : ByteArray := prog_9_method_14_code
def yX7_summed : MethodName := ⟨RX7, "summed", "(II)I"⟩
abbrev cX7_summedNaturally : ByteArray := prog_9_method_15_code
def yX7_summedNaturally : MethodName := ⟨RX7, "summedNaturally", "(II)I"⟩
abbrev cX7_multiplied : ByteArray := prog_9_method_16_code
def yX7_multiplied : MethodName := ⟨RX7, "multiplied", "(II)I"⟩
abbrev cX7_puts : ByteArray := prog_9_method_17_code
def yX7_puts : MethodName := ⟨RX7, "puts", "(IJ)V"⟩
abbrev cX7_multipliedNaturally : ByteArray := prog_9_method_18_code
def yX7_multipliedNaturally : MethodName := ⟨RX7, "multipliedNaturally", "(II)I"⟩
abbrev cX7_lessOne : ByteArray := prog_9_method_19_code
def yX7_lessOne : MethodName := ⟨RX7, "lessOne", "(I)V"⟩
abbrev cX7_stepped : ByteArray := prog_9_method_20_code
def yX7_stepped : MethodName := ⟨RX7, "stepped", "(II)I"⟩
abbrev cX7_unit : ByteArray := prog_9_method_21_code
def yX7_unit : MethodName := ⟨RX7, "unit", "(I)J"⟩
abbrev cX7_level : ByteArray := prog_9_method_22_code
def yX7_level : MethodName := ⟨RX7, "level", "()J"⟩
abbrev cX7_exponentOf : ByteArray := prog_9_method_23_code
def yX7_exponentOf : MethodName := ⟨RX7, "exponentOf", "(JI)J"⟩
abbrev cX7_joins : ByteArray := prog_9_method_24_code
def yX7_joins : MethodName := ⟨RX7, "joins", "(JJ)V"⟩
abbrev cX7_fits : ByteArray := prog_9_method_25_code
def yX7_fits : MethodName := ⟨RX7, "fits", "()Z"⟩
abbrev cX7_laysGrowth : ByteArray := prog_9_method_26_code
def yX7_laysGrowth : MethodName := ⟨RX7, "laysGrowth", "(I)V"⟩
abbrev cX7_joinsAll : ByteArray := prog_9_method_27_code
def yX7_joinsAll : MethodName := ⟨RX7, "joinsAll", "(II)V"⟩
abbrev cX7_joinsBoth : ByteArray := prog_9_method_28_code
def yX7_joinsBoth : MethodName := ⟨RX7, "joinsBoth", "(III)Z"⟩
abbrev cX7_multiplies : ByteArray := prog_9_method_29_code
def yX7_multiplies : MethodName := ⟨RX7, "multiplies", "(II)Z"⟩
abbrev cX7_derives : ByteArray := prog_9_method_30_code
def yX7_derives : MethodName := ⟨RX7, "derives", "(I)Z"⟩
abbrev cX7_isNumber : ByteArray := prog_9_method_31_code
def yX7_isNumber : MethodName := ⟨RX7, "isNumber", "(J)Z"⟩
abbrev cX7_begins : ByteArray := prog_9_method_32_code
def yX7_begins : MethodName := ⟨RX7, "begins", "()V"⟩
abbrev cX7_goes : ByteArray := prog_9_method_33_code
def yX7_goes : MethodName := ⟨RX7, "goes", "(Z)Z"⟩
abbrev cX7_goesTo : ByteArray := prog_9_method_34_code
def yX7_goesTo : MethodName := ⟨RX7, "goesTo", "(JI)I"⟩
abbrev cX7_finds : ByteArray := prog_9_method_35_code
def yX7_finds : MethodName := ⟨RX7, "finds", "(ZJZJ)Z"⟩
abbrev cX7_kind : ByteArray := prog_9_method_36_code
def yX7_kind : MethodName := ⟨RX7, "kind", "(I)I"⟩
abbrev cX7_clear : ByteArray := prog_9_method_37_code
def yX7_clear : MethodName := ⟨RX7, "clear", "(I)I"⟩
abbrev cX7_finiteOne : ByteArray := prog_9_method_38_code
def yX7_finiteOne : MethodName := ⟨RX7, "finiteOne", "(I)I"⟩
abbrev cX7_begin : ByteArray := prog_9_method_39_code
def yX7_begin : MethodName := ⟨RX7, "begin", "()V"⟩
abbrev cX7_finite : ByteArray := prog_9_method_40_code
def yX7_finite : MethodName := ⟨RX7, "finite", "(II)V"⟩
abbrev cX7_powerOf : ByteArray := prog_9_method_41_code
def yX7_powerOf : MethodName := ⟨RX7, "powerOf", "(I)I"⟩
abbrev cX7_isKind : ByteArray := prog_9_method_42_code
def yX7_isKind : MethodName := ⟨RX7, "isKind", "(II)Z"⟩
abbrev cX7_omega : ByteArray := prog_9_method_43_code
def yX7_omega : MethodName := ⟨RX7, "omega", "(II)V"⟩
abbrev cX7_number : ByteArray := prog_9_method_44_code
def yX7_number : MethodName := ⟨RX7, "number", "(III)V"⟩
abbrev cX7_signs : ByteArray := prog_9_method_45_code
def yX7_signs : MethodName := ⟨RX7, "signs", "(III)V"⟩
abbrev cX7_term : ByteArray := prog_9_method_46_code
def yX7_term : MethodName := ⟨RX7, "term", "(IIIIII)V"⟩
abbrev cX7_areBoth : ByteArray := prog_9_method_47_code
def yX7_areBoth : MethodName := ⟨RX7, "areBoth", "(III)Z"⟩
abbrev cX7_setsOrdinal : ByteArray := prog_9_method_48_code
def yX7_setsOrdinal : MethodName := ⟨RX7, "setsOrdinal", "(II)Z"⟩
abbrev cX7_setsNumber : ByteArray := prog_9_method_49_code
def yX7_setsNumber : MethodName := ⟨RX7, "setsNumber", "(IJ)Z"⟩
abbrev cX7_setsGrowth : ByteArray := prog_9_method_50_code
def yX7_setsGrowth : MethodName := ⟨RX7, "setsGrowth", "(IZ)Z"⟩
abbrev cX7_setsSum : ByteArray := prog_9_method_51_code
def yX7_setsSum : MethodName := ⟨RX7, "setsSum", "(III)Z"⟩
abbrev cX7_told : ByteArray := prog_9_method_52_code
def yX7_told : MethodName := ⟨RX7, "told", "(IZZ)I"⟩
abbrev cX7_sum : ByteArray := prog_9_method_53_code
def yX7_sum : MethodName := ⟨RX7, "sum", "(III)I"⟩
abbrev cX7_setsProduct : ByteArray := prog_9_method_54_code
def yX7_setsProduct : MethodName := ⟨RX7, "setsProduct", "(III)Z"⟩
abbrev cX7_product : ByteArray := prog_9_method_55_code
def yX7_product : MethodName := ⟨RX7, "product", "(III)I"⟩
abbrev cX7_setsDifference : ByteArray := prog_9_method_56_code
def yX7_setsDifference : MethodName := ⟨RX7, "setsDifference", "(III)Z"⟩
abbrev cX7_difference : ByteArray := prog_9_method_57_code
def yX7_difference : MethodName := ⟨RX7, "difference", "(III)I"⟩
abbrev cX7_setsNatural : ByteArray := prog_9_method_58_code
def yX7_setsNatural : MethodName := ⟨RX7, "setsNatural", "(IIIZ)Z"⟩
abbrev cX7_natural : ByteArray := prog_9_method_59_code
def yX7_natural : MethodName := ⟨RX7, "natural", "(IIIZ)V"⟩
abbrev cX7_derive : ByteArray := prog_9_method_60_code
def yX7_derive : MethodName := ⟨RX7, "derive", "(II)V"⟩
abbrev cX7_comparedGrowths : ByteArray := prog_9_method_61_code
def yX7_comparedGrowths : MethodName := ⟨RX7, "comparedGrowths", "(II)I"⟩
abbrev cX7_comparedBoth : ByteArray := prog_9_method_62_code
def yX7_comparedBoth : MethodName := ⟨RX7, "comparedBoth", "(II)I"⟩
abbrev cX7_compare : ByteArray := prog_9_method_63_code
def yX7_compare : MethodName := ⟨RX7, "compare", "(II)I"⟩
abbrev cX7_stepOf : ByteArray := prog_9_method_64_code
def yX7_stepOf : MethodName := ⟨RX7, "stepOf", "(II)I"⟩
abbrev cX7_step : ByteArray := prog_9_method_65_code
def yX7_step : MethodName := ⟨RX7, "step", "(III)V"⟩
abbrev cX7_descends : ByteArray := prog_9_method_66_code
def yX7_descends : MethodName := ⟨RX7, "descends", "(III)Z"⟩
abbrev cX7_descent : ByteArray := prog_9_method_67_code
def yX7_descent : MethodName := ⟨RX7, "descent", "(III)I"⟩
abbrev cX7_powers : ByteArray := prog_9_method_68_code
def yX7_powers : MethodName := ⟨RX7, "powers", "(I)I"⟩
abbrev cX7_hasPower : ByteArray := prog_9_method_69_code
def yX7_hasPower : MethodName := ⟨RX7, "hasPower", "(II)Z"⟩
abbrev cX7_times : ByteArray := prog_9_method_70_code
def yX7_times : MethodName := ⟨RX7, "times", "(II)J"⟩
abbrev cX7_exponent : ByteArray := prog_9_method_71_code
def yX7_exponent : MethodName := ⟨RX7, "exponent", "(III)V"⟩
abbrev cX7_hasPlace : ByteArray := prog_9_method_72_code
def yX7_hasPlace : MethodName := ⟨RX7, "hasPlace", "(II)Z"⟩
abbrev cX7_cuts : ByteArray := prog_9_method_73_code
def yX7_cuts : MethodName := ⟨RX7, "cuts", "(II)Z"⟩
abbrev cX7_cut : ByteArray := prog_9_method_74_code
def yX7_cut : MethodName := ⟨RX7, "cut", "(III)I"⟩
abbrev cX7_birthdayOf : ByteArray := prog_9_method_75_code
def yX7_birthdayOf : MethodName := ⟨RX7, "birthdayOf", "(I)I"⟩
abbrev cX7_birthday : ByteArray := prog_9_method_76_code
def yX7_birthday : MethodName := ⟨RX7, "birthday", "(I)I"⟩
abbrev cX7_signAt : ByteArray := prog_9_method_77_code
def yX7_signAt : MethodName := ⟨RX7, "signAt", "(II)I"⟩
abbrev cX7_signOf : ByteArray := prog_9_method_78_code
def yX7_signOf : MethodName := ⟨RX7, "signOf", "(II)I"⟩
abbrev cX7_parts : ByteArray := prog_9_method_79_code
def yX7_parts : MethodName := ⟨RX7, "parts", "(I)J"⟩
abbrev cX7_tendsTo : ByteArray := prog_9_method_80_code
def yX7_tendsTo : MethodName := ⟨RX7, "tendsTo", "(I)I"⟩
abbrev cX7_tends : ByteArray := prog_9_method_81_code
def yX7_tends : MethodName := ⟨RX7, "tends", "(I)I"⟩
abbrev cX7_terms : ByteArray := prog_9_method_82_code
def yX7_terms : MethodName := ⟨RX7, "terms", "(I)I"⟩
abbrev cX7_toldPart : ByteArray := prog_9_method_83_code
def yX7_toldPart : MethodName := ⟨RX7, "toldPart", "(II)J"⟩
abbrev cX7_part : ByteArray := prog_9_method_84_code
def yX7_part : MethodName := ⟨RX7, "part", "(III)J"⟩
def RJx145de : String := "java/io/Serializable"
def TJx145de : u_T := fun k => match k with
  | _ => ("", "", "", false)
def tyJx145de : Nat → FieldType := fun k => match k with
  | _ => .int
abbrev wsJx145de0 : List Cond := u_ws RJx145de TJx145de 0
theorem nmJx145de : ∀ a, a < 0 → ∀ b, b < 0 → a ≠ b → (TJx145de a).2.1 ≠ (TJx145de b).2.1 := by decide +kernel
theorem tyJx145de_ok : ∀ k, k < 0 → parseFieldDescriptor (TJx145de k).2.2.1 = some (tyJx145de k) := by decide +kernel
def RJx8e188 : String := "java/lang/Cloneable"
def TJx8e188 : u_T := fun k => match k with
  | _ => ("", "", "", false)
def tyJx8e188 : Nat → FieldType := fun k => match k with
  | _ => .int
abbrev wsJx8e1880 : List Cond := u_ws RJx8e188 TJx8e188 0
theorem nmJx8e188 : ∀ a, a < 0 → ∀ b, b < 0 → a ≠ b → (TJx8e188 a).2.1 ≠ (TJx8e188 b).2.1 := by decide +kernel
theorem tyJx8e188_ok : ∀ k, k < 0 → parseFieldDescriptor (TJx8e188 k).2.2.1 = some (tyJx8e188 k) := by decide +kernel
def RJ6 : String := "java/lang/Integer"
def TJ6 : u_T := fun k => match k with
  | _ => ("", "", "", false)
def tyJ6 : Nat → FieldType := fun k => match k with
  | _ => .int
abbrev wsJ60 : List Cond := u_ws RJ6 TJ6 0
theorem nmJ6 : ∀ a, a < 0 → ∀ b, b < 0 → a ≠ b → (TJ6 a).2.1 ≠ (TJ6 b).2.1 := by decide +kernel
theorem tyJ6_ok : ∀ k, k < 0 → parseFieldDescriptor (TJ6 k).2.2.1 = some (tyJ6 k) := by decide +kernel
abbrev cJ6_compare_7cf53 : ByteArray := prog_15_method_40_code
def yJ6_compare_7cf53 : MethodName := ⟨RJ6, "compare", "(II)I"⟩
def RJ13 : String := "java/lang/Long"
def TJ13 : u_T := fun k => match k with
  | _ => ("", "", "", false)
def tyJ13 : Nat → FieldType := fun k => match k with
  | _ => .int
abbrev wsJ130 : List Cond := u_ws RJ13 TJ13 0
theorem nmJ13 : ∀ a, a < 0 → ∀ b, b < 0 → a ≠ b → (TJ13 a).2.1 ≠ (TJ13 b).2.1 := by decide +kernel
theorem tyJ13_ok : ∀ k, k < 0 → parseFieldDescriptor (TJ13 k).2.2.1 = some (tyJ13 k) := by decide +kernel
abbrev cJ13_compare_74951 : ByteArray := prog_16_method_42_code
def yJ13_compare_74951 : MethodName := ⟨RJ13, "compare", "(JJ)I"⟩
def RJ9 : String := "java/lang/Math"
def TJ9 : u_T := fun k => match k with
  | _ => ("", "", "", false)
def tyJ9 : Nat → FieldType := fun k => match k with
  | _ => .int
abbrev wsJ90 : List Cond := u_ws RJ9 TJ9 0
theorem nmJ9 : ∀ a, a < 0 → ∀ b, b < 0 → a ≠ b → (TJ9 a).2.1 ≠ (TJ9 b).2.1 := by decide +kernel
theorem tyJ9_ok : ∀ k, k < 0 → parseFieldDescriptor (TJ9 k).2.2.1 = some (tyJ9 k) := by decide +kernel
abbrev cJ9_max_7cf53 : ByteArray := prog_17_method_65_code
def yJ9_max_7cf53 : MethodName := ⟨RJ9, "max", "(II)I"⟩
abbrev cJ9_max_f86c9 : ByteArray := prog_17_method_66_code
def yJ9_max_f86c9 : MethodName := ⟨RJ9, "max", "(JJ)J"⟩
abbrev cJ9_min_7cf53 : ByteArray := prog_17_method_69_code
def yJ9_min_7cf53 : MethodName := ⟨RJ9, "min", "(II)I"⟩
abbrev cJ9_min_f86c9 : ByteArray := prog_17_method_70_code
def yJ9_min_f86c9 : MethodName := ⟨RJ9, "min", "(JJ)J"⟩
def RJ0 : String := "java/lang/String"
def TJ0 : u_T := fun k => match k with
  | _ => ("", "", "", false)
def tyJ0 : Nat → FieldType := fun k => match k with
  | _ => .int
abbrev wsJ00 : List Cond := u_ws RJ0 TJ0 0
theorem nmJ0 : ∀ a, a < 0 → ∀ b, b < 0 → a ≠ b → (TJ0 a).2.1 ≠ (TJ0 b).2.1 := by decide +kernel
theorem tyJ0_ok : ∀ k, k < 0 → parseFieldDescriptor (TJ0 k).2.2.1 = some (tyJ0 k) := by decide +kernel
def RJ10 : String := "java/lang/System"
def TJ10 : u_T := fun k => match k with
  | _ => ("", "", "", false)
def tyJ10 : Nat → FieldType := fun k => match k with
  | _ => .int
abbrev wsJ100 : List Cond := u_ws RJ10 TJ10 0
theorem nmJ10 : ∀ a, a < 0 → ∀ b, b < 0 → a ≠ b → (TJ10 a).2.1 ≠ (TJ10 b).2.1 := by decide +kernel
theorem tyJ10_ok : ∀ k, k < 0 → parseFieldDescriptor (TJ10 k).2.2.1 = some (tyJ10 k) := by decide +kernel
def RJ7 : String := "java/util/Arrays"
def TJ7 : u_T := fun k => match k with
  | _ => ("", "", "", false)
def tyJ7 : Nat → FieldType := fun k => match k with
  | _ => .int
abbrev wsJ70 : List Cond := u_ws RJ7 TJ7 0
theorem nmJ7 : ∀ a, a < 0 → ∀ b, b < 0 → a ≠ b → (TJ7 a).2.1 ≠ (TJ7 b).2.1 := by decide +kernel
theorem tyJ7_ok : ∀ k, k < 0 → parseFieldDescriptor (TJ7 k).2.2.1 = some (tyJ7 k) := by decide +kernel
abbrev cJ7_copyOf_59c91 : ByteArray := prog_22_method_123_code
def yJ7_copyOf_59c91 : MethodName := ⟨RJ7, "copyOf", "([II)[I"⟩
def RL : String := "TransseriaLaw"
abbrev cL_kind : ByteArray := method_3_code
def yL_kind : MethodName := ⟨RL, "kind", "(LTransseria;I[J)I"⟩
abbrev cL_clear : ByteArray := method_4_code
def yL_clear : MethodName := ⟨RL, "clear", "(LTransseria;I[J)I"⟩
abbrev cL_finite : ByteArray := method_5_code
def yL_finite : MethodName := ⟨RL, "finite", "(LTransseria;II)I"⟩
abbrev cL_omega : ByteArray := method_6_code
def yL_omega : MethodName := ⟨RL, "omega", "(LTransseria;II)I"⟩
abbrev cL_number : ByteArray := method_7_code
def yL_number : MethodName := ⟨RL, "number", "(LTransseria;III)I"⟩
abbrev cL_signs : ByteArray := method_8_code
def yL_signs : MethodName := ⟨RL, "signs", "(LTransseria;III)I"⟩
abbrev cL_term : ByteArray := method_9_code
def yL_term : MethodName := ⟨RL, "term", "(LTransseria;IIIIII)I"⟩
abbrev cL_sum : ByteArray := method_10_code
def yL_sum : MethodName := ⟨RL, "sum", "(LTransseria;III[J)I"⟩
abbrev cL_product : ByteArray := method_11_code
def yL_product : MethodName := ⟨RL, "product", "(LTransseria;III[J)I"⟩
abbrev cL_difference : ByteArray := method_12_code
def yL_difference : MethodName := ⟨RL, "difference", "(LTransseria;III[J)I"⟩
abbrev cL_natural : ByteArray := method_13_code
def yL_natural : MethodName := ⟨RL, "natural", "(LTransseria;IIIZ)I"⟩
abbrev cL_derive : ByteArray := method_14_code
def yL_derive : MethodName := ⟨RL, "derive", "(LTransseria;II)I"⟩
abbrev cL_compare : ByteArray := method_15_code
def yL_compare : MethodName := ⟨RL, "compare", "(LTransseria;II[J)I"⟩
abbrev cL_step : ByteArray := method_16_code
def yL_step : MethodName := ⟨RL, "step", "(LTransseria;III)I"⟩
abbrev cL_descent : ByteArray := method_17_code
def yL_descent : MethodName := ⟨RL, "descent", "(LTransseria;III[J)I"⟩
abbrev cL_powers : ByteArray := method_18_code
def yL_powers : MethodName := ⟨RL, "powers", "(LTransseria;I[J)I"⟩
abbrev cL_times : ByteArray := method_19_code
def yL_times : MethodName := ⟨RL, "times", "(LTransseria;II[J)I"⟩
abbrev cL_exponent : ByteArray := method_20_code
def yL_exponent : MethodName := ⟨RL, "exponent", "(LTransseria;III)I"⟩
abbrev cL_cut : ByteArray := method_21_code
def yL_cut : MethodName := ⟨RL, "cut", "(LTransseria;III[J)I"⟩
abbrev cL_birthday : ByteArray := method_22_code
def yL_birthday : MethodName := ⟨RL, "birthday", "(LTransseria;I[J)I"⟩
abbrev cL_signOf : ByteArray := method_23_code
def yL_signOf : MethodName := ⟨RL, "signOf", "(LTransseria;II[J)I"⟩
abbrev cL_parts : ByteArray := method_24_code
def yL_parts : MethodName := ⟨RL, "parts", "(LTransseria;I[J)I"⟩
abbrev cL_tends : ByteArray := method_25_code
def yL_tends : MethodName := ⟨RL, "tends", "(LTransseria;I[J)I"⟩
abbrev cL_terms : ByteArray := method_26_code
def yL_terms : MethodName := ⟨RL, "terms", "(LTransseria;I[J)I"⟩
abbrev cL_part : ByteArray := method_27_code
def yL_part : MethodName := ⟨RL, "part", "(LTransseria;III[J)I"⟩
abbrev cL_law : ByteArray := code
def yL_law : MethodName := ⟨RL, "law", "([I)Z"⟩
abbrev vwCl : List vw_C := [(RX0, TX0, 3), (RX1, TX1, 3), (RX2, TX2, 9), (RX4, TX4, 3), (RX5, TX5, 4), (RX6, TX6, 7), (RX7, TX7, 28)]

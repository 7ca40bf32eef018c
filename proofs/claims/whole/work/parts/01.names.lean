-- ===== PART A: goes FIRST, ahead of the names: the tables' words, and 'selects' of the private methods out of them =====
/-- a private method of a class that the tables say can be made, by its rows of tables_1 -/
def lw_okq (q : MethodName × Nat) : Prop := (q.1.cls ≠ "java/lang/invoke/MethodHandle" ∧ q.1.cls ≠ "java/lang/invoke/VarHandle") ∧ Cond.instantiable q.1.cls q.2 ∈ tables_1 ∧ Cond.privateMethod q.1 ∈ tables_1 ∧ Cond.instanceMethod q.1 ∈ tables_1
theorem lw_p0 : lw_okq (⟨"MixCover$PlanReader", "skipBlanks", "()V"⟩, 7) := ⟨⟨by decide +kernel, by decide +kernel⟩, List.mem_of_getElem? (i := 47) (by decide +kernel), List.mem_of_getElem? (i := 362) (by decide +kernel), List.mem_of_getElem? (i := 363) (by decide +kernel)⟩
theorem lw_p1 : lw_okq (⟨"MixCover$PlanReader", "readLevels", "()V"⟩, 7) := ⟨⟨by decide +kernel, by decide +kernel⟩, List.mem_of_getElem? (i := 47) (by decide +kernel), List.mem_of_getElem? (i := 366) (by decide +kernel), List.mem_of_getElem? (i := 367) (by decide +kernel)⟩
theorem lw_p2 : lw_okq (⟨"MixCover$PlanReader", "takeWord", "(Ljava/lang/String;)V"⟩, 7) := ⟨⟨by decide +kernel, by decide +kernel⟩, List.mem_of_getElem? (i := 47) (by decide +kernel), List.mem_of_getElem? (i := 371) (by decide +kernel), List.mem_of_getElem? (i := 372) (by decide +kernel)⟩
theorem lw_p3 : lw_okq (⟨"MixCover$PlanReader", "isWord", "(Ljava/lang/String;)Z"⟩, 7) := ⟨⟨by decide +kernel, by decide +kernel⟩, List.mem_of_getElem? (i := 47) (by decide +kernel), List.mem_of_getElem? (i := 375) (by decide +kernel), List.mem_of_getElem? (i := 376) (by decide +kernel)⟩
theorem lw_p4 : lw_okq (⟨"MixCover$PlanReader", "isLetter", "(I)Z"⟩, 7) := ⟨⟨by decide +kernel, by decide +kernel⟩, List.mem_of_getElem? (i := 47) (by decide +kernel), List.mem_of_getElem? (i := 389) (by decide +kernel), List.mem_of_getElem? (i := 390) (by decide +kernel)⟩
theorem lw_p5 : lw_okq (⟨"MixCover$PlanReader", "fail", "(II)V"⟩, 7) := ⟨⟨by decide +kernel, by decide +kernel⟩, List.mem_of_getElem? (i := 47) (by decide +kernel), List.mem_of_getElem? (i := 431) (by decide +kernel), List.mem_of_getElem? (i := 432) (by decide +kernel)⟩
theorem lw_p6 : lw_okq (⟨"MixCover$PlanReader", "isDigit", "()Z"⟩, 7) := ⟨⟨by decide +kernel, by decide +kernel⟩, List.mem_of_getElem? (i := 47) (by decide +kernel), List.mem_of_getElem? (i := 435) (by decide +kernel), List.mem_of_getElem? (i := 436) (by decide +kernel)⟩
theorem lw_p7 : lw_okq (⟨"MixCover$PlanReader", "takeNumber", "(II)I"⟩, 7) := ⟨⟨by decide +kernel, by decide +kernel⟩, List.mem_of_getElem? (i := 47) (by decide +kernel), List.mem_of_getElem? (i := 439) (by decide +kernel), List.mem_of_getElem? (i := 440) (by decide +kernel)⟩
theorem lw_p8 : lw_okq (⟨"MixCover$PlanReader", "readLine", "()V"⟩, 7) := ⟨⟨by decide +kernel, by decide +kernel⟩, List.mem_of_getElem? (i := 47) (by decide +kernel), List.mem_of_getElem? (i := 450) (by decide +kernel), List.mem_of_getElem? (i := 451) (by decide +kernel)⟩
theorem lw_p9 : lw_okq (⟨"MixCover$PlanReader", "takeByte", "(C)V"⟩, 7) := ⟨⟨by decide +kernel, by decide +kernel⟩, List.mem_of_getElem? (i := 47) (by decide +kernel), List.mem_of_getElem? (i := 454) (by decide +kernel), List.mem_of_getElem? (i := 455) (by decide +kernel)⟩
theorem lw_p10 : lw_okq (⟨"MixCover$PlanReader", "isByte", "(C)Z"⟩, 7) := ⟨⟨by decide +kernel, by decide +kernel⟩, List.mem_of_getElem? (i := 47) (by decide +kernel), List.mem_of_getElem? (i := 458) (by decide +kernel), List.mem_of_getElem? (i := 459) (by decide +kernel)⟩
theorem lw_p11 : lw_okq (⟨"MixCover$PlanReader", "readStrength", "()V"⟩, 7) := ⟨⟨by decide +kernel, by decide +kernel⟩, List.mem_of_getElem? (i := 47) (by decide +kernel), List.mem_of_getElem? (i := 463) (by decide +kernel), List.mem_of_getElem? (i := 464) (by decide +kernel)⟩
theorem lw_p12 : lw_okq (⟨"MixCover$PlanReader", "readNever", "()V"⟩, 7) := ⟨⟨by decide +kernel, by decide +kernel⟩, List.mem_of_getElem? (i := 47) (by decide +kernel), List.mem_of_getElem? (i := 467) (by decide +kernel), List.mem_of_getElem? (i := 468) (by decide +kernel)⟩
theorem lw_p13 : lw_okq (⟨"MixCover$PlanReader", "readCell", "(IZ)I"⟩, 7) := ⟨⟨by decide +kernel, by decide +kernel⟩, List.mem_of_getElem? (i := 47) (by decide +kernel), List.mem_of_getElem? (i := 472) (by decide +kernel), List.mem_of_getElem? (i := 473) (by decide +kernel)⟩
theorem lw_p14 : lw_okq (⟨"MixCover$PlanReader", "mixesOf", "(LMixCover$Plan;)I"⟩, 7) := ⟨⟨by decide +kernel, by decide +kernel⟩, List.mem_of_getElem? (i := 47) (by decide +kernel), List.mem_of_getElem? (i := 487) (by decide +kernel), List.mem_of_getElem? (i := 488) (by decide +kernel)⟩
theorem lw_p15 : lw_okq (⟨"MixCover$ColumnSets", "nextPick", "(I)Z"⟩, 6) := ⟨⟨by decide +kernel, by decide +kernel⟩, List.mem_of_getElem? (i := 97) (by decide +kernel), List.mem_of_getElem? (i := 499) (by decide +kernel), List.mem_of_getElem? (i := 500) (by decide +kernel)⟩
def lw_privs_1 : List (MethodName × Nat) := [(⟨"MixCover$PlanReader", "skipBlanks", "()V"⟩, 7), (⟨"MixCover$PlanReader", "readLevels", "()V"⟩, 7), (⟨"MixCover$PlanReader", "takeWord", "(Ljava/lang/String;)V"⟩, 7), (⟨"MixCover$PlanReader", "isWord", "(Ljava/lang/String;)Z"⟩, 7), (⟨"MixCover$PlanReader", "isLetter", "(I)Z"⟩, 7), (⟨"MixCover$PlanReader", "fail", "(II)V"⟩, 7), (⟨"MixCover$PlanReader", "isDigit", "()Z"⟩, 7), (⟨"MixCover$PlanReader", "takeNumber", "(II)I"⟩, 7), (⟨"MixCover$PlanReader", "readLine", "()V"⟩, 7), (⟨"MixCover$PlanReader", "takeByte", "(C)V"⟩, 7), (⟨"MixCover$PlanReader", "isByte", "(C)Z"⟩, 7), (⟨"MixCover$PlanReader", "readStrength", "()V"⟩, 7), (⟨"MixCover$PlanReader", "readNever", "()V"⟩, 7), (⟨"MixCover$PlanReader", "readCell", "(IZ)I"⟩, 7), (⟨"MixCover$PlanReader", "mixesOf", "(LMixCover$Plan;)I"⟩, 7), (⟨"MixCover$ColumnSets", "nextPick", "(I)Z"⟩, 6)]
theorem lw_r1 : ∀ q ∈ lw_privs_1, lw_okq q := List.forall_mem_cons.mpr ⟨lw_p0, List.forall_mem_cons.mpr ⟨lw_p1, List.forall_mem_cons.mpr ⟨lw_p2, List.forall_mem_cons.mpr ⟨lw_p3, List.forall_mem_cons.mpr ⟨lw_p4, List.forall_mem_cons.mpr ⟨lw_p5, List.forall_mem_cons.mpr ⟨lw_p6, List.forall_mem_cons.mpr ⟨lw_p7, List.forall_mem_cons.mpr ⟨lw_p8, List.forall_mem_cons.mpr ⟨lw_p9, List.forall_mem_cons.mpr ⟨lw_p10, List.forall_mem_cons.mpr ⟨lw_p11, List.forall_mem_cons.mpr ⟨lw_p12, List.forall_mem_cons.mpr ⟨lw_p13, List.forall_mem_cons.mpr ⟨lw_p14, List.forall_mem_cons.mpr ⟨lw_p15, fun _ h => absurd h List.not_mem_nil⟩⟩⟩⟩⟩⟩⟩⟩⟩⟩⟩⟩⟩⟩⟩⟩
theorem lw_p16 : lw_okq (⟨"MixCover$Plan", "narrow", "(I)I"⟩, 7) := ⟨⟨by decide +kernel, by decide +kernel⟩, List.mem_of_getElem? (i := 53) (by decide +kernel), List.mem_of_getElem? (i := 514) (by decide +kernel), List.mem_of_getElem? (i := 515) (by decide +kernel)⟩
theorem lw_p17 : lw_okq (⟨"MixCover$Plan", "openCell", "(I)I"⟩, 7) := ⟨⟨by decide +kernel, by decide +kernel⟩, List.mem_of_getElem? (i := 53) (by decide +kernel), List.mem_of_getElem? (i := 518) (by decide +kernel), List.mem_of_getElem? (i := 519) (by decide +kernel)⟩
theorem lw_p18 : lw_okq (⟨"MixCover$Plan", "leastRow", "(I)I"⟩, 7) := ⟨⟨by decide +kernel, by decide +kernel⟩, List.mem_of_getElem? (i := 53) (by decide +kernel), List.mem_of_getElem? (i := 522) (by decide +kernel), List.mem_of_getElem? (i := 523) (by decide +kernel)⟩
theorem lw_p19 : lw_okq (⟨"MixCover", "rebuild", "()V"⟩, 11) := ⟨⟨by decide +kernel, by decide +kernel⟩, List.mem_of_getElem? (i := 22) (by decide +kernel), List.mem_of_getElem? (i := 534) (by decide +kernel), List.mem_of_getElem? (i := 535) (by decide +kernel)⟩
theorem lw_p20 : lw_okq (⟨"MixCover$Mixes", "cellsOf", "(II)I"⟩, 5) := ⟨⟨by decide +kernel, by decide +kernel⟩, List.mem_of_getElem? (i := 203) (by decide +kernel), List.mem_of_getElem? (i := 544) (by decide +kernel), List.mem_of_getElem? (i := 545) (by decide +kernel)⟩
theorem lw_p21 : lw_okq (⟨"MixCover", "isColumn", "(I)Z"⟩, 11) := ⟨⟨by decide +kernel, by decide +kernel⟩, List.mem_of_getElem? (i := 22) (by decide +kernel), List.mem_of_getElem? (i := 588) (by decide +kernel), List.mem_of_getElem? (i := 589) (by decide +kernel)⟩
theorem lw_p22 : lw_okq (⟨"MixCover", "mixCount", "()I"⟩, 11) := ⟨⟨by decide +kernel, by decide +kernel⟩, List.mem_of_getElem? (i := 22) (by decide +kernel), List.mem_of_getElem? (i := 596) (by decide +kernel), List.mem_of_getElem? (i := 597) (by decide +kernel)⟩
theorem lw_p23 : lw_okq (⟨"MixCover", "hasPlan", "()Z"⟩, 11) := ⟨⟨by decide +kernel, by decide +kernel⟩, List.mem_of_getElem? (i := 22) (by decide +kernel), List.mem_of_getElem? (i := 600) (by decide +kernel), List.mem_of_getElem? (i := 601) (by decide +kernel)⟩
theorem lw_p24 : lw_okq (⟨"MixCover$Mixes", "setOf", "(I)I"⟩, 5) := ⟨⟨by decide +kernel, by decide +kernel⟩, List.mem_of_getElem? (i := 203) (by decide +kernel), List.mem_of_getElem? (i := 608) (by decide +kernel), List.mem_of_getElem? (i := 609) (by decide +kernel)⟩
theorem lw_p25 : lw_okq (⟨"MixCover", "rowBy", "(I)I"⟩, 11) := ⟨⟨by decide +kernel, by decide +kernel⟩, List.mem_of_getElem? (i := 22) (by decide +kernel), List.mem_of_getElem? (i := 626) (by decide +kernel), List.mem_of_getElem? (i := 627) (by decide +kernel)⟩
theorem lw_p26 : lw_okq (⟨"MixCover", "remember", "()V"⟩, 11) := ⟨⟨by decide +kernel, by decide +kernel⟩, List.mem_of_getElem? (i := 22) (by decide +kernel), List.mem_of_getElem? (i := 635) (by decide +kernel), List.mem_of_getElem? (i := 636) (by decide +kernel)⟩
theorem lw_p27 : lw_okq (⟨"MixCover", "append", "(I)V"⟩, 11) := ⟨⟨by decide +kernel, by decide +kernel⟩, List.mem_of_getElem? (i := 22) (by decide +kernel), List.mem_of_getElem? (i := 650) (by decide +kernel), List.mem_of_getElem? (i := 651) (by decide +kernel)⟩
theorem lw_p28 : lw_okq (⟨"MixCover", "isRow", "(I)Z"⟩, 11) := ⟨⟨by decide +kernel, by decide +kernel⟩, List.mem_of_getElem? (i := 22) (by decide +kernel), List.mem_of_getElem? (i := 663) (by decide +kernel), List.mem_of_getElem? (i := 664) (by decide +kernel)⟩
theorem lw_p29 : lw_okq (⟨"MixCover", "takeAway", "(I)V"⟩, 11) := ⟨⟨by decide +kernel, by decide +kernel⟩, List.mem_of_getElem? (i := 22) (by decide +kernel), List.mem_of_getElem? (i := 676) (by decide +kernel), List.mem_of_getElem? (i := 677) (by decide +kernel)⟩
theorem lw_p30 : lw_okq (⟨"MixCover$RowMaker", "weightOf", "(LMixCover$ColumnSets;II)I"⟩, 6) := ⟨⟨by decide +kernel, by decide +kernel⟩, List.mem_of_getElem? (i := 236) (by decide +kernel), List.mem_of_getElem? (i := 715) (by decide +kernel), List.mem_of_getElem? (i := 716) (by decide +kernel)⟩
theorem lw_p31 : lw_okq (⟨"MixCover$RowMaker", "gather", "(LMixCover$Mixes;)V"⟩, 6) := ⟨⟨by decide +kernel, by decide +kernel⟩, List.mem_of_getElem? (i := 236) (by decide +kernel), List.mem_of_getElem? (i := 734) (by decide +kernel), List.mem_of_getElem? (i := 735) (by decide +kernel)⟩
def lw_privs_2 : List (MethodName × Nat) := [(⟨"MixCover$Plan", "narrow", "(I)I"⟩, 7), (⟨"MixCover$Plan", "openCell", "(I)I"⟩, 7), (⟨"MixCover$Plan", "leastRow", "(I)I"⟩, 7), (⟨"MixCover", "rebuild", "()V"⟩, 11), (⟨"MixCover$Mixes", "cellsOf", "(II)I"⟩, 5), (⟨"MixCover", "isColumn", "(I)Z"⟩, 11), (⟨"MixCover", "mixCount", "()I"⟩, 11), (⟨"MixCover", "hasPlan", "()Z"⟩, 11), (⟨"MixCover$Mixes", "setOf", "(I)I"⟩, 5), (⟨"MixCover", "rowBy", "(I)I"⟩, 11), (⟨"MixCover", "remember", "()V"⟩, 11), (⟨"MixCover", "append", "(I)V"⟩, 11), (⟨"MixCover", "isRow", "(I)Z"⟩, 11), (⟨"MixCover", "takeAway", "(I)V"⟩, 11), (⟨"MixCover$RowMaker", "weightOf", "(LMixCover$ColumnSets;II)I"⟩, 6), (⟨"MixCover$RowMaker", "gather", "(LMixCover$Mixes;)V"⟩, 6)]
theorem lw_r2 : ∀ q ∈ lw_privs_2, lw_okq q := List.forall_mem_cons.mpr ⟨lw_p16, List.forall_mem_cons.mpr ⟨lw_p17, List.forall_mem_cons.mpr ⟨lw_p18, List.forall_mem_cons.mpr ⟨lw_p19, List.forall_mem_cons.mpr ⟨lw_p20, List.forall_mem_cons.mpr ⟨lw_p21, List.forall_mem_cons.mpr ⟨lw_p22, List.forall_mem_cons.mpr ⟨lw_p23, List.forall_mem_cons.mpr ⟨lw_p24, List.forall_mem_cons.mpr ⟨lw_p25, List.forall_mem_cons.mpr ⟨lw_p26, List.forall_mem_cons.mpr ⟨lw_p27, List.forall_mem_cons.mpr ⟨lw_p28, List.forall_mem_cons.mpr ⟨lw_p29, List.forall_mem_cons.mpr ⟨lw_p30, List.forall_mem_cons.mpr ⟨lw_p31, fun _ h => absurd h List.not_mem_nil⟩⟩⟩⟩⟩⟩⟩⟩⟩⟩⟩⟩⟩⟩⟩⟩
theorem lw_p32 : lw_okq (⟨"MixCover$RowMaker", "bestCell", "(LMixCover$Plan;II)I"⟩, 6) := ⟨⟨by decide +kernel, by decide +kernel⟩, List.mem_of_getElem? (i := 236) (by decide +kernel), List.mem_of_getElem? (i := 738) (by decide +kernel), List.mem_of_getElem? (i := 739) (by decide +kernel)⟩
theorem lw_p33 : lw_okq (⟨"MixCover$RowMaker", "hopeWith", "(LMixCover$Plan;III)J"⟩, 6) := ⟨⟨by decide +kernel, by decide +kernel⟩, List.mem_of_getElem? (i := 236) (by decide +kernel), List.mem_of_getElem? (i := 748) (by decide +kernel), List.mem_of_getElem? (i := 749) (by decide +kernel)⟩
theorem lw_p34 : lw_okq (⟨"MixCover$RowMaker", "findNear", "(LMixCover$Plan;I)V"⟩, 6) := ⟨⟨by decide +kernel, by decide +kernel⟩, List.mem_of_getElem? (i := 236) (by decide +kernel), List.mem_of_getElem? (i := 752) (by decide +kernel), List.mem_of_getElem? (i := 753) (by decide +kernel)⟩
theorem lw_p35 : lw_okq (⟨"MixCover$RowMaker", "sampleWith", "(LMixCover$Plan;III)I"⟩, 6) := ⟨⟨by decide +kernel, by decide +kernel⟩, List.mem_of_getElem? (i := 236) (by decide +kernel), List.mem_of_getElem? (i := 756) (by decide +kernel), List.mem_of_getElem? (i := 757) (by decide +kernel)⟩
theorem lw_p36 : lw_okq (⟨"MixCover$RowMaker", "keepWith", "(LMixCover$Plan;III)V"⟩, 6) := ⟨⟨by decide +kernel, by decide +kernel⟩, List.mem_of_getElem? (i := 236) (by decide +kernel), List.mem_of_getElem? (i := 760) (by decide +kernel), List.mem_of_getElem? (i := 761) (by decide +kernel)⟩
theorem lw_p37 : lw_okq (⟨"MixCover", "settleCell", "(II)V"⟩, 11) := ⟨⟨by decide +kernel, by decide +kernel⟩, List.mem_of_getElem? (i := 22) (by decide +kernel), List.mem_of_getElem? (i := 822) (by decide +kernel), List.mem_of_getElem? (i := 823) (by decide +kernel)⟩
theorem lw_p38 : lw_okq (⟨"MixCover$Placer", "start", "(LMixCover$Rows;LMixCover$Mixes;)V"⟩, 3) := ⟨⟨by decide +kernel, by decide +kernel⟩, List.mem_of_getElem? (i := 261) (by decide +kernel), List.mem_of_getElem? (i := 847) (by decide +kernel), List.mem_of_getElem? (i := 848) (by decide +kernel)⟩
theorem lw_p39 : lw_okq (⟨"MixCover$Placer", "bestOf", "(LMixCover$Rows;)I"⟩, 3) := ⟨⟨by decide +kernel, by decide +kernel⟩, List.mem_of_getElem? (i := 261) (by decide +kernel), List.mem_of_getElem? (i := 853) (by decide +kernel), List.mem_of_getElem? (i := 854) (by decide +kernel)⟩
theorem lw_p40 : lw_okq (⟨"MixCover$Placer", "markSeen", "(LMixCover$Rows;LMixCover$Mixes;I)V"⟩, 3) := ⟨⟨by decide +kernel, by decide +kernel⟩, List.mem_of_getElem? (i := 261) (by decide +kernel), List.mem_of_getElem? (i := 858) (by decide +kernel), List.mem_of_getElem? (i := 859) (by decide +kernel)⟩
theorem lw_p41 : lw_okq (⟨"MixCover", "drawOf", "(I)I"⟩, 11) := ⟨⟨by decide +kernel, by decide +kernel⟩, List.mem_of_getElem? (i := 22) (by decide +kernel), List.mem_of_getElem? (i := 873) (by decide +kernel), List.mem_of_getElem? (i := 874) (by decide +kernel)⟩
theorem lw_p42 : lw_okq (⟨"MixCover$Plan", "rowsIn", "(I)I"⟩, 7) := ⟨⟨by decide +kernel, by decide +kernel⟩, List.mem_of_getElem? (i := 53) (by decide +kernel), List.mem_of_getElem? (i := 909) (by decide +kernel), List.mem_of_getElem? (i := 910) (by decide +kernel)⟩
theorem lw_p43 : lw_okq (⟨"MixCover$Suspects", "passed", "(LMixCover$Rows;I)Z"⟩, 4) := ⟨⟨by decide +kernel, by decide +kernel⟩, List.mem_of_getElem? (i := 280) (by decide +kernel), List.mem_of_getElem? (i := 937) (by decide +kernel), List.mem_of_getElem? (i := 938) (by decide +kernel)⟩
theorem lw_p44 : lw_okq (⟨"MixCover", "restore", "(LMixCover$State;)V"⟩, 11) := ⟨⟨by decide +kernel, by decide +kernel⟩, List.mem_of_getElem? (i := 22) (by decide +kernel), List.mem_of_getElem? (i := 959) (by decide +kernel), List.mem_of_getElem? (i := 960) (by decide +kernel)⟩
theorem lw_p45 : lw_okq (⟨"MixCoverModel", "readsAll", "()Z"⟩, 27) := ⟨⟨by decide +kernel, by decide +kernel⟩, List.mem_of_getElem? (i := 989) (by decide +kernel), List.mem_of_getElem? (i := 1092) (by decide +kernel), List.mem_of_getElem? (i := 1093) (by decide +kernel)⟩
theorem lw_p46 : lw_okq (⟨"MixCoverModel", "wordHere", "()I"⟩, 27) := ⟨⟨by decide +kernel, by decide +kernel⟩, List.mem_of_getElem? (i := 989) (by decide +kernel), List.mem_of_getElem? (i := 1096) (by decide +kernel), List.mem_of_getElem? (i := 1097) (by decide +kernel)⟩
theorem lw_p47 : lw_okq (⟨"MixCoverModel", "next", "()I"⟩, 27) := ⟨⟨by decide +kernel, by decide +kernel⟩, List.mem_of_getElem? (i := 989) (by decide +kernel), List.mem_of_getElem? (i := 1100) (by decide +kernel), List.mem_of_getElem? (i := 1101) (by decide +kernel)⟩
def lw_privs_3 : List (MethodName × Nat) := [(⟨"MixCover$RowMaker", "bestCell", "(LMixCover$Plan;II)I"⟩, 6), (⟨"MixCover$RowMaker", "hopeWith", "(LMixCover$Plan;III)J"⟩, 6), (⟨"MixCover$RowMaker", "findNear", "(LMixCover$Plan;I)V"⟩, 6), (⟨"MixCover$RowMaker", "sampleWith", "(LMixCover$Plan;III)I"⟩, 6), (⟨"MixCover$RowMaker", "keepWith", "(LMixCover$Plan;III)V"⟩, 6), (⟨"MixCover", "settleCell", "(II)V"⟩, 11), (⟨"MixCover$Placer", "start", "(LMixCover$Rows;LMixCover$Mixes;)V"⟩, 3), (⟨"MixCover$Placer", "bestOf", "(LMixCover$Rows;)I"⟩, 3), (⟨"MixCover$Placer", "markSeen", "(LMixCover$Rows;LMixCover$Mixes;I)V"⟩, 3), (⟨"MixCover", "drawOf", "(I)I"⟩, 11), (⟨"MixCover$Plan", "rowsIn", "(I)I"⟩, 7), (⟨"MixCover$Suspects", "passed", "(LMixCover$Rows;I)Z"⟩, 4), (⟨"MixCover", "restore", "(LMixCover$State;)V"⟩, 11), (⟨"MixCoverModel", "readsAll", "()Z"⟩, 27), (⟨"MixCoverModel", "wordHere", "()I"⟩, 27), (⟨"MixCoverModel", "next", "()I"⟩, 27)]
theorem lw_r3 : ∀ q ∈ lw_privs_3, lw_okq q := List.forall_mem_cons.mpr ⟨lw_p32, List.forall_mem_cons.mpr ⟨lw_p33, List.forall_mem_cons.mpr ⟨lw_p34, List.forall_mem_cons.mpr ⟨lw_p35, List.forall_mem_cons.mpr ⟨lw_p36, List.forall_mem_cons.mpr ⟨lw_p37, List.forall_mem_cons.mpr ⟨lw_p38, List.forall_mem_cons.mpr ⟨lw_p39, List.forall_mem_cons.mpr ⟨lw_p40, List.forall_mem_cons.mpr ⟨lw_p41, List.forall_mem_cons.mpr ⟨lw_p42, List.forall_mem_cons.mpr ⟨lw_p43, List.forall_mem_cons.mpr ⟨lw_p44, List.forall_mem_cons.mpr ⟨lw_p45, List.forall_mem_cons.mpr ⟨lw_p46, List.forall_mem_cons.mpr ⟨lw_p47, fun _ h => absurd h List.not_mem_nil⟩⟩⟩⟩⟩⟩⟩⟩⟩⟩⟩⟩⟩⟩⟩⟩
theorem lw_p48 : lw_okq (⟨"MixCoverModel", "byteAt", "(I)I"⟩, 27) := ⟨⟨by decide +kernel, by decide +kernel⟩, List.mem_of_getElem? (i := 989) (by decide +kernel), List.mem_of_getElem? (i := 1104) (by decide +kernel), List.mem_of_getElem? (i := 1105) (by decide +kernel)⟩
theorem lw_p49 : lw_okq (⟨"MixCoverModel", "fails", "(II)Z"⟩, 27) := ⟨⟨by decide +kernel, by decide +kernel⟩, List.mem_of_getElem? (i := 989) (by decide +kernel), List.mem_of_getElem? (i := 1110) (by decide +kernel), List.mem_of_getElem? (i := 1111) (by decide +kernel)⟩
theorem lw_p50 : lw_okq (⟨"MixCoverModel", "readsLevels", "()Z"⟩, 27) := ⟨⟨by decide +kernel, by decide +kernel⟩, List.mem_of_getElem? (i := 989) (by decide +kernel), List.mem_of_getElem? (i := 1114) (by decide +kernel), List.mem_of_getElem? (i := 1115) (by decide +kernel)⟩
theorem lw_p51 : lw_okq (⟨"MixCoverModel", "passesWord", "()V"⟩, 27) := ⟨⟨by decide +kernel, by decide +kernel⟩, List.mem_of_getElem? (i := 989) (by decide +kernel), List.mem_of_getElem? (i := 1118) (by decide +kernel), List.mem_of_getElem? (i := 1119) (by decide +kernel)⟩
theorem lw_p52 : lw_okq (⟨"MixCoverModel", "isNumber", "()Z"⟩, 27) := ⟨⟨by decide +kernel, by decide +kernel⟩, List.mem_of_getElem? (i := 989) (by decide +kernel), List.mem_of_getElem? (i := 1122) (by decide +kernel), List.mem_of_getElem? (i := 1123) (by decide +kernel)⟩
theorem lw_p53 : lw_okq (⟨"MixCoverModel", "readsNumber", "()Z"⟩, 27) := ⟨⟨by decide +kernel, by decide +kernel⟩, List.mem_of_getElem? (i := 989) (by decide +kernel), List.mem_of_getElem? (i := 1128) (by decide +kernel), List.mem_of_getElem? (i := 1129) (by decide +kernel)⟩
theorem lw_p54 : lw_okq (⟨"MixCoverModel", "readsStrength", "()Z"⟩, 27) := ⟨⟨by decide +kernel, by decide +kernel⟩, List.mem_of_getElem? (i := 989) (by decide +kernel), List.mem_of_getElem? (i := 1136) (by decide +kernel), List.mem_of_getElem? (i := 1137) (by decide +kernel)⟩
theorem lw_p55 : lw_okq (⟨"MixCoverModel", "readsNever", "()Z"⟩, 27) := ⟨⟨by decide +kernel, by decide +kernel⟩, List.mem_of_getElem? (i := 989) (by decide +kernel), List.mem_of_getElem? (i := 1141) (by decide +kernel), List.mem_of_getElem? (i := 1142) (by decide +kernel)⟩
theorem lw_p56 : lw_okq (⟨"MixCoverModel", "hasColumn", "(III)Z"⟩, 27) := ⟨⟨by decide +kernel, by decide +kernel⟩, List.mem_of_getElem? (i := 989) (by decide +kernel), List.mem_of_getElem? (i := 1145) (by decide +kernel), List.mem_of_getElem? (i := 1146) (by decide +kernel)⟩
theorem lw_p57 : lw_okq (⟨"MixCoverModel", "mixMany", "()I"⟩, 27) := ⟨⟨by decide +kernel, by decide +kernel⟩, List.mem_of_getElem? (i := 989) (by decide +kernel), List.mem_of_getElem? (i := 1152) (by decide +kernel), List.mem_of_getElem? (i := 1153) (by decide +kernel)⟩
theorem lw_p58 : lw_okq (⟨"MixCoverModel", "laysMixes", "()V"⟩, 27) := ⟨⟨by decide +kernel, by decide +kernel⟩, List.mem_of_getElem? (i := 989) (by decide +kernel), List.mem_of_getElem? (i := 1156) (by decide +kernel), List.mem_of_getElem? (i := 1157) (by decide +kernel)⟩
theorem lw_p59 : lw_okq (⟨"MixCoverModel", "beginsSet", "(I)V"⟩, 27) := ⟨⟨by decide +kernel, by decide +kernel⟩, List.mem_of_getElem? (i := 989) (by decide +kernel), List.mem_of_getElem? (i := 1160) (by decide +kernel), List.mem_of_getElem? (i := 1161) (by decide +kernel)⟩
theorem lw_p60 : lw_okq (⟨"MixCoverModel", "levelsOfSet", "(I)I"⟩, 27) := ⟨⟨by decide +kernel, by decide +kernel⟩, List.mem_of_getElem? (i := 989) (by decide +kernel), List.mem_of_getElem? (i := 1164) (by decide +kernel), List.mem_of_getElem? (i := 1165) (by decide +kernel)⟩
theorem lw_p61 : lw_okq (⟨"MixCoverModel", "levelOf", "(III)I"⟩, 27) := ⟨⟨by decide +kernel, by decide +kernel⟩, List.mem_of_getElem? (i := 989) (by decide +kernel), List.mem_of_getElem? (i := 1168) (by decide +kernel), List.mem_of_getElem? (i := 1169) (by decide +kernel)⟩
theorem lw_p62 : lw_okq (⟨"MixCoverModel", "nextSet", "(I)Z"⟩, 27) := ⟨⟨by decide +kernel, by decide +kernel⟩, List.mem_of_getElem? (i := 989) (by decide +kernel), List.mem_of_getElem? (i := 1172) (by decide +kernel), List.mem_of_getElem? (i := 1173) (by decide +kernel)⟩
theorem lw_p63 : lw_okq (⟨"MixCoverModel", "canProbe", "()Z"⟩, 27) := ⟨⟨by decide +kernel, by decide +kernel⟩, List.mem_of_getElem? (i := 989) (by decide +kernel), List.mem_of_getElem? (i := 1176) (by decide +kernel), List.mem_of_getElem? (i := 1177) (by decide +kernel)⟩
def lw_privs_4 : List (MethodName × Nat) := [(⟨"MixCoverModel", "byteAt", "(I)I"⟩, 27), (⟨"MixCoverModel", "fails", "(II)Z"⟩, 27), (⟨"MixCoverModel", "readsLevels", "()Z"⟩, 27), (⟨"MixCoverModel", "passesWord", "()V"⟩, 27), (⟨"MixCoverModel", "isNumber", "()Z"⟩, 27), (⟨"MixCoverModel", "readsNumber", "()Z"⟩, 27), (⟨"MixCoverModel", "readsStrength", "()Z"⟩, 27), (⟨"MixCoverModel", "readsNever", "()Z"⟩, 27), (⟨"MixCoverModel", "hasColumn", "(III)Z"⟩, 27), (⟨"MixCoverModel", "mixMany", "()I"⟩, 27), (⟨"MixCoverModel", "laysMixes", "()V"⟩, 27), (⟨"MixCoverModel", "beginsSet", "(I)V"⟩, 27), (⟨"MixCoverModel", "levelsOfSet", "(I)I"⟩, 27), (⟨"MixCoverModel", "levelOf", "(III)I"⟩, 27), (⟨"MixCoverModel", "nextSet", "(I)Z"⟩, 27), (⟨"MixCoverModel", "canProbe", "()Z"⟩, 27)]
theorem lw_r4 : ∀ q ∈ lw_privs_4, lw_okq q := List.forall_mem_cons.mpr ⟨lw_p48, List.forall_mem_cons.mpr ⟨lw_p49, List.forall_mem_cons.mpr ⟨lw_p50, List.forall_mem_cons.mpr ⟨lw_p51, List.forall_mem_cons.mpr ⟨lw_p52, List.forall_mem_cons.mpr ⟨lw_p53, List.forall_mem_cons.mpr ⟨lw_p54, List.forall_mem_cons.mpr ⟨lw_p55, List.forall_mem_cons.mpr ⟨lw_p56, List.forall_mem_cons.mpr ⟨lw_p57, List.forall_mem_cons.mpr ⟨lw_p58, List.forall_mem_cons.mpr ⟨lw_p59, List.forall_mem_cons.mpr ⟨lw_p60, List.forall_mem_cons.mpr ⟨lw_p61, List.forall_mem_cons.mpr ⟨lw_p62, List.forall_mem_cons.mpr ⟨lw_p63, fun _ h => absurd h List.not_mem_nil⟩⟩⟩⟩⟩⟩⟩⟩⟩⟩⟩⟩⟩⟩⟩⟩
theorem lw_p64 : lw_okq (⟨"MixCoverModel", "fillings", "(Z)I"⟩, 27) := ⟨⟨by decide +kernel, by decide +kernel⟩, List.mem_of_getElem? (i := 989) (by decide +kernel), List.mem_of_getElem? (i := 1180) (by decide +kernel), List.mem_of_getElem? (i := 1181) (by decide +kernel)⟩
theorem lw_p65 : lw_okq (⟨"MixCoverModel", "nextLevel", "(I)I"⟩, 27) := ⟨⟨by decide +kernel, by decide +kernel⟩, List.mem_of_getElem? (i := 989) (by decide +kernel), List.mem_of_getElem? (i := 1184) (by decide +kernel), List.mem_of_getElem? (i := 1185) (by decide +kernel)⟩
theorem lw_p66 : lw_okq (⟨"MixCoverModel", "breaks", "(I)Z"⟩, 27) := ⟨⟨by decide +kernel, by decide +kernel⟩, List.mem_of_getElem? (i := 989) (by decide +kernel), List.mem_of_getElem? (i := 1188) (by decide +kernel), List.mem_of_getElem? (i := 1189) (by decide +kernel)⟩
theorem lw_p67 : lw_okq (⟨"MixCoverModel", "never", "(II)I"⟩, 27) := ⟨⟨by decide +kernel, by decide +kernel⟩, List.mem_of_getElem? (i := 989) (by decide +kernel), List.mem_of_getElem? (i := 1192) (by decide +kernel), List.mem_of_getElem? (i := 1193) (by decide +kernel)⟩
theorem lw_p68 : lw_okq (⟨"MixCoverModel", "isColumn", "(I)Z"⟩, 27) := ⟨⟨by decide +kernel, by decide +kernel⟩, List.mem_of_getElem? (i := 989) (by decide +kernel), List.mem_of_getElem? (i := 1200) (by decide +kernel), List.mem_of_getElem? (i := 1201) (by decide +kernel)⟩
theorem lw_p69 : lw_okq (⟨"MixCoverModel", "isPlan", "()Z"⟩, 27) := ⟨⟨by decide +kernel, by decide +kernel⟩, List.mem_of_getElem? (i := 989) (by decide +kernel), List.mem_of_getElem? (i := 1208) (by decide +kernel), List.mem_of_getElem? (i := 1209) (by decide +kernel)⟩
theorem lw_p70 : lw_okq (⟨"MixCoverModel", "rowsWith", "(III)I"⟩, 27) := ⟨⟨by decide +kernel, by decide +kernel⟩, List.mem_of_getElem? (i := 989) (by decide +kernel), List.mem_of_getElem? (i := 1213) (by decide +kernel), List.mem_of_getElem? (i := 1214) (by decide +kernel)⟩
theorem lw_p71 : lw_okq (⟨"MixCoverModel", "hasMix", "(II)Z"⟩, 27) := ⟨⟨by decide +kernel, by decide +kernel⟩, List.mem_of_getElem? (i := 989) (by decide +kernel), List.mem_of_getElem? (i := 1217) (by decide +kernel), List.mem_of_getElem? (i := 1218) (by decide +kernel)⟩
theorem lw_p72 : lw_okq (⟨"MixCoverModel", "cellAt", "(II)I"⟩, 27) := ⟨⟨by decide +kernel, by decide +kernel⟩, List.mem_of_getElem? (i := 989) (by decide +kernel), List.mem_of_getElem? (i := 1221) (by decide +kernel), List.mem_of_getElem? (i := 1222) (by decide +kernel)⟩
theorem lw_p73 : lw_okq (⟨"MixCoverModel", "firstWith", "(I)I"⟩, 27) := ⟨⟨by decide +kernel, by decide +kernel⟩, List.mem_of_getElem? (i := 989) (by decide +kernel), List.mem_of_getElem? (i := 1225) (by decide +kernel), List.mem_of_getElem? (i := 1226) (by decide +kernel)⟩
theorem lw_p74 : lw_okq (⟨"MixCoverModel", "isGiven", "(I)Z"⟩, 27) := ⟨⟨by decide +kernel, by decide +kernel⟩, List.mem_of_getElem? (i := 989) (by decide +kernel), List.mem_of_getElem? (i := 1233) (by decide +kernel), List.mem_of_getElem? (i := 1234) (by decide +kernel)⟩
theorem lw_p75 : lw_okq (⟨"MixCoverModel", "reads", "(I)Z"⟩, 27) := ⟨⟨by decide +kernel, by decide +kernel⟩, List.mem_of_getElem? (i := 989) (by decide +kernel), List.mem_of_getElem? (i := 1237) (by decide +kernel), List.mem_of_getElem? (i := 1238) (by decide +kernel)⟩
theorem lw_p76 : lw_okq (⟨"MixCoverModel", "probes", "([I)V"⟩, 27) := ⟨⟨by decide +kernel, by decide +kernel⟩, List.mem_of_getElem? (i := 989) (by decide +kernel), List.mem_of_getElem? (i := 1241) (by decide +kernel), List.mem_of_getElem? (i := 1242) (by decide +kernel)⟩
theorem lw_p77 : lw_okq (⟨"MixCoverModel", "keepsAct", "()V"⟩, 27) := ⟨⟨by decide +kernel, by decide +kernel⟩, List.mem_of_getElem? (i := 989) (by decide +kernel), List.mem_of_getElem? (i := 1245) (by decide +kernel), List.mem_of_getElem? (i := 1246) (by decide +kernel)⟩
theorem lw_p78 : lw_okq (⟨"MixCoverModel", "comes", "([I)V"⟩, 27) := ⟨⟨by decide +kernel, by decide +kernel⟩, List.mem_of_getElem? (i := 989) (by decide +kernel), List.mem_of_getElem? (i := 1249) (by decide +kernel), List.mem_of_getElem? (i := 1250) (by decide +kernel)⟩
theorem lw_p79 : lw_okq (⟨"MixCoverModel", "isRow", "(I)Z"⟩, 27) := ⟨⟨by decide +kernel, by decide +kernel⟩, List.mem_of_getElem? (i := 989) (by decide +kernel), List.mem_of_getElem? (i := 1257) (by decide +kernel), List.mem_of_getElem? (i := 1258) (by decide +kernel)⟩
def lw_privs_5 : List (MethodName × Nat) := [(⟨"MixCoverModel", "fillings", "(Z)I"⟩, 27), (⟨"MixCoverModel", "nextLevel", "(I)I"⟩, 27), (⟨"MixCoverModel", "breaks", "(I)Z"⟩, 27), (⟨"MixCoverModel", "never", "(II)I"⟩, 27), (⟨"MixCoverModel", "isColumn", "(I)Z"⟩, 27), (⟨"MixCoverModel", "isPlan", "()Z"⟩, 27), (⟨"MixCoverModel", "rowsWith", "(III)I"⟩, 27), (⟨"MixCoverModel", "hasMix", "(II)Z"⟩, 27), (⟨"MixCoverModel", "cellAt", "(II)I"⟩, 27), (⟨"MixCoverModel", "firstWith", "(I)I"⟩, 27), (⟨"MixCoverModel", "isGiven", "(I)Z"⟩, 27), (⟨"MixCoverModel", "reads", "(I)Z"⟩, 27), (⟨"MixCoverModel", "probes", "([I)V"⟩, 27), (⟨"MixCoverModel", "keepsAct", "()V"⟩, 27), (⟨"MixCoverModel", "comes", "([I)V"⟩, 27), (⟨"MixCoverModel", "isRow", "(I)Z"⟩, 27)]
theorem lw_r5 : ∀ q ∈ lw_privs_5, lw_okq q := List.forall_mem_cons.mpr ⟨lw_p64, List.forall_mem_cons.mpr ⟨lw_p65, List.forall_mem_cons.mpr ⟨lw_p66, List.forall_mem_cons.mpr ⟨lw_p67, List.forall_mem_cons.mpr ⟨lw_p68, List.forall_mem_cons.mpr ⟨lw_p69, List.forall_mem_cons.mpr ⟨lw_p70, List.forall_mem_cons.mpr ⟨lw_p71, List.forall_mem_cons.mpr ⟨lw_p72, List.forall_mem_cons.mpr ⟨lw_p73, List.forall_mem_cons.mpr ⟨lw_p74, List.forall_mem_cons.mpr ⟨lw_p75, List.forall_mem_cons.mpr ⟨lw_p76, List.forall_mem_cons.mpr ⟨lw_p77, List.forall_mem_cons.mpr ⟨lw_p78, List.forall_mem_cons.mpr ⟨lw_p79, fun _ h => absurd h List.not_mem_nil⟩⟩⟩⟩⟩⟩⟩⟩⟩⟩⟩⟩⟩⟩⟩⟩
theorem lw_p80 : lw_okq (⟨"MixCoverModel", "probesRow", "(I)V"⟩, 27) := ⟨⟨by decide +kernel, by decide +kernel⟩, List.mem_of_getElem? (i := 989) (by decide +kernel), List.mem_of_getElem? (i := 1262) (by decide +kernel), List.mem_of_getElem? (i := 1263) (by decide +kernel)⟩
theorem lw_p81 : lw_okq (⟨"MixCoverModel", "drops", "(I)V"⟩, 27) := ⟨⟨by decide +kernel, by decide +kernel⟩, List.mem_of_getElem? (i := 989) (by decide +kernel), List.mem_of_getElem? (i := 1274) (by decide +kernel), List.mem_of_getElem? (i := 1275) (by decide +kernel)⟩
theorem lw_p82 : lw_okq (⟨"MixCoverModel", "copiesRow", "(II)V"⟩, 27) := ⟨⟨by decide +kernel, by decide +kernel⟩, List.mem_of_getElem? (i := 989) (by decide +kernel), List.mem_of_getElem? (i := 1278) (by decide +kernel), List.mem_of_getElem? (i := 1279) (by decide +kernel)⟩
theorem lw_p83 : lw_okq (⟨"MixCoverModel", "laysOpen", "()I"⟩, 27) := ⟨⟨by decide +kernel, by decide +kernel⟩, List.mem_of_getElem? (i := 989) (by decide +kernel), List.mem_of_getElem? (i := 1286) (by decide +kernel), List.mem_of_getElem? (i := 1287) (by decide +kernel)⟩
theorem lw_p84 : lw_okq (⟨"MixCoverModel", "hopeOf", "([I)J"⟩, 27) := ⟨⟨by decide +kernel, by decide +kernel⟩, List.mem_of_getElem? (i := 989) (by decide +kernel), List.mem_of_getElem? (i := 1298) (by decide +kernel), List.mem_of_getElem? (i := 1299) (by decide +kernel)⟩
theorem lw_p85 : lw_okq (⟨"MixCoverModel", "weight", "([II)J"⟩, 27) := ⟨⟨by decide +kernel, by decide +kernel⟩, List.mem_of_getElem? (i := 989) (by decide +kernel), List.mem_of_getElem? (i := 1302) (by decide +kernel), List.mem_of_getElem? (i := 1303) (by decide +kernel)⟩
theorem lw_p86 : lw_okq (⟨"MixCoverModel", "canWith", "([II)Z"⟩, 27) := ⟨⟨by decide +kernel, by decide +kernel⟩, List.mem_of_getElem? (i := 989) (by decide +kernel), List.mem_of_getElem? (i := 1307) (by decide +kernel), List.mem_of_getElem? (i := 1308) (by decide +kernel)⟩
theorem lw_p87 : lw_okq (⟨"MixCoverModel", "laysGreedy", "()V"⟩, 27) := ⟨⟨by decide +kernel, by decide +kernel⟩, List.mem_of_getElem? (i := 989) (by decide +kernel), List.mem_of_getElem? (i := 1315) (by decide +kernel), List.mem_of_getElem? (i := 1316) (by decide +kernel)⟩
theorem lw_p88 : lw_okq (⟨"MixCoverModel", "gainOf", "(I)I"⟩, 27) := ⟨⟨by decide +kernel, by decide +kernel⟩, List.mem_of_getElem? (i := 989) (by decide +kernel), List.mem_of_getElem? (i := 1319) (by decide +kernel), List.mem_of_getElem? (i := 1320) (by decide +kernel)⟩
theorem lw_p89 : lw_okq (⟨"MixCoverModel", "fieldFor", "()I"⟩, 27) := ⟨⟨by decide +kernel, by decide +kernel⟩, List.mem_of_getElem? (i := 989) (by decide +kernel), List.mem_of_getElem? (i := 1331) (by decide +kernel), List.mem_of_getElem? (i := 1332) (by decide +kernel)⟩
theorem lw_p90 : lw_okq (⟨"MixCoverModel", "laysPolynomial", "(II)V"⟩, 27) := ⟨⟨by decide +kernel, by decide +kernel⟩, List.mem_of_getElem? (i := 989) (by decide +kernel), List.mem_of_getElem? (i := 1338) (by decide +kernel), List.mem_of_getElem? (i := 1339) (by decide +kernel)⟩
theorem lw_p91 : lw_okq (⟨"MixCoverModel", "valueAt", "(II)I"⟩, 27) := ⟨⟨by decide +kernel, by decide +kernel⟩, List.mem_of_getElem? (i := 989) (by decide +kernel), List.mem_of_getElem? (i := 1342) (by decide +kernel), List.mem_of_getElem? (i := 1343) (by decide +kernel)⟩
theorem lw_p92 : lw_okq (⟨"MixCoverModel", "settles", "(II)V"⟩, 27) := ⟨⟨by decide +kernel, by decide +kernel⟩, List.mem_of_getElem? (i := 989) (by decide +kernel), List.mem_of_getElem? (i := 1360) (by decide +kernel), List.mem_of_getElem? (i := 1361) (by decide +kernel)⟩
theorem lw_p93 : lw_okq (⟨"MixCoverModel", "moreBy", "(II)I"⟩, 27) := ⟨⟨by decide +kernel, by decide +kernel⟩, List.mem_of_getElem? (i := 989) (by decide +kernel), List.mem_of_getElem? (i := 1364) (by decide +kernel), List.mem_of_getElem? (i := 1365) (by decide +kernel)⟩
theorem lw_p94 : lw_okq (⟨"MixCoverModel", "isNeeded", "(I)Z"⟩, 27) := ⟨⟨by decide +kernel, by decide +kernel⟩, List.mem_of_getElem? (i := 989) (by decide +kernel), List.mem_of_getElem? (i := 1372) (by decide +kernel), List.mem_of_getElem? (i := 1373) (by decide +kernel)⟩
theorem lw_p95 : lw_okq (⟨"MixCoverModel", "newIn", "(II)I"⟩, 27) := ⟨⟨by decide +kernel, by decide +kernel⟩, List.mem_of_getElem? (i := 989) (by decide +kernel), List.mem_of_getElem? (i := 1380) (by decide +kernel), List.mem_of_getElem? (i := 1381) (by decide +kernel)⟩
def lw_privs_6 : List (MethodName × Nat) := [(⟨"MixCoverModel", "probesRow", "(I)V"⟩, 27), (⟨"MixCoverModel", "drops", "(I)V"⟩, 27), (⟨"MixCoverModel", "copiesRow", "(II)V"⟩, 27), (⟨"MixCoverModel", "laysOpen", "()I"⟩, 27), (⟨"MixCoverModel", "hopeOf", "([I)J"⟩, 27), (⟨"MixCoverModel", "weight", "([II)J"⟩, 27), (⟨"MixCoverModel", "canWith", "([II)Z"⟩, 27), (⟨"MixCoverModel", "laysGreedy", "()V"⟩, 27), (⟨"MixCoverModel", "gainOf", "(I)I"⟩, 27), (⟨"MixCoverModel", "fieldFor", "()I"⟩, 27), (⟨"MixCoverModel", "laysPolynomial", "(II)V"⟩, 27), (⟨"MixCoverModel", "valueAt", "(II)I"⟩, 27), (⟨"MixCoverModel", "settles", "(II)V"⟩, 27), (⟨"MixCoverModel", "moreBy", "(II)I"⟩, 27), (⟨"MixCoverModel", "isNeeded", "(I)Z"⟩, 27), (⟨"MixCoverModel", "newIn", "(II)I"⟩, 27)]
theorem lw_r6 : ∀ q ∈ lw_privs_6, lw_okq q := List.forall_mem_cons.mpr ⟨lw_p80, List.forall_mem_cons.mpr ⟨lw_p81, List.forall_mem_cons.mpr ⟨lw_p82, List.forall_mem_cons.mpr ⟨lw_p83, List.forall_mem_cons.mpr ⟨lw_p84, List.forall_mem_cons.mpr ⟨lw_p85, List.forall_mem_cons.mpr ⟨lw_p86, List.forall_mem_cons.mpr ⟨lw_p87, List.forall_mem_cons.mpr ⟨lw_p88, List.forall_mem_cons.mpr ⟨lw_p89, List.forall_mem_cons.mpr ⟨lw_p90, List.forall_mem_cons.mpr ⟨lw_p91, List.forall_mem_cons.mpr ⟨lw_p92, List.forall_mem_cons.mpr ⟨lw_p93, List.forall_mem_cons.mpr ⟨lw_p94, List.forall_mem_cons.mpr ⟨lw_p95, fun _ h => absurd h List.not_mem_nil⟩⟩⟩⟩⟩⟩⟩⟩⟩⟩⟩⟩⟩⟩⟩⟩
theorem lw_p96 : lw_okq (⟨"MixCoverModel", "bringsTo", "(II)V"⟩, 27) := ⟨⟨by decide +kernel, by decide +kernel⟩, List.mem_of_getElem? (i := 989) (by decide +kernel), List.mem_of_getElem? (i := 1384) (by decide +kernel), List.mem_of_getElem? (i := 1385) (by decide +kernel)⟩
theorem lw_p97 : lw_okq (⟨"MixCoverModel", "canGreedy", "(II)Z"⟩, 27) := ⟨⟨by decide +kernel, by decide +kernel⟩, List.mem_of_getElem? (i := 989) (by decide +kernel), List.mem_of_getElem? (i := 1392) (by decide +kernel), List.mem_of_getElem? (i := 1393) (by decide +kernel)⟩
theorem lw_p98 : lw_okq (⟨"MixCoverModel", "draw", "(I)I"⟩, 27) := ⟨⟨by decide +kernel, by decide +kernel⟩, List.mem_of_getElem? (i := 989) (by decide +kernel), List.mem_of_getElem? (i := 1396) (by decide +kernel), List.mem_of_getElem? (i := 1397) (by decide +kernel)⟩
theorem lw_p99 : lw_okq (⟨"MixCoverModel", "isGuilty", "(II)Z"⟩, 27) := ⟨⟨by decide +kernel, by decide +kernel⟩, List.mem_of_getElem? (i := 989) (by decide +kernel), List.mem_of_getElem? (i := 1428) (by decide +kernel), List.mem_of_getElem? (i := 1429) (by decide +kernel)⟩
theorem lw_p100 : lw_okq (⟨"MixCoverModel", "hasLevels", "(III)Z"⟩, 27) := ⟨⟨by decide +kernel, by decide +kernel⟩, List.mem_of_getElem? (i := 989) (by decide +kernel), List.mem_of_getElem? (i := 1432) (by decide +kernel), List.mem_of_getElem? (i := 1433) (by decide +kernel)⟩
theorem lw_p101 : lw_okq (⟨"MixCoverModel", "guiltyIn", "(I)I"⟩, 27) := ⟨⟨by decide +kernel, by decide +kernel⟩, List.mem_of_getElem? (i := 989) (by decide +kernel), List.mem_of_getElem? (i := 1440) (by decide +kernel), List.mem_of_getElem? (i := 1441) (by decide +kernel)⟩
theorem lw_p102 : lw_okq (⟨"MixCoverModel", "canMany", "()I"⟩, 27) := ⟨⟨by decide +kernel, by decide +kernel⟩, List.mem_of_getElem? (i := 989) (by decide +kernel), List.mem_of_getElem? (i := 1461) (by decide +kernel), List.mem_of_getElem? (i := 1462) (by decide +kernel)⟩
theorem lw_p103 : lw_okq (⟨"MixCoverModel", "freeMany", "(Z)I"⟩, 27) := ⟨⟨by decide +kernel, by decide +kernel⟩, List.mem_of_getElem? (i := 989) (by decide +kernel), List.mem_of_getElem? (i := 1465) (by decide +kernel), List.mem_of_getElem? (i := 1466) (by decide +kernel)⟩
theorem lw_p104 : lw_okq (⟨"MixCoverModel", "freeIn", "(I)I"⟩, 27) := ⟨⟨by decide +kernel, by decide +kernel⟩, List.mem_of_getElem? (i := 989) (by decide +kernel), List.mem_of_getElem? (i := 1469) (by decide +kernel), List.mem_of_getElem? (i := 1470) (by decide +kernel)⟩
theorem lw_p105 : lw_okq (⟨"MixCoverModel", "results", "(I)I"⟩, 27) := ⟨⟨by decide +kernel, by decide +kernel⟩, List.mem_of_getElem? (i := 989) (by decide +kernel), List.mem_of_getElem? (i := 1473) (by decide +kernel), List.mem_of_getElem? (i := 1474) (by decide +kernel)⟩
def lw_privs_7 : List (MethodName × Nat) := [(⟨"MixCoverModel", "bringsTo", "(II)V"⟩, 27), (⟨"MixCoverModel", "canGreedy", "(II)Z"⟩, 27), (⟨"MixCoverModel", "draw", "(I)I"⟩, 27), (⟨"MixCoverModel", "isGuilty", "(II)Z"⟩, 27), (⟨"MixCoverModel", "hasLevels", "(III)Z"⟩, 27), (⟨"MixCoverModel", "guiltyIn", "(I)I"⟩, 27), (⟨"MixCoverModel", "canMany", "()I"⟩, 27), (⟨"MixCoverModel", "freeMany", "(Z)I"⟩, 27), (⟨"MixCoverModel", "freeIn", "(I)I"⟩, 27), (⟨"MixCoverModel", "results", "(I)I"⟩, 27)]
theorem lw_r7 : ∀ q ∈ lw_privs_7, lw_okq q := List.forall_mem_cons.mpr ⟨lw_p96, List.forall_mem_cons.mpr ⟨lw_p97, List.forall_mem_cons.mpr ⟨lw_p98, List.forall_mem_cons.mpr ⟨lw_p99, List.forall_mem_cons.mpr ⟨lw_p100, List.forall_mem_cons.mpr ⟨lw_p101, List.forall_mem_cons.mpr ⟨lw_p102, List.forall_mem_cons.mpr ⟨lw_p103, List.forall_mem_cons.mpr ⟨lw_p104, List.forall_mem_cons.mpr ⟨lw_p105, fun _ h => absurd h List.not_mem_nil⟩⟩⟩⟩⟩⟩⟩⟩⟩⟩
def lw_privs : List (MethodName × Nat) := lw_privs_1 ++ (lw_privs_2 ++ (lw_privs_3 ++ (lw_privs_4 ++ (lw_privs_5 ++ (lw_privs_6 ++ (lw_privs_7))))))
def lw_tbl : List Cond := k2_sels lw_privs ++ tables_1
theorem lw_privs_ok : ∀ q ∈ lw_privs, lw_okq q := by
  show ∀ q ∈ lw_privs_1 ++ (lw_privs_2 ++ (lw_privs_3 ++ (lw_privs_4 ++ (lw_privs_5 ++ (lw_privs_6 ++ (lw_privs_7)))))), lw_okq q
  exact List.forall_mem_append.mpr ⟨lw_r1, List.forall_mem_append.mpr ⟨lw_r2, List.forall_mem_append.mpr ⟨lw_r3, List.forall_mem_append.mpr ⟨lw_r4, List.forall_mem_append.mpr ⟨lw_r5, List.forall_mem_append.mpr ⟨lw_r6, lw_r7⟩⟩⟩⟩⟩⟩

def RX0 : String := "MixCover$ColumnSets"
def TX0 : u_T := fun k => match k with
  | 0 => ("MixCover$ColumnSets", "size", "I", false)
  | 1 => ("MixCover$ColumnSets", "width", "I", false)
  | 2 => ("MixCover$ColumnSets", "columns", "[I", true)
  | 3 => ("MixCover$ColumnSets", "first", "[I", true)
  | 4 => ("MixCover$ColumnSets", "pick", "[I", true)
  | _ => ("MixCover$ColumnSets", "levels", "[I", true)
def tyX0 : Nat → FieldType := fun k => match k with
  | 0 => .int
  | 1 => .int
  | 2 => .array .int
  | 3 => .array .int
  | 4 => .array .int
  | _ => .array .int
abbrev wsX00 : List Cond := u_ws RX0 TX0 6
theorem nmX0 : ∀ a, a < 6 → ∀ b, b < 6 → a ≠ b → (TX0 a).2.1 ≠ (TX0 b).2.1 := by decide +kernel
theorem tyX0_ok : ∀ k, k < 6 → parseFieldDescriptor (TX0 k).2.2.1 = some (tyX0 k) := by decide +kernel
abbrev cX0_init : ByteArray := prog_2_method_1_code
def yX0_init : MethodName := ⟨RX0, "<init>", "()V"⟩
abbrev cX0_build : ByteArray := prog_2_method_2_code
def yX0_build : MethodName := ⟨RX0, "build", "(LMixCover$Plan;I)V"⟩
abbrev cX0_nextPick : ByteArray := prog_2_method_3_code
def yX0_nextPick : MethodName := ⟨RX0, "nextPick", "(I)Z"⟩
abbrev cX0_columnAt : ByteArray := prog_2_method_4_code
def yX0_columnAt : MethodName := ⟨RX0, "columnAt", "(II)I"⟩
abbrev cX0_levelsAt : ByteArray := prog_2_method_5_code
def yX0_levelsAt : MethodName := ⟨RX0, "levelsAt", "(II)I"⟩
abbrev cX0_numberIn : ByteArray := prog_2_method_6_code
def yX0_numberIn : MethodName := ⟨RX0, "numberIn", "(II)I"⟩
abbrev cX0_cellsIn : ByteArray := prog_2_method_7_code
def yX0_cellsIn : MethodName := ⟨RX0, "cellsIn", "(II)I"⟩
def RX1 : String := "MixCover$Field"
def TX1 : u_T := fun k => match k with
  | _ => ("", "", "", false)
def tyX1 : Nat → FieldType := fun k => match k with
  | _ => .int
abbrev wsX10 : List Cond := u_ws RX1 TX1 0
theorem nmX1 : ∀ a, a < 0 → ∀ b, b < 0 → a ≠ b → (TX1 a).2.1 ≠ (TX1 b).2.1 := by decide +kernel
theorem tyX1_ok : ∀ k, k < 0 → parseFieldDescriptor (TX1 k).2.2.1 = some (tyX1 k) := by decide +kernel
abbrev cX1_sizeFor : ByteArray := prog_3_method_2_code
def yX1_sizeFor : MethodName := ⟨RX1, "sizeFor", "(I)I"⟩
abbrev cX1_power : ByteArray := prog_3_method_3_code
def yX1_power : MethodName := ⟨RX1, "power", "(II)I"⟩
abbrev cX1_valueAt : ByteArray := prog_3_method_4_code
def yX1_valueAt : MethodName := ⟨RX1, "valueAt", "(IIII)I"⟩
abbrev cX1_lastOf : ByteArray := prog_3_method_5_code
def yX1_lastOf : MethodName := ⟨RX1, "lastOf", "(II)I"⟩
abbrev cX1_plus : ByteArray := prog_3_method_6_code
def yX1_plus : MethodName := ⟨RX1, "plus", "(III)I"⟩
abbrev cX1_times : ByteArray := prog_3_method_7_code
def yX1_times : MethodName := ⟨RX1, "times", "(III)I"⟩
def RX2 : String := "MixCover$Mixes"
def TX2 : u_T := fun k => match k with
  | 0 => ("MixCover$Mixes", "sets", "LMixCover$ColumnSets;", true)
  | 1 => ("MixCover$Mixes", "bits", "[I", true)
  | 2 => ("MixCover$Mixes", "sample", "[I", true)
  | 3 => ("MixCover$Mixes", "had", "[I", true)
  | _ => ("MixCover$Mixes", "possible", "I", false)
def tyX2 : Nat → FieldType := fun k => match k with
  | 0 => .object "MixCover$ColumnSets"
  | 1 => .array .int
  | 2 => .array .int
  | 3 => .array .int
  | _ => .int
abbrev wsX20 : List Cond := u_ws RX2 TX2 5
theorem nmX2 : ∀ a, a < 5 → ∀ b, b < 5 → a ≠ b → (TX2 a).2.1 ≠ (TX2 b).2.1 := by decide +kernel
theorem tyX2_ok : ∀ k, k < 5 → parseFieldDescriptor (TX2 k).2.2.1 = some (tyX2 k) := by decide +kernel
abbrev cX2_init : ByteArray := prog_4_method_1_code
def yX2_init : MethodName := ⟨RX2, "<init>", "()V"⟩
abbrev cX2_size : ByteArray := prog_4_method_2_code
def yX2_size : MethodName := ⟨RX2, "size", "()I"⟩
abbrev cX2_build : ByteArray := prog_4_method_3_code
def yX2_build : MethodName := ⟨RX2, "build", "(LMixCover$Plan;)V"⟩
abbrev cX2_cellsOf : ByteArray := prog_4_method_4_code
def yX2_cellsOf : MethodName := ⟨RX2, "cellsOf", "(II)I"⟩
abbrev cX2_setOf : ByteArray := prog_4_method_5_code
def yX2_setOf : MethodName := ⟨RX2, "setOf", "(I)I"⟩
abbrev cX2_columnOf : ByteArray := prog_4_method_6_code
def yX2_columnOf : MethodName := ⟨RX2, "columnOf", "(II)I"⟩
abbrev cX2_levelOf : ByteArray := prog_4_method_7_code
def yX2_levelOf : MethodName := ⟨RX2, "levelOf", "(II)I"⟩
abbrev cX2_recount : ByteArray := prog_4_method_8_code
def yX2_recount : MethodName := ⟨RX2, "recount", "(LMixCover$Rows;)V"⟩
abbrev cX2_change : ByteArray := prog_4_method_9_code
def yX2_change : MethodName := ⟨RX2, "change", "(II)V"⟩
abbrev cX2_isOpen : ByteArray := prog_4_method_10_code
def yX2_isOpen : MethodName := ⟨RX2, "isOpen", "(I)Z"⟩
abbrev cX2_openCount : ByteArray := prog_4_method_11_code
def yX2_openCount : MethodName := ⟨RX2, "openCount", "()I"⟩
abbrev cX2_openAt : ByteArray := prog_4_method_12_code
def yX2_openAt : MethodName := ⟨RX2, "openAt", "(I)I"⟩
abbrev cX2_openIn : ByteArray := prog_4_method_13_code
def yX2_openIn : MethodName := ⟨RX2, "openIn", "(I)I"⟩
abbrev cX2_hadBesides : ByteArray := prog_4_method_14_code
def yX2_hadBesides : MethodName := ⟨RX2, "hadBesides", "(I)Z"⟩
abbrev cX2_gainOf : ByteArray := prog_4_method_15_code
def yX2_gainOf : MethodName := ⟨RX2, "gainOf", "(LMixCover$Rows;I)I"⟩
abbrev cX2_mostOfOneSet : ByteArray := prog_4_method_16_code
def yX2_mostOfOneSet : MethodName := ⟨RX2, "mostOfOneSet", "()I"⟩
def RX3 : String := "MixCover$Placer"
def TX3 : u_T := fun k => match k with
  | 0 => ("MixCover$Placer", "placed", "LMixCover$Rows;", true)
  | 1 => ("MixCover$Placer", "more", "[I", true)
  | _ => ("MixCover$Placer", "seen", "[Z", true)
def tyX3 : Nat → FieldType := fun k => match k with
  | 0 => .object "MixCover$Rows"
  | 1 => .array .int
  | _ => .array .boolean
abbrev wsX30 : List Cond := u_ws RX3 TX3 3
theorem nmX3 : ∀ a, a < 3 → ∀ b, b < 3 → a ≠ b → (TX3 a).2.1 ≠ (TX3 b).2.1 := by decide +kernel
theorem tyX3_ok : ∀ k, k < 3 → parseFieldDescriptor (TX3 k).2.2.1 = some (tyX3 k) := by decide +kernel
abbrev cX3_init : ByteArray := prog_5_method_1_code
def yX3_init : MethodName := ⟨RX3, "<init>", "()V"⟩
abbrev cX3_place : ByteArray := prog_5_method_2_code
def yX3_place : MethodName := ⟨RX3, "place", "(LMixCover$Rows;LMixCover$Mixes;)I"⟩
abbrev cX3_start : ByteArray := prog_5_method_3_code
def yX3_start : MethodName := ⟨RX3, "start", "(LMixCover$Rows;LMixCover$Mixes;)V"⟩
abbrev cX3_bestOf : ByteArray := prog_5_method_4_code
def yX3_bestOf : MethodName := ⟨RX3, "bestOf", "(LMixCover$Rows;)I"⟩
abbrev cX3_markSeen : ByteArray := prog_5_method_5_code
def yX3_markSeen : MethodName := ⟨RX3, "markSeen", "(LMixCover$Rows;LMixCover$Mixes;I)V"⟩
def RX4 : String := "MixCover$Plan"
def TX4 : u_T := fun k => match k with
  | 0 => ("MixCover$Plan", "columns", "I", false)
  | 1 => ("MixCover$Plan", "strength", "I", false)
  | 2 => ("MixCover$Plan", "neverCount", "I", false)
  | 3 => ("MixCover$Plan", "all", "I", false)
  | 4 => ("MixCover$Plan", "levels", "[I", true)
  | 5 => ("MixCover$Plan", "nevers", "[I", true)
  | _ => ("MixCover$Plan", "neverColumns", "[I", true)
def tyX4 : Nat → FieldType := fun k => match k with
  | 0 => .int
  | 1 => .int
  | 2 => .int
  | 3 => .int
  | 4 => .array .int
  | 5 => .array .int
  | _ => .array .int
abbrev wsX40 : List Cond := u_ws RX4 TX4 7
theorem nmX4 : ∀ a, a < 7 → ∀ b, b < 7 → a ≠ b → (TX4 a).2.1 ≠ (TX4 b).2.1 := by decide +kernel
theorem tyX4_ok : ∀ k, k < 7 → parseFieldDescriptor (TX4 k).2.2.1 = some (tyX4 k) := by decide +kernel
abbrev cX4_init : ByteArray := prog_6_method_1_code
def yX4_init : MethodName := ⟨RX4, "<init>", "()V"⟩
abbrev cX4_clear : ByteArray := prog_6_method_2_code
def yX4_clear : MethodName := ⟨RX4, "clear", "()V"⟩
abbrev cX4_addColumn : ByteArray := prog_6_method_3_code
def yX4_addColumn : MethodName := ⟨RX4, "addColumn", "(I)V"⟩
abbrev cX4_addNever : ByteArray := prog_6_method_4_code
def yX4_addNever : MethodName := ⟨RX4, "addNever", "(I)V"⟩
abbrev cX4_copyFrom : ByteArray := prog_6_method_5_code
def yX4_copyFrom : MethodName := ⟨RX4, "copyFrom", "(LMixCover$Plan;)V"⟩
abbrev cX4_sameAs : ByteArray := prog_6_method_6_code
def yX4_sameAs : MethodName := ⟨RX4, "sameAs", "(LMixCover$Plan;)Z"⟩
abbrev cX4_rowOfDigits : ByteArray := prog_6_method_7_code
def yX4_rowOfDigits : MethodName := ⟨RX4, "rowOfDigits", "(I)I"⟩
abbrev cX4_digitsOf : ByteArray := prog_6_method_8_code
def yX4_digitsOf : MethodName := ⟨RX4, "digitsOf", "(I)I"⟩
abbrev cX4_fieldSize : ByteArray := prog_6_method_9_code
def yX4_fieldSize : MethodName := ⟨RX4, "fieldSize", "()I"⟩
abbrev cX4_rowOfPolynomial : ByteArray := prog_6_method_10_code
def yX4_rowOfPolynomial : MethodName := ⟨RX4, "rowOfPolynomial", "(II)I"⟩
abbrev cX4_leftTo : ByteArray := prog_6_method_11_code
def yX4_leftTo : MethodName := ⟨RX4, "leftTo", "(I)I"⟩
abbrev cX4_allows : ByteArray := prog_6_method_12_code
def yX4_allows : MethodName := ⟨RX4, "allows", "(I)Z"⟩
abbrev cX4_levelsLeft : ByteArray := prog_6_method_13_code
def yX4_levelsLeft : MethodName := ⟨RX4, "levelsLeft", "(II)I"⟩
abbrev cX4_lawfulNear : ByteArray := prog_6_method_14_code
def yX4_lawfulNear : MethodName := ⟨RX4, "lawfulNear", "(II)I"⟩
abbrev cX4_lawfulRow : ByteArray := prog_6_method_15_code
def yX4_lawfulRow : MethodName := ⟨RX4, "lawfulRow", "(LMixCover$Plan;II)I"⟩
abbrev cX4_lawfulIn : ByteArray := prog_6_method_16_code
def yX4_lawfulIn : MethodName := ⟨RX4, "lawfulIn", "(LMixCover$Plan;II)I"⟩
abbrev cX4_narrow : ByteArray := prog_6_method_17_code
def yX4_narrow : MethodName := ⟨RX4, "narrow", "(I)I"⟩
abbrev cX4_openCell : ByteArray := prog_6_method_18_code
def yX4_openCell : MethodName := ⟨RX4, "openCell", "(I)I"⟩
abbrev cX4_withOnly : ByteArray := prog_6_method_19_code
def yX4_withOnly : MethodName := ⟨RX4, "withOnly", "(II)I"⟩
abbrev cX4_leastRow : ByteArray := prog_6_method_20_code
def yX4_leastRow : MethodName := ⟨RX4, "leastRow", "(I)I"⟩
abbrev cX4_rowsIn : ByteArray := prog_6_method_21_code
def yX4_rowsIn : MethodName := ⟨RX4, "rowsIn", "(I)I"⟩
def RX5 : String := "MixCover$PlanReader"
def TX5 : u_T := fun k => match k with
  | 0 => ("MixCover$PlanReader", "draft", "LMixCover$Plan;", true)
  | 1 => ("MixCover$PlanReader", "sets", "LMixCover$ColumnSets;", true)
  | 2 => ("MixCover$PlanReader", "text", "[I", false)
  | 3 => ("MixCover$PlanReader", "size", "I", false)
  | 4 => ("MixCover$PlanReader", "at", "I", false)
  | 5 => ("MixCover$PlanReader", "fault", "I", false)
  | _ => ("MixCover$PlanReader", "strengthTold", "Z", false)
def tyX5 : Nat → FieldType := fun k => match k with
  | 0 => .object "MixCover$Plan"
  | 1 => .object "MixCover$ColumnSets"
  | 2 => .array .int
  | 3 => .int
  | 4 => .int
  | 5 => .int
  | _ => .boolean
abbrev wsX50 : List Cond := u_ws RX5 TX5 7
theorem nmX5 : ∀ a, a < 7 → ∀ b, b < 7 → a ≠ b → (TX5 a).2.1 ≠ (TX5 b).2.1 := by decide +kernel
theorem tyX5_ok : ∀ k, k < 7 → parseFieldDescriptor (TX5 k).2.2.1 = some (tyX5 k) := by decide +kernel
abbrev cX5_init : ByteArray := prog_7_method_1_code
def yX5_init : MethodName := ⟨RX5, "<init>", "()V"⟩
abbrev cX5_read : ByteArray := prog_7_method_2_code
def yX5_read : MethodName := ⟨RX5, "read", "(LMixCover$Tape;)I"⟩
abbrev cX5_mixesIfWider : ByteArray := prog_7_method_3_code
def yX5_mixesIfWider : MethodName := ⟨RX5, "mixesIfWider", "(LMixCover$Plan;I)I"⟩
abbrev cX5_mixesOf : ByteArray := prog_7_method_4_code
def yX5_mixesOf : MethodName := ⟨RX5, "mixesOf", "(LMixCover$Plan;)I"⟩
abbrev cX5_readLevels : ByteArray := prog_7_method_5_code
def yX5_readLevels : MethodName := ⟨RX5, "readLevels", "()V"⟩
abbrev cX5_readLine : ByteArray := prog_7_method_6_code
def yX5_readLine : MethodName := ⟨RX5, "readLine", "()V"⟩
abbrev cX5_readStrength : ByteArray := prog_7_method_7_code
def yX5_readStrength : MethodName := ⟨RX5, "readStrength", "()V"⟩
abbrev cX5_readNever : ByteArray := prog_7_method_8_code
def yX5_readNever : MethodName := ⟨RX5, "readNever", "()V"⟩
abbrev cX5_readCell : ByteArray := prog_7_method_9_code
def yX5_readCell : MethodName := ⟨RX5, "readCell", "(IZ)I"⟩
abbrev cX5_fail : ByteArray := prog_7_method_10_code
def yX5_fail : MethodName := ⟨RX5, "fail", "(II)V"⟩
abbrev cX5_skipBlanks : ByteArray := prog_7_method_11_code
def yX5_skipBlanks : MethodName := ⟨RX5, "skipBlanks", "()V"⟩
abbrev cX5_isByte : ByteArray := prog_7_method_12_code
def yX5_isByte : MethodName := ⟨RX5, "isByte", "(C)Z"⟩
abbrev cX5_isDigit : ByteArray := prog_7_method_13_code
def yX5_isDigit : MethodName := ⟨RX5, "isDigit", "()Z"⟩
abbrev cX5_isLetter : ByteArray := prog_7_method_14_code
def yX5_isLetter : MethodName := ⟨RX5, "isLetter", "(I)Z"⟩
abbrev cX5_isWord : ByteArray := prog_7_method_15_code
def yX5_isWord : MethodName := ⟨RX5, "isWord", "(Ljava/lang/String;)Z"⟩
abbrev cX5_takeByte : ByteArray := prog_7_method_16_code
def yX5_takeByte : MethodName := ⟨RX5, "takeByte", "(C)V"⟩
abbrev cX5_takeWord : ByteArray := prog_7_method_17_code
def yX5_takeWord : MethodName := ⟨RX5, "takeWord", "(Ljava/lang/String;)V"⟩
abbrev cX5_takeNumber : ByteArray := prog_7_method_18_code
def yX5_takeNumber : MethodName := ⟨RX5, "takeNumber", "(II)I"⟩
def RX6 : String := "MixCover$RowMaker"
def TX6 : u_T := fun k => match k with
  | 0 => ("MixCover$RowMaker", "cells", "[I", true)
  | 1 => ("MixCover$RowMaker", "weights", "[I", true)
  | 2 => ("MixCover$RowMaker", "samples", "[I", true)
  | 3 => ("MixCover$RowMaker", "size", "I", false)
  | 4 => ("MixCover$RowMaker", "near", "[I", true)
  | _ => ("MixCover$RowMaker", "nearCount", "I", false)
def tyX6 : Nat → FieldType := fun k => match k with
  | 0 => .array .int
  | 1 => .array .int
  | 2 => .array .int
  | 3 => .int
  | 4 => .array .int
  | _ => .int
abbrev wsX60 : List Cond := u_ws RX6 TX6 6
theorem nmX6 : ∀ a, a < 6 → ∀ b, b < 6 → a ≠ b → (TX6 a).2.1 ≠ (TX6 b).2.1 := by decide +kernel
theorem tyX6_ok : ∀ k, k < 6 → parseFieldDescriptor (TX6 k).2.2.1 = some (tyX6 k) := by decide +kernel
abbrev cX6_init : ByteArray := prog_8_method_1_code
def yX6_init : MethodName := ⟨RX6, "<init>", "()V"⟩
abbrev cX6_makeRow : ByteArray := prog_8_method_2_code
def yX6_makeRow : MethodName := ⟨RX6, "makeRow", "(LMixCover$Plan;LMixCover$Mixes;)I"⟩
abbrev cX6_hopeOf : ByteArray := prog_8_method_3_code
def yX6_hopeOf : MethodName := ⟨RX6, "hopeOf", "(ILMixCover$Plan;LMixCover$Mixes;)J"⟩
abbrev cX6_weightOf : ByteArray := prog_8_method_4_code
def yX6_weightOf : MethodName := ⟨RX6, "weightOf", "(LMixCover$ColumnSets;II)I"⟩
abbrev cX6_gather : ByteArray := prog_8_method_5_code
def yX6_gather : MethodName := ⟨RX6, "gather", "(LMixCover$Mixes;)V"⟩
abbrev cX6_bestCell : ByteArray := prog_8_method_6_code
def yX6_bestCell : MethodName := ⟨RX6, "bestCell", "(LMixCover$Plan;II)I"⟩
abbrev cX6_hopeWith : ByteArray := prog_8_method_7_code
def yX6_hopeWith : MethodName := ⟨RX6, "hopeWith", "(LMixCover$Plan;III)J"⟩
abbrev cX6_keepWith : ByteArray := prog_8_method_8_code
def yX6_keepWith : MethodName := ⟨RX6, "keepWith", "(LMixCover$Plan;III)V"⟩
abbrev cX6_findNear : ByteArray := prog_8_method_9_code
def yX6_findNear : MethodName := ⟨RX6, "findNear", "(LMixCover$Plan;I)V"⟩
abbrev cX6_sampleWith : ByteArray := prog_8_method_10_code
def yX6_sampleWith : MethodName := ⟨RX6, "sampleWith", "(LMixCover$Plan;III)I"⟩
def RX7 : String := "MixCover$Rows"
def TX7 : u_T := fun k => match k with
  | 0 => ("MixCover$Rows", "size", "I", false)
  | 1 => ("MixCover$Rows", "cells", "[I", true)
  | _ => ("MixCover$Rows", "told", "[I", true)
def tyX7 : Nat → FieldType := fun k => match k with
  | 0 => .int
  | 1 => .array .int
  | _ => .array .int
abbrev wsX70 : List Cond := u_ws RX7 TX7 3
theorem nmX7 : ∀ a, a < 3 → ∀ b, b < 3 → a ≠ b → (TX7 a).2.1 ≠ (TX7 b).2.1 := by decide +kernel
theorem tyX7_ok : ∀ k, k < 3 → parseFieldDescriptor (TX7 k).2.2.1 = some (tyX7 k) := by decide +kernel
abbrev cX7_init : ByteArray := prog_9_method_1_code
def yX7_init : MethodName := ⟨RX7, "<init>", "()V"⟩
abbrev cX7_copyFrom : ByteArray := prog_9_method_2_code
def yX7_copyFrom : MethodName := ⟨RX7, "copyFrom", "(LMixCover$Rows;)V"⟩
abbrev cX7_append : ByteArray := prog_9_method_3_code
def yX7_append : MethodName := ⟨RX7, "append", "(I)V"⟩
abbrev cX7_remove : ByteArray := prog_9_method_4_code
def yX7_remove : MethodName := ⟨RX7, "remove", "(I)V"⟩
abbrev cX7_firstThatHas : ByteArray := prog_9_method_5_code
def yX7_firstThatHas : MethodName := ⟨RX7, "firstThatHas", "(I)I"⟩
abbrev cX7_wholeOnes : ByteArray := prog_9_method_6_code
def yX7_wholeOnes : MethodName := ⟨RX7, "wholeOnes", "(I)I"⟩
abbrev cX7_freeCells : ByteArray := prog_9_method_7_code
def yX7_freeCells : MethodName := ⟨RX7, "freeCells", "(I)I"⟩
abbrev cX7_toldAs : ByteArray := prog_9_method_8_code
def yX7_toldAs : MethodName := ⟨RX7, "toldAs", "(I)I"⟩
def RX8 : String := "MixCover$State"
def TX8 : u_T := fun k => match k with
  | 0 => ("MixCover$State", "plan", "LMixCover$Plan;", true)
  | 1 => ("MixCover$State", "rows", "LMixCover$Rows;", true)
  | _ => ("MixCover$State", "x", "I", false)
def tyX8 : Nat → FieldType := fun k => match k with
  | 0 => .object "MixCover$Plan"
  | 1 => .object "MixCover$Rows"
  | _ => .int
abbrev wsX80 : List Cond := u_ws RX8 TX8 3
theorem nmX8 : ∀ a, a < 3 → ∀ b, b < 3 → a ≠ b → (TX8 a).2.1 ≠ (TX8 b).2.1 := by decide +kernel
theorem tyX8_ok : ∀ k, k < 3 → parseFieldDescriptor (TX8 k).2.2.1 = some (tyX8 k) := by decide +kernel
abbrev cX8_init : ByteArray := prog_10_method_1_code
def yX8_init : MethodName := ⟨RX8, "<init>", "()V"⟩
abbrev cX8_copyFrom : ByteArray := prog_10_method_2_code
def yX8_copyFrom : MethodName := ⟨RX8, "copyFrom", "(LMixCover$State;)V"⟩
def RX9 : String := "MixCover$Suspects"
def TX9 : u_T := fun k => match k with
  | 0 => ("MixCover$Suspects", "numbers", "[I", true)
  | 1 => ("MixCover$Suspects", "bits", "[I", true)
  | 2 => ("MixCover$Suspects", "sets", "LMixCover$ColumnSets;", true)
  | _ => ("MixCover$Suspects", "size", "I", false)
def tyX9 : Nat → FieldType := fun k => match k with
  | 0 => .array .int
  | 1 => .array .int
  | 2 => .object "MixCover$ColumnSets"
  | _ => .int
abbrev wsX90 : List Cond := u_ws RX9 TX9 4
theorem nmX9 : ∀ a, a < 4 → ∀ b, b < 4 → a ≠ b → (TX9 a).2.1 ≠ (TX9 b).2.1 := by decide +kernel
theorem tyX9_ok : ∀ k, k < 4 → parseFieldDescriptor (TX9 k).2.2.1 = some (tyX9 k) := by decide +kernel
abbrev cX9_init : ByteArray := prog_11_method_1_code
def yX9_init : MethodName := ⟨RX9, "<init>", "()V"⟩
abbrev cX9_find : ByteArray := prog_11_method_2_code
def yX9_find : MethodName := ⟨RX9, "find", "(LMixCover$Plan;LMixCover$Rows;I)V"⟩
abbrev cX9_passed : ByteArray := prog_11_method_3_code
def yX9_passed : MethodName := ⟨RX9, "passed", "(LMixCover$Rows;I)Z"⟩
abbrev cX9_lesserPart : ByteArray := prog_11_method_4_code
def yX9_lesserPart : MethodName := ⟨RX9, "lesserPart", "(I)I"⟩
abbrev cX9_rowThatPartsBest : ByteArray := prog_11_method_5_code
def yX9_rowThatPartsBest : MethodName := ⟨RX9, "rowThatPartsBest", "(LMixCover$Rows;)I"⟩
def RX10 : String := "MixCover$Tape"
def TX10 : u_T := fun k => match k with
  | 0 => ("MixCover$Tape", "bytes", "[I", true)
  | _ => ("MixCover$Tape", "size", "I", false)
def tyX10 : Nat → FieldType := fun k => match k with
  | 0 => .array .int
  | _ => .int
abbrev wsX100 : List Cond := u_ws RX10 TX10 2
theorem nmX10 : ∀ a, a < 2 → ∀ b, b < 2 → a ≠ b → (TX10 a).2.1 ≠ (TX10 b).2.1 := by decide +kernel
theorem tyX10_ok : ∀ k, k < 2 → parseFieldDescriptor (TX10 k).2.2.1 = some (tyX10 k) := by decide +kernel
abbrev cX10_init : ByteArray := prog_12_method_1_code
def yX10_init : MethodName := ⟨RX10, "<init>", "()V"⟩
abbrev cX10_put : ByteArray := prog_12_method_2_code
def yX10_put : MethodName := ⟨RX10, "put", "(I)V"⟩
def RX11 : String := "MixCover"
def TX11 : u_T := fun k => match k with
  | 0 => ("MixCover", "tape", "LMixCover$Tape;", true)
  | 1 => ("MixCover", "reader", "LMixCover$PlanReader;", true)
  | 2 => ("MixCover", "now", "LMixCover$State;", true)
  | 3 => ("MixCover", "mixes", "LMixCover$Mixes;", true)
  | 4 => ("MixCover", "maker", "LMixCover$RowMaker;", true)
  | 5 => ("MixCover", "placer", "LMixCover$Placer;", true)
  | 6 => ("MixCover", "suspects", "LMixCover$Suspects;", true)
  | 7 => ("MixCover", "past", "[LMixCover$State;", true)
  | 8 => ("MixCover", "pastEnd", "I", false)
  | 9 => ("MixCover", "pastSize", "I", false)
  | _ => ("MixCover", "shelves", "[LMixCover$State;", true)
def tyX11 : Nat → FieldType := fun k => match k with
  | 0 => .object "MixCover$Tape"
  | 1 => .object "MixCover$PlanReader"
  | 2 => .object "MixCover$State"
  | 3 => .object "MixCover$Mixes"
  | 4 => .object "MixCover$RowMaker"
  | 5 => .object "MixCover$Placer"
  | 6 => .object "MixCover$Suspects"
  | 7 => .array (.object "MixCover$State")
  | 8 => .int
  | 9 => .int
  | _ => .array (.object "MixCover$State")
abbrev wsX110 : List Cond := u_ws RX11 TX11 11
theorem nmX11 : ∀ a, a < 11 → ∀ b, b < 11 → a ≠ b → (TX11 a).2.1 ≠ (TX11 b).2.1 := by decide +kernel
theorem tyX11_ok : ∀ k, k < 11 → parseFieldDescriptor (TX11 k).2.2.1 = some (tyX11 k) := by decide +kernel
abbrev cX11_init : ByteArray := prog_1_method_1_code
def yX11_init : MethodName := ⟨RX11, "<init>", "()V"⟩
abbrev cX11_feed : ByteArray := prog_1_method_2_code
def yX11_feed : MethodName := ⟨RX11, "feed", "(IIIII)I"⟩
abbrev cX11_end : ByteArray := prog_1_method_3_code
def yX11_end : MethodName := ⟨RX11, "end", "(I)I"⟩
abbrev cX11_plan : ByteArray := prog_1_method_4_code
def yX11_plan : MethodName := ⟨RX11, "plan", "()I"⟩
abbrev cX11_levels : ByteArray := prog_1_method_5_code
def yX11_levels : MethodName := ⟨RX11, "levels", "(I)I"⟩
abbrev cX11_mix : ByteArray := prog_1_method_6_code
def yX11_mix : MethodName := ⟨RX11, "mix", "(II)I"⟩
abbrev cX11_add : ByteArray := prog_1_method_7_code
def yX11_add : MethodName := ⟨RX11, "add", "(I)I"⟩
abbrev cX11_tell : ByteArray := prog_1_method_8_code
def yX11_tell : MethodName := ⟨RX11, "tell", "(III)I"⟩
abbrev cX11_cell : ByteArray := prog_1_method_9_code
def yX11_cell : MethodName := ⟨RX11, "cell", "(II)I"⟩
abbrev cX11_drop : ByteArray := prog_1_method_10_code
def yX11_drop : MethodName := ⟨RX11, "drop", "(I)I"⟩
abbrev cX11_open : ByteArray := prog_1_method_11_code
def yX11_open : MethodName := ⟨RX11, "open", "()I"⟩
abbrev cX11_openMix : ByteArray := prog_1_method_12_code
def yX11_openMix : MethodName := ⟨RX11, "openMix", "(I)I"⟩
abbrev cX11_hope : ByteArray := prog_1_method_13_code
def yX11_hope : MethodName := ⟨RX11, "hope", "(I)J"⟩
abbrev cX11_greed : ByteArray := prog_1_method_14_code
def yX11_greed : MethodName := ⟨RX11, "greed", "()I"⟩
abbrev cX11_fill : ByteArray := prog_1_method_15_code
def yX11_fill : MethodName := ⟨RX11, "fill", "()I"⟩
abbrev cX11_field : ByteArray := prog_1_method_16_code
def yX11_field : MethodName := ⟨RX11, "field", "()I"⟩
abbrev cX11_widen : ByteArray := prog_1_method_17_code
def yX11_widen : MethodName := ⟨RX11, "widen", "(I)I"⟩
abbrev cX11_settle : ByteArray := prog_1_method_18_code
def yX11_settle : MethodName := ⟨RX11, "settle", "()I"⟩
abbrev cX11_thin : ByteArray := prog_1_method_19_code
def yX11_thin : MethodName := ⟨RX11, "thin", "()I"⟩
abbrev cX11_order : ByteArray := prog_1_method_20_code
def yX11_order : MethodName := ⟨RX11, "order", "()I"⟩
abbrev cX11_drawn : ByteArray := prog_1_method_21_code
def yX11_drawn : MethodName := ⟨RX11, "drawn", "()I"⟩
abbrev cX11_draws : ByteArray := prog_1_method_22_code
def yX11_draws : MethodName := ⟨RX11, "draws", "(I)I"⟩
abbrev cX11_gain : ByteArray := prog_1_method_23_code
def yX11_gain : MethodName := ⟨RX11, "gain", "(I)I"⟩
abbrev cX11_least : ByteArray := prog_1_method_24_code
def yX11_least : MethodName := ⟨RX11, "least", "()I"⟩
abbrev cX11_lawful : ByteArray := prog_1_method_25_code
def yX11_lawful : MethodName := ⟨RX11, "lawful", "(I)I"⟩
abbrev cX11_result : ByteArray := prog_1_method_26_code
def yX11_result : MethodName := ⟨RX11, "result", "(II)I"⟩
abbrev cX11_guilty : ByteArray := prog_1_method_27_code
def yX11_guilty : MethodName := ⟨RX11, "guilty", "(II)I"⟩
abbrev cX11_ask : ByteArray := prog_1_method_28_code
def yX11_ask : MethodName := ⟨RX11, "ask", "(I)I"⟩
abbrev cX11_undo : ByteArray := prog_1_method_29_code
def yX11_undo : MethodName := ⟨RX11, "undo", "()I"⟩
abbrev cX11_keep : ByteArray := prog_1_method_30_code
def yX11_keep : MethodName := ⟨RX11, "keep", "(I)I"⟩
abbrev cX11_back : ByteArray := prog_1_method_31_code
def yX11_back : MethodName := ⟨RX11, "back", "(I)I"⟩
abbrev cX11_count : ByteArray := prog_1_method_32_code
def yX11_count : MethodName := ⟨RX11, "count", "(I)I"⟩
abbrev cX11_hasPlan : ByteArray := prog_1_method_33_code
def yX11_hasPlan : MethodName := ⟨RX11, "hasPlan", "()Z"⟩
abbrev cX11_isRow : ByteArray := prog_1_method_34_code
def yX11_isRow : MethodName := ⟨RX11, "isRow", "(I)Z"⟩
abbrev cX11_isColumn : ByteArray := prog_1_method_35_code
def yX11_isColumn : MethodName := ⟨RX11, "isColumn", "(I)Z"⟩
abbrev cX11_mixCount : ByteArray := prog_1_method_36_code
def yX11_mixCount : MethodName := ⟨RX11, "mixCount", "()I"⟩
abbrev cX11_rowBy : ByteArray := prog_1_method_37_code
def yX11_rowBy : MethodName := ⟨RX11, "rowBy", "(I)I"⟩
abbrev cX11_append : ByteArray := prog_1_method_38_code
def yX11_append : MethodName := ⟨RX11, "append", "(I)V"⟩
abbrev cX11_takeAway : ByteArray := prog_1_method_39_code
def yX11_takeAway : MethodName := ⟨RX11, "takeAway", "(I)V"⟩
abbrev cX11_settleCell : ByteArray := prog_1_method_40_code
def yX11_settleCell : MethodName := ⟨RX11, "settleCell", "(II)V"⟩
abbrev cX11_drawOf : ByteArray := prog_1_method_41_code
def yX11_drawOf : MethodName := ⟨RX11, "drawOf", "(I)I"⟩
abbrev cX11_remember : ByteArray := prog_1_method_42_code
def yX11_remember : MethodName := ⟨RX11, "remember", "()V"⟩
abbrev cX11_restore : ByteArray := prog_1_method_43_code
def yX11_restore : MethodName := ⟨RX11, "restore", "(LMixCover$State;)V"⟩
abbrev cX11_rebuild : ByteArray := prog_1_method_44_code
def yX11_rebuild : MethodName := ⟨RX11, "rebuild", "()V"⟩
abbrev cX11_levelIn : ByteArray := prog_1_method_45_code
def yX11_levelIn : MethodName := ⟨RX11, "levelIn", "(II)I"⟩
abbrev cX11_columnsOf : ByteArray := prog_1_method_46_code
def yX11_columnsOf : MethodName := ⟨RX11, "columnsOf", "(I)I"⟩
def RX12 : String := "MixCoverModel"
def TX12 : u_T := fun k => match k with
  | 0 => ("MixCoverModel", "tape", "[B", true)
  | 1 => ("MixCoverModel", "taped", "I", false)
  | 2 => ("MixCoverModel", "at", "I", false)
  | 3 => ("MixCoverModel", "wrong", "I", false)
  | 4 => ("MixCoverModel", "words", "[B", true)
  | 5 => ("MixCoverModel", "number", "I", false)
  | 6 => ("MixCoverModel", "numberPlace", "I", false)
  | 7 => ("MixCoverModel", "now", "[I", true)
  | 8 => ("MixCoverModel", "read", "[I", true)
  | 9 => ("MixCoverModel", "hasStrength", "Z", false)
  | 10 => ("MixCoverModel", "before", "[I", true)
  | 11 => ("MixCoverModel", "probe", "[I", true)
  | 12 => ("MixCoverModel", "tried", "[I", true)
  | 13 => ("MixCoverModel", "mixes", "I", false)
  | 14 => ("MixCoverModel", "mixColumn", "[I", true)
  | 15 => ("MixCoverModel", "mixLevel", "[I", true)
  | 16 => ("MixCoverModel", "canMix", "[Z", true)
  | 17 => ("MixCoverModel", "set", "[I", true)
  | 18 => ("MixCoverModel", "isOpen", "[Z", true)
  | 19 => ("MixCoverModel", "given", "[I", true)
  | 20 => ("MixCoverModel", "greedy", "[I", true)
  | 21 => ("MixCoverModel", "numbers", "[I", true)
  | 22 => ("MixCoverModel", "carried", "[I", true)
  | 23 => ("MixCoverModel", "was", "[I", true)
  | 24 => ("MixCoverModel", "kept", "[I", true)
  | 25 => ("MixCoverModel", "isKept", "[Z", true)
  | _ => ("MixCoverModel", "undone", "I", false)
def tyX12 : Nat → FieldType := fun k => match k with
  | 0 => .array .byte
  | 1 => .int
  | 2 => .int
  | 3 => .int
  | 4 => .array .byte
  | 5 => .int
  | 6 => .int
  | 7 => .array .int
  | 8 => .array .int
  | 9 => .boolean
  | 10 => .array .int
  | 11 => .array .int
  | 12 => .array .int
  | 13 => .int
  | 14 => .array .int
  | 15 => .array .int
  | 16 => .array .boolean
  | 17 => .array .int
  | 18 => .array .boolean
  | 19 => .array .int
  | 20 => .array .int
  | 21 => .array .int
  | 22 => .array .int
  | 23 => .array .int
  | 24 => .array .int
  | 25 => .array .boolean
  | _ => .int
abbrev wsX120 : List Cond := u_ws RX12 TX12 27
theorem nmX12 : ∀ a, a < 27 → ∀ b, b < 27 → a ≠ b → (TX12 a).2.1 ≠ (TX12 b).2.1 := by decide +kernel
theorem tyX12_ok : ∀ k, k < 27 → parseFieldDescriptor (TX12 k).2.2.1 = some (tyX12 k) := by decide +kernel
abbrev cX12_init : ByteArray := prog_14_method_1_code
def yX12_init : MethodName := ⟨RX12, "<init>", "()V"⟩
abbrev cX12_isIn : ByteArray := prog_14_method_2_code
def yX12_isIn : MethodName := ⟨RX12, "isIn", "(JJJ)Z"⟩
abbrev cX12_feed : ByteArray := prog_14_method_3_code
def yX12_feed : MethodName := ⟨RX12, "feed", "(IIIII)I"⟩
abbrev cX12_end : ByteArray := prog_14_method_4_code
def yX12_end : MethodName := ⟨RX12, "end", "(I)I"⟩
abbrev cX12_fails : ByteArray := prog_14_method_5_code
def yX12_fails : MethodName := ⟨RX12, "fails", "(II)Z"⟩
abbrev cX12_byteAt : ByteArray := prog_14_method_6_code
def yX12_byteAt : MethodName := ⟨RX12, "byteAt", "(I)I"⟩
abbrev cX12_next : ByteArray := prog_14_method_7_code
def yX12_next : MethodName := ⟨RX12, "next", "()I"⟩
abbrev cX12_isNumber : ByteArray := prog_14_method_8_code
def yX12_isNumber : MethodName := ⟨RX12, "isNumber", "()Z"⟩
abbrev cX12_wordHere : ByteArray := prog_14_method_9_code
def yX12_wordHere : MethodName := ⟨RX12, "wordHere", "()I"⟩
abbrev cX12_passesWord : ByteArray := prog_14_method_10_code
def yX12_passesWord : MethodName := ⟨RX12, "passesWord", "()V"⟩
abbrev cX12_readsNumber : ByteArray := prog_14_method_11_code
def yX12_readsNumber : MethodName := ⟨RX12, "readsNumber", "()Z"⟩
abbrev cX12_readsLevels : ByteArray := prog_14_method_12_code
def yX12_readsLevels : MethodName := ⟨RX12, "readsLevels", "()Z"⟩
abbrev cX12_readsStrength : ByteArray := prog_14_method_13_code
def yX12_readsStrength : MethodName := ⟨RX12, "readsStrength", "()Z"⟩
abbrev cX12_hasColumn : ByteArray := prog_14_method_14_code
def yX12_hasColumn : MethodName := ⟨RX12, "hasColumn", "(III)Z"⟩
abbrev cX12_readsNever : ByteArray := prog_14_method_15_code
def yX12_readsNever : MethodName := ⟨RX12, "readsNever", "()Z"⟩
abbrev cX12_readsAll : ByteArray := prog_14_method_16_code
def yX12_readsAll : MethodName := ⟨RX12, "readsAll", "()Z"⟩
abbrev cX12_copies : ByteArray := prog_14_method_17_code
def yX12_copies : MethodName := ⟨RX12, "copies", "([II[II)V"⟩
abbrev cX12_plan : ByteArray := prog_14_method_18_code
def yX12_plan : MethodName := ⟨RX12, "plan", "()I"⟩
abbrev cX12_never : ByteArray := prog_14_method_19_code
def yX12_never : MethodName := ⟨RX12, "never", "(II)I"⟩
abbrev cX12_breaks : ByteArray := prog_14_method_20_code
def yX12_breaks : MethodName := ⟨RX12, "breaks", "(I)Z"⟩
abbrev cX12_nextLevel : ByteArray := prog_14_method_21_code
def yX12_nextLevel : MethodName := ⟨RX12, "nextLevel", "(I)I"⟩
abbrev cX12_fillings : ByteArray := prog_14_method_22_code
def yX12_fillings : MethodName := ⟨RX12, "fillings", "(Z)I"⟩
abbrev cX12_canProbe : ByteArray := prog_14_method_23_code
def yX12_canProbe : MethodName := ⟨RX12, "canProbe", "()Z"⟩
abbrev cX12_mixMany : ByteArray := prog_14_method_24_code
def yX12_mixMany : MethodName := ⟨RX12, "mixMany", "()I"⟩
abbrev cX12_beginsSet : ByteArray := prog_14_method_25_code
def yX12_beginsSet : MethodName := ⟨RX12, "beginsSet", "(I)V"⟩
abbrev cX12_nextSet : ByteArray := prog_14_method_26_code
def yX12_nextSet : MethodName := ⟨RX12, "nextSet", "(I)Z"⟩
abbrev cX12_levelsOfSet : ByteArray := prog_14_method_27_code
def yX12_levelsOfSet : MethodName := ⟨RX12, "levelsOfSet", "(I)I"⟩
abbrev cX12_levelOf : ByteArray := prog_14_method_28_code
def yX12_levelOf : MethodName := ⟨RX12, "levelOf", "(III)I"⟩
abbrev cX12_laysMixes : ByteArray := prog_14_method_29_code
def yX12_laysMixes : MethodName := ⟨RX12, "laysMixes", "()V"⟩
abbrev cX12_cellAt : ByteArray := prog_14_method_30_code
def yX12_cellAt : MethodName := ⟨RX12, "cellAt", "(II)I"⟩
abbrev cX12_hasMix : ByteArray := prog_14_method_31_code
def yX12_hasMix : MethodName := ⟨RX12, "hasMix", "(II)Z"⟩
abbrev cX12_rowsWith : ByteArray := prog_14_method_32_code
def yX12_rowsWith : MethodName := ⟨RX12, "rowsWith", "(III)I"⟩
abbrev cX12_laysOpen : ByteArray := prog_14_method_33_code
def yX12_laysOpen : MethodName := ⟨RX12, "laysOpen", "()I"⟩
abbrev cX12_isPlan : ByteArray := prog_14_method_34_code
def yX12_isPlan : MethodName := ⟨RX12, "isPlan", "()Z"⟩
abbrev cX12_isRow : ByteArray := prog_14_method_35_code
def yX12_isRow : MethodName := ⟨RX12, "isRow", "(I)Z"⟩
abbrev cX12_isColumn : ByteArray := prog_14_method_36_code
def yX12_isColumn : MethodName := ⟨RX12, "isColumn", "(I)Z"⟩
abbrev cX12_levels : ByteArray := prog_14_method_37_code
def yX12_levels : MethodName := ⟨RX12, "levels", "(I)I"⟩
abbrev cX12_firstWith : ByteArray := prog_14_method_38_code
def yX12_firstWith : MethodName := ⟨RX12, "firstWith", "(I)I"⟩
abbrev cX12_mix : ByteArray := prog_14_method_39_code
def yX12_mix : MethodName := ⟨RX12, "mix", "(II)I"⟩
abbrev cX12_reads : ByteArray := prog_14_method_40_code
def yX12_reads : MethodName := ⟨RX12, "reads", "(I)Z"⟩
abbrev cX12_isGiven : ByteArray := prog_14_method_41_code
def yX12_isGiven : MethodName := ⟨RX12, "isGiven", "(I)Z"⟩
abbrev cX12_probes : ByteArray := prog_14_method_42_code
def yX12_probes : MethodName := ⟨RX12, "probes", "([I)V"⟩
abbrev cX12_comes : ByteArray := prog_14_method_43_code
def yX12_comes : MethodName := ⟨RX12, "comes", "([I)V"⟩
abbrev cX12_add : ByteArray := prog_14_method_44_code
def yX12_add : MethodName := ⟨RX12, "add", "(I)I"⟩
abbrev cX12_probesRow : ByteArray := prog_14_method_45_code
def yX12_probesRow : MethodName := ⟨RX12, "probesRow", "(I)V"⟩
abbrev cX12_tell : ByteArray := prog_14_method_46_code
def yX12_tell : MethodName := ⟨RX12, "tell", "(III)I"⟩
abbrev cX12_cell : ByteArray := prog_14_method_47_code
def yX12_cell : MethodName := ⟨RX12, "cell", "(II)I"⟩
abbrev cX12_drops : ByteArray := prog_14_method_48_code
def yX12_drops : MethodName := ⟨RX12, "drops", "(I)V"⟩
abbrev cX12_copiesRow : ByteArray := prog_14_method_49_code
def yX12_copiesRow : MethodName := ⟨RX12, "copiesRow", "(II)V"⟩
abbrev cX12_drop : ByteArray := prog_14_method_50_code
def yX12_drop : MethodName := ⟨RX12, "drop", "(I)I"⟩
abbrev cX12_open : ByteArray := prog_14_method_51_code
def yX12_open : MethodName := ⟨RX12, "open", "()I"⟩
abbrev cX12_openMix : ByteArray := prog_14_method_52_code
def yX12_openMix : MethodName := ⟨RX12, "openMix", "(I)I"⟩
abbrev cX12_weight : ByteArray := prog_14_method_53_code
def yX12_weight : MethodName := ⟨RX12, "weight", "([II)J"⟩
abbrev cX12_canWith : ByteArray := prog_14_method_54_code
def yX12_canWith : MethodName := ⟨RX12, "canWith", "([II)Z"⟩
abbrev cX12_hopeOf : ByteArray := prog_14_method_55_code
def yX12_hopeOf : MethodName := ⟨RX12, "hopeOf", "([I)J"⟩
abbrev cX12_hope : ByteArray := prog_14_method_56_code
def yX12_hope : MethodName := ⟨RX12, "hope", "(I)J"⟩
abbrev cX12_laysGreedy : ByteArray := prog_14_method_57_code
def yX12_laysGreedy : MethodName := ⟨RX12, "laysGreedy", "()V"⟩
abbrev cX12_gainOf : ByteArray := prog_14_method_58_code
def yX12_gainOf : MethodName := ⟨RX12, "gainOf", "(I)I"⟩
abbrev cX12_greed : ByteArray := prog_14_method_59_code
def yX12_greed : MethodName := ⟨RX12, "greed", "()I"⟩
abbrev cX12_fill : ByteArray := prog_14_method_60_code
def yX12_fill : MethodName := ⟨RX12, "fill", "()I"⟩
abbrev cX12_times : ByteArray := prog_14_method_61_code
def yX12_times : MethodName := ⟨RX12, "times", "(III)I"⟩
abbrev cX12_plus : ByteArray := prog_14_method_62_code
def yX12_plus : MethodName := ⟨RX12, "plus", "(III)I"⟩
abbrev cX12_fieldFor : ByteArray := prog_14_method_63_code
def yX12_fieldFor : MethodName := ⟨RX12, "fieldFor", "()I"⟩
abbrev cX12_valueAt : ByteArray := prog_14_method_64_code
def yX12_valueAt : MethodName := ⟨RX12, "valueAt", "(II)I"⟩
abbrev cX12_laysPolynomial : ByteArray := prog_14_method_65_code
def yX12_laysPolynomial : MethodName := ⟨RX12, "laysPolynomial", "(II)V"⟩
abbrev cX12_power : ByteArray := prog_14_method_66_code
def yX12_power : MethodName := ⟨RX12, "power", "(II)I"⟩
abbrev cX12_field : ByteArray := prog_14_method_67_code
def yX12_field : MethodName := ⟨RX12, "field", "()I"⟩
abbrev cX12_widen : ByteArray := prog_14_method_68_code
def yX12_widen : MethodName := ⟨RX12, "widen", "(I)I"⟩
abbrev cX12_moreBy : ByteArray := prog_14_method_69_code
def yX12_moreBy : MethodName := ⟨RX12, "moreBy", "(II)I"⟩
abbrev cX12_settles : ByteArray := prog_14_method_70_code
def yX12_settles : MethodName := ⟨RX12, "settles", "(II)V"⟩
abbrev cX12_settle : ByteArray := prog_14_method_71_code
def yX12_settle : MethodName := ⟨RX12, "settle", "()I"⟩
abbrev cX12_isNeeded : ByteArray := prog_14_method_72_code
def yX12_isNeeded : MethodName := ⟨RX12, "isNeeded", "(I)Z"⟩
abbrev cX12_thin : ByteArray := prog_14_method_73_code
def yX12_thin : MethodName := ⟨RX12, "thin", "()I"⟩
abbrev cX12_bringsTo : ByteArray := prog_14_method_74_code
def yX12_bringsTo : MethodName := ⟨RX12, "bringsTo", "(II)V"⟩
abbrev cX12_newIn : ByteArray := prog_14_method_75_code
def yX12_newIn : MethodName := ⟨RX12, "newIn", "(II)I"⟩
abbrev cX12_order : ByteArray := prog_14_method_76_code
def yX12_order : MethodName := ⟨RX12, "order", "()I"⟩
abbrev cX12_draw : ByteArray := prog_14_method_77_code
def yX12_draw : MethodName := ⟨RX12, "draw", "(I)I"⟩
abbrev cX12_canGreedy : ByteArray := prog_14_method_78_code
def yX12_canGreedy : MethodName := ⟨RX12, "canGreedy", "(II)Z"⟩
abbrev cX12_drawn : ByteArray := prog_14_method_79_code
def yX12_drawn : MethodName := ⟨RX12, "drawn", "()I"⟩
abbrev cX12_draws : ByteArray := prog_14_method_80_code
def yX12_draws : MethodName := ⟨RX12, "draws", "(I)I"⟩
abbrev cX12_gain : ByteArray := prog_14_method_81_code
def yX12_gain : MethodName := ⟨RX12, "gain", "(I)I"⟩
abbrev cX12_least : ByteArray := prog_14_method_82_code
def yX12_least : MethodName := ⟨RX12, "least", "()I"⟩
abbrev cX12_lawful : ByteArray := prog_14_method_83_code
def yX12_lawful : MethodName := ⟨RX12, "lawful", "(I)I"⟩
abbrev cX12_result : ByteArray := prog_14_method_84_code
def yX12_result : MethodName := ⟨RX12, "result", "(II)I"⟩
abbrev cX12_hasLevels : ByteArray := prog_14_method_85_code
def yX12_hasLevels : MethodName := ⟨RX12, "hasLevels", "(III)Z"⟩
abbrev cX12_isGuilty : ByteArray := prog_14_method_86_code
def yX12_isGuilty : MethodName := ⟨RX12, "isGuilty", "(II)Z"⟩
abbrev cX12_guilty : ByteArray := prog_14_method_87_code
def yX12_guilty : MethodName := ⟨RX12, "guilty", "(II)I"⟩
abbrev cX12_guiltyIn : ByteArray := prog_14_method_88_code
def yX12_guiltyIn : MethodName := ⟨RX12, "guiltyIn", "(I)I"⟩
abbrev cX12_ask : ByteArray := prog_14_method_89_code
def yX12_ask : MethodName := ⟨RX12, "ask", "(I)I"⟩
abbrev cX12_keepsAct : ByteArray := prog_14_method_90_code
def yX12_keepsAct : MethodName := ⟨RX12, "keepsAct", "()V"⟩
abbrev cX12_undo : ByteArray := prog_14_method_91_code
def yX12_undo : MethodName := ⟨RX12, "undo", "()I"⟩
abbrev cX12_keep : ByteArray := prog_14_method_92_code
def yX12_keep : MethodName := ⟨RX12, "keep", "(I)I"⟩
abbrev cX12_back : ByteArray := prog_14_method_93_code
def yX12_back : MethodName := ⟨RX12, "back", "(I)I"⟩
abbrev cX12_canMany : ByteArray := prog_14_method_94_code
def yX12_canMany : MethodName := ⟨RX12, "canMany", "()I"⟩
abbrev cX12_freeIn : ByteArray := prog_14_method_95_code
def yX12_freeIn : MethodName := ⟨RX12, "freeIn", "(I)I"⟩
abbrev cX12_freeMany : ByteArray := prog_14_method_96_code
def yX12_freeMany : MethodName := ⟨RX12, "freeMany", "(Z)I"⟩
abbrev cX12_results : ByteArray := prog_14_method_97_code
def yX12_results : MethodName := ⟨RX12, "results", "(I)I"⟩
abbrev cX12_count : ByteArray := prog_14_method_98_code
def yX12_count : MethodName := ⟨RX12, "count", "(I)I"⟩
def RJ6 : String := "java/lang/Integer"
def TJ6 : u_T := fun k => match k with
  | _ => ("", "", "", false)
def tyJ6 : Nat → FieldType := fun k => match k with
  | _ => .int
abbrev wsJ60 : List Cond := u_ws RJ6 TJ6 0
theorem nmJ6 : ∀ a, a < 0 → ∀ b, b < 0 → a ≠ b → (TJ6 a).2.1 ≠ (TJ6 b).2.1 := by decide +kernel
theorem tyJ6_ok : ∀ k, k < 0 → parseFieldDescriptor (TJ6 k).2.2.1 = some (tyJ6 k) := by decide +kernel
abbrev cJ6_bitCount_0f7a4 : ByteArray := prog_15_method_49_code
def yJ6_bitCount_0f7a4 : MethodName := ⟨RJ6, "bitCount", "(I)I"⟩
def RJ9 : String := "java/lang/Math"
def TJ9 : u_T := fun k => match k with
  | _ => ("", "", "", false)
def tyJ9 : Nat → FieldType := fun k => match k with
  | _ => .int
abbrev wsJ90 : List Cond := u_ws RJ9 TJ9 0
theorem nmJ9 : ∀ a, a < 0 → ∀ b, b < 0 → a ≠ b → (TJ9 a).2.1 ≠ (TJ9 b).2.1 := by decide +kernel
theorem tyJ9_ok : ∀ k, k < 0 → parseFieldDescriptor (TJ9 k).2.2.1 = some (tyJ9 k) := by decide +kernel
abbrev cJ9_max_7cf53 : ByteArray := prog_16_method_65_code
def yJ9_max_7cf53 : MethodName := ⟨RJ9, "max", "(II)I"⟩
abbrev cJ9_min_7cf53 : ByteArray := prog_16_method_69_code
def yJ9_min_7cf53 : MethodName := ⟨RJ9, "min", "(II)I"⟩
def RJ0 : String := "java/lang/String"
def TJ0 : u_T := fun k => match k with
  | _ => ("", "", "", false)
def tyJ0 : Nat → FieldType := fun k => match k with
  | _ => .int
abbrev wsJ00 : List Cond := u_ws RJ0 TJ0 0
theorem nmJ0 : ∀ a, a < 0 → ∀ b, b < 0 → a ≠ b → (TJ0 a).2.1 ≠ (TJ0 b).2.1 := by decide +kernel
theorem tyJ0_ok : ∀ k, k < 0 → parseFieldDescriptor (TJ0 k).2.2.1 = some (tyJ0 k) := by decide +kernel
abbrev cJ0_length_8abf5 : ByteArray := prog_17_method_54_code
def yJ0_length_8abf5 : MethodName := ⟨RJ0, "length", "()I"⟩
abbrev cJ0_charAt_5068e : ByteArray := prog_17_method_56_code
def yJ0_charAt_5068e : MethodName := ⟨RJ0, "charAt", "(I)C"⟩
abbrev cJ0_coder_7d493 : ByteArray := prog_17_method_152_code
def yJ0_coder_7d493 : MethodName := ⟨RJ0, "coder", "()B"⟩
abbrev cJ0_isLatin1_aae02 : ByteArray := prog_17_method_154_code
def yJ0_isLatin1_aae02 : MethodName := ⟨RJ0, "isLatin1", "()Z"⟩
abbrev cJ0_checkIndex_df160 : ByteArray := prog_17_method_155_code
def yJ0_checkIndex_df160 : MethodName := ⟨RJ0, "checkIndex", "(II)V"⟩
def RJ1 : String := "java/lang/StringLatin1"
def TJ1 : u_T := fun k => match k with
  | _ => ("", "", "", false)
def tyJ1 : Nat → FieldType := fun k => match k with
  | _ => .int
abbrev wsJ10 : List Cond := u_ws RJ1 TJ1 0
theorem nmJ1 : ∀ a, a < 0 → ∀ b, b < 0 → a ≠ b → (TJ1 a).2.1 ≠ (TJ1 b).2.1 := by decide +kernel
theorem tyJ1_ok : ∀ k, k < 0 → parseFieldDescriptor (TJ1 k).2.2.1 = some (tyJ1 k) := by decide +kernel
abbrev cJ1_charAt_3b067 : ByteArray := prog_18_method_2_code
def yJ1_charAt_3b067 : MethodName := ⟨RJ1, "charAt", "([BI)C"⟩
def RJ2 : String := "java/lang/StringUTF16"
def TJ2 : u_T := fun k => match k with
  | _ => ("", "", "", false)
def tyJ2 : Nat → FieldType := fun k => match k with
  | _ => .int
abbrev wsJ20 : List Cond := u_ws RJ2 TJ2 0
theorem nmJ2 : ∀ a, a < 0 → ∀ b, b < 0 → a ≠ b → (TJ2 a).2.1 ≠ (TJ2 b).2.1 := by decide +kernel
theorem tyJ2_ok : ∀ k, k < 0 → parseFieldDescriptor (TJ2 k).2.2.1 = some (tyJ2 k) := by decide +kernel
abbrev cJ2_getChar_3b067 : ByteArray := prog_19_method_5_code
def yJ2_getChar_3b067 : MethodName := ⟨RJ2, "getChar", "([BI)C"⟩
abbrev cJ2_length_9d52b : ByteArray := prog_19_method_6_code
def yJ2_length_9d52b : MethodName := ⟨RJ2, "length", "([B)I"⟩
abbrev cJ2_charAt_3b067 : ByteArray := prog_19_method_83_code
def yJ2_charAt_3b067 : MethodName := ⟨RJ2, "charAt", "([BI)C"⟩
abbrev cJ2_checkIndex_2214a : ByteArray := prog_19_method_91_code
def yJ2_checkIndex_2214a : MethodName := ⟨RJ2, "checkIndex", "(I[B)V"⟩
def RJ10 : String := "java/lang/System"
def TJ10 : u_T := fun k => match k with
  | _ => ("", "", "", false)
def tyJ10 : Nat → FieldType := fun k => match k with
  | _ => .int
abbrev wsJ100 : List Cond := u_ws RJ10 TJ10 0
theorem nmJ10 : ∀ a, a < 0 → ∀ b, b < 0 → a ≠ b → (TJ10 a).2.1 ≠ (TJ10 b).2.1 := by decide +kernel
theorem tyJ10_ok : ∀ k, k < 0 → parseFieldDescriptor (TJ10 k).2.2.1 = some (tyJ10 k) := by decide +kernel
def RJ3 : String := "jdk/internal/util/Preconditions"
def TJ3 : u_T := fun k => match k with
  | _ => ("", "", "", false)
def tyJ3 : Nat → FieldType := fun k => match k with
  | _ => .int
abbrev wsJ30 : List Cond := u_ws RJ3 TJ3 0
theorem nmJ3 : ∀ a, a < 0 → ∀ b, b < 0 → a ≠ b → (TJ3 a).2.1 ≠ (TJ3 b).2.1 := by decide +kernel
theorem tyJ3_ok : ∀ k, k < 0 → parseFieldDescriptor (TJ3 k).2.2.1 = some (tyJ3 k) := by decide +kernel
abbrev cJ3_checkIndex_8e157 : ByteArray := prog_21_method_11_code
def yJ3_checkIndex_8e157 : MethodName := ⟨RJ3, "checkIndex", "(IILjava/util/function/BiFunction;)I"⟩
def RL : String := "MixCoverLaw"
abbrev cL_law : ByteArray := code
def yL_law : MethodName := ⟨RL, "law", "([I)Z"⟩
abbrev vwCl : List vw_C := [(RX0, TX0, 6), (RX2, TX2, 5), (RX3, TX3, 3), (RX4, TX4, 7), (RX5, TX5, 7), (RX6, TX6, 6), (RX7, TX7, 3), (RX8, TX8, 3), (RX9, TX9, 4), (RX10, TX10, 2), (RX11, TX11, 11), (RX12, TX12, 27)]

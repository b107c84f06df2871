section
-- ===== PART A: goes FIRST, ahead of the names: the tables' words, and 'selects' of the private methods out of them =====
/-- a private method of a class that the tables say can be made, by its rows of tables_1 -/
def lw_okq (q : MethodName × Nat) : Prop := (q.1.cls ≠ "java/lang/invoke/MethodHandle" ∧ q.1.cls ≠ "java/lang/invoke/VarHandle") ∧ Cond.instantiable q.1.cls q.2 ∈ tables_1 ∧ Cond.privateMethod q.1 ∈ tables_1 ∧ Cond.instanceMethod q.1 ∈ tables_1
theorem lw_p0 : lw_okq (⟨"java/util/ArrayList", "add", "(Ljava/lang/Object;[Ljava/lang/Object;I)V"⟩, 3) := ⟨⟨by decide +kernel, by decide +kernel⟩, List.mem_of_getElem? (i := 33) (by decide +kernel), List.mem_of_getElem? (i := 309) (by decide +kernel), List.mem_of_getElem? (i := 310) (by decide +kernel)⟩
theorem lw_p1 : lw_okq (⟨"java/util/ArrayList", "grow", "()[Ljava/lang/Object;"⟩, 3) := ⟨⟨by decide +kernel, by decide +kernel⟩, List.mem_of_getElem? (i := 33) (by decide +kernel), List.mem_of_getElem? (i := 313) (by decide +kernel), List.mem_of_getElem? (i := 314) (by decide +kernel)⟩
theorem lw_p2 : lw_okq (⟨"java/util/ArrayList", "grow", "(I)[Ljava/lang/Object;"⟩, 3) := ⟨⟨by decide +kernel, by decide +kernel⟩, List.mem_of_getElem? (i := 33) (by decide +kernel), List.mem_of_getElem? (i := 317) (by decide +kernel), List.mem_of_getElem? (i := 318) (by decide +kernel)⟩
theorem lw_p3 : lw_okq (⟨"GreatStore", "thingAt", "(I)LGreatStore$Thing;"⟩, 11) := ⟨⟨by decide +kernel, by decide +kernel⟩, List.mem_of_getElem? (i := 25) (by decide +kernel), List.mem_of_getElem? (i := 368) (by decide +kernel), List.mem_of_getElem? (i := 369) (by decide +kernel)⟩
theorem lw_p4 : lw_okq (⟨"GreatStore", "slipAt", "(I)LGreatStore$Slip;"⟩, 11) := ⟨⟨by decide +kernel, by decide +kernel⟩, List.mem_of_getElem? (i := 25) (by decide +kernel), List.mem_of_getElem? (i := 487) (by decide +kernel), List.mem_of_getElem? (i := 488) (by decide +kernel)⟩
theorem lw_p5 : lw_okq (⟨"GreatStore", "countOnApproval", "()I"⟩, 11) := ⟨⟨by decide +kernel, by decide +kernel⟩, List.mem_of_getElem? (i := 25) (by decide +kernel), List.mem_of_getElem? (i := 504) (by decide +kernel), List.mem_of_getElem? (i := 505) (by decide +kernel)⟩
theorem lw_p6 : lw_okq (⟨"GreatStore", "countParcels", "()I"⟩, 11) := ⟨⟨by decide +kernel, by decide +kernel⟩, List.mem_of_getElem? (i := 25) (by decide +kernel), List.mem_of_getElem? (i := 508) (by decide +kernel), List.mem_of_getElem? (i := 509) (by decide +kernel)⟩
theorem lw_p7 : lw_okq (⟨"GreatStore$Van", "askOnce", "(I)Z"⟩, 4) := ⟨⟨by decide +kernel, by decide +kernel⟩, List.mem_of_getElem? (i := 59) (by decide +kernel), List.mem_of_getElem? (i := 528) (by decide +kernel), List.mem_of_getElem? (i := 529) (by decide +kernel)⟩
theorem lw_p8 : lw_okq (⟨"GreatStore$Van", "piecesFor", "(Ljava/util/ArrayList;I)I"⟩, 4) := ⟨⟨by decide +kernel, by decide +kernel⟩, List.mem_of_getElem? (i := 59) (by decide +kernel), List.mem_of_getElem? (i := 532) (by decide +kernel), List.mem_of_getElem? (i := 533) (by decide +kernel)⟩
theorem lw_p9 : lw_okq (⟨"GreatStore$Van", "take", "(Ljava/util/ArrayList;II)V"⟩, 4) := ⟨⟨by decide +kernel, by decide +kernel⟩, List.mem_of_getElem? (i := 59) (by decide +kernel), List.mem_of_getElem? (i := 536) (by decide +kernel), List.mem_of_getElem? (i := 537) (by decide +kernel)⟩
theorem lw_p10 : lw_okq (⟨"GreatStore$Tokens", "scanToken", "([BII)I"⟩, 4) := ⟨⟨by decide +kernel, by decide +kernel⟩, List.mem_of_getElem? (i := 97) (by decide +kernel), List.mem_of_getElem? (i := 569) (by decide +kernel), List.mem_of_getElem? (i := 570) (by decide +kernel)⟩
theorem lw_p11 : lw_okq (⟨"GreatStore$Tokens", "add", "(III)V"⟩, 4) := ⟨⟨by decide +kernel, by decide +kernel⟩, List.mem_of_getElem? (i := 97) (by decide +kernel), List.mem_of_getElem? (i := 635) (by decide +kernel), List.mem_of_getElem? (i := 636) (by decide +kernel)⟩
theorem lw_p12 : lw_okq (⟨"GreatStore$RuleReader", "kind", "()I"⟩, 5) := ⟨⟨by decide +kernel, by decide +kernel⟩, List.mem_of_getElem? (i := 156) (by decide +kernel), List.mem_of_getElem? (i := 653) (by decide +kernel), List.mem_of_getElem? (i := 654) (by decide +kernel)⟩
theorem lw_p13 : lw_okq (⟨"GreatStore$RuleReader", "readLine", "(I)Z"⟩, 5) := ⟨⟨by decide +kernel, by decide +kernel⟩, List.mem_of_getElem? (i := 156) (by decide +kernel), List.mem_of_getElem? (i := 657) (by decide +kernel), List.mem_of_getElem? (i := 658) (by decide +kernel)⟩
theorem lw_p14 : lw_okq (⟨"GreatStore$RuleReader", "fail", "(I)Z"⟩, 5) := ⟨⟨by decide +kernel, by decide +kernel⟩, List.mem_of_getElem? (i := 156) (by decide +kernel), List.mem_of_getElem? (i := 661) (by decide +kernel), List.mem_of_getElem? (i := 662) (by decide +kernel)⟩
theorem lw_p15 : lw_okq (⟨"GreatStore$RuleReader", "readSum", "(I)Z"⟩, 5) := ⟨⟨by decide +kernel, by decide +kernel⟩, List.mem_of_getElem? (i := 156) (by decide +kernel), List.mem_of_getElem? (i := 665) (by decide +kernel), List.mem_of_getElem? (i := 666) (by decide +kernel)⟩
def lw_privs_1 : List (MethodName × Nat) := [(⟨"java/util/ArrayList", "add", "(Ljava/lang/Object;[Ljava/lang/Object;I)V"⟩, 3), (⟨"java/util/ArrayList", "grow", "()[Ljava/lang/Object;"⟩, 3), (⟨"java/util/ArrayList", "grow", "(I)[Ljava/lang/Object;"⟩, 3), (⟨"GreatStore", "thingAt", "(I)LGreatStore$Thing;"⟩, 11), (⟨"GreatStore", "slipAt", "(I)LGreatStore$Slip;"⟩, 11), (⟨"GreatStore", "countOnApproval", "()I"⟩, 11), (⟨"GreatStore", "countParcels", "()I"⟩, 11), (⟨"GreatStore$Van", "askOnce", "(I)Z"⟩, 4), (⟨"GreatStore$Van", "piecesFor", "(Ljava/util/ArrayList;I)I"⟩, 4), (⟨"GreatStore$Van", "take", "(Ljava/util/ArrayList;II)V"⟩, 4), (⟨"GreatStore$Tokens", "scanToken", "([BII)I"⟩, 4), (⟨"GreatStore$Tokens", "add", "(III)V"⟩, 4), (⟨"GreatStore$RuleReader", "kind", "()I"⟩, 5), (⟨"GreatStore$RuleReader", "readLine", "(I)Z"⟩, 5), (⟨"GreatStore$RuleReader", "fail", "(I)Z"⟩, 5), (⟨"GreatStore$RuleReader", "readSum", "(I)Z"⟩, 5)]
theorem lw_r1 : ∀ q ∈ lw_privs_1, lw_okq q := List.forall_mem_cons.mpr ⟨lw_p0, List.forall_mem_cons.mpr ⟨lw_p1, List.forall_mem_cons.mpr ⟨lw_p2, List.forall_mem_cons.mpr ⟨lw_p3, List.forall_mem_cons.mpr ⟨lw_p4, List.forall_mem_cons.mpr ⟨lw_p5, List.forall_mem_cons.mpr ⟨lw_p6, List.forall_mem_cons.mpr ⟨lw_p7, List.forall_mem_cons.mpr ⟨lw_p8, List.forall_mem_cons.mpr ⟨lw_p9, List.forall_mem_cons.mpr ⟨lw_p10, List.forall_mem_cons.mpr ⟨lw_p11, List.forall_mem_cons.mpr ⟨lw_p12, List.forall_mem_cons.mpr ⟨lw_p13, List.forall_mem_cons.mpr ⟨lw_p14, List.forall_mem_cons.mpr ⟨lw_p15, fun _ h => absurd h List.not_mem_nil⟩⟩⟩⟩⟩⟩⟩⟩⟩⟩⟩⟩⟩⟩⟩⟩
theorem lw_p16 : lw_okq (⟨"GreatStore$RuleReader", "readTerm", "(I)Z"⟩, 5) := ⟨⟨by decide +kernel, by decide +kernel⟩, List.mem_of_getElem? (i := 156) (by decide +kernel), List.mem_of_getElem? (i := 669) (by decide +kernel), List.mem_of_getElem? (i := 670) (by decide +kernel)⟩
theorem lw_p17 : lw_okq (⟨"GreatStore$RuleReader", "readUnit", "(I)Z"⟩, 5) := ⟨⟨by decide +kernel, by decide +kernel⟩, List.mem_of_getElem? (i := 156) (by decide +kernel), List.mem_of_getElem? (i := 673) (by decide +kernel), List.mem_of_getElem? (i := 674) (by decide +kernel)⟩
theorem lw_p18 : lw_okq (⟨"GreatStore$RuleReader", "number", "()I"⟩, 5) := ⟨⟨by decide +kernel, by decide +kernel⟩, List.mem_of_getElem? (i := 156) (by decide +kernel), List.mem_of_getElem? (i := 677) (by decide +kernel), List.mem_of_getElem? (i := 678) (by decide +kernel)⟩
theorem lw_p19 : lw_okq (⟨"GreatStore$RuleReader", "readDivisor", "()Z"⟩, 5) := ⟨⟨by decide +kernel, by decide +kernel⟩, List.mem_of_getElem? (i := 156) (by decide +kernel), List.mem_of_getElem? (i := 685) (by decide +kernel), List.mem_of_getElem? (i := 686) (by decide +kernel)⟩
theorem lw_p20 : lw_okq (⟨"GreatStore$RuleReader", "pass", "(I)Z"⟩, 5) := ⟨⟨by decide +kernel, by decide +kernel⟩, List.mem_of_getElem? (i := 156) (by decide +kernel), List.mem_of_getElem? (i := 689) (by decide +kernel), List.mem_of_getElem? (i := 690) (by decide +kernel)⟩
theorem lw_p21 : lw_okq (⟨"GreatStore$RuleReader", "readCondition", "()Z"⟩, 5) := ⟨⟨by decide +kernel, by decide +kernel⟩, List.mem_of_getElem? (i := 156) (by decide +kernel), List.mem_of_getElem? (i := 693) (by decide +kernel), List.mem_of_getElem? (i := 694) (by decide +kernel)⟩
theorem lw_p22 : lw_okq (⟨"GreatStore$Takings", "addSlip", "(LGreatStore$Slip;)V"⟩, 4) := ⟨⟨by decide +kernel, by decide +kernel⟩, List.mem_of_getElem? (i := 180) (by decide +kernel), List.mem_of_getElem? (i := 717) (by decide +kernel), List.mem_of_getElem? (i := 718) (by decide +kernel)⟩
theorem lw_p23 : lw_okq (⟨"GreatStore$Rule", "valueOf", "(IILGreatStore$Takings;)I"⟩, 9) := ⟨⟨by decide +kernel, by decide +kernel⟩, List.mem_of_getElem? (i := 120) (by decide +kernel), List.mem_of_getElem? (i := 737) (by decide +kernel), List.mem_of_getElem? (i := 738) (by decide +kernel)⟩
theorem lw_p24 : lw_okq (⟨"GreatStore$Rule", "pop", "()I"⟩, 9) := ⟨⟨by decide +kernel, by decide +kernel⟩, List.mem_of_getElem? (i := 120) (by decide +kernel), List.mem_of_getElem? (i := 742) (by decide +kernel), List.mem_of_getElem? (i := 743) (by decide +kernel)⟩
theorem lw_p25 : lw_okq (⟨"GreatStore$Rule", "push", "(I)V"⟩, 9) := ⟨⟨by decide +kernel, by decide +kernel⟩, List.mem_of_getElem? (i := 120) (by decide +kernel), List.mem_of_getElem? (i := 749) (by decide +kernel), List.mem_of_getElem? (i := 750) (by decide +kernel)⟩
theorem lw_p26 : lw_okq (⟨"GreatStore$Cuts", "tryRow", "(II)V"⟩, 6) := ⟨⟨by decide +kernel, by decide +kernel⟩, List.mem_of_getElem? (i := 202) (by decide +kernel), List.mem_of_getElem? (i := 792) (by decide +kernel), List.mem_of_getElem? (i := 793) (by decide +kernel)⟩
theorem lw_p27 : lw_okq (⟨"GreatStore$Cuts", "keepRow", "(I)V"⟩, 6) := ⟨⟨by decide +kernel, by decide +kernel⟩, List.mem_of_getElem? (i := 202) (by decide +kernel), List.mem_of_getElem? (i := 796) (by decide +kernel), List.mem_of_getElem? (i := 797) (by decide +kernel)⟩
theorem lw_p28 : lw_okq (⟨"GreatStore$Cuts", "stepRow", "(I)Z"⟩, 6) := ⟨⟨by decide +kernel, by decide +kernel⟩, List.mem_of_getElem? (i := 202) (by decide +kernel), List.mem_of_getElem? (i := 800) (by decide +kernel), List.mem_of_getElem? (i := 801) (by decide +kernel)⟩
theorem lw_p29 : lw_okq (⟨"GreatStoreModel", "isThing", "(I)Z"⟩, 55) := ⟨⟨by decide +kernel, by decide +kernel⟩, List.mem_of_getElem? (i := 804) (by decide +kernel), List.mem_of_getElem? (i := 990) (by decide +kernel), List.mem_of_getElem? (i := 991) (by decide +kernel)⟩
theorem lw_p30 : lw_okq (⟨"GreatStoreModel", "isSlip", "(I)Z"⟩, 55) := ⟨⟨by decide +kernel, by decide +kernel⟩, List.mem_of_getElem? (i := 804) (by decide +kernel), List.mem_of_getElem? (i := 1010) (by decide +kernel), List.mem_of_getElem? (i := 1011) (by decide +kernel)⟩
theorem lw_p31 : lw_okq (⟨"GreatStoreModel", "isParcel", "(I)Z"⟩, 55) := ⟨⟨by decide +kernel, by decide +kernel⟩, List.mem_of_getElem? (i := 804) (by decide +kernel), List.mem_of_getElem? (i := 1022) (by decide +kernel), List.mem_of_getElem? (i := 1023) (by decide +kernel)⟩
def lw_privs_2 : List (MethodName × Nat) := [(⟨"GreatStore$RuleReader", "readTerm", "(I)Z"⟩, 5), (⟨"GreatStore$RuleReader", "readUnit", "(I)Z"⟩, 5), (⟨"GreatStore$RuleReader", "number", "()I"⟩, 5), (⟨"GreatStore$RuleReader", "readDivisor", "()Z"⟩, 5), (⟨"GreatStore$RuleReader", "pass", "(I)Z"⟩, 5), (⟨"GreatStore$RuleReader", "readCondition", "()Z"⟩, 5), (⟨"GreatStore$Takings", "addSlip", "(LGreatStore$Slip;)V"⟩, 4), (⟨"GreatStore$Rule", "valueOf", "(IILGreatStore$Takings;)I"⟩, 9), (⟨"GreatStore$Rule", "pop", "()I"⟩, 9), (⟨"GreatStore$Rule", "push", "(I)V"⟩, 9), (⟨"GreatStore$Cuts", "tryRow", "(II)V"⟩, 6), (⟨"GreatStore$Cuts", "keepRow", "(I)V"⟩, 6), (⟨"GreatStore$Cuts", "stepRow", "(I)Z"⟩, 6), (⟨"GreatStoreModel", "isThing", "(I)Z"⟩, 55), (⟨"GreatStoreModel", "isSlip", "(I)Z"⟩, 55), (⟨"GreatStoreModel", "isParcel", "(I)Z"⟩, 55)]
theorem lw_r2 : ∀ q ∈ lw_privs_2, lw_okq q := List.forall_mem_cons.mpr ⟨lw_p16, List.forall_mem_cons.mpr ⟨lw_p17, List.forall_mem_cons.mpr ⟨lw_p18, List.forall_mem_cons.mpr ⟨lw_p19, List.forall_mem_cons.mpr ⟨lw_p20, List.forall_mem_cons.mpr ⟨lw_p21, List.forall_mem_cons.mpr ⟨lw_p22, List.forall_mem_cons.mpr ⟨lw_p23, List.forall_mem_cons.mpr ⟨lw_p24, List.forall_mem_cons.mpr ⟨lw_p25, List.forall_mem_cons.mpr ⟨lw_p26, List.forall_mem_cons.mpr ⟨lw_p27, List.forall_mem_cons.mpr ⟨lw_p28, List.forall_mem_cons.mpr ⟨lw_p29, List.forall_mem_cons.mpr ⟨lw_p30, List.forall_mem_cons.mpr ⟨lw_p31, fun _ h => absurd h List.not_mem_nil⟩⟩⟩⟩⟩⟩⟩⟩⟩⟩⟩⟩⟩⟩⟩⟩
theorem lw_p32 : lw_okq (⟨"GreatStoreModel", "next0", "()V"⟩, 55) := ⟨⟨by decide +kernel, by decide +kernel⟩, List.mem_of_getElem? (i := 804) (by decide +kernel), List.mem_of_getElem? (i := 1046) (by decide +kernel), List.mem_of_getElem? (i := 1047) (by decide +kernel)⟩
theorem lw_p33 : lw_okq (⟨"GreatStoreModel", "see", "(I)I"⟩, 55) := ⟨⟨by decide +kernel, by decide +kernel⟩, List.mem_of_getElem? (i := 804) (by decide +kernel), List.mem_of_getElem? (i := 1050) (by decide +kernel), List.mem_of_getElem? (i := 1051) (by decide +kernel)⟩
theorem lw_p34 : lw_okq (⟨"GreatStoreModel", "aLine", "()Z"⟩, 55) := ⟨⟨by decide +kernel, by decide +kernel⟩, List.mem_of_getElem? (i := 804) (by decide +kernel), List.mem_of_getElem? (i := 1074) (by decide +kernel), List.mem_of_getElem? (i := 1075) (by decide +kernel)⟩
theorem lw_p35 : lw_okq (⟨"GreatStoreModel", "bad", "(I)Z"⟩, 55) := ⟨⟨by decide +kernel, by decide +kernel⟩, List.mem_of_getElem? (i := 804) (by decide +kernel), List.mem_of_getElem? (i := 1078) (by decide +kernel), List.mem_of_getElem? (i := 1079) (by decide +kernel)⟩
theorem lw_p36 : lw_okq (⟨"GreatStoreModel", "sum", "()Z"⟩, 55) := ⟨⟨by decide +kernel, by decide +kernel⟩, List.mem_of_getElem? (i := 804) (by decide +kernel), List.mem_of_getElem? (i := 1082) (by decide +kernel), List.mem_of_getElem? (i := 1083) (by decide +kernel)⟩
theorem lw_p37 : lw_okq (⟨"GreatStoreModel", "product", "()Z"⟩, 55) := ⟨⟨by decide +kernel, by decide +kernel⟩, List.mem_of_getElem? (i := 804) (by decide +kernel), List.mem_of_getElem? (i := 1086) (by decide +kernel), List.mem_of_getElem? (i := 1087) (by decide +kernel)⟩
theorem lw_p38 : lw_okq (⟨"GreatStoreModel", "unit", "()Z"⟩, 55) := ⟨⟨by decide +kernel, by decide +kernel⟩, List.mem_of_getElem? (i := 804) (by decide +kernel), List.mem_of_getElem? (i := 1090) (by decide +kernel), List.mem_of_getElem? (i := 1091) (by decide +kernel)⟩
theorem lw_p39 : lw_okq (⟨"GreatStoreModel", "need", "(I)Z"⟩, 55) := ⟨⟨by decide +kernel, by decide +kernel⟩, List.mem_of_getElem? (i := 804) (by decide +kernel), List.mem_of_getElem? (i := 1094) (by decide +kernel), List.mem_of_getElem? (i := 1095) (by decide +kernel)⟩
theorem lw_p40 : lw_okq (⟨"GreatStoreModel", "lay", "(I)V"⟩, 55) := ⟨⟨by decide +kernel, by decide +kernel⟩, List.mem_of_getElem? (i := 804) (by decide +kernel), List.mem_of_getElem? (i := 1098) (by decide +kernel), List.mem_of_getElem? (i := 1099) (by decide +kernel)⟩
theorem lw_p41 : lw_okq (⟨"GreatStoreModel", "holds", "()Z"⟩, 55) := ⟨⟨by decide +kernel, by decide +kernel⟩, List.mem_of_getElem? (i := 804) (by decide +kernel), List.mem_of_getElem? (i := 1106) (by decide +kernel), List.mem_of_getElem? (i := 1107) (by decide +kernel)⟩
theorem lw_p42 : lw_okq (⟨"GreatStoreModel", "takes", "(II)V"⟩, 55) := ⟨⟨by decide +kernel, by decide +kernel⟩, List.mem_of_getElem? (i := 804) (by decide +kernel), List.mem_of_getElem? (i := 1126) (by decide +kernel), List.mem_of_getElem? (i := 1127) (by decide +kernel)⟩
theorem lw_p43 : lw_okq (⟨"GreatStoreModel", "worked", "(II)I"⟩, 55) := ⟨⟨by decide +kernel, by decide +kernel⟩, List.mem_of_getElem? (i := 804) (by decide +kernel), List.mem_of_getElem? (i := 1133) (by decide +kernel), List.mem_of_getElem? (i := 1134) (by decide +kernel)⟩
theorem lw_p44 : lw_okq (⟨"GreatStoreModel", "tries", "(II)V"⟩, 55) := ⟨⟨by decide +kernel, by decide +kernel⟩, List.mem_of_getElem? (i := 804) (by decide +kernel), List.mem_of_getElem? (i := 1156) (by decide +kernel), List.mem_of_getElem? (i := 1157) (by decide +kernel)⟩
theorem lw_p45 : lw_okq (⟨"GreatStoreModel", "nextRow", "(I)Z"⟩, 55) := ⟨⟨by decide +kernel, by decide +kernel⟩, List.mem_of_getElem? (i := 804) (by decide +kernel), List.mem_of_getElem? (i := 1160) (by decide +kernel), List.mem_of_getElem? (i := 1161) (by decide +kernel)⟩
def lw_privs_3 : List (MethodName × Nat) := [(⟨"GreatStoreModel", "next0", "()V"⟩, 55), (⟨"GreatStoreModel", "see", "(I)I"⟩, 55), (⟨"GreatStoreModel", "aLine", "()Z"⟩, 55), (⟨"GreatStoreModel", "bad", "(I)Z"⟩, 55), (⟨"GreatStoreModel", "sum", "()Z"⟩, 55), (⟨"GreatStoreModel", "product", "()Z"⟩, 55), (⟨"GreatStoreModel", "unit", "()Z"⟩, 55), (⟨"GreatStoreModel", "need", "(I)Z"⟩, 55), (⟨"GreatStoreModel", "lay", "(I)V"⟩, 55), (⟨"GreatStoreModel", "holds", "()Z"⟩, 55), (⟨"GreatStoreModel", "takes", "(II)V"⟩, 55), (⟨"GreatStoreModel", "worked", "(II)I"⟩, 55), (⟨"GreatStoreModel", "tries", "(II)V"⟩, 55), (⟨"GreatStoreModel", "nextRow", "(I)Z"⟩, 55)]
theorem lw_r3 : ∀ q ∈ lw_privs_3, lw_okq q := List.forall_mem_cons.mpr ⟨lw_p32, List.forall_mem_cons.mpr ⟨lw_p33, List.forall_mem_cons.mpr ⟨lw_p34, List.forall_mem_cons.mpr ⟨lw_p35, List.forall_mem_cons.mpr ⟨lw_p36, List.forall_mem_cons.mpr ⟨lw_p37, List.forall_mem_cons.mpr ⟨lw_p38, List.forall_mem_cons.mpr ⟨lw_p39, List.forall_mem_cons.mpr ⟨lw_p40, List.forall_mem_cons.mpr ⟨lw_p41, List.forall_mem_cons.mpr ⟨lw_p42, List.forall_mem_cons.mpr ⟨lw_p43, List.forall_mem_cons.mpr ⟨lw_p44, List.forall_mem_cons.mpr ⟨lw_p45, fun _ h => absurd h List.not_mem_nil⟩⟩⟩⟩⟩⟩⟩⟩⟩⟩⟩⟩⟩⟩
def lw_privs : List (MethodName × Nat) := lw_privs_1 ++ (lw_privs_2 ++ (lw_privs_3))
def lw_tbl : List Cond := k2_sels lw_privs ++ tables_1
theorem lw_privs_ok : ∀ q ∈ lw_privs, lw_okq q := by
  show ∀ q ∈ lw_privs_1 ++ (lw_privs_2 ++ (lw_privs_3)), lw_okq q
  exact List.forall_mem_append.mpr ⟨lw_r1, List.forall_mem_append.mpr ⟨lw_r2, lw_r3⟩⟩
def RX0 : String := "GreatStore$Cuts"
def TX0 : u_T := fun k => match k with
  | 0 => ("GreatStore$Cuts", "prices", "[I", true)
  | 1 => ("GreatStore$Cuts", "wants", "[I", true)
  | 2 => ("GreatStore$Cuts", "row", "[I", true)
  | 3 => ("GreatStore$Cuts", "bestRow", "[I", true)
  | 4 => ("GreatStore$Cuts", "bestSum", "I", false)
  | _ => ("GreatStore$Cuts", "bestLeft", "I", false)
def tyX0 : Nat → FieldType := fun k => match k with
  | 0 => .array .int
  | 1 => .array .int
  | 2 => .array .int
  | 3 => .array .int
  | 4 => .int
  | _ => .int
theorem nmX0 : ∀ a, a < 6 → ∀ b, b < 6 → a ≠ b → (TX0 a).2.1 ≠ (TX0 b).2.1 := by decide +kernel
theorem tyX0_ok : ∀ k, k < 6 → parseFieldDescriptor (TX0 k).2.2.1 = some (tyX0 k) := by decide +kernel
abbrev cX0_init : ByteArray := prog_2_method_1_code
def yX0_init : MethodName := ⟨RX0, "<init>", "()V"⟩
abbrev cX0_seek : ByteArray := prog_2_method_2_code
def yX0_seek : MethodName := ⟨RX0, "seek", "(III)V"⟩
abbrev cX0_tryRow : ByteArray := prog_2_method_3_code
def yX0_tryRow : MethodName := ⟨RX0, "tryRow", "(II)V"⟩
abbrev cX0_keepRow : ByteArray := prog_2_method_4_code
def yX0_keepRow : MethodName := ⟨RX0, "keepRow", "(I)V"⟩
abbrev cX0_stepRow : ByteArray := prog_2_method_5_code
def yX0_stepRow : MethodName := ⟨RX0, "stepRow", "(I)Z"⟩
def RX1 : String := "GreatStore$Rule"
def TX1 : u_T := fun k => match k with
  | 0 => ("GreatStore$Rule", "steps", "[I", true)
  | 1 => ("GreatStore$Rule", "numbers", "[I", true)
  | 2 => ("GreatStore$Rule", "payAt", "[I", true)
  | 3 => ("GreatStore$Rule", "whenAt", "[I", true)
  | 4 => ("GreatStore$Rule", "endAt", "[I", true)
  | 5 => ("GreatStore$Rule", "stack", "[I", true)
  | 6 => ("GreatStore$Rule", "stepCount", "I", false)
  | 7 => ("GreatStore$Rule", "lineCount", "I", false)
  | _ => ("GreatStore$Rule", "height", "I", false)
def tyX1 : Nat → FieldType := fun k => match k with
  | 0 => .array .int
  | 1 => .array .int
  | 2 => .array .int
  | 3 => .array .int
  | 4 => .array .int
  | 5 => .array .int
  | 6 => .int
  | 7 => .int
  | _ => .int
theorem nmX1 : ∀ a, a < 9 → ∀ b, b < 9 → a ≠ b → (TX1 a).2.1 ≠ (TX1 b).2.1 := by decide +kernel
theorem tyX1_ok : ∀ k, k < 9 → parseFieldDescriptor (TX1 k).2.2.1 = some (tyX1 k) := by decide +kernel
abbrev cX1_init : ByteArray := prog_3_method_1_code
def yX1_init : MethodName := ⟨RX1, "<init>", "()V"⟩
abbrev cX1_clear : ByteArray := prog_3_method_2_code
def yX1_clear : MethodName := ⟨RX1, "clear", "()V"⟩
abbrev cX1_addStep : ByteArray := prog_3_method_3_code
def yX1_addStep : MethodName := ⟨RX1, "addStep", "(II)V"⟩
abbrev cX1_addLine : ByteArray := prog_3_method_4_code
def yX1_addLine : MethodName := ⟨RX1, "addLine", "(II)V"⟩
abbrev cX1_lineFor : ByteArray := prog_3_method_5_code
def yX1_lineFor : MethodName := ⟨RX1, "lineFor", "(LGreatStore$Takings;)I"⟩
abbrev cX1_payFor : ByteArray := prog_3_method_6_code
def yX1_payFor : MethodName := ⟨RX1, "payFor", "(LGreatStore$Takings;)I"⟩
abbrev cX1_valueOf : ByteArray := prog_3_method_7_code
def yX1_valueOf : MethodName := ⟨RX1, "valueOf", "(IILGreatStore$Takings;)I"⟩
abbrev cX1_push : ByteArray := prog_3_method_8_code
def yX1_push : MethodName := ⟨RX1, "push", "(I)V"⟩
abbrev cX1_pop : ByteArray := prog_3_method_9_code
def yX1_pop : MethodName := ⟨RX1, "pop", "()I"⟩
abbrev cX1_part : ByteArray := prog_3_method_10_code
def yX1_part : MethodName := ⟨RX1, "part", "(II)I"⟩
abbrev cX1_joined : ByteArray := prog_3_method_11_code
def yX1_joined : MethodName := ⟨RX1, "joined", "(III)I"⟩
def RX2 : String := "GreatStore$RuleReader"
def TX2 : u_T := fun k => match k with
  | 0 => ("GreatStore$RuleReader", "tokens", "LGreatStore$Tokens;", true)
  | 1 => ("GreatStore$RuleReader", "target", "LGreatStore$Rule;", false)
  | 2 => ("GreatStore$RuleReader", "at", "I", false)
  | 3 => ("GreatStore$RuleReader", "fault", "I", false)
  | _ => ("GreatStore$RuleReader", "place", "I", false)
def tyX2 : Nat → FieldType := fun k => match k with
  | 0 => .object "GreatStore$Tokens"
  | 1 => .object "GreatStore$Rule"
  | 2 => .int
  | 3 => .int
  | _ => .int
theorem nmX2 : ∀ a, a < 5 → ∀ b, b < 5 → a ≠ b → (TX2 a).2.1 ≠ (TX2 b).2.1 := by decide +kernel
theorem tyX2_ok : ∀ k, k < 5 → parseFieldDescriptor (TX2 k).2.2.1 = some (tyX2 k) := by decide +kernel
abbrev cX2_init : ByteArray := prog_4_method_1_code
def yX2_init : MethodName := ⟨RX2, "<init>", "(LGreatStore$Tokens;LGreatStore$Rule;)V"⟩
abbrev cX2_read : ByteArray := prog_4_method_2_code
def yX2_read : MethodName := ⟨RX2, "read", "(LGreatStore$Rule;)Z"⟩
abbrev cX2_readLine : ByteArray := prog_4_method_3_code
def yX2_readLine : MethodName := ⟨RX2, "readLine", "(I)Z"⟩
abbrev cX2_readCondition : ByteArray := prog_4_method_4_code
def yX2_readCondition : MethodName := ⟨RX2, "readCondition", "()Z"⟩
abbrev cX2_readSum : ByteArray := prog_4_method_5_code
def yX2_readSum : MethodName := ⟨RX2, "readSum", "(I)Z"⟩
abbrev cX2_readTerm : ByteArray := prog_4_method_6_code
def yX2_readTerm : MethodName := ⟨RX2, "readTerm", "(I)Z"⟩
abbrev cX2_readDivisor : ByteArray := prog_4_method_7_code
def yX2_readDivisor : MethodName := ⟨RX2, "readDivisor", "()Z"⟩
abbrev cX2_readUnit : ByteArray := prog_4_method_8_code
def yX2_readUnit : MethodName := ⟨RX2, "readUnit", "(I)Z"⟩
abbrev cX2_pass : ByteArray := prog_4_method_9_code
def yX2_pass : MethodName := ⟨RX2, "pass", "(I)Z"⟩
abbrev cX2_kind : ByteArray := prog_4_method_10_code
def yX2_kind : MethodName := ⟨RX2, "kind", "()I"⟩
abbrev cX2_number : ByteArray := prog_4_method_11_code
def yX2_number : MethodName := ⟨RX2, "number", "()I"⟩
abbrev cX2_fail : ByteArray := prog_4_method_12_code
def yX2_fail : MethodName := ⟨RX2, "fail", "(I)Z"⟩
def RX3 : String := "GreatStore$Slip"
def TX3 : u_T := fun k => match k with
  | 0 => ("GreatStore$Slip", "kind", "I", true)
  | 1 => ("GreatStore$Slip", "clerk", "I", true)
  | 2 => ("GreatStore$Slip", "account", "I", true)
  | 3 => ("GreatStore$Slip", "thing", "LGreatStore$Thing;", true)
  | 4 => ("GreatStore$Slip", "pieces", "I", true)
  | 5 => ("GreatStore$Slip", "house", "I", true)
  | 6 => ("GreatStore$Slip", "day", "I", true)
  | 7 => ("GreatStore$Slip", "worth", "I", true)
  | 8 => ("GreatStore$Slip", "told", "I", false)
  | 9 => ("GreatStore$Slip", "sold", "I", false)
  | 10 => ("GreatStore$Slip", "cameBack", "I", false)
  | _ => ("GreatStore$Slip", "round", "I", false)
def tyX3 : Nat → FieldType := fun k => match k with
  | 0 => .int
  | 1 => .int
  | 2 => .int
  | 3 => .object "GreatStore$Thing"
  | 4 => .int
  | 5 => .int
  | 6 => .int
  | 7 => .int
  | 8 => .int
  | 9 => .int
  | 10 => .int
  | _ => .int
theorem nmX3 : ∀ a, a < 12 → ∀ b, b < 12 → a ≠ b → (TX3 a).2.1 ≠ (TX3 b).2.1 := by decide +kernel
theorem tyX3_ok : ∀ k, k < 12 → parseFieldDescriptor (TX3 k).2.2.1 = some (tyX3 k) := by decide +kernel
abbrev cX3_init : ByteArray := prog_5_method_1_code
def yX3_init : MethodName := ⟨RX3, "<init>", "(IIILGreatStore$Thing;III)V"⟩
abbrev cX3_state : ByteArray := prog_5_method_2_code
def yX3_state : MethodName := ⟨RX3, "state", "()I"⟩
abbrev cX3_isParcel : ByteArray := prog_5_method_3_code
def yX3_isParcel : MethodName := ⟨RX3, "isParcel", "()Z"⟩
abbrev cX3_sellBy : ByteArray := prog_5_method_4_code
def yX3_sellBy : MethodName := ⟨RX3, "sellBy", "(I)V"⟩
abbrev cX3_canComeBack : ByteArray := prog_5_method_5_code
def yX3_canComeBack : MethodName := ⟨RX3, "canComeBack", "(I)Z"⟩
abbrev cX3_wasSoldIn : ByteArray := prog_5_method_6_code
def yX3_wasSoldIn : MethodName := ⟨RX3, "wasSoldIn", "(I)Z"⟩
abbrev cX3_cameBackSoldIn : ByteArray := prog_5_method_7_code
def yX3_cameBackSoldIn : MethodName := ⟨RX3, "cameBackSoldIn", "(I)Z"⟩
abbrev cX3_statedWorth : ByteArray := prog_5_method_8_code
def yX3_statedWorth : MethodName := ⟨RX3, "statedWorth", "(II)I"⟩
def RX4 : String := "GreatStore$Takings"
def TX4 : u_T := fun k => match k with
  | 0 => ("GreatStore$Takings", "sum", "I", false)
  | 1 => ("GreatStore$Takings", "slipCount", "I", false)
  | 2 => ("GreatStore$Takings", "cameBack", "I", false)
  | _ => ("GreatStore$Takings", "month", "I", false)
def tyX4 : Nat → FieldType := fun k => match k with
  | 0 => .int
  | 1 => .int
  | 2 => .int
  | _ => .int
theorem nmX4 : ∀ a, a < 4 → ∀ b, b < 4 → a ≠ b → (TX4 a).2.1 ≠ (TX4 b).2.1 := by decide +kernel
theorem tyX4_ok : ∀ k, k < 4 → parseFieldDescriptor (TX4 k).2.2.1 = some (tyX4 k) := by decide +kernel
abbrev cX4_init : ByteArray := prog_6_method_1_code
def yX4_init : MethodName := ⟨RX4, "<init>", "()V"⟩
abbrev cX4_gather : ByteArray := prog_6_method_2_code
def yX4_gather : MethodName := ⟨RX4, "gather", "(Ljava/util/ArrayList;II)V"⟩
abbrev cX4_addSlip : ByteArray := prog_6_method_3_code
def yX4_addSlip : MethodName := ⟨RX4, "addSlip", "(LGreatStore$Slip;)V"⟩
abbrev cX4_valueOfWord : ByteArray := prog_6_method_4_code
def yX4_valueOfWord : MethodName := ⟨RX4, "valueOfWord", "(I)I"⟩
def RX5 : String := "GreatStore$Tape"
def TX5 : u_T := fun k => match k with
  | 0 => ("GreatStore$Tape", "bytes", "[B", true)
  | _ => ("GreatStore$Tape", "length", "I", false)
def tyX5 : Nat → FieldType := fun k => match k with
  | 0 => .array .byte
  | _ => .int
theorem nmX5 : ∀ a, a < 2 → ∀ b, b < 2 → a ≠ b → (TX5 a).2.1 ≠ (TX5 b).2.1 := by decide +kernel
theorem tyX5_ok : ∀ k, k < 2 → parseFieldDescriptor (TX5 k).2.2.1 = some (tyX5 k) := by decide +kernel
abbrev cX5_init : ByteArray := prog_7_method_1_code
def yX5_init : MethodName := ⟨RX5, "<init>", "()V"⟩
abbrev cX5_append : ByteArray := prog_7_method_2_code
def yX5_append : MethodName := ⟨RX5, "append", "(I)V"⟩
def RX6 : String := "GreatStore$Thing"
def TX6 : u_T := fun k => match k with
  | 0 => ("GreatStore$Thing", "tags", "[I", true)
  | 1 => ("GreatStore$Thing", "came", "I", true)
  | 2 => ("GreatStore$Thing", "stock", "I", false)
  | 3 => ("GreatStore$Thing", "raised", "I", false)
  | _ => ("GreatStore$Thing", "lost", "I", false)
def tyX6 : Nat → FieldType := fun k => match k with
  | 0 => .array .int
  | 1 => .int
  | 2 => .int
  | 3 => .int
  | _ => .int
theorem nmX6 : ∀ a, a < 5 → ∀ b, b < 5 → a ≠ b → (TX6 a).2.1 ≠ (TX6 b).2.1 := by decide +kernel
theorem tyX6_ok : ∀ k, k < 5 → parseFieldDescriptor (TX6 k).2.2.1 = some (tyX6 k) := by decide +kernel
abbrev cX6_init : ByteArray := prog_8_method_1_code
def yX6_init : MethodName := ⟨RX6, "<init>", "(III)V"⟩
abbrev cX6_tagOn : ByteArray := prog_8_method_2_code
def yX6_tagOn : MethodName := ⟨RX6, "tagOn", "(I)I"⟩
abbrev cX6_keepTag : ByteArray := prog_8_method_3_code
def yX6_keepTag : MethodName := ⟨RX6, "keepTag", "(I)V"⟩
abbrev cX6_changeTag : ByteArray := prog_8_method_4_code
def yX6_changeTag : MethodName := ⟨RX6, "changeTag", "(II)I"⟩
def RX7 : String := "GreatStore$Tokens"
def TX7 : u_T := fun k => match k with
  | 0 => ("GreatStore$Tokens", "kinds", "[I", true)
  | 1 => ("GreatStore$Tokens", "places", "[I", true)
  | 2 => ("GreatStore$Tokens", "numbers", "[I", true)
  | _ => ("GreatStore$Tokens", "tokenCount", "I", false)
def tyX7 : Nat → FieldType := fun k => match k with
  | 0 => .array .int
  | 1 => .array .int
  | 2 => .array .int
  | _ => .int
theorem nmX7 : ∀ a, a < 4 → ∀ b, b < 4 → a ≠ b → (TX7 a).2.1 ≠ (TX7 b).2.1 := by decide +kernel
theorem tyX7_ok : ∀ k, k < 4 → parseFieldDescriptor (TX7 k).2.2.1 = some (tyX7 k) := by decide +kernel
abbrev cX7_init : ByteArray := prog_9_method_1_code
def yX7_init : MethodName := ⟨RX7, "<init>", "()V"⟩
abbrev cX7_scan : ByteArray := prog_9_method_2_code
def yX7_scan : MethodName := ⟨RX7, "scan", "([BI)V"⟩
abbrev cX7_scanToken : ByteArray := prog_9_method_3_code
def yX7_scanToken : MethodName := ⟨RX7, "scanToken", "([BII)I"⟩
abbrev cX7_add : ByteArray := prog_9_method_4_code
def yX7_add : MethodName := ⟨RX7, "add", "(III)V"⟩
abbrev cX7_isLetter : ByteArray := prog_9_method_5_code
def yX7_isLetter : MethodName := ⟨RX7, "isLetter", "(I)Z"⟩
abbrev cX7_isDigit : ByteArray := prog_9_method_6_code
def yX7_isDigit : MethodName := ⟨RX7, "isDigit", "(I)Z"⟩
abbrev cX7_numberOf : ByteArray := prog_9_method_7_code
def yX7_numberOf : MethodName := ⟨RX7, "numberOf", "([BII)I"⟩
abbrev cX7_wordKind : ByteArray := prog_9_method_8_code
def yX7_wordKind : MethodName := ⟨RX7, "wordKind", "([BII)I"⟩
abbrev cX7_isWord : ByteArray := prog_9_method_9_code
def yX7_isWord : MethodName := ⟨RX7, "isWord", "(Ljava/lang/String;[BII)Z"⟩
def RX8 : String := "GreatStore$Van"
def TX8 : u_T := fun k => match k with
  | 0 => ("GreatStore$Van", "houses", "[I", true)
  | 1 => ("GreatStore$Van", "asked", "[Z", true)
  | 2 => ("GreatStore$Van", "houseCount", "I", false)
  | _ => ("GreatStore$Van", "roundsToday", "I", false)
def tyX8 : Nat → FieldType := fun k => match k with
  | 0 => .array .int
  | 1 => .array .boolean
  | 2 => .int
  | _ => .int
theorem nmX8 : ∀ a, a < 4 → ∀ b, b < 4 → a ≠ b → (TX8 a).2.1 ≠ (TX8 b).2.1 := by decide +kernel
theorem tyX8_ok : ∀ k, k < 4 → parseFieldDescriptor (TX8 k).2.2.1 = some (tyX8 k) := by decide +kernel
abbrev cX8_init : ByteArray := prog_10_method_1_code
def yX8_init : MethodName := ⟨RX8, "<init>", "()V"⟩
abbrev cX8_houseAt : ByteArray := prog_10_method_2_code
def yX8_houseAt : MethodName := ⟨RX8, "houseAt", "(I)I"⟩
abbrev cX8_goRound : ByteArray := prog_10_method_3_code
def yX8_goRound : MethodName := ⟨RX8, "goRound", "(Ljava/util/ArrayList;II)I"⟩
abbrev cX8_askOnce : ByteArray := prog_10_method_4_code
def yX8_askOnce : MethodName := ⟨RX8, "askOnce", "(I)Z"⟩
abbrev cX8_piecesFor : ByteArray := prog_10_method_5_code
def yX8_piecesFor : MethodName := ⟨RX8, "piecesFor", "(Ljava/util/ArrayList;I)I"⟩
abbrev cX8_take : ByteArray := prog_10_method_6_code
def yX8_take : MethodName := ⟨RX8, "take", "(Ljava/util/ArrayList;II)V"⟩
def RX9 : String := "GreatStore"
def TX9 : u_T := fun k => match k with
  | 0 => ("GreatStore", "things", "Ljava/util/ArrayList;", true)
  | 1 => ("GreatStore", "slips", "Ljava/util/ArrayList;", true)
  | 2 => ("GreatStore", "wagon", "LGreatStore$Van;", true)
  | 3 => ("GreatStore", "tape", "LGreatStore$Tape;", true)
  | 4 => ("GreatStore", "tokens", "LGreatStore$Tokens;", true)
  | 5 => ("GreatStore", "reader", "LGreatStore$RuleReader;", true)
  | 6 => ("GreatStore", "takings", "LGreatStore$Takings;", true)
  | 7 => ("GreatStore", "cuts", "LGreatStore$Cuts;", true)
  | 8 => ("GreatStore", "theRule", "LGreatStore$Rule;", false)
  | 9 => ("GreatStore", "spareRule", "LGreatStore$Rule;", false)
  | _ => ("GreatStore", "today", "I", false)
def tyX9 : Nat → FieldType := fun k => match k with
  | 0 => .object "java/util/ArrayList"
  | 1 => .object "java/util/ArrayList"
  | 2 => .object "GreatStore$Van"
  | 3 => .object "GreatStore$Tape"
  | 4 => .object "GreatStore$Tokens"
  | 5 => .object "GreatStore$RuleReader"
  | 6 => .object "GreatStore$Takings"
  | 7 => .object "GreatStore$Cuts"
  | 8 => .object "GreatStore$Rule"
  | 9 => .object "GreatStore$Rule"
  | _ => .int
theorem nmX9 : ∀ a, a < 11 → ∀ b, b < 11 → a ≠ b → (TX9 a).2.1 ≠ (TX9 b).2.1 := by decide +kernel
theorem tyX9_ok : ∀ k, k < 11 → parseFieldDescriptor (TX9 k).2.2.1 = some (tyX9 k) := by decide +kernel
abbrev cX9_init : ByteArray := prog_1_method_1_code
def yX9_init : MethodName := ⟨RX9, "<init>", "()V"⟩
abbrev cX9_thing : ByteArray := prog_1_method_2_code
def yX9_thing : MethodName := ⟨RX9, "thing", "(II)I"⟩
abbrev cX9_tag : ByteArray := prog_1_method_3_code
def yX9_tag : MethodName := ⟨RX9, "tag", "(II)I"⟩
abbrev cX9_of : ByteArray := prog_1_method_4_code
def yX9_of : MethodName := ⟨RX9, "of", "(II)I"⟩
abbrev cX9_next : ByteArray := prog_1_method_5_code
def yX9_next : MethodName := ⟨RX9, "next", "()I"⟩
abbrev cX9_slip : ByteArray := prog_1_method_6_code
def yX9_slip : MethodName := ⟨RX9, "slip", "(IIIIIII)I"⟩
abbrev cX9_paper : ByteArray := prog_1_method_7_code
def yX9_paper : MethodName := ⟨RX9, "paper", "(II)I"⟩
abbrev cX9_back : ByteArray := prog_1_method_8_code
def yX9_back : MethodName := ⟨RX9, "back", "(I)Z"⟩
abbrev cX9_look : ByteArray := prog_1_method_9_code
def yX9_look : MethodName := ⟨RX9, "look", "(I)I"⟩
abbrev cX9_van : ByteArray := prog_1_method_10_code
def yX9_van : MethodName := ⟨RX9, "van", "(I)I"⟩
abbrev cX9_house : ByteArray := prog_1_method_11_code
def yX9_house : MethodName := ⟨RX9, "house", "(I)I"⟩
abbrev cX9_feed : ByteArray := prog_1_method_12_code
def yX9_feed : MethodName := ⟨RX9, "feed", "(IIIII)I"⟩
abbrev cX9_end : ByteArray := prog_1_method_13_code
def yX9_end : MethodName := ⟨RX9, "end", "(I)Z"⟩
abbrev cX9_rule : ByteArray := prog_1_method_14_code
def yX9_rule : MethodName := ⟨RX9, "rule", "()I"⟩
abbrev cX9_fault : ByteArray := prog_1_method_15_code
def yX9_fault : MethodName := ⟨RX9, "fault", "(I)I"⟩
abbrev cX9_pay : ByteArray := prog_1_method_16_code
def yX9_pay : MethodName := ⟨RX9, "pay", "(III)I"⟩
abbrev cX9_statement : ByteArray := prog_1_method_17_code
def yX9_statement : MethodName := ⟨RX9, "statement", "(III)I"⟩
abbrev cX9_count : ByteArray := prog_1_method_18_code
def yX9_count : MethodName := ⟨RX9, "count", "(II)I"⟩
abbrev cX9_level : ByteArray := prog_1_method_19_code
def yX9_level : MethodName := ⟨RX9, "level", "(III)Z"⟩
abbrev cX9_best : ByteArray := prog_1_method_20_code
def yX9_best : MethodName := ⟨RX9, "best", "(IIII)I"⟩
abbrev cX9_thingAt : ByteArray := prog_1_method_21_code
def yX9_thingAt : MethodName := ⟨RX9, "thingAt", "(I)LGreatStore$Thing;"⟩
abbrev cX9_slipAt : ByteArray := prog_1_method_22_code
def yX9_slipAt : MethodName := ⟨RX9, "slipAt", "(I)LGreatStore$Slip;"⟩
abbrev cX9_countOnApproval : ByteArray := prog_1_method_23_code
def yX9_countOnApproval : MethodName := ⟨RX9, "countOnApproval", "()I"⟩
abbrev cX9_countParcels : ByteArray := prog_1_method_24_code
def yX9_countParcels : MethodName := ⟨RX9, "countParcels", "()I"⟩
abbrev cX9_isWithin : ByteArray := prog_1_method_25_code
def yX9_isWithin : MethodName := ⟨RX9, "isWithin", "(III)Z"⟩
abbrev cX9_isTag : ByteArray := prog_1_method_26_code
def yX9_isTag : MethodName := ⟨RX9, "isTag", "(I)Z"⟩
abbrev cX9_isLevel : ByteArray := prog_1_method_27_code
def yX9_isLevel : MethodName := ⟨RX9, "isLevel", "(I)Z"⟩
abbrev cX9_isHouseOrNone : ByteArray := prog_1_method_28_code
def yX9_isHouseOrNone : MethodName := ⟨RX9, "isHouseOrNone", "(I)Z"⟩
abbrev cX9_isBuyer : ByteArray := prog_1_method_29_code
def yX9_isBuyer : MethodName := ⟨RX9, "isBuyer", "(II)Z"⟩
def RX10 : String := "GreatStoreModel"
def TX10 : u_T := fun k => match k with
  | 0 => ("GreatStoreModel", "day", "I", false)
  | 1 => ("GreatStoreModel", "things", "I", false)
  | 2 => ("GreatStoreModel", "slips", "I", false)
  | 3 => ("GreatStoreModel", "tag", "[I", true)
  | 4 => ("GreatStoreModel", "stock", "[I", true)
  | 5 => ("GreatStoreModel", "raised", "[I", true)
  | 6 => ("GreatStoreModel", "lost", "[I", true)
  | 7 => ("GreatStoreModel", "came", "[I", true)
  | 8 => ("GreatStoreModel", "kind", "[I", true)
  | 9 => ("GreatStoreModel", "clerk", "[I", true)
  | 10 => ("GreatStoreModel", "account", "[I", true)
  | 11 => ("GreatStoreModel", "thingOf", "[I", true)
  | 12 => ("GreatStoreModel", "pieces", "[I", true)
  | 13 => ("GreatStoreModel", "houseOf", "[I", true)
  | 14 => ("GreatStoreModel", "dayOf", "[I", true)
  | 15 => ("GreatStoreModel", "toldOn", "[I", true)
  | 16 => ("GreatStoreModel", "soldOn", "[I", true)
  | 17 => ("GreatStoreModel", "backOn", "[I", true)
  | 18 => ("GreatStoreModel", "round", "[I", true)
  | 19 => ("GreatStoreModel", "worth", "[I", true)
  | 20 => ("GreatStoreModel", "rounds", "I", false)
  | 21 => ("GreatStoreModel", "housed", "I", false)
  | 22 => ("GreatStoreModel", "houses", "[I", true)
  | 23 => ("GreatStoreModel", "asked", "[Z", true)
  | 24 => ("GreatStoreModel", "lines", "I", false)
  | 25 => ("GreatStoreModel", "freshLines", "I", false)
  | 26 => ("GreatStoreModel", "freshSteps", "I", false)
  | 27 => ("GreatStoreModel", "from", "[I", true)
  | 28 => ("GreatStoreModel", "when", "[I", true)
  | 29 => ("GreatStoreModel", "step", "[I", true)
  | 30 => ("GreatStoreModel", "freshFrom", "[I", true)
  | 31 => ("GreatStoreModel", "freshWhen", "[I", true)
  | 32 => ("GreatStoreModel", "fresh", "[I", true)
  | 33 => ("GreatStoreModel", "pile", "[I", true)
  | 34 => ("GreatStoreModel", "tape", "[I", true)
  | 35 => ("GreatStoreModel", "taped", "I", false)
  | 36 => ("GreatStoreModel", "at", "I", false)
  | 37 => ("GreatStoreModel", "token", "I", false)
  | 38 => ("GreatStoreModel", "tokenAt", "I", false)
  | 39 => ("GreatStoreModel", "value", "I", false)
  | 40 => ("GreatStoreModel", "wrong", "I", false)
  | 41 => ("GreatStoreModel", "wrongAt", "I", false)
  | 42 => ("GreatStoreModel", "faultKind", "I", false)
  | 43 => ("GreatStoreModel", "depth", "I", false)
  | 44 => ("GreatStoreModel", "faultPlace", "I", false)
  | 45 => ("GreatStoreModel", "tSum", "I", false)
  | 46 => ("GreatStoreModel", "tSlips", "I", false)
  | 47 => ("GreatStoreModel", "tBack", "I", false)
  | 48 => ("GreatStoreModel", "tMonth", "I", false)
  | 49 => ("GreatStoreModel", "price", "[I", true)
  | 50 => ("GreatStoreModel", "want", "[I", true)
  | 51 => ("GreatStoreModel", "row", "[I", true)
  | 52 => ("GreatStoreModel", "bestRow", "[I", true)
  | 53 => ("GreatStoreModel", "bestSum", "I", false)
  | _ => ("GreatStoreModel", "bestLeft", "I", false)
def tyX10 : Nat → FieldType := fun k => match k with
  | 0 => .int
  | 1 => .int
  | 2 => .int
  | 3 => .array .int
  | 4 => .array .int
  | 5 => .array .int
  | 6 => .array .int
  | 7 => .array .int
  | 8 => .array .int
  | 9 => .array .int
  | 10 => .array .int
  | 11 => .array .int
  | 12 => .array .int
  | 13 => .array .int
  | 14 => .array .int
  | 15 => .array .int
  | 16 => .array .int
  | 17 => .array .int
  | 18 => .array .int
  | 19 => .array .int
  | 20 => .int
  | 21 => .int
  | 22 => .array .int
  | 23 => .array .boolean
  | 24 => .int
  | 25 => .int
  | 26 => .int
  | 27 => .array .int
  | 28 => .array .int
  | 29 => .array .int
  | 30 => .array .int
  | 31 => .array .int
  | 32 => .array .int
  | 33 => .array .int
  | 34 => .array .int
  | 35 => .int
  | 36 => .int
  | 37 => .int
  | 38 => .int
  | 39 => .int
  | 40 => .int
  | 41 => .int
  | 42 => .int
  | 43 => .int
  | 44 => .int
  | 45 => .int
  | 46 => .int
  | 47 => .int
  | 48 => .int
  | 49 => .array .int
  | 50 => .array .int
  | 51 => .array .int
  | 52 => .array .int
  | 53 => .int
  | _ => .int
theorem nmX10 : ∀ a, a < 55 → ∀ b, b < 55 → a ≠ b → (TX10 a).2.1 ≠ (TX10 b).2.1 := by decide +kernel
theorem tyX10_ok : ∀ k, k < 55 → parseFieldDescriptor (TX10 k).2.2.1 = some (tyX10 k) := by decide +kernel
abbrev cX10_init : ByteArray := prog_12_method_1_code
def yX10_init : MethodName := ⟨RX10, "<init>", "()V"⟩
abbrev cX10_isIn : ByteArray := prog_12_method_2_code
def yX10_isIn : MethodName := ⟨RX10, "isIn", "(III)Z"⟩
abbrev cX10_isThing : ByteArray := prog_12_method_3_code
def yX10_isThing : MethodName := ⟨RX10, "isThing", "(I)Z"⟩
abbrev cX10_isTag : ByteArray := prog_12_method_4_code
def yX10_isTag : MethodName := ⟨RX10, "isTag", "(I)Z"⟩
abbrev cX10_thing : ByteArray := prog_12_method_5_code
def yX10_thing : MethodName := ⟨RX10, "thing", "(II)I"⟩
abbrev cX10_tag : ByteArray := prog_12_method_6_code
def yX10_tag : MethodName := ⟨RX10, "tag", "(II)I"⟩
abbrev cX10_of : ByteArray := prog_12_method_7_code
def yX10_of : MethodName := ⟨RX10, "of", "(II)I"⟩
abbrev cX10_next : ByteArray := prog_12_method_8_code
def yX10_next : MethodName := ⟨RX10, "next", "()I"⟩
abbrev cX10_slip : ByteArray := prog_12_method_9_code
def yX10_slip : MethodName := ⟨RX10, "slip", "(IIIIIII)I"⟩
abbrev cX10_isSlip : ByteArray := prog_12_method_10_code
def yX10_isSlip : MethodName := ⟨RX10, "isSlip", "(I)Z"⟩
abbrev cX10_paper : ByteArray := prog_12_method_11_code
def yX10_paper : MethodName := ⟨RX10, "paper", "(II)I"⟩
abbrev cX10_back : ByteArray := prog_12_method_12_code
def yX10_back : MethodName := ⟨RX10, "back", "(I)Z"⟩
abbrev cX10_isParcel : ByteArray := prog_12_method_13_code
def yX10_isParcel : MethodName := ⟨RX10, "isParcel", "(I)Z"⟩
abbrev cX10_look : ByteArray := prog_12_method_14_code
def yX10_look : MethodName := ⟨RX10, "look", "(I)I"⟩
abbrev cX10_van : ByteArray := prog_12_method_15_code
def yX10_van : MethodName := ⟨RX10, "van", "(I)I"⟩
abbrev cX10_house : ByteArray := prog_12_method_16_code
def yX10_house : MethodName := ⟨RX10, "house", "(I)I"⟩
abbrev cX10_feed : ByteArray := prog_12_method_17_code
def yX10_feed : MethodName := ⟨RX10, "feed", "(IIIII)I"⟩
abbrev cX10_end : ByteArray := prog_12_method_18_code
def yX10_end : MethodName := ⟨RX10, "end", "(I)Z"⟩
abbrev cX10_see : ByteArray := prog_12_method_19_code
def yX10_see : MethodName := ⟨RX10, "see", "(I)I"⟩
abbrev cX10_isLetter : ByteArray := prog_12_method_20_code
def yX10_isLetter : MethodName := ⟨RX10, "isLetter", "(I)Z"⟩
abbrev cX10_isDigit : ByteArray := prog_12_method_21_code
def yX10_isDigit : MethodName := ⟨RX10, "isDigit", "(I)Z"⟩
abbrev cX10_word : ByteArray := prog_12_method_22_code
def yX10_word : MethodName := ⟨RX10, "word", "(J)I"⟩
abbrev cX10_next0 : ByteArray := prog_12_method_23_code
def yX10_next0 : MethodName := ⟨RX10, "next0", "()V"⟩
abbrev cX10_bad : ByteArray := prog_12_method_24_code
def yX10_bad : MethodName := ⟨RX10, "bad", "(I)Z"⟩
abbrev cX10_need : ByteArray := prog_12_method_25_code
def yX10_need : MethodName := ⟨RX10, "need", "(I)Z"⟩
abbrev cX10_lay : ByteArray := prog_12_method_26_code
def yX10_lay : MethodName := ⟨RX10, "lay", "(I)V"⟩
abbrev cX10_sum : ByteArray := prog_12_method_27_code
def yX10_sum : MethodName := ⟨RX10, "sum", "()Z"⟩
abbrev cX10_product : ByteArray := prog_12_method_28_code
def yX10_product : MethodName := ⟨RX10, "product", "()Z"⟩
abbrev cX10_unit : ByteArray := prog_12_method_29_code
def yX10_unit : MethodName := ⟨RX10, "unit", "()Z"⟩
abbrev cX10_holds : ByteArray := prog_12_method_30_code
def yX10_holds : MethodName := ⟨RX10, "holds", "()Z"⟩
abbrev cX10_aLine : ByteArray := prog_12_method_31_code
def yX10_aLine : MethodName := ⟨RX10, "aLine", "()Z"⟩
abbrev cX10_rule : ByteArray := prog_12_method_32_code
def yX10_rule : MethodName := ⟨RX10, "rule", "()I"⟩
abbrev cX10_fault : ByteArray := prog_12_method_33_code
def yX10_fault : MethodName := ⟨RX10, "fault", "(I)I"⟩
abbrev cX10_isOf : ByteArray := prog_12_method_34_code
def yX10_isOf : MethodName := ⟨RX10, "isOf", "(II)Z"⟩
abbrev cX10_takes : ByteArray := prog_12_method_35_code
def yX10_takes : MethodName := ⟨RX10, "takes", "(II)V"⟩
abbrev cX10_worked : ByteArray := prog_12_method_36_code
def yX10_worked : MethodName := ⟨RX10, "worked", "(II)I"⟩
abbrev cX10_both : ByteArray := prog_12_method_37_code
def yX10_both : MethodName := ⟨RX10, "both", "(III)I"⟩
abbrev cX10_isMonth : ByteArray := prog_12_method_38_code
def yX10_isMonth : MethodName := ⟨RX10, "isMonth", "(I)Z"⟩
abbrev cX10_pay : ByteArray := prog_12_method_39_code
def yX10_pay : MethodName := ⟨RX10, "pay", "(III)I"⟩
abbrev cX10_statement : ByteArray := prog_12_method_40_code
def yX10_statement : MethodName := ⟨RX10, "statement", "(III)I"⟩
abbrev cX10_count : ByteArray := prog_12_method_41_code
def yX10_count : MethodName := ⟨RX10, "count", "(II)I"⟩
abbrev cX10_level : ByteArray := prog_12_method_42_code
def yX10_level : MethodName := ⟨RX10, "level", "(III)Z"⟩
abbrev cX10_tries : ByteArray := prog_12_method_43_code
def yX10_tries : MethodName := ⟨RX10, "tries", "(II)V"⟩
abbrev cX10_nextRow : ByteArray := prog_12_method_44_code
def yX10_nextRow : MethodName := ⟨RX10, "nextRow", "(I)Z"⟩
abbrev cX10_best : ByteArray := prog_12_method_45_code
def yX10_best : MethodName := ⟨RX10, "best", "(IIII)I"⟩
def RJx145de : String := "java/io/Serializable"
def TJx145de : u_T := fun k => match k with
  | _ => ("", "", "", false)
def tyJx145de : Nat → FieldType := fun k => match k with
  | _ => .int
theorem nmJx145de : ∀ a, a < 0 → ∀ b, b < 0 → a ≠ b → (TJx145de a).2.1 ≠ (TJx145de b).2.1 := by decide +kernel
theorem tyJx145de_ok : ∀ k, k < 0 → parseFieldDescriptor (TJx145de k).2.2.1 = some (tyJx145de k) := by decide +kernel
def RJx8e188 : String := "java/lang/Cloneable"
def TJx8e188 : u_T := fun k => match k with
  | _ => ("", "", "", false)
def tyJx8e188 : Nat → FieldType := fun k => match k with
  | _ => .int
theorem nmJx8e188 : ∀ a, a < 0 → ∀ b, b < 0 → a ≠ b → (TJx8e188 a).2.1 ≠ (TJx8e188 b).2.1 := by decide +kernel
theorem tyJx8e188_ok : ∀ k, k < 0 → parseFieldDescriptor (TJx8e188 k).2.2.1 = some (tyJx8e188 k) := by decide +kernel
def RJxab1ab : String := "java/lang/Iterable"
def TJxab1ab : u_T := fun k => match k with
  | _ => ("", "", "", false)
def tyJxab1ab : Nat → FieldType := fun k => match k with
  | _ => .int
theorem nmJxab1ab : ∀ a, a < 0 → ∀ b, b < 0 → a ≠ b → (TJxab1ab a).2.1 ≠ (TJxab1ab b).2.1 := by decide +kernel
theorem tyJxab1ab_ok : ∀ k, k < 0 → parseFieldDescriptor (TJxab1ab k).2.2.1 = some (tyJxab1ab k) := by decide +kernel
def RJ9 : String := "java/lang/Math"
def TJ9 : u_T := fun k => match k with
  | _ => ("", "", "", false)
def tyJ9 : Nat → FieldType := fun k => match k with
  | _ => .int
theorem nmJ9 : ∀ a, a < 0 → ∀ b, b < 0 → a ≠ b → (TJ9 a).2.1 ≠ (TJ9 b).2.1 := by decide +kernel
theorem tyJ9_ok : ∀ k, k < 0 → parseFieldDescriptor (TJ9 k).2.2.1 = some (tyJ9 k) := by decide +kernel
abbrev cJ9_max_7cf53 : ByteArray := prog_16_method_65_code
def yJ9_max_7cf53 : MethodName := ⟨RJ9, "max", "(II)I"⟩
abbrev cJ9_min_7cf53 : ByteArray := prog_16_method_69_code
def yJ9_min_7cf53 : MethodName := ⟨RJ9, "min", "(II)I"⟩
def RJ0 : String := "java/lang/String"
def TJ0 : u_T := fun k => match k with
  | _ => ("", "", "", false)
def tyJ0 : Nat → FieldType := fun k => match k with
  | _ => .int
theorem nmJ0 : ∀ a, a < 0 → ∀ b, b < 0 → a ≠ b → (TJ0 a).2.1 ≠ (TJ0 b).2.1 := by decide +kernel
theorem tyJ0_ok : ∀ k, k < 0 → parseFieldDescriptor (TJ0 k).2.2.1 = some (tyJ0 k) := by decide +kernel
abbrev cJ0_length_8abf5 : ByteArray := prog_17_method_54_code
def yJ0_length_8abf5 : MethodName := ⟨RJ0, "length", "()I"⟩
abbrev cJ0_charAt_5068e : ByteArray := prog_17_method_56_code
def yJ0_charAt_5068e : MethodName := ⟨RJ0, "charAt", "(I)C"⟩
abbrev cJ0_coder_7d493 : ByteArray := prog_17_method_152_code
def yJ0_coder_7d493 : MethodName := ⟨RJ0, "coder", "()B"⟩
abbrev cJ0_isLatin1_aae02 : ByteArray := prog_17_method_154_code
def yJ0_isLatin1_aae02 : MethodName := ⟨RJ0, "isLatin1", "()Z"⟩
abbrev cJ0_checkIndex_df160 : ByteArray := prog_17_method_155_code
def yJ0_checkIndex_df160 : MethodName := ⟨RJ0, "checkIndex", "(II)V"⟩
def RJ1 : String := "java/lang/StringLatin1"
def TJ1 : u_T := fun k => match k with
  | _ => ("", "", "", false)
def tyJ1 : Nat → FieldType := fun k => match k with
  | _ => .int
theorem nmJ1 : ∀ a, a < 0 → ∀ b, b < 0 → a ≠ b → (TJ1 a).2.1 ≠ (TJ1 b).2.1 := by decide +kernel
theorem tyJ1_ok : ∀ k, k < 0 → parseFieldDescriptor (TJ1 k).2.2.1 = some (tyJ1 k) := by decide +kernel
abbrev cJ1_charAt_3b067 : ByteArray := prog_18_method_2_code
def yJ1_charAt_3b067 : MethodName := ⟨RJ1, "charAt", "([BI)C"⟩
def RJ2 : String := "java/lang/StringUTF16"
def TJ2 : u_T := fun k => match k with
  | _ => ("", "", "", false)
def tyJ2 : Nat → FieldType := fun k => match k with
  | _ => .int
theorem nmJ2 : ∀ a, a < 0 → ∀ b, b < 0 → a ≠ b → (TJ2 a).2.1 ≠ (TJ2 b).2.1 := by decide +kernel
theorem tyJ2_ok : ∀ k, k < 0 → parseFieldDescriptor (TJ2 k).2.2.1 = some (tyJ2 k) := by decide +kernel
abbrev cJ2_getChar_3b067 : ByteArray := prog_19_method_5_code
def yJ2_getChar_3b067 : MethodName := ⟨RJ2, "getChar", "([BI)C"⟩
abbrev cJ2_length_9d52b : ByteArray := prog_19_method_6_code
def yJ2_length_9d52b : MethodName := ⟨RJ2, "length", "([B)I"⟩
abbrev cJ2_charAt_3b067 : ByteArray := prog_19_method_83_code
def yJ2_charAt_3b067 : MethodName := ⟨RJ2, "charAt", "([BI)C"⟩
abbrev cJ2_checkIndex_2214a : ByteArray := prog_19_method_91_code
def yJ2_checkIndex_2214a : MethodName := ⟨RJ2, "checkIndex", "(I[B)V"⟩
def RJ10 : String := "java/lang/System"
def TJ10 : u_T := fun k => match k with
  | _ => ("", "", "", false)
def tyJ10 : Nat → FieldType := fun k => match k with
  | _ => .int
theorem nmJ10 : ∀ a, a < 0 → ∀ b, b < 0 → a ≠ b → (TJ10 a).2.1 ≠ (TJ10 b).2.1 := by decide +kernel
theorem tyJ10_ok : ∀ k, k < 0 → parseFieldDescriptor (TJ10 k).2.2.1 = some (tyJ10 k) := by decide +kernel
def RJxa1e45 : String := "java/util/AbstractCollection"
def TJxa1e45 : u_T := fun k => match k with
  | _ => ("", "", "", false)
def tyJxa1e45 : Nat → FieldType := fun k => match k with
  | _ => .int
theorem nmJxa1e45 : ∀ a, a < 0 → ∀ b, b < 0 → a ≠ b → (TJxa1e45 a).2.1 ≠ (TJxa1e45 b).2.1 := by decide +kernel
theorem tyJxa1e45_ok : ∀ k, k < 0 → parseFieldDescriptor (TJxa1e45 k).2.2.1 = some (tyJxa1e45 k) := by decide +kernel
abbrev cJxa1e45_init_da8c8 : ByteArray := prog_21_method_1_code
def yJxa1e45_init_da8c8 : MethodName := ⟨RJxa1e45, "<init>", "()V"⟩
def RJxc12de : String := "java/util/AbstractList"
def TJxc12de : u_T := fun k => match k with
  | _ => ("", "", "", false)
def tyJxc12de : Nat → FieldType := fun k => match k with
  | _ => .int
theorem nmJxc12de : ∀ a, a < 0 → ∀ b, b < 0 → a ≠ b → (TJxc12de a).2.1 ≠ (TJxc12de b).2.1 := by decide +kernel
theorem tyJxc12de_ok : ∀ k, k < 0 → parseFieldDescriptor (TJxc12de k).2.2.1 = some (tyJxc12de k) := by decide +kernel
abbrev cJxc12de_init_da8c8 : ByteArray := prog_22_method_1_code
def yJxc12de_init_da8c8 : MethodName := ⟨RJxc12de, "<init>", "()V"⟩
def RJx4a65c : String := "java/util/ArrayList"
def TJx4a65c : u_T := fun k => match k with
  | 0 => ("java/util/AbstractList", "modCount", "I", false)
  | 1 => ("java/util/ArrayList", "elementData", "[Ljava/lang/Object;", false)
  | _ => ("java/util/ArrayList", "size", "I", false)
def tyJx4a65c : Nat → FieldType := fun k => match k with
  | 0 => .int
  | 1 => .array (.object "java/lang/Object")
  | _ => .int
theorem nmJx4a65c : ∀ a, a < 3 → ∀ b, b < 3 → a ≠ b → (TJx4a65c a).2.1 ≠ (TJx4a65c b).2.1 := by decide +kernel
theorem tyJx4a65c_ok : ∀ k, k < 3 → parseFieldDescriptor (TJx4a65c k).2.2.1 = some (tyJx4a65c k) := by decide +kernel
abbrev cJx4a65c_init_da8c8 : ByteArray := prog_23_method_2_code
def yJx4a65c_init_da8c8 : MethodName := ⟨RJx4a65c, "<init>", "()V"⟩
abbrev cJx4a65c_grow_92f84 : ByteArray := prog_23_method_6_code
def yJx4a65c_grow_92f84 : MethodName := ⟨RJx4a65c, "grow", "(I)[Ljava/lang/Object;"⟩
abbrev cJx4a65c_grow_d5877 : ByteArray := prog_23_method_7_code
def yJx4a65c_grow_d5877 : MethodName := ⟨RJx4a65c, "grow", "()[Ljava/lang/Object;"⟩
abbrev cJx4a65c_size_8abf5 : ByteArray := prog_23_method_8_code
def yJx4a65c_size_8abf5 : MethodName := ⟨RJx4a65c, "size", "()I"⟩
abbrev cJx4a65c_elementData_915e3 : ByteArray := prog_23_method_18_code
def yJx4a65c_elementData_915e3 : MethodName := ⟨RJx4a65c, "elementData", "(I)Ljava/lang/Object;"⟩
abbrev cJx4a65c_get_915e3 : ByteArray := prog_23_method_20_code
def yJx4a65c_get_915e3 : MethodName := ⟨RJx4a65c, "get", "(I)Ljava/lang/Object;"⟩
abbrev cJx4a65c_add_72be8 : ByteArray := prog_23_method_24_code
def yJx4a65c_add_72be8 : MethodName := ⟨RJx4a65c, "add", "(Ljava/lang/Object;[Ljava/lang/Object;I)V"⟩
abbrev cJx4a65c_add_9ea2d : ByteArray := prog_23_method_25_code
def yJx4a65c_add_9ea2d : MethodName := ⟨RJx4a65c, "add", "(Ljava/lang/Object;)Z"⟩
def RJ7 : String := "java/util/Arrays"
def TJ7 : u_T := fun k => match k with
  | _ => ("", "", "", false)
def tyJ7 : Nat → FieldType := fun k => match k with
  | _ => .int
theorem nmJ7 : ∀ a, a < 0 → ∀ b, b < 0 → a ≠ b → (TJ7 a).2.1 ≠ (TJ7 b).2.1 := by decide +kernel
theorem tyJ7_ok : ∀ k, k < 0 → parseFieldDescriptor (TJ7 k).2.2.1 = some (tyJ7 k) := by decide +kernel
abbrev cJ7_copyOf_1904c : ByteArray := prog_24_method_119_code
def yJ7_copyOf_1904c : MethodName := ⟨RJ7, "copyOf", "([Ljava/lang/Object;I)[Ljava/lang/Object;"⟩
abbrev cJ7_copyOf_6403c : ByteArray := prog_24_method_120_code
def yJ7_copyOf_6403c : MethodName := ⟨RJ7, "copyOf", "([Ljava/lang/Object;ILjava/lang/Class;)[Ljava/lang/Object;"⟩
def RJx5ef63 : String := "java/util/Collection"
def TJx5ef63 : u_T := fun k => match k with
  | _ => ("", "", "", false)
def tyJx5ef63 : Nat → FieldType := fun k => match k with
  | _ => .int
theorem nmJx5ef63 : ∀ a, a < 0 → ∀ b, b < 0 → a ≠ b → (TJx5ef63 a).2.1 ≠ (TJx5ef63 b).2.1 := by decide +kernel
theorem tyJx5ef63_ok : ∀ k, k < 0 → parseFieldDescriptor (TJx5ef63 k).2.2.1 = some (tyJx5ef63 k) := by decide +kernel
def RJxbd725 : String := "java/util/List"
def TJxbd725 : u_T := fun k => match k with
  | _ => ("", "", "", false)
def tyJxbd725 : Nat → FieldType := fun k => match k with
  | _ => .int
theorem nmJxbd725 : ∀ a, a < 0 → ∀ b, b < 0 → a ≠ b → (TJxbd725 a).2.1 ≠ (TJxbd725 b).2.1 := by decide +kernel
theorem tyJxbd725_ok : ∀ k, k < 0 → parseFieldDescriptor (TJxbd725 k).2.2.1 = some (tyJxbd725 k) := by decide +kernel
def RJ15 : String := "java/util/Objects"
def TJ15 : u_T := fun k => match k with
  | _ => ("", "", "", false)
def tyJ15 : Nat → FieldType := fun k => match k with
  | _ => .int
theorem nmJ15 : ∀ a, a < 0 → ∀ b, b < 0 → a ≠ b → (TJ15 a).2.1 ≠ (TJ15 b).2.1 := by decide +kernel
theorem tyJ15_ok : ∀ k, k < 0 → parseFieldDescriptor (TJ15 k).2.2.1 = some (tyJ15 k) := by decide +kernel
abbrev cJ15_checkIndex_7cf53 : ByteArray := prog_27_method_17_code
def yJ15_checkIndex_7cf53 : MethodName := ⟨RJ15, "checkIndex", "(II)I"⟩
def RJxf0a74 : String := "java/util/RandomAccess"
def TJxf0a74 : u_T := fun k => match k with
  | _ => ("", "", "", false)
def tyJxf0a74 : Nat → FieldType := fun k => match k with
  | _ => .int
theorem nmJxf0a74 : ∀ a, a < 0 → ∀ b, b < 0 → a ≠ b → (TJxf0a74 a).2.1 ≠ (TJxf0a74 b).2.1 := by decide +kernel
theorem tyJxf0a74_ok : ∀ k, k < 0 → parseFieldDescriptor (TJxf0a74 k).2.2.1 = some (tyJxf0a74 k) := by decide +kernel
def RJxa66e6 : String := "java/util/SequencedCollection"
def TJxa66e6 : u_T := fun k => match k with
  | _ => ("", "", "", false)
def tyJxa66e6 : Nat → FieldType := fun k => match k with
  | _ => .int
theorem nmJxa66e6 : ∀ a, a < 0 → ∀ b, b < 0 → a ≠ b → (TJxa66e6 a).2.1 ≠ (TJxa66e6 b).2.1 := by decide +kernel
theorem tyJxa66e6_ok : ∀ k, k < 0 → parseFieldDescriptor (TJxa66e6 k).2.2.1 = some (tyJxa66e6 k) := by decide +kernel
def RJ8 : String := "jdk/internal/util/ArraysSupport"
def TJ8 : u_T := fun k => match k with
  | _ => ("", "", "", false)
def tyJ8 : Nat → FieldType := fun k => match k with
  | _ => .int
theorem nmJ8 : ∀ a, a < 0 → ∀ b, b < 0 → a ≠ b → (TJ8 a).2.1 ≠ (TJ8 b).2.1 := by decide +kernel
theorem tyJ8_ok : ∀ k, k < 0 → parseFieldDescriptor (TJ8 k).2.2.1 = some (tyJ8 k) := by decide +kernel
abbrev cJ8_newLength_cabcc : ByteArray := prog_30_method_27_code
def yJ8_newLength_cabcc : MethodName := ⟨RJ8, "newLength", "(III)I"⟩
abbrev cJ8_hugeLength_7cf53 : ByteArray := prog_30_method_28_code
def yJ8_hugeLength_7cf53 : MethodName := ⟨RJ8, "hugeLength", "(II)I"⟩
def RJ3 : String := "jdk/internal/util/Preconditions"
def TJ3 : u_T := fun k => match k with
  | _ => ("", "", "", false)
def tyJ3 : Nat → FieldType := fun k => match k with
  | _ => .int
theorem nmJ3 : ∀ a, a < 0 → ∀ b, b < 0 → a ≠ b → (TJ3 a).2.1 ≠ (TJ3 b).2.1 := by decide +kernel
theorem tyJ3_ok : ∀ k, k < 0 → parseFieldDescriptor (TJ3 k).2.2.1 = some (tyJ3 k) := by decide +kernel
abbrev cJ3_checkIndex_8e157 : ByteArray := prog_31_method_11_code
def yJ3_checkIndex_8e157 : MethodName := ⟨RJ3, "checkIndex", "(IILjava/util/function/BiFunction;)I"⟩
def RL : String := "GreatStoreLaw"
abbrev cL_law : ByteArray := code
def yL_law : MethodName := ⟨RL, "law", "([I)Z"⟩
abbrev vwCl : List vw_C := [(RJx4a65c, TJx4a65c, 3), (RX0, TX0, 6), (RX1, TX1, 9), (RX2, TX2, 5), (RX3, TX3, 12), (RX4, TX4, 4), (RX5, TX5, 2), (RX6, TX6, 5), (RX7, TX7, 4), (RX8, TX8, 4), (RX9, TX9, 11), (RX10, TX10, 55)]
end
section
-- ===== the abstract store: pointers are (role, number); ints and references by (role, number, place) =====
abbrev PT : Type := Nat × Nat
abbrev AV : Type := Int32 ⊕ (Int64 ⊕ Option PT)
abbrev aI (x : Int32) : AV := Sum.inl x
abbrev aL (x : Int64) : AV := Sum.inr (Sum.inl x)
abbrev aP (q : Option PT) : AV := Sum.inr (Sum.inr q)
abbrev aR (c i : Nat) : AV := Sum.inr (Sum.inr (some (c, i)))
def vl (ad : PT → Nat) (v : AV) : Value := match v with
  | .inl x => .int x
  | .inr (.inl x) => .long x
  | .inr (.inr r) => va_rf (r.map ad)
def ct (v : AV) : Nat := match v with
  | .inr (.inl _) => 2
  | _ => 1
abbrev HS : Type := (Nat → Nat → Nat → Int32) × (Nat → Nat → Nat → Option PT) × List PT
def gI (h : HS) (c i k : Nat) : Int32 := h.1 c i k
def gR (h : HS) (c i k : Nat) : Option PT := h.2.1 c i k
def sI (h : HS) (c i k : Nat) (v : Int32) : HS := (fun c' i' k' => if c' = c ∧ k' = k ∧ i' = i then v else h.1 c' i' k', h.2)
def sR (h : HS) (c i k : Nat) (v : Option PT) : HS := (h.1, fun c' i' k' => if c' = c ∧ k' = k ∧ i' = i then v else h.2.1 c' i' k', h.2.2)
def nw (h : HS) (c i : Nat) : HS := (fun c' i' k' => if c' = c ∧ i' = i then 0 else h.1 c' i' k', fun c' i' k' => if c' = c ∧ i' = i then none else h.2.1 c' i' k', h.2.2 ++ [(c, i)])
abbrev MT : Type := MethodName × ByteArray × Nat × Option FieldType
abbrev OJ : FieldType := .object "java/lang/Object"
def rtl : List (Option (Nat ⊕ (FieldType × Nat))) := [some (.inl 10), some (.inl 0), some (.inl 0), some (.inl 9), some (.inr (.int, 20)), some (.inr (.boolean, 20)), some (.inl 6), some (.inr (.byte, 400)), some (.inl 8), some (.inr (.int, 401)), some (.inr (.int, 401)), some (.inr (.int, 401)), some (.inl 2), some (.inr (.int, 400)), some (.inr (.int, 400)), some (.inr (.int, 8)), some (.inr (.int, 8)), some (.inr (.int, 8)), some (.inr (.int, 64)), some (.inl 3), some (.inl 5), some (.inl 1), some (.inr (.int, 4)), some (.inr (.int, 4)), some (.inr (.int, 8)), some (.inr (.int, 8)), some (.inl 11), some (.inr (.int, 4368)), some (.inr (.int, 12)), some (.inr (.int, 12)), some (.inr (.int, 12)), some (.inr (.int, 12)), some (.inr (.int, 120)), some (.inr (.int, 120)), some (.inr (.int, 120)), some (.inr (.int, 120)), some (.inr (.int, 120)), some (.inr (.int, 120)), some (.inr (.int, 120)), some (.inr (.int, 120)), some (.inr (.int, 120)), some (.inr (.int, 120)), some (.inr (.int, 120)), some (.inr (.int, 120)), some (.inr (.int, 20)), some (.inr (.boolean, 20)), some (.inr (.int, 9)), some (.inr (.int, 8)), some (.inr (.int, 500)), some (.inr (.int, 9)), some (.inr (.int, 8)), some (.inr (.int, 500)), some (.inr (.int, 500)), some (.inr (.int, 400)), some (.inr (.int, 4)), some (.inr (.int, 4)), some (.inr (.int, 8)), some (.inr (.int, 8)), none, none, some (.inl 7), some (.inr (.int, 364)), some (.inl 4)]
def rty (c i : Nat) : Nat ⊕ (FieldType × Nat) := match rtl[c]? with
  | some (some t) => t
  | _ => .inr (OJ, i)
def srl : List ((Nat × Nat) × Nat) := [((0, 0), 1), ((0, 1), 2), ((0, 2), 3), ((0, 3), 6), ((0, 4), 8), ((0, 5), 19), ((0, 6), 20), ((0, 7), 21), ((3, 0), 4), ((3, 1), 5), ((6, 0), 7), ((8, 0), 9), ((8, 1), 10), ((8, 2), 11), ((12, 0), 13), ((12, 1), 14), ((12, 2), 15), ((12, 3), 16), ((12, 4), 17), ((12, 5), 18), ((19, 0), 8), ((21, 0), 22), ((21, 1), 23), ((21, 2), 24), ((21, 3), 25), ((26, 3), 27), ((26, 4), 28), ((26, 5), 29), ((26, 6), 30), ((26, 7), 31), ((26, 8), 32), ((26, 9), 33), ((26, 10), 34), ((26, 11), 35), ((26, 12), 36), ((26, 13), 37), ((26, 14), 38), ((26, 15), 39), ((26, 16), 40), ((26, 17), 41), ((26, 18), 42), ((26, 19), 43), ((26, 22), 44), ((26, 23), 45), ((26, 27), 46), ((26, 28), 47), ((26, 29), 48), ((26, 30), 49), ((26, 31), 50), ((26, 32), 51), ((26, 33), 52), ((26, 34), 53), ((26, 49), 54), ((26, 50), 55), ((26, 51), 56), ((26, 52), 57)]
def fR (c i k : Nat) : Option PT := (srl.lookup (c, k)).map (fun c' => (c', i))
def gS (σ : Bool) (h : HS) (c i k : Nat) : Option PT := if σ then (match fR c i k with
  | some q => some q
  | none => gR h c i k) else gR h c i k
def fts : List (Nat → FieldType) := [tyJx4a65c, tyX0, tyX1, tyX2, tyX3, tyX4, tyX5, tyX6, tyX7, tyX8, tyX9, tyX10]
def fty (ci k : Nat) : FieldType := match fts[ci]? with
  | some f => f k
  | none => .int
def isRT (t : FieldType) : Bool := match t with
  | .object _ => true
  | .array _ => true
  | _ => false
def nF (ci : Nat) : Nat := match vwCl[ci]? with
  | some q => q.2.2
  | none => 0
def fv (σ : Bool) (ad : PT → Nat) (h : HS) (c i ci k : Nat) : Value := if isRT (fty ci k) then va_rf ((gS σ h c i k).map ad) else .int (gI h c i k)
def toE (σ : Bool) (cA : FieldType → ClassId) (ad : PT → Nat) (h : HS) (q : PT) : va_E := match rty q.1 q.2 with
  | .inl ci => .inr (ci, (List.range (nF ci)).map (fv σ ad h q.1 q.2 ci))
  | .inr (t, n) => .inl (cA t, n, if isRT t then .inr (.inr (.inr (.inr (fun k => (gS σ h q.1 q.2 k).map ad)))) else .inl (gI h q.1 q.2))
def wsO (σ : Bool) (cA : FieldType → ClassId) (ad : PT → Nat) (h : HS) : va_W := h.2.2.map (fun q => (ad q, toE σ cA ad h q))
def okL (L : List PT) (q : PT) : Prop := q ∈ L ∨ 65 ≤ q.1
def okV (h : HS) (v : AV) : Prop := ∀ q, v = aP (some q) → okL h.2.2 q
def Rep (σ : Bool) (D : va_G) (cA : FieldType → ClassId) (ad : PT → Nat) (B : Nat) (h : HS) (H : Heap) : Prop :=
  va_P D vwCl (wsO σ cA ad h) H ∧ va_D (fun q => B ≤ q) (wsO σ cA ad h) ∧ ∀ q ∈ h.2.2, ∀ k r, gS σ h q.1 q.2 k = some r → okL h.2.2 r
-- ===== the tables' words that stay =====
def gw : List Cond := lw_tbl.filter goodWord
theorem gw_good (M : Cond) (hM : goodWord M = true) : GoodIn (M :: gw) (M :: gw) := fun w hw => ⟨hw, by
  rcases List.mem_cons.mp hw with h | h
  · rw [h]; exact good_of_word hM
  · exact good_of_word (List.mem_filter.mp h).2⟩
theorem inw_0 : ∀ w ∈ u_ws RJx4a65c TJx4a65c 3, w ∈ gw := by decide +kernel
theorem inw_1 : ∀ w ∈ u_ws RX0 TX0 6, w ∈ gw := by decide +kernel
theorem inw_2 : ∀ w ∈ u_ws RX1 TX1 9, w ∈ gw := by decide +kernel
theorem inw_3 : ∀ w ∈ u_ws RX2 TX2 5, w ∈ gw := by decide +kernel
theorem inw_4 : ∀ w ∈ u_ws RX3 TX3 12, w ∈ gw := by decide +kernel
theorem inw_5 : ∀ w ∈ u_ws RX4 TX4 4, w ∈ gw := by decide +kernel
theorem inw_6 : ∀ w ∈ u_ws RX5 TX5 2, w ∈ gw := by decide +kernel
theorem inw_7 : ∀ w ∈ u_ws RX6 TX6 5, w ∈ gw := by decide +kernel
theorem inw_8 : ∀ w ∈ u_ws RX7 TX7 4, w ∈ gw := by decide +kernel
theorem inw_9 : ∀ w ∈ u_ws RX8 TX8 4, w ∈ gw := by decide +kernel
theorem inw_10 : ∀ w ∈ u_ws RX9 TX9 11, w ∈ gw := by decide +kernel
theorem inw_11 : ∀ w ∈ u_ws RX10 TX10 55, w ∈ gw := by decide +kernel
theorem cls_ok {ci : Nat} {C : String} {T : u_T} {N : Nat} (h : vwCl[ci]? = some (C, T, N)) : N = nF ci ∧ (∀ w ∈ u_ws C T N, w ∈ gw) ∧ (∀ k, k < N → parseFieldDescriptor (T k).2.2.1 = some (fty ci k)) ∧ (∀ a, a < N → ∀ b, b < N → a ≠ b → (T a).2.1 ≠ (T b).2.1) := by
  match ci, h with
  | 0, h => cases h; exact ⟨rfl, inw_0, tyJx4a65c_ok, nmJx4a65c⟩
  | 1, h => cases h; exact ⟨rfl, inw_1, tyX0_ok, nmX0⟩
  | 2, h => cases h; exact ⟨rfl, inw_2, tyX1_ok, nmX1⟩
  | 3, h => cases h; exact ⟨rfl, inw_3, tyX2_ok, nmX2⟩
  | 4, h => cases h; exact ⟨rfl, inw_4, tyX3_ok, nmX3⟩
  | 5, h => cases h; exact ⟨rfl, inw_5, tyX4_ok, nmX4⟩
  | 6, h => cases h; exact ⟨rfl, inw_6, tyX5_ok, nmX5⟩
  | 7, h => cases h; exact ⟨rfl, inw_7, tyX6_ok, nmX6⟩
  | 8, h => cases h; exact ⟨rfl, inw_8, tyX7_ok, nmX7⟩
  | 9, h => cases h; exact ⟨rfl, inw_9, tyX8_ok, nmX8⟩
  | 10, h => cases h; exact ⟨rfl, inw_10, tyX9_ok, nmX9⟩
  | 11, h => cases h; exact ⟨rfl, inw_11, tyX10_ok, nmX10⟩
  | k + 12, h => simp at h
end
section
def lvm (ad : PT → Nat) (lv : List (Nat × AV)) : List (Nat × Value) := lv.map (fun q => (q.1, vl ad q.2))
def tysO (cA : FieldType → ClassId) : List (ClassId × FieldType) := [(cA .int, .int), (cA .byte, .byte), (cA .boolean, .boolean), (cA OJ, OJ)]
/-- what lies outside the store -/
def Ex (cA : FieldType → ClassId) (B : Nat) (ad : PT → Nat) (U : State) (H : Heap) : Prop := True
theorem Ex.moved {cA : FieldType → ClassId} {B : Nat} {ad : PT → Nat} {u U : State} {H : Heap} (hvm : u.vm.Alike U.vm) (h : Ex cA B ad u H) : Ex cA B ad U H := trivial
theorem Ex.kept {cA : FieldType → ClassId} {B : Nat} {ad ad' : PT → Nat} {U : State} {H H1 : Heap} (h : Ex cA B ad U H) (hq : ∀ q : Nat, q < H.size → ¬ B ≤ q → H1[q]? = H[q]?) (ha : ∀ q : PT, 65 ≤ q.1 → ad' q = ad q) : Ex cA B ad' U H1 := trivial
def Cx (M : MT) (p : Program) (s : State) (m : MethodId) (args : Array Value) (meth : Method) (c : Code) (D : va_G) (cA : FieldType → ClassId) : Prop :=
  p.tables.exec = Jvm.exec ∧ c.code = M.2.1 ∧ c.maxLocals = M.2.2.1 ∧ s.vm.findClass M.1.cls = some m.cls ∧ (∀ w ∈ gw, w.before args s = true) ∧ meth.sig.returnType = M.2.2.2 ∧ meth.locks = false ∧ meth.name = M.1.name ∧ va_K D vwCl (tysO cA) s
def QM (σ : Bool) (D : va_G) (cA : FieldType → ClassId) (B : Nat) (ad0 : PT → Nat) (L0 : List PT) (P : Option AV → HS → Prop) : Array Value → State → Outcome → State → Prop := fun _ st o t =>
  ∃ (r : Option AV) (h : HS) (ad : PT → Nat), o = .returned (r.map (vl ad)) ∧ P r h ∧ Rep σ D cA ad B h t.heap ∧ (∀ v, r = some v → okV h v) ∧ (∀ q, okL L0 q → ad q = ad0 q ∧ okL h.2.2 q) ∧ va_F (fun q => B ≤ q) st t
def Bd (σ : Bool) (M : MT) (d bc bs : Nat) (lv : List (Nat × AV)) (st : List AV) (h : HS) (p : Program) (R : Room) (s : State) (m : MethodId) (args : Array Value) (meth : Method) (c : Code) (D : va_G) (cA : FieldType → ClassId) (B : Nat) (ad ad0 : PT → Nat) (L0 : List PT) (H : Heap) (locs : List Loc) (cells slots : Nat) (ls : Array Slot) : Prop :=
  Cx M p s m args meth c D cA ∧ B ≤ s.heap.size ∧ Ex cA B ad s s.heap ∧ (d ≤ R.frames ∧ 64 * d ≤ R.locals) ∧ (cells + bc ≤ R.cells ∧ slots + bs ≤ R.slots) ∧ Rep σ D cA ad B h H ∧ va_S (fun q => B ≤ q) s.heap H locs ∧ lv_has ls M.2.2.1 (lvm ad lv) ∧ (∀ q ∈ lv, okV h q.2) ∧ (∀ v ∈ st, okV h v) ∧ (∀ q, okL L0 q → ad q = ad0 q ∧ okL h.2.2 q)
/-- the machine, in method M at pc, with these locals, this stack and this store, comes to M's end with P -/
def V (σ : Bool) (M : MT) (d bc bs pc : Nat) (lv : List (Nat × AV)) (st : List AV) (h : HS) (P : Option AV → HS → Prop) : Prop :=
  ∀ (p : Program) (l : Launch) (e : Env) (R : Room) (s : State) (m : MethodId) (args : Array Value) (below : List Frame) (meth : Method) (c : Code) (D : va_G) (cA : FieldType → ClassId) (B : Nat) (ad ad0 : PT → Nat) (L0 : List PT) (H : Heap) (locs : List Loc) (cells slots : Nat) (ls : Array Slot),
    Bd σ M d bc bs lv st h p R s m args meth c D cA B ad ad0 L0 H locs cells slots ls →
    W p l e R s m args below meth c H locs cells slots (MQ below (QM σ D cA B ad0 L0 P) args s R.cells R.slots (fun q => B ≤ q)) (F0 m pc ls (st.map (vl ad)))
/-- method M at these arguments and this store comes back, with P -/
def Cl (σ : Bool) (M : MT) (d bc bs : Nat) (as : List AV) (h : HS) (P : Option AV → HS → Prop) : Prop :=
  ∀ (l : Launch) (D : va_G) (cA : FieldType → ClassId) (B : Nat) (ad : PT → Nat), Met l M.1 (Cond.code M.1 M.2.1 M.2.2.1 M.2.2.2 :: gw) { frames := d, cells := bc, slots := bs, locals := 64 * d }
    (va_Pc (as.map (vl ad)) (fun U => B ≤ U.heap.size ∧ Ex cA B ad U U.heap ∧ Rep σ D cA ad B h U.heap ∧ va_K D vwCl (tysO cA) U ∧ ∀ v ∈ as, okV h v)) (QM σ D cA B ad h.2.2 P) bc bs (fun q => B ≤ q)
section VR
variable {σ : Bool} {M : MT} {d bc bs pc : Nat} {lv : List (Nat × AV)} {st : List AV} {h : HS} {P : Option AV → HS → Prop}
theorem okI {x : Int32} : okV h (aI x) := fun q e => by cases e
theorem okLg {x : Int64} : okV h (aL x) := fun q e => by cases e
theorem okN : okV h (aP none) := fun q e => by cases e
theorem okc {v : AV} {st : List AV} (hx : okV h v) (hs : ∀ v ∈ st, okV h v) : ∀ w ∈ v :: st, okV h w := fun w hw => (List.mem_cons.mp hw).elim (fun e => e ▸ hx) (hs w)
theorem okt {v : AV} {st : List AV} (hs : ∀ w ∈ v :: st, okV h w) : ∀ w ∈ st, okV h w := fun w hw => hs w (List.mem_cons_of_mem _ hw)
theorem okh {v : AV} {st : List AV} (hs : ∀ w ∈ v :: st, okV h w) : okV h v := hs v List.mem_cons_self
section BD
variable {p : Program} {R : Room} {s : State} {m : MethodId} {args : Array Value} {meth : Method} {c : Code} {D : va_G} {cA : FieldType → ClassId} {B : Nat} {ad ad0 : PT → Nat} {L0 : List PT} {H : Heap} {locs : List Loc} {cells slots : Nat} {ls : Array Slot}
theorem Bd.x (b : Bd σ M d bc bs lv st h p R s m args meth c D cA B ad ad0 L0 H locs cells slots ls) : p.tables.exec = Jvm.exec := b.1.1
theorem Bd.b (b : Bd σ M d bc bs lv st h p R s m args meth c D cA B ad ad0 L0 H locs cells slots ls) : c.code = M.2.1 := b.1.2.1
theorem Bd.own (b : Bd σ M d bc bs lv st h p R s m args meth c D cA B ad ad0 L0 H locs cells slots ls) : s.vm.findClass M.1.cls = some m.cls := b.1.2.2.2.1
theorem Bd.ts (b : Bd σ M d bc bs lv st h p R s m args meth c D cA B ad ad0 L0 H locs cells slots ls) : ∀ w ∈ gw, w.before args s = true := b.1.2.2.2.2.1
theorem Bd.K (b : Bd σ M d bc bs lv st h p R s m args meth c D cA B ad ad0 L0 H locs cells slots ls) : va_K D vwCl (tysO cA) s := b.1.2.2.2.2.2.2.2.2
theorem Bd.rep (b : Bd σ M d bc bs lv st h p R s m args meth c D cA B ad ad0 L0 H locs cells slots ls) : Rep σ D cA ad B h H := b.2.2.2.2.2.1
theorem Bd.S (b : Bd σ M d bc bs lv st h p R s m args meth c D cA B ad ad0 L0 H locs cells slots ls) : va_S (fun q => B ≤ q) s.heap H locs := b.2.2.2.2.2.2.1
theorem Bd.lh (b : Bd σ M d bc bs lv st h p R s m args meth c D cA B ad ad0 L0 H locs cells slots ls) : lv_has ls M.2.2.1 (lvm ad lv) := b.2.2.2.2.2.2.2.1
theorem Bd.lo (b : Bd σ M d bc bs lv st h p R s m args meth c D cA B ad ad0 L0 H locs cells slots ls) : ∀ q ∈ lv, okV h q.2 := b.2.2.2.2.2.2.2.2.1
theorem Bd.so (b : Bd σ M d bc bs lv st h p R s m args meth c D cA B ad ad0 L0 H locs cells slots ls) : ∀ v ∈ st, okV h v := b.2.2.2.2.2.2.2.2.2.1
theorem Bd.stk {st' : List AV} (b : Bd σ M d bc bs lv st h p R s m args meth c D cA B ad ad0 L0 H locs cells slots ls) (hs : ∀ v ∈ st', okV h v) : Bd σ M d bc bs lv st' h p R s m args meth c D cA B ad ad0 L0 H locs cells slots ls := by
  obtain ⟨h1, h2, h3, h4, h5, h6, h7, h8, h9, -, h11⟩ := b
  exact ⟨h1, h2, h3, h4, h5, h6, h7, h8, h9, hs, h11⟩
theorem Bd.lst {lv' : List (Nat × AV)} {st' : List AV} {ls' : Array Slot} (b : Bd σ M d bc bs lv st h p R s m args meth c D cA B ad ad0 L0 H locs cells slots ls) (hs : ∀ v ∈ st', okV h v) (hl : lv_has ls' M.2.2.1 (lvm ad lv')) (ho : ∀ q ∈ lv', okV h q.2) : Bd σ M d bc bs lv' st' h p R s m args meth c D cA B ad ad0 L0 H locs cells slots ls' := by
  obtain ⟨h1, h2, h3, h4, h5, h6, h7, -, -, -, h11⟩ := b
  exact ⟨h1, h2, h3, h4, h5, h6, h7, hl, ho, hs, h11⟩
end BD
theorem V_iconst {n : Int} (v : Int32) (hd : decode M.2.1 pc = .ok (.iconst n, 1)) (hv : Int32.ofInt n = v) (k : V σ M d bc bs (pc + 1) lv (aI v :: st) h P) : V σ M d bc bs pc lv (st) h P := by
  intro p l e R s m args below meth c D cA B ad ad0 L0 H locs cells slots ls b
  exact lv_iconst b.x b.b hd hv (k p l e R s m args below meth c D cA B ad ad0 L0 H locs cells slots ls (b.stk (okc okI b.so)))
theorem V_bipush {n : Int} (v : Int32) (hd : decode M.2.1 pc = .ok (.bipush n, 2)) (hv : (Int8.ofInt n).toInt32 = v) (k : V σ M d bc bs (pc + 2) lv (aI v :: st) h P) : V σ M d bc bs pc lv (st) h P := by
  intro p l e R s m args below meth c D cA B ad ad0 L0 H locs cells slots ls b
  exact lv_bipush b.x b.b hd hv (k p l e R s m args below meth c D cA B ad ad0 L0 H locs cells slots ls (b.stk (okc okI b.so)))
theorem V_sipush {n : Int} (v : Int32) (hd : decode M.2.1 pc = .ok (.sipush n, 3)) (hv : (Int16.ofInt n).toInt32 = v) (k : V σ M d bc bs (pc + 3) lv (aI v :: st) h P) : V σ M d bc bs pc lv (st) h P := by
  intro p l e R s m args below meth c D cA B ad ad0 L0 H locs cells slots ls b
  exact lv_sipush b.x b.b hd hv (k p l e R s m args below meth c D cA B ad ad0 L0 H locs cells slots ls (b.stk (okc okI b.so)))
theorem V_lconst {n : Fin 2} (v : Int64) (hd : decode M.2.1 pc = .ok (.lconst n, 1)) (hv : Int64.ofNat (n : Nat) = v) (k : V σ M d bc bs (pc + 1) lv (aL v :: st) h P) : V σ M d bc bs pc lv (st) h P := by
  intro p l e R s m args below meth c D cA B ad ad0 L0 H locs cells slots ls b
  exact lv_lconst b.x b.b hd hv (k p l e R s m args below meth c D cA B ad ad0 L0 H locs cells slots ls (b.stk (okc okLg b.so)))
theorem V_null (hd : decode M.2.1 pc = .ok (.aconst_null, 1)) (k : V σ M d bc bs (pc + 1) lv (aP none :: st) h P) : V σ M d bc bs pc lv (st) h P := by
  intro p l e R s m args below meth c D cA B ad ad0 L0 H locs cells slots ls b
  exact lv_null b.x b.b hd (k p l e R s m args below meth c D cA B ad ad0 L0 H locs cells slots ls (b.stk (okc okN b.so)))
theorem V_iadd {x y : Int32} (hd : decode M.2.1 pc = .ok (.iadd, 1)) (k : V σ M d bc bs (pc + 1) lv (aI (x + y) :: st) h P) : V σ M d bc bs pc lv (aI y :: aI x :: st) h P := by
  intro p l e R s m args below meth c D cA B ad ad0 L0 H locs cells slots ls b
  exact lv_iadd b.x b.b hd (k p l e R s m args below meth c D cA B ad ad0 L0 H locs cells slots ls (b.stk (okc okI (okt (okt b.so)))))
theorem V_isub {x y : Int32} (hd : decode M.2.1 pc = .ok (.isub, 1)) (k : V σ M d bc bs (pc + 1) lv (aI (x - y) :: st) h P) : V σ M d bc bs pc lv (aI y :: aI x :: st) h P := by
  intro p l e R s m args below meth c D cA B ad ad0 L0 H locs cells slots ls b
  exact lv_isub b.x b.b hd (k p l e R s m args below meth c D cA B ad ad0 L0 H locs cells slots ls (b.stk (okc okI (okt (okt b.so)))))
theorem V_imul {x y : Int32} (hd : decode M.2.1 pc = .ok (.imul, 1)) (k : V σ M d bc bs (pc + 1) lv (aI (x * y) :: st) h P) : V σ M d bc bs pc lv (aI y :: aI x :: st) h P := by
  intro p l e R s m args below meth c D cA B ad ad0 L0 H locs cells slots ls b
  exact lv_imul b.x b.b hd (k p l e R s m args below meth c D cA B ad ad0 L0 H locs cells slots ls (b.stk (okc okI (okt (okt b.so)))))
theorem V_iand {x y : Int32} (hd : decode M.2.1 pc = .ok (.iand, 1)) (k : V σ M d bc bs (pc + 1) lv (aI (x &&& y) :: st) h P) : V σ M d bc bs pc lv (aI y :: aI x :: st) h P := by
  intro p l e R s m args below meth c D cA B ad ad0 L0 H locs cells slots ls b
  exact lv_iand b.x b.b hd (k p l e R s m args below meth c D cA B ad ad0 L0 H locs cells slots ls (b.stk (okc okI (okt (okt b.so)))))
theorem V_ior {x y : Int32} (hd : decode M.2.1 pc = .ok (.ior, 1)) (k : V σ M d bc bs (pc + 1) lv (aI (x ||| y) :: st) h P) : V σ M d bc bs pc lv (aI y :: aI x :: st) h P := by
  intro p l e R s m args below meth c D cA B ad ad0 L0 H locs cells slots ls b
  exact lv_ior b.x b.b hd (k p l e R s m args below meth c D cA B ad ad0 L0 H locs cells slots ls (b.stk (okc okI (okt (okt b.so)))))
theorem V_ishl {x y : Int32} (hd : decode M.2.1 pc = .ok (.ishl, 1)) (k : V σ M d bc bs (pc + 1) lv (aI (x <<< (y &&& 31)) :: st) h P) : V σ M d bc bs pc lv (aI y :: aI x :: st) h P := by
  intro p l e R s m args below meth c D cA B ad ad0 L0 H locs cells slots ls b
  exact lv_ishl b.x b.b hd (k p l e R s m args below meth c D cA B ad ad0 L0 H locs cells slots ls (b.stk (okc okI (okt (okt b.so)))))
theorem V_ishr {x y : Int32} (hd : decode M.2.1 pc = .ok (.ishr, 1)) (k : V σ M d bc bs (pc + 1) lv (aI (x >>> (y &&& 31)) :: st) h P) : V σ M d bc bs pc lv (aI y :: aI x :: st) h P := by
  intro p l e R s m args below meth c D cA B ad ad0 L0 H locs cells slots ls b
  exact lv_ishr b.x b.b hd (k p l e R s m args below meth c D cA B ad ad0 L0 H locs cells slots ls (b.stk (okc okI (okt (okt b.so)))))
theorem V_iushr {x y : Int32} (hd : decode M.2.1 pc = .ok (.iushr, 1)) (k : V σ M d bc bs (pc + 1) lv (aI ((x.toUInt32 >>> (y.toUInt32 &&& Int32.toUInt32 31)).toInt32) :: st) h P) : V σ M d bc bs pc lv (aI y :: aI x :: st) h P := by
  intro p l e R s m args below meth c D cA B ad ad0 L0 H locs cells slots ls b
  exact lv_iushr b.x b.b hd rfl (k p l e R s m args below meth c D cA B ad ad0 L0 H locs cells slots ls (b.stk (okc okI (okt (okt b.so)))))
theorem V_idiv {x y : Int32} (hd : decode M.2.1 pc = .ok (.idiv, 1)) (hne : ¬ y = 0) (k : V σ M d bc bs (pc + 1) lv (aI (x / y) :: st) h P) : V σ M d bc bs pc lv (aI y :: aI x :: st) h P := by
  intro p l e R s m args below meth c D cA B ad ad0 L0 H locs cells slots ls b
  exact lv_idiv b.x b.b hd hne (k p l e R s m args below meth c D cA B ad ad0 L0 H locs cells slots ls (b.stk (okc okI (okt (okt b.so)))))
theorem V_irem {x y : Int32} (hd : decode M.2.1 pc = .ok (.irem, 1)) (hne : ¬ y = 0) (k : V σ M d bc bs (pc + 1) lv (aI (x - x / y * y) :: st) h P) : V σ M d bc bs pc lv (aI y :: aI x :: st) h P := by
  intro p l e R s m args below meth c D cA B ad ad0 L0 H locs cells slots ls b
  exact lv_irem b.x b.b hd hne (k p l e R s m args below meth c D cA B ad ad0 L0 H locs cells slots ls (b.stk (okc okI (okt (okt b.so)))))
theorem V_ineg {x : Int32} (hd : decode M.2.1 pc = .ok (.ineg, 1)) (k : V σ M d bc bs (pc + 1) lv (aI (-x) :: st) h P) : V σ M d bc bs pc lv (aI x :: st) h P := by
  intro p l e R s m args below meth c D cA B ad ad0 L0 H locs cells slots ls b
  exact lv_ineg b.x b.b hd (k p l e R s m args below meth c D cA B ad ad0 L0 H locs cells slots ls (b.stk (okc okI (okt b.so))))
theorem V_i2b {x : Int32} (hd : decode M.2.1 pc = .ok (.i2b, 1)) (k : V σ M d bc bs (pc + 1) lv (aI (x.toInt8.toInt32) :: st) h P) : V σ M d bc bs pc lv (aI x :: st) h P := by
  intro p l e R s m args below meth c D cA B ad ad0 L0 H locs cells slots ls b
  exact lv_i2b b.x b.b hd rfl (k p l e R s m args below meth c D cA B ad ad0 L0 H locs cells slots ls (b.stk (okc okI (okt b.so))))
theorem V_i2l {x : Int32} (hd : decode M.2.1 pc = .ok (.i2l, 1)) (k : V σ M d bc bs (pc + 1) lv (aL (x.toInt64) :: st) h P) : V σ M d bc bs pc lv (aI x :: st) h P := by
  intro p l e R s m args below meth c D cA B ad ad0 L0 H locs cells slots ls b
  exact lv_i2l b.x b.b hd rfl (k p l e R s m args below meth c D cA B ad ad0 L0 H locs cells slots ls (b.stk (okc okLg (okt b.so))))
theorem V_lshl {x : Int64} {y : Int32} (hd : decode M.2.1 pc = .ok (.lshl, 1)) (k : V σ M d bc bs (pc + 1) lv (aL (x <<< (y.toInt64 &&& 63)) :: st) h P) : V σ M d bc bs pc lv (aI y :: aL x :: st) h P := by
  intro p l e R s m args below meth c D cA B ad ad0 L0 H locs cells slots ls b
  exact lv_lshl b.x b.b hd rfl (k p l e R s m args below meth c D cA B ad ad0 L0 H locs cells slots ls (b.stk (okc okLg (okt (okt b.so)))))
theorem V_lor {x y : Int64} (hd : decode M.2.1 pc = .ok (.lor, 1)) (k : V σ M d bc bs (pc + 1) lv (aL (x ||| y) :: st) h P) : V σ M d bc bs pc lv (aL y :: aL x :: st) h P := by
  intro p l e R s m args below meth c D cA B ad ad0 L0 H locs cells slots ls b
  exact lv_lor b.x b.b hd (k p l e R s m args below meth c D cA B ad ad0 L0 H locs cells slots ls (b.stk (okc okLg (okt (okt b.so)))))
theorem V_lcmp {x y : Int64} (hd : decode M.2.1 pc = .ok (.lcmp, 1)) (k : V σ M d bc bs (pc + 1) lv (aI (lg_cmp x y) :: st) h P) : V σ M d bc bs pc lv (aL y :: aL x :: st) h P := by
  intro p l e R s m args below meth c D cA B ad ad0 L0 H locs cells slots ls b
  exact W.lcmp b.x b.b hd (k p l e R s m args below meth c D cA B ad ad0 L0 H locs cells slots ls (b.stk (okc okI (okt (okt b.so)))))
theorem V_if_eq {x : Int32} {off : Int} (tgt : Nat) (hd : decode M.2.1 pc = .ok (.ifCond .eq off, 3)) (ht : (pc : Int) + off = (tgt : Int)) (k : (x = 0 → V σ M d bc bs tgt lv st h P) ∧ (¬ x = 0 → V σ M d bc bs (pc + 3) lv st h P)) : V σ M d bc bs pc lv (aI x :: st) h P := by
  intro p l e R s m args below meth c D cA B ad ad0 L0 H locs cells slots ls b
  exact lv_if_eq b.x b.b hd ht (fun z => k.1 z p l e R s m args below meth c D cA B ad ad0 L0 H locs cells slots ls (b.stk (okt b.so))) (fun z => k.2 z p l e R s m args below meth c D cA B ad ad0 L0 H locs cells slots ls (b.stk (okt b.so)))
theorem V_icmp_eq {x y : Int32} {off : Int} (tgt : Nat) (hd : decode M.2.1 pc = .ok (.if_icmp .eq off, 3)) (ht : (pc : Int) + off = (tgt : Int)) (k : (x = y → V σ M d bc bs tgt lv st h P) ∧ (¬ x = y → V σ M d bc bs (pc + 3) lv st h P)) : V σ M d bc bs pc lv (aI y :: aI x :: st) h P := by
  intro p l e R s m args below meth c D cA B ad ad0 L0 H locs cells slots ls b
  exact lv_icmp_eq b.x b.b hd ht (fun z => k.1 z p l e R s m args below meth c D cA B ad ad0 L0 H locs cells slots ls (b.stk (okt (okt b.so)))) (fun z => k.2 z p l e R s m args below meth c D cA B ad ad0 L0 H locs cells slots ls (b.stk (okt (okt b.so))))
theorem V_if_ne {x : Int32} {off : Int} (tgt : Nat) (hd : decode M.2.1 pc = .ok (.ifCond .ne off, 3)) (ht : (pc : Int) + off = (tgt : Int)) (k : (¬ x = 0 → V σ M d bc bs tgt lv st h P) ∧ (x = 0 → V σ M d bc bs (pc + 3) lv st h P)) : V σ M d bc bs pc lv (aI x :: st) h P := by
  intro p l e R s m args below meth c D cA B ad ad0 L0 H locs cells slots ls b
  exact lv_if_ne b.x b.b hd ht (fun z => k.1 z p l e R s m args below meth c D cA B ad ad0 L0 H locs cells slots ls (b.stk (okt b.so))) (fun z => k.2 z p l e R s m args below meth c D cA B ad ad0 L0 H locs cells slots ls (b.stk (okt b.so)))
theorem V_icmp_ne {x y : Int32} {off : Int} (tgt : Nat) (hd : decode M.2.1 pc = .ok (.if_icmp .ne off, 3)) (ht : (pc : Int) + off = (tgt : Int)) (k : (¬ x = y → V σ M d bc bs tgt lv st h P) ∧ (x = y → V σ M d bc bs (pc + 3) lv st h P)) : V σ M d bc bs pc lv (aI y :: aI x :: st) h P := by
  intro p l e R s m args below meth c D cA B ad ad0 L0 H locs cells slots ls b
  exact lv_icmp_ne b.x b.b hd ht (fun z => k.1 z p l e R s m args below meth c D cA B ad ad0 L0 H locs cells slots ls (b.stk (okt (okt b.so)))) (fun z => k.2 z p l e R s m args below meth c D cA B ad ad0 L0 H locs cells slots ls (b.stk (okt (okt b.so))))
theorem V_if_lt {x : Int32} {off : Int} (tgt : Nat) (hd : decode M.2.1 pc = .ok (.ifCond .lt off, 3)) (ht : (pc : Int) + off = (tgt : Int)) (k : (x < 0 → V σ M d bc bs tgt lv st h P) ∧ (¬ x < 0 → V σ M d bc bs (pc + 3) lv st h P)) : V σ M d bc bs pc lv (aI x :: st) h P := by
  intro p l e R s m args below meth c D cA B ad ad0 L0 H locs cells slots ls b
  exact lv_if_lt b.x b.b hd ht (fun z => k.1 z p l e R s m args below meth c D cA B ad ad0 L0 H locs cells slots ls (b.stk (okt b.so))) (fun z => k.2 z p l e R s m args below meth c D cA B ad ad0 L0 H locs cells slots ls (b.stk (okt b.so)))
theorem V_icmp_lt {x y : Int32} {off : Int} (tgt : Nat) (hd : decode M.2.1 pc = .ok (.if_icmp .lt off, 3)) (ht : (pc : Int) + off = (tgt : Int)) (k : (x < y → V σ M d bc bs tgt lv st h P) ∧ (¬ x < y → V σ M d bc bs (pc + 3) lv st h P)) : V σ M d bc bs pc lv (aI y :: aI x :: st) h P := by
  intro p l e R s m args below meth c D cA B ad ad0 L0 H locs cells slots ls b
  exact lv_icmp_lt b.x b.b hd ht (fun z => k.1 z p l e R s m args below meth c D cA B ad ad0 L0 H locs cells slots ls (b.stk (okt (okt b.so)))) (fun z => k.2 z p l e R s m args below meth c D cA B ad ad0 L0 H locs cells slots ls (b.stk (okt (okt b.so))))
theorem V_if_ge {x : Int32} {off : Int} (tgt : Nat) (hd : decode M.2.1 pc = .ok (.ifCond .ge off, 3)) (ht : (pc : Int) + off = (tgt : Int)) (k : (0 ≤ x → V σ M d bc bs tgt lv st h P) ∧ (¬ 0 ≤ x → V σ M d bc bs (pc + 3) lv st h P)) : V σ M d bc bs pc lv (aI x :: st) h P := by
  intro p l e R s m args below meth c D cA B ad ad0 L0 H locs cells slots ls b
  exact lv_if_ge b.x b.b hd ht (fun z => k.1 z p l e R s m args below meth c D cA B ad ad0 L0 H locs cells slots ls (b.stk (okt b.so))) (fun z => k.2 z p l e R s m args below meth c D cA B ad ad0 L0 H locs cells slots ls (b.stk (okt b.so)))
theorem V_icmp_ge {x y : Int32} {off : Int} (tgt : Nat) (hd : decode M.2.1 pc = .ok (.if_icmp .ge off, 3)) (ht : (pc : Int) + off = (tgt : Int)) (k : (y ≤ x → V σ M d bc bs tgt lv st h P) ∧ (¬ y ≤ x → V σ M d bc bs (pc + 3) lv st h P)) : V σ M d bc bs pc lv (aI y :: aI x :: st) h P := by
  intro p l e R s m args below meth c D cA B ad ad0 L0 H locs cells slots ls b
  exact lv_icmp_ge b.x b.b hd ht (fun z => k.1 z p l e R s m args below meth c D cA B ad ad0 L0 H locs cells slots ls (b.stk (okt (okt b.so)))) (fun z => k.2 z p l e R s m args below meth c D cA B ad ad0 L0 H locs cells slots ls (b.stk (okt (okt b.so))))
theorem V_if_gt {x : Int32} {off : Int} (tgt : Nat) (hd : decode M.2.1 pc = .ok (.ifCond .gt off, 3)) (ht : (pc : Int) + off = (tgt : Int)) (k : (0 < x → V σ M d bc bs tgt lv st h P) ∧ (¬ 0 < x → V σ M d bc bs (pc + 3) lv st h P)) : V σ M d bc bs pc lv (aI x :: st) h P := by
  intro p l e R s m args below meth c D cA B ad ad0 L0 H locs cells slots ls b
  exact lv_if_gt b.x b.b hd ht (fun z => k.1 z p l e R s m args below meth c D cA B ad ad0 L0 H locs cells slots ls (b.stk (okt b.so))) (fun z => k.2 z p l e R s m args below meth c D cA B ad ad0 L0 H locs cells slots ls (b.stk (okt b.so)))
theorem V_icmp_gt {x y : Int32} {off : Int} (tgt : Nat) (hd : decode M.2.1 pc = .ok (.if_icmp .gt off, 3)) (ht : (pc : Int) + off = (tgt : Int)) (k : (y < x → V σ M d bc bs tgt lv st h P) ∧ (¬ y < x → V σ M d bc bs (pc + 3) lv st h P)) : V σ M d bc bs pc lv (aI y :: aI x :: st) h P := by
  intro p l e R s m args below meth c D cA B ad ad0 L0 H locs cells slots ls b
  exact lv_icmp_gt b.x b.b hd ht (fun z => k.1 z p l e R s m args below meth c D cA B ad ad0 L0 H locs cells slots ls (b.stk (okt (okt b.so)))) (fun z => k.2 z p l e R s m args below meth c D cA B ad ad0 L0 H locs cells slots ls (b.stk (okt (okt b.so))))
theorem V_if_le {x : Int32} {off : Int} (tgt : Nat) (hd : decode M.2.1 pc = .ok (.ifCond .le off, 3)) (ht : (pc : Int) + off = (tgt : Int)) (k : (x ≤ 0 → V σ M d bc bs tgt lv st h P) ∧ (¬ x ≤ 0 → V σ M d bc bs (pc + 3) lv st h P)) : V σ M d bc bs pc lv (aI x :: st) h P := by
  intro p l e R s m args below meth c D cA B ad ad0 L0 H locs cells slots ls b
  exact lv_if_le b.x b.b hd ht (fun z => k.1 z p l e R s m args below meth c D cA B ad ad0 L0 H locs cells slots ls (b.stk (okt b.so))) (fun z => k.2 z p l e R s m args below meth c D cA B ad ad0 L0 H locs cells slots ls (b.stk (okt b.so)))
theorem V_icmp_le {x y : Int32} {off : Int} (tgt : Nat) (hd : decode M.2.1 pc = .ok (.if_icmp .le off, 3)) (ht : (pc : Int) + off = (tgt : Int)) (k : (x ≤ y → V σ M d bc bs tgt lv st h P) ∧ (¬ x ≤ y → V σ M d bc bs (pc + 3) lv st h P)) : V σ M d bc bs pc lv (aI y :: aI x :: st) h P := by
  intro p l e R s m args below meth c D cA B ad ad0 L0 H locs cells slots ls b
  exact lv_icmp_le b.x b.b hd ht (fun z => k.1 z p l e R s m args below meth c D cA B ad ad0 L0 H locs cells slots ls (b.stk (okt (okt b.so)))) (fun z => k.2 z p l e R s m args below meth c D cA B ad ad0 L0 H locs cells slots ls (b.stk (okt (okt b.so))))
theorem V_goto {off : Int} (tgt : Nat) (hd : decode M.2.1 pc = .ok (.goto off, 3)) (ht : (pc : Int) + off = (tgt : Int)) (k : V σ M d bc bs tgt lv st h P) : V σ M d bc bs pc lv st h P := by
  intro p l e R s m args below meth c D cA B ad ad0 L0 H locs cells slots ls b
  exact lv_goto b.x b.b hd ht (k p l e R s m args below meth c D cA B ad ad0 L0 H locs cells slots ls b)
theorem ct1 {ad : PT → Nat} {v : AV} (hv : ct v = 1) : (vl ad v).category = 1 := by
  match v, hv with
  | .inl x, _ => rfl
  | .inr (.inr none), _ => rfl
  | .inr (.inr (some q)), _ => rfl
theorem ctv {ad : PT → Nat} (v : AV) : (vl ad v).category = ct v := by
  match v with
  | .inl x => rfl
  | .inr (.inl x) => rfl
  | .inr (.inr none) => rfl
  | .inr (.inr (some q)) => rfl
theorem V_dup {v : AV} (hd : decode M.2.1 pc = .ok (.dup, 1)) (hv : ct v = 1) (k : V σ M d bc bs (pc + 1) lv (v :: v :: st) h P) : V σ M d bc bs pc lv (v :: st) h P := by
  intro p l e R s m args below meth c D cA B ad ad0 L0 H locs cells slots ls b
  exact lv_dup b.x b.b hd (ct1 hv) (k p l e R s m args below meth c D cA B ad ad0 L0 H locs cells slots ls (b.stk (okc (okh b.so) b.so)))
theorem V_pop {v : AV} (hd : decode M.2.1 pc = .ok (.pop, 1)) (hv : ct v = 1) (k : V σ M d bc bs (pc + 1) lv (st) h P) : V σ M d bc bs pc lv (v :: st) h P := by
  intro p l e R s m args below meth c D cA B ad ad0 L0 H locs cells slots ls b
  exact lv_pop b.x b.b hd (ct1 hv) (k p l e R s m args below meth c D cA B ad ad0 L0 H locs cells slots ls (b.stk (okt b.so)))
theorem V_dup2 {v w : AV} (hd : decode M.2.1 pc = .ok (.dup2, 1)) (hv : ct v = 1) (hw : ct w = 1) (k : V σ M d bc bs (pc + 1) lv (v :: w :: v :: w :: st) h P) : V σ M d bc bs pc lv (v :: w :: st) h P := by
  intro p l e R s m args below meth c D cA B ad ad0 L0 H locs cells slots ls b
  exact lv_dup2_11 b.x b.b hd (ct1 hv) (ct1 hw) (k p l e R s m args below meth c D cA B ad ad0 L0 H locs cells slots ls (b.stk (okc (okh b.so) (okc (okh (okt b.so)) b.so))))
theorem V_dup_x1 {v w : AV} (hd : decode M.2.1 pc = .ok (.dup_x1, 1)) (hv : ct v = 1) (hw : ct w = 1) (k : V σ M d bc bs (pc + 1) lv (v :: w :: v :: st) h P) : V σ M d bc bs pc lv (v :: w :: st) h P := by
  intro p l e R s m args below meth c D cA B ad ad0 L0 H locs cells slots ls b
  exact lv_dup_x1 b.x b.b hd (ct1 hv) (ct1 hw) (k p l e R s m args below meth c D cA B ad ad0 L0 H locs cells slots ls (b.stk (okc (okh b.so) (okc (okh (okt b.so)) (okc (okh b.so) (okt (okt b.so)))))))
theorem V_dup_x2 {v w u : AV} (hd : decode M.2.1 pc = .ok (.dup_x2, 1)) (hv : ct v = 1) (hw : ct w = 1) (hu : ct u = 1) (k : V σ M d bc bs (pc + 1) lv (v :: w :: u :: v :: st) h P) : V σ M d bc bs pc lv (v :: w :: u :: st) h P := by
  intro p l e R s m args below meth c D cA B ad ad0 L0 H locs cells slots ls b
  exact lv_dup_x2 b.x b.b hd (ct1 hv) (ct1 hw) (ct1 hu) (k p l e R s m args below meth c D cA B ad ad0 L0 H locs cells slots ls (b.stk (okc (okh b.so) (okc (okh (okt b.so)) (okc (okh (okt (okt b.so))) (okc (okh b.so) (okt (okt (okt b.so)))))))))
def lg (lv : List (Nat × AV)) (i : Nat) : Option AV := lv.lookup i
theorem lg_mem {i : Nat} {v : AV} : ∀ {lv : List (Nat × AV)}, lv.lookup i = some v → (i, v) ∈ lv
  | [], h => by cases h
  | (j, w) :: t, h => by
    rw [List.lookup_cons] at h
    by_cases e : i = j
    · subst e
      simp at h
      subst h
      exact List.mem_cons_self
    · have e2 : (i == j) = false := by simp [e]
      rw [e2] at h
      exact List.mem_cons_of_mem _ (lg_mem h)
theorem lg_at {ad : PT → Nat} {ls : Array Slot} {nL i : Nat} {v : AV} (hl : lv_has ls nL (lvm ad lv)) (hg : lg lv i = some v) : ls[i]? = some (.val (vl ad v)) :=
  hl.2.2 (i, vl ad v) (List.mem_map.mpr ⟨(i, v), lg_mem hg, rfl⟩)
theorem lg_ok {i : Nat} {v : AV} (ho : ∀ q ∈ lv, okV h q.2) (hg : lg lv i = some v) : okV h v := ho (i, v) (lg_mem hg)
theorem V_iload_n {n : Fin 4} (i : Nat) {x : Int32} (hd : decode M.2.1 pc = .ok (.iload_n n, 1)) (hi : (n : Nat) = i) (hg : lg lv i = some (aI x)) (k : V σ M d bc bs (pc + 1) lv (aI x :: st) h P) : V σ M d bc bs pc lv st h P := by
  intro p l e R s m args below meth c D cA B ad ad0 L0 H locs cells slots ls b
  exact lv_iload_n b.x b.b hd hi (lg_at b.lh hg) (k p l e R s m args below meth c D cA B ad ad0 L0 H locs cells slots ls (b.stk (okc okI b.so)))
theorem V_lload_n {n : Fin 4} (i : Nat) {x : Int64} (hd : decode M.2.1 pc = .ok (.lload_n n, 1)) (hi : (n : Nat) = i) (hg : lg lv i = some (aL x)) (k : V σ M d bc bs (pc + 1) lv (aL x :: st) h P) : V σ M d bc bs pc lv st h P := by
  intro p l e R s m args below meth c D cA B ad ad0 L0 H locs cells slots ls b
  exact lv_lload_n b.x b.b hd hi (lg_at b.lh hg) (k p l e R s m args below meth c D cA B ad ad0 L0 H locs cells slots ls (b.stk (okc okLg b.so)))
theorem V_aload_n {n : Fin 4} (i : Nat) {r : Option PT} (hd : decode M.2.1 pc = .ok (.aload_n n, 1)) (hi : (n : Nat) = i) (hg : lg lv i = some (aP r)) (k : V σ M d bc bs (pc + 1) lv (aP r :: st) h P) : V σ M d bc bs pc lv st h P := by
  intro p l e R s m args below meth c D cA B ad ad0 L0 H locs cells slots ls b
  have b2 := b.stk (okc (lg_ok b.lo hg) b.so)
  cases r with
  | none => exact lv_aload_nN b.x b.b hd hi (lg_at b.lh hg) (k p l e R s m args below meth c D cA B ad ad0 L0 H locs cells slots ls b2)
  | some q => exact lv_aload_n b.x b.b hd hi (lg_at b.lh hg) (k p l e R s m args below meth c D cA B ad ad0 L0 H locs cells slots ls b2)
theorem V_iload (i : Nat) {x : Int32} (hd : decode M.2.1 pc = .ok (.iload i, 2)) (hg : lg lv i = some (aI x)) (k : V σ M d bc bs (pc + 2) lv (aI x :: st) h P) : V σ M d bc bs pc lv st h P := by
  intro p l e R s m args below meth c D cA B ad ad0 L0 H locs cells slots ls b
  exact lv_iload b.x b.b hd (lg_at b.lh hg) (k p l e R s m args below meth c D cA B ad ad0 L0 H locs cells slots ls (b.stk (okc okI b.so)))
theorem V_lload (i : Nat) {x : Int64} (hd : decode M.2.1 pc = .ok (.lload i, 2)) (hg : lg lv i = some (aL x)) (k : V σ M d bc bs (pc + 2) lv (aL x :: st) h P) : V σ M d bc bs pc lv st h P := by
  intro p l e R s m args below meth c D cA B ad ad0 L0 H locs cells slots ls b
  exact lv_lload b.x b.b hd (lg_at b.lh hg) (k p l e R s m args below meth c D cA B ad ad0 L0 H locs cells slots ls (b.stk (okc okLg b.so)))
theorem V_aload (i : Nat) {r : Option PT} (hd : decode M.2.1 pc = .ok (.aload i, 2)) (hg : lg lv i = some (aP r)) (k : V σ M d bc bs (pc + 2) lv (aP r :: st) h P) : V σ M d bc bs pc lv st h P := by
  intro p l e R s m args below meth c D cA B ad ad0 L0 H locs cells slots ls b
  have b2 := b.stk (okc (lg_ok b.lo hg) b.so)
  cases r with
  | none => exact lv_aloadN b.x b.b hd (lg_at b.lh hg) (k p l e R s m args below meth c D cA B ad ad0 L0 H locs cells slots ls b2)
  | some q => exact lv_aload b.x b.b hd (lg_at b.lh hg) (k p l e R s m args below meth c D cA B ad ad0 L0 H locs cells slots ls b2)
def lpS (lv : List (Nat × AV)) (i : Nat) (v : AV) : List (Nat × AV) := (i, v) :: lv.filter (fun q => !(q.1 == i) && !(q.1 + 1 == i && ct q.2 == 2))
def lpD (lv : List (Nat × AV)) (i : Nat) (v : AV) : List (Nat × AV) := (i, v) :: lv.filter (fun q => !(q.1 == i) && (!(q.1 == i + 1) && !(q.1 + 1 == i && ct q.2 == 2)))
theorem lpS_eq {ad : PT → Nat} {i : Nat} {v : AV} : (i, vl ad v) :: (lvm ad lv).filter (fun q => !(q.1 == i) && !(q.1 + 1 == i && q.2.category == 2)) = lvm ad (lpS lv i v) := by
  simp only [lvm, lpS, List.map_cons, List.filter_map]
  congr 2
  apply List.filter_congr
  intro q _
  simp [ctv]
theorem lpD_eq {ad : PT → Nat} {i : Nat} {v : AV} : (i, vl ad v) :: (lvm ad lv).filter (fun q => !(q.1 == i) && (!(q.1 == i + 1) && !(q.1 + 1 == i && q.2.category == 2))) = lvm ad (lpD lv i v) := by
  simp only [lvm, lp2, List.map_cons, List.filter_map]
  congr 2
  apply List.filter_congr
  intro q _
  simp [ctv]
theorem lpS_ok {i : Nat} {v : AV} (hv : okV h v) (ho : ∀ q ∈ lv, okV h q.2) : ∀ q ∈ lpS lv i v, okV h q.2 := fun q hq => (List.mem_cons.mp hq).elim (fun e => by rw [e]; exact hv) (fun hq => ho q (List.mem_filter.mp hq).1)
theorem lpD_ok {i : Nat} {v : AV} (hv : okV h v) (ho : ∀ q ∈ lv, okV h q.2) : ∀ q ∈ lpD lv i v, okV h q.2 := fun q hq => (List.mem_cons.mp hq).elim (fun e => by rw [e]; exact hv) (fun hq => ho q (List.mem_filter.mp hq).1)
theorem V_istore_n {n : Fin 4} (i : Nat) {x : Int32} (hd : decode M.2.1 pc = .ok (.istore_n n, 1)) (hi : (n : Nat) = i) (hn : i < M.2.2.1) {lv2 : List (Nat × AV)} (he : lpS lv i (aI x) = lv2) (k : V σ M d bc bs (pc + 1) lv2 st h P) : V σ M d bc bs pc lv (aI x :: st) h P := by
  subst he
  intro p l e R s m args below meth c D cA B ad ad0 L0 H locs cells slots ls b
  exact lv_istore_n b.x b.b hd hi b.lh hn (lpS_eq (v := aI x)) (fun ls2 hl2 => k p l e R s m args below meth c D cA B ad ad0 L0 H locs cells slots ls2 (b.lst (okt b.so) hl2 (lpS_ok okI b.lo)))
theorem V_lstore_n {n : Fin 4} (i : Nat) {x : Int64} (hd : decode M.2.1 pc = .ok (.lstore_n n, 1)) (hi : (n : Nat) = i) (hn : i + 1 < M.2.2.1) {lv2 : List (Nat × AV)} (he : lpD lv i (aL x) = lv2) (k : V σ M d bc bs (pc + 1) lv2 st h P) : V σ M d bc bs pc lv (aL x :: st) h P := by
  subst he
  intro p l e R s m args below meth c D cA B ad ad0 L0 H locs cells slots ls b
  exact lv_lstore_n b.x b.b hd hi b.lh hn (lpD_eq (v := aL x)) (fun ls2 hl2 => k p l e R s m args below meth c D cA B ad ad0 L0 H locs cells slots ls2 (b.lst (okt b.so) hl2 (lpD_ok okLg b.lo)))
theorem V_astore_n {n : Fin 4} (i : Nat) {r : Option PT} (hd : decode M.2.1 pc = .ok (.astore_n n, 1)) (hi : (n : Nat) = i) (hn : i < M.2.2.1) {lv2 : List (Nat × AV)} (he : lpS lv i (aP r) = lv2) (k : V σ M d bc bs (pc + 1) lv2 st h P) : V σ M d bc bs pc lv (aP r :: st) h P := by
  subst he
  intro p l e R s m args below meth c D cA B ad ad0 L0 H locs cells slots ls b
  have hk := fun ls2 hl2 => k p l e R s m args below meth c D cA B ad ad0 L0 H locs cells slots ls2 (b.lst (okt b.so) hl2 (lpS_ok (okh b.so) b.lo))
  cases r with
  | none => exact lv_astore_nN b.x b.b hd hi b.lh hn (lpS_eq (v := aP none)) hk
  | some q => exact lv_astore_n b.x b.b hd hi b.lh hn (lpS_eq (v := aP (some q))) hk
theorem V_istore (i : Nat) {x : Int32} (hd : decode M.2.1 pc = .ok (.istore i, 2)) (hn : i < M.2.2.1) {lv2 : List (Nat × AV)} (he : lpS lv i (aI x) = lv2) (k : V σ M d bc bs (pc + 2) lv2 st h P) : V σ M d bc bs pc lv (aI x :: st) h P := by
  subst he
  intro p l e R s m args below meth c D cA B ad ad0 L0 H locs cells slots ls b
  exact lv_istore b.x b.b hd b.lh hn (lpS_eq (v := aI x)) (fun ls2 hl2 => k p l e R s m args below meth c D cA B ad ad0 L0 H locs cells slots ls2 (b.lst (okt b.so) hl2 (lpS_ok okI b.lo)))
theorem V_lstore (i : Nat) {x : Int64} (hd : decode M.2.1 pc = .ok (.lstore i, 2)) (hn : i + 1 < M.2.2.1) {lv2 : List (Nat × AV)} (he : lpD lv i (aL x) = lv2) (k : V σ M d bc bs (pc + 2) lv2 st h P) : V σ M d bc bs pc lv (aL x :: st) h P := by
  subst he
  intro p l e R s m args below meth c D cA B ad ad0 L0 H locs cells slots ls b
  exact lv_lstore b.x b.b hd b.lh hn (lpD_eq (v := aL x)) (fun ls2 hl2 => k p l e R s m args below meth c D cA B ad ad0 L0 H locs cells slots ls2 (b.lst (okt b.so) hl2 (lpD_ok okLg b.lo)))
theorem V_astore (i : Nat) {r : Option PT} (hd : decode M.2.1 pc = .ok (.astore i, 2)) (hn : i < M.2.2.1) {lv2 : List (Nat × AV)} (he : lpS lv i (aP r) = lv2) (k : V σ M d bc bs (pc + 2) lv2 st h P) : V σ M d bc bs pc lv (aP r :: st) h P := by
  subst he
  intro p l e R s m args below meth c D cA B ad ad0 L0 H locs cells slots ls b
  have hk := fun ls2 hl2 => k p l e R s m args below meth c D cA B ad ad0 L0 H locs cells slots ls2 (b.lst (okt b.so) hl2 (lpS_ok (okh b.so) b.lo))
  cases r with
  | none => exact lv_astoreN b.x b.b hd b.lh hn (lpS_eq (v := aP none)) hk
  | some q => exact lv_astore b.x b.b hd b.lh hn (lpS_eq (v := aP (some q))) hk
theorem V_iinc (i : Nat) {n : Int} {x v : Int32} (hd : decode M.2.1 pc = .ok (.iinc i n, 3)) (hg : lg lv i = some (aI x)) (hv : x + Int32.ofInt n = v) (hn : i < M.2.2.1) {lv2 : List (Nat × AV)} (he : lpS lv i (aI v) = lv2) (k : V σ M d bc bs (pc + 3) lv2 st h P) : V σ M d bc bs pc lv st h P := by
  subst he
  intro p l e R s m args below meth c D cA B ad ad0 L0 H locs cells slots ls b
  have hm : (i, Value.int x) ∈ lvm ad lv := List.mem_map.mpr ⟨(i, aI x), lg_mem hg, rfl⟩
  obtain ⟨j, hj⟩ := List.getElem?_of_mem hm
  exact lv_iinc b.x b.b hd b.lh hj hv hn (lpS_eq (v := aI v)) (fun ls2 hl2 => k p l e R s m args below meth c D cA B ad ad0 L0 H locs cells slots ls2 (b.lst b.so hl2 (lpS_ok okI b.lo)))
theorem V_ldc {idx : Nat} (v : Int32) (hd : decode M.2.1 pc = .ok (.ldc idx, 2)) (hw : Cond.constant M.1.cls idx v ∈ gw) (k : V σ M d bc bs (pc + 2) lv (aI v :: st) h P) : V σ M d bc bs pc lv st h P := by
  intro p l e R s m args below meth c D cA B ad ad0 L0 H locs cells slots ls b
  exact W.ldc b.x b.b b.own (b.ts _ hw) rfl hd (k p l e R s m args below meth c D cA B ad ad0 L0 H locs cells slots ls (b.stk (okc okI b.so)))
theorem V_ldc_w {idx : Nat} (v : Int32) (hd : decode M.2.1 pc = .ok (.ldc_w idx, 3)) (hw : Cond.constant M.1.cls idx v ∈ gw) (k : V σ M d bc bs (pc + 3) lv (aI v :: st) h P) : V σ M d bc bs pc lv st h P := by
  intro p l e R s m args below meth c D cA B ad ad0 L0 H locs cells slots ls b
  exact lv_ldcw b.x b.b b.own (b.ts _ hw) hd (k p l e R s m args below meth c D cA B ad ad0 L0 H locs cells slots ls (b.stk (okc okI b.so)))
theorem V_ldc2 {idx : Nat} (v : Int64) (hd : decode M.2.1 pc = .ok (.ldc2_w idx, 3)) (hw : Cond.constantLong M.1.cls idx v ∈ gw) (k : V σ M d bc bs (pc + 3) lv (aL v :: st) h P) : V σ M d bc bs pc lv st h P := by
  intro p l e R s m args below meth c D cA B ad ad0 L0 H locs cells slots ls b
  exact W.ldc2 b.x b.b b.own (b.ts _ hw) rfl hd (k p l e R s m args below meth c D cA B ad ad0 L0 H locs cells slots ls (b.stk (okc okLg b.so)))
end VR
end
section
-- ===== entry, return, calls =====
theorem vl_cg {h : HS} {ad ad2 : PT → Nat} {v : AV} (ho : okV h v) (ha : ∀ q, okL h.2.2 q → ad2 q = ad q) : vl ad2 v = vl ad v := by
  match v, ho with
  | .inl x, _ => rfl
  | .inr (.inl x), _ => rfl
  | .inr (.inr none), _ => rfl
  | .inr (.inr (some q)), ho => simp [vl, ha q (ho q rfl)]
theorem vls_cg {h : HS} {ad ad2 : PT → Nat} (ha : ∀ q, okL h.2.2 q → ad2 q = ad q) : ∀ {st : List AV}, (∀ v ∈ st, okV h v) → st.map (vl ad2) = st.map (vl ad)
  | [], _ => rfl
  | v :: t, ho => by rw [List.map_cons, List.map_cons, vl_cg (okh ho) ha, vls_cg ha (okt ho)]
theorem lvm_cg {h : HS} {ad ad2 : PT → Nat} (ha : ∀ q, okL h.2.2 q → ad2 q = ad q) {lv : List (Nat × AV)} (ho : ∀ q ∈ lv, okV h q.2) : lvm ad2 lv = lvm ad lv := by
  unfold lvm
  refine List.map_congr_left (fun q hq => ?_)
  rw [vl_cg (ho q hq) ha]
theorem Cl.mono {σ : Bool} {M : MT} {d bc bs : Nat} {as : List AV} {h : HS} {P P2 : Option AV → HS → Prop} (hp : ∀ r h2, P r h2 → P2 r h2) (k : Cl σ M d bc bs as h P) : Cl σ M d bc bs as h P2 := by
  intro l D cA B ad
  refine MetFree.mono (k l D cA B ad) (fun _ _ z => z) (fun _ _ _ _ _ z => z) (fun a s o t _ z => ?_)
  obtain ⟨⟨r, h2, ad2, z1, z2, z3⟩, z4⟩ := z
  exact ⟨⟨r, h2, ad2, z1, hp r h2 z2, z3⟩, z4⟩
theorem V.mono {σ : Bool} {M : MT} {d bc bs pc : Nat} {lv : List (Nat × AV)} {st : List AV} {h : HS} {P P2 : Option AV → HS → Prop} (hp : ∀ r h2, P r h2 → P2 r h2) (k : V σ M d bc bs pc lv st h P) : V σ M d bc bs pc lv st h P2 := by
  intro p l e R s m args below meth c D cA B ad ad0 L0 H locs cells slots ls b T hT X
  obtain ⟨t, a1, o, z1, z2, ⟨r, h2, ad2, y1, y2, y3⟩, z4⟩ := k p l e R s m args below meth c D cA B ad ad0 L0 H locs cells slots ls b T hT X
  exact ⟨t, a1, o, z1, z2, ⟨r, h2, ad2, y1, hp r h2 y2, y3⟩, z4⟩
def la : Nat → List AV → List (Nat × AV)
  | _, [] => []
  | n, v :: t => (n, v) :: la (if ct v = 2 then n + 2 else n + 1) t
theorem la_eq (ad : PT → Nat) : ∀ (as : List AV) (n : Nat), lv_args n (as.map (vl ad)) = lvm ad (la n as)
  | [], n => rfl
  | v :: t, n => by
    show (n, vl ad v) :: lv_args (if (vl ad v).category = 2 then n + 2 else n + 1) (t.map (vl ad)) = (n, vl ad v) :: lvm ad (la (if ct v = 2 then n + 2 else n + 1) t)
    rw [ctv, la_eq ad t]
theorem la_ok {h : HS} : ∀ (as : List AV) (n : Nat), (∀ v ∈ as, okV h v) → ∀ q ∈ la n as, okV h q.2
  | [], n, _, q, hq => by cases hq
  | v :: t, n, ho, q, hq => by
    rcases List.mem_cons.mp hq with e | hq
    · rw [e]; exact okh ho
    · exact la_ok t _ (okt ho) q hq
theorem la_len (ad : PT → Nat) : ∀ (as : List AV), (lg_sl (as.map (vl ad))).length = (as.map ct).sum
  | [] => rfl
  | v :: t => by
    have ih := la_len ad t
    simp only [lg_sl, List.map_cons, List.flatMap_cons, List.length_append, List.sum_cons, ctv] at ih ⊢
    rw [ih]
    match v with
    | .inl x => rfl
    | .inr (.inl x) => rfl
    | .inr (.inr none) => rfl
    | .inr (.inr (some q)) => rfl
/-- a method's contract, out of its walk from the entry -/
theorem Cl_of {σ : Bool} {M : MT} {d bc bs : Nat} {as : List AV} {h : HS} {P : Option AV → HS → Prop} (hy : plainName M.1.cls = true) (hn : (as.map ct).sum ≤ M.2.2.1) (k : V σ M d bc bs 0 (la 0 as) [] h P) : Cl σ M d bc bs as h P := by
  intro l D cA B ad
  refine Met.ofW (cc := M.2.1) (maxL := M.2.2.1) (ret := M.2.2.2) hy rfl ?_
  intro p e s m args below meth c s₁ Bo hml hv
  obtain ⟨rfl, hB, hE, hR, hK, ho⟩ := hv
  have hts := atoms_spec (ws := Cond.code M.1 M.2.1 M.2.2.1 M.2.2.2 :: gw) Bo.pre
  have hl := lv_entry (as.map (vl ad)) (n := M.2.2.1) (by rw [la_len]; exact hn)
  rw [lg_entry_eq]
  generalize (lg_sl (as.map (vl ad)) ++ List.replicate (M.2.2.1 - (lg_sl (as.map (vl ad))).length) Slot.unset).toArray = ls at hl ⊢
  rw [la_eq] at hl
  exact k p l e _ s m _ below meth c D cA B ad ad h.2.2 s.heap [] 0 0 ls ⟨⟨Bo.exec, Bo.bytes, hml, findClass_of_methodNamed Bo.named, fun w hw => hts w (List.mem_cons_of_mem _ hw), Bo.returns, Bo.notSynchronized, (name_of_methodNamed Bo.named Bo.method).1, hK⟩, hB, hE, ⟨Nat.le_refl _, Nat.le_refl _⟩, ⟨by show 0 + bc ≤ bc; omega, by show 0 + bs ≤ bs; omega⟩, hR, va_S.rf, hl, la_ok as 0 ho, (fun v hv => by cases hv), fun q hq => ⟨rfl, hq⟩⟩
section VC
variable {σ : Bool} {M : MT} {d bc bs pc : Nat} {lv : List (Nat × AV)} {st : List AV} {h : HS} {P : Option AV → HS → Prop}
theorem V_ireturn {x : Int32} (hd : decode M.2.1 pc = .ok (.ireturn, 1)) (hr : M.2.2.2 = some .int) (k : P (some (aI x)) h) : V σ M d bc bs pc lv [aI x] h P := by
  intro p l e R s m args below meth c D cA B ad ad0 L0 H locs cells slots ls b
  refine W.widen (k := R.cells) (n := R.slots) (Nat.le_trans (Nat.le_add_right _ _) b.2.2.2.2.1.1) (Nat.le_trans (Nat.le_add_right _ _) b.2.2.2.2.1.2) ?_
  exact W.iret (v := x) b.x b.b (b.1.2.2.2.2.2.1.trans hr) (fun t ht hW => ⟨some (aI x), h, ad, rfl, k, by rw [ht]; exact b.rep, fun v e => by cases e; exact okI, b.2.2.2.2.2.2.2.2.2.2, b.S.F ht⟩) b.S.2.2 hd b.1.2.2.2.2.2.2.1
theorem V_zreturn {x : Int32} (hd : decode M.2.1 pc = .ok (.ireturn, 1)) (hr : M.2.2.2 = some .boolean) (hz : x = 0 ∨ x = 1) (k : P (some (aI x)) h) : V σ M d bc bs pc lv [aI x] h P := by
  intro p l e R s m args below meth c D cA B ad ad0 L0 H locs cells slots ls b
  refine W.widen (k := R.cells) (n := R.slots) (Nat.le_trans (Nat.le_add_right _ _) b.2.2.2.2.1.1) (Nat.le_trans (Nat.le_add_right _ _) b.2.2.2.2.1.2) ?_
  exact W.zret (v := x) b.x b.b (b.1.2.2.2.2.2.1.trans hr) (by rcases hz with rfl | rfl <;> decide +kernel) (fun t ht hW => ⟨some (aI x), h, ad, rfl, k, by rw [ht]; exact b.rep, fun v e => by cases e; exact okI, b.2.2.2.2.2.2.2.2.2.2, b.S.F ht⟩) b.S.2.2 hd b.1.2.2.2.2.2.2.1
theorem V_areturn {r : Option PT} (hd : decode M.2.1 pc = .ok (.areturn, 1)) {rt : FieldType} (hr : M.2.2.2 = some rt) (hrt : (∃ n, rt = .object n) ∨ ∃ t, rt = .array t) (k : P (some (aP r)) h) : V σ M d bc bs pc lv [aP r] h P := by
  intro p l e R s m args below meth c D cA B ad ad0 L0 H locs cells slots ls b
  refine W.widen (k := R.cells) (n := R.slots) (Nat.le_trans (Nat.le_add_right _ _) b.2.2.2.2.1.1) (Nat.le_trans (Nat.le_add_right _ _) b.2.2.2.2.1.2) ?_
  exact W.aret (v := vl ad (aP r)) b.x b.b (b.1.2.2.2.2.2.1.trans hr) hrt (va_rf_or _) (fun t ht hW => ⟨some (aP r), h, ad, rfl, k, by rw [ht]; exact b.rep, fun v e => by cases e; exact okh b.so, b.2.2.2.2.2.2.2.2.2.2, b.S.F ht⟩) b.S.2.2 hd b.1.2.2.2.2.2.2.1
theorem V_return (hd : decode M.2.1 pc = .ok (.return_, 1)) (hr : M.2.2.2 = none) (k : P none h) : V σ M d bc bs pc lv [] h P := by
  intro p l e R s m args below meth c D cA B ad ad0 L0 H locs cells slots ls b
  refine W.widen (k := R.cells) (n := R.slots) (Nat.le_trans (Nat.le_add_right _ _) b.2.2.2.2.1.1) (Nat.le_trans (Nat.le_add_right _ _) b.2.2.2.2.1.2) ?_
  exact W.vret b.x b.b (b.1.2.2.2.2.2.1.trans hr) (fun t ht hW => ⟨none, h, ad, rfl, k, by rw [ht]; exact b.rep, fun v e => (by cases e), b.2.2.2.2.2.2.2.2.2.2, b.S.F ht⟩) b.S.2.2 hd b.1.2.2.2.2.2.2.1
/-- behind a call -/
theorem V_back {M2 : MT} {mc ms : Nat} {as : List AV} {p : Program} {l : Launch} {e : Env} {R : Room} {s : State} {m : MethodId} {args : Array Value} {below : List Frame} {meth : Method} {c : Code} {D : va_G} {cA : FieldType → ClassId} {B : Nat} {ad ad0 : PT → Nat} {L0 : List PT} {H : Heap} {locs : List Loc} {cells slots : Nat} {ls : Array Slot} {st0 : List AV} {sv : List Value} {av : Array Value}
    (hm : mc ≤ bc) (hs : ms ≤ bs) (b : Bd σ M d bc bs lv st0 h p R s m args meth c D cA B ad ad0 L0 H locs cells slots ls) (ho : ∀ v ∈ st, okV h v)
    (hr : va_Run p l e R s m args below meth c H locs cells slots mc ms (F0 m pc ls sv) (st.map (vl ad)) (QM σ D cA B ad h.2.2 (fun r h2 => V σ M d (bc - mc) (bs - ms) (pc + 3) lv (r.toList ++ st) h2 P) av) (fun q => B ≤ q)) :
    W p l e R s m args below meth c H locs cells slots (MQ below (QM σ D cA B ad0 L0 P) args s R.cells R.slots (fun q => B ≤ q)) (F0 m pc ls sv) := by
  intro T hT X
  obtain ⟨v, st₀, t, T', L, h0, X', hL, e1, e2, ⟨r, h2, ad2, z1, z2, z3, z4, z5, z6⟩, go⟩ := hr T hT X
  have hv : v = r.map (vl ad2) := by cases z1; rfl
  obtain ⟨hz, hk⟩ := z6
  rw [h0] at hz hk
  obtain ⟨b1, b2, b3, b4, b5, b6, b7, b8, b9, b10, b11⟩ := b
  have ha : ∀ q, okL h.2.2 q → ad2 q = ad q := fun q hq => (z5 q hq).1
  have up : ∀ {v : AV}, okV h v → okV h2 v := fun hv q e => (z5 q (hv q e)).2
  have est : (r.toList ++ st).map (vl ad2) = v.toList ++ st.map (vl ad) := by
    rw [List.map_append, vls_cg ha ho, hv]
    cases r <;> rfl
  have b' : Bd σ M d (bc - mc) (bs - ms) lv (r.toList ++ st) h2 p R s m args meth c D cA B ad2 ad0 L0 T'.heap (locs ++ L) (cells + mc) (slots + ms) ls := by
    refine ⟨b1, b2, ?_, b4, ⟨by omega, by omega⟩, by rw [e1]; exact z3, ?_, by rw [lvm_cg ha b9]; exact b8, fun q hq => up (b9 q hq), ?_, fun q hq => ?_⟩
    · exact Ex.kept b3 (fun _ _ _ => rfl) (fun q hq => ha q (Or.inr hq))
    · refine ⟨Nat.le_trans b7.1 (by rw [e1]; exact hz), fun q h1 h2 => by rw [e1, hk q (Nat.lt_of_lt_of_le h1 b7.1) h2]; exact b7.2.1 q h1 h2, fun q hq => ?_⟩
      rcases List.mem_append.mp hq with h | h
      · exact b7.2.2 q h
      · exact hL q h
    · intro w hw
      rcases List.mem_append.mp hw with h | h
      · cases r with
        | none => cases h
        | some x =>
          have : w = x := by simpa using h
          rw [this]
          exact z4 x rfl
      · exact up (ho w h)
    · obtain ⟨y1, y2⟩ := b11 q hq
      exact ⟨(z5 q y2).1.trans y1, (z5 q y2).2⟩
  have K := z2 p l e R s m args below meth c D cA B ad2 ad0 L0 T'.heap (locs ++ L) (cells + mc) (slots + ms) ls b'
  rw [est] at K
  obtain ⟨t2, a1, a2⟩ := K T' rfl X'
  exact ⟨t2, go t2 a1, a2⟩
theorem blind {D : va_G} {cA : FieldType → ClassId} {B : Nat} {ad : PT → Nat} {as : List AV} : FrameBlind (va_Pc (as.map (vl ad)) (fun U => B ≤ U.heap.size ∧ Ex cA B ad U U.heap ∧ Rep σ D cA ad B h U.heap ∧ va_K D vwCl (tysO cA) U ∧ ∀ v ∈ as, okV h v)) := by
  intro a U g mk ⟨q1, q2, q3, q4, q5, q6⟩
  exact ⟨q1, q2, Ex.moved (u := U) (U := U.calling g mk a) (Vm.Alike.refl U.vm) q3, q4, va_K.moved (u := U) (U := U.calling g mk a) (Vm.Alike.refl U.vm) q5, q6⟩
theorem pre_at {p : Program} {R : Room} {s : State} {m : MethodId} {args : Array Value} {meth : Method} {c : Code} {D : va_G} {cA : FieldType → ClassId} {B : Nat} {ad ad0 : PT → Nat} {L0 : List PT} {H : Heap} {locs : List Loc} {cells slots : Nat} {ls : Array Slot} {as : List AV}
    (b : Bd σ M d bc bs lv st h p R s m args meth c D cA B ad ad0 L0 H locs cells slots ls) (ho : ∀ v ∈ as, okV h v) : ∀ U : State, U.heap = H → s.WarmedH U.vm → va_Pc (as.map (vl ad)) (fun U => B ≤ U.heap.size ∧ Ex cA B ad U U.heap ∧ Rep σ D cA ad B h U.heap ∧ va_K D vwCl (tysO cA) U ∧ ∀ v ∈ as, okV h v) (as.map (vl ad)).toArray U := by
  intro U hU hW
  refine ⟨rfl, by rw [hU]; exact Nat.le_trans b.2.1 b.S.1, ?_, by rw [hU]; exact b.rep, va_K.moved hW.alike b.K, ho⟩
  rw [hU]
  exact Ex.kept (Ex.moved hW.alike b.2.2.1) (fun q h1 h2 => b.S.2.1 q h1 h2) (fun _ _ => rfl)
theorem gwIn {w : Cond} (h : w ∈ gw) : GoodIn gw (w :: gw) := fun x hx => by
  have hg : x ∈ gw := (List.mem_cons.mp hx).elim (fun e => e ▸ h) id
  exact ⟨hg, good_of_word (List.mem_filter.mp hg).2⟩
/-- what a method is to a caller: its words among the tables' -/
def Mok (M2 : MT) (n : Nat) : Prop := Cond.code M2.1 M2.2.1 M2.2.2.1 M2.2.2.2 ∈ gw ∧ Cond.initialized M2.1.cls ∈ gw ∧ (M2.1.cls ≠ "java/lang/invoke/MethodHandle" ∧ M2.1.cls ≠ "java/lang/invoke/VarHandle" ∧ (parseMethodDescriptor M2.1.desc).map (fun d => d.parameters.length) = some n) ∧ M2.2.2.1 ≤ 45
theorem stk_split {ad : PT → Nat} {as st : List AV} : (as.reverse ++ st).map (vl ad) = (as.map (vl ad)).reverse ++ st.map (vl ad) := by
  rw [List.map_append, List.map_reverse]
theorem ct_room {ad : PT → Nat} {st : List AV} (hw : (st.map ct).sum ≤ 8) : ((st.map (vl ad)).map fun v => v.category).sum ≤ 8 := by
  rw [List.map_map]
  have : ((fun v => v.category) ∘ vl ad) = ct := by funext v; exact ctv v
  rw [this]
  exact hw
theorem V_callS {M2 : MT} {n idx mc ms : Nat} {as : List AV} (hd : decode M.2.1 pc = .ok (.invokestatic idx, 3)) (ho : Mok M2 n) (hs : Cond.static M2.1 ∈ gw) (hl : Cond.methodLink M.1.cls idx M2.1 ∈ gw) (hn : as.length = n) (hw : (st.map ct).sum ≤ 8) (hm : mc ≤ bc) (hms : ms ≤ bs)
    (k : Cl σ M2 d mc ms as h (fun r h2 => V σ M (d + 1) (bc - mc) (bs - ms) (pc + 3) lv (r.toList ++ st) h2 P)) : V σ M (d + 1) bc bs pc lv (as.reverse ++ st) h P := by
  intro p l e R s m args below meth c D cA B ad ad0 L0 H locs cells slots ls b
  have hst : ∀ v ∈ st, okV h v := fun v hv => b.so v (List.mem_append_right _ hv)
  have has : ∀ v ∈ as, okV h v := fun v hv => b.so v (List.mem_append_left _ (List.mem_reverse.mpr hv))
  obtain ⟨o1, o2, o3, o4⟩ := ho
  obtain ⟨f1, f2⟩ := b.2.2.2.1
  obtain ⟨g1, g2⟩ := b.2.2.2.2.1
  refine V_back (M2 := M2) (as := as) hm hms b hst (va_runS (As := as.map (vl ad)) (rest := st.map (vl ad)) (Ts := gw) ⟨b.x, b.b, b.1.2.2.1, b.own, b.ts⟩ (k l D cA B ad) ⟨callB_of n b.ts (gwIn o1) rfl rfl rfl (b.ts _ o2) (b.ts _ hl) o3 ⟨f1, by show 8 + (M2.2.2.1 + 11) + 64 * d ≤ R.locals; omega⟩, b.ts _ hs⟩ ⟨blind, pre_at b has⟩ rfl (by rw [List.length_map]; exact hn) b.lh.1 stk_split (lv_room (ct_room hw)) hd ⟨by omega, by omega⟩)
theorem V_callI {M2 : MT} {n idx mc ms ca ia : Nat} {as : List AV} (hd : decode M.2.1 pc = .ok (.invokespecial idx, 3)) (ho : Mok M2 n) (hr : M2.2.2.2 = none) (hy : M2.1.name = "<init>") (hs : Cond.instanceMethod M2.1 ∈ gw) (hl : Cond.methodLink M.1.cls idx M2.1 ∈ gw) (hn : as.length = n) (hw : (st.map ct).sum ≤ 8) (hm : mc ≤ bc) (hms : ms ≤ bs)
    (k : Cl σ M2 d mc ms (aR ca ia :: as) h (fun r h2 => V σ M (d + 1) (bc - mc) (bs - ms) (pc + 3) lv (r.toList ++ st) h2 P)) : V σ M (d + 1) bc bs pc lv (as.reverse ++ aR ca ia :: st) h P := by
  intro p l e R s m args below meth c D cA B ad ad0 L0 H locs cells slots ls b
  have hst : ∀ v ∈ st, okV h v := fun v hv => b.so v (List.mem_append_right _ (List.mem_cons_of_mem _ hv))
  have has : ∀ v ∈ aR ca ia :: as, okV h v := okc (b.so _ (List.mem_append_right _ List.mem_cons_self)) (fun v hv => b.so v (List.mem_append_left _ (List.mem_reverse.mpr hv)))
  obtain ⟨o1, o2, o3, o4⟩ := ho
  obtain ⟨f1, f2⟩ := b.2.2.2.1
  obtain ⟨g1, g2⟩ := b.2.2.2.2.1
  obtain ⟨y2, c2, n2, r2⟩ := M2
  dsimp only at hr
  subst hr
  refine V_back (M2 := (y2, c2, n2, none)) (as := as) hm hms b hst (va_runI (b := ad (ca, ia)) (As := as.map (vl ad)) (rest := st.map (vl ad)) (Ts := gw) ⟨b.x, b.b, b.1.2.2.1, b.own, b.ts⟩ (k l D cA B ad) ⟨callB_of n b.ts (gwIn o1) rfl rfl rfl (b.ts _ o2) (b.ts _ hl) o3 ⟨f1, by show 8 + (n2 + 11) + 64 * d ≤ R.locals; dsimp only at o4; omega⟩, hy, b.ts _ hs⟩ ⟨blind, pre_at b has⟩ rfl (by rw [List.length_map]; exact hn) b.lh.1 (by rw [stk_split]; rfl) (lv_room (ct_room hw)) hd ⟨by omega, by omega⟩)
/-- where a pointer of the store lies among the cells -/
theorem ws_at {cA : FieldType → ClassId} {ad : PT → Nat} {q : PT} (hq : q ∈ h.2.2) : ∃ j : Nat, h.2.2[j]? = some q ∧ (wsO σ cA ad h)[j]? = some (ad q, toE σ cA ad h q) := by
  obtain ⟨j, hj⟩ := List.getElem?_of_mem hq
  exact ⟨j, hj, by unfold wsO; rw [List.getElem?_map, hj]; rfl⟩
theorem toE_o {cA : FieldType → ClassId} {ad : PT → Nat} {c i ci : Nat} (hr : rty c i = .inl ci) : toE σ cA ad h (c, i) = .inr (ci, (List.range (nF ci)).map (fv σ ad h c i ci)) := by
  unfold toE
  rw [hr]
theorem toE_a {cA : FieldType → ClassId} {ad : PT → Nat} {c i n : Nat} {t : FieldType} (hr : rty c i = .inr (t, n)) (ht : isRT t = false) : toE σ cA ad h (c, i) = .inl (cA t, n, .inl (gI h c i)) := by
  unfold toE
  rw [hr]
  simp [ht]
theorem inL {c i : Nat} (hc : c < 65) (ho : okV h (aR c i)) : (c, i) ∈ h.2.2 := by
  rcases ho (c, i) rfl with z | z
  · exact z
  · exact absurd z (by show ¬ 65 ≤ c; omega)
theorem V_callV {M2 : MT} {n idx mc ms ca ia ci N : Nat} {T : u_T} {as : List AV} (hc65 : ca < 65) (hty : rty ca ia = .inl ci) (hcl : vwCl[ci]? = some (M2.1.cls, T, N)) (hd : decode M.2.1 pc = .ok (.invokevirtual idx, 3)) (ho : Mok M2 n) (hs : Cond.instanceMethod M2.1 ∈ gw) (hse : Cond.selects M2.1.cls M2.1 M2.1 ∈ gw) (hl : Cond.methodLink M.1.cls idx M2.1 ∈ gw) (hn : as.length = n) (hw : (st.map ct).sum ≤ 8) (hm : mc ≤ bc) (hms : ms ≤ bs)
    (k : Cl σ M2 d mc ms (aR ca ia :: as) h (fun r h2 => V σ M (d + 1) (bc - mc) (bs - ms) (pc + 3) lv (r.toList ++ st) h2 P)) : V σ M (d + 1) bc bs pc lv (as.reverse ++ aR ca ia :: st) h P := by
  intro p l e R s m args below meth c D cA B ad ad0 L0 H locs cells slots ls b
  have hst : ∀ v ∈ st, okV h v := fun v hv => b.so v (List.mem_append_right _ (List.mem_cons_of_mem _ hv))
  have has : ∀ v ∈ aR ca ia :: as, okV h v := okc (b.so _ (List.mem_append_right _ List.mem_cons_self)) (fun v hv => b.so v (List.mem_append_left _ (List.mem_reverse.mpr hv)))
  obtain ⟨o1, o2, o3, o4⟩ := ho
  obtain ⟨f1, f2⟩ := b.2.2.2.1
  obtain ⟨g1, g2⟩ := b.2.2.2.2.1
  obtain ⟨j, -, hj⟩ := ws_at (σ := σ) (cA := cA) (ad := ad) (inL hc65 (okh has))
  rw [toE_o hty] at hj
  refine V_back (M2 := M2) (as := as) hm hms b hst (va_runV (b := ad (ca, ia)) (C := M2.1.cls) (As := as.map (vl ad)) (rest := st.map (vl ad)) (Ts := gw) ⟨b.x, b.b, b.1.2.2.1, b.own, b.ts⟩ (k l D cA B ad) ⟨callB_of n b.ts (gwIn o1) rfl rfl rfl (b.ts _ o2) (b.ts _ hl) o3 ⟨f1, by show 8 + (M2.2.2.1 + 11) + 64 * d ≤ R.locals; omega⟩, b.ts _ hs, b.ts _ hse⟩ ⟨blind, va_recv b.K b.rep.1 hcl hj, pre_at b has⟩ rfl (by rw [List.length_map]; exact hn) b.lh.1 (by rw [stk_split]; rfl) (lv_room (ct_room hw)) hd ⟨by omega, by omega⟩)
end VC
end
section
-- ===== fields, arrays, new cells =====
theorem fs_get {N k : Nat} {f : Nat → Value} (hk : k < N) : ((List.range N).map f)[k]? = some (f k) := by
  rw [List.getElem?_map, List.getElem?_range hk]
  rfl
theorem fs_set {N k : Nat} {f g : Nat → Value} {v : Value} (hv : g k = v) (hg : ∀ j, j ≠ k → g j = f j) : ((List.range N).map f).set k v = (List.range N).map g := by
  apply List.ext_getElem?
  intro n
  rw [List.getElem?_set]
  by_cases e : k = n
  · subst e
    rw [if_pos rfl]
    by_cases hk : k < N
    · rw [if_pos (by simpa using hk), fs_get hk, hv]
    · rw [if_neg (by simpa using hk)]
      symm
      apply List.getElem?_eq_none
      simpa using hk
  · rw [if_neg e]
    by_cases hk : n < N
    · rw [fs_get hk, fs_get hk, hg n (fun z => e z.symm)]
    · rw [List.getElem?_eq_none (by simpa using hk), List.getElem?_eq_none (by simpa using hk)]
section VM
variable {σ : Bool} {M : MT} {d bc bs pc : Nat} {lv : List (Nat × AV)} {st : List AV} {h : HS} {P : Option AV → HS → Prop}
theorem wsO_set {cA : FieldType → ClassId} {ad : PT → Nat} {h2 : HS} {j : Nat} {q : PT} (hL : h2.2.2 = h.2.2) (hj : h.2.2[j]? = some q) (ho : ∀ n q', h.2.2[n]? = some q' → n ≠ j → toE σ cA ad h2 q' = toE σ cA ad h q') : wsO σ cA ad h2 = (wsO σ cA ad h).set j (ad q, toE σ cA ad h2 q) := by
  apply List.ext_getElem?
  intro n
  rw [List.getElem?_set]
  unfold wsO
  rw [hL, List.getElem?_map, List.getElem?_map]
  by_cases e : j = n
  · subst e
    have hl : j < (h.2.2.map (fun q => (ad q, toE σ cA ad h q))).length := by
      rw [List.length_map]
      exact (List.getElem?_eq_some_iff.mp hj).1
    rw [if_pos rfl, if_pos hl, hj]
    rfl
  · rw [if_neg e]
    cases hn : h.2.2[n]? with
    | none => rfl
    | some q' =>
      show some (ad q', toE σ cA ad h2 q') = some (ad q', toE σ cA ad h q')
      rw [ho n q' hn (fun z => e z.symm)]
theorem ws_nd {cA : FieldType → ClassId} {ad : PT → Nat} {A : Nat → Prop} {i j : Nat} {q : PT} (hD : va_D A (wsO σ cA ad h)) (hi : h.2.2[i]? = some q) (hj : h.2.2[j]? = some q) : i = j := by
  refine hD.1 i j (ad q, toE σ cA ad h q) (ad q, toE σ cA ad h q) ?_ ?_ rfl
  · unfold wsO; rw [List.getElem?_map, hi]; rfl
  · unfold wsO; rw [List.getElem?_map, hj]; rfl
theorem gS_sI {c i k c' i' k' : Nat} {v : Int32} : gS σ (sI h c i k v) c' i' k' = gS σ h c' i' k' := rfl
theorem gI_sI {c i k c' i' k' : Nat} {v : Int32} : gI (sI h c i k v) c' i' k' = if c' = c ∧ k' = k ∧ i' = i then v else gI h c' i' k' := rfl
theorem gI_sR {c i k c' i' k' : Nat} {v : Option PT} : gI (sR h c i k v) c' i' k' = gI h c' i' k' := rfl
theorem gR_sI {c i k c' i' k' : Nat} {v : Int32} : gR (sI h c i k v) c' i' k' = gR h c' i' k' := rfl
theorem gR_sR {c i k c' i' k' : Nat} {v : Option PT} : gR (sR h c i k v) c' i' k' = if c' = c ∧ k' = k ∧ i' = i then v else gR h c' i' k' := rfl
theorem toE_sI {cA : FieldType → ClassId} {ad : PT → Nat} {c i k : Nat} {v : Int32} {q : PT} (hq : q ≠ (c, i)) : toE σ cA ad (sI h c i k v) q = toE σ cA ad h q := by
  obtain ⟨c', i'⟩ := q
  have hn : ∀ k', ¬ (c' = c ∧ k' = k ∧ i' = i) := fun k' z => hq (by rw [z.1, z.2.2])
  have e1 : ∀ k', gI (sI h c i k v) c' i' k' = gI h c' i' k' := fun k' => by rw [gI_sI, if_neg (hn k')]
  have e2 : gI (sI h c i k v) c' i' = gI h c' i' := funext e1
  have e3 : ∀ ci, fv σ ad (sI h c i k v) c' i' ci = fv σ ad h c' i' ci := fun ci => by funext k'; unfold fv; rw [gS_sI, e1]
  unfold toE
  simp only [e2, e3, gS_sI]
/-- a store of an int -/
theorem Bd.stI {p : Program} {R : Room} {s : State} {m : MethodId} {args : Array Value} {meth : Method} {c : Code} {D : va_G} {cA : FieldType → ClassId} {B : Nat} {ad ad0 : PT → Nat} {L0 : List PT} {H H1 : Heap} {locs locs1 : List Loc} {cells slots : Nat} {ls : Array Slot} {st' : List AV} {cc i k j : Nat} {v : Int32}
    (b : Bd σ M d bc bs lv st h p R s m args meth c D cA B ad ad0 L0 H locs cells slots ls) (hs : ∀ v ∈ st', okV h v) (hj : h.2.2[j]? = some (cc, i)) (hP : va_P D vwCl ((wsO σ cA ad h).set j (ad (cc, i), toE σ cA ad (sI h cc i k v) (cc, i))) H1) (hD : va_D (fun q => B ≤ q) ((wsO σ cA ad h).set j (ad (cc, i), toE σ cA ad (sI h cc i k v) (cc, i)))) (hS : va_S (fun q => B ≤ q) s.heap H1 locs1) :
    Bd σ M d bc bs lv st' (sI h cc i k v) p R s m args meth c D cA B ad ad0 L0 H1 locs1 cells slots ls := by
  obtain ⟨h1, h2, h3, h4, h5, h6, h7, h8, h9, -, h11⟩ := b
  have e := wsO_set (σ := σ) (cA := cA) (ad := ad) (h := h) (h2 := sI h cc i k v) (j := j) (q := (cc, i)) rfl hj (fun n q' hn hne => toE_sI (fun z => hne (ws_nd h6.2.1 (by rw [hn, z]) hj)))
  refine ⟨h1, h2, h3, h4, h5, ⟨by rw [e]; exact hP, by rw [e]; exact hD, fun q hq k' r hr => h6.2.2 q hq k' r hr⟩, hS, h8, h9, hs, h11⟩
theorem V_getI {c i ci idx k N : Nat} {C : String} {T : u_T} (hc65 : c < 65) (hr : rty c i = .inl ci) (hcl : vwCl[ci]? = some (C, T, N)) (hk : k < N) (hf : isRT (fty ci k) = false) (hd : decode M.2.1 pc = .ok (.getfield idx, 3)) (hw : Cond.fieldLink M.1.cls idx (T k).1 (T k).2.1 (T k).2.2.1 ∈ gw)
    (kk : V σ M d bc bs (pc + 3) lv (aI (gI h c i k) :: st) h P) : V σ M d bc bs pc lv (aR c i :: st) h P := by
  intro p l e R s m args below meth c0 D cA B ad ad0 L0 H locs cells slots ls b
  obtain ⟨j, -, hj⟩ := ws_at (σ := σ) (cA := cA) (ad := ad) (inL hc65 (okh b.so))
  rw [toE_o hr] at hj
  obtain ⟨eN, hin, -, -⟩ := cls_ok hcl
  refine va_get (D := D) b.x b.b b.ts hin b.own b.K b.rep.1 j hj hcl k hk (b.ts _ hw) (fun _ z => z) (v := .int (gI h c i k)) ?_ hd (kk p l e R s m args below meth c0 D cA B ad ad0 L0 H locs cells slots ls (b.stk (okc okI (okt b.so))))
  rw [← eN, fs_get hk]
  simp [fv, hf]
theorem V_getR {c i ci idx k N : Nat} {C : String} {T : u_T} (r : Option PT) (hc65 : c < 65) (hr : rty c i = .inl ci) (hcl : vwCl[ci]? = some (C, T, N)) (hk : k < N) (hf : isRT (fty ci k) = true) (hd : decode M.2.1 pc = .ok (.getfield idx, 3)) (hw : Cond.fieldLink M.1.cls idx (T k).1 (T k).2.1 (T k).2.2.1 ∈ gw) (hg : gS σ h c i k = r)
    (kk : V σ M d bc bs (pc + 3) lv (aP r :: st) h P) : V σ M d bc bs pc lv (aR c i :: st) h P := by
  intro p l e R s m args below meth c0 D cA B ad ad0 L0 H locs cells slots ls b
  have hm := inL hc65 (okh b.so)
  obtain ⟨j, -, hj⟩ := ws_at (σ := σ) (cA := cA) (ad := ad) hm
  rw [toE_o hr] at hj
  obtain ⟨eN, hin, -, -⟩ := cls_ok hcl
  refine va_get (D := D) b.x b.b b.ts hin b.own b.K b.rep.1 j hj hcl k hk (b.ts _ hw) (fun _ z => z) (v := va_rf (r.map ad)) ?_ hd (kk p l e R s m args below meth c0 D cA B ad ad0 L0 H locs cells slots ls (b.stk (okc ?_ (okt b.so))))
  · rw [← eN, fs_get hk]
    simp [fv, hf, hg]
  · intro q e
    cases e
    exact b.rep.2.2 (c, i) hm k q hg
theorem V_putI {c i ci idx k N : Nat} {C : String} {T : u_T} {v : Int32} (hc65 : c < 65) (hr : rty c i = .inl ci) (hcl : vwCl[ci]? = some (C, T, N)) (hk : k < N) (hf : fty ci k = .int) (hfin : (T k).2.2.2 = false ∨ (T k).2.2.2 = true ∧ M.1.name = "<init>" ∧ (T k).1 = M.1.cls) (hd : decode M.2.1 pc = .ok (.putfield idx, 3)) (hw : Cond.fieldLink M.1.cls idx (T k).1 (T k).2.1 (T k).2.2.1 ∈ gw)
    (kk : V σ M d bc bs (pc + 3) lv st (sI h c i k v) P) : V σ M d bc bs pc lv (aI v :: aR c i :: st) h P := by
  intro p l e R s m args below meth c0 D cA B ad ad0 L0 H locs cells slots ls b
  obtain ⟨j, hj0, hj⟩ := ws_at (σ := σ) (cA := cA) (ad := ad) (inL hc65 (okh (okt b.so)))
  rw [toE_o hr] at hj
  obtain ⟨eN, hin, hty, hnm⟩ := cls_ok hcl
  have hlen : k < ((List.range (nF ci)).map (fv σ ad h c i ci)).length := by rw [List.length_map, List.length_range, ← eN]; exact hk
  have hset : ((List.range (nF ci)).map (fv σ ad h c i ci)).set k (.int v) = (List.range (nF ci)).map (fv σ ad (sI h c i k v) c i ci) := by
    refine fs_set ?_ (fun n hn => ?_)
    · unfold fv
      rw [hf]
      simp [isRT, gI_sI]
    · unfold fv
      rw [gS_sI, gI_sI, if_neg (fun z => hn z.2.1)]
  have go : ∀ (H1 : Heap) (locs1 : List Loc), va_P D vwCl ((wsO σ cA ad h).set j (ad (c, i), .inr (ci, ((List.range (nF ci)).map (fv σ ad h c i ci)).set k (.int v)))) H1 → va_D (fun q => B ≤ q) ((wsO σ cA ad h).set j (ad (c, i), .inr (ci, ((List.range (nF ci)).map (fv σ ad h c i ci)).set k (.int v)))) → va_S (fun q => B ≤ q) s.heap H1 locs1 → W p l e R s m args below meth c0 H1 locs1 cells slots (MQ below (QM σ D cA B ad0 L0 P) args s R.cells R.slots (fun q => B ≤ q)) (F0 m (pc + 3) ls (st.map (vl ad))) := by
    intro H1 locs1 hP hD hS
    rw [hset, ← toE_o (cA := cA) hr] at hP hD
    exact kk p l e R s m args below meth c0 D cA B ad ad0 L0 H1 locs1 cells slots ls (b.stI (okt (okt b.so)) hj0 hP hD hS)
  have hp : parseFieldDescriptor (T k).2.2.1 = some .int := by rw [hty k hk, hf]
  rcases hfin with h1 | ⟨h1, h2, h3⟩
  · exact va_put (D := D) (ty := .int) (v := .int v) b.x b.b b.ts hin (fty ci) hty hnm b.own b.K b.rep.1 b.rep.2.1 b.S j hj hcl k hk (b.ts _ hw) (fun _ z => z) h1 hp rfl rfl hlen hd go
  · exact va_putF (D := D) (ty := .int) (v := .int v) b.x b.b b.ts hin (fty ci) hty hnm b.own b.K b.rep.1 b.rep.2.1 b.S j hj hcl k hk (b.ts _ hw) (fun _ z => z) h1 (b.1.2.2.2.2.2.2.2.1.trans h2) h3 hp rfl rfl hlen hd go
-- arrays of ints, bytes, booleans
theorem V_iald {c i n : Nat} {j : Int32} (hc65 : c < 65) (hr : rty c i = .inr (.int, n)) (hd : decode M.2.1 pc = .ok (.iaload, 1)) (hin : vp_in j n) (kk : V σ M d bc bs (pc + 1) lv (aI (gI h c i j.toNatClampNeg) :: st) h P) : V σ M d bc bs pc lv (aI j :: aR c i :: st) h P := by
  intro p l e R s m args below meth c0 D cA B ad ad0 L0 H locs cells slots ls b
  obtain ⟨j0, -, hj⟩ := ws_at (σ := σ) (cA := cA) (ad := ad) (inL hc65 (okh (okt b.so)))
  rw [toE_a hr rfl] at hj
  exact va_iald b.x b.b b.K b.rep.1 j0 0 hj rfl hin hd (kk p l e R s m args below meth c0 D cA B ad ad0 L0 H locs cells slots ls (b.stk (okc okI (okt (okt b.so)))))
theorem V_bald {c i n : Nat} {j : Int32} (hc65 : c < 65) (hr : rty c i = .inr (.byte, n)) (hd : decode M.2.1 pc = .ok (.baload, 1)) (hin : vp_in j n) (kk : V σ M d bc bs (pc + 1) lv (aI (gI h c i j.toNatClampNeg) :: st) h P) : V σ M d bc bs pc lv (aI j :: aR c i :: st) h P := by
  intro p l e R s m args below meth c0 D cA B ad ad0 L0 H locs cells slots ls b
  obtain ⟨j0, -, hj⟩ := ws_at (σ := σ) (cA := cA) (ad := ad) (inL hc65 (okh (okt b.so)))
  rw [toE_a hr rfl] at hj
  exact va_bald b.x b.b b.K b.rep.1 j0 1 hj rfl hin hd (kk p l e R s m args below meth c0 D cA B ad ad0 L0 H locs cells slots ls (b.stk (okc okI (okt (okt b.so)))))
theorem V_zald {c i n : Nat} {j : Int32} (hc65 : c < 65) (hr : rty c i = .inr (.boolean, n)) (hd : decode M.2.1 pc = .ok (.baload, 1)) (hin : vp_in j n) (kk : V σ M d bc bs (pc + 1) lv (aI (gI h c i j.toNatClampNeg) :: st) h P) : V σ M d bc bs pc lv (aI j :: aR c i :: st) h P := by
  intro p l e R s m args below meth c0 D cA B ad ad0 L0 H locs cells slots ls b
  obtain ⟨j0, -, hj⟩ := ws_at (σ := σ) (cA := cA) (ad := ad) (inL hc65 (okh (okt b.so)))
  rw [toE_a hr rfl] at hj
  exact va_zald b.x b.b b.K b.rep.1 j0 2 hj rfl hin hd (kk p l e R s m args below meth c0 D cA B ad ad0 L0 H locs cells slots ls (b.stk (okc okI (okt (okt b.so)))))
theorem gI_up {c i k : Nat} {v : Int32} : gI (sI h c i k v) c i = upd (gI h c i) k v := by
  funext k'
  rw [gI_sI, upd]
  by_cases e : k' = k
  · rw [if_pos ⟨rfl, e, rfl⟩, if_pos e]
  · rw [if_neg (fun z => e z.2.1), if_neg e]
theorem toE_up {cA : FieldType → ClassId} {ad : PT → Nat} {c i n k : Nat} {t : FieldType} {v : Int32} (hr : rty c i = .inr (t, n)) (ht : isRT t = false) : (.inl (cA t, n, .inl (upd (gI h c i) k v)) : va_E) = toE σ cA ad (sI h c i k v) (c, i) := by
  rw [toE_a hr ht, gI_up]
theorem V_iast {c i n : Nat} {j x : Int32} (hc65 : c < 65) (hr : rty c i = .inr (.int, n)) (hd : decode M.2.1 pc = .ok (.iastore, 1)) (hin : vp_in j n) (kk : V σ M d bc bs (pc + 1) lv st (sI h c i j.toNatClampNeg x) P) : V σ M d bc bs pc lv (aI x :: aI j :: aR c i :: st) h P := by
  intro p l e R s m args below meth c0 D cA B ad ad0 L0 H locs cells slots ls b
  obtain ⟨j0, hj0, hj⟩ := ws_at (σ := σ) (cA := cA) (ad := ad) (inL hc65 (okh (okt (okt b.so))))
  rw [toE_a hr rfl] at hj
  refine va_iast b.x b.b b.K b.rep.1 b.rep.2.1 b.S j0 0 hj rfl hin hd (fun H1 locs1 hP hD hS => ?_)
  rw [toE_up (σ := σ) (ad := ad) hr rfl] at hP hD
  exact kk p l e R s m args below meth c0 D cA B ad ad0 L0 H1 locs1 cells slots ls (b.stI (okt (okt (okt b.so))) hj0 hP hD hS)
theorem V_bast {c i n : Nat} {j x : Int32} (hc65 : c < 65) (hr : rty c i = .inr (.byte, n)) (hd : decode M.2.1 pc = .ok (.bastore, 1)) (hin : vp_in j n) (kk : V σ M d bc bs (pc + 1) lv st (sI h c i j.toNatClampNeg (vp_nar .byte x)) P) : V σ M d bc bs pc lv (aI x :: aI j :: aR c i :: st) h P := by
  intro p l e R s m args below meth c0 D cA B ad ad0 L0 H locs cells slots ls b
  obtain ⟨j0, hj0, hj⟩ := ws_at (σ := σ) (cA := cA) (ad := ad) (inL hc65 (okh (okt (okt b.so))))
  rw [toE_a hr rfl] at hj
  refine va_bast b.x b.b b.K b.rep.1 b.rep.2.1 b.S j0 1 hj rfl hin hd (fun H1 locs1 hP hD hS => ?_)
  rw [toE_up (σ := σ) (ad := ad) hr rfl] at hP hD
  exact kk p l e R s m args below meth c0 D cA B ad ad0 L0 H1 locs1 cells slots ls (b.stI (okt (okt (okt b.so))) hj0 hP hD hS)
theorem V_zast {c i n : Nat} {j x : Int32} (hc65 : c < 65) (hr : rty c i = .inr (.boolean, n)) (hd : decode M.2.1 pc = .ok (.bastore, 1)) (hin : vp_in j n) (hx : x = 0 ∨ x = 1) (kk : V σ M d bc bs (pc + 1) lv st (sI h c i j.toNatClampNeg x) P) : V σ M d bc bs pc lv (aI x :: aI j :: aR c i :: st) h P := by
  intro p l e R s m args below meth c0 D cA B ad ad0 L0 H locs cells slots ls b
  obtain ⟨j0, hj0, hj⟩ := ws_at (σ := σ) (cA := cA) (ad := ad) (inL hc65 (okh (okt (okt b.so))))
  rw [toE_a hr rfl] at hj
  have ex : vp_nar .boolean x = x := by rcases hx with rfl | rfl <;> decide +kernel
  refine va_zast b.x b.b b.K b.rep.1 b.rep.2.1 b.S j0 2 hj rfl hin hd (fun H1 locs1 hP hD hS => ?_)
  rw [ex, toE_up (σ := σ) (ad := ad) hr rfl] at hP hD
  exact kk p l e R s m args below meth c0 D cA B ad ad0 L0 H1 locs1 cells slots ls (b.stI (okt (okt (okt b.so))) hj0 hP hD hS)
theorem V_alen {c i n : Nat} {t : FieldType} {v : Int32} (hc65 : c < 65) (hr : rty c i = .inr (t, n)) (ht : t = .int ∨ t = .byte ∨ t = .boolean) (hv : Int32.ofNat n = v) (hd : decode M.2.1 pc = .ok (.arraylength, 1)) (kk : V σ M d bc bs (pc + 1) lv (aI v :: st) h P) : V σ M d bc bs pc lv (aR c i :: st) h P := by
  intro p l e R s m args below meth c0 D cA B ad ad0 L0 H locs cells slots ls b
  obtain ⟨j0, -, hj⟩ := ws_at (σ := σ) (cA := cA) (ad := ad) (inL hc65 (okh b.so))
  have K := kk p l e R s m args below meth c0 D cA B ad ad0 L0 H locs cells slots ls (b.stk (okc okI (okt b.so)))
  rcases ht with rfl | rfl | rfl
  · rw [toE_a hr rfl] at hj
    exact va_alen b.x b.b b.K b.rep.1 j0 0 hj rfl hv hd K
  · rw [toE_a hr rfl] at hj
    exact va_alen b.x b.b b.K b.rep.1 j0 1 hj rfl hv hd K
  · rw [toE_a hr rfl] at hj
    exact va_alen b.x b.b b.K b.rep.1 j0 2 hj rfl hv hd K
-- switches
theorem V_tabIn {dflt lo hi off : Int} {offs : Array Int} {len : Nat} {x : Int32} (tgt : Nat) (hd : decode M.2.1 pc = .ok (.tableswitch dflt lo hi offs, len)) (h1 : ¬ x.toInt < lo) (h2 : ¬ hi < x.toInt) (ho : offs[(x.toInt - lo).toNat]? = some off) (ht : (pc : Int) + off = (tgt : Int)) (kk : V σ M d bc bs tgt lv st h P) : V σ M d bc bs pc lv (aI x :: st) h P := by
  intro p l e R s m args below meth c D cA B ad ad0 L0 H locs cells slots ls b
  exact lv_tableIn b.x b.b hd h1 h2 ho ht (kk p l e R s m args below meth c D cA B ad ad0 L0 H locs cells slots ls (b.stk (okt b.so)))
theorem V_tabOut {dflt lo hi : Int} {offs : Array Int} {len : Nat} {x : Int32} (tgt : Nat) (hd : decode M.2.1 pc = .ok (.tableswitch dflt lo hi offs, len)) (h1 : x.toInt < lo ∨ hi < x.toInt) (ht : (pc : Int) + dflt = (tgt : Int)) (kk : V σ M d bc bs tgt lv st h P) : V σ M d bc bs pc lv (aI x :: st) h P := by
  intro p l e R s m args below meth c D cA B ad ad0 L0 H locs cells slots ls b
  exact lv_tableOut b.x b.b hd h1 ht (kk p l e R s m args below meth c D cA B ad ad0 L0 H locs cells slots ls (b.stk (okt b.so)))
theorem V_lookup {dflt off : Int} {ps : Array (Int × Int)} {len : Nat} {x : Int32} (tgt : Nat) (hd : decode M.2.1 pc = .ok (.lookupswitch dflt ps, len)) (hp : (ps.toList.zip (ps.toList.drop 1)).all (fun (a, next) => a.1 < next.1) = true) (ho : Op.lookupswitch.offset ps.toList dflt x.toInt = off) (ht : (pc : Int) + off = (tgt : Int)) (kk : V σ M d bc bs tgt lv st h P) : V σ M d bc bs pc lv (aI x :: st) h P := by
  intro p l e R s m args below meth c D cA B ad ad0 L0 H locs cells slots ls b
  exact lv_lookup b.x b.b hd hp ho ht (kk p l e R s m args below meth c D cA B ad ad0 L0 H locs cells slots ls (b.stk (okt b.so)))
theorem V_ifnull {q : PT} {off : Int} (hd : decode M.2.1 pc = .ok (.ifnull off, 3)) (kk : V σ M d bc bs (pc + 3) lv st h P) : V σ M d bc bs pc lv (aP (some q) :: st) h P := by
  intro p l e R s m args below meth c D cA B ad ad0 L0 H locs cells slots ls b
  exact lv_ifnull b.x b.b hd (kk p l e R s m args below meth c D cA B ad ad0 L0 H locs cells slots ls (b.stk (okt b.so)))
theorem V_ifnullN {off : Int} (tgt : Nat) (hd : decode M.2.1 pc = .ok (.ifnull off, 3)) (ht : (pc : Int) + off = (tgt : Int)) (kk : V σ M d bc bs tgt lv st h P) : V σ M d bc bs pc lv (aP none :: st) h P := by
  intro p l e R s m args below meth c D cA B ad ad0 L0 H locs cells slots ls b
  exact lv_ifnullN b.x b.b hd ht (kk p l e R s m args below meth c D cA B ad ad0 L0 H locs cells slots ls (b.stk (okt b.so)))
theorem V_ifnonnull {q : PT} {off : Int} (tgt : Nat) (hd : decode M.2.1 pc = .ok (.ifnonnull off, 3)) (ht : (pc : Int) + off = (tgt : Int)) (kk : V σ M d bc bs tgt lv st h P) : V σ M d bc bs pc lv (aP (some q) :: st) h P := by
  intro p l e R s m args below meth c D cA B ad ad0 L0 H locs cells slots ls b
  exact lv_ifnonnull b.x b.b hd ht (kk p l e R s m args below meth c D cA B ad ad0 L0 H locs cells slots ls (b.stk (okt b.so)))
theorem V_ifnonnullN {off : Int} (hd : decode M.2.1 pc = .ok (.ifnonnull off, 3)) (kk : V σ M d bc bs (pc + 3) lv st h P) : V σ M d bc bs pc lv (aP none :: st) h P := by
  intro p l e R s m args below meth c D cA B ad ad0 L0 H locs cells slots ls b
  exact lv_ifnonnullN b.x b.b hd (kk p l e R s m args below meth c D cA B ad ad0 L0 H locs cells slots ls (b.stk (okt b.so)))
end VM
end

section
-- ===== PART A: goes FIRST, ahead of the names: the tables' words, and 'selects' of the private methods out of them =====
/-- a private method of a class that the tables say can be made, by its rows of tables_1 -/
def lw_okq (q : MethodName × Nat) : Prop := (q.1.cls ≠ "java/lang/invoke/MethodHandle" ∧ q.1.cls ≠ "java/lang/invoke/VarHandle") ∧ Cond.instantiable q.1.cls q.2 ∈ tables_1 ∧ Cond.privateMethod q.1 ∈ tables_1 ∧ Cond.instanceMethod q.1 ∈ tables_1
theorem lw_p0 : lw_okq (⟨"java/util/ArrayList", "add", "(Ljava/lang/Object;[Ljava/lang/Object;I)V"⟩, 3) := ⟨⟨by decide +kernel, by decide +kernel⟩, List.mem_of_getElem? (i := 33) (by decide +kernel), List.mem_of_getElem? (i := 309) (by decide +kernel), List.mem_of_getElem? (i := 310) (by decide +kernel)⟩
theorem lw_p1 : lw_okq (⟨"java/util/ArrayList", "grow", "()[Ljava/lang/Object;"⟩, 3) := ⟨⟨by decide +kernel, by decide +kernel⟩, List.mem_of_getElem? (i := 33) (by decide +kernel), List.mem_of_getElem? (i := 313) (by decide +kernel), List.mem_of_getElem? (i := 314) (by decide +kernel)⟩
theorem lw_p2 : lw_okq (⟨"java/util/ArrayList", "grow", "(I)[Ljava/lang/Object;"⟩, 3) := ⟨⟨by decide +kernel, by decide +kernel⟩, List.mem_of_getElem? (i := 33) (by decide +kernel), List.mem_of_getElem? (i := 317) (by decide +kernel), List.mem_of_getElem? (i := 318) (by decide +kernel)⟩
theorem lw_p3 : lw_okq (⟨"GreatStore", "thingAt", "(I)LGreatStore$Thing;"⟩, 11) := ⟨⟨by decide +kernel, by decide +kernel⟩, List.mem_of_getElem? (i := 25) (by decide +kernel), List.mem_of_getElem? (i := 368) (by decide +kernel), List.mem_of_getElem? (i := 369) (by decide +kernel)⟩
theorem lw_p4 : lw_okq (⟨"GreatStore", "slipAt", "(I)LGreatStore$Slip;"⟩, 11) := ⟨⟨by decide +kernel, by decide +kernel⟩, List.mem_of_getElem? (i := 25) (by decide +kernel), List.mem_of_getElem? (i := 487) (by decide +kernel), List.mem_of_getElem? (i := 488) (by decide +kernel)⟩
theorem lw_p5 : lw_okq (⟨"GreatStore", "countOnApproval", "()I"⟩, 11) := ⟨⟨by decide +kernel, by decide +kernel⟩, List.mem_of_getElem? (i := 25) (by decide +kernel), List.mem_of_getElem? (i := 504) (by decide +kernel), List.mem_of_getElem? (i := 505) (by decide +kernel)⟩
theorem lw_p6 : lw_okq (⟨"GreatStore", "countParcels", "()I"⟩, 11) := ⟨⟨by decide +kernel, by decide +kernel⟩, List.mem_of_getElem? (i := 25) (by decide +kernel), List.mem_of_getElem? (i := 508) (by decide +kernel), List.mem_of_getElem? (i := 509) (by decide +kernel)⟩
theorem lw_p7 : lw_okq (⟨"GreatStore$Van", "askOnce", "(I)Z"⟩, 4) := ⟨⟨by decide +kernel, by decide +kernel⟩, List.mem_of_getElem? (i := 59) (by decide +kernel), List.mem_of_getElem? (i := 528) (by decide +kernel), List.mem_of_getElem? (i := 529) (by decide +kernel)⟩
theorem lw_p8 : lw_okq (⟨"GreatStore$Van", "piecesFor", "(Ljava/util/ArrayList;I)I"⟩, 4) := ⟨⟨by decide +kernel, by decide +kernel⟩, List.mem_of_getElem? (i := 59) (by decide +kernel), List.mem_of_getElem? (i := 532) (by decide +kernel), List.mem_of_getElem? (i := 533) (by decide +kernel)⟩
theorem lw_p9 : lw_okq (⟨"GreatStore$Van", "take", "(Ljava/util/ArrayList;II)V"⟩, 4) := ⟨⟨by decide +kernel, by decide +kernel⟩, List.mem_of_getElem? (i := 59) (by decide +kernel), List.mem_of_getElem? (i := 536) (by decide +kernel), List.mem_of_getElem? (i := 537) (by decide +kernel)⟩
theorem lw_p10 : lw_okq (⟨"GreatStore$Tokens", "scanToken", "([BII)I"⟩, 4) := ⟨⟨by decide +kernel, by decide +kernel⟩, List.mem_of_getElem? (i := 97) (by decide +kernel), List.mem_of_getElem? (i := 569) (by decide +kernel), List.mem_of_getElem? (i := 570) (by decide +kernel)⟩
theorem lw_p11 : lw_okq (⟨"GreatStore$Tokens", "add", "(III)V"⟩, 4) := ⟨⟨by decide +kernel, by decide +kernel⟩, List.mem_of_getElem? (i := 97) (by decide +kernel), List.mem_of_getElem? (i := 635) (by decide +kernel), List.mem_of_getElem? (i := 636) (by decide +kernel)⟩
theorem lw_p12 : lw_okq (⟨"GreatStore$RuleReader", "kind", "()I"⟩, 5) := ⟨⟨by decide +kernel, by decide +kernel⟩, List.mem_of_getElem? (i := 156) (by decide +kernel), List.mem_of_getElem? (i := 653) (by decide +kernel), List.mem_of_getElem? (i := 654) (by decide +kernel)⟩
theorem lw_p13 : lw_okq (⟨"GreatStore$RuleReader", "readLine", "(I)Z"⟩, 5) := ⟨⟨by decide +kernel, by decide +kernel⟩, List.mem_of_getElem? (i := 156) (by decide +kernel), List.mem_of_getElem? (i := 657) (by decide +kernel), List.mem_of_getElem? (i := 658) (by decide +kernel)⟩
theorem lw_p14 : lw_okq (⟨"GreatStore$RuleReader", "fail", "(I)Z"⟩, 5) := ⟨⟨by decide +kernel, by decide +kernel⟩, List.mem_of_getElem? (i := 156) (by decide +kernel), List.mem_of_getElem? (i := 661) (by decide +kernel), List.mem_of_getElem? (i := 662) (by decide +kernel)⟩
theorem lw_p15 : lw_okq (⟨"GreatStore$RuleReader", "readSum", "(I)Z"⟩, 5) := ⟨⟨by decide +kernel, by decide +kernel⟩, List.mem_of_getElem? (i := 156) (by decide +kernel), List.mem_of_getElem? (i := 665) (by decide +kernel), List.mem_of_getElem? (i := 666) (by decide +kernel)⟩
def lw_privs_1 : List (MethodName × Nat) := [(⟨"java/util/ArrayList", "add", "(Ljava/lang/Object;[Ljava/lang/Object;I)V"⟩, 3), (⟨"java/util/ArrayList", "grow", "()[Ljava/lang/Object;"⟩, 3), (⟨"java/util/ArrayList", "grow", "(I)[Ljava/lang/Object;"⟩, 3), (⟨"GreatStore", "thingAt", "(I)LGreatStore$Thing;"⟩, 11), (⟨"GreatStore", "slipAt", "(I)LGreatStore$Slip;"⟩, 11), (⟨"GreatStore", "countOnApproval", "()I"⟩, 11), (⟨"GreatStore", "countParcels", "()I"⟩, 11), (⟨"GreatStore$Van", "askOnce", "(I)Z"⟩, 4), (⟨"GreatStore$Van", "piecesFor", "(Ljava/util/ArrayList;I)I"⟩, 4), (⟨"GreatStore$Van", "take", "(Ljava/util/ArrayList;II)V"⟩, 4), (⟨"GreatStore$Tokens", "scanToken", "([BII)I"⟩, 4), (⟨"GreatStore$Tokens", "add", "(III)V"⟩, 4), (⟨"GreatStore$RuleReader", "kind", "()I"⟩, 5), (⟨"GreatStore$RuleReader", "readLine", "(I)Z"⟩, 5), (⟨"GreatStore$RuleReader", "fail", "(I)Z"⟩, 5), (⟨"GreatStore$RuleReader", "readSum", "(I)Z"⟩, 5)]
theorem lw_r1 : ∀ q ∈ lw_privs_1, lw_okq q := List.forall_mem_cons.mpr ⟨lw_p0, List.forall_mem_cons.mpr ⟨lw_p1, List.forall_mem_cons.mpr ⟨lw_p2, List.forall_mem_cons.mpr ⟨lw_p3, List.forall_mem_cons.mpr ⟨lw_p4, List.forall_mem_cons.mpr ⟨lw_p5, List.forall_mem_cons.mpr ⟨lw_p6, List.forall_mem_cons.mpr ⟨lw_p7, List.forall_mem_cons.mpr ⟨lw_p8, List.forall_mem_cons.mpr ⟨lw_p9, List.forall_mem_cons.mpr ⟨lw_p10, List.forall_mem_cons.mpr ⟨lw_p11, List.forall_mem_cons.mpr ⟨lw_p12, List.forall_mem_cons.mpr ⟨lw_p13, List.forall_mem_cons.mpr ⟨lw_p14, List.forall_mem_cons.mpr ⟨lw_p15, fun _ h => absurd h List.not_mem_nil⟩⟩⟩⟩⟩⟩⟩⟩⟩⟩⟩⟩⟩⟩⟩⟩
theorem lw_p16 : lw_okq (⟨"GreatStore$RuleReader", "readTerm", "(I)Z"⟩, 5) := ⟨⟨by decide +kernel, by decide +kernel⟩, List.mem_of_getElem? (i := 156) (by decide +kernel), List.mem_of_getElem? (i := 669) (by decide +kernel), List.mem_of_getElem? (i := 670) (by decide +kernel)⟩
theorem lw_p17 : lw_okq (⟨"GreatStore$RuleReader", "readUnit", "(I)Z"⟩, 5) := ⟨⟨by decide +kernel, by decide +kernel⟩, List.mem_of_getElem? (i := 156) (by decide +kernel), List.mem_of_getElem? (i := 673) (by decide +kernel), List.mem_of_getElem? (i := 674) (by decide +kernel)⟩
theorem lw_p18 : lw_okq (⟨"GreatStore$RuleReader", "number", "()I"⟩, 5) := ⟨⟨by decide +kernel, by decide +kernel⟩, List.mem_of_getElem? (i := 156) (by decide +kernel), List.mem_of_getElem? (i := 677) (by decide +kernel), List.mem_of_getElem? (i := 678) (by decide +kernel)⟩
theorem lw_p19 : lw_okq (⟨"GreatStore$RuleReader", "readDivisor", "()Z"⟩, 5) := ⟨⟨by decide +kernel, by decide +kernel⟩, List.mem_of_getElem? (i := 156) (by decide +kernel), List.mem_of_getElem? (i := 685) (by decide +kernel), List.mem_of_getElem? (i := 686) (by decide +kernel)⟩
theorem lw_p20 : lw_okq (⟨"GreatStore$RuleReader", "pass", "(I)Z"⟩, 5) := ⟨⟨by decide +kernel, by decide +kernel⟩, List.mem_of_getElem? (i := 156) (by decide +kernel), List.mem_of_getElem? (i := 689) (by decide +kernel), List.mem_of_getElem? (i := 690) (by decide +kernel)⟩
theorem lw_p21 : lw_okq (⟨"GreatStore$RuleReader", "readCondition", "()Z"⟩, 5) := ⟨⟨by decide +kernel, by decide +kernel⟩, List.mem_of_getElem? (i := 156) (by decide +kernel), List.mem_of_getElem? (i := 693) (by decide +kernel), List.mem_of_getElem? (i := 694) (by decide +kernel)⟩
theorem lw_p22 : lw_okq (⟨"GreatStore$Takings", "addSlip", "(LGreatStore$Slip;)V"⟩, 4) := ⟨⟨by decide +kernel, by decide +kernel⟩, List.mem_of_getElem? (i := 180) (by decide +kernel), List.mem_of_getElem? (i := 717) (by decide +kernel), List.mem_of_getElem? (i := 718) (by decide +kernel)⟩
theorem lw_p23 : lw_okq (⟨"GreatStore$Rule", "valueOf", "(IILGreatStore$Takings;)I"⟩, 9) := ⟨⟨by decide +kernel, by decide +kernel⟩, List.mem_of_getElem? (i := 120) (by decide +kernel), List.mem_of_getElem? (i := 737) (by decide +kernel), List.mem_of_getElem? (i := 738) (by decide +kernel)⟩
theorem lw_p24 : lw_okq (⟨"GreatStore$Rule", "pop", "()I"⟩, 9) := ⟨⟨by decide +kernel, by decide +kernel⟩, List.mem_of_getElem? (i := 120) (by decide +kernel), List.mem_of_getElem? (i := 742) (by decide +kernel), List.mem_of_getElem? (i := 743) (by decide +kernel)⟩
theorem lw_p25 : lw_okq (⟨"GreatStore$Rule", "push", "(I)V"⟩, 9) := ⟨⟨by decide +kernel, by decide +kernel⟩, List.mem_of_getElem? (i := 120) (by decide +kernel), List.mem_of_getElem? (i := 749) (by decide +kernel), List.mem_of_getElem? (i := 750) (by decide +kernel)⟩
theorem lw_p26 : lw_okq (⟨"GreatStore$Cuts", "tryRow", "(II)V"⟩, 6) := ⟨⟨by decide +kernel, by decide +kernel⟩, List.mem_of_getElem? (i := 202) (by decide +kernel), List.mem_of_getElem? (i := 792) (by decide +kernel), List.mem_of_getElem? (i := 793) (by decide +kernel)⟩
theorem lw_p27 : lw_okq (⟨"GreatStore$Cuts", "keepRow", "(I)V"⟩, 6) := ⟨⟨by decide +kernel, by decide +kernel⟩, List.mem_of_getElem? (i := 202) (by decide +kernel), List.mem_of_getElem? (i := 796) (by decide +kernel), List.mem_of_getElem? (i := 797) (by decide +kernel)⟩
theorem lw_p28 : lw_okq (⟨"GreatStore$Cuts", "stepRow", "(I)Z"⟩, 6) := ⟨⟨by decide +kernel, by decide +kernel⟩, List.mem_of_getElem? (i := 202) (by decide +kernel), List.mem_of_getElem? (i := 800) (by decide +kernel), List.mem_of_getElem? (i := 801) (by decide +kernel)⟩
theorem lw_p29 : lw_okq (⟨"GreatStoreModel", "isThing", "(I)Z"⟩, 55) := ⟨⟨by decide +kernel, by decide +kernel⟩, List.mem_of_getElem? (i := 804) (by decide +kernel), List.mem_of_getElem? (i := 990) (by decide +kernel), List.mem_of_getElem? (i := 991) (by decide +kernel)⟩
theorem lw_p30 : lw_okq (⟨"GreatStoreModel", "isSlip", "(I)Z"⟩, 55) := ⟨⟨by decide +kernel, by decide +kernel⟩, List.mem_of_getElem? (i := 804) (by decide +kernel), List.mem_of_getElem? (i := 1010) (by decide +kernel), List.mem_of_getElem? (i := 1011) (by decide +kernel)⟩
theorem lw_p31 : lw_okq (⟨"GreatStoreModel", "isParcel", "(I)Z"⟩, 55) := ⟨⟨by decide +kernel, by decide +kernel⟩, List.mem_of_getElem? (i := 804) (by decide +kernel), List.mem_of_getElem? (i := 1022) (by decide +kernel), List.mem_of_getElem? (i := 1023) (by decide +kernel)⟩
def lw_privs_2 : List (MethodName × Nat) := [(⟨"GreatStore$RuleReader", "readTerm", "(I)Z"⟩, 5), (⟨"GreatStore$RuleReader", "readUnit", "(I)Z"⟩, 5), (⟨"GreatStore$RuleReader", "number", "()I"⟩, 5), (⟨"GreatStore$RuleReader", "readDivisor", "()Z"⟩, 5), (⟨"GreatStore$RuleReader", "pass", "(I)Z"⟩, 5), (⟨"GreatStore$RuleReader", "readCondition", "()Z"⟩, 5), (⟨"GreatStore$Takings", "addSlip", "(LGreatStore$Slip;)V"⟩, 4), (⟨"GreatStore$Rule", "valueOf", "(IILGreatStore$Takings;)I"⟩, 9), (⟨"GreatStore$Rule", "pop", "()I"⟩, 9), (⟨"GreatStore$Rule", "push", "(I)V"⟩, 9), (⟨"GreatStore$Cuts", "tryRow", "(II)V"⟩, 6), (⟨"GreatStore$Cuts", "keepRow", "(I)V"⟩, 6), (⟨"GreatStore$Cuts", "stepRow", "(I)Z"⟩, 6), (⟨"GreatStoreModel", "isThing", "(I)Z"⟩, 55), (⟨"GreatStoreModel", "isSlip", "(I)Z"⟩, 55), (⟨"GreatStoreModel", "isParcel", "(I)Z"⟩, 55)]
theorem lw_r2 : ∀ q ∈ lw_privs_2, lw_okq q := List.forall_mem_cons.mpr ⟨lw_p16, List.forall_mem_cons.mpr ⟨lw_p17, List.forall_mem_cons.mpr ⟨lw_p18, List.forall_mem_cons.mpr ⟨lw_p19, List.forall_mem_cons.mpr ⟨lw_p20, List.forall_mem_cons.mpr ⟨lw_p21, List.forall_mem_cons.mpr ⟨lw_p22, List.forall_mem_cons.mpr ⟨lw_p23, List.forall_mem_cons.mpr ⟨lw_p24, List.forall_mem_cons.mpr ⟨lw_p25, List.forall_mem_cons.mpr ⟨lw_p26, List.forall_mem_cons.mpr ⟨lw_p27, List.forall_mem_cons.mpr ⟨lw_p28, List.forall_mem_cons.mpr ⟨lw_p29, List.forall_mem_cons.mpr ⟨lw_p30, List.forall_mem_cons.mpr ⟨lw_p31, fun _ h => absurd h List.not_mem_nil⟩⟩⟩⟩⟩⟩⟩⟩⟩⟩⟩⟩⟩⟩⟩⟩
theorem lw_p32 : lw_okq (⟨"GreatStoreModel", "next0", "()V"⟩, 55) := ⟨⟨by decide +kernel, by decide +kernel⟩, List.mem_of_getElem? (i := 804) (by decide +kernel), List.mem_of_getElem? (i := 1046) (by decide +kernel), List.mem_of_getElem? (i := 1047) (by decide +kernel)⟩
theorem lw_p33 : lw_okq (⟨"GreatStoreModel", "see", "(I)I"⟩, 55) := ⟨⟨by decide +kernel, by decide +kernel⟩, List.mem_of_getElem? (i := 804) (by decide +kernel), List.mem_of_getElem? (i := 1050) (by decide +kernel), List.mem_of_getElem? (i := 1051) (by decide +kernel)⟩
theorem lw_p34 : lw_okq (⟨"GreatStoreModel", "aLine", "()Z"⟩, 55) := ⟨⟨by decide +kernel, by decide +kernel⟩, List.mem_of_getElem? (i := 804) (by decide +kernel), List.mem_of_getElem? (i := 1074) (by decide +kernel), List.mem_of_getElem? (i := 1075) (by decide +kernel)⟩
theorem lw_p35 : lw_okq (⟨"GreatStoreModel", "bad", "(I)Z"⟩, 55) := ⟨⟨by decide +kernel, by decide +kernel⟩, List.mem_of_getElem? (i := 804) (by decide +kernel), List.mem_of_getElem? (i := 1078) (by decide +kernel), List.mem_of_getElem? (i := 1079) (by decide +kernel)⟩
theorem lw_p36 : lw_okq (⟨"GreatStoreModel", "sum", "()Z"⟩, 55) := ⟨⟨by decide +kernel, by decide +kernel⟩, List.mem_of_getElem? (i := 804) (by decide +kernel), List.mem_of_getElem? (i := 1082) (by decide +kernel), List.mem_of_getElem? (i := 1083) (by decide +kernel)⟩
theorem lw_p37 : lw_okq (⟨"GreatStoreModel", "product", "()Z"⟩, 55) := ⟨⟨by decide +kernel, by decide +kernel⟩, List.mem_of_getElem? (i := 804) (by decide +kernel), List.mem_of_getElem? (i := 1086) (by decide +kernel), List.mem_of_getElem? (i := 1087) (by decide +kernel)⟩
theorem lw_p38 : lw_okq (⟨"GreatStoreModel", "unit", "()Z"⟩, 55) := ⟨⟨by decide +kernel, by decide +kernel⟩, List.mem_of_getElem? (i := 804) (by decide +kernel), List.mem_of_getElem? (i := 1090) (by decide +kernel), List.mem_of_getElem? (i := 1091) (by decide +kernel)⟩
theorem lw_p39 : lw_okq (⟨"GreatStoreModel", "need", "(I)Z"⟩, 55) := ⟨⟨by decide +kernel, by decide +kernel⟩, List.mem_of_getElem? (i := 804) (by decide +kernel), List.mem_of_getElem? (i := 1094) (by decide +kernel), List.mem_of_getElem? (i := 1095) (by decide +kernel)⟩
theorem lw_p40 : lw_okq (⟨"GreatStoreModel", "lay", "(I)V"⟩, 55) := ⟨⟨by decide +kernel, by decide +kernel⟩, List.mem_of_getElem? (i := 804) (by decide +kernel), List.mem_of_getElem? (i := 1098) (by decide +kernel), List.mem_of_getElem? (i := 1099) (by decide +kernel)⟩
theorem lw_p41 : lw_okq (⟨"GreatStoreModel", "holds", "()Z"⟩, 55) := ⟨⟨by decide +kernel, by decide +kernel⟩, List.mem_of_getElem? (i := 804) (by decide +kernel), List.mem_of_getElem? (i := 1106) (by decide +kernel), List.mem_of_getElem? (i := 1107) (by decide +kernel)⟩
theorem lw_p42 : lw_okq (⟨"GreatStoreModel", "takes", "(II)V"⟩, 55) := ⟨⟨by decide +kernel, by decide +kernel⟩, List.mem_of_getElem? (i := 804) (by decide +kernel), List.mem_of_getElem? (i := 1126) (by decide +kernel), List.mem_of_getElem? (i := 1127) (by decide +kernel)⟩
theorem lw_p43 : lw_okq (⟨"GreatStoreModel", "worked", "(II)I"⟩, 55) := ⟨⟨by decide +kernel, by decide +kernel⟩, List.mem_of_getElem? (i := 804) (by decide +kernel), List.mem_of_getElem? (i := 1133) (by decide +kernel), List.mem_of_getElem? (i := 1134) (by decide +kernel)⟩
theorem lw_p44 : lw_okq (⟨"GreatStoreModel", "tries", "(II)V"⟩, 55) := ⟨⟨by decide +kernel, by decide +kernel⟩, List.mem_of_getElem? (i := 804) (by decide +kernel), List.mem_of_getElem? (i := 1156) (by decide +kernel), List.mem_of_getElem? (i := 1157) (by decide +kernel)⟩
theorem lw_p45 : lw_okq (⟨"GreatStoreModel", "nextRow", "(I)Z"⟩, 55) := ⟨⟨by decide +kernel, by decide +kernel⟩, List.mem_of_getElem? (i := 804) (by decide +kernel), List.mem_of_getElem? (i := 1160) (by decide +kernel), List.mem_of_getElem? (i := 1161) (by decide +kernel)⟩
def lw_privs_3 : List (MethodName × Nat) := [(⟨"GreatStoreModel", "next0", "()V"⟩, 55), (⟨"GreatStoreModel", "see", "(I)I"⟩, 55), (⟨"GreatStoreModel", "aLine", "()Z"⟩, 55), (⟨"GreatStoreModel", "bad", "(I)Z"⟩, 55), (⟨"GreatStoreModel", "sum", "()Z"⟩, 55), (⟨"GreatStoreModel", "product", "()Z"⟩, 55), (⟨"GreatStoreModel", "unit", "()Z"⟩, 55), (⟨"GreatStoreModel", "need", "(I)Z"⟩, 55), (⟨"GreatStoreModel", "lay", "(I)V"⟩, 55), (⟨"GreatStoreModel", "holds", "()Z"⟩, 55), (⟨"GreatStoreModel", "takes", "(II)V"⟩, 55), (⟨"GreatStoreModel", "worked", "(II)I"⟩, 55), (⟨"GreatStoreModel", "tries", "(II)V"⟩, 55), (⟨"GreatStoreModel", "nextRow", "(I)Z"⟩, 55)]
theorem lw_r3 : ∀ q ∈ lw_privs_3, lw_okq q := List.forall_mem_cons.mpr ⟨lw_p32, List.forall_mem_cons.mpr ⟨lw_p33, List.forall_mem_cons.mpr ⟨lw_p34, List.forall_mem_cons.mpr ⟨lw_p35, List.forall_mem_cons.mpr ⟨lw_p36, List.forall_mem_cons.mpr ⟨lw_p37, List.forall_mem_cons.mpr ⟨lw_p38, List.forall_mem_cons.mpr ⟨lw_p39, List.forall_mem_cons.mpr ⟨lw_p40, List.forall_mem_cons.mpr ⟨lw_p41, List.forall_mem_cons.mpr ⟨lw_p42, List.forall_mem_cons.mpr ⟨lw_p43, List.forall_mem_cons.mpr ⟨lw_p44, List.forall_mem_cons.mpr ⟨lw_p45, fun _ h => absurd h List.not_mem_nil⟩⟩⟩⟩⟩⟩⟩⟩⟩⟩⟩⟩⟩⟩
def lw_privs : List (MethodName × Nat) := lw_privs_1 ++ (lw_privs_2 ++ (lw_privs_3))
def lw_tbl : List Cond := k2_sels lw_privs ++ tables_1
theorem lw_privs_ok : ∀ q ∈ lw_privs, lw_okq q := by
  show ∀ q ∈ lw_privs_1 ++ (lw_privs_2 ++ (lw_privs_3)), lw_okq q
  exact List.forall_mem_append.mpr ⟨lw_r1, List.forall_mem_append.mpr ⟨lw_r2, lw_r3⟩⟩
def RX0 : String := "GreatStore$Cuts"
def TX0 : u_T := fun k => match k with
  | 0 => ("GreatStore$Cuts", "prices", "[I", true)
  | 1 => ("GreatStore$Cuts", "wants", "[I", true)
  | 2 => ("GreatStore$Cuts", "row", "[I", true)
  | 3 => ("GreatStore$Cuts", "bestRow", "[I", true)
  | 4 => ("GreatStore$Cuts", "bestSum", "I", false)
  | _ => ("GreatStore$Cuts", "bestLeft", "I", false)
def tyX0 : Nat → FieldType := fun k => match k with
  | 0 => .array .int
  | 1 => .array .int
  | 2 => .array .int
  | 3 => .array .int
  | 4 => .int
  | _ => .int
theorem nmX0 : ∀ a, a < 6 → ∀ b, b < 6 → a ≠ b → (TX0 a).2.1 ≠ (TX0 b).2.1 := by decide +kernel
theorem tyX0_ok : ∀ k, k < 6 → parseFieldDescriptor (TX0 k).2.2.1 = some (tyX0 k) := by decide +kernel
abbrev cX0_init : ByteArray := prog_2_method_1_code
def yX0_init : MethodName := ⟨RX0, "<init>", "()V"⟩
abbrev cX0_seek : ByteArray := prog_2_method_2_code
def yX0_seek : MethodName := ⟨RX0, "seek", "(III)V"⟩
abbrev cX0_tryRow : ByteArray := prog_2_method_3_code
def yX0_tryRow : MethodName := ⟨RX0, "tryRow", "(II)V"⟩
abbrev cX0_keepRow : ByteArray := prog_2_method_4_code
def yX0_keepRow : MethodName := ⟨RX0, "keepRow", "(I)V"⟩
abbrev cX0_stepRow : ByteArray := prog_2_method_5_code
def yX0_stepRow : MethodName := ⟨RX0, "stepRow", "(I)Z"⟩
def RX1 : String := "GreatStore$Rule"
def TX1 : u_T := fun k => match k with
  | 0 => ("GreatStore$Rule", "steps", "[I", true)
  | 1 => ("GreatStore$Rule", "numbers", "[I", true)
  | 2 => ("GreatStore$Rule", "payAt", "[I", true)
  | 3 => ("GreatStore$Rule", "whenAt", "[I", true)
  | 4 => ("GreatStore$Rule", "endAt", "[I", true)
  | 5 => ("GreatStore$Rule", "stack", "[I", true)
  | 6 => ("GreatStore$Rule", "stepCount", "I", false)
  | 7 => ("GreatStore$Rule", "lineCount", "I", false)
  | _ => ("GreatStore$Rule", "height", "I", false)
def tyX1 : Nat → FieldType := fun k => match k with
  | 0 => .array .int
  | 1 => .array .int
  | 2 => .array .int
  | 3 => .array .int
  | 4 => .array .int
  | 5 => .array .int
  | 6 => .int
  | 7 => .int
  | _ => .int
theorem nmX1 : ∀ a, a < 9 → ∀ b, b < 9 → a ≠ b → (TX1 a).2.1 ≠ (TX1 b).2.1 := by decide +kernel
theorem tyX1_ok : ∀ k, k < 9 → parseFieldDescriptor (TX1 k).2.2.1 = some (tyX1 k) := by decide +kernel
abbrev cX1_init : ByteArray := prog_3_method_1_code
def yX1_init : MethodName := ⟨RX1, "<init>", "()V"⟩
abbrev cX1_clear : ByteArray := prog_3_method_2_code
def yX1_clear : MethodName := ⟨RX1, "clear", "()V"⟩
abbrev cX1_addStep : ByteArray := prog_3_method_3_code
def yX1_addStep : MethodName := ⟨RX1, "addStep", "(II)V"⟩
abbrev cX1_addLine : ByteArray := prog_3_method_4_code
def yX1_addLine : MethodName := ⟨RX1, "addLine", "(II)V"⟩
abbrev cX1_lineFor : ByteArray := prog_3_method_5_code
def yX1_lineFor : MethodName := ⟨RX1, "lineFor", "(LGreatStore$Takings;)I"⟩
abbrev cX1_payFor : ByteArray := prog_3_method_6_code
def yX1_payFor : MethodName := ⟨RX1, "payFor", "(LGreatStore$Takings;)I"⟩
abbrev cX1_valueOf : ByteArray := prog_3_method_7_code
def yX1_valueOf : MethodName := ⟨RX1, "valueOf", "(IILGreatStore$Takings;)I"⟩
abbrev cX1_push : ByteArray := prog_3_method_8_code
def yX1_push : MethodName := ⟨RX1, "push", "(I)V"⟩
abbrev cX1_pop : ByteArray := prog_3_method_9_code
def yX1_pop : MethodName := ⟨RX1, "pop", "()I"⟩
abbrev cX1_part : ByteArray := prog_3_method_10_code
def yX1_part : MethodName := ⟨RX1, "part", "(II)I"⟩
abbrev cX1_joined : ByteArray := prog_3_method_11_code
def yX1_joined : MethodName := ⟨RX1, "joined", "(III)I"⟩
def RX2 : String := "GreatStore$RuleReader"
def TX2 : u_T := fun k => match k with
  | 0 => ("GreatStore$RuleReader", "tokens", "LGreatStore$Tokens;", true)
  | 1 => ("GreatStore$RuleReader", "target", "LGreatStore$Rule;", false)
  | 2 => ("GreatStore$RuleReader", "at", "I", false)
  | 3 => ("GreatStore$RuleReader", "fault", "I", false)
  | _ => ("GreatStore$RuleReader", "place", "I", false)
def tyX2 : Nat → FieldType := fun k => match k with
  | 0 => .object "GreatStore$Tokens"
  | 1 => .object "GreatStore$Rule"
  | 2 => .int
  | 3 => .int
  | _ => .int
theorem nmX2 : ∀ a, a < 5 → ∀ b, b < 5 → a ≠ b → (TX2 a).2.1 ≠ (TX2 b).2.1 := by decide +kernel
theorem tyX2_ok : ∀ k, k < 5 → parseFieldDescriptor (TX2 k).2.2.1 = some (tyX2 k) := by decide +kernel
abbrev cX2_init : ByteArray := prog_4_method_1_code
def yX2_init : MethodName := ⟨RX2, "<init>", "(LGreatStore$Tokens;LGreatStore$Rule;)V"⟩
abbrev cX2_read : ByteArray := prog_4_method_2_code
def yX2_read : MethodName := ⟨RX2, "read", "(LGreatStore$Rule;)Z"⟩
abbrev cX2_readLine : ByteArray := prog_4_method_3_code
def yX2_readLine : MethodName := ⟨RX2, "readLine", "(I)Z"⟩
abbrev cX2_readCondition : ByteArray := prog_4_method_4_code
def yX2_readCondition : MethodName := ⟨RX2, "readCondition", "()Z"⟩
abbrev cX2_readSum : ByteArray := prog_4_method_5_code
def yX2_readSum : MethodName := ⟨RX2, "readSum", "(I)Z"⟩
abbrev cX2_readTerm : ByteArray := prog_4_method_6_code
def yX2_readTerm : MethodName := ⟨RX2, "readTerm", "(I)Z"⟩
abbrev cX2_readDivisor : ByteArray := prog_4_method_7_code
def yX2_readDivisor : MethodName := ⟨RX2, "readDivisor", "()Z"⟩
abbrev cX2_readUnit : ByteArray := prog_4_method_8_code
def yX2_readUnit : MethodName := ⟨RX2, "readUnit", "(I)Z"⟩
abbrev cX2_pass : ByteArray := prog_4_method_9_code
def yX2_pass : MethodName := ⟨RX2, "pass", "(I)Z"⟩
abbrev cX2_kind : ByteArray := prog_4_method_10_code
def yX2_kind : MethodName := ⟨RX2, "kind", "()I"⟩
abbrev cX2_number : ByteArray := prog_4_method_11_code
def yX2_number : MethodName := ⟨RX2, "number", "()I"⟩
abbrev cX2_fail : ByteArray := prog_4_method_12_code
def yX2_fail : MethodName := ⟨RX2, "fail", "(I)Z"⟩
def RX3 : String := "GreatStore$Slip"
def TX3 : u_T := fun k => match k with
  | 0 => ("GreatStore$Slip", "kind", "I", true)
  | 1 => ("GreatStore$Slip", "clerk", "I", true)
  | 2 => ("GreatStore$Slip", "account", "I", true)
  | 3 => ("GreatStore$Slip", "thing", "LGreatStore$Thing;", true)
  | 4 => ("GreatStore$Slip", "pieces", "I", true)
  | 5 => ("GreatStore$Slip", "house", "I", true)
  | 6 => ("GreatStore$Slip", "day", "I", true)
  | 7 => ("GreatStore$Slip", "worth", "I", true)
  | 8 => ("GreatStore$Slip", "told", "I", false)
  | 9 => ("GreatStore$Slip", "sold", "I", false)
  | 10 => ("GreatStore$Slip", "cameBack", "I", false)
  | _ => ("GreatStore$Slip", "round", "I", false)
def tyX3 : Nat → FieldType := fun k => match k with
  | 0 => .int
  | 1 => .int
  | 2 => .int
  | 3 => .object "GreatStore$Thing"
  | 4 => .int
  | 5 => .int
  | 6 => .int
  | 7 => .int
  | 8 => .int
  | 9 => .int
  | 10 => .int
  | _ => .int
theorem nmX3 : ∀ a, a < 12 → ∀ b, b < 12 → a ≠ b → (TX3 a).2.1 ≠ (TX3 b).2.1 := by decide +kernel
theorem tyX3_ok : ∀ k, k < 12 → parseFieldDescriptor (TX3 k).2.2.1 = some (tyX3 k) := by decide +kernel
abbrev cX3_init : ByteArray := prog_5_method_1_code
def yX3_init : MethodName := ⟨RX3, "<init>", "(IIILGreatStore$Thing;III)V"⟩
abbrev cX3_state : ByteArray := prog_5_method_2_code
def yX3_state : MethodName := ⟨RX3, "state", "()I"⟩
abbrev cX3_isParcel : ByteArray := prog_5_method_3_code
def yX3_isParcel : MethodName := ⟨RX3, "isParcel", "()Z"⟩
abbrev cX3_sellBy : ByteArray := prog_5_method_4_code
def yX3_sellBy : MethodName := ⟨RX3, "sellBy", "(I)V"⟩
abbrev cX3_canComeBack : ByteArray := prog_5_method_5_code
def yX3_canComeBack : MethodName := ⟨RX3, "canComeBack", "(I)Z"⟩
abbrev cX3_wasSoldIn : ByteArray := prog_5_method_6_code
def yX3_wasSoldIn : MethodName := ⟨RX3, "wasSoldIn", "(I)Z"⟩
abbrev cX3_cameBackSoldIn : ByteArray := prog_5_method_7_code
def yX3_cameBackSoldIn : MethodName := ⟨RX3, "cameBackSoldIn", "(I)Z"⟩
abbrev cX3_statedWorth : ByteArray := prog_5_method_8_code
def yX3_statedWorth : MethodName := ⟨RX3, "statedWorth", "(II)I"⟩
def RX4 : String := "GreatStore$Takings"
def TX4 : u_T := fun k => match k with
  | 0 => ("GreatStore$Takings", "sum", "I", false)
  | 1 => ("GreatStore$Takings", "slipCount", "I", false)
  | 2 => ("GreatStore$Takings", "cameBack", "I", false)
  | _ => ("GreatStore$Takings", "month", "I", false)
def tyX4 : Nat → FieldType := fun k => match k with
  | 0 => .int
  | 1 => .int
  | 2 => .int
  | _ => .int
theorem nmX4 : ∀ a, a < 4 → ∀ b, b < 4 → a ≠ b → (TX4 a).2.1 ≠ (TX4 b).2.1 := by decide +kernel
theorem tyX4_ok : ∀ k, k < 4 → parseFieldDescriptor (TX4 k).2.2.1 = some (tyX4 k) := by decide +kernel
abbrev cX4_init : ByteArray := prog_6_method_1_code
def yX4_init : MethodName := ⟨RX4, "<init>", "()V"⟩
abbrev cX4_gather : ByteArray := prog_6_method_2_code
def yX4_gather : MethodName := ⟨RX4, "gather", "(Ljava/util/ArrayList;II)V"⟩
abbrev cX4_addSlip : ByteArray := prog_6_method_3_code
def yX4_addSlip : MethodName := ⟨RX4, "addSlip", "(LGreatStore$Slip;)V"⟩
abbrev cX4_valueOfWord : ByteArray := prog_6_method_4_code
def yX4_valueOfWord : MethodName := ⟨RX4, "valueOfWord", "(I)I"⟩
def RX5 : String := "GreatStore$Tape"
def TX5 : u_T := fun k => match k with
  | 0 => ("GreatStore$Tape", "bytes", "[B", true)
  | _ => ("GreatStore$Tape", "length", "I", false)
def tyX5 : Nat → FieldType := fun k => match k with
  | 0 => .array .byte
  | _ => .int
theorem nmX5 : ∀ a, a < 2 → ∀ b, b < 2 → a ≠ b → (TX5 a).2.1 ≠ (TX5 b).2.1 := by decide +kernel
theorem tyX5_ok : ∀ k, k < 2 → parseFieldDescriptor (TX5 k).2.2.1 = some (tyX5 k) := by decide +kernel
abbrev cX5_init : ByteArray := prog_7_method_1_code
def yX5_init : MethodName := ⟨RX5, "<init>", "()V"⟩
abbrev cX5_append : ByteArray := prog_7_method_2_code
def yX5_append : MethodName := ⟨RX5, "append", "(I)V"⟩
def RX6 : String := "GreatStore$Thing"
def TX6 : u_T := fun k => match k with
  | 0 => ("GreatStore$Thing", "tags", "[I", true)
  | 1 => ("GreatStore$Thing", "came", "I", true)
  | 2 => ("GreatStore$Thing", "stock", "I", false)
  | 3 => ("GreatStore$Thing", "raised", "I", false)
  | _ => ("GreatStore$Thing", "lost", "I", false)
def tyX6 : Nat → FieldType := fun k => match k with
  | 0 => .array .int
  | 1 => .int
  | 2 => .int
  | 3 => .int
  | _ => .int
theorem nmX6 : ∀ a, a < 5 → ∀ b, b < 5 → a ≠ b → (TX6 a).2.1 ≠ (TX6 b).2.1 := by decide +kernel
theorem tyX6_ok : ∀ k, k < 5 → parseFieldDescriptor (TX6 k).2.2.1 = some (tyX6 k) := by decide +kernel
abbrev cX6_init : ByteArray := prog_8_method_1_code
def yX6_init : MethodName := ⟨RX6, "<init>", "(III)V"⟩
abbrev cX6_tagOn : ByteArray := prog_8_method_2_code
def yX6_tagOn : MethodName := ⟨RX6, "tagOn", "(I)I"⟩
abbrev cX6_keepTag : ByteArray := prog_8_method_3_code
def yX6_keepTag : MethodName := ⟨RX6, "keepTag", "(I)V"⟩
abbrev cX6_changeTag : ByteArray := prog_8_method_4_code
def yX6_changeTag : MethodName := ⟨RX6, "changeTag", "(II)I"⟩
def RX7 : String := "GreatStore$Tokens"
def TX7 : u_T := fun k => match k with
  | 0 => ("GreatStore$Tokens", "kinds", "[I", true)
  | 1 => ("GreatStore$Tokens", "places", "[I", true)
  | 2 => ("GreatStore$Tokens", "numbers", "[I", true)
  | _ => ("GreatStore$Tokens", "tokenCount", "I", false)
def tyX7 : Nat → FieldType := fun k => match k with
  | 0 => .array .int
  | 1 => .array .int
  | 2 => .array .int
  | _ => .int
theorem nmX7 : ∀ a, a < 4 → ∀ b, b < 4 → a ≠ b → (TX7 a).2.1 ≠ (TX7 b).2.1 := by decide +kernel
theorem tyX7_ok : ∀ k, k < 4 → parseFieldDescriptor (TX7 k).2.2.1 = some (tyX7 k) := by decide +kernel
abbrev cX7_init : ByteArray := prog_9_method_1_code
def yX7_init : MethodName := ⟨RX7, "<init>", "()V"⟩
abbrev cX7_scan : ByteArray := prog_9_method_2_code
def yX7_scan : MethodName := ⟨RX7, "scan", "([BI)V"⟩
abbrev cX7_scanToken : ByteArray := prog_9_method_3_code
def yX7_scanToken : MethodName := ⟨RX7, "scanToken", "([BII)I"⟩
abbrev cX7_add : ByteArray := prog_9_method_4_code
def yX7_add : MethodName := ⟨RX7, "add", "(III)V"⟩
abbrev cX7_isLetter : ByteArray := prog_9_method_5_code
def yX7_isLetter : MethodName := ⟨RX7, "isLetter", "(I)Z"⟩
abbrev cX7_isDigit : ByteArray := prog_9_method_6_code
def yX7_isDigit : MethodName := ⟨RX7, "isDigit", "(I)Z"⟩
abbrev cX7_numberOf : ByteArray := prog_9_method_7_code
def yX7_numberOf : MethodName := ⟨RX7, "numberOf", "([BII)I"⟩
abbrev cX7_wordKind : ByteArray := prog_9_method_8_code
def yX7_wordKind : MethodName := ⟨RX7, "wordKind", "([BII)I"⟩
abbrev cX7_isWord : ByteArray := prog_9_method_9_code
def yX7_isWord : MethodName := ⟨RX7, "isWord", "(Ljava/lang/String;[BII)Z"⟩
def RX8 : String := "GreatStore$Van"
def TX8 : u_T := fun k => match k with
  | 0 => ("GreatStore$Van", "houses", "[I", true)
  | 1 => ("GreatStore$Van", "asked", "[Z", true)
  | 2 => ("GreatStore$Van", "houseCount", "I", false)
  | _ => ("GreatStore$Van", "roundsToday", "I", false)
def tyX8 : Nat → FieldType := fun k => match k with
  | 0 => .array .int
  | 1 => .array .boolean
  | 2 => .int
  | _ => .int
theorem nmX8 : ∀ a, a < 4 → ∀ b, b < 4 → a ≠ b → (TX8 a).2.1 ≠ (TX8 b).2.1 := by decide +kernel
theorem tyX8_ok : ∀ k, k < 4 → parseFieldDescriptor (TX8 k).2.2.1 = some (tyX8 k) := by decide +kernel
abbrev cX8_init : ByteArray := prog_10_method_1_code
def yX8_init : MethodName := ⟨RX8, "<init>", "()V"⟩
abbrev cX8_houseAt : ByteArray := prog_10_method_2_code
def yX8_houseAt : MethodName := ⟨RX8, "houseAt", "(I)I"⟩
abbrev cX8_goRound : ByteArray := prog_10_method_3_code
def yX8_goRound : MethodName := ⟨RX8, "goRound", "(Ljava/util/ArrayList;II)I"⟩
abbrev cX8_askOnce : ByteArray := prog_10_method_4_code
def yX8_askOnce : MethodName := ⟨RX8, "askOnce", "(I)Z"⟩
abbrev cX8_piecesFor : ByteArray := prog_10_method_5_code
def yX8_piecesFor : MethodName := ⟨RX8, "piecesFor", "(Ljava/util/ArrayList;I)I"⟩
abbrev cX8_take : ByteArray := prog_10_method_6_code
def yX8_take : MethodName := ⟨RX8, "take", "(Ljava/util/ArrayList;II)V"⟩
def RX9 : String := "GreatStore"
def TX9 : u_T := fun k => match k with
  | 0 => ("GreatStore", "things", "Ljava/util/ArrayList;", true)
  | 1 => ("GreatStore", "slips", "Ljava/util/ArrayList;", true)
  | 2 => ("GreatStore", "wagon", "LGreatStore$Van;", true)
  | 3 => ("GreatStore", "tape", "LGreatStore$Tape;", true)
  | 4 => ("GreatStore", "tokens", "LGreatStore$Tokens;", true)
  | 5 => ("GreatStore", "reader", "LGreatStore$RuleReader;", true)
  | 6 => ("GreatStore", "takings", "LGreatStore$Takings;", true)
  | 7 => ("GreatStore", "cuts", "LGreatStore$Cuts;", true)
  | 8 => ("GreatStore", "theRule", "LGreatStore$Rule;", false)
  | 9 => ("GreatStore", "spareRule", "LGreatStore$Rule;", false)
  | _ => ("GreatStore", "today", "I", false)
def tyX9 : Nat → FieldType := fun k => match k with
  | 0 => .object "java/util/ArrayList"
  | 1 => .object "java/util/ArrayList"
  | 2 => .object "GreatStore$Van"
  | 3 => .object "GreatStore$Tape"
  | 4 => .object "GreatStore$Tokens"
  | 5 => .object "GreatStore$RuleReader"
  | 6 => .object "GreatStore$Takings"
  | 7 => .object "GreatStore$Cuts"
  | 8 => .object "GreatStore$Rule"
  | 9 => .object "GreatStore$Rule"
  | _ => .int
theorem nmX9 : ∀ a, a < 11 → ∀ b, b < 11 → a ≠ b → (TX9 a).2.1 ≠ (TX9 b).2.1 := by decide +kernel
theorem tyX9_ok : ∀ k, k < 11 → parseFieldDescriptor (TX9 k).2.2.1 = some (tyX9 k) := by decide +kernel
abbrev cX9_init : ByteArray := prog_1_method_1_code
def yX9_init : MethodName := ⟨RX9, "<init>", "()V"⟩
abbrev cX9_thing : ByteArray := prog_1_method_2_code
def yX9_thing : MethodName := ⟨RX9, "thing", "(II)I"⟩
abbrev cX9_tag : ByteArray := prog_1_method_3_code
def yX9_tag : MethodName := ⟨RX9, "tag", "(II)I"⟩
abbrev cX9_of : ByteArray := prog_1_method_4_code
def yX9_of : MethodName := ⟨RX9, "of", "(II)I"⟩
abbrev cX9_next : ByteArray := prog_1_method_5_code
def yX9_next : MethodName := ⟨RX9, "next", "()I"⟩
abbrev cX9_slip : ByteArray := prog_1_method_6_code
def yX9_slip : MethodName := ⟨RX9, "slip", "(IIIIIII)I"⟩
abbrev cX9_paper : ByteArray := prog_1_method_7_code
def yX9_paper : MethodName := ⟨RX9, "paper", "(II)I"⟩
abbrev cX9_back : ByteArray := prog_1_method_8_code
def yX9_back : MethodName := ⟨RX9, "back", "(I)Z"⟩
abbrev cX9_look : ByteArray := prog_1_method_9_code
def yX9_look : MethodName := ⟨RX9, "look", "(I)I"⟩
abbrev cX9_van : ByteArray := prog_1_method_10_code
def yX9_van : MethodName := ⟨RX9, "van", "(I)I"⟩
abbrev cX9_house : ByteArray := prog_1_method_11_code
def yX9_house : MethodName := ⟨RX9, "house", "(I)I"⟩
abbrev cX9_feed : ByteArray := prog_1_method_12_code
def yX9_feed : MethodName := ⟨RX9, "feed", "(IIIII)I"⟩
abbrev cX9_end : ByteArray := prog_1_method_13_code
def yX9_end : MethodName := ⟨RX9, "end", "(I)Z"⟩
abbrev cX9_rule : ByteArray := prog_1_method_14_code
def yX9_rule : MethodName := ⟨RX9, "rule", "()I"⟩
abbrev cX9_fault : ByteArray := prog_1_method_15_code
def yX9_fault : MethodName := ⟨RX9, "fault", "(I)I"⟩
abbrev cX9_pay : ByteArray := prog_1_method_16_code
def yX9_pay : MethodName := ⟨RX9, "pay", "(III)I"⟩
abbrev cX9_statement : ByteArray := prog_1_method_17_code
def yX9_statement : MethodName := ⟨RX9, "statement", "(III)I"⟩
abbrev cX9_count : ByteArray := prog_1_method_18_code
def yX9_count : MethodName := ⟨RX9, "count", "(II)I"⟩
abbrev cX9_level : ByteArray := prog_1_method_19_code
def yX9_level : MethodName := ⟨RX9, "level", "(III)Z"⟩
abbrev cX9_best : ByteArray := prog_1_method_20_code
def yX9_best : MethodName := ⟨RX9, "best", "(IIII)I"⟩
abbrev cX9_thingAt : ByteArray := prog_1_method_21_code
def yX9_thingAt : MethodName := ⟨RX9, "thingAt", "(I)LGreatStore$Thing;"⟩
abbrev cX9_slipAt : ByteArray := prog_1_method_22_code
def yX9_slipAt : MethodName := ⟨RX9, "slipAt", "(I)LGreatStore$Slip;"⟩
abbrev cX9_countOnApproval : ByteArray := prog_1_method_23_code
def yX9_countOnApproval : MethodName := ⟨RX9, "countOnApproval", "()I"⟩
abbrev cX9_countParcels : ByteArray := prog_1_method_24_code
def yX9_countParcels : MethodName := ⟨RX9, "countParcels", "()I"⟩
abbrev cX9_isWithin : ByteArray := prog_1_method_25_code
def yX9_isWithin : MethodName := ⟨RX9, "isWithin", "(III)Z"⟩
abbrev cX9_isTag : ByteArray := prog_1_method_26_code
def yX9_isTag : MethodName := ⟨RX9, "isTag", "(I)Z"⟩
abbrev cX9_isLevel : ByteArray := prog_1_method_27_code
def yX9_isLevel : MethodName := ⟨RX9, "isLevel", "(I)Z"⟩
abbrev cX9_isHouseOrNone : ByteArray := prog_1_method_28_code
def yX9_isHouseOrNone : MethodName := ⟨RX9, "isHouseOrNone", "(I)Z"⟩
abbrev cX9_isBuyer : ByteArray := prog_1_method_29_code
def yX9_isBuyer : MethodName := ⟨RX9, "isBuyer", "(II)Z"⟩
def RX10 : String := "GreatStoreModel"
def TX10 : u_T := fun k => match k with
  | 0 => ("GreatStoreModel", "day", "I", false)
  | 1 => ("GreatStoreModel", "things", "I", false)
  | 2 => ("GreatStoreModel", "slips", "I", false)
  | 3 => ("GreatStoreModel", "tag", "[I", true)
  | 4 => ("GreatStoreModel", "stock", "[I", true)
  | 5 => ("GreatStoreModel", "raised", "[I", true)
  | 6 => ("GreatStoreModel", "lost", "[I", true)
  | 7 => ("GreatStoreModel", "came", "[I", true)
  | 8 => ("GreatStoreModel", "kind", "[I", true)
  | 9 => ("GreatStoreModel", "clerk", "[I", true)
  | 10 => ("GreatStoreModel", "account", "[I", true)
  | 11 => ("GreatStoreModel", "thingOf", "[I", true)
  | 12 => ("GreatStoreModel", "pieces", "[I", true)
  | 13 => ("GreatStoreModel", "houseOf", "[I", true)
  | 14 => ("GreatStoreModel", "dayOf", "[I", true)
  | 15 => ("GreatStoreModel", "toldOn", "[I", true)
  | 16 => ("GreatStoreModel", "soldOn", "[I", true)
  | 17 => ("GreatStoreModel", "backOn", "[I", true)
  | 18 => ("GreatStoreModel", "round", "[I", true)
  | 19 => ("GreatStoreModel", "worth", "[I", true)
  | 20 => ("GreatStoreModel", "rounds", "I", false)
  | 21 => ("GreatStoreModel", "housed", "I", false)
  | 22 => ("GreatStoreModel", "houses", "[I", true)
  | 23 => ("GreatStoreModel", "asked", "[Z", true)
  | 24 => ("GreatStoreModel", "lines", "I", false)
  | 25 => ("GreatStoreModel", "freshLines", "I", false)
  | 26 => ("GreatStoreModel", "freshSteps", "I", false)
  | 27 => ("GreatStoreModel", "from", "[I", true)
  | 28 => ("GreatStoreModel", "when", "[I", true)
  | 29 => ("GreatStoreModel", "step", "[I", true)
  | 30 => ("GreatStoreModel", "freshFrom", "[I", true)
  | 31 => ("GreatStoreModel", "freshWhen", "[I", true)
  | 32 => ("GreatStoreModel", "fresh", "[I", true)
  | 33 => ("GreatStoreModel", "pile", "[I", true)
  | 34 => ("GreatStoreModel", "tape", "[I", true)
  | 35 => ("GreatStoreModel", "taped", "I", false)
  | 36 => ("GreatStoreModel", "at", "I", false)
  | 37 => ("GreatStoreModel", "token", "I", false)
  | 38 => ("GreatStoreModel", "tokenAt", "I", false)
  | 39 => ("GreatStoreModel", "value", "I", false)
  | 40 => ("GreatStoreModel", "wrong", "I", false)
  | 41 => ("GreatStoreModel", "wrongAt", "I", false)
  | 42 => ("GreatStoreModel", "faultKind", "I", false)
  | 43 => ("GreatStoreModel", "depth", "I", false)
  | 44 => ("GreatStoreModel", "faultPlace", "I", false)
  | 45 => ("GreatStoreModel", "tSum", "I", false)
  | 46 => ("GreatStoreModel", "tSlips", "I", false)
  | 47 => ("GreatStoreModel", "tBack", "I", false)
  | 48 => ("GreatStoreModel", "tMonth", "I", false)
  | 49 => ("GreatStoreModel", "price", "[I", true)
  | 50 => ("GreatStoreModel", "want", "[I", true)
  | 51 => ("GreatStoreModel", "row", "[I", true)
  | 52 => ("GreatStoreModel", "bestRow", "[I", true)
  | 53 => ("GreatStoreModel", "bestSum", "I", false)
  | _ => ("GreatStoreModel", "bestLeft", "I", false)
def tyX10 : Nat → FieldType := fun k => match k with
  | 0 => .int
  | 1 => .int
  | 2 => .int
  | 3 => .array .int
  | 4 => .array .int
  | 5 => .array .int
  | 6 => .array .int
  | 7 => .array .int
  | 8 => .array .int
  | 9 => .array .int
  | 10 => .array .int
  | 11 => .array .int
  | 12 => .array .int
  | 13 => .array .int
  | 14 => .array .int
  | 15 => .array .int
  | 16 => .array .int
  | 17 => .array .int
  | 18 => .array .int
  | 19 => .array .int
  | 20 => .int
  | 21 => .int
  | 22 => .array .int
  | 23 => .array .boolean
  | 24 => .int
  | 25 => .int
  | 26 => .int
  | 27 => .array .int
  | 28 => .array .int
  | 29 => .array .int
  | 30 => .array .int
  | 31 => .array .int
  | 32 => .array .int
  | 33 => .array .int
  | 34 => .array .int
  | 35 => .int
  | 36 => .int
  | 37 => .int
  | 38 => .int
  | 39 => .int
  | 40 => .int
  | 41 => .int
  | 42 => .int
  | 43 => .int
  | 44 => .int
  | 45 => .int
  | 46 => .int
  | 47 => .int
  | 48 => .int
  | 49 => .array .int
  | 50 => .array .int
  | 51 => .array .int
  | 52 => .array .int
  | 53 => .int
  | _ => .int
theorem nmX10 : ∀ a, a < 55 → ∀ b, b < 55 → a ≠ b → (TX10 a).2.1 ≠ (TX10 b).2.1 := by decide +kernel
theorem tyX10_ok : ∀ k, k < 55 → parseFieldDescriptor (TX10 k).2.2.1 = some (tyX10 k) := by decide +kernel
abbrev cX10_init : ByteArray := prog_12_method_1_code
def yX10_init : MethodName := ⟨RX10, "<init>", "()V"⟩
abbrev cX10_isIn : ByteArray := prog_12_method_2_code
def yX10_isIn : MethodName := ⟨RX10, "isIn", "(III)Z"⟩
abbrev cX10_isThing : ByteArray := prog_12_method_3_code
def yX10_isThing : MethodName := ⟨RX10, "isThing", "(I)Z"⟩
abbrev cX10_isTag : ByteArray := prog_12_method_4_code
def yX10_isTag : MethodName := ⟨RX10, "isTag", "(I)Z"⟩
abbrev cX10_thing : ByteArray := prog_12_method_5_code
def yX10_thing : MethodName := ⟨RX10, "thing", "(II)I"⟩
abbrev cX10_tag : ByteArray := prog_12_method_6_code
def yX10_tag : MethodName := ⟨RX10, "tag", "(II)I"⟩
abbrev cX10_of : ByteArray := prog_12_method_7_code
def yX10_of : MethodName := ⟨RX10, "of", "(II)I"⟩
abbrev cX10_next : ByteArray := prog_12_method_8_code
def yX10_next : MethodName := ⟨RX10, "next", "()I"⟩
abbrev cX10_slip : ByteArray := prog_12_method_9_code
def yX10_slip : MethodName := ⟨RX10, "slip", "(IIIIIII)I"⟩
abbrev cX10_isSlip : ByteArray := prog_12_method_10_code
def yX10_isSlip : MethodName := ⟨RX10, "isSlip", "(I)Z"⟩
abbrev cX10_paper : ByteArray := prog_12_method_11_code
def yX10_paper : MethodName := ⟨RX10, "paper", "(II)I"⟩
abbrev cX10_back : ByteArray := prog_12_method_12_code
def yX10_back : MethodName := ⟨RX10, "back", "(I)Z"⟩
abbrev cX10_isParcel : ByteArray := prog_12_method_13_code
def yX10_isParcel : MethodName := ⟨RX10, "isParcel", "(I)Z"⟩
abbrev cX10_look : ByteArray := prog_12_method_14_code
def yX10_look : MethodName := ⟨RX10, "look", "(I)I"⟩
abbrev cX10_van : ByteArray := prog_12_method_15_code
def yX10_van : MethodName := ⟨RX10, "van", "(I)I"⟩
abbrev cX10_house : ByteArray := prog_12_method_16_code
def yX10_house : MethodName := ⟨RX10, "house", "(I)I"⟩
abbrev cX10_feed : ByteArray := prog_12_method_17_code
def yX10_feed : MethodName := ⟨RX10, "feed", "(IIIII)I"⟩
abbrev cX10_end : ByteArray := prog_12_method_18_code
def yX10_end : MethodName := ⟨RX10, "end", "(I)Z"⟩
abbrev cX10_see : ByteArray := prog_12_method_19_code
def yX10_see : MethodName := ⟨RX10, "see", "(I)I"⟩
abbrev cX10_isLetter : ByteArray := prog_12_method_20_code
def yX10_isLetter : MethodName := ⟨RX10, "isLetter", "(I)Z"⟩
abbrev cX10_isDigit : ByteArray := prog_12_method_21_code
def yX10_isDigit : MethodName := ⟨RX10, "isDigit", "(I)Z"⟩
abbrev cX10_word : ByteArray := prog_12_method_22_code
def yX10_word : MethodName := ⟨RX10, "word", "(J)I"⟩
abbrev cX10_next0 : ByteArray := prog_12_method_23_code
def yX10_next0 : MethodName := ⟨RX10, "next0", "()V"⟩
abbrev cX10_bad : ByteArray := prog_12_method_24_code
def yX10_bad : MethodName := ⟨RX10, "bad", "(I)Z"⟩
abbrev cX10_need : ByteArray := prog_12_method_25_code
def yX10_need : MethodName := ⟨RX10, "need", "(I)Z"⟩
abbrev cX10_lay : ByteArray := prog_12_method_26_code
def yX10_lay : MethodName := ⟨RX10, "lay", "(I)V"⟩
abbrev cX10_sum : ByteArray := prog_12_method_27_code
def yX10_sum : MethodName := ⟨RX10, "sum", "()Z"⟩
abbrev cX10_product : ByteArray := prog_12_method_28_code
def yX10_product : MethodName := ⟨RX10, "product", "()Z"⟩
abbrev cX10_unit : ByteArray := prog_12_method_29_code
def yX10_unit : MethodName := ⟨RX10, "unit", "()Z"⟩
abbrev cX10_holds : ByteArray := prog_12_method_30_code
def yX10_holds : MethodName := ⟨RX10, "holds", "()Z"⟩
abbrev cX10_aLine : ByteArray := prog_12_method_31_code
def yX10_aLine : MethodName := ⟨RX10, "aLine", "()Z"⟩
abbrev cX10_rule : ByteArray := prog_12_method_32_code
def yX10_rule : MethodName := ⟨RX10, "rule", "()I"⟩
abbrev cX10_fault : ByteArray := prog_12_method_33_code
def yX10_fault : MethodName := ⟨RX10, "fault", "(I)I"⟩
abbrev cX10_isOf : ByteArray := prog_12_method_34_code
def yX10_isOf : MethodName := ⟨RX10, "isOf", "(II)Z"⟩
abbrev cX10_takes : ByteArray := prog_12_method_35_code
def yX10_takes : MethodName := ⟨RX10, "takes", "(II)V"⟩
abbrev cX10_worked : ByteArray := prog_12_method_36_code
def yX10_worked : MethodName := ⟨RX10, "worked", "(II)I"⟩
abbrev cX10_both : ByteArray := prog_12_method_37_code
def yX10_both : MethodName := ⟨RX10, "both", "(III)I"⟩
abbrev cX10_isMonth : ByteArray := prog_12_method_38_code
def yX10_isMonth : MethodName := ⟨RX10, "isMonth", "(I)Z"⟩
abbrev cX10_pay : ByteArray := prog_12_method_39_code
def yX10_pay : MethodName := ⟨RX10, "pay", "(III)I"⟩
abbrev cX10_statement : ByteArray := prog_12_method_40_code
def yX10_statement : MethodName := ⟨RX10, "statement", "(III)I"⟩
abbrev cX10_count : ByteArray := prog_12_method_41_code
def yX10_count : MethodName := ⟨RX10, "count", "(II)I"⟩
abbrev cX10_level : ByteArray := prog_12_method_42_code
def yX10_level : MethodName := ⟨RX10, "level", "(III)Z"⟩
abbrev cX10_tries : ByteArray := prog_12_method_43_code
def yX10_tries : MethodName := ⟨RX10, "tries", "(II)V"⟩
abbrev cX10_nextRow : ByteArray := prog_12_method_44_code
def yX10_nextRow : MethodName := ⟨RX10, "nextRow", "(I)Z"⟩
abbrev cX10_best : ByteArray := prog_12_method_45_code
def yX10_best : MethodName := ⟨RX10, "best", "(IIII)I"⟩
def RJx145de : String := "java/io/Serializable"
def TJx145de : u_T := fun k => match k with
  | _ => ("", "", "", false)
def tyJx145de : Nat → FieldType := fun k => match k with
  | _ => .int
theorem nmJx145de : ∀ a, a < 0 → ∀ b, b < 0 → a ≠ b → (TJx145de a).2.1 ≠ (TJx145de b).2.1 := by decide +kernel
theorem tyJx145de_ok : ∀ k, k < 0 → parseFieldDescriptor (TJx145de k).2.2.1 = some (tyJx145de k) := by decide +kernel
def RJx8e188 : String := "java/lang/Cloneable"
def TJx8e188 : u_T := fun k => match k with
  | _ => ("", "", "", false)
def tyJx8e188 : Nat → FieldType := fun k => match k with
  | _ => .int
theorem nmJx8e188 : ∀ a, a < 0 → ∀ b, b < 0 → a ≠ b → (TJx8e188 a).2.1 ≠ (TJx8e188 b).2.1 := by decide +kernel
theorem tyJx8e188_ok : ∀ k, k < 0 → parseFieldDescriptor (TJx8e188 k).2.2.1 = some (tyJx8e188 k) := by decide +kernel
def RJxab1ab : String := "java/lang/Iterable"
def TJxab1ab : u_T := fun k => match k with
  | _ => ("", "", "", false)
def tyJxab1ab : Nat → FieldType := fun k => match k with
  | _ => .int
theorem nmJxab1ab : ∀ a, a < 0 → ∀ b, b < 0 → a ≠ b → (TJxab1ab a).2.1 ≠ (TJxab1ab b).2.1 := by decide +kernel
theorem tyJxab1ab_ok : ∀ k, k < 0 → parseFieldDescriptor (TJxab1ab k).2.2.1 = some (tyJxab1ab k) := by decide +kernel
def RJ9 : String := "java/lang/Math"
def TJ9 : u_T := fun k => match k with
  | _ => ("", "", "", false)
def tyJ9 : Nat → FieldType := fun k => match k with
  | _ => .int
theorem nmJ9 : ∀ a, a < 0 → ∀ b, b < 0 → a ≠ b → (TJ9 a).2.1 ≠ (TJ9 b).2.1 := by decide +kernel
theorem tyJ9_ok : ∀ k, k < 0 → parseFieldDescriptor (TJ9 k).2.2.1 = some (tyJ9 k) := by decide +kernel
abbrev cJ9_max_7cf53 : ByteArray := prog_16_method_65_code
def yJ9_max_7cf53 : MethodName := ⟨RJ9, "max", "(II)I"⟩
abbrev cJ9_min_7cf53 : ByteArray := prog_16_method_69_code
def yJ9_min_7cf53 : MethodName := ⟨RJ9, "min", "(II)I"⟩
def RJ0 : String := "java/lang/String"
def TJ0 : u_T := fun k => match k with
  | _ => ("", "", "", false)
def tyJ0 : Nat → FieldType := fun k => match k with
  | _ => .int
theorem nmJ0 : ∀ a, a < 0 → ∀ b, b < 0 → a ≠ b → (TJ0 a).2.1 ≠ (TJ0 b).2.1 := by decide +kernel
theorem tyJ0_ok : ∀ k, k < 0 → parseFieldDescriptor (TJ0 k).2.2.1 = some (tyJ0 k) := by decide +kernel
abbrev cJ0_length_8abf5 : ByteArray := prog_17_method_54_code
def yJ0_length_8abf5 : MethodName := ⟨RJ0, "length", "()I"⟩
abbrev cJ0_charAt_5068e : ByteArray := prog_17_method_56_code
def yJ0_charAt_5068e : MethodName := ⟨RJ0, "charAt", "(I)C"⟩
abbrev cJ0_coder_7d493 : ByteArray := prog_17_method_152_code
def yJ0_coder_7d493 : MethodName := ⟨RJ0, "coder", "()B"⟩
abbrev cJ0_isLatin1_aae02 : ByteArray := prog_17_method_154_code
def yJ0_isLatin1_aae02 : MethodName := ⟨RJ0, "isLatin1", "()Z"⟩
abbrev cJ0_checkIndex_df160 : ByteArray := prog_17_method_155_code
def yJ0_checkIndex_df160 : MethodName := ⟨RJ0, "checkIndex", "(II)V"⟩
def RJ1 : String := "java/lang/StringLatin1"
def TJ1 : u_T := fun k => match k with
  | _ => ("", "", "", false)
def tyJ1 : Nat → FieldType := fun k => match k with
  | _ => .int
theorem nmJ1 : ∀ a, a < 0 → ∀ b, b < 0 → a ≠ b → (TJ1 a).2.1 ≠ (TJ1 b).2.1 := by decide +kernel
theorem tyJ1_ok : ∀ k, k < 0 → parseFieldDescriptor (TJ1 k).2.2.1 = some (tyJ1 k) := by decide +kernel
abbrev cJ1_charAt_3b067 : ByteArray := prog_18_method_2_code
def yJ1_charAt_3b067 : MethodName := ⟨RJ1, "charAt", "([BI)C"⟩
def RJ2 : String := "java/lang/StringUTF16"
def TJ2 : u_T := fun k => match k with
  | _ => ("", "", "", false)
def tyJ2 : Nat → FieldType := fun k => match k with
  | _ => .int
theorem nmJ2 : ∀ a, a < 0 → ∀ b, b < 0 → a ≠ b → (TJ2 a).2.1 ≠ (TJ2 b).2.1 := by decide +kernel
theorem tyJ2_ok : ∀ k, k < 0 → parseFieldDescriptor (TJ2 k).2.2.1 = some (tyJ2 k) := by decide +kernel
abbrev cJ2_getChar_3b067 : ByteArray := prog_19_method_5_code
def yJ2_getChar_3b067 : MethodName := ⟨RJ2, "getChar", "([BI)C"⟩
abbrev cJ2_length_9d52b : ByteArray := prog_19_method_6_code
def yJ2_length_9d52b : MethodName := ⟨RJ2, "length", "([B)I"⟩
abbrev cJ2_charAt_3b067 : ByteArray := prog_19_method_83_code
def yJ2_charAt_3b067 : MethodName := ⟨RJ2, "charAt", "([BI)C"⟩
abbrev cJ2_checkIndex_2214a : ByteArray := prog_19_method_91_code
def yJ2_checkIndex_2214a : MethodName := ⟨RJ2, "checkIndex", "(I[B)V"⟩
def RJ10 : String := "java/lang/System"
def TJ10 : u_T := fun k => match k with
  | _ => ("", "", "", false)
def tyJ10 : Nat → FieldType := fun k => match k with
  | _ => .int
theorem nmJ10 : ∀ a, a < 0 → ∀ b, b < 0 → a ≠ b → (TJ10 a).2.1 ≠ (TJ10 b).2.1 := by decide +kernel
theorem tyJ10_ok : ∀ k, k < 0 → parseFieldDescriptor (TJ10 k).2.2.1 = some (tyJ10 k) := by decide +kernel
def RJxa1e45 : String := "java/util/AbstractCollection"
def TJxa1e45 : u_T := fun k => match k with
  | _ => ("", "", "", false)
def tyJxa1e45 : Nat → FieldType := fun k => match k with
  | _ => .int
theorem nmJxa1e45 : ∀ a, a < 0 → ∀ b, b < 0 → a ≠ b → (TJxa1e45 a).2.1 ≠ (TJxa1e45 b).2.1 := by decide +kernel
theorem tyJxa1e45_ok : ∀ k, k < 0 → parseFieldDescriptor (TJxa1e45 k).2.2.1 = some (tyJxa1e45 k) := by decide +kernel
abbrev cJxa1e45_init_da8c8 : ByteArray := prog_21_method_1_code
def yJxa1e45_init_da8c8 : MethodName := ⟨RJxa1e45, "<init>", "()V"⟩
def RJxc12de : String := "java/util/AbstractList"
def TJxc12de : u_T := fun k => match k with
  | _ => ("", "", "", false)
def tyJxc12de : Nat → FieldType := fun k => match k with
  | _ => .int
theorem nmJxc12de : ∀ a, a < 0 → ∀ b, b < 0 → a ≠ b → (TJxc12de a).2.1 ≠ (TJxc12de b).2.1 := by decide +kernel
theorem tyJxc12de_ok : ∀ k, k < 0 → parseFieldDescriptor (TJxc12de k).2.2.1 = some (tyJxc12de k) := by decide +kernel
abbrev cJxc12de_init_da8c8 : ByteArray := prog_22_method_1_code
def yJxc12de_init_da8c8 : MethodName := ⟨RJxc12de, "<init>", "()V"⟩
def RJx4a65c : String := "java/util/ArrayList"
def TJx4a65c : u_T := fun k => match k with
  | 0 => ("java/util/AbstractList", "modCount", "I", false)
  | 1 => ("java/util/ArrayList", "elementData", "[Ljava/lang/Object;", false)
  | _ => ("java/util/ArrayList", "size", "I", false)
def tyJx4a65c : Nat → FieldType := fun k => match k with
  | 0 => .int
  | 1 => .array (.object "java/lang/Object")
  | _ => .int
theorem nmJx4a65c : ∀ a, a < 3 → ∀ b, b < 3 → a ≠ b → (TJx4a65c a).2.1 ≠ (TJx4a65c b).2.1 := by decide +kernel
theorem tyJx4a65c_ok : ∀ k, k < 3 → parseFieldDescriptor (TJx4a65c k).2.2.1 = some (tyJx4a65c k) := by decide +kernel
abbrev cJx4a65c_init_da8c8 : ByteArray := prog_23_method_2_code
def yJx4a65c_init_da8c8 : MethodName := ⟨RJx4a65c, "<init>", "()V"⟩
abbrev cJx4a65c_grow_92f84 : ByteArray := prog_23_method_6_code
def yJx4a65c_grow_92f84 : MethodName := ⟨RJx4a65c, "grow", "(I)[Ljava/lang/Object;"⟩
abbrev cJx4a65c_grow_d5877 : ByteArray := prog_23_method_7_code
def yJx4a65c_grow_d5877 : MethodName := ⟨RJx4a65c, "grow", "()[Ljava/lang/Object;"⟩
abbrev cJx4a65c_size_8abf5 : ByteArray := prog_23_method_8_code
def yJx4a65c_size_8abf5 : MethodName := ⟨RJx4a65c, "size", "()I"⟩
abbrev cJx4a65c_elementData_915e3 : ByteArray := prog_23_method_18_code
def yJx4a65c_elementData_915e3 : MethodName := ⟨RJx4a65c, "elementData", "(I)Ljava/lang/Object;"⟩
abbrev cJx4a65c_get_915e3 : ByteArray := prog_23_method_20_code
def yJx4a65c_get_915e3 : MethodName := ⟨RJx4a65c, "get", "(I)Ljava/lang/Object;"⟩
abbrev cJx4a65c_add_72be8 : ByteArray := prog_23_method_24_code
def yJx4a65c_add_72be8 : MethodName := ⟨RJx4a65c, "add", "(Ljava/lang/Object;[Ljava/lang/Object;I)V"⟩
abbrev cJx4a65c_add_9ea2d : ByteArray := prog_23_method_25_code
def yJx4a65c_add_9ea2d : MethodName := ⟨RJx4a65c, "add", "(Ljava/lang/Object;)Z"⟩
def RJ7 : String := "java/util/Arrays"
def TJ7 : u_T := fun k => match k with
  | _ => ("", "", "", false)
def tyJ7 : Nat → FieldType := fun k => match k with
  | _ => .int
theorem nmJ7 : ∀ a, a < 0 → ∀ b, b < 0 → a ≠ b → (TJ7 a).2.1 ≠ (TJ7 b).2.1 := by decide +kernel
theorem tyJ7_ok : ∀ k, k < 0 → parseFieldDescriptor (TJ7 k).2.2.1 = some (tyJ7 k) := by decide +kernel
abbrev cJ7_copyOf_1904c : ByteArray := prog_24_method_119_code
def yJ7_copyOf_1904c : MethodName := ⟨RJ7, "copyOf", "([Ljava/lang/Object;I)[Ljava/lang/Object;"⟩
abbrev cJ7_copyOf_6403c : ByteArray := prog_24_method_120_code
def yJ7_copyOf_6403c : MethodName := ⟨RJ7, "copyOf", "([Ljava/lang/Object;ILjava/lang/Class;)[Ljava/lang/Object;"⟩
def RJx5ef63 : String := "java/util/Collection"
def TJx5ef63 : u_T := fun k => match k with
  | _ => ("", "", "", false)
def tyJx5ef63 : Nat → FieldType := fun k => match k with
  | _ => .int
theorem nmJx5ef63 : ∀ a, a < 0 → ∀ b, b < 0 → a ≠ b → (TJx5ef63 a).2.1 ≠ (TJx5ef63 b).2.1 := by decide +kernel
theorem tyJx5ef63_ok : ∀ k, k < 0 → parseFieldDescriptor (TJx5ef63 k).2.2.1 = some (tyJx5ef63 k) := by decide +kernel
def RJxbd725 : String := "java/util/List"
def TJxbd725 : u_T := fun k => match k with
  | _ => ("", "", "", false)
def tyJxbd725 : Nat → FieldType := fun k => match k with
  | _ => .int
theorem nmJxbd725 : ∀ a, a < 0 → ∀ b, b < 0 → a ≠ b → (TJxbd725 a).2.1 ≠ (TJxbd725 b).2.1 := by decide +kernel
theorem tyJxbd725_ok : ∀ k, k < 0 → parseFieldDescriptor (TJxbd725 k).2.2.1 = some (tyJxbd725 k) := by decide +kernel
def RJ15 : String := "java/util/Objects"
def TJ15 : u_T := fun k => match k with
  | _ => ("", "", "", false)
def tyJ15 : Nat → FieldType := fun k => match k with
  | _ => .int
theorem nmJ15 : ∀ a, a < 0 → ∀ b, b < 0 → a ≠ b → (TJ15 a).2.1 ≠ (TJ15 b).2.1 := by decide +kernel
theorem tyJ15_ok : ∀ k, k < 0 → parseFieldDescriptor (TJ15 k).2.2.1 = some (tyJ15 k) := by decide +kernel
abbrev cJ15_checkIndex_7cf53 : ByteArray := prog_27_method_17_code
def yJ15_checkIndex_7cf53 : MethodName := ⟨RJ15, "checkIndex", "(II)I"⟩
def RJxf0a74 : String := "java/util/RandomAccess"
def TJxf0a74 : u_T := fun k => match k with
  | _ => ("", "", "", false)
def tyJxf0a74 : Nat → FieldType := fun k => match k with
  | _ => .int
theorem nmJxf0a74 : ∀ a, a < 0 → ∀ b, b < 0 → a ≠ b → (TJxf0a74 a).2.1 ≠ (TJxf0a74 b).2.1 := by decide +kernel
theorem tyJxf0a74_ok : ∀ k, k < 0 → parseFieldDescriptor (TJxf0a74 k).2.2.1 = some (tyJxf0a74 k) := by decide +kernel
def RJxa66e6 : String := "java/util/SequencedCollection"
def TJxa66e6 : u_T := fun k => match k with
  | _ => ("", "", "", false)
def tyJxa66e6 : Nat → FieldType := fun k => match k with
  | _ => .int
theorem nmJxa66e6 : ∀ a, a < 0 → ∀ b, b < 0 → a ≠ b → (TJxa66e6 a).2.1 ≠ (TJxa66e6 b).2.1 := by decide +kernel
theorem tyJxa66e6_ok : ∀ k, k < 0 → parseFieldDescriptor (TJxa66e6 k).2.2.1 = some (tyJxa66e6 k) := by decide +kernel
def RJ8 : String := "jdk/internal/util/ArraysSupport"
def TJ8 : u_T := fun k => match k with
  | _ => ("", "", "", false)
def tyJ8 : Nat → FieldType := fun k => match k with
  | _ => .int
theorem nmJ8 : ∀ a, a < 0 → ∀ b, b < 0 → a ≠ b → (TJ8 a).2.1 ≠ (TJ8 b).2.1 := by decide +kernel
theorem tyJ8_ok : ∀ k, k < 0 → parseFieldDescriptor (TJ8 k).2.2.1 = some (tyJ8 k) := by decide +kernel
abbrev cJ8_newLength_cabcc : ByteArray := prog_30_method_27_code
def yJ8_newLength_cabcc : MethodName := ⟨RJ8, "newLength", "(III)I"⟩
abbrev cJ8_hugeLength_7cf53 : ByteArray := prog_30_method_28_code
def yJ8_hugeLength_7cf53 : MethodName := ⟨RJ8, "hugeLength", "(II)I"⟩
def RJ3 : String := "jdk/internal/util/Preconditions"
def TJ3 : u_T := fun k => match k with
  | _ => ("", "", "", false)
def tyJ3 : Nat → FieldType := fun k => match k with
  | _ => .int
theorem nmJ3 : ∀ a, a < 0 → ∀ b, b < 0 → a ≠ b → (TJ3 a).2.1 ≠ (TJ3 b).2.1 := by decide +kernel
theorem tyJ3_ok : ∀ k, k < 0 → parseFieldDescriptor (TJ3 k).2.2.1 = some (tyJ3 k) := by decide +kernel
abbrev cJ3_checkIndex_8e157 : ByteArray := prog_31_method_11_code
def yJ3_checkIndex_8e157 : MethodName := ⟨RJ3, "checkIndex", "(IILjava/util/function/BiFunction;)I"⟩
def RL : String := "GreatStoreLaw"
abbrev cL_law : ByteArray := code
def yL_law : MethodName := ⟨RL, "law", "([I)Z"⟩
abbrev vwCl : List vw_C := [(RJx4a65c, TJx4a65c, 3), (RX0, TX0, 6), (RX1, TX1, 9), (RX2, TX2, 5), (RX3, TX3, 12), (RX4, TX4, 4), (RX5, TX5, 2), (RX6, TX6, 5), (RX7, TX7, 4), (RX8, TX8, 4), (RX9, TX9, 11), (RX10, TX10, 55)]
end
section
-- ===== the abstract store: pointers are (role, number); ints and references by (role, number, place) =====
abbrev PT : Type := Nat × Nat
abbrev AV : Type := Int32 ⊕ (Int64 ⊕ Option PT)
abbrev aI (x : Int32) : AV := Sum.inl x
abbrev aL (x : Int64) : AV := Sum.inr (Sum.inl x)
abbrev aP (q : Option PT) : AV := Sum.inr (Sum.inr q)
abbrev aR (c i : Nat) : AV := Sum.inr (Sum.inr (some (c, i)))
def vl (ad : PT → Nat) (v : AV) : Value := match v with
  | .inl x => .int x
  | .inr (.inl x) => .long x
  | .inr (.inr r) => va_rf (r.map ad)
def ct (v : AV) : Nat := match v with
  | .inr (.inl _) => 2
  | _ => 1
abbrev HS : Type := (Nat → Nat → Nat → Int32) × (Nat → Nat → Nat → Option PT) × List PT
def gI (h : HS) (c i k : Nat) : Int32 := h.1 c i k
def gR (h : HS) (c i k : Nat) : Option PT := h.2.1 c i k
def sI (h : HS) (c i k : Nat) (v : Int32) : HS := (fun c' i' k' => if c' = c ∧ k' = k ∧ i' = i then v else h.1 c' i' k', h.2)
def sR (h : HS) (c i k : Nat) (v : Option PT) : HS := (h.1, fun c' i' k' => if c' = c ∧ k' = k ∧ i' = i then v else h.2.1 c' i' k', h.2.2)
def nw (h : HS) (c i : Nat) : HS := (fun c' i' k' => if c' = c ∧ i' = i then 0 else h.1 c' i' k', fun c' i' k' => if c' = c ∧ i' = i then none else h.2.1 c' i' k', h.2.2 ++ [(c, i)])
abbrev MT : Type := MethodName × ByteArray × Nat × Option FieldType
abbrev OJ : FieldType := .object "java/lang/Object"
def rtl : List (Option (Nat ⊕ (FieldType × Nat))) := [some (.inl 10), some (.inl 0), some (.inl 0), some (.inl 9), some (.inr (.int, 20)), some (.inr (.boolean, 20)), some (.inl 6), some (.inr (.byte, 400)), some (.inl 8), some (.inr (.int, 401)), some (.inr (.int, 401)), some (.inr (.int, 401)), some (.inl 2), some (.inr (.int, 400)), some (.inr (.int, 400)), some (.inr (.int, 8)), some (.inr (.int, 8)), some (.inr (.int, 8)), some (.inr (.int, 64)), some (.inl 3), some (.inl 5), some (.inl 1), some (.inr (.int, 4)), some (.inr (.int, 4)), some (.inr (.int, 8)), some (.inr (.int, 8)), some (.inl 11), some (.inr (.int, 4368)), some (.inr (.int, 12)), some (.inr (.int, 12)), some (.inr (.int, 12)), some (.inr (.int, 12)), some (.inr (.int, 120)), some (.inr (.int, 120)), some (.inr (.int, 120)), some (.inr (.int, 120)), some (.inr (.int, 120)), some (.inr (.int, 120)), some (.inr (.int, 120)), some (.inr (.int, 120)), some (.inr (.int, 120)), some (.inr (.int, 120)), some (.inr (.int, 120)), some (.inr (.int, 120)), some (.inr (.int, 20)), some (.inr (.boolean, 20)), some (.inr (.int, 9)), some (.inr (.int, 8)), some (.inr (.int, 500)), some (.inr (.int, 9)), some (.inr (.int, 8)), some (.inr (.int, 500)), some (.inr (.int, 500)), some (.inr (.int, 400)), some (.inr (.int, 4)), some (.inr (.int, 4)), some (.inr (.int, 8)), some (.inr (.int, 8)), none, none, some (.inl 7), some (.inr (.int, 364)), some (.inl 4)]
def rty (c i : Nat) : Nat ⊕ (FieldType × Nat) := match rtl[c]? with
  | some (some t) => t
  | _ => .inr (OJ, i)
def srl : List ((Nat × Nat) × Nat) := [((0, 0), 1), ((0, 1), 2), ((0, 2), 3), ((0, 3), 6), ((0, 4), 8), ((0, 5), 19), ((0, 6), 20), ((0, 7), 21), ((3, 0), 4), ((3, 1), 5), ((6, 0), 7), ((8, 0), 9), ((8, 1), 10), ((8, 2), 11), ((12, 0), 13), ((12, 1), 14), ((12, 2), 15), ((12, 3), 16), ((12, 4), 17), ((12, 5), 18), ((19, 0), 8), ((21, 0), 22), ((21, 1), 23), ((21, 2), 24), ((21, 3), 25), ((26, 3), 27), ((26, 4), 28), ((26, 5), 29), ((26, 6), 30), ((26, 7), 31), ((26, 8), 32), ((26, 9), 33), ((26, 10), 34), ((26, 11), 35), ((26, 12), 36), ((26, 13), 37), ((26, 14), 38), ((26, 15), 39), ((26, 16), 40), ((26, 17), 41), ((26, 18), 42), ((26, 19), 43), ((26, 22), 44), ((26, 23), 45), ((26, 27), 46), ((26, 28), 47), ((26, 29), 48), ((26, 30), 49), ((26, 31), 50), ((26, 32), 51), ((26, 33), 52), ((26, 34), 53), ((26, 49), 54), ((26, 50), 55), ((26, 51), 56), ((26, 52), 57)]
def fR (c i k : Nat) : Option PT := (srl.lookup (c, k)).map (fun c' => (c', i))
def gS (σ : Bool) (h : HS) (c i k : Nat) : Option PT := if σ then (match fR c i k with
  | some q => some q
  | none => gR h c i k) else gR h c i k
def fts : List (Nat → FieldType) := [tyJx4a65c, tyX0, tyX1, tyX2, tyX3, tyX4, tyX5, tyX6, tyX7, tyX8, tyX9, tyX10]
def fty (ci k : Nat) : FieldType := match fts[ci]? with
  | some f => f k
  | none => .int
def isRT (t : FieldType) : Bool := match t with
  | .object _ => true
  | .array _ => true
  | _ => false
def nF (ci : Nat) : Nat := match vwCl[ci]? with
  | some q => q.2.2
  | none => 0
def fv (σ : Bool) (ad : PT → Nat) (h : HS) (c i ci k : Nat) : Value := if isRT (fty ci k) then va_rf ((gS σ h c i k).map ad) else .int (gI h c i k)
def toE (σ : Bool) (cA : FieldType → ClassId) (ad : PT → Nat) (h : HS) (q : PT) : va_E := match rty q.1 q.2 with
  | .inl ci => .inr (ci, (List.range (nF ci)).map (fv σ ad h q.1 q.2 ci))
  | .inr (t, n) => .inl (cA t, n, if isRT t then .inr (.inr (.inr (.inr (fun k => (gS σ h q.1 q.2 k).map ad)))) else .inl (gI h q.1 q.2))
def wsO (σ : Bool) (cA : FieldType → ClassId) (ad : PT → Nat) (h : HS) : va_W := h.2.2.map (fun q => (ad q, toE σ cA ad h q))
def okL (L : List PT) (q : PT) : Prop := q ∈ L ∨ 65 ≤ q.1
def okV (h : HS) (v : AV) : Prop := ∀ q, v = aP (some q) → okL h.2.2 q
def Rep (σ : Bool) (D : va_G) (cA : FieldType → ClassId) (ad : PT → Nat) (B : Nat) (h : HS) (H : Heap) : Prop :=
  va_P D vwCl (wsO σ cA ad h) H ∧ va_D (fun q => B ≤ q) (wsO σ cA ad h) ∧ ∀ q ∈ h.2.2, ∀ k r, gS σ h q.1 q.2 k = some r → okL h.2.2 r
-- ===== the tables' words that stay =====
def gw : List Cond := lw_tbl.filter goodWord
theorem gw_good (M : Cond) (hM : goodWord M = true) : GoodIn (M :: gw) (M :: gw) := fun w hw => ⟨hw, by
  rcases List.mem_cons.mp hw with h | h
  · rw [h]; exact good_of_word hM
  · exact good_of_word (List.mem_filter.mp h).2⟩
theorem inw_0 : ∀ w ∈ u_ws RJx4a65c TJx4a65c 3, w ∈ gw := by decide +kernel
theorem inw_1 : ∀ w ∈ u_ws RX0 TX0 6, w ∈ gw := by decide +kernel
theorem inw_2 : ∀ w ∈ u_ws RX1 TX1 9, w ∈ gw := by decide +kernel
theorem inw_3 : ∀ w ∈ u_ws RX2 TX2 5, w ∈ gw := by decide +kernel
theorem inw_4 : ∀ w ∈ u_ws RX3 TX3 12, w ∈ gw := by decide +kernel
theorem inw_5 : ∀ w ∈ u_ws RX4 TX4 4, w ∈ gw := by decide +kernel
theorem inw_6 : ∀ w ∈ u_ws RX5 TX5 2, w ∈ gw := by decide +kernel
theorem inw_7 : ∀ w ∈ u_ws RX6 TX6 5, w ∈ gw := by decide +kernel
theorem inw_8 : ∀ w ∈ u_ws RX7 TX7 4, w ∈ gw := by decide +kernel
theorem inw_9 : ∀ w ∈ u_ws RX8 TX8 4, w ∈ gw := by decide +kernel
theorem inw_10 : ∀ w ∈ u_ws RX9 TX9 11, w ∈ gw := by decide +kernel
theorem inw_11 : ∀ w ∈ u_ws RX10 TX10 55, w ∈ gw := by decide +kernel
theorem cls_ok {ci : Nat} {C : String} {T : u_T} {N : Nat} (h : vwCl[ci]? = some (C, T, N)) : N = nF ci ∧ (∀ w ∈ u_ws C T N, w ∈ gw) ∧ (∀ k, k < N → parseFieldDescriptor (T k).2.2.1 = some (fty ci k)) ∧ (∀ a, a < N → ∀ b, b < N → a ≠ b → (T a).2.1 ≠ (T b).2.1) := by
  match ci, h with
  | 0, h => cases h; exact ⟨rfl, inw_0, tyJx4a65c_ok, nmJx4a65c⟩
  | 1, h => cases h; exact ⟨rfl, inw_1, tyX0_ok, nmX0⟩
  | 2, h => cases h; exact ⟨rfl, inw_2, tyX1_ok, nmX1⟩
  | 3, h => cases h; exact ⟨rfl, inw_3, tyX2_ok, nmX2⟩
  | 4, h => cases h; exact ⟨rfl, inw_4, tyX3_ok, nmX3⟩
  | 5, h => cases h; exact ⟨rfl, inw_5, tyX4_ok, nmX4⟩
  | 6, h => cases h; exact ⟨rfl, inw_6, tyX5_ok, nmX5⟩
  | 7, h => cases h; exact ⟨rfl, inw_7, tyX6_ok, nmX6⟩
  | 8, h => cases h; exact ⟨rfl, inw_8, tyX7_ok, nmX7⟩
  | 9, h => cases h; exact ⟨rfl, inw_9, tyX8_ok, nmX8⟩
  | 10, h => cases h; exact ⟨rfl, inw_10, tyX9_ok, nmX9⟩
  | 11, h => cases h; exact ⟨rfl, inw_11, tyX10_ok, nmX10⟩
  | k + 12, h => simp at h
end
section
def lvm (ad : PT → Nat) (lv : List (Nat × AV)) : List (Nat × Value) := lv.map (fun q => (q.1, vl ad q.2))
def tysO (cA : FieldType → ClassId) : List (ClassId × FieldType) := [(cA .int, .int), (cA .byte, .byte), (cA .boolean, .boolean), (cA OJ, OJ)]
def sTx : List String := ["pay", "when", "and", "sum", "slips", "back", "month"]
def sIx : List Nat := [52, 58, 60, 62, 64, 66, 68]
def sLn : List Nat := [3, 4, 3, 3, 5, 4, 5]
def sBy : List (List Int32) := [[112, 97, 121], [119, 104, 101, 110], [97, 110, 100], [115, 117, 109], [115, 108, 105, 112, 115], [98, 97, 99, 107], [109, 111, 110, 116, 104]]
/-- what lies outside the store: the texts (65, j), ArrayList's empty array (66, 0), the mirror of Object[] (67, 0), the texts' bytes (68, j) -/
def Ex (B : Nat) (ad : PT → Nat) (U : State) (H : Heap) : Prop :=
  vk_S 7 sLn sBy (fun j => ad (65, j)) (fun j => ad (68, j)) (fun q => B ≤ q) U H ∧ (∀ j, j < 7 → vk_R "GreatStore$Tokens" (sIx.getD j 0) (sTx.getD j "") (ad (65, j)) U) ∧ va_Z "java/lang/String" "COMPACT_STRINGS" "Z" (.int 1) (fun q => B ≤ q) U H ∧
  va_Z "java/util/ArrayList" "DEFAULTCAPACITY_EMPTY_ELEMENTDATA" "[Ljava/lang/Object;" (.ref (ad (66, 0))) (fun q => B ≤ q) U H ∧ va_T OJ (ad (66, 0)) 0 (fun _ => .null) (fun q => B ≤ q) U H ∧ va_Mi "[Ljava/lang/Object;" (ad (67, 0)) U ∧ va_AO "java/lang/Object" U ∧ va_Dc U
theorem Ex.warm {B : Nat} {ad : PT → Nat} {u U : State} {H : Heap} (hW : u.WarmedH U.vm) (h : Ex B ad u H) : Ex B ad U H := by
  obtain ⟨h1, h2, h3, h4, h5, h6, h7, h8⟩ := h
  exact ⟨h1.moved hW.alike, fun j hj => (h2 j hj).warm hW, h3.moved hW.alike, h4.moved hW.alike, h5.moved hW.alike, h6.moved hW.alike, h7.moved hW.alike, h8.moved hW.alike⟩
theorem Ex.same {B : Nat} {ad : PT → Nat} {u U : State} {H : Heap} (hv : U.vm = u.vm) (h : Ex B ad u H) : Ex B ad U H := by
  obtain ⟨h1, h2, h3, h4, h5, h6, h7, h8⟩ := h
  have ha : u.vm.Alike U.vm := by rw [hv]; exact Vm.Alike.refl u.vm
  exact ⟨h1.moved ha, fun j hj => (h2 j hj).same hv, h3.moved ha, h4.moved ha, h5.moved ha, h6.moved ha, h7.moved ha, h8.moved ha⟩
theorem Ex.kept {B : Nat} {ad ad2 : PT → Nat} {U : State} {H H1 : Heap} (h : Ex B ad U H) (hq : ∀ q : Nat, q < H.size → ¬ B ≤ q → H1[q]? = H[q]?) (ha : ∀ q : PT, 65 ≤ q.1 → ad2 q = ad q) : Ex B ad2 U H1 := by
  obtain ⟨h1, h2, h3, h4, h5, h6, h7, h8⟩ := h
  have e1 : (fun j => ad2 (65, j)) = fun j => ad (65, j) := funext fun j => ha (65, j) (Nat.le_refl 65)
  have e4 : (fun j => ad2 (68, j)) = fun j => ad (68, j) := funext fun j => ha (68, j) (by show 65 ≤ 68; omega)
  have e2 : ad2 (66, 0) = ad (66, 0) := ha (66, 0) (by show 65 ≤ 66; omega)
  have e3 : ad2 (67, 0) = ad (67, 0) := ha (67, 0) (by show 65 ≤ 67; omega)
  refine ⟨by rw [e1, e4]; exact h1.kept hq, fun j hj => by rw [ha (65, j) (Nat.le_refl 65)]; exact h2 j hj, h3.kept hq, by rw [e2]; exact h4.kept hq, by rw [e2]; exact h5.kept hq, by rw [e3]; exact h6, h7, h8⟩
def Cx (M : MT) (p : Program) (s : State) (m : MethodId) (args : Array Value) (meth : Method) (c : Code) (D : va_G) (cA : FieldType → ClassId) : Prop :=
  p.tables.exec = Jvm.exec ∧ c.code = M.2.1 ∧ c.maxLocals = M.2.2.1 ∧ s.vm.findClass M.1.cls = some m.cls ∧ (∀ w ∈ gw, w.before args s = true) ∧ meth.sig.returnType = M.2.2.2 ∧ meth.locks = false ∧ meth.name = M.1.name ∧ va_K D vwCl (tysO cA) s
def QM (σ : Bool) (D : va_G) (cA : FieldType → ClassId) (B : Nat) (ad0 : PT → Nat) (L0 : List PT) (P : Option AV → HS → Prop) : Array Value → State → Outcome → State → Prop := fun _ st o t =>
  ∃ (r : Option AV) (h : HS) (ad : PT → Nat), o = .returned (r.map (vl ad)) ∧ P r h ∧ Rep σ D cA ad B h t.heap ∧ (∀ v, r = some v → okV h v) ∧ (∀ q, okL L0 q → ad q = ad0 q ∧ okL h.2.2 q) ∧ va_F (fun q => B ≤ q) st t
def Bd (σ : Bool) (M : MT) (d bc bs : Nat) (lv : List (Nat × AV)) (st : List AV) (h : HS) (p : Program) (R : Room) (s : State) (m : MethodId) (args : Array Value) (meth : Method) (c : Code) (D : va_G) (cA : FieldType → ClassId) (B : Nat) (ad ad0 : PT → Nat) (L0 : List PT) (H : Heap) (locs : List Loc) (cells slots : Nat) (ls : Array Slot) : Prop :=
  Cx M p s m args meth c D cA ∧ B ≤ s.heap.size ∧ Ex B ad s s.heap ∧ (d ≤ R.frames ∧ 64 * d ≤ R.locals) ∧ (cells + bc ≤ R.cells ∧ slots + bs ≤ R.slots) ∧ Rep σ D cA ad B h H ∧ va_S (fun q => B ≤ q) s.heap H locs ∧ lv_has ls M.2.2.1 (lvm ad lv) ∧ (∀ q ∈ lv, okV h q.2) ∧ (∀ v ∈ st, okV h v) ∧ (∀ q, okL L0 q → ad q = ad0 q ∧ okL h.2.2 q)
/-- the machine, in method M at pc, with these locals, this stack and this store, comes to M's end with P -/
def V (σ : Bool) (M : MT) (d bc bs pc : Nat) (lv : List (Nat × AV)) (st : List AV) (h : HS) (P : Option AV → HS → Prop) : Prop :=
  ∀ (p : Program) (l : Launch) (e : Env) (R : Room) (s : State) (m : MethodId) (args : Array Value) (below : List Frame) (meth : Method) (c : Code) (D : va_G) (cA : FieldType → ClassId) (B : Nat) (ad ad0 : PT → Nat) (L0 : List PT) (H : Heap) (locs : List Loc) (cells slots : Nat) (ls : Array Slot),
    Bd σ M d bc bs lv st h p R s m args meth c D cA B ad ad0 L0 H locs cells slots ls →
    W p l e R s m args below meth c H locs cells slots (MQ below (QM σ D cA B ad0 L0 P) args s R.cells R.slots (fun q => B ≤ q)) (F0 m pc ls (st.map (vl ad)))
/-- method M at these arguments and this store comes back, with P -/
def Cl (σ : Bool) (M : MT) (d bc bs : Nat) (as : List AV) (h : HS) (P : Option AV → HS → Prop) : Prop :=
  ∀ (l : Launch) (D : va_G) (cA : FieldType → ClassId) (B : Nat) (ad : PT → Nat), Met l M.1 (Cond.code M.1 M.2.1 M.2.2.1 M.2.2.2 :: gw) { frames := d, cells := bc, slots := bs, locals := 64 * d }
    (va_Pc (as.map (vl ad)) (fun U => B ≤ U.heap.size ∧ Ex B ad U U.heap ∧ Rep σ D cA ad B h U.heap ∧ va_K D vwCl (tysO cA) U ∧ ∀ v ∈ as, okV h v)) (QM σ D cA B ad h.2.2 P) bc bs (fun q => B ≤ q)
section VR
variable {σ : Bool} {M : MT} {d bc bs pc : Nat} {lv : List (Nat × AV)} {st : List AV} {h : HS} {P : Option AV → HS → Prop}
theorem okI {x : Int32} : okV h (aI x) := fun q e => by cases e
theorem okLg {x : Int64} : okV h (aL x) := fun q e => by cases e
theorem okN : okV h (aP none) := fun q e => by cases e
theorem okc {v : AV} {st : List AV} (hx : okV h v) (hs : ∀ v ∈ st, okV h v) : ∀ w ∈ v :: st, okV h w := fun w hw => (List.mem_cons.mp hw).elim (fun e => e ▸ hx) (hs w)
theorem okt {v : AV} {st : List AV} (hs : ∀ w ∈ v :: st, okV h w) : ∀ w ∈ st, okV h w := fun w hw => hs w (List.mem_cons_of_mem _ hw)
theorem okh {v : AV} {st : List AV} (hs : ∀ w ∈ v :: st, okV h w) : okV h v := hs v List.mem_cons_self
section BD
variable {p : Program} {R : Room} {s : State} {m : MethodId} {args : Array Value} {meth : Method} {c : Code} {D : va_G} {cA : FieldType → ClassId} {B : Nat} {ad ad0 : PT → Nat} {L0 : List PT} {H : Heap} {locs : List Loc} {cells slots : Nat} {ls : Array Slot}
theorem Bd.x (b : Bd σ M d bc bs lv st h p R s m args meth c D cA B ad ad0 L0 H locs cells slots ls) : p.tables.exec = Jvm.exec := b.1.1
theorem Bd.b (b : Bd σ M d bc bs lv st h p R s m args meth c D cA B ad ad0 L0 H locs cells slots ls) : c.code = M.2.1 := b.1.2.1
theorem Bd.own (b : Bd σ M d bc bs lv st h p R s m args meth c D cA B ad ad0 L0 H locs cells slots ls) : s.vm.findClass M.1.cls = some m.cls := b.1.2.2.2.1
theorem Bd.ts (b : Bd σ M d bc bs lv st h p R s m args meth c D cA B ad ad0 L0 H locs cells slots ls) : ∀ w ∈ gw, w.before args s = true := b.1.2.2.2.2.1
theorem Bd.K (b : Bd σ M d bc bs lv st h p R s m args meth c D cA B ad ad0 L0 H locs cells slots ls) : va_K D vwCl (tysO cA) s := b.1.2.2.2.2.2.2.2.2
theorem Bd.rep (b : Bd σ M d bc bs lv st h p R s m args meth c D cA B ad ad0 L0 H locs cells slots ls) : Rep σ D cA ad B h H := b.2.2.2.2.2.1
theorem Bd.S (b : Bd σ M d bc bs lv st h p R s m args meth c D cA B ad ad0 L0 H locs cells slots ls) : va_S (fun q => B ≤ q) s.heap H locs := b.2.2.2.2.2.2.1
theorem Bd.lh (b : Bd σ M d bc bs lv st h p R s m args meth c D cA B ad ad0 L0 H locs cells slots ls) : lv_has ls M.2.2.1 (lvm ad lv) := b.2.2.2.2.2.2.2.1
theorem Bd.lo (b : Bd σ M d bc bs lv st h p R s m args meth c D cA B ad ad0 L0 H locs cells slots ls) : ∀ q ∈ lv, okV h q.2 := b.2.2.2.2.2.2.2.2.1
theorem Bd.so (b : Bd σ M d bc bs lv st h p R s m args meth c D cA B ad ad0 L0 H locs cells slots ls) : ∀ v ∈ st, okV h v := b.2.2.2.2.2.2.2.2.2.1
theorem Bd.stk {st' : List AV} (b : Bd σ M d bc bs lv st h p R s m args meth c D cA B ad ad0 L0 H locs cells slots ls) (hs : ∀ v ∈ st', okV h v) : Bd σ M d bc bs lv st' h p R s m args meth c D cA B ad ad0 L0 H locs cells slots ls := by
  obtain ⟨h1, h2, h3, h4, h5, h6, h7, h8, h9, -, h11⟩ := b
  exact ⟨h1, h2, h3, h4, h5, h6, h7, h8, h9, hs, h11⟩
theorem Bd.lst {lv' : List (Nat × AV)} {st' : List AV} {ls' : Array Slot} (b : Bd σ M d bc bs lv st h p R s m args meth c D cA B ad ad0 L0 H locs cells slots ls) (hs : ∀ v ∈ st', okV h v) (hl : lv_has ls' M.2.2.1 (lvm ad lv')) (ho : ∀ q ∈ lv', okV h q.2) : Bd σ M d bc bs lv' st' h p R s m args meth c D cA B ad ad0 L0 H locs cells slots ls' := by
  obtain ⟨h1, h2, h3, h4, h5, h6, h7, -, -, -, h11⟩ := b
  exact ⟨h1, h2, h3, h4, h5, h6, h7, hl, ho, hs, h11⟩
end BD
theorem V_iconst {n : Int} (v : Int32) (hd : decode M.2.1 pc = .ok (.iconst n, 1)) (hv : Int32.ofInt n = v) (k : V σ M d bc bs (pc + 1) lv (aI v :: st) h P) : V σ M d bc bs pc lv (st) h P := by
  intro p l e R s m args below meth c D cA B ad ad0 L0 H locs cells slots ls b
  exact lv_iconst b.x b.b hd hv (k p l e R s m args below meth c D cA B ad ad0 L0 H locs cells slots ls (b.stk (okc okI b.so)))
theorem V_bipush {n : Int} (v : Int32) (hd : decode M.2.1 pc = .ok (.bipush n, 2)) (hv : (Int8.ofInt n).toInt32 = v) (k : V σ M d bc bs (pc + 2) lv (aI v :: st) h P) : V σ M d bc bs pc lv (st) h P := by
  intro p l e R s m args below meth c D cA B ad ad0 L0 H locs cells slots ls b
  exact lv_bipush b.x b.b hd hv (k p l e R s m args below meth c D cA B ad ad0 L0 H locs cells slots ls (b.stk (okc okI b.so)))
theorem V_sipush {n : Int} (v : Int32) (hd : decode M.2.1 pc = .ok (.sipush n, 3)) (hv : (Int16.ofInt n).toInt32 = v) (k : V σ M d bc bs (pc + 3) lv (aI v :: st) h P) : V σ M d bc bs pc lv (st) h P := by
  intro p l e R s m args below meth c D cA B ad ad0 L0 H locs cells slots ls b
  exact lv_sipush b.x b.b hd hv (k p l e R s m args below meth c D cA B ad ad0 L0 H locs cells slots ls (b.stk (okc okI b.so)))
theorem V_lconst {n : Fin 2} (v : Int64) (hd : decode M.2.1 pc = .ok (.lconst n, 1)) (hv : Int64.ofNat (n : Nat) = v) (k : V σ M d bc bs (pc + 1) lv (aL v :: st) h P) : V σ M d bc bs pc lv (st) h P := by
  intro p l e R s m args below meth c D cA B ad ad0 L0 H locs cells slots ls b
  exact lv_lconst b.x b.b hd hv (k p l e R s m args below meth c D cA B ad ad0 L0 H locs cells slots ls (b.stk (okc okLg b.so)))
theorem V_null (hd : decode M.2.1 pc = .ok (.aconst_null, 1)) (k : V σ M d bc bs (pc + 1) lv (aP none :: st) h P) : V σ M d bc bs pc lv (st) h P := by
  intro p l e R s m args below meth c D cA B ad ad0 L0 H locs cells slots ls b
  exact lv_null b.x b.b hd (k p l e R s m args below meth c D cA B ad ad0 L0 H locs cells slots ls (b.stk (okc okN b.so)))
theorem V_iadd {x y : Int32} (hd : decode M.2.1 pc = .ok (.iadd, 1)) (k : V σ M d bc bs (pc + 1) lv (aI (x + y) :: st) h P) : V σ M d bc bs pc lv (aI y :: aI x :: st) h P := by
  intro p l e R s m args below meth c D cA B ad ad0 L0 H locs cells slots ls b
  exact lv_iadd b.x b.b hd (k p l e R s m args below meth c D cA B ad ad0 L0 H locs cells slots ls (b.stk (okc okI (okt (okt b.so)))))
theorem V_isub {x y : Int32} (hd : decode M.2.1 pc = .ok (.isub, 1)) (k : V σ M d bc bs (pc + 1) lv (aI (x - y) :: st) h P) : V σ M d bc bs pc lv (aI y :: aI x :: st) h P := by
  intro p l e R s m args below meth c D cA B ad ad0 L0 H locs cells slots ls b
  exact lv_isub b.x b.b hd (k p l e R s m args below meth c D cA B ad ad0 L0 H locs cells slots ls (b.stk (okc okI (okt (okt b.so)))))
theorem V_imul {x y : Int32} (hd : decode M.2.1 pc = .ok (.imul, 1)) (k : V σ M d bc bs (pc + 1) lv (aI (x * y) :: st) h P) : V σ M d bc bs pc lv (aI y :: aI x :: st) h P := by
  intro p l e R s m args below meth c D cA B ad ad0 L0 H locs cells slots ls b
  exact lv_imul b.x b.b hd (k p l e R s m args below meth c D cA B ad ad0 L0 H locs cells slots ls (b.stk (okc okI (okt (okt b.so)))))
theorem V_iand {x y : Int32} (hd : decode M.2.1 pc = .ok (.iand, 1)) (k : V σ M d bc bs (pc + 1) lv (aI (x &&& y) :: st) h P) : V σ M d bc bs pc lv (aI y :: aI x :: st) h P := by
  intro p l e R s m args below meth c D cA B ad ad0 L0 H locs cells slots ls b
  exact lv_iand b.x b.b hd (k p l e R s m args below meth c D cA B ad ad0 L0 H locs cells slots ls (b.stk (okc okI (okt (okt b.so)))))
theorem V_ior {x y : Int32} (hd : decode M.2.1 pc = .ok (.ior, 1)) (k : V σ M d bc bs (pc + 1) lv (aI (x ||| y) :: st) h P) : V σ M d bc bs pc lv (aI y :: aI x :: st) h P := by
  intro p l e R s m args below meth c D cA B ad ad0 L0 H locs cells slots ls b
  exact lv_ior b.x b.b hd (k p l e R s m args below meth c D cA B ad ad0 L0 H locs cells slots ls (b.stk (okc okI (okt (okt b.so)))))
theorem V_ishl {x y : Int32} (hd : decode M.2.1 pc = .ok (.ishl, 1)) (k : V σ M d bc bs (pc + 1) lv (aI (x <<< (y &&& 31)) :: st) h P) : V σ M d bc bs pc lv (aI y :: aI x :: st) h P := by
  intro p l e R s m args below meth c D cA B ad ad0 L0 H locs cells slots ls b
  exact lv_ishl b.x b.b hd (k p l e R s m args below meth c D cA B ad ad0 L0 H locs cells slots ls (b.stk (okc okI (okt (okt b.so)))))
theorem V_ishr {x y : Int32} (hd : decode M.2.1 pc = .ok (.ishr, 1)) (k : V σ M d bc bs (pc + 1) lv (aI (x >>> (y &&& 31)) :: st) h P) : V σ M d bc bs pc lv (aI y :: aI x :: st) h P := by
  intro p l e R s m args below meth c D cA B ad ad0 L0 H locs cells slots ls b
  exact lv_ishr b.x b.b hd (k p l e R s m args below meth c D cA B ad ad0 L0 H locs cells slots ls (b.stk (okc okI (okt (okt b.so)))))
theorem V_iushr {x y : Int32} (hd : decode M.2.1 pc = .ok (.iushr, 1)) (k : V σ M d bc bs (pc + 1) lv (aI ((x.toUInt32 >>> (y.toUInt32 &&& Int32.toUInt32 31)).toInt32) :: st) h P) : V σ M d bc bs pc lv (aI y :: aI x :: st) h P := by
  intro p l e R s m args below meth c D cA B ad ad0 L0 H locs cells slots ls b
  exact lv_iushr b.x b.b hd rfl (k p l e R s m args below meth c D cA B ad ad0 L0 H locs cells slots ls (b.stk (okc okI (okt (okt b.so)))))
theorem V_idiv {x y : Int32} (hd : decode M.2.1 pc = .ok (.idiv, 1)) (hne : ¬ y = 0) (k : V σ M d bc bs (pc + 1) lv (aI (x / y) :: st) h P) : V σ M d bc bs pc lv (aI y :: aI x :: st) h P := by
  intro p l e R s m args below meth c D cA B ad ad0 L0 H locs cells slots ls b
  exact lv_idiv b.x b.b hd hne (k p l e R s m args below meth c D cA B ad ad0 L0 H locs cells slots ls (b.stk (okc okI (okt (okt b.so)))))
theorem V_irem {x y : Int32} (hd : decode M.2.1 pc = .ok (.irem, 1)) (hne : ¬ y = 0) (k : V σ M d bc bs (pc + 1) lv (aI (x - x / y * y) :: st) h P) : V σ M d bc bs pc lv (aI y :: aI x :: st) h P := by
  intro p l e R s m args below meth c D cA B ad ad0 L0 H locs cells slots ls b
  exact lv_irem b.x b.b hd hne (k p l e R s m args below meth c D cA B ad ad0 L0 H locs cells slots ls (b.stk (okc okI (okt (okt b.so)))))
theorem V_ineg {x : Int32} (hd : decode M.2.1 pc = .ok (.ineg, 1)) (k : V σ M d bc bs (pc + 1) lv (aI (-x) :: st) h P) : V σ M d bc bs pc lv (aI x :: st) h P := by
  intro p l e R s m args below meth c D cA B ad ad0 L0 H locs cells slots ls b
  exact lv_ineg b.x b.b hd (k p l e R s m args below meth c D cA B ad ad0 L0 H locs cells slots ls (b.stk (okc okI (okt b.so))))
theorem V_i2b {x : Int32} (hd : decode M.2.1 pc = .ok (.i2b, 1)) (k : V σ M d bc bs (pc + 1) lv (aI (x.toInt8.toInt32) :: st) h P) : V σ M d bc bs pc lv (aI x :: st) h P := by
  intro p l e R s m args below meth c D cA B ad ad0 L0 H locs cells slots ls b
  exact lv_i2b b.x b.b hd rfl (k p l e R s m args below meth c D cA B ad ad0 L0 H locs cells slots ls (b.stk (okc okI (okt b.so))))
theorem V_i2l {x : Int32} (hd : decode M.2.1 pc = .ok (.i2l, 1)) (k : V σ M d bc bs (pc + 1) lv (aL (x.toInt64) :: st) h P) : V σ M d bc bs pc lv (aI x :: st) h P := by
  intro p l e R s m args below meth c D cA B ad ad0 L0 H locs cells slots ls b
  exact lv_i2l b.x b.b hd rfl (k p l e R s m args below meth c D cA B ad ad0 L0 H locs cells slots ls (b.stk (okc okLg (okt b.so))))
theorem V_lshl {x : Int64} {y : Int32} (hd : decode M.2.1 pc = .ok (.lshl, 1)) (k : V σ M d bc bs (pc + 1) lv (aL (x <<< (y.toInt64 &&& 63)) :: st) h P) : V σ M d bc bs pc lv (aI y :: aL x :: st) h P := by
  intro p l e R s m args below meth c D cA B ad ad0 L0 H locs cells slots ls b
  exact lv_lshl b.x b.b hd rfl (k p l e R s m args below meth c D cA B ad ad0 L0 H locs cells slots ls (b.stk (okc okLg (okt (okt b.so)))))
theorem V_lor {x y : Int64} (hd : decode M.2.1 pc = .ok (.lor, 1)) (k : V σ M d bc bs (pc + 1) lv (aL (x ||| y) :: st) h P) : V σ M d bc bs pc lv (aL y :: aL x :: st) h P := by
  intro p l e R s m args below meth c D cA B ad ad0 L0 H locs cells slots ls b
  exact lv_lor b.x b.b hd (k p l e R s m args below meth c D cA B ad ad0 L0 H locs cells slots ls (b.stk (okc okLg (okt (okt b.so)))))
theorem V_lcmp {x y : Int64} (hd : decode M.2.1 pc = .ok (.lcmp, 1)) (k : V σ M d bc bs (pc + 1) lv (aI (lg_cmp x y) :: st) h P) : V σ M d bc bs pc lv (aL y :: aL x :: st) h P := by
  intro p l e R s m args below meth c D cA B ad ad0 L0 H locs cells slots ls b
  exact W.lcmp b.x b.b hd (k p l e R s m args below meth c D cA B ad ad0 L0 H locs cells slots ls (b.stk (okc okI (okt (okt b.so)))))
theorem V_if_eq {x : Int32} {off : Int} (tgt : Nat) (hd : decode M.2.1 pc = .ok (.ifCond .eq off, 3)) (ht : (pc : Int) + off = (tgt : Int)) (k : (x = 0 → V σ M d bc bs tgt lv st h P) ∧ (¬ x = 0 → V σ M d bc bs (pc + 3) lv st h P)) : V σ M d bc bs pc lv (aI x :: st) h P := by
  intro p l e R s m args below meth c D cA B ad ad0 L0 H locs cells slots ls b
  exact lv_if_eq b.x b.b hd ht (fun z => k.1 z p l e R s m args below meth c D cA B ad ad0 L0 H locs cells slots ls (b.stk (okt b.so))) (fun z => k.2 z p l e R s m args below meth c D cA B ad ad0 L0 H locs cells slots ls (b.stk (okt b.so)))
theorem V_icmp_eq {x y : Int32} {off : Int} (tgt : Nat) (hd : decode M.2.1 pc = .ok (.if_icmp .eq off, 3)) (ht : (pc : Int) + off = (tgt : Int)) (k : (x = y → V σ M d bc bs tgt lv st h P) ∧ (¬ x = y → V σ M d bc bs (pc + 3) lv st h P)) : V σ M d bc bs pc lv (aI y :: aI x :: st) h P := by
  intro p l e R s m args below meth c D cA B ad ad0 L0 H locs cells slots ls b
  exact lv_icmp_eq b.x b.b hd ht (fun z => k.1 z p l e R s m args below meth c D cA B ad ad0 L0 H locs cells slots ls (b.stk (okt (okt b.so)))) (fun z => k.2 z p l e R s m args below meth c D cA B ad ad0 L0 H locs cells slots ls (b.stk (okt (okt b.so))))
theorem V_if_ne {x : Int32} {off : Int} (tgt : Nat) (hd : decode M.2.1 pc = .ok (.ifCond .ne off, 3)) (ht : (pc : Int) + off = (tgt : Int)) (k : (¬ x = 0 → V σ M d bc bs tgt lv st h P) ∧ (x = 0 → V σ M d bc bs (pc + 3) lv st h P)) : V σ M d bc bs pc lv (aI x :: st) h P := by
  intro p l e R s m args below meth c D cA B ad ad0 L0 H locs cells slots ls b
  exact lv_if_ne b.x b.b hd ht (fun z => k.1 z p l e R s m args below meth c D cA B ad ad0 L0 H locs cells slots ls (b.stk (okt b.so))) (fun z => k.2 z p l e R s m args below meth c D cA B ad ad0 L0 H locs cells slots ls (b.stk (okt b.so)))
theorem V_icmp_ne {x y : Int32} {off : Int} (tgt : Nat) (hd : decode M.2.1 pc = .ok (.if_icmp .ne off, 3)) (ht : (pc : Int) + off = (tgt : Int)) (k : (¬ x = y → V σ M d bc bs tgt lv st h P) ∧ (x = y → V σ M d bc bs (pc + 3) lv st h P)) : V σ M d bc bs pc lv (aI y :: aI x :: st) h P := by
  intro p l e R s m args below meth c D cA B ad ad0 L0 H locs cells slots ls b
  exact lv_icmp_ne b.x b.b hd ht (fun z => k.1 z p l e R s m args below meth c D cA B ad ad0 L0 H locs cells slots ls (b.stk (okt (okt b.so)))) (fun z => k.2 z p l e R s m args below meth c D cA B ad ad0 L0 H locs cells slots ls (b.stk (okt (okt b.so))))
theorem V_if_lt {x : Int32} {off : Int} (tgt : Nat) (hd : decode M.2.1 pc = .ok (.ifCond .lt off, 3)) (ht : (pc : Int) + off = (tgt : Int)) (k : (x < 0 → V σ M d bc bs tgt lv st h P) ∧ (¬ x < 0 → V σ M d bc bs (pc + 3) lv st h P)) : V σ M d bc bs pc lv (aI x :: st) h P := by
  intro p l e R s m args below meth c D cA B ad ad0 L0 H locs cells slots ls b
  exact lv_if_lt b.x b.b hd ht (fun z => k.1 z p l e R s m args below meth c D cA B ad ad0 L0 H locs cells slots ls (b.stk (okt b.so))) (fun z => k.2 z p l e R s m args below meth c D cA B ad ad0 L0 H locs cells slots ls (b.stk (okt b.so)))
theorem V_icmp_lt {x y : Int32} {off : Int} (tgt : Nat) (hd : decode M.2.1 pc = .ok (.if_icmp .lt off, 3)) (ht : (pc : Int) + off = (tgt : Int)) (k : (x < y → V σ M d bc bs tgt lv st h P) ∧ (¬ x < y → V σ M d bc bs (pc + 3) lv st h P)) : V σ M d bc bs pc lv (aI y :: aI x :: st) h P := by
  intro p l e R s m args below meth c D cA B ad ad0 L0 H locs cells slots ls b
  exact lv_icmp_lt b.x b.b hd ht (fun z => k.1 z p l e R s m args below meth c D cA B ad ad0 L0 H locs cells slots ls (b.stk (okt (okt b.so)))) (fun z => k.2 z p l e R s m args below meth c D cA B ad ad0 L0 H locs cells slots ls (b.stk (okt (okt b.so))))
theorem V_if_ge {x : Int32} {off : Int} (tgt : Nat) (hd : decode M.2.1 pc = .ok (.ifCond .ge off, 3)) (ht : (pc : Int) + off = (tgt : Int)) (k : (0 ≤ x → V σ M d bc bs tgt lv st h P) ∧ (¬ 0 ≤ x → V σ M d bc bs (pc + 3) lv st h P)) : V σ M d bc bs pc lv (aI x :: st) h P := by
  intro p l e R s m args below meth c D cA B ad ad0 L0 H locs cells slots ls b
  exact lv_if_ge b.x b.b hd ht (fun z => k.1 z p l e R s m args below meth c D cA B ad ad0 L0 H locs cells slots ls (b.stk (okt b.so))) (fun z => k.2 z p l e R s m args below meth c D cA B ad ad0 L0 H locs cells slots ls (b.stk (okt b.so)))
theorem V_icmp_ge {x y : Int32} {off : Int} (tgt : Nat) (hd : decode M.2.1 pc = .ok (.if_icmp .ge off, 3)) (ht : (pc : Int) + off = (tgt : Int)) (k : (y ≤ x → V σ M d bc bs tgt lv st h P) ∧ (¬ y ≤ x → V σ M d bc bs (pc + 3) lv st h P)) : V σ M d bc bs pc lv (aI y :: aI x :: st) h P := by
  intro p l e R s m args below meth c D cA B ad ad0 L0 H locs cells slots ls b
  exact lv_icmp_ge b.x b.b hd ht (fun z => k.1 z p l e R s m args below meth c D cA B ad ad0 L0 H locs cells slots ls (b.stk (okt (okt b.so)))) (fun z => k.2 z p l e R s m args below meth c D cA B ad ad0 L0 H locs cells slots ls (b.stk (okt (okt b.so))))
theorem V_if_gt {x : Int32} {off : Int} (tgt : Nat) (hd : decode M.2.1 pc = .ok (.ifCond .gt off, 3)) (ht : (pc : Int) + off = (tgt : Int)) (k : (0 < x → V σ M d bc bs tgt lv st h P) ∧ (¬ 0 < x → V σ M d bc bs (pc + 3) lv st h P)) : V σ M d bc bs pc lv (aI x :: st) h P := by
  intro p l e R s m args below meth c D cA B ad ad0 L0 H locs cells slots ls b
  exact lv_if_gt b.x b.b hd ht (fun z => k.1 z p l e R s m args below meth c D cA B ad ad0 L0 H locs cells slots ls (b.stk (okt b.so))) (fun z => k.2 z p l e R s m args below meth c D cA B ad ad0 L0 H locs cells slots ls (b.stk (okt b.so)))
theorem V_icmp_gt {x y : Int32} {off : Int} (tgt : Nat) (hd : decode M.2.1 pc = .ok (.if_icmp .gt off, 3)) (ht : (pc : Int) + off = (tgt : Int)) (k : (y < x → V σ M d bc bs tgt lv st h P) ∧ (¬ y < x → V σ M d bc bs (pc + 3) lv st h P)) : V σ M d bc bs pc lv (aI y :: aI x :: st) h P := by
  intro p l e R s m args below meth c D cA B ad ad0 L0 H locs cells slots ls b
  exact lv_icmp_gt b.x b.b hd ht (fun z => k.1 z p l e R s m args below meth c D cA B ad ad0 L0 H locs cells slots ls (b.stk (okt (okt b.so)))) (fun z => k.2 z p l e R s m args below meth c D cA B ad ad0 L0 H locs cells slots ls (b.stk (okt (okt b.so))))
theorem V_if_le {x : Int32} {off : Int} (tgt : Nat) (hd : decode M.2.1 pc = .ok (.ifCond .le off, 3)) (ht : (pc : Int) + off = (tgt : Int)) (k : (x ≤ 0 → V σ M d bc bs tgt lv st h P) ∧ (¬ x ≤ 0 → V σ M d bc bs (pc + 3) lv st h P)) : V σ M d bc bs pc lv (aI x :: st) h P := by
  intro p l e R s m args below meth c D cA B ad ad0 L0 H locs cells slots ls b
  exact lv_if_le b.x b.b hd ht (fun z => k.1 z p l e R s m args below meth c D cA B ad ad0 L0 H locs cells slots ls (b.stk (okt b.so))) (fun z => k.2 z p l e R s m args below meth c D cA B ad ad0 L0 H locs cells slots ls (b.stk (okt b.so)))
theorem V_icmp_le {x y : Int32} {off : Int} (tgt : Nat) (hd : decode M.2.1 pc = .ok (.if_icmp .le off, 3)) (ht : (pc : Int) + off = (tgt : Int)) (k : (x ≤ y → V σ M d bc bs tgt lv st h P) ∧ (¬ x ≤ y → V σ M d bc bs (pc + 3) lv st h P)) : V σ M d bc bs pc lv (aI y :: aI x :: st) h P := by
  intro p l e R s m args below meth c D cA B ad ad0 L0 H locs cells slots ls b
  exact lv_icmp_le b.x b.b hd ht (fun z => k.1 z p l e R s m args below meth c D cA B ad ad0 L0 H locs cells slots ls (b.stk (okt (okt b.so)))) (fun z => k.2 z p l e R s m args below meth c D cA B ad ad0 L0 H locs cells slots ls (b.stk (okt (okt b.so))))
theorem V_goto {off : Int} (tgt : Nat) (hd : decode M.2.1 pc = .ok (.goto off, 3)) (ht : (pc : Int) + off = (tgt : Int)) (k : V σ M d bc bs tgt lv st h P) : V σ M d bc bs pc lv st h P := by
  intro p l e R s m args below meth c D cA B ad ad0 L0 H locs cells slots ls b
  exact lv_goto b.x b.b hd ht (k p l e R s m args below meth c D cA B ad ad0 L0 H locs cells slots ls b)
theorem ct1 {ad : PT → Nat} {v : AV} (hv : ct v = 1) : (vl ad v).category = 1 := by
  match v, hv with
  | .inl x, _ => rfl
  | .inr (.inr none), _ => rfl
  | .inr (.inr (some q)), _ => rfl
theorem ctv {ad : PT → Nat} (v : AV) : (vl ad v).category = ct v := by
  match v with
  | .inl x => rfl
  | .inr (.inl x) => rfl
  | .inr (.inr none) => rfl
  | .inr (.inr (some q)) => rfl
theorem V_dup {v : AV} (hd : decode M.2.1 pc = .ok (.dup, 1)) (hv : ct v = 1) (k : V σ M d bc bs (pc + 1) lv (v :: v :: st) h P) : V σ M d bc bs pc lv (v :: st) h P := by
  intro p l e R s m args below meth c D cA B ad ad0 L0 H locs cells slots ls b
  exact lv_dup b.x b.b hd (ct1 hv) (k p l e R s m args below meth c D cA B ad ad0 L0 H locs cells slots ls (b.stk (okc (okh b.so) b.so)))
theorem V_pop {v : AV} (hd : decode M.2.1 pc = .ok (.pop, 1)) (hv : ct v = 1) (k : V σ M d bc bs (pc + 1) lv (st) h P) : V σ M d bc bs pc lv (v :: st) h P := by
  intro p l e R s m args below meth c D cA B ad ad0 L0 H locs cells slots ls b
  exact lv_pop b.x b.b hd (ct1 hv) (k p l e R s m args below meth c D cA B ad ad0 L0 H locs cells slots ls (b.stk (okt b.so)))
theorem V_dup2 {v w : AV} (hd : decode M.2.1 pc = .ok (.dup2, 1)) (hv : ct v = 1) (hw : ct w = 1) (k : V σ M d bc bs (pc + 1) lv (v :: w :: v :: w :: st) h P) : V σ M d bc bs pc lv (v :: w :: st) h P := by
  intro p l e R s m args below meth c D cA B ad ad0 L0 H locs cells slots ls b
  exact lv_dup2_11 b.x b.b hd (ct1 hv) (ct1 hw) (k p l e R s m args below meth c D cA B ad ad0 L0 H locs cells slots ls (b.stk (okc (okh b.so) (okc (okh (okt b.so)) b.so))))
theorem V_dup_x1 {v w : AV} (hd : decode M.2.1 pc = .ok (.dup_x1, 1)) (hv : ct v = 1) (hw : ct w = 1) (k : V σ M d bc bs (pc + 1) lv (v :: w :: v :: st) h P) : V σ M d bc bs pc lv (v :: w :: st) h P := by
  intro p l e R s m args below meth c D cA B ad ad0 L0 H locs cells slots ls b
  exact lv_dup_x1 b.x b.b hd (ct1 hv) (ct1 hw) (k p l e R s m args below meth c D cA B ad ad0 L0 H locs cells slots ls (b.stk (okc (okh b.so) (okc (okh (okt b.so)) (okc (okh b.so) (okt (okt b.so)))))))
theorem V_dup_x2 {v w u : AV} (hd : decode M.2.1 pc = .ok (.dup_x2, 1)) (hv : ct v = 1) (hw : ct w = 1) (hu : ct u = 1) (k : V σ M d bc bs (pc + 1) lv (v :: w :: u :: v :: st) h P) : V σ M d bc bs pc lv (v :: w :: u :: st) h P := by
  intro p l e R s m args below meth c D cA B ad ad0 L0 H locs cells slots ls b
  exact lv_dup_x2 b.x b.b hd (ct1 hv) (ct1 hw) (ct1 hu) (k p l e R s m args below meth c D cA B ad ad0 L0 H locs cells slots ls (b.stk (okc (okh b.so) (okc (okh (okt b.so)) (okc (okh (okt (okt b.so))) (okc (okh b.so) (okt (okt (okt b.so)))))))))
def lg (lv : List (Nat × AV)) (i : Nat) : Option AV := lv.lookup i
theorem lg_mem {i : Nat} {v : AV} : ∀ {lv : List (Nat × AV)}, lv.lookup i = some v → (i, v) ∈ lv
  | [], h => by cases h
  | (j, w) :: t, h => by
    rw [List.lookup_cons] at h
    by_cases e : i = j
    · subst e
      simp at h
      subst h
      exact List.mem_cons_self
    · have e2 : (i == j) = false := by simp [e]
      rw [e2] at h
      exact List.mem_cons_of_mem _ (lg_mem h)
theorem lg_at {ad : PT → Nat} {ls : Array Slot} {nL i : Nat} {v : AV} (hl : lv_has ls nL (lvm ad lv)) (hg : lg lv i = some v) : ls[i]? = some (.val (vl ad v)) :=
  hl.2.2 (i, vl ad v) (List.mem_map.mpr ⟨(i, v), lg_mem hg, rfl⟩)
theorem lg_ok {i : Nat} {v : AV} (ho : ∀ q ∈ lv, okV h q.2) (hg : lg lv i = some v) : okV h v := ho (i, v) (lg_mem hg)
theorem V_iload_n {n : Fin 4} (i : Nat) {x : Int32} (hd : decode M.2.1 pc = .ok (.iload_n n, 1)) (hi : (n : Nat) = i) (hg : lg lv i = some (aI x)) (k : V σ M d bc bs (pc + 1) lv (aI x :: st) h P) : V σ M d bc bs pc lv st h P := by
  intro p l e R s m args below meth c D cA B ad ad0 L0 H locs cells slots ls b
  exact lv_iload_n b.x b.b hd hi (lg_at b.lh hg) (k p l e R s m args below meth c D cA B ad ad0 L0 H locs cells slots ls (b.stk (okc okI b.so)))
theorem V_lload_n {n : Fin 4} (i : Nat) {x : Int64} (hd : decode M.2.1 pc = .ok (.lload_n n, 1)) (hi : (n : Nat) = i) (hg : lg lv i = some (aL x)) (k : V σ M d bc bs (pc + 1) lv (aL x :: st) h P) : V σ M d bc bs pc lv st h P := by
  intro p l e R s m args below meth c D cA B ad ad0 L0 H locs cells slots ls b
  exact lv_lload_n b.x b.b hd hi (lg_at b.lh hg) (k p l e R s m args below meth c D cA B ad ad0 L0 H locs cells slots ls (b.stk (okc okLg b.so)))
theorem V_aload_n {n : Fin 4} (i : Nat) {r : Option PT} (hd : decode M.2.1 pc = .ok (.aload_n n, 1)) (hi : (n : Nat) = i) (hg : lg lv i = some (aP r)) (k : V σ M d bc bs (pc + 1) lv (aP r :: st) h P) : V σ M d bc bs pc lv st h P := by
  intro p l e R s m args below meth c D cA B ad ad0 L0 H locs cells slots ls b
  have b2 := b.stk (okc (lg_ok b.lo hg) b.so)
  cases r with
  | none => exact lv_aload_nN b.x b.b hd hi (lg_at b.lh hg) (k p l e R s m args below meth c D cA B ad ad0 L0 H locs cells slots ls b2)
  | some q => exact lv_aload_n b.x b.b hd hi (lg_at b.lh hg) (k p l e R s m args below meth c D cA B ad ad0 L0 H locs cells slots ls b2)
theorem V_iload (i : Nat) {x : Int32} (hd : decode M.2.1 pc = .ok (.iload i, 2)) (hg : lg lv i = some (aI x)) (k : V σ M d bc bs (pc + 2) lv (aI x :: st) h P) : V σ M d bc bs pc lv st h P := by
  intro p l e R s m args below meth c D cA B ad ad0 L0 H locs cells slots ls b
  exact lv_iload b.x b.b hd (lg_at b.lh hg) (k p l e R s m args below meth c D cA B ad ad0 L0 H locs cells slots ls (b.stk (okc okI b.so)))
theorem V_lload (i : Nat) {x : Int64} (hd : decode M.2.1 pc = .ok (.lload i, 2)) (hg : lg lv i = some (aL x)) (k : V σ M d bc bs (pc + 2) lv (aL x :: st) h P) : V σ M d bc bs pc lv st h P := by
  intro p l e R s m args below meth c D cA B ad ad0 L0 H locs cells slots ls b
  exact lv_lload b.x b.b hd (lg_at b.lh hg) (k p l e R s m args below meth c D cA B ad ad0 L0 H locs cells slots ls (b.stk (okc okLg b.so)))
theorem V_aload (i : Nat) {r : Option PT} (hd : decode M.2.1 pc = .ok (.aload i, 2)) (hg : lg lv i = some (aP r)) (k : V σ M d bc bs (pc + 2) lv (aP r :: st) h P) : V σ M d bc bs pc lv st h P := by
  intro p l e R s m args below meth c D cA B ad ad0 L0 H locs cells slots ls b
  have b2 := b.stk (okc (lg_ok b.lo hg) b.so)
  cases r with
  | none => exact lv_aloadN b.x b.b hd (lg_at b.lh hg) (k p l e R s m args below meth c D cA B ad ad0 L0 H locs cells slots ls b2)
  | some q => exact lv_aload b.x b.b hd (lg_at b.lh hg) (k p l e R s m args below meth c D cA B ad ad0 L0 H locs cells slots ls b2)
def lpS (lv : List (Nat × AV)) (i : Nat) (v : AV) : List (Nat × AV) := (i, v) :: lv.filter (fun q => !(q.1 == i) && !(q.1 + 1 == i && ct q.2 == 2))
def lpD (lv : List (Nat × AV)) (i : Nat) (v : AV) : List (Nat × AV) := (i, v) :: lv.filter (fun q => !(q.1 == i) && (!(q.1 == i + 1) && !(q.1 + 1 == i && ct q.2 == 2)))
theorem lpS_eq {ad : PT → Nat} {i : Nat} {v : AV} : (i, vl ad v) :: (lvm ad lv).filter (fun q => !(q.1 == i) && !(q.1 + 1 == i && q.2.category == 2)) = lvm ad (lpS lv i v) := by
  simp only [lvm, lpS, List.map_cons, List.filter_map]
  congr 2
  apply List.filter_congr
  intro q _
  simp [ctv]
theorem lpD_eq {ad : PT → Nat} {i : Nat} {v : AV} : (i, vl ad v) :: (lvm ad lv).filter (fun q => !(q.1 == i) && (!(q.1 == i + 1) && !(q.1 + 1 == i && q.2.category == 2))) = lvm ad (lpD lv i v) := by
  simp only [lvm, lp2, List.map_cons, List.filter_map]
  congr 2
  apply List.filter_congr
  intro q _
  simp [ctv]
theorem lpS_ok {i : Nat} {v : AV} (hv : okV h v) (ho : ∀ q ∈ lv, okV h q.2) : ∀ q ∈ lpS lv i v, okV h q.2 := fun q hq => (List.mem_cons.mp hq).elim (fun e => by rw [e]; exact hv) (fun hq => ho q (List.mem_filter.mp hq).1)
theorem lpD_ok {i : Nat} {v : AV} (hv : okV h v) (ho : ∀ q ∈ lv, okV h q.2) : ∀ q ∈ lpD lv i v, okV h q.2 := fun q hq => (List.mem_cons.mp hq).elim (fun e => by rw [e]; exact hv) (fun hq => ho q (List.mem_filter.mp hq).1)
theorem V_istore_n {n : Fin 4} (i : Nat) {x : Int32} (hd : decode M.2.1 pc = .ok (.istore_n n, 1)) (hi : (n : Nat) = i) (hn : i < M.2.2.1) {lv2 : List (Nat × AV)} (he : lpS lv i (aI x) = lv2) (k : V σ M d bc bs (pc + 1) lv2 st h P) : V σ M d bc bs pc lv (aI x :: st) h P := by
  subst he
  intro p l e R s m args below meth c D cA B ad ad0 L0 H locs cells slots ls b
  exact lv_istore_n b.x b.b hd hi b.lh hn (lpS_eq (v := aI x)) (fun ls2 hl2 => k p l e R s m args below meth c D cA B ad ad0 L0 H locs cells slots ls2 (b.lst (okt b.so) hl2 (lpS_ok okI b.lo)))
theorem V_lstore_n {n : Fin 4} (i : Nat) {x : Int64} (hd : decode M.2.1 pc = .ok (.lstore_n n, 1)) (hi : (n : Nat) = i) (hn : i + 1 < M.2.2.1) {lv2 : List (Nat × AV)} (he : lpD lv i (aL x) = lv2) (k : V σ M d bc bs (pc + 1) lv2 st h P) : V σ M d bc bs pc lv (aL x :: st) h P := by
  subst he
  intro p l e R s m args below meth c D cA B ad ad0 L0 H locs cells slots ls b
  exact lv_lstore_n b.x b.b hd hi b.lh hn (lpD_eq (v := aL x)) (fun ls2 hl2 => k p l e R s m args below meth c D cA B ad ad0 L0 H locs cells slots ls2 (b.lst (okt b.so) hl2 (lpD_ok okLg b.lo)))
theorem V_astore_n {n : Fin 4} (i : Nat) {r : Option PT} (hd : decode M.2.1 pc = .ok (.astore_n n, 1)) (hi : (n : Nat) = i) (hn : i < M.2.2.1) {lv2 : List (Nat × AV)} (he : lpS lv i (aP r) = lv2) (k : V σ M d bc bs (pc + 1) lv2 st h P) : V σ M d bc bs pc lv (aP r :: st) h P := by
  subst he
  intro p l e R s m args below meth c D cA B ad ad0 L0 H locs cells slots ls b
  have hk := fun ls2 hl2 => k p l e R s m args below meth c D cA B ad ad0 L0 H locs cells slots ls2 (b.lst (okt b.so) hl2 (lpS_ok (okh b.so) b.lo))
  cases r with
  | none => exact lv_astore_nN b.x b.b hd hi b.lh hn (lpS_eq (v := aP none)) hk
  | some q => exact lv_astore_n b.x b.b hd hi b.lh hn (lpS_eq (v := aP (some q))) hk
theorem V_istore (i : Nat) {x : Int32} (hd : decode M.2.1 pc = .ok (.istore i, 2)) (hn : i < M.2.2.1) {lv2 : List (Nat × AV)} (he : lpS lv i (aI x) = lv2) (k : V σ M d bc bs (pc + 2) lv2 st h P) : V σ M d bc bs pc lv (aI x :: st) h P := by
  subst he
  intro p l e R s m args below meth c D cA B ad ad0 L0 H locs cells slots ls b
  exact lv_istore b.x b.b hd b.lh hn (lpS_eq (v := aI x)) (fun ls2 hl2 => k p l e R s m args below meth c D cA B ad ad0 L0 H locs cells slots ls2 (b.lst (okt b.so) hl2 (lpS_ok okI b.lo)))
theorem V_lstore (i : Nat) {x : Int64} (hd : decode M.2.1 pc = .ok (.lstore i, 2)) (hn : i + 1 < M.2.2.1) {lv2 : List (Nat × AV)} (he : lpD lv i (aL x) = lv2) (k : V σ M d bc bs (pc + 2) lv2 st h P) : V σ M d bc bs pc lv (aL x :: st) h P := by
  subst he
  intro p l e R s m args below meth c D cA B ad ad0 L0 H locs cells slots ls b
  exact lv_lstore b.x b.b hd b.lh hn (lpD_eq (v := aL x)) (fun ls2 hl2 => k p l e R s m args below meth c D cA B ad ad0 L0 H locs cells slots ls2 (b.lst (okt b.so) hl2 (lpD_ok okLg b.lo)))
theorem V_astore (i : Nat) {r : Option PT} (hd : decode M.2.1 pc = .ok (.astore i, 2)) (hn : i < M.2.2.1) {lv2 : List (Nat × AV)} (he : lpS lv i (aP r) = lv2) (k : V σ M d bc bs (pc + 2) lv2 st h P) : V σ M d bc bs pc lv (aP r :: st) h P := by
  subst he
  intro p l e R s m args below meth c D cA B ad ad0 L0 H locs cells slots ls b
  have hk := fun ls2 hl2 => k p l e R s m args below meth c D cA B ad ad0 L0 H locs cells slots ls2 (b.lst (okt b.so) hl2 (lpS_ok (okh b.so) b.lo))
  cases r with
  | none => exact lv_astoreN b.x b.b hd b.lh hn (lpS_eq (v := aP none)) hk
  | some q => exact lv_astore b.x b.b hd b.lh hn (lpS_eq (v := aP (some q))) hk
theorem V_iinc (i : Nat) {n : Int} {x v : Int32} (hd : decode M.2.1 pc = .ok (.iinc i n, 3)) (hg : lg lv i = some (aI x)) (hv : x + Int32.ofInt n = v) (hn : i < M.2.2.1) {lv2 : List (Nat × AV)} (he : lpS lv i (aI v) = lv2) (k : V σ M d bc bs (pc + 3) lv2 st h P) : V σ M d bc bs pc lv st h P := by
  subst he
  intro p l e R s m args below meth c D cA B ad ad0 L0 H locs cells slots ls b
  have hm : (i, Value.int x) ∈ lvm ad lv := List.mem_map.mpr ⟨(i, aI x), lg_mem hg, rfl⟩
  obtain ⟨j, hj⟩ := List.getElem?_of_mem hm
  exact lv_iinc b.x b.b hd b.lh hj hv hn (lpS_eq (v := aI v)) (fun ls2 hl2 => k p l e R s m args below meth c D cA B ad ad0 L0 H locs cells slots ls2 (b.lst b.so hl2 (lpS_ok okI b.lo)))
theorem V_ldc {idx : Nat} (v : Int32) (hd : decode M.2.1 pc = .ok (.ldc idx, 2)) (hw : Cond.constant M.1.cls idx v ∈ gw) (k : V σ M d bc bs (pc + 2) lv (aI v :: st) h P) : V σ M d bc bs pc lv st h P := by
  intro p l e R s m args below meth c D cA B ad ad0 L0 H locs cells slots ls b
  exact W.ldc b.x b.b b.own (b.ts _ hw) rfl hd (k p l e R s m args below meth c D cA B ad ad0 L0 H locs cells slots ls (b.stk (okc okI b.so)))
theorem V_ldc_w {idx : Nat} (v : Int32) (hd : decode M.2.1 pc = .ok (.ldc_w idx, 3)) (hw : Cond.constant M.1.cls idx v ∈ gw) (k : V σ M d bc bs (pc + 3) lv (aI v :: st) h P) : V σ M d bc bs pc lv st h P := by
  intro p l e R s m args below meth c D cA B ad ad0 L0 H locs cells slots ls b
  exact lv_ldcw b.x b.b b.own (b.ts _ hw) hd (k p l e R s m args below meth c D cA B ad ad0 L0 H locs cells slots ls (b.stk (okc okI b.so)))
theorem V_ldc2 {idx : Nat} (v : Int64) (hd : decode M.2.1 pc = .ok (.ldc2_w idx, 3)) (hw : Cond.constantLong M.1.cls idx v ∈ gw) (k : V σ M d bc bs (pc + 3) lv (aL v :: st) h P) : V σ M d bc bs pc lv st h P := by
  intro p l e R s m args below meth c D cA B ad ad0 L0 H locs cells slots ls b
  exact W.ldc2 b.x b.b b.own (b.ts _ hw) rfl hd (k p l e R s m args below meth c D cA B ad ad0 L0 H locs cells slots ls (b.stk (okc okLg b.so)))
end VR
end
section
-- ===== entry, return, calls =====
theorem vl_cg {h : HS} {ad ad2 : PT → Nat} {v : AV} (ho : okV h v) (ha : ∀ q, okL h.2.2 q → ad2 q = ad q) : vl ad2 v = vl ad v := by
  match v, ho with
  | .inl x, _ => rfl
  | .inr (.inl x), _ => rfl
  | .inr (.inr none), _ => rfl
  | .inr (.inr (some q)), ho => simp [vl, ha q (ho q rfl)]
theorem vls_cg {h : HS} {ad ad2 : PT → Nat} (ha : ∀ q, okL h.2.2 q → ad2 q = ad q) : ∀ {st : List AV}, (∀ v ∈ st, okV h v) → st.map (vl ad2) = st.map (vl ad)
  | [], _ => rfl
  | v :: t, ho => by rw [List.map_cons, List.map_cons, vl_cg (okh ho) ha, vls_cg ha (okt ho)]
theorem lvm_cg {h : HS} {ad ad2 : PT → Nat} (ha : ∀ q, okL h.2.2 q → ad2 q = ad q) {lv : List (Nat × AV)} (ho : ∀ q ∈ lv, okV h q.2) : lvm ad2 lv = lvm ad lv := by
  unfold lvm
  refine List.map_congr_left (fun q hq => ?_)
  rw [vl_cg (ho q hq) ha]
theorem Cl.mono {σ : Bool} {M : MT} {d bc bs : Nat} {as : List AV} {h : HS} {P P2 : Option AV → HS → Prop} (hp : ∀ r h2, P r h2 → P2 r h2) (k : Cl σ M d bc bs as h P) : Cl σ M d bc bs as h P2 := by
  intro l D cA B ad
  refine MetFree.mono (k l D cA B ad) (fun _ _ z => z) (fun _ _ _ _ _ z => z) (fun a s o t _ z => ?_)
  obtain ⟨⟨r, h2, ad2, z1, z2, z3⟩, z4⟩ := z
  exact ⟨⟨r, h2, ad2, z1, hp r h2 z2, z3⟩, z4⟩
theorem V.mono {σ : Bool} {M : MT} {d bc bs pc : Nat} {lv : List (Nat × AV)} {st : List AV} {h : HS} {P P2 : Option AV → HS → Prop} (hp : ∀ r h2, P r h2 → P2 r h2) (k : V σ M d bc bs pc lv st h P) : V σ M d bc bs pc lv st h P2 := by
  intro p l e R s m args below meth c D cA B ad ad0 L0 H locs cells slots ls b T hT X
  obtain ⟨t, a1, o, z1, z2, ⟨r, h2, ad2, y1, y2, y3⟩, z4⟩ := k p l e R s m args below meth c D cA B ad ad0 L0 H locs cells slots ls b T hT X
  exact ⟨t, a1, o, z1, z2, ⟨r, h2, ad2, y1, hp r h2 y2, y3⟩, z4⟩
def la : Nat → List AV → List (Nat × AV)
  | _, [] => []
  | n, v :: t => (n, v) :: la (if ct v = 2 then n + 2 else n + 1) t
theorem la_eq (ad : PT → Nat) : ∀ (as : List AV) (n : Nat), lv_args n (as.map (vl ad)) = lvm ad (la n as)
  | [], n => rfl
  | v :: t, n => by
    show (n, vl ad v) :: lv_args (if (vl ad v).category = 2 then n + 2 else n + 1) (t.map (vl ad)) = (n, vl ad v) :: lvm ad (la (if ct v = 2 then n + 2 else n + 1) t)
    rw [ctv, la_eq ad t]
theorem la_ok {h : HS} : ∀ (as : List AV) (n : Nat), (∀ v ∈ as, okV h v) → ∀ q ∈ la n as, okV h q.2
  | [], n, _, q, hq => by cases hq
  | v :: t, n, ho, q, hq => by
    rcases List.mem_cons.mp hq with e | hq
    · rw [e]; exact okh ho
    · exact la_ok t _ (okt ho) q hq
theorem la_len (ad : PT → Nat) : ∀ (as : List AV), (lg_sl (as.map (vl ad))).length = (as.map ct).sum
  | [] => rfl
  | v :: t => by
    have ih := la_len ad t
    simp only [lg_sl, List.map_cons, List.flatMap_cons, List.length_append, List.sum_cons, ctv] at ih ⊢
    rw [ih]
    match v with
    | .inl x => rfl
    | .inr (.inl x) => rfl
    | .inr (.inr none) => rfl
    | .inr (.inr (some q)) => rfl
/-- a method's contract, out of its walk from the entry -/
theorem Cl_of {σ : Bool} {M : MT} {d bc bs : Nat} {as : List AV} {h : HS} {P : Option AV → HS → Prop} (hy : plainName M.1.cls = true) (hn : (as.map ct).sum ≤ M.2.2.1) (k : V σ M d bc bs 0 (la 0 as) [] h P) : Cl σ M d bc bs as h P := by
  intro l D cA B ad
  refine Met.ofW (cc := M.2.1) (maxL := M.2.2.1) (ret := M.2.2.2) hy rfl ?_
  intro p e s m args below meth c s₁ Bo hml hv
  obtain ⟨rfl, hB, hE, hR, hK, ho⟩ := hv
  have hts := atoms_spec (ws := Cond.code M.1 M.2.1 M.2.2.1 M.2.2.2 :: gw) Bo.pre
  have hl := lv_entry (as.map (vl ad)) (n := M.2.2.1) (by rw [la_len]; exact hn)
  rw [lg_entry_eq]
  generalize (lg_sl (as.map (vl ad)) ++ List.replicate (M.2.2.1 - (lg_sl (as.map (vl ad))).length) Slot.unset).toArray = ls at hl ⊢
  rw [la_eq] at hl
  exact k p l e _ s m _ below meth c D cA B ad ad h.2.2 s.heap [] 0 0 ls ⟨⟨Bo.exec, Bo.bytes, hml, findClass_of_methodNamed Bo.named, fun w hw => hts w (List.mem_cons_of_mem _ hw), Bo.returns, Bo.notSynchronized, (name_of_methodNamed Bo.named Bo.method).1, hK⟩, hB, hE, ⟨Nat.le_refl _, Nat.le_refl _⟩, ⟨by show 0 + bc ≤ bc; omega, by show 0 + bs ≤ bs; omega⟩, hR, va_S.rf, hl, la_ok as 0 ho, (fun v hv => by cases hv), fun q hq => ⟨rfl, hq⟩⟩
section VC
variable {σ : Bool} {M : MT} {d bc bs pc : Nat} {lv : List (Nat × AV)} {st : List AV} {h : HS} {P : Option AV → HS → Prop}
theorem V_ireturn {x : Int32} (hd : decode M.2.1 pc = .ok (.ireturn, 1)) (hr : M.2.2.2 = some .int) (k : P (some (aI x)) h) : V σ M d bc bs pc lv [aI x] h P := by
  intro p l e R s m args below meth c D cA B ad ad0 L0 H locs cells slots ls b
  refine W.widen (k := R.cells) (n := R.slots) (Nat.le_trans (Nat.le_add_right _ _) b.2.2.2.2.1.1) (Nat.le_trans (Nat.le_add_right _ _) b.2.2.2.2.1.2) ?_
  exact W.iret (v := x) b.x b.b (b.1.2.2.2.2.2.1.trans hr) (fun t ht hW => ⟨some (aI x), h, ad, rfl, k, by rw [ht]; exact b.rep, fun v e => by cases e; exact okI, b.2.2.2.2.2.2.2.2.2.2, b.S.F ht⟩) b.S.2.2 hd b.1.2.2.2.2.2.2.1
theorem V_zreturn {x : Int32} (hd : decode M.2.1 pc = .ok (.ireturn, 1)) (hr : M.2.2.2 = some .boolean) (hz : x = 0 ∨ x = 1) (k : P (some (aI x)) h) : V σ M d bc bs pc lv [aI x] h P := by
  intro p l e R s m args below meth c D cA B ad ad0 L0 H locs cells slots ls b
  refine W.widen (k := R.cells) (n := R.slots) (Nat.le_trans (Nat.le_add_right _ _) b.2.2.2.2.1.1) (Nat.le_trans (Nat.le_add_right _ _) b.2.2.2.2.1.2) ?_
  exact W.zret (v := x) b.x b.b (b.1.2.2.2.2.2.1.trans hr) (by rcases hz with rfl | rfl <;> decide +kernel) (fun t ht hW => ⟨some (aI x), h, ad, rfl, k, by rw [ht]; exact b.rep, fun v e => by cases e; exact okI, b.2.2.2.2.2.2.2.2.2.2, b.S.F ht⟩) b.S.2.2 hd b.1.2.2.2.2.2.2.1
theorem V_areturn {r : Option PT} (hd : decode M.2.1 pc = .ok (.areturn, 1)) {rt : FieldType} (hr : M.2.2.2 = some rt) (hrt : (∃ n, rt = .object n) ∨ ∃ t, rt = .array t) (k : P (some (aP r)) h) : V σ M d bc bs pc lv [aP r] h P := by
  intro p l e R s m args below meth c D cA B ad ad0 L0 H locs cells slots ls b
  refine W.widen (k := R.cells) (n := R.slots) (Nat.le_trans (Nat.le_add_right _ _) b.2.2.2.2.1.1) (Nat.le_trans (Nat.le_add_right _ _) b.2.2.2.2.1.2) ?_
  exact W.aret (v := vl ad (aP r)) b.x b.b (b.1.2.2.2.2.2.1.trans hr) hrt (va_rf_or _) (fun t ht hW => ⟨some (aP r), h, ad, rfl, k, by rw [ht]; exact b.rep, fun v e => by cases e; exact okh b.so, b.2.2.2.2.2.2.2.2.2.2, b.S.F ht⟩) b.S.2.2 hd b.1.2.2.2.2.2.2.1
theorem V_return (hd : decode M.2.1 pc = .ok (.return_, 1)) (hr : M.2.2.2 = none) (k : P none h) : V σ M d bc bs pc lv [] h P := by
  intro p l e R s m args below meth c D cA B ad ad0 L0 H locs cells slots ls b
  refine W.widen (k := R.cells) (n := R.slots) (Nat.le_trans (Nat.le_add_right _ _) b.2.2.2.2.1.1) (Nat.le_trans (Nat.le_add_right _ _) b.2.2.2.2.1.2) ?_
  exact W.vret b.x b.b (b.1.2.2.2.2.2.1.trans hr) (fun t ht hW => ⟨none, h, ad, rfl, k, by rw [ht]; exact b.rep, fun v e => (by cases e), b.2.2.2.2.2.2.2.2.2.2, b.S.F ht⟩) b.S.2.2 hd b.1.2.2.2.2.2.2.1
/-- behind a call -/
theorem V_back {M2 : MT} {mc ms : Nat} {as : List AV} {p : Program} {l : Launch} {e : Env} {R : Room} {s : State} {m : MethodId} {args : Array Value} {below : List Frame} {meth : Method} {c : Code} {D : va_G} {cA : FieldType → ClassId} {B : Nat} {ad ad0 : PT → Nat} {L0 : List PT} {H : Heap} {locs : List Loc} {cells slots : Nat} {ls : Array Slot} {st0 : List AV} {sv : List Value} {av : Array Value}
    (hm : mc ≤ bc) (hs : ms ≤ bs) (b : Bd σ M d bc bs lv st0 h p R s m args meth c D cA B ad ad0 L0 H locs cells slots ls) (ho : ∀ v ∈ st, okV h v)
    (hr : va_Run p l e R s m args below meth c H locs cells slots mc ms (F0 m pc ls sv) (st.map (vl ad)) (QM σ D cA B ad h.2.2 (fun r h2 => V σ M d (bc - mc) (bs - ms) (pc + 3) lv (r.toList ++ st) h2 P) av) (fun q => B ≤ q)) :
    W p l e R s m args below meth c H locs cells slots (MQ below (QM σ D cA B ad0 L0 P) args s R.cells R.slots (fun q => B ≤ q)) (F0 m pc ls sv) := by
  intro T hT X
  obtain ⟨v, st₀, t, T', L, h0, X', hL, e1, e2, ⟨r, h2, ad2, z1, z2, z3, z4, z5, z6⟩, go⟩ := hr T hT X
  have hv : v = r.map (vl ad2) := by cases z1; rfl
  obtain ⟨hz, hk⟩ := z6
  rw [h0] at hz hk
  obtain ⟨b1, b2, b3, b4, b5, b6, b7, b8, b9, b10, b11⟩ := b
  have ha : ∀ q, okL h.2.2 q → ad2 q = ad q := fun q hq => (z5 q hq).1
  have up : ∀ {v : AV}, okV h v → okV h2 v := fun hv q e => (z5 q (hv q e)).2
  have est : (r.toList ++ st).map (vl ad2) = v.toList ++ st.map (vl ad) := by
    rw [List.map_append, vls_cg ha ho, hv]
    cases r <;> rfl
  have b' : Bd σ M d (bc - mc) (bs - ms) lv (r.toList ++ st) h2 p R s m args meth c D cA B ad2 ad0 L0 T'.heap (locs ++ L) (cells + mc) (slots + ms) ls := by
    refine ⟨b1, b2, ?_, b4, ⟨by omega, by omega⟩, by rw [e1]; exact z3, ?_, by rw [lvm_cg ha b9]; exact b8, fun q hq => up (b9 q hq), ?_, fun q hq => ?_⟩
    · exact Ex.kept b3 (fun _ _ _ => rfl) (fun q hq => ha q (Or.inr hq))
    · refine ⟨Nat.le_trans b7.1 (by rw [e1]; exact hz), fun q h1 h2 => by rw [e1, hk q (Nat.lt_of_lt_of_le h1 b7.1) h2]; exact b7.2.1 q h1 h2, fun q hq => ?_⟩
      rcases List.mem_append.mp hq with h | h
      · exact b7.2.2 q h
      · exact hL q h
    · intro w hw
      rcases List.mem_append.mp hw with h | h
      · cases r with
        | none => cases h
        | some x =>
          have : w = x := by simpa using h
          rw [this]
          exact z4 x rfl
      · exact up (ho w h)
    · obtain ⟨y1, y2⟩ := b11 q hq
      exact ⟨(z5 q y2).1.trans y1, (z5 q y2).2⟩
  have K := z2 p l e R s m args below meth c D cA B ad2 ad0 L0 T'.heap (locs ++ L) (cells + mc) (slots + ms) ls b'
  rw [est] at K
  obtain ⟨t2, a1, a2⟩ := K T' rfl X'
  exact ⟨t2, go t2 a1, a2⟩
theorem blind {D : va_G} {cA : FieldType → ClassId} {B : Nat} {ad : PT → Nat} {as : List AV} : FrameBlind (va_Pc (as.map (vl ad)) (fun U => B ≤ U.heap.size ∧ Ex B ad U U.heap ∧ Rep σ D cA ad B h U.heap ∧ va_K D vwCl (tysO cA) U ∧ ∀ v ∈ as, okV h v)) := by
  intro a U g mk ⟨q1, q2, q3, q4, q5, q6⟩
  exact ⟨q1, q2, Ex.same (u := U) (U := U.calling g mk a) rfl q3, q4, va_K.moved (u := U) (U := U.calling g mk a) (Vm.Alike.refl U.vm) q5, q6⟩
theorem pre_at {p : Program} {R : Room} {s : State} {m : MethodId} {args : Array Value} {meth : Method} {c : Code} {D : va_G} {cA : FieldType → ClassId} {B : Nat} {ad ad0 : PT → Nat} {L0 : List PT} {H : Heap} {locs : List Loc} {cells slots : Nat} {ls : Array Slot} {as : List AV}
    (b : Bd σ M d bc bs lv st h p R s m args meth c D cA B ad ad0 L0 H locs cells slots ls) (ho : ∀ v ∈ as, okV h v) : ∀ U : State, U.heap = H → s.WarmedH U.vm → va_Pc (as.map (vl ad)) (fun U => B ≤ U.heap.size ∧ Ex B ad U U.heap ∧ Rep σ D cA ad B h U.heap ∧ va_K D vwCl (tysO cA) U ∧ ∀ v ∈ as, okV h v) (as.map (vl ad)).toArray U := by
  intro U hU hW
  refine ⟨rfl, by rw [hU]; exact Nat.le_trans b.2.1 b.S.1, ?_, by rw [hU]; exact b.rep, va_K.moved hW.alike b.K, ho⟩
  rw [hU]
  exact Ex.kept (Ex.warm hW b.2.2.1) (fun q h1 h2 => b.S.2.1 q h1 h2) (fun _ _ => rfl)
theorem gwIn {w : Cond} (h : w ∈ gw) : GoodIn gw (w :: gw) := fun x hx => by
  have hg : x ∈ gw := (List.mem_cons.mp hx).elim (fun e => e ▸ h) id
  exact ⟨hg, good_of_word (List.mem_filter.mp hg).2⟩
/-- what a method is to a caller: its words among the tables' -/
def Mok (M2 : MT) (n : Nat) : Prop := Cond.code M2.1 M2.2.1 M2.2.2.1 M2.2.2.2 ∈ gw ∧ Cond.initialized M2.1.cls ∈ gw ∧ (M2.1.cls ≠ "java/lang/invoke/MethodHandle" ∧ M2.1.cls ≠ "java/lang/invoke/VarHandle" ∧ (parseMethodDescriptor M2.1.desc).map (fun d => d.parameters.length) = some n) ∧ M2.2.2.1 ≤ 45
theorem stk_split {ad : PT → Nat} {as st : List AV} : (as.reverse ++ st).map (vl ad) = (as.map (vl ad)).reverse ++ st.map (vl ad) := by
  rw [List.map_append, List.map_reverse]
theorem ct_room {ad : PT → Nat} {st : List AV} (hw : (st.map ct).sum ≤ 8) : ((st.map (vl ad)).map fun v => v.category).sum ≤ 8 := by
  rw [List.map_map]
  have : ((fun v => v.category) ∘ vl ad) = ct := by funext v; exact ctv v
  rw [this]
  exact hw
theorem V_callS {M2 : MT} {n idx mc ms : Nat} {as : List AV} (hd : decode M.2.1 pc = .ok (.invokestatic idx, 3)) (ho : Mok M2 n) (hs : Cond.static M2.1 ∈ gw) (hl : Cond.methodLink M.1.cls idx M2.1 ∈ gw) (hn : as.length = n) (hw : (st.map ct).sum ≤ 8) (hm : mc ≤ bc) (hms : ms ≤ bs)
    (k : Cl σ M2 d mc ms as h (fun r h2 => V σ M (d + 1) (bc - mc) (bs - ms) (pc + 3) lv (r.toList ++ st) h2 P)) : V σ M (d + 1) bc bs pc lv (as.reverse ++ st) h P := by
  intro p l e R s m args below meth c D cA B ad ad0 L0 H locs cells slots ls b
  have hst : ∀ v ∈ st, okV h v := fun v hv => b.so v (List.mem_append_right _ hv)
  have has : ∀ v ∈ as, okV h v := fun v hv => b.so v (List.mem_append_left _ (List.mem_reverse.mpr hv))
  obtain ⟨o1, o2, o3, o4⟩ := ho
  obtain ⟨f1, f2⟩ := b.2.2.2.1
  obtain ⟨g1, g2⟩ := b.2.2.2.2.1
  refine V_back (M2 := M2) (as := as) hm hms b hst (va_runS (As := as.map (vl ad)) (rest := st.map (vl ad)) (Ts := gw) ⟨b.x, b.b, b.1.2.2.1, b.own, b.ts⟩ (k l D cA B ad) ⟨callB_of n b.ts (gwIn o1) rfl rfl rfl (b.ts _ o2) (b.ts _ hl) o3 ⟨f1, by show 8 + (M2.2.2.1 + 11) + 64 * d ≤ R.locals; omega⟩, b.ts _ hs⟩ ⟨blind, pre_at b has⟩ rfl (by rw [List.length_map]; exact hn) b.lh.1 stk_split (lv_room (ct_room hw)) hd ⟨by omega, by omega⟩)
theorem V_callI {M2 : MT} {n idx mc ms ca ia : Nat} {as : List AV} (hd : decode M.2.1 pc = .ok (.invokespecial idx, 3)) (ho : Mok M2 n) (hr : M2.2.2.2 = none) (hy : M2.1.name = "<init>") (hs : Cond.instanceMethod M2.1 ∈ gw) (hl : Cond.methodLink M.1.cls idx M2.1 ∈ gw) (hn : as.length = n) (hw : (st.map ct).sum ≤ 8) (hm : mc ≤ bc) (hms : ms ≤ bs)
    (k : Cl σ M2 d mc ms (aR ca ia :: as) h (fun r h2 => V σ M (d + 1) (bc - mc) (bs - ms) (pc + 3) lv (r.toList ++ st) h2 P)) : V σ M (d + 1) bc bs pc lv (as.reverse ++ aR ca ia :: st) h P := by
  intro p l e R s m args below meth c D cA B ad ad0 L0 H locs cells slots ls b
  have hst : ∀ v ∈ st, okV h v := fun v hv => b.so v (List.mem_append_right _ (List.mem_cons_of_mem _ hv))
  have has : ∀ v ∈ aR ca ia :: as, okV h v := okc (b.so _ (List.mem_append_right _ List.mem_cons_self)) (fun v hv => b.so v (List.mem_append_left _ (List.mem_reverse.mpr hv)))
  obtain ⟨o1, o2, o3, o4⟩ := ho
  obtain ⟨f1, f2⟩ := b.2.2.2.1
  obtain ⟨g1, g2⟩ := b.2.2.2.2.1
  obtain ⟨y2, c2, n2, r2⟩ := M2
  dsimp only at hr
  subst hr
  refine V_back (M2 := (y2, c2, n2, none)) (as := as) hm hms b hst (va_runI (b := ad (ca, ia)) (As := as.map (vl ad)) (rest := st.map (vl ad)) (Ts := gw) ⟨b.x, b.b, b.1.2.2.1, b.own, b.ts⟩ (k l D cA B ad) ⟨callB_of n b.ts (gwIn o1) rfl rfl rfl (b.ts _ o2) (b.ts _ hl) o3 ⟨f1, by show 8 + (n2 + 11) + 64 * d ≤ R.locals; dsimp only at o4; omega⟩, hy, b.ts _ hs⟩ ⟨blind, pre_at b has⟩ rfl (by rw [List.length_map]; exact hn) b.lh.1 (by rw [stk_split]; rfl) (lv_room (ct_room hw)) hd ⟨by omega, by omega⟩)
/-- where a pointer of the store lies among the cells -/
theorem ws_at {cA : FieldType → ClassId} {ad : PT → Nat} {q : PT} (hq : q ∈ h.2.2) : ∃ j : Nat, h.2.2[j]? = some q ∧ (wsO σ cA ad h)[j]? = some (ad q, toE σ cA ad h q) := by
  obtain ⟨j, hj⟩ := List.getElem?_of_mem hq
  exact ⟨j, hj, by unfold wsO; rw [List.getElem?_map, hj]; rfl⟩
theorem toE_o {cA : FieldType → ClassId} {ad : PT → Nat} {c i ci : Nat} (hr : rty c i = .inl ci) : toE σ cA ad h (c, i) = .inr (ci, (List.range (nF ci)).map (fv σ ad h c i ci)) := by
  unfold toE
  rw [hr]
theorem toE_a {cA : FieldType → ClassId} {ad : PT → Nat} {c i n : Nat} {t : FieldType} (hr : rty c i = .inr (t, n)) (ht : isRT t = false) : toE σ cA ad h (c, i) = .inl (cA t, n, .inl (gI h c i)) := by
  unfold toE
  rw [hr]
  simp [ht]
theorem inL {c i : Nat} (hc : c < 65) (ho : okV h (aR c i)) : (c, i) ∈ h.2.2 := by
  rcases ho (c, i) rfl with z | z
  · exact z
  · exact absurd z (by show ¬ 65 ≤ c; omega)
theorem V_callV {M2 : MT} {n idx mc ms ca ia ci N : Nat} {T : u_T} {as : List AV} (hc65 : ca < 65) (hty : rty ca ia = .inl ci) (hcl : vwCl[ci]? = some (M2.1.cls, T, N)) (hd : decode M.2.1 pc = .ok (.invokevirtual idx, 3)) (ho : Mok M2 n) (hs : Cond.instanceMethod M2.1 ∈ gw) (hse : Cond.selects M2.1.cls M2.1 M2.1 ∈ gw) (hl : Cond.methodLink M.1.cls idx M2.1 ∈ gw) (hn : as.length = n) (hw : (st.map ct).sum ≤ 8) (hm : mc ≤ bc) (hms : ms ≤ bs)
    (k : Cl σ M2 d mc ms (aR ca ia :: as) h (fun r h2 => V σ M (d + 1) (bc - mc) (bs - ms) (pc + 3) lv (r.toList ++ st) h2 P)) : V σ M (d + 1) bc bs pc lv (as.reverse ++ aR ca ia :: st) h P := by
  intro p l e R s m args below meth c D cA B ad ad0 L0 H locs cells slots ls b
  have hst : ∀ v ∈ st, okV h v := fun v hv => b.so v (List.mem_append_right _ (List.mem_cons_of_mem _ hv))
  have has : ∀ v ∈ aR ca ia :: as, okV h v := okc (b.so _ (List.mem_append_right _ List.mem_cons_self)) (fun v hv => b.so v (List.mem_append_left _ (List.mem_reverse.mpr hv)))
  obtain ⟨o1, o2, o3, o4⟩ := ho
  obtain ⟨f1, f2⟩ := b.2.2.2.1
  obtain ⟨g1, g2⟩ := b.2.2.2.2.1
  obtain ⟨j, -, hj⟩ := ws_at (σ := σ) (cA := cA) (ad := ad) (inL hc65 (okh has))
  rw [toE_o hty] at hj
  refine V_back (M2 := M2) (as := as) hm hms b hst (va_runV (b := ad (ca, ia)) (C := M2.1.cls) (As := as.map (vl ad)) (rest := st.map (vl ad)) (Ts := gw) ⟨b.x, b.b, b.1.2.2.1, b.own, b.ts⟩ (k l D cA B ad) ⟨callB_of n b.ts (gwIn o1) rfl rfl rfl (b.ts _ o2) (b.ts _ hl) o3 ⟨f1, by show 8 + (M2.2.2.1 + 11) + 64 * d ≤ R.locals; omega⟩, b.ts _ hs, b.ts _ hse⟩ ⟨blind, va_recv b.K b.rep.1 hcl hj, pre_at b has⟩ rfl (by rw [List.length_map]; exact hn) b.lh.1 (by rw [stk_split]; rfl) (lv_room (ct_room hw)) hd ⟨by omega, by omega⟩)
end VC
end
section
-- ===== fields, arrays, new cells =====
theorem fs_get {N k : Nat} {f : Nat → Value} (hk : k < N) : ((List.range N).map f)[k]? = some (f k) := by
  rw [List.getElem?_map, List.getElem?_range hk]
  rfl
theorem fs_set {N k : Nat} {f g : Nat → Value} {v : Value} (hv : g k = v) (hg : ∀ j, j ≠ k → g j = f j) : ((List.range N).map f).set k v = (List.range N).map g := by
  apply List.ext_getElem?
  intro n
  rw [List.getElem?_set]
  by_cases e : k = n
  · subst e
    rw [if_pos rfl]
    by_cases hk : k < N
    · rw [if_pos (by simpa using hk), fs_get hk, hv]
    · rw [if_neg (by simpa using hk)]
      symm
      apply List.getElem?_eq_none
      simpa using hk
  · rw [if_neg e]
    by_cases hk : n < N
    · rw [fs_get hk, fs_get hk, hg n (fun z => e z.symm)]
    · rw [List.getElem?_eq_none (by simpa using hk), List.getElem?_eq_none (by simpa using hk)]
section VM
variable {σ : Bool} {M : MT} {d bc bs pc : Nat} {lv : List (Nat × AV)} {st : List AV} {h : HS} {P : Option AV → HS → Prop}
theorem wsO_set {cA : FieldType → ClassId} {ad : PT → Nat} {h2 : HS} {j : Nat} {q : PT} (hL : h2.2.2 = h.2.2) (hj : h.2.2[j]? = some q) (ho : ∀ n q', h.2.2[n]? = some q' → n ≠ j → toE σ cA ad h2 q' = toE σ cA ad h q') : wsO σ cA ad h2 = (wsO σ cA ad h).set j (ad q, toE σ cA ad h2 q) := by
  apply List.ext_getElem?
  intro n
  rw [List.getElem?_set]
  unfold wsO
  rw [hL, List.getElem?_map, List.getElem?_map]
  by_cases e : j = n
  · subst e
    have hl : j < (h.2.2.map (fun q => (ad q, toE σ cA ad h q))).length := by
      rw [List.length_map]
      exact (List.getElem?_eq_some_iff.mp hj).1
    rw [if_pos rfl, if_pos hl, hj]
    rfl
  · rw [if_neg e]
    cases hn : h.2.2[n]? with
    | none => rfl
    | some q' =>
      show some (ad q', toE σ cA ad h2 q') = some (ad q', toE σ cA ad h q')
      rw [ho n q' hn (fun z => e z.symm)]
theorem ws_nd {cA : FieldType → ClassId} {ad : PT → Nat} {A : Nat → Prop} {i j : Nat} {q : PT} (hD : va_D A (wsO σ cA ad h)) (hi : h.2.2[i]? = some q) (hj : h.2.2[j]? = some q) : i = j := by
  refine hD.1 i j (ad q, toE σ cA ad h q) (ad q, toE σ cA ad h q) ?_ ?_ rfl
  · unfold wsO; rw [List.getElem?_map, hi]; rfl
  · unfold wsO; rw [List.getElem?_map, hj]; rfl
theorem gS_sI {c i k c' i' k' : Nat} {v : Int32} : gS σ (sI h c i k v) c' i' k' = gS σ h c' i' k' := rfl
theorem gI_sI {c i k c' i' k' : Nat} {v : Int32} : gI (sI h c i k v) c' i' k' = if c' = c ∧ k' = k ∧ i' = i then v else gI h c' i' k' := rfl
theorem gI_sR {c i k c' i' k' : Nat} {v : Option PT} : gI (sR h c i k v) c' i' k' = gI h c' i' k' := rfl
theorem gR_sI {c i k c' i' k' : Nat} {v : Int32} : gR (sI h c i k v) c' i' k' = gR h c' i' k' := rfl
theorem gR_sR {c i k c' i' k' : Nat} {v : Option PT} : gR (sR h c i k v) c' i' k' = if c' = c ∧ k' = k ∧ i' = i then v else gR h c' i' k' := rfl
theorem toE_sI {cA : FieldType → ClassId} {ad : PT → Nat} {c i k : Nat} {v : Int32} {q : PT} (hq : q ≠ (c, i)) : toE σ cA ad (sI h c i k v) q = toE σ cA ad h q := by
  obtain ⟨c', i'⟩ := q
  have hn : ∀ k', ¬ (c' = c ∧ k' = k ∧ i' = i) := fun k' z => hq (by rw [z.1, z.2.2])
  have e1 : ∀ k', gI (sI h c i k v) c' i' k' = gI h c' i' k' := fun k' => by rw [gI_sI, if_neg (hn k')]
  have e2 : gI (sI h c i k v) c' i' = gI h c' i' := funext e1
  have e3 : ∀ ci, fv σ ad (sI h c i k v) c' i' ci = fv σ ad h c' i' ci := fun ci => by funext k'; unfold fv; rw [gS_sI, e1]
  unfold toE
  simp only [e2, e3, gS_sI]
/-- a store of an int -/
theorem Bd.stI {p : Program} {R : Room} {s : State} {m : MethodId} {args : Array Value} {meth : Method} {c : Code} {D : va_G} {cA : FieldType → ClassId} {B : Nat} {ad ad0 : PT → Nat} {L0 : List PT} {H H1 : Heap} {locs locs1 : List Loc} {cells slots : Nat} {ls : Array Slot} {st' : List AV} {cc i k j : Nat} {v : Int32}
    (b : Bd σ M d bc bs lv st h p R s m args meth c D cA B ad ad0 L0 H locs cells slots ls) (hs : ∀ v ∈ st', okV h v) (hj : h.2.2[j]? = some (cc, i)) (hP : va_P D vwCl ((wsO σ cA ad h).set j (ad (cc, i), toE σ cA ad (sI h cc i k v) (cc, i))) H1) (hD : va_D (fun q => B ≤ q) ((wsO σ cA ad h).set j (ad (cc, i), toE σ cA ad (sI h cc i k v) (cc, i)))) (hS : va_S (fun q => B ≤ q) s.heap H1 locs1) :
    Bd σ M d bc bs lv st' (sI h cc i k v) p R s m args meth c D cA B ad ad0 L0 H1 locs1 cells slots ls := by
  obtain ⟨h1, h2, h3, h4, h5, h6, h7, h8, h9, -, h11⟩ := b
  have e := wsO_set (σ := σ) (cA := cA) (ad := ad) (h := h) (h2 := sI h cc i k v) (j := j) (q := (cc, i)) rfl hj (fun n q' hn hne => toE_sI (fun z => hne (ws_nd h6.2.1 (by rw [hn, z]) hj)))
  refine ⟨h1, h2, h3, h4, h5, ⟨by rw [e]; exact hP, by rw [e]; exact hD, fun q hq k' r hr => h6.2.2 q hq k' r hr⟩, hS, h8, h9, hs, h11⟩
theorem V_getI {c i ci idx k N : Nat} {C : String} {T : u_T} (hc65 : c < 65) (hr : rty c i = .inl ci) (hcl : vwCl[ci]? = some (C, T, N)) (hk : k < N) (hf : isRT (fty ci k) = false) (hd : decode M.2.1 pc = .ok (.getfield idx, 3)) (hw : Cond.fieldLink M.1.cls idx (T k).1 (T k).2.1 (T k).2.2.1 ∈ gw)
    (kk : V σ M d bc bs (pc + 3) lv (aI (gI h c i k) :: st) h P) : V σ M d bc bs pc lv (aR c i :: st) h P := by
  intro p l e R s m args below meth c0 D cA B ad ad0 L0 H locs cells slots ls b
  obtain ⟨j, -, hj⟩ := ws_at (σ := σ) (cA := cA) (ad := ad) (inL hc65 (okh b.so))
  rw [toE_o hr] at hj
  obtain ⟨eN, hin, -, -⟩ := cls_ok hcl
  refine va_get (D := D) b.x b.b b.ts hin b.own b.K b.rep.1 j hj hcl k hk (b.ts _ hw) (fun _ z => z) (v := .int (gI h c i k)) ?_ hd (kk p l e R s m args below meth c0 D cA B ad ad0 L0 H locs cells slots ls (b.stk (okc okI (okt b.so))))
  rw [← eN, fs_get hk]
  simp [fv, hf]
theorem V_getR {c i ci idx k N : Nat} {C : String} {T : u_T} (r : Option PT) (hc65 : c < 65) (hr : rty c i = .inl ci) (hcl : vwCl[ci]? = some (C, T, N)) (hk : k < N) (hf : isRT (fty ci k) = true) (hd : decode M.2.1 pc = .ok (.getfield idx, 3)) (hw : Cond.fieldLink M.1.cls idx (T k).1 (T k).2.1 (T k).2.2.1 ∈ gw) (hg : gS σ h c i k = r)
    (kk : V σ M d bc bs (pc + 3) lv (aP r :: st) h P) : V σ M d bc bs pc lv (aR c i :: st) h P := by
  intro p l e R s m args below meth c0 D cA B ad ad0 L0 H locs cells slots ls b
  have hm := inL hc65 (okh b.so)
  obtain ⟨j, -, hj⟩ := ws_at (σ := σ) (cA := cA) (ad := ad) hm
  rw [toE_o hr] at hj
  obtain ⟨eN, hin, -, -⟩ := cls_ok hcl
  refine va_get (D := D) b.x b.b b.ts hin b.own b.K b.rep.1 j hj hcl k hk (b.ts _ hw) (fun _ z => z) (v := va_rf (r.map ad)) ?_ hd (kk p l e R s m args below meth c0 D cA B ad ad0 L0 H locs cells slots ls (b.stk (okc ?_ (okt b.so))))
  · rw [← eN, fs_get hk]
    simp [fv, hf, hg]
  · intro q e
    cases e
    exact b.rep.2.2 (c, i) hm k q hg
theorem V_putI {c i ci idx k N : Nat} {C : String} {T : u_T} {v : Int32} (hc65 : c < 65) (hr : rty c i = .inl ci) (hcl : vwCl[ci]? = some (C, T, N)) (hk : k < N) (hf : fty ci k = .int) (hfin : (T k).2.2.2 = false ∨ (T k).2.2.2 = true ∧ M.1.name = "<init>" ∧ (T k).1 = M.1.cls) (hd : decode M.2.1 pc = .ok (.putfield idx, 3)) (hw : Cond.fieldLink M.1.cls idx (T k).1 (T k).2.1 (T k).2.2.1 ∈ gw)
    (kk : V σ M d bc bs (pc + 3) lv st (sI h c i k v) P) : V σ M d bc bs pc lv (aI v :: aR c i :: st) h P := by
  intro p l e R s m args below meth c0 D cA B ad ad0 L0 H locs cells slots ls b
  obtain ⟨j, hj0, hj⟩ := ws_at (σ := σ) (cA := cA) (ad := ad) (inL hc65 (okh (okt b.so)))
  rw [toE_o hr] at hj
  obtain ⟨eN, hin, hty, hnm⟩ := cls_ok hcl
  have hlen : k < ((List.range (nF ci)).map (fv σ ad h c i ci)).length := by rw [List.length_map, List.length_range, ← eN]; exact hk
  have hset : ((List.range (nF ci)).map (fv σ ad h c i ci)).set k (.int v) = (List.range (nF ci)).map (fv σ ad (sI h c i k v) c i ci) := by
    refine fs_set ?_ (fun n hn => ?_)
    · unfold fv
      rw [hf]
      simp [isRT, gI_sI]
    · have e1 : gI (sI h c i k v) c i n = gI h c i n := by rw [gI_sI, if_neg (fun z => hn z.2.1)]
      unfold fv
      rw [gS_sI, e1]
  have go : ∀ (H1 : Heap) (locs1 : List Loc), va_P D vwCl ((wsO σ cA ad h).set j (ad (c, i), .inr (ci, ((List.range (nF ci)).map (fv σ ad h c i ci)).set k (.int v)))) H1 → va_D (fun q => B ≤ q) ((wsO σ cA ad h).set j (ad (c, i), .inr (ci, ((List.range (nF ci)).map (fv σ ad h c i ci)).set k (.int v)))) → va_S (fun q => B ≤ q) s.heap H1 locs1 → W p l e R s m args below meth c0 H1 locs1 cells slots (MQ below (QM σ D cA B ad0 L0 P) args s R.cells R.slots (fun q => B ≤ q)) (F0 m (pc + 3) ls (st.map (vl ad))) := by
    intro H1 locs1 hP hD hS
    rw [hset, ← toE_o (cA := cA) hr] at hP hD
    exact kk p l e R s m args below meth c0 D cA B ad ad0 L0 H1 locs1 cells slots ls (b.stI (okt (okt b.so)) hj0 hP hD hS)
  have hp : parseFieldDescriptor (T k).2.2.1 = some .int := by rw [hty k hk, hf]
  rcases hfin with h1 | ⟨h1, h2, h3⟩
  · exact va_put (D := D) (ty := .int) (v := .int v) b.x b.b b.ts hin (fty ci) hty hnm b.own b.K b.rep.1 b.rep.2.1 b.S j hj hcl k hk (b.ts _ hw) (fun _ z => z) h1 hp rfl rfl hlen hd go
  · exact va_putF (D := D) (ty := .int) (v := .int v) b.x b.b b.ts hin (fty ci) hty hnm b.own b.K b.rep.1 b.rep.2.1 b.S j hj hcl k hk (b.ts _ hw) (fun _ z => z) h1 (b.1.2.2.2.2.2.2.2.1.trans h2) h3 hp rfl rfl hlen hd go
/-- fewer locals -/
theorem V_lv {lv2 : List (Nat × AV)} (is : List Nat) (he : is.map (fun i => lv[i]?) = lv2.map some) (kk : V σ M d bc bs pc lv2 st h P) : V σ M d bc bs pc lv st h P := by
  intro p l e R s m args below meth c D cA B ad ad0 L0 H locs cells slots ls b
  have hsub : ∀ q ∈ lv2, q ∈ lv := by
    intro q hq
    have h1 : some q ∈ is.map (fun i => lv[i]?) := by rw [he]; exact List.mem_map.mpr ⟨q, hq, rfl⟩
    obtain ⟨i, -, hi⟩ := List.mem_map.mp h1
    exact List.mem_of_getElem? hi
  refine kk p l e R s m args below meth c D cA B ad ad0 L0 H locs cells slots ls (b.lst b.so ⟨b.lh.1, b.lh.2.1, fun q hq => ?_⟩ (fun q hq => b.lo q (hsub q hq)))
  obtain ⟨q', hq', e⟩ := List.mem_map.mp hq
  exact b.lh.2.2 q (List.mem_map.mpr ⟨q', hsub q' hq', e⟩)
-- arrays of ints, bytes, booleans
theorem V_iald {c i n : Nat} {j : Int32} (hc65 : c < 65) (hr : rty c i = .inr (.int, n)) (hd : decode M.2.1 pc = .ok (.iaload, 1)) (hin : vp_in j n) (kk : V σ M d bc bs (pc + 1) lv (aI (gI h c i j.toNatClampNeg) :: st) h P) : V σ M d bc bs pc lv (aI j :: aR c i :: st) h P := by
  intro p l e R s m args below meth c0 D cA B ad ad0 L0 H locs cells slots ls b
  obtain ⟨j0, -, hj⟩ := ws_at (σ := σ) (cA := cA) (ad := ad) (inL hc65 (okh (okt b.so)))
  rw [toE_a hr rfl] at hj
  exact va_iald b.x b.b b.K b.rep.1 j0 0 hj rfl hin hd (kk p l e R s m args below meth c0 D cA B ad ad0 L0 H locs cells slots ls (b.stk (okc okI (okt (okt b.so)))))
theorem V_bald {c i n : Nat} {j : Int32} (hc65 : c < 65) (hr : rty c i = .inr (.byte, n)) (hd : decode M.2.1 pc = .ok (.baload, 1)) (hin : vp_in j n) (kk : V σ M d bc bs (pc + 1) lv (aI (gI h c i j.toNatClampNeg) :: st) h P) : V σ M d bc bs pc lv (aI j :: aR c i :: st) h P := by
  intro p l e R s m args below meth c0 D cA B ad ad0 L0 H locs cells slots ls b
  obtain ⟨j0, -, hj⟩ := ws_at (σ := σ) (cA := cA) (ad := ad) (inL hc65 (okh (okt b.so)))
  rw [toE_a hr rfl] at hj
  exact va_bald b.x b.b b.K b.rep.1 j0 1 hj rfl hin hd (kk p l e R s m args below meth c0 D cA B ad ad0 L0 H locs cells slots ls (b.stk (okc okI (okt (okt b.so)))))
theorem V_zald {c i n : Nat} {j : Int32} (hc65 : c < 65) (hr : rty c i = .inr (.boolean, n)) (hd : decode M.2.1 pc = .ok (.baload, 1)) (hin : vp_in j n) (kk : V σ M d bc bs (pc + 1) lv (aI (gI h c i j.toNatClampNeg) :: st) h P) : V σ M d bc bs pc lv (aI j :: aR c i :: st) h P := by
  intro p l e R s m args below meth c0 D cA B ad ad0 L0 H locs cells slots ls b
  obtain ⟨j0, -, hj⟩ := ws_at (σ := σ) (cA := cA) (ad := ad) (inL hc65 (okh (okt b.so)))
  rw [toE_a hr rfl] at hj
  exact va_zald b.x b.b b.K b.rep.1 j0 2 hj rfl hin hd (kk p l e R s m args below meth c0 D cA B ad ad0 L0 H locs cells slots ls (b.stk (okc okI (okt (okt b.so)))))
theorem gI_up {c i k : Nat} {v : Int32} : gI (sI h c i k v) c i = upd (gI h c i) k v := by
  funext k'
  rw [gI_sI, upd]
  by_cases e : k' = k
  · rw [if_pos ⟨rfl, e, rfl⟩, if_pos e]
  · rw [if_neg (fun z => e z.2.1), if_neg e]
theorem toE_up {cA : FieldType → ClassId} {ad : PT → Nat} {c i n k : Nat} {t : FieldType} {v : Int32} (hr : rty c i = .inr (t, n)) (ht : isRT t = false) : (.inl (cA t, n, .inl (upd (gI h c i) k v)) : va_E) = toE σ cA ad (sI h c i k v) (c, i) := by
  rw [toE_a hr ht, gI_up]
theorem V_iast {c i n : Nat} {j x : Int32} (hc65 : c < 65) (hr : rty c i = .inr (.int, n)) (hd : decode M.2.1 pc = .ok (.iastore, 1)) (hin : vp_in j n) (kk : V σ M d bc bs (pc + 1) lv st (sI h c i j.toNatClampNeg x) P) : V σ M d bc bs pc lv (aI x :: aI j :: aR c i :: st) h P := by
  intro p l e R s m args below meth c0 D cA B ad ad0 L0 H locs cells slots ls b
  obtain ⟨j0, hj0, hj⟩ := ws_at (σ := σ) (cA := cA) (ad := ad) (inL hc65 (okh (okt (okt b.so))))
  rw [toE_a hr rfl] at hj
  refine va_iast b.x b.b b.K b.rep.1 b.rep.2.1 b.S j0 0 hj rfl hin hd (fun H1 locs1 hP hD hS => ?_)
  rw [toE_up (σ := σ) (ad := ad) hr rfl] at hP hD
  exact kk p l e R s m args below meth c0 D cA B ad ad0 L0 H1 locs1 cells slots ls (b.stI (okt (okt (okt b.so))) hj0 hP hD hS)
theorem V_bast {c i n : Nat} {j x : Int32} (hc65 : c < 65) (hr : rty c i = .inr (.byte, n)) (hd : decode M.2.1 pc = .ok (.bastore, 1)) (hin : vp_in j n) (kk : V σ M d bc bs (pc + 1) lv st (sI h c i j.toNatClampNeg (vp_nar .byte x)) P) : V σ M d bc bs pc lv (aI x :: aI j :: aR c i :: st) h P := by
  intro p l e R s m args below meth c0 D cA B ad ad0 L0 H locs cells slots ls b
  obtain ⟨j0, hj0, hj⟩ := ws_at (σ := σ) (cA := cA) (ad := ad) (inL hc65 (okh (okt (okt b.so))))
  rw [toE_a hr rfl] at hj
  refine va_bast b.x b.b b.K b.rep.1 b.rep.2.1 b.S j0 1 hj rfl hin hd (fun H1 locs1 hP hD hS => ?_)
  rw [toE_up (σ := σ) (ad := ad) hr rfl] at hP hD
  exact kk p l e R s m args below meth c0 D cA B ad ad0 L0 H1 locs1 cells slots ls (b.stI (okt (okt (okt b.so))) hj0 hP hD hS)
theorem V_zast {c i n : Nat} {j x : Int32} (hc65 : c < 65) (hr : rty c i = .inr (.boolean, n)) (hd : decode M.2.1 pc = .ok (.bastore, 1)) (hin : vp_in j n) (hx : x = 0 ∨ x = 1) (kk : V σ M d bc bs (pc + 1) lv st (sI h c i j.toNatClampNeg x) P) : V σ M d bc bs pc lv (aI x :: aI j :: aR c i :: st) h P := by
  intro p l e R s m args below meth c0 D cA B ad ad0 L0 H locs cells slots ls b
  obtain ⟨j0, hj0, hj⟩ := ws_at (σ := σ) (cA := cA) (ad := ad) (inL hc65 (okh (okt (okt b.so))))
  rw [toE_a hr rfl] at hj
  have ex : vp_nar .boolean x = x := by rcases hx with rfl | rfl <;> decide +kernel
  refine va_zast b.x b.b b.K b.rep.1 b.rep.2.1 b.S j0 2 hj rfl hin hd (fun H1 locs1 hP hD hS => ?_)
  rw [ex, toE_up (σ := σ) (ad := ad) hr rfl] at hP hD
  exact kk p l e R s m args below meth c0 D cA B ad ad0 L0 H1 locs1 cells slots ls (b.stI (okt (okt (okt b.so))) hj0 hP hD hS)
theorem V_alen {c i n : Nat} {t : FieldType} {v : Int32} (hc65 : c < 65) (hr : rty c i = .inr (t, n)) (ht : t = .int ∨ t = .byte ∨ t = .boolean) (hv : Int32.ofNat n = v) (hd : decode M.2.1 pc = .ok (.arraylength, 1)) (kk : V σ M d bc bs (pc + 1) lv (aI v :: st) h P) : V σ M d bc bs pc lv (aR c i :: st) h P := by
  intro p l e R s m args below meth c0 D cA B ad ad0 L0 H locs cells slots ls b
  obtain ⟨j0, -, hj⟩ := ws_at (σ := σ) (cA := cA) (ad := ad) (inL hc65 (okh b.so))
  have K := kk p l e R s m args below meth c0 D cA B ad ad0 L0 H locs cells slots ls (b.stk (okc okI (okt b.so)))
  rcases ht with rfl | rfl | rfl
  · rw [toE_a hr rfl] at hj
    exact va_alen b.x b.b b.K b.rep.1 j0 0 hj rfl hv hd K
  · rw [toE_a hr rfl] at hj
    exact va_alen b.x b.b b.K b.rep.1 j0 1 hj rfl hv hd K
  · rw [toE_a hr rfl] at hj
    exact va_alen b.x b.b b.K b.rep.1 j0 2 hj rfl hv hd K
-- switches
theorem V_tabIn {dflt lo hi off : Int} {offs : Array Int} {len : Nat} {x : Int32} (tgt : Nat) (hd : decode M.2.1 pc = .ok (.tableswitch dflt lo hi offs, len)) (h1 : ¬ x.toInt < lo) (h2 : ¬ hi < x.toInt) (ho : offs[(x.toInt - lo).toNat]? = some off) (ht : (pc : Int) + off = (tgt : Int)) (kk : V σ M d bc bs tgt lv st h P) : V σ M d bc bs pc lv (aI x :: st) h P := by
  intro p l e R s m args below meth c D cA B ad ad0 L0 H locs cells slots ls b
  exact lv_tableIn b.x b.b hd h1 h2 ho ht (kk p l e R s m args below meth c D cA B ad ad0 L0 H locs cells slots ls (b.stk (okt b.so)))
theorem V_tabOut {dflt lo hi : Int} {offs : Array Int} {len : Nat} {x : Int32} (tgt : Nat) (hd : decode M.2.1 pc = .ok (.tableswitch dflt lo hi offs, len)) (h1 : x.toInt < lo ∨ hi < x.toInt) (ht : (pc : Int) + dflt = (tgt : Int)) (kk : V σ M d bc bs tgt lv st h P) : V σ M d bc bs pc lv (aI x :: st) h P := by
  intro p l e R s m args below meth c D cA B ad ad0 L0 H locs cells slots ls b
  exact lv_tableOut b.x b.b hd h1 ht (kk p l e R s m args below meth c D cA B ad ad0 L0 H locs cells slots ls (b.stk (okt b.so)))
theorem V_lookup {dflt off : Int} {ps : Array (Int × Int)} {len : Nat} {x : Int32} (tgt : Nat) (hd : decode M.2.1 pc = .ok (.lookupswitch dflt ps, len)) (hp : (ps.toList.zip (ps.toList.drop 1)).all (fun (a, next) => a.1 < next.1) = true) (ho : Op.lookupswitch.offset ps.toList dflt x.toInt = off) (ht : (pc : Int) + off = (tgt : Int)) (kk : V σ M d bc bs tgt lv st h P) : V σ M d bc bs pc lv (aI x :: st) h P := by
  intro p l e R s m args below meth c D cA B ad ad0 L0 H locs cells slots ls b
  exact lv_lookup b.x b.b hd hp ho ht (kk p l e R s m args below meth c D cA B ad ad0 L0 H locs cells slots ls (b.stk (okt b.so)))
theorem V_ifnull {q : PT} {off : Int} (hd : decode M.2.1 pc = .ok (.ifnull off, 3)) (kk : V σ M d bc bs (pc + 3) lv st h P) : V σ M d bc bs pc lv (aP (some q) :: st) h P := by
  intro p l e R s m args below meth c D cA B ad ad0 L0 H locs cells slots ls b
  exact lv_ifnull b.x b.b hd (kk p l e R s m args below meth c D cA B ad ad0 L0 H locs cells slots ls (b.stk (okt b.so)))
theorem V_ifnullN {off : Int} (tgt : Nat) (hd : decode M.2.1 pc = .ok (.ifnull off, 3)) (ht : (pc : Int) + off = (tgt : Int)) (kk : V σ M d bc bs tgt lv st h P) : V σ M d bc bs pc lv (aP none :: st) h P := by
  intro p l e R s m args below meth c D cA B ad ad0 L0 H locs cells slots ls b
  exact lv_ifnullN b.x b.b hd ht (kk p l e R s m args below meth c D cA B ad ad0 L0 H locs cells slots ls (b.stk (okt b.so)))
theorem V_ifnonnull {q : PT} {off : Int} (tgt : Nat) (hd : decode M.2.1 pc = .ok (.ifnonnull off, 3)) (ht : (pc : Int) + off = (tgt : Int)) (kk : V σ M d bc bs tgt lv st h P) : V σ M d bc bs pc lv (aP (some q) :: st) h P := by
  intro p l e R s m args below meth c D cA B ad ad0 L0 H locs cells slots ls b
  exact lv_ifnonnull b.x b.b hd ht (kk p l e R s m args below meth c D cA B ad ad0 L0 H locs cells slots ls (b.stk (okt b.so)))
theorem V_ifnonnullN {off : Int} (hd : decode M.2.1 pc = .ok (.ifnonnull off, 3)) (kk : V σ M d bc bs (pc + 3) lv st h P) : V σ M d bc bs pc lv (aP none :: st) h P := by
  intro p l e R s m args below meth c D cA B ad ad0 L0 H locs cells slots ls b
  exact lv_ifnonnullN b.x b.b hd (kk p l e R s m args below meth c D cA B ad ad0 L0 H locs cells slots ls (b.stk (okt b.so)))
end VM
end
section
theorem rt_0 {i : Nat} : rty 0 i = .inl 10 := rfl
theorem rt_1 {i : Nat} : rty 1 i = .inl 0 := rfl
theorem rt_2 {i : Nat} : rty 2 i = .inl 0 := rfl
theorem rt_3 {i : Nat} : rty 3 i = .inl 9 := rfl
theorem rt_4 {i : Nat} : rty 4 i = .inr (.int, 20) := rfl
theorem rt_5 {i : Nat} : rty 5 i = .inr (.boolean, 20) := rfl
theorem rt_6 {i : Nat} : rty 6 i = .inl 6 := rfl
theorem rt_7 {i : Nat} : rty 7 i = .inr (.byte, 400) := rfl
theorem rt_8 {i : Nat} : rty 8 i = .inl 8 := rfl
theorem rt_9 {i : Nat} : rty 9 i = .inr (.int, 401) := rfl
theorem rt_10 {i : Nat} : rty 10 i = .inr (.int, 401) := rfl
theorem rt_11 {i : Nat} : rty 11 i = .inr (.int, 401) := rfl
theorem rt_12 {i : Nat} : rty 12 i = .inl 2 := rfl
theorem rt_13 {i : Nat} : rty 13 i = .inr (.int, 400) := rfl
theorem rt_14 {i : Nat} : rty 14 i = .inr (.int, 400) := rfl
theorem rt_15 {i : Nat} : rty 15 i = .inr (.int, 8) := rfl
theorem rt_16 {i : Nat} : rty 16 i = .inr (.int, 8) := rfl
theorem rt_17 {i : Nat} : rty 17 i = .inr (.int, 8) := rfl
theorem rt_18 {i : Nat} : rty 18 i = .inr (.int, 64) := rfl
theorem rt_19 {i : Nat} : rty 19 i = .inl 3 := rfl
theorem rt_20 {i : Nat} : rty 20 i = .inl 5 := rfl
theorem rt_21 {i : Nat} : rty 21 i = .inl 1 := rfl
theorem rt_22 {i : Nat} : rty 22 i = .inr (.int, 4) := rfl
theorem rt_23 {i : Nat} : rty 23 i = .inr (.int, 4) := rfl
theorem rt_24 {i : Nat} : rty 24 i = .inr (.int, 8) := rfl
theorem rt_25 {i : Nat} : rty 25 i = .inr (.int, 8) := rfl
theorem rt_26 {i : Nat} : rty 26 i = .inl 11 := rfl
theorem rt_27 {i : Nat} : rty 27 i = .inr (.int, 4368) := rfl
theorem rt_28 {i : Nat} : rty 28 i = .inr (.int, 12) := rfl
theorem rt_29 {i : Nat} : rty 29 i = .inr (.int, 12) := rfl
theorem rt_30 {i : Nat} : rty 30 i = .inr (.int, 12) := rfl
theorem rt_31 {i : Nat} : rty 31 i = .inr (.int, 12) := rfl
theorem rt_32 {i : Nat} : rty 32 i = .inr (.int, 120) := rfl
theorem rt_33 {i : Nat} : rty 33 i = .inr (.int, 120) := rfl
theorem rt_34 {i : Nat} : rty 34 i = .inr (.int, 120) := rfl
theorem rt_35 {i : Nat} : rty 35 i = .inr (.int, 120) := rfl
theorem rt_36 {i : Nat} : rty 36 i = .inr (.int, 120) := rfl
theorem rt_37 {i : Nat} : rty 37 i = .inr (.int, 120) := rfl
theorem rt_38 {i : Nat} : rty 38 i = .inr (.int, 120) := rfl
theorem rt_39 {i : Nat} : rty 39 i = .inr (.int, 120) := rfl
theorem rt_40 {i : Nat} : rty 40 i = .inr (.int, 120) := rfl
theorem rt_41 {i : Nat} : rty 41 i = .inr (.int, 120) := rfl
theorem rt_42 {i : Nat} : rty 42 i = .inr (.int, 120) := rfl
theorem rt_43 {i : Nat} : rty 43 i = .inr (.int, 120) := rfl
theorem rt_44 {i : Nat} : rty 44 i = .inr (.int, 20) := rfl
theorem rt_45 {i : Nat} : rty 45 i = .inr (.boolean, 20) := rfl
theorem rt_46 {i : Nat} : rty 46 i = .inr (.int, 9) := rfl
theorem rt_47 {i : Nat} : rty 47 i = .inr (.int, 8) := rfl
theorem rt_48 {i : Nat} : rty 48 i = .inr (.int, 500) := rfl
theorem rt_49 {i : Nat} : rty 49 i = .inr (.int, 9) := rfl
theorem rt_50 {i : Nat} : rty 50 i = .inr (.int, 8) := rfl
theorem rt_51 {i : Nat} : rty 51 i = .inr (.int, 500) := rfl
theorem rt_52 {i : Nat} : rty 52 i = .inr (.int, 500) := rfl
theorem rt_53 {i : Nat} : rty 53 i = .inr (.int, 400) := rfl
theorem rt_54 {i : Nat} : rty 54 i = .inr (.int, 4) := rfl
theorem rt_55 {i : Nat} : rty 55 i = .inr (.int, 4) := rfl
theorem rt_56 {i : Nat} : rty 56 i = .inr (.int, 8) := rfl
theorem rt_57 {i : Nat} : rty 57 i = .inr (.int, 8) := rfl
theorem rt_60 {i : Nat} : rty 60 i = .inl 7 := rfl
theorem rt_61 {i : Nat} : rty 61 i = .inr (.int, 364) := rfl
theorem rt_62 {i : Nat} : rty 62 i = .inl 4 := rfl
section GP
variable {σ : Bool} {M : MT} {d bc bs pc : Nat} {lv : List (Nat × AV)} {st : List AV} {h : HS} {P : Option AV → HS → Prop}
theorem GS_0_0 {i idx : Nat} (hd : decode M.2.1 pc = .ok (.getfield idx, 3)) (hw : Cond.fieldLink M.1.cls idx "GreatStore" "things" "Ljava/util/ArrayList;" ∈ gw) (kk : V true M d bc bs (pc + 3) lv (aR 1 i :: st) h P) : V true M d bc bs pc lv (aR 0 i :: st) h P := V_getR (T := TX9) (k := 0) (some (1, i)) (by decide) rt_0 rfl (by decide) rfl hd hw rfl kk
theorem GS_0_1 {i idx : Nat} (hd : decode M.2.1 pc = .ok (.getfield idx, 3)) (hw : Cond.fieldLink M.1.cls idx "GreatStore" "slips" "Ljava/util/ArrayList;" ∈ gw) (kk : V true M d bc bs (pc + 3) lv (aR 2 i :: st) h P) : V true M d bc bs pc lv (aR 0 i :: st) h P := V_getR (T := TX9) (k := 1) (some (2, i)) (by decide) rt_0 rfl (by decide) rfl hd hw rfl kk
theorem GS_0_2 {i idx : Nat} (hd : decode M.2.1 pc = .ok (.getfield idx, 3)) (hw : Cond.fieldLink M.1.cls idx "GreatStore" "wagon" "LGreatStore$Van;" ∈ gw) (kk : V true M d bc bs (pc + 3) lv (aR 3 i :: st) h P) : V true M d bc bs pc lv (aR 0 i :: st) h P := V_getR (T := TX9) (k := 2) (some (3, i)) (by decide) rt_0 rfl (by decide) rfl hd hw rfl kk
theorem GS_0_3 {i idx : Nat} (hd : decode M.2.1 pc = .ok (.getfield idx, 3)) (hw : Cond.fieldLink M.1.cls idx "GreatStore" "tape" "LGreatStore$Tape;" ∈ gw) (kk : V true M d bc bs (pc + 3) lv (aR 6 i :: st) h P) : V true M d bc bs pc lv (aR 0 i :: st) h P := V_getR (T := TX9) (k := 3) (some (6, i)) (by decide) rt_0 rfl (by decide) rfl hd hw rfl kk
theorem GS_0_4 {i idx : Nat} (hd : decode M.2.1 pc = .ok (.getfield idx, 3)) (hw : Cond.fieldLink M.1.cls idx "GreatStore" "tokens" "LGreatStore$Tokens;" ∈ gw) (kk : V true M d bc bs (pc + 3) lv (aR 8 i :: st) h P) : V true M d bc bs pc lv (aR 0 i :: st) h P := V_getR (T := TX9) (k := 4) (some (8, i)) (by decide) rt_0 rfl (by decide) rfl hd hw rfl kk
theorem GS_0_5 {i idx : Nat} (hd : decode M.2.1 pc = .ok (.getfield idx, 3)) (hw : Cond.fieldLink M.1.cls idx "GreatStore" "reader" "LGreatStore$RuleReader;" ∈ gw) (kk : V true M d bc bs (pc + 3) lv (aR 19 i :: st) h P) : V true M d bc bs pc lv (aR 0 i :: st) h P := V_getR (T := TX9) (k := 5) (some (19, i)) (by decide) rt_0 rfl (by decide) rfl hd hw rfl kk
theorem GS_0_6 {i idx : Nat} (hd : decode M.2.1 pc = .ok (.getfield idx, 3)) (hw : Cond.fieldLink M.1.cls idx "GreatStore" "takings" "LGreatStore$Takings;" ∈ gw) (kk : V true M d bc bs (pc + 3) lv (aR 20 i :: st) h P) : V true M d bc bs pc lv (aR 0 i :: st) h P := V_getR (T := TX9) (k := 6) (some (20, i)) (by decide) rt_0 rfl (by decide) rfl hd hw rfl kk
theorem GS_0_7 {i idx : Nat} (hd : decode M.2.1 pc = .ok (.getfield idx, 3)) (hw : Cond.fieldLink M.1.cls idx "GreatStore" "cuts" "LGreatStore$Cuts;" ∈ gw) (kk : V true M d bc bs (pc + 3) lv (aR 21 i :: st) h P) : V true M d bc bs pc lv (aR 0 i :: st) h P := V_getR (T := TX9) (k := 7) (some (21, i)) (by decide) rt_0 rfl (by decide) rfl hd hw rfl kk
theorem GI_0_10 {i idx : Nat} (hd : decode M.2.1 pc = .ok (.getfield idx, 3)) (hw : Cond.fieldLink M.1.cls idx "GreatStore" "today" "I" ∈ gw) (kk : V σ M d bc bs (pc + 3) lv (aI (gI h 0 i 10) :: st) h P) : V σ M d bc bs pc lv (aR 0 i :: st) h P := V_getI (T := TX9) (k := 10) (by decide) rt_0 rfl (by decide) rfl hd hw kk
theorem PI_0_10 {i idx : Nat} {v : Int32} (hd : decode M.2.1 pc = .ok (.putfield idx, 3)) (hw : Cond.fieldLink M.1.cls idx "GreatStore" "today" "I" ∈ gw) (kk : V σ M d bc bs (pc + 3) lv st (sI h 0 i 10 v) P) : V σ M d bc bs pc lv (aI v :: aR 0 i :: st) h P := V_putI (T := TX9) (k := 10) (by decide) rt_0 rfl (by decide) rfl (Or.inl rfl) hd hw kk
theorem GI_1_2 {i idx : Nat} (hd : decode M.2.1 pc = .ok (.getfield idx, 3)) (hw : Cond.fieldLink M.1.cls idx "java/util/ArrayList" "size" "I" ∈ gw) (kk : V σ M d bc bs (pc + 3) lv (aI (gI h 1 i 2) :: st) h P) : V σ M d bc bs pc lv (aR 1 i :: st) h P := V_getI (T := TJx4a65c) (k := 2) (by decide) rt_1 rfl (by decide) rfl hd hw kk
theorem PI_1_2 {i idx : Nat} {v : Int32} (hd : decode M.2.1 pc = .ok (.putfield idx, 3)) (hw : Cond.fieldLink M.1.cls idx "java/util/ArrayList" "size" "I" ∈ gw) (kk : V σ M d bc bs (pc + 3) lv st (sI h 1 i 2 v) P) : V σ M d bc bs pc lv (aI v :: aR 1 i :: st) h P := V_putI (T := TJx4a65c) (k := 2) (by decide) rt_1 rfl (by decide) rfl (Or.inl rfl) hd hw kk
theorem GI_2_2 {i idx : Nat} (hd : decode M.2.1 pc = .ok (.getfield idx, 3)) (hw : Cond.fieldLink M.1.cls idx "java/util/ArrayList" "size" "I" ∈ gw) (kk : V σ M d bc bs (pc + 3) lv (aI (gI h 2 i 2) :: st) h P) : V σ M d bc bs pc lv (aR 2 i :: st) h P := V_getI (T := TJx4a65c) (k := 2) (by decide) rt_2 rfl (by decide) rfl hd hw kk
theorem PI_2_2 {i idx : Nat} {v : Int32} (hd : decode M.2.1 pc = .ok (.putfield idx, 3)) (hw : Cond.fieldLink M.1.cls idx "java/util/ArrayList" "size" "I" ∈ gw) (kk : V σ M d bc bs (pc + 3) lv st (sI h 2 i 2 v) P) : V σ M d bc bs pc lv (aI v :: aR 2 i :: st) h P := V_putI (T := TJx4a65c) (k := 2) (by decide) rt_2 rfl (by decide) rfl (Or.inl rfl) hd hw kk
theorem GS_3_0 {i idx : Nat} (hd : decode M.2.1 pc = .ok (.getfield idx, 3)) (hw : Cond.fieldLink M.1.cls idx "GreatStore$Van" "houses" "[I" ∈ gw) (kk : V true M d bc bs (pc + 3) lv (aR 4 i :: st) h P) : V true M d bc bs pc lv (aR 3 i :: st) h P := V_getR (T := TX8) (k := 0) (some (4, i)) (by decide) rt_3 rfl (by decide) rfl hd hw rfl kk
theorem GS_3_1 {i idx : Nat} (hd : decode M.2.1 pc = .ok (.getfield idx, 3)) (hw : Cond.fieldLink M.1.cls idx "GreatStore$Van" "asked" "[Z" ∈ gw) (kk : V true M d bc bs (pc + 3) lv (aR 5 i :: st) h P) : V true M d bc bs pc lv (aR 3 i :: st) h P := V_getR (T := TX8) (k := 1) (some (5, i)) (by decide) rt_3 rfl (by decide) rfl hd hw rfl kk
theorem GI_3_2 {i idx : Nat} (hd : decode M.2.1 pc = .ok (.getfield idx, 3)) (hw : Cond.fieldLink M.1.cls idx "GreatStore$Van" "houseCount" "I" ∈ gw) (kk : V σ M d bc bs (pc + 3) lv (aI (gI h 3 i 2) :: st) h P) : V σ M d bc bs pc lv (aR 3 i :: st) h P := V_getI (T := TX8) (k := 2) (by decide) rt_3 rfl (by decide) rfl hd hw kk
theorem PI_3_2 {i idx : Nat} {v : Int32} (hd : decode M.2.1 pc = .ok (.putfield idx, 3)) (hw : Cond.fieldLink M.1.cls idx "GreatStore$Van" "houseCount" "I" ∈ gw) (kk : V σ M d bc bs (pc + 3) lv st (sI h 3 i 2 v) P) : V σ M d bc bs pc lv (aI v :: aR 3 i :: st) h P := V_putI (T := TX8) (k := 2) (by decide) rt_3 rfl (by decide) rfl (Or.inl rfl) hd hw kk
theorem GI_3_3 {i idx : Nat} (hd : decode M.2.1 pc = .ok (.getfield idx, 3)) (hw : Cond.fieldLink M.1.cls idx "GreatStore$Van" "roundsToday" "I" ∈ gw) (kk : V σ M d bc bs (pc + 3) lv (aI (gI h 3 i 3) :: st) h P) : V σ M d bc bs pc lv (aR 3 i :: st) h P := V_getI (T := TX8) (k := 3) (by decide) rt_3 rfl (by decide) rfl hd hw kk
theorem PI_3_3 {i idx : Nat} {v : Int32} (hd : decode M.2.1 pc = .ok (.putfield idx, 3)) (hw : Cond.fieldLink M.1.cls idx "GreatStore$Van" "roundsToday" "I" ∈ gw) (kk : V σ M d bc bs (pc + 3) lv st (sI h 3 i 3 v) P) : V σ M d bc bs pc lv (aI v :: aR 3 i :: st) h P := V_putI (T := TX8) (k := 3) (by decide) rt_3 rfl (by decide) rfl (Or.inl rfl) hd hw kk
theorem GS_6_0 {i idx : Nat} (hd : decode M.2.1 pc = .ok (.getfield idx, 3)) (hw : Cond.fieldLink M.1.cls idx "GreatStore$Tape" "bytes" "[B" ∈ gw) (kk : V true M d bc bs (pc + 3) lv (aR 7 i :: st) h P) : V true M d bc bs pc lv (aR 6 i :: st) h P := V_getR (T := TX5) (k := 0) (some (7, i)) (by decide) rt_6 rfl (by decide) rfl hd hw rfl kk
theorem GI_6_1 {i idx : Nat} (hd : decode M.2.1 pc = .ok (.getfield idx, 3)) (hw : Cond.fieldLink M.1.cls idx "GreatStore$Tape" "length" "I" ∈ gw) (kk : V σ M d bc bs (pc + 3) lv (aI (gI h 6 i 1) :: st) h P) : V σ M d bc bs pc lv (aR 6 i :: st) h P := V_getI (T := TX5) (k := 1) (by decide) rt_6 rfl (by decide) rfl hd hw kk
theorem PI_6_1 {i idx : Nat} {v : Int32} (hd : decode M.2.1 pc = .ok (.putfield idx, 3)) (hw : Cond.fieldLink M.1.cls idx "GreatStore$Tape" "length" "I" ∈ gw) (kk : V σ M d bc bs (pc + 3) lv st (sI h 6 i 1 v) P) : V σ M d bc bs pc lv (aI v :: aR 6 i :: st) h P := V_putI (T := TX5) (k := 1) (by decide) rt_6 rfl (by decide) rfl (Or.inl rfl) hd hw kk
theorem GS_8_0 {i idx : Nat} (hd : decode M.2.1 pc = .ok (.getfield idx, 3)) (hw : Cond.fieldLink M.1.cls idx "GreatStore$Tokens" "kinds" "[I" ∈ gw) (kk : V true M d bc bs (pc + 3) lv (aR 9 i :: st) h P) : V true M d bc bs pc lv (aR 8 i :: st) h P := V_getR (T := TX7) (k := 0) (some (9, i)) (by decide) rt_8 rfl (by decide) rfl hd hw rfl kk
theorem GS_8_1 {i idx : Nat} (hd : decode M.2.1 pc = .ok (.getfield idx, 3)) (hw : Cond.fieldLink M.1.cls idx "GreatStore$Tokens" "places" "[I" ∈ gw) (kk : V true M d bc bs (pc + 3) lv (aR 10 i :: st) h P) : V true M d bc bs pc lv (aR 8 i :: st) h P := V_getR (T := TX7) (k := 1) (some (10, i)) (by decide) rt_8 rfl (by decide) rfl hd hw rfl kk
theorem GS_8_2 {i idx : Nat} (hd : decode M.2.1 pc = .ok (.getfield idx, 3)) (hw : Cond.fieldLink M.1.cls idx "GreatStore$Tokens" "numbers" "[I" ∈ gw) (kk : V true M d bc bs (pc + 3) lv (aR 11 i :: st) h P) : V true M d bc bs pc lv (aR 8 i :: st) h P := V_getR (T := TX7) (k := 2) (some (11, i)) (by decide) rt_8 rfl (by decide) rfl hd hw rfl kk
theorem GI_8_3 {i idx : Nat} (hd : decode M.2.1 pc = .ok (.getfield idx, 3)) (hw : Cond.fieldLink M.1.cls idx "GreatStore$Tokens" "tokenCount" "I" ∈ gw) (kk : V σ M d bc bs (pc + 3) lv (aI (gI h 8 i 3) :: st) h P) : V σ M d bc bs pc lv (aR 8 i :: st) h P := V_getI (T := TX7) (k := 3) (by decide) rt_8 rfl (by decide) rfl hd hw kk
theorem PI_8_3 {i idx : Nat} {v : Int32} (hd : decode M.2.1 pc = .ok (.putfield idx, 3)) (hw : Cond.fieldLink M.1.cls idx "GreatStore$Tokens" "tokenCount" "I" ∈ gw) (kk : V σ M d bc bs (pc + 3) lv st (sI h 8 i 3 v) P) : V σ M d bc bs pc lv (aI v :: aR 8 i :: st) h P := V_putI (T := TX7) (k := 3) (by decide) rt_8 rfl (by decide) rfl (Or.inl rfl) hd hw kk
theorem GS_12_0 {i idx : Nat} (hd : decode M.2.1 pc = .ok (.getfield idx, 3)) (hw : Cond.fieldLink M.1.cls idx "GreatStore$Rule" "steps" "[I" ∈ gw) (kk : V true M d bc bs (pc + 3) lv (aR 13 i :: st) h P) : V true M d bc bs pc lv (aR 12 i :: st) h P := V_getR (T := TX1) (k := 0) (some (13, i)) (by decide) rt_12 rfl (by decide) rfl hd hw rfl kk
theorem GS_12_1 {i idx : Nat} (hd : decode M.2.1 pc = .ok (.getfield idx, 3)) (hw : Cond.fieldLink M.1.cls idx "GreatStore$Rule" "numbers" "[I" ∈ gw) (kk : V true M d bc bs (pc + 3) lv (aR 14 i :: st) h P) : V true M d bc bs pc lv (aR 12 i :: st) h P := V_getR (T := TX1) (k := 1) (some (14, i)) (by decide) rt_12 rfl (by decide) rfl hd hw rfl kk
theorem GS_12_2 {i idx : Nat} (hd : decode M.2.1 pc = .ok (.getfield idx, 3)) (hw : Cond.fieldLink M.1.cls idx "GreatStore$Rule" "payAt" "[I" ∈ gw) (kk : V true M d bc bs (pc + 3) lv (aR 15 i :: st) h P) : V true M d bc bs pc lv (aR 12 i :: st) h P := V_getR (T := TX1) (k := 2) (some (15, i)) (by decide) rt_12 rfl (by decide) rfl hd hw rfl kk
theorem GS_12_3 {i idx : Nat} (hd : decode M.2.1 pc = .ok (.getfield idx, 3)) (hw : Cond.fieldLink M.1.cls idx "GreatStore$Rule" "whenAt" "[I" ∈ gw) (kk : V true M d bc bs (pc + 3) lv (aR 16 i :: st) h P) : V true M d bc bs pc lv (aR 12 i :: st) h P := V_getR (T := TX1) (k := 3) (some (16, i)) (by decide) rt_12 rfl (by decide) rfl hd hw rfl kk
theorem GS_12_4 {i idx : Nat} (hd : decode M.2.1 pc = .ok (.getfield idx, 3)) (hw : Cond.fieldLink M.1.cls idx "GreatStore$Rule" "endAt" "[I" ∈ gw) (kk : V true M d bc bs (pc + 3) lv (aR 17 i :: st) h P) : V true M d bc bs pc lv (aR 12 i :: st) h P := V_getR (T := TX1) (k := 4) (some (17, i)) (by decide) rt_12 rfl (by decide) rfl hd hw rfl kk
theorem GS_12_5 {i idx : Nat} (hd : decode M.2.1 pc = .ok (.getfield idx, 3)) (hw : Cond.fieldLink M.1.cls idx "GreatStore$Rule" "stack" "[I" ∈ gw) (kk : V true M d bc bs (pc + 3) lv (aR 18 i :: st) h P) : V true M d bc bs pc lv (aR 12 i :: st) h P := V_getR (T := TX1) (k := 5) (some (18, i)) (by decide) rt_12 rfl (by decide) rfl hd hw rfl kk
theorem GI_12_6 {i idx : Nat} (hd : decode M.2.1 pc = .ok (.getfield idx, 3)) (hw : Cond.fieldLink M.1.cls idx "GreatStore$Rule" "stepCount" "I" ∈ gw) (kk : V σ M d bc bs (pc + 3) lv (aI (gI h 12 i 6) :: st) h P) : V σ M d bc bs pc lv (aR 12 i :: st) h P := V_getI (T := TX1) (k := 6) (by decide) rt_12 rfl (by decide) rfl hd hw kk
theorem PI_12_6 {i idx : Nat} {v : Int32} (hd : decode M.2.1 pc = .ok (.putfield idx, 3)) (hw : Cond.fieldLink M.1.cls idx "GreatStore$Rule" "stepCount" "I" ∈ gw) (kk : V σ M d bc bs (pc + 3) lv st (sI h 12 i 6 v) P) : V σ M d bc bs pc lv (aI v :: aR 12 i :: st) h P := V_putI (T := TX1) (k := 6) (by decide) rt_12 rfl (by decide) rfl (Or.inl rfl) hd hw kk
theorem GI_12_7 {i idx : Nat} (hd : decode M.2.1 pc = .ok (.getfield idx, 3)) (hw : Cond.fieldLink M.1.cls idx "GreatStore$Rule" "lineCount" "I" ∈ gw) (kk : V σ M d bc bs (pc + 3) lv (aI (gI h 12 i 7) :: st) h P) : V σ M d bc bs pc lv (aR 12 i :: st) h P := V_getI (T := TX1) (k := 7) (by decide) rt_12 rfl (by decide) rfl hd hw kk
theorem PI_12_7 {i idx : Nat} {v : Int32} (hd : decode M.2.1 pc = .ok (.putfield idx, 3)) (hw : Cond.fieldLink M.1.cls idx "GreatStore$Rule" "lineCount" "I" ∈ gw) (kk : V σ M d bc bs (pc + 3) lv st (sI h 12 i 7 v) P) : V σ M d bc bs pc lv (aI v :: aR 12 i :: st) h P := V_putI (T := TX1) (k := 7) (by decide) rt_12 rfl (by decide) rfl (Or.inl rfl) hd hw kk
theorem GI_12_8 {i idx : Nat} (hd : decode M.2.1 pc = .ok (.getfield idx, 3)) (hw : Cond.fieldLink M.1.cls idx "GreatStore$Rule" "height" "I" ∈ gw) (kk : V σ M d bc bs (pc + 3) lv (aI (gI h 12 i 8) :: st) h P) : V σ M d bc bs pc lv (aR 12 i :: st) h P := V_getI (T := TX1) (k := 8) (by decide) rt_12 rfl (by decide) rfl hd hw kk
theorem PI_12_8 {i idx : Nat} {v : Int32} (hd : decode M.2.1 pc = .ok (.putfield idx, 3)) (hw : Cond.fieldLink M.1.cls idx "GreatStore$Rule" "height" "I" ∈ gw) (kk : V σ M d bc bs (pc + 3) lv st (sI h 12 i 8 v) P) : V σ M d bc bs pc lv (aI v :: aR 12 i :: st) h P := V_putI (T := TX1) (k := 8) (by decide) rt_12 rfl (by decide) rfl (Or.inl rfl) hd hw kk
theorem GS_19_0 {i idx : Nat} (hd : decode M.2.1 pc = .ok (.getfield idx, 3)) (hw : Cond.fieldLink M.1.cls idx "GreatStore$RuleReader" "tokens" "LGreatStore$Tokens;" ∈ gw) (kk : V true M d bc bs (pc + 3) lv (aR 8 i :: st) h P) : V true M d bc bs pc lv (aR 19 i :: st) h P := V_getR (T := TX2) (k := 0) (some (8, i)) (by decide) rt_19 rfl (by decide) rfl hd hw rfl kk
theorem GI_19_2 {i idx : Nat} (hd : decode M.2.1 pc = .ok (.getfield idx, 3)) (hw : Cond.fieldLink M.1.cls idx "GreatStore$RuleReader" "at" "I" ∈ gw) (kk : V σ M d bc bs (pc + 3) lv (aI (gI h 19 i 2) :: st) h P) : V σ M d bc bs pc lv (aR 19 i :: st) h P := V_getI (T := TX2) (k := 2) (by decide) rt_19 rfl (by decide) rfl hd hw kk
theorem PI_19_2 {i idx : Nat} {v : Int32} (hd : decode M.2.1 pc = .ok (.putfield idx, 3)) (hw : Cond.fieldLink M.1.cls idx "GreatStore$RuleReader" "at" "I" ∈ gw) (kk : V σ M d bc bs (pc + 3) lv st (sI h 19 i 2 v) P) : V σ M d bc bs pc lv (aI v :: aR 19 i :: st) h P := V_putI (T := TX2) (k := 2) (by decide) rt_19 rfl (by decide) rfl (Or.inl rfl) hd hw kk
theorem GI_19_3 {i idx : Nat} (hd : decode M.2.1 pc = .ok (.getfield idx, 3)) (hw : Cond.fieldLink M.1.cls idx "GreatStore$RuleReader" "fault" "I" ∈ gw) (kk : V σ M d bc bs (pc + 3) lv (aI (gI h 19 i 3) :: st) h P) : V σ M d bc bs pc lv (aR 19 i :: st) h P := V_getI (T := TX2) (k := 3) (by decide) rt_19 rfl (by decide) rfl hd hw kk
theorem PI_19_3 {i idx : Nat} {v : Int32} (hd : decode M.2.1 pc = .ok (.putfield idx, 3)) (hw : Cond.fieldLink M.1.cls idx "GreatStore$RuleReader" "fault" "I" ∈ gw) (kk : V σ M d bc bs (pc + 3) lv st (sI h 19 i 3 v) P) : V σ M d bc bs pc lv (aI v :: aR 19 i :: st) h P := V_putI (T := TX2) (k := 3) (by decide) rt_19 rfl (by decide) rfl (Or.inl rfl) hd hw kk
theorem GI_19_4 {i idx : Nat} (hd : decode M.2.1 pc = .ok (.getfield idx, 3)) (hw : Cond.fieldLink M.1.cls idx "GreatStore$RuleReader" "place" "I" ∈ gw) (kk : V σ M d bc bs (pc + 3) lv (aI (gI h 19 i 4) :: st) h P) : V σ M d bc bs pc lv (aR 19 i :: st) h P := V_getI (T := TX2) (k := 4) (by decide) rt_19 rfl (by decide) rfl hd hw kk
theorem PI_19_4 {i idx : Nat} {v : Int32} (hd : decode M.2.1 pc = .ok (.putfield idx, 3)) (hw : Cond.fieldLink M.1.cls idx "GreatStore$RuleReader" "place" "I" ∈ gw) (kk : V σ M d bc bs (pc + 3) lv st (sI h 19 i 4 v) P) : V σ M d bc bs pc lv (aI v :: aR 19 i :: st) h P := V_putI (T := TX2) (k := 4) (by decide) rt_19 rfl (by decide) rfl (Or.inl rfl) hd hw kk
theorem GI_20_0 {i idx : Nat} (hd : decode M.2.1 pc = .ok (.getfield idx, 3)) (hw : Cond.fieldLink M.1.cls idx "GreatStore$Takings" "sum" "I" ∈ gw) (kk : V σ M d bc bs (pc + 3) lv (aI (gI h 20 i 0) :: st) h P) : V σ M d bc bs pc lv (aR 20 i :: st) h P := V_getI (T := TX4) (k := 0) (by decide) rt_20 rfl (by decide) rfl hd hw kk
theorem PI_20_0 {i idx : Nat} {v : Int32} (hd : decode M.2.1 pc = .ok (.putfield idx, 3)) (hw : Cond.fieldLink M.1.cls idx "GreatStore$Takings" "sum" "I" ∈ gw) (kk : V σ M d bc bs (pc + 3) lv st (sI h 20 i 0 v) P) : V σ M d bc bs pc lv (aI v :: aR 20 i :: st) h P := V_putI (T := TX4) (k := 0) (by decide) rt_20 rfl (by decide) rfl (Or.inl rfl) hd hw kk
theorem GI_20_1 {i idx : Nat} (hd : decode M.2.1 pc = .ok (.getfield idx, 3)) (hw : Cond.fieldLink M.1.cls idx "GreatStore$Takings" "slipCount" "I" ∈ gw) (kk : V σ M d bc bs (pc + 3) lv (aI (gI h 20 i 1) :: st) h P) : V σ M d bc bs pc lv (aR 20 i :: st) h P := V_getI (T := TX4) (k := 1) (by decide) rt_20 rfl (by decide) rfl hd hw kk
theorem PI_20_1 {i idx : Nat} {v : Int32} (hd : decode M.2.1 pc = .ok (.putfield idx, 3)) (hw : Cond.fieldLink M.1.cls idx "GreatStore$Takings" "slipCount" "I" ∈ gw) (kk : V σ M d bc bs (pc + 3) lv st (sI h 20 i 1 v) P) : V σ M d bc bs pc lv (aI v :: aR 20 i :: st) h P := V_putI (T := TX4) (k := 1) (by decide) rt_20 rfl (by decide) rfl (Or.inl rfl) hd hw kk
theorem GI_20_2 {i idx : Nat} (hd : decode M.2.1 pc = .ok (.getfield idx, 3)) (hw : Cond.fieldLink M.1.cls idx "GreatStore$Takings" "cameBack" "I" ∈ gw) (kk : V σ M d bc bs (pc + 3) lv (aI (gI h 20 i 2) :: st) h P) : V σ M d bc bs pc lv (aR 20 i :: st) h P := V_getI (T := TX4) (k := 2) (by decide) rt_20 rfl (by decide) rfl hd hw kk
theorem PI_20_2 {i idx : Nat} {v : Int32} (hd : decode M.2.1 pc = .ok (.putfield idx, 3)) (hw : Cond.fieldLink M.1.cls idx "GreatStore$Takings" "cameBack" "I" ∈ gw) (kk : V σ M d bc bs (pc + 3) lv st (sI h 20 i 2 v) P) : V σ M d bc bs pc lv (aI v :: aR 20 i :: st) h P := V_putI (T := TX4) (k := 2) (by decide) rt_20 rfl (by decide) rfl (Or.inl rfl) hd hw kk
theorem GI_20_3 {i idx : Nat} (hd : decode M.2.1 pc = .ok (.getfield idx, 3)) (hw : Cond.fieldLink M.1.cls idx "GreatStore$Takings" "month" "I" ∈ gw) (kk : V σ M d bc bs (pc + 3) lv (aI (gI h 20 i 3) :: st) h P) : V σ M d bc bs pc lv (aR 20 i :: st) h P := V_getI (T := TX4) (k := 3) (by decide) rt_20 rfl (by decide) rfl hd hw kk
theorem PI_20_3 {i idx : Nat} {v : Int32} (hd : decode M.2.1 pc = .ok (.putfield idx, 3)) (hw : Cond.fieldLink M.1.cls idx "GreatStore$Takings" "month" "I" ∈ gw) (kk : V σ M d bc bs (pc + 3) lv st (sI h 20 i 3 v) P) : V σ M d bc bs pc lv (aI v :: aR 20 i :: st) h P := V_putI (T := TX4) (k := 3) (by decide) rt_20 rfl (by decide) rfl (Or.inl rfl) hd hw kk
theorem GS_21_0 {i idx : Nat} (hd : decode M.2.1 pc = .ok (.getfield idx, 3)) (hw : Cond.fieldLink M.1.cls idx "GreatStore$Cuts" "prices" "[I" ∈ gw) (kk : V true M d bc bs (pc + 3) lv (aR 22 i :: st) h P) : V true M d bc bs pc lv (aR 21 i :: st) h P := V_getR (T := TX0) (k := 0) (some (22, i)) (by decide) rt_21 rfl (by decide) rfl hd hw rfl kk
theorem GS_21_1 {i idx : Nat} (hd : decode M.2.1 pc = .ok (.getfield idx, 3)) (hw : Cond.fieldLink M.1.cls idx "GreatStore$Cuts" "wants" "[I" ∈ gw) (kk : V true M d bc bs (pc + 3) lv (aR 23 i :: st) h P) : V true M d bc bs pc lv (aR 21 i :: st) h P := V_getR (T := TX0) (k := 1) (some (23, i)) (by decide) rt_21 rfl (by decide) rfl hd hw rfl kk
theorem GS_21_2 {i idx : Nat} (hd : decode M.2.1 pc = .ok (.getfield idx, 3)) (hw : Cond.fieldLink M.1.cls idx "GreatStore$Cuts" "row" "[I" ∈ gw) (kk : V true M d bc bs (pc + 3) lv (aR 24 i :: st) h P) : V true M d bc bs pc lv (aR 21 i :: st) h P := V_getR (T := TX0) (k := 2) (some (24, i)) (by decide) rt_21 rfl (by decide) rfl hd hw rfl kk
theorem GS_21_3 {i idx : Nat} (hd : decode M.2.1 pc = .ok (.getfield idx, 3)) (hw : Cond.fieldLink M.1.cls idx "GreatStore$Cuts" "bestRow" "[I" ∈ gw) (kk : V true M d bc bs (pc + 3) lv (aR 25 i :: st) h P) : V true M d bc bs pc lv (aR 21 i :: st) h P := V_getR (T := TX0) (k := 3) (some (25, i)) (by decide) rt_21 rfl (by decide) rfl hd hw rfl kk
theorem GI_21_4 {i idx : Nat} (hd : decode M.2.1 pc = .ok (.getfield idx, 3)) (hw : Cond.fieldLink M.1.cls idx "GreatStore$Cuts" "bestSum" "I" ∈ gw) (kk : V σ M d bc bs (pc + 3) lv (aI (gI h 21 i 4) :: st) h P) : V σ M d bc bs pc lv (aR 21 i :: st) h P := V_getI (T := TX0) (k := 4) (by decide) rt_21 rfl (by decide) rfl hd hw kk
theorem PI_21_4 {i idx : Nat} {v : Int32} (hd : decode M.2.1 pc = .ok (.putfield idx, 3)) (hw : Cond.fieldLink M.1.cls idx "GreatStore$Cuts" "bestSum" "I" ∈ gw) (kk : V σ M d bc bs (pc + 3) lv st (sI h 21 i 4 v) P) : V σ M d bc bs pc lv (aI v :: aR 21 i :: st) h P := V_putI (T := TX0) (k := 4) (by decide) rt_21 rfl (by decide) rfl (Or.inl rfl) hd hw kk
theorem GI_21_5 {i idx : Nat} (hd : decode M.2.1 pc = .ok (.getfield idx, 3)) (hw : Cond.fieldLink M.1.cls idx "GreatStore$Cuts" "bestLeft" "I" ∈ gw) (kk : V σ M d bc bs (pc + 3) lv (aI (gI h 21 i 5) :: st) h P) : V σ M d bc bs pc lv (aR 21 i :: st) h P := V_getI (T := TX0) (k := 5) (by decide) rt_21 rfl (by decide) rfl hd hw kk
theorem PI_21_5 {i idx : Nat} {v : Int32} (hd : decode M.2.1 pc = .ok (.putfield idx, 3)) (hw : Cond.fieldLink M.1.cls idx "GreatStore$Cuts" "bestLeft" "I" ∈ gw) (kk : V σ M d bc bs (pc + 3) lv st (sI h 21 i 5 v) P) : V σ M d bc bs pc lv (aI v :: aR 21 i :: st) h P := V_putI (T := TX0) (k := 5) (by decide) rt_21 rfl (by decide) rfl (Or.inl rfl) hd hw kk
theorem GI_26_0 {i idx : Nat} (hd : decode M.2.1 pc = .ok (.getfield idx, 3)) (hw : Cond.fieldLink M.1.cls idx "GreatStoreModel" "day" "I" ∈ gw) (kk : V σ M d bc bs (pc + 3) lv (aI (gI h 26 i 0) :: st) h P) : V σ M d bc bs pc lv (aR 26 i :: st) h P := V_getI (T := TX10) (k := 0) (by decide) rt_26 rfl (by decide) rfl hd hw kk
theorem PI_26_0 {i idx : Nat} {v : Int32} (hd : decode M.2.1 pc = .ok (.putfield idx, 3)) (hw : Cond.fieldLink M.1.cls idx "GreatStoreModel" "day" "I" ∈ gw) (kk : V σ M d bc bs (pc + 3) lv st (sI h 26 i 0 v) P) : V σ M d bc bs pc lv (aI v :: aR 26 i :: st) h P := V_putI (T := TX10) (k := 0) (by decide) rt_26 rfl (by decide) rfl (Or.inl rfl) hd hw kk
theorem GI_26_1 {i idx : Nat} (hd : decode M.2.1 pc = .ok (.getfield idx, 3)) (hw : Cond.fieldLink M.1.cls idx "GreatStoreModel" "things" "I" ∈ gw) (kk : V σ M d bc bs (pc + 3) lv (aI (gI h 26 i 1) :: st) h P) : V σ M d bc bs pc lv (aR 26 i :: st) h P := V_getI (T := TX10) (k := 1) (by decide) rt_26 rfl (by decide) rfl hd hw kk
theorem PI_26_1 {i idx : Nat} {v : Int32} (hd : decode M.2.1 pc = .ok (.putfield idx, 3)) (hw : Cond.fieldLink M.1.cls idx "GreatStoreModel" "things" "I" ∈ gw) (kk : V σ M d bc bs (pc + 3) lv st (sI h 26 i 1 v) P) : V σ M d bc bs pc lv (aI v :: aR 26 i :: st) h P := V_putI (T := TX10) (k := 1) (by decide) rt_26 rfl (by decide) rfl (Or.inl rfl) hd hw kk
theorem GI_26_2 {i idx : Nat} (hd : decode M.2.1 pc = .ok (.getfield idx, 3)) (hw : Cond.fieldLink M.1.cls idx "GreatStoreModel" "slips" "I" ∈ gw) (kk : V σ M d bc bs (pc + 3) lv (aI (gI h 26 i 2) :: st) h P) : V σ M d bc bs pc lv (aR 26 i :: st) h P := V_getI (T := TX10) (k := 2) (by decide) rt_26 rfl (by decide) rfl hd hw kk
theorem PI_26_2 {i idx : Nat} {v : Int32} (hd : decode M.2.1 pc = .ok (.putfield idx, 3)) (hw : Cond.fieldLink M.1.cls idx "GreatStoreModel" "slips" "I" ∈ gw) (kk : V σ M d bc bs (pc + 3) lv st (sI h 26 i 2 v) P) : V σ M d bc bs pc lv (aI v :: aR 26 i :: st) h P := V_putI (T := TX10) (k := 2) (by decide) rt_26 rfl (by decide) rfl (Or.inl rfl) hd hw kk
theorem GS_26_3 {i idx : Nat} (hd : decode M.2.1 pc = .ok (.getfield idx, 3)) (hw : Cond.fieldLink M.1.cls idx "GreatStoreModel" "tag" "[I" ∈ gw) (kk : V true M d bc bs (pc + 3) lv (aR 27 i :: st) h P) : V true M d bc bs pc lv (aR 26 i :: st) h P := V_getR (T := TX10) (k := 3) (some (27, i)) (by decide) rt_26 rfl (by decide) rfl hd hw rfl kk
theorem GS_26_4 {i idx : Nat} (hd : decode M.2.1 pc = .ok (.getfield idx, 3)) (hw : Cond.fieldLink M.1.cls idx "GreatStoreModel" "stock" "[I" ∈ gw) (kk : V true M d bc bs (pc + 3) lv (aR 28 i :: st) h P) : V true M d bc bs pc lv (aR 26 i :: st) h P := V_getR (T := TX10) (k := 4) (some (28, i)) (by decide) rt_26 rfl (by decide) rfl hd hw rfl kk
theorem GS_26_5 {i idx : Nat} (hd : decode M.2.1 pc = .ok (.getfield idx, 3)) (hw : Cond.fieldLink M.1.cls idx "GreatStoreModel" "raised" "[I" ∈ gw) (kk : V true M d bc bs (pc + 3) lv (aR 29 i :: st) h P) : V true M d bc bs pc lv (aR 26 i :: st) h P := V_getR (T := TX10) (k := 5) (some (29, i)) (by decide) rt_26 rfl (by decide) rfl hd hw rfl kk
theorem GS_26_6 {i idx : Nat} (hd : decode M.2.1 pc = .ok (.getfield idx, 3)) (hw : Cond.fieldLink M.1.cls idx "GreatStoreModel" "lost" "[I" ∈ gw) (kk : V true M d bc bs (pc + 3) lv (aR 30 i :: st) h P) : V true M d bc bs pc lv (aR 26 i :: st) h P := V_getR (T := TX10) (k := 6) (some (30, i)) (by decide) rt_26 rfl (by decide) rfl hd hw rfl kk
theorem GS_26_7 {i idx : Nat} (hd : decode M.2.1 pc = .ok (.getfield idx, 3)) (hw : Cond.fieldLink M.1.cls idx "GreatStoreModel" "came" "[I" ∈ gw) (kk : V true M d bc bs (pc + 3) lv (aR 31 i :: st) h P) : V true M d bc bs pc lv (aR 26 i :: st) h P := V_getR (T := TX10) (k := 7) (some (31, i)) (by decide) rt_26 rfl (by decide) rfl hd hw rfl kk
theorem GS_26_8 {i idx : Nat} (hd : decode M.2.1 pc = .ok (.getfield idx, 3)) (hw : Cond.fieldLink M.1.cls idx "GreatStoreModel" "kind" "[I" ∈ gw) (kk : V true M d bc bs (pc + 3) lv (aR 32 i :: st) h P) : V true M d bc bs pc lv (aR 26 i :: st) h P := V_getR (T := TX10) (k := 8) (some (32, i)) (by decide) rt_26 rfl (by decide) rfl hd hw rfl kk
theorem GS_26_9 {i idx : Nat} (hd : decode M.2.1 pc = .ok (.getfield idx, 3)) (hw : Cond.fieldLink M.1.cls idx "GreatStoreModel" "clerk" "[I" ∈ gw) (kk : V true M d bc bs (pc + 3) lv (aR 33 i :: st) h P) : V true M d bc bs pc lv (aR 26 i :: st) h P := V_getR (T := TX10) (k := 9) (some (33, i)) (by decide) rt_26 rfl (by decide) rfl hd hw rfl kk
theorem GS_26_10 {i idx : Nat} (hd : decode M.2.1 pc = .ok (.getfield idx, 3)) (hw : Cond.fieldLink M.1.cls idx "GreatStoreModel" "account" "[I" ∈ gw) (kk : V true M d bc bs (pc + 3) lv (aR 34 i :: st) h P) : V true M d bc bs pc lv (aR 26 i :: st) h P := V_getR (T := TX10) (k := 10) (some (34, i)) (by decide) rt_26 rfl (by decide) rfl hd hw rfl kk
theorem GS_26_11 {i idx : Nat} (hd : decode M.2.1 pc = .ok (.getfield idx, 3)) (hw : Cond.fieldLink M.1.cls idx "GreatStoreModel" "thingOf" "[I" ∈ gw) (kk : V true M d bc bs (pc + 3) lv (aR 35 i :: st) h P) : V true M d bc bs pc lv (aR 26 i :: st) h P := V_getR (T := TX10) (k := 11) (some (35, i)) (by decide) rt_26 rfl (by decide) rfl hd hw rfl kk
theorem GS_26_12 {i idx : Nat} (hd : decode M.2.1 pc = .ok (.getfield idx, 3)) (hw : Cond.fieldLink M.1.cls idx "GreatStoreModel" "pieces" "[I" ∈ gw) (kk : V true M d bc bs (pc + 3) lv (aR 36 i :: st) h P) : V true M d bc bs pc lv (aR 26 i :: st) h P := V_getR (T := TX10) (k := 12) (some (36, i)) (by decide) rt_26 rfl (by decide) rfl hd hw rfl kk
theorem GS_26_13 {i idx : Nat} (hd : decode M.2.1 pc = .ok (.getfield idx, 3)) (hw : Cond.fieldLink M.1.cls idx "GreatStoreModel" "houseOf" "[I" ∈ gw) (kk : V true M d bc bs (pc + 3) lv (aR 37 i :: st) h P) : V true M d bc bs pc lv (aR 26 i :: st) h P := V_getR (T := TX10) (k := 13) (some (37, i)) (by decide) rt_26 rfl (by decide) rfl hd hw rfl kk
theorem GS_26_14 {i idx : Nat} (hd : decode M.2.1 pc = .ok (.getfield idx, 3)) (hw : Cond.fieldLink M.1.cls idx "GreatStoreModel" "dayOf" "[I" ∈ gw) (kk : V true M d bc bs (pc + 3) lv (aR 38 i :: st) h P) : V true M d bc bs pc lv (aR 26 i :: st) h P := V_getR (T := TX10) (k := 14) (some (38, i)) (by decide) rt_26 rfl (by decide) rfl hd hw rfl kk
theorem GS_26_15 {i idx : Nat} (hd : decode M.2.1 pc = .ok (.getfield idx, 3)) (hw : Cond.fieldLink M.1.cls idx "GreatStoreModel" "toldOn" "[I" ∈ gw) (kk : V true M d bc bs (pc + 3) lv (aR 39 i :: st) h P) : V true M d bc bs pc lv (aR 26 i :: st) h P := V_getR (T := TX10) (k := 15) (some (39, i)) (by decide) rt_26 rfl (by decide) rfl hd hw rfl kk
theorem GS_26_16 {i idx : Nat} (hd : decode M.2.1 pc = .ok (.getfield idx, 3)) (hw : Cond.fieldLink M.1.cls idx "GreatStoreModel" "soldOn" "[I" ∈ gw) (kk : V true M d bc bs (pc + 3) lv (aR 40 i :: st) h P) : V true M d bc bs pc lv (aR 26 i :: st) h P := V_getR (T := TX10) (k := 16) (some (40, i)) (by decide) rt_26 rfl (by decide) rfl hd hw rfl kk
theorem GS_26_17 {i idx : Nat} (hd : decode M.2.1 pc = .ok (.getfield idx, 3)) (hw : Cond.fieldLink M.1.cls idx "GreatStoreModel" "backOn" "[I" ∈ gw) (kk : V true M d bc bs (pc + 3) lv (aR 41 i :: st) h P) : V true M d bc bs pc lv (aR 26 i :: st) h P := V_getR (T := TX10) (k := 17) (some (41, i)) (by decide) rt_26 rfl (by decide) rfl hd hw rfl kk
theorem GS_26_18 {i idx : Nat} (hd : decode M.2.1 pc = .ok (.getfield idx, 3)) (hw : Cond.fieldLink M.1.cls idx "GreatStoreModel" "round" "[I" ∈ gw) (kk : V true M d bc bs (pc + 3) lv (aR 42 i :: st) h P) : V true M d bc bs pc lv (aR 26 i :: st) h P := V_getR (T := TX10) (k := 18) (some (42, i)) (by decide) rt_26 rfl (by decide) rfl hd hw rfl kk
theorem GS_26_19 {i idx : Nat} (hd : decode M.2.1 pc = .ok (.getfield idx, 3)) (hw : Cond.fieldLink M.1.cls idx "GreatStoreModel" "worth" "[I" ∈ gw) (kk : V true M d bc bs (pc + 3) lv (aR 43 i :: st) h P) : V true M d bc bs pc lv (aR 26 i :: st) h P := V_getR (T := TX10) (k := 19) (some (43, i)) (by decide) rt_26 rfl (by decide) rfl hd hw rfl kk
theorem GI_26_20 {i idx : Nat} (hd : decode M.2.1 pc = .ok (.getfield idx, 3)) (hw : Cond.fieldLink M.1.cls idx "GreatStoreModel" "rounds" "I" ∈ gw) (kk : V σ M d bc bs (pc + 3) lv (aI (gI h 26 i 20) :: st) h P) : V σ M d bc bs pc lv (aR 26 i :: st) h P := V_getI (T := TX10) (k := 20) (by decide) rt_26 rfl (by decide) rfl hd hw kk
theorem PI_26_20 {i idx : Nat} {v : Int32} (hd : decode M.2.1 pc = .ok (.putfield idx, 3)) (hw : Cond.fieldLink M.1.cls idx "GreatStoreModel" "rounds" "I" ∈ gw) (kk : V σ M d bc bs (pc + 3) lv st (sI h 26 i 20 v) P) : V σ M d bc bs pc lv (aI v :: aR 26 i :: st) h P := V_putI (T := TX10) (k := 20) (by decide) rt_26 rfl (by decide) rfl (Or.inl rfl) hd hw kk
theorem GI_26_21 {i idx : Nat} (hd : decode M.2.1 pc = .ok (.getfield idx, 3)) (hw : Cond.fieldLink M.1.cls idx "GreatStoreModel" "housed" "I" ∈ gw) (kk : V σ M d bc bs (pc + 3) lv (aI (gI h 26 i 21) :: st) h P) : V σ M d bc bs pc lv (aR 26 i :: st) h P := V_getI (T := TX10) (k := 21) (by decide) rt_26 rfl (by decide) rfl hd hw kk
theorem PI_26_21 {i idx : Nat} {v : Int32} (hd : decode M.2.1 pc = .ok (.putfield idx, 3)) (hw : Cond.fieldLink M.1.cls idx "GreatStoreModel" "housed" "I" ∈ gw) (kk : V σ M d bc bs (pc + 3) lv st (sI h 26 i 21 v) P) : V σ M d bc bs pc lv (aI v :: aR 26 i :: st) h P := V_putI (T := TX10) (k := 21) (by decide) rt_26 rfl (by decide) rfl (Or.inl rfl) hd hw kk
theorem GS_26_22 {i idx : Nat} (hd : decode M.2.1 pc = .ok (.getfield idx, 3)) (hw : Cond.fieldLink M.1.cls idx "GreatStoreModel" "houses" "[I" ∈ gw) (kk : V true M d bc bs (pc + 3) lv (aR 44 i :: st) h P) : V true M d bc bs pc lv (aR 26 i :: st) h P := V_getR (T := TX10) (k := 22) (some (44, i)) (by decide) rt_26 rfl (by decide) rfl hd hw rfl kk
theorem GS_26_23 {i idx : Nat} (hd : decode M.2.1 pc = .ok (.getfield idx, 3)) (hw : Cond.fieldLink M.1.cls idx "GreatStoreModel" "asked" "[Z" ∈ gw) (kk : V true M d bc bs (pc + 3) lv (aR 45 i :: st) h P) : V true M d bc bs pc lv (aR 26 i :: st) h P := V_getR (T := TX10) (k := 23) (some (45, i)) (by decide) rt_26 rfl (by decide) rfl hd hw rfl kk
theorem GI_26_24 {i idx : Nat} (hd : decode M.2.1 pc = .ok (.getfield idx, 3)) (hw : Cond.fieldLink M.1.cls idx "GreatStoreModel" "lines" "I" ∈ gw) (kk : V σ M d bc bs (pc + 3) lv (aI (gI h 26 i 24) :: st) h P) : V σ M d bc bs pc lv (aR 26 i :: st) h P := V_getI (T := TX10) (k := 24) (by decide) rt_26 rfl (by decide) rfl hd hw kk
theorem PI_26_24 {i idx : Nat} {v : Int32} (hd : decode M.2.1 pc = .ok (.putfield idx, 3)) (hw : Cond.fieldLink M.1.cls idx "GreatStoreModel" "lines" "I" ∈ gw) (kk : V σ M d bc bs (pc + 3) lv st (sI h 26 i 24 v) P) : V σ M d bc bs pc lv (aI v :: aR 26 i :: st) h P := V_putI (T := TX10) (k := 24) (by decide) rt_26 rfl (by decide) rfl (Or.inl rfl) hd hw kk
theorem GI_26_25 {i idx : Nat} (hd : decode M.2.1 pc = .ok (.getfield idx, 3)) (hw : Cond.fieldLink M.1.cls idx "GreatStoreModel" "freshLines" "I" ∈ gw) (kk : V σ M d bc bs (pc + 3) lv (aI (gI h 26 i 25) :: st) h P) : V σ M d bc bs pc lv (aR 26 i :: st) h P := V_getI (T := TX10) (k := 25) (by decide) rt_26 rfl (by decide) rfl hd hw kk
theorem PI_26_25 {i idx : Nat} {v : Int32} (hd : decode M.2.1 pc = .ok (.putfield idx, 3)) (hw : Cond.fieldLink M.1.cls idx "GreatStoreModel" "freshLines" "I" ∈ gw) (kk : V σ M d bc bs (pc + 3) lv st (sI h 26 i 25 v) P) : V σ M d bc bs pc lv (aI v :: aR 26 i :: st) h P := V_putI (T := TX10) (k := 25) (by decide) rt_26 rfl (by decide) rfl (Or.inl rfl) hd hw kk
theorem GI_26_26 {i idx : Nat} (hd : decode M.2.1 pc = .ok (.getfield idx, 3)) (hw : Cond.fieldLink M.1.cls idx "GreatStoreModel" "freshSteps" "I" ∈ gw) (kk : V σ M d bc bs (pc + 3) lv (aI (gI h 26 i 26) :: st) h P) : V σ M d bc bs pc lv (aR 26 i :: st) h P := V_getI (T := TX10) (k := 26) (by decide) rt_26 rfl (by decide) rfl hd hw kk
theorem PI_26_26 {i idx : Nat} {v : Int32} (hd : decode M.2.1 pc = .ok (.putfield idx, 3)) (hw : Cond.fieldLink M.1.cls idx "GreatStoreModel" "freshSteps" "I" ∈ gw) (kk : V σ M d bc bs (pc + 3) lv st (sI h 26 i 26 v) P) : V σ M d bc bs pc lv (aI v :: aR 26 i :: st) h P := V_putI (T := TX10) (k := 26) (by decide) rt_26 rfl (by decide) rfl (Or.inl rfl) hd hw kk
theorem GS_26_27 {i idx : Nat} (hd : decode M.2.1 pc = .ok (.getfield idx, 3)) (hw : Cond.fieldLink M.1.cls idx "GreatStoreModel" "from" "[I" ∈ gw) (kk : V true M d bc bs (pc + 3) lv (aR 46 i :: st) h P) : V true M d bc bs pc lv (aR 26 i :: st) h P := V_getR (T := TX10) (k := 27) (some (46, i)) (by decide) rt_26 rfl (by decide) rfl hd hw rfl kk
theorem GS_26_28 {i idx : Nat} (hd : decode M.2.1 pc = .ok (.getfield idx, 3)) (hw : Cond.fieldLink M.1.cls idx "GreatStoreModel" "when" "[I" ∈ gw) (kk : V true M d bc bs (pc + 3) lv (aR 47 i :: st) h P) : V true M d bc bs pc lv (aR 26 i :: st) h P := V_getR (T := TX10) (k := 28) (some (47, i)) (by decide) rt_26 rfl (by decide) rfl hd hw rfl kk
theorem GS_26_29 {i idx : Nat} (hd : decode M.2.1 pc = .ok (.getfield idx, 3)) (hw : Cond.fieldLink M.1.cls idx "GreatStoreModel" "step" "[I" ∈ gw) (kk : V true M d bc bs (pc + 3) lv (aR 48 i :: st) h P) : V true M d bc bs pc lv (aR 26 i :: st) h P := V_getR (T := TX10) (k := 29) (some (48, i)) (by decide) rt_26 rfl (by decide) rfl hd hw rfl kk
theorem GS_26_30 {i idx : Nat} (hd : decode M.2.1 pc = .ok (.getfield idx, 3)) (hw : Cond.fieldLink M.1.cls idx "GreatStoreModel" "freshFrom" "[I" ∈ gw) (kk : V true M d bc bs (pc + 3) lv (aR 49 i :: st) h P) : V true M d bc bs pc lv (aR 26 i :: st) h P := V_getR (T := TX10) (k := 30) (some (49, i)) (by decide) rt_26 rfl (by decide) rfl hd hw rfl kk
theorem GS_26_31 {i idx : Nat} (hd : decode M.2.1 pc = .ok (.getfield idx, 3)) (hw : Cond.fieldLink M.1.cls idx "GreatStoreModel" "freshWhen" "[I" ∈ gw) (kk : V true M d bc bs (pc + 3) lv (aR 50 i :: st) h P) : V true M d bc bs pc lv (aR 26 i :: st) h P := V_getR (T := TX10) (k := 31) (some (50, i)) (by decide) rt_26 rfl (by decide) rfl hd hw rfl kk
theorem GS_26_32 {i idx : Nat} (hd : decode M.2.1 pc = .ok (.getfield idx, 3)) (hw : Cond.fieldLink M.1.cls idx "GreatStoreModel" "fresh" "[I" ∈ gw) (kk : V true M d bc bs (pc + 3) lv (aR 51 i :: st) h P) : V true M d bc bs pc lv (aR 26 i :: st) h P := V_getR (T := TX10) (k := 32) (some (51, i)) (by decide) rt_26 rfl (by decide) rfl hd hw rfl kk
theorem GS_26_33 {i idx : Nat} (hd : decode M.2.1 pc = .ok (.getfield idx, 3)) (hw : Cond.fieldLink M.1.cls idx "GreatStoreModel" "pile" "[I" ∈ gw) (kk : V true M d bc bs (pc + 3) lv (aR 52 i :: st) h P) : V true M d bc bs pc lv (aR 26 i :: st) h P := V_getR (T := TX10) (k := 33) (some (52, i)) (by decide) rt_26 rfl (by decide) rfl hd hw rfl kk
theorem GS_26_34 {i idx : Nat} (hd : decode M.2.1 pc = .ok (.getfield idx, 3)) (hw : Cond.fieldLink M.1.cls idx "GreatStoreModel" "tape" "[I" ∈ gw) (kk : V true M d bc bs (pc + 3) lv (aR 53 i :: st) h P) : V true M d bc bs pc lv (aR 26 i :: st) h P := V_getR (T := TX10) (k := 34) (some (53, i)) (by decide) rt_26 rfl (by decide) rfl hd hw rfl kk
theorem GI_26_35 {i idx : Nat} (hd : decode M.2.1 pc = .ok (.getfield idx, 3)) (hw : Cond.fieldLink M.1.cls idx "GreatStoreModel" "taped" "I" ∈ gw) (kk : V σ M d bc bs (pc + 3) lv (aI (gI h 26 i 35) :: st) h P) : V σ M d bc bs pc lv (aR 26 i :: st) h P := V_getI (T := TX10) (k := 35) (by decide) rt_26 rfl (by decide) rfl hd hw kk
theorem PI_26_35 {i idx : Nat} {v : Int32} (hd : decode M.2.1 pc = .ok (.putfield idx, 3)) (hw : Cond.fieldLink M.1.cls idx "GreatStoreModel" "taped" "I" ∈ gw) (kk : V σ M d bc bs (pc + 3) lv st (sI h 26 i 35 v) P) : V σ M d bc bs pc lv (aI v :: aR 26 i :: st) h P := V_putI (T := TX10) (k := 35) (by decide) rt_26 rfl (by decide) rfl (Or.inl rfl) hd hw kk
theorem GI_26_36 {i idx : Nat} (hd : decode M.2.1 pc = .ok (.getfield idx, 3)) (hw : Cond.fieldLink M.1.cls idx "GreatStoreModel" "at" "I" ∈ gw) (kk : V σ M d bc bs (pc + 3) lv (aI (gI h 26 i 36) :: st) h P) : V σ M d bc bs pc lv (aR 26 i :: st) h P := V_getI (T := TX10) (k := 36) (by decide) rt_26 rfl (by decide) rfl hd hw kk
theorem PI_26_36 {i idx : Nat} {v : Int32} (hd : decode M.2.1 pc = .ok (.putfield idx, 3)) (hw : Cond.fieldLink M.1.cls idx "GreatStoreModel" "at" "I" ∈ gw) (kk : V σ M d bc bs (pc + 3) lv st (sI h 26 i 36 v) P) : V σ M d bc bs pc lv (aI v :: aR 26 i :: st) h P := V_putI (T := TX10) (k := 36) (by decide) rt_26 rfl (by decide) rfl (Or.inl rfl) hd hw kk
theorem GI_26_37 {i idx : Nat} (hd : decode M.2.1 pc = .ok (.getfield idx, 3)) (hw : Cond.fieldLink M.1.cls idx "GreatStoreModel" "token" "I" ∈ gw) (kk : V σ M d bc bs (pc + 3) lv (aI (gI h 26 i 37) :: st) h P) : V σ M d bc bs pc lv (aR 26 i :: st) h P := V_getI (T := TX10) (k := 37) (by decide) rt_26 rfl (by decide) rfl hd hw kk
theorem PI_26_37 {i idx : Nat} {v : Int32} (hd : decode M.2.1 pc = .ok (.putfield idx, 3)) (hw : Cond.fieldLink M.1.cls idx "GreatStoreModel" "token" "I" ∈ gw) (kk : V σ M d bc bs (pc + 3) lv st (sI h 26 i 37 v) P) : V σ M d bc bs pc lv (aI v :: aR 26 i :: st) h P := V_putI (T := TX10) (k := 37) (by decide) rt_26 rfl (by decide) rfl (Or.inl rfl) hd hw kk
theorem GI_26_38 {i idx : Nat} (hd : decode M.2.1 pc = .ok (.getfield idx, 3)) (hw : Cond.fieldLink M.1.cls idx "GreatStoreModel" "tokenAt" "I" ∈ gw) (kk : V σ M d bc bs (pc + 3) lv (aI (gI h 26 i 38) :: st) h P) : V σ M d bc bs pc lv (aR 26 i :: st) h P := V_getI (T := TX10) (k := 38) (by decide) rt_26 rfl (by decide) rfl hd hw kk
theorem PI_26_38 {i idx : Nat} {v : Int32} (hd : decode M.2.1 pc = .ok (.putfield idx, 3)) (hw : Cond.fieldLink M.1.cls idx "GreatStoreModel" "tokenAt" "I" ∈ gw) (kk : V σ M d bc bs (pc + 3) lv st (sI h 26 i 38 v) P) : V σ M d bc bs pc lv (aI v :: aR 26 i :: st) h P := V_putI (T := TX10) (k := 38) (by decide) rt_26 rfl (by decide) rfl (Or.inl rfl) hd hw kk
theorem GI_26_39 {i idx : Nat} (hd : decode M.2.1 pc = .ok (.getfield idx, 3)) (hw : Cond.fieldLink M.1.cls idx "GreatStoreModel" "value" "I" ∈ gw) (kk : V σ M d bc bs (pc + 3) lv (aI (gI h 26 i 39) :: st) h P) : V σ M d bc bs pc lv (aR 26 i :: st) h P := V_getI (T := TX10) (k := 39) (by decide) rt_26 rfl (by decide) rfl hd hw kk
theorem PI_26_39 {i idx : Nat} {v : Int32} (hd : decode M.2.1 pc = .ok (.putfield idx, 3)) (hw : Cond.fieldLink M.1.cls idx "GreatStoreModel" "value" "I" ∈ gw) (kk : V σ M d bc bs (pc + 3) lv st (sI h 26 i 39 v) P) : V σ M d bc bs pc lv (aI v :: aR 26 i :: st) h P := V_putI (T := TX10) (k := 39) (by decide) rt_26 rfl (by decide) rfl (Or.inl rfl) hd hw kk
theorem GI_26_40 {i idx : Nat} (hd : decode M.2.1 pc = .ok (.getfield idx, 3)) (hw : Cond.fieldLink M.1.cls idx "GreatStoreModel" "wrong" "I" ∈ gw) (kk : V σ M d bc bs (pc + 3) lv (aI (gI h 26 i 40) :: st) h P) : V σ M d bc bs pc lv (aR 26 i :: st) h P := V_getI (T := TX10) (k := 40) (by decide) rt_26 rfl (by decide) rfl hd hw kk
theorem PI_26_40 {i idx : Nat} {v : Int32} (hd : decode M.2.1 pc = .ok (.putfield idx, 3)) (hw : Cond.fieldLink M.1.cls idx "GreatStoreModel" "wrong" "I" ∈ gw) (kk : V σ M d bc bs (pc + 3) lv st (sI h 26 i 40 v) P) : V σ M d bc bs pc lv (aI v :: aR 26 i :: st) h P := V_putI (T := TX10) (k := 40) (by decide) rt_26 rfl (by decide) rfl (Or.inl rfl) hd hw kk
theorem GI_26_41 {i idx : Nat} (hd : decode M.2.1 pc = .ok (.getfield idx, 3)) (hw : Cond.fieldLink M.1.cls idx "GreatStoreModel" "wrongAt" "I" ∈ gw) (kk : V σ M d bc bs (pc + 3) lv (aI (gI h 26 i 41) :: st) h P) : V σ M d bc bs pc lv (aR 26 i :: st) h P := V_getI (T := TX10) (k := 41) (by decide) rt_26 rfl (by decide) rfl hd hw kk
theorem PI_26_41 {i idx : Nat} {v : Int32} (hd : decode M.2.1 pc = .ok (.putfield idx, 3)) (hw : Cond.fieldLink M.1.cls idx "GreatStoreModel" "wrongAt" "I" ∈ gw) (kk : V σ M d bc bs (pc + 3) lv st (sI h 26 i 41 v) P) : V σ M d bc bs pc lv (aI v :: aR 26 i :: st) h P := V_putI (T := TX10) (k := 41) (by decide) rt_26 rfl (by decide) rfl (Or.inl rfl) hd hw kk
theorem GI_26_42 {i idx : Nat} (hd : decode M.2.1 pc = .ok (.getfield idx, 3)) (hw : Cond.fieldLink M.1.cls idx "GreatStoreModel" "faultKind" "I" ∈ gw) (kk : V σ M d bc bs (pc + 3) lv (aI (gI h 26 i 42) :: st) h P) : V σ M d bc bs pc lv (aR 26 i :: st) h P := V_getI (T := TX10) (k := 42) (by decide) rt_26 rfl (by decide) rfl hd hw kk
theorem PI_26_42 {i idx : Nat} {v : Int32} (hd : decode M.2.1 pc = .ok (.putfield idx, 3)) (hw : Cond.fieldLink M.1.cls idx "GreatStoreModel" "faultKind" "I" ∈ gw) (kk : V σ M d bc bs (pc + 3) lv st (sI h 26 i 42 v) P) : V σ M d bc bs pc lv (aI v :: aR 26 i :: st) h P := V_putI (T := TX10) (k := 42) (by decide) rt_26 rfl (by decide) rfl (Or.inl rfl) hd hw kk
theorem GI_26_43 {i idx : Nat} (hd : decode M.2.1 pc = .ok (.getfield idx, 3)) (hw : Cond.fieldLink M.1.cls idx "GreatStoreModel" "depth" "I" ∈ gw) (kk : V σ M d bc bs (pc + 3) lv (aI (gI h 26 i 43) :: st) h P) : V σ M d bc bs pc lv (aR 26 i :: st) h P := V_getI (T := TX10) (k := 43) (by decide) rt_26 rfl (by decide) rfl hd hw kk
theorem PI_26_43 {i idx : Nat} {v : Int32} (hd : decode M.2.1 pc = .ok (.putfield idx, 3)) (hw : Cond.fieldLink M.1.cls idx "GreatStoreModel" "depth" "I" ∈ gw) (kk : V σ M d bc bs (pc + 3) lv st (sI h 26 i 43 v) P) : V σ M d bc bs pc lv (aI v :: aR 26 i :: st) h P := V_putI (T := TX10) (k := 43) (by decide) rt_26 rfl (by decide) rfl (Or.inl rfl) hd hw kk
theorem GI_26_44 {i idx : Nat} (hd : decode M.2.1 pc = .ok (.getfield idx, 3)) (hw : Cond.fieldLink M.1.cls idx "GreatStoreModel" "faultPlace" "I" ∈ gw) (kk : V σ M d bc bs (pc + 3) lv (aI (gI h 26 i 44) :: st) h P) : V σ M d bc bs pc lv (aR 26 i :: st) h P := V_getI (T := TX10) (k := 44) (by decide) rt_26 rfl (by decide) rfl hd hw kk
theorem PI_26_44 {i idx : Nat} {v : Int32} (hd : decode M.2.1 pc = .ok (.putfield idx, 3)) (hw : Cond.fieldLink M.1.cls idx "GreatStoreModel" "faultPlace" "I" ∈ gw) (kk : V σ M d bc bs (pc + 3) lv st (sI h 26 i 44 v) P) : V σ M d bc bs pc lv (aI v :: aR 26 i :: st) h P := V_putI (T := TX10) (k := 44) (by decide) rt_26 rfl (by decide) rfl (Or.inl rfl) hd hw kk
theorem GI_26_45 {i idx : Nat} (hd : decode M.2.1 pc = .ok (.getfield idx, 3)) (hw : Cond.fieldLink M.1.cls idx "GreatStoreModel" "tSum" "I" ∈ gw) (kk : V σ M d bc bs (pc + 3) lv (aI (gI h 26 i 45) :: st) h P) : V σ M d bc bs pc lv (aR 26 i :: st) h P := V_getI (T := TX10) (k := 45) (by decide) rt_26 rfl (by decide) rfl hd hw kk
theorem PI_26_45 {i idx : Nat} {v : Int32} (hd : decode M.2.1 pc = .ok (.putfield idx, 3)) (hw : Cond.fieldLink M.1.cls idx "GreatStoreModel" "tSum" "I" ∈ gw) (kk : V σ M d bc bs (pc + 3) lv st (sI h 26 i 45 v) P) : V σ M d bc bs pc lv (aI v :: aR 26 i :: st) h P := V_putI (T := TX10) (k := 45) (by decide) rt_26 rfl (by decide) rfl (Or.inl rfl) hd hw kk
theorem GI_26_46 {i idx : Nat} (hd : decode M.2.1 pc = .ok (.getfield idx, 3)) (hw : Cond.fieldLink M.1.cls idx "GreatStoreModel" "tSlips" "I" ∈ gw) (kk : V σ M d bc bs (pc + 3) lv (aI (gI h 26 i 46) :: st) h P) : V σ M d bc bs pc lv (aR 26 i :: st) h P := V_getI (T := TX10) (k := 46) (by decide) rt_26 rfl (by decide) rfl hd hw kk
theorem PI_26_46 {i idx : Nat} {v : Int32} (hd : decode M.2.1 pc = .ok (.putfield idx, 3)) (hw : Cond.fieldLink M.1.cls idx "GreatStoreModel" "tSlips" "I" ∈ gw) (kk : V σ M d bc bs (pc + 3) lv st (sI h 26 i 46 v) P) : V σ M d bc bs pc lv (aI v :: aR 26 i :: st) h P := V_putI (T := TX10) (k := 46) (by decide) rt_26 rfl (by decide) rfl (Or.inl rfl) hd hw kk
theorem GI_26_47 {i idx : Nat} (hd : decode M.2.1 pc = .ok (.getfield idx, 3)) (hw : Cond.fieldLink M.1.cls idx "GreatStoreModel" "tBack" "I" ∈ gw) (kk : V σ M d bc bs (pc + 3) lv (aI (gI h 26 i 47) :: st) h P) : V σ M d bc bs pc lv (aR 26 i :: st) h P := V_getI (T := TX10) (k := 47) (by decide) rt_26 rfl (by decide) rfl hd hw kk
theorem PI_26_47 {i idx : Nat} {v : Int32} (hd : decode M.2.1 pc = .ok (.putfield idx, 3)) (hw : Cond.fieldLink M.1.cls idx "GreatStoreModel" "tBack" "I" ∈ gw) (kk : V σ M d bc bs (pc + 3) lv st (sI h 26 i 47 v) P) : V σ M d bc bs pc lv (aI v :: aR 26 i :: st) h P := V_putI (T := TX10) (k := 47) (by decide) rt_26 rfl (by decide) rfl (Or.inl rfl) hd hw kk
theorem GI_26_48 {i idx : Nat} (hd : decode M.2.1 pc = .ok (.getfield idx, 3)) (hw : Cond.fieldLink M.1.cls idx "GreatStoreModel" "tMonth" "I" ∈ gw) (kk : V σ M d bc bs (pc + 3) lv (aI (gI h 26 i 48) :: st) h P) : V σ M d bc bs pc lv (aR 26 i :: st) h P := V_getI (T := TX10) (k := 48) (by decide) rt_26 rfl (by decide) rfl hd hw kk
theorem PI_26_48 {i idx : Nat} {v : Int32} (hd : decode M.2.1 pc = .ok (.putfield idx, 3)) (hw : Cond.fieldLink M.1.cls idx "GreatStoreModel" "tMonth" "I" ∈ gw) (kk : V σ M d bc bs (pc + 3) lv st (sI h 26 i 48 v) P) : V σ M d bc bs pc lv (aI v :: aR 26 i :: st) h P := V_putI (T := TX10) (k := 48) (by decide) rt_26 rfl (by decide) rfl (Or.inl rfl) hd hw kk
theorem GS_26_49 {i idx : Nat} (hd : decode M.2.1 pc = .ok (.getfield idx, 3)) (hw : Cond.fieldLink M.1.cls idx "GreatStoreModel" "price" "[I" ∈ gw) (kk : V true M d bc bs (pc + 3) lv (aR 54 i :: st) h P) : V true M d bc bs pc lv (aR 26 i :: st) h P := V_getR (T := TX10) (k := 49) (some (54, i)) (by decide) rt_26 rfl (by decide) rfl hd hw rfl kk
theorem GS_26_50 {i idx : Nat} (hd : decode M.2.1 pc = .ok (.getfield idx, 3)) (hw : Cond.fieldLink M.1.cls idx "GreatStoreModel" "want" "[I" ∈ gw) (kk : V true M d bc bs (pc + 3) lv (aR 55 i :: st) h P) : V true M d bc bs pc lv (aR 26 i :: st) h P := V_getR (T := TX10) (k := 50) (some (55, i)) (by decide) rt_26 rfl (by decide) rfl hd hw rfl kk
theorem GS_26_51 {i idx : Nat} (hd : decode M.2.1 pc = .ok (.getfield idx, 3)) (hw : Cond.fieldLink M.1.cls idx "GreatStoreModel" "row" "[I" ∈ gw) (kk : V true M d bc bs (pc + 3) lv (aR 56 i :: st) h P) : V true M d bc bs pc lv (aR 26 i :: st) h P := V_getR (T := TX10) (k := 51) (some (56, i)) (by decide) rt_26 rfl (by decide) rfl hd hw rfl kk
theorem GS_26_52 {i idx : Nat} (hd : decode M.2.1 pc = .ok (.getfield idx, 3)) (hw : Cond.fieldLink M.1.cls idx "GreatStoreModel" "bestRow" "[I" ∈ gw) (kk : V true M d bc bs (pc + 3) lv (aR 57 i :: st) h P) : V true M d bc bs pc lv (aR 26 i :: st) h P := V_getR (T := TX10) (k := 52) (some (57, i)) (by decide) rt_26 rfl (by decide) rfl hd hw rfl kk
theorem GI_26_53 {i idx : Nat} (hd : decode M.2.1 pc = .ok (.getfield idx, 3)) (hw : Cond.fieldLink M.1.cls idx "GreatStoreModel" "bestSum" "I" ∈ gw) (kk : V σ M d bc bs (pc + 3) lv (aI (gI h 26 i 53) :: st) h P) : V σ M d bc bs pc lv (aR 26 i :: st) h P := V_getI (T := TX10) (k := 53) (by decide) rt_26 rfl (by decide) rfl hd hw kk
theorem PI_26_53 {i idx : Nat} {v : Int32} (hd : decode M.2.1 pc = .ok (.putfield idx, 3)) (hw : Cond.fieldLink M.1.cls idx "GreatStoreModel" "bestSum" "I" ∈ gw) (kk : V σ M d bc bs (pc + 3) lv st (sI h 26 i 53 v) P) : V σ M d bc bs pc lv (aI v :: aR 26 i :: st) h P := V_putI (T := TX10) (k := 53) (by decide) rt_26 rfl (by decide) rfl (Or.inl rfl) hd hw kk
theorem GI_26_54 {i idx : Nat} (hd : decode M.2.1 pc = .ok (.getfield idx, 3)) (hw : Cond.fieldLink M.1.cls idx "GreatStoreModel" "bestLeft" "I" ∈ gw) (kk : V σ M d bc bs (pc + 3) lv (aI (gI h 26 i 54) :: st) h P) : V σ M d bc bs pc lv (aR 26 i :: st) h P := V_getI (T := TX10) (k := 54) (by decide) rt_26 rfl (by decide) rfl hd hw kk
theorem PI_26_54 {i idx : Nat} {v : Int32} (hd : decode M.2.1 pc = .ok (.putfield idx, 3)) (hw : Cond.fieldLink M.1.cls idx "GreatStoreModel" "bestLeft" "I" ∈ gw) (kk : V σ M d bc bs (pc + 3) lv st (sI h 26 i 54 v) P) : V σ M d bc bs pc lv (aI v :: aR 26 i :: st) h P := V_putI (T := TX10) (k := 54) (by decide) rt_26 rfl (by decide) rfl (Or.inl rfl) hd hw kk
theorem GI_60_1 {i idx : Nat} (hd : decode M.2.1 pc = .ok (.getfield idx, 3)) (hw : Cond.fieldLink M.1.cls idx "GreatStore$Thing" "came" "I" ∈ gw) (kk : V σ M d bc bs (pc + 3) lv (aI (gI h 60 i 1) :: st) h P) : V σ M d bc bs pc lv (aR 60 i :: st) h P := V_getI (T := TX6) (k := 1) (by decide) rt_60 rfl (by decide) rfl hd hw kk
theorem PI_60_1 {i idx : Nat} {v : Int32} (hi : M.1.name = "<init>") (ho : "GreatStore$Thing" = M.1.cls) (hd : decode M.2.1 pc = .ok (.putfield idx, 3)) (hw : Cond.fieldLink M.1.cls idx "GreatStore$Thing" "came" "I" ∈ gw) (kk : V σ M d bc bs (pc + 3) lv st (sI h 60 i 1 v) P) : V σ M d bc bs pc lv (aI v :: aR 60 i :: st) h P := V_putI (T := TX6) (k := 1) (by decide) rt_60 rfl (by decide) rfl (Or.inr ⟨rfl, hi, ho⟩) hd hw kk
theorem GI_60_2 {i idx : Nat} (hd : decode M.2.1 pc = .ok (.getfield idx, 3)) (hw : Cond.fieldLink M.1.cls idx "GreatStore$Thing" "stock" "I" ∈ gw) (kk : V σ M d bc bs (pc + 3) lv (aI (gI h 60 i 2) :: st) h P) : V σ M d bc bs pc lv (aR 60 i :: st) h P := V_getI (T := TX6) (k := 2) (by decide) rt_60 rfl (by decide) rfl hd hw kk
theorem PI_60_2 {i idx : Nat} {v : Int32} (hd : decode M.2.1 pc = .ok (.putfield idx, 3)) (hw : Cond.fieldLink M.1.cls idx "GreatStore$Thing" "stock" "I" ∈ gw) (kk : V σ M d bc bs (pc + 3) lv st (sI h 60 i 2 v) P) : V σ M d bc bs pc lv (aI v :: aR 60 i :: st) h P := V_putI (T := TX6) (k := 2) (by decide) rt_60 rfl (by decide) rfl (Or.inl rfl) hd hw kk
theorem GI_60_3 {i idx : Nat} (hd : decode M.2.1 pc = .ok (.getfield idx, 3)) (hw : Cond.fieldLink M.1.cls idx "GreatStore$Thing" "raised" "I" ∈ gw) (kk : V σ M d bc bs (pc + 3) lv (aI (gI h 60 i 3) :: st) h P) : V σ M d bc bs pc lv (aR 60 i :: st) h P := V_getI (T := TX6) (k := 3) (by decide) rt_60 rfl (by decide) rfl hd hw kk
theorem PI_60_3 {i idx : Nat} {v : Int32} (hd : decode M.2.1 pc = .ok (.putfield idx, 3)) (hw : Cond.fieldLink M.1.cls idx "GreatStore$Thing" "raised" "I" ∈ gw) (kk : V σ M d bc bs (pc + 3) lv st (sI h 60 i 3 v) P) : V σ M d bc bs pc lv (aI v :: aR 60 i :: st) h P := V_putI (T := TX6) (k := 3) (by decide) rt_60 rfl (by decide) rfl (Or.inl rfl) hd hw kk
theorem GI_60_4 {i idx : Nat} (hd : decode M.2.1 pc = .ok (.getfield idx, 3)) (hw : Cond.fieldLink M.1.cls idx "GreatStore$Thing" "lost" "I" ∈ gw) (kk : V σ M d bc bs (pc + 3) lv (aI (gI h 60 i 4) :: st) h P) : V σ M d bc bs pc lv (aR 60 i :: st) h P := V_getI (T := TX6) (k := 4) (by decide) rt_60 rfl (by decide) rfl hd hw kk
theorem PI_60_4 {i idx : Nat} {v : Int32} (hd : decode M.2.1 pc = .ok (.putfield idx, 3)) (hw : Cond.fieldLink M.1.cls idx "GreatStore$Thing" "lost" "I" ∈ gw) (kk : V σ M d bc bs (pc + 3) lv st (sI h 60 i 4 v) P) : V σ M d bc bs pc lv (aI v :: aR 60 i :: st) h P := V_putI (T := TX6) (k := 4) (by decide) rt_60 rfl (by decide) rfl (Or.inl rfl) hd hw kk
theorem GI_62_0 {i idx : Nat} (hd : decode M.2.1 pc = .ok (.getfield idx, 3)) (hw : Cond.fieldLink M.1.cls idx "GreatStore$Slip" "kind" "I" ∈ gw) (kk : V σ M d bc bs (pc + 3) lv (aI (gI h 62 i 0) :: st) h P) : V σ M d bc bs pc lv (aR 62 i :: st) h P := V_getI (T := TX3) (k := 0) (by decide) rt_62 rfl (by decide) rfl hd hw kk
theorem PI_62_0 {i idx : Nat} {v : Int32} (hi : M.1.name = "<init>") (ho : "GreatStore$Slip" = M.1.cls) (hd : decode M.2.1 pc = .ok (.putfield idx, 3)) (hw : Cond.fieldLink M.1.cls idx "GreatStore$Slip" "kind" "I" ∈ gw) (kk : V σ M d bc bs (pc + 3) lv st (sI h 62 i 0 v) P) : V σ M d bc bs pc lv (aI v :: aR 62 i :: st) h P := V_putI (T := TX3) (k := 0) (by decide) rt_62 rfl (by decide) rfl (Or.inr ⟨rfl, hi, ho⟩) hd hw kk
theorem GI_62_1 {i idx : Nat} (hd : decode M.2.1 pc = .ok (.getfield idx, 3)) (hw : Cond.fieldLink M.1.cls idx "GreatStore$Slip" "clerk" "I" ∈ gw) (kk : V σ M d bc bs (pc + 3) lv (aI (gI h 62 i 1) :: st) h P) : V σ M d bc bs pc lv (aR 62 i :: st) h P := V_getI (T := TX3) (k := 1) (by decide) rt_62 rfl (by decide) rfl hd hw kk
theorem PI_62_1 {i idx : Nat} {v : Int32} (hi : M.1.name = "<init>") (ho : "GreatStore$Slip" = M.1.cls) (hd : decode M.2.1 pc = .ok (.putfield idx, 3)) (hw : Cond.fieldLink M.1.cls idx "GreatStore$Slip" "clerk" "I" ∈ gw) (kk : V σ M d bc bs (pc + 3) lv st (sI h 62 i 1 v) P) : V σ M d bc bs pc lv (aI v :: aR 62 i :: st) h P := V_putI (T := TX3) (k := 1) (by decide) rt_62 rfl (by decide) rfl (Or.inr ⟨rfl, hi, ho⟩) hd hw kk
theorem GI_62_2 {i idx : Nat} (hd : decode M.2.1 pc = .ok (.getfield idx, 3)) (hw : Cond.fieldLink M.1.cls idx "GreatStore$Slip" "account" "I" ∈ gw) (kk : V σ M d bc bs (pc + 3) lv (aI (gI h 62 i 2) :: st) h P) : V σ M d bc bs pc lv (aR 62 i :: st) h P := V_getI (T := TX3) (k := 2) (by decide) rt_62 rfl (by decide) rfl hd hw kk
theorem PI_62_2 {i idx : Nat} {v : Int32} (hi : M.1.name = "<init>") (ho : "GreatStore$Slip" = M.1.cls) (hd : decode M.2.1 pc = .ok (.putfield idx, 3)) (hw : Cond.fieldLink M.1.cls idx "GreatStore$Slip" "account" "I" ∈ gw) (kk : V σ M d bc bs (pc + 3) lv st (sI h 62 i 2 v) P) : V σ M d bc bs pc lv (aI v :: aR 62 i :: st) h P := V_putI (T := TX3) (k := 2) (by decide) rt_62 rfl (by decide) rfl (Or.inr ⟨rfl, hi, ho⟩) hd hw kk
theorem GI_62_4 {i idx : Nat} (hd : decode M.2.1 pc = .ok (.getfield idx, 3)) (hw : Cond.fieldLink M.1.cls idx "GreatStore$Slip" "pieces" "I" ∈ gw) (kk : V σ M d bc bs (pc + 3) lv (aI (gI h 62 i 4) :: st) h P) : V σ M d bc bs pc lv (aR 62 i :: st) h P := V_getI (T := TX3) (k := 4) (by decide) rt_62 rfl (by decide) rfl hd hw kk
theorem PI_62_4 {i idx : Nat} {v : Int32} (hi : M.1.name = "<init>") (ho : "GreatStore$Slip" = M.1.cls) (hd : decode M.2.1 pc = .ok (.putfield idx, 3)) (hw : Cond.fieldLink M.1.cls idx "GreatStore$Slip" "pieces" "I" ∈ gw) (kk : V σ M d bc bs (pc + 3) lv st (sI h 62 i 4 v) P) : V σ M d bc bs pc lv (aI v :: aR 62 i :: st) h P := V_putI (T := TX3) (k := 4) (by decide) rt_62 rfl (by decide) rfl (Or.inr ⟨rfl, hi, ho⟩) hd hw kk
theorem GI_62_5 {i idx : Nat} (hd : decode M.2.1 pc = .ok (.getfield idx, 3)) (hw : Cond.fieldLink M.1.cls idx "GreatStore$Slip" "house" "I" ∈ gw) (kk : V σ M d bc bs (pc + 3) lv (aI (gI h 62 i 5) :: st) h P) : V σ M d bc bs pc lv (aR 62 i :: st) h P := V_getI (T := TX3) (k := 5) (by decide) rt_62 rfl (by decide) rfl hd hw kk
theorem PI_62_5 {i idx : Nat} {v : Int32} (hi : M.1.name = "<init>") (ho : "GreatStore$Slip" = M.1.cls) (hd : decode M.2.1 pc = .ok (.putfield idx, 3)) (hw : Cond.fieldLink M.1.cls idx "GreatStore$Slip" "house" "I" ∈ gw) (kk : V σ M d bc bs (pc + 3) lv st (sI h 62 i 5 v) P) : V σ M d bc bs pc lv (aI v :: aR 62 i :: st) h P := V_putI (T := TX3) (k := 5) (by decide) rt_62 rfl (by decide) rfl (Or.inr ⟨rfl, hi, ho⟩) hd hw kk
theorem GI_62_6 {i idx : Nat} (hd : decode M.2.1 pc = .ok (.getfield idx, 3)) (hw : Cond.fieldLink M.1.cls idx "GreatStore$Slip" "day" "I" ∈ gw) (kk : V σ M d bc bs (pc + 3) lv (aI (gI h 62 i 6) :: st) h P) : V σ M d bc bs pc lv (aR 62 i :: st) h P := V_getI (T := TX3) (k := 6) (by decide) rt_62 rfl (by decide) rfl hd hw kk
theorem PI_62_6 {i idx : Nat} {v : Int32} (hi : M.1.name = "<init>") (ho : "GreatStore$Slip" = M.1.cls) (hd : decode M.2.1 pc = .ok (.putfield idx, 3)) (hw : Cond.fieldLink M.1.cls idx "GreatStore$Slip" "day" "I" ∈ gw) (kk : V σ M d bc bs (pc + 3) lv st (sI h 62 i 6 v) P) : V σ M d bc bs pc lv (aI v :: aR 62 i :: st) h P := V_putI (T := TX3) (k := 6) (by decide) rt_62 rfl (by decide) rfl (Or.inr ⟨rfl, hi, ho⟩) hd hw kk
theorem GI_62_7 {i idx : Nat} (hd : decode M.2.1 pc = .ok (.getfield idx, 3)) (hw : Cond.fieldLink M.1.cls idx "GreatStore$Slip" "worth" "I" ∈ gw) (kk : V σ M d bc bs (pc + 3) lv (aI (gI h 62 i 7) :: st) h P) : V σ M d bc bs pc lv (aR 62 i :: st) h P := V_getI (T := TX3) (k := 7) (by decide) rt_62 rfl (by decide) rfl hd hw kk
theorem PI_62_7 {i idx : Nat} {v : Int32} (hi : M.1.name = "<init>") (ho : "GreatStore$Slip" = M.1.cls) (hd : decode M.2.1 pc = .ok (.putfield idx, 3)) (hw : Cond.fieldLink M.1.cls idx "GreatStore$Slip" "worth" "I" ∈ gw) (kk : V σ M d bc bs (pc + 3) lv st (sI h 62 i 7 v) P) : V σ M d bc bs pc lv (aI v :: aR 62 i :: st) h P := V_putI (T := TX3) (k := 7) (by decide) rt_62 rfl (by decide) rfl (Or.inr ⟨rfl, hi, ho⟩) hd hw kk
theorem GI_62_8 {i idx : Nat} (hd : decode M.2.1 pc = .ok (.getfield idx, 3)) (hw : Cond.fieldLink M.1.cls idx "GreatStore$Slip" "told" "I" ∈ gw) (kk : V σ M d bc bs (pc + 3) lv (aI (gI h 62 i 8) :: st) h P) : V σ M d bc bs pc lv (aR 62 i :: st) h P := V_getI (T := TX3) (k := 8) (by decide) rt_62 rfl (by decide) rfl hd hw kk
theorem PI_62_8 {i idx : Nat} {v : Int32} (hd : decode M.2.1 pc = .ok (.putfield idx, 3)) (hw : Cond.fieldLink M.1.cls idx "GreatStore$Slip" "told" "I" ∈ gw) (kk : V σ M d bc bs (pc + 3) lv st (sI h 62 i 8 v) P) : V σ M d bc bs pc lv (aI v :: aR 62 i :: st) h P := V_putI (T := TX3) (k := 8) (by decide) rt_62 rfl (by decide) rfl (Or.inl rfl) hd hw kk
theorem GI_62_9 {i idx : Nat} (hd : decode M.2.1 pc = .ok (.getfield idx, 3)) (hw : Cond.fieldLink M.1.cls idx "GreatStore$Slip" "sold" "I" ∈ gw) (kk : V σ M d bc bs (pc + 3) lv (aI (gI h 62 i 9) :: st) h P) : V σ M d bc bs pc lv (aR 62 i :: st) h P := V_getI (T := TX3) (k := 9) (by decide) rt_62 rfl (by decide) rfl hd hw kk
theorem PI_62_9 {i idx : Nat} {v : Int32} (hd : decode M.2.1 pc = .ok (.putfield idx, 3)) (hw : Cond.fieldLink M.1.cls idx "GreatStore$Slip" "sold" "I" ∈ gw) (kk : V σ M d bc bs (pc + 3) lv st (sI h 62 i 9 v) P) : V σ M d bc bs pc lv (aI v :: aR 62 i :: st) h P := V_putI (T := TX3) (k := 9) (by decide) rt_62 rfl (by decide) rfl (Or.inl rfl) hd hw kk
theorem GI_62_10 {i idx : Nat} (hd : decode M.2.1 pc = .ok (.getfield idx, 3)) (hw : Cond.fieldLink M.1.cls idx "GreatStore$Slip" "cameBack" "I" ∈ gw) (kk : V σ M d bc bs (pc + 3) lv (aI (gI h 62 i 10) :: st) h P) : V σ M d bc bs pc lv (aR 62 i :: st) h P := V_getI (T := TX3) (k := 10) (by decide) rt_62 rfl (by decide) rfl hd hw kk
theorem PI_62_10 {i idx : Nat} {v : Int32} (hd : decode M.2.1 pc = .ok (.putfield idx, 3)) (hw : Cond.fieldLink M.1.cls idx "GreatStore$Slip" "cameBack" "I" ∈ gw) (kk : V σ M d bc bs (pc + 3) lv st (sI h 62 i 10 v) P) : V σ M d bc bs pc lv (aI v :: aR 62 i :: st) h P := V_putI (T := TX3) (k := 10) (by decide) rt_62 rfl (by decide) rfl (Or.inl rfl) hd hw kk
theorem GI_62_11 {i idx : Nat} (hd : decode M.2.1 pc = .ok (.getfield idx, 3)) (hw : Cond.fieldLink M.1.cls idx "GreatStore$Slip" "round" "I" ∈ gw) (kk : V σ M d bc bs (pc + 3) lv (aI (gI h 62 i 11) :: st) h P) : V σ M d bc bs pc lv (aR 62 i :: st) h P := V_getI (T := TX3) (k := 11) (by decide) rt_62 rfl (by decide) rfl hd hw kk
theorem PI_62_11 {i idx : Nat} {v : Int32} (hd : decode M.2.1 pc = .ok (.putfield idx, 3)) (hw : Cond.fieldLink M.1.cls idx "GreatStore$Slip" "round" "I" ∈ gw) (kk : V σ M d bc bs (pc + 3) lv st (sI h 62 i 11 v) P) : V σ M d bc bs pc lv (aI v :: aR 62 i :: st) h P := V_putI (T := TX3) (k := 11) (by decide) rt_62 rfl (by decide) rfl (Or.inl rfl) hd hw kk
end GP
theorem gwm {w : Cond} (i : Nat) (h : lw_tbl[i]? = some w) (hg : goodWord w = true) : w ∈ gw := List.mem_filter.mpr ⟨List.mem_of_getElem? h, hg⟩
theorem sw_cases (x : Int32) (lo hi : Int) (h1 : -2147483648 ≤ lo) (h2 : hi < 2147483648) : ¬ (lo ≤ x.toInt ∧ x.toInt ≤ hi) ∨ ∃ n : Nat, (n : Int) ≤ hi - lo ∧ x = Int32.ofInt (lo + n) := by
  by_cases z : lo ≤ x.toInt ∧ x.toInt ≤ hi
  · right
    refine ⟨(x.toInt - lo).toNat, by omega, ?_⟩
    rw [show lo + ((x.toInt - lo).toNat : Int) = x.toInt by omega]
    exact (Int32.ofInt_toInt x).symm
  · exact Or.inl z
theorem sw_out {x : Int32} {lo hi : Int} (z : ¬ (lo ≤ x.toInt ∧ x.toInt ≤ hi)) : x.toInt < lo ∨ hi < x.toInt := by omega
end
section
def mX10_isIn : MT := (yX10_isIn, cX10_isIn, 3, (some .boolean))
theorem okX10_isIn : Mok mX10_isIn 3 := ⟨gwm 1030 (by decide +kernel) (by decide +kernel), gwm 58 (by decide +kernel) (by decide +kernel), by decide +kernel, by decide⟩
theorem stX10_isIn : Cond.static yX10_isIn ∈ gw := gwm 1029 (by decide +kernel) (by decide +kernel)
def mX10_isThing : MT := (yX10_isThing, cX10_isThing, 2, (some .boolean))
theorem okX10_isThing : Mok mX10_isThing 1 := ⟨gwm 1038 (by decide +kernel) (by decide +kernel), gwm 58 (by decide +kernel) (by decide +kernel), by decide +kernel, by decide⟩
theorem inX10_isThing : Cond.instanceMethod yX10_isThing ∈ gw := gwm 1037 (by decide +kernel) (by decide +kernel)
theorem seX10_isThing : Cond.selects RX10 yX10_isThing yX10_isThing ∈ gw := gwm 29 (by decide +kernel) (by decide +kernel)
def mX10_isTag : MT := (yX10_isTag, cX10_isTag, 1, (some .boolean))
theorem okX10_isTag : Mok mX10_isTag 1 := ⟨gwm 1027 (by decide +kernel) (by decide +kernel), gwm 58 (by decide +kernel) (by decide +kernel), by decide +kernel, by decide⟩
theorem stX10_isTag : Cond.static yX10_isTag ∈ gw := gwm 1026 (by decide +kernel) (by decide +kernel)
def mX10_thing : MT := (yX10_thing, cX10_thing, 4, (some .int))
theorem okX10_thing : Mok mX10_thing 2 := ⟨gwm 1024 (by decide +kernel) (by decide +kernel), gwm 58 (by decide +kernel) (by decide +kernel), by decide +kernel, by decide⟩
theorem inX10_thing : Cond.instanceMethod yX10_thing ∈ gw := gwm 1022 (by decide +kernel) (by decide +kernel)
theorem seX10_thing : Cond.selects RX10 yX10_thing yX10_thing ∈ gw := gwm 1023 (by decide +kernel) (by decide +kernel)
def mX10_tag : MT := (yX10_tag, cX10_tag, 4, (some .int))
theorem okX10_tag : Mok mX10_tag 2 := ⟨gwm 1034 (by decide +kernel) (by decide +kernel), gwm 58 (by decide +kernel) (by decide +kernel), by decide +kernel, by decide⟩
theorem inX10_tag : Cond.instanceMethod yX10_tag ∈ gw := gwm 1032 (by decide +kernel) (by decide +kernel)
theorem seX10_tag : Cond.selects RX10 yX10_tag yX10_tag ∈ gw := gwm 1033 (by decide +kernel) (by decide +kernel)
def mX10_of : MT := (yX10_of, cX10_of, 3, (some .int))
theorem okX10_of : Mok mX10_of 2 := ⟨gwm 1042 (by decide +kernel) (by decide +kernel), gwm 58 (by decide +kernel) (by decide +kernel), by decide +kernel, by decide⟩
theorem inX10_of : Cond.instanceMethod yX10_of ∈ gw := gwm 1040 (by decide +kernel) (by decide +kernel)
theorem seX10_of : Cond.selects RX10 yX10_of yX10_of ∈ gw := gwm 1041 (by decide +kernel) (by decide +kernel)
def mX10_next : MT := (yX10_next, cX10_next, 2, (some .int))
theorem okX10_next : Mok mX10_next 0 := ⟨gwm 1046 (by decide +kernel) (by decide +kernel), gwm 58 (by decide +kernel) (by decide +kernel), by decide +kernel, by decide⟩
theorem inX10_next : Cond.instanceMethod yX10_next ∈ gw := gwm 1044 (by decide +kernel) (by decide +kernel)
theorem seX10_next : Cond.selects RX10 yX10_next yX10_next ∈ gw := gwm 1045 (by decide +kernel) (by decide +kernel)
def mX10_slip : MT := (yX10_slip, cX10_slip, 9, (some .int))
theorem okX10_slip : Mok mX10_slip 7 := ⟨gwm 1050 (by decide +kernel) (by decide +kernel), gwm 58 (by decide +kernel) (by decide +kernel), by decide +kernel, by decide⟩
theorem inX10_slip : Cond.instanceMethod yX10_slip ∈ gw := gwm 1048 (by decide +kernel) (by decide +kernel)
theorem seX10_slip : Cond.selects RX10 yX10_slip yX10_slip ∈ gw := gwm 1049 (by decide +kernel) (by decide +kernel)
def mX10_isSlip : MT := (yX10_isSlip, cX10_isSlip, 2, (some .boolean))
theorem okX10_isSlip : Mok mX10_isSlip 1 := ⟨gwm 1058 (by decide +kernel) (by decide +kernel), gwm 58 (by decide +kernel) (by decide +kernel), by decide +kernel, by decide⟩
theorem inX10_isSlip : Cond.instanceMethod yX10_isSlip ∈ gw := gwm 1057 (by decide +kernel) (by decide +kernel)
theorem seX10_isSlip : Cond.selects RX10 yX10_isSlip yX10_isSlip ∈ gw := gwm 30 (by decide +kernel) (by decide +kernel)
def mX10_paper : MT := (yX10_paper, cX10_paper, 3, (some .int))
theorem okX10_paper : Mok mX10_paper 2 := ⟨gwm 1054 (by decide +kernel) (by decide +kernel), gwm 58 (by decide +kernel) (by decide +kernel), by decide +kernel, by decide⟩
theorem inX10_paper : Cond.instanceMethod yX10_paper ∈ gw := gwm 1052 (by decide +kernel) (by decide +kernel)
theorem seX10_paper : Cond.selects RX10 yX10_paper yX10_paper ∈ gw := gwm 1053 (by decide +kernel) (by decide +kernel)
def mX10_back : MT := (yX10_back, cX10_back, 2, (some .boolean))
theorem okX10_back : Mok mX10_back 1 := ⟨gwm 1062 (by decide +kernel) (by decide +kernel), gwm 58 (by decide +kernel) (by decide +kernel), by decide +kernel, by decide⟩
theorem inX10_back : Cond.instanceMethod yX10_back ∈ gw := gwm 1060 (by decide +kernel) (by decide +kernel)
theorem seX10_back : Cond.selects RX10 yX10_back yX10_back ∈ gw := gwm 1061 (by decide +kernel) (by decide +kernel)
def mX10_isParcel : MT := (yX10_isParcel, cX10_isParcel, 2, (some .boolean))
theorem okX10_isParcel : Mok mX10_isParcel 1 := ⟨gwm 1070 (by decide +kernel) (by decide +kernel), gwm 58 (by decide +kernel) (by decide +kernel), by decide +kernel, by decide⟩
theorem inX10_isParcel : Cond.instanceMethod yX10_isParcel ∈ gw := gwm 1069 (by decide +kernel) (by decide +kernel)
theorem seX10_isParcel : Cond.selects RX10 yX10_isParcel yX10_isParcel ∈ gw := gwm 31 (by decide +kernel) (by decide +kernel)
def mX10_look : MT := (yX10_look, cX10_look, 4, (some .int))
theorem okX10_look : Mok mX10_look 1 := ⟨gwm 1066 (by decide +kernel) (by decide +kernel), gwm 58 (by decide +kernel) (by decide +kernel), by decide +kernel, by decide⟩
theorem inX10_look : Cond.instanceMethod yX10_look ∈ gw := gwm 1064 (by decide +kernel) (by decide +kernel)
theorem seX10_look : Cond.selects RX10 yX10_look yX10_look ∈ gw := gwm 1065 (by decide +kernel) (by decide +kernel)
def mX10_van : MT := (yX10_van, cX10_van, 8, (some .int))
theorem okX10_van : Mok mX10_van 1 := ⟨gwm 1074 (by decide +kernel) (by decide +kernel), gwm 58 (by decide +kernel) (by decide +kernel), by decide +kernel, by decide⟩
theorem inX10_van : Cond.instanceMethod yX10_van ∈ gw := gwm 1072 (by decide +kernel) (by decide +kernel)
theorem seX10_van : Cond.selects RX10 yX10_van yX10_van ∈ gw := gwm 1073 (by decide +kernel) (by decide +kernel)
def mX10_house : MT := (yX10_house, cX10_house, 2, (some .int))
theorem okX10_house : Mok mX10_house 1 := ⟨gwm 1078 (by decide +kernel) (by decide +kernel), gwm 58 (by decide +kernel) (by decide +kernel), by decide +kernel, by decide⟩
theorem inX10_house : Cond.instanceMethod yX10_house ∈ gw := gwm 1076 (by decide +kernel) (by decide +kernel)
theorem seX10_house : Cond.selects RX10 yX10_house yX10_house ∈ gw := gwm 1077 (by decide +kernel) (by decide +kernel)
def mX10_feed : MT := (yX10_feed, cX10_feed, 8, (some .int))
theorem okX10_feed : Mok mX10_feed 5 := ⟨gwm 1082 (by decide +kernel) (by decide +kernel), gwm 58 (by decide +kernel) (by decide +kernel), by decide +kernel, by decide⟩
theorem inX10_feed : Cond.instanceMethod yX10_feed ∈ gw := gwm 1080 (by decide +kernel) (by decide +kernel)
theorem seX10_feed : Cond.selects RX10 yX10_feed yX10_feed ∈ gw := gwm 1081 (by decide +kernel) (by decide +kernel)
def mX10_end : MT := (yX10_end, cX10_end, 2, (some .boolean))
theorem okX10_end : Mok mX10_end 1 := ⟨gwm 1086 (by decide +kernel) (by decide +kernel), gwm 58 (by decide +kernel) (by decide +kernel), by decide +kernel, by decide⟩
theorem inX10_end : Cond.instanceMethod yX10_end ∈ gw := gwm 1084 (by decide +kernel) (by decide +kernel)
theorem seX10_end : Cond.selects RX10 yX10_end yX10_end ∈ gw := gwm 1085 (by decide +kernel) (by decide +kernel)
def mX10_see : MT := (yX10_see, cX10_see, 2, (some .int))
theorem okX10_see : Mok mX10_see 1 := ⟨gwm 1098 (by decide +kernel) (by decide +kernel), gwm 58 (by decide +kernel) (by decide +kernel), by decide +kernel, by decide⟩
theorem inX10_see : Cond.instanceMethod yX10_see ∈ gw := gwm 1097 (by decide +kernel) (by decide +kernel)
theorem seX10_see : Cond.selects RX10 yX10_see yX10_see ∈ gw := gwm 33 (by decide +kernel) (by decide +kernel)
def mX10_isLetter : MT := (yX10_isLetter, cX10_isLetter, 1, (some .boolean))
theorem okX10_isLetter : Mok mX10_isLetter 1 := ⟨gwm 1101 (by decide +kernel) (by decide +kernel), gwm 58 (by decide +kernel) (by decide +kernel), by decide +kernel, by decide⟩
theorem stX10_isLetter : Cond.static yX10_isLetter ∈ gw := gwm 1100 (by decide +kernel) (by decide +kernel)
def mX10_isDigit : MT := (yX10_isDigit, cX10_isDigit, 1, (some .boolean))
theorem okX10_isDigit : Mok mX10_isDigit 1 := ⟨gwm 1118 (by decide +kernel) (by decide +kernel), gwm 58 (by decide +kernel) (by decide +kernel), by decide +kernel, by decide⟩
theorem stX10_isDigit : Cond.static yX10_isDigit ∈ gw := gwm 1117 (by decide +kernel) (by decide +kernel)
def mX10_word : MT := (yX10_word, cX10_word, 2, (some .int))
theorem okX10_word : Mok mX10_word 1 := ⟨gwm 1104 (by decide +kernel) (by decide +kernel), gwm 58 (by decide +kernel) (by decide +kernel), by decide +kernel, by decide⟩
theorem stX10_word : Cond.static yX10_word ∈ gw := gwm 1103 (by decide +kernel) (by decide +kernel)
def mX10_next0 : MT := (yX10_next0, cX10_next0, 5, none)
theorem okX10_next0 : Mok mX10_next0 0 := ⟨gwm 1094 (by decide +kernel) (by decide +kernel), gwm 58 (by decide +kernel) (by decide +kernel), by decide +kernel, by decide⟩
theorem inX10_next0 : Cond.instanceMethod yX10_next0 ∈ gw := gwm 1093 (by decide +kernel) (by decide +kernel)
theorem seX10_next0 : Cond.selects RX10 yX10_next0 yX10_next0 ∈ gw := gwm 32 (by decide +kernel) (by decide +kernel)
def mX10_bad : MT := (yX10_bad, cX10_bad, 2, (some .boolean))
theorem okX10_bad : Mok mX10_bad 1 := ⟨gwm 1126 (by decide +kernel) (by decide +kernel), gwm 58 (by decide +kernel) (by decide +kernel), by decide +kernel, by decide⟩
theorem inX10_bad : Cond.instanceMethod yX10_bad ∈ gw := gwm 1125 (by decide +kernel) (by decide +kernel)
theorem seX10_bad : Cond.selects RX10 yX10_bad yX10_bad ∈ gw := gwm 35 (by decide +kernel) (by decide +kernel)
def mX10_need : MT := (yX10_need, cX10_need, 2, (some .boolean))
theorem okX10_need : Mok mX10_need 1 := ⟨gwm 1142 (by decide +kernel) (by decide +kernel), gwm 58 (by decide +kernel) (by decide +kernel), by decide +kernel, by decide⟩
theorem inX10_need : Cond.instanceMethod yX10_need ∈ gw := gwm 1141 (by decide +kernel) (by decide +kernel)
theorem seX10_need : Cond.selects RX10 yX10_need yX10_need ∈ gw := gwm 39 (by decide +kernel) (by decide +kernel)
def mX10_lay : MT := (yX10_lay, cX10_lay, 2, none)
theorem okX10_lay : Mok mX10_lay 1 := ⟨gwm 1146 (by decide +kernel) (by decide +kernel), gwm 58 (by decide +kernel) (by decide +kernel), by decide +kernel, by decide⟩
theorem inX10_lay : Cond.instanceMethod yX10_lay ∈ gw := gwm 1145 (by decide +kernel) (by decide +kernel)
theorem seX10_lay : Cond.selects RX10 yX10_lay yX10_lay ∈ gw := gwm 40 (by decide +kernel) (by decide +kernel)
def mX10_sum : MT := (yX10_sum, cX10_sum, 2, (some .boolean))
theorem okX10_sum : Mok mX10_sum 0 := ⟨gwm 1130 (by decide +kernel) (by decide +kernel), gwm 58 (by decide +kernel) (by decide +kernel), by decide +kernel, by decide⟩
theorem inX10_sum : Cond.instanceMethod yX10_sum ∈ gw := gwm 1129 (by decide +kernel) (by decide +kernel)
theorem seX10_sum : Cond.selects RX10 yX10_sum yX10_sum ∈ gw := gwm 36 (by decide +kernel) (by decide +kernel)
def mX10_product : MT := (yX10_product, cX10_product, 2, (some .boolean))
theorem okX10_product : Mok mX10_product 0 := ⟨gwm 1134 (by decide +kernel) (by decide +kernel), gwm 58 (by decide +kernel) (by decide +kernel), by decide +kernel, by decide⟩
theorem inX10_product : Cond.instanceMethod yX10_product ∈ gw := gwm 1133 (by decide +kernel) (by decide +kernel)
theorem seX10_product : Cond.selects RX10 yX10_product yX10_product ∈ gw := gwm 37 (by decide +kernel) (by decide +kernel)
def mX10_unit : MT := (yX10_unit, cX10_unit, 1, (some .boolean))
theorem okX10_unit : Mok mX10_unit 0 := ⟨gwm 1138 (by decide +kernel) (by decide +kernel), gwm 58 (by decide +kernel) (by decide +kernel), by decide +kernel, by decide⟩
theorem inX10_unit : Cond.instanceMethod yX10_unit ∈ gw := gwm 1137 (by decide +kernel) (by decide +kernel)
theorem seX10_unit : Cond.selects RX10 yX10_unit yX10_unit ∈ gw := gwm 38 (by decide +kernel) (by decide +kernel)
def mX10_holds : MT := (yX10_holds, cX10_holds, 2, (some .boolean))
theorem okX10_holds : Mok mX10_holds 0 := ⟨gwm 1154 (by decide +kernel) (by decide +kernel), gwm 58 (by decide +kernel) (by decide +kernel), by decide +kernel, by decide⟩
theorem inX10_holds : Cond.instanceMethod yX10_holds ∈ gw := gwm 1153 (by decide +kernel) (by decide +kernel)
theorem seX10_holds : Cond.selects RX10 yX10_holds yX10_holds ∈ gw := gwm 41 (by decide +kernel) (by decide +kernel)
def mX10_aLine : MT := (yX10_aLine, cX10_aLine, 1, (some .boolean))
theorem okX10_aLine : Mok mX10_aLine 0 := ⟨gwm 1122 (by decide +kernel) (by decide +kernel), gwm 58 (by decide +kernel) (by decide +kernel), by decide +kernel, by decide⟩
theorem inX10_aLine : Cond.instanceMethod yX10_aLine ∈ gw := gwm 1121 (by decide +kernel) (by decide +kernel)
theorem seX10_aLine : Cond.selects RX10 yX10_aLine yX10_aLine ∈ gw := gwm 34 (by decide +kernel) (by decide +kernel)
def mX10_rule : MT := (yX10_rule, cX10_rule, 3, (some .int))
theorem okX10_rule : Mok mX10_rule 0 := ⟨gwm 1090 (by decide +kernel) (by decide +kernel), gwm 58 (by decide +kernel) (by decide +kernel), by decide +kernel, by decide⟩
theorem inX10_rule : Cond.instanceMethod yX10_rule ∈ gw := gwm 1088 (by decide +kernel) (by decide +kernel)
theorem seX10_rule : Cond.selects RX10 yX10_rule yX10_rule ∈ gw := gwm 1089 (by decide +kernel) (by decide +kernel)
def mX10_fault : MT := (yX10_fault, cX10_fault, 2, (some .int))
theorem okX10_fault : Mok mX10_fault 1 := ⟨gwm 1162 (by decide +kernel) (by decide +kernel), gwm 58 (by decide +kernel) (by decide +kernel), by decide +kernel, by decide⟩
theorem inX10_fault : Cond.instanceMethod yX10_fault ∈ gw := gwm 1160 (by decide +kernel) (by decide +kernel)
theorem seX10_fault : Cond.selects RX10 yX10_fault yX10_fault ∈ gw := gwm 1161 (by decide +kernel) (by decide +kernel)
def mX10_isOf : MT := (yX10_isOf, cX10_isOf, 2, (some .boolean))
theorem okX10_isOf : Mok mX10_isOf 2 := ⟨gwm 1177 (by decide +kernel) (by decide +kernel), gwm 58 (by decide +kernel) (by decide +kernel), by decide +kernel, by decide⟩
theorem stX10_isOf : Cond.static yX10_isOf ∈ gw := gwm 1176 (by decide +kernel) (by decide +kernel)
def mX10_takes : MT := (yX10_takes, cX10_takes, 4, none)
theorem okX10_takes : Mok mX10_takes 2 := ⟨gwm 1174 (by decide +kernel) (by decide +kernel), gwm 58 (by decide +kernel) (by decide +kernel), by decide +kernel, by decide⟩
theorem inX10_takes : Cond.instanceMethod yX10_takes ∈ gw := gwm 1173 (by decide +kernel) (by decide +kernel)
theorem seX10_takes : Cond.selects RX10 yX10_takes yX10_takes ∈ gw := gwm 42 (by decide +kernel) (by decide +kernel)
def mX10_worked : MT := (yX10_worked, cX10_worked, 6, (some .int))
theorem okX10_worked : Mok mX10_worked 2 := ⟨gwm 1181 (by decide +kernel) (by decide +kernel), gwm 58 (by decide +kernel) (by decide +kernel), by decide +kernel, by decide⟩
theorem inX10_worked : Cond.instanceMethod yX10_worked ∈ gw := gwm 1180 (by decide +kernel) (by decide +kernel)
theorem seX10_worked : Cond.selects RX10 yX10_worked yX10_worked ∈ gw := gwm 43 (by decide +kernel) (by decide +kernel)
def mX10_both : MT := (yX10_both, cX10_both, 3, (some .int))
theorem okX10_both : Mok mX10_both 3 := ⟨gwm 1184 (by decide +kernel) (by decide +kernel), gwm 58 (by decide +kernel) (by decide +kernel), by decide +kernel, by decide⟩
theorem stX10_both : Cond.static yX10_both ∈ gw := gwm 1183 (by decide +kernel) (by decide +kernel)
def mX10_isMonth : MT := (yX10_isMonth, cX10_isMonth, 1, (some .boolean))
theorem okX10_isMonth : Mok mX10_isMonth 1 := ⟨gwm 1169 (by decide +kernel) (by decide +kernel), gwm 58 (by decide +kernel) (by decide +kernel), by decide +kernel, by decide⟩
theorem stX10_isMonth : Cond.static yX10_isMonth ∈ gw := gwm 1168 (by decide +kernel) (by decide +kernel)
def mX10_pay : MT := (yX10_pay, cX10_pay, 5, (some .int))
theorem okX10_pay : Mok mX10_pay 3 := ⟨gwm 1166 (by decide +kernel) (by decide +kernel), gwm 58 (by decide +kernel) (by decide +kernel), by decide +kernel, by decide⟩
theorem inX10_pay : Cond.instanceMethod yX10_pay ∈ gw := gwm 1164 (by decide +kernel) (by decide +kernel)
theorem seX10_pay : Cond.selects RX10 yX10_pay yX10_pay ∈ gw := gwm 1165 (by decide +kernel) (by decide +kernel)
def mX10_statement : MT := (yX10_statement, cX10_statement, 6, (some .int))
theorem okX10_statement : Mok mX10_statement 3 := ⟨gwm 1188 (by decide +kernel) (by decide +kernel), gwm 58 (by decide +kernel) (by decide +kernel), by decide +kernel, by decide⟩
theorem inX10_statement : Cond.instanceMethod yX10_statement ∈ gw := gwm 1186 (by decide +kernel) (by decide +kernel)
theorem seX10_statement : Cond.selects RX10 yX10_statement yX10_statement ∈ gw := gwm 1187 (by decide +kernel) (by decide +kernel)
def mX10_count : MT := (yX10_count, cX10_count, 4, (some .int))
theorem okX10_count : Mok mX10_count 2 := ⟨gwm 1192 (by decide +kernel) (by decide +kernel), gwm 58 (by decide +kernel) (by decide +kernel), by decide +kernel, by decide⟩
theorem inX10_count : Cond.instanceMethod yX10_count ∈ gw := gwm 1190 (by decide +kernel) (by decide +kernel)
theorem seX10_count : Cond.selects RX10 yX10_count yX10_count ∈ gw := gwm 1191 (by decide +kernel) (by decide +kernel)
def mX10_level : MT := (yX10_level, cX10_level, 4, (some .boolean))
theorem okX10_level : Mok mX10_level 3 := ⟨gwm 1196 (by decide +kernel) (by decide +kernel), gwm 58 (by decide +kernel) (by decide +kernel), by decide +kernel, by decide⟩
theorem inX10_level : Cond.instanceMethod yX10_level ∈ gw := gwm 1194 (by decide +kernel) (by decide +kernel)
theorem seX10_level : Cond.selects RX10 yX10_level yX10_level ∈ gw := gwm 1195 (by decide +kernel) (by decide +kernel)
def mX10_tries : MT := (yX10_tries, cX10_tries, 7, none)
theorem okX10_tries : Mok mX10_tries 2 := ⟨gwm 1204 (by decide +kernel) (by decide +kernel), gwm 58 (by decide +kernel) (by decide +kernel), by decide +kernel, by decide⟩
theorem inX10_tries : Cond.instanceMethod yX10_tries ∈ gw := gwm 1203 (by decide +kernel) (by decide +kernel)
theorem seX10_tries : Cond.selects RX10 yX10_tries yX10_tries ∈ gw := gwm 44 (by decide +kernel) (by decide +kernel)
def mX10_nextRow : MT := (yX10_nextRow, cX10_nextRow, 5, (some .boolean))
theorem okX10_nextRow : Mok mX10_nextRow 1 := ⟨gwm 1208 (by decide +kernel) (by decide +kernel), gwm 58 (by decide +kernel) (by decide +kernel), by decide +kernel, by decide⟩
theorem inX10_nextRow : Cond.instanceMethod yX10_nextRow ∈ gw := gwm 1207 (by decide +kernel) (by decide +kernel)
theorem seX10_nextRow : Cond.selects RX10 yX10_nextRow yX10_nextRow ∈ gw := gwm 45 (by decide +kernel) (by decide +kernel)
def mX10_best : MT := (yX10_best, cX10_best, 6, (some .int))
theorem okX10_best : Mok mX10_best 4 := ⟨gwm 1200 (by decide +kernel) (by decide +kernel), gwm 58 (by decide +kernel) (by decide +kernel), by decide +kernel, by decide⟩
theorem inX10_best : Cond.instanceMethod yX10_best ∈ gw := gwm 1198 (by decide +kernel) (by decide +kernel)
theorem seX10_best : Cond.selects RX10 yX10_best yX10_best ∈ gw := gwm 1199 (by decide +kernel) (by decide +kernel)
theorem lkX10_7 : Cond.fieldLink RX10 7 "GreatStoreModel" "tag" "[I" ∈ gw := gwm 858 (by decide +kernel) (by decide +kernel)
theorem lkX10_13 : Cond.fieldLink RX10 13 "GreatStoreModel" "stock" "[I" ∈ gw := gwm 859 (by decide +kernel) (by decide +kernel)
theorem lkX10_16 : Cond.fieldLink RX10 16 "GreatStoreModel" "raised" "[I" ∈ gw := gwm 860 (by decide +kernel) (by decide +kernel)
theorem lkX10_19 : Cond.fieldLink RX10 19 "GreatStoreModel" "lost" "[I" ∈ gw := gwm 861 (by decide +kernel) (by decide +kernel)
theorem lkX10_22 : Cond.fieldLink RX10 22 "GreatStoreModel" "came" "[I" ∈ gw := gwm 862 (by decide +kernel) (by decide +kernel)
theorem lkX10_25 : Cond.fieldLink RX10 25 "GreatStoreModel" "kind" "[I" ∈ gw := gwm 863 (by decide +kernel) (by decide +kernel)
theorem lkX10_28 : Cond.fieldLink RX10 28 "GreatStoreModel" "clerk" "[I" ∈ gw := gwm 864 (by decide +kernel) (by decide +kernel)
theorem lkX10_31 : Cond.fieldLink RX10 31 "GreatStoreModel" "account" "[I" ∈ gw := gwm 865 (by decide +kernel) (by decide +kernel)
theorem lkX10_34 : Cond.fieldLink RX10 34 "GreatStoreModel" "thingOf" "[I" ∈ gw := gwm 866 (by decide +kernel) (by decide +kernel)
theorem lkX10_37 : Cond.fieldLink RX10 37 "GreatStoreModel" "pieces" "[I" ∈ gw := gwm 867 (by decide +kernel) (by decide +kernel)
theorem lkX10_40 : Cond.fieldLink RX10 40 "GreatStoreModel" "houseOf" "[I" ∈ gw := gwm 868 (by decide +kernel) (by decide +kernel)
theorem lkX10_43 : Cond.fieldLink RX10 43 "GreatStoreModel" "dayOf" "[I" ∈ gw := gwm 869 (by decide +kernel) (by decide +kernel)
theorem lkX10_46 : Cond.fieldLink RX10 46 "GreatStoreModel" "toldOn" "[I" ∈ gw := gwm 870 (by decide +kernel) (by decide +kernel)
theorem lkX10_49 : Cond.fieldLink RX10 49 "GreatStoreModel" "soldOn" "[I" ∈ gw := gwm 871 (by decide +kernel) (by decide +kernel)
theorem lkX10_52 : Cond.fieldLink RX10 52 "GreatStoreModel" "backOn" "[I" ∈ gw := gwm 872 (by decide +kernel) (by decide +kernel)
theorem lkX10_55 : Cond.fieldLink RX10 55 "GreatStoreModel" "round" "[I" ∈ gw := gwm 873 (by decide +kernel) (by decide +kernel)
theorem lkX10_58 : Cond.fieldLink RX10 58 "GreatStoreModel" "worth" "[I" ∈ gw := gwm 874 (by decide +kernel) (by decide +kernel)
theorem lkX10_61 : Cond.fieldLink RX10 61 "GreatStoreModel" "houses" "[I" ∈ gw := gwm 877 (by decide +kernel) (by decide +kernel)
theorem lkX10_64 : Cond.fieldLink RX10 64 "GreatStoreModel" "asked" "[Z" ∈ gw := gwm 878 (by decide +kernel) (by decide +kernel)
theorem lkX10_68 : Cond.fieldLink RX10 68 "GreatStoreModel" "from" "[I" ∈ gw := gwm 882 (by decide +kernel) (by decide +kernel)
theorem lkX10_71 : Cond.fieldLink RX10 71 "GreatStoreModel" "when" "[I" ∈ gw := gwm 883 (by decide +kernel) (by decide +kernel)
theorem lkX10_74 : Cond.fieldLink RX10 74 "GreatStoreModel" "step" "[I" ∈ gw := gwm 884 (by decide +kernel) (by decide +kernel)
theorem lkX10_77 : Cond.fieldLink RX10 77 "GreatStoreModel" "freshFrom" "[I" ∈ gw := gwm 885 (by decide +kernel) (by decide +kernel)
theorem lkX10_80 : Cond.fieldLink RX10 80 "GreatStoreModel" "freshWhen" "[I" ∈ gw := gwm 886 (by decide +kernel) (by decide +kernel)
theorem lkX10_83 : Cond.fieldLink RX10 83 "GreatStoreModel" "fresh" "[I" ∈ gw := gwm 887 (by decide +kernel) (by decide +kernel)
theorem lkX10_86 : Cond.fieldLink RX10 86 "GreatStoreModel" "pile" "[I" ∈ gw := gwm 888 (by decide +kernel) (by decide +kernel)
theorem lkX10_89 : Cond.fieldLink RX10 89 "GreatStoreModel" "tape" "[I" ∈ gw := gwm 889 (by decide +kernel) (by decide +kernel)
theorem lkX10_92 : Cond.fieldLink RX10 92 "GreatStoreModel" "faultPlace" "I" ∈ gw := gwm 899 (by decide +kernel) (by decide +kernel)
theorem lkX10_96 : Cond.fieldLink RX10 96 "GreatStoreModel" "price" "[I" ∈ gw := gwm 904 (by decide +kernel) (by decide +kernel)
theorem lkX10_99 : Cond.fieldLink RX10 99 "GreatStoreModel" "want" "[I" ∈ gw := gwm 905 (by decide +kernel) (by decide +kernel)
theorem lkX10_102 : Cond.fieldLink RX10 102 "GreatStoreModel" "row" "[I" ∈ gw := gwm 906 (by decide +kernel) (by decide +kernel)
theorem lkX10_105 : Cond.fieldLink RX10 105 "GreatStoreModel" "bestRow" "[I" ∈ gw := gwm 907 (by decide +kernel) (by decide +kernel)
theorem lkX10_108 : Cond.fieldLink RX10 108 "GreatStoreModel" "things" "I" ∈ gw := gwm 856 (by decide +kernel) (by decide +kernel)
theorem lkX10_111 : Cond.methodLink RX10 111 yX10_isIn ∈ gw := gwm 1028 (by decide +kernel) (by decide +kernel)
theorem lkX10_115 : Cond.methodLink RX10 115 yX10_isTag ∈ gw := gwm 1025 (by decide +kernel) (by decide +kernel)
theorem lkX10_119 : Cond.fieldLink RX10 119 "GreatStoreModel" "day" "I" ∈ gw := gwm 855 (by decide +kernel) (by decide +kernel)
theorem lkX10_122 : Cond.methodLink RX10 122 yX10_isThing ∈ gw := gwm 1035 (by decide +kernel) (by decide +kernel)
theorem lkX10_125 : Cond.fieldLink RX10 125 "GreatStoreModel" "slips" "I" ∈ gw := gwm 857 (by decide +kernel) (by decide +kernel)
theorem lkX10_128 : Cond.fieldLink RX10 128 "GreatStoreModel" "rounds" "I" ∈ gw := gwm 875 (by decide +kernel) (by decide +kernel)
theorem lkX10_131 : Cond.methodLink RX10 131 yX10_isSlip ∈ gw := gwm 1055 (by decide +kernel) (by decide +kernel)
theorem lkX10_134 : Cond.methodLink RX10 134 yX10_isParcel ∈ gw := gwm 1067 (by decide +kernel) (by decide +kernel)
theorem lkX10_137 : Cond.fieldLink RX10 137 "GreatStoreModel" "lines" "I" ∈ gw := gwm 879 (by decide +kernel) (by decide +kernel)
theorem lkX10_140 : Cond.fieldLink RX10 140 "GreatStoreModel" "housed" "I" ∈ gw := gwm 876 (by decide +kernel) (by decide +kernel)
theorem lkX10_143 : Cond.fieldLink RX10 143 "GreatStoreModel" "taped" "I" ∈ gw := gwm 890 (by decide +kernel) (by decide +kernel)
theorem lkX10_146 : Cond.constantLong RX10 146 (7364985) ∈ gw := gwm 1105 (by decide +kernel) (by decide +kernel)
theorem lkX10_148 : Cond.constantLong RX10 148 (2003330414) ∈ gw := gwm 1106 (by decide +kernel) (by decide +kernel)
theorem lkX10_150 : Cond.constantLong RX10 150 (6385252) ∈ gw := gwm 1107 (by decide +kernel) (by decide +kernel)
theorem lkX10_152 : Cond.constantLong RX10 152 (7566701) ∈ gw := gwm 1108 (by decide +kernel) (by decide +kernel)
theorem lkX10_154 : Cond.constant RX10 154 (1000001) ∈ gw := gwm 1109 (by decide +kernel) (by decide +kernel)
theorem lkX10_155 : Cond.constantLong RX10 155 (495740088435) ∈ gw := gwm 1110 (by decide +kernel) (by decide +kernel)
theorem lkX10_157 : Cond.constant RX10 157 (1000002) ∈ gw := gwm 1111 (by decide +kernel) (by decide +kernel)
theorem lkX10_158 : Cond.constantLong RX10 158 (1650549611) ∈ gw := gwm 1112 (by decide +kernel) (by decide +kernel)
theorem lkX10_160 : Cond.constant RX10 160 (1000003) ∈ gw := gwm 1113 (by decide +kernel) (by decide +kernel)
theorem lkX10_161 : Cond.constantLong RX10 161 (470020945000) ∈ gw := gwm 1114 (by decide +kernel) (by decide +kernel)
theorem lkX10_163 : Cond.constant RX10 163 (1000004) ∈ gw := gwm 1115 (by decide +kernel) (by decide +kernel)
theorem lkX10_164 : Cond.fieldLink RX10 164 "GreatStoreModel" "at" "I" ∈ gw := gwm 891 (by decide +kernel) (by decide +kernel)
theorem lkX10_167 : Cond.methodLink RX10 167 yX10_see ∈ gw := gwm 1095 (by decide +kernel) (by decide +kernel)
theorem lkX10_171 : Cond.fieldLink RX10 171 "GreatStoreModel" "tokenAt" "I" ∈ gw := gwm 893 (by decide +kernel) (by decide +kernel)
theorem lkX10_174 : Cond.fieldLink RX10 174 "GreatStoreModel" "token" "I" ∈ gw := gwm 892 (by decide +kernel) (by decide +kernel)
theorem lkX10_177 : Cond.methodLink RX10 177 yX10_isLetter ∈ gw := gwm 1099 (by decide +kernel) (by decide +kernel)
theorem lkX10_180 : Cond.methodLink RX10 180 yX10_word ∈ gw := gwm 1102 (by decide +kernel) (by decide +kernel)
theorem lkX10_184 : Cond.methodLink RX10 184 yX10_isDigit ∈ gw := gwm 1116 (by decide +kernel) (by decide +kernel)
theorem lkX10_187 : Cond.fieldLink RX10 187 "GreatStoreModel" "value" "I" ∈ gw := gwm 894 (by decide +kernel) (by decide +kernel)
theorem lkX10_190 : Cond.fieldLink RX10 190 "GreatStoreModel" "wrong" "I" ∈ gw := gwm 895 (by decide +kernel) (by decide +kernel)
theorem lkX10_193 : Cond.fieldLink RX10 193 "GreatStoreModel" "wrongAt" "I" ∈ gw := gwm 896 (by decide +kernel) (by decide +kernel)
theorem lkX10_196 : Cond.methodLink RX10 196 yX10_bad ∈ gw := gwm 1123 (by decide +kernel) (by decide +kernel)
theorem lkX10_199 : Cond.methodLink RX10 199 yX10_next0 ∈ gw := gwm 1091 (by decide +kernel) (by decide +kernel)
theorem lkX10_202 : Cond.fieldLink RX10 202 "GreatStoreModel" "freshSteps" "I" ∈ gw := gwm 881 (by decide +kernel) (by decide +kernel)
theorem lkX10_205 : Cond.methodLink RX10 205 yX10_product ∈ gw := gwm 1131 (by decide +kernel) (by decide +kernel)
theorem lkX10_209 : Cond.constant RX10 209 (1000010) ∈ gw := gwm 1149 (by decide +kernel) (by decide +kernel)
theorem lkX10_210 : Cond.constant RX10 210 (1000011) ∈ gw := gwm 1150 (by decide +kernel) (by decide +kernel)
theorem lkX10_211 : Cond.methodLink RX10 211 yX10_lay ∈ gw := gwm 1143 (by decide +kernel) (by decide +kernel)
theorem lkX10_215 : Cond.methodLink RX10 215 yX10_unit ∈ gw := gwm 1135 (by decide +kernel) (by decide +kernel)
theorem lkX10_218 : Cond.constant RX10 218 (1000013) ∈ gw := gwm 1147 (by decide +kernel) (by decide +kernel)
theorem lkX10_219 : Cond.constant RX10 219 (1000012) ∈ gw := gwm 1148 (by decide +kernel) (by decide +kernel)
theorem lkX10_220 : Cond.fieldLink RX10 220 "GreatStoreModel" "depth" "I" ∈ gw := gwm 898 (by decide +kernel) (by decide +kernel)
theorem lkX10_223 : Cond.methodLink RX10 223 yX10_sum ∈ gw := gwm 1127 (by decide +kernel) (by decide +kernel)
theorem lkX10_226 : Cond.methodLink RX10 226 yX10_need ∈ gw := gwm 1139 (by decide +kernel) (by decide +kernel)
theorem lkX10_229 : Cond.constant RX10 229 (1000014) ∈ gw := gwm 1155 (by decide +kernel) (by decide +kernel)
theorem lkX10_230 : Cond.constant RX10 230 (1000015) ∈ gw := gwm 1156 (by decide +kernel) (by decide +kernel)
theorem lkX10_231 : Cond.constant RX10 231 (1000016) ∈ gw := gwm 1157 (by decide +kernel) (by decide +kernel)
theorem lkX10_232 : Cond.fieldLink RX10 232 "GreatStoreModel" "freshLines" "I" ∈ gw := gwm 880 (by decide +kernel) (by decide +kernel)
theorem lkX10_235 : Cond.methodLink RX10 235 yX10_holds ∈ gw := gwm 1151 (by decide +kernel) (by decide +kernel)
theorem lkX10_238 : Cond.constant RX10 238 (1000017) ∈ gw := gwm 1158 (by decide +kernel) (by decide +kernel)
theorem lkX10_239 : Cond.methodLink RX10 239 yX10_aLine ∈ gw := gwm 1119 (by decide +kernel) (by decide +kernel)
theorem lkX10_242 : Cond.fieldLink RX10 242 "GreatStoreModel" "faultKind" "I" ∈ gw := gwm 897 (by decide +kernel) (by decide +kernel)
theorem lkX10_245 : Cond.fieldLink RX10 245 "GreatStoreModel" "tSum" "I" ∈ gw := gwm 900 (by decide +kernel) (by decide +kernel)
theorem lkX10_248 : Cond.fieldLink RX10 248 "GreatStoreModel" "tSlips" "I" ∈ gw := gwm 901 (by decide +kernel) (by decide +kernel)
theorem lkX10_251 : Cond.fieldLink RX10 251 "GreatStoreModel" "tBack" "I" ∈ gw := gwm 902 (by decide +kernel) (by decide +kernel)
theorem lkX10_254 : Cond.fieldLink RX10 254 "GreatStoreModel" "tMonth" "I" ∈ gw := gwm 903 (by decide +kernel) (by decide +kernel)
theorem lkX10_257 : Cond.methodLink RX10 257 yX10_isOf ∈ gw := gwm 1175 (by decide +kernel) (by decide +kernel)
theorem lkX10_261 : Cond.methodLink RX10 261 yX10_both ∈ gw := gwm 1182 (by decide +kernel) (by decide +kernel)
theorem lkX10_265 : Cond.methodLink RX10 265 yX10_isMonth ∈ gw := gwm 1167 (by decide +kernel) (by decide +kernel)
theorem lkX10_268 : Cond.constant RX10 268 (-1000001) ∈ gw := gwm 1170 (by decide +kernel) (by decide +kernel)
theorem lkX10_269 : Cond.methodLink RX10 269 yX10_takes ∈ gw := gwm 1171 (by decide +kernel) (by decide +kernel)
theorem lkX10_273 : Cond.methodLink RX10 273 yX10_worked ∈ gw := gwm 1178 (by decide +kernel) (by decide +kernel)
theorem lkX10_277 : Cond.fieldLink RX10 277 "GreatStoreModel" "bestSum" "I" ∈ gw := gwm 908 (by decide +kernel) (by decide +kernel)
theorem lkX10_280 : Cond.fieldLink RX10 280 "GreatStoreModel" "bestLeft" "I" ∈ gw := gwm 909 (by decide +kernel) (by decide +kernel)
theorem lkX10_283 : Cond.methodLink RX10 283 yX10_tries ∈ gw := gwm 1201 (by decide +kernel) (by decide +kernel)
theorem lkX10_286 : Cond.methodLink RX10 286 yX10_nextRow ∈ gw := gwm 1205 (by decide +kernel) (by decide +kernel)
theorem dX10_isIn_0 : decode cX10_isIn 0 = .ok (.iload_n 0, 1) := by decide +kernel
theorem dX10_isIn_1 : decode cX10_isIn 1 = .ok (.iload_n 1, 1) := by decide +kernel
theorem dX10_isIn_2 : decode cX10_isIn 2 = .ok (.if_icmp .lt 12, 3) := by decide +kernel
theorem dX10_isIn_5 : decode cX10_isIn 5 = .ok (.iload_n 0, 1) := by decide +kernel
theorem dX10_isIn_6 : decode cX10_isIn 6 = .ok (.iload_n 2, 1) := by decide +kernel
theorem dX10_isIn_7 : decode cX10_isIn 7 = .ok (.if_icmp .gt 7, 3) := by decide +kernel
theorem dX10_isIn_10 : decode cX10_isIn 10 = .ok (.iconst 1, 1) := by decide +kernel
theorem dX10_isIn_11 : decode cX10_isIn 11 = .ok (.goto 4, 3) := by decide +kernel
theorem dX10_isIn_14 : decode cX10_isIn 14 = .ok (.iconst 0, 1) := by decide +kernel
theorem dX10_isIn_15 : decode cX10_isIn 15 = .ok (.ireturn, 1) := by decide +kernel
theorem dX10_isThing_0 : decode cX10_isThing 0 = .ok (.iload_n 1, 1) := by decide +kernel
theorem dX10_isThing_1 : decode cX10_isThing 1 = .ok (.iconst 0, 1) := by decide +kernel
theorem dX10_isThing_2 : decode cX10_isThing 2 = .ok (.aload_n 0, 1) := by decide +kernel
theorem dX10_isThing_3 : decode cX10_isThing 3 = .ok (.getfield 108, 3) := by decide +kernel
theorem dX10_isThing_6 : decode cX10_isThing 6 = .ok (.iconst 1, 1) := by decide +kernel
theorem dX10_isThing_7 : decode cX10_isThing 7 = .ok (.isub, 1) := by decide +kernel
theorem dX10_isThing_8 : decode cX10_isThing 8 = .ok (.invokestatic 111, 3) := by decide +kernel
theorem dX10_isThing_11 : decode cX10_isThing 11 = .ok (.ireturn, 1) := by decide +kernel
theorem dX10_isTag_0 : decode cX10_isTag 0 = .ok (.iload_n 0, 1) := by decide +kernel
theorem dX10_isTag_1 : decode cX10_isTag 1 = .ok (.iconst 1, 1) := by decide +kernel
theorem dX10_isTag_2 : decode cX10_isTag 2 = .ok (.sipush 9999, 3) := by decide +kernel
theorem dX10_isTag_5 : decode cX10_isTag 5 = .ok (.invokestatic 111, 3) := by decide +kernel
theorem dX10_isTag_8 : decode cX10_isTag 8 = .ok (.ireturn, 1) := by decide +kernel
theorem dX10_thing_0 : decode cX10_thing 0 = .ok (.iload_n 1, 1) := by decide +kernel
theorem dX10_thing_1 : decode cX10_thing 1 = .ok (.invokestatic 115, 3) := by decide +kernel
theorem dX10_thing_4 : decode cX10_thing 4 = .ok (.ifCond .eq 23, 3) := by decide +kernel
theorem dX10_thing_7 : decode cX10_thing 7 = .ok (.iload_n 2, 1) := by decide +kernel
theorem dX10_thing_8 : decode cX10_thing 8 = .ok (.iconst 0, 1) := by decide +kernel
theorem dX10_thing_9 : decode cX10_thing 9 = .ok (.sipush 999, 3) := by decide +kernel
theorem dX10_thing_12 : decode cX10_thing 12 = .ok (.invokestatic 111, 3) := by decide +kernel
theorem dX10_thing_15 : decode cX10_thing 15 = .ok (.ifCond .eq 12, 3) := by decide +kernel
theorem dX10_thing_18 : decode cX10_thing 18 = .ok (.aload_n 0, 1) := by decide +kernel
theorem dX10_thing_19 : decode cX10_thing 19 = .ok (.getfield 108, 3) := by decide +kernel
theorem dX10_thing_22 : decode cX10_thing 22 = .ok (.bipush 12, 2) := by decide +kernel
theorem dX10_thing_24 : decode cX10_thing 24 = .ok (.if_icmp .ne 5, 3) := by decide +kernel
theorem dX10_thing_27 : decode cX10_thing 27 = .ok (.iconst (-1), 1) := by decide +kernel
theorem dX10_thing_28 : decode cX10_thing 28 = .ok (.ireturn, 1) := by decide +kernel
theorem dX10_thing_29 : decode cX10_thing 29 = .ok (.aload_n 0, 1) := by decide +kernel
theorem dX10_thing_30 : decode cX10_thing 30 = .ok (.getfield 108, 3) := by decide +kernel
theorem dX10_thing_33 : decode cX10_thing 33 = .ok (.istore_n 3, 1) := by decide +kernel
theorem dX10_thing_34 : decode cX10_thing 34 = .ok (.aload_n 0, 1) := by decide +kernel
theorem dX10_thing_35 : decode cX10_thing 35 = .ok (.dup, 1) := by decide +kernel
theorem dX10_thing_36 : decode cX10_thing 36 = .ok (.getfield 108, 3) := by decide +kernel
theorem dX10_thing_39 : decode cX10_thing 39 = .ok (.iconst 1, 1) := by decide +kernel
theorem dX10_thing_40 : decode cX10_thing 40 = .ok (.iadd, 1) := by decide +kernel
theorem dX10_thing_41 : decode cX10_thing 41 = .ok (.putfield 108, 3) := by decide +kernel
theorem dX10_thing_44 : decode cX10_thing 44 = .ok (.aload_n 0, 1) := by decide +kernel
theorem dX10_thing_45 : decode cX10_thing 45 = .ok (.getfield 7, 3) := by decide +kernel
theorem dX10_thing_48 : decode cX10_thing 48 = .ok (.sipush 364, 3) := by decide +kernel
theorem dX10_thing_51 : decode cX10_thing 51 = .ok (.iload_n 3, 1) := by decide +kernel
theorem dX10_thing_52 : decode cX10_thing 52 = .ok (.imul, 1) := by decide +kernel
theorem dX10_thing_53 : decode cX10_thing 53 = .ok (.aload_n 0, 1) := by decide +kernel
theorem dX10_thing_54 : decode cX10_thing 54 = .ok (.getfield 119, 3) := by decide +kernel
theorem dX10_thing_57 : decode cX10_thing 57 = .ok (.iadd, 1) := by decide +kernel
theorem dX10_thing_58 : decode cX10_thing 58 = .ok (.iload_n 1, 1) := by decide +kernel
theorem dX10_thing_59 : decode cX10_thing 59 = .ok (.iastore, 1) := by decide +kernel
theorem dX10_thing_60 : decode cX10_thing 60 = .ok (.aload_n 0, 1) := by decide +kernel
theorem dX10_thing_61 : decode cX10_thing 61 = .ok (.getfield 13, 3) := by decide +kernel
theorem dX10_thing_64 : decode cX10_thing 64 = .ok (.iload_n 3, 1) := by decide +kernel
theorem dX10_thing_65 : decode cX10_thing 65 = .ok (.iload_n 2, 1) := by decide +kernel
theorem dX10_thing_66 : decode cX10_thing 66 = .ok (.iastore, 1) := by decide +kernel
theorem dX10_thing_67 : decode cX10_thing 67 = .ok (.aload_n 0, 1) := by decide +kernel
theorem dX10_thing_68 : decode cX10_thing 68 = .ok (.getfield 22, 3) := by decide +kernel
theorem dX10_thing_71 : decode cX10_thing 71 = .ok (.iload_n 3, 1) := by decide +kernel
theorem dX10_thing_72 : decode cX10_thing 72 = .ok (.aload_n 0, 1) := by decide +kernel
theorem dX10_thing_73 : decode cX10_thing 73 = .ok (.getfield 119, 3) := by decide +kernel
theorem dX10_thing_76 : decode cX10_thing 76 = .ok (.iastore, 1) := by decide +kernel
theorem dX10_thing_77 : decode cX10_thing 77 = .ok (.iload_n 3, 1) := by decide +kernel
theorem dX10_thing_78 : decode cX10_thing 78 = .ok (.ireturn, 1) := by decide +kernel
theorem dX10_tag_0 : decode cX10_tag 0 = .ok (.aload_n 0, 1) := by decide +kernel
theorem dX10_tag_1 : decode cX10_tag 1 = .ok (.iload_n 1, 1) := by decide +kernel
theorem dX10_tag_2 : decode cX10_tag 2 = .ok (.invokevirtual 122, 3) := by decide +kernel
theorem dX10_tag_5 : decode cX10_tag 5 = .ok (.ifCond .eq 10, 3) := by decide +kernel
theorem dX10_tag_8 : decode cX10_tag 8 = .ok (.iload_n 2, 1) := by decide +kernel
theorem dX10_tag_9 : decode cX10_tag 9 = .ok (.invokestatic 115, 3) := by decide +kernel
theorem dX10_tag_12 : decode cX10_tag 12 = .ok (.ifCond .ne 5, 3) := by decide +kernel
theorem dX10_tag_15 : decode cX10_tag 15 = .ok (.iconst (-1), 1) := by decide +kernel
theorem dX10_tag_16 : decode cX10_tag 16 = .ok (.ireturn, 1) := by decide +kernel
theorem dX10_tag_17 : decode cX10_tag 17 = .ok (.aload_n 0, 1) := by decide +kernel
theorem dX10_tag_18 : decode cX10_tag 18 = .ok (.getfield 7, 3) := by decide +kernel
theorem dX10_tag_21 : decode cX10_tag 21 = .ok (.sipush 364, 3) := by decide +kernel
theorem dX10_tag_24 : decode cX10_tag 24 = .ok (.iload_n 1, 1) := by decide +kernel
theorem dX10_tag_25 : decode cX10_tag 25 = .ok (.imul, 1) := by decide +kernel
theorem dX10_tag_26 : decode cX10_tag 26 = .ok (.aload_n 0, 1) := by decide +kernel
theorem dX10_tag_27 : decode cX10_tag 27 = .ok (.getfield 119, 3) := by decide +kernel
theorem dX10_tag_30 : decode cX10_tag 30 = .ok (.iadd, 1) := by decide +kernel
theorem dX10_tag_31 : decode cX10_tag 31 = .ok (.iaload, 1) := by decide +kernel
theorem dX10_tag_32 : decode cX10_tag 32 = .ok (.istore_n 3, 1) := by decide +kernel
theorem dX10_tag_33 : decode cX10_tag 33 = .ok (.aload_n 0, 1) := by decide +kernel
theorem dX10_tag_34 : decode cX10_tag 34 = .ok (.getfield 7, 3) := by decide +kernel
theorem dX10_tag_37 : decode cX10_tag 37 = .ok (.sipush 364, 3) := by decide +kernel
theorem dX10_tag_40 : decode cX10_tag 40 = .ok (.iload_n 1, 1) := by decide +kernel
theorem dX10_tag_41 : decode cX10_tag 41 = .ok (.imul, 1) := by decide +kernel
theorem dX10_tag_42 : decode cX10_tag 42 = .ok (.aload_n 0, 1) := by decide +kernel
theorem dX10_tag_43 : decode cX10_tag 43 = .ok (.getfield 119, 3) := by decide +kernel
theorem dX10_tag_46 : decode cX10_tag 46 = .ok (.iadd, 1) := by decide +kernel
theorem dX10_tag_47 : decode cX10_tag 47 = .ok (.iload_n 2, 1) := by decide +kernel
theorem dX10_tag_48 : decode cX10_tag 48 = .ok (.iastore, 1) := by decide +kernel
theorem dX10_tag_49 : decode cX10_tag 49 = .ok (.iload_n 2, 1) := by decide +kernel
theorem dX10_tag_50 : decode cX10_tag 50 = .ok (.iload_n 3, 1) := by decide +kernel
theorem dX10_tag_51 : decode cX10_tag 51 = .ok (.if_icmp .le 13, 3) := by decide +kernel
theorem dX10_tag_54 : decode cX10_tag 54 = .ok (.aload_n 0, 1) := by decide +kernel
theorem dX10_tag_55 : decode cX10_tag 55 = .ok (.getfield 16, 3) := by decide +kernel
theorem dX10_tag_58 : decode cX10_tag 58 = .ok (.iload_n 1, 1) := by decide +kernel
theorem dX10_tag_59 : decode cX10_tag 59 = .ok (.dup2, 1) := by decide +kernel
theorem dX10_tag_60 : decode cX10_tag 60 = .ok (.iaload, 1) := by decide +kernel
theorem dX10_tag_61 : decode cX10_tag 61 = .ok (.iconst 1, 1) := by decide +kernel
theorem dX10_tag_62 : decode cX10_tag 62 = .ok (.iadd, 1) := by decide +kernel
theorem dX10_tag_63 : decode cX10_tag 63 = .ok (.iastore, 1) := by decide +kernel
theorem dX10_tag_64 : decode cX10_tag 64 = .ok (.iload_n 2, 1) := by decide +kernel
theorem dX10_tag_65 : decode cX10_tag 65 = .ok (.iload_n 3, 1) := by decide +kernel
theorem dX10_tag_66 : decode cX10_tag 66 = .ok (.if_icmp .ge 7, 3) := by decide +kernel
theorem dX10_tag_69 : decode cX10_tag 69 = .ok (.iconst 1, 1) := by decide +kernel
theorem dX10_tag_70 : decode cX10_tag 70 = .ok (.goto 13, 3) := by decide +kernel
theorem dX10_tag_73 : decode cX10_tag 73 = .ok (.iload_n 2, 1) := by decide +kernel
theorem dX10_tag_74 : decode cX10_tag 74 = .ok (.iload_n 3, 1) := by decide +kernel
theorem dX10_tag_75 : decode cX10_tag 75 = .ok (.if_icmp .le 7, 3) := by decide +kernel
theorem dX10_tag_78 : decode cX10_tag 78 = .ok (.iconst 2, 1) := by decide +kernel
theorem dX10_tag_79 : decode cX10_tag 79 = .ok (.goto 4, 3) := by decide +kernel
theorem dX10_tag_82 : decode cX10_tag 82 = .ok (.iconst 0, 1) := by decide +kernel
theorem dX10_tag_83 : decode cX10_tag 83 = .ok (.ireturn, 1) := by decide +kernel
theorem dX10_of_0 : decode cX10_of 0 = .ok (.aload_n 0, 1) := by decide +kernel
theorem dX10_of_1 : decode cX10_of 1 = .ok (.iload_n 1, 1) := by decide +kernel
theorem dX10_of_2 : decode cX10_of 2 = .ok (.invokevirtual 122, 3) := by decide +kernel
theorem dX10_of_5 : decode cX10_of 5 = .ok (.ifCond .ne 5, 3) := by decide +kernel
theorem dX10_of_8 : decode cX10_of 8 = .ok (.iconst (-1), 1) := by decide +kernel
theorem dX10_of_9 : decode cX10_of 9 = .ok (.ireturn, 1) := by decide +kernel
theorem dX10_of_10 : decode cX10_of 10 = .ok (.iload_n 2, 1) := by decide +kernel
theorem dX10_of_11 : decode cX10_of 11 = .ok (.tableswitch 66 0 3 #[29, 45, 52, 59], 29) := by decide +kernel
theorem dX10_of_40 : decode cX10_of 40 = .ok (.aload_n 0, 1) := by decide +kernel
theorem dX10_of_41 : decode cX10_of 41 = .ok (.getfield 7, 3) := by decide +kernel
theorem dX10_of_44 : decode cX10_of 44 = .ok (.sipush 364, 3) := by decide +kernel
theorem dX10_of_47 : decode cX10_of 47 = .ok (.iload_n 1, 1) := by decide +kernel
theorem dX10_of_48 : decode cX10_of 48 = .ok (.imul, 1) := by decide +kernel
theorem dX10_of_49 : decode cX10_of 49 = .ok (.aload_n 0, 1) := by decide +kernel
theorem dX10_of_50 : decode cX10_of 50 = .ok (.getfield 119, 3) := by decide +kernel
theorem dX10_of_53 : decode cX10_of 53 = .ok (.iadd, 1) := by decide +kernel
theorem dX10_of_54 : decode cX10_of 54 = .ok (.iaload, 1) := by decide +kernel
theorem dX10_of_55 : decode cX10_of 55 = .ok (.ireturn, 1) := by decide +kernel
theorem dX10_of_56 : decode cX10_of 56 = .ok (.aload_n 0, 1) := by decide +kernel
theorem dX10_of_57 : decode cX10_of 57 = .ok (.getfield 13, 3) := by decide +kernel
theorem dX10_of_60 : decode cX10_of 60 = .ok (.iload_n 1, 1) := by decide +kernel
theorem dX10_of_61 : decode cX10_of 61 = .ok (.iaload, 1) := by decide +kernel
theorem dX10_of_62 : decode cX10_of 62 = .ok (.ireturn, 1) := by decide +kernel
theorem dX10_of_63 : decode cX10_of 63 = .ok (.aload_n 0, 1) := by decide +kernel
theorem dX10_of_64 : decode cX10_of 64 = .ok (.getfield 16, 3) := by decide +kernel
theorem dX10_of_67 : decode cX10_of 67 = .ok (.iload_n 1, 1) := by decide +kernel
theorem dX10_of_68 : decode cX10_of 68 = .ok (.iaload, 1) := by decide +kernel
theorem dX10_of_69 : decode cX10_of 69 = .ok (.ireturn, 1) := by decide +kernel
theorem dX10_of_70 : decode cX10_of 70 = .ok (.aload_n 0, 1) := by decide +kernel
theorem dX10_of_71 : decode cX10_of 71 = .ok (.getfield 19, 3) := by decide +kernel
theorem dX10_of_74 : decode cX10_of 74 = .ok (.iload_n 1, 1) := by decide +kernel
theorem dX10_of_75 : decode cX10_of 75 = .ok (.iaload, 1) := by decide +kernel
theorem dX10_of_76 : decode cX10_of 76 = .ok (.ireturn, 1) := by decide +kernel
theorem dX10_of_77 : decode cX10_of 77 = .ok (.iload_n 2, 1) := by decide +kernel
theorem dX10_of_78 : decode cX10_of 78 = .ok (.sipush 1000, 3) := by decide +kernel
theorem dX10_of_81 : decode cX10_of 81 = .ok (.sipush 1000, 3) := by decide +kernel
theorem dX10_of_84 : decode cX10_of 84 = .ok (.aload_n 0, 1) := by decide +kernel
theorem dX10_of_85 : decode cX10_of 85 = .ok (.getfield 119, 3) := by decide +kernel
theorem dX10_of_88 : decode cX10_of 88 = .ok (.iadd, 1) := by decide +kernel
theorem dX10_of_89 : decode cX10_of 89 = .ok (.invokestatic 111, 3) := by decide +kernel
theorem dX10_of_92 : decode cX10_of 92 = .ok (.ifCond .eq 22, 3) := by decide +kernel
theorem dX10_of_95 : decode cX10_of 95 = .ok (.aload_n 0, 1) := by decide +kernel
theorem dX10_of_96 : decode cX10_of 96 = .ok (.getfield 7, 3) := by decide +kernel
theorem dX10_of_99 : decode cX10_of 99 = .ok (.sipush 364, 3) := by decide +kernel
theorem dX10_of_102 : decode cX10_of 102 = .ok (.iload_n 1, 1) := by decide +kernel
theorem dX10_of_103 : decode cX10_of 103 = .ok (.imul, 1) := by decide +kernel
theorem dX10_of_104 : decode cX10_of 104 = .ok (.iload_n 2, 1) := by decide +kernel
theorem dX10_of_105 : decode cX10_of 105 = .ok (.iadd, 1) := by decide +kernel
theorem dX10_of_106 : decode cX10_of 106 = .ok (.sipush 1000, 3) := by decide +kernel
theorem dX10_of_109 : decode cX10_of 109 = .ok (.isub, 1) := by decide +kernel
theorem dX10_of_110 : decode cX10_of 110 = .ok (.iaload, 1) := by decide +kernel
theorem dX10_of_111 : decode cX10_of 111 = .ok (.goto 4, 3) := by decide +kernel
theorem dX10_of_114 : decode cX10_of 114 = .ok (.iconst (-1), 1) := by decide +kernel
theorem dX10_of_115 : decode cX10_of 115 = .ok (.ireturn, 1) := by decide +kernel
theorem dX10_next_0 : decode cX10_next 0 = .ok (.aload_n 0, 1) := by decide +kernel
theorem dX10_next_1 : decode cX10_next 1 = .ok (.getfield 119, 3) := by decide +kernel
theorem dX10_next_4 : decode cX10_next 4 = .ok (.sipush 363, 3) := by decide +kernel
theorem dX10_next_7 : decode cX10_next 7 = .ok (.if_icmp .ne 5, 3) := by decide +kernel
theorem dX10_next_10 : decode cX10_next 10 = .ok (.iconst (-1), 1) := by decide +kernel
theorem dX10_next_11 : decode cX10_next 11 = .ok (.ireturn, 1) := by decide +kernel
theorem dX10_next_12 : decode cX10_next 12 = .ok (.aload_n 0, 1) := by decide +kernel
theorem dX10_next_13 : decode cX10_next 13 = .ok (.dup, 1) := by decide +kernel
theorem dX10_next_14 : decode cX10_next 14 = .ok (.getfield 119, 3) := by decide +kernel
theorem dX10_next_17 : decode cX10_next 17 = .ok (.iconst 1, 1) := by decide +kernel
theorem dX10_next_18 : decode cX10_next 18 = .ok (.iadd, 1) := by decide +kernel
theorem dX10_next_19 : decode cX10_next 19 = .ok (.putfield 119, 3) := by decide +kernel
theorem dX10_next_22 : decode cX10_next 22 = .ok (.iconst 0, 1) := by decide +kernel
theorem dX10_next_23 : decode cX10_next 23 = .ok (.istore_n 1, 1) := by decide +kernel
theorem dX10_next_24 : decode cX10_next 24 = .ok (.iload_n 1, 1) := by decide +kernel
theorem dX10_next_25 : decode cX10_next 25 = .ok (.aload_n 0, 1) := by decide +kernel
theorem dX10_next_26 : decode cX10_next 26 = .ok (.getfield 108, 3) := by decide +kernel
theorem dX10_next_29 : decode cX10_next 29 = .ok (.if_icmp .ge 41, 3) := by decide +kernel
theorem dX10_next_32 : decode cX10_next 32 = .ok (.aload_n 0, 1) := by decide +kernel
theorem dX10_next_33 : decode cX10_next 33 = .ok (.getfield 7, 3) := by decide +kernel
theorem dX10_next_36 : decode cX10_next 36 = .ok (.sipush 364, 3) := by decide +kernel
theorem dX10_next_39 : decode cX10_next 39 = .ok (.iload_n 1, 1) := by decide +kernel
theorem dX10_next_40 : decode cX10_next 40 = .ok (.imul, 1) := by decide +kernel
theorem dX10_next_41 : decode cX10_next 41 = .ok (.aload_n 0, 1) := by decide +kernel
theorem dX10_next_42 : decode cX10_next 42 = .ok (.getfield 119, 3) := by decide +kernel
theorem dX10_next_45 : decode cX10_next 45 = .ok (.iadd, 1) := by decide +kernel
theorem dX10_next_46 : decode cX10_next 46 = .ok (.aload_n 0, 1) := by decide +kernel
theorem dX10_next_47 : decode cX10_next 47 = .ok (.getfield 7, 3) := by decide +kernel
theorem dX10_next_50 : decode cX10_next 50 = .ok (.sipush 364, 3) := by decide +kernel
theorem dX10_next_53 : decode cX10_next 53 = .ok (.iload_n 1, 1) := by decide +kernel
theorem dX10_next_54 : decode cX10_next 54 = .ok (.imul, 1) := by decide +kernel
theorem dX10_next_55 : decode cX10_next 55 = .ok (.aload_n 0, 1) := by decide +kernel
theorem dX10_next_56 : decode cX10_next 56 = .ok (.getfield 119, 3) := by decide +kernel
theorem dX10_next_59 : decode cX10_next 59 = .ok (.iadd, 1) := by decide +kernel
theorem dX10_next_60 : decode cX10_next 60 = .ok (.iconst 1, 1) := by decide +kernel
theorem dX10_next_61 : decode cX10_next 61 = .ok (.isub, 1) := by decide +kernel
theorem dX10_next_62 : decode cX10_next 62 = .ok (.iaload, 1) := by decide +kernel
theorem dX10_next_63 : decode cX10_next 63 = .ok (.iastore, 1) := by decide +kernel
theorem dX10_next_64 : decode cX10_next 64 = .ok (.iinc 1 1, 3) := by decide +kernel
theorem dX10_next_67 : decode cX10_next 67 = .ok (.goto (-43), 3) := by decide +kernel
theorem dX10_next_70 : decode cX10_next 70 = .ok (.iconst 0, 1) := by decide +kernel
theorem dX10_next_71 : decode cX10_next 71 = .ok (.istore_n 1, 1) := by decide +kernel
theorem dX10_next_72 : decode cX10_next 72 = .ok (.iload_n 1, 1) := by decide +kernel
theorem dX10_next_73 : decode cX10_next 73 = .ok (.aload_n 0, 1) := by decide +kernel
theorem dX10_next_74 : decode cX10_next 74 = .ok (.getfield 125, 3) := by decide +kernel
theorem dX10_next_77 : decode cX10_next 77 = .ok (.if_icmp .ge 65, 3) := by decide +kernel
theorem dX10_next_80 : decode cX10_next 80 = .ok (.aload_n 0, 1) := by decide +kernel
theorem dX10_next_81 : decode cX10_next 81 = .ok (.getfield 25, 3) := by decide +kernel
theorem dX10_next_84 : decode cX10_next 84 = .ok (.iload_n 1, 1) := by decide +kernel
theorem dX10_next_85 : decode cX10_next 85 = .ok (.iaload, 1) := by decide +kernel
theorem dX10_next_86 : decode cX10_next 86 = .ok (.iconst 2, 1) := by decide +kernel
theorem dX10_next_87 : decode cX10_next 87 = .ok (.if_icmp .ne 49, 3) := by decide +kernel
theorem dX10_next_90 : decode cX10_next 90 = .ok (.aload_n 0, 1) := by decide +kernel
theorem dX10_next_91 : decode cX10_next 91 = .ok (.getfield 49, 3) := by decide +kernel
theorem dX10_next_94 : decode cX10_next 94 = .ok (.iload_n 1, 1) := by decide +kernel
theorem dX10_next_95 : decode cX10_next 95 = .ok (.iaload, 1) := by decide +kernel
theorem dX10_next_96 : decode cX10_next 96 = .ok (.iconst (-1), 1) := by decide +kernel
theorem dX10_next_97 : decode cX10_next 97 = .ok (.if_icmp .ne 39, 3) := by decide +kernel
theorem dX10_next_100 : decode cX10_next 100 = .ok (.aload_n 0, 1) := by decide +kernel
theorem dX10_next_101 : decode cX10_next 101 = .ok (.getfield 52, 3) := by decide +kernel
theorem dX10_next_104 : decode cX10_next 104 = .ok (.iload_n 1, 1) := by decide +kernel
theorem dX10_next_105 : decode cX10_next 105 = .ok (.iaload, 1) := by decide +kernel
theorem dX10_next_106 : decode cX10_next 106 = .ok (.iconst (-1), 1) := by decide +kernel
theorem dX10_next_107 : decode cX10_next 107 = .ok (.if_icmp .ne 29, 3) := by decide +kernel
theorem dX10_next_110 : decode cX10_next 110 = .ok (.aload_n 0, 1) := by decide +kernel
theorem dX10_next_111 : decode cX10_next 111 = .ok (.getfield 43, 3) := by decide +kernel
theorem dX10_next_114 : decode cX10_next 114 = .ok (.iload_n 1, 1) := by decide +kernel
theorem dX10_next_115 : decode cX10_next 115 = .ok (.iaload, 1) := by decide +kernel
theorem dX10_next_116 : decode cX10_next 116 = .ok (.bipush 7, 2) := by decide +kernel
theorem dX10_next_118 : decode cX10_next 118 = .ok (.iadd, 1) := by decide +kernel
theorem dX10_next_119 : decode cX10_next 119 = .ok (.aload_n 0, 1) := by decide +kernel
theorem dX10_next_120 : decode cX10_next 120 = .ok (.getfield 119, 3) := by decide +kernel
theorem dX10_next_123 : decode cX10_next 123 = .ok (.if_icmp .ne 13, 3) := by decide +kernel
theorem dX10_next_126 : decode cX10_next 126 = .ok (.aload_n 0, 1) := by decide +kernel
theorem dX10_next_127 : decode cX10_next 127 = .ok (.getfield 49, 3) := by decide +kernel
theorem dX10_next_130 : decode cX10_next 130 = .ok (.iload_n 1, 1) := by decide +kernel
theorem dX10_next_131 : decode cX10_next 131 = .ok (.aload_n 0, 1) := by decide +kernel
theorem dX10_next_132 : decode cX10_next 132 = .ok (.getfield 119, 3) := by decide +kernel
theorem dX10_next_135 : decode cX10_next 135 = .ok (.iastore, 1) := by decide +kernel
theorem dX10_next_136 : decode cX10_next 136 = .ok (.iinc 1 1, 3) := by decide +kernel
theorem dX10_next_139 : decode cX10_next 139 = .ok (.goto (-67), 3) := by decide +kernel
theorem dX10_next_142 : decode cX10_next 142 = .ok (.aload_n 0, 1) := by decide +kernel
theorem dX10_next_143 : decode cX10_next 143 = .ok (.iconst 0, 1) := by decide +kernel
theorem dX10_next_144 : decode cX10_next 144 = .ok (.putfield 128, 3) := by decide +kernel
theorem dX10_next_147 : decode cX10_next 147 = .ok (.aload_n 0, 1) := by decide +kernel
theorem dX10_next_148 : decode cX10_next 148 = .ok (.getfield 119, 3) := by decide +kernel
theorem dX10_next_151 : decode cX10_next 151 = .ok (.ireturn, 1) := by decide +kernel
theorem dX10_slip_0 : decode cX10_slip 0 = .ok (.iload_n 1, 1) := by decide +kernel
theorem dX10_slip_1 : decode cX10_slip 1 = .ok (.iconst 0, 1) := by decide +kernel
theorem dX10_slip_2 : decode cX10_slip 2 = .ok (.iconst 2, 1) := by decide +kernel
theorem dX10_slip_3 : decode cX10_slip 3 = .ok (.invokestatic 111, 3) := by decide +kernel
theorem dX10_slip_6 : decode cX10_slip 6 = .ok (.ifCond .eq 53, 3) := by decide +kernel
theorem dX10_slip_9 : decode cX10_slip 9 = .ok (.iload_n 2, 1) := by decide +kernel
theorem dX10_slip_10 : decode cX10_slip 10 = .ok (.iconst 0, 1) := by decide +kernel
theorem dX10_slip_11 : decode cX10_slip 11 = .ok (.bipush 7, 2) := by decide +kernel
theorem dX10_slip_13 : decode cX10_slip 13 = .ok (.invokestatic 111, 3) := by decide +kernel
theorem dX10_slip_16 : decode cX10_slip 16 = .ok (.ifCond .eq 43, 3) := by decide +kernel
theorem dX10_slip_19 : decode cX10_slip 19 = .ok (.aload_n 0, 1) := by decide +kernel
theorem dX10_slip_20 : decode cX10_slip 20 = .ok (.iload 4, 2) := by decide +kernel
theorem dX10_slip_22 : decode cX10_slip 22 = .ok (.invokevirtual 122, 3) := by decide +kernel
theorem dX10_slip_25 : decode cX10_slip 25 = .ok (.ifCond .eq 34, 3) := by decide +kernel
theorem dX10_slip_28 : decode cX10_slip 28 = .ok (.iload 5, 2) := by decide +kernel
theorem dX10_slip_30 : decode cX10_slip 30 = .ok (.iconst 1, 1) := by decide +kernel
theorem dX10_slip_31 : decode cX10_slip 31 = .ok (.bipush 99, 2) := by decide +kernel
theorem dX10_slip_33 : decode cX10_slip 33 = .ok (.invokestatic 111, 3) := by decide +kernel
theorem dX10_slip_36 : decode cX10_slip 36 = .ok (.ifCond .eq 23, 3) := by decide +kernel
theorem dX10_slip_39 : decode cX10_slip 39 = .ok (.iload 6, 2) := by decide +kernel
theorem dX10_slip_41 : decode cX10_slip 41 = .ok (.iconst (-1), 1) := by decide +kernel
theorem dX10_slip_42 : decode cX10_slip 42 = .ok (.bipush 19, 2) := by decide +kernel
theorem dX10_slip_44 : decode cX10_slip 44 = .ok (.invokestatic 111, 3) := by decide +kernel
theorem dX10_slip_47 : decode cX10_slip 47 = .ok (.ifCond .eq 12, 3) := by decide +kernel
theorem dX10_slip_50 : decode cX10_slip 50 = .ok (.aload_n 0, 1) := by decide +kernel
theorem dX10_slip_51 : decode cX10_slip 51 = .ok (.getfield 125, 3) := by decide +kernel
theorem dX10_slip_54 : decode cX10_slip 54 = .ok (.bipush 120, 2) := by decide +kernel
theorem dX10_slip_56 : decode cX10_slip 56 = .ok (.if_icmp .ne 5, 3) := by decide +kernel
theorem dX10_slip_59 : decode cX10_slip 59 = .ok (.iconst (-1), 1) := by decide +kernel
theorem dX10_slip_60 : decode cX10_slip 60 = .ok (.ireturn, 1) := by decide +kernel
theorem dX10_slip_61 : decode cX10_slip 61 = .ok (.iload_n 1, 1) := by decide +kernel
theorem dX10_slip_62 : decode cX10_slip 62 = .ok (.ifCond .ne 11, 3) := by decide +kernel
theorem dX10_slip_65 : decode cX10_slip 65 = .ok (.iload_n 3, 1) := by decide +kernel
theorem dX10_slip_66 : decode cX10_slip 66 = .ok (.iconst (-1), 1) := by decide +kernel
theorem dX10_slip_67 : decode cX10_slip 67 = .ok (.if_icmp .eq 18, 3) := by decide +kernel
theorem dX10_slip_70 : decode cX10_slip 70 = .ok (.goto 13, 3) := by decide +kernel
theorem dX10_slip_73 : decode cX10_slip 73 = .ok (.iload_n 3, 1) := by decide +kernel
theorem dX10_slip_74 : decode cX10_slip 74 = .ok (.iconst 0, 1) := by decide +kernel
theorem dX10_slip_75 : decode cX10_slip 75 = .ok (.bipush 9, 2) := by decide +kernel
theorem dX10_slip_77 : decode cX10_slip 77 = .ok (.invokestatic 111, 3) := by decide +kernel
theorem dX10_slip_80 : decode cX10_slip 80 = .ok (.ifCond .ne 5, 3) := by decide +kernel
theorem dX10_slip_83 : decode cX10_slip 83 = .ok (.iconst (-1), 1) := by decide +kernel
theorem dX10_slip_84 : decode cX10_slip 84 = .ok (.ireturn, 1) := by decide +kernel
theorem dX10_slip_85 : decode cX10_slip 85 = .ok (.iload 7, 2) := by decide +kernel
theorem dX10_slip_87 : decode cX10_slip 87 = .ok (.aload_n 0, 1) := by decide +kernel
theorem dX10_slip_88 : decode cX10_slip 88 = .ok (.getfield 119, 3) := by decide +kernel
theorem dX10_slip_91 : decode cX10_slip 91 = .ok (.bipush 28, 2) := by decide +kernel
theorem dX10_slip_93 : decode cX10_slip 93 = .ok (.isub, 1) := by decide +kernel
theorem dX10_slip_94 : decode cX10_slip 94 = .ok (.aload_n 0, 1) := by decide +kernel
theorem dX10_slip_95 : decode cX10_slip 95 = .ok (.getfield 119, 3) := by decide +kernel
theorem dX10_slip_98 : decode cX10_slip 98 = .ok (.invokestatic 111, 3) := by decide +kernel
theorem dX10_slip_101 : decode cX10_slip 101 = .ok (.ifCond .eq 32, 3) := by decide +kernel
theorem dX10_slip_104 : decode cX10_slip 104 = .ok (.iload 7, 2) := by decide +kernel
theorem dX10_slip_106 : decode cX10_slip 106 = .ok (.ifCond .lt 27, 3) := by decide +kernel
theorem dX10_slip_109 : decode cX10_slip 109 = .ok (.aload_n 0, 1) := by decide +kernel
theorem dX10_slip_110 : decode cX10_slip 110 = .ok (.getfield 22, 3) := by decide +kernel
theorem dX10_slip_113 : decode cX10_slip 113 = .ok (.iload 4, 2) := by decide +kernel
theorem dX10_slip_115 : decode cX10_slip 115 = .ok (.iaload, 1) := by decide +kernel
theorem dX10_slip_116 : decode cX10_slip 116 = .ok (.iload 7, 2) := by decide +kernel
theorem dX10_slip_118 : decode cX10_slip 118 = .ok (.if_icmp .gt 15, 3) := by decide +kernel
theorem dX10_slip_121 : decode cX10_slip 121 = .ok (.aload_n 0, 1) := by decide +kernel
theorem dX10_slip_122 : decode cX10_slip 122 = .ok (.getfield 13, 3) := by decide +kernel
theorem dX10_slip_125 : decode cX10_slip 125 = .ok (.iload 4, 2) := by decide +kernel
theorem dX10_slip_127 : decode cX10_slip 127 = .ok (.iaload, 1) := by decide +kernel
theorem dX10_slip_128 : decode cX10_slip 128 = .ok (.iload 5, 2) := by decide +kernel
theorem dX10_slip_130 : decode cX10_slip 130 = .ok (.if_icmp .ge 5, 3) := by decide +kernel
theorem dX10_slip_133 : decode cX10_slip 133 = .ok (.iconst (-1), 1) := by decide +kernel
theorem dX10_slip_134 : decode cX10_slip 134 = .ok (.ireturn, 1) := by decide +kernel
theorem dX10_slip_135 : decode cX10_slip 135 = .ok (.aload_n 0, 1) := by decide +kernel
theorem dX10_slip_136 : decode cX10_slip 136 = .ok (.getfield 125, 3) := by decide +kernel
theorem dX10_slip_139 : decode cX10_slip 139 = .ok (.istore 8, 2) := by decide +kernel
theorem dX10_slip_141 : decode cX10_slip 141 = .ok (.aload_n 0, 1) := by decide +kernel
theorem dX10_slip_142 : decode cX10_slip 142 = .ok (.dup, 1) := by decide +kernel
theorem dX10_slip_143 : decode cX10_slip 143 = .ok (.getfield 125, 3) := by decide +kernel
theorem dX10_slip_146 : decode cX10_slip 146 = .ok (.iconst 1, 1) := by decide +kernel
theorem dX10_slip_147 : decode cX10_slip 147 = .ok (.iadd, 1) := by decide +kernel
theorem dX10_slip_148 : decode cX10_slip 148 = .ok (.putfield 125, 3) := by decide +kernel
theorem dX10_slip_151 : decode cX10_slip 151 = .ok (.aload_n 0, 1) := by decide +kernel
theorem dX10_slip_152 : decode cX10_slip 152 = .ok (.getfield 25, 3) := by decide +kernel
theorem dX10_slip_155 : decode cX10_slip 155 = .ok (.iload 8, 2) := by decide +kernel
theorem dX10_slip_157 : decode cX10_slip 157 = .ok (.iload_n 1, 1) := by decide +kernel
theorem dX10_slip_158 : decode cX10_slip 158 = .ok (.iastore, 1) := by decide +kernel
theorem dX10_slip_159 : decode cX10_slip 159 = .ok (.aload_n 0, 1) := by decide +kernel
theorem dX10_slip_160 : decode cX10_slip 160 = .ok (.getfield 28, 3) := by decide +kernel
theorem dX10_slip_163 : decode cX10_slip 163 = .ok (.iload 8, 2) := by decide +kernel
theorem dX10_slip_165 : decode cX10_slip 165 = .ok (.iload_n 2, 1) := by decide +kernel
theorem dX10_slip_166 : decode cX10_slip 166 = .ok (.iastore, 1) := by decide +kernel
theorem dX10_slip_167 : decode cX10_slip 167 = .ok (.aload_n 0, 1) := by decide +kernel
theorem dX10_slip_168 : decode cX10_slip 168 = .ok (.getfield 31, 3) := by decide +kernel
theorem dX10_slip_171 : decode cX10_slip 171 = .ok (.iload 8, 2) := by decide +kernel
theorem dX10_slip_173 : decode cX10_slip 173 = .ok (.iload_n 3, 1) := by decide +kernel
theorem dX10_slip_174 : decode cX10_slip 174 = .ok (.iastore, 1) := by decide +kernel
theorem dX10_slip_175 : decode cX10_slip 175 = .ok (.aload_n 0, 1) := by decide +kernel
theorem dX10_slip_176 : decode cX10_slip 176 = .ok (.getfield 34, 3) := by decide +kernel
theorem dX10_slip_179 : decode cX10_slip 179 = .ok (.iload 8, 2) := by decide +kernel
theorem dX10_slip_181 : decode cX10_slip 181 = .ok (.iload 4, 2) := by decide +kernel
theorem dX10_slip_183 : decode cX10_slip 183 = .ok (.iastore, 1) := by decide +kernel
theorem dX10_slip_184 : decode cX10_slip 184 = .ok (.aload_n 0, 1) := by decide +kernel
theorem dX10_slip_185 : decode cX10_slip 185 = .ok (.getfield 37, 3) := by decide +kernel
theorem dX10_slip_188 : decode cX10_slip 188 = .ok (.iload 8, 2) := by decide +kernel
theorem dX10_slip_190 : decode cX10_slip 190 = .ok (.iload 5, 2) := by decide +kernel
theorem dX10_slip_192 : decode cX10_slip 192 = .ok (.iastore, 1) := by decide +kernel
theorem dX10_slip_193 : decode cX10_slip 193 = .ok (.aload_n 0, 1) := by decide +kernel
theorem dX10_slip_194 : decode cX10_slip 194 = .ok (.getfield 40, 3) := by decide +kernel
theorem dX10_slip_197 : decode cX10_slip 197 = .ok (.iload 8, 2) := by decide +kernel
theorem dX10_slip_199 : decode cX10_slip 199 = .ok (.iload 6, 2) := by decide +kernel
theorem dX10_slip_201 : decode cX10_slip 201 = .ok (.iastore, 1) := by decide +kernel
theorem dX10_slip_202 : decode cX10_slip 202 = .ok (.aload_n 0, 1) := by decide +kernel
theorem dX10_slip_203 : decode cX10_slip 203 = .ok (.getfield 43, 3) := by decide +kernel
theorem dX10_slip_206 : decode cX10_slip 206 = .ok (.iload 8, 2) := by decide +kernel
theorem dX10_slip_208 : decode cX10_slip 208 = .ok (.iload 7, 2) := by decide +kernel
theorem dX10_slip_210 : decode cX10_slip 210 = .ok (.iastore, 1) := by decide +kernel
theorem dX10_slip_211 : decode cX10_slip 211 = .ok (.aload_n 0, 1) := by decide +kernel
theorem dX10_slip_212 : decode cX10_slip 212 = .ok (.getfield 46, 3) := by decide +kernel
theorem dX10_slip_215 : decode cX10_slip 215 = .ok (.iload 8, 2) := by decide +kernel
theorem dX10_slip_217 : decode cX10_slip 217 = .ok (.aload_n 0, 1) := by decide +kernel
theorem dX10_slip_218 : decode cX10_slip 218 = .ok (.getfield 119, 3) := by decide +kernel
theorem dX10_slip_221 : decode cX10_slip 221 = .ok (.iastore, 1) := by decide +kernel
theorem dX10_slip_222 : decode cX10_slip 222 = .ok (.aload_n 0, 1) := by decide +kernel
theorem dX10_slip_223 : decode cX10_slip 223 = .ok (.getfield 49, 3) := by decide +kernel
theorem dX10_slip_226 : decode cX10_slip 226 = .ok (.iload 8, 2) := by decide +kernel
theorem dX10_slip_228 : decode cX10_slip 228 = .ok (.iload_n 1, 1) := by decide +kernel
theorem dX10_slip_229 : decode cX10_slip 229 = .ok (.iconst 2, 1) := by decide +kernel
theorem dX10_slip_230 : decode cX10_slip 230 = .ok (.if_icmp .eq 8, 3) := by decide +kernel
theorem dX10_slip_233 : decode cX10_slip 233 = .ok (.iload 7, 2) := by decide +kernel
theorem dX10_slip_235 : decode cX10_slip 235 = .ok (.goto 24, 3) := by decide +kernel
theorem dX10_slip_238 : decode cX10_slip 238 = .ok (.iload 7, 2) := by decide +kernel
theorem dX10_slip_240 : decode cX10_slip 240 = .ok (.bipush 7, 2) := by decide +kernel
theorem dX10_slip_242 : decode cX10_slip 242 = .ok (.iadd, 1) := by decide +kernel
theorem dX10_slip_243 : decode cX10_slip 243 = .ok (.aload_n 0, 1) := by decide +kernel
theorem dX10_slip_244 : decode cX10_slip 244 = .ok (.getfield 119, 3) := by decide +kernel
theorem dX10_slip_247 : decode cX10_slip 247 = .ok (.if_icmp .gt 11, 3) := by decide +kernel
theorem dX10_slip_250 : decode cX10_slip 250 = .ok (.iload 7, 2) := by decide +kernel
theorem dX10_slip_252 : decode cX10_slip 252 = .ok (.bipush 7, 2) := by decide +kernel
theorem dX10_slip_254 : decode cX10_slip 254 = .ok (.iadd, 1) := by decide +kernel
theorem dX10_slip_255 : decode cX10_slip 255 = .ok (.goto 4, 3) := by decide +kernel
theorem dX10_slip_258 : decode cX10_slip 258 = .ok (.iconst (-1), 1) := by decide +kernel
theorem dX10_slip_259 : decode cX10_slip 259 = .ok (.iastore, 1) := by decide +kernel
theorem dX10_slip_260 : decode cX10_slip 260 = .ok (.aload_n 0, 1) := by decide +kernel
theorem dX10_slip_261 : decode cX10_slip 261 = .ok (.getfield 52, 3) := by decide +kernel
theorem dX10_slip_264 : decode cX10_slip 264 = .ok (.iload 8, 2) := by decide +kernel
theorem dX10_slip_266 : decode cX10_slip 266 = .ok (.iconst (-1), 1) := by decide +kernel
theorem dX10_slip_267 : decode cX10_slip 267 = .ok (.iastore, 1) := by decide +kernel
theorem dX10_slip_268 : decode cX10_slip 268 = .ok (.aload_n 0, 1) := by decide +kernel
theorem dX10_slip_269 : decode cX10_slip 269 = .ok (.getfield 55, 3) := by decide +kernel
theorem dX10_slip_272 : decode cX10_slip 272 = .ok (.iload 8, 2) := by decide +kernel
theorem dX10_slip_274 : decode cX10_slip 274 = .ok (.iconst (-1), 1) := by decide +kernel
theorem dX10_slip_275 : decode cX10_slip 275 = .ok (.iastore, 1) := by decide +kernel
theorem dX10_slip_276 : decode cX10_slip 276 = .ok (.aload_n 0, 1) := by decide +kernel
theorem dX10_slip_277 : decode cX10_slip 277 = .ok (.getfield 58, 3) := by decide +kernel
theorem dX10_slip_280 : decode cX10_slip 280 = .ok (.iload 8, 2) := by decide +kernel
theorem dX10_slip_282 : decode cX10_slip 282 = .ok (.iload 5, 2) := by decide +kernel
theorem dX10_slip_284 : decode cX10_slip 284 = .ok (.aload_n 0, 1) := by decide +kernel
theorem dX10_slip_285 : decode cX10_slip 285 = .ok (.getfield 7, 3) := by decide +kernel
theorem dX10_slip_288 : decode cX10_slip 288 = .ok (.sipush 364, 3) := by decide +kernel
theorem dX10_slip_291 : decode cX10_slip 291 = .ok (.iload 4, 2) := by decide +kernel
theorem dX10_slip_293 : decode cX10_slip 293 = .ok (.imul, 1) := by decide +kernel
theorem dX10_slip_294 : decode cX10_slip 294 = .ok (.iload 7, 2) := by decide +kernel
theorem dX10_slip_296 : decode cX10_slip 296 = .ok (.iadd, 1) := by decide +kernel
theorem dX10_slip_297 : decode cX10_slip 297 = .ok (.iaload, 1) := by decide +kernel
theorem dX10_slip_298 : decode cX10_slip 298 = .ok (.imul, 1) := by decide +kernel
theorem dX10_slip_299 : decode cX10_slip 299 = .ok (.iastore, 1) := by decide +kernel
theorem dX10_slip_300 : decode cX10_slip 300 = .ok (.aload_n 0, 1) := by decide +kernel
theorem dX10_slip_301 : decode cX10_slip 301 = .ok (.getfield 13, 3) := by decide +kernel
theorem dX10_slip_304 : decode cX10_slip 304 = .ok (.iload 4, 2) := by decide +kernel
theorem dX10_slip_306 : decode cX10_slip 306 = .ok (.dup2, 1) := by decide +kernel
theorem dX10_slip_307 : decode cX10_slip 307 = .ok (.iaload, 1) := by decide +kernel
theorem dX10_slip_308 : decode cX10_slip 308 = .ok (.iload 5, 2) := by decide +kernel
theorem dX10_slip_310 : decode cX10_slip 310 = .ok (.isub, 1) := by decide +kernel
theorem dX10_slip_311 : decode cX10_slip 311 = .ok (.iastore, 1) := by decide +kernel
theorem dX10_slip_312 : decode cX10_slip 312 = .ok (.iload 8, 2) := by decide +kernel
theorem dX10_slip_314 : decode cX10_slip 314 = .ok (.ireturn, 1) := by decide +kernel
theorem dX10_isSlip_0 : decode cX10_isSlip 0 = .ok (.iload_n 1, 1) := by decide +kernel
theorem dX10_isSlip_1 : decode cX10_isSlip 1 = .ok (.iconst 0, 1) := by decide +kernel
theorem dX10_isSlip_2 : decode cX10_isSlip 2 = .ok (.aload_n 0, 1) := by decide +kernel
theorem dX10_isSlip_3 : decode cX10_isSlip 3 = .ok (.getfield 125, 3) := by decide +kernel
theorem dX10_isSlip_6 : decode cX10_isSlip 6 = .ok (.iconst 1, 1) := by decide +kernel
theorem dX10_isSlip_7 : decode cX10_isSlip 7 = .ok (.isub, 1) := by decide +kernel
theorem dX10_isSlip_8 : decode cX10_isSlip 8 = .ok (.invokestatic 111, 3) := by decide +kernel
theorem dX10_isSlip_11 : decode cX10_isSlip 11 = .ok (.ireturn, 1) := by decide +kernel
theorem dX10_paper_0 : decode cX10_paper 0 = .ok (.aload_n 0, 1) := by decide +kernel
theorem dX10_paper_1 : decode cX10_paper 1 = .ok (.iload_n 1, 1) := by decide +kernel
theorem dX10_paper_2 : decode cX10_paper 2 = .ok (.invokevirtual 131, 3) := by decide +kernel
theorem dX10_paper_5 : decode cX10_paper 5 = .ok (.ifCond .ne 5, 3) := by decide +kernel
theorem dX10_paper_8 : decode cX10_paper 8 = .ok (.iconst (-1), 1) := by decide +kernel
theorem dX10_paper_9 : decode cX10_paper 9 = .ok (.ireturn, 1) := by decide +kernel
theorem dX10_paper_10 : decode cX10_paper 10 = .ok (.iload_n 2, 1) := by decide +kernel
theorem dX10_paper_11 : decode cX10_paper 11 = .ok (.tableswitch 113 0 6 #[41, 71, 78, 85, 92, 99, 106], 41) := by decide +kernel
theorem dX10_paper_52 : decode cX10_paper 52 = .ok (.aload_n 0, 1) := by decide +kernel
theorem dX10_paper_53 : decode cX10_paper 53 = .ok (.getfield 52, 3) := by decide +kernel
theorem dX10_paper_56 : decode cX10_paper 56 = .ok (.iload_n 1, 1) := by decide +kernel
theorem dX10_paper_57 : decode cX10_paper 57 = .ok (.iaload, 1) := by decide +kernel
theorem dX10_paper_58 : decode cX10_paper 58 = .ok (.iconst (-1), 1) := by decide +kernel
theorem dX10_paper_59 : decode cX10_paper 59 = .ok (.if_icmp .eq 7, 3) := by decide +kernel
theorem dX10_paper_62 : decode cX10_paper 62 = .ok (.iconst 2, 1) := by decide +kernel
theorem dX10_paper_63 : decode cX10_paper 63 = .ok (.goto 18, 3) := by decide +kernel
theorem dX10_paper_66 : decode cX10_paper 66 = .ok (.aload_n 0, 1) := by decide +kernel
theorem dX10_paper_67 : decode cX10_paper 67 = .ok (.getfield 49, 3) := by decide +kernel
theorem dX10_paper_70 : decode cX10_paper 70 = .ok (.iload_n 1, 1) := by decide +kernel
theorem dX10_paper_71 : decode cX10_paper 71 = .ok (.iaload, 1) := by decide +kernel
theorem dX10_paper_72 : decode cX10_paper 72 = .ok (.iconst (-1), 1) := by decide +kernel
theorem dX10_paper_73 : decode cX10_paper 73 = .ok (.if_icmp .eq 7, 3) := by decide +kernel
theorem dX10_paper_76 : decode cX10_paper 76 = .ok (.iconst 0, 1) := by decide +kernel
theorem dX10_paper_77 : decode cX10_paper 77 = .ok (.goto 4, 3) := by decide +kernel
theorem dX10_paper_80 : decode cX10_paper 80 = .ok (.iconst 1, 1) := by decide +kernel
theorem dX10_paper_81 : decode cX10_paper 81 = .ok (.ireturn, 1) := by decide +kernel
theorem dX10_paper_82 : decode cX10_paper 82 = .ok (.aload_n 0, 1) := by decide +kernel
theorem dX10_paper_83 : decode cX10_paper 83 = .ok (.getfield 58, 3) := by decide +kernel
theorem dX10_paper_86 : decode cX10_paper 86 = .ok (.iload_n 1, 1) := by decide +kernel
theorem dX10_paper_87 : decode cX10_paper 87 = .ok (.iaload, 1) := by decide +kernel
theorem dX10_paper_88 : decode cX10_paper 88 = .ok (.ireturn, 1) := by decide +kernel
theorem dX10_paper_89 : decode cX10_paper 89 = .ok (.aload_n 0, 1) := by decide +kernel
theorem dX10_paper_90 : decode cX10_paper 90 = .ok (.getfield 43, 3) := by decide +kernel
theorem dX10_paper_93 : decode cX10_paper 93 = .ok (.iload_n 1, 1) := by decide +kernel
theorem dX10_paper_94 : decode cX10_paper 94 = .ok (.iaload, 1) := by decide +kernel
theorem dX10_paper_95 : decode cX10_paper 95 = .ok (.ireturn, 1) := by decide +kernel
theorem dX10_paper_96 : decode cX10_paper 96 = .ok (.aload_n 0, 1) := by decide +kernel
theorem dX10_paper_97 : decode cX10_paper 97 = .ok (.getfield 46, 3) := by decide +kernel
theorem dX10_paper_100 : decode cX10_paper 100 = .ok (.iload_n 1, 1) := by decide +kernel
theorem dX10_paper_101 : decode cX10_paper 101 = .ok (.iaload, 1) := by decide +kernel
theorem dX10_paper_102 : decode cX10_paper 102 = .ok (.ireturn, 1) := by decide +kernel
theorem dX10_paper_103 : decode cX10_paper 103 = .ok (.aload_n 0, 1) := by decide +kernel
theorem dX10_paper_104 : decode cX10_paper 104 = .ok (.getfield 49, 3) := by decide +kernel
theorem dX10_paper_107 : decode cX10_paper 107 = .ok (.iload_n 1, 1) := by decide +kernel
theorem dX10_paper_108 : decode cX10_paper 108 = .ok (.iaload, 1) := by decide +kernel
theorem dX10_paper_109 : decode cX10_paper 109 = .ok (.ireturn, 1) := by decide +kernel
theorem dX10_paper_110 : decode cX10_paper 110 = .ok (.aload_n 0, 1) := by decide +kernel
theorem dX10_paper_111 : decode cX10_paper 111 = .ok (.getfield 52, 3) := by decide +kernel
theorem dX10_paper_114 : decode cX10_paper 114 = .ok (.iload_n 1, 1) := by decide +kernel
theorem dX10_paper_115 : decode cX10_paper 115 = .ok (.iaload, 1) := by decide +kernel
theorem dX10_paper_116 : decode cX10_paper 116 = .ok (.ireturn, 1) := by decide +kernel
theorem dX10_paper_117 : decode cX10_paper 117 = .ok (.aload_n 0, 1) := by decide +kernel
theorem dX10_paper_118 : decode cX10_paper 118 = .ok (.getfield 55, 3) := by decide +kernel
theorem dX10_paper_121 : decode cX10_paper 121 = .ok (.iload_n 1, 1) := by decide +kernel
theorem dX10_paper_122 : decode cX10_paper 122 = .ok (.iaload, 1) := by decide +kernel
theorem dX10_paper_123 : decode cX10_paper 123 = .ok (.ireturn, 1) := by decide +kernel
theorem dX10_paper_124 : decode cX10_paper 124 = .ok (.iconst (-1), 1) := by decide +kernel
theorem dX10_paper_125 : decode cX10_paper 125 = .ok (.ireturn, 1) := by decide +kernel
theorem dX10_back_0 : decode cX10_back 0 = .ok (.aload_n 0, 1) := by decide +kernel
theorem dX10_back_1 : decode cX10_back 1 = .ok (.iload_n 1, 1) := by decide +kernel
theorem dX10_back_2 : decode cX10_back 2 = .ok (.invokevirtual 131, 3) := by decide +kernel
theorem dX10_back_5 : decode cX10_back 5 = .ok (.ifCond .eq 39, 3) := by decide +kernel
theorem dX10_back_8 : decode cX10_back 8 = .ok (.aload_n 0, 1) := by decide +kernel
theorem dX10_back_9 : decode cX10_back 9 = .ok (.getfield 52, 3) := by decide +kernel
theorem dX10_back_12 : decode cX10_back 12 = .ok (.iload_n 1, 1) := by decide +kernel
theorem dX10_back_13 : decode cX10_back 13 = .ok (.iaload, 1) := by decide +kernel
theorem dX10_back_14 : decode cX10_back 14 = .ok (.iconst (-1), 1) := by decide +kernel
theorem dX10_back_15 : decode cX10_back 15 = .ok (.if_icmp .ne 29, 3) := by decide +kernel
theorem dX10_back_18 : decode cX10_back 18 = .ok (.aload_n 0, 1) := by decide +kernel
theorem dX10_back_19 : decode cX10_back 19 = .ok (.getfield 49, 3) := by decide +kernel
theorem dX10_back_22 : decode cX10_back 22 = .ok (.iload_n 1, 1) := by decide +kernel
theorem dX10_back_23 : decode cX10_back 23 = .ok (.iaload, 1) := by decide +kernel
theorem dX10_back_24 : decode cX10_back 24 = .ok (.iconst (-1), 1) := by decide +kernel
theorem dX10_back_25 : decode cX10_back 25 = .ok (.if_icmp .eq 21, 3) := by decide +kernel
theorem dX10_back_28 : decode cX10_back 28 = .ok (.aload_n 0, 1) := by decide +kernel
theorem dX10_back_29 : decode cX10_back 29 = .ok (.getfield 119, 3) := by decide +kernel
theorem dX10_back_32 : decode cX10_back 32 = .ok (.aload_n 0, 1) := by decide +kernel
theorem dX10_back_33 : decode cX10_back 33 = .ok (.getfield 49, 3) := by decide +kernel
theorem dX10_back_36 : decode cX10_back 36 = .ok (.iload_n 1, 1) := by decide +kernel
theorem dX10_back_37 : decode cX10_back 37 = .ok (.iaload, 1) := by decide +kernel
theorem dX10_back_38 : decode cX10_back 38 = .ok (.isub, 1) := by decide +kernel
theorem dX10_back_39 : decode cX10_back 39 = .ok (.bipush 28, 2) := by decide +kernel
theorem dX10_back_41 : decode cX10_back 41 = .ok (.if_icmp .le 5, 3) := by decide +kernel
theorem dX10_back_44 : decode cX10_back 44 = .ok (.iconst 0, 1) := by decide +kernel
theorem dX10_back_45 : decode cX10_back 45 = .ok (.ireturn, 1) := by decide +kernel
theorem dX10_back_46 : decode cX10_back 46 = .ok (.aload_n 0, 1) := by decide +kernel
theorem dX10_back_47 : decode cX10_back 47 = .ok (.getfield 52, 3) := by decide +kernel
theorem dX10_back_50 : decode cX10_back 50 = .ok (.iload_n 1, 1) := by decide +kernel
theorem dX10_back_51 : decode cX10_back 51 = .ok (.aload_n 0, 1) := by decide +kernel
theorem dX10_back_52 : decode cX10_back 52 = .ok (.getfield 119, 3) := by decide +kernel
theorem dX10_back_55 : decode cX10_back 55 = .ok (.iastore, 1) := by decide +kernel
theorem dX10_back_56 : decode cX10_back 56 = .ok (.aload_n 0, 1) := by decide +kernel
theorem dX10_back_57 : decode cX10_back 57 = .ok (.getfield 13, 3) := by decide +kernel
theorem dX10_back_60 : decode cX10_back 60 = .ok (.aload_n 0, 1) := by decide +kernel
theorem dX10_back_61 : decode cX10_back 61 = .ok (.getfield 34, 3) := by decide +kernel
theorem dX10_back_64 : decode cX10_back 64 = .ok (.iload_n 1, 1) := by decide +kernel
theorem dX10_back_65 : decode cX10_back 65 = .ok (.iaload, 1) := by decide +kernel
theorem dX10_back_66 : decode cX10_back 66 = .ok (.dup2, 1) := by decide +kernel
theorem dX10_back_67 : decode cX10_back 67 = .ok (.iaload, 1) := by decide +kernel
theorem dX10_back_68 : decode cX10_back 68 = .ok (.aload_n 0, 1) := by decide +kernel
theorem dX10_back_69 : decode cX10_back 69 = .ok (.getfield 37, 3) := by decide +kernel
theorem dX10_back_72 : decode cX10_back 72 = .ok (.iload_n 1, 1) := by decide +kernel
theorem dX10_back_73 : decode cX10_back 73 = .ok (.iaload, 1) := by decide +kernel
theorem dX10_back_74 : decode cX10_back 74 = .ok (.iadd, 1) := by decide +kernel
theorem dX10_back_75 : decode cX10_back 75 = .ok (.iastore, 1) := by decide +kernel
theorem dX10_back_76 : decode cX10_back 76 = .ok (.iconst 1, 1) := by decide +kernel
theorem dX10_back_77 : decode cX10_back 77 = .ok (.ireturn, 1) := by decide +kernel
theorem dX10_isParcel_0 : decode cX10_isParcel 0 = .ok (.aload_n 0, 1) := by decide +kernel
theorem dX10_isParcel_1 : decode cX10_isParcel 1 = .ok (.getfield 40, 3) := by decide +kernel
theorem dX10_isParcel_4 : decode cX10_isParcel 4 = .ok (.iload_n 1, 1) := by decide +kernel
theorem dX10_isParcel_5 : decode cX10_isParcel 5 = .ok (.iaload, 1) := by decide +kernel
theorem dX10_isParcel_6 : decode cX10_isParcel 6 = .ok (.iconst (-1), 1) := by decide +kernel
theorem dX10_isParcel_7 : decode cX10_isParcel 7 = .ok (.if_icmp .eq 27, 3) := by decide +kernel
theorem dX10_isParcel_10 : decode cX10_isParcel 10 = .ok (.aload_n 0, 1) := by decide +kernel
theorem dX10_isParcel_11 : decode cX10_isParcel 11 = .ok (.getfield 55, 3) := by decide +kernel
theorem dX10_isParcel_14 : decode cX10_isParcel 14 = .ok (.iload_n 1, 1) := by decide +kernel
theorem dX10_isParcel_15 : decode cX10_isParcel 15 = .ok (.iaload, 1) := by decide +kernel
theorem dX10_isParcel_16 : decode cX10_isParcel 16 = .ok (.iconst (-1), 1) := by decide +kernel
theorem dX10_isParcel_17 : decode cX10_isParcel 17 = .ok (.if_icmp .ne 17, 3) := by decide +kernel
theorem dX10_isParcel_20 : decode cX10_isParcel 20 = .ok (.aload_n 0, 1) := by decide +kernel
theorem dX10_isParcel_21 : decode cX10_isParcel 21 = .ok (.getfield 52, 3) := by decide +kernel
theorem dX10_isParcel_24 : decode cX10_isParcel 24 = .ok (.iload_n 1, 1) := by decide +kernel
theorem dX10_isParcel_25 : decode cX10_isParcel 25 = .ok (.iaload, 1) := by decide +kernel
theorem dX10_isParcel_26 : decode cX10_isParcel 26 = .ok (.iconst (-1), 1) := by decide +kernel
theorem dX10_isParcel_27 : decode cX10_isParcel 27 = .ok (.if_icmp .ne 7, 3) := by decide +kernel
theorem dX10_isParcel_30 : decode cX10_isParcel 30 = .ok (.iconst 1, 1) := by decide +kernel
theorem dX10_isParcel_31 : decode cX10_isParcel 31 = .ok (.goto 4, 3) := by decide +kernel
theorem dX10_isParcel_34 : decode cX10_isParcel 34 = .ok (.iconst 0, 1) := by decide +kernel
theorem dX10_isParcel_35 : decode cX10_isParcel 35 = .ok (.ireturn, 1) := by decide +kernel
theorem dX10_look_0 : decode cX10_look 0 = .ok (.iconst 0, 1) := by decide +kernel
theorem dX10_look_1 : decode cX10_look 1 = .ok (.istore_n 2, 1) := by decide +kernel
theorem dX10_look_2 : decode cX10_look 2 = .ok (.iload_n 1, 1) := by decide +kernel
theorem dX10_look_3 : decode cX10_look 3 = .ok (.tableswitch 146 0 6 #[41, 46, 51, 56, 102, 136, 141], 41) := by decide +kernel
theorem dX10_look_44 : decode cX10_look 44 = .ok (.aload_n 0, 1) := by decide +kernel
theorem dX10_look_45 : decode cX10_look 45 = .ok (.getfield 119, 3) := by decide +kernel
theorem dX10_look_48 : decode cX10_look 48 = .ok (.ireturn, 1) := by decide +kernel
theorem dX10_look_49 : decode cX10_look 49 = .ok (.aload_n 0, 1) := by decide +kernel
theorem dX10_look_50 : decode cX10_look 50 = .ok (.getfield 108, 3) := by decide +kernel
theorem dX10_look_53 : decode cX10_look 53 = .ok (.ireturn, 1) := by decide +kernel
theorem dX10_look_54 : decode cX10_look 54 = .ok (.aload_n 0, 1) := by decide +kernel
theorem dX10_look_55 : decode cX10_look 55 = .ok (.getfield 125, 3) := by decide +kernel
theorem dX10_look_58 : decode cX10_look 58 = .ok (.ireturn, 1) := by decide +kernel
theorem dX10_look_59 : decode cX10_look 59 = .ok (.iconst 0, 1) := by decide +kernel
theorem dX10_look_60 : decode cX10_look 60 = .ok (.istore_n 3, 1) := by decide +kernel
theorem dX10_look_61 : decode cX10_look 61 = .ok (.iload_n 3, 1) := by decide +kernel
theorem dX10_look_62 : decode cX10_look 62 = .ok (.aload_n 0, 1) := by decide +kernel
theorem dX10_look_63 : decode cX10_look 63 = .ok (.getfield 125, 3) := by decide +kernel
theorem dX10_look_66 : decode cX10_look 66 = .ok (.if_icmp .ge 37, 3) := by decide +kernel
theorem dX10_look_69 : decode cX10_look 69 = .ok (.iload_n 2, 1) := by decide +kernel
theorem dX10_look_70 : decode cX10_look 70 = .ok (.aload_n 0, 1) := by decide +kernel
theorem dX10_look_71 : decode cX10_look 71 = .ok (.getfield 49, 3) := by decide +kernel
theorem dX10_look_74 : decode cX10_look 74 = .ok (.iload_n 3, 1) := by decide +kernel
theorem dX10_look_75 : decode cX10_look 75 = .ok (.iaload, 1) := by decide +kernel
theorem dX10_look_76 : decode cX10_look 76 = .ok (.iconst (-1), 1) := by decide +kernel
theorem dX10_look_77 : decode cX10_look 77 = .ok (.if_icmp .ne 17, 3) := by decide +kernel
theorem dX10_look_80 : decode cX10_look 80 = .ok (.aload_n 0, 1) := by decide +kernel
theorem dX10_look_81 : decode cX10_look 81 = .ok (.getfield 52, 3) := by decide +kernel
theorem dX10_look_84 : decode cX10_look 84 = .ok (.iload_n 3, 1) := by decide +kernel
theorem dX10_look_85 : decode cX10_look 85 = .ok (.iaload, 1) := by decide +kernel
theorem dX10_look_86 : decode cX10_look 86 = .ok (.iconst (-1), 1) := by decide +kernel
theorem dX10_look_87 : decode cX10_look 87 = .ok (.if_icmp .ne 7, 3) := by decide +kernel
theorem dX10_look_90 : decode cX10_look 90 = .ok (.iconst 1, 1) := by decide +kernel
theorem dX10_look_91 : decode cX10_look 91 = .ok (.goto 4, 3) := by decide +kernel
theorem dX10_look_94 : decode cX10_look 94 = .ok (.iconst 0, 1) := by decide +kernel
theorem dX10_look_95 : decode cX10_look 95 = .ok (.iadd, 1) := by decide +kernel
theorem dX10_look_96 : decode cX10_look 96 = .ok (.istore_n 2, 1) := by decide +kernel
theorem dX10_look_97 : decode cX10_look 97 = .ok (.iinc 3 1, 3) := by decide +kernel
theorem dX10_look_100 : decode cX10_look 100 = .ok (.goto (-39), 3) := by decide +kernel
theorem dX10_look_103 : decode cX10_look 103 = .ok (.iload_n 2, 1) := by decide +kernel
theorem dX10_look_104 : decode cX10_look 104 = .ok (.ireturn, 1) := by decide +kernel
theorem dX10_look_105 : decode cX10_look 105 = .ok (.iconst 0, 1) := by decide +kernel
theorem dX10_look_106 : decode cX10_look 106 = .ok (.istore_n 3, 1) := by decide +kernel
theorem dX10_look_107 : decode cX10_look 107 = .ok (.iload_n 3, 1) := by decide +kernel
theorem dX10_look_108 : decode cX10_look 108 = .ok (.aload_n 0, 1) := by decide +kernel
theorem dX10_look_109 : decode cX10_look 109 = .ok (.getfield 125, 3) := by decide +kernel
theorem dX10_look_112 : decode cX10_look 112 = .ok (.if_icmp .ge 25, 3) := by decide +kernel
theorem dX10_look_115 : decode cX10_look 115 = .ok (.iload_n 2, 1) := by decide +kernel
theorem dX10_look_116 : decode cX10_look 116 = .ok (.aload_n 0, 1) := by decide +kernel
theorem dX10_look_117 : decode cX10_look 117 = .ok (.iload_n 3, 1) := by decide +kernel
theorem dX10_look_118 : decode cX10_look 118 = .ok (.invokevirtual 134, 3) := by decide +kernel
theorem dX10_look_121 : decode cX10_look 121 = .ok (.ifCond .eq 7, 3) := by decide +kernel
theorem dX10_look_124 : decode cX10_look 124 = .ok (.iconst 1, 1) := by decide +kernel
theorem dX10_look_125 : decode cX10_look 125 = .ok (.goto 4, 3) := by decide +kernel
theorem dX10_look_128 : decode cX10_look 128 = .ok (.iconst 0, 1) := by decide +kernel
theorem dX10_look_129 : decode cX10_look 129 = .ok (.iadd, 1) := by decide +kernel
theorem dX10_look_130 : decode cX10_look 130 = .ok (.istore_n 2, 1) := by decide +kernel
theorem dX10_look_131 : decode cX10_look 131 = .ok (.iinc 3 1, 3) := by decide +kernel
theorem dX10_look_134 : decode cX10_look 134 = .ok (.goto (-27), 3) := by decide +kernel
theorem dX10_look_137 : decode cX10_look 137 = .ok (.iload_n 2, 1) := by decide +kernel
theorem dX10_look_138 : decode cX10_look 138 = .ok (.ireturn, 1) := by decide +kernel
theorem dX10_look_139 : decode cX10_look 139 = .ok (.aload_n 0, 1) := by decide +kernel
theorem dX10_look_140 : decode cX10_look 140 = .ok (.getfield 128, 3) := by decide +kernel
theorem dX10_look_143 : decode cX10_look 143 = .ok (.ireturn, 1) := by decide +kernel
theorem dX10_look_144 : decode cX10_look 144 = .ok (.aload_n 0, 1) := by decide +kernel
theorem dX10_look_145 : decode cX10_look 145 = .ok (.getfield 137, 3) := by decide +kernel
theorem dX10_look_148 : decode cX10_look 148 = .ok (.ireturn, 1) := by decide +kernel
theorem dX10_look_149 : decode cX10_look 149 = .ok (.iconst (-1), 1) := by decide +kernel
theorem dX10_look_150 : decode cX10_look 150 = .ok (.ireturn, 1) := by decide +kernel
theorem dX10_van_0 : decode cX10_van 0 = .ok (.iload_n 1, 1) := by decide +kernel
theorem dX10_van_1 : decode cX10_van 1 = .ok (.iconst 0, 1) := by decide +kernel
theorem dX10_van_2 : decode cX10_van 2 = .ok (.sipush 500, 3) := by decide +kernel
theorem dX10_van_5 : decode cX10_van 5 = .ok (.invokestatic 111, 3) := by decide +kernel
theorem dX10_van_8 : decode cX10_van 8 = .ok (.ifCond .eq 11, 3) := by decide +kernel
theorem dX10_van_11 : decode cX10_van 11 = .ok (.aload_n 0, 1) := by decide +kernel
theorem dX10_van_12 : decode cX10_van 12 = .ok (.getfield 128, 3) := by decide +kernel
theorem dX10_van_15 : decode cX10_van 15 = .ok (.iconst 2, 1) := by decide +kernel
theorem dX10_van_16 : decode cX10_van 16 = .ok (.if_icmp .ne 5, 3) := by decide +kernel
theorem dX10_van_19 : decode cX10_van 19 = .ok (.iconst (-1), 1) := by decide +kernel
theorem dX10_van_20 : decode cX10_van 20 = .ok (.ireturn, 1) := by decide +kernel
theorem dX10_van_21 : decode cX10_van 21 = .ok (.iload_n 1, 1) := by decide +kernel
theorem dX10_van_22 : decode cX10_van 22 = .ok (.istore_n 2, 1) := by decide +kernel
theorem dX10_van_23 : decode cX10_van 23 = .ok (.iconst 0, 1) := by decide +kernel
theorem dX10_van_24 : decode cX10_van 24 = .ok (.istore_n 3, 1) := by decide +kernel
theorem dX10_van_25 : decode cX10_van 25 = .ok (.aload_n 0, 1) := by decide +kernel
theorem dX10_van_26 : decode cX10_van 26 = .ok (.iconst 0, 1) := by decide +kernel
theorem dX10_van_27 : decode cX10_van 27 = .ok (.putfield 140, 3) := by decide +kernel
theorem dX10_van_30 : decode cX10_van 30 = .ok (.iconst 0, 1) := by decide +kernel
theorem dX10_van_31 : decode cX10_van 31 = .ok (.istore 4, 2) := by decide +kernel
theorem dX10_van_33 : decode cX10_van 33 = .ok (.iload 4, 2) := by decide +kernel
theorem dX10_van_35 : decode cX10_van 35 = .ok (.bipush 20, 2) := by decide +kernel
theorem dX10_van_37 : decode cX10_van 37 = .ok (.if_icmp .ge 17, 3) := by decide +kernel
theorem dX10_van_40 : decode cX10_van 40 = .ok (.aload_n 0, 1) := by decide +kernel
theorem dX10_van_41 : decode cX10_van 41 = .ok (.getfield 64, 3) := by decide +kernel
theorem dX10_van_44 : decode cX10_van 44 = .ok (.iload 4, 2) := by decide +kernel
theorem dX10_van_46 : decode cX10_van 46 = .ok (.iconst 0, 1) := by decide +kernel
theorem dX10_van_47 : decode cX10_van 47 = .ok (.bastore, 1) := by decide +kernel
theorem dX10_van_48 : decode cX10_van 48 = .ok (.iinc 4 1, 3) := by decide +kernel
theorem dX10_van_51 : decode cX10_van 51 = .ok (.goto (-18), 3) := by decide +kernel
theorem dX10_van_54 : decode cX10_van 54 = .ok (.iconst 0, 1) := by decide +kernel
theorem dX10_van_55 : decode cX10_van 55 = .ok (.istore 4, 2) := by decide +kernel
theorem dX10_van_57 : decode cX10_van 57 = .ok (.iload 4, 2) := by decide +kernel
theorem dX10_van_59 : decode cX10_van 59 = .ok (.aload_n 0, 1) := by decide +kernel
theorem dX10_van_60 : decode cX10_van 60 = .ok (.getfield 125, 3) := by decide +kernel
theorem dX10_van_63 : decode cX10_van 63 = .ok (.if_icmp .ge 216, 3) := by decide +kernel
theorem dX10_van_66 : decode cX10_van 66 = .ok (.aload_n 0, 1) := by decide +kernel
theorem dX10_van_67 : decode cX10_van 67 = .ok (.iload 4, 2) := by decide +kernel
theorem dX10_van_69 : decode cX10_van 69 = .ok (.invokevirtual 134, 3) := by decide +kernel
theorem dX10_van_72 : decode cX10_van 72 = .ok (.ifCond .eq 201, 3) := by decide +kernel
theorem dX10_van_75 : decode cX10_van 75 = .ok (.aload_n 0, 1) := by decide +kernel
theorem dX10_van_76 : decode cX10_van 76 = .ok (.getfield 64, 3) := by decide +kernel
theorem dX10_van_79 : decode cX10_van 79 = .ok (.aload_n 0, 1) := by decide +kernel
theorem dX10_van_80 : decode cX10_van 80 = .ok (.getfield 40, 3) := by decide +kernel
theorem dX10_van_83 : decode cX10_van 83 = .ok (.iload 4, 2) := by decide +kernel
theorem dX10_van_85 : decode cX10_van 85 = .ok (.iaload, 1) := by decide +kernel
theorem dX10_van_86 : decode cX10_van 86 = .ok (.baload, 1) := by decide +kernel
theorem dX10_van_87 : decode cX10_van 87 = .ok (.ifCond .eq 6, 3) := by decide +kernel
theorem dX10_van_90 : decode cX10_van 90 = .ok (.goto 183, 3) := by decide +kernel
theorem dX10_van_93 : decode cX10_van 93 = .ok (.aload_n 0, 1) := by decide +kernel
theorem dX10_van_94 : decode cX10_van 94 = .ok (.getfield 40, 3) := by decide +kernel
theorem dX10_van_97 : decode cX10_van 97 = .ok (.iload 4, 2) := by decide +kernel
theorem dX10_van_99 : decode cX10_van 99 = .ok (.iaload, 1) := by decide +kernel
theorem dX10_van_100 : decode cX10_van 100 = .ok (.istore 5, 2) := by decide +kernel
theorem dX10_van_102 : decode cX10_van 102 = .ok (.aload_n 0, 1) := by decide +kernel
theorem dX10_van_103 : decode cX10_van 103 = .ok (.getfield 64, 3) := by decide +kernel
theorem dX10_van_106 : decode cX10_van 106 = .ok (.iload 5, 2) := by decide +kernel
theorem dX10_van_108 : decode cX10_van 108 = .ok (.iconst 1, 1) := by decide +kernel
theorem dX10_van_109 : decode cX10_van 109 = .ok (.bastore, 1) := by decide +kernel
theorem dX10_van_110 : decode cX10_van 110 = .ok (.iconst 0, 1) := by decide +kernel
theorem dX10_van_111 : decode cX10_van 111 = .ok (.istore 6, 2) := by decide +kernel
theorem dX10_van_113 : decode cX10_van 113 = .ok (.iconst 0, 1) := by decide +kernel
theorem dX10_van_114 : decode cX10_van 114 = .ok (.istore 7, 2) := by decide +kernel
theorem dX10_van_116 : decode cX10_van 116 = .ok (.iload 7, 2) := by decide +kernel
theorem dX10_van_118 : decode cX10_van 118 = .ok (.aload_n 0, 1) := by decide +kernel
theorem dX10_van_119 : decode cX10_van 119 = .ok (.getfield 125, 3) := by decide +kernel
theorem dX10_van_122 : decode cX10_van 122 = .ok (.if_icmp .ge 46, 3) := by decide +kernel
theorem dX10_van_125 : decode cX10_van 125 = .ok (.iload 6, 2) := by decide +kernel
theorem dX10_van_127 : decode cX10_van 127 = .ok (.aload_n 0, 1) := by decide +kernel
theorem dX10_van_128 : decode cX10_van 128 = .ok (.iload 7, 2) := by decide +kernel
theorem dX10_van_130 : decode cX10_van 130 = .ok (.invokevirtual 134, 3) := by decide +kernel
theorem dX10_van_133 : decode cX10_van 133 = .ok (.ifCond .eq 25, 3) := by decide +kernel
theorem dX10_van_136 : decode cX10_van 136 = .ok (.aload_n 0, 1) := by decide +kernel
theorem dX10_van_137 : decode cX10_van 137 = .ok (.getfield 40, 3) := by decide +kernel
theorem dX10_van_140 : decode cX10_van 140 = .ok (.iload 7, 2) := by decide +kernel
theorem dX10_van_142 : decode cX10_van 142 = .ok (.iaload, 1) := by decide +kernel
theorem dX10_van_143 : decode cX10_van 143 = .ok (.iload 5, 2) := by decide +kernel
theorem dX10_van_145 : decode cX10_van 145 = .ok (.if_icmp .ne 13, 3) := by decide +kernel
theorem dX10_van_148 : decode cX10_van 148 = .ok (.aload_n 0, 1) := by decide +kernel
theorem dX10_van_149 : decode cX10_van 149 = .ok (.getfield 37, 3) := by decide +kernel
theorem dX10_van_152 : decode cX10_van 152 = .ok (.iload 7, 2) := by decide +kernel
theorem dX10_van_154 : decode cX10_van 154 = .ok (.iaload, 1) := by decide +kernel
theorem dX10_van_155 : decode cX10_van 155 = .ok (.goto 4, 3) := by decide +kernel
theorem dX10_van_158 : decode cX10_van 158 = .ok (.iconst 0, 1) := by decide +kernel
theorem dX10_van_159 : decode cX10_van 159 = .ok (.iadd, 1) := by decide +kernel
theorem dX10_van_160 : decode cX10_van 160 = .ok (.istore 6, 2) := by decide +kernel
theorem dX10_van_162 : decode cX10_van 162 = .ok (.iinc 7 1, 3) := by decide +kernel
theorem dX10_van_165 : decode cX10_van 165 = .ok (.goto (-49), 3) := by decide +kernel
theorem dX10_van_168 : decode cX10_van 168 = .ok (.iload 6, 2) := by decide +kernel
theorem dX10_van_170 : decode cX10_van 170 = .ok (.iload_n 2, 1) := by decide +kernel
theorem dX10_van_171 : decode cX10_van 171 = .ok (.if_icmp .le 6, 3) := by decide +kernel
theorem dX10_van_174 : decode cX10_van 174 = .ok (.goto 99, 3) := by decide +kernel
theorem dX10_van_177 : decode cX10_van 177 = .ok (.iload_n 2, 1) := by decide +kernel
theorem dX10_van_178 : decode cX10_van 178 = .ok (.iload 6, 2) := by decide +kernel
theorem dX10_van_180 : decode cX10_van 180 = .ok (.isub, 1) := by decide +kernel
theorem dX10_van_181 : decode cX10_van 181 = .ok (.istore_n 2, 1) := by decide +kernel
theorem dX10_van_182 : decode cX10_van 182 = .ok (.iconst 0, 1) := by decide +kernel
theorem dX10_van_183 : decode cX10_van 183 = .ok (.istore 7, 2) := by decide +kernel
theorem dX10_van_185 : decode cX10_van 185 = .ok (.iload 7, 2) := by decide +kernel
theorem dX10_van_187 : decode cX10_van 187 = .ok (.aload_n 0, 1) := by decide +kernel
theorem dX10_van_188 : decode cX10_van 188 = .ok (.getfield 125, 3) := by decide +kernel
theorem dX10_van_191 : decode cX10_van 191 = .ok (.if_icmp .ge 61, 3) := by decide +kernel
theorem dX10_van_194 : decode cX10_van 194 = .ok (.aload_n 0, 1) := by decide +kernel
theorem dX10_van_195 : decode cX10_van 195 = .ok (.iload 7, 2) := by decide +kernel
theorem dX10_van_197 : decode cX10_van 197 = .ok (.invokevirtual 134, 3) := by decide +kernel
theorem dX10_van_200 : decode cX10_van 200 = .ok (.ifCond .eq 46, 3) := by decide +kernel
theorem dX10_van_203 : decode cX10_van 203 = .ok (.aload_n 0, 1) := by decide +kernel
theorem dX10_van_204 : decode cX10_van 204 = .ok (.getfield 40, 3) := by decide +kernel
theorem dX10_van_207 : decode cX10_van 207 = .ok (.iload 7, 2) := by decide +kernel
theorem dX10_van_209 : decode cX10_van 209 = .ok (.iaload, 1) := by decide +kernel
theorem dX10_van_210 : decode cX10_van 210 = .ok (.iload 5, 2) := by decide +kernel
theorem dX10_van_212 : decode cX10_van 212 = .ok (.if_icmp .eq 6, 3) := by decide +kernel
theorem dX10_van_215 : decode cX10_van 215 = .ok (.goto 31, 3) := by decide +kernel
theorem dX10_van_218 : decode cX10_van 218 = .ok (.aload_n 0, 1) := by decide +kernel
theorem dX10_van_219 : decode cX10_van 219 = .ok (.getfield 55, 3) := by decide +kernel
theorem dX10_van_222 : decode cX10_van 222 = .ok (.iload 7, 2) := by decide +kernel
theorem dX10_van_224 : decode cX10_van 224 = .ok (.iconst 2, 1) := by decide +kernel
theorem dX10_van_225 : decode cX10_van 225 = .ok (.aload_n 0, 1) := by decide +kernel
theorem dX10_van_226 : decode cX10_van 226 = .ok (.getfield 119, 3) := by decide +kernel
theorem dX10_van_229 : decode cX10_van 229 = .ok (.imul, 1) := by decide +kernel
theorem dX10_van_230 : decode cX10_van 230 = .ok (.aload_n 0, 1) := by decide +kernel
theorem dX10_van_231 : decode cX10_van 231 = .ok (.getfield 128, 3) := by decide +kernel
theorem dX10_van_234 : decode cX10_van 234 = .ok (.iadd, 1) := by decide +kernel
theorem dX10_van_235 : decode cX10_van 235 = .ok (.iastore, 1) := by decide +kernel
theorem dX10_van_236 : decode cX10_van 236 = .ok (.iload_n 3, 1) := by decide +kernel
theorem dX10_van_237 : decode cX10_van 237 = .ok (.aload_n 0, 1) := by decide +kernel
theorem dX10_van_238 : decode cX10_van 238 = .ok (.getfield 37, 3) := by decide +kernel
theorem dX10_van_241 : decode cX10_van 241 = .ok (.iload 7, 2) := by decide +kernel
theorem dX10_van_243 : decode cX10_van 243 = .ok (.iaload, 1) := by decide +kernel
theorem dX10_van_244 : decode cX10_van 244 = .ok (.iadd, 1) := by decide +kernel
theorem dX10_van_245 : decode cX10_van 245 = .ok (.istore_n 3, 1) := by decide +kernel
theorem dX10_van_246 : decode cX10_van 246 = .ok (.iinc 7 1, 3) := by decide +kernel
theorem dX10_van_249 : decode cX10_van 249 = .ok (.goto (-64), 3) := by decide +kernel
theorem dX10_van_252 : decode cX10_van 252 = .ok (.aload_n 0, 1) := by decide +kernel
theorem dX10_van_253 : decode cX10_van 253 = .ok (.getfield 61, 3) := by decide +kernel
theorem dX10_van_256 : decode cX10_van 256 = .ok (.aload_n 0, 1) := by decide +kernel
theorem dX10_van_257 : decode cX10_van 257 = .ok (.getfield 140, 3) := by decide +kernel
theorem dX10_van_260 : decode cX10_van 260 = .ok (.iload 5, 2) := by decide +kernel
theorem dX10_van_262 : decode cX10_van 262 = .ok (.iastore, 1) := by decide +kernel
theorem dX10_van_263 : decode cX10_van 263 = .ok (.aload_n 0, 1) := by decide +kernel
theorem dX10_van_264 : decode cX10_van 264 = .ok (.dup, 1) := by decide +kernel
theorem dX10_van_265 : decode cX10_van 265 = .ok (.getfield 140, 3) := by decide +kernel
theorem dX10_van_268 : decode cX10_van 268 = .ok (.iconst 1, 1) := by decide +kernel
theorem dX10_van_269 : decode cX10_van 269 = .ok (.iadd, 1) := by decide +kernel
theorem dX10_van_270 : decode cX10_van 270 = .ok (.putfield 140, 3) := by decide +kernel
theorem dX10_van_273 : decode cX10_van 273 = .ok (.iinc 4 1, 3) := by decide +kernel
theorem dX10_van_276 : decode cX10_van 276 = .ok (.goto (-219), 3) := by decide +kernel
theorem dX10_van_279 : decode cX10_van 279 = .ok (.aload_n 0, 1) := by decide +kernel
theorem dX10_van_280 : decode cX10_van 280 = .ok (.dup, 1) := by decide +kernel
theorem dX10_van_281 : decode cX10_van 281 = .ok (.getfield 128, 3) := by decide +kernel
theorem dX10_van_284 : decode cX10_van 284 = .ok (.iconst 1, 1) := by decide +kernel
theorem dX10_van_285 : decode cX10_van 285 = .ok (.iadd, 1) := by decide +kernel
theorem dX10_van_286 : decode cX10_van 286 = .ok (.putfield 128, 3) := by decide +kernel
theorem dX10_van_289 : decode cX10_van 289 = .ok (.iload_n 3, 1) := by decide +kernel
theorem dX10_van_290 : decode cX10_van 290 = .ok (.ireturn, 1) := by decide +kernel
theorem dX10_house_0 : decode cX10_house 0 = .ok (.iload_n 1, 1) := by decide +kernel
theorem dX10_house_1 : decode cX10_house 1 = .ok (.iconst 0, 1) := by decide +kernel
theorem dX10_house_2 : decode cX10_house 2 = .ok (.aload_n 0, 1) := by decide +kernel
theorem dX10_house_3 : decode cX10_house 3 = .ok (.getfield 140, 3) := by decide +kernel
theorem dX10_house_6 : decode cX10_house 6 = .ok (.iconst 1, 1) := by decide +kernel
theorem dX10_house_7 : decode cX10_house 7 = .ok (.isub, 1) := by decide +kernel
theorem dX10_house_8 : decode cX10_house 8 = .ok (.invokestatic 111, 3) := by decide +kernel
theorem dX10_house_11 : decode cX10_house 11 = .ok (.ifCond .eq 12, 3) := by decide +kernel
theorem dX10_house_14 : decode cX10_house 14 = .ok (.aload_n 0, 1) := by decide +kernel
theorem dX10_house_15 : decode cX10_house 15 = .ok (.getfield 61, 3) := by decide +kernel
theorem dX10_house_18 : decode cX10_house 18 = .ok (.iload_n 1, 1) := by decide +kernel
theorem dX10_house_19 : decode cX10_house 19 = .ok (.iaload, 1) := by decide +kernel
theorem dX10_house_20 : decode cX10_house 20 = .ok (.goto 4, 3) := by decide +kernel
theorem dX10_house_23 : decode cX10_house 23 = .ok (.iconst (-1), 1) := by decide +kernel
theorem dX10_house_24 : decode cX10_house 24 = .ok (.ireturn, 1) := by decide +kernel
theorem dX10_feed_0 : decode cX10_feed 0 = .ok (.aload_n 0, 1) := by decide +kernel
theorem dX10_feed_1 : decode cX10_feed 1 = .ok (.getfield 143, 3) := by decide +kernel
theorem dX10_feed_4 : decode cX10_feed 4 = .ok (.bipush 20, 2) := by decide +kernel
theorem dX10_feed_6 : decode cX10_feed 6 = .ok (.iadd, 1) := by decide +kernel
theorem dX10_feed_7 : decode cX10_feed 7 = .ok (.sipush 400, 3) := by decide +kernel
theorem dX10_feed_10 : decode cX10_feed 10 = .ok (.if_icmp .le 5, 3) := by decide +kernel
theorem dX10_feed_13 : decode cX10_feed 13 = .ok (.iconst (-1), 1) := by decide +kernel
theorem dX10_feed_14 : decode cX10_feed 14 = .ok (.ireturn, 1) := by decide +kernel
theorem dX10_feed_15 : decode cX10_feed 15 = .ok (.iconst 0, 1) := by decide +kernel
theorem dX10_feed_16 : decode cX10_feed 16 = .ok (.istore 6, 2) := by decide +kernel
theorem dX10_feed_18 : decode cX10_feed 18 = .ok (.iload 6, 2) := by decide +kernel
theorem dX10_feed_20 : decode cX10_feed 20 = .ok (.bipush 20, 2) := by decide +kernel
theorem dX10_feed_22 : decode cX10_feed 22 = .ok (.if_icmp .ge 93, 3) := by decide +kernel
theorem dX10_feed_25 : decode cX10_feed 25 = .ok (.iload 6, 2) := by decide +kernel
theorem dX10_feed_27 : decode cX10_feed 27 = .ok (.iconst 4, 1) := by decide +kernel
theorem dX10_feed_28 : decode cX10_feed 28 = .ok (.if_icmp .ge 7, 3) := by decide +kernel
theorem dX10_feed_31 : decode cX10_feed 31 = .ok (.iload_n 1, 1) := by decide +kernel
theorem dX10_feed_32 : decode cX10_feed 32 = .ok (.goto 39, 3) := by decide +kernel
theorem dX10_feed_35 : decode cX10_feed 35 = .ok (.iload 6, 2) := by decide +kernel
theorem dX10_feed_37 : decode cX10_feed 37 = .ok (.bipush 8, 2) := by decide +kernel
theorem dX10_feed_39 : decode cX10_feed 39 = .ok (.if_icmp .ge 7, 3) := by decide +kernel
theorem dX10_feed_42 : decode cX10_feed 42 = .ok (.iload_n 2, 1) := by decide +kernel
theorem dX10_feed_43 : decode cX10_feed 43 = .ok (.goto 28, 3) := by decide +kernel
theorem dX10_feed_46 : decode cX10_feed 46 = .ok (.iload 6, 2) := by decide +kernel
theorem dX10_feed_48 : decode cX10_feed 48 = .ok (.bipush 12, 2) := by decide +kernel
theorem dX10_feed_50 : decode cX10_feed 50 = .ok (.if_icmp .ge 7, 3) := by decide +kernel
theorem dX10_feed_53 : decode cX10_feed 53 = .ok (.iload_n 3, 1) := by decide +kernel
theorem dX10_feed_54 : decode cX10_feed 54 = .ok (.goto 17, 3) := by decide +kernel
theorem dX10_feed_57 : decode cX10_feed 57 = .ok (.iload 6, 2) := by decide +kernel
theorem dX10_feed_59 : decode cX10_feed 59 = .ok (.bipush 16, 2) := by decide +kernel
theorem dX10_feed_61 : decode cX10_feed 61 = .ok (.if_icmp .ge 8, 3) := by decide +kernel
theorem dX10_feed_64 : decode cX10_feed 64 = .ok (.iload 4, 2) := by decide +kernel
theorem dX10_feed_66 : decode cX10_feed 66 = .ok (.goto 5, 3) := by decide +kernel
theorem dX10_feed_69 : decode cX10_feed 69 = .ok (.iload 5, 2) := by decide +kernel
theorem dX10_feed_71 : decode cX10_feed 71 = .ok (.istore 7, 2) := by decide +kernel
theorem dX10_feed_73 : decode cX10_feed 73 = .ok (.aload_n 0, 1) := by decide +kernel
theorem dX10_feed_74 : decode cX10_feed 74 = .ok (.getfield 89, 3) := by decide +kernel
theorem dX10_feed_77 : decode cX10_feed 77 = .ok (.aload_n 0, 1) := by decide +kernel
theorem dX10_feed_78 : decode cX10_feed 78 = .ok (.getfield 143, 3) := by decide +kernel
theorem dX10_feed_81 : decode cX10_feed 81 = .ok (.iload 7, 2) := by decide +kernel
theorem dX10_feed_83 : decode cX10_feed 83 = .ok (.bipush 24, 2) := by decide +kernel
theorem dX10_feed_85 : decode cX10_feed 85 = .ok (.bipush 8, 2) := by decide +kernel
theorem dX10_feed_87 : decode cX10_feed 87 = .ok (.iload 6, 2) := by decide +kernel
theorem dX10_feed_89 : decode cX10_feed 89 = .ok (.iconst 4, 1) := by decide +kernel
theorem dX10_feed_90 : decode cX10_feed 90 = .ok (.irem, 1) := by decide +kernel
theorem dX10_feed_91 : decode cX10_feed 91 = .ok (.imul, 1) := by decide +kernel
theorem dX10_feed_92 : decode cX10_feed 92 = .ok (.isub, 1) := by decide +kernel
theorem dX10_feed_93 : decode cX10_feed 93 = .ok (.ishr, 1) := by decide +kernel
theorem dX10_feed_94 : decode cX10_feed 94 = .ok (.sipush 255, 3) := by decide +kernel
theorem dX10_feed_97 : decode cX10_feed 97 = .ok (.iand, 1) := by decide +kernel
theorem dX10_feed_98 : decode cX10_feed 98 = .ok (.iastore, 1) := by decide +kernel
theorem dX10_feed_99 : decode cX10_feed 99 = .ok (.aload_n 0, 1) := by decide +kernel
theorem dX10_feed_100 : decode cX10_feed 100 = .ok (.dup, 1) := by decide +kernel
theorem dX10_feed_101 : decode cX10_feed 101 = .ok (.getfield 143, 3) := by decide +kernel
theorem dX10_feed_104 : decode cX10_feed 104 = .ok (.iconst 1, 1) := by decide +kernel
theorem dX10_feed_105 : decode cX10_feed 105 = .ok (.iadd, 1) := by decide +kernel
theorem dX10_feed_106 : decode cX10_feed 106 = .ok (.putfield 143, 3) := by decide +kernel
theorem dX10_feed_109 : decode cX10_feed 109 = .ok (.iinc 6 1, 3) := by decide +kernel
theorem dX10_feed_112 : decode cX10_feed 112 = .ok (.goto (-94), 3) := by decide +kernel
theorem dX10_feed_115 : decode cX10_feed 115 = .ok (.aload_n 0, 1) := by decide +kernel
theorem dX10_feed_116 : decode cX10_feed 116 = .ok (.getfield 143, 3) := by decide +kernel
theorem dX10_feed_119 : decode cX10_feed 119 = .ok (.ireturn, 1) := by decide +kernel
theorem dX10_end_0 : decode cX10_end 0 = .ok (.iload_n 1, 1) := by decide +kernel
theorem dX10_end_1 : decode cX10_end 1 = .ok (.iconst 0, 1) := by decide +kernel
theorem dX10_end_2 : decode cX10_end 2 = .ok (.aload_n 0, 1) := by decide +kernel
theorem dX10_end_3 : decode cX10_end 3 = .ok (.getfield 143, 3) := by decide +kernel
theorem dX10_end_6 : decode cX10_end 6 = .ok (.invokestatic 111, 3) := by decide +kernel
theorem dX10_end_9 : decode cX10_end 9 = .ok (.ifCond .ne 5, 3) := by decide +kernel
theorem dX10_end_12 : decode cX10_end 12 = .ok (.iconst 0, 1) := by decide +kernel
theorem dX10_end_13 : decode cX10_end 13 = .ok (.ireturn, 1) := by decide +kernel
theorem dX10_end_14 : decode cX10_end 14 = .ok (.aload_n 0, 1) := by decide +kernel
theorem dX10_end_15 : decode cX10_end 15 = .ok (.iload_n 1, 1) := by decide +kernel
theorem dX10_end_16 : decode cX10_end 16 = .ok (.putfield 143, 3) := by decide +kernel
theorem dX10_end_19 : decode cX10_end 19 = .ok (.iconst 1, 1) := by decide +kernel
theorem dX10_end_20 : decode cX10_end 20 = .ok (.ireturn, 1) := by decide +kernel
theorem dX10_see_0 : decode cX10_see 0 = .ok (.iload_n 1, 1) := by decide +kernel
theorem dX10_see_1 : decode cX10_see 1 = .ok (.aload_n 0, 1) := by decide +kernel
theorem dX10_see_2 : decode cX10_see 2 = .ok (.getfield 143, 3) := by decide +kernel
theorem dX10_see_5 : decode cX10_see 5 = .ok (.if_icmp .ge 12, 3) := by decide +kernel
theorem dX10_see_8 : decode cX10_see 8 = .ok (.aload_n 0, 1) := by decide +kernel
theorem dX10_see_9 : decode cX10_see 9 = .ok (.getfield 89, 3) := by decide +kernel
theorem dX10_see_12 : decode cX10_see 12 = .ok (.iload_n 1, 1) := by decide +kernel
theorem dX10_see_13 : decode cX10_see 13 = .ok (.iaload, 1) := by decide +kernel
theorem dX10_see_14 : decode cX10_see 14 = .ok (.goto 4, 3) := by decide +kernel
theorem dX10_see_17 : decode cX10_see 17 = .ok (.iconst (-1), 1) := by decide +kernel
theorem dX10_see_18 : decode cX10_see 18 = .ok (.ireturn, 1) := by decide +kernel
theorem dX10_isLetter_0 : decode cX10_isLetter 0 = .ok (.iload_n 0, 1) := by decide +kernel
theorem dX10_isLetter_1 : decode cX10_isLetter 1 = .ok (.bipush 97, 2) := by decide +kernel
theorem dX10_isLetter_3 : decode cX10_isLetter 3 = .ok (.bipush 122, 2) := by decide +kernel
theorem dX10_isLetter_5 : decode cX10_isLetter 5 = .ok (.invokestatic 111, 3) := by decide +kernel
theorem dX10_isLetter_8 : decode cX10_isLetter 8 = .ok (.ifCond .ne 14, 3) := by decide +kernel
theorem dX10_isLetter_11 : decode cX10_isLetter 11 = .ok (.iload_n 0, 1) := by decide +kernel
theorem dX10_isLetter_12 : decode cX10_isLetter 12 = .ok (.bipush 65, 2) := by decide +kernel
theorem dX10_isLetter_14 : decode cX10_isLetter 14 = .ok (.bipush 90, 2) := by decide +kernel
theorem dX10_isLetter_16 : decode cX10_isLetter 16 = .ok (.invokestatic 111, 3) := by decide +kernel
theorem dX10_isLetter_19 : decode cX10_isLetter 19 = .ok (.ifCond .eq 7, 3) := by decide +kernel
theorem dX10_isLetter_22 : decode cX10_isLetter 22 = .ok (.iconst 1, 1) := by decide +kernel
theorem dX10_isLetter_23 : decode cX10_isLetter 23 = .ok (.goto 4, 3) := by decide +kernel
theorem dX10_isLetter_26 : decode cX10_isLetter 26 = .ok (.iconst 0, 1) := by decide +kernel
theorem dX10_isLetter_27 : decode cX10_isLetter 27 = .ok (.ireturn, 1) := by decide +kernel
theorem dX10_isDigit_0 : decode cX10_isDigit 0 = .ok (.iload_n 0, 1) := by decide +kernel
theorem dX10_isDigit_1 : decode cX10_isDigit 1 = .ok (.bipush 48, 2) := by decide +kernel
theorem dX10_isDigit_3 : decode cX10_isDigit 3 = .ok (.bipush 57, 2) := by decide +kernel
theorem dX10_isDigit_5 : decode cX10_isDigit 5 = .ok (.invokestatic 111, 3) := by decide +kernel
theorem dX10_isDigit_8 : decode cX10_isDigit 8 = .ok (.ireturn, 1) := by decide +kernel
theorem dX10_word_0 : decode cX10_word 0 = .ok (.lload_n 0, 1) := by decide +kernel
theorem dX10_word_1 : decode cX10_word 1 = .ok (.ldc2_w 146, 3) := by decide +kernel
theorem dX10_word_4 : decode cX10_word 4 = .ok (.lcmp, 1) := by decide +kernel
theorem dX10_word_5 : decode cX10_word 5 = .ok (.ifCond .ne 5, 3) := by decide +kernel
theorem dX10_word_8 : decode cX10_word 8 = .ok (.iconst 3, 1) := by decide +kernel
theorem dX10_word_9 : decode cX10_word 9 = .ok (.ireturn, 1) := by decide +kernel
theorem dX10_word_10 : decode cX10_word 10 = .ok (.lload_n 0, 1) := by decide +kernel
theorem dX10_word_11 : decode cX10_word 11 = .ok (.ldc2_w 148, 3) := by decide +kernel
theorem dX10_word_14 : decode cX10_word 14 = .ok (.lcmp, 1) := by decide +kernel
theorem dX10_word_15 : decode cX10_word 15 = .ok (.ifCond .ne 5, 3) := by decide +kernel
theorem dX10_word_18 : decode cX10_word 18 = .ok (.iconst 4, 1) := by decide +kernel
theorem dX10_word_19 : decode cX10_word 19 = .ok (.ireturn, 1) := by decide +kernel
theorem dX10_word_20 : decode cX10_word 20 = .ok (.lload_n 0, 1) := by decide +kernel
theorem dX10_word_21 : decode cX10_word 21 = .ok (.ldc2_w 150, 3) := by decide +kernel
theorem dX10_word_24 : decode cX10_word 24 = .ok (.lcmp, 1) := by decide +kernel
theorem dX10_word_25 : decode cX10_word 25 = .ok (.ifCond .ne 5, 3) := by decide +kernel
theorem dX10_word_28 : decode cX10_word 28 = .ok (.iconst 5, 1) := by decide +kernel
theorem dX10_word_29 : decode cX10_word 29 = .ok (.ireturn, 1) := by decide +kernel
theorem dX10_word_30 : decode cX10_word 30 = .ok (.lload_n 0, 1) := by decide +kernel
theorem dX10_word_31 : decode cX10_word 31 = .ok (.ldc2_w 152, 3) := by decide +kernel
theorem dX10_word_34 : decode cX10_word 34 = .ok (.lcmp, 1) := by decide +kernel
theorem dX10_word_35 : decode cX10_word 35 = .ok (.ifCond .ne 6, 3) := by decide +kernel
theorem dX10_word_38 : decode cX10_word 38 = .ok (.ldc 154, 2) := by decide +kernel
theorem dX10_word_40 : decode cX10_word 40 = .ok (.ireturn, 1) := by decide +kernel
theorem dX10_word_41 : decode cX10_word 41 = .ok (.lload_n 0, 1) := by decide +kernel
theorem dX10_word_42 : decode cX10_word 42 = .ok (.ldc2_w 155, 3) := by decide +kernel
theorem dX10_word_45 : decode cX10_word 45 = .ok (.lcmp, 1) := by decide +kernel
theorem dX10_word_46 : decode cX10_word 46 = .ok (.ifCond .ne 6, 3) := by decide +kernel
theorem dX10_word_49 : decode cX10_word 49 = .ok (.ldc 157, 2) := by decide +kernel
theorem dX10_word_51 : decode cX10_word 51 = .ok (.ireturn, 1) := by decide +kernel
theorem dX10_word_52 : decode cX10_word 52 = .ok (.lload_n 0, 1) := by decide +kernel
theorem dX10_word_53 : decode cX10_word 53 = .ok (.ldc2_w 158, 3) := by decide +kernel
theorem dX10_word_56 : decode cX10_word 56 = .ok (.lcmp, 1) := by decide +kernel
theorem dX10_word_57 : decode cX10_word 57 = .ok (.ifCond .ne 6, 3) := by decide +kernel
theorem dX10_word_60 : decode cX10_word 60 = .ok (.ldc 160, 2) := by decide +kernel
theorem dX10_word_62 : decode cX10_word 62 = .ok (.ireturn, 1) := by decide +kernel
theorem dX10_word_63 : decode cX10_word 63 = .ok (.lload_n 0, 1) := by decide +kernel
theorem dX10_word_64 : decode cX10_word 64 = .ok (.ldc2_w 161, 3) := by decide +kernel
theorem dX10_word_67 : decode cX10_word 67 = .ok (.lcmp, 1) := by decide +kernel
theorem dX10_word_68 : decode cX10_word 68 = .ok (.ifCond .ne 8, 3) := by decide +kernel
theorem dX10_word_71 : decode cX10_word 71 = .ok (.ldc 163, 2) := by decide +kernel
theorem dX10_word_73 : decode cX10_word 73 = .ok (.goto 4, 3) := by decide +kernel
theorem dX10_word_76 : decode cX10_word 76 = .ok (.iconst 1, 1) := by decide +kernel
theorem dX10_word_77 : decode cX10_word 77 = .ok (.ireturn, 1) := by decide +kernel
theorem dX10_next0_0 : decode cX10_next0 0 = .ok (.aload_n 0, 1) := by decide +kernel
theorem dX10_next0_1 : decode cX10_next0 1 = .ok (.aload_n 0, 1) := by decide +kernel
theorem dX10_next0_2 : decode cX10_next0 2 = .ok (.getfield 164, 3) := by decide +kernel
theorem dX10_next0_5 : decode cX10_next0 5 = .ok (.invokevirtual 167, 3) := by decide +kernel
theorem dX10_next0_8 : decode cX10_next0 8 = .ok (.bipush 32, 2) := by decide +kernel
theorem dX10_next0_10 : decode cX10_next0 10 = .ok (.if_icmp .eq 16, 3) := by decide +kernel
theorem dX10_next0_13 : decode cX10_next0 13 = .ok (.aload_n 0, 1) := by decide +kernel
theorem dX10_next0_14 : decode cX10_next0 14 = .ok (.aload_n 0, 1) := by decide +kernel
theorem dX10_next0_15 : decode cX10_next0 15 = .ok (.getfield 164, 3) := by decide +kernel
theorem dX10_next0_18 : decode cX10_next0 18 = .ok (.invokevirtual 167, 3) := by decide +kernel
theorem dX10_next0_21 : decode cX10_next0 21 = .ok (.bipush 10, 2) := by decide +kernel
theorem dX10_next0_23 : decode cX10_next0 23 = .ok (.if_icmp .ne 16, 3) := by decide +kernel
theorem dX10_next0_26 : decode cX10_next0 26 = .ok (.aload_n 0, 1) := by decide +kernel
theorem dX10_next0_27 : decode cX10_next0 27 = .ok (.dup, 1) := by decide +kernel
theorem dX10_next0_28 : decode cX10_next0 28 = .ok (.getfield 164, 3) := by decide +kernel
theorem dX10_next0_31 : decode cX10_next0 31 = .ok (.iconst 1, 1) := by decide +kernel
theorem dX10_next0_32 : decode cX10_next0 32 = .ok (.iadd, 1) := by decide +kernel
theorem dX10_next0_33 : decode cX10_next0 33 = .ok (.putfield 164, 3) := by decide +kernel
theorem dX10_next0_36 : decode cX10_next0 36 = .ok (.goto (-36), 3) := by decide +kernel
theorem dX10_next0_39 : decode cX10_next0 39 = .ok (.aload_n 0, 1) := by decide +kernel
theorem dX10_next0_40 : decode cX10_next0 40 = .ok (.aload_n 0, 1) := by decide +kernel
theorem dX10_next0_41 : decode cX10_next0 41 = .ok (.getfield 164, 3) := by decide +kernel
theorem dX10_next0_44 : decode cX10_next0 44 = .ok (.putfield 171, 3) := by decide +kernel
theorem dX10_next0_47 : decode cX10_next0 47 = .ok (.aload_n 0, 1) := by decide +kernel
theorem dX10_next0_48 : decode cX10_next0 48 = .ok (.aload_n 0, 1) := by decide +kernel
theorem dX10_next0_49 : decode cX10_next0 49 = .ok (.getfield 164, 3) := by decide +kernel
theorem dX10_next0_52 : decode cX10_next0 52 = .ok (.invokevirtual 167, 3) := by decide +kernel
theorem dX10_next0_55 : decode cX10_next0 55 = .ok (.istore_n 1, 1) := by decide +kernel
theorem dX10_next0_56 : decode cX10_next0 56 = .ok (.iconst 0, 1) := by decide +kernel
theorem dX10_next0_57 : decode cX10_next0 57 = .ok (.istore_n 2, 1) := by decide +kernel
theorem dX10_next0_58 : decode cX10_next0 58 = .ok (.iload_n 1, 1) := by decide +kernel
theorem dX10_next0_59 : decode cX10_next0 59 = .ok (.iconst (-1), 1) := by decide +kernel
theorem dX10_next0_60 : decode cX10_next0 60 = .ok (.if_icmp .ne 11, 3) := by decide +kernel
theorem dX10_next0_63 : decode cX10_next0 63 = .ok (.aload_n 0, 1) := by decide +kernel
theorem dX10_next0_64 : decode cX10_next0 64 = .ok (.iconst 0, 1) := by decide +kernel
theorem dX10_next0_65 : decode cX10_next0 65 = .ok (.putfield 174, 3) := by decide +kernel
theorem dX10_next0_68 : decode cX10_next0 68 = .ok (.goto 262, 3) := by decide +kernel
theorem dX10_next0_71 : decode cX10_next0 71 = .ok (.iload_n 1, 1) := by decide +kernel
theorem dX10_next0_72 : decode cX10_next0 72 = .ok (.invokestatic 177, 3) := by decide +kernel
theorem dX10_next0_75 : decode cX10_next0 75 = .ok (.ifCond .eq 77, 3) := by decide +kernel
theorem dX10_next0_78 : decode cX10_next0 78 = .ok (.lconst 0, 1) := by decide +kernel
theorem dX10_next0_79 : decode cX10_next0 79 = .ok (.lstore_n 3, 1) := by decide +kernel
theorem dX10_next0_80 : decode cX10_next0 80 = .ok (.aload_n 0, 1) := by decide +kernel
theorem dX10_next0_81 : decode cX10_next0 81 = .ok (.aload_n 0, 1) := by decide +kernel
theorem dX10_next0_82 : decode cX10_next0 82 = .ok (.getfield 164, 3) := by decide +kernel
theorem dX10_next0_85 : decode cX10_next0 85 = .ok (.invokevirtual 167, 3) := by decide +kernel
theorem dX10_next0_88 : decode cX10_next0 88 = .ok (.invokestatic 177, 3) := by decide +kernel
theorem dX10_next0_91 : decode cX10_next0 91 = .ok (.ifCond .eq 40, 3) := by decide +kernel
theorem dX10_next0_94 : decode cX10_next0 94 = .ok (.iload_n 2, 1) := by decide +kernel
theorem dX10_next0_95 : decode cX10_next0 95 = .ok (.bipush 7, 2) := by decide +kernel
theorem dX10_next0_97 : decode cX10_next0 97 = .ok (.if_icmp .ge 18, 3) := by decide +kernel
theorem dX10_next0_100 : decode cX10_next0 100 = .ok (.lload_n 3, 1) := by decide +kernel
theorem dX10_next0_101 : decode cX10_next0 101 = .ok (.bipush 8, 2) := by decide +kernel
theorem dX10_next0_103 : decode cX10_next0 103 = .ok (.lshl, 1) := by decide +kernel
theorem dX10_next0_104 : decode cX10_next0 104 = .ok (.aload_n 0, 1) := by decide +kernel
theorem dX10_next0_105 : decode cX10_next0 105 = .ok (.aload_n 0, 1) := by decide +kernel
theorem dX10_next0_106 : decode cX10_next0 106 = .ok (.getfield 164, 3) := by decide +kernel
theorem dX10_next0_109 : decode cX10_next0 109 = .ok (.invokevirtual 167, 3) := by decide +kernel
theorem dX10_next0_112 : decode cX10_next0 112 = .ok (.i2l, 1) := by decide +kernel
theorem dX10_next0_113 : decode cX10_next0 113 = .ok (.lor, 1) := by decide +kernel
theorem dX10_next0_114 : decode cX10_next0 114 = .ok (.lstore_n 3, 1) := by decide +kernel
theorem dX10_next0_115 : decode cX10_next0 115 = .ok (.iinc 2 1, 3) := by decide +kernel
theorem dX10_next0_118 : decode cX10_next0 118 = .ok (.aload_n 0, 1) := by decide +kernel
theorem dX10_next0_119 : decode cX10_next0 119 = .ok (.dup, 1) := by decide +kernel
theorem dX10_next0_120 : decode cX10_next0 120 = .ok (.getfield 164, 3) := by decide +kernel
theorem dX10_next0_123 : decode cX10_next0 123 = .ok (.iconst 1, 1) := by decide +kernel
theorem dX10_next0_124 : decode cX10_next0 124 = .ok (.iadd, 1) := by decide +kernel
theorem dX10_next0_125 : decode cX10_next0 125 = .ok (.putfield 164, 3) := by decide +kernel
theorem dX10_next0_128 : decode cX10_next0 128 = .ok (.goto (-48), 3) := by decide +kernel
theorem dX10_next0_131 : decode cX10_next0 131 = .ok (.aload_n 0, 1) := by decide +kernel
theorem dX10_next0_132 : decode cX10_next0 132 = .ok (.iload_n 2, 1) := by decide +kernel
theorem dX10_next0_133 : decode cX10_next0 133 = .ok (.bipush 7, 2) := by decide +kernel
theorem dX10_next0_135 : decode cX10_next0 135 = .ok (.if_icmp .ge 10, 3) := by decide +kernel
theorem dX10_next0_138 : decode cX10_next0 138 = .ok (.lload_n 3, 1) := by decide +kernel
theorem dX10_next0_139 : decode cX10_next0 139 = .ok (.invokestatic 180, 3) := by decide +kernel
theorem dX10_next0_142 : decode cX10_next0 142 = .ok (.goto 4, 3) := by decide +kernel
theorem dX10_next0_145 : decode cX10_next0 145 = .ok (.iconst 1, 1) := by decide +kernel
theorem dX10_next0_146 : decode cX10_next0 146 = .ok (.putfield 174, 3) := by decide +kernel
theorem dX10_next0_149 : decode cX10_next0 149 = .ok (.goto 181, 3) := by decide +kernel
theorem dX10_next0_152 : decode cX10_next0 152 = .ok (.iload_n 1, 1) := by decide +kernel
theorem dX10_next0_153 : decode cX10_next0 153 = .ok (.invokestatic 184, 3) := by decide +kernel
theorem dX10_next0_156 : decode cX10_next0 156 = .ok (.ifCond .eq 85, 3) := by decide +kernel
theorem dX10_next0_159 : decode cX10_next0 159 = .ok (.aload_n 0, 1) := by decide +kernel
theorem dX10_next0_160 : decode cX10_next0 160 = .ok (.iconst 0, 1) := by decide +kernel
theorem dX10_next0_161 : decode cX10_next0 161 = .ok (.putfield 187, 3) := by decide +kernel
theorem dX10_next0_164 : decode cX10_next0 164 = .ok (.aload_n 0, 1) := by decide +kernel
theorem dX10_next0_165 : decode cX10_next0 165 = .ok (.aload_n 0, 1) := by decide +kernel
theorem dX10_next0_166 : decode cX10_next0 166 = .ok (.getfield 164, 3) := by decide +kernel
theorem dX10_next0_169 : decode cX10_next0 169 = .ok (.invokevirtual 167, 3) := by decide +kernel
theorem dX10_next0_172 : decode cX10_next0 172 = .ok (.invokestatic 184, 3) := by decide +kernel
theorem dX10_next0_175 : decode cX10_next0 175 = .ok (.ifCond .eq 48, 3) := by decide +kernel
theorem dX10_next0_178 : decode cX10_next0 178 = .ok (.iload_n 2, 1) := by decide +kernel
theorem dX10_next0_179 : decode cX10_next0 179 = .ok (.bipush 6, 2) := by decide +kernel
theorem dX10_next0_181 : decode cX10_next0 181 = .ok (.if_icmp .ge 26, 3) := by decide +kernel
theorem dX10_next0_184 : decode cX10_next0 184 = .ok (.aload_n 0, 1) := by decide +kernel
theorem dX10_next0_185 : decode cX10_next0 185 = .ok (.bipush 10, 2) := by decide +kernel
theorem dX10_next0_187 : decode cX10_next0 187 = .ok (.aload_n 0, 1) := by decide +kernel
theorem dX10_next0_188 : decode cX10_next0 188 = .ok (.getfield 187, 3) := by decide +kernel
theorem dX10_next0_191 : decode cX10_next0 191 = .ok (.imul, 1) := by decide +kernel
theorem dX10_next0_192 : decode cX10_next0 192 = .ok (.aload_n 0, 1) := by decide +kernel
theorem dX10_next0_193 : decode cX10_next0 193 = .ok (.aload_n 0, 1) := by decide +kernel
theorem dX10_next0_194 : decode cX10_next0 194 = .ok (.getfield 164, 3) := by decide +kernel
theorem dX10_next0_197 : decode cX10_next0 197 = .ok (.invokevirtual 167, 3) := by decide +kernel
theorem dX10_next0_200 : decode cX10_next0 200 = .ok (.iadd, 1) := by decide +kernel
theorem dX10_next0_201 : decode cX10_next0 201 = .ok (.bipush 48, 2) := by decide +kernel
theorem dX10_next0_203 : decode cX10_next0 203 = .ok (.isub, 1) := by decide +kernel
theorem dX10_next0_204 : decode cX10_next0 204 = .ok (.putfield 187, 3) := by decide +kernel
theorem dX10_next0_207 : decode cX10_next0 207 = .ok (.iinc 2 1, 3) := by decide +kernel
theorem dX10_next0_210 : decode cX10_next0 210 = .ok (.aload_n 0, 1) := by decide +kernel
theorem dX10_next0_211 : decode cX10_next0 211 = .ok (.dup, 1) := by decide +kernel
theorem dX10_next0_212 : decode cX10_next0 212 = .ok (.getfield 164, 3) := by decide +kernel
theorem dX10_next0_215 : decode cX10_next0 215 = .ok (.iconst 1, 1) := by decide +kernel
theorem dX10_next0_216 : decode cX10_next0 216 = .ok (.iadd, 1) := by decide +kernel
theorem dX10_next0_217 : decode cX10_next0 217 = .ok (.putfield 164, 3) := by decide +kernel
theorem dX10_next0_220 : decode cX10_next0 220 = .ok (.goto (-56), 3) := by decide +kernel
theorem dX10_next0_223 : decode cX10_next0 223 = .ok (.aload_n 0, 1) := by decide +kernel
theorem dX10_next0_224 : decode cX10_next0 224 = .ok (.iload_n 2, 1) := by decide +kernel
theorem dX10_next0_225 : decode cX10_next0 225 = .ok (.bipush 7, 2) := by decide +kernel
theorem dX10_next0_227 : decode cX10_next0 227 = .ok (.if_icmp .ge 7, 3) := by decide +kernel
theorem dX10_next0_230 : decode cX10_next0 230 = .ok (.iconst 2, 1) := by decide +kernel
theorem dX10_next0_231 : decode cX10_next0 231 = .ok (.goto 4, 3) := by decide +kernel
theorem dX10_next0_234 : decode cX10_next0 234 = .ok (.iconst 1, 1) := by decide +kernel
theorem dX10_next0_235 : decode cX10_next0 235 = .ok (.putfield 174, 3) := by decide +kernel
theorem dX10_next0_238 : decode cX10_next0 238 = .ok (.goto 92, 3) := by decide +kernel
theorem dX10_next0_241 : decode cX10_next0 241 = .ok (.aload_n 0, 1) := by decide +kernel
theorem dX10_next0_242 : decode cX10_next0 242 = .ok (.dup, 1) := by decide +kernel
theorem dX10_next0_243 : decode cX10_next0 243 = .ok (.getfield 164, 3) := by decide +kernel
theorem dX10_next0_246 : decode cX10_next0 246 = .ok (.iconst 1, 1) := by decide +kernel
theorem dX10_next0_247 : decode cX10_next0 247 = .ok (.iadd, 1) := by decide +kernel
theorem dX10_next0_248 : decode cX10_next0 248 = .ok (.putfield 164, 3) := by decide +kernel
theorem dX10_next0_251 : decode cX10_next0 251 = .ok (.iload_n 1, 1) := by decide +kernel
theorem dX10_next0_252 : decode cX10_next0 252 = .ok (.bipush 59, 2) := by decide +kernel
theorem dX10_next0_254 : decode cX10_next0 254 = .ok (.if_icmp .eq 57, 3) := by decide +kernel
theorem dX10_next0_257 : decode cX10_next0 257 = .ok (.iload_n 1, 1) := by decide +kernel
theorem dX10_next0_258 : decode cX10_next0 258 = .ok (.bipush 43, 2) := by decide +kernel
theorem dX10_next0_260 : decode cX10_next0 260 = .ok (.if_icmp .eq 51, 3) := by decide +kernel
theorem dX10_next0_263 : decode cX10_next0 263 = .ok (.iload_n 1, 1) := by decide +kernel
theorem dX10_next0_264 : decode cX10_next0 264 = .ok (.bipush 45, 2) := by decide +kernel
theorem dX10_next0_266 : decode cX10_next0 266 = .ok (.if_icmp .eq 45, 3) := by decide +kernel
theorem dX10_next0_269 : decode cX10_next0 269 = .ok (.iload_n 1, 1) := by decide +kernel
theorem dX10_next0_270 : decode cX10_next0 270 = .ok (.bipush 42, 2) := by decide +kernel
theorem dX10_next0_272 : decode cX10_next0 272 = .ok (.if_icmp .eq 39, 3) := by decide +kernel
theorem dX10_next0_275 : decode cX10_next0 275 = .ok (.iload_n 1, 1) := by decide +kernel
theorem dX10_next0_276 : decode cX10_next0 276 = .ok (.bipush 47, 2) := by decide +kernel
theorem dX10_next0_278 : decode cX10_next0 278 = .ok (.if_icmp .eq 33, 3) := by decide +kernel
theorem dX10_next0_281 : decode cX10_next0 281 = .ok (.iload_n 1, 1) := by decide +kernel
theorem dX10_next0_282 : decode cX10_next0 282 = .ok (.bipush 40, 2) := by decide +kernel
theorem dX10_next0_284 : decode cX10_next0 284 = .ok (.if_icmp .eq 27, 3) := by decide +kernel
theorem dX10_next0_287 : decode cX10_next0 287 = .ok (.iload_n 1, 1) := by decide +kernel
theorem dX10_next0_288 : decode cX10_next0 288 = .ok (.bipush 41, 2) := by decide +kernel
theorem dX10_next0_290 : decode cX10_next0 290 = .ok (.if_icmp .eq 21, 3) := by decide +kernel
theorem dX10_next0_293 : decode cX10_next0 293 = .ok (.iload_n 1, 1) := by decide +kernel
theorem dX10_next0_294 : decode cX10_next0 294 = .ok (.bipush 60, 2) := by decide +kernel
theorem dX10_next0_296 : decode cX10_next0 296 = .ok (.if_icmp .eq 15, 3) := by decide +kernel
theorem dX10_next0_299 : decode cX10_next0 299 = .ok (.iload_n 1, 1) := by decide +kernel
theorem dX10_next0_300 : decode cX10_next0 300 = .ok (.bipush 61, 2) := by decide +kernel
theorem dX10_next0_302 : decode cX10_next0 302 = .ok (.if_icmp .eq 9, 3) := by decide +kernel
theorem dX10_next0_305 : decode cX10_next0 305 = .ok (.iload_n 1, 1) := by decide +kernel
theorem dX10_next0_306 : decode cX10_next0 306 = .ok (.bipush 62, 2) := by decide +kernel
theorem dX10_next0_308 : decode cX10_next0 308 = .ok (.if_icmp .ne 7, 3) := by decide +kernel
theorem dX10_next0_311 : decode cX10_next0 311 = .ok (.iconst 1, 1) := by decide +kernel
theorem dX10_next0_312 : decode cX10_next0 312 = .ok (.goto 4, 3) := by decide +kernel
theorem dX10_next0_315 : decode cX10_next0 315 = .ok (.iconst 0, 1) := by decide +kernel
theorem dX10_next0_316 : decode cX10_next0 316 = .ok (.istore_n 3, 1) := by decide +kernel
theorem dX10_next0_317 : decode cX10_next0 317 = .ok (.aload_n 0, 1) := by decide +kernel
theorem dX10_next0_318 : decode cX10_next0 318 = .ok (.iload_n 3, 1) := by decide +kernel
theorem dX10_next0_319 : decode cX10_next0 319 = .ok (.ifCond .eq 7, 3) := by decide +kernel
theorem dX10_next0_322 : decode cX10_next0 322 = .ok (.iload_n 1, 1) := by decide +kernel
theorem dX10_next0_323 : decode cX10_next0 323 = .ok (.goto 4, 3) := by decide +kernel
theorem dX10_next0_326 : decode cX10_next0 326 = .ok (.iconst 1, 1) := by decide +kernel
theorem dX10_next0_327 : decode cX10_next0 327 = .ok (.putfield 174, 3) := by decide +kernel
theorem dX10_next0_330 : decode cX10_next0 330 = .ok (.return_, 1) := by decide +kernel
theorem dX10_bad_0 : decode cX10_bad 0 = .ok (.aload_n 0, 1) := by decide +kernel
theorem dX10_bad_1 : decode cX10_bad 1 = .ok (.iload_n 1, 1) := by decide +kernel
theorem dX10_bad_2 : decode cX10_bad 2 = .ok (.putfield 190, 3) := by decide +kernel
theorem dX10_bad_5 : decode cX10_bad 5 = .ok (.aload_n 0, 1) := by decide +kernel
theorem dX10_bad_6 : decode cX10_bad 6 = .ok (.aload_n 0, 1) := by decide +kernel
theorem dX10_bad_7 : decode cX10_bad 7 = .ok (.getfield 171, 3) := by decide +kernel
theorem dX10_bad_10 : decode cX10_bad 10 = .ok (.putfield 193, 3) := by decide +kernel
theorem dX10_bad_13 : decode cX10_bad 13 = .ok (.iconst 0, 1) := by decide +kernel
theorem dX10_bad_14 : decode cX10_bad 14 = .ok (.ireturn, 1) := by decide +kernel
theorem dX10_need_0 : decode cX10_need 0 = .ok (.aload_n 0, 1) := by decide +kernel
theorem dX10_need_1 : decode cX10_need 1 = .ok (.getfield 174, 3) := by decide +kernel
theorem dX10_need_4 : decode cX10_need 4 = .ok (.iload_n 1, 1) := by decide +kernel
theorem dX10_need_5 : decode cX10_need 5 = .ok (.if_icmp .eq 9, 3) := by decide +kernel
theorem dX10_need_8 : decode cX10_need 8 = .ok (.aload_n 0, 1) := by decide +kernel
theorem dX10_need_9 : decode cX10_need 9 = .ok (.iconst 1, 1) := by decide +kernel
theorem dX10_need_10 : decode cX10_need 10 = .ok (.invokevirtual 196, 3) := by decide +kernel
theorem dX10_need_13 : decode cX10_need 13 = .ok (.ireturn, 1) := by decide +kernel
theorem dX10_need_14 : decode cX10_need 14 = .ok (.aload_n 0, 1) := by decide +kernel
theorem dX10_need_15 : decode cX10_need 15 = .ok (.invokevirtual 199, 3) := by decide +kernel
theorem dX10_need_18 : decode cX10_need 18 = .ok (.iconst 1, 1) := by decide +kernel
theorem dX10_need_19 : decode cX10_need 19 = .ok (.ireturn, 1) := by decide +kernel
theorem dX10_lay_0 : decode cX10_lay 0 = .ok (.aload_n 0, 1) := by decide +kernel
theorem dX10_lay_1 : decode cX10_lay 1 = .ok (.getfield 83, 3) := by decide +kernel
theorem dX10_lay_4 : decode cX10_lay 4 = .ok (.aload_n 0, 1) := by decide +kernel
theorem dX10_lay_5 : decode cX10_lay 5 = .ok (.getfield 202, 3) := by decide +kernel
theorem dX10_lay_8 : decode cX10_lay 8 = .ok (.iload_n 1, 1) := by decide +kernel
theorem dX10_lay_9 : decode cX10_lay 9 = .ok (.iastore, 1) := by decide +kernel
theorem dX10_lay_10 : decode cX10_lay 10 = .ok (.aload_n 0, 1) := by decide +kernel
theorem dX10_lay_11 : decode cX10_lay 11 = .ok (.dup, 1) := by decide +kernel
theorem dX10_lay_12 : decode cX10_lay 12 = .ok (.getfield 202, 3) := by decide +kernel
theorem dX10_lay_15 : decode cX10_lay 15 = .ok (.iconst 1, 1) := by decide +kernel
theorem dX10_lay_16 : decode cX10_lay 16 = .ok (.iadd, 1) := by decide +kernel
theorem dX10_lay_17 : decode cX10_lay 17 = .ok (.putfield 202, 3) := by decide +kernel
theorem dX10_lay_20 : decode cX10_lay 20 = .ok (.return_, 1) := by decide +kernel
theorem dX10_sum_0 : decode cX10_sum 0 = .ok (.aload_n 0, 1) := by decide +kernel
theorem dX10_sum_1 : decode cX10_sum 1 = .ok (.invokevirtual 205, 3) := by decide +kernel
theorem dX10_sum_4 : decode cX10_sum 4 = .ok (.ifCond .ne 5, 3) := by decide +kernel
theorem dX10_sum_7 : decode cX10_sum 7 = .ok (.iconst 0, 1) := by decide +kernel
theorem dX10_sum_8 : decode cX10_sum 8 = .ok (.ireturn, 1) := by decide +kernel
theorem dX10_sum_9 : decode cX10_sum 9 = .ok (.aload_n 0, 1) := by decide +kernel
theorem dX10_sum_10 : decode cX10_sum 10 = .ok (.getfield 174, 3) := by decide +kernel
theorem dX10_sum_13 : decode cX10_sum 13 = .ok (.bipush 43, 2) := by decide +kernel
theorem dX10_sum_15 : decode cX10_sum 15 = .ok (.if_icmp .eq 12, 3) := by decide +kernel
theorem dX10_sum_18 : decode cX10_sum 18 = .ok (.aload_n 0, 1) := by decide +kernel
theorem dX10_sum_19 : decode cX10_sum 19 = .ok (.getfield 174, 3) := by decide +kernel
theorem dX10_sum_22 : decode cX10_sum 22 = .ok (.bipush 45, 2) := by decide +kernel
theorem dX10_sum_24 : decode cX10_sum 24 = .ok (.if_icmp .ne 41, 3) := by decide +kernel
theorem dX10_sum_27 : decode cX10_sum 27 = .ok (.aload_n 0, 1) := by decide +kernel
theorem dX10_sum_28 : decode cX10_sum 28 = .ok (.getfield 174, 3) := by decide +kernel
theorem dX10_sum_31 : decode cX10_sum 31 = .ok (.bipush 43, 2) := by decide +kernel
theorem dX10_sum_33 : decode cX10_sum 33 = .ok (.if_icmp .ne 8, 3) := by decide +kernel
theorem dX10_sum_36 : decode cX10_sum 36 = .ok (.ldc 209, 2) := by decide +kernel
theorem dX10_sum_38 : decode cX10_sum 38 = .ok (.goto 5, 3) := by decide +kernel
theorem dX10_sum_41 : decode cX10_sum 41 = .ok (.ldc 210, 2) := by decide +kernel
theorem dX10_sum_43 : decode cX10_sum 43 = .ok (.istore_n 1, 1) := by decide +kernel
theorem dX10_sum_44 : decode cX10_sum 44 = .ok (.aload_n 0, 1) := by decide +kernel
theorem dX10_sum_45 : decode cX10_sum 45 = .ok (.invokevirtual 199, 3) := by decide +kernel
theorem dX10_sum_48 : decode cX10_sum 48 = .ok (.aload_n 0, 1) := by decide +kernel
theorem dX10_sum_49 : decode cX10_sum 49 = .ok (.invokevirtual 205, 3) := by decide +kernel
theorem dX10_sum_52 : decode cX10_sum 52 = .ok (.ifCond .ne 5, 3) := by decide +kernel
theorem dX10_sum_55 : decode cX10_sum 55 = .ok (.iconst 0, 1) := by decide +kernel
theorem dX10_sum_56 : decode cX10_sum 56 = .ok (.ireturn, 1) := by decide +kernel
theorem dX10_sum_57 : decode cX10_sum 57 = .ok (.aload_n 0, 1) := by decide +kernel
theorem dX10_sum_58 : decode cX10_sum 58 = .ok (.iload_n 1, 1) := by decide +kernel
theorem dX10_sum_59 : decode cX10_sum 59 = .ok (.invokevirtual 211, 3) := by decide +kernel
theorem dX10_sum_62 : decode cX10_sum 62 = .ok (.goto (-53), 3) := by decide +kernel
theorem dX10_sum_65 : decode cX10_sum 65 = .ok (.iconst 1, 1) := by decide +kernel
theorem dX10_sum_66 : decode cX10_sum 66 = .ok (.ireturn, 1) := by decide +kernel
theorem dX10_product_0 : decode cX10_product 0 = .ok (.aload_n 0, 1) := by decide +kernel
theorem dX10_product_1 : decode cX10_product 1 = .ok (.invokevirtual 215, 3) := by decide +kernel
theorem dX10_product_4 : decode cX10_product 4 = .ok (.ifCond .ne 5, 3) := by decide +kernel
theorem dX10_product_7 : decode cX10_product 7 = .ok (.iconst 0, 1) := by decide +kernel
theorem dX10_product_8 : decode cX10_product 8 = .ok (.ireturn, 1) := by decide +kernel
theorem dX10_product_9 : decode cX10_product 9 = .ok (.aload_n 0, 1) := by decide +kernel
theorem dX10_product_10 : decode cX10_product 10 = .ok (.getfield 174, 3) := by decide +kernel
theorem dX10_product_13 : decode cX10_product 13 = .ok (.bipush 42, 2) := by decide +kernel
theorem dX10_product_15 : decode cX10_product 15 = .ok (.if_icmp .eq 12, 3) := by decide +kernel
theorem dX10_product_18 : decode cX10_product 18 = .ok (.aload_n 0, 1) := by decide +kernel
theorem dX10_product_19 : decode cX10_product 19 = .ok (.getfield 174, 3) := by decide +kernel
theorem dX10_product_22 : decode cX10_product 22 = .ok (.bipush 47, 2) := by decide +kernel
theorem dX10_product_24 : decode cX10_product 24 = .ok (.if_icmp .ne 84, 3) := by decide +kernel
theorem dX10_product_27 : decode cX10_product 27 = .ok (.aload_n 0, 1) := by decide +kernel
theorem dX10_product_28 : decode cX10_product 28 = .ok (.getfield 174, 3) := by decide +kernel
theorem dX10_product_31 : decode cX10_product 31 = .ok (.bipush 47, 2) := by decide +kernel
theorem dX10_product_33 : decode cX10_product 33 = .ok (.if_icmp .ne 7, 3) := by decide +kernel
theorem dX10_product_36 : decode cX10_product 36 = .ok (.iconst 1, 1) := by decide +kernel
theorem dX10_product_37 : decode cX10_product 37 = .ok (.goto 4, 3) := by decide +kernel
theorem dX10_product_40 : decode cX10_product 40 = .ok (.iconst 0, 1) := by decide +kernel
theorem dX10_product_41 : decode cX10_product 41 = .ok (.istore_n 1, 1) := by decide +kernel
theorem dX10_product_42 : decode cX10_product 42 = .ok (.aload_n 0, 1) := by decide +kernel
theorem dX10_product_43 : decode cX10_product 43 = .ok (.invokevirtual 199, 3) := by decide +kernel
theorem dX10_product_46 : decode cX10_product 46 = .ok (.iload_n 1, 1) := by decide +kernel
theorem dX10_product_47 : decode cX10_product 47 = .ok (.ifCond .eq 17, 3) := by decide +kernel
theorem dX10_product_50 : decode cX10_product 50 = .ok (.aload_n 0, 1) := by decide +kernel
theorem dX10_product_51 : decode cX10_product 51 = .ok (.getfield 174, 3) := by decide +kernel
theorem dX10_product_54 : decode cX10_product 54 = .ok (.iconst 2, 1) := by decide +kernel
theorem dX10_product_55 : decode cX10_product 55 = .ok (.if_icmp .eq 9, 3) := by decide +kernel
theorem dX10_product_58 : decode cX10_product 58 = .ok (.aload_n 0, 1) := by decide +kernel
theorem dX10_product_59 : decode cX10_product 59 = .ok (.iconst 1, 1) := by decide +kernel
theorem dX10_product_60 : decode cX10_product 60 = .ok (.invokevirtual 196, 3) := by decide +kernel
theorem dX10_product_63 : decode cX10_product 63 = .ok (.ireturn, 1) := by decide +kernel
theorem dX10_product_64 : decode cX10_product 64 = .ok (.iload_n 1, 1) := by decide +kernel
theorem dX10_product_65 : decode cX10_product 65 = .ok (.ifCond .eq 16, 3) := by decide +kernel
theorem dX10_product_68 : decode cX10_product 68 = .ok (.aload_n 0, 1) := by decide +kernel
theorem dX10_product_69 : decode cX10_product 69 = .ok (.getfield 187, 3) := by decide +kernel
theorem dX10_product_72 : decode cX10_product 72 = .ok (.ifCond .ne 9, 3) := by decide +kernel
theorem dX10_product_75 : decode cX10_product 75 = .ok (.aload_n 0, 1) := by decide +kernel
theorem dX10_product_76 : decode cX10_product 76 = .ok (.iconst 2, 1) := by decide +kernel
theorem dX10_product_77 : decode cX10_product 77 = .ok (.invokevirtual 196, 3) := by decide +kernel
theorem dX10_product_80 : decode cX10_product 80 = .ok (.ireturn, 1) := by decide +kernel
theorem dX10_product_81 : decode cX10_product 81 = .ok (.aload_n 0, 1) := by decide +kernel
theorem dX10_product_82 : decode cX10_product 82 = .ok (.invokevirtual 215, 3) := by decide +kernel
theorem dX10_product_85 : decode cX10_product 85 = .ok (.ifCond .ne 5, 3) := by decide +kernel
theorem dX10_product_88 : decode cX10_product 88 = .ok (.iconst 0, 1) := by decide +kernel
theorem dX10_product_89 : decode cX10_product 89 = .ok (.ireturn, 1) := by decide +kernel
theorem dX10_product_90 : decode cX10_product 90 = .ok (.aload_n 0, 1) := by decide +kernel
theorem dX10_product_91 : decode cX10_product 91 = .ok (.iload_n 1, 1) := by decide +kernel
theorem dX10_product_92 : decode cX10_product 92 = .ok (.ifCond .eq 8, 3) := by decide +kernel
theorem dX10_product_95 : decode cX10_product 95 = .ok (.ldc 218, 2) := by decide +kernel
theorem dX10_product_97 : decode cX10_product 97 = .ok (.goto 5, 3) := by decide +kernel
theorem dX10_product_100 : decode cX10_product 100 = .ok (.ldc 219, 2) := by decide +kernel
theorem dX10_product_102 : decode cX10_product 102 = .ok (.invokevirtual 211, 3) := by decide +kernel
theorem dX10_product_105 : decode cX10_product 105 = .ok (.goto (-96), 3) := by decide +kernel
theorem dX10_product_108 : decode cX10_product 108 = .ok (.iconst 1, 1) := by decide +kernel
theorem dX10_product_109 : decode cX10_product 109 = .ok (.ireturn, 1) := by decide +kernel
theorem dX10_unit_0 : decode cX10_unit 0 = .ok (.aload_n 0, 1) := by decide +kernel
theorem dX10_unit_1 : decode cX10_unit 1 = .ok (.getfield 174, 3) := by decide +kernel
theorem dX10_unit_4 : decode cX10_unit 4 = .ok (.bipush 40, 2) := by decide +kernel
theorem dX10_unit_6 : decode cX10_unit 6 = .ok (.if_icmp .ne 62, 3) := by decide +kernel
theorem dX10_unit_9 : decode cX10_unit 9 = .ok (.aload_n 0, 1) := by decide +kernel
theorem dX10_unit_10 : decode cX10_unit 10 = .ok (.getfield 220, 3) := by decide +kernel
theorem dX10_unit_13 : decode cX10_unit 13 = .ok (.bipush 8, 2) := by decide +kernel
theorem dX10_unit_15 : decode cX10_unit 15 = .ok (.if_icmp .ne 9, 3) := by decide +kernel
theorem dX10_unit_18 : decode cX10_unit 18 = .ok (.aload_n 0, 1) := by decide +kernel
theorem dX10_unit_19 : decode cX10_unit 19 = .ok (.iconst 3, 1) := by decide +kernel
theorem dX10_unit_20 : decode cX10_unit 20 = .ok (.invokevirtual 196, 3) := by decide +kernel
theorem dX10_unit_23 : decode cX10_unit 23 = .ok (.ireturn, 1) := by decide +kernel
theorem dX10_unit_24 : decode cX10_unit 24 = .ok (.aload_n 0, 1) := by decide +kernel
theorem dX10_unit_25 : decode cX10_unit 25 = .ok (.dup, 1) := by decide +kernel
theorem dX10_unit_26 : decode cX10_unit 26 = .ok (.getfield 220, 3) := by decide +kernel
theorem dX10_unit_29 : decode cX10_unit 29 = .ok (.iconst 1, 1) := by decide +kernel
theorem dX10_unit_30 : decode cX10_unit 30 = .ok (.iadd, 1) := by decide +kernel
theorem dX10_unit_31 : decode cX10_unit 31 = .ok (.putfield 220, 3) := by decide +kernel
theorem dX10_unit_34 : decode cX10_unit 34 = .ok (.aload_n 0, 1) := by decide +kernel
theorem dX10_unit_35 : decode cX10_unit 35 = .ok (.invokevirtual 199, 3) := by decide +kernel
theorem dX10_unit_38 : decode cX10_unit 38 = .ok (.aload_n 0, 1) := by decide +kernel
theorem dX10_unit_39 : decode cX10_unit 39 = .ok (.invokevirtual 223, 3) := by decide +kernel
theorem dX10_unit_42 : decode cX10_unit 42 = .ok (.ifCond .eq 12, 3) := by decide +kernel
theorem dX10_unit_45 : decode cX10_unit 45 = .ok (.aload_n 0, 1) := by decide +kernel
theorem dX10_unit_46 : decode cX10_unit 46 = .ok (.bipush 41, 2) := by decide +kernel
theorem dX10_unit_48 : decode cX10_unit 48 = .ok (.invokevirtual 226, 3) := by decide +kernel
theorem dX10_unit_51 : decode cX10_unit 51 = .ok (.ifCond .ne 5, 3) := by decide +kernel
theorem dX10_unit_54 : decode cX10_unit 54 = .ok (.iconst 0, 1) := by decide +kernel
theorem dX10_unit_55 : decode cX10_unit 55 = .ok (.ireturn, 1) := by decide +kernel
theorem dX10_unit_56 : decode cX10_unit 56 = .ok (.aload_n 0, 1) := by decide +kernel
theorem dX10_unit_57 : decode cX10_unit 57 = .ok (.dup, 1) := by decide +kernel
theorem dX10_unit_58 : decode cX10_unit 58 = .ok (.getfield 220, 3) := by decide +kernel
theorem dX10_unit_61 : decode cX10_unit 61 = .ok (.iconst 1, 1) := by decide +kernel
theorem dX10_unit_62 : decode cX10_unit 62 = .ok (.isub, 1) := by decide +kernel
theorem dX10_unit_63 : decode cX10_unit 63 = .ok (.putfield 220, 3) := by decide +kernel
theorem dX10_unit_66 : decode cX10_unit 66 = .ok (.iconst 1, 1) := by decide +kernel
theorem dX10_unit_67 : decode cX10_unit 67 = .ok (.ireturn, 1) := by decide +kernel
theorem dX10_unit_68 : decode cX10_unit 68 = .ok (.aload_n 0, 1) := by decide +kernel
theorem dX10_unit_69 : decode cX10_unit 69 = .ok (.getfield 174, 3) := by decide +kernel
theorem dX10_unit_72 : decode cX10_unit 72 = .ok (.iconst 2, 1) := by decide +kernel
theorem dX10_unit_73 : decode cX10_unit 73 = .ok (.if_icmp .eq 18, 3) := by decide +kernel
theorem dX10_unit_76 : decode cX10_unit 76 = .ok (.aload_n 0, 1) := by decide +kernel
theorem dX10_unit_77 : decode cX10_unit 77 = .ok (.getfield 174, 3) := by decide +kernel
theorem dX10_unit_80 : decode cX10_unit 80 = .ok (.ldc 154, 2) := by decide +kernel
theorem dX10_unit_82 : decode cX10_unit 82 = .ok (.if_icmp .ge 9, 3) := by decide +kernel
theorem dX10_unit_85 : decode cX10_unit 85 = .ok (.aload_n 0, 1) := by decide +kernel
theorem dX10_unit_86 : decode cX10_unit 86 = .ok (.iconst 1, 1) := by decide +kernel
theorem dX10_unit_87 : decode cX10_unit 87 = .ok (.invokevirtual 196, 3) := by decide +kernel
theorem dX10_unit_90 : decode cX10_unit 90 = .ok (.ireturn, 1) := by decide +kernel
theorem dX10_unit_91 : decode cX10_unit 91 = .ok (.aload_n 0, 1) := by decide +kernel
theorem dX10_unit_92 : decode cX10_unit 92 = .ok (.aload_n 0, 1) := by decide +kernel
theorem dX10_unit_93 : decode cX10_unit 93 = .ok (.getfield 174, 3) := by decide +kernel
theorem dX10_unit_96 : decode cX10_unit 96 = .ok (.iconst 2, 1) := by decide +kernel
theorem dX10_unit_97 : decode cX10_unit 97 = .ok (.if_icmp .ne 10, 3) := by decide +kernel
theorem dX10_unit_100 : decode cX10_unit 100 = .ok (.aload_n 0, 1) := by decide +kernel
theorem dX10_unit_101 : decode cX10_unit 101 = .ok (.getfield 187, 3) := by decide +kernel
theorem dX10_unit_104 : decode cX10_unit 104 = .ok (.goto 7, 3) := by decide +kernel
theorem dX10_unit_107 : decode cX10_unit 107 = .ok (.aload_n 0, 1) := by decide +kernel
theorem dX10_unit_108 : decode cX10_unit 108 = .ok (.getfield 174, 3) := by decide +kernel
theorem dX10_unit_111 : decode cX10_unit 111 = .ok (.invokevirtual 211, 3) := by decide +kernel
theorem dX10_unit_114 : decode cX10_unit 114 = .ok (.aload_n 0, 1) := by decide +kernel
theorem dX10_unit_115 : decode cX10_unit 115 = .ok (.invokevirtual 199, 3) := by decide +kernel
theorem dX10_unit_118 : decode cX10_unit 118 = .ok (.iconst 1, 1) := by decide +kernel
theorem dX10_unit_119 : decode cX10_unit 119 = .ok (.ireturn, 1) := by decide +kernel
theorem dX10_holds_0 : decode cX10_holds 0 = .ok (.aload_n 0, 1) := by decide +kernel
theorem dX10_holds_1 : decode cX10_holds 1 = .ok (.invokevirtual 223, 3) := by decide +kernel
theorem dX10_holds_4 : decode cX10_holds 4 = .ok (.ifCond .ne 5, 3) := by decide +kernel
theorem dX10_holds_7 : decode cX10_holds 7 = .ok (.iconst 0, 1) := by decide +kernel
theorem dX10_holds_8 : decode cX10_holds 8 = .ok (.ireturn, 1) := by decide +kernel
theorem dX10_holds_9 : decode cX10_holds 9 = .ok (.aload_n 0, 1) := by decide +kernel
theorem dX10_holds_10 : decode cX10_holds 10 = .ok (.getfield 174, 3) := by decide +kernel
theorem dX10_holds_13 : decode cX10_holds 13 = .ok (.bipush 60, 2) := by decide +kernel
theorem dX10_holds_15 : decode cX10_holds 15 = .ok (.if_icmp .ne 8, 3) := by decide +kernel
theorem dX10_holds_18 : decode cX10_holds 18 = .ok (.ldc 229, 2) := by decide +kernel
theorem dX10_holds_20 : decode cX10_holds 20 = .ok (.goto 32, 3) := by decide +kernel
theorem dX10_holds_23 : decode cX10_holds 23 = .ok (.aload_n 0, 1) := by decide +kernel
theorem dX10_holds_24 : decode cX10_holds 24 = .ok (.getfield 174, 3) := by decide +kernel
theorem dX10_holds_27 : decode cX10_holds 27 = .ok (.bipush 61, 2) := by decide +kernel
theorem dX10_holds_29 : decode cX10_holds 29 = .ok (.if_icmp .ne 8, 3) := by decide +kernel
theorem dX10_holds_32 : decode cX10_holds 32 = .ok (.ldc 230, 2) := by decide +kernel
theorem dX10_holds_34 : decode cX10_holds 34 = .ok (.goto 18, 3) := by decide +kernel
theorem dX10_holds_37 : decode cX10_holds 37 = .ok (.aload_n 0, 1) := by decide +kernel
theorem dX10_holds_38 : decode cX10_holds 38 = .ok (.getfield 174, 3) := by decide +kernel
theorem dX10_holds_41 : decode cX10_holds 41 = .ok (.bipush 62, 2) := by decide +kernel
theorem dX10_holds_43 : decode cX10_holds 43 = .ok (.if_icmp .ne 8, 3) := by decide +kernel
theorem dX10_holds_46 : decode cX10_holds 46 = .ok (.ldc 231, 2) := by decide +kernel
theorem dX10_holds_48 : decode cX10_holds 48 = .ok (.goto 4, 3) := by decide +kernel
theorem dX10_holds_51 : decode cX10_holds 51 = .ok (.iconst (-1), 1) := by decide +kernel
theorem dX10_holds_52 : decode cX10_holds 52 = .ok (.istore_n 1, 1) := by decide +kernel
theorem dX10_holds_53 : decode cX10_holds 53 = .ok (.iload_n 1, 1) := by decide +kernel
theorem dX10_holds_54 : decode cX10_holds 54 = .ok (.iconst (-1), 1) := by decide +kernel
theorem dX10_holds_55 : decode cX10_holds 55 = .ok (.if_icmp .ne 9, 3) := by decide +kernel
theorem dX10_holds_58 : decode cX10_holds 58 = .ok (.aload_n 0, 1) := by decide +kernel
theorem dX10_holds_59 : decode cX10_holds 59 = .ok (.iconst 1, 1) := by decide +kernel
theorem dX10_holds_60 : decode cX10_holds 60 = .ok (.invokevirtual 196, 3) := by decide +kernel
theorem dX10_holds_63 : decode cX10_holds 63 = .ok (.ireturn, 1) := by decide +kernel
theorem dX10_holds_64 : decode cX10_holds 64 = .ok (.aload_n 0, 1) := by decide +kernel
theorem dX10_holds_65 : decode cX10_holds 65 = .ok (.invokevirtual 199, 3) := by decide +kernel
theorem dX10_holds_68 : decode cX10_holds 68 = .ok (.aload_n 0, 1) := by decide +kernel
theorem dX10_holds_69 : decode cX10_holds 69 = .ok (.invokevirtual 223, 3) := by decide +kernel
theorem dX10_holds_72 : decode cX10_holds 72 = .ok (.ifCond .ne 5, 3) := by decide +kernel
theorem dX10_holds_75 : decode cX10_holds 75 = .ok (.iconst 0, 1) := by decide +kernel
theorem dX10_holds_76 : decode cX10_holds 76 = .ok (.ireturn, 1) := by decide +kernel
theorem dX10_holds_77 : decode cX10_holds 77 = .ok (.aload_n 0, 1) := by decide +kernel
theorem dX10_holds_78 : decode cX10_holds 78 = .ok (.iload_n 1, 1) := by decide +kernel
theorem dX10_holds_79 : decode cX10_holds 79 = .ok (.invokevirtual 211, 3) := by decide +kernel
theorem dX10_holds_82 : decode cX10_holds 82 = .ok (.iconst 1, 1) := by decide +kernel
theorem dX10_holds_83 : decode cX10_holds 83 = .ok (.ireturn, 1) := by decide +kernel
theorem dX10_aLine_0 : decode cX10_aLine 0 = .ok (.aload_n 0, 1) := by decide +kernel
theorem dX10_aLine_1 : decode cX10_aLine 1 = .ok (.getfield 174, 3) := by decide +kernel
theorem dX10_aLine_4 : decode cX10_aLine 4 = .ok (.iconst 3, 1) := by decide +kernel
theorem dX10_aLine_5 : decode cX10_aLine 5 = .ok (.if_icmp .eq 9, 3) := by decide +kernel
theorem dX10_aLine_8 : decode cX10_aLine 8 = .ok (.aload_n 0, 1) := by decide +kernel
theorem dX10_aLine_9 : decode cX10_aLine 9 = .ok (.iconst 1, 1) := by decide +kernel
theorem dX10_aLine_10 : decode cX10_aLine 10 = .ok (.invokevirtual 196, 3) := by decide +kernel
theorem dX10_aLine_13 : decode cX10_aLine 13 = .ok (.ireturn, 1) := by decide +kernel
theorem dX10_aLine_14 : decode cX10_aLine 14 = .ok (.aload_n 0, 1) := by decide +kernel
theorem dX10_aLine_15 : decode cX10_aLine 15 = .ok (.getfield 232, 3) := by decide +kernel
theorem dX10_aLine_18 : decode cX10_aLine 18 = .ok (.bipush 8, 2) := by decide +kernel
theorem dX10_aLine_20 : decode cX10_aLine 20 = .ok (.if_icmp .ne 9, 3) := by decide +kernel
theorem dX10_aLine_23 : decode cX10_aLine 23 = .ok (.aload_n 0, 1) := by decide +kernel
theorem dX10_aLine_24 : decode cX10_aLine 24 = .ok (.iconst 3, 1) := by decide +kernel
theorem dX10_aLine_25 : decode cX10_aLine 25 = .ok (.invokevirtual 196, 3) := by decide +kernel
theorem dX10_aLine_28 : decode cX10_aLine 28 = .ok (.ireturn, 1) := by decide +kernel
theorem dX10_aLine_29 : decode cX10_aLine 29 = .ok (.aload_n 0, 1) := by decide +kernel
theorem dX10_aLine_30 : decode cX10_aLine 30 = .ok (.iconst 0, 1) := by decide +kernel
theorem dX10_aLine_31 : decode cX10_aLine 31 = .ok (.putfield 220, 3) := by decide +kernel
theorem dX10_aLine_34 : decode cX10_aLine 34 = .ok (.aload_n 0, 1) := by decide +kernel
theorem dX10_aLine_35 : decode cX10_aLine 35 = .ok (.getfield 77, 3) := by decide +kernel
theorem dX10_aLine_38 : decode cX10_aLine 38 = .ok (.aload_n 0, 1) := by decide +kernel
theorem dX10_aLine_39 : decode cX10_aLine 39 = .ok (.getfield 232, 3) := by decide +kernel
theorem dX10_aLine_42 : decode cX10_aLine 42 = .ok (.aload_n 0, 1) := by decide +kernel
theorem dX10_aLine_43 : decode cX10_aLine 43 = .ok (.getfield 202, 3) := by decide +kernel
theorem dX10_aLine_46 : decode cX10_aLine 46 = .ok (.iastore, 1) := by decide +kernel
theorem dX10_aLine_47 : decode cX10_aLine 47 = .ok (.aload_n 0, 1) := by decide +kernel
theorem dX10_aLine_48 : decode cX10_aLine 48 = .ok (.invokevirtual 199, 3) := by decide +kernel
theorem dX10_aLine_51 : decode cX10_aLine 51 = .ok (.aload_n 0, 1) := by decide +kernel
theorem dX10_aLine_52 : decode cX10_aLine 52 = .ok (.invokevirtual 223, 3) := by decide +kernel
theorem dX10_aLine_55 : decode cX10_aLine 55 = .ok (.ifCond .ne 5, 3) := by decide +kernel
theorem dX10_aLine_58 : decode cX10_aLine 58 = .ok (.iconst 0, 1) := by decide +kernel
theorem dX10_aLine_59 : decode cX10_aLine 59 = .ok (.ireturn, 1) := by decide +kernel
theorem dX10_aLine_60 : decode cX10_aLine 60 = .ok (.aload_n 0, 1) := by decide +kernel
theorem dX10_aLine_61 : decode cX10_aLine 61 = .ok (.getfield 80, 3) := by decide +kernel
theorem dX10_aLine_64 : decode cX10_aLine 64 = .ok (.aload_n 0, 1) := by decide +kernel
theorem dX10_aLine_65 : decode cX10_aLine 65 = .ok (.getfield 232, 3) := by decide +kernel
theorem dX10_aLine_68 : decode cX10_aLine 68 = .ok (.aload_n 0, 1) := by decide +kernel
theorem dX10_aLine_69 : decode cX10_aLine 69 = .ok (.getfield 202, 3) := by decide +kernel
theorem dX10_aLine_72 : decode cX10_aLine 72 = .ok (.iastore, 1) := by decide +kernel
theorem dX10_aLine_73 : decode cX10_aLine 73 = .ok (.aload_n 0, 1) := by decide +kernel
theorem dX10_aLine_74 : decode cX10_aLine 74 = .ok (.dup, 1) := by decide +kernel
theorem dX10_aLine_75 : decode cX10_aLine 75 = .ok (.getfield 232, 3) := by decide +kernel
theorem dX10_aLine_78 : decode cX10_aLine 78 = .ok (.iconst 1, 1) := by decide +kernel
theorem dX10_aLine_79 : decode cX10_aLine 79 = .ok (.iadd, 1) := by decide +kernel
theorem dX10_aLine_80 : decode cX10_aLine 80 = .ok (.putfield 232, 3) := by decide +kernel
theorem dX10_aLine_83 : decode cX10_aLine 83 = .ok (.aload_n 0, 1) := by decide +kernel
theorem dX10_aLine_84 : decode cX10_aLine 84 = .ok (.iconst 4, 1) := by decide +kernel
theorem dX10_aLine_85 : decode cX10_aLine 85 = .ok (.invokevirtual 226, 3) := by decide +kernel
theorem dX10_aLine_88 : decode cX10_aLine 88 = .ok (.ifCond .eq 10, 3) := by decide +kernel
theorem dX10_aLine_91 : decode cX10_aLine 91 = .ok (.aload_n 0, 1) := by decide +kernel
theorem dX10_aLine_92 : decode cX10_aLine 92 = .ok (.invokevirtual 235, 3) := by decide +kernel
theorem dX10_aLine_95 : decode cX10_aLine 95 = .ok (.ifCond .ne 5, 3) := by decide +kernel
theorem dX10_aLine_98 : decode cX10_aLine 98 = .ok (.iconst 0, 1) := by decide +kernel
theorem dX10_aLine_99 : decode cX10_aLine 99 = .ok (.ireturn, 1) := by decide +kernel
theorem dX10_aLine_100 : decode cX10_aLine 100 = .ok (.aload_n 0, 1) := by decide +kernel
theorem dX10_aLine_101 : decode cX10_aLine 101 = .ok (.getfield 174, 3) := by decide +kernel
theorem dX10_aLine_104 : decode cX10_aLine 104 = .ok (.iconst 5, 1) := by decide +kernel
theorem dX10_aLine_105 : decode cX10_aLine 105 = .ok (.if_icmp .ne 25, 3) := by decide +kernel
theorem dX10_aLine_108 : decode cX10_aLine 108 = .ok (.aload_n 0, 1) := by decide +kernel
theorem dX10_aLine_109 : decode cX10_aLine 109 = .ok (.invokevirtual 199, 3) := by decide +kernel
theorem dX10_aLine_112 : decode cX10_aLine 112 = .ok (.aload_n 0, 1) := by decide +kernel
theorem dX10_aLine_113 : decode cX10_aLine 113 = .ok (.invokevirtual 235, 3) := by decide +kernel
theorem dX10_aLine_116 : decode cX10_aLine 116 = .ok (.ifCond .ne 5, 3) := by decide +kernel
theorem dX10_aLine_119 : decode cX10_aLine 119 = .ok (.iconst 0, 1) := by decide +kernel
theorem dX10_aLine_120 : decode cX10_aLine 120 = .ok (.ireturn, 1) := by decide +kernel
theorem dX10_aLine_121 : decode cX10_aLine 121 = .ok (.aload_n 0, 1) := by decide +kernel
theorem dX10_aLine_122 : decode cX10_aLine 122 = .ok (.ldc 238, 2) := by decide +kernel
theorem dX10_aLine_124 : decode cX10_aLine 124 = .ok (.invokevirtual 211, 3) := by decide +kernel
theorem dX10_aLine_127 : decode cX10_aLine 127 = .ok (.goto (-27), 3) := by decide +kernel
theorem dX10_aLine_130 : decode cX10_aLine 130 = .ok (.aload_n 0, 1) := by decide +kernel
theorem dX10_aLine_131 : decode cX10_aLine 131 = .ok (.bipush 59, 2) := by decide +kernel
theorem dX10_aLine_133 : decode cX10_aLine 133 = .ok (.invokevirtual 226, 3) := by decide +kernel
theorem dX10_aLine_136 : decode cX10_aLine 136 = .ok (.ireturn, 1) := by decide +kernel
theorem dX10_rule_0 : decode cX10_rule 0 = .ok (.aload_n 0, 1) := by decide +kernel
theorem dX10_rule_1 : decode cX10_rule 1 = .ok (.iconst 0, 1) := by decide +kernel
theorem dX10_rule_2 : decode cX10_rule 2 = .ok (.putfield 190, 3) := by decide +kernel
theorem dX10_rule_5 : decode cX10_rule 5 = .ok (.aload_n 0, 1) := by decide +kernel
theorem dX10_rule_6 : decode cX10_rule 6 = .ok (.iconst 0, 1) := by decide +kernel
theorem dX10_rule_7 : decode cX10_rule 7 = .ok (.putfield 164, 3) := by decide +kernel
theorem dX10_rule_10 : decode cX10_rule 10 = .ok (.aload_n 0, 1) := by decide +kernel
theorem dX10_rule_11 : decode cX10_rule 11 = .ok (.iconst 0, 1) := by decide +kernel
theorem dX10_rule_12 : decode cX10_rule 12 = .ok (.putfield 232, 3) := by decide +kernel
theorem dX10_rule_15 : decode cX10_rule 15 = .ok (.aload_n 0, 1) := by decide +kernel
theorem dX10_rule_16 : decode cX10_rule 16 = .ok (.iconst 0, 1) := by decide +kernel
theorem dX10_rule_17 : decode cX10_rule 17 = .ok (.putfield 202, 3) := by decide +kernel
theorem dX10_rule_20 : decode cX10_rule 20 = .ok (.aload_n 0, 1) := by decide +kernel
theorem dX10_rule_21 : decode cX10_rule 21 = .ok (.invokevirtual 199, 3) := by decide +kernel
theorem dX10_rule_24 : decode cX10_rule 24 = .ok (.iconst 1, 1) := by decide +kernel
theorem dX10_rule_25 : decode cX10_rule 25 = .ok (.istore_n 1, 1) := by decide +kernel
theorem dX10_rule_26 : decode cX10_rule 26 = .ok (.iload_n 1, 1) := by decide +kernel
theorem dX10_rule_27 : decode cX10_rule 27 = .ok (.ifCond .eq 18, 3) := by decide +kernel
theorem dX10_rule_30 : decode cX10_rule 30 = .ok (.aload_n 0, 1) := by decide +kernel
theorem dX10_rule_31 : decode cX10_rule 31 = .ok (.getfield 174, 3) := by decide +kernel
theorem dX10_rule_34 : decode cX10_rule 34 = .ok (.ifCond .eq 11, 3) := by decide +kernel
theorem dX10_rule_37 : decode cX10_rule 37 = .ok (.aload_n 0, 1) := by decide +kernel
theorem dX10_rule_38 : decode cX10_rule 38 = .ok (.invokevirtual 239, 3) := by decide +kernel
theorem dX10_rule_41 : decode cX10_rule 41 = .ok (.istore_n 1, 1) := by decide +kernel
theorem dX10_rule_42 : decode cX10_rule 42 = .ok (.goto (-16), 3) := by decide +kernel
theorem dX10_rule_45 : decode cX10_rule 45 = .ok (.aload_n 0, 1) := by decide +kernel
theorem dX10_rule_46 : decode cX10_rule 46 = .ok (.iconst 0, 1) := by decide +kernel
theorem dX10_rule_47 : decode cX10_rule 47 = .ok (.putfield 143, 3) := by decide +kernel
theorem dX10_rule_50 : decode cX10_rule 50 = .ok (.aload_n 0, 1) := by decide +kernel
theorem dX10_rule_51 : decode cX10_rule 51 = .ok (.aload_n 0, 1) := by decide +kernel
theorem dX10_rule_52 : decode cX10_rule 52 = .ok (.getfield 190, 3) := by decide +kernel
theorem dX10_rule_55 : decode cX10_rule 55 = .ok (.putfield 242, 3) := by decide +kernel
theorem dX10_rule_58 : decode cX10_rule 58 = .ok (.aload_n 0, 1) := by decide +kernel
theorem dX10_rule_59 : decode cX10_rule 59 = .ok (.iload_n 1, 1) := by decide +kernel
theorem dX10_rule_60 : decode cX10_rule 60 = .ok (.ifCond .eq 7, 3) := by decide +kernel
theorem dX10_rule_63 : decode cX10_rule 63 = .ok (.iconst (-1), 1) := by decide +kernel
theorem dX10_rule_64 : decode cX10_rule 64 = .ok (.goto 7, 3) := by decide +kernel
theorem dX10_rule_67 : decode cX10_rule 67 = .ok (.aload_n 0, 1) := by decide +kernel
theorem dX10_rule_68 : decode cX10_rule 68 = .ok (.getfield 193, 3) := by decide +kernel
theorem dX10_rule_71 : decode cX10_rule 71 = .ok (.putfield 92, 3) := by decide +kernel
theorem dX10_rule_74 : decode cX10_rule 74 = .ok (.iload_n 1, 1) := by decide +kernel
theorem dX10_rule_75 : decode cX10_rule 75 = .ok (.ifCond .ne 5, 3) := by decide +kernel
theorem dX10_rule_78 : decode cX10_rule 78 = .ok (.iconst (-1), 1) := by decide +kernel
theorem dX10_rule_79 : decode cX10_rule 79 = .ok (.ireturn, 1) := by decide +kernel
theorem dX10_rule_80 : decode cX10_rule 80 = .ok (.aload_n 0, 1) := by decide +kernel
theorem dX10_rule_81 : decode cX10_rule 81 = .ok (.aload_n 0, 1) := by decide +kernel
theorem dX10_rule_82 : decode cX10_rule 82 = .ok (.getfield 232, 3) := by decide +kernel
theorem dX10_rule_85 : decode cX10_rule 85 = .ok (.putfield 137, 3) := by decide +kernel
theorem dX10_rule_88 : decode cX10_rule 88 = .ok (.iconst 0, 1) := by decide +kernel
theorem dX10_rule_89 : decode cX10_rule 89 = .ok (.istore_n 2, 1) := by decide +kernel
theorem dX10_rule_90 : decode cX10_rule 90 = .ok (.iload_n 2, 1) := by decide +kernel
theorem dX10_rule_91 : decode cX10_rule 91 = .ok (.aload_n 0, 1) := by decide +kernel
theorem dX10_rule_92 : decode cX10_rule 92 = .ok (.getfield 137, 3) := by decide +kernel
theorem dX10_rule_95 : decode cX10_rule 95 = .ok (.if_icmp .ge 33, 3) := by decide +kernel
theorem dX10_rule_98 : decode cX10_rule 98 = .ok (.aload_n 0, 1) := by decide +kernel
theorem dX10_rule_99 : decode cX10_rule 99 = .ok (.getfield 68, 3) := by decide +kernel
theorem dX10_rule_102 : decode cX10_rule 102 = .ok (.iload_n 2, 1) := by decide +kernel
theorem dX10_rule_103 : decode cX10_rule 103 = .ok (.aload_n 0, 1) := by decide +kernel
theorem dX10_rule_104 : decode cX10_rule 104 = .ok (.getfield 77, 3) := by decide +kernel
theorem dX10_rule_107 : decode cX10_rule 107 = .ok (.iload_n 2, 1) := by decide +kernel
theorem dX10_rule_108 : decode cX10_rule 108 = .ok (.iaload, 1) := by decide +kernel
theorem dX10_rule_109 : decode cX10_rule 109 = .ok (.iastore, 1) := by decide +kernel
theorem dX10_rule_110 : decode cX10_rule 110 = .ok (.aload_n 0, 1) := by decide +kernel
theorem dX10_rule_111 : decode cX10_rule 111 = .ok (.getfield 71, 3) := by decide +kernel
theorem dX10_rule_114 : decode cX10_rule 114 = .ok (.iload_n 2, 1) := by decide +kernel
theorem dX10_rule_115 : decode cX10_rule 115 = .ok (.aload_n 0, 1) := by decide +kernel
theorem dX10_rule_116 : decode cX10_rule 116 = .ok (.getfield 80, 3) := by decide +kernel
theorem dX10_rule_119 : decode cX10_rule 119 = .ok (.iload_n 2, 1) := by decide +kernel
theorem dX10_rule_120 : decode cX10_rule 120 = .ok (.iaload, 1) := by decide +kernel
theorem dX10_rule_121 : decode cX10_rule 121 = .ok (.iastore, 1) := by decide +kernel
theorem dX10_rule_122 : decode cX10_rule 122 = .ok (.iinc 2 1, 3) := by decide +kernel
theorem dX10_rule_125 : decode cX10_rule 125 = .ok (.goto (-35), 3) := by decide +kernel
theorem dX10_rule_128 : decode cX10_rule 128 = .ok (.aload_n 0, 1) := by decide +kernel
theorem dX10_rule_129 : decode cX10_rule 129 = .ok (.getfield 68, 3) := by decide +kernel
theorem dX10_rule_132 : decode cX10_rule 132 = .ok (.aload_n 0, 1) := by decide +kernel
theorem dX10_rule_133 : decode cX10_rule 133 = .ok (.getfield 137, 3) := by decide +kernel
theorem dX10_rule_136 : decode cX10_rule 136 = .ok (.aload_n 0, 1) := by decide +kernel
theorem dX10_rule_137 : decode cX10_rule 137 = .ok (.getfield 202, 3) := by decide +kernel
theorem dX10_rule_140 : decode cX10_rule 140 = .ok (.iastore, 1) := by decide +kernel
theorem dX10_rule_141 : decode cX10_rule 141 = .ok (.iconst 0, 1) := by decide +kernel
theorem dX10_rule_142 : decode cX10_rule 142 = .ok (.istore_n 2, 1) := by decide +kernel
theorem dX10_rule_143 : decode cX10_rule 143 = .ok (.iload_n 2, 1) := by decide +kernel
theorem dX10_rule_144 : decode cX10_rule 144 = .ok (.aload_n 0, 1) := by decide +kernel
theorem dX10_rule_145 : decode cX10_rule 145 = .ok (.getfield 202, 3) := by decide +kernel
theorem dX10_rule_148 : decode cX10_rule 148 = .ok (.if_icmp .ge 21, 3) := by decide +kernel
theorem dX10_rule_151 : decode cX10_rule 151 = .ok (.aload_n 0, 1) := by decide +kernel
theorem dX10_rule_152 : decode cX10_rule 152 = .ok (.getfield 74, 3) := by decide +kernel
theorem dX10_rule_155 : decode cX10_rule 155 = .ok (.iload_n 2, 1) := by decide +kernel
theorem dX10_rule_156 : decode cX10_rule 156 = .ok (.aload_n 0, 1) := by decide +kernel
theorem dX10_rule_157 : decode cX10_rule 157 = .ok (.getfield 83, 3) := by decide +kernel
theorem dX10_rule_160 : decode cX10_rule 160 = .ok (.iload_n 2, 1) := by decide +kernel
theorem dX10_rule_161 : decode cX10_rule 161 = .ok (.iaload, 1) := by decide +kernel
theorem dX10_rule_162 : decode cX10_rule 162 = .ok (.iastore, 1) := by decide +kernel
theorem dX10_rule_163 : decode cX10_rule 163 = .ok (.iinc 2 1, 3) := by decide +kernel
theorem dX10_rule_166 : decode cX10_rule 166 = .ok (.goto (-23), 3) := by decide +kernel
theorem dX10_rule_169 : decode cX10_rule 169 = .ok (.aload_n 0, 1) := by decide +kernel
theorem dX10_rule_170 : decode cX10_rule 170 = .ok (.getfield 137, 3) := by decide +kernel
theorem dX10_rule_173 : decode cX10_rule 173 = .ok (.ireturn, 1) := by decide +kernel
theorem dX10_fault_0 : decode cX10_fault 0 = .ok (.iload_n 1, 1) := by decide +kernel
theorem dX10_fault_1 : decode cX10_fault 1 = .ok (.ifCond .ne 10, 3) := by decide +kernel
theorem dX10_fault_4 : decode cX10_fault 4 = .ok (.aload_n 0, 1) := by decide +kernel
theorem dX10_fault_5 : decode cX10_fault 5 = .ok (.getfield 242, 3) := by decide +kernel
theorem dX10_fault_8 : decode cX10_fault 8 = .ok (.goto 16, 3) := by decide +kernel
theorem dX10_fault_11 : decode cX10_fault 11 = .ok (.iload_n 1, 1) := by decide +kernel
theorem dX10_fault_12 : decode cX10_fault 12 = .ok (.iconst 1, 1) := by decide +kernel
theorem dX10_fault_13 : decode cX10_fault 13 = .ok (.if_icmp .ne 10, 3) := by decide +kernel
theorem dX10_fault_16 : decode cX10_fault 16 = .ok (.aload_n 0, 1) := by decide +kernel
theorem dX10_fault_17 : decode cX10_fault 17 = .ok (.getfield 92, 3) := by decide +kernel
theorem dX10_fault_20 : decode cX10_fault 20 = .ok (.goto 4, 3) := by decide +kernel
theorem dX10_fault_23 : decode cX10_fault 23 = .ok (.iconst (-1), 1) := by decide +kernel
theorem dX10_fault_24 : decode cX10_fault 24 = .ok (.ireturn, 1) := by decide +kernel
theorem dX10_isOf_0 : decode cX10_isOf 0 = .ok (.iload_n 0, 1) := by decide +kernel
theorem dX10_isOf_1 : decode cX10_isOf 1 = .ok (.iconst (-1), 1) := by decide +kernel
theorem dX10_isOf_2 : decode cX10_isOf 2 = .ok (.if_icmp .eq 15, 3) := by decide +kernel
theorem dX10_isOf_5 : decode cX10_isOf 5 = .ok (.iload_n 0, 1) := by decide +kernel
theorem dX10_isOf_6 : decode cX10_isOf 6 = .ok (.bipush 28, 2) := by decide +kernel
theorem dX10_isOf_8 : decode cX10_isOf 8 = .ok (.idiv, 1) := by decide +kernel
theorem dX10_isOf_9 : decode cX10_isOf 9 = .ok (.iload_n 1, 1) := by decide +kernel
theorem dX10_isOf_10 : decode cX10_isOf 10 = .ok (.if_icmp .ne 7, 3) := by decide +kernel
theorem dX10_isOf_13 : decode cX10_isOf 13 = .ok (.iconst 1, 1) := by decide +kernel
theorem dX10_isOf_14 : decode cX10_isOf 14 = .ok (.goto 4, 3) := by decide +kernel
theorem dX10_isOf_17 : decode cX10_isOf 17 = .ok (.iconst 0, 1) := by decide +kernel
theorem dX10_isOf_18 : decode cX10_isOf 18 = .ok (.ireturn, 1) := by decide +kernel
theorem dX10_takes_0 : decode cX10_takes 0 = .ok (.aload_n 0, 1) := by decide +kernel
theorem dX10_takes_1 : decode cX10_takes 1 = .ok (.iconst 0, 1) := by decide +kernel
theorem dX10_takes_2 : decode cX10_takes 2 = .ok (.putfield 245, 3) := by decide +kernel
theorem dX10_takes_5 : decode cX10_takes 5 = .ok (.aload_n 0, 1) := by decide +kernel
theorem dX10_takes_6 : decode cX10_takes 6 = .ok (.iconst 0, 1) := by decide +kernel
theorem dX10_takes_7 : decode cX10_takes 7 = .ok (.putfield 248, 3) := by decide +kernel
theorem dX10_takes_10 : decode cX10_takes 10 = .ok (.aload_n 0, 1) := by decide +kernel
theorem dX10_takes_11 : decode cX10_takes 11 = .ok (.iconst 0, 1) := by decide +kernel
theorem dX10_takes_12 : decode cX10_takes 12 = .ok (.putfield 251, 3) := by decide +kernel
theorem dX10_takes_15 : decode cX10_takes 15 = .ok (.aload_n 0, 1) := by decide +kernel
theorem dX10_takes_16 : decode cX10_takes 16 = .ok (.iload_n 2, 1) := by decide +kernel
theorem dX10_takes_17 : decode cX10_takes 17 = .ok (.putfield 254, 3) := by decide +kernel
theorem dX10_takes_20 : decode cX10_takes 20 = .ok (.iconst 0, 1) := by decide +kernel
theorem dX10_takes_21 : decode cX10_takes 21 = .ok (.istore_n 3, 1) := by decide +kernel
theorem dX10_takes_22 : decode cX10_takes 22 = .ok (.iload_n 3, 1) := by decide +kernel
theorem dX10_takes_23 : decode cX10_takes 23 = .ok (.aload_n 0, 1) := by decide +kernel
theorem dX10_takes_24 : decode cX10_takes 24 = .ok (.getfield 125, 3) := by decide +kernel
theorem dX10_takes_27 : decode cX10_takes 27 = .ok (.if_icmp .ge 113, 3) := by decide +kernel
theorem dX10_takes_30 : decode cX10_takes 30 = .ok (.aload_n 0, 1) := by decide +kernel
theorem dX10_takes_31 : decode cX10_takes 31 = .ok (.getfield 28, 3) := by decide +kernel
theorem dX10_takes_34 : decode cX10_takes 34 = .ok (.iload_n 3, 1) := by decide +kernel
theorem dX10_takes_35 : decode cX10_takes 35 = .ok (.iaload, 1) := by decide +kernel
theorem dX10_takes_36 : decode cX10_takes 36 = .ok (.iload_n 1, 1) := by decide +kernel
theorem dX10_takes_37 : decode cX10_takes 37 = .ok (.if_icmp .ne 97, 3) := by decide +kernel
theorem dX10_takes_40 : decode cX10_takes 40 = .ok (.aload_n 0, 1) := by decide +kernel
theorem dX10_takes_41 : decode cX10_takes 41 = .ok (.getfield 49, 3) := by decide +kernel
theorem dX10_takes_44 : decode cX10_takes 44 = .ok (.iload_n 3, 1) := by decide +kernel
theorem dX10_takes_45 : decode cX10_takes 45 = .ok (.iaload, 1) := by decide +kernel
theorem dX10_takes_46 : decode cX10_takes 46 = .ok (.iconst (-1), 1) := by decide +kernel
theorem dX10_takes_47 : decode cX10_takes 47 = .ok (.if_icmp .ne 6, 3) := by decide +kernel
theorem dX10_takes_50 : decode cX10_takes 50 = .ok (.goto 84, 3) := by decide +kernel
theorem dX10_takes_53 : decode cX10_takes 53 = .ok (.aload_n 0, 1) := by decide +kernel
theorem dX10_takes_54 : decode cX10_takes 54 = .ok (.getfield 49, 3) := by decide +kernel
theorem dX10_takes_57 : decode cX10_takes 57 = .ok (.iload_n 3, 1) := by decide +kernel
theorem dX10_takes_58 : decode cX10_takes 58 = .ok (.iaload, 1) := by decide +kernel
theorem dX10_takes_59 : decode cX10_takes 59 = .ok (.iload_n 2, 1) := by decide +kernel
theorem dX10_takes_60 : decode cX10_takes 60 = .ok (.invokestatic 257, 3) := by decide +kernel
theorem dX10_takes_63 : decode cX10_takes 63 = .ok (.ifCond .eq 28, 3) := by decide +kernel
theorem dX10_takes_66 : decode cX10_takes 66 = .ok (.aload_n 0, 1) := by decide +kernel
theorem dX10_takes_67 : decode cX10_takes 67 = .ok (.dup, 1) := by decide +kernel
theorem dX10_takes_68 : decode cX10_takes 68 = .ok (.getfield 245, 3) := by decide +kernel
theorem dX10_takes_71 : decode cX10_takes 71 = .ok (.aload_n 0, 1) := by decide +kernel
theorem dX10_takes_72 : decode cX10_takes 72 = .ok (.getfield 58, 3) := by decide +kernel
theorem dX10_takes_75 : decode cX10_takes 75 = .ok (.iload_n 3, 1) := by decide +kernel
theorem dX10_takes_76 : decode cX10_takes 76 = .ok (.iaload, 1) := by decide +kernel
theorem dX10_takes_77 : decode cX10_takes 77 = .ok (.iadd, 1) := by decide +kernel
theorem dX10_takes_78 : decode cX10_takes 78 = .ok (.putfield 245, 3) := by decide +kernel
theorem dX10_takes_81 : decode cX10_takes 81 = .ok (.aload_n 0, 1) := by decide +kernel
theorem dX10_takes_82 : decode cX10_takes 82 = .ok (.dup, 1) := by decide +kernel
theorem dX10_takes_83 : decode cX10_takes 83 = .ok (.getfield 248, 3) := by decide +kernel
theorem dX10_takes_86 : decode cX10_takes 86 = .ok (.iconst 1, 1) := by decide +kernel
theorem dX10_takes_87 : decode cX10_takes 87 = .ok (.iadd, 1) := by decide +kernel
theorem dX10_takes_88 : decode cX10_takes 88 = .ok (.putfield 248, 3) := by decide +kernel
theorem dX10_takes_91 : decode cX10_takes 91 = .ok (.aload_n 0, 1) := by decide +kernel
theorem dX10_takes_92 : decode cX10_takes 92 = .ok (.getfield 52, 3) := by decide +kernel
theorem dX10_takes_95 : decode cX10_takes 95 = .ok (.iload_n 3, 1) := by decide +kernel
theorem dX10_takes_96 : decode cX10_takes 96 = .ok (.iaload, 1) := by decide +kernel
theorem dX10_takes_97 : decode cX10_takes 97 = .ok (.iload_n 2, 1) := by decide +kernel
theorem dX10_takes_98 : decode cX10_takes 98 = .ok (.invokestatic 257, 3) := by decide +kernel
theorem dX10_takes_101 : decode cX10_takes 101 = .ok (.ifCond .eq 33, 3) := by decide +kernel
theorem dX10_takes_104 : decode cX10_takes 104 = .ok (.aload_n 0, 1) := by decide +kernel
theorem dX10_takes_105 : decode cX10_takes 105 = .ok (.dup, 1) := by decide +kernel
theorem dX10_takes_106 : decode cX10_takes 106 = .ok (.getfield 245, 3) := by decide +kernel
theorem dX10_takes_109 : decode cX10_takes 109 = .ok (.aload_n 0, 1) := by decide +kernel
theorem dX10_takes_110 : decode cX10_takes 110 = .ok (.getfield 58, 3) := by decide +kernel
theorem dX10_takes_113 : decode cX10_takes 113 = .ok (.iload_n 3, 1) := by decide +kernel
theorem dX10_takes_114 : decode cX10_takes 114 = .ok (.iaload, 1) := by decide +kernel
theorem dX10_takes_115 : decode cX10_takes 115 = .ok (.isub, 1) := by decide +kernel
theorem dX10_takes_116 : decode cX10_takes 116 = .ok (.putfield 245, 3) := by decide +kernel
theorem dX10_takes_119 : decode cX10_takes 119 = .ok (.aload_n 0, 1) := by decide +kernel
theorem dX10_takes_120 : decode cX10_takes 120 = .ok (.dup, 1) := by decide +kernel
theorem dX10_takes_121 : decode cX10_takes 121 = .ok (.getfield 251, 3) := by decide +kernel
theorem dX10_takes_124 : decode cX10_takes 124 = .ok (.aload_n 0, 1) := by decide +kernel
theorem dX10_takes_125 : decode cX10_takes 125 = .ok (.getfield 58, 3) := by decide +kernel
theorem dX10_takes_128 : decode cX10_takes 128 = .ok (.iload_n 3, 1) := by decide +kernel
theorem dX10_takes_129 : decode cX10_takes 129 = .ok (.iaload, 1) := by decide +kernel
theorem dX10_takes_130 : decode cX10_takes 130 = .ok (.iadd, 1) := by decide +kernel
theorem dX10_takes_131 : decode cX10_takes 131 = .ok (.putfield 251, 3) := by decide +kernel
theorem dX10_takes_134 : decode cX10_takes 134 = .ok (.iinc 3 1, 3) := by decide +kernel
theorem dX10_takes_137 : decode cX10_takes 137 = .ok (.goto (-115), 3) := by decide +kernel
theorem dX10_takes_140 : decode cX10_takes 140 = .ok (.return_, 1) := by decide +kernel
theorem dX10_worked_0 : decode cX10_worked 0 = .ok (.iconst 0, 1) := by decide +kernel
theorem dX10_worked_1 : decode cX10_worked 1 = .ok (.istore_n 3, 1) := by decide +kernel
theorem dX10_worked_2 : decode cX10_worked 2 = .ok (.iload_n 1, 1) := by decide +kernel
theorem dX10_worked_3 : decode cX10_worked 3 = .ok (.istore 4, 2) := by decide +kernel
theorem dX10_worked_5 : decode cX10_worked 5 = .ok (.iload 4, 2) := by decide +kernel
theorem dX10_worked_7 : decode cX10_worked 7 = .ok (.iload_n 2, 1) := by decide +kernel
theorem dX10_worked_8 : decode cX10_worked 8 = .ok (.if_icmp .ge 125, 3) := by decide +kernel
theorem dX10_worked_11 : decode cX10_worked 11 = .ok (.aload_n 0, 1) := by decide +kernel
theorem dX10_worked_12 : decode cX10_worked 12 = .ok (.getfield 74, 3) := by decide +kernel
theorem dX10_worked_15 : decode cX10_worked 15 = .ok (.iload 4, 2) := by decide +kernel
theorem dX10_worked_17 : decode cX10_worked 17 = .ok (.iaload, 1) := by decide +kernel
theorem dX10_worked_18 : decode cX10_worked 18 = .ok (.istore 5, 2) := by decide +kernel
theorem dX10_worked_20 : decode cX10_worked 20 = .ok (.iload 5, 2) := by decide +kernel
theorem dX10_worked_22 : decode cX10_worked 22 = .ok (.ldc 209, 2) := by decide +kernel
theorem dX10_worked_24 : decode cX10_worked 24 = .ok (.if_icmp .ge 73, 3) := by decide +kernel
theorem dX10_worked_27 : decode cX10_worked 27 = .ok (.aload_n 0, 1) := by decide +kernel
theorem dX10_worked_28 : decode cX10_worked 28 = .ok (.getfield 86, 3) := by decide +kernel
theorem dX10_worked_31 : decode cX10_worked 31 = .ok (.iload_n 3, 1) := by decide +kernel
theorem dX10_worked_32 : decode cX10_worked 32 = .ok (.iload 5, 2) := by decide +kernel
theorem dX10_worked_34 : decode cX10_worked 34 = .ok (.ldc 154, 2) := by decide +kernel
theorem dX10_worked_36 : decode cX10_worked 36 = .ok (.if_icmp .ne 10, 3) := by decide +kernel
theorem dX10_worked_39 : decode cX10_worked 39 = .ok (.aload_n 0, 1) := by decide +kernel
theorem dX10_worked_40 : decode cX10_worked 40 = .ok (.getfield 245, 3) := by decide +kernel
theorem dX10_worked_43 : decode cX10_worked 43 = .ok (.goto 47, 3) := by decide +kernel
theorem dX10_worked_46 : decode cX10_worked 46 = .ok (.iload 5, 2) := by decide +kernel
theorem dX10_worked_48 : decode cX10_worked 48 = .ok (.ldc 157, 2) := by decide +kernel
theorem dX10_worked_50 : decode cX10_worked 50 = .ok (.if_icmp .ne 10, 3) := by decide +kernel
theorem dX10_worked_53 : decode cX10_worked 53 = .ok (.aload_n 0, 1) := by decide +kernel
theorem dX10_worked_54 : decode cX10_worked 54 = .ok (.getfield 248, 3) := by decide +kernel
theorem dX10_worked_57 : decode cX10_worked 57 = .ok (.goto 33, 3) := by decide +kernel
theorem dX10_worked_60 : decode cX10_worked 60 = .ok (.iload 5, 2) := by decide +kernel
theorem dX10_worked_62 : decode cX10_worked 62 = .ok (.ldc 160, 2) := by decide +kernel
theorem dX10_worked_64 : decode cX10_worked 64 = .ok (.if_icmp .ne 10, 3) := by decide +kernel
theorem dX10_worked_67 : decode cX10_worked 67 = .ok (.aload_n 0, 1) := by decide +kernel
theorem dX10_worked_68 : decode cX10_worked 68 = .ok (.getfield 251, 3) := by decide +kernel
theorem dX10_worked_71 : decode cX10_worked 71 = .ok (.goto 19, 3) := by decide +kernel
theorem dX10_worked_74 : decode cX10_worked 74 = .ok (.iload 5, 2) := by decide +kernel
theorem dX10_worked_76 : decode cX10_worked 76 = .ok (.ldc 163, 2) := by decide +kernel
theorem dX10_worked_78 : decode cX10_worked 78 = .ok (.if_icmp .ne 10, 3) := by decide +kernel
theorem dX10_worked_81 : decode cX10_worked 81 = .ok (.aload_n 0, 1) := by decide +kernel
theorem dX10_worked_82 : decode cX10_worked 82 = .ok (.getfield 254, 3) := by decide +kernel
theorem dX10_worked_85 : decode cX10_worked 85 = .ok (.goto 5, 3) := by decide +kernel
theorem dX10_worked_88 : decode cX10_worked 88 = .ok (.iload 5, 2) := by decide +kernel
theorem dX10_worked_90 : decode cX10_worked 90 = .ok (.iastore, 1) := by decide +kernel
theorem dX10_worked_91 : decode cX10_worked 91 = .ok (.iinc 3 1, 3) := by decide +kernel
theorem dX10_worked_94 : decode cX10_worked 94 = .ok (.goto 33, 3) := by decide +kernel
theorem dX10_worked_97 : decode cX10_worked 97 = .ok (.iinc 3 (-1), 3) := by decide +kernel
theorem dX10_worked_100 : decode cX10_worked 100 = .ok (.aload_n 0, 1) := by decide +kernel
theorem dX10_worked_101 : decode cX10_worked 101 = .ok (.getfield 86, 3) := by decide +kernel
theorem dX10_worked_104 : decode cX10_worked 104 = .ok (.iload_n 3, 1) := by decide +kernel
theorem dX10_worked_105 : decode cX10_worked 105 = .ok (.iconst 1, 1) := by decide +kernel
theorem dX10_worked_106 : decode cX10_worked 106 = .ok (.isub, 1) := by decide +kernel
theorem dX10_worked_107 : decode cX10_worked 107 = .ok (.iload 5, 2) := by decide +kernel
theorem dX10_worked_109 : decode cX10_worked 109 = .ok (.aload_n 0, 1) := by decide +kernel
theorem dX10_worked_110 : decode cX10_worked 110 = .ok (.getfield 86, 3) := by decide +kernel
theorem dX10_worked_113 : decode cX10_worked 113 = .ok (.iload_n 3, 1) := by decide +kernel
theorem dX10_worked_114 : decode cX10_worked 114 = .ok (.iconst 1, 1) := by decide +kernel
theorem dX10_worked_115 : decode cX10_worked 115 = .ok (.isub, 1) := by decide +kernel
theorem dX10_worked_116 : decode cX10_worked 116 = .ok (.iaload, 1) := by decide +kernel
theorem dX10_worked_117 : decode cX10_worked 117 = .ok (.aload_n 0, 1) := by decide +kernel
theorem dX10_worked_118 : decode cX10_worked 118 = .ok (.getfield 86, 3) := by decide +kernel
theorem dX10_worked_121 : decode cX10_worked 121 = .ok (.iload_n 3, 1) := by decide +kernel
theorem dX10_worked_122 : decode cX10_worked 122 = .ok (.iaload, 1) := by decide +kernel
theorem dX10_worked_123 : decode cX10_worked 123 = .ok (.invokestatic 261, 3) := by decide +kernel
theorem dX10_worked_126 : decode cX10_worked 126 = .ok (.iastore, 1) := by decide +kernel
theorem dX10_worked_127 : decode cX10_worked 127 = .ok (.iinc 4 1, 3) := by decide +kernel
theorem dX10_worked_130 : decode cX10_worked 130 = .ok (.goto (-125), 3) := by decide +kernel
theorem dX10_worked_133 : decode cX10_worked 133 = .ok (.aload_n 0, 1) := by decide +kernel
theorem dX10_worked_134 : decode cX10_worked 134 = .ok (.getfield 86, 3) := by decide +kernel
theorem dX10_worked_137 : decode cX10_worked 137 = .ok (.iconst 0, 1) := by decide +kernel
theorem dX10_worked_138 : decode cX10_worked 138 = .ok (.iaload, 1) := by decide +kernel
theorem dX10_worked_139 : decode cX10_worked 139 = .ok (.ireturn, 1) := by decide +kernel
theorem dX10_both_0 : decode cX10_both 0 = .ok (.iload_n 0, 1) := by decide +kernel
theorem dX10_both_1 : decode cX10_both 1 = .ok (.tableswitch 92 1000010 1000016 #[43, 47, 51, 55, 59, 70, 81], 43) := by decide +kernel
theorem dX10_both_44 : decode cX10_both 44 = .ok (.iload_n 1, 1) := by decide +kernel
theorem dX10_both_45 : decode cX10_both 45 = .ok (.iload_n 2, 1) := by decide +kernel
theorem dX10_both_46 : decode cX10_both 46 = .ok (.iadd, 1) := by decide +kernel
theorem dX10_both_47 : decode cX10_both 47 = .ok (.ireturn, 1) := by decide +kernel
theorem dX10_both_48 : decode cX10_both 48 = .ok (.iload_n 1, 1) := by decide +kernel
theorem dX10_both_49 : decode cX10_both 49 = .ok (.iload_n 2, 1) := by decide +kernel
theorem dX10_both_50 : decode cX10_both 50 = .ok (.isub, 1) := by decide +kernel
theorem dX10_both_51 : decode cX10_both 51 = .ok (.ireturn, 1) := by decide +kernel
theorem dX10_both_52 : decode cX10_both 52 = .ok (.iload_n 1, 1) := by decide +kernel
theorem dX10_both_53 : decode cX10_both 53 = .ok (.iload_n 2, 1) := by decide +kernel
theorem dX10_both_54 : decode cX10_both 54 = .ok (.imul, 1) := by decide +kernel
theorem dX10_both_55 : decode cX10_both 55 = .ok (.ireturn, 1) := by decide +kernel
theorem dX10_both_56 : decode cX10_both 56 = .ok (.iload_n 1, 1) := by decide +kernel
theorem dX10_both_57 : decode cX10_both 57 = .ok (.iload_n 2, 1) := by decide +kernel
theorem dX10_both_58 : decode cX10_both 58 = .ok (.idiv, 1) := by decide +kernel
theorem dX10_both_59 : decode cX10_both 59 = .ok (.ireturn, 1) := by decide +kernel
theorem dX10_both_60 : decode cX10_both 60 = .ok (.iload_n 1, 1) := by decide +kernel
theorem dX10_both_61 : decode cX10_both 61 = .ok (.iload_n 2, 1) := by decide +kernel
theorem dX10_both_62 : decode cX10_both 62 = .ok (.if_icmp .ge 7, 3) := by decide +kernel
theorem dX10_both_65 : decode cX10_both 65 = .ok (.iconst 1, 1) := by decide +kernel
theorem dX10_both_66 : decode cX10_both 66 = .ok (.goto 4, 3) := by decide +kernel
theorem dX10_both_69 : decode cX10_both 69 = .ok (.iconst 0, 1) := by decide +kernel
theorem dX10_both_70 : decode cX10_both 70 = .ok (.ireturn, 1) := by decide +kernel
theorem dX10_both_71 : decode cX10_both 71 = .ok (.iload_n 1, 1) := by decide +kernel
theorem dX10_both_72 : decode cX10_both 72 = .ok (.iload_n 2, 1) := by decide +kernel
theorem dX10_both_73 : decode cX10_both 73 = .ok (.if_icmp .ne 7, 3) := by decide +kernel
theorem dX10_both_76 : decode cX10_both 76 = .ok (.iconst 1, 1) := by decide +kernel
theorem dX10_both_77 : decode cX10_both 77 = .ok (.goto 4, 3) := by decide +kernel
theorem dX10_both_80 : decode cX10_both 80 = .ok (.iconst 0, 1) := by decide +kernel
theorem dX10_both_81 : decode cX10_both 81 = .ok (.ireturn, 1) := by decide +kernel
theorem dX10_both_82 : decode cX10_both 82 = .ok (.iload_n 1, 1) := by decide +kernel
theorem dX10_both_83 : decode cX10_both 83 = .ok (.iload_n 2, 1) := by decide +kernel
theorem dX10_both_84 : decode cX10_both 84 = .ok (.if_icmp .le 7, 3) := by decide +kernel
theorem dX10_both_87 : decode cX10_both 87 = .ok (.iconst 1, 1) := by decide +kernel
theorem dX10_both_88 : decode cX10_both 88 = .ok (.goto 4, 3) := by decide +kernel
theorem dX10_both_91 : decode cX10_both 91 = .ok (.iconst 0, 1) := by decide +kernel
theorem dX10_both_92 : decode cX10_both 92 = .ok (.ireturn, 1) := by decide +kernel
theorem dX10_both_93 : decode cX10_both 93 = .ok (.iload_n 1, 1) := by decide +kernel
theorem dX10_both_94 : decode cX10_both 94 = .ok (.iload_n 2, 1) := by decide +kernel
theorem dX10_both_95 : decode cX10_both 95 = .ok (.iand, 1) := by decide +kernel
theorem dX10_both_96 : decode cX10_both 96 = .ok (.ireturn, 1) := by decide +kernel
theorem dX10_isMonth_0 : decode cX10_isMonth 0 = .ok (.iload_n 0, 1) := by decide +kernel
theorem dX10_isMonth_1 : decode cX10_isMonth 1 = .ok (.iconst 0, 1) := by decide +kernel
theorem dX10_isMonth_2 : decode cX10_isMonth 2 = .ok (.bipush 12, 2) := by decide +kernel
theorem dX10_isMonth_4 : decode cX10_isMonth 4 = .ok (.invokestatic 111, 3) := by decide +kernel
theorem dX10_isMonth_7 : decode cX10_isMonth 7 = .ok (.ireturn, 1) := by decide +kernel
theorem dX10_pay_0 : decode cX10_pay 0 = .ok (.iload_n 1, 1) := by decide +kernel
theorem dX10_pay_1 : decode cX10_pay 1 = .ok (.iconst 0, 1) := by decide +kernel
theorem dX10_pay_2 : decode cX10_pay 2 = .ok (.bipush 7, 2) := by decide +kernel
theorem dX10_pay_4 : decode cX10_pay 4 = .ok (.invokestatic 111, 3) := by decide +kernel
theorem dX10_pay_7 : decode cX10_pay 7 = .ok (.ifCond .eq 19, 3) := by decide +kernel
theorem dX10_pay_10 : decode cX10_pay 10 = .ok (.iload_n 2, 1) := by decide +kernel
theorem dX10_pay_11 : decode cX10_pay 11 = .ok (.invokestatic 265, 3) := by decide +kernel
theorem dX10_pay_14 : decode cX10_pay 14 = .ok (.ifCond .eq 12, 3) := by decide +kernel
theorem dX10_pay_17 : decode cX10_pay 17 = .ok (.iload_n 3, 1) := by decide +kernel
theorem dX10_pay_18 : decode cX10_pay 18 = .ok (.iconst 0, 1) := by decide +kernel
theorem dX10_pay_19 : decode cX10_pay 19 = .ok (.iconst 4, 1) := by decide +kernel
theorem dX10_pay_20 : decode cX10_pay 20 = .ok (.invokestatic 111, 3) := by decide +kernel
theorem dX10_pay_23 : decode cX10_pay 23 = .ok (.ifCond .ne 7, 3) := by decide +kernel
theorem dX10_pay_26 : decode cX10_pay 26 = .ok (.ldc_w 268, 3) := by decide +kernel
theorem dX10_pay_29 : decode cX10_pay 29 = .ok (.ireturn, 1) := by decide +kernel
theorem dX10_pay_30 : decode cX10_pay 30 = .ok (.aload_n 0, 1) := by decide +kernel
theorem dX10_pay_31 : decode cX10_pay 31 = .ok (.iload_n 1, 1) := by decide +kernel
theorem dX10_pay_32 : decode cX10_pay 32 = .ok (.iload_n 2, 1) := by decide +kernel
theorem dX10_pay_33 : decode cX10_pay 33 = .ok (.invokevirtual 269, 3) := by decide +kernel
theorem dX10_pay_36 : decode cX10_pay 36 = .ok (.iload_n 3, 1) := by decide +kernel
theorem dX10_pay_37 : decode cX10_pay 37 = .ok (.iconst 3, 1) := by decide +kernel
theorem dX10_pay_38 : decode cX10_pay 38 = .ok (.if_icmp .ge 31, 3) := by decide +kernel
theorem dX10_pay_41 : decode cX10_pay 41 = .ok (.iload_n 3, 1) := by decide +kernel
theorem dX10_pay_42 : decode cX10_pay 42 = .ok (.ifCond .ne 10, 3) := by decide +kernel
theorem dX10_pay_45 : decode cX10_pay 45 = .ok (.aload_n 0, 1) := by decide +kernel
theorem dX10_pay_46 : decode cX10_pay 46 = .ok (.getfield 245, 3) := by decide +kernel
theorem dX10_pay_49 : decode cX10_pay 49 = .ok (.goto 19, 3) := by decide +kernel
theorem dX10_pay_52 : decode cX10_pay 52 = .ok (.iload_n 3, 1) := by decide +kernel
theorem dX10_pay_53 : decode cX10_pay 53 = .ok (.iconst 1, 1) := by decide +kernel
theorem dX10_pay_54 : decode cX10_pay 54 = .ok (.if_icmp .ne 10, 3) := by decide +kernel
theorem dX10_pay_57 : decode cX10_pay 57 = .ok (.aload_n 0, 1) := by decide +kernel
theorem dX10_pay_58 : decode cX10_pay 58 = .ok (.getfield 248, 3) := by decide +kernel
theorem dX10_pay_61 : decode cX10_pay 61 = .ok (.goto 7, 3) := by decide +kernel
theorem dX10_pay_64 : decode cX10_pay 64 = .ok (.aload_n 0, 1) := by decide +kernel
theorem dX10_pay_65 : decode cX10_pay 65 = .ok (.getfield 251, 3) := by decide +kernel
theorem dX10_pay_68 : decode cX10_pay 68 = .ok (.ireturn, 1) := by decide +kernel
theorem dX10_pay_69 : decode cX10_pay 69 = .ok (.iconst 0, 1) := by decide +kernel
theorem dX10_pay_70 : decode cX10_pay 70 = .ok (.istore 4, 2) := by decide +kernel
theorem dX10_pay_72 : decode cX10_pay 72 = .ok (.iload 4, 2) := by decide +kernel
theorem dX10_pay_74 : decode cX10_pay 74 = .ok (.aload_n 0, 1) := by decide +kernel
theorem dX10_pay_75 : decode cX10_pay 75 = .ok (.getfield 137, 3) := by decide +kernel
theorem dX10_pay_78 : decode cX10_pay 78 = .ok (.if_icmp .ge 62, 3) := by decide +kernel
theorem dX10_pay_81 : decode cX10_pay 81 = .ok (.aload_n 0, 1) := by decide +kernel
theorem dX10_pay_82 : decode cX10_pay 82 = .ok (.aload_n 0, 1) := by decide +kernel
theorem dX10_pay_83 : decode cX10_pay 83 = .ok (.getfield 71, 3) := by decide +kernel
theorem dX10_pay_86 : decode cX10_pay 86 = .ok (.iload 4, 2) := by decide +kernel
theorem dX10_pay_88 : decode cX10_pay 88 = .ok (.iaload, 1) := by decide +kernel
theorem dX10_pay_89 : decode cX10_pay 89 = .ok (.aload_n 0, 1) := by decide +kernel
theorem dX10_pay_90 : decode cX10_pay 90 = .ok (.getfield 68, 3) := by decide +kernel
theorem dX10_pay_93 : decode cX10_pay 93 = .ok (.iload 4, 2) := by decide +kernel
theorem dX10_pay_95 : decode cX10_pay 95 = .ok (.iconst 1, 1) := by decide +kernel
theorem dX10_pay_96 : decode cX10_pay 96 = .ok (.iadd, 1) := by decide +kernel
theorem dX10_pay_97 : decode cX10_pay 97 = .ok (.iaload, 1) := by decide +kernel
theorem dX10_pay_98 : decode cX10_pay 98 = .ok (.invokevirtual 273, 3) := by decide +kernel
theorem dX10_pay_101 : decode cX10_pay 101 = .ok (.iconst 1, 1) := by decide +kernel
theorem dX10_pay_102 : decode cX10_pay 102 = .ok (.if_icmp .ne 32, 3) := by decide +kernel
theorem dX10_pay_105 : decode cX10_pay 105 = .ok (.iload_n 3, 1) := by decide +kernel
theorem dX10_pay_106 : decode cX10_pay 106 = .ok (.iconst 4, 1) := by decide +kernel
theorem dX10_pay_107 : decode cX10_pay 107 = .ok (.if_icmp .ne 8, 3) := by decide +kernel
theorem dX10_pay_110 : decode cX10_pay 110 = .ok (.iload 4, 2) := by decide +kernel
theorem dX10_pay_112 : decode cX10_pay 112 = .ok (.goto 21, 3) := by decide +kernel
theorem dX10_pay_115 : decode cX10_pay 115 = .ok (.aload_n 0, 1) := by decide +kernel
theorem dX10_pay_116 : decode cX10_pay 116 = .ok (.aload_n 0, 1) := by decide +kernel
theorem dX10_pay_117 : decode cX10_pay 117 = .ok (.getfield 68, 3) := by decide +kernel
theorem dX10_pay_120 : decode cX10_pay 120 = .ok (.iload 4, 2) := by decide +kernel
theorem dX10_pay_122 : decode cX10_pay 122 = .ok (.iaload, 1) := by decide +kernel
theorem dX10_pay_123 : decode cX10_pay 123 = .ok (.aload_n 0, 1) := by decide +kernel
theorem dX10_pay_124 : decode cX10_pay 124 = .ok (.getfield 71, 3) := by decide +kernel
theorem dX10_pay_127 : decode cX10_pay 127 = .ok (.iload 4, 2) := by decide +kernel
theorem dX10_pay_129 : decode cX10_pay 129 = .ok (.iaload, 1) := by decide +kernel
theorem dX10_pay_130 : decode cX10_pay 130 = .ok (.invokevirtual 273, 3) := by decide +kernel
theorem dX10_pay_133 : decode cX10_pay 133 = .ok (.ireturn, 1) := by decide +kernel
theorem dX10_pay_134 : decode cX10_pay 134 = .ok (.iinc 4 1, 3) := by decide +kernel
theorem dX10_pay_137 : decode cX10_pay 137 = .ok (.goto (-65), 3) := by decide +kernel
theorem dX10_pay_140 : decode cX10_pay 140 = .ok (.iload_n 3, 1) := by decide +kernel
theorem dX10_pay_141 : decode cX10_pay 141 = .ok (.iconst 4, 1) := by decide +kernel
theorem dX10_pay_142 : decode cX10_pay 142 = .ok (.if_icmp .ne 7, 3) := by decide +kernel
theorem dX10_pay_145 : decode cX10_pay 145 = .ok (.iconst (-1), 1) := by decide +kernel
theorem dX10_pay_146 : decode cX10_pay 146 = .ok (.goto 4, 3) := by decide +kernel
theorem dX10_pay_149 : decode cX10_pay 149 = .ok (.iconst 0, 1) := by decide +kernel
theorem dX10_pay_150 : decode cX10_pay 150 = .ok (.ireturn, 1) := by decide +kernel
theorem dX10_statement_0 : decode cX10_statement 0 = .ok (.iload_n 1, 1) := by decide +kernel
theorem dX10_statement_1 : decode cX10_statement 1 = .ok (.iconst 0, 1) := by decide +kernel
theorem dX10_statement_2 : decode cX10_statement 2 = .ok (.bipush 9, 2) := by decide +kernel
theorem dX10_statement_4 : decode cX10_statement 4 = .ok (.invokestatic 111, 3) := by decide +kernel
theorem dX10_statement_7 : decode cX10_statement 7 = .ok (.ifCond .eq 22, 3) := by decide +kernel
theorem dX10_statement_10 : decode cX10_statement 10 = .ok (.iload_n 2, 1) := by decide +kernel
theorem dX10_statement_11 : decode cX10_statement 11 = .ok (.invokestatic 265, 3) := by decide +kernel
theorem dX10_statement_14 : decode cX10_statement 14 = .ok (.ifCond .eq 15, 3) := by decide +kernel
theorem dX10_statement_17 : decode cX10_statement 17 = .ok (.iload_n 3, 1) := by decide +kernel
theorem dX10_statement_18 : decode cX10_statement 18 = .ok (.iconst 0, 1) := by decide +kernel
theorem dX10_statement_19 : decode cX10_statement 19 = .ok (.aload_n 0, 1) := by decide +kernel
theorem dX10_statement_20 : decode cX10_statement 20 = .ok (.getfield 119, 3) := by decide +kernel
theorem dX10_statement_23 : decode cX10_statement 23 = .ok (.invokestatic 111, 3) := by decide +kernel
theorem dX10_statement_26 : decode cX10_statement 26 = .ok (.ifCond .ne 7, 3) := by decide +kernel
theorem dX10_statement_29 : decode cX10_statement 29 = .ok (.ldc_w 268, 3) := by decide +kernel
theorem dX10_statement_32 : decode cX10_statement 32 = .ok (.ireturn, 1) := by decide +kernel
theorem dX10_statement_33 : decode cX10_statement 33 = .ok (.iconst 0, 1) := by decide +kernel
theorem dX10_statement_34 : decode cX10_statement 34 = .ok (.istore 4, 2) := by decide +kernel
theorem dX10_statement_36 : decode cX10_statement 36 = .ok (.iconst 0, 1) := by decide +kernel
theorem dX10_statement_37 : decode cX10_statement 37 = .ok (.istore 5, 2) := by decide +kernel
theorem dX10_statement_39 : decode cX10_statement 39 = .ok (.iload 5, 2) := by decide +kernel
theorem dX10_statement_41 : decode cX10_statement 41 = .ok (.aload_n 0, 1) := by decide +kernel
theorem dX10_statement_42 : decode cX10_statement 42 = .ok (.getfield 125, 3) := by decide +kernel
theorem dX10_statement_45 : decode cX10_statement 45 = .ok (.if_icmp .ge 119, 3) := by decide +kernel
theorem dX10_statement_48 : decode cX10_statement 48 = .ok (.aload_n 0, 1) := by decide +kernel
theorem dX10_statement_49 : decode cX10_statement 49 = .ok (.getfield 31, 3) := by decide +kernel
theorem dX10_statement_52 : decode cX10_statement 52 = .ok (.iload 5, 2) := by decide +kernel
theorem dX10_statement_54 : decode cX10_statement 54 = .ok (.iaload, 1) := by decide +kernel
theorem dX10_statement_55 : decode cX10_statement 55 = .ok (.iload_n 1, 1) := by decide +kernel
theorem dX10_statement_56 : decode cX10_statement 56 = .ok (.if_icmp .ne 102, 3) := by decide +kernel
theorem dX10_statement_59 : decode cX10_statement 59 = .ok (.aload_n 0, 1) := by decide +kernel
theorem dX10_statement_60 : decode cX10_statement 60 = .ok (.getfield 46, 3) := by decide +kernel
theorem dX10_statement_63 : decode cX10_statement 63 = .ok (.iload 5, 2) := by decide +kernel
theorem dX10_statement_65 : decode cX10_statement 65 = .ok (.iaload, 1) := by decide +kernel
theorem dX10_statement_66 : decode cX10_statement 66 = .ok (.iload_n 3, 1) := by decide +kernel
theorem dX10_statement_67 : decode cX10_statement 67 = .ok (.if_icmp .gt 91, 3) := by decide +kernel
theorem dX10_statement_70 : decode cX10_statement 70 = .ok (.aload_n 0, 1) := by decide +kernel
theorem dX10_statement_71 : decode cX10_statement 71 = .ok (.getfield 49, 3) := by decide +kernel
theorem dX10_statement_74 : decode cX10_statement 74 = .ok (.iload 5, 2) := by decide +kernel
theorem dX10_statement_76 : decode cX10_statement 76 = .ok (.iaload, 1) := by decide +kernel
theorem dX10_statement_77 : decode cX10_statement 77 = .ok (.iconst (-1), 1) := by decide +kernel
theorem dX10_statement_78 : decode cX10_statement 78 = .ok (.if_icmp .ne 6, 3) := by decide +kernel
theorem dX10_statement_81 : decode cX10_statement 81 = .ok (.goto 77, 3) := by decide +kernel
theorem dX10_statement_84 : decode cX10_statement 84 = .ok (.aload_n 0, 1) := by decide +kernel
theorem dX10_statement_85 : decode cX10_statement 85 = .ok (.getfield 49, 3) := by decide +kernel
theorem dX10_statement_88 : decode cX10_statement 88 = .ok (.iload 5, 2) := by decide +kernel
theorem dX10_statement_90 : decode cX10_statement 90 = .ok (.iaload, 1) := by decide +kernel
theorem dX10_statement_91 : decode cX10_statement 91 = .ok (.iload_n 2, 1) := by decide +kernel
theorem dX10_statement_92 : decode cX10_statement 92 = .ok (.invokestatic 257, 3) := by decide +kernel
theorem dX10_statement_95 : decode cX10_statement 95 = .ok (.ifCond .eq 26, 3) := by decide +kernel
theorem dX10_statement_98 : decode cX10_statement 98 = .ok (.aload_n 0, 1) := by decide +kernel
theorem dX10_statement_99 : decode cX10_statement 99 = .ok (.getfield 49, 3) := by decide +kernel
theorem dX10_statement_102 : decode cX10_statement 102 = .ok (.iload 5, 2) := by decide +kernel
theorem dX10_statement_104 : decode cX10_statement 104 = .ok (.iaload, 1) := by decide +kernel
theorem dX10_statement_105 : decode cX10_statement 105 = .ok (.iload_n 3, 1) := by decide +kernel
theorem dX10_statement_106 : decode cX10_statement 106 = .ok (.if_icmp .gt 15, 3) := by decide +kernel
theorem dX10_statement_109 : decode cX10_statement 109 = .ok (.iload 4, 2) := by decide +kernel
theorem dX10_statement_111 : decode cX10_statement 111 = .ok (.aload_n 0, 1) := by decide +kernel
theorem dX10_statement_112 : decode cX10_statement 112 = .ok (.getfield 58, 3) := by decide +kernel
theorem dX10_statement_115 : decode cX10_statement 115 = .ok (.iload 5, 2) := by decide +kernel
theorem dX10_statement_117 : decode cX10_statement 117 = .ok (.iaload, 1) := by decide +kernel
theorem dX10_statement_118 : decode cX10_statement 118 = .ok (.iadd, 1) := by decide +kernel
theorem dX10_statement_119 : decode cX10_statement 119 = .ok (.istore 4, 2) := by decide +kernel
theorem dX10_statement_121 : decode cX10_statement 121 = .ok (.aload_n 0, 1) := by decide +kernel
theorem dX10_statement_122 : decode cX10_statement 122 = .ok (.getfield 52, 3) := by decide +kernel
theorem dX10_statement_125 : decode cX10_statement 125 = .ok (.iload 5, 2) := by decide +kernel
theorem dX10_statement_127 : decode cX10_statement 127 = .ok (.iaload, 1) := by decide +kernel
theorem dX10_statement_128 : decode cX10_statement 128 = .ok (.iload_n 2, 1) := by decide +kernel
theorem dX10_statement_129 : decode cX10_statement 129 = .ok (.invokestatic 257, 3) := by decide +kernel
theorem dX10_statement_132 : decode cX10_statement 132 = .ok (.ifCond .eq 26, 3) := by decide +kernel
theorem dX10_statement_135 : decode cX10_statement 135 = .ok (.aload_n 0, 1) := by decide +kernel
theorem dX10_statement_136 : decode cX10_statement 136 = .ok (.getfield 52, 3) := by decide +kernel
theorem dX10_statement_139 : decode cX10_statement 139 = .ok (.iload 5, 2) := by decide +kernel
theorem dX10_statement_141 : decode cX10_statement 141 = .ok (.iaload, 1) := by decide +kernel
theorem dX10_statement_142 : decode cX10_statement 142 = .ok (.iload_n 3, 1) := by decide +kernel
theorem dX10_statement_143 : decode cX10_statement 143 = .ok (.if_icmp .gt 15, 3) := by decide +kernel
theorem dX10_statement_146 : decode cX10_statement 146 = .ok (.iload 4, 2) := by decide +kernel
theorem dX10_statement_148 : decode cX10_statement 148 = .ok (.aload_n 0, 1) := by decide +kernel
theorem dX10_statement_149 : decode cX10_statement 149 = .ok (.getfield 58, 3) := by decide +kernel
theorem dX10_statement_152 : decode cX10_statement 152 = .ok (.iload 5, 2) := by decide +kernel
theorem dX10_statement_154 : decode cX10_statement 154 = .ok (.iaload, 1) := by decide +kernel
theorem dX10_statement_155 : decode cX10_statement 155 = .ok (.isub, 1) := by decide +kernel
theorem dX10_statement_156 : decode cX10_statement 156 = .ok (.istore 4, 2) := by decide +kernel
theorem dX10_statement_158 : decode cX10_statement 158 = .ok (.iinc 5 1, 3) := by decide +kernel
theorem dX10_statement_161 : decode cX10_statement 161 = .ok (.goto (-122), 3) := by decide +kernel
theorem dX10_statement_164 : decode cX10_statement 164 = .ok (.iload 4, 2) := by decide +kernel
theorem dX10_statement_166 : decode cX10_statement 166 = .ok (.ireturn, 1) := by decide +kernel
theorem dX10_count_0 : decode cX10_count 0 = .ok (.aload_n 0, 1) := by decide +kernel
theorem dX10_count_1 : decode cX10_count 1 = .ok (.iload_n 1, 1) := by decide +kernel
theorem dX10_count_2 : decode cX10_count 2 = .ok (.invokevirtual 122, 3) := by decide +kernel
theorem dX10_count_5 : decode cX10_count 5 = .ok (.ifCond .eq 14, 3) := by decide +kernel
theorem dX10_count_8 : decode cX10_count 8 = .ok (.iload_n 2, 1) := by decide +kernel
theorem dX10_count_9 : decode cX10_count 9 = .ok (.iconst 0, 1) := by decide +kernel
theorem dX10_count_10 : decode cX10_count 10 = .ok (.sipush 9999, 3) := by decide +kernel
theorem dX10_count_13 : decode cX10_count 13 = .ok (.invokestatic 111, 3) := by decide +kernel
theorem dX10_count_16 : decode cX10_count 16 = .ok (.ifCond .ne 7, 3) := by decide +kernel
theorem dX10_count_19 : decode cX10_count 19 = .ok (.ldc_w 268, 3) := by decide +kernel
theorem dX10_count_22 : decode cX10_count 22 = .ok (.ireturn, 1) := by decide +kernel
theorem dX10_count_23 : decode cX10_count 23 = .ok (.aload_n 0, 1) := by decide +kernel
theorem dX10_count_24 : decode cX10_count 24 = .ok (.getfield 13, 3) := by decide +kernel
theorem dX10_count_27 : decode cX10_count 27 = .ok (.iload_n 1, 1) := by decide +kernel
theorem dX10_count_28 : decode cX10_count 28 = .ok (.iaload, 1) := by decide +kernel
theorem dX10_count_29 : decode cX10_count 29 = .ok (.iload_n 2, 1) := by decide +kernel
theorem dX10_count_30 : decode cX10_count 30 = .ok (.isub, 1) := by decide +kernel
theorem dX10_count_31 : decode cX10_count 31 = .ok (.istore_n 3, 1) := by decide +kernel
theorem dX10_count_32 : decode cX10_count 32 = .ok (.aload_n 0, 1) := by decide +kernel
theorem dX10_count_33 : decode cX10_count 33 = .ok (.getfield 13, 3) := by decide +kernel
theorem dX10_count_36 : decode cX10_count 36 = .ok (.iload_n 1, 1) := by decide +kernel
theorem dX10_count_37 : decode cX10_count 37 = .ok (.iload_n 2, 1) := by decide +kernel
theorem dX10_count_38 : decode cX10_count 38 = .ok (.iastore, 1) := by decide +kernel
theorem dX10_count_39 : decode cX10_count 39 = .ok (.aload_n 0, 1) := by decide +kernel
theorem dX10_count_40 : decode cX10_count 40 = .ok (.getfield 19, 3) := by decide +kernel
theorem dX10_count_43 : decode cX10_count 43 = .ok (.iload_n 1, 1) := by decide +kernel
theorem dX10_count_44 : decode cX10_count 44 = .ok (.dup2, 1) := by decide +kernel
theorem dX10_count_45 : decode cX10_count 45 = .ok (.iaload, 1) := by decide +kernel
theorem dX10_count_46 : decode cX10_count 46 = .ok (.iload_n 3, 1) := by decide +kernel
theorem dX10_count_47 : decode cX10_count 47 = .ok (.aload_n 0, 1) := by decide +kernel
theorem dX10_count_48 : decode cX10_count 48 = .ok (.getfield 7, 3) := by decide +kernel
theorem dX10_count_51 : decode cX10_count 51 = .ok (.sipush 364, 3) := by decide +kernel
theorem dX10_count_54 : decode cX10_count 54 = .ok (.iload_n 1, 1) := by decide +kernel
theorem dX10_count_55 : decode cX10_count 55 = .ok (.imul, 1) := by decide +kernel
theorem dX10_count_56 : decode cX10_count 56 = .ok (.aload_n 0, 1) := by decide +kernel
theorem dX10_count_57 : decode cX10_count 57 = .ok (.getfield 119, 3) := by decide +kernel
theorem dX10_count_60 : decode cX10_count 60 = .ok (.iadd, 1) := by decide +kernel
theorem dX10_count_61 : decode cX10_count 61 = .ok (.iaload, 1) := by decide +kernel
theorem dX10_count_62 : decode cX10_count 62 = .ok (.imul, 1) := by decide +kernel
theorem dX10_count_63 : decode cX10_count 63 = .ok (.iadd, 1) := by decide +kernel
theorem dX10_count_64 : decode cX10_count 64 = .ok (.iastore, 1) := by decide +kernel
theorem dX10_count_65 : decode cX10_count 65 = .ok (.iload_n 3, 1) := by decide +kernel
theorem dX10_count_66 : decode cX10_count 66 = .ok (.ireturn, 1) := by decide +kernel
theorem dX10_level_0 : decode cX10_level 0 = .ok (.iload_n 1, 1) := by decide +kernel
theorem dX10_level_1 : decode cX10_level 1 = .ok (.iconst 0, 1) := by decide +kernel
theorem dX10_level_2 : decode cX10_level 2 = .ok (.iconst 3, 1) := by decide +kernel
theorem dX10_level_3 : decode cX10_level 3 = .ok (.invokestatic 111, 3) := by decide +kernel
theorem dX10_level_6 : decode cX10_level 6 = .ok (.ifCond .eq 24, 3) := by decide +kernel
theorem dX10_level_9 : decode cX10_level 9 = .ok (.iload_n 2, 1) := by decide +kernel
theorem dX10_level_10 : decode cX10_level 10 = .ok (.iconst 0, 1) := by decide +kernel
theorem dX10_level_11 : decode cX10_level 11 = .ok (.sipush 999, 3) := by decide +kernel
theorem dX10_level_14 : decode cX10_level 14 = .ok (.invokestatic 111, 3) := by decide +kernel
theorem dX10_level_17 : decode cX10_level 17 = .ok (.ifCond .eq 13, 3) := by decide +kernel
theorem dX10_level_20 : decode cX10_level 20 = .ok (.iload_n 3, 1) := by decide +kernel
theorem dX10_level_21 : decode cX10_level 21 = .ok (.iconst 0, 1) := by decide +kernel
theorem dX10_level_22 : decode cX10_level 22 = .ok (.bipush 99, 2) := by decide +kernel
theorem dX10_level_24 : decode cX10_level 24 = .ok (.invokestatic 111, 3) := by decide +kernel
theorem dX10_level_27 : decode cX10_level 27 = .ok (.ifCond .ne 5, 3) := by decide +kernel
theorem dX10_level_30 : decode cX10_level 30 = .ok (.iconst 0, 1) := by decide +kernel
theorem dX10_level_31 : decode cX10_level 31 = .ok (.ireturn, 1) := by decide +kernel
theorem dX10_level_32 : decode cX10_level 32 = .ok (.aload_n 0, 1) := by decide +kernel
theorem dX10_level_33 : decode cX10_level 33 = .ok (.getfield 96, 3) := by decide +kernel
theorem dX10_level_36 : decode cX10_level 36 = .ok (.iload_n 1, 1) := by decide +kernel
theorem dX10_level_37 : decode cX10_level 37 = .ok (.iload_n 2, 1) := by decide +kernel
theorem dX10_level_38 : decode cX10_level 38 = .ok (.iastore, 1) := by decide +kernel
theorem dX10_level_39 : decode cX10_level 39 = .ok (.aload_n 0, 1) := by decide +kernel
theorem dX10_level_40 : decode cX10_level 40 = .ok (.getfield 99, 3) := by decide +kernel
theorem dX10_level_43 : decode cX10_level 43 = .ok (.iload_n 1, 1) := by decide +kernel
theorem dX10_level_44 : decode cX10_level 44 = .ok (.iload_n 3, 1) := by decide +kernel
theorem dX10_level_45 : decode cX10_level 45 = .ok (.iastore, 1) := by decide +kernel
theorem dX10_level_46 : decode cX10_level 46 = .ok (.iconst 1, 1) := by decide +kernel
theorem dX10_level_47 : decode cX10_level 47 = .ok (.ireturn, 1) := by decide +kernel
theorem dX10_tries_0 : decode cX10_tries 0 = .ok (.iload_n 2, 1) := by decide +kernel
theorem dX10_tries_1 : decode cX10_tries 1 = .ok (.istore_n 3, 1) := by decide +kernel
theorem dX10_tries_2 : decode cX10_tries 2 = .ok (.iconst 0, 1) := by decide +kernel
theorem dX10_tries_3 : decode cX10_tries 3 = .ok (.istore 4, 2) := by decide +kernel
theorem dX10_tries_5 : decode cX10_tries 5 = .ok (.iconst 0, 1) := by decide +kernel
theorem dX10_tries_6 : decode cX10_tries 6 = .ok (.istore 5, 2) := by decide +kernel
theorem dX10_tries_8 : decode cX10_tries 8 = .ok (.iload 5, 2) := by decide +kernel
theorem dX10_tries_10 : decode cX10_tries 10 = .ok (.iload_n 1, 1) := by decide +kernel
theorem dX10_tries_11 : decode cX10_tries 11 = .ok (.if_icmp .ge 68, 3) := by decide +kernel
theorem dX10_tries_14 : decode cX10_tries 14 = .ok (.aload_n 0, 1) := by decide +kernel
theorem dX10_tries_15 : decode cX10_tries 15 = .ok (.getfield 99, 3) := by decide +kernel
theorem dX10_tries_18 : decode cX10_tries 18 = .ok (.aload_n 0, 1) := by decide +kernel
theorem dX10_tries_19 : decode cX10_tries 19 = .ok (.getfield 102, 3) := by decide +kernel
theorem dX10_tries_22 : decode cX10_tries 22 = .ok (.iload 5, 2) := by decide +kernel
theorem dX10_tries_24 : decode cX10_tries 24 = .ok (.iaload, 1) := by decide +kernel
theorem dX10_tries_25 : decode cX10_tries 25 = .ok (.iaload, 1) := by decide +kernel
theorem dX10_tries_26 : decode cX10_tries 26 = .ok (.iload_n 3, 1) := by decide +kernel
theorem dX10_tries_27 : decode cX10_tries 27 = .ok (.if_icmp .ge 18, 3) := by decide +kernel
theorem dX10_tries_30 : decode cX10_tries 30 = .ok (.aload_n 0, 1) := by decide +kernel
theorem dX10_tries_31 : decode cX10_tries 31 = .ok (.getfield 99, 3) := by decide +kernel
theorem dX10_tries_34 : decode cX10_tries 34 = .ok (.aload_n 0, 1) := by decide +kernel
theorem dX10_tries_35 : decode cX10_tries 35 = .ok (.getfield 102, 3) := by decide +kernel
theorem dX10_tries_38 : decode cX10_tries 38 = .ok (.iload 5, 2) := by decide +kernel
theorem dX10_tries_40 : decode cX10_tries 40 = .ok (.iaload, 1) := by decide +kernel
theorem dX10_tries_41 : decode cX10_tries 41 = .ok (.iaload, 1) := by decide +kernel
theorem dX10_tries_42 : decode cX10_tries 42 = .ok (.goto 4, 3) := by decide +kernel
theorem dX10_tries_45 : decode cX10_tries 45 = .ok (.iload_n 3, 1) := by decide +kernel
theorem dX10_tries_46 : decode cX10_tries 46 = .ok (.istore 6, 2) := by decide +kernel
theorem dX10_tries_48 : decode cX10_tries 48 = .ok (.iload_n 3, 1) := by decide +kernel
theorem dX10_tries_49 : decode cX10_tries 49 = .ok (.iload 6, 2) := by decide +kernel
theorem dX10_tries_51 : decode cX10_tries 51 = .ok (.isub, 1) := by decide +kernel
theorem dX10_tries_52 : decode cX10_tries 52 = .ok (.istore_n 3, 1) := by decide +kernel
theorem dX10_tries_53 : decode cX10_tries 53 = .ok (.iload 4, 2) := by decide +kernel
theorem dX10_tries_55 : decode cX10_tries 55 = .ok (.iload 6, 2) := by decide +kernel
theorem dX10_tries_57 : decode cX10_tries 57 = .ok (.aload_n 0, 1) := by decide +kernel
theorem dX10_tries_58 : decode cX10_tries 58 = .ok (.getfield 96, 3) := by decide +kernel
theorem dX10_tries_61 : decode cX10_tries 61 = .ok (.aload_n 0, 1) := by decide +kernel
theorem dX10_tries_62 : decode cX10_tries 62 = .ok (.getfield 102, 3) := by decide +kernel
theorem dX10_tries_65 : decode cX10_tries 65 = .ok (.iload 5, 2) := by decide +kernel
theorem dX10_tries_67 : decode cX10_tries 67 = .ok (.iaload, 1) := by decide +kernel
theorem dX10_tries_68 : decode cX10_tries 68 = .ok (.iaload, 1) := by decide +kernel
theorem dX10_tries_69 : decode cX10_tries 69 = .ok (.imul, 1) := by decide +kernel
theorem dX10_tries_70 : decode cX10_tries 70 = .ok (.iadd, 1) := by decide +kernel
theorem dX10_tries_71 : decode cX10_tries 71 = .ok (.istore 4, 2) := by decide +kernel
theorem dX10_tries_73 : decode cX10_tries 73 = .ok (.iinc 5 1, 3) := by decide +kernel
theorem dX10_tries_76 : decode cX10_tries 76 = .ok (.goto (-68), 3) := by decide +kernel
theorem dX10_tries_79 : decode cX10_tries 79 = .ok (.iload 4, 2) := by decide +kernel
theorem dX10_tries_81 : decode cX10_tries 81 = .ok (.aload_n 0, 1) := by decide +kernel
theorem dX10_tries_82 : decode cX10_tries 82 = .ok (.getfield 277, 3) := by decide +kernel
theorem dX10_tries_85 : decode cX10_tries 85 = .ok (.if_icmp .gt 4, 3) := by decide +kernel
theorem dX10_tries_88 : decode cX10_tries 88 = .ok (.return_, 1) := by decide +kernel
theorem dX10_tries_89 : decode cX10_tries 89 = .ok (.aload_n 0, 1) := by decide +kernel
theorem dX10_tries_90 : decode cX10_tries 90 = .ok (.iload 4, 2) := by decide +kernel
theorem dX10_tries_92 : decode cX10_tries 92 = .ok (.putfield 277, 3) := by decide +kernel
theorem dX10_tries_95 : decode cX10_tries 95 = .ok (.aload_n 0, 1) := by decide +kernel
theorem dX10_tries_96 : decode cX10_tries 96 = .ok (.iload_n 3, 1) := by decide +kernel
theorem dX10_tries_97 : decode cX10_tries 97 = .ok (.putfield 280, 3) := by decide +kernel
theorem dX10_tries_100 : decode cX10_tries 100 = .ok (.iconst 0, 1) := by decide +kernel
theorem dX10_tries_101 : decode cX10_tries 101 = .ok (.istore 5, 2) := by decide +kernel
theorem dX10_tries_103 : decode cX10_tries 103 = .ok (.iload 5, 2) := by decide +kernel
theorem dX10_tries_105 : decode cX10_tries 105 = .ok (.iload_n 1, 1) := by decide +kernel
theorem dX10_tries_106 : decode cX10_tries 106 = .ok (.if_icmp .ge 23, 3) := by decide +kernel
theorem dX10_tries_109 : decode cX10_tries 109 = .ok (.aload_n 0, 1) := by decide +kernel
theorem dX10_tries_110 : decode cX10_tries 110 = .ok (.getfield 105, 3) := by decide +kernel
theorem dX10_tries_113 : decode cX10_tries 113 = .ok (.iload 5, 2) := by decide +kernel
theorem dX10_tries_115 : decode cX10_tries 115 = .ok (.aload_n 0, 1) := by decide +kernel
theorem dX10_tries_116 : decode cX10_tries 116 = .ok (.getfield 102, 3) := by decide +kernel
theorem dX10_tries_119 : decode cX10_tries 119 = .ok (.iload 5, 2) := by decide +kernel
theorem dX10_tries_121 : decode cX10_tries 121 = .ok (.iaload, 1) := by decide +kernel
theorem dX10_tries_122 : decode cX10_tries 122 = .ok (.iastore, 1) := by decide +kernel
theorem dX10_tries_123 : decode cX10_tries 123 = .ok (.iinc 5 1, 3) := by decide +kernel
theorem dX10_tries_126 : decode cX10_tries 126 = .ok (.goto (-23), 3) := by decide +kernel
theorem dX10_tries_129 : decode cX10_tries 129 = .ok (.return_, 1) := by decide +kernel
theorem dX10_nextRow_0 : decode cX10_nextRow 0 = .ok (.iload_n 1, 1) := by decide +kernel
theorem dX10_nextRow_1 : decode cX10_nextRow 1 = .ok (.iconst 1, 1) := by decide +kernel
theorem dX10_nextRow_2 : decode cX10_nextRow 2 = .ok (.isub, 1) := by decide +kernel
theorem dX10_nextRow_3 : decode cX10_nextRow 3 = .ok (.istore_n 2, 1) := by decide +kernel
theorem dX10_nextRow_4 : decode cX10_nextRow 4 = .ok (.iload_n 2, 1) := by decide +kernel
theorem dX10_nextRow_5 : decode cX10_nextRow 5 = .ok (.ifCond .lt 19, 3) := by decide +kernel
theorem dX10_nextRow_8 : decode cX10_nextRow 8 = .ok (.aload_n 0, 1) := by decide +kernel
theorem dX10_nextRow_9 : decode cX10_nextRow 9 = .ok (.getfield 102, 3) := by decide +kernel
theorem dX10_nextRow_12 : decode cX10_nextRow 12 = .ok (.iload_n 2, 1) := by decide +kernel
theorem dX10_nextRow_13 : decode cX10_nextRow 13 = .ok (.iaload, 1) := by decide +kernel
theorem dX10_nextRow_14 : decode cX10_nextRow 14 = .ok (.iconst 3, 1) := by decide +kernel
theorem dX10_nextRow_15 : decode cX10_nextRow 15 = .ok (.if_icmp .ne 9, 3) := by decide +kernel
theorem dX10_nextRow_18 : decode cX10_nextRow 18 = .ok (.iinc 2 (-1), 3) := by decide +kernel
theorem dX10_nextRow_21 : decode cX10_nextRow 21 = .ok (.goto (-17), 3) := by decide +kernel
theorem dX10_nextRow_24 : decode cX10_nextRow 24 = .ok (.iload_n 2, 1) := by decide +kernel
theorem dX10_nextRow_25 : decode cX10_nextRow 25 = .ok (.ifCond .ge 5, 3) := by decide +kernel
theorem dX10_nextRow_28 : decode cX10_nextRow 28 = .ok (.iconst 0, 1) := by decide +kernel
theorem dX10_nextRow_29 : decode cX10_nextRow 29 = .ok (.ireturn, 1) := by decide +kernel
theorem dX10_nextRow_30 : decode cX10_nextRow 30 = .ok (.aload_n 0, 1) := by decide +kernel
theorem dX10_nextRow_31 : decode cX10_nextRow 31 = .ok (.getfield 102, 3) := by decide +kernel
theorem dX10_nextRow_34 : decode cX10_nextRow 34 = .ok (.iload_n 2, 1) := by decide +kernel
theorem dX10_nextRow_35 : decode cX10_nextRow 35 = .ok (.iaload, 1) := by decide +kernel
theorem dX10_nextRow_36 : decode cX10_nextRow 36 = .ok (.iconst 1, 1) := by decide +kernel
theorem dX10_nextRow_37 : decode cX10_nextRow 37 = .ok (.iadd, 1) := by decide +kernel
theorem dX10_nextRow_38 : decode cX10_nextRow 38 = .ok (.istore_n 3, 1) := by decide +kernel
theorem dX10_nextRow_39 : decode cX10_nextRow 39 = .ok (.iload_n 2, 1) := by decide +kernel
theorem dX10_nextRow_40 : decode cX10_nextRow 40 = .ok (.istore 4, 2) := by decide +kernel
theorem dX10_nextRow_42 : decode cX10_nextRow 42 = .ok (.iload 4, 2) := by decide +kernel
theorem dX10_nextRow_44 : decode cX10_nextRow 44 = .ok (.iload_n 1, 1) := by decide +kernel
theorem dX10_nextRow_45 : decode cX10_nextRow 45 = .ok (.if_icmp .ge 17, 3) := by decide +kernel
theorem dX10_nextRow_48 : decode cX10_nextRow 48 = .ok (.aload_n 0, 1) := by decide +kernel
theorem dX10_nextRow_49 : decode cX10_nextRow 49 = .ok (.getfield 102, 3) := by decide +kernel
theorem dX10_nextRow_52 : decode cX10_nextRow 52 = .ok (.iload 4, 2) := by decide +kernel
theorem dX10_nextRow_54 : decode cX10_nextRow 54 = .ok (.iload_n 3, 1) := by decide +kernel
theorem dX10_nextRow_55 : decode cX10_nextRow 55 = .ok (.iastore, 1) := by decide +kernel
theorem dX10_nextRow_56 : decode cX10_nextRow 56 = .ok (.iinc 4 1, 3) := by decide +kernel
theorem dX10_nextRow_59 : decode cX10_nextRow 59 = .ok (.goto (-17), 3) := by decide +kernel
theorem dX10_nextRow_62 : decode cX10_nextRow 62 = .ok (.iconst 1, 1) := by decide +kernel
theorem dX10_nextRow_63 : decode cX10_nextRow 63 = .ok (.ireturn, 1) := by decide +kernel
theorem dX10_best_0 : decode cX10_best 0 = .ok (.iload_n 1, 1) := by decide +kernel
theorem dX10_best_1 : decode cX10_best 1 = .ok (.iconst 0, 1) := by decide +kernel
theorem dX10_best_2 : decode cX10_best 2 = .ok (.sipush 200, 3) := by decide +kernel
theorem dX10_best_5 : decode cX10_best 5 = .ok (.invokestatic 111, 3) := by decide +kernel
theorem dX10_best_8 : decode cX10_best 8 = .ok (.ifCond .eq 22, 3) := by decide +kernel
theorem dX10_best_11 : decode cX10_best 11 = .ok (.iload_n 2, 1) := by decide +kernel
theorem dX10_best_12 : decode cX10_best 12 = .ok (.iconst 0, 1) := by decide +kernel
theorem dX10_best_13 : decode cX10_best 13 = .ok (.bipush 8, 2) := by decide +kernel
theorem dX10_best_15 : decode cX10_best 15 = .ok (.invokestatic 111, 3) := by decide +kernel
theorem dX10_best_18 : decode cX10_best 18 = .ok (.ifCond .eq 12, 3) := by decide +kernel
theorem dX10_best_21 : decode cX10_best 21 = .ok (.iload_n 3, 1) := by decide +kernel
theorem dX10_best_22 : decode cX10_best 22 = .ok (.iconst 0, 1) := by decide +kernel
theorem dX10_best_23 : decode cX10_best 23 = .ok (.iconst 3, 1) := by decide +kernel
theorem dX10_best_24 : decode cX10_best 24 = .ok (.invokestatic 111, 3) := by decide +kernel
theorem dX10_best_27 : decode cX10_best 27 = .ok (.ifCond .ne 5, 3) := by decide +kernel
theorem dX10_best_30 : decode cX10_best 30 = .ok (.iconst (-1), 1) := by decide +kernel
theorem dX10_best_31 : decode cX10_best 31 = .ok (.ireturn, 1) := by decide +kernel
theorem dX10_best_32 : decode cX10_best 32 = .ok (.aload_n 0, 1) := by decide +kernel
theorem dX10_best_33 : decode cX10_best 33 = .ok (.iconst (-1), 1) := by decide +kernel
theorem dX10_best_34 : decode cX10_best 34 = .ok (.putfield 277, 3) := by decide +kernel
theorem dX10_best_37 : decode cX10_best 37 = .ok (.iconst 0, 1) := by decide +kernel
theorem dX10_best_38 : decode cX10_best 38 = .ok (.istore 5, 2) := by decide +kernel
theorem dX10_best_40 : decode cX10_best 40 = .ok (.iload 5, 2) := by decide +kernel
theorem dX10_best_42 : decode cX10_best 42 = .ok (.iload_n 2, 1) := by decide +kernel
theorem dX10_best_43 : decode cX10_best 43 = .ok (.if_icmp .ge 17, 3) := by decide +kernel
theorem dX10_best_46 : decode cX10_best 46 = .ok (.aload_n 0, 1) := by decide +kernel
theorem dX10_best_47 : decode cX10_best 47 = .ok (.getfield 102, 3) := by decide +kernel
theorem dX10_best_50 : decode cX10_best 50 = .ok (.iload 5, 2) := by decide +kernel
theorem dX10_best_52 : decode cX10_best 52 = .ok (.iload_n 3, 1) := by decide +kernel
theorem dX10_best_53 : decode cX10_best 53 = .ok (.iastore, 1) := by decide +kernel
theorem dX10_best_54 : decode cX10_best 54 = .ok (.iinc 5 1, 3) := by decide +kernel
theorem dX10_best_57 : decode cX10_best 57 = .ok (.goto (-17), 3) := by decide +kernel
theorem dX10_best_60 : decode cX10_best 60 = .ok (.iconst 1, 1) := by decide +kernel
theorem dX10_best_61 : decode cX10_best 61 = .ok (.istore 5, 2) := by decide +kernel
theorem dX10_best_63 : decode cX10_best 63 = .ok (.iload 5, 2) := by decide +kernel
theorem dX10_best_65 : decode cX10_best 65 = .ok (.ifCond .eq 19, 3) := by decide +kernel
theorem dX10_best_68 : decode cX10_best 68 = .ok (.aload_n 0, 1) := by decide +kernel
theorem dX10_best_69 : decode cX10_best 69 = .ok (.iload_n 2, 1) := by decide +kernel
theorem dX10_best_70 : decode cX10_best 70 = .ok (.iload_n 1, 1) := by decide +kernel
theorem dX10_best_71 : decode cX10_best 71 = .ok (.invokevirtual 283, 3) := by decide +kernel
theorem dX10_best_74 : decode cX10_best 74 = .ok (.aload_n 0, 1) := by decide +kernel
theorem dX10_best_75 : decode cX10_best 75 = .ok (.iload_n 2, 1) := by decide +kernel
theorem dX10_best_76 : decode cX10_best 76 = .ok (.invokevirtual 286, 3) := by decide +kernel
theorem dX10_best_79 : decode cX10_best 79 = .ok (.istore 5, 2) := by decide +kernel
theorem dX10_best_81 : decode cX10_best 81 = .ok (.goto (-18), 3) := by decide +kernel
theorem dX10_best_84 : decode cX10_best 84 = .ok (.iload 4, 2) := by decide +kernel
theorem dX10_best_86 : decode cX10_best 86 = .ok (.ifCond .ne 10, 3) := by decide +kernel
theorem dX10_best_89 : decode cX10_best 89 = .ok (.aload_n 0, 1) := by decide +kernel
theorem dX10_best_90 : decode cX10_best 90 = .ok (.getfield 277, 3) := by decide +kernel
theorem dX10_best_93 : decode cX10_best 93 = .ok (.goto 44, 3) := by decide +kernel
theorem dX10_best_96 : decode cX10_best 96 = .ok (.iload 4, 2) := by decide +kernel
theorem dX10_best_98 : decode cX10_best 98 = .ok (.iconst 1, 1) := by decide +kernel
theorem dX10_best_99 : decode cX10_best 99 = .ok (.if_icmp .ne 10, 3) := by decide +kernel
theorem dX10_best_102 : decode cX10_best 102 = .ok (.aload_n 0, 1) := by decide +kernel
theorem dX10_best_103 : decode cX10_best 103 = .ok (.getfield 280, 3) := by decide +kernel
theorem dX10_best_106 : decode cX10_best 106 = .ok (.goto 31, 3) := by decide +kernel
theorem dX10_best_109 : decode cX10_best 109 = .ok (.iload 4, 2) := by decide +kernel
theorem dX10_best_111 : decode cX10_best 111 = .ok (.bipush 10, 2) := by decide +kernel
theorem dX10_best_113 : decode cX10_best 113 = .ok (.bipush 9, 2) := by decide +kernel
theorem dX10_best_115 : decode cX10_best 115 = .ok (.iload_n 2, 1) := by decide +kernel
theorem dX10_best_116 : decode cX10_best 116 = .ok (.iadd, 1) := by decide +kernel
theorem dX10_best_117 : decode cX10_best 117 = .ok (.invokestatic 111, 3) := by decide +kernel
theorem dX10_best_120 : decode cX10_best 120 = .ok (.ifCond .eq 16, 3) := by decide +kernel
theorem dX10_best_123 : decode cX10_best 123 = .ok (.aload_n 0, 1) := by decide +kernel
theorem dX10_best_124 : decode cX10_best 124 = .ok (.getfield 105, 3) := by decide +kernel
theorem dX10_best_127 : decode cX10_best 127 = .ok (.iload 4, 2) := by decide +kernel
theorem dX10_best_129 : decode cX10_best 129 = .ok (.bipush 10, 2) := by decide +kernel
theorem dX10_best_131 : decode cX10_best 131 = .ok (.isub, 1) := by decide +kernel
theorem dX10_best_132 : decode cX10_best 132 = .ok (.iaload, 1) := by decide +kernel
theorem dX10_best_133 : decode cX10_best 133 = .ok (.goto 4, 3) := by decide +kernel
theorem dX10_best_136 : decode cX10_best 136 = .ok (.iconst (-1), 1) := by decide +kernel
theorem dX10_best_137 : decode cX10_best 137 = .ok (.ireturn, 1) := by decide +kernel
end
section
-- X10_isIn cuts []
set_option maxRecDepth 20000 in
set_option maxHeartbeats 2000000 in
theorem wX10_isIn {d bc bs : Nat} {h : HS} {P : Option AV → HS → Prop} {l0 : Int32} {l1 : Int32} {l2 : Int32} (k : ((l0 < l1) → (P (some (aI 0)) h)) ∧ ((¬ l0 < l1) → (((l2 < l0) → (P (some (aI 0)) h)) ∧ ((¬ l2 < l0) → (P (some (aI 1)) h))))) : Cl true mX10_isIn (d + 1) bc bs [aI l0, aI l1, aI l2] h P := by
  refine Cl_of (by decide) (Nat.le_of_ble_eq_true rfl) ?_
  show V true mX10_isIn (d + 1) bc bs 0 [(0, aI l0), (1, aI l1), (2, aI l2)] [] h P
  refine V_iload_n 0 dX10_isIn_0 rfl rfl ?_
  refine V_iload_n 1 dX10_isIn_1 rfl rfl ?_
  refine V_icmp_lt 14 dX10_isIn_2 (by decide) ⟨fun z => ?_, fun z => ?_⟩
  · replace k := k.1 z
    refine V_iconst 0 dX10_isIn_14 (by decide) ?_
    exact V_zreturn dX10_isIn_15 rfl (by decide) k
  · replace k := k.2 z
    refine V_iload_n 0 dX10_isIn_5 rfl rfl ?_
    refine V_iload_n 2 dX10_isIn_6 rfl rfl ?_
    refine V_icmp_gt 14 dX10_isIn_7 (by decide) ⟨fun z => ?_, fun z => ?_⟩
    · replace k := k.1 z
      refine V_iconst 0 dX10_isIn_14 (by decide) ?_
      exact V_zreturn dX10_isIn_15 rfl (by decide) k
    · replace k := k.2 z
      refine V_iconst 1 dX10_isIn_10 (by decide) ?_
      refine V_goto 15 dX10_isIn_11 (by decide) ?_
      exact V_zreturn dX10_isIn_15 rfl (by decide) k
-- X10_isThing cuts []
set_option maxRecDepth 20000 in
set_option maxHeartbeats 2000000 in
theorem wX10_isThing {d bc bs : Nat} {h : HS} {P : Option AV → HS → Prop} {l1 : Int32} (k : Cl true mX10_isIn d 0 0 [aI l1, aI 0, aI ((gI h 26 0 1) - 1)] h (fun r1 h2 => ∃ x3 : Int32, r1 = some (aI x3) ∧ ((x3 = 0 ∨ x3 = 1) ∧ P (some (aI x3)) h2))) : Cl true mX10_isThing (d + 1) bc bs [aR 26 0, aI l1] h P := by
  refine Cl_of (by decide) (Nat.le_of_ble_eq_true rfl) ?_
  show V true mX10_isThing (d + 1) bc bs 0 [(0, aR 26 0), (1, aI l1)] [] h P
  refine V_iload_n 1 dX10_isThing_0 rfl rfl ?_
  refine V_iconst 0 dX10_isThing_1 (by decide) ?_
  refine V_aload_n 0 dX10_isThing_2 rfl rfl ?_
  refine GI_26_1 dX10_isThing_3 lkX10_108 ?_
  refine V_iconst 1 dX10_isThing_6 (by decide) ?_
  refine V_isub dX10_isThing_7 ?_
  refine V_callS (mc := 0) (ms := 0) (as := [aI l1, aI 0, aI ((gI h 26 0 1) - 1)]) (st := []) dX10_isThing_8 okX10_isIn stX10_isIn lkX10_111 rfl (Nat.le_of_ble_eq_true rfl) (Nat.zero_le _) (Nat.zero_le _) (Cl.mono (fun r1 h2 z => ?_) k)
  obtain ⟨x3, rfl, k⟩ := z
  exact V_zreturn dX10_isThing_11 rfl k.1 k.2
-- X10_isTag cuts []
set_option maxRecDepth 20000 in
set_option maxHeartbeats 2000000 in
theorem wX10_isTag {d bc bs : Nat} {h : HS} {P : Option AV → HS → Prop} {l0 : Int32} (k : Cl true mX10_isIn d 0 0 [aI l0, aI 1, aI 9999] h (fun r1 h2 => ∃ x3 : Int32, r1 = some (aI x3) ∧ ((x3 = 0 ∨ x3 = 1) ∧ P (some (aI x3)) h2))) : Cl true mX10_isTag (d + 1) bc bs [aI l0] h P := by
  refine Cl_of (by decide) (Nat.le_of_ble_eq_true rfl) ?_
  show V true mX10_isTag (d + 1) bc bs 0 [(0, aI l0)] [] h P
  refine V_iload_n 0 dX10_isTag_0 rfl rfl ?_
  refine V_iconst 1 dX10_isTag_1 (by decide) ?_
  refine V_sipush 9999 dX10_isTag_2 (by decide) ?_
  refine V_callS (mc := 0) (ms := 0) (as := [aI l0, aI 1, aI 9999]) (st := []) dX10_isTag_5 okX10_isIn stX10_isIn lkX10_111 rfl (Nat.le_of_ble_eq_true rfl) (Nat.zero_le _) (Nat.zero_le _) (Cl.mono (fun r1 h2 z => ?_) k)
  obtain ⟨x3, rfl, k⟩ := z
  exact V_zreturn dX10_isTag_8 rfl k.1 k.2
-- X10_isSlip cuts []
set_option maxRecDepth 20000 in
set_option maxHeartbeats 2000000 in
theorem wX10_isSlip {d bc bs : Nat} {h : HS} {P : Option AV → HS → Prop} {l1 : Int32} (k : Cl true mX10_isIn d 0 0 [aI l1, aI 0, aI ((gI h 26 0 2) - 1)] h (fun r1 h2 => ∃ x3 : Int32, r1 = some (aI x3) ∧ ((x3 = 0 ∨ x3 = 1) ∧ P (some (aI x3)) h2))) : Cl true mX10_isSlip (d + 1) bc bs [aR 26 0, aI l1] h P := by
  refine Cl_of (by decide) (Nat.le_of_ble_eq_true rfl) ?_
  show V true mX10_isSlip (d + 1) bc bs 0 [(0, aR 26 0), (1, aI l1)] [] h P
  refine V_iload_n 1 dX10_isSlip_0 rfl rfl ?_
  refine V_iconst 0 dX10_isSlip_1 (by decide) ?_
  refine V_aload_n 0 dX10_isSlip_2 rfl rfl ?_
  refine GI_26_2 dX10_isSlip_3 lkX10_125 ?_
  refine V_iconst 1 dX10_isSlip_6 (by decide) ?_
  refine V_isub dX10_isSlip_7 ?_
  refine V_callS (mc := 0) (ms := 0) (as := [aI l1, aI 0, aI ((gI h 26 0 2) - 1)]) (st := []) dX10_isSlip_8 okX10_isIn stX10_isIn lkX10_111 rfl (Nat.le_of_ble_eq_true rfl) (Nat.zero_le _) (Nat.zero_le _) (Cl.mono (fun r1 h2 z => ?_) k)
  obtain ⟨x3, rfl, k⟩ := z
  exact V_zreturn dX10_isSlip_11 rfl k.1 k.2
-- X10_isParcel cuts []
set_option maxRecDepth 20000 in
set_option maxHeartbeats 2000000 in
theorem wX10_isParcel {d bc bs : Nat} {h : HS} {P : Option AV → HS → Prop} {l1 : Int32} (k : vp_in l1 120 ∧ ((((gI h 37 0 l1.toNatClampNeg) = (-1)) → (P (some (aI 0)) h)) ∧ ((¬ (gI h 37 0 l1.toNatClampNeg) = (-1)) → (vp_in l1 120 ∧ (((¬ (gI h 42 0 l1.toNatClampNeg) = (-1)) → (P (some (aI 0)) h)) ∧ (((gI h 42 0 l1.toNatClampNeg) = (-1)) → (vp_in l1 120 ∧ (((¬ (gI h 41 0 l1.toNatClampNeg) = (-1)) → (P (some (aI 0)) h)) ∧ (((gI h 41 0 l1.toNatClampNeg) = (-1)) → (P (some (aI 1)) h)))))))))) : Cl true mX10_isParcel (d + 1) bc bs [aR 26 0, aI l1] h P := by
  refine Cl_of (by decide) (Nat.le_of_ble_eq_true rfl) ?_
  show V true mX10_isParcel (d + 1) bc bs 0 [(0, aR 26 0), (1, aI l1)] [] h P
  refine V_aload_n 0 dX10_isParcel_0 rfl rfl ?_
  refine GS_26_13 dX10_isParcel_1 lkX10_40 ?_
  refine V_iload_n 1 dX10_isParcel_4 rfl rfl ?_
  refine V_iald (by decide) rt_37 dX10_isParcel_5 k.1 ?_
  replace k := k.2
  refine V_iconst (-1) dX10_isParcel_6 (by decide) ?_
  refine V_icmp_eq 34 dX10_isParcel_7 (by decide) ⟨fun z => ?_, fun z => ?_⟩
  · replace k := k.1 z
    refine V_iconst 0 dX10_isParcel_34 (by decide) ?_
    exact V_zreturn dX10_isParcel_35 rfl (by decide) k
  · replace k := k.2 z
    refine V_aload_n 0 dX10_isParcel_10 rfl rfl ?_
    refine GS_26_18 dX10_isParcel_11 lkX10_55 ?_
    refine V_iload_n 1 dX10_isParcel_14 rfl rfl ?_
    refine V_iald (by decide) rt_42 dX10_isParcel_15 k.1 ?_
    replace k := k.2
    refine V_iconst (-1) dX10_isParcel_16 (by decide) ?_
    refine V_icmp_ne 34 dX10_isParcel_17 (by decide) ⟨fun z => ?_, fun z => ?_⟩
    · replace k := k.1 z
      refine V_iconst 0 dX10_isParcel_34 (by decide) ?_
      exact V_zreturn dX10_isParcel_35 rfl (by decide) k
    · replace k := k.2 z
      refine V_aload_n 0 dX10_isParcel_20 rfl rfl ?_
      refine GS_26_17 dX10_isParcel_21 lkX10_52 ?_
      refine V_iload_n 1 dX10_isParcel_24 rfl rfl ?_
      refine V_iald (by decide) rt_41 dX10_isParcel_25 k.1 ?_
      replace k := k.2
      refine V_iconst (-1) dX10_isParcel_26 (by decide) ?_
      refine V_icmp_ne 34 dX10_isParcel_27 (by decide) ⟨fun z => ?_, fun z => ?_⟩
      · replace k := k.1 z
        refine V_iconst 0 dX10_isParcel_34 (by decide) ?_
        exact V_zreturn dX10_isParcel_35 rfl (by decide) k
      · replace k := k.2 z
        refine V_iconst 1 dX10_isParcel_30 (by decide) ?_
        refine V_goto 35 dX10_isParcel_31 (by decide) ?_
        exact V_zreturn dX10_isParcel_35 rfl (by decide) k
-- X10_see cuts []
set_option maxRecDepth 20000 in
set_option maxHeartbeats 2000000 in
theorem wX10_see {d bc bs : Nat} {h : HS} {P : Option AV → HS → Prop} {l1 : Int32} (k : (((gI h 26 0 35) ≤ l1) → (P (some (aI (-1))) h)) ∧ ((¬ (gI h 26 0 35) ≤ l1) → (vp_in l1 400 ∧ (P (some (aI (gI h 53 0 l1.toNatClampNeg))) h)))) : Cl true mX10_see (d + 1) bc bs [aR 26 0, aI l1] h P := by
  refine Cl_of (by decide) (Nat.le_of_ble_eq_true rfl) ?_
  show V true mX10_see (d + 1) bc bs 0 [(0, aR 26 0), (1, aI l1)] [] h P
  refine V_iload_n 1 dX10_see_0 rfl rfl ?_
  refine V_aload_n 0 dX10_see_1 rfl rfl ?_
  refine GI_26_35 dX10_see_2 lkX10_143 ?_
  refine V_icmp_ge 17 dX10_see_5 (by decide) ⟨fun z => ?_, fun z => ?_⟩
  · replace k := k.1 z
    refine V_iconst (-1) dX10_see_17 (by decide) ?_
    exact V_ireturn dX10_see_18 rfl k
  · replace k := k.2 z
    refine V_aload_n 0 dX10_see_8 rfl rfl ?_
    refine GS_26_34 dX10_see_9 lkX10_89 ?_
    refine V_iload_n 1 dX10_see_12 rfl rfl ?_
    refine V_iald (by decide) rt_53 dX10_see_13 k.1 ?_
    replace k := k.2
    refine V_goto 18 dX10_see_14 (by decide) ?_
    exact V_ireturn dX10_see_18 rfl k
-- X10_isLetter cuts []
set_option maxRecDepth 20000 in
set_option maxHeartbeats 2000000 in
theorem wX10_isLetter {d bc bs : Nat} {h : HS} {P : Option AV → HS → Prop} {l0 : Int32} (k : Cl true mX10_isIn d 0 0 [aI l0, aI 97, aI 122] h (fun r1 h2 => ∃ x3 : Int32, r1 = some (aI x3) ∧ (((¬ x3 = 0) → (P (some (aI 1)) h2)) ∧ ((x3 = 0) → (Cl true mX10_isIn d 0 0 [aI l0, aI 65, aI 90] h2 (fun r4 h5 => ∃ x6 : Int32, r4 = some (aI x6) ∧ (((x6 = 0) → (P (some (aI 0)) h5)) ∧ ((¬ x6 = 0) → (P (some (aI 1)) h5))))))))) : Cl true mX10_isLetter (d + 1) bc bs [aI l0] h P := by
  refine Cl_of (by decide) (Nat.le_of_ble_eq_true rfl) ?_
  show V true mX10_isLetter (d + 1) bc bs 0 [(0, aI l0)] [] h P
  refine V_iload_n 0 dX10_isLetter_0 rfl rfl ?_
  refine V_bipush 97 dX10_isLetter_1 (by decide) ?_
  refine V_bipush 122 dX10_isLetter_3 (by decide) ?_
  refine V_callS (mc := 0) (ms := 0) (as := [aI l0, aI 97, aI 122]) (st := []) dX10_isLetter_5 okX10_isIn stX10_isIn lkX10_111 rfl (Nat.le_of_ble_eq_true rfl) (Nat.zero_le _) (Nat.zero_le _) (Cl.mono (fun r1 h2 z => ?_) k)
  obtain ⟨x3, rfl, k⟩ := z
  refine V_if_ne 22 dX10_isLetter_8 (by decide) ⟨fun z => ?_, fun z => ?_⟩
  · replace k := k.1 z
    refine V_iconst 1 dX10_isLetter_22 (by decide) ?_
    refine V_goto 27 dX10_isLetter_23 (by decide) ?_
    exact V_zreturn dX10_isLetter_27 rfl (by decide) k
  · replace k := k.2 z
    refine V_iload_n 0 dX10_isLetter_11 rfl rfl ?_
    refine V_bipush 65 dX10_isLetter_12 (by decide) ?_
    refine V_bipush 90 dX10_isLetter_14 (by decide) ?_
    refine V_callS (mc := 0) (ms := 0) (as := [aI l0, aI 65, aI 90]) (st := []) dX10_isLetter_16 okX10_isIn stX10_isIn lkX10_111 rfl (Nat.le_of_ble_eq_true rfl) (Nat.zero_le _) (Nat.zero_le _) (Cl.mono (fun r4 h5 z => ?_) k)
    obtain ⟨x6, rfl, k⟩ := z
    refine V_if_eq 26 dX10_isLetter_19 (by decide) ⟨fun z => ?_, fun z => ?_⟩
    · replace k := k.1 z
      refine V_iconst 0 dX10_isLetter_26 (by decide) ?_
      exact V_zreturn dX10_isLetter_27 rfl (by decide) k
    · replace k := k.2 z
      refine V_iconst 1 dX10_isLetter_22 (by decide) ?_
      refine V_goto 27 dX10_isLetter_23 (by decide) ?_
      exact V_zreturn dX10_isLetter_27 rfl (by decide) k
-- X10_isDigit cuts []
set_option maxRecDepth 20000 in
set_option maxHeartbeats 2000000 in
theorem wX10_isDigit {d bc bs : Nat} {h : HS} {P : Option AV → HS → Prop} {l0 : Int32} (k : Cl true mX10_isIn d 0 0 [aI l0, aI 48, aI 57] h (fun r1 h2 => ∃ x3 : Int32, r1 = some (aI x3) ∧ ((x3 = 0 ∨ x3 = 1) ∧ P (some (aI x3)) h2))) : Cl true mX10_isDigit (d + 1) bc bs [aI l0] h P := by
  refine Cl_of (by decide) (Nat.le_of_ble_eq_true rfl) ?_
  show V true mX10_isDigit (d + 1) bc bs 0 [(0, aI l0)] [] h P
  refine V_iload_n 0 dX10_isDigit_0 rfl rfl ?_
  refine V_bipush 48 dX10_isDigit_1 (by decide) ?_
  refine V_bipush 57 dX10_isDigit_3 (by decide) ?_
  refine V_callS (mc := 0) (ms := 0) (as := [aI l0, aI 48, aI 57]) (st := []) dX10_isDigit_5 okX10_isIn stX10_isIn lkX10_111 rfl (Nat.le_of_ble_eq_true rfl) (Nat.zero_le _) (Nat.zero_le _) (Cl.mono (fun r1 h2 z => ?_) k)
  obtain ⟨x3, rfl, k⟩ := z
  exact V_zreturn dX10_isDigit_8 rfl k.1 k.2
-- X10_word cuts []
set_option maxRecDepth 20000 in
set_option maxHeartbeats 2000000 in
theorem wX10_word {d bc bs : Nat} {h : HS} {P : Option AV → HS → Prop} {l0 : Int64} (k : ((¬ (lg_cmp l0 7364985) = 0) → (((¬ (lg_cmp l0 2003330414) = 0) → (((¬ (lg_cmp l0 6385252) = 0) → (((¬ (lg_cmp l0 7566701) = 0) → (((¬ (lg_cmp l0 495740088435) = 0) → (((¬ (lg_cmp l0 1650549611) = 0) → (((¬ (lg_cmp l0 470020945000) = 0) → (P (some (aI 1)) h)) ∧ (((lg_cmp l0 470020945000) = 0) → (P (some (aI 1000004)) h)))) ∧ (((lg_cmp l0 1650549611) = 0) → (P (some (aI 1000003)) h)))) ∧ (((lg_cmp l0 495740088435) = 0) → (P (some (aI 1000002)) h)))) ∧ (((lg_cmp l0 7566701) = 0) → (P (some (aI 1000001)) h)))) ∧ (((lg_cmp l0 6385252) = 0) → (P (some (aI 5)) h)))) ∧ (((lg_cmp l0 2003330414) = 0) → (P (some (aI 4)) h)))) ∧ (((lg_cmp l0 7364985) = 0) → (P (some (aI 3)) h))) : Cl true mX10_word (d + 1) bc bs [aL l0] h P := by
  refine Cl_of (by decide) (Nat.le_of_ble_eq_true rfl) ?_
  show V true mX10_word (d + 1) bc bs 0 [(0, aL l0)] [] h P
  refine V_lload_n 0 dX10_word_0 rfl rfl ?_
  refine V_ldc2 7364985 dX10_word_1 lkX10_146 ?_
  refine V_lcmp dX10_word_4 ?_
  refine V_if_ne 10 dX10_word_5 (by decide) ⟨fun z => ?_, fun z => ?_⟩
  · replace k := k.1 z
    refine V_lload_n 0 dX10_word_10 rfl rfl ?_
    refine V_ldc2 2003330414 dX10_word_11 lkX10_148 ?_
    refine V_lcmp dX10_word_14 ?_
    refine V_if_ne 20 dX10_word_15 (by decide) ⟨fun z => ?_, fun z => ?_⟩
    · replace k := k.1 z
      refine V_lload_n 0 dX10_word_20 rfl rfl ?_
      refine V_ldc2 6385252 dX10_word_21 lkX10_150 ?_
      refine V_lcmp dX10_word_24 ?_
      refine V_if_ne 30 dX10_word_25 (by decide) ⟨fun z => ?_, fun z => ?_⟩
      · replace k := k.1 z
        refine V_lload_n 0 dX10_word_30 rfl rfl ?_
        refine V_ldc2 7566701 dX10_word_31 lkX10_152 ?_
        refine V_lcmp dX10_word_34 ?_
        refine V_if_ne 41 dX10_word_35 (by decide) ⟨fun z => ?_, fun z => ?_⟩
        · replace k := k.1 z
          refine V_lload_n 0 dX10_word_41 rfl rfl ?_
          refine V_ldc2 495740088435 dX10_word_42 lkX10_155 ?_
          refine V_lcmp dX10_word_45 ?_
          refine V_if_ne 52 dX10_word_46 (by decide) ⟨fun z => ?_, fun z => ?_⟩
          · replace k := k.1 z
            refine V_lload_n 0 dX10_word_52 rfl rfl ?_
            refine V_ldc2 1650549611 dX10_word_53 lkX10_158 ?_
            refine V_lcmp dX10_word_56 ?_
            refine V_if_ne 63 dX10_word_57 (by decide) ⟨fun z => ?_, fun z => ?_⟩
            · replace k := k.1 z
              refine V_lload_n 0 dX10_word_63 rfl rfl ?_
              refine V_ldc2 470020945000 dX10_word_64 lkX10_161 ?_
              refine V_lcmp dX10_word_67 ?_
              refine V_if_ne 76 dX10_word_68 (by decide) ⟨fun z => ?_, fun z => ?_⟩
              · replace k := k.1 z
                refine V_iconst 1 dX10_word_76 (by decide) ?_
                exact V_ireturn dX10_word_77 rfl k
              · replace k := k.2 z
                refine V_ldc 1000004 dX10_word_71 lkX10_163 ?_
                refine V_goto 77 dX10_word_73 (by decide) ?_
                exact V_ireturn dX10_word_77 rfl k
            · replace k := k.2 z
              refine V_ldc 1000003 dX10_word_60 lkX10_160 ?_
              exact V_ireturn dX10_word_62 rfl k
          · replace k := k.2 z
            refine V_ldc 1000002 dX10_word_49 lkX10_157 ?_
            exact V_ireturn dX10_word_51 rfl k
        · replace k := k.2 z
          refine V_ldc 1000001 dX10_word_38 lkX10_154 ?_
          exact V_ireturn dX10_word_40 rfl k
      · replace k := k.2 z
        refine V_iconst 5 dX10_word_28 (by decide) ?_
        exact V_ireturn dX10_word_29 rfl k
    · replace k := k.2 z
      refine V_iconst 4 dX10_word_18 (by decide) ?_
      exact V_ireturn dX10_word_19 rfl k
  · replace k := k.2 z
    refine V_iconst 3 dX10_word_8 (by decide) ?_
    exact V_ireturn dX10_word_9 rfl k
-- X10_isOf cuts []
set_option maxRecDepth 20000 in
set_option maxHeartbeats 2000000 in
theorem wX10_isOf {d bc bs : Nat} {h : HS} {P : Option AV → HS → Prop} {l0 : Int32} {l1 : Int32} (k : ((l0 = (-1)) → (P (some (aI 0)) h)) ∧ ((¬ l0 = (-1)) → (((¬ (l0 / 28) = l1) → (P (some (aI 0)) h)) ∧ (((l0 / 28) = l1) → (P (some (aI 1)) h))))) : Cl true mX10_isOf (d + 1) bc bs [aI l0, aI l1] h P := by
  refine Cl_of (by decide) (Nat.le_of_ble_eq_true rfl) ?_
  show V true mX10_isOf (d + 1) bc bs 0 [(0, aI l0), (1, aI l1)] [] h P
  refine V_iload_n 0 dX10_isOf_0 rfl rfl ?_
  refine V_iconst (-1) dX10_isOf_1 (by decide) ?_
  refine V_icmp_eq 17 dX10_isOf_2 (by decide) ⟨fun z => ?_, fun z => ?_⟩
  · replace k := k.1 z
    refine V_iconst 0 dX10_isOf_17 (by decide) ?_
    exact V_zreturn dX10_isOf_18 rfl (by decide) k
  · replace k := k.2 z
    refine V_iload_n 0 dX10_isOf_5 rfl rfl ?_
    refine V_bipush 28 dX10_isOf_6 (by decide) ?_
    refine V_idiv dX10_isOf_8 (by decide) ?_
    refine V_iload_n 1 dX10_isOf_9 rfl rfl ?_
    refine V_icmp_ne 17 dX10_isOf_10 (by decide) ⟨fun z => ?_, fun z => ?_⟩
    · replace k := k.1 z
      refine V_iconst 0 dX10_isOf_17 (by decide) ?_
      exact V_zreturn dX10_isOf_18 rfl (by decide) k
    · replace k := k.2 z
      refine V_iconst 1 dX10_isOf_13 (by decide) ?_
      refine V_goto 18 dX10_isOf_14 (by decide) ?_
      exact V_zreturn dX10_isOf_18 rfl (by decide) k
-- X10_both cuts []
set_option maxRecDepth 20000 in
set_option maxHeartbeats 2000000 in
theorem wX10_both {d bc bs : Nat} {h : HS} {P : Option AV → HS → Prop} {l0 : Int32} {l1 : Int32} {l2 : Int32} (k : (l0 = 1000010 → (P (some (aI (l1 + l2))) h)) ∧ (l0 = 1000011 → (P (some (aI (l1 - l2))) h)) ∧ (l0 = 1000012 → (P (some (aI (l1 * l2))) h)) ∧ (l0 = 1000013 → (¬ l2 = 0 ∧ (P (some (aI (l1 / l2))) h))) ∧ (l0 = 1000014 → (((l2 ≤ l1) → (P (some (aI 0)) h)) ∧ ((¬ l2 ≤ l1) → (P (some (aI 1)) h)))) ∧ (l0 = 1000015 → (((¬ l1 = l2) → (P (some (aI 0)) h)) ∧ ((l1 = l2) → (P (some (aI 1)) h)))) ∧ (l0 = 1000016 → (((l1 ≤ l2) → (P (some (aI 0)) h)) ∧ ((¬ l1 ≤ l2) → (P (some (aI 1)) h)))) ∧ (¬ (1000010 ≤ (l0).toInt ∧ (l0).toInt ≤ 1000016) → (P (some (aI (l1 &&& l2))) h))) : Cl true mX10_both (d + 1) bc bs [aI l0, aI l1, aI l2] h P := by
  refine Cl_of (by decide) (Nat.le_of_ble_eq_true rfl) ?_
  show V true mX10_both (d + 1) bc bs 0 [(0, aI l0), (1, aI l1), (2, aI l2)] [] h P
  refine V_iload_n 0 dX10_both_0 rfl rfl ?_
  obtain ⟨k0, k1, k2, k3, k4, k5, k6, k7⟩ := k
  rcases sw_cases l0 (1000010) (1000016) (by decide) (by decide) with zo | ⟨zn, zl, zx⟩
  · have k := k7 zo
    refine V_tabOut 93 dX10_both_1 (sw_out zo) (by decide) ?_
    refine V_iload_n 1 dX10_both_93 rfl rfl ?_
    refine V_iload_n 2 dX10_both_94 rfl rfl ?_
    refine V_iand dX10_both_95 ?_
    exact V_ireturn dX10_both_96 rfl k
  · match zn, zl, zx with
    | 0, _, zx =>
      have zx : l0 = 1000010 := zx
      have k := k0 zx
      refine V_tabIn 44 dX10_both_1 (by rw [zx]; decide) (by rw [zx]; decide) (by rw [zx]; rfl) (by decide) ?_
      refine V_iload_n 1 dX10_both_44 rfl rfl ?_
      refine V_iload_n 2 dX10_both_45 rfl rfl ?_
      refine V_iadd dX10_both_46 ?_
      exact V_ireturn dX10_both_47 rfl k
    | 1, _, zx =>
      have zx : l0 = 1000011 := zx
      have k := k1 zx
      refine V_tabIn 48 dX10_both_1 (by rw [zx]; decide) (by rw [zx]; decide) (by rw [zx]; rfl) (by decide) ?_
      refine V_iload_n 1 dX10_both_48 rfl rfl ?_
      refine V_iload_n 2 dX10_both_49 rfl rfl ?_
      refine V_isub dX10_both_50 ?_
      exact V_ireturn dX10_both_51 rfl k
    | 2, _, zx =>
      have zx : l0 = 1000012 := zx
      have k := k2 zx
      refine V_tabIn 52 dX10_both_1 (by rw [zx]; decide) (by rw [zx]; decide) (by rw [zx]; rfl) (by decide) ?_
      refine V_iload_n 1 dX10_both_52 rfl rfl ?_
      refine V_iload_n 2 dX10_both_53 rfl rfl ?_
      refine V_imul dX10_both_54 ?_
      exact V_ireturn dX10_both_55 rfl k
    | 3, _, zx =>
      have zx : l0 = 1000013 := zx
      have k := k3 zx
      refine V_tabIn 56 dX10_both_1 (by rw [zx]; decide) (by rw [zx]; decide) (by rw [zx]; rfl) (by decide) ?_
      refine V_iload_n 1 dX10_both_56 rfl rfl ?_
      refine V_iload_n 2 dX10_both_57 rfl rfl ?_
      refine V_idiv dX10_both_58 k.1 ?_
      replace k := k.2
      exact V_ireturn dX10_both_59 rfl k
    | 4, _, zx =>
      have zx : l0 = 1000014 := zx
      have k := k4 zx
      refine V_tabIn 60 dX10_both_1 (by rw [zx]; decide) (by rw [zx]; decide) (by rw [zx]; rfl) (by decide) ?_
      refine V_iload_n 1 dX10_both_60 rfl rfl ?_
      refine V_iload_n 2 dX10_both_61 rfl rfl ?_
      refine V_icmp_ge 69 dX10_both_62 (by decide) ⟨fun z => ?_, fun z => ?_⟩
      · replace k := k.1 z
        refine V_iconst 0 dX10_both_69 (by decide) ?_
        exact V_ireturn dX10_both_70 rfl k
      · replace k := k.2 z
        refine V_iconst 1 dX10_both_65 (by decide) ?_
        refine V_goto 70 dX10_both_66 (by decide) ?_
        exact V_ireturn dX10_both_70 rfl k
    | 5, _, zx =>
      have zx : l0 = 1000015 := zx
      have k := k5 zx
      refine V_tabIn 71 dX10_both_1 (by rw [zx]; decide) (by rw [zx]; decide) (by rw [zx]; rfl) (by decide) ?_
      refine V_iload_n 1 dX10_both_71 rfl rfl ?_
      refine V_iload_n 2 dX10_both_72 rfl rfl ?_
      refine V_icmp_ne 80 dX10_both_73 (by decide) ⟨fun z => ?_, fun z => ?_⟩
      · replace k := k.1 z
        refine V_iconst 0 dX10_both_80 (by decide) ?_
        exact V_ireturn dX10_both_81 rfl k
      · replace k := k.2 z
        refine V_iconst 1 dX10_both_76 (by decide) ?_
        refine V_goto 81 dX10_both_77 (by decide) ?_
        exact V_ireturn dX10_both_81 rfl k
    | 6, _, zx =>
      have zx : l0 = 1000016 := zx
      have k := k6 zx
      refine V_tabIn 82 dX10_both_1 (by rw [zx]; decide) (by rw [zx]; decide) (by rw [zx]; rfl) (by decide) ?_
      refine V_iload_n 1 dX10_both_82 rfl rfl ?_
      refine V_iload_n 2 dX10_both_83 rfl rfl ?_
      refine V_icmp_le 91 dX10_both_84 (by decide) ⟨fun z => ?_, fun z => ?_⟩
      · replace k := k.1 z
        refine V_iconst 0 dX10_both_91 (by decide) ?_
        exact V_ireturn dX10_both_92 rfl k
      · replace k := k.2 z
        refine V_iconst 1 dX10_both_87 (by decide) ?_
        refine V_goto 92 dX10_both_88 (by decide) ?_
        exact V_ireturn dX10_both_92 rfl k
    | n + 7, zl, _ => exact absurd zl (by omega)
-- X10_isMonth cuts []
set_option maxRecDepth 20000 in
set_option maxHeartbeats 2000000 in
theorem wX10_isMonth {d bc bs : Nat} {h : HS} {P : Option AV → HS → Prop} {l0 : Int32} (k : Cl true mX10_isIn d 0 0 [aI l0, aI 0, aI 12] h (fun r1 h2 => ∃ x3 : Int32, r1 = some (aI x3) ∧ ((x3 = 0 ∨ x3 = 1) ∧ P (some (aI x3)) h2))) : Cl true mX10_isMonth (d + 1) bc bs [aI l0] h P := by
  refine Cl_of (by decide) (Nat.le_of_ble_eq_true rfl) ?_
  show V true mX10_isMonth (d + 1) bc bs 0 [(0, aI l0)] [] h P
  refine V_iload_n 0 dX10_isMonth_0 rfl rfl ?_
  refine V_iconst 0 dX10_isMonth_1 (by decide) ?_
  refine V_bipush 12 dX10_isMonth_2 (by decide) ?_
  refine V_callS (mc := 0) (ms := 0) (as := [aI l0, aI 0, aI 12]) (st := []) dX10_isMonth_4 okX10_isIn stX10_isIn lkX10_111 rfl (Nat.le_of_ble_eq_true rfl) (Nat.zero_le _) (Nat.zero_le _) (Cl.mono (fun r1 h2 z => ?_) k)
  obtain ⟨x3, rfl, k⟩ := z
  exact V_zreturn dX10_isMonth_7 rfl k.1 k.2
end
section
-- ===== references stored, new cells, Object's constructor, casts =====
theorem rf_fit {t : FieldType} (ht : isRT t = true) (r : Option Nat) : narrow t (va_rf r) = va_rf r ∧ fits t (va_rf r) = true := by
  cases t <;> first | (cases ht; done) | (cases r <;> exact ⟨rfl, rfl⟩)
theorem cls_int {ci : Nat} {C : String} {T : u_T} {N : Nat} (h : vwCl[ci]? = some (C, T, N)) : ∀ k, k < N → isRT (fty ci k) = true ∨ fty ci k = .int := by
  match ci, h with
  | 0, h => cases h; decide
  | 1, h => cases h; decide
  | 2, h => cases h; decide
  | 3, h => cases h; decide
  | 4, h => cases h; decide
  | 5, h => cases h; decide
  | 6, h => cases h; decide
  | 7, h => cases h; decide
  | 8, h => cases h; decide
  | 9, h => cases h; decide
  | 10, h => cases h; decide
  | 11, h => cases h; decide
  | k + 12, h => simp at h
section VN
variable {σ : Bool} {M : MT} {d bc bs pc : Nat} {lv : List (Nat × AV)} {st : List AV} {h : HS} {P : Option AV → HS → Prop}
theorem gS_sRn {c i k c' i' k' : Nat} {r : Option PT} (hn : ¬ (c' = c ∧ k' = k ∧ i' = i)) : gS σ (sR h c i k r) c' i' k' = gS σ h c' i' k' := by
  unfold gS
  rw [gR_sR, if_neg hn]
theorem gS_sRe {c i k : Nat} {r : Option PT} (hs : σ = false ∨ fR c i k = none) : gS σ (sR h c i k r) c i k = r := by
  have e : gR (sR h c i k r) c i k = r := by rw [gR_sR, if_pos ⟨rfl, rfl, rfl⟩]
  unfold gS
  rcases hs with rfl | hs
  · rw [e]; rfl
  · rw [e, hs]; cases σ <;> rfl
theorem toE_sR {cA : FieldType → ClassId} {ad : PT → Nat} {c i k : Nat} {r : Option PT} {q : PT} (hq : q ≠ (c, i)) : toE σ cA ad (sR h c i k r) q = toE σ cA ad h q := by
  obtain ⟨c', i'⟩ := q
  have hn : ∀ k', ¬ (c' = c ∧ k' = k ∧ i' = i) := fun k' z => hq (by rw [z.1, z.2.2])
  have e1 : ∀ k', gS σ (sR h c i k r) c' i' k' = gS σ h c' i' k' := fun k' => gS_sRn (hn k')
  have e2 : gI (sR h c i k r) c' i' = gI h c' i' := rfl
  have e3 : ∀ ci, fv σ ad (sR h c i k r) c' i' ci = fv σ ad h c' i' ci := fun ci => by funext k'; unfold fv; rw [e1]; rfl
  unfold toE
  simp only [e1, e2, e3]
/-- a store of a reference -/
theorem Bd.stR {p : Program} {R : Room} {s : State} {m : MethodId} {args : Array Value} {meth : Method} {c : Code} {D : va_G} {cA : FieldType → ClassId} {B : Nat} {ad ad0 : PT → Nat} {L0 : List PT} {H H1 : Heap} {locs locs1 : List Loc} {cells slots : Nat} {ls : Array Slot} {st' : List AV} {cc i k j : Nat} {r : Option PT}
    (b : Bd σ M d bc bs lv st h p R s m args meth c D cA B ad ad0 L0 H locs cells slots ls) (hs : ∀ v ∈ st', okV h v) (hr : okV h (aP r)) (hj : h.2.2[j]? = some (cc, i)) (hP : va_P D vwCl ((wsO σ cA ad h).set j (ad (cc, i), toE σ cA ad (sR h cc i k r) (cc, i))) H1) (hD : va_D (fun q => B ≤ q) ((wsO σ cA ad h).set j (ad (cc, i), toE σ cA ad (sR h cc i k r) (cc, i)))) (hS : va_S (fun q => B ≤ q) s.heap H1 locs1) (hst : σ = false ∨ fR cc i k = none) :
    Bd σ M d bc bs lv st' (sR h cc i k r) p R s m args meth c D cA B ad ad0 L0 H1 locs1 cells slots ls := by
  obtain ⟨h1, h2, h3, h4, h5, h6, h7, h8, h9, -, h11⟩ := b
  have e := wsO_set (σ := σ) (cA := cA) (ad := ad) (h := h) (h2 := sR h cc i k r) (j := j) (q := (cc, i)) rfl hj (fun n q' hn hne => toE_sR (fun z => hne (ws_nd h6.2.1 (by rw [hn, z]) hj)))
  refine ⟨h1, h2, h3, h4, h5, ⟨by rw [e]; exact hP, by rw [e]; exact hD, fun q hq k' r' hr' => ?_⟩, hS, h8, h9, hs, h11⟩
  by_cases z : q.1 = cc ∧ k' = k ∧ q.2 = i
  · obtain ⟨z1, z2, z3⟩ := z
    rw [z1, z2, z3, gS_sRe hst] at hr'
    exact hr r' (by rw [hr'])
  · rw [gS_sRn z] at hr'
    exact h6.2.2 q hq k' r' hr'
theorem V_putR {c i ci idx k N : Nat} {C : String} {T : u_T} {r : Option PT} (hc65 : c < 65) (hr : rty c i = .inl ci) (hcl : vwCl[ci]? = some (C, T, N)) (hk : k < N) (hf : isRT (fty ci k) = true) (hfin : (T k).2.2.2 = false ∨ (T k).2.2.2 = true ∧ M.1.name = "<init>" ∧ (T k).1 = M.1.cls) (hst : σ = false ∨ fR c i k = none) (hd : decode M.2.1 pc = .ok (.putfield idx, 3)) (hw : Cond.fieldLink M.1.cls idx (T k).1 (T k).2.1 (T k).2.2.1 ∈ gw)
    (kk : V σ M d bc bs (pc + 3) lv st (sR h c i k r) P) : V σ M d bc bs pc lv (aP r :: aR c i :: st) h P := by
  intro p l e R s m args below meth c0 D cA B ad ad0 L0 H locs cells slots ls b
  obtain ⟨j, hj0, hj⟩ := ws_at (σ := σ) (cA := cA) (ad := ad) (inL hc65 (okh (okt b.so)))
  rw [toE_o hr] at hj
  obtain ⟨eN, hin, hty, hnm⟩ := cls_ok hcl
  have hlen : k < ((List.range (nF ci)).map (fv σ ad h c i ci)).length := by rw [List.length_map, List.length_range, ← eN]; exact hk
  have hset : ((List.range (nF ci)).map (fv σ ad h c i ci)).set k (vl ad (aP r)) = (List.range (nF ci)).map (fv σ ad (sR h c i k r) c i ci) := by
    refine fs_set ?_ (fun n hn => ?_)
    · unfold fv
      rw [hf, gS_sRe hst]
      rfl
    · unfold fv
      rw [gS_sRn (fun z => hn z.2.1)]
      rfl
  have go : ∀ (H1 : Heap) (locs1 : List Loc), va_P D vwCl ((wsO σ cA ad h).set j (ad (c, i), .inr (ci, ((List.range (nF ci)).map (fv σ ad h c i ci)).set k (vl ad (aP r))))) H1 → va_D (fun q => B ≤ q) ((wsO σ cA ad h).set j (ad (c, i), .inr (ci, ((List.range (nF ci)).map (fv σ ad h c i ci)).set k (vl ad (aP r))))) → va_S (fun q => B ≤ q) s.heap H1 locs1 → W p l e R s m args below meth c0 H1 locs1 cells slots (MQ below (QM σ D cA B ad0 L0 P) args s R.cells R.slots (fun q => B ≤ q)) (F0 m (pc + 3) ls (st.map (vl ad))) := by
    intro H1 locs1 hP hD hS
    rw [hset, ← toE_o (cA := cA) hr] at hP hD
    exact kk p l e R s m args below meth c0 D cA B ad ad0 L0 H1 locs1 cells slots ls (b.stR (okt (okt b.so)) (okh b.so) hj0 hP hD hS hst)
  have hp : parseFieldDescriptor (T k).2.2.1 = some (fty ci k) := hty k hk
  have hfit := rf_fit hf (r.map ad)
  rcases hfin with h1 | ⟨h1, h2, h3⟩
  · exact va_put (D := D) (ty := fty ci k) (v := vl ad (aP r)) b.x b.b b.ts hin (fty ci) hty hnm b.own b.K b.rep.1 b.rep.2.1 b.S j hj hcl k hk (b.ts _ hw) (fun _ z => z) h1 hp hfit.1 hfit.2 hlen hd go
  · exact va_putF (D := D) (ty := fty ci k) (v := vl ad (aP r)) b.x b.b b.ts hin (fty ci) hty hnm b.own b.K b.rep.1 b.rep.2.1 b.S j hj hcl k hk (b.ts _ hw) (fun _ z => z) h1 (b.1.2.2.2.2.2.2.2.1.trans h2) h3 hp hfit.1 hfit.2 hlen hd go
theorem gI_nw {c i c' i' k' : Nat} : gI (nw h c i) c' i' k' = if c' = c ∧ i' = i then 0 else gI h c' i' k' := rfl
theorem gR_nw {c i c' i' k' : Nat} : gR (nw h c i) c' i' k' = if c' = c ∧ i' = i then none else gR h c' i' k' := rfl
theorem gS_nwn {c i c' i' k' : Nat} (hn : ¬ (c' = c ∧ i' = i)) : gS σ (nw h c i) c' i' k' = gS σ h c' i' k' := by
  unfold gS
  rw [gR_nw, if_neg hn]
theorem gS_nwe {c i k : Nat} (hs : σ = false ∨ fR c i k = none) : gS σ (nw h c i) c i k = none := by
  have e : gR (nw h c i) c i k = none := by rw [gR_nw, if_pos ⟨rfl, rfl⟩]
  unfold gS
  rcases hs with rfl | hs
  · rw [e]; rfl
  · rw [e, hs]; cases σ <;> rfl
def adn (ad : PT → Nat) (c i a : Nat) : PT → Nat := fun q => if q = (c, i) then a else ad q
theorem adn_e {ad : PT → Nat} {c i a : Nat} : adn ad c i a (c, i) = a := by simp [adn]
theorem adn_n {ad : PT → Nat} {c i a : Nat} {q : PT} (hq : q ≠ (c, i)) : adn ad c i a q = ad q := by simp [adn, hq]
theorem toE_nw {cA : FieldType → ClassId} {ad : PT → Nat} {c i a : Nat} {q : PT} (hq : q ≠ (c, i)) (hc : ∀ k r, gS σ h q.1 q.2 k = some r → r ≠ (c, i)) : toE σ cA (adn ad c i a) (nw h c i) q = toE σ cA ad h q := by
  obtain ⟨c', i'⟩ := q
  have hn : ¬ (c' = c ∧ i' = i) := fun z => hq (by rw [z.1, z.2])
  have e1 : ∀ k', (gS σ (nw h c i) c' i' k').map (adn ad c i a) = (gS σ h c' i' k').map ad := fun k' => by
    rw [gS_nwn hn]
    cases hg : gS σ h c' i' k' with
    | none => rfl
    | some r => simp [adn_n (hc k' r hg)]
  have e2 : gI (nw h c i) c' i' = gI h c' i' := by funext k'; rw [gI_nw, if_neg hn]
  have e3 : ∀ ci, fv σ (adn ad c i a) (nw h c i) c' i' ci = fv σ ad h c' i' ci := fun ci => by funext k'; unfold fv; rw [e1, e2]
  unfold toE
  simp only [e1, e2, e3]
theorem wsO_nw {cA : FieldType → ClassId} {ad : PT → Nat} {c i a : Nat} (hc65 : c < 65) (hf : (c, i) ∉ h.2.2) (hc : ∀ q ∈ h.2.2, ∀ k r, gS σ h q.1 q.2 k = some r → okL h.2.2 r) : wsO σ cA (adn ad c i a) (nw h c i) = wsO σ cA ad h ++ [(a, toE σ cA (adn ad c i a) (nw h c i) (c, i))] := by
  unfold wsO
  show (h.2.2 ++ [(c, i)]).map _ = _
  rw [List.map_append]
  congr 1
  · refine List.map_congr_left (fun q hq => ?_)
    have hne : q ≠ (c, i) := fun z => hf (z ▸ hq)
    rw [adn_n hne, toE_nw hne (fun k r hr z => ?_)]
    rcases hc q hq k r hr with y | y
    · exact hf (z ▸ y)
    · rw [z] at y; exact absurd y (by show ¬ 65 ≤ c; omega)
  · simp [adn_e]
/-- behind a new cell -/
theorem Bd.nwc {p : Program} {R : Room} {s : State} {m : MethodId} {args : Array Value} {meth : Method} {c0 : Code} {D : va_G} {cA : FieldType → ClassId} {B : Nat} {ad ad0 : PT → Nat} {L0 : List PT} {H H1 : Heap} {locs : List Loc} {cells slots : Nat} {ls : Array Slot} {c i a n : Nat}
    (b : Bd σ M d bc bs lv st h p R s m args meth c0 D cA B ad ad0 L0 H locs cells slots ls) (hc65 : c < 65) (hf : (c, i) ∉ h.2.2) (hst : σ = false ∨ ∀ k, fR c i k = none) (hb : 1 ≤ bc) (hn : n ≤ bs)
    (hP : va_P D vwCl (wsO σ cA ad h ++ [(a, toE σ cA (adn ad c i a) (nw h c i) (c, i))]) H1) (hD : va_D (fun q => B ≤ q) (wsO σ cA ad h ++ [(a, toE σ cA (adn ad c i a) (nw h c i) (c, i))])) (hS : va_S (fun q => B ≤ q) s.heap H1 locs) :
    Bd σ M d (bc - 1) (bs - n) lv (aR c i :: st) (nw h c i) p R s m args meth c0 D cA B (adn ad c i a) ad0 L0 H1 locs (cells + 1) (slots + n) ls := by
  obtain ⟨h1, h2, h3, h4, h5, h6, h7, h8, h9, h10, h11⟩ := b
  have hne : ∀ q, okL h.2.2 q → q ≠ (c, i) := fun q hq z => by
    rcases hq with y | y
    · exact hf (z ▸ y)
    · rw [z] at y; exact absurd y (by show ¬ 65 ≤ c; omega)
  have ha : ∀ q, okL h.2.2 q → adn ad c i a q = ad q := fun q hq => adn_n (hne q hq)
  have up : ∀ q, okL h.2.2 q → okL (nw h c i).2.2 q := fun q hq => hq.elim (fun z => Or.inl (List.mem_append_left _ z)) Or.inr
  have e := wsO_nw (σ := σ) (cA := cA) (ad := ad) (a := a) hc65 hf h6.2.2
  refine ⟨h1, h2, Ex.kept h3 (fun _ _ _ => rfl) (fun q hq => ha q (Or.inr hq)), h4, ⟨by omega, by omega⟩, ⟨by rw [e]; exact hP, by rw [e]; exact hD, fun q hq k r hr => ?_⟩, hS, by rw [lvm_cg ha h9]; exact h8, fun q hq v e => up v (h9 q hq v e), okc (fun q e => by cases e; exact Or.inl (List.mem_append_right _ List.mem_cons_self)) (fun v hv q e => up q (h10 v hv q e)), fun q hq => ⟨(ha q (h11 q hq).2).trans (h11 q hq).1, up q (h11 q hq).2⟩⟩
  by_cases z : q.1 = c ∧ q.2 = i
  · rw [z.1, z.2, gS_nwe (hst.imp id (fun y => y k))] at hr
    cases hr
  · rw [gS_nwn z] at hr
    rcases List.mem_append.mp hq with y | y
    · exact up r (h6.2.2 q y k r hr)
    · have : q = (c, i) := by simpa using y
      exact absurd ⟨by rw [this], by rw [this]⟩ z
theorem V_new {c i ci idx N : Nat} {C : String} {T : u_T} (hc65 : c < 65) (hr : rty c i = .inl ci) (hcl : vwCl[ci]? = some (C, T, N)) (hst : σ = false ∨ ∀ k, fR c i k = none) (hd : decode M.2.1 pc = .ok (.new idx, 3)) (hw : Cond.classLink M.1.cls idx C ∈ gw) (hin : Cond.instantiable C N ∈ gw) (hini : Cond.initialized C ∈ gw) (hb : 1 ≤ bc) (hs : N ≤ bs) (hf : (c, i) ∉ h.2.2)
    (kk : V σ M d (bc - 1) (bs - N) (pc + 3) lv (aR c i :: st) (nw h c i) P) : V σ M d bc bs pc lv st h P := by
  intro p l e R s m args below meth c0 D cA B ad ad0 L0 H locs cells slots ls b
  obtain ⟨eN, hws, hty, hnm⟩ := cls_ok hcl
  have hA : ∀ q : Nat, s.heap.size ≤ q → B ≤ q := fun q hq => Nat.le_trans b.2.1 hq
  obtain ⟨g1, g2⟩ := b.2.2.2.2.1
  have hfs : ∀ j, j < N → defaultValue (fty ci j) = vp_V ((List.range (nF ci)).map (fv σ ad (nw h c i) c i ci)) j := by
    intro j hj
    unfold vp_V
    rw [List.getD_eq_getElem?_getD, ← eN, fs_get hj]
    show _ = fv σ ad (nw h c i) c i ci j
    unfold fv
    rw [gS_nwe (hst.imp id (fun y => y j))]
    rcases cls_int hcl j hj with z | z
    · rw [z]
      cases hq : fty ci j <;> rw [hq] at z <;> first | rfl | (cases z)
    · have e0 : gI (nw h c i) c i j = 0 := by rw [gI_nw, if_pos ⟨rfl, rfl⟩]
      rw [z, e0]
      rfl
  refine va_new (D := D) (ci := ci) (C := C) (T := T) (N := N) (fs := (List.range (nF ci)).map (fv σ ad (nw h c i) c i ci)) b.x b.b b.ts hws (fty ci) hty b.own (b.ts _ hw) (b.ts _ hin) (b.ts _ hini) b.K b.rep.1 b.rep.2.1 b.S hA hcl hfs (by omega) (by omega) hd (fun a H1 hP hD hS => ?_)
  have ee : (.inr (ci, (List.range (nF ci)).map (fv σ ad (nw h c i) c i ci)) : va_E) = toE σ cA (adn ad c i a) (nw h c i) (c, i) := by
    rw [toE_o hr]
    congr 3
    funext k
    unfold fv
    rw [gS_nwe (hst.imp id (fun y => y k))]
    rfl
  rw [ee] at hP hD
  have b2 := b.nwc (n := N) hc65 hf hst hb hs hP hD hS
  have K := kk p l e R s m args below meth c0 D cA B (adn ad c i a) ad0 L0 H1 locs (cells + 1) (slots + N) ls b2
  have est : (aR c i :: st).map (vl (adn ad c i a)) = .ref a :: st.map (vl ad) := by
    rw [List.map_cons, vls_cg (h := h) (fun q hq => adn_n (fun z => ?_)) b.so]
    · congr 1
      show va_rf (some (adn ad c i a (c, i))) = _
      rw [adn_e]
      rfl
    · rcases hq with y | y
      · exact hf (z ▸ y)
      · rw [z] at y; exact absurd y (by show ¬ 65 ≤ c; omega)
  rw [est] at K
  exact K
theorem V_newa {c i n : Nat} {x : Int32} {t : FieldType} {at' : ArrayType} (hc65 : c < 65) (hr : rty c i = .inr (t, n)) (ht : t = .int ∨ t = .byte ∨ t = .boolean) (hat : newarray.typeOf at' = t) (hst : σ = false ∨ ∀ k, fR c i k = none) (hd : decode M.2.1 pc = .ok (.newarray at', 2)) (hw : Cond.arrayClass t ∈ gw) (hx : ¬ x < 0) (hn : x.toNatClampNeg = n) (hby : n ≤ 65536) (hb : 1 ≤ bc) (hs : n ≤ bs) (hf : (c, i) ∉ h.2.2)
    (kk : V σ M d (bc - 1) (bs - n) (pc + 2) lv (aR c i :: st) (nw h c i) P) : V σ M d bc bs pc lv (aI x :: st) h P := by
  intro p l e R s m args below meth c0 D cA B ad ad0 L0 H locs cells slots ls b
  have hA : ∀ q : Nat, s.heap.size ≤ q → B ≤ q := fun q hq => Nat.le_trans b.2.1 hq
  obtain ⟨g1, g2⟩ := b.2.2.2.2.1
  have b' : Bd σ M d bc bs lv st h p R s m args meth c0 D cA B ad ad0 L0 H locs cells slots ls := b.stk (okt b.so)
  have hrt : isRT t = false := by rcases ht with rfl | rfl | rfl <;> rfl
  have hcb : n * componentBytes t ≤ 536870912 := by
    have : componentBytes t ≤ 8 := by rcases ht with rfl | rfl | rfl <;> decide
    have := Nat.mul_le_mul hby this
    omega
  refine va_newa (D := D) (a0 := (n, .inl (fun _ => 0))) b.x b.b (by rw [hat]; exact b.ts _ hw) hat b.K b.rep.1 b.rep.2.1 b.S hA (fun cA' => by rcases ht with rfl | rfl | rfl <;> rfl) hx hn hcb (by omega) (by omega) hd (fun a cA' H1 hK hP hD hS => ?_)
  have hcA : cA' = cA t := by
    have k1 : s.vm.findClass ("[" ++ t.toString) = some cA' := by
      have z := (hK.2 4 (cA', t) rfl).2
      rcases ht with rfl | rfl | rfl <;> exact z
    have k2 : s.vm.findClass ("[" ++ t.toString) = some (cA t) := by
      rcases ht with rfl | rfl | rfl
      · exact (b.K.2 0 (cA .int, .int) rfl).2
      · exact (b.K.2 1 (cA .byte, .byte) rfl).2
      · exact (b.K.2 2 (cA .boolean, .boolean) rfl).2
    rw [k1] at k2
    exact Option.some.inj k2
  have ee : (.inl (cA', n, .inl (fun _ => 0)) : va_E) = toE σ cA (adn ad c i a) (nw h c i) (c, i) := by
    have e0 : gI (nw h c i) c i = fun _ => 0 := by
      funext k
      rw [gI_nw, if_pos ⟨rfl, rfl⟩]
    rw [toE_a hr hrt, hcA, e0]
  rw [ee] at hP hD
  have b2 := b'.nwc (n := n) hc65 hf hst hb hs hP hD hS
  have K := kk p l e R s m args below meth c0 D cA B (adn ad c i a) ad0 L0 H1 locs (cells + 1) (slots + n) ls b2
  have est : (aR c i :: st).map (vl (adn ad c i a)) = .ref a :: st.map (vl ad) := by
    rw [List.map_cons, vls_cg (h := h) (fun q hq => adn_n (fun z => ?_)) b'.so]
    · congr 1
      show va_rf (some (adn ad c i a (c, i))) = _
      rw [adn_e]
      rfl
    · rcases hq with y | y
      · exact hf (z ▸ y)
      · rw [z] at y; exact absurd y (by show ¬ 65 ≤ c; omega)
  rw [est] at K
  exact K
theorem obj_code : Cond.code objectInit ⟨#[0xb1]⟩ 1 none ∈ gw := by decide +kernel
theorem obj_inst : Cond.instanceMethod objectInit ∈ gw := by decide +kernel
theorem V_objInit {c i idx : Nat} (hd : decode M.2.1 pc = .ok (.invokespecial idx, 3)) (hl : Cond.methodLink M.1.cls idx objectInit ∈ gw) (hw : (st.map ct).sum ≤ 8) (kk : V σ M (d + 1) bc bs (pc + 3) lv st h P) : V σ M (d + 1) bc bs pc lv (aR c i :: st) h P := by
  intro p l e R s m args below meth c0 D cA B ad ad0 L0 H locs cells slots ls b
  obtain ⟨f1, f2⟩ := b.2.2.2.1
  have hr : 2 * (F0 m pc ls (st.map (vl ad))).monitorRoom + ((st.map (vl ad)).map fun v => v.category).sum ≤ 8 := lv_room (ct_room hw)
  refine W.objInit b.x b.b b.own (b.ts _ hl) (b.ts _ obj_inst) (b.ts _ obj_code) rfl (by rw [b.1.2.2.1]; exact b.lh.1) rfl hd (by omega) ?_ (kk p l e R s m args below meth c0 D cA B ad ad0 L0 H locs cells slots ls (b.stk (okt b.so)))
  have hm : (F0 m pc ls ((aR c i :: st).map (vl ad))).monitorRoom = 0 := rfl
  have hm2 : (F0 m pc ls (st.map (vl ad))).monitorRoom = 0 := rfl
  rw [hm2] at hr
  rw [hm]
  omega
end VN
end
section
def mX1_part : MT := (yX1_part, cX1_part, 2, (some .int))
theorem okX1_part : Mok mX1_part 2 := ⟨gwm 793 (by decide +kernel) (by decide +kernel), gwm 54 (by decide +kernel) (by decide +kernel), by decide +kernel, by decide⟩
theorem stX1_part : Cond.static yX1_part ∈ gw := gwm 792 (by decide +kernel) (by decide +kernel)
def mX1_joined : MT := (yX1_joined, cX1_joined, 3, (some .int))
theorem okX1_joined : Mok mX1_joined 3 := ⟨gwm 804 (by decide +kernel) (by decide +kernel), gwm 54 (by decide +kernel) (by decide +kernel), by decide +kernel, by decide⟩
theorem stX1_joined : Cond.static yX1_joined ∈ gw := gwm 803 (by decide +kernel) (by decide +kernel)
def mX2_kind : MT := (yX2_kind, cX2_kind, 1, (some .int))
theorem okX2_kind : Mok mX2_kind 0 := ⟨gwm 701 (by decide +kernel) (by decide +kernel), gwm 55 (by decide +kernel) (by decide +kernel), by decide +kernel, by decide⟩
theorem inX2_kind : Cond.instanceMethod yX2_kind ∈ gw := gwm 700 (by decide +kernel) (by decide +kernel)
theorem seX2_kind : Cond.selects RX2 yX2_kind yX2_kind ∈ gw := gwm 12 (by decide +kernel) (by decide +kernel)
def mX2_number : MT := (yX2_number, cX2_number, 1, (some .int))
theorem okX2_number : Mok mX2_number 0 := ⟨gwm 725 (by decide +kernel) (by decide +kernel), gwm 55 (by decide +kernel) (by decide +kernel), by decide +kernel, by decide⟩
theorem inX2_number : Cond.instanceMethod yX2_number ∈ gw := gwm 724 (by decide +kernel) (by decide +kernel)
theorem seX2_number : Cond.selects RX2 yX2_number yX2_number ∈ gw := gwm 18 (by decide +kernel) (by decide +kernel)
def mX3_state : MT := (yX3_state, cX3_state, 1, (some .int))
theorem okX3_state : Mok mX3_state 0 := ⟨gwm 460 (by decide +kernel) (by decide +kernel), gwm 66 (by decide +kernel) (by decide +kernel), by decide +kernel, by decide⟩
theorem inX3_state : Cond.instanceMethod yX3_state ∈ gw := gwm 458 (by decide +kernel) (by decide +kernel)
theorem seX3_state : Cond.selects RX3 yX3_state yX3_state ∈ gw := gwm 459 (by decide +kernel) (by decide +kernel)
def mX3_isParcel : MT := (yX3_isParcel, cX3_isParcel, 1, (some .boolean))
theorem okX3_isParcel : Mok mX3_isParcel 0 := ⟨gwm 560 (by decide +kernel) (by decide +kernel), gwm 66 (by decide +kernel) (by decide +kernel), by decide +kernel, by decide⟩
theorem inX3_isParcel : Cond.instanceMethod yX3_isParcel ∈ gw := gwm 558 (by decide +kernel) (by decide +kernel)
theorem seX3_isParcel : Cond.selects RX3 yX3_isParcel yX3_isParcel ∈ gw := gwm 559 (by decide +kernel) (by decide +kernel)
def mX3_canComeBack : MT := (yX3_canComeBack, cX3_canComeBack, 2, (some .boolean))
theorem okX3_canComeBack : Mok mX3_canComeBack 1 := ⟨gwm 544 (by decide +kernel) (by decide +kernel), gwm 66 (by decide +kernel) (by decide +kernel), by decide +kernel, by decide⟩
theorem inX3_canComeBack : Cond.instanceMethod yX3_canComeBack ∈ gw := gwm 542 (by decide +kernel) (by decide +kernel)
theorem seX3_canComeBack : Cond.selects RX3 yX3_canComeBack yX3_canComeBack ∈ gw := gwm 543 (by decide +kernel) (by decide +kernel)
def mX3_wasSoldIn : MT := (yX3_wasSoldIn, cX3_wasSoldIn, 2, (some .boolean))
theorem okX3_wasSoldIn : Mok mX3_wasSoldIn 1 := ⟨gwm 769 (by decide +kernel) (by decide +kernel), gwm 66 (by decide +kernel) (by decide +kernel), by decide +kernel, by decide⟩
theorem inX3_wasSoldIn : Cond.instanceMethod yX3_wasSoldIn ∈ gw := gwm 767 (by decide +kernel) (by decide +kernel)
theorem seX3_wasSoldIn : Cond.selects RX3 yX3_wasSoldIn yX3_wasSoldIn ∈ gw := gwm 768 (by decide +kernel) (by decide +kernel)
def mX3_cameBackSoldIn : MT := (yX3_cameBackSoldIn, cX3_cameBackSoldIn, 2, (some .boolean))
theorem okX3_cameBackSoldIn : Mok mX3_cameBackSoldIn 1 := ⟨gwm 773 (by decide +kernel) (by decide +kernel), gwm 66 (by decide +kernel) (by decide +kernel), by decide +kernel, by decide⟩
theorem inX3_cameBackSoldIn : Cond.instanceMethod yX3_cameBackSoldIn ∈ gw := gwm 771 (by decide +kernel) (by decide +kernel)
theorem seX3_cameBackSoldIn : Cond.selects RX3 yX3_cameBackSoldIn yX3_cameBackSoldIn ∈ gw := gwm 772 (by decide +kernel) (by decide +kernel)
def mX3_statedWorth : MT := (yX3_statedWorth, cX3_statedWorth, 4, (some .int))
theorem okX3_statedWorth : Mok mX3_statedWorth 2 := ⟨gwm 813 (by decide +kernel) (by decide +kernel), gwm 66 (by decide +kernel) (by decide +kernel), by decide +kernel, by decide⟩
theorem inX3_statedWorth : Cond.instanceMethod yX3_statedWorth ∈ gw := gwm 811 (by decide +kernel) (by decide +kernel)
theorem seX3_statedWorth : Cond.selects RX3 yX3_statedWorth yX3_statedWorth ∈ gw := gwm 812 (by decide +kernel) (by decide +kernel)
def mX4_valueOfWord : MT := (yX4_valueOfWord, cX4_valueOfWord, 2, (some .int))
theorem okX4_valueOfWord : Mok mX4_valueOfWord 1 := ⟨gwm 801 (by decide +kernel) (by decide +kernel), gwm 56 (by decide +kernel) (by decide +kernel), by decide +kernel, by decide⟩
theorem inX4_valueOfWord : Cond.instanceMethod yX4_valueOfWord ∈ gw := gwm 799 (by decide +kernel) (by decide +kernel)
theorem seX4_valueOfWord : Cond.selects RX4 yX4_valueOfWord yX4_valueOfWord ∈ gw := gwm 800 (by decide +kernel) (by decide +kernel)
def mX6_tagOn : MT := (yX6_tagOn, cX6_tagOn, 2, (some .int))
theorem okX6_tagOn : Mok mX6_tagOn 1 := ⟨gwm 438 (by decide +kernel) (by decide +kernel), gwm 59 (by decide +kernel) (by decide +kernel), by decide +kernel, by decide⟩
theorem inX6_tagOn : Cond.instanceMethod yX6_tagOn ∈ gw := gwm 436 (by decide +kernel) (by decide +kernel)
theorem seX6_tagOn : Cond.selects RX6 yX6_tagOn yX6_tagOn ∈ gw := gwm 437 (by decide +kernel) (by decide +kernel)
def mX7_isLetter : MT := (yX7_isLetter, cX7_isLetter, 1, (some .boolean))
theorem okX7_isLetter : Mok mX7_isLetter 1 := ⟨gwm 620 (by decide +kernel) (by decide +kernel), gwm 53 (by decide +kernel) (by decide +kernel), by decide +kernel, by decide⟩
theorem stX7_isLetter : Cond.static yX7_isLetter ∈ gw := gwm 619 (by decide +kernel) (by decide +kernel)
def mX7_isDigit : MT := (yX7_isDigit, cX7_isDigit, 1, (some .boolean))
theorem okX7_isDigit : Mok mX7_isDigit 1 := ⟨gwm 686 (by decide +kernel) (by decide +kernel), gwm 53 (by decide +kernel) (by decide +kernel), by decide +kernel, by decide⟩
theorem stX7_isDigit : Cond.static yX7_isDigit ∈ gw := gwm 685 (by decide +kernel) (by decide +kernel)
def mX9_isWithin : MT := (yX9_isWithin, cX9_isWithin, 3, (some .boolean))
theorem okX9_isWithin : Mok mX9_isWithin 3 := ⟨gwm 324 (by decide +kernel) (by decide +kernel), gwm 47 (by decide +kernel) (by decide +kernel), by decide +kernel, by decide⟩
theorem stX9_isWithin : Cond.static yX9_isWithin ∈ gw := gwm 323 (by decide +kernel) (by decide +kernel)
def mX9_isTag : MT := (yX9_isTag, cX9_isTag, 1, (some .boolean))
theorem okX9_isTag : Mok mX9_isTag 1 := ⟨gwm 321 (by decide +kernel) (by decide +kernel), gwm 47 (by decide +kernel) (by decide +kernel), by decide +kernel, by decide⟩
theorem stX9_isTag : Cond.static yX9_isTag ∈ gw := gwm 320 (by decide +kernel) (by decide +kernel)
def mX9_isLevel : MT := (yX9_isLevel, cX9_isLevel, 1, (some .boolean))
theorem okX9_isLevel : Mok mX9_isLevel 1 := ⟨gwm 826 (by decide +kernel) (by decide +kernel), gwm 47 (by decide +kernel) (by decide +kernel), by decide +kernel, by decide⟩
theorem stX9_isLevel : Cond.static yX9_isLevel ∈ gw := gwm 825 (by decide +kernel) (by decide +kernel)
def mX9_isHouseOrNone : MT := (yX9_isHouseOrNone, cX9_isHouseOrNone, 1, (some .boolean))
theorem okX9_isHouseOrNone : Mok mX9_isHouseOrNone 1 := ⟨gwm 470 (by decide +kernel) (by decide +kernel), gwm 47 (by decide +kernel) (by decide +kernel), by decide +kernel, by decide⟩
theorem stX9_isHouseOrNone : Cond.static yX9_isHouseOrNone ∈ gw := gwm 469 (by decide +kernel) (by decide +kernel)
def mX9_isBuyer : MT := (yX9_isBuyer, cX9_isBuyer, 2, (some .boolean))
theorem okX9_isBuyer : Mok mX9_isBuyer 2 := ⟨gwm 467 (by decide +kernel) (by decide +kernel), gwm 47 (by decide +kernel) (by decide +kernel), by decide +kernel, by decide⟩
theorem stX9_isBuyer : Cond.static yX9_isBuyer ∈ gw := gwm 466 (by decide +kernel) (by decide +kernel)
def mJ9_max_7cf53 : MT := (yJ9_max_7cf53, cJ9_max_7cf53, 2, (some .int))
theorem okJ9_max_7cf53 : Mok mJ9_max_7cf53 2 := ⟨gwm 371 (by decide +kernel) (by decide +kernel), gwm 61 (by decide +kernel) (by decide +kernel), by decide +kernel, by decide⟩
theorem stJ9_max_7cf53 : Cond.static yJ9_max_7cf53 ∈ gw := gwm 370 (by decide +kernel) (by decide +kernel)
def mJ9_min_7cf53 : MT := (yJ9_min_7cf53, cJ9_min_7cf53, 2, (some .int))
theorem okJ9_min_7cf53 : Mok mJ9_min_7cf53 2 := ⟨gwm 403 (by decide +kernel) (by decide +kernel), gwm 61 (by decide +kernel) (by decide +kernel), by decide +kernel, by decide⟩
theorem stJ9_min_7cf53 : Cond.static yJ9_min_7cf53 ∈ gw := gwm 402 (by decide +kernel) (by decide +kernel)
def mX0_seek : MT := (yX0_seek, cX0_seek, 7, none)
theorem okX0_seek : Mok mX0_seek 3 := ⟨gwm 834 (by decide +kernel) (by decide +kernel), gwm 57 (by decide +kernel) (by decide +kernel), by decide +kernel, by decide⟩
theorem inX0_seek : Cond.instanceMethod yX0_seek ∈ gw := gwm 832 (by decide +kernel) (by decide +kernel)
theorem seX0_seek : Cond.selects RX0 yX0_seek yX0_seek ∈ gw := gwm 833 (by decide +kernel) (by decide +kernel)
def mX0_tryRow : MT := (yX0_tryRow, cX0_tryRow, 8, none)
theorem okX0_tryRow : Mok mX0_tryRow 2 := ⟨gwm 840 (by decide +kernel) (by decide +kernel), gwm 57 (by decide +kernel) (by decide +kernel), by decide +kernel, by decide⟩
theorem inX0_tryRow : Cond.instanceMethod yX0_tryRow ∈ gw := gwm 839 (by decide +kernel) (by decide +kernel)
theorem seX0_tryRow : Cond.selects RX0 yX0_tryRow yX0_tryRow ∈ gw := gwm 26 (by decide +kernel) (by decide +kernel)
def mX0_keepRow : MT := (yX0_keepRow, cX0_keepRow, 3, none)
theorem okX0_keepRow : Mok mX0_keepRow 1 := ⟨gwm 844 (by decide +kernel) (by decide +kernel), gwm 57 (by decide +kernel) (by decide +kernel), by decide +kernel, by decide⟩
theorem inX0_keepRow : Cond.instanceMethod yX0_keepRow ∈ gw := gwm 843 (by decide +kernel) (by decide +kernel)
theorem seX0_keepRow : Cond.selects RX0 yX0_keepRow yX0_keepRow ∈ gw := gwm 27 (by decide +kernel) (by decide +kernel)
def mX0_stepRow : MT := (yX0_stepRow, cX0_stepRow, 6, (some .boolean))
theorem okX0_stepRow : Mok mX0_stepRow 1 := ⟨gwm 848 (by decide +kernel) (by decide +kernel), gwm 57 (by decide +kernel) (by decide +kernel), by decide +kernel, by decide⟩
theorem inX0_stepRow : Cond.instanceMethod yX0_stepRow ∈ gw := gwm 847 (by decide +kernel) (by decide +kernel)
theorem seX0_stepRow : Cond.selects RX0 yX0_stepRow yX0_stepRow ∈ gw := gwm 28 (by decide +kernel) (by decide +kernel)
def mX1_clear : MT := (yX1_clear, cX1_clear, 1, none)
theorem okX1_clear : Mok mX1_clear 0 := ⟨gwm 697 (by decide +kernel) (by decide +kernel), gwm 54 (by decide +kernel) (by decide +kernel), by decide +kernel, by decide⟩
theorem inX1_clear : Cond.instanceMethod yX1_clear ∈ gw := gwm 695 (by decide +kernel) (by decide +kernel)
theorem seX1_clear : Cond.selects RX1 yX1_clear yX1_clear ∈ gw := gwm 696 (by decide +kernel) (by decide +kernel)
def mX1_addStep : MT := (yX1_addStep, cX1_addStep, 3, none)
theorem okX1_addStep : Mok mX1_addStep 2 := ⟨gwm 729 (by decide +kernel) (by decide +kernel), gwm 54 (by decide +kernel) (by decide +kernel), by decide +kernel, by decide⟩
theorem inX1_addStep : Cond.instanceMethod yX1_addStep ∈ gw := gwm 727 (by decide +kernel) (by decide +kernel)
theorem seX1_addStep : Cond.selects RX1 yX1_addStep yX1_addStep ∈ gw := gwm 728 (by decide +kernel) (by decide +kernel)
def mX1_addLine : MT := (yX1_addLine, cX1_addLine, 3, none)
theorem okX1_addLine : Mok mX1_addLine 2 := ⟨gwm 745 (by decide +kernel) (by decide +kernel), gwm 54 (by decide +kernel) (by decide +kernel), by decide +kernel, by decide⟩
theorem inX1_addLine : Cond.instanceMethod yX1_addLine ∈ gw := gwm 743 (by decide +kernel) (by decide +kernel)
theorem seX1_addLine : Cond.selects RX1 yX1_addLine yX1_addLine ∈ gw := gwm 744 (by decide +kernel) (by decide +kernel)
def mX1_lineFor : MT := (yX1_lineFor, cX1_lineFor, 3, (some .int))
theorem okX1_lineFor : Mok mX1_lineFor 1 := ⟨gwm 781 (by decide +kernel) (by decide +kernel), gwm 54 (by decide +kernel) (by decide +kernel), by decide +kernel, by decide⟩
theorem inX1_lineFor : Cond.instanceMethod yX1_lineFor ∈ gw := gwm 779 (by decide +kernel) (by decide +kernel)
theorem seX1_lineFor : Cond.selects RX1 yX1_lineFor yX1_lineFor ∈ gw := gwm 780 (by decide +kernel) (by decide +kernel)
def mX1_payFor : MT := (yX1_payFor, cX1_payFor, 3, (some .int))
theorem okX1_payFor : Mok mX1_payFor 1 := ⟨gwm 777 (by decide +kernel) (by decide +kernel), gwm 54 (by decide +kernel) (by decide +kernel), by decide +kernel, by decide⟩
theorem inX1_payFor : Cond.instanceMethod yX1_payFor ∈ gw := gwm 775 (by decide +kernel) (by decide +kernel)
theorem seX1_payFor : Cond.selects RX1 yX1_payFor yX1_payFor ∈ gw := gwm 776 (by decide +kernel) (by decide +kernel)
def mX1_valueOf : MT := (yX1_valueOf, cX1_valueOf, 6, (some .int))
theorem okX1_valueOf : Mok mX1_valueOf 3 := ⟨gwm 785 (by decide +kernel) (by decide +kernel), gwm 54 (by decide +kernel) (by decide +kernel), by decide +kernel, by decide⟩
theorem inX1_valueOf : Cond.instanceMethod yX1_valueOf ∈ gw := gwm 784 (by decide +kernel) (by decide +kernel)
theorem seX1_valueOf : Cond.selects RX1 yX1_valueOf yX1_valueOf ∈ gw := gwm 23 (by decide +kernel) (by decide +kernel)
def mX1_push : MT := (yX1_push, cX1_push, 2, none)
theorem okX1_push : Mok mX1_push 1 := ⟨gwm 797 (by decide +kernel) (by decide +kernel), gwm 54 (by decide +kernel) (by decide +kernel), by decide +kernel, by decide⟩
theorem inX1_push : Cond.instanceMethod yX1_push ∈ gw := gwm 796 (by decide +kernel) (by decide +kernel)
theorem seX1_push : Cond.selects RX1 yX1_push yX1_push ∈ gw := gwm 25 (by decide +kernel) (by decide +kernel)
def mX1_pop : MT := (yX1_pop, cX1_pop, 1, (some .int))
theorem okX1_pop : Mok mX1_pop 0 := ⟨gwm 790 (by decide +kernel) (by decide +kernel), gwm 54 (by decide +kernel) (by decide +kernel), by decide +kernel, by decide⟩
theorem inX1_pop : Cond.instanceMethod yX1_pop ∈ gw := gwm 789 (by decide +kernel) (by decide +kernel)
theorem seX1_pop : Cond.selects RX1 yX1_pop yX1_pop ∈ gw := gwm 24 (by decide +kernel) (by decide +kernel)
def mX2_read : MT := (yX2_read, cX2_read, 3, (some .boolean))
theorem okX2_read : Mok mX2_read 1 := ⟨gwm 693 (by decide +kernel) (by decide +kernel), gwm 55 (by decide +kernel) (by decide +kernel), by decide +kernel, by decide⟩
theorem inX2_read : Cond.instanceMethod yX2_read ∈ gw := gwm 691 (by decide +kernel) (by decide +kernel)
theorem seX2_read : Cond.selects RX2 yX2_read yX2_read ∈ gw := gwm 692 (by decide +kernel) (by decide +kernel)
def mX2_readLine : MT := (yX2_readLine, cX2_readLine, 4, (some .boolean))
theorem okX2_readLine : Mok mX2_readLine 1 := ⟨gwm 705 (by decide +kernel) (by decide +kernel), gwm 55 (by decide +kernel) (by decide +kernel), by decide +kernel, by decide⟩
theorem inX2_readLine : Cond.instanceMethod yX2_readLine ∈ gw := gwm 704 (by decide +kernel) (by decide +kernel)
theorem seX2_readLine : Cond.selects RX2 yX2_readLine yX2_readLine ∈ gw := gwm 13 (by decide +kernel) (by decide +kernel)
def mX2_readCondition : MT := (yX2_readCondition, cX2_readCondition, 3, (some .boolean))
theorem okX2_readCondition : Mok mX2_readCondition 0 := ⟨gwm 741 (by decide +kernel) (by decide +kernel), gwm 55 (by decide +kernel) (by decide +kernel), by decide +kernel, by decide⟩
theorem inX2_readCondition : Cond.instanceMethod yX2_readCondition ∈ gw := gwm 740 (by decide +kernel) (by decide +kernel)
theorem seX2_readCondition : Cond.selects RX2 yX2_readCondition yX2_readCondition ∈ gw := gwm 21 (by decide +kernel) (by decide +kernel)
def mX2_readSum : MT := (yX2_readSum, cX2_readSum, 4, (some .boolean))
theorem okX2_readSum : Mok mX2_readSum 1 := ⟨gwm 713 (by decide +kernel) (by decide +kernel), gwm 55 (by decide +kernel) (by decide +kernel), by decide +kernel, by decide⟩
theorem inX2_readSum : Cond.instanceMethod yX2_readSum ∈ gw := gwm 712 (by decide +kernel) (by decide +kernel)
theorem seX2_readSum : Cond.selects RX2 yX2_readSum yX2_readSum ∈ gw := gwm 15 (by decide +kernel) (by decide +kernel)
def mX2_readTerm : MT := (yX2_readTerm, cX2_readTerm, 4, (some .boolean))
theorem okX2_readTerm : Mok mX2_readTerm 1 := ⟨gwm 717 (by decide +kernel) (by decide +kernel), gwm 55 (by decide +kernel) (by decide +kernel), by decide +kernel, by decide⟩
theorem inX2_readTerm : Cond.instanceMethod yX2_readTerm ∈ gw := gwm 716 (by decide +kernel) (by decide +kernel)
theorem seX2_readTerm : Cond.selects RX2 yX2_readTerm yX2_readTerm ∈ gw := gwm 16 (by decide +kernel) (by decide +kernel)
def mX2_readDivisor : MT := (yX2_readDivisor, cX2_readDivisor, 1, (some .boolean))
theorem okX2_readDivisor : Mok mX2_readDivisor 0 := ⟨gwm 733 (by decide +kernel) (by decide +kernel), gwm 55 (by decide +kernel) (by decide +kernel), by decide +kernel, by decide⟩
theorem inX2_readDivisor : Cond.instanceMethod yX2_readDivisor ∈ gw := gwm 732 (by decide +kernel) (by decide +kernel)
theorem seX2_readDivisor : Cond.selects RX2 yX2_readDivisor yX2_readDivisor ∈ gw := gwm 19 (by decide +kernel) (by decide +kernel)
def mX2_readUnit : MT := (yX2_readUnit, cX2_readUnit, 3, (some .boolean))
theorem okX2_readUnit : Mok mX2_readUnit 1 := ⟨gwm 721 (by decide +kernel) (by decide +kernel), gwm 55 (by decide +kernel) (by decide +kernel), by decide +kernel, by decide⟩
theorem inX2_readUnit : Cond.instanceMethod yX2_readUnit ∈ gw := gwm 720 (by decide +kernel) (by decide +kernel)
theorem seX2_readUnit : Cond.selects RX2 yX2_readUnit yX2_readUnit ∈ gw := gwm 17 (by decide +kernel) (by decide +kernel)
def mX2_pass : MT := (yX2_pass, cX2_pass, 2, (some .boolean))
theorem okX2_pass : Mok mX2_pass 1 := ⟨gwm 737 (by decide +kernel) (by decide +kernel), gwm 55 (by decide +kernel) (by decide +kernel), by decide +kernel, by decide⟩
theorem inX2_pass : Cond.instanceMethod yX2_pass ∈ gw := gwm 736 (by decide +kernel) (by decide +kernel)
theorem seX2_pass : Cond.selects RX2 yX2_pass yX2_pass ∈ gw := gwm 20 (by decide +kernel) (by decide +kernel)
def mX2_fail : MT := (yX2_fail, cX2_fail, 2, (some .boolean))
theorem okX2_fail : Mok mX2_fail 1 := ⟨gwm 709 (by decide +kernel) (by decide +kernel), gwm 55 (by decide +kernel) (by decide +kernel), by decide +kernel, by decide⟩
theorem inX2_fail : Cond.instanceMethod yX2_fail ∈ gw := gwm 708 (by decide +kernel) (by decide +kernel)
theorem seX2_fail : Cond.selects RX2 yX2_fail yX2_fail ∈ gw := gwm 14 (by decide +kernel) (by decide +kernel)
def mX3_sellBy : MT := (yX3_sellBy, cX3_sellBy, 3, none)
theorem okX3_sellBy : Mok mX3_sellBy 1 := ⟨gwm 456 (by decide +kernel) (by decide +kernel), gwm 66 (by decide +kernel) (by decide +kernel), by decide +kernel, by decide⟩
theorem inX3_sellBy : Cond.instanceMethod yX3_sellBy ∈ gw := gwm 454 (by decide +kernel) (by decide +kernel)
theorem seX3_sellBy : Cond.selects RX3 yX3_sellBy yX3_sellBy ∈ gw := gwm 455 (by decide +kernel) (by decide +kernel)
def mX4_gather : MT := (yX4_gather, cX4_gather, 6, none)
theorem okX4_gather : Mok mX4_gather 3 := ⟨gwm 758 (by decide +kernel) (by decide +kernel), gwm 56 (by decide +kernel) (by decide +kernel), by decide +kernel, by decide⟩
theorem inX4_gather : Cond.instanceMethod yX4_gather ∈ gw := gwm 756 (by decide +kernel) (by decide +kernel)
theorem seX4_gather : Cond.selects RX4 yX4_gather yX4_gather ∈ gw := gwm 757 (by decide +kernel) (by decide +kernel)
def mX4_addSlip : MT := (yX4_addSlip, cX4_addSlip, 2, none)
theorem okX4_addSlip : Mok mX4_addSlip 1 := ⟨gwm 765 (by decide +kernel) (by decide +kernel), gwm 56 (by decide +kernel) (by decide +kernel), by decide +kernel, by decide⟩
theorem inX4_addSlip : Cond.instanceMethod yX4_addSlip ∈ gw := gwm 764 (by decide +kernel) (by decide +kernel)
theorem seX4_addSlip : Cond.selects RX4 yX4_addSlip yX4_addSlip ∈ gw := gwm 22 (by decide +kernel) (by decide +kernel)
def mX5_append : MT := (yX5_append, cX5_append, 3, none)
theorem okX5_append : Mok mX5_append 1 := ⟨gwm 600 (by decide +kernel) (by decide +kernel), gwm 52 (by decide +kernel) (by decide +kernel), by decide +kernel, by decide⟩
theorem inX5_append : Cond.instanceMethod yX5_append ∈ gw := gwm 598 (by decide +kernel) (by decide +kernel)
theorem seX5_append : Cond.selects RX5 yX5_append yX5_append ∈ gw := gwm 599 (by decide +kernel) (by decide +kernel)
def mX6_keepTag : MT := (yX6_keepTag, cX6_keepTag, 2, none)
theorem okX6_keepTag : Mok mX6_keepTag 1 := ⟨gwm 451 (by decide +kernel) (by decide +kernel), gwm 59 (by decide +kernel) (by decide +kernel), by decide +kernel, by decide⟩
theorem inX6_keepTag : Cond.instanceMethod yX6_keepTag ∈ gw := gwm 449 (by decide +kernel) (by decide +kernel)
theorem seX6_keepTag : Cond.selects RX6 yX6_keepTag yX6_keepTag ∈ gw := gwm 450 (by decide +kernel) (by decide +kernel)
def mX6_changeTag : MT := (yX6_changeTag, cX6_changeTag, 4, (some .int))
theorem okX6_changeTag : Mok mX6_changeTag 2 := ⟨gwm 434 (by decide +kernel) (by decide +kernel), gwm 59 (by decide +kernel) (by decide +kernel), by decide +kernel, by decide⟩
theorem inX6_changeTag : Cond.instanceMethod yX6_changeTag ∈ gw := gwm 432 (by decide +kernel) (by decide +kernel)
theorem seX6_changeTag : Cond.selects RX6 yX6_changeTag yX6_changeTag ∈ gw := gwm 433 (by decide +kernel) (by decide +kernel)
def mX7_scan : MT := (yX7_scan, cX7_scan, 6, none)
theorem okX7_scan : Mok mX7_scan 2 := ⟨gwm 612 (by decide +kernel) (by decide +kernel), gwm 53 (by decide +kernel) (by decide +kernel), by decide +kernel, by decide⟩
theorem inX7_scan : Cond.instanceMethod yX7_scan ∈ gw := gwm 610 (by decide +kernel) (by decide +kernel)
theorem seX7_scan : Cond.selects RX7 yX7_scan yX7_scan ∈ gw := gwm 611 (by decide +kernel) (by decide +kernel)
def mX7_scanToken : MT := (yX7_scanToken, cX7_scanToken, 6, (some .int))
theorem okX7_scanToken : Mok mX7_scanToken 3 := ⟨gwm 617 (by decide +kernel) (by decide +kernel), gwm 53 (by decide +kernel) (by decide +kernel), by decide +kernel, by decide⟩
theorem inX7_scanToken : Cond.instanceMethod yX7_scanToken ∈ gw := gwm 616 (by decide +kernel) (by decide +kernel)
theorem seX7_scanToken : Cond.selects RX7 yX7_scanToken yX7_scanToken ∈ gw := gwm 10 (by decide +kernel) (by decide +kernel)
def mX7_add : MT := (yX7_add, cX7_add, 4, none)
theorem okX7_add : Mok mX7_add 3 := ⟨gwm 683 (by decide +kernel) (by decide +kernel), gwm 53 (by decide +kernel) (by decide +kernel), by decide +kernel, by decide⟩
theorem inX7_add : Cond.instanceMethod yX7_add ∈ gw := gwm 682 (by decide +kernel) (by decide +kernel)
theorem seX7_add : Cond.selects RX7 yX7_add yX7_add ∈ gw := gwm 11 (by decide +kernel) (by decide +kernel)
def mX7_numberOf : MT := (yX7_numberOf, cX7_numberOf, 5, (some .int))
theorem okX7_numberOf : Mok mX7_numberOf 3 := ⟨gwm 689 (by decide +kernel) (by decide +kernel), gwm 53 (by decide +kernel) (by decide +kernel), by decide +kernel, by decide⟩
theorem stX7_numberOf : Cond.static yX7_numberOf ∈ gw := gwm 688 (by decide +kernel) (by decide +kernel)
def mX7_wordKind : MT := (yX7_wordKind, cX7_wordKind, 3, (some .int))
theorem okX7_wordKind : Mok mX7_wordKind 3 := ⟨gwm 623 (by decide +kernel) (by decide +kernel), gwm 53 (by decide +kernel) (by decide +kernel), by decide +kernel, by decide⟩
theorem stX7_wordKind : Cond.static yX7_wordKind ∈ gw := gwm 622 (by decide +kernel) (by decide +kernel)
def mX7_isWord : MT := (yX7_isWord, cX7_isWord, 5, (some .boolean))
theorem okX7_isWord : Mok mX7_isWord 4 := ⟨gwm 627 (by decide +kernel) (by decide +kernel), gwm 53 (by decide +kernel) (by decide +kernel), by decide +kernel, by decide⟩
theorem stX7_isWord : Cond.static yX7_isWord ∈ gw := gwm 626 (by decide +kernel) (by decide +kernel)
def mX8_houseAt : MT := (yX8_houseAt, cX8_houseAt, 2, (some .int))
theorem okX8_houseAt : Mok mX8_houseAt 1 := ⟨gwm 592 (by decide +kernel) (by decide +kernel), gwm 51 (by decide +kernel) (by decide +kernel), by decide +kernel, by decide⟩
theorem inX8_houseAt : Cond.instanceMethod yX8_houseAt ∈ gw := gwm 590 (by decide +kernel) (by decide +kernel)
theorem seX8_houseAt : Cond.selects RX8 yX8_houseAt yX8_houseAt ∈ gw := gwm 591 (by decide +kernel) (by decide +kernel)
def mX8_goRound : MT := (yX8_goRound, cX8_goRound, 9, (some .int))
theorem okX8_goRound : Mok mX8_goRound 3 := ⟨gwm 568 (by decide +kernel) (by decide +kernel), gwm 51 (by decide +kernel) (by decide +kernel), by decide +kernel, by decide⟩
theorem inX8_goRound : Cond.instanceMethod yX8_goRound ∈ gw := gwm 566 (by decide +kernel) (by decide +kernel)
theorem seX8_goRound : Cond.selects RX8 yX8_goRound yX8_goRound ∈ gw := gwm 567 (by decide +kernel) (by decide +kernel)
def mX8_askOnce : MT := (yX8_askOnce, cX8_askOnce, 2, (some .boolean))
theorem okX8_askOnce : Mok mX8_askOnce 1 := ⟨gwm 576 (by decide +kernel) (by decide +kernel), gwm 51 (by decide +kernel) (by decide +kernel), by decide +kernel, by decide⟩
theorem inX8_askOnce : Cond.instanceMethod yX8_askOnce ∈ gw := gwm 575 (by decide +kernel) (by decide +kernel)
theorem seX8_askOnce : Cond.selects RX8 yX8_askOnce yX8_askOnce ∈ gw := gwm 7 (by decide +kernel) (by decide +kernel)
def mX8_piecesFor : MT := (yX8_piecesFor, cX8_piecesFor, 6, (some .int))
theorem okX8_piecesFor : Mok mX8_piecesFor 2 := ⟨gwm 580 (by decide +kernel) (by decide +kernel), gwm 51 (by decide +kernel) (by decide +kernel), by decide +kernel, by decide⟩
theorem inX8_piecesFor : Cond.instanceMethod yX8_piecesFor ∈ gw := gwm 579 (by decide +kernel) (by decide +kernel)
theorem seX8_piecesFor : Cond.selects RX8 yX8_piecesFor yX8_piecesFor ∈ gw := gwm 8 (by decide +kernel) (by decide +kernel)
def mX8_take : MT := (yX8_take, cX8_take, 6, none)
theorem okX8_take : Mok mX8_take 3 := ⟨gwm 584 (by decide +kernel) (by decide +kernel), gwm 51 (by decide +kernel) (by decide +kernel), by decide +kernel, by decide⟩
theorem inX8_take : Cond.instanceMethod yX8_take ∈ gw := gwm 583 (by decide +kernel) (by decide +kernel)
theorem seX8_take : Cond.selects RX8 yX8_take yX8_take ∈ gw := gwm 9 (by decide +kernel) (by decide +kernel)
def mX9_thing : MT := (yX9_thing, cX9_thing, 3, (some .int))
theorem okX9_thing : Mok mX9_thing 2 := ⟨gwm 314 (by decide +kernel) (by decide +kernel), gwm 47 (by decide +kernel) (by decide +kernel), by decide +kernel, by decide⟩
theorem inX9_thing : Cond.instanceMethod yX9_thing ∈ gw := gwm 312 (by decide +kernel) (by decide +kernel)
theorem seX9_thing : Cond.selects RX9 yX9_thing yX9_thing ∈ gw := gwm 313 (by decide +kernel) (by decide +kernel)
def mX9_tag : MT := (yX9_tag, cX9_tag, 4, (some .int))
theorem okX9_tag : Mok mX9_tag 2 := ⟨gwm 412 (by decide +kernel) (by decide +kernel), gwm 47 (by decide +kernel) (by decide +kernel), by decide +kernel, by decide⟩
theorem inX9_tag : Cond.instanceMethod yX9_tag ∈ gw := gwm 410 (by decide +kernel) (by decide +kernel)
theorem seX9_tag : Cond.selects RX9 yX9_tag yX9_tag ∈ gw := gwm 411 (by decide +kernel) (by decide +kernel)
def mX9_of : MT := (yX9_of, cX9_of, 5, (some .int))
theorem okX9_of : Mok mX9_of 2 := ⟨gwm 442 (by decide +kernel) (by decide +kernel), gwm 47 (by decide +kernel) (by decide +kernel), by decide +kernel, by decide⟩
theorem inX9_of : Cond.instanceMethod yX9_of ∈ gw := gwm 440 (by decide +kernel) (by decide +kernel)
theorem seX9_of : Cond.selects RX9 yX9_of yX9_of ∈ gw := gwm 441 (by decide +kernel) (by decide +kernel)
def mX9_next : MT := (yX9_next, cX9_next, 2, (some .int))
theorem okX9_next : Mok mX9_next 0 := ⟨gwm 447 (by decide +kernel) (by decide +kernel), gwm 47 (by decide +kernel) (by decide +kernel), by decide +kernel, by decide⟩
theorem inX9_next : Cond.instanceMethod yX9_next ∈ gw := gwm 445 (by decide +kernel) (by decide +kernel)
theorem seX9_next : Cond.selects RX9 yX9_next yX9_next ∈ gw := gwm 446 (by decide +kernel) (by decide +kernel)
def mX9_slip : MT := (yX9_slip, cX9_slip, 10, (some .int))
theorem okX9_slip : Mok mX9_slip 7 := ⟨gwm 464 (by decide +kernel) (by decide +kernel), gwm 47 (by decide +kernel) (by decide +kernel), by decide +kernel, by decide⟩
theorem inX9_slip : Cond.instanceMethod yX9_slip ∈ gw := gwm 462 (by decide +kernel) (by decide +kernel)
theorem seX9_slip : Cond.selects RX9 yX9_slip yX9_slip ∈ gw := gwm 463 (by decide +kernel) (by decide +kernel)
def mX9_paper : MT := (yX9_paper, cX9_paper, 4, (some .int))
theorem okX9_paper : Mok mX9_paper 2 := ⟨gwm 531 (by decide +kernel) (by decide +kernel), gwm 47 (by decide +kernel) (by decide +kernel), by decide +kernel, by decide⟩
theorem inX9_paper : Cond.instanceMethod yX9_paper ∈ gw := gwm 529 (by decide +kernel) (by decide +kernel)
theorem seX9_paper : Cond.selects RX9 yX9_paper yX9_paper ∈ gw := gwm 530 (by decide +kernel) (by decide +kernel)
def mX9_back : MT := (yX9_back, cX9_back, 3, (some .boolean))
theorem okX9_back : Mok mX9_back 1 := ⟨gwm 540 (by decide +kernel) (by decide +kernel), gwm 47 (by decide +kernel) (by decide +kernel), by decide +kernel, by decide⟩
theorem inX9_back : Cond.instanceMethod yX9_back ∈ gw := gwm 538 (by decide +kernel) (by decide +kernel)
theorem seX9_back : Cond.selects RX9 yX9_back yX9_back ∈ gw := gwm 539 (by decide +kernel) (by decide +kernel)
def mX9_look : MT := (yX9_look, cX9_look, 2, (some .int))
theorem okX9_look : Mok mX9_look 1 := ⟨gwm 548 (by decide +kernel) (by decide +kernel), gwm 47 (by decide +kernel) (by decide +kernel), by decide +kernel, by decide⟩
theorem inX9_look : Cond.instanceMethod yX9_look ∈ gw := gwm 546 (by decide +kernel) (by decide +kernel)
theorem seX9_look : Cond.selects RX9 yX9_look yX9_look ∈ gw := gwm 547 (by decide +kernel) (by decide +kernel)
def mX9_van : MT := (yX9_van, cX9_van, 2, (some .int))
theorem okX9_van : Mok mX9_van 1 := ⟨gwm 564 (by decide +kernel) (by decide +kernel), gwm 47 (by decide +kernel) (by decide +kernel), by decide +kernel, by decide⟩
theorem inX9_van : Cond.instanceMethod yX9_van ∈ gw := gwm 562 (by decide +kernel) (by decide +kernel)
theorem seX9_van : Cond.selects RX9 yX9_van yX9_van ∈ gw := gwm 563 (by decide +kernel) (by decide +kernel)
def mX9_house : MT := (yX9_house, cX9_house, 2, (some .int))
theorem okX9_house : Mok mX9_house 1 := ⟨gwm 588 (by decide +kernel) (by decide +kernel), gwm 47 (by decide +kernel) (by decide +kernel), by decide +kernel, by decide⟩
theorem inX9_house : Cond.instanceMethod yX9_house ∈ gw := gwm 586 (by decide +kernel) (by decide +kernel)
theorem seX9_house : Cond.selects RX9 yX9_house yX9_house ∈ gw := gwm 587 (by decide +kernel) (by decide +kernel)
def mX9_feed : MT := (yX9_feed, cX9_feed, 6, (some .int))
theorem okX9_feed : Mok mX9_feed 5 := ⟨gwm 596 (by decide +kernel) (by decide +kernel), gwm 47 (by decide +kernel) (by decide +kernel), by decide +kernel, by decide⟩
theorem inX9_feed : Cond.instanceMethod yX9_feed ∈ gw := gwm 594 (by decide +kernel) (by decide +kernel)
theorem seX9_feed : Cond.selects RX9 yX9_feed yX9_feed ∈ gw := gwm 595 (by decide +kernel) (by decide +kernel)
def mX9_end : MT := (yX9_end, cX9_end, 2, (some .boolean))
theorem okX9_end : Mok mX9_end 1 := ⟨gwm 604 (by decide +kernel) (by decide +kernel), gwm 47 (by decide +kernel) (by decide +kernel), by decide +kernel, by decide⟩
theorem inX9_end : Cond.instanceMethod yX9_end ∈ gw := gwm 602 (by decide +kernel) (by decide +kernel)
theorem seX9_end : Cond.selects RX9 yX9_end yX9_end ∈ gw := gwm 603 (by decide +kernel) (by decide +kernel)
def mX9_rule : MT := (yX9_rule, cX9_rule, 2, (some .int))
theorem okX9_rule : Mok mX9_rule 0 := ⟨gwm 608 (by decide +kernel) (by decide +kernel), gwm 47 (by decide +kernel) (by decide +kernel), by decide +kernel, by decide⟩
theorem inX9_rule : Cond.instanceMethod yX9_rule ∈ gw := gwm 606 (by decide +kernel) (by decide +kernel)
theorem seX9_rule : Cond.selects RX9 yX9_rule yX9_rule ∈ gw := gwm 607 (by decide +kernel) (by decide +kernel)
def mX9_fault : MT := (yX9_fault, cX9_fault, 2, (some .int))
theorem okX9_fault : Mok mX9_fault 1 := ⟨gwm 749 (by decide +kernel) (by decide +kernel), gwm 47 (by decide +kernel) (by decide +kernel), by decide +kernel, by decide⟩
theorem inX9_fault : Cond.instanceMethod yX9_fault ∈ gw := gwm 747 (by decide +kernel) (by decide +kernel)
theorem seX9_fault : Cond.selects RX9 yX9_fault yX9_fault ∈ gw := gwm 748 (by decide +kernel) (by decide +kernel)
def mX9_pay : MT := (yX9_pay, cX9_pay, 4, (some .int))
theorem okX9_pay : Mok mX9_pay 3 := ⟨gwm 753 (by decide +kernel) (by decide +kernel), gwm 47 (by decide +kernel) (by decide +kernel), by decide +kernel, by decide⟩
theorem inX9_pay : Cond.instanceMethod yX9_pay ∈ gw := gwm 751 (by decide +kernel) (by decide +kernel)
theorem seX9_pay : Cond.selects RX9 yX9_pay yX9_pay ∈ gw := gwm 752 (by decide +kernel) (by decide +kernel)
def mX9_statement : MT := (yX9_statement, cX9_statement, 7, (some .int))
theorem okX9_statement : Mok mX9_statement 3 := ⟨gwm 809 (by decide +kernel) (by decide +kernel), gwm 47 (by decide +kernel) (by decide +kernel), by decide +kernel, by decide⟩
theorem inX9_statement : Cond.instanceMethod yX9_statement ∈ gw := gwm 807 (by decide +kernel) (by decide +kernel)
theorem seX9_statement : Cond.selects RX9 yX9_statement yX9_statement ∈ gw := gwm 808 (by decide +kernel) (by decide +kernel)
def mX9_count : MT := (yX9_count, cX9_count, 5, (some .int))
theorem okX9_count : Mok mX9_count 2 := ⟨gwm 819 (by decide +kernel) (by decide +kernel), gwm 47 (by decide +kernel) (by decide +kernel), by decide +kernel, by decide⟩
theorem inX9_count : Cond.instanceMethod yX9_count ∈ gw := gwm 817 (by decide +kernel) (by decide +kernel)
theorem seX9_count : Cond.selects RX9 yX9_count yX9_count ∈ gw := gwm 818 (by decide +kernel) (by decide +kernel)
def mX9_level : MT := (yX9_level, cX9_level, 4, (some .boolean))
theorem okX9_level : Mok mX9_level 3 := ⟨gwm 823 (by decide +kernel) (by decide +kernel), gwm 47 (by decide +kernel) (by decide +kernel), by decide +kernel, by decide⟩
theorem inX9_level : Cond.instanceMethod yX9_level ∈ gw := gwm 821 (by decide +kernel) (by decide +kernel)
theorem seX9_level : Cond.selects RX9 yX9_level yX9_level ∈ gw := gwm 822 (by decide +kernel) (by decide +kernel)
def mX9_best : MT := (yX9_best, cX9_best, 5, (some .int))
theorem okX9_best : Mok mX9_best 4 := ⟨gwm 830 (by decide +kernel) (by decide +kernel), gwm 47 (by decide +kernel) (by decide +kernel), by decide +kernel, by decide⟩
theorem inX9_best : Cond.instanceMethod yX9_best ∈ gw := gwm 828 (by decide +kernel) (by decide +kernel)
theorem seX9_best : Cond.selects RX9 yX9_best yX9_best ∈ gw := gwm 829 (by decide +kernel) (by decide +kernel)
def mX9_thingAt : MT := (yX9_thingAt, cX9_thingAt, 2, (some (.object "GreatStore$Thing"))
theorem okX9_thingAt : Mok mX9_thingAt 1 := ⟨gwm 416 (by decide +kernel) (by decide +kernel), gwm 47 (by decide +kernel) (by decide +kernel), by decide +kernel, by decide⟩
theorem inX9_thingAt : Cond.instanceMethod yX9_thingAt ∈ gw := gwm 415 (by decide +kernel) (by decide +kernel)
theorem seX9_thingAt : Cond.selects RX9 yX9_thingAt yX9_thingAt ∈ gw := gwm 3 (by decide +kernel) (by decide +kernel)
def mX9_slipAt : MT := (yX9_slipAt, cX9_slipAt, 2, (some (.object "GreatStore$Slip"))
theorem okX9_slipAt : Mok mX9_slipAt 1 := ⟨gwm 535 (by decide +kernel) (by decide +kernel), gwm 47 (by decide +kernel) (by decide +kernel), by decide +kernel, by decide⟩
theorem inX9_slipAt : Cond.instanceMethod yX9_slipAt ∈ gw := gwm 534 (by decide +kernel) (by decide +kernel)
theorem seX9_slipAt : Cond.selects RX9 yX9_slipAt yX9_slipAt ∈ gw := gwm 4 (by decide +kernel) (by decide +kernel)
def mX9_countOnApproval : MT := (yX9_countOnApproval, cX9_countOnApproval, 3, (some .int))
theorem okX9_countOnApproval : Mok mX9_countOnApproval 0 := ⟨gwm 552 (by decide +kernel) (by decide +kernel), gwm 47 (by decide +kernel) (by decide +kernel), by decide +kernel, by decide⟩
theorem inX9_countOnApproval : Cond.instanceMethod yX9_countOnApproval ∈ gw := gwm 551 (by decide +kernel) (by decide +kernel)
theorem seX9_countOnApproval : Cond.selects RX9 yX9_countOnApproval yX9_countOnApproval ∈ gw := gwm 5 (by decide +kernel) (by decide +kernel)
def mX9_countParcels : MT := (yX9_countParcels, cX9_countParcels, 3, (some .int))
theorem okX9_countParcels : Mok mX9_countParcels 0 := ⟨gwm 556 (by decide +kernel) (by decide +kernel), gwm 47 (by decide +kernel) (by decide +kernel), by decide +kernel, by decide⟩
theorem inX9_countParcels : Cond.instanceMethod yX9_countParcels ∈ gw := gwm 555 (by decide +kernel) (by decide +kernel)
theorem seX9_countParcels : Cond.selects RX9 yX9_countParcels yX9_countParcels ∈ gw := gwm 6 (by decide +kernel) (by decide +kernel)
def mX6_init : MT := (yX6_init, cX6_init, 4, none)
theorem okX6_init : Mok mX6_init 3 := ⟨gwm 329 (by decide +kernel) (by decide +kernel), gwm 59 (by decide +kernel) (by decide +kernel), by decide +kernel, by decide⟩
theorem inX6_init : Cond.instanceMethod yX6_init ∈ gw := gwm 328 (by decide +kernel) (by decide +kernel)
def mX3_init : MT := (yX3_init, cX3_init, 8, none)
theorem okX3_init : Mok mX3_init 7 := ⟨gwm 474 (by decide +kernel) (by decide +kernel), gwm 66 (by decide +kernel) (by decide +kernel), by decide +kernel, by decide⟩
theorem inX3_init : Cond.instanceMethod yX3_init ∈ gw := gwm 473 (by decide +kernel) (by decide +kernel)
def mJx4a65c_size_8abf5 : MT := (yJx4a65c_size_8abf5, cJx4a65c_size_8abf5, 1, (some .int))
theorem okJx4a65c_size_8abf5 : Mok mJx4a65c_size_8abf5 0 := ⟨gwm 318 (by decide +kernel) (by decide +kernel), gwm 50 (by decide +kernel) (by decide +kernel), by decide +kernel, by decide⟩
theorem inJx4a65c_size_8abf5 : Cond.instanceMethod yJx4a65c_size_8abf5 ∈ gw := gwm 316 (by decide +kernel) (by decide +kernel)
theorem seJx4a65c_size_8abf5 : Cond.selects RJx4a65c yJx4a65c_size_8abf5 yJx4a65c_size_8abf5 ∈ gw := gwm 317 (by decide +kernel) (by decide +kernel)
def mJx4a65c_get_915e3 : MT := (yJx4a65c_get_915e3, cJx4a65c_get_915e3, 2, (some (.object "java/lang/Object"))
theorem okJx4a65c_get_915e3 : Mok mJx4a65c_get_915e3 1 := ⟨gwm 420 (by decide +kernel) (by decide +kernel), gwm 50 (by decide +kernel) (by decide +kernel), by decide +kernel, by decide⟩
theorem inJx4a65c_get_915e3 : Cond.instanceMethod yJx4a65c_get_915e3 ∈ gw := gwm 418 (by decide +kernel) (by decide +kernel)
theorem seJx4a65c_get_915e3 : Cond.selects RJx4a65c yJx4a65c_get_915e3 yJx4a65c_get_915e3 ∈ gw := gwm 419 (by decide +kernel) (by decide +kernel)
def mJx4a65c_add_9ea2d : MT := (yJx4a65c_add_9ea2d, cJx4a65c_add_9ea2d, 2, (some .boolean))
theorem okJx4a65c_add_9ea2d : Mok mJx4a65c_add_9ea2d 1 := ⟨gwm 353 (by decide +kernel) (by decide +kernel), gwm 50 (by decide +kernel) (by decide +kernel), by decide +kernel, by decide⟩
theorem inJx4a65c_add_9ea2d : Cond.instanceMethod yJx4a65c_add_9ea2d ∈ gw := gwm 351 (by decide +kernel) (by decide +kernel)
theorem seJx4a65c_add_9ea2d : Cond.selects RJx4a65c yJx4a65c_add_9ea2d yJx4a65c_add_9ea2d ∈ gw := gwm 352 (by decide +kernel) (by decide +kernel)
def mJ0_length_8abf5 : MT := (yJ0_length_8abf5, cJ0_length_8abf5, 1, (some .int))
theorem okJ0_length_8abf5 : Mok mJ0_length_8abf5 0 := ⟨gwm 631 (by decide +kernel) (by decide +kernel), gwm 67 (by decide +kernel) (by decide +kernel), by decide +kernel, by decide⟩
theorem inJ0_length_8abf5 : Cond.instanceMethod yJ0_length_8abf5 ∈ gw := gwm 629 (by decide +kernel) (by decide +kernel)
theorem seJ0_length_8abf5 : Cond.selects RJ0 yJ0_length_8abf5 yJ0_length_8abf5 ∈ gw := gwm 630 (by decide +kernel) (by decide +kernel)
def mJ0_charAt_5068e : MT := (yJ0_charAt_5068e, cJ0_charAt_5068e, 2, (some .char))
theorem okJ0_charAt_5068e : Mok mJ0_charAt_5068e 1 := ⟨gwm 641 (by decide +kernel) (by decide +kernel), gwm 67 (by decide +kernel) (by decide +kernel), by decide +kernel, by decide⟩
theorem inJ0_charAt_5068e : Cond.instanceMethod yJ0_charAt_5068e ∈ gw := gwm 639 (by decide +kernel) (by decide +kernel)
theorem seJ0_charAt_5068e : Cond.selects RJ0 yJ0_charAt_5068e yJ0_charAt_5068e ∈ gw := gwm 640 (by decide +kernel) (by decide +kernel)
theorem lkX9_12 : Cond.fieldLink RX9 12 "GreatStore" "things" "Ljava/util/ArrayList;" ∈ gw := gwm 277 (by decide +kernel) (by decide +kernel)
theorem lkX9_16 : Cond.fieldLink RX9 16 "GreatStore" "slips" "Ljava/util/ArrayList;" ∈ gw := gwm 278 (by decide +kernel) (by decide +kernel)
theorem lkX9_22 : Cond.fieldLink RX9 22 "GreatStore" "wagon" "LGreatStore$Van;" ∈ gw := gwm 279 (by decide +kernel) (by decide +kernel)
theorem lkX9_29 : Cond.fieldLink RX9 29 "GreatStore" "tape" "LGreatStore$Tape;" ∈ gw := gwm 280 (by decide +kernel) (by decide +kernel)
theorem lkX9_36 : Cond.fieldLink RX9 36 "GreatStore" "tokens" "LGreatStore$Tokens;" ∈ gw := gwm 281 (by decide +kernel) (by decide +kernel)
theorem lkX9_43 : Cond.fieldLink RX9 43 "GreatStore" "theRule" "LGreatStore$Rule;" ∈ gw := gwm 285 (by decide +kernel) (by decide +kernel)
theorem lkX9_47 : Cond.fieldLink RX9 47 "GreatStore" "spareRule" "LGreatStore$Rule;" ∈ gw := gwm 286 (by decide +kernel) (by decide +kernel)
theorem lkX9_55 : Cond.fieldLink RX9 55 "GreatStore" "reader" "LGreatStore$RuleReader;" ∈ gw := gwm 282 (by decide +kernel) (by decide +kernel)
theorem lkX9_62 : Cond.fieldLink RX9 62 "GreatStore" "takings" "LGreatStore$Takings;" ∈ gw := gwm 283 (by decide +kernel) (by decide +kernel)
theorem lkX9_69 : Cond.fieldLink RX9 69 "GreatStore" "cuts" "LGreatStore$Cuts;" ∈ gw := gwm 284 (by decide +kernel) (by decide +kernel)
theorem lkX9_73 : Cond.fieldLink RX9 73 "GreatStore" "today" "I" ∈ gw := gwm 287 (by decide +kernel) (by decide +kernel)
theorem lkX9_77 : Cond.methodLink RX9 77 yJx4a65c_size_8abf5 ∈ gw := gwm 315 (by decide +kernel) (by decide +kernel)
theorem lkX9_81 : Cond.methodLink RX9 81 yX9_isTag ∈ gw := gwm 319 (by decide +kernel) (by decide +kernel)
theorem lkX9_85 : Cond.methodLink RX9 85 yX9_isWithin ∈ gw := gwm 322 (by decide +kernel) (by decide +kernel)
theorem lkX9_89 : Cond.classLink RX9 89 "GreatStore$Thing" ∈ gw := gwm 325 (by decide +kernel) (by decide +kernel)
theorem lkX9_91 : Cond.methodLink RX9 91 yX6_init ∈ gw := gwm 327 (by decide +kernel) (by decide +kernel)
theorem lkX9_94 : Cond.methodLink RX9 94 yJx4a65c_add_9ea2d ∈ gw := gwm 350 (by decide +kernel) (by decide +kernel)
theorem lkX9_98 : Cond.methodLink RX9 98 yX9_thingAt ∈ gw := gwm 413 (by decide +kernel) (by decide +kernel)
theorem lkX9_102 : Cond.methodLink RX9 102 yX6_changeTag ∈ gw := gwm 431 (by decide +kernel) (by decide +kernel)
theorem lkX9_106 : Cond.methodLink RX9 106 yX6_tagOn ∈ gw := gwm 443 (by decide +kernel) (by decide +kernel)
theorem lkX9_110 : Cond.fieldLink RX9 110 "GreatStore$Thing" "stock" "I" ∈ gw := gwm 335 (by decide +kernel) (by decide +kernel)
theorem lkX9_113 : Cond.fieldLink RX9 113 "GreatStore$Thing" "raised" "I" ∈ gw := gwm 337 (by decide +kernel) (by decide +kernel)
theorem lkX9_116 : Cond.fieldLink RX9 116 "GreatStore$Thing" "lost" "I" ∈ gw := gwm 338 (by decide +kernel) (by decide +kernel)
theorem lkX9_119 : Cond.methodLink RX9 119 yJx4a65c_get_915e3 ∈ gw := gwm 417 (by decide +kernel) (by decide +kernel)
theorem lkX9_123 : Cond.methodLink RX9 123 yX6_keepTag ∈ gw := gwm 448 (by decide +kernel) (by decide +kernel)
theorem lkX9_127 : Cond.classLink RX9 127 "GreatStore$Slip" ∈ gw := gwm 452 (by decide +kernel) (by decide +kernel)
theorem lkX9_129 : Cond.methodLink RX9 129 yX3_sellBy ∈ gw := gwm 453 (by decide +kernel) (by decide +kernel)
theorem lkX9_132 : Cond.fieldLink RX9 132 "GreatStore$Van" "roundsToday" "I" ∈ gw := gwm 114 (by decide +kernel) (by decide +kernel)
theorem lkX9_135 : Cond.methodLink RX9 135 yX9_isBuyer ∈ gw := gwm 465 (by decide +kernel) (by decide +kernel)
theorem lkX9_139 : Cond.methodLink RX9 139 yX9_isHouseOrNone ∈ gw := gwm 468 (by decide +kernel) (by decide +kernel)
theorem lkX9_142 : Cond.fieldLink RX9 142 "GreatStore$Thing" "came" "I" ∈ gw := gwm 333 (by decide +kernel) (by decide +kernel)
theorem lkX9_145 : Cond.methodLink RX9 145 yX3_init ∈ gw := gwm 472 (by decide +kernel) (by decide +kernel)
theorem lkX9_148 : Cond.fieldLink RX9 148 "GreatStore$Slip" "told" "I" ∈ gw := gwm 495 (by decide +kernel) (by decide +kernel)
theorem lkX9_151 : Cond.methodLink RX9 151 yX9_slipAt ∈ gw := gwm 532 (by decide +kernel) (by decide +kernel)
theorem lkX9_155 : Cond.methodLink RX9 155 yX3_state ∈ gw := gwm 536 (by decide +kernel) (by decide +kernel)
theorem lkX9_158 : Cond.fieldLink RX9 158 "GreatStore$Slip" "worth" "I" ∈ gw := gwm 493 (by decide +kernel) (by decide +kernel)
theorem lkX9_161 : Cond.fieldLink RX9 161 "GreatStore$Slip" "day" "I" ∈ gw := gwm 490 (by decide +kernel) (by decide +kernel)
theorem lkX9_164 : Cond.fieldLink RX9 164 "GreatStore$Slip" "sold" "I" ∈ gw := gwm 497 (by decide +kernel) (by decide +kernel)
theorem lkX9_167 : Cond.fieldLink RX9 167 "GreatStore$Slip" "cameBack" "I" ∈ gw := gwm 499 (by decide +kernel) (by decide +kernel)
theorem lkX9_170 : Cond.fieldLink RX9 170 "GreatStore$Slip" "round" "I" ∈ gw := gwm 502 (by decide +kernel) (by decide +kernel)
theorem lkX9_173 : Cond.methodLink RX9 173 yX3_canComeBack ∈ gw := gwm 541 (by decide +kernel) (by decide +kernel)
theorem lkX9_176 : Cond.fieldLink RX9 176 "GreatStore$Slip" "thing" "LGreatStore$Thing;" ∈ gw := gwm 483 (by decide +kernel) (by decide +kernel)
theorem lkX9_180 : Cond.fieldLink RX9 180 "GreatStore$Slip" "pieces" "I" ∈ gw := gwm 486 (by decide +kernel) (by decide +kernel)
theorem lkX9_183 : Cond.methodLink RX9 183 yX9_countOnApproval ∈ gw := gwm 549 (by decide +kernel) (by decide +kernel)
theorem lkX9_186 : Cond.methodLink RX9 186 yX9_countParcels ∈ gw := gwm 553 (by decide +kernel) (by decide +kernel)
theorem lkX9_189 : Cond.fieldLink RX9 189 "GreatStore$Rule" "lineCount" "I" ∈ gw := gwm 180 (by decide +kernel) (by decide +kernel)
theorem lkX9_192 : Cond.methodLink RX9 192 yX8_goRound ∈ gw := gwm 565 (by decide +kernel) (by decide +kernel)
theorem lkX9_196 : Cond.methodLink RX9 196 yX8_houseAt ∈ gw := gwm 589 (by decide +kernel) (by decide +kernel)
theorem lkX9_199 : Cond.fieldLink RX9 199 "GreatStore$Tape" "length" "I" ∈ gw := gwm 135 (by decide +kernel) (by decide +kernel)
theorem lkX9_202 : Cond.methodLink RX9 202 yX5_append ∈ gw := gwm 597 (by decide +kernel) (by decide +kernel)
theorem lkX9_205 : Cond.fieldLink RX9 205 "GreatStore$Tape" "bytes" "[B" ∈ gw := gwm 133 (by decide +kernel) (by decide +kernel)
theorem lkX9_209 : Cond.methodLink RX9 209 yX7_scan ∈ gw := gwm 609 (by decide +kernel) (by decide +kernel)
theorem lkX9_213 : Cond.methodLink RX9 213 yX2_read ∈ gw := gwm 690 (by decide +kernel) (by decide +kernel)
theorem lkX9_217 : Cond.fieldLink RX9 217 "GreatStore$RuleReader" "fault" "I" ∈ gw := gwm 211 (by decide +kernel) (by decide +kernel)
theorem lkX9_220 : Cond.fieldLink RX9 220 "GreatStore$RuleReader" "place" "I" ∈ gw := gwm 213 (by decide +kernel) (by decide +kernel)
theorem lkX9_223 : Cond.constant RX9 223 (-1000001) ∈ gw := gwm 754 (by decide +kernel) (by decide +kernel)
theorem lkX9_224 : Cond.methodLink RX9 224 yX4_gather ∈ gw := gwm 755 (by decide +kernel) (by decide +kernel)
theorem lkX9_228 : Cond.fieldLink RX9 228 "GreatStore$Takings" "sum" "I" ∈ gw := gwm 232 (by decide +kernel) (by decide +kernel)
theorem lkX9_231 : Cond.fieldLink RX9 231 "GreatStore$Takings" "slipCount" "I" ∈ gw := gwm 234 (by decide +kernel) (by decide +kernel)
theorem lkX9_234 : Cond.fieldLink RX9 234 "GreatStore$Takings" "cameBack" "I" ∈ gw := gwm 236 (by decide +kernel) (by decide +kernel)
theorem lkX9_235 : Cond.methodLink RX9 235 yX1_payFor ∈ gw := gwm 774 (by decide +kernel) (by decide +kernel)
theorem lkX9_239 : Cond.methodLink RX9 239 yX1_lineFor ∈ gw := gwm 805 (by decide +kernel) (by decide +kernel)
theorem lkX9_242 : Cond.fieldLink RX9 242 "GreatStore$Slip" "account" "I" ∈ gw := gwm 481 (by decide +kernel) (by decide +kernel)
theorem lkX9_245 : Cond.methodLink RX9 245 yX3_statedWorth ∈ gw := gwm 810 (by decide +kernel) (by decide +kernel)
theorem lkX9_248 : Cond.methodLink RX9 248 yX9_isLevel ∈ gw := gwm 824 (by decide +kernel) (by decide +kernel)
theorem lkX9_251 : Cond.fieldLink RX9 251 "GreatStore$Cuts" "prices" "[I" ∈ gw := gwm 254 (by decide +kernel) (by decide +kernel)
theorem lkX9_255 : Cond.fieldLink RX9 255 "GreatStore$Cuts" "wants" "[I" ∈ gw := gwm 256 (by decide +kernel) (by decide +kernel)
theorem lkX9_258 : Cond.methodLink RX9 258 yX0_seek ∈ gw := gwm 831 (by decide +kernel) (by decide +kernel)
theorem lkX9_261 : Cond.fieldLink RX9 261 "GreatStore$Cuts" "bestSum" "I" ∈ gw := gwm 261 (by decide +kernel) (by decide +kernel)
theorem lkX9_264 : Cond.fieldLink RX9 264 "GreatStore$Cuts" "bestLeft" "I" ∈ gw := gwm 263 (by decide +kernel) (by decide +kernel)
theorem lkX9_267 : Cond.fieldLink RX9 267 "GreatStore$Cuts" "bestRow" "[I" ∈ gw := gwm 259 (by decide +kernel) (by decide +kernel)
theorem lkX9_270 : Cond.methodLink RX9 270 yX3_isParcel ∈ gw := gwm 557 (by decide +kernel) (by decide +kernel)
theorem lkX0_9 : Cond.fieldLink RX0 9 "GreatStore$Cuts" "prices" "[I" ∈ gw := gwm 253 (by decide +kernel) (by decide +kernel)
theorem lkX0_15 : Cond.fieldLink RX0 15 "GreatStore$Cuts" "wants" "[I" ∈ gw := gwm 255 (by decide +kernel) (by decide +kernel)
theorem lkX0_18 : Cond.fieldLink RX0 18 "GreatStore$Cuts" "row" "[I" ∈ gw := gwm 257 (by decide +kernel) (by decide +kernel)
theorem lkX0_21 : Cond.fieldLink RX0 21 "GreatStore$Cuts" "bestRow" "[I" ∈ gw := gwm 258 (by decide +kernel) (by decide +kernel)
theorem lkX0_24 : Cond.fieldLink RX0 24 "GreatStore$Cuts" "bestSum" "I" ∈ gw := gwm 260 (by decide +kernel) (by decide +kernel)
theorem lkX0_28 : Cond.fieldLink RX0 28 "GreatStore$Cuts" "bestLeft" "I" ∈ gw := gwm 262 (by decide +kernel) (by decide +kernel)
theorem lkX0_31 : Cond.methodLink RX0 31 yJ9_min_7cf53 ∈ gw := gwm 835 (by decide +kernel) (by decide +kernel)
theorem lkX0_37 : Cond.constant RX0 37 (65536) ∈ gw := gwm 836 (by decide +kernel) (by decide +kernel)
theorem lkX0_38 : Cond.methodLink RX0 38 yX0_tryRow ∈ gw := gwm 837 (by decide +kernel) (by decide +kernel)
theorem lkX0_42 : Cond.methodLink RX0 42 yX0_stepRow ∈ gw := gwm 845 (by decide +kernel) (by decide +kernel)
theorem lkX0_46 : Cond.methodLink RX0 46 yX0_keepRow ∈ gw := gwm 841 (by decide +kernel) (by decide +kernel)
theorem lkX1_9 : Cond.fieldLink RX1 9 "GreatStore$Rule" "steps" "[I" ∈ gw := gwm 171 (by decide +kernel) (by decide +kernel)
theorem lkX1_15 : Cond.fieldLink RX1 15 "GreatStore$Rule" "numbers" "[I" ∈ gw := gwm 172 (by decide +kernel) (by decide +kernel)
theorem lkX1_18 : Cond.fieldLink RX1 18 "GreatStore$Rule" "payAt" "[I" ∈ gw := gwm 173 (by decide +kernel) (by decide +kernel)
theorem lkX1_21 : Cond.fieldLink RX1 21 "GreatStore$Rule" "whenAt" "[I" ∈ gw := gwm 174 (by decide +kernel) (by decide +kernel)
theorem lkX1_24 : Cond.fieldLink RX1 24 "GreatStore$Rule" "endAt" "[I" ∈ gw := gwm 175 (by decide +kernel) (by decide +kernel)
theorem lkX1_27 : Cond.fieldLink RX1 27 "GreatStore$Rule" "stack" "[I" ∈ gw := gwm 176 (by decide +kernel) (by decide +kernel)
theorem lkX1_30 : Cond.fieldLink RX1 30 "GreatStore$Rule" "stepCount" "I" ∈ gw := gwm 177 (by decide +kernel) (by decide +kernel)
theorem lkX1_34 : Cond.fieldLink RX1 34 "GreatStore$Rule" "lineCount" "I" ∈ gw := gwm 179 (by decide +kernel) (by decide +kernel)
theorem lkX1_37 : Cond.fieldLink RX1 37 "GreatStore$Rule" "height" "I" ∈ gw := gwm 181 (by decide +kernel) (by decide +kernel)
theorem lkX1_40 : Cond.methodLink RX1 40 yX1_valueOf ∈ gw := gwm 782 (by decide +kernel) (by decide +kernel)
theorem lkX1_44 : Cond.methodLink RX1 44 yX1_lineFor ∈ gw := gwm 778 (by decide +kernel) (by decide +kernel)
theorem lkX1_48 : Cond.methodLink RX1 48 yJ9_max_7cf53 ∈ gw := gwm 786 (by decide +kernel) (by decide +kernel)
theorem lkX1_54 : Cond.methodLink RX1 54 yX1_pop ∈ gw := gwm 787 (by decide +kernel) (by decide +kernel)
theorem lkX1_58 : Cond.methodLink RX1 58 yX1_part ∈ gw := gwm 791 (by decide +kernel) (by decide +kernel)
theorem lkX1_61 : Cond.methodLink RX1 61 yX1_push ∈ gw := gwm 794 (by decide +kernel) (by decide +kernel)
theorem lkX1_67 : Cond.methodLink RX1 67 yX4_valueOfWord ∈ gw := gwm 798 (by decide +kernel) (by decide +kernel)
theorem lkX1_73 : Cond.methodLink RX1 73 yX1_joined ∈ gw := gwm 802 (by decide +kernel) (by decide +kernel)
theorem lkX2_9 : Cond.fieldLink RX2 9 "GreatStore$RuleReader" "tokens" "LGreatStore$Tokens;" ∈ gw := gwm 207 (by decide +kernel) (by decide +kernel)
theorem lkX2_15 : Cond.fieldLink RX2 15 "GreatStore$RuleReader" "target" "LGreatStore$Rule;" ∈ gw := gwm 208 (by decide +kernel) (by decide +kernel)
theorem lkX2_19 : Cond.fieldLink RX2 19 "GreatStore$RuleReader" "at" "I" ∈ gw := gwm 209 (by decide +kernel) (by decide +kernel)
theorem lkX2_23 : Cond.fieldLink RX2 23 "GreatStore$RuleReader" "fault" "I" ∈ gw := gwm 210 (by decide +kernel) (by decide +kernel)
theorem lkX2_26 : Cond.fieldLink RX2 26 "GreatStore$RuleReader" "place" "I" ∈ gw := gwm 212 (by decide +kernel) (by decide +kernel)
theorem lkX2_29 : Cond.methodLink RX2 29 yX1_clear ∈ gw := gwm 694 (by decide +kernel) (by decide +kernel)
theorem lkX2_34 : Cond.methodLink RX2 34 yX2_kind ∈ gw := gwm 698 (by decide +kernel) (by decide +kernel)
theorem lkX2_40 : Cond.methodLink RX2 40 yX2_readLine ∈ gw := gwm 702 (by decide +kernel) (by decide +kernel)
theorem lkX2_44 : Cond.methodLink RX2 44 yX2_fail ∈ gw := gwm 706 (by decide +kernel) (by decide +kernel)
theorem lkX2_47 : Cond.fieldLink RX2 47 "GreatStore$Rule" "stepCount" "I" ∈ gw := gwm 178 (by decide +kernel) (by decide +kernel)
theorem lkX2_50 : Cond.methodLink RX2 50 yX2_readSum ∈ gw := gwm 710 (by decide +kernel) (by decide +kernel)
theorem lkX2_53 : Cond.methodLink RX2 53 yX2_pass ∈ gw := gwm 734 (by decide +kernel) (by decide +kernel)
theorem lkX2_56 : Cond.methodLink RX2 56 yX2_readCondition ∈ gw := gwm 738 (by decide +kernel) (by decide +kernel)
theorem lkX2_60 : Cond.methodLink RX2 60 yX1_addLine ∈ gw := gwm 742 (by decide +kernel) (by decide +kernel)
theorem lkX2_64 : Cond.methodLink RX2 64 yX1_addStep ∈ gw := gwm 726 (by decide +kernel) (by decide +kernel)
theorem lkX2_67 : Cond.methodLink RX2 67 yX2_readTerm ∈ gw := gwm 714 (by decide +kernel) (by decide +kernel)
theorem lkX2_70 : Cond.methodLink RX2 70 yX2_readUnit ∈ gw := gwm 718 (by decide +kernel) (by decide +kernel)
theorem lkX2_73 : Cond.methodLink RX2 73 yX2_readDivisor ∈ gw := gwm 730 (by decide +kernel) (by decide +kernel)
theorem lkX2_76 : Cond.methodLink RX2 76 yX2_number ∈ gw := gwm 722 (by decide +kernel) (by decide +kernel)
theorem lkX2_79 : Cond.fieldLink RX2 79 "GreatStore$Tokens" "tokenCount" "I" ∈ gw := gwm 155 (by decide +kernel) (by decide +kernel)
theorem lkX2_82 : Cond.fieldLink RX2 82 "GreatStore$Tokens" "kinds" "[I" ∈ gw := gwm 149 (by decide +kernel) (by decide +kernel)
theorem lkX2_86 : Cond.fieldLink RX2 86 "GreatStore$Tokens" "numbers" "[I" ∈ gw := gwm 153 (by decide +kernel) (by decide +kernel)
theorem lkX2_89 : Cond.fieldLink RX2 89 "GreatStore$Tokens" "places" "[I" ∈ gw := gwm 151 (by decide +kernel) (by decide +kernel)
theorem lkX3_3 : Cond.methodLink RX3 3 objectInit ∈ gw := gwm 475 (by decide +kernel) (by decide +kernel)
theorem lkX3_9 : Cond.fieldLink RX3 9 "GreatStore$Slip" "kind" "I" ∈ gw := gwm 477 (by decide +kernel) (by decide +kernel)
theorem lkX3_15 : Cond.fieldLink RX3 15 "GreatStore$Slip" "clerk" "I" ∈ gw := gwm 478 (by decide +kernel) (by decide +kernel)
theorem lkX3_18 : Cond.fieldLink RX3 18 "GreatStore$Slip" "account" "I" ∈ gw := gwm 480 (by decide +kernel) (by decide +kernel)
theorem lkX3_21 : Cond.fieldLink RX3 21 "GreatStore$Slip" "thing" "LGreatStore$Thing;" ∈ gw := gwm 482 (by decide +kernel) (by decide +kernel)
theorem lkX3_25 : Cond.fieldLink RX3 25 "GreatStore$Slip" "pieces" "I" ∈ gw := gwm 484 (by decide +kernel) (by decide +kernel)
theorem lkX3_28 : Cond.fieldLink RX3 28 "GreatStore$Slip" "house" "I" ∈ gw := gwm 487 (by decide +kernel) (by decide +kernel)
theorem lkX3_31 : Cond.fieldLink RX3 31 "GreatStore$Slip" "day" "I" ∈ gw := gwm 489 (by decide +kernel) (by decide +kernel)
theorem lkX3_34 : Cond.methodLink RX3 34 yX6_tagOn ∈ gw := gwm 476 (by decide +kernel) (by decide +kernel)
theorem lkX3_40 : Cond.fieldLink RX3 40 "GreatStore$Slip" "worth" "I" ∈ gw := gwm 491 (by decide +kernel) (by decide +kernel)
theorem lkX3_43 : Cond.fieldLink RX3 43 "GreatStore$Slip" "told" "I" ∈ gw := gwm 494 (by decide +kernel) (by decide +kernel)
theorem lkX3_46 : Cond.fieldLink RX3 46 "GreatStore$Slip" "sold" "I" ∈ gw := gwm 496 (by decide +kernel) (by decide +kernel)
theorem lkX3_49 : Cond.fieldLink RX3 49 "GreatStore$Slip" "cameBack" "I" ∈ gw := gwm 498 (by decide +kernel) (by decide +kernel)
theorem lkX3_52 : Cond.fieldLink RX3 52 "GreatStore$Slip" "round" "I" ∈ gw := gwm 500 (by decide +kernel) (by decide +kernel)
theorem lkX3_55 : Cond.methodLink RX3 55 yX3_state ∈ gw := gwm 457 (by decide +kernel) (by decide +kernel)
theorem lkX3_59 : Cond.methodLink RX3 59 yX3_wasSoldIn ∈ gw := gwm 814 (by decide +kernel) (by decide +kernel)
theorem lkX3_63 : Cond.methodLink RX3 63 yX3_cameBackSoldIn ∈ gw := gwm 815 (by decide +kernel) (by decide +kernel)
theorem lkX4_7 : Cond.fieldLink RX4 7 "GreatStore$Takings" "sum" "I" ∈ gw := gwm 231 (by decide +kernel) (by decide +kernel)
theorem lkX4_13 : Cond.fieldLink RX4 13 "GreatStore$Takings" "slipCount" "I" ∈ gw := gwm 233 (by decide +kernel) (by decide +kernel)
theorem lkX4_16 : Cond.fieldLink RX4 16 "GreatStore$Takings" "cameBack" "I" ∈ gw := gwm 235 (by decide +kernel) (by decide +kernel)
theorem lkX4_19 : Cond.fieldLink RX4 19 "GreatStore$Takings" "month" "I" ∈ gw := gwm 237 (by decide +kernel) (by decide +kernel)
theorem lkX4_22 : Cond.methodLink RX4 22 yJx4a65c_size_8abf5 ∈ gw := gwm 759 (by decide +kernel) (by decide +kernel)
theorem lkX4_28 : Cond.methodLink RX4 28 yJx4a65c_get_915e3 ∈ gw := gwm 760 (by decide +kernel) (by decide +kernel)
theorem lkX4_32 : Cond.classLink RX4 32 "GreatStore$Slip" ∈ gw := gwm 761 (by decide +kernel) (by decide +kernel)
theorem lkX4_34 : Cond.fieldLink RX4 34 "GreatStore$Slip" "clerk" "I" ∈ gw := gwm 479 (by decide +kernel) (by decide +kernel)
theorem lkX4_37 : Cond.methodLink RX4 37 yX4_addSlip ∈ gw := gwm 762 (by decide +kernel) (by decide +kernel)
theorem lkX4_41 : Cond.methodLink RX4 41 yX3_wasSoldIn ∈ gw := gwm 766 (by decide +kernel) (by decide +kernel)
theorem lkX4_45 : Cond.fieldLink RX4 45 "GreatStore$Slip" "worth" "I" ∈ gw := gwm 492 (by decide +kernel) (by decide +kernel)
theorem lkX4_48 : Cond.methodLink RX4 48 yX3_cameBackSoldIn ∈ gw := gwm 770 (by decide +kernel) (by decide +kernel)
theorem lkX5_9 : Cond.fieldLink RX5 9 "GreatStore$Tape" "bytes" "[B" ∈ gw := gwm 132 (by decide +kernel) (by decide +kernel)
theorem lkX5_15 : Cond.fieldLink RX5 15 "GreatStore$Tape" "length" "I" ∈ gw := gwm 134 (by decide +kernel) (by decide +kernel)
theorem lkX6_3 : Cond.methodLink RX6 3 objectInit ∈ gw := gwm 330 (by decide +kernel) (by decide +kernel)
theorem lkX6_9 : Cond.fieldLink RX6 9 "GreatStore$Thing" "tags" "[I" ∈ gw := gwm 331 (by decide +kernel) (by decide +kernel)
theorem lkX6_15 : Cond.fieldLink RX6 15 "GreatStore$Thing" "came" "I" ∈ gw := gwm 332 (by decide +kernel) (by decide +kernel)
theorem lkX6_19 : Cond.fieldLink RX6 19 "GreatStore$Thing" "stock" "I" ∈ gw := gwm 334 (by decide +kernel) (by decide +kernel)
theorem lkX6_22 : Cond.methodLink RX6 22 yX6_tagOn ∈ gw := gwm 435 (by decide +kernel) (by decide +kernel)
theorem lkX6_26 : Cond.fieldLink RX6 26 "GreatStore$Thing" "raised" "I" ∈ gw := gwm 336 (by decide +kernel) (by decide +kernel)
theorem lkX7_9 : Cond.fieldLink RX7 9 "GreatStore$Tokens" "kinds" "[I" ∈ gw := gwm 148 (by decide +kernel) (by decide +kernel)
theorem lkX7_15 : Cond.fieldLink RX7 15 "GreatStore$Tokens" "places" "[I" ∈ gw := gwm 150 (by decide +kernel) (by decide +kernel)
theorem lkX7_18 : Cond.fieldLink RX7 18 "GreatStore$Tokens" "numbers" "[I" ∈ gw := gwm 152 (by decide +kernel) (by decide +kernel)
theorem lkX7_21 : Cond.fieldLink RX7 21 "GreatStore$Tokens" "tokenCount" "I" ∈ gw := gwm 154 (by decide +kernel) (by decide +kernel)
theorem lkX7_25 : Cond.methodLink RX7 25 yJ9_min_7cf53 ∈ gw := gwm 613 (by decide +kernel) (by decide +kernel)
theorem lkX7_31 : Cond.methodLink RX7 31 yX7_scanToken ∈ gw := gwm 614 (by decide +kernel) (by decide +kernel)
theorem lkX7_35 : Cond.methodLink RX7 35 yX7_add ∈ gw := gwm 680 (by decide +kernel) (by decide +kernel)
theorem lkX7_39 : Cond.methodLink RX7 39 yX7_isLetter ∈ gw := gwm 618 (by decide +kernel) (by decide +kernel)
theorem lkX7_43 : Cond.methodLink RX7 43 yX7_wordKind ∈ gw := gwm 621 (by decide +kernel) (by decide +kernel)
theorem lkX7_46 : Cond.methodLink RX7 46 yX7_isDigit ∈ gw := gwm 684 (by decide +kernel) (by decide +kernel)
theorem lkX7_49 : Cond.methodLink RX7 49 yX7_numberOf ∈ gw := gwm 687 (by decide +kernel) (by decide +kernel)
theorem lkX7_54 : Cond.methodLink RX7 54 yX7_isWord ∈ gw := gwm 625 (by decide +kernel) (by decide +kernel)
theorem lkX7_70 : Cond.methodLink RX7 70 yJ0_length_8abf5 ∈ gw := gwm 628 (by decide +kernel) (by decide +kernel)
theorem lkX7_76 : Cond.methodLink RX7 76 yJ0_charAt_5068e ∈ gw := gwm 638 (by decide +kernel) (by decide +kernel)
theorem lkX8_9 : Cond.fieldLink RX8 9 "GreatStore$Van" "houses" "[I" ∈ gw := gwm 110 (by decide +kernel) (by decide +kernel)
theorem lkX8_15 : Cond.fieldLink RX8 15 "GreatStore$Van" "asked" "[Z" ∈ gw := gwm 111 (by decide +kernel) (by decide +kernel)
theorem lkX8_19 : Cond.fieldLink RX8 19 "GreatStore$Van" "houseCount" "I" ∈ gw := gwm 112 (by decide +kernel) (by decide +kernel)
theorem lkX8_23 : Cond.fieldLink RX8 23 "GreatStore$Van" "roundsToday" "I" ∈ gw := gwm 113 (by decide +kernel) (by decide +kernel)
theorem lkX8_26 : Cond.methodLink RX8 26 yJx4a65c_size_8abf5 ∈ gw := gwm 569 (by decide +kernel) (by decide +kernel)
theorem lkX8_32 : Cond.methodLink RX8 32 yJx4a65c_get_915e3 ∈ gw := gwm 570 (by decide +kernel) (by decide +kernel)
theorem lkX8_36 : Cond.classLink RX8 36 "GreatStore$Slip" ∈ gw := gwm 571 (by decide +kernel) (by decide +kernel)
theorem lkX8_38 : Cond.methodLink RX8 38 yX3_isParcel ∈ gw := gwm 572 (by decide +kernel) (by decide +kernel)
theorem lkX8_42 : Cond.fieldLink RX8 42 "GreatStore$Slip" "house" "I" ∈ gw := gwm 488 (by decide +kernel) (by decide +kernel)
theorem lkX8_45 : Cond.methodLink RX8 45 yX8_askOnce ∈ gw := gwm 573 (by decide +kernel) (by decide +kernel)
theorem lkX8_49 : Cond.methodLink RX8 49 yX8_piecesFor ∈ gw := gwm 577 (by decide +kernel) (by decide +kernel)
theorem lkX8_53 : Cond.methodLink RX8 53 yX8_take ∈ gw := gwm 581 (by decide +kernel) (by decide +kernel)
theorem lkX8_57 : Cond.fieldLink RX8 57 "GreatStore$Slip" "pieces" "I" ∈ gw := gwm 485 (by decide +kernel) (by decide +kernel)
theorem lkX8_60 : Cond.fieldLink RX8 60 "GreatStore$Slip" "round" "I" ∈ gw := gwm 501 (by decide +kernel) (by decide +kernel)
theorem lkJx4a65c_48 : Cond.fieldLink RJx4a65c 48 "java/util/ArrayList" "size" "I" ∈ gw := gwm 93 (by decide +kernel) (by decide +kernel)
theorem dX1_part_0 : decode cX1_part 0 = .ok (.iload_n 1, 1) := by decide +kernel
theorem dX1_part_1 : decode cX1_part 1 = .ok (.ifCond .ne 7, 3) := by decide +kernel
theorem dX1_part_4 : decode cX1_part 4 = .ok (.iconst 0, 1) := by decide +kernel
theorem dX1_part_5 : decode cX1_part 5 = .ok (.goto 6, 3) := by decide +kernel
theorem dX1_part_8 : decode cX1_part 8 = .ok (.iload_n 0, 1) := by decide +kernel
theorem dX1_part_9 : decode cX1_part 9 = .ok (.iload_n 1, 1) := by decide +kernel
theorem dX1_part_10 : decode cX1_part 10 = .ok (.idiv, 1) := by decide +kernel
theorem dX1_part_11 : decode cX1_part 11 = .ok (.ireturn, 1) := by decide +kernel
theorem dX1_joined_0 : decode cX1_joined 0 = .ok (.iload_n 0, 1) := by decide +kernel
theorem dX1_joined_1 : decode cX1_joined 1 = .ok (.lookupswitch 104 #[(42, 67), (43, 59), (45, 63), (60, 71), (61, 82), (62, 93)], 59) := by decide +kernel
theorem dX1_joined_60 : decode cX1_joined 60 = .ok (.iload_n 1, 1) := by decide +kernel
theorem dX1_joined_61 : decode cX1_joined 61 = .ok (.iload_n 2, 1) := by decide +kernel
theorem dX1_joined_62 : decode cX1_joined 62 = .ok (.iadd, 1) := by decide +kernel
theorem dX1_joined_63 : decode cX1_joined 63 = .ok (.ireturn, 1) := by decide +kernel
theorem dX1_joined_64 : decode cX1_joined 64 = .ok (.iload_n 1, 1) := by decide +kernel
theorem dX1_joined_65 : decode cX1_joined 65 = .ok (.iload_n 2, 1) := by decide +kernel
theorem dX1_joined_66 : decode cX1_joined 66 = .ok (.isub, 1) := by decide +kernel
theorem dX1_joined_67 : decode cX1_joined 67 = .ok (.ireturn, 1) := by decide +kernel
theorem dX1_joined_68 : decode cX1_joined 68 = .ok (.iload_n 1, 1) := by decide +kernel
theorem dX1_joined_69 : decode cX1_joined 69 = .ok (.iload_n 2, 1) := by decide +kernel
theorem dX1_joined_70 : decode cX1_joined 70 = .ok (.imul, 1) := by decide +kernel
theorem dX1_joined_71 : decode cX1_joined 71 = .ok (.ireturn, 1) := by decide +kernel
theorem dX1_joined_72 : decode cX1_joined 72 = .ok (.iload_n 1, 1) := by decide +kernel
theorem dX1_joined_73 : decode cX1_joined 73 = .ok (.iload_n 2, 1) := by decide +kernel
theorem dX1_joined_74 : decode cX1_joined 74 = .ok (.if_icmp .ge 7, 3) := by decide +kernel
theorem dX1_joined_77 : decode cX1_joined 77 = .ok (.iconst 1, 1) := by decide +kernel
theorem dX1_joined_78 : decode cX1_joined 78 = .ok (.goto 4, 3) := by decide +kernel
theorem dX1_joined_81 : decode cX1_joined 81 = .ok (.iconst 0, 1) := by decide +kernel
theorem dX1_joined_82 : decode cX1_joined 82 = .ok (.ireturn, 1) := by decide +kernel
theorem dX1_joined_83 : decode cX1_joined 83 = .ok (.iload_n 1, 1) := by decide +kernel
theorem dX1_joined_84 : decode cX1_joined 84 = .ok (.iload_n 2, 1) := by decide +kernel
theorem dX1_joined_85 : decode cX1_joined 85 = .ok (.if_icmp .ne 7, 3) := by decide +kernel
theorem dX1_joined_88 : decode cX1_joined 88 = .ok (.iconst 1, 1) := by decide +kernel
theorem dX1_joined_89 : decode cX1_joined 89 = .ok (.goto 4, 3) := by decide +kernel
theorem dX1_joined_92 : decode cX1_joined 92 = .ok (.iconst 0, 1) := by decide +kernel
theorem dX1_joined_93 : decode cX1_joined 93 = .ok (.ireturn, 1) := by decide +kernel
theorem dX1_joined_94 : decode cX1_joined 94 = .ok (.iload_n 1, 1) := by decide +kernel
theorem dX1_joined_95 : decode cX1_joined 95 = .ok (.iload_n 2, 1) := by decide +kernel
theorem dX1_joined_96 : decode cX1_joined 96 = .ok (.if_icmp .le 7, 3) := by decide +kernel
theorem dX1_joined_99 : decode cX1_joined 99 = .ok (.iconst 1, 1) := by decide +kernel
theorem dX1_joined_100 : decode cX1_joined 100 = .ok (.goto 4, 3) := by decide +kernel
theorem dX1_joined_103 : decode cX1_joined 103 = .ok (.iconst 0, 1) := by decide +kernel
theorem dX1_joined_104 : decode cX1_joined 104 = .ok (.ireturn, 1) := by decide +kernel
theorem dX1_joined_105 : decode cX1_joined 105 = .ok (.iload_n 1, 1) := by decide +kernel
theorem dX1_joined_106 : decode cX1_joined 106 = .ok (.iload_n 2, 1) := by decide +kernel
theorem dX1_joined_107 : decode cX1_joined 107 = .ok (.iand, 1) := by decide +kernel
theorem dX1_joined_108 : decode cX1_joined 108 = .ok (.ireturn, 1) := by decide +kernel
theorem dX2_kind_0 : decode cX2_kind 0 = .ok (.aload_n 0, 1) := by decide +kernel
theorem dX2_kind_1 : decode cX2_kind 1 = .ok (.getfield 19, 3) := by decide +kernel
theorem dX2_kind_4 : decode cX2_kind 4 = .ok (.ifCond .lt 42, 3) := by decide +kernel
theorem dX2_kind_7 : decode cX2_kind 7 = .ok (.aload_n 0, 1) := by decide +kernel
theorem dX2_kind_8 : decode cX2_kind 8 = .ok (.getfield 19, 3) := by decide +kernel
theorem dX2_kind_11 : decode cX2_kind 11 = .ok (.aload_n 0, 1) := by decide +kernel
theorem dX2_kind_12 : decode cX2_kind 12 = .ok (.getfield 9, 3) := by decide +kernel
theorem dX2_kind_15 : decode cX2_kind 15 = .ok (.getfield 79, 3) := by decide +kernel
theorem dX2_kind_18 : decode cX2_kind 18 = .ok (.if_icmp .ge 28, 3) := by decide +kernel
theorem dX2_kind_21 : decode cX2_kind 21 = .ok (.aload_n 0, 1) := by decide +kernel
theorem dX2_kind_22 : decode cX2_kind 22 = .ok (.getfield 19, 3) := by decide +kernel
theorem dX2_kind_25 : decode cX2_kind 25 = .ok (.sipush 400, 3) := by decide +kernel
theorem dX2_kind_28 : decode cX2_kind 28 = .ok (.if_icmp .gt 18, 3) := by decide +kernel
theorem dX2_kind_31 : decode cX2_kind 31 = .ok (.aload_n 0, 1) := by decide +kernel
theorem dX2_kind_32 : decode cX2_kind 32 = .ok (.getfield 9, 3) := by decide +kernel
theorem dX2_kind_35 : decode cX2_kind 35 = .ok (.getfield 82, 3) := by decide +kernel
theorem dX2_kind_38 : decode cX2_kind 38 = .ok (.aload_n 0, 1) := by decide +kernel
theorem dX2_kind_39 : decode cX2_kind 39 = .ok (.getfield 19, 3) := by decide +kernel
theorem dX2_kind_42 : decode cX2_kind 42 = .ok (.iaload, 1) := by decide +kernel
theorem dX2_kind_43 : decode cX2_kind 43 = .ok (.goto 6, 3) := by decide +kernel
theorem dX2_kind_46 : decode cX2_kind 46 = .ok (.sipush 256, 3) := by decide +kernel
theorem dX2_kind_49 : decode cX2_kind 49 = .ok (.ireturn, 1) := by decide +kernel
theorem dX2_number_0 : decode cX2_number 0 = .ok (.aload_n 0, 1) := by decide +kernel
theorem dX2_number_1 : decode cX2_number 1 = .ok (.getfield 19, 3) := by decide +kernel
theorem dX2_number_4 : decode cX2_number 4 = .ok (.ifCond .lt 42, 3) := by decide +kernel
theorem dX2_number_7 : decode cX2_number 7 = .ok (.aload_n 0, 1) := by decide +kernel
theorem dX2_number_8 : decode cX2_number 8 = .ok (.getfield 19, 3) := by decide +kernel
theorem dX2_number_11 : decode cX2_number 11 = .ok (.aload_n 0, 1) := by decide +kernel
theorem dX2_number_12 : decode cX2_number 12 = .ok (.getfield 9, 3) := by decide +kernel
theorem dX2_number_15 : decode cX2_number 15 = .ok (.getfield 79, 3) := by decide +kernel
theorem dX2_number_18 : decode cX2_number 18 = .ok (.if_icmp .ge 28, 3) := by decide +kernel
theorem dX2_number_21 : decode cX2_number 21 = .ok (.aload_n 0, 1) := by decide +kernel
theorem dX2_number_22 : decode cX2_number 22 = .ok (.getfield 19, 3) := by decide +kernel
theorem dX2_number_25 : decode cX2_number 25 = .ok (.sipush 400, 3) := by decide +kernel
theorem dX2_number_28 : decode cX2_number 28 = .ok (.if_icmp .gt 18, 3) := by decide +kernel
theorem dX2_number_31 : decode cX2_number 31 = .ok (.aload_n 0, 1) := by decide +kernel
theorem dX2_number_32 : decode cX2_number 32 = .ok (.getfield 9, 3) := by decide +kernel
theorem dX2_number_35 : decode cX2_number 35 = .ok (.getfield 86, 3) := by decide +kernel
theorem dX2_number_38 : decode cX2_number 38 = .ok (.aload_n 0, 1) := by decide +kernel
theorem dX2_number_39 : decode cX2_number 39 = .ok (.getfield 19, 3) := by decide +kernel
theorem dX2_number_42 : decode cX2_number 42 = .ok (.iaload, 1) := by decide +kernel
theorem dX2_number_43 : decode cX2_number 43 = .ok (.goto 4, 3) := by decide +kernel
theorem dX2_number_46 : decode cX2_number 46 = .ok (.iconst 0, 1) := by decide +kernel
theorem dX2_number_47 : decode cX2_number 47 = .ok (.ireturn, 1) := by decide +kernel
theorem dX3_state_0 : decode cX3_state 0 = .ok (.aload_n 0, 1) := by decide +kernel
theorem dX3_state_1 : decode cX3_state 1 = .ok (.getfield 49, 3) := by decide +kernel
theorem dX3_state_4 : decode cX3_state 4 = .ok (.iconst (-1), 1) := by decide +kernel
theorem dX3_state_5 : decode cX3_state 5 = .ok (.if_icmp .eq 5, 3) := by decide +kernel
theorem dX3_state_8 : decode cX3_state 8 = .ok (.iconst 2, 1) := by decide +kernel
theorem dX3_state_9 : decode cX3_state 9 = .ok (.ireturn, 1) := by decide +kernel
theorem dX3_state_10 : decode cX3_state 10 = .ok (.aload_n 0, 1) := by decide +kernel
theorem dX3_state_11 : decode cX3_state 11 = .ok (.getfield 46, 3) := by decide +kernel
theorem dX3_state_14 : decode cX3_state 14 = .ok (.iconst (-1), 1) := by decide +kernel
theorem dX3_state_15 : decode cX3_state 15 = .ok (.if_icmp .ne 7, 3) := by decide +kernel
theorem dX3_state_18 : decode cX3_state 18 = .ok (.iconst 1, 1) := by decide +kernel
theorem dX3_state_19 : decode cX3_state 19 = .ok (.goto 4, 3) := by decide +kernel
theorem dX3_state_22 : decode cX3_state 22 = .ok (.iconst 0, 1) := by decide +kernel
theorem dX3_state_23 : decode cX3_state 23 = .ok (.ireturn, 1) := by decide +kernel
theorem dX3_isParcel_0 : decode cX3_isParcel 0 = .ok (.aload_n 0, 1) := by decide +kernel
theorem dX3_isParcel_1 : decode cX3_isParcel 1 = .ok (.getfield 28, 3) := by decide +kernel
theorem dX3_isParcel_4 : decode cX3_isParcel 4 = .ok (.iconst (-1), 1) := by decide +kernel
theorem dX3_isParcel_5 : decode cX3_isParcel 5 = .ok (.if_icmp .eq 23, 3) := by decide +kernel
theorem dX3_isParcel_8 : decode cX3_isParcel 8 = .ok (.aload_n 0, 1) := by decide +kernel
theorem dX3_isParcel_9 : decode cX3_isParcel 9 = .ok (.getfield 52, 3) := by decide +kernel
theorem dX3_isParcel_12 : decode cX3_isParcel 12 = .ok (.iconst (-1), 1) := by decide +kernel
theorem dX3_isParcel_13 : decode cX3_isParcel 13 = .ok (.if_icmp .ne 15, 3) := by decide +kernel
theorem dX3_isParcel_16 : decode cX3_isParcel 16 = .ok (.aload_n 0, 1) := by decide +kernel
theorem dX3_isParcel_17 : decode cX3_isParcel 17 = .ok (.getfield 49, 3) := by decide +kernel
theorem dX3_isParcel_20 : decode cX3_isParcel 20 = .ok (.iconst (-1), 1) := by decide +kernel
theorem dX3_isParcel_21 : decode cX3_isParcel 21 = .ok (.if_icmp .ne 7, 3) := by decide +kernel
theorem dX3_isParcel_24 : decode cX3_isParcel 24 = .ok (.iconst 1, 1) := by decide +kernel
theorem dX3_isParcel_25 : decode cX3_isParcel 25 = .ok (.goto 4, 3) := by decide +kernel
theorem dX3_isParcel_28 : decode cX3_isParcel 28 = .ok (.iconst 0, 1) := by decide +kernel
theorem dX3_isParcel_29 : decode cX3_isParcel 29 = .ok (.ireturn, 1) := by decide +kernel
theorem dX3_canComeBack_0 : decode cX3_canComeBack 0 = .ok (.aload_n 0, 1) := by decide +kernel
theorem dX3_canComeBack_1 : decode cX3_canComeBack 1 = .ok (.getfield 49, 3) := by decide +kernel
theorem dX3_canComeBack_4 : decode cX3_canComeBack 4 = .ok (.iconst (-1), 1) := by decide +kernel
theorem dX3_canComeBack_5 : decode cX3_canComeBack 5 = .ok (.if_icmp .eq 5, 3) := by decide +kernel
theorem dX3_canComeBack_8 : decode cX3_canComeBack 8 = .ok (.iconst 0, 1) := by decide +kernel
theorem dX3_canComeBack_9 : decode cX3_canComeBack 9 = .ok (.ireturn, 1) := by decide +kernel
theorem dX3_canComeBack_10 : decode cX3_canComeBack 10 = .ok (.aload_n 0, 1) := by decide +kernel
theorem dX3_canComeBack_11 : decode cX3_canComeBack 11 = .ok (.getfield 46, 3) := by decide +kernel
theorem dX3_canComeBack_14 : decode cX3_canComeBack 14 = .ok (.iconst (-1), 1) := by decide +kernel
theorem dX3_canComeBack_15 : decode cX3_canComeBack 15 = .ok (.if_icmp .eq 14, 3) := by decide +kernel
theorem dX3_canComeBack_18 : decode cX3_canComeBack 18 = .ok (.iload_n 1, 1) := by decide +kernel
theorem dX3_canComeBack_19 : decode cX3_canComeBack 19 = .ok (.aload_n 0, 1) := by decide +kernel
theorem dX3_canComeBack_20 : decode cX3_canComeBack 20 = .ok (.getfield 46, 3) := by decide +kernel
theorem dX3_canComeBack_23 : decode cX3_canComeBack 23 = .ok (.bipush 28, 2) := by decide +kernel
theorem dX3_canComeBack_25 : decode cX3_canComeBack 25 = .ok (.iadd, 1) := by decide +kernel
theorem dX3_canComeBack_26 : decode cX3_canComeBack 26 = .ok (.if_icmp .gt 7, 3) := by decide +kernel
theorem dX3_canComeBack_29 : decode cX3_canComeBack 29 = .ok (.iconst 1, 1) := by decide +kernel
theorem dX3_canComeBack_30 : decode cX3_canComeBack 30 = .ok (.goto 4, 3) := by decide +kernel
theorem dX3_canComeBack_33 : decode cX3_canComeBack 33 = .ok (.iconst 0, 1) := by decide +kernel
theorem dX3_canComeBack_34 : decode cX3_canComeBack 34 = .ok (.ireturn, 1) := by decide +kernel
theorem dX3_wasSoldIn_0 : decode cX3_wasSoldIn 0 = .ok (.aload_n 0, 1) := by decide +kernel
theorem dX3_wasSoldIn_1 : decode cX3_wasSoldIn 1 = .ok (.getfield 46, 3) := by decide +kernel
theorem dX3_wasSoldIn_4 : decode cX3_wasSoldIn 4 = .ok (.iconst (-1), 1) := by decide +kernel
theorem dX3_wasSoldIn_5 : decode cX3_wasSoldIn 5 = .ok (.if_icmp .eq 18, 3) := by decide +kernel
theorem dX3_wasSoldIn_8 : decode cX3_wasSoldIn 8 = .ok (.aload_n 0, 1) := by decide +kernel
theorem dX3_wasSoldIn_9 : decode cX3_wasSoldIn 9 = .ok (.getfield 46, 3) := by decide +kernel
theorem dX3_wasSoldIn_12 : decode cX3_wasSoldIn 12 = .ok (.bipush 28, 2) := by decide +kernel
theorem dX3_wasSoldIn_14 : decode cX3_wasSoldIn 14 = .ok (.idiv, 1) := by decide +kernel
theorem dX3_wasSoldIn_15 : decode cX3_wasSoldIn 15 = .ok (.iload_n 1, 1) := by decide +kernel
theorem dX3_wasSoldIn_16 : decode cX3_wasSoldIn 16 = .ok (.if_icmp .ne 7, 3) := by decide +kernel
theorem dX3_wasSoldIn_19 : decode cX3_wasSoldIn 19 = .ok (.iconst 1, 1) := by decide +kernel
theorem dX3_wasSoldIn_20 : decode cX3_wasSoldIn 20 = .ok (.goto 4, 3) := by decide +kernel
theorem dX3_wasSoldIn_23 : decode cX3_wasSoldIn 23 = .ok (.iconst 0, 1) := by decide +kernel
theorem dX3_wasSoldIn_24 : decode cX3_wasSoldIn 24 = .ok (.ireturn, 1) := by decide +kernel
theorem dX3_cameBackSoldIn_0 : decode cX3_cameBackSoldIn 0 = .ok (.aload_n 0, 1) := by decide +kernel
theorem dX3_cameBackSoldIn_1 : decode cX3_cameBackSoldIn 1 = .ok (.getfield 46, 3) := by decide +kernel
theorem dX3_cameBackSoldIn_4 : decode cX3_cameBackSoldIn 4 = .ok (.iconst (-1), 1) := by decide +kernel
theorem dX3_cameBackSoldIn_5 : decode cX3_cameBackSoldIn 5 = .ok (.if_icmp .eq 26, 3) := by decide +kernel
theorem dX3_cameBackSoldIn_8 : decode cX3_cameBackSoldIn 8 = .ok (.aload_n 0, 1) := by decide +kernel
theorem dX3_cameBackSoldIn_9 : decode cX3_cameBackSoldIn 9 = .ok (.getfield 49, 3) := by decide +kernel
theorem dX3_cameBackSoldIn_12 : decode cX3_cameBackSoldIn 12 = .ok (.iconst (-1), 1) := by decide +kernel
theorem dX3_cameBackSoldIn_13 : decode cX3_cameBackSoldIn 13 = .ok (.if_icmp .eq 18, 3) := by decide +kernel
theorem dX3_cameBackSoldIn_16 : decode cX3_cameBackSoldIn 16 = .ok (.aload_n 0, 1) := by decide +kernel
theorem dX3_cameBackSoldIn_17 : decode cX3_cameBackSoldIn 17 = .ok (.getfield 49, 3) := by decide +kernel
theorem dX3_cameBackSoldIn_20 : decode cX3_cameBackSoldIn 20 = .ok (.bipush 28, 2) := by decide +kernel
theorem dX3_cameBackSoldIn_22 : decode cX3_cameBackSoldIn 22 = .ok (.idiv, 1) := by decide +kernel
theorem dX3_cameBackSoldIn_23 : decode cX3_cameBackSoldIn 23 = .ok (.iload_n 1, 1) := by decide +kernel
theorem dX3_cameBackSoldIn_24 : decode cX3_cameBackSoldIn 24 = .ok (.if_icmp .ne 7, 3) := by decide +kernel
theorem dX3_cameBackSoldIn_27 : decode cX3_cameBackSoldIn 27 = .ok (.iconst 1, 1) := by decide +kernel
theorem dX3_cameBackSoldIn_28 : decode cX3_cameBackSoldIn 28 = .ok (.goto 4, 3) := by decide +kernel
theorem dX3_cameBackSoldIn_31 : decode cX3_cameBackSoldIn 31 = .ok (.iconst 0, 1) := by decide +kernel
theorem dX3_cameBackSoldIn_32 : decode cX3_cameBackSoldIn 32 = .ok (.ireturn, 1) := by decide +kernel
theorem dX3_statedWorth_0 : decode cX3_statedWorth 0 = .ok (.iconst 0, 1) := by decide +kernel
theorem dX3_statedWorth_1 : decode cX3_statedWorth 1 = .ok (.istore_n 3, 1) := by decide +kernel
theorem dX3_statedWorth_2 : decode cX3_statedWorth 2 = .ok (.aload_n 0, 1) := by decide +kernel
theorem dX3_statedWorth_3 : decode cX3_statedWorth 3 = .ok (.getfield 43, 3) := by decide +kernel
theorem dX3_statedWorth_6 : decode cX3_statedWorth 6 = .ok (.iload_n 2, 1) := by decide +kernel
theorem dX3_statedWorth_7 : decode cX3_statedWorth 7 = .ok (.if_icmp .le 5, 3) := by decide +kernel
theorem dX3_statedWorth_10 : decode cX3_statedWorth 10 = .ok (.iload_n 3, 1) := by decide +kernel
theorem dX3_statedWorth_11 : decode cX3_statedWorth 11 = .ok (.ireturn, 1) := by decide +kernel
theorem dX3_statedWorth_12 : decode cX3_statedWorth 12 = .ok (.aload_n 0, 1) := by decide +kernel
theorem dX3_statedWorth_13 : decode cX3_statedWorth 13 = .ok (.iload_n 1, 1) := by decide +kernel
theorem dX3_statedWorth_14 : decode cX3_statedWorth 14 = .ok (.invokevirtual 59, 3) := by decide +kernel
theorem dX3_statedWorth_17 : decode cX3_statedWorth 17 = .ok (.ifCond .eq 18, 3) := by decide +kernel
theorem dX3_statedWorth_20 : decode cX3_statedWorth 20 = .ok (.aload_n 0, 1) := by decide +kernel
theorem dX3_statedWorth_21 : decode cX3_statedWorth 21 = .ok (.getfield 46, 3) := by decide +kernel
theorem dX3_statedWorth_24 : decode cX3_statedWorth 24 = .ok (.iload_n 2, 1) := by decide +kernel
theorem dX3_statedWorth_25 : decode cX3_statedWorth 25 = .ok (.if_icmp .gt 10, 3) := by decide +kernel
theorem dX3_statedWorth_28 : decode cX3_statedWorth 28 = .ok (.iload_n 3, 1) := by decide +kernel
theorem dX3_statedWorth_29 : decode cX3_statedWorth 29 = .ok (.aload_n 0, 1) := by decide +kernel
theorem dX3_statedWorth_30 : decode cX3_statedWorth 30 = .ok (.getfield 40, 3) := by decide +kernel
theorem dX3_statedWorth_33 : decode cX3_statedWorth 33 = .ok (.iadd, 1) := by decide +kernel
theorem dX3_statedWorth_34 : decode cX3_statedWorth 34 = .ok (.istore_n 3, 1) := by decide +kernel
theorem dX3_statedWorth_35 : decode cX3_statedWorth 35 = .ok (.aload_n 0, 1) := by decide +kernel
theorem dX3_statedWorth_36 : decode cX3_statedWorth 36 = .ok (.iload_n 1, 1) := by decide +kernel
theorem dX3_statedWorth_37 : decode cX3_statedWorth 37 = .ok (.invokevirtual 63, 3) := by decide +kernel
theorem dX3_statedWorth_40 : decode cX3_statedWorth 40 = .ok (.ifCond .eq 18, 3) := by decide +kernel
theorem dX3_statedWorth_43 : decode cX3_statedWorth 43 = .ok (.aload_n 0, 1) := by decide +kernel
theorem dX3_statedWorth_44 : decode cX3_statedWorth 44 = .ok (.getfield 49, 3) := by decide +kernel
theorem dX3_statedWorth_47 : decode cX3_statedWorth 47 = .ok (.iload_n 2, 1) := by decide +kernel
theorem dX3_statedWorth_48 : decode cX3_statedWorth 48 = .ok (.if_icmp .gt 10, 3) := by decide +kernel
theorem dX3_statedWorth_51 : decode cX3_statedWorth 51 = .ok (.iload_n 3, 1) := by decide +kernel
theorem dX3_statedWorth_52 : decode cX3_statedWorth 52 = .ok (.aload_n 0, 1) := by decide +kernel
theorem dX3_statedWorth_53 : decode cX3_statedWorth 53 = .ok (.getfield 40, 3) := by decide +kernel
theorem dX3_statedWorth_56 : decode cX3_statedWorth 56 = .ok (.isub, 1) := by decide +kernel
theorem dX3_statedWorth_57 : decode cX3_statedWorth 57 = .ok (.istore_n 3, 1) := by decide +kernel
theorem dX3_statedWorth_58 : decode cX3_statedWorth 58 = .ok (.iload_n 3, 1) := by decide +kernel
theorem dX3_statedWorth_59 : decode cX3_statedWorth 59 = .ok (.ireturn, 1) := by decide +kernel
theorem dX4_valueOfWord_0 : decode cX4_valueOfWord 0 = .ok (.iload_n 1, 1) := by decide +kernel
theorem dX4_valueOfWord_1 : decode cX4_valueOfWord 1 = .ok (.tableswitch 42 262 264 #[27, 32, 37], 27) := by decide +kernel
theorem dX4_valueOfWord_28 : decode cX4_valueOfWord 28 = .ok (.aload_n 0, 1) := by decide +kernel
theorem dX4_valueOfWord_29 : decode cX4_valueOfWord 29 = .ok (.getfield 7, 3) := by decide +kernel
theorem dX4_valueOfWord_32 : decode cX4_valueOfWord 32 = .ok (.ireturn, 1) := by decide +kernel
theorem dX4_valueOfWord_33 : decode cX4_valueOfWord 33 = .ok (.aload_n 0, 1) := by decide +kernel
theorem dX4_valueOfWord_34 : decode cX4_valueOfWord 34 = .ok (.getfield 13, 3) := by decide +kernel
theorem dX4_valueOfWord_37 : decode cX4_valueOfWord 37 = .ok (.ireturn, 1) := by decide +kernel
theorem dX4_valueOfWord_38 : decode cX4_valueOfWord 38 = .ok (.aload_n 0, 1) := by decide +kernel
theorem dX4_valueOfWord_39 : decode cX4_valueOfWord 39 = .ok (.getfield 16, 3) := by decide +kernel
theorem dX4_valueOfWord_42 : decode cX4_valueOfWord 42 = .ok (.ireturn, 1) := by decide +kernel
theorem dX4_valueOfWord_43 : decode cX4_valueOfWord 43 = .ok (.aload_n 0, 1) := by decide +kernel
theorem dX4_valueOfWord_44 : decode cX4_valueOfWord 44 = .ok (.getfield 19, 3) := by decide +kernel
theorem dX4_valueOfWord_47 : decode cX4_valueOfWord 47 = .ok (.ireturn, 1) := by decide +kernel
theorem dX6_tagOn_0 : decode cX6_tagOn 0 = .ok (.iload_n 1, 1) := by decide +kernel
theorem dX6_tagOn_1 : decode cX6_tagOn 1 = .ok (.ifCond .lt 19, 3) := by decide +kernel
theorem dX6_tagOn_4 : decode cX6_tagOn 4 = .ok (.iload_n 1, 1) := by decide +kernel
theorem dX6_tagOn_5 : decode cX6_tagOn 5 = .ok (.sipush 364, 3) := by decide +kernel
theorem dX6_tagOn_8 : decode cX6_tagOn 8 = .ok (.if_icmp .ge 12, 3) := by decide +kernel
theorem dX6_tagOn_11 : decode cX6_tagOn 11 = .ok (.aload_n 0, 1) := by decide +kernel
theorem dX6_tagOn_12 : decode cX6_tagOn 12 = .ok (.getfield 9, 3) := by decide +kernel
theorem dX6_tagOn_15 : decode cX6_tagOn 15 = .ok (.iload_n 1, 1) := by decide +kernel
theorem dX6_tagOn_16 : decode cX6_tagOn 16 = .ok (.iaload, 1) := by decide +kernel
theorem dX6_tagOn_17 : decode cX6_tagOn 17 = .ok (.goto 4, 3) := by decide +kernel
theorem dX6_tagOn_20 : decode cX6_tagOn 20 = .ok (.iconst 0, 1) := by decide +kernel
theorem dX6_tagOn_21 : decode cX6_tagOn 21 = .ok (.ireturn, 1) := by decide +kernel
theorem dX7_isLetter_0 : decode cX7_isLetter 0 = .ok (.iload_n 0, 1) := by decide +kernel
theorem dX7_isLetter_1 : decode cX7_isLetter 1 = .ok (.bipush 97, 2) := by decide +kernel
theorem dX7_isLetter_3 : decode cX7_isLetter 3 = .ok (.if_icmp .lt 9, 3) := by decide +kernel
theorem dX7_isLetter_6 : decode cX7_isLetter 6 = .ok (.iload_n 0, 1) := by decide +kernel
theorem dX7_isLetter_7 : decode cX7_isLetter 7 = .ok (.bipush 122, 2) := by decide +kernel
theorem dX7_isLetter_9 : decode cX7_isLetter 9 = .ok (.if_icmp .le 15, 3) := by decide +kernel
theorem dX7_isLetter_12 : decode cX7_isLetter 12 = .ok (.iload_n 0, 1) := by decide +kernel
theorem dX7_isLetter_13 : decode cX7_isLetter 13 = .ok (.bipush 65, 2) := by decide +kernel
theorem dX7_isLetter_15 : decode cX7_isLetter 15 = .ok (.if_icmp .lt 13, 3) := by decide +kernel
theorem dX7_isLetter_18 : decode cX7_isLetter 18 = .ok (.iload_n 0, 1) := by decide +kernel
theorem dX7_isLetter_19 : decode cX7_isLetter 19 = .ok (.bipush 90, 2) := by decide +kernel
theorem dX7_isLetter_21 : decode cX7_isLetter 21 = .ok (.if_icmp .gt 7, 3) := by decide +kernel
theorem dX7_isLetter_24 : decode cX7_isLetter 24 = .ok (.iconst 1, 1) := by decide +kernel
theorem dX7_isLetter_25 : decode cX7_isLetter 25 = .ok (.goto 4, 3) := by decide +kernel
theorem dX7_isLetter_28 : decode cX7_isLetter 28 = .ok (.iconst 0, 1) := by decide +kernel
theorem dX7_isLetter_29 : decode cX7_isLetter 29 = .ok (.ireturn, 1) := by decide +kernel
theorem dX7_isDigit_0 : decode cX7_isDigit 0 = .ok (.iload_n 0, 1) := by decide +kernel
theorem dX7_isDigit_1 : decode cX7_isDigit 1 = .ok (.bipush 48, 2) := by decide +kernel
theorem dX7_isDigit_3 : decode cX7_isDigit 3 = .ok (.if_icmp .lt 13, 3) := by decide +kernel
theorem dX7_isDigit_6 : decode cX7_isDigit 6 = .ok (.iload_n 0, 1) := by decide +kernel
theorem dX7_isDigit_7 : decode cX7_isDigit 7 = .ok (.bipush 57, 2) := by decide +kernel
theorem dX7_isDigit_9 : decode cX7_isDigit 9 = .ok (.if_icmp .gt 7, 3) := by decide +kernel
theorem dX7_isDigit_12 : decode cX7_isDigit 12 = .ok (.iconst 1, 1) := by decide +kernel
theorem dX7_isDigit_13 : decode cX7_isDigit 13 = .ok (.goto 4, 3) := by decide +kernel
theorem dX7_isDigit_16 : decode cX7_isDigit 16 = .ok (.iconst 0, 1) := by decide +kernel
theorem dX7_isDigit_17 : decode cX7_isDigit 17 = .ok (.ireturn, 1) := by decide +kernel
theorem dX9_isWithin_0 : decode cX9_isWithin 0 = .ok (.iload_n 0, 1) := by decide +kernel
theorem dX9_isWithin_1 : decode cX9_isWithin 1 = .ok (.iload_n 1, 1) := by decide +kernel
theorem dX9_isWithin_2 : decode cX9_isWithin 2 = .ok (.if_icmp .lt 12, 3) := by decide +kernel
theorem dX9_isWithin_5 : decode cX9_isWithin 5 = .ok (.iload_n 0, 1) := by decide +kernel
theorem dX9_isWithin_6 : decode cX9_isWithin 6 = .ok (.iload_n 2, 1) := by decide +kernel
theorem dX9_isWithin_7 : decode cX9_isWithin 7 = .ok (.if_icmp .gt 7, 3) := by decide +kernel
theorem dX9_isWithin_10 : decode cX9_isWithin 10 = .ok (.iconst 1, 1) := by decide +kernel
theorem dX9_isWithin_11 : decode cX9_isWithin 11 = .ok (.goto 4, 3) := by decide +kernel
theorem dX9_isWithin_14 : decode cX9_isWithin 14 = .ok (.iconst 0, 1) := by decide +kernel
theorem dX9_isWithin_15 : decode cX9_isWithin 15 = .ok (.ireturn, 1) := by decide +kernel
theorem dX9_isTag_0 : decode cX9_isTag 0 = .ok (.iload_n 0, 1) := by decide +kernel
theorem dX9_isTag_1 : decode cX9_isTag 1 = .ok (.iconst 1, 1) := by decide +kernel
theorem dX9_isTag_2 : decode cX9_isTag 2 = .ok (.sipush 9999, 3) := by decide +kernel
theorem dX9_isTag_5 : decode cX9_isTag 5 = .ok (.invokestatic 85, 3) := by decide +kernel
theorem dX9_isTag_8 : decode cX9_isTag 8 = .ok (.ireturn, 1) := by decide +kernel
theorem dX9_isLevel_0 : decode cX9_isLevel 0 = .ok (.iload_n 0, 1) := by decide +kernel
theorem dX9_isLevel_1 : decode cX9_isLevel 1 = .ok (.iconst 0, 1) := by decide +kernel
theorem dX9_isLevel_2 : decode cX9_isLevel 2 = .ok (.iconst 3, 1) := by decide +kernel
theorem dX9_isLevel_3 : decode cX9_isLevel 3 = .ok (.invokestatic 85, 3) := by decide +kernel
theorem dX9_isLevel_6 : decode cX9_isLevel 6 = .ok (.ireturn, 1) := by decide +kernel
theorem dX9_isHouseOrNone_0 : decode cX9_isHouseOrNone 0 = .ok (.iload_n 0, 1) := by decide +kernel
theorem dX9_isHouseOrNone_1 : decode cX9_isHouseOrNone 1 = .ok (.iconst (-1), 1) := by decide +kernel
theorem dX9_isHouseOrNone_2 : decode cX9_isHouseOrNone 2 = .ok (.bipush 19, 2) := by decide +kernel
theorem dX9_isHouseOrNone_4 : decode cX9_isHouseOrNone 4 = .ok (.invokestatic 85, 3) := by decide +kernel
theorem dX9_isHouseOrNone_7 : decode cX9_isHouseOrNone 7 = .ok (.ireturn, 1) := by decide +kernel
theorem dX9_isBuyer_0 : decode cX9_isBuyer 0 = .ok (.iload_n 0, 1) := by decide +kernel
theorem dX9_isBuyer_1 : decode cX9_isBuyer 1 = .ok (.ifCond .ne 14, 3) := by decide +kernel
theorem dX9_isBuyer_4 : decode cX9_isBuyer 4 = .ok (.iload_n 1, 1) := by decide +kernel
theorem dX9_isBuyer_5 : decode cX9_isBuyer 5 = .ok (.iconst (-1), 1) := by decide +kernel
theorem dX9_isBuyer_6 : decode cX9_isBuyer 6 = .ok (.if_icmp .ne 7, 3) := by decide +kernel
theorem dX9_isBuyer_9 : decode cX9_isBuyer 9 = .ok (.iconst 1, 1) := by decide +kernel
theorem dX9_isBuyer_10 : decode cX9_isBuyer 10 = .ok (.goto 4, 3) := by decide +kernel
theorem dX9_isBuyer_13 : decode cX9_isBuyer 13 = .ok (.iconst 0, 1) := by decide +kernel
theorem dX9_isBuyer_14 : decode cX9_isBuyer 14 = .ok (.ireturn, 1) := by decide +kernel
theorem dX9_isBuyer_15 : decode cX9_isBuyer 15 = .ok (.iload_n 0, 1) := by decide +kernel
theorem dX9_isBuyer_16 : decode cX9_isBuyer 16 = .ok (.iconst 0, 1) := by decide +kernel
theorem dX9_isBuyer_17 : decode cX9_isBuyer 17 = .ok (.iconst 2, 1) := by decide +kernel
theorem dX9_isBuyer_18 : decode cX9_isBuyer 18 = .ok (.invokestatic 85, 3) := by decide +kernel
theorem dX9_isBuyer_21 : decode cX9_isBuyer 21 = .ok (.ifCond .eq 17, 3) := by decide +kernel
theorem dX9_isBuyer_24 : decode cX9_isBuyer 24 = .ok (.iload_n 1, 1) := by decide +kernel
theorem dX9_isBuyer_25 : decode cX9_isBuyer 25 = .ok (.iconst 0, 1) := by decide +kernel
theorem dX9_isBuyer_26 : decode cX9_isBuyer 26 = .ok (.bipush 9, 2) := by decide +kernel
theorem dX9_isBuyer_28 : decode cX9_isBuyer 28 = .ok (.invokestatic 85, 3) := by decide +kernel
theorem dX9_isBuyer_31 : decode cX9_isBuyer 31 = .ok (.ifCond .eq 7, 3) := by decide +kernel
theorem dX9_isBuyer_34 : decode cX9_isBuyer 34 = .ok (.iconst 1, 1) := by decide +kernel
theorem dX9_isBuyer_35 : decode cX9_isBuyer 35 = .ok (.goto 4, 3) := by decide +kernel
theorem dX9_isBuyer_38 : decode cX9_isBuyer 38 = .ok (.iconst 0, 1) := by decide +kernel
theorem dX9_isBuyer_39 : decode cX9_isBuyer 39 = .ok (.ireturn, 1) := by decide +kernel
theorem dJ9_max_7cf53_0 : decode cJ9_max_7cf53 0 = .ok (.iload_n 0, 1) := by decide +kernel
theorem dJ9_max_7cf53_1 : decode cJ9_max_7cf53 1 = .ok (.iload_n 1, 1) := by decide +kernel
theorem dJ9_max_7cf53_2 : decode cJ9_max_7cf53 2 = .ok (.if_icmp .lt 7, 3) := by decide +kernel
theorem dJ9_max_7cf53_5 : decode cJ9_max_7cf53 5 = .ok (.iload_n 0, 1) := by decide +kernel
theorem dJ9_max_7cf53_6 : decode cJ9_max_7cf53 6 = .ok (.goto 4, 3) := by decide +kernel
theorem dJ9_max_7cf53_9 : decode cJ9_max_7cf53 9 = .ok (.iload_n 1, 1) := by decide +kernel
theorem dJ9_max_7cf53_10 : decode cJ9_max_7cf53 10 = .ok (.ireturn, 1) := by decide +kernel
theorem dJ9_min_7cf53_0 : decode cJ9_min_7cf53 0 = .ok (.iload_n 0, 1) := by decide +kernel
theorem dJ9_min_7cf53_1 : decode cJ9_min_7cf53 1 = .ok (.iload_n 1, 1) := by decide +kernel
theorem dJ9_min_7cf53_2 : decode cJ9_min_7cf53 2 = .ok (.if_icmp .gt 7, 3) := by decide +kernel
theorem dJ9_min_7cf53_5 : decode cJ9_min_7cf53 5 = .ok (.iload_n 0, 1) := by decide +kernel
theorem dJ9_min_7cf53_6 : decode cJ9_min_7cf53 6 = .ok (.goto 4, 3) := by decide +kernel
theorem dJ9_min_7cf53_9 : decode cJ9_min_7cf53 9 = .ok (.iload_n 1, 1) := by decide +kernel
theorem dJ9_min_7cf53_10 : decode cJ9_min_7cf53 10 = .ok (.ireturn, 1) := by decide +kernel
theorem dX0_seek_0 : decode cX0_seek 0 = .ok (.iload_n 2, 1) := by decide +kernel
theorem dX0_seek_1 : decode cX0_seek 1 = .ok (.bipush 8, 2) := by decide +kernel
theorem dX0_seek_3 : decode cX0_seek 3 = .ok (.invokestatic 31, 3) := by decide +kernel
theorem dX0_seek_6 : decode cX0_seek 6 = .ok (.istore 4, 2) := by decide +kernel
theorem dX0_seek_8 : decode cX0_seek 8 = .ok (.aload_n 0, 1) := by decide +kernel
theorem dX0_seek_9 : decode cX0_seek 9 = .ok (.iconst (-1), 1) := by decide +kernel
theorem dX0_seek_10 : decode cX0_seek 10 = .ok (.putfield 24, 3) := by decide +kernel
theorem dX0_seek_13 : decode cX0_seek 13 = .ok (.iconst 0, 1) := by decide +kernel
theorem dX0_seek_14 : decode cX0_seek 14 = .ok (.istore 5, 2) := by decide +kernel
theorem dX0_seek_16 : decode cX0_seek 16 = .ok (.iload 5, 2) := by decide +kernel
theorem dX0_seek_18 : decode cX0_seek 18 = .ok (.iload 4, 2) := by decide +kernel
theorem dX0_seek_20 : decode cX0_seek 20 = .ok (.if_icmp .ge 17, 3) := by decide +kernel
theorem dX0_seek_23 : decode cX0_seek 23 = .ok (.aload_n 0, 1) := by decide +kernel
theorem dX0_seek_24 : decode cX0_seek 24 = .ok (.getfield 18, 3) := by decide +kernel
theorem dX0_seek_27 : decode cX0_seek 27 = .ok (.iload 5, 2) := by decide +kernel
theorem dX0_seek_29 : decode cX0_seek 29 = .ok (.iload_n 3, 1) := by decide +kernel
theorem dX0_seek_30 : decode cX0_seek 30 = .ok (.iastore, 1) := by decide +kernel
theorem dX0_seek_31 : decode cX0_seek 31 = .ok (.iinc 5 1, 3) := by decide +kernel
theorem dX0_seek_34 : decode cX0_seek 34 = .ok (.goto (-18), 3) := by decide +kernel
theorem dX0_seek_37 : decode cX0_seek 37 = .ok (.iconst 1, 1) := by decide +kernel
theorem dX0_seek_38 : decode cX0_seek 38 = .ok (.istore 5, 2) := by decide +kernel
theorem dX0_seek_40 : decode cX0_seek 40 = .ok (.iconst 0, 1) := by decide +kernel
theorem dX0_seek_41 : decode cX0_seek 41 = .ok (.istore 6, 2) := by decide +kernel
theorem dX0_seek_43 : decode cX0_seek 43 = .ok (.iload 6, 2) := by decide +kernel
theorem dX0_seek_45 : decode cX0_seek 45 = .ok (.ldc 37, 2) := by decide +kernel
theorem dX0_seek_47 : decode cX0_seek 47 = .ok (.if_icmp .ge 29, 3) := by decide +kernel
theorem dX0_seek_50 : decode cX0_seek 50 = .ok (.iload 5, 2) := by decide +kernel
theorem dX0_seek_52 : decode cX0_seek 52 = .ok (.ifCond .eq 24, 3) := by decide +kernel
theorem dX0_seek_55 : decode cX0_seek 55 = .ok (.aload_n 0, 1) := by decide +kernel
theorem dX0_seek_56 : decode cX0_seek 56 = .ok (.iload_n 1, 1) := by decide +kernel
theorem dX0_seek_57 : decode cX0_seek 57 = .ok (.iload 4, 2) := by decide +kernel
theorem dX0_seek_59 : decode cX0_seek 59 = .ok (.invokevirtual 38, 3) := by decide +kernel
theorem dX0_seek_62 : decode cX0_seek 62 = .ok (.aload_n 0, 1) := by decide +kernel
theorem dX0_seek_63 : decode cX0_seek 63 = .ok (.iload 4, 2) := by decide +kernel
theorem dX0_seek_65 : decode cX0_seek 65 = .ok (.invokevirtual 42, 3) := by decide +kernel
theorem dX0_seek_68 : decode cX0_seek 68 = .ok (.istore 5, 2) := by decide +kernel
theorem dX0_seek_70 : decode cX0_seek 70 = .ok (.iinc 6 1, 3) := by decide +kernel
theorem dX0_seek_73 : decode cX0_seek 73 = .ok (.goto (-30), 3) := by decide +kernel
theorem dX0_seek_76 : decode cX0_seek 76 = .ok (.return_, 1) := by decide +kernel
theorem dX0_tryRow_0 : decode cX0_tryRow 0 = .ok (.iload_n 1, 1) := by decide +kernel
theorem dX0_tryRow_1 : decode cX0_tryRow 1 = .ok (.istore_n 3, 1) := by decide +kernel
theorem dX0_tryRow_2 : decode cX0_tryRow 2 = .ok (.iconst 0, 1) := by decide +kernel
theorem dX0_tryRow_3 : decode cX0_tryRow 3 = .ok (.istore 4, 2) := by decide +kernel
theorem dX0_tryRow_5 : decode cX0_tryRow 5 = .ok (.iconst 0, 1) := by decide +kernel
theorem dX0_tryRow_6 : decode cX0_tryRow 6 = .ok (.istore 5, 2) := by decide +kernel
theorem dX0_tryRow_8 : decode cX0_tryRow 8 = .ok (.iload 5, 2) := by decide +kernel
theorem dX0_tryRow_10 : decode cX0_tryRow 10 = .ok (.iload_n 2, 1) := by decide +kernel
theorem dX0_tryRow_11 : decode cX0_tryRow 11 = .ok (.if_icmp .ge 69, 3) := by decide +kernel
theorem dX0_tryRow_14 : decode cX0_tryRow 14 = .ok (.iload 5, 2) := by decide +kernel
theorem dX0_tryRow_16 : decode cX0_tryRow 16 = .ok (.bipush 8, 2) := by decide +kernel
theorem dX0_tryRow_18 : decode cX0_tryRow 18 = .ok (.if_icmp .ge 62, 3) := by decide +kernel
theorem dX0_tryRow_21 : decode cX0_tryRow 21 = .ok (.aload_n 0, 1) := by decide +kernel
theorem dX0_tryRow_22 : decode cX0_tryRow 22 = .ok (.getfield 18, 3) := by decide +kernel
theorem dX0_tryRow_25 : decode cX0_tryRow 25 = .ok (.iload 5, 2) := by decide +kernel
theorem dX0_tryRow_27 : decode cX0_tryRow 27 = .ok (.iaload, 1) := by decide +kernel
theorem dX0_tryRow_28 : decode cX0_tryRow 28 = .ok (.istore 6, 2) := by decide +kernel
theorem dX0_tryRow_30 : decode cX0_tryRow 30 = .ok (.iload 6, 2) := by decide +kernel
theorem dX0_tryRow_32 : decode cX0_tryRow 32 = .ok (.ifCond .lt 42, 3) := by decide +kernel
theorem dX0_tryRow_35 : decode cX0_tryRow 35 = .ok (.iload 6, 2) := by decide +kernel
theorem dX0_tryRow_37 : decode cX0_tryRow 37 = .ok (.iconst 4, 1) := by decide +kernel
theorem dX0_tryRow_38 : decode cX0_tryRow 38 = .ok (.if_icmp .ge 36, 3) := by decide +kernel
theorem dX0_tryRow_41 : decode cX0_tryRow 41 = .ok (.aload_n 0, 1) := by decide +kernel
theorem dX0_tryRow_42 : decode cX0_tryRow 42 = .ok (.getfield 15, 3) := by decide +kernel
theorem dX0_tryRow_45 : decode cX0_tryRow 45 = .ok (.iload 6, 2) := by decide +kernel
theorem dX0_tryRow_47 : decode cX0_tryRow 47 = .ok (.iaload, 1) := by decide +kernel
theorem dX0_tryRow_48 : decode cX0_tryRow 48 = .ok (.iload_n 3, 1) := by decide +kernel
theorem dX0_tryRow_49 : decode cX0_tryRow 49 = .ok (.invokestatic 31, 3) := by decide +kernel
theorem dX0_tryRow_52 : decode cX0_tryRow 52 = .ok (.istore 7, 2) := by decide +kernel
theorem dX0_tryRow_54 : decode cX0_tryRow 54 = .ok (.iload_n 3, 1) := by decide +kernel
theorem dX0_tryRow_55 : decode cX0_tryRow 55 = .ok (.iload 7, 2) := by decide +kernel
theorem dX0_tryRow_57 : decode cX0_tryRow 57 = .ok (.isub, 1) := by decide +kernel
theorem dX0_tryRow_58 : decode cX0_tryRow 58 = .ok (.istore_n 3, 1) := by decide +kernel
theorem dX0_tryRow_59 : decode cX0_tryRow 59 = .ok (.iload 4, 2) := by decide +kernel
theorem dX0_tryRow_61 : decode cX0_tryRow 61 = .ok (.iload 7, 2) := by decide +kernel
theorem dX0_tryRow_63 : decode cX0_tryRow 63 = .ok (.aload_n 0, 1) := by decide +kernel
theorem dX0_tryRow_64 : decode cX0_tryRow 64 = .ok (.getfield 9, 3) := by decide +kernel
theorem dX0_tryRow_67 : decode cX0_tryRow 67 = .ok (.iload 6, 2) := by decide +kernel
theorem dX0_tryRow_69 : decode cX0_tryRow 69 = .ok (.iaload, 1) := by decide +kernel
theorem dX0_tryRow_70 : decode cX0_tryRow 70 = .ok (.imul, 1) := by decide +kernel
theorem dX0_tryRow_71 : decode cX0_tryRow 71 = .ok (.iadd, 1) := by decide +kernel
theorem dX0_tryRow_72 : decode cX0_tryRow 72 = .ok (.istore 4, 2) := by decide +kernel
theorem dX0_tryRow_74 : decode cX0_tryRow 74 = .ok (.iinc 5 1, 3) := by decide +kernel
theorem dX0_tryRow_77 : decode cX0_tryRow 77 = .ok (.goto (-69), 3) := by decide +kernel
theorem dX0_tryRow_80 : decode cX0_tryRow 80 = .ok (.iload 4, 2) := by decide +kernel
theorem dX0_tryRow_82 : decode cX0_tryRow 82 = .ok (.aload_n 0, 1) := by decide +kernel
theorem dX0_tryRow_83 : decode cX0_tryRow 83 = .ok (.getfield 24, 3) := by decide +kernel
theorem dX0_tryRow_86 : decode cX0_tryRow 86 = .ok (.if_icmp .le 19, 3) := by decide +kernel
theorem dX0_tryRow_89 : decode cX0_tryRow 89 = .ok (.aload_n 0, 1) := by decide +kernel
theorem dX0_tryRow_90 : decode cX0_tryRow 90 = .ok (.iload 4, 2) := by decide +kernel
theorem dX0_tryRow_92 : decode cX0_tryRow 92 = .ok (.putfield 24, 3) := by decide +kernel
theorem dX0_tryRow_95 : decode cX0_tryRow 95 = .ok (.aload_n 0, 1) := by decide +kernel
theorem dX0_tryRow_96 : decode cX0_tryRow 96 = .ok (.iload_n 3, 1) := by decide +kernel
theorem dX0_tryRow_97 : decode cX0_tryRow 97 = .ok (.putfield 28, 3) := by decide +kernel
theorem dX0_tryRow_100 : decode cX0_tryRow 100 = .ok (.aload_n 0, 1) := by decide +kernel
theorem dX0_tryRow_101 : decode cX0_tryRow 101 = .ok (.iload_n 2, 1) := by decide +kernel
theorem dX0_tryRow_102 : decode cX0_tryRow 102 = .ok (.invokevirtual 46, 3) := by decide +kernel
theorem dX0_tryRow_105 : decode cX0_tryRow 105 = .ok (.return_, 1) := by decide +kernel
theorem dX0_keepRow_0 : decode cX0_keepRow 0 = .ok (.iconst 0, 1) := by decide +kernel
theorem dX0_keepRow_1 : decode cX0_keepRow 1 = .ok (.istore_n 2, 1) := by decide +kernel
theorem dX0_keepRow_2 : decode cX0_keepRow 2 = .ok (.iload_n 2, 1) := by decide +kernel
theorem dX0_keepRow_3 : decode cX0_keepRow 3 = .ok (.iload_n 1, 1) := by decide +kernel
theorem dX0_keepRow_4 : decode cX0_keepRow 4 = .ok (.if_icmp .ge 27, 3) := by decide +kernel
theorem dX0_keepRow_7 : decode cX0_keepRow 7 = .ok (.iload_n 2, 1) := by decide +kernel
theorem dX0_keepRow_8 : decode cX0_keepRow 8 = .ok (.bipush 8, 2) := by decide +kernel
theorem dX0_keepRow_10 : decode cX0_keepRow 10 = .ok (.if_icmp .ge 21, 3) := by decide +kernel
theorem dX0_keepRow_13 : decode cX0_keepRow 13 = .ok (.aload_n 0, 1) := by decide +kernel
theorem dX0_keepRow_14 : decode cX0_keepRow 14 = .ok (.getfield 21, 3) := by decide +kernel
theorem dX0_keepRow_17 : decode cX0_keepRow 17 = .ok (.iload_n 2, 1) := by decide +kernel
theorem dX0_keepRow_18 : decode cX0_keepRow 18 = .ok (.aload_n 0, 1) := by decide +kernel
theorem dX0_keepRow_19 : decode cX0_keepRow 19 = .ok (.getfield 18, 3) := by decide +kernel
theorem dX0_keepRow_22 : decode cX0_keepRow 22 = .ok (.iload_n 2, 1) := by decide +kernel
theorem dX0_keepRow_23 : decode cX0_keepRow 23 = .ok (.iaload, 1) := by decide +kernel
theorem dX0_keepRow_24 : decode cX0_keepRow 24 = .ok (.iastore, 1) := by decide +kernel
theorem dX0_keepRow_25 : decode cX0_keepRow 25 = .ok (.iinc 2 1, 3) := by decide +kernel
theorem dX0_keepRow_28 : decode cX0_keepRow 28 = .ok (.goto (-26), 3) := by decide +kernel
theorem dX0_keepRow_31 : decode cX0_keepRow 31 = .ok (.return_, 1) := by decide +kernel
theorem dX0_stepRow_0 : decode cX0_stepRow 0 = .ok (.iload_n 1, 1) := by decide +kernel
theorem dX0_stepRow_1 : decode cX0_stepRow 1 = .ok (.bipush 8, 2) := by decide +kernel
theorem dX0_stepRow_3 : decode cX0_stepRow 3 = .ok (.invokestatic 31, 3) := by decide +kernel
theorem dX0_stepRow_6 : decode cX0_stepRow 6 = .ok (.iconst 1, 1) := by decide +kernel
theorem dX0_stepRow_7 : decode cX0_stepRow 7 = .ok (.isub, 1) := by decide +kernel
theorem dX0_stepRow_8 : decode cX0_stepRow 8 = .ok (.istore_n 2, 1) := by decide +kernel
theorem dX0_stepRow_9 : decode cX0_stepRow 9 = .ok (.iload_n 2, 1) := by decide +kernel
theorem dX0_stepRow_10 : decode cX0_stepRow 10 = .ok (.istore_n 3, 1) := by decide +kernel
theorem dX0_stepRow_11 : decode cX0_stepRow 11 = .ok (.iload_n 3, 1) := by decide +kernel
theorem dX0_stepRow_12 : decode cX0_stepRow 12 = .ok (.ifCond .lt 55, 3) := by decide +kernel
theorem dX0_stepRow_15 : decode cX0_stepRow 15 = .ok (.aload_n 0, 1) := by decide +kernel
theorem dX0_stepRow_16 : decode cX0_stepRow 16 = .ok (.getfield 18, 3) := by decide +kernel
theorem dX0_stepRow_19 : decode cX0_stepRow 19 = .ok (.iload_n 3, 1) := by decide +kernel
theorem dX0_stepRow_20 : decode cX0_stepRow 20 = .ok (.iaload, 1) := by decide +kernel
theorem dX0_stepRow_21 : decode cX0_stepRow 21 = .ok (.iconst 3, 1) := by decide +kernel
theorem dX0_stepRow_22 : decode cX0_stepRow 22 = .ok (.if_icmp .ge 39, 3) := by decide +kernel
theorem dX0_stepRow_25 : decode cX0_stepRow 25 = .ok (.aload_n 0, 1) := by decide +kernel
theorem dX0_stepRow_26 : decode cX0_stepRow 26 = .ok (.getfield 18, 3) := by decide +kernel
theorem dX0_stepRow_29 : decode cX0_stepRow 29 = .ok (.iload_n 3, 1) := by decide +kernel
theorem dX0_stepRow_30 : decode cX0_stepRow 30 = .ok (.iaload, 1) := by decide +kernel
theorem dX0_stepRow_31 : decode cX0_stepRow 31 = .ok (.iconst 1, 1) := by decide +kernel
theorem dX0_stepRow_32 : decode cX0_stepRow 32 = .ok (.iadd, 1) := by decide +kernel
theorem dX0_stepRow_33 : decode cX0_stepRow 33 = .ok (.istore 4, 2) := by decide +kernel
theorem dX0_stepRow_35 : decode cX0_stepRow 35 = .ok (.iload_n 3, 1) := by decide +kernel
theorem dX0_stepRow_36 : decode cX0_stepRow 36 = .ok (.istore 5, 2) := by decide +kernel
theorem dX0_stepRow_38 : decode cX0_stepRow 38 = .ok (.iload 5, 2) := by decide +kernel
theorem dX0_stepRow_40 : decode cX0_stepRow 40 = .ok (.iload_n 2, 1) := by decide +kernel
theorem dX0_stepRow_41 : decode cX0_stepRow 41 = .ok (.if_icmp .gt 18, 3) := by decide +kernel
theorem dX0_stepRow_44 : decode cX0_stepRow 44 = .ok (.aload_n 0, 1) := by decide +kernel
theorem dX0_stepRow_45 : decode cX0_stepRow 45 = .ok (.getfield 18, 3) := by decide +kernel
theorem dX0_stepRow_48 : decode cX0_stepRow 48 = .ok (.iload 5, 2) := by decide +kernel
theorem dX0_stepRow_50 : decode cX0_stepRow 50 = .ok (.iload 4, 2) := by decide +kernel
theorem dX0_stepRow_52 : decode cX0_stepRow 52 = .ok (.iastore, 1) := by decide +kernel
theorem dX0_stepRow_53 : decode cX0_stepRow 53 = .ok (.iinc 5 1, 3) := by decide +kernel
theorem dX0_stepRow_56 : decode cX0_stepRow 56 = .ok (.goto (-18), 3) := by decide +kernel
theorem dX0_stepRow_59 : decode cX0_stepRow 59 = .ok (.iconst 1, 1) := by decide +kernel
theorem dX0_stepRow_60 : decode cX0_stepRow 60 = .ok (.ireturn, 1) := by decide +kernel
theorem dX0_stepRow_61 : decode cX0_stepRow 61 = .ok (.iinc 3 (-1), 3) := by decide +kernel
theorem dX0_stepRow_64 : decode cX0_stepRow 64 = .ok (.goto (-53), 3) := by decide +kernel
theorem dX0_stepRow_67 : decode cX0_stepRow 67 = .ok (.iconst 0, 1) := by decide +kernel
theorem dX0_stepRow_68 : decode cX0_stepRow 68 = .ok (.ireturn, 1) := by decide +kernel
theorem dX1_clear_0 : decode cX1_clear 0 = .ok (.aload_n 0, 1) := by decide +kernel
theorem dX1_clear_1 : decode cX1_clear 1 = .ok (.iconst 0, 1) := by decide +kernel
theorem dX1_clear_2 : decode cX1_clear 2 = .ok (.putfield 30, 3) := by decide +kernel
theorem dX1_clear_5 : decode cX1_clear 5 = .ok (.aload_n 0, 1) := by decide +kernel
theorem dX1_clear_6 : decode cX1_clear 6 = .ok (.iconst 0, 1) := by decide +kernel
theorem dX1_clear_7 : decode cX1_clear 7 = .ok (.putfield 34, 3) := by decide +kernel
theorem dX1_clear_10 : decode cX1_clear 10 = .ok (.return_, 1) := by decide +kernel
theorem dX1_addStep_0 : decode cX1_addStep 0 = .ok (.aload_n 0, 1) := by decide +kernel
theorem dX1_addStep_1 : decode cX1_addStep 1 = .ok (.getfield 30, 3) := by decide +kernel
theorem dX1_addStep_4 : decode cX1_addStep 4 = .ok (.ifCond .lt 43, 3) := by decide +kernel
theorem dX1_addStep_7 : decode cX1_addStep 7 = .ok (.aload_n 0, 1) := by decide +kernel
theorem dX1_addStep_8 : decode cX1_addStep 8 = .ok (.getfield 30, 3) := by decide +kernel
theorem dX1_addStep_11 : decode cX1_addStep 11 = .ok (.sipush 400, 3) := by decide +kernel
theorem dX1_addStep_14 : decode cX1_addStep 14 = .ok (.if_icmp .ge 33, 3) := by decide +kernel
theorem dX1_addStep_17 : decode cX1_addStep 17 = .ok (.aload_n 0, 1) := by decide +kernel
theorem dX1_addStep_18 : decode cX1_addStep 18 = .ok (.getfield 9, 3) := by decide +kernel
theorem dX1_addStep_21 : decode cX1_addStep 21 = .ok (.aload_n 0, 1) := by decide +kernel
theorem dX1_addStep_22 : decode cX1_addStep 22 = .ok (.getfield 30, 3) := by decide +kernel
theorem dX1_addStep_25 : decode cX1_addStep 25 = .ok (.iload_n 1, 1) := by decide +kernel
theorem dX1_addStep_26 : decode cX1_addStep 26 = .ok (.iastore, 1) := by decide +kernel
theorem dX1_addStep_27 : decode cX1_addStep 27 = .ok (.aload_n 0, 1) := by decide +kernel
theorem dX1_addStep_28 : decode cX1_addStep 28 = .ok (.getfield 15, 3) := by decide +kernel
theorem dX1_addStep_31 : decode cX1_addStep 31 = .ok (.aload_n 0, 1) := by decide +kernel
theorem dX1_addStep_32 : decode cX1_addStep 32 = .ok (.getfield 30, 3) := by decide +kernel
theorem dX1_addStep_35 : decode cX1_addStep 35 = .ok (.iload_n 2, 1) := by decide +kernel
theorem dX1_addStep_36 : decode cX1_addStep 36 = .ok (.iastore, 1) := by decide +kernel
theorem dX1_addStep_37 : decode cX1_addStep 37 = .ok (.aload_n 0, 1) := by decide +kernel
theorem dX1_addStep_38 : decode cX1_addStep 38 = .ok (.dup, 1) := by decide +kernel
theorem dX1_addStep_39 : decode cX1_addStep 39 = .ok (.getfield 30, 3) := by decide +kernel
theorem dX1_addStep_42 : decode cX1_addStep 42 = .ok (.iconst 1, 1) := by decide +kernel
theorem dX1_addStep_43 : decode cX1_addStep 43 = .ok (.iadd, 1) := by decide +kernel
theorem dX1_addStep_44 : decode cX1_addStep 44 = .ok (.putfield 30, 3) := by decide +kernel
theorem dX1_addStep_47 : decode cX1_addStep 47 = .ok (.return_, 1) := by decide +kernel
theorem dX1_addLine_0 : decode cX1_addLine 0 = .ok (.aload_n 0, 1) := by decide +kernel
theorem dX1_addLine_1 : decode cX1_addLine 1 = .ok (.getfield 34, 3) := by decide +kernel
theorem dX1_addLine_4 : decode cX1_addLine 4 = .ok (.ifCond .lt 55, 3) := by decide +kernel
theorem dX1_addLine_7 : decode cX1_addLine 7 = .ok (.aload_n 0, 1) := by decide +kernel
theorem dX1_addLine_8 : decode cX1_addLine 8 = .ok (.getfield 34, 3) := by decide +kernel
theorem dX1_addLine_11 : decode cX1_addLine 11 = .ok (.bipush 8, 2) := by decide +kernel
theorem dX1_addLine_13 : decode cX1_addLine 13 = .ok (.if_icmp .ge 46, 3) := by decide +kernel
theorem dX1_addLine_16 : decode cX1_addLine 16 = .ok (.aload_n 0, 1) := by decide +kernel
theorem dX1_addLine_17 : decode cX1_addLine 17 = .ok (.getfield 18, 3) := by decide +kernel
theorem dX1_addLine_20 : decode cX1_addLine 20 = .ok (.aload_n 0, 1) := by decide +kernel
theorem dX1_addLine_21 : decode cX1_addLine 21 = .ok (.getfield 34, 3) := by decide +kernel
theorem dX1_addLine_24 : decode cX1_addLine 24 = .ok (.iload_n 1, 1) := by decide +kernel
theorem dX1_addLine_25 : decode cX1_addLine 25 = .ok (.iastore, 1) := by decide +kernel
theorem dX1_addLine_26 : decode cX1_addLine 26 = .ok (.aload_n 0, 1) := by decide +kernel
theorem dX1_addLine_27 : decode cX1_addLine 27 = .ok (.getfield 21, 3) := by decide +kernel
theorem dX1_addLine_30 : decode cX1_addLine 30 = .ok (.aload_n 0, 1) := by decide +kernel
theorem dX1_addLine_31 : decode cX1_addLine 31 = .ok (.getfield 34, 3) := by decide +kernel
theorem dX1_addLine_34 : decode cX1_addLine 34 = .ok (.iload_n 2, 1) := by decide +kernel
theorem dX1_addLine_35 : decode cX1_addLine 35 = .ok (.iastore, 1) := by decide +kernel
theorem dX1_addLine_36 : decode cX1_addLine 36 = .ok (.aload_n 0, 1) := by decide +kernel
theorem dX1_addLine_37 : decode cX1_addLine 37 = .ok (.getfield 24, 3) := by decide +kernel
theorem dX1_addLine_40 : decode cX1_addLine 40 = .ok (.aload_n 0, 1) := by decide +kernel
theorem dX1_addLine_41 : decode cX1_addLine 41 = .ok (.getfield 34, 3) := by decide +kernel
theorem dX1_addLine_44 : decode cX1_addLine 44 = .ok (.aload_n 0, 1) := by decide +kernel
theorem dX1_addLine_45 : decode cX1_addLine 45 = .ok (.getfield 30, 3) := by decide +kernel
theorem dX1_addLine_48 : decode cX1_addLine 48 = .ok (.iastore, 1) := by decide +kernel
theorem dX1_addLine_49 : decode cX1_addLine 49 = .ok (.aload_n 0, 1) := by decide +kernel
theorem dX1_addLine_50 : decode cX1_addLine 50 = .ok (.dup, 1) := by decide +kernel
theorem dX1_addLine_51 : decode cX1_addLine 51 = .ok (.getfield 34, 3) := by decide +kernel
theorem dX1_addLine_54 : decode cX1_addLine 54 = .ok (.iconst 1, 1) := by decide +kernel
theorem dX1_addLine_55 : decode cX1_addLine 55 = .ok (.iadd, 1) := by decide +kernel
theorem dX1_addLine_56 : decode cX1_addLine 56 = .ok (.putfield 34, 3) := by decide +kernel
theorem dX1_addLine_59 : decode cX1_addLine 59 = .ok (.return_, 1) := by decide +kernel
theorem dX1_lineFor_0 : decode cX1_lineFor 0 = .ok (.iconst 0, 1) := by decide +kernel
theorem dX1_lineFor_1 : decode cX1_lineFor 1 = .ok (.istore_n 2, 1) := by decide +kernel
theorem dX1_lineFor_2 : decode cX1_lineFor 2 = .ok (.iload_n 2, 1) := by decide +kernel
theorem dX1_lineFor_3 : decode cX1_lineFor 3 = .ok (.aload_n 0, 1) := by decide +kernel
theorem dX1_lineFor_4 : decode cX1_lineFor 4 = .ok (.getfield 34, 3) := by decide +kernel
theorem dX1_lineFor_7 : decode cX1_lineFor 7 = .ok (.if_icmp .ge 37, 3) := by decide +kernel
theorem dX1_lineFor_10 : decode cX1_lineFor 10 = .ok (.iload_n 2, 1) := by decide +kernel
theorem dX1_lineFor_11 : decode cX1_lineFor 11 = .ok (.bipush 8, 2) := by decide +kernel
theorem dX1_lineFor_13 : decode cX1_lineFor 13 = .ok (.if_icmp .ge 31, 3) := by decide +kernel
theorem dX1_lineFor_16 : decode cX1_lineFor 16 = .ok (.aload_n 0, 1) := by decide +kernel
theorem dX1_lineFor_17 : decode cX1_lineFor 17 = .ok (.aload_n 0, 1) := by decide +kernel
theorem dX1_lineFor_18 : decode cX1_lineFor 18 = .ok (.getfield 21, 3) := by decide +kernel
theorem dX1_lineFor_21 : decode cX1_lineFor 21 = .ok (.iload_n 2, 1) := by decide +kernel
theorem dX1_lineFor_22 : decode cX1_lineFor 22 = .ok (.iaload, 1) := by decide +kernel
theorem dX1_lineFor_23 : decode cX1_lineFor 23 = .ok (.aload_n 0, 1) := by decide +kernel
theorem dX1_lineFor_24 : decode cX1_lineFor 24 = .ok (.getfield 24, 3) := by decide +kernel
theorem dX1_lineFor_27 : decode cX1_lineFor 27 = .ok (.iload_n 2, 1) := by decide +kernel
theorem dX1_lineFor_28 : decode cX1_lineFor 28 = .ok (.iaload, 1) := by decide +kernel
theorem dX1_lineFor_29 : decode cX1_lineFor 29 = .ok (.aload_n 1, 1) := by decide +kernel
theorem dX1_lineFor_30 : decode cX1_lineFor 30 = .ok (.invokevirtual 40, 3) := by decide +kernel
theorem dX1_lineFor_33 : decode cX1_lineFor 33 = .ok (.ifCond .eq 5, 3) := by decide +kernel
theorem dX1_lineFor_36 : decode cX1_lineFor 36 = .ok (.iload_n 2, 1) := by decide +kernel
theorem dX1_lineFor_37 : decode cX1_lineFor 37 = .ok (.ireturn, 1) := by decide +kernel
theorem dX1_lineFor_38 : decode cX1_lineFor 38 = .ok (.iinc 2 1, 3) := by decide +kernel
theorem dX1_lineFor_41 : decode cX1_lineFor 41 = .ok (.goto (-39), 3) := by decide +kernel
theorem dX1_lineFor_44 : decode cX1_lineFor 44 = .ok (.iconst (-1), 1) := by decide +kernel
theorem dX1_lineFor_45 : decode cX1_lineFor 45 = .ok (.ireturn, 1) := by decide +kernel
theorem dX1_payFor_0 : decode cX1_payFor 0 = .ok (.aload_n 0, 1) := by decide +kernel
theorem dX1_payFor_1 : decode cX1_payFor 1 = .ok (.aload_n 1, 1) := by decide +kernel
theorem dX1_payFor_2 : decode cX1_payFor 2 = .ok (.invokevirtual 44, 3) := by decide +kernel
theorem dX1_payFor_5 : decode cX1_payFor 5 = .ok (.istore_n 2, 1) := by decide +kernel
theorem dX1_payFor_6 : decode cX1_payFor 6 = .ok (.iload_n 2, 1) := by decide +kernel
theorem dX1_payFor_7 : decode cX1_payFor 7 = .ok (.ifCond .lt 9, 3) := by decide +kernel
theorem dX1_payFor_10 : decode cX1_payFor 10 = .ok (.iload_n 2, 1) := by decide +kernel
theorem dX1_payFor_11 : decode cX1_payFor 11 = .ok (.bipush 8, 2) := by decide +kernel
theorem dX1_payFor_13 : decode cX1_payFor 13 = .ok (.if_icmp .lt 5, 3) := by decide +kernel
theorem dX1_payFor_16 : decode cX1_payFor 16 = .ok (.iconst 0, 1) := by decide +kernel
theorem dX1_payFor_17 : decode cX1_payFor 17 = .ok (.ireturn, 1) := by decide +kernel
theorem dX1_payFor_18 : decode cX1_payFor 18 = .ok (.aload_n 0, 1) := by decide +kernel
theorem dX1_payFor_19 : decode cX1_payFor 19 = .ok (.aload_n 0, 1) := by decide +kernel
theorem dX1_payFor_20 : decode cX1_payFor 20 = .ok (.getfield 18, 3) := by decide +kernel
theorem dX1_payFor_23 : decode cX1_payFor 23 = .ok (.iload_n 2, 1) := by decide +kernel
theorem dX1_payFor_24 : decode cX1_payFor 24 = .ok (.iaload, 1) := by decide +kernel
theorem dX1_payFor_25 : decode cX1_payFor 25 = .ok (.aload_n 0, 1) := by decide +kernel
theorem dX1_payFor_26 : decode cX1_payFor 26 = .ok (.getfield 21, 3) := by decide +kernel
theorem dX1_payFor_29 : decode cX1_payFor 29 = .ok (.iload_n 2, 1) := by decide +kernel
theorem dX1_payFor_30 : decode cX1_payFor 30 = .ok (.iaload, 1) := by decide +kernel
theorem dX1_payFor_31 : decode cX1_payFor 31 = .ok (.aload_n 1, 1) := by decide +kernel
theorem dX1_payFor_32 : decode cX1_payFor 32 = .ok (.invokevirtual 40, 3) := by decide +kernel
theorem dX1_payFor_35 : decode cX1_payFor 35 = .ok (.ireturn, 1) := by decide +kernel
theorem dX1_valueOf_0 : decode cX1_valueOf 0 = .ok (.aload_n 0, 1) := by decide +kernel
theorem dX1_valueOf_1 : decode cX1_valueOf 1 = .ok (.iconst 0, 1) := by decide +kernel
theorem dX1_valueOf_2 : decode cX1_valueOf 2 = .ok (.putfield 37, 3) := by decide +kernel
theorem dX1_valueOf_5 : decode cX1_valueOf 5 = .ok (.iload_n 1, 1) := by decide +kernel
theorem dX1_valueOf_6 : decode cX1_valueOf 6 = .ok (.iconst 0, 1) := by decide +kernel
theorem dX1_valueOf_7 : decode cX1_valueOf 7 = .ok (.invokestatic 48, 3) := by decide +kernel
theorem dX1_valueOf_10 : decode cX1_valueOf 10 = .ok (.istore 4, 2) := by decide +kernel
theorem dX1_valueOf_12 : decode cX1_valueOf 12 = .ok (.iload 4, 2) := by decide +kernel
theorem dX1_valueOf_14 : decode cX1_valueOf 14 = .ok (.iload_n 2, 1) := by decide +kernel
theorem dX1_valueOf_15 : decode cX1_valueOf 15 = .ok (.if_icmp .ge 134, 3) := by decide +kernel
theorem dX1_valueOf_18 : decode cX1_valueOf 18 = .ok (.iload 4, 2) := by decide +kernel
theorem dX1_valueOf_20 : decode cX1_valueOf 20 = .ok (.sipush 400, 3) := by decide +kernel
theorem dX1_valueOf_23 : decode cX1_valueOf 23 = .ok (.if_icmp .ge 126, 3) := by decide +kernel
theorem dX1_valueOf_26 : decode cX1_valueOf 26 = .ok (.aload_n 0, 1) := by decide +kernel
theorem dX1_valueOf_27 : decode cX1_valueOf 27 = .ok (.getfield 9, 3) := by decide +kernel
theorem dX1_valueOf_30 : decode cX1_valueOf 30 = .ok (.iload 4, 2) := by decide +kernel
theorem dX1_valueOf_32 : decode cX1_valueOf 32 = .ok (.iaload, 1) := by decide +kernel
theorem dX1_valueOf_33 : decode cX1_valueOf 33 = .ok (.bipush 47, 2) := by decide +kernel
theorem dX1_valueOf_35 : decode cX1_valueOf 35 = .ok (.if_icmp .ne 24, 3) := by decide +kernel
theorem dX1_valueOf_38 : decode cX1_valueOf 38 = .ok (.aload_n 0, 1) := by decide +kernel
theorem dX1_valueOf_39 : decode cX1_valueOf 39 = .ok (.aload_n 0, 1) := by decide +kernel
theorem dX1_valueOf_40 : decode cX1_valueOf 40 = .ok (.invokevirtual 54, 3) := by decide +kernel
theorem dX1_valueOf_43 : decode cX1_valueOf 43 = .ok (.aload_n 0, 1) := by decide +kernel
theorem dX1_valueOf_44 : decode cX1_valueOf 44 = .ok (.getfield 15, 3) := by decide +kernel
theorem dX1_valueOf_47 : decode cX1_valueOf 47 = .ok (.iload 4, 2) := by decide +kernel
theorem dX1_valueOf_49 : decode cX1_valueOf 49 = .ok (.iaload, 1) := by decide +kernel
theorem dX1_valueOf_50 : decode cX1_valueOf 50 = .ok (.invokestatic 58, 3) := by decide +kernel
theorem dX1_valueOf_53 : decode cX1_valueOf 53 = .ok (.invokevirtual 61, 3) := by decide +kernel
theorem dX1_valueOf_56 : decode cX1_valueOf 56 = .ok (.goto 87, 3) := by decide +kernel
theorem dX1_valueOf_59 : decode cX1_valueOf 59 = .ok (.aload_n 0, 1) := by decide +kernel
theorem dX1_valueOf_60 : decode cX1_valueOf 60 = .ok (.getfield 9, 3) := by decide +kernel
theorem dX1_valueOf_63 : decode cX1_valueOf 63 = .ok (.iload 4, 2) := by decide +kernel
theorem dX1_valueOf_65 : decode cX1_valueOf 65 = .ok (.iaload, 1) := by decide +kernel
theorem dX1_valueOf_66 : decode cX1_valueOf 66 = .ok (.sipush 258, 3) := by decide +kernel
theorem dX1_valueOf_69 : decode cX1_valueOf 69 = .ok (.if_icmp .ne 17, 3) := by decide +kernel
theorem dX1_valueOf_72 : decode cX1_valueOf 72 = .ok (.aload_n 0, 1) := by decide +kernel
theorem dX1_valueOf_73 : decode cX1_valueOf 73 = .ok (.aload_n 0, 1) := by decide +kernel
theorem dX1_valueOf_74 : decode cX1_valueOf 74 = .ok (.getfield 15, 3) := by decide +kernel
theorem dX1_valueOf_77 : decode cX1_valueOf 77 = .ok (.iload 4, 2) := by decide +kernel
theorem dX1_valueOf_79 : decode cX1_valueOf 79 = .ok (.iaload, 1) := by decide +kernel
theorem dX1_valueOf_80 : decode cX1_valueOf 80 = .ok (.invokevirtual 61, 3) := by decide +kernel
theorem dX1_valueOf_83 : decode cX1_valueOf 83 = .ok (.goto 60, 3) := by decide +kernel
theorem dX1_valueOf_86 : decode cX1_valueOf 86 = .ok (.aload_n 0, 1) := by decide +kernel
theorem dX1_valueOf_87 : decode cX1_valueOf 87 = .ok (.getfield 9, 3) := by decide +kernel
theorem dX1_valueOf_90 : decode cX1_valueOf 90 = .ok (.iload 4, 2) := by decide +kernel
theorem dX1_valueOf_92 : decode cX1_valueOf 92 = .ok (.iaload, 1) := by decide +kernel
theorem dX1_valueOf_93 : decode cX1_valueOf 93 = .ok (.sipush 262, 3) := by decide +kernel
theorem dX1_valueOf_96 : decode cX1_valueOf 96 = .ok (.if_icmp .lt 21, 3) := by decide +kernel
theorem dX1_valueOf_99 : decode cX1_valueOf 99 = .ok (.aload_n 0, 1) := by decide +kernel
theorem dX1_valueOf_100 : decode cX1_valueOf 100 = .ok (.aload_n 3, 1) := by decide +kernel
theorem dX1_valueOf_101 : decode cX1_valueOf 101 = .ok (.aload_n 0, 1) := by decide +kernel
theorem dX1_valueOf_102 : decode cX1_valueOf 102 = .ok (.getfield 9, 3) := by decide +kernel
theorem dX1_valueOf_105 : decode cX1_valueOf 105 = .ok (.iload 4, 2) := by decide +kernel
theorem dX1_valueOf_107 : decode cX1_valueOf 107 = .ok (.iaload, 1) := by decide +kernel
theorem dX1_valueOf_108 : decode cX1_valueOf 108 = .ok (.invokevirtual 67, 3) := by decide +kernel
theorem dX1_valueOf_111 : decode cX1_valueOf 111 = .ok (.invokevirtual 61, 3) := by decide +kernel
theorem dX1_valueOf_114 : decode cX1_valueOf 114 = .ok (.goto 29, 3) := by decide +kernel
theorem dX1_valueOf_117 : decode cX1_valueOf 117 = .ok (.aload_n 0, 1) := by decide +kernel
theorem dX1_valueOf_118 : decode cX1_valueOf 118 = .ok (.invokevirtual 54, 3) := by decide +kernel
theorem dX1_valueOf_121 : decode cX1_valueOf 121 = .ok (.istore 5, 2) := by decide +kernel
theorem dX1_valueOf_123 : decode cX1_valueOf 123 = .ok (.aload_n 0, 1) := by decide +kernel
theorem dX1_valueOf_124 : decode cX1_valueOf 124 = .ok (.aload_n 0, 1) := by decide +kernel
theorem dX1_valueOf_125 : decode cX1_valueOf 125 = .ok (.getfield 9, 3) := by decide +kernel
theorem dX1_valueOf_128 : decode cX1_valueOf 128 = .ok (.iload 4, 2) := by decide +kernel
theorem dX1_valueOf_130 : decode cX1_valueOf 130 = .ok (.iaload, 1) := by decide +kernel
theorem dX1_valueOf_131 : decode cX1_valueOf 131 = .ok (.aload_n 0, 1) := by decide +kernel
theorem dX1_valueOf_132 : decode cX1_valueOf 132 = .ok (.invokevirtual 54, 3) := by decide +kernel
theorem dX1_valueOf_135 : decode cX1_valueOf 135 = .ok (.iload 5, 2) := by decide +kernel
theorem dX1_valueOf_137 : decode cX1_valueOf 137 = .ok (.invokestatic 73, 3) := by decide +kernel
theorem dX1_valueOf_140 : decode cX1_valueOf 140 = .ok (.invokevirtual 61, 3) := by decide +kernel
theorem dX1_valueOf_143 : decode cX1_valueOf 143 = .ok (.iinc 4 1, 3) := by decide +kernel
theorem dX1_valueOf_146 : decode cX1_valueOf 146 = .ok (.goto (-134), 3) := by decide +kernel
theorem dX1_valueOf_149 : decode cX1_valueOf 149 = .ok (.aload_n 0, 1) := by decide +kernel
theorem dX1_valueOf_150 : decode cX1_valueOf 150 = .ok (.invokevirtual 54, 3) := by decide +kernel
theorem dX1_valueOf_153 : decode cX1_valueOf 153 = .ok (.ireturn, 1) := by decide +kernel
theorem dX1_push_0 : decode cX1_push 0 = .ok (.aload_n 0, 1) := by decide +kernel
theorem dX1_push_1 : decode cX1_push 1 = .ok (.getfield 37, 3) := by decide +kernel
theorem dX1_push_4 : decode cX1_push 4 = .ok (.ifCond .lt 32, 3) := by decide +kernel
theorem dX1_push_7 : decode cX1_push 7 = .ok (.aload_n 0, 1) := by decide +kernel
theorem dX1_push_8 : decode cX1_push 8 = .ok (.getfield 37, 3) := by decide +kernel
theorem dX1_push_11 : decode cX1_push 11 = .ok (.bipush 64, 2) := by decide +kernel
theorem dX1_push_13 : decode cX1_push 13 = .ok (.if_icmp .ge 23, 3) := by decide +kernel
theorem dX1_push_16 : decode cX1_push 16 = .ok (.aload_n 0, 1) := by decide +kernel
theorem dX1_push_17 : decode cX1_push 17 = .ok (.getfield 27, 3) := by decide +kernel
theorem dX1_push_20 : decode cX1_push 20 = .ok (.aload_n 0, 1) := by decide +kernel
theorem dX1_push_21 : decode cX1_push 21 = .ok (.getfield 37, 3) := by decide +kernel
theorem dX1_push_24 : decode cX1_push 24 = .ok (.iload_n 1, 1) := by decide +kernel
theorem dX1_push_25 : decode cX1_push 25 = .ok (.iastore, 1) := by decide +kernel
theorem dX1_push_26 : decode cX1_push 26 = .ok (.aload_n 0, 1) := by decide +kernel
theorem dX1_push_27 : decode cX1_push 27 = .ok (.dup, 1) := by decide +kernel
theorem dX1_push_28 : decode cX1_push 28 = .ok (.getfield 37, 3) := by decide +kernel
theorem dX1_push_31 : decode cX1_push 31 = .ok (.iconst 1, 1) := by decide +kernel
theorem dX1_push_32 : decode cX1_push 32 = .ok (.iadd, 1) := by decide +kernel
theorem dX1_push_33 : decode cX1_push 33 = .ok (.putfield 37, 3) := by decide +kernel
theorem dX1_push_36 : decode cX1_push 36 = .ok (.return_, 1) := by decide +kernel
theorem dX1_pop_0 : decode cX1_pop 0 = .ok (.aload_n 0, 1) := by decide +kernel
theorem dX1_pop_1 : decode cX1_pop 1 = .ok (.getfield 37, 3) := by decide +kernel
theorem dX1_pop_4 : decode cX1_pop 4 = .ok (.ifCond .le 12, 3) := by decide +kernel
theorem dX1_pop_7 : decode cX1_pop 7 = .ok (.aload_n 0, 1) := by decide +kernel
theorem dX1_pop_8 : decode cX1_pop 8 = .ok (.getfield 37, 3) := by decide +kernel
theorem dX1_pop_11 : decode cX1_pop 11 = .ok (.bipush 64, 2) := by decide +kernel
theorem dX1_pop_13 : decode cX1_pop 13 = .ok (.if_icmp .le 5, 3) := by decide +kernel
theorem dX1_pop_16 : decode cX1_pop 16 = .ok (.iconst 0, 1) := by decide +kernel
theorem dX1_pop_17 : decode cX1_pop 17 = .ok (.ireturn, 1) := by decide +kernel
theorem dX1_pop_18 : decode cX1_pop 18 = .ok (.aload_n 0, 1) := by decide +kernel
theorem dX1_pop_19 : decode cX1_pop 19 = .ok (.dup, 1) := by decide +kernel
theorem dX1_pop_20 : decode cX1_pop 20 = .ok (.getfield 37, 3) := by decide +kernel
theorem dX1_pop_23 : decode cX1_pop 23 = .ok (.iconst 1, 1) := by decide +kernel
theorem dX1_pop_24 : decode cX1_pop 24 = .ok (.isub, 1) := by decide +kernel
theorem dX1_pop_25 : decode cX1_pop 25 = .ok (.putfield 37, 3) := by decide +kernel
theorem dX1_pop_28 : decode cX1_pop 28 = .ok (.aload_n 0, 1) := by decide +kernel
theorem dX1_pop_29 : decode cX1_pop 29 = .ok (.getfield 27, 3) := by decide +kernel
theorem dX1_pop_32 : decode cX1_pop 32 = .ok (.aload_n 0, 1) := by decide +kernel
theorem dX1_pop_33 : decode cX1_pop 33 = .ok (.getfield 37, 3) := by decide +kernel
theorem dX1_pop_36 : decode cX1_pop 36 = .ok (.iaload, 1) := by decide +kernel
theorem dX1_pop_37 : decode cX1_pop 37 = .ok (.ireturn, 1) := by decide +kernel
theorem dX2_read_0 : decode cX2_read 0 = .ok (.aload_n 1, 1) := by decide +kernel
theorem dX2_read_1 : decode cX2_read 1 = .ok (.ifnull 8, 3) := by decide +kernel
theorem dX2_read_4 : decode cX2_read 4 = .ok (.aload_n 0, 1) := by decide +kernel
theorem dX2_read_5 : decode cX2_read 5 = .ok (.aload_n 1, 1) := by decide +kernel
theorem dX2_read_6 : decode cX2_read 6 = .ok (.putfield 15, 3) := by decide +kernel
theorem dX2_read_9 : decode cX2_read 9 = .ok (.aload_n 0, 1) := by decide +kernel
theorem dX2_read_10 : decode cX2_read 10 = .ok (.getfield 15, 3) := by decide +kernel
theorem dX2_read_13 : decode cX2_read 13 = .ok (.invokevirtual 29, 3) := by decide +kernel
theorem dX2_read_16 : decode cX2_read 16 = .ok (.aload_n 0, 1) := by decide +kernel
theorem dX2_read_17 : decode cX2_read 17 = .ok (.iconst 0, 1) := by decide +kernel
theorem dX2_read_18 : decode cX2_read 18 = .ok (.putfield 19, 3) := by decide +kernel
theorem dX2_read_21 : decode cX2_read 21 = .ok (.aload_n 0, 1) := by decide +kernel
theorem dX2_read_22 : decode cX2_read 22 = .ok (.iconst 0, 1) := by decide +kernel
theorem dX2_read_23 : decode cX2_read 23 = .ok (.putfield 23, 3) := by decide +kernel
theorem dX2_read_26 : decode cX2_read 26 = .ok (.aload_n 0, 1) := by decide +kernel
theorem dX2_read_27 : decode cX2_read 27 = .ok (.iconst (-1), 1) := by decide +kernel
theorem dX2_read_28 : decode cX2_read 28 = .ok (.putfield 26, 3) := by decide +kernel
theorem dX2_read_31 : decode cX2_read 31 = .ok (.iconst 0, 1) := by decide +kernel
theorem dX2_read_32 : decode cX2_read 32 = .ok (.istore_n 2, 1) := by decide +kernel
theorem dX2_read_33 : decode cX2_read 33 = .ok (.iload_n 2, 1) := by decide +kernel
theorem dX2_read_34 : decode cX2_read 34 = .ok (.bipush 8, 2) := by decide +kernel
theorem dX2_read_36 : decode cX2_read 36 = .ok (.if_icmp .gt 31, 3) := by decide +kernel
theorem dX2_read_39 : decode cX2_read 39 = .ok (.aload_n 0, 1) := by decide +kernel
theorem dX2_read_40 : decode cX2_read 40 = .ok (.invokevirtual 34, 3) := by decide +kernel
theorem dX2_read_43 : decode cX2_read 43 = .ok (.sipush 256, 3) := by decide +kernel
theorem dX2_read_46 : decode cX2_read 46 = .ok (.if_icmp .ne 5, 3) := by decide +kernel
theorem dX2_read_49 : decode cX2_read 49 = .ok (.iconst 1, 1) := by decide +kernel
theorem dX2_read_50 : decode cX2_read 50 = .ok (.ireturn, 1) := by decide +kernel
theorem dX2_read_51 : decode cX2_read 51 = .ok (.aload_n 0, 1) := by decide +kernel
theorem dX2_read_52 : decode cX2_read 52 = .ok (.iload_n 2, 1) := by decide +kernel
theorem dX2_read_53 : decode cX2_read 53 = .ok (.invokevirtual 40, 3) := by decide +kernel
theorem dX2_read_56 : decode cX2_read 56 = .ok (.ifCond .ne 5, 3) := by decide +kernel
theorem dX2_read_59 : decode cX2_read 59 = .ok (.iconst 0, 1) := by decide +kernel
theorem dX2_read_60 : decode cX2_read 60 = .ok (.ireturn, 1) := by decide +kernel
theorem dX2_read_61 : decode cX2_read 61 = .ok (.iinc 2 1, 3) := by decide +kernel
theorem dX2_read_64 : decode cX2_read 64 = .ok (.goto (-31), 3) := by decide +kernel
theorem dX2_read_67 : decode cX2_read 67 = .ok (.iconst 0, 1) := by decide +kernel
theorem dX2_read_68 : decode cX2_read 68 = .ok (.ireturn, 1) := by decide +kernel
theorem dX2_readLine_0 : decode cX2_readLine 0 = .ok (.aload_n 0, 1) := by decide +kernel
theorem dX2_readLine_1 : decode cX2_readLine 1 = .ok (.invokevirtual 34, 3) := by decide +kernel
theorem dX2_readLine_4 : decode cX2_readLine 4 = .ok (.sipush 259, 3) := by decide +kernel
theorem dX2_readLine_7 : decode cX2_readLine 7 = .ok (.if_icmp .eq 9, 3) := by decide +kernel
theorem dX2_readLine_10 : decode cX2_readLine 10 = .ok (.aload_n 0, 1) := by decide +kernel
theorem dX2_readLine_11 : decode cX2_readLine 11 = .ok (.iconst 1, 1) := by decide +kernel
theorem dX2_readLine_12 : decode cX2_readLine 12 = .ok (.invokevirtual 44, 3) := by decide +kernel
theorem dX2_readLine_15 : decode cX2_readLine 15 = .ok (.ireturn, 1) := by decide +kernel
theorem dX2_readLine_16 : decode cX2_readLine 16 = .ok (.iload_n 1, 1) := by decide +kernel
theorem dX2_readLine_17 : decode cX2_readLine 17 = .ok (.bipush 8, 2) := by decide +kernel
theorem dX2_readLine_19 : decode cX2_readLine 19 = .ok (.if_icmp .lt 9, 3) := by decide +kernel
theorem dX2_readLine_22 : decode cX2_readLine 22 = .ok (.aload_n 0, 1) := by decide +kernel
theorem dX2_readLine_23 : decode cX2_readLine 23 = .ok (.iconst 3, 1) := by decide +kernel
theorem dX2_readLine_24 : decode cX2_readLine 24 = .ok (.invokevirtual 44, 3) := by decide +kernel
theorem dX2_readLine_27 : decode cX2_readLine 27 = .ok (.ireturn, 1) := by decide +kernel
theorem dX2_readLine_28 : decode cX2_readLine 28 = .ok (.aload_n 0, 1) := by decide +kernel
theorem dX2_readLine_29 : decode cX2_readLine 29 = .ok (.dup, 1) := by decide +kernel
theorem dX2_readLine_30 : decode cX2_readLine 30 = .ok (.getfield 19, 3) := by decide +kernel
theorem dX2_readLine_33 : decode cX2_readLine 33 = .ok (.iconst 1, 1) := by decide +kernel
theorem dX2_readLine_34 : decode cX2_readLine 34 = .ok (.iadd, 1) := by decide +kernel
theorem dX2_readLine_35 : decode cX2_readLine 35 = .ok (.putfield 19, 3) := by decide +kernel
theorem dX2_readLine_38 : decode cX2_readLine 38 = .ok (.aload_n 0, 1) := by decide +kernel
theorem dX2_readLine_39 : decode cX2_readLine 39 = .ok (.getfield 15, 3) := by decide +kernel
theorem dX2_readLine_42 : decode cX2_readLine 42 = .ok (.getfield 47, 3) := by decide +kernel
theorem dX2_readLine_45 : decode cX2_readLine 45 = .ok (.istore_n 2, 1) := by decide +kernel
theorem dX2_readLine_46 : decode cX2_readLine 46 = .ok (.aload_n 0, 1) := by decide +kernel
theorem dX2_readLine_47 : decode cX2_readLine 47 = .ok (.iconst 0, 1) := by decide +kernel
theorem dX2_readLine_48 : decode cX2_readLine 48 = .ok (.invokevirtual 50, 3) := by decide +kernel
theorem dX2_readLine_51 : decode cX2_readLine 51 = .ok (.ifCond .eq 13, 3) := by decide +kernel
theorem dX2_readLine_54 : decode cX2_readLine 54 = .ok (.aload_n 0, 1) := by decide +kernel
theorem dX2_readLine_55 : decode cX2_readLine 55 = .ok (.sipush 260, 3) := by decide +kernel
theorem dX2_readLine_58 : decode cX2_readLine 58 = .ok (.invokevirtual 53, 3) := by decide +kernel
theorem dX2_readLine_61 : decode cX2_readLine 61 = .ok (.ifCond .ne 5, 3) := by decide +kernel
theorem dX2_readLine_64 : decode cX2_readLine 64 = .ok (.iconst 0, 1) := by decide +kernel
theorem dX2_readLine_65 : decode cX2_readLine 65 = .ok (.ireturn, 1) := by decide +kernel
theorem dX2_readLine_66 : decode cX2_readLine 66 = .ok (.aload_n 0, 1) := by decide +kernel
theorem dX2_readLine_67 : decode cX2_readLine 67 = .ok (.getfield 15, 3) := by decide +kernel
theorem dX2_readLine_70 : decode cX2_readLine 70 = .ok (.getfield 47, 3) := by decide +kernel
theorem dX2_readLine_73 : decode cX2_readLine 73 = .ok (.istore_n 3, 1) := by decide +kernel
theorem dX2_readLine_74 : decode cX2_readLine 74 = .ok (.aload_n 0, 1) := by decide +kernel
theorem dX2_readLine_75 : decode cX2_readLine 75 = .ok (.invokevirtual 56, 3) := by decide +kernel
theorem dX2_readLine_78 : decode cX2_readLine 78 = .ok (.ifCond .eq 12, 3) := by decide +kernel
theorem dX2_readLine_81 : decode cX2_readLine 81 = .ok (.aload_n 0, 1) := by decide +kernel
theorem dX2_readLine_82 : decode cX2_readLine 82 = .ok (.bipush 59, 2) := by decide +kernel
theorem dX2_readLine_84 : decode cX2_readLine 84 = .ok (.invokevirtual 53, 3) := by decide +kernel
theorem dX2_readLine_87 : decode cX2_readLine 87 = .ok (.ifCond .ne 5, 3) := by decide +kernel
theorem dX2_readLine_90 : decode cX2_readLine 90 = .ok (.iconst 0, 1) := by decide +kernel
theorem dX2_readLine_91 : decode cX2_readLine 91 = .ok (.ireturn, 1) := by decide +kernel
theorem dX2_readLine_92 : decode cX2_readLine 92 = .ok (.aload_n 0, 1) := by decide +kernel
theorem dX2_readLine_93 : decode cX2_readLine 93 = .ok (.getfield 15, 3) := by decide +kernel
theorem dX2_readLine_96 : decode cX2_readLine 96 = .ok (.iload_n 2, 1) := by decide +kernel
theorem dX2_readLine_97 : decode cX2_readLine 97 = .ok (.iload_n 3, 1) := by decide +kernel
theorem dX2_readLine_98 : decode cX2_readLine 98 = .ok (.invokevirtual 60, 3) := by decide +kernel
theorem dX2_readLine_101 : decode cX2_readLine 101 = .ok (.iconst 1, 1) := by decide +kernel
theorem dX2_readLine_102 : decode cX2_readLine 102 = .ok (.ireturn, 1) := by decide +kernel
theorem dX2_readCondition_0 : decode cX2_readCondition 0 = .ok (.iconst 0, 1) := by decide +kernel
theorem dX2_readCondition_1 : decode cX2_readCondition 1 = .ok (.istore_n 1, 1) := by decide +kernel
theorem dX2_readCondition_2 : decode cX2_readCondition 2 = .ok (.iload_n 1, 1) := by decide +kernel
theorem dX2_readCondition_3 : decode cX2_readCondition 3 = .ok (.sipush 400, 3) := by decide +kernel
theorem dX2_readCondition_6 : decode cX2_readCondition 6 = .ok (.if_icmp .gt 114, 3) := by decide +kernel
theorem dX2_readCondition_9 : decode cX2_readCondition 9 = .ok (.aload_n 0, 1) := by decide +kernel
theorem dX2_readCondition_10 : decode cX2_readCondition 10 = .ok (.iconst 0, 1) := by decide +kernel
theorem dX2_readCondition_11 : decode cX2_readCondition 11 = .ok (.invokevirtual 50, 3) := by decide +kernel
theorem dX2_readCondition_14 : decode cX2_readCondition 14 = .ok (.ifCond .ne 5, 3) := by decide +kernel
theorem dX2_readCondition_17 : decode cX2_readCondition 17 = .ok (.iconst 0, 1) := by decide +kernel
theorem dX2_readCondition_18 : decode cX2_readCondition 18 = .ok (.ireturn, 1) := by decide +kernel
theorem dX2_readCondition_19 : decode cX2_readCondition 19 = .ok (.aload_n 0, 1) := by decide +kernel
theorem dX2_readCondition_20 : decode cX2_readCondition 20 = .ok (.invokevirtual 34, 3) := by decide +kernel
theorem dX2_readCondition_23 : decode cX2_readCondition 23 = .ok (.istore_n 2, 1) := by decide +kernel
theorem dX2_readCondition_24 : decode cX2_readCondition 24 = .ok (.iload_n 2, 1) := by decide +kernel
theorem dX2_readCondition_25 : decode cX2_readCondition 25 = .ok (.bipush 60, 2) := by decide +kernel
theorem dX2_readCondition_27 : decode cX2_readCondition 27 = .ok (.if_icmp .eq 21, 3) := by decide +kernel
theorem dX2_readCondition_30 : decode cX2_readCondition 30 = .ok (.iload_n 2, 1) := by decide +kernel
theorem dX2_readCondition_31 : decode cX2_readCondition 31 = .ok (.bipush 61, 2) := by decide +kernel
theorem dX2_readCondition_33 : decode cX2_readCondition 33 = .ok (.if_icmp .eq 15, 3) := by decide +kernel
theorem dX2_readCondition_36 : decode cX2_readCondition 36 = .ok (.iload_n 2, 1) := by decide +kernel
theorem dX2_readCondition_37 : decode cX2_readCondition 37 = .ok (.bipush 62, 2) := by decide +kernel
theorem dX2_readCondition_39 : decode cX2_readCondition 39 = .ok (.if_icmp .eq 9, 3) := by decide +kernel
theorem dX2_readCondition_42 : decode cX2_readCondition 42 = .ok (.aload_n 0, 1) := by decide +kernel
theorem dX2_readCondition_43 : decode cX2_readCondition 43 = .ok (.iconst 1, 1) := by decide +kernel
theorem dX2_readCondition_44 : decode cX2_readCondition 44 = .ok (.invokevirtual 44, 3) := by decide +kernel
theorem dX2_readCondition_47 : decode cX2_readCondition 47 = .ok (.ireturn, 1) := by decide +kernel
theorem dX2_readCondition_48 : decode cX2_readCondition 48 = .ok (.aload_n 0, 1) := by decide +kernel
theorem dX2_readCondition_49 : decode cX2_readCondition 49 = .ok (.dup, 1) := by decide +kernel
theorem dX2_readCondition_50 : decode cX2_readCondition 50 = .ok (.getfield 19, 3) := by decide +kernel
theorem dX2_readCondition_53 : decode cX2_readCondition 53 = .ok (.iconst 1, 1) := by decide +kernel
theorem dX2_readCondition_54 : decode cX2_readCondition 54 = .ok (.iadd, 1) := by decide +kernel
theorem dX2_readCondition_55 : decode cX2_readCondition 55 = .ok (.putfield 19, 3) := by decide +kernel
theorem dX2_readCondition_58 : decode cX2_readCondition 58 = .ok (.aload_n 0, 1) := by decide +kernel
theorem dX2_readCondition_59 : decode cX2_readCondition 59 = .ok (.iconst 0, 1) := by decide +kernel
theorem dX2_readCondition_60 : decode cX2_readCondition 60 = .ok (.invokevirtual 50, 3) := by decide +kernel
theorem dX2_readCondition_63 : decode cX2_readCondition 63 = .ok (.ifCond .ne 5, 3) := by decide +kernel
theorem dX2_readCondition_66 : decode cX2_readCondition 66 = .ok (.iconst 0, 1) := by decide +kernel
theorem dX2_readCondition_67 : decode cX2_readCondition 67 = .ok (.ireturn, 1) := by decide +kernel
theorem dX2_readCondition_68 : decode cX2_readCondition 68 = .ok (.aload_n 0, 1) := by decide +kernel
theorem dX2_readCondition_69 : decode cX2_readCondition 69 = .ok (.getfield 15, 3) := by decide +kernel
theorem dX2_readCondition_72 : decode cX2_readCondition 72 = .ok (.iload_n 2, 1) := by decide +kernel
theorem dX2_readCondition_73 : decode cX2_readCondition 73 = .ok (.iconst 0, 1) := by decide +kernel
theorem dX2_readCondition_74 : decode cX2_readCondition 74 = .ok (.invokevirtual 64, 3) := by decide +kernel
theorem dX2_readCondition_77 : decode cX2_readCondition 77 = .ok (.iload_n 1, 1) := by decide +kernel
theorem dX2_readCondition_78 : decode cX2_readCondition 78 = .ok (.ifCond .le 14, 3) := by decide +kernel
theorem dX2_readCondition_81 : decode cX2_readCondition 81 = .ok (.aload_n 0, 1) := by decide +kernel
theorem dX2_readCondition_82 : decode cX2_readCondition 82 = .ok (.getfield 15, 3) := by decide +kernel
theorem dX2_readCondition_85 : decode cX2_readCondition 85 = .ok (.sipush 261, 3) := by decide +kernel
theorem dX2_readCondition_88 : decode cX2_readCondition 88 = .ok (.iconst 0, 1) := by decide +kernel
theorem dX2_readCondition_89 : decode cX2_readCondition 89 = .ok (.invokevirtual 64, 3) := by decide +kernel
theorem dX2_readCondition_92 : decode cX2_readCondition 92 = .ok (.aload_n 0, 1) := by decide +kernel
theorem dX2_readCondition_93 : decode cX2_readCondition 93 = .ok (.invokevirtual 34, 3) := by decide +kernel
theorem dX2_readCondition_96 : decode cX2_readCondition 96 = .ok (.sipush 261, 3) := by decide +kernel
theorem dX2_readCondition_99 : decode cX2_readCondition 99 = .ok (.if_icmp .eq 5, 3) := by decide +kernel
theorem dX2_readCondition_102 : decode cX2_readCondition 102 = .ok (.iconst 1, 1) := by decide +kernel
theorem dX2_readCondition_103 : decode cX2_readCondition 103 = .ok (.ireturn, 1) := by decide +kernel
theorem dX2_readCondition_104 : decode cX2_readCondition 104 = .ok (.aload_n 0, 1) := by decide +kernel
theorem dX2_readCondition_105 : decode cX2_readCondition 105 = .ok (.dup, 1) := by decide +kernel
theorem dX2_readCondition_106 : decode cX2_readCondition 106 = .ok (.getfield 19, 3) := by decide +kernel
theorem dX2_readCondition_109 : decode cX2_readCondition 109 = .ok (.iconst 1, 1) := by decide +kernel
theorem dX2_readCondition_110 : decode cX2_readCondition 110 = .ok (.iadd, 1) := by decide +kernel
theorem dX2_readCondition_111 : decode cX2_readCondition 111 = .ok (.putfield 19, 3) := by decide +kernel
theorem dX2_readCondition_114 : decode cX2_readCondition 114 = .ok (.iinc 1 1, 3) := by decide +kernel
theorem dX2_readCondition_117 : decode cX2_readCondition 117 = .ok (.goto (-115), 3) := by decide +kernel
theorem dX2_readCondition_120 : decode cX2_readCondition 120 = .ok (.aload_n 0, 1) := by decide +kernel
theorem dX2_readCondition_121 : decode cX2_readCondition 121 = .ok (.iconst 1, 1) := by decide +kernel
theorem dX2_readCondition_122 : decode cX2_readCondition 122 = .ok (.invokevirtual 44, 3) := by decide +kernel
theorem dX2_readCondition_125 : decode cX2_readCondition 125 = .ok (.ireturn, 1) := by decide +kernel
theorem dX2_readSum_0 : decode cX2_readSum 0 = .ok (.aload_n 0, 1) := by decide +kernel
theorem dX2_readSum_1 : decode cX2_readSum 1 = .ok (.iload_n 1, 1) := by decide +kernel
theorem dX2_readSum_2 : decode cX2_readSum 2 = .ok (.invokevirtual 67, 3) := by decide +kernel
theorem dX2_readSum_5 : decode cX2_readSum 5 = .ok (.ifCond .ne 5, 3) := by decide +kernel
theorem dX2_readSum_8 : decode cX2_readSum 8 = .ok (.iconst 0, 1) := by decide +kernel
theorem dX2_readSum_9 : decode cX2_readSum 9 = .ok (.ireturn, 1) := by decide +kernel
theorem dX2_readSum_10 : decode cX2_readSum 10 = .ok (.iconst 0, 1) := by decide +kernel
theorem dX2_readSum_11 : decode cX2_readSum 11 = .ok (.istore_n 2, 1) := by decide +kernel
theorem dX2_readSum_12 : decode cX2_readSum 12 = .ok (.iload_n 2, 1) := by decide +kernel
theorem dX2_readSum_13 : decode cX2_readSum 13 = .ok (.sipush 400, 3) := by decide +kernel
theorem dX2_readSum_16 : decode cX2_readSum 16 = .ok (.if_icmp .gt 57, 3) := by decide +kernel
theorem dX2_readSum_19 : decode cX2_readSum 19 = .ok (.aload_n 0, 1) := by decide +kernel
theorem dX2_readSum_20 : decode cX2_readSum 20 = .ok (.invokevirtual 34, 3) := by decide +kernel
theorem dX2_readSum_23 : decode cX2_readSum 23 = .ok (.istore_n 3, 1) := by decide +kernel
theorem dX2_readSum_24 : decode cX2_readSum 24 = .ok (.iload_n 3, 1) := by decide +kernel
theorem dX2_readSum_25 : decode cX2_readSum 25 = .ok (.bipush 43, 2) := by decide +kernel
theorem dX2_readSum_27 : decode cX2_readSum 27 = .ok (.if_icmp .eq 11, 3) := by decide +kernel
theorem dX2_readSum_30 : decode cX2_readSum 30 = .ok (.iload_n 3, 1) := by decide +kernel
theorem dX2_readSum_31 : decode cX2_readSum 31 = .ok (.bipush 45, 2) := by decide +kernel
theorem dX2_readSum_33 : decode cX2_readSum 33 = .ok (.if_icmp .eq 5, 3) := by decide +kernel
theorem dX2_readSum_36 : decode cX2_readSum 36 = .ok (.iconst 1, 1) := by decide +kernel
theorem dX2_readSum_37 : decode cX2_readSum 37 = .ok (.ireturn, 1) := by decide +kernel
theorem dX2_readSum_38 : decode cX2_readSum 38 = .ok (.aload_n 0, 1) := by decide +kernel
theorem dX2_readSum_39 : decode cX2_readSum 39 = .ok (.dup, 1) := by decide +kernel
theorem dX2_readSum_40 : decode cX2_readSum 40 = .ok (.getfield 19, 3) := by decide +kernel
theorem dX2_readSum_43 : decode cX2_readSum 43 = .ok (.iconst 1, 1) := by decide +kernel
theorem dX2_readSum_44 : decode cX2_readSum 44 = .ok (.iadd, 1) := by decide +kernel
theorem dX2_readSum_45 : decode cX2_readSum 45 = .ok (.putfield 19, 3) := by decide +kernel
theorem dX2_readSum_48 : decode cX2_readSum 48 = .ok (.aload_n 0, 1) := by decide +kernel
theorem dX2_readSum_49 : decode cX2_readSum 49 = .ok (.iload_n 1, 1) := by decide +kernel
theorem dX2_readSum_50 : decode cX2_readSum 50 = .ok (.invokevirtual 67, 3) := by decide +kernel
theorem dX2_readSum_53 : decode cX2_readSum 53 = .ok (.ifCond .ne 5, 3) := by decide +kernel
theorem dX2_readSum_56 : decode cX2_readSum 56 = .ok (.iconst 0, 1) := by decide +kernel
theorem dX2_readSum_57 : decode cX2_readSum 57 = .ok (.ireturn, 1) := by decide +kernel
theorem dX2_readSum_58 : decode cX2_readSum 58 = .ok (.aload_n 0, 1) := by decide +kernel
theorem dX2_readSum_59 : decode cX2_readSum 59 = .ok (.getfield 15, 3) := by decide +kernel
theorem dX2_readSum_62 : decode cX2_readSum 62 = .ok (.iload_n 3, 1) := by decide +kernel
theorem dX2_readSum_63 : decode cX2_readSum 63 = .ok (.iconst 0, 1) := by decide +kernel
theorem dX2_readSum_64 : decode cX2_readSum 64 = .ok (.invokevirtual 64, 3) := by decide +kernel
theorem dX2_readSum_67 : decode cX2_readSum 67 = .ok (.iinc 2 1, 3) := by decide +kernel
theorem dX2_readSum_70 : decode cX2_readSum 70 = .ok (.goto (-58), 3) := by decide +kernel
theorem dX2_readSum_73 : decode cX2_readSum 73 = .ok (.aload_n 0, 1) := by decide +kernel
theorem dX2_readSum_74 : decode cX2_readSum 74 = .ok (.iconst 1, 1) := by decide +kernel
theorem dX2_readSum_75 : decode cX2_readSum 75 = .ok (.invokevirtual 44, 3) := by decide +kernel
theorem dX2_readSum_78 : decode cX2_readSum 78 = .ok (.ireturn, 1) := by decide +kernel
theorem dX2_readTerm_0 : decode cX2_readTerm 0 = .ok (.aload_n 0, 1) := by decide +kernel
theorem dX2_readTerm_1 : decode cX2_readTerm 1 = .ok (.iload_n 1, 1) := by decide +kernel
theorem dX2_readTerm_2 : decode cX2_readTerm 2 = .ok (.invokevirtual 70, 3) := by decide +kernel
theorem dX2_readTerm_5 : decode cX2_readTerm 5 = .ok (.ifCond .ne 5, 3) := by decide +kernel
theorem dX2_readTerm_8 : decode cX2_readTerm 8 = .ok (.iconst 0, 1) := by decide +kernel
theorem dX2_readTerm_9 : decode cX2_readTerm 9 = .ok (.ireturn, 1) := by decide +kernel
theorem dX2_readTerm_10 : decode cX2_readTerm 10 = .ok (.iconst 0, 1) := by decide +kernel
theorem dX2_readTerm_11 : decode cX2_readTerm 11 = .ok (.istore_n 2, 1) := by decide +kernel
theorem dX2_readTerm_12 : decode cX2_readTerm 12 = .ok (.iload_n 2, 1) := by decide +kernel
theorem dX2_readTerm_13 : decode cX2_readTerm 13 = .ok (.sipush 400, 3) := by decide +kernel
theorem dX2_readTerm_16 : decode cX2_readTerm 16 = .ok (.if_icmp .gt 80, 3) := by decide +kernel
theorem dX2_readTerm_19 : decode cX2_readTerm 19 = .ok (.aload_n 0, 1) := by decide +kernel
theorem dX2_readTerm_20 : decode cX2_readTerm 20 = .ok (.invokevirtual 34, 3) := by decide +kernel
theorem dX2_readTerm_23 : decode cX2_readTerm 23 = .ok (.istore_n 3, 1) := by decide +kernel
theorem dX2_readTerm_24 : decode cX2_readTerm 24 = .ok (.iload_n 3, 1) := by decide +kernel
theorem dX2_readTerm_25 : decode cX2_readTerm 25 = .ok (.bipush 42, 2) := by decide +kernel
theorem dX2_readTerm_27 : decode cX2_readTerm 27 = .ok (.if_icmp .ne 36, 3) := by decide +kernel
theorem dX2_readTerm_30 : decode cX2_readTerm 30 = .ok (.aload_n 0, 1) := by decide +kernel
theorem dX2_readTerm_31 : decode cX2_readTerm 31 = .ok (.dup, 1) := by decide +kernel
theorem dX2_readTerm_32 : decode cX2_readTerm 32 = .ok (.getfield 19, 3) := by decide +kernel
theorem dX2_readTerm_35 : decode cX2_readTerm 35 = .ok (.iconst 1, 1) := by decide +kernel
theorem dX2_readTerm_36 : decode cX2_readTerm 36 = .ok (.iadd, 1) := by decide +kernel
theorem dX2_readTerm_37 : decode cX2_readTerm 37 = .ok (.putfield 19, 3) := by decide +kernel
theorem dX2_readTerm_40 : decode cX2_readTerm 40 = .ok (.aload_n 0, 1) := by decide +kernel
theorem dX2_readTerm_41 : decode cX2_readTerm 41 = .ok (.iload_n 1, 1) := by decide +kernel
theorem dX2_readTerm_42 : decode cX2_readTerm 42 = .ok (.invokevirtual 70, 3) := by decide +kernel
theorem dX2_readTerm_45 : decode cX2_readTerm 45 = .ok (.ifCond .ne 5, 3) := by decide +kernel
theorem dX2_readTerm_48 : decode cX2_readTerm 48 = .ok (.iconst 0, 1) := by decide +kernel
theorem dX2_readTerm_49 : decode cX2_readTerm 49 = .ok (.ireturn, 1) := by decide +kernel
theorem dX2_readTerm_50 : decode cX2_readTerm 50 = .ok (.aload_n 0, 1) := by decide +kernel
theorem dX2_readTerm_51 : decode cX2_readTerm 51 = .ok (.getfield 15, 3) := by decide +kernel
theorem dX2_readTerm_54 : decode cX2_readTerm 54 = .ok (.bipush 42, 2) := by decide +kernel
theorem dX2_readTerm_56 : decode cX2_readTerm 56 = .ok (.iconst 0, 1) := by decide +kernel
theorem dX2_readTerm_57 : decode cX2_readTerm 57 = .ok (.invokevirtual 64, 3) := by decide +kernel
theorem dX2_readTerm_60 : decode cX2_readTerm 60 = .ok (.goto 30, 3) := by decide +kernel
theorem dX2_readTerm_63 : decode cX2_readTerm 63 = .ok (.iload_n 3, 1) := by decide +kernel
theorem dX2_readTerm_64 : decode cX2_readTerm 64 = .ok (.bipush 47, 2) := by decide +kernel
theorem dX2_readTerm_66 : decode cX2_readTerm 66 = .ok (.if_icmp .ne 22, 3) := by decide +kernel
theorem dX2_readTerm_69 : decode cX2_readTerm 69 = .ok (.aload_n 0, 1) := by decide +kernel
theorem dX2_readTerm_70 : decode cX2_readTerm 70 = .ok (.dup, 1) := by decide +kernel
theorem dX2_readTerm_71 : decode cX2_readTerm 71 = .ok (.getfield 19, 3) := by decide +kernel
theorem dX2_readTerm_74 : decode cX2_readTerm 74 = .ok (.iconst 1, 1) := by decide +kernel
theorem dX2_readTerm_75 : decode cX2_readTerm 75 = .ok (.iadd, 1) := by decide +kernel
theorem dX2_readTerm_76 : decode cX2_readTerm 76 = .ok (.putfield 19, 3) := by decide +kernel
theorem dX2_readTerm_79 : decode cX2_readTerm 79 = .ok (.aload_n 0, 1) := by decide +kernel
theorem dX2_readTerm_80 : decode cX2_readTerm 80 = .ok (.invokevirtual 73, 3) := by decide +kernel
theorem dX2_readTerm_83 : decode cX2_readTerm 83 = .ok (.ifCond .ne 7, 3) := by decide +kernel
theorem dX2_readTerm_86 : decode cX2_readTerm 86 = .ok (.iconst 0, 1) := by decide +kernel
theorem dX2_readTerm_87 : decode cX2_readTerm 87 = .ok (.ireturn, 1) := by decide +kernel
theorem dX2_readTerm_88 : decode cX2_readTerm 88 = .ok (.iconst 1, 1) := by decide +kernel
theorem dX2_readTerm_89 : decode cX2_readTerm 89 = .ok (.ireturn, 1) := by decide +kernel
theorem dX2_readTerm_90 : decode cX2_readTerm 90 = .ok (.iinc 2 1, 3) := by decide +kernel
theorem dX2_readTerm_93 : decode cX2_readTerm 93 = .ok (.goto (-81), 3) := by decide +kernel
theorem dX2_readTerm_96 : decode cX2_readTerm 96 = .ok (.aload_n 0, 1) := by decide +kernel
theorem dX2_readTerm_97 : decode cX2_readTerm 97 = .ok (.iconst 1, 1) := by decide +kernel
theorem dX2_readTerm_98 : decode cX2_readTerm 98 = .ok (.invokevirtual 44, 3) := by decide +kernel
theorem dX2_readTerm_101 : decode cX2_readTerm 101 = .ok (.ireturn, 1) := by decide +kernel
theorem dX2_readDivisor_0 : decode cX2_readDivisor 0 = .ok (.aload_n 0, 1) := by decide +kernel
theorem dX2_readDivisor_1 : decode cX2_readDivisor 1 = .ok (.invokevirtual 34, 3) := by decide +kernel
theorem dX2_readDivisor_4 : decode cX2_readDivisor 4 = .ok (.sipush 258, 3) := by decide +kernel
theorem dX2_readDivisor_7 : decode cX2_readDivisor 7 = .ok (.if_icmp .eq 9, 3) := by decide +kernel
theorem dX2_readDivisor_10 : decode cX2_readDivisor 10 = .ok (.aload_n 0, 1) := by decide +kernel
theorem dX2_readDivisor_11 : decode cX2_readDivisor 11 = .ok (.iconst 1, 1) := by decide +kernel
theorem dX2_readDivisor_12 : decode cX2_readDivisor 12 = .ok (.invokevirtual 44, 3) := by decide +kernel
theorem dX2_readDivisor_15 : decode cX2_readDivisor 15 = .ok (.ireturn, 1) := by decide +kernel
theorem dX2_readDivisor_16 : decode cX2_readDivisor 16 = .ok (.aload_n 0, 1) := by decide +kernel
theorem dX2_readDivisor_17 : decode cX2_readDivisor 17 = .ok (.invokevirtual 76, 3) := by decide +kernel
theorem dX2_readDivisor_20 : decode cX2_readDivisor 20 = .ok (.ifCond .ne 9, 3) := by decide +kernel
theorem dX2_readDivisor_23 : decode cX2_readDivisor 23 = .ok (.aload_n 0, 1) := by decide +kernel
theorem dX2_readDivisor_24 : decode cX2_readDivisor 24 = .ok (.iconst 2, 1) := by decide +kernel
theorem dX2_readDivisor_25 : decode cX2_readDivisor 25 = .ok (.invokevirtual 44, 3) := by decide +kernel
theorem dX2_readDivisor_28 : decode cX2_readDivisor 28 = .ok (.ireturn, 1) := by decide +kernel
theorem dX2_readDivisor_29 : decode cX2_readDivisor 29 = .ok (.aload_n 0, 1) := by decide +kernel
theorem dX2_readDivisor_30 : decode cX2_readDivisor 30 = .ok (.getfield 15, 3) := by decide +kernel
theorem dX2_readDivisor_33 : decode cX2_readDivisor 33 = .ok (.bipush 47, 2) := by decide +kernel
theorem dX2_readDivisor_35 : decode cX2_readDivisor 35 = .ok (.aload_n 0, 1) := by decide +kernel
theorem dX2_readDivisor_36 : decode cX2_readDivisor 36 = .ok (.invokevirtual 76, 3) := by decide +kernel
theorem dX2_readDivisor_39 : decode cX2_readDivisor 39 = .ok (.invokevirtual 64, 3) := by decide +kernel
theorem dX2_readDivisor_42 : decode cX2_readDivisor 42 = .ok (.aload_n 0, 1) := by decide +kernel
theorem dX2_readDivisor_43 : decode cX2_readDivisor 43 = .ok (.dup, 1) := by decide +kernel
theorem dX2_readDivisor_44 : decode cX2_readDivisor 44 = .ok (.getfield 19, 3) := by decide +kernel
theorem dX2_readDivisor_47 : decode cX2_readDivisor 47 = .ok (.iconst 1, 1) := by decide +kernel
theorem dX2_readDivisor_48 : decode cX2_readDivisor 48 = .ok (.iadd, 1) := by decide +kernel
theorem dX2_readDivisor_49 : decode cX2_readDivisor 49 = .ok (.putfield 19, 3) := by decide +kernel
theorem dX2_readDivisor_52 : decode cX2_readDivisor 52 = .ok (.iconst 1, 1) := by decide +kernel
theorem dX2_readDivisor_53 : decode cX2_readDivisor 53 = .ok (.ireturn, 1) := by decide +kernel
theorem dX2_readUnit_0 : decode cX2_readUnit 0 = .ok (.aload_n 0, 1) := by decide +kernel
theorem dX2_readUnit_1 : decode cX2_readUnit 1 = .ok (.invokevirtual 34, 3) := by decide +kernel
theorem dX2_readUnit_4 : decode cX2_readUnit 4 = .ok (.istore_n 2, 1) := by decide +kernel
theorem dX2_readUnit_5 : decode cX2_readUnit 5 = .ok (.iload_n 2, 1) := by decide +kernel
theorem dX2_readUnit_6 : decode cX2_readUnit 6 = .ok (.sipush 258, 3) := by decide +kernel
theorem dX2_readUnit_9 : decode cX2_readUnit 9 = .ok (.if_icmp .eq 17, 3) := by decide +kernel
theorem dX2_readUnit_12 : decode cX2_readUnit 12 = .ok (.iload_n 2, 1) := by decide +kernel
theorem dX2_readUnit_13 : decode cX2_readUnit 13 = .ok (.sipush 262, 3) := by decide +kernel
theorem dX2_readUnit_16 : decode cX2_readUnit 16 = .ok (.if_icmp .lt 34, 3) := by decide +kernel
theorem dX2_readUnit_19 : decode cX2_readUnit 19 = .ok (.iload_n 2, 1) := by decide +kernel
theorem dX2_readUnit_20 : decode cX2_readUnit 20 = .ok (.sipush 265, 3) := by decide +kernel
theorem dX2_readUnit_23 : decode cX2_readUnit 23 = .ok (.if_icmp .gt 27, 3) := by decide +kernel
theorem dX2_readUnit_26 : decode cX2_readUnit 26 = .ok (.aload_n 0, 1) := by decide +kernel
theorem dX2_readUnit_27 : decode cX2_readUnit 27 = .ok (.getfield 15, 3) := by decide +kernel
theorem dX2_readUnit_30 : decode cX2_readUnit 30 = .ok (.iload_n 2, 1) := by decide +kernel
theorem dX2_readUnit_31 : decode cX2_readUnit 31 = .ok (.aload_n 0, 1) := by decide +kernel
theorem dX2_readUnit_32 : decode cX2_readUnit 32 = .ok (.invokevirtual 76, 3) := by decide +kernel
theorem dX2_readUnit_35 : decode cX2_readUnit 35 = .ok (.invokevirtual 64, 3) := by decide +kernel
theorem dX2_readUnit_38 : decode cX2_readUnit 38 = .ok (.aload_n 0, 1) := by decide +kernel
theorem dX2_readUnit_39 : decode cX2_readUnit 39 = .ok (.dup, 1) := by decide +kernel
theorem dX2_readUnit_40 : decode cX2_readUnit 40 = .ok (.getfield 19, 3) := by decide +kernel
theorem dX2_readUnit_43 : decode cX2_readUnit 43 = .ok (.iconst 1, 1) := by decide +kernel
theorem dX2_readUnit_44 : decode cX2_readUnit 44 = .ok (.iadd, 1) := by decide +kernel
theorem dX2_readUnit_45 : decode cX2_readUnit 45 = .ok (.putfield 19, 3) := by decide +kernel
theorem dX2_readUnit_48 : decode cX2_readUnit 48 = .ok (.iconst 1, 1) := by decide +kernel
theorem dX2_readUnit_49 : decode cX2_readUnit 49 = .ok (.ireturn, 1) := by decide +kernel
theorem dX2_readUnit_50 : decode cX2_readUnit 50 = .ok (.iload_n 2, 1) := by decide +kernel
theorem dX2_readUnit_51 : decode cX2_readUnit 51 = .ok (.bipush 40, 2) := by decide +kernel
theorem dX2_readUnit_53 : decode cX2_readUnit 53 = .ok (.if_icmp .eq 9, 3) := by decide +kernel
theorem dX2_readUnit_56 : decode cX2_readUnit 56 = .ok (.aload_n 0, 1) := by decide +kernel
theorem dX2_readUnit_57 : decode cX2_readUnit 57 = .ok (.iconst 1, 1) := by decide +kernel
theorem dX2_readUnit_58 : decode cX2_readUnit 58 = .ok (.invokevirtual 44, 3) := by decide +kernel
theorem dX2_readUnit_61 : decode cX2_readUnit 61 = .ok (.ireturn, 1) := by decide +kernel
theorem dX2_readUnit_62 : decode cX2_readUnit 62 = .ok (.iload_n 1, 1) := by decide +kernel
theorem dX2_readUnit_63 : decode cX2_readUnit 63 = .ok (.bipush 8, 2) := by decide +kernel
theorem dX2_readUnit_65 : decode cX2_readUnit 65 = .ok (.if_icmp .lt 9, 3) := by decide +kernel
theorem dX2_readUnit_68 : decode cX2_readUnit 68 = .ok (.aload_n 0, 1) := by decide +kernel
theorem dX2_readUnit_69 : decode cX2_readUnit 69 = .ok (.iconst 3, 1) := by decide +kernel
theorem dX2_readUnit_70 : decode cX2_readUnit 70 = .ok (.invokevirtual 44, 3) := by decide +kernel
theorem dX2_readUnit_73 : decode cX2_readUnit 73 = .ok (.ireturn, 1) := by decide +kernel
theorem dX2_readUnit_74 : decode cX2_readUnit 74 = .ok (.aload_n 0, 1) := by decide +kernel
theorem dX2_readUnit_75 : decode cX2_readUnit 75 = .ok (.dup, 1) := by decide +kernel
theorem dX2_readUnit_76 : decode cX2_readUnit 76 = .ok (.getfield 19, 3) := by decide +kernel
theorem dX2_readUnit_79 : decode cX2_readUnit 79 = .ok (.iconst 1, 1) := by decide +kernel
theorem dX2_readUnit_80 : decode cX2_readUnit 80 = .ok (.iadd, 1) := by decide +kernel
theorem dX2_readUnit_81 : decode cX2_readUnit 81 = .ok (.putfield 19, 3) := by decide +kernel
theorem dX2_readUnit_84 : decode cX2_readUnit 84 = .ok (.aload_n 0, 1) := by decide +kernel
theorem dX2_readUnit_85 : decode cX2_readUnit 85 = .ok (.iload_n 1, 1) := by decide +kernel
theorem dX2_readUnit_86 : decode cX2_readUnit 86 = .ok (.iconst 1, 1) := by decide +kernel
theorem dX2_readUnit_87 : decode cX2_readUnit 87 = .ok (.iadd, 1) := by decide +kernel
theorem dX2_readUnit_88 : decode cX2_readUnit 88 = .ok (.invokevirtual 50, 3) := by decide +kernel
theorem dX2_readUnit_91 : decode cX2_readUnit 91 = .ok (.ifCond .ne 5, 3) := by decide +kernel
theorem dX2_readUnit_94 : decode cX2_readUnit 94 = .ok (.iconst 0, 1) := by decide +kernel
theorem dX2_readUnit_95 : decode cX2_readUnit 95 = .ok (.ireturn, 1) := by decide +kernel
theorem dX2_readUnit_96 : decode cX2_readUnit 96 = .ok (.aload_n 0, 1) := by decide +kernel
theorem dX2_readUnit_97 : decode cX2_readUnit 97 = .ok (.invokevirtual 34, 3) := by decide +kernel
theorem dX2_readUnit_100 : decode cX2_readUnit 100 = .ok (.bipush 41, 2) := by decide +kernel
theorem dX2_readUnit_102 : decode cX2_readUnit 102 = .ok (.if_icmp .eq 9, 3) := by decide +kernel
theorem dX2_readUnit_105 : decode cX2_readUnit 105 = .ok (.aload_n 0, 1) := by decide +kernel
theorem dX2_readUnit_106 : decode cX2_readUnit 106 = .ok (.iconst 1, 1) := by decide +kernel
theorem dX2_readUnit_107 : decode cX2_readUnit 107 = .ok (.invokevirtual 44, 3) := by decide +kernel
theorem dX2_readUnit_110 : decode cX2_readUnit 110 = .ok (.ireturn, 1) := by decide +kernel
theorem dX2_readUnit_111 : decode cX2_readUnit 111 = .ok (.aload_n 0, 1) := by decide +kernel
theorem dX2_readUnit_112 : decode cX2_readUnit 112 = .ok (.dup, 1) := by decide +kernel
theorem dX2_readUnit_113 : decode cX2_readUnit 113 = .ok (.getfield 19, 3) := by decide +kernel
theorem dX2_readUnit_116 : decode cX2_readUnit 116 = .ok (.iconst 1, 1) := by decide +kernel
theorem dX2_readUnit_117 : decode cX2_readUnit 117 = .ok (.iadd, 1) := by decide +kernel
theorem dX2_readUnit_118 : decode cX2_readUnit 118 = .ok (.putfield 19, 3) := by decide +kernel
theorem dX2_readUnit_121 : decode cX2_readUnit 121 = .ok (.iconst 1, 1) := by decide +kernel
theorem dX2_readUnit_122 : decode cX2_readUnit 122 = .ok (.ireturn, 1) := by decide +kernel
theorem dX2_pass_0 : decode cX2_pass 0 = .ok (.aload_n 0, 1) := by decide +kernel
theorem dX2_pass_1 : decode cX2_pass 1 = .ok (.invokevirtual 34, 3) := by decide +kernel
theorem dX2_pass_4 : decode cX2_pass 4 = .ok (.iload_n 1, 1) := by decide +kernel
theorem dX2_pass_5 : decode cX2_pass 5 = .ok (.if_icmp .eq 9, 3) := by decide +kernel
theorem dX2_pass_8 : decode cX2_pass 8 = .ok (.aload_n 0, 1) := by decide +kernel
theorem dX2_pass_9 : decode cX2_pass 9 = .ok (.iconst 1, 1) := by decide +kernel
theorem dX2_pass_10 : decode cX2_pass 10 = .ok (.invokevirtual 44, 3) := by decide +kernel
theorem dX2_pass_13 : decode cX2_pass 13 = .ok (.ireturn, 1) := by decide +kernel
theorem dX2_pass_14 : decode cX2_pass 14 = .ok (.aload_n 0, 1) := by decide +kernel
theorem dX2_pass_15 : decode cX2_pass 15 = .ok (.dup, 1) := by decide +kernel
theorem dX2_pass_16 : decode cX2_pass 16 = .ok (.getfield 19, 3) := by decide +kernel
theorem dX2_pass_19 : decode cX2_pass 19 = .ok (.iconst 1, 1) := by decide +kernel
theorem dX2_pass_20 : decode cX2_pass 20 = .ok (.iadd, 1) := by decide +kernel
theorem dX2_pass_21 : decode cX2_pass 21 = .ok (.putfield 19, 3) := by decide +kernel
theorem dX2_pass_24 : decode cX2_pass 24 = .ok (.iconst 1, 1) := by decide +kernel
theorem dX2_pass_25 : decode cX2_pass 25 = .ok (.ireturn, 1) := by decide +kernel
theorem dX2_fail_0 : decode cX2_fail 0 = .ok (.aload_n 0, 1) := by decide +kernel
theorem dX2_fail_1 : decode cX2_fail 1 = .ok (.iload_n 1, 1) := by decide +kernel
theorem dX2_fail_2 : decode cX2_fail 2 = .ok (.putfield 23, 3) := by decide +kernel
theorem dX2_fail_5 : decode cX2_fail 5 = .ok (.aload_n 0, 1) := by decide +kernel
theorem dX2_fail_6 : decode cX2_fail 6 = .ok (.aload_n 0, 1) := by decide +kernel
theorem dX2_fail_7 : decode cX2_fail 7 = .ok (.getfield 19, 3) := by decide +kernel
theorem dX2_fail_10 : decode cX2_fail 10 = .ok (.ifCond .lt 42, 3) := by decide +kernel
theorem dX2_fail_13 : decode cX2_fail 13 = .ok (.aload_n 0, 1) := by decide +kernel
theorem dX2_fail_14 : decode cX2_fail 14 = .ok (.getfield 19, 3) := by decide +kernel
theorem dX2_fail_17 : decode cX2_fail 17 = .ok (.aload_n 0, 1) := by decide +kernel
theorem dX2_fail_18 : decode cX2_fail 18 = .ok (.getfield 9, 3) := by decide +kernel
theorem dX2_fail_21 : decode cX2_fail 21 = .ok (.getfield 79, 3) := by decide +kernel
theorem dX2_fail_24 : decode cX2_fail 24 = .ok (.if_icmp .ge 28, 3) := by decide +kernel
theorem dX2_fail_27 : decode cX2_fail 27 = .ok (.aload_n 0, 1) := by decide +kernel
theorem dX2_fail_28 : decode cX2_fail 28 = .ok (.getfield 19, 3) := by decide +kernel
theorem dX2_fail_31 : decode cX2_fail 31 = .ok (.sipush 400, 3) := by decide +kernel
theorem dX2_fail_34 : decode cX2_fail 34 = .ok (.if_icmp .gt 18, 3) := by decide +kernel
theorem dX2_fail_37 : decode cX2_fail 37 = .ok (.aload_n 0, 1) := by decide +kernel
theorem dX2_fail_38 : decode cX2_fail 38 = .ok (.getfield 9, 3) := by decide +kernel
theorem dX2_fail_41 : decode cX2_fail 41 = .ok (.getfield 89, 3) := by decide +kernel
theorem dX2_fail_44 : decode cX2_fail 44 = .ok (.aload_n 0, 1) := by decide +kernel
theorem dX2_fail_45 : decode cX2_fail 45 = .ok (.getfield 19, 3) := by decide +kernel
theorem dX2_fail_48 : decode cX2_fail 48 = .ok (.iaload, 1) := by decide +kernel
theorem dX2_fail_49 : decode cX2_fail 49 = .ok (.goto 4, 3) := by decide +kernel
theorem dX2_fail_52 : decode cX2_fail 52 = .ok (.iconst (-1), 1) := by decide +kernel
theorem dX2_fail_53 : decode cX2_fail 53 = .ok (.putfield 26, 3) := by decide +kernel
theorem dX2_fail_56 : decode cX2_fail 56 = .ok (.iconst 0, 1) := by decide +kernel
theorem dX2_fail_57 : decode cX2_fail 57 = .ok (.ireturn, 1) := by decide +kernel
theorem dX3_sellBy_0 : decode cX3_sellBy 0 = .ok (.aload_n 0, 1) := by decide +kernel
theorem dX3_sellBy_1 : decode cX3_sellBy 1 = .ok (.getfield 9, 3) := by decide +kernel
theorem dX3_sellBy_4 : decode cX3_sellBy 4 = .ok (.iconst 2, 1) := by decide +kernel
theorem dX3_sellBy_5 : decode cX3_sellBy 5 = .ok (.if_icmp .ne 13, 3) := by decide +kernel
theorem dX3_sellBy_8 : decode cX3_sellBy 8 = .ok (.aload_n 0, 1) := by decide +kernel
theorem dX3_sellBy_9 : decode cX3_sellBy 9 = .ok (.getfield 31, 3) := by decide +kernel
theorem dX3_sellBy_12 : decode cX3_sellBy 12 = .ok (.bipush 7, 2) := by decide +kernel
theorem dX3_sellBy_14 : decode cX3_sellBy 14 = .ok (.iadd, 1) := by decide +kernel
theorem dX3_sellBy_15 : decode cX3_sellBy 15 = .ok (.goto 7, 3) := by decide +kernel
theorem dX3_sellBy_18 : decode cX3_sellBy 18 = .ok (.aload_n 0, 1) := by decide +kernel
theorem dX3_sellBy_19 : decode cX3_sellBy 19 = .ok (.getfield 31, 3) := by decide +kernel
theorem dX3_sellBy_22 : decode cX3_sellBy 22 = .ok (.istore_n 2, 1) := by decide +kernel
theorem dX3_sellBy_23 : decode cX3_sellBy 23 = .ok (.aload_n 0, 1) := by decide +kernel
theorem dX3_sellBy_24 : decode cX3_sellBy 24 = .ok (.invokevirtual 55, 3) := by decide +kernel
theorem dX3_sellBy_27 : decode cX3_sellBy 27 = .ok (.iconst 1, 1) := by decide +kernel
theorem dX3_sellBy_28 : decode cX3_sellBy 28 = .ok (.if_icmp .ne 13, 3) := by decide +kernel
theorem dX3_sellBy_31 : decode cX3_sellBy 31 = .ok (.iload_n 2, 1) := by decide +kernel
theorem dX3_sellBy_32 : decode cX3_sellBy 32 = .ok (.iload_n 1, 1) := by decide +kernel
theorem dX3_sellBy_33 : decode cX3_sellBy 33 = .ok (.if_icmp .gt 8, 3) := by decide +kernel
theorem dX3_sellBy_36 : decode cX3_sellBy 36 = .ok (.aload_n 0, 1) := by decide +kernel
theorem dX3_sellBy_37 : decode cX3_sellBy 37 = .ok (.iload_n 2, 1) := by decide +kernel
theorem dX3_sellBy_38 : decode cX3_sellBy 38 = .ok (.putfield 46, 3) := by decide +kernel
theorem dX3_sellBy_41 : decode cX3_sellBy 41 = .ok (.return_, 1) := by decide +kernel
theorem dX4_gather_0 : decode cX4_gather 0 = .ok (.aload_n 0, 1) := by decide +kernel
theorem dX4_gather_1 : decode cX4_gather 1 = .ok (.iconst 0, 1) := by decide +kernel
theorem dX4_gather_2 : decode cX4_gather 2 = .ok (.putfield 7, 3) := by decide +kernel
theorem dX4_gather_5 : decode cX4_gather 5 = .ok (.aload_n 0, 1) := by decide +kernel
theorem dX4_gather_6 : decode cX4_gather 6 = .ok (.iconst 0, 1) := by decide +kernel
theorem dX4_gather_7 : decode cX4_gather 7 = .ok (.putfield 13, 3) := by decide +kernel
theorem dX4_gather_10 : decode cX4_gather 10 = .ok (.aload_n 0, 1) := by decide +kernel
theorem dX4_gather_11 : decode cX4_gather 11 = .ok (.iconst 0, 1) := by decide +kernel
theorem dX4_gather_12 : decode cX4_gather 12 = .ok (.putfield 16, 3) := by decide +kernel
theorem dX4_gather_15 : decode cX4_gather 15 = .ok (.aload_n 0, 1) := by decide +kernel
theorem dX4_gather_16 : decode cX4_gather 16 = .ok (.iload_n 3, 1) := by decide +kernel
theorem dX4_gather_17 : decode cX4_gather 17 = .ok (.putfield 19, 3) := by decide +kernel
theorem dX4_gather_20 : decode cX4_gather 20 = .ok (.iconst 0, 1) := by decide +kernel
theorem dX4_gather_21 : decode cX4_gather 21 = .ok (.istore 4, 2) := by decide +kernel
theorem dX4_gather_23 : decode cX4_gather 23 = .ok (.iload 4, 2) := by decide +kernel
theorem dX4_gather_25 : decode cX4_gather 25 = .ok (.aload_n 1, 1) := by decide +kernel
theorem dX4_gather_26 : decode cX4_gather 26 = .ok (.invokevirtual 22, 3) := by decide +kernel
theorem dX4_gather_29 : decode cX4_gather 29 = .ok (.if_icmp .ge 35, 3) := by decide +kernel
theorem dX4_gather_32 : decode cX4_gather 32 = .ok (.aload_n 1, 1) := by decide +kernel
theorem dX4_gather_33 : decode cX4_gather 33 = .ok (.iload 4, 2) := by decide +kernel
theorem dX4_gather_35 : decode cX4_gather 35 = .ok (.invokevirtual 28, 3) := by decide +kernel
theorem dX4_gather_38 : decode cX4_gather 38 = .ok (.checkcast 32, 3) := by decide +kernel
theorem dX4_gather_41 : decode cX4_gather 41 = .ok (.astore 5, 2) := by decide +kernel
theorem dX4_gather_43 : decode cX4_gather 43 = .ok (.aload 5, 2) := by decide +kernel
theorem dX4_gather_45 : decode cX4_gather 45 = .ok (.getfield 34, 3) := by decide +kernel
theorem dX4_gather_48 : decode cX4_gather 48 = .ok (.iload_n 2, 1) := by decide +kernel
theorem dX4_gather_49 : decode cX4_gather 49 = .ok (.if_icmp .ne 9, 3) := by decide +kernel
theorem dX4_gather_52 : decode cX4_gather 52 = .ok (.aload_n 0, 1) := by decide +kernel
theorem dX4_gather_53 : decode cX4_gather 53 = .ok (.aload 5, 2) := by decide +kernel
theorem dX4_gather_55 : decode cX4_gather 55 = .ok (.invokevirtual 37, 3) := by decide +kernel
theorem dX4_gather_58 : decode cX4_gather 58 = .ok (.iinc 4 1, 3) := by decide +kernel
theorem dX4_gather_61 : decode cX4_gather 61 = .ok (.goto (-38), 3) := by decide +kernel
theorem dX4_gather_64 : decode cX4_gather 64 = .ok (.return_, 1) := by decide +kernel
theorem dX4_addSlip_0 : decode cX4_addSlip 0 = .ok (.aload_n 1, 1) := by decide +kernel
theorem dX4_addSlip_1 : decode cX4_addSlip 1 = .ok (.aload_n 0, 1) := by decide +kernel
theorem dX4_addSlip_2 : decode cX4_addSlip 2 = .ok (.getfield 19, 3) := by decide +kernel
theorem dX4_addSlip_5 : decode cX4_addSlip 5 = .ok (.invokevirtual 41, 3) := by decide +kernel
theorem dX4_addSlip_8 : decode cX4_addSlip 8 = .ok (.ifCond .eq 26, 3) := by decide +kernel
theorem dX4_addSlip_11 : decode cX4_addSlip 11 = .ok (.aload_n 0, 1) := by decide +kernel
theorem dX4_addSlip_12 : decode cX4_addSlip 12 = .ok (.dup, 1) := by decide +kernel
theorem dX4_addSlip_13 : decode cX4_addSlip 13 = .ok (.getfield 7, 3) := by decide +kernel
theorem dX4_addSlip_16 : decode cX4_addSlip 16 = .ok (.aload_n 1, 1) := by decide +kernel
theorem dX4_addSlip_17 : decode cX4_addSlip 17 = .ok (.getfield 45, 3) := by decide +kernel
theorem dX4_addSlip_20 : decode cX4_addSlip 20 = .ok (.iadd, 1) := by decide +kernel
theorem dX4_addSlip_21 : decode cX4_addSlip 21 = .ok (.putfield 7, 3) := by decide +kernel
theorem dX4_addSlip_24 : decode cX4_addSlip 24 = .ok (.aload_n 0, 1) := by decide +kernel
theorem dX4_addSlip_25 : decode cX4_addSlip 25 = .ok (.dup, 1) := by decide +kernel
theorem dX4_addSlip_26 : decode cX4_addSlip 26 = .ok (.getfield 13, 3) := by decide +kernel
theorem dX4_addSlip_29 : decode cX4_addSlip 29 = .ok (.iconst 1, 1) := by decide +kernel
theorem dX4_addSlip_30 : decode cX4_addSlip 30 = .ok (.iadd, 1) := by decide +kernel
theorem dX4_addSlip_31 : decode cX4_addSlip 31 = .ok (.putfield 13, 3) := by decide +kernel
theorem dX4_addSlip_34 : decode cX4_addSlip 34 = .ok (.aload_n 1, 1) := by decide +kernel
theorem dX4_addSlip_35 : decode cX4_addSlip 35 = .ok (.aload_n 0, 1) := by decide +kernel
theorem dX4_addSlip_36 : decode cX4_addSlip 36 = .ok (.getfield 19, 3) := by decide +kernel
theorem dX4_addSlip_39 : decode cX4_addSlip 39 = .ok (.invokevirtual 48, 3) := by decide +kernel
theorem dX4_addSlip_42 : decode cX4_addSlip 42 = .ok (.ifCond .eq 29, 3) := by decide +kernel
theorem dX4_addSlip_45 : decode cX4_addSlip 45 = .ok (.aload_n 0, 1) := by decide +kernel
theorem dX4_addSlip_46 : decode cX4_addSlip 46 = .ok (.dup, 1) := by decide +kernel
theorem dX4_addSlip_47 : decode cX4_addSlip 47 = .ok (.getfield 7, 3) := by decide +kernel
theorem dX4_addSlip_50 : decode cX4_addSlip 50 = .ok (.aload_n 1, 1) := by decide +kernel
theorem dX4_addSlip_51 : decode cX4_addSlip 51 = .ok (.getfield 45, 3) := by decide +kernel
theorem dX4_addSlip_54 : decode cX4_addSlip 54 = .ok (.isub, 1) := by decide +kernel
theorem dX4_addSlip_55 : decode cX4_addSlip 55 = .ok (.putfield 7, 3) := by decide +kernel
theorem dX4_addSlip_58 : decode cX4_addSlip 58 = .ok (.aload_n 0, 1) := by decide +kernel
theorem dX4_addSlip_59 : decode cX4_addSlip 59 = .ok (.dup, 1) := by decide +kernel
theorem dX4_addSlip_60 : decode cX4_addSlip 60 = .ok (.getfield 16, 3) := by decide +kernel
theorem dX4_addSlip_63 : decode cX4_addSlip 63 = .ok (.aload_n 1, 1) := by decide +kernel
theorem dX4_addSlip_64 : decode cX4_addSlip 64 = .ok (.getfield 45, 3) := by decide +kernel
theorem dX4_addSlip_67 : decode cX4_addSlip 67 = .ok (.iadd, 1) := by decide +kernel
theorem dX4_addSlip_68 : decode cX4_addSlip 68 = .ok (.putfield 16, 3) := by decide +kernel
theorem dX4_addSlip_71 : decode cX4_addSlip 71 = .ok (.return_, 1) := by decide +kernel
theorem dX5_append_0 : decode cX5_append 0 = .ok (.bipush 24, 2) := by decide +kernel
theorem dX5_append_2 : decode cX5_append 2 = .ok (.istore_n 2, 1) := by decide +kernel
theorem dX5_append_3 : decode cX5_append 3 = .ok (.iload_n 2, 1) := by decide +kernel
theorem dX5_append_4 : decode cX5_append 4 = .ok (.ifCond .lt 49, 3) := by decide +kernel
theorem dX5_append_7 : decode cX5_append 7 = .ok (.aload_n 0, 1) := by decide +kernel
theorem dX5_append_8 : decode cX5_append 8 = .ok (.getfield 15, 3) := by decide +kernel
theorem dX5_append_11 : decode cX5_append 11 = .ok (.ifCond .lt 36, 3) := by decide +kernel
theorem dX5_append_14 : decode cX5_append 14 = .ok (.aload_n 0, 1) := by decide +kernel
theorem dX5_append_15 : decode cX5_append 15 = .ok (.getfield 15, 3) := by decide +kernel
theorem dX5_append_18 : decode cX5_append 18 = .ok (.sipush 400, 3) := by decide +kernel
theorem dX5_append_21 : decode cX5_append 21 = .ok (.if_icmp .ge 26, 3) := by decide +kernel
theorem dX5_append_24 : decode cX5_append 24 = .ok (.aload_n 0, 1) := by decide +kernel
theorem dX5_append_25 : decode cX5_append 25 = .ok (.getfield 9, 3) := by decide +kernel
theorem dX5_append_28 : decode cX5_append 28 = .ok (.aload_n 0, 1) := by decide +kernel
theorem dX5_append_29 : decode cX5_append 29 = .ok (.getfield 15, 3) := by decide +kernel
theorem dX5_append_32 : decode cX5_append 32 = .ok (.iload_n 1, 1) := by decide +kernel
theorem dX5_append_33 : decode cX5_append 33 = .ok (.iload_n 2, 1) := by decide +kernel
theorem dX5_append_34 : decode cX5_append 34 = .ok (.iushr, 1) := by decide +kernel
theorem dX5_append_35 : decode cX5_append 35 = .ok (.i2b, 1) := by decide +kernel
theorem dX5_append_36 : decode cX5_append 36 = .ok (.bastore, 1) := by decide +kernel
theorem dX5_append_37 : decode cX5_append 37 = .ok (.aload_n 0, 1) := by decide +kernel
theorem dX5_append_38 : decode cX5_append 38 = .ok (.dup, 1) := by decide +kernel
theorem dX5_append_39 : decode cX5_append 39 = .ok (.getfield 15, 3) := by decide +kernel
theorem dX5_append_42 : decode cX5_append 42 = .ok (.iconst 1, 1) := by decide +kernel
theorem dX5_append_43 : decode cX5_append 43 = .ok (.iadd, 1) := by decide +kernel
theorem dX5_append_44 : decode cX5_append 44 = .ok (.putfield 15, 3) := by decide +kernel
theorem dX5_append_47 : decode cX5_append 47 = .ok (.iinc 2 (-8), 3) := by decide +kernel
theorem dX5_append_50 : decode cX5_append 50 = .ok (.goto (-47), 3) := by decide +kernel
theorem dX5_append_53 : decode cX5_append 53 = .ok (.return_, 1) := by decide +kernel
theorem dX6_keepTag_0 : decode cX6_keepTag 0 = .ok (.iload_n 1, 1) := by decide +kernel
theorem dX6_keepTag_1 : decode cX6_keepTag 1 = .ok (.iconst 1, 1) := by decide +kernel
theorem dX6_keepTag_2 : decode cX6_keepTag 2 = .ok (.if_icmp .lt 24, 3) := by decide +kernel
theorem dX6_keepTag_5 : decode cX6_keepTag 5 = .ok (.iload_n 1, 1) := by decide +kernel
theorem dX6_keepTag_6 : decode cX6_keepTag 6 = .ok (.sipush 364, 3) := by decide +kernel
theorem dX6_keepTag_9 : decode cX6_keepTag 9 = .ok (.if_icmp .ge 17, 3) := by decide +kernel
theorem dX6_keepTag_12 : decode cX6_keepTag 12 = .ok (.aload_n 0, 1) := by decide +kernel
theorem dX6_keepTag_13 : decode cX6_keepTag 13 = .ok (.getfield 9, 3) := by decide +kernel
theorem dX6_keepTag_16 : decode cX6_keepTag 16 = .ok (.iload_n 1, 1) := by decide +kernel
theorem dX6_keepTag_17 : decode cX6_keepTag 17 = .ok (.aload_n 0, 1) := by decide +kernel
theorem dX6_keepTag_18 : decode cX6_keepTag 18 = .ok (.getfield 9, 3) := by decide +kernel
theorem dX6_keepTag_21 : decode cX6_keepTag 21 = .ok (.iload_n 1, 1) := by decide +kernel
theorem dX6_keepTag_22 : decode cX6_keepTag 22 = .ok (.iconst 1, 1) := by decide +kernel
theorem dX6_keepTag_23 : decode cX6_keepTag 23 = .ok (.isub, 1) := by decide +kernel
theorem dX6_keepTag_24 : decode cX6_keepTag 24 = .ok (.iaload, 1) := by decide +kernel
theorem dX6_keepTag_25 : decode cX6_keepTag 25 = .ok (.iastore, 1) := by decide +kernel
theorem dX6_keepTag_26 : decode cX6_keepTag 26 = .ok (.return_, 1) := by decide +kernel
theorem dX6_changeTag_0 : decode cX6_changeTag 0 = .ok (.aload_n 0, 1) := by decide +kernel
theorem dX6_changeTag_1 : decode cX6_changeTag 1 = .ok (.iload_n 1, 1) := by decide +kernel
theorem dX6_changeTag_2 : decode cX6_changeTag 2 = .ok (.invokevirtual 22, 3) := by decide +kernel
theorem dX6_changeTag_5 : decode cX6_changeTag 5 = .ok (.istore_n 3, 1) := by decide +kernel
theorem dX6_changeTag_6 : decode cX6_changeTag 6 = .ok (.iload_n 2, 1) := by decide +kernel
theorem dX6_changeTag_7 : decode cX6_changeTag 7 = .ok (.iload_n 3, 1) := by decide +kernel
theorem dX6_changeTag_8 : decode cX6_changeTag 8 = .ok (.if_icmp .eq 14, 3) := by decide +kernel
theorem dX6_changeTag_11 : decode cX6_changeTag 11 = .ok (.iload_n 1, 1) := by decide +kernel
theorem dX6_changeTag_12 : decode cX6_changeTag 12 = .ok (.ifCond .lt 10, 3) := by decide +kernel
theorem dX6_changeTag_15 : decode cX6_changeTag 15 = .ok (.iload_n 1, 1) := by decide +kernel
theorem dX6_changeTag_16 : decode cX6_changeTag 16 = .ok (.sipush 364, 3) := by decide +kernel
theorem dX6_changeTag_19 : decode cX6_changeTag 19 = .ok (.if_icmp .lt 5, 3) := by decide +kernel
theorem dX6_changeTag_22 : decode cX6_changeTag 22 = .ok (.iconst 0, 1) := by decide +kernel
theorem dX6_changeTag_23 : decode cX6_changeTag 23 = .ok (.ireturn, 1) := by decide +kernel
theorem dX6_changeTag_24 : decode cX6_changeTag 24 = .ok (.aload_n 0, 1) := by decide +kernel
theorem dX6_changeTag_25 : decode cX6_changeTag 25 = .ok (.getfield 9, 3) := by decide +kernel
theorem dX6_changeTag_28 : decode cX6_changeTag 28 = .ok (.iload_n 1, 1) := by decide +kernel
theorem dX6_changeTag_29 : decode cX6_changeTag 29 = .ok (.iload_n 2, 1) := by decide +kernel
theorem dX6_changeTag_30 : decode cX6_changeTag 30 = .ok (.iastore, 1) := by decide +kernel
theorem dX6_changeTag_31 : decode cX6_changeTag 31 = .ok (.iload_n 2, 1) := by decide +kernel
theorem dX6_changeTag_32 : decode cX6_changeTag 32 = .ok (.iload_n 3, 1) := by decide +kernel
theorem dX6_changeTag_33 : decode cX6_changeTag 33 = .ok (.if_icmp .ge 5, 3) := by decide +kernel
theorem dX6_changeTag_36 : decode cX6_changeTag 36 = .ok (.iconst 1, 1) := by decide +kernel
theorem dX6_changeTag_37 : decode cX6_changeTag 37 = .ok (.ireturn, 1) := by decide +kernel
theorem dX6_changeTag_38 : decode cX6_changeTag 38 = .ok (.aload_n 0, 1) := by decide +kernel
theorem dX6_changeTag_39 : decode cX6_changeTag 39 = .ok (.dup, 1) := by decide +kernel
theorem dX6_changeTag_40 : decode cX6_changeTag 40 = .ok (.getfield 26, 3) := by decide +kernel
theorem dX6_changeTag_43 : decode cX6_changeTag 43 = .ok (.iconst 1, 1) := by decide +kernel
theorem dX6_changeTag_44 : decode cX6_changeTag 44 = .ok (.iadd, 1) := by decide +kernel
theorem dX6_changeTag_45 : decode cX6_changeTag 45 = .ok (.putfield 26, 3) := by decide +kernel
theorem dX6_changeTag_48 : decode cX6_changeTag 48 = .ok (.iconst 2, 1) := by decide +kernel
theorem dX6_changeTag_49 : decode cX6_changeTag 49 = .ok (.ireturn, 1) := by decide +kernel
theorem dX7_scan_0 : decode cX7_scan 0 = .ok (.iload_n 2, 1) := by decide +kernel
theorem dX7_scan_1 : decode cX7_scan 1 = .ok (.aload_n 1, 1) := by decide +kernel
theorem dX7_scan_2 : decode cX7_scan 2 = .ok (.arraylength, 1) := by decide +kernel
theorem dX7_scan_3 : decode cX7_scan 3 = .ok (.invokestatic 25, 3) := by decide +kernel
theorem dX7_scan_6 : decode cX7_scan 6 = .ok (.istore_n 3, 1) := by decide +kernel
theorem dX7_scan_7 : decode cX7_scan 7 = .ok (.iconst 0, 1) := by decide +kernel
theorem dX7_scan_8 : decode cX7_scan 8 = .ok (.istore 4, 2) := by decide +kernel
theorem dX7_scan_10 : decode cX7_scan 10 = .ok (.aload_n 0, 1) := by decide +kernel
theorem dX7_scan_11 : decode cX7_scan 11 = .ok (.iconst 0, 1) := by decide +kernel
theorem dX7_scan_12 : decode cX7_scan 12 = .ok (.putfield 21, 3) := by decide +kernel
theorem dX7_scan_15 : decode cX7_scan 15 = .ok (.iconst 0, 1) := by decide +kernel
theorem dX7_scan_16 : decode cX7_scan 16 = .ok (.istore 5, 2) := by decide +kernel
theorem dX7_scan_18 : decode cX7_scan 18 = .ok (.iload 5, 2) := by decide +kernel
theorem dX7_scan_20 : decode cX7_scan 20 = .ok (.sipush 400, 3) := by decide +kernel
theorem dX7_scan_23 : decode cX7_scan 23 = .ok (.if_icmp .ge 49, 3) := by decide +kernel
theorem dX7_scan_26 : decode cX7_scan 26 = .ok (.iload 4, 2) := by decide +kernel
theorem dX7_scan_28 : decode cX7_scan 28 = .ok (.iload_n 3, 1) := by decide +kernel
theorem dX7_scan_29 : decode cX7_scan 29 = .ok (.if_icmp .ge 43, 3) := by decide +kernel
theorem dX7_scan_32 : decode cX7_scan 32 = .ok (.aload_n 1, 1) := by decide +kernel
theorem dX7_scan_33 : decode cX7_scan 33 = .ok (.iload 4, 2) := by decide +kernel
theorem dX7_scan_35 : decode cX7_scan 35 = .ok (.baload, 1) := by decide +kernel
theorem dX7_scan_36 : decode cX7_scan 36 = .ok (.bipush 32, 2) := by decide +kernel
theorem dX7_scan_38 : decode cX7_scan 38 = .ok (.if_icmp .eq 12, 3) := by decide +kernel
theorem dX7_scan_41 : decode cX7_scan 41 = .ok (.aload_n 1, 1) := by decide +kernel
theorem dX7_scan_42 : decode cX7_scan 42 = .ok (.iload 4, 2) := by decide +kernel
theorem dX7_scan_44 : decode cX7_scan 44 = .ok (.baload, 1) := by decide +kernel
theorem dX7_scan_45 : decode cX7_scan 45 = .ok (.bipush 10, 2) := by decide +kernel
theorem dX7_scan_47 : decode cX7_scan 47 = .ok (.if_icmp .ne 9, 3) := by decide +kernel
theorem dX7_scan_50 : decode cX7_scan 50 = .ok (.iinc 4 1, 3) := by decide +kernel
theorem dX7_scan_53 : decode cX7_scan 53 = .ok (.goto 13, 3) := by decide +kernel
theorem dX7_scan_56 : decode cX7_scan 56 = .ok (.aload_n 0, 1) := by decide +kernel
theorem dX7_scan_57 : decode cX7_scan 57 = .ok (.aload_n 1, 1) := by decide +kernel
theorem dX7_scan_58 : decode cX7_scan 58 = .ok (.iload 4, 2) := by decide +kernel
theorem dX7_scan_60 : decode cX7_scan 60 = .ok (.iload_n 3, 1) := by decide +kernel
theorem dX7_scan_61 : decode cX7_scan 61 = .ok (.invokevirtual 31, 3) := by decide +kernel
theorem dX7_scan_64 : decode cX7_scan 64 = .ok (.istore 4, 2) := by decide +kernel
theorem dX7_scan_66 : decode cX7_scan 66 = .ok (.iinc 5 1, 3) := by decide +kernel
theorem dX7_scan_69 : decode cX7_scan 69 = .ok (.goto (-51), 3) := by decide +kernel
theorem dX7_scan_72 : decode cX7_scan 72 = .ok (.aload_n 0, 1) := by decide +kernel
theorem dX7_scan_73 : decode cX7_scan 73 = .ok (.sipush 256, 3) := by decide +kernel
theorem dX7_scan_76 : decode cX7_scan 76 = .ok (.iload_n 3, 1) := by decide +kernel
theorem dX7_scan_77 : decode cX7_scan 77 = .ok (.iconst 0, 1) := by decide +kernel
theorem dX7_scan_78 : decode cX7_scan 78 = .ok (.invokevirtual 35, 3) := by decide +kernel
theorem dX7_scan_81 : decode cX7_scan 81 = .ok (.return_, 1) := by decide +kernel
theorem dX7_scanToken_0 : decode cX7_scanToken 0 = .ok (.iload_n 2, 1) := by decide +kernel
theorem dX7_scanToken_1 : decode cX7_scanToken 1 = .ok (.iconst 1, 1) := by decide +kernel
theorem dX7_scanToken_2 : decode cX7_scanToken 2 = .ok (.iadd, 1) := by decide +kernel
theorem dX7_scanToken_3 : decode cX7_scanToken 3 = .ok (.istore 4, 2) := by decide +kernel
theorem dX7_scanToken_5 : decode cX7_scanToken 5 = .ok (.aload_n 1, 1) := by decide +kernel
theorem dX7_scanToken_6 : decode cX7_scanToken 6 = .ok (.iload_n 2, 1) := by decide +kernel
theorem dX7_scanToken_7 : decode cX7_scanToken 7 = .ok (.baload, 1) := by decide +kernel
theorem dX7_scanToken_8 : decode cX7_scanToken 8 = .ok (.invokestatic 39, 3) := by decide +kernel
theorem dX7_scanToken_11 : decode cX7_scanToken 11 = .ok (.ifCond .eq 41, 3) := by decide +kernel
theorem dX7_scanToken_14 : decode cX7_scanToken 14 = .ok (.iload 4, 2) := by decide +kernel
theorem dX7_scanToken_16 : decode cX7_scanToken 16 = .ok (.iload_n 3, 1) := by decide +kernel
theorem dX7_scanToken_17 : decode cX7_scanToken 17 = .ok (.if_icmp .ge 19, 3) := by decide +kernel
theorem dX7_scanToken_20 : decode cX7_scanToken 20 = .ok (.aload_n 1, 1) := by decide +kernel
theorem dX7_scanToken_21 : decode cX7_scanToken 21 = .ok (.iload 4, 2) := by decide +kernel
theorem dX7_scanToken_23 : decode cX7_scanToken 23 = .ok (.baload, 1) := by decide +kernel
theorem dX7_scanToken_24 : decode cX7_scanToken 24 = .ok (.invokestatic 39, 3) := by decide +kernel
theorem dX7_scanToken_27 : decode cX7_scanToken 27 = .ok (.ifCond .eq 9, 3) := by decide +kernel
theorem dX7_scanToken_30 : decode cX7_scanToken 30 = .ok (.iinc 4 1, 3) := by decide +kernel
theorem dX7_scanToken_33 : decode cX7_scanToken 33 = .ok (.goto (-19), 3) := by decide +kernel
theorem dX7_scanToken_36 : decode cX7_scanToken 36 = .ok (.aload_n 0, 1) := by decide +kernel
theorem dX7_scanToken_37 : decode cX7_scanToken 37 = .ok (.aload_n 1, 1) := by decide +kernel
theorem dX7_scanToken_38 : decode cX7_scanToken 38 = .ok (.iload_n 2, 1) := by decide +kernel
theorem dX7_scanToken_39 : decode cX7_scanToken 39 = .ok (.iload 4, 2) := by decide +kernel
theorem dX7_scanToken_41 : decode cX7_scanToken 41 = .ok (.invokestatic 43, 3) := by decide +kernel
theorem dX7_scanToken_44 : decode cX7_scanToken 44 = .ok (.iload_n 2, 1) := by decide +kernel
theorem dX7_scanToken_45 : decode cX7_scanToken 45 = .ok (.iconst 0, 1) := by decide +kernel
theorem dX7_scanToken_46 : decode cX7_scanToken 46 = .ok (.invokevirtual 35, 3) := by decide +kernel
theorem dX7_scanToken_49 : decode cX7_scanToken 49 = .ok (.goto 96, 3) := by decide +kernel
theorem dX7_scanToken_52 : decode cX7_scanToken 52 = .ok (.aload_n 1, 1) := by decide +kernel
theorem dX7_scanToken_53 : decode cX7_scanToken 53 = .ok (.iload_n 2, 1) := by decide +kernel
theorem dX7_scanToken_54 : decode cX7_scanToken 54 = .ok (.baload, 1) := by decide +kernel
theorem dX7_scanToken_55 : decode cX7_scanToken 55 = .ok (.invokestatic 46, 3) := by decide +kernel
theorem dX7_scanToken_58 : decode cX7_scanToken 58 = .ok (.ifCond .eq 74, 3) := by decide +kernel
theorem dX7_scanToken_61 : decode cX7_scanToken 61 = .ok (.iload 4, 2) := by decide +kernel
theorem dX7_scanToken_63 : decode cX7_scanToken 63 = .ok (.iload_n 3, 1) := by decide +kernel
theorem dX7_scanToken_64 : decode cX7_scanToken 64 = .ok (.if_icmp .ge 19, 3) := by decide +kernel
theorem dX7_scanToken_67 : decode cX7_scanToken 67 = .ok (.aload_n 1, 1) := by decide +kernel
theorem dX7_scanToken_68 : decode cX7_scanToken 68 = .ok (.iload 4, 2) := by decide +kernel
theorem dX7_scanToken_70 : decode cX7_scanToken 70 = .ok (.baload, 1) := by decide +kernel
theorem dX7_scanToken_71 : decode cX7_scanToken 71 = .ok (.invokestatic 46, 3) := by decide +kernel
theorem dX7_scanToken_74 : decode cX7_scanToken 74 = .ok (.ifCond .eq 9, 3) := by decide +kernel
theorem dX7_scanToken_77 : decode cX7_scanToken 77 = .ok (.iinc 4 1, 3) := by decide +kernel
theorem dX7_scanToken_80 : decode cX7_scanToken 80 = .ok (.goto (-19), 3) := by decide +kernel
theorem dX7_scanToken_83 : decode cX7_scanToken 83 = .ok (.iload 4, 2) := by decide +kernel
theorem dX7_scanToken_85 : decode cX7_scanToken 85 = .ok (.iload_n 2, 1) := by decide +kernel
theorem dX7_scanToken_86 : decode cX7_scanToken 86 = .ok (.isub, 1) := by decide +kernel
theorem dX7_scanToken_87 : decode cX7_scanToken 87 = .ok (.bipush 6, 2) := by decide +kernel
theorem dX7_scanToken_89 : decode cX7_scanToken 89 = .ok (.if_icmp .gt 9, 3) := by decide +kernel
theorem dX7_scanToken_92 : decode cX7_scanToken 92 = .ok (.sipush 258, 3) := by decide +kernel
theorem dX7_scanToken_95 : decode cX7_scanToken 95 = .ok (.goto 6, 3) := by decide +kernel
theorem dX7_scanToken_98 : decode cX7_scanToken 98 = .ok (.sipush 257, 3) := by decide +kernel
theorem dX7_scanToken_101 : decode cX7_scanToken 101 = .ok (.istore 5, 2) := by decide +kernel
theorem dX7_scanToken_103 : decode cX7_scanToken 103 = .ok (.aload_n 0, 1) := by decide +kernel
theorem dX7_scanToken_104 : decode cX7_scanToken 104 = .ok (.iload 5, 2) := by decide +kernel
theorem dX7_scanToken_106 : decode cX7_scanToken 106 = .ok (.iload_n 2, 1) := by decide +kernel
theorem dX7_scanToken_107 : decode cX7_scanToken 107 = .ok (.iload 5, 2) := by decide +kernel
theorem dX7_scanToken_109 : decode cX7_scanToken 109 = .ok (.sipush 258, 3) := by decide +kernel
theorem dX7_scanToken_112 : decode cX7_scanToken 112 = .ok (.if_icmp .ne 13, 3) := by decide +kernel
theorem dX7_scanToken_115 : decode cX7_scanToken 115 = .ok (.aload_n 1, 1) := by decide +kernel
theorem dX7_scanToken_116 : decode cX7_scanToken 116 = .ok (.iload_n 2, 1) := by decide +kernel
theorem dX7_scanToken_117 : decode cX7_scanToken 117 = .ok (.iload 4, 2) := by decide +kernel
theorem dX7_scanToken_119 : decode cX7_scanToken 119 = .ok (.invokestatic 49, 3) := by decide +kernel
theorem dX7_scanToken_122 : decode cX7_scanToken 122 = .ok (.goto 4, 3) := by decide +kernel
theorem dX7_scanToken_125 : decode cX7_scanToken 125 = .ok (.iconst 0, 1) := by decide +kernel
theorem dX7_scanToken_126 : decode cX7_scanToken 126 = .ok (.invokevirtual 35, 3) := by decide +kernel
theorem dX7_scanToken_129 : decode cX7_scanToken 129 = .ok (.goto 16, 3) := by decide +kernel
theorem dX7_scanToken_132 : decode cX7_scanToken 132 = .ok (.aload_n 0, 1) := by decide +kernel
theorem dX7_scanToken_133 : decode cX7_scanToken 133 = .ok (.aload_n 1, 1) := by decide +kernel
theorem dX7_scanToken_134 : decode cX7_scanToken 134 = .ok (.iload_n 2, 1) := by decide +kernel
theorem dX7_scanToken_135 : decode cX7_scanToken 135 = .ok (.baload, 1) := by decide +kernel
theorem dX7_scanToken_136 : decode cX7_scanToken 136 = .ok (.sipush 255, 3) := by decide +kernel
theorem dX7_scanToken_139 : decode cX7_scanToken 139 = .ok (.iand, 1) := by decide +kernel
theorem dX7_scanToken_140 : decode cX7_scanToken 140 = .ok (.iload_n 2, 1) := by decide +kernel
theorem dX7_scanToken_141 : decode cX7_scanToken 141 = .ok (.iconst 0, 1) := by decide +kernel
theorem dX7_scanToken_142 : decode cX7_scanToken 142 = .ok (.invokevirtual 35, 3) := by decide +kernel
theorem dX7_scanToken_145 : decode cX7_scanToken 145 = .ok (.iload 4, 2) := by decide +kernel
theorem dX7_scanToken_147 : decode cX7_scanToken 147 = .ok (.ireturn, 1) := by decide +kernel
theorem dX7_add_0 : decode cX7_add 0 = .ok (.aload_n 0, 1) := by decide +kernel
theorem dX7_add_1 : decode cX7_add 1 = .ok (.getfield 21, 3) := by decide +kernel
theorem dX7_add_4 : decode cX7_add 4 = .ok (.ifCond .lt 53, 3) := by decide +kernel
theorem dX7_add_7 : decode cX7_add 7 = .ok (.aload_n 0, 1) := by decide +kernel
theorem dX7_add_8 : decode cX7_add 8 = .ok (.getfield 21, 3) := by decide +kernel
theorem dX7_add_11 : decode cX7_add 11 = .ok (.sipush 400, 3) := by decide +kernel
theorem dX7_add_14 : decode cX7_add 14 = .ok (.if_icmp .gt 43, 3) := by decide +kernel
theorem dX7_add_17 : decode cX7_add 17 = .ok (.aload_n 0, 1) := by decide +kernel
theorem dX7_add_18 : decode cX7_add 18 = .ok (.getfield 9, 3) := by decide +kernel
theorem dX7_add_21 : decode cX7_add 21 = .ok (.aload_n 0, 1) := by decide +kernel
theorem dX7_add_22 : decode cX7_add 22 = .ok (.getfield 21, 3) := by decide +kernel
theorem dX7_add_25 : decode cX7_add 25 = .ok (.iload_n 1, 1) := by decide +kernel
theorem dX7_add_26 : decode cX7_add 26 = .ok (.iastore, 1) := by decide +kernel
theorem dX7_add_27 : decode cX7_add 27 = .ok (.aload_n 0, 1) := by decide +kernel
theorem dX7_add_28 : decode cX7_add 28 = .ok (.getfield 15, 3) := by decide +kernel
theorem dX7_add_31 : decode cX7_add 31 = .ok (.aload_n 0, 1) := by decide +kernel
theorem dX7_add_32 : decode cX7_add 32 = .ok (.getfield 21, 3) := by decide +kernel
theorem dX7_add_35 : decode cX7_add 35 = .ok (.iload_n 2, 1) := by decide +kernel
theorem dX7_add_36 : decode cX7_add 36 = .ok (.iastore, 1) := by decide +kernel
theorem dX7_add_37 : decode cX7_add 37 = .ok (.aload_n 0, 1) := by decide +kernel
theorem dX7_add_38 : decode cX7_add 38 = .ok (.getfield 18, 3) := by decide +kernel
theorem dX7_add_41 : decode cX7_add 41 = .ok (.aload_n 0, 1) := by decide +kernel
theorem dX7_add_42 : decode cX7_add 42 = .ok (.getfield 21, 3) := by decide +kernel
theorem dX7_add_45 : decode cX7_add 45 = .ok (.iload_n 3, 1) := by decide +kernel
theorem dX7_add_46 : decode cX7_add 46 = .ok (.iastore, 1) := by decide +kernel
theorem dX7_add_47 : decode cX7_add 47 = .ok (.aload_n 0, 1) := by decide +kernel
theorem dX7_add_48 : decode cX7_add 48 = .ok (.dup, 1) := by decide +kernel
theorem dX7_add_49 : decode cX7_add 49 = .ok (.getfield 21, 3) := by decide +kernel
theorem dX7_add_52 : decode cX7_add 52 = .ok (.iconst 1, 1) := by decide +kernel
theorem dX7_add_53 : decode cX7_add 53 = .ok (.iadd, 1) := by decide +kernel
theorem dX7_add_54 : decode cX7_add 54 = .ok (.putfield 21, 3) := by decide +kernel
theorem dX7_add_57 : decode cX7_add 57 = .ok (.return_, 1) := by decide +kernel
theorem dX7_numberOf_0 : decode cX7_numberOf 0 = .ok (.iconst 0, 1) := by decide +kernel
theorem dX7_numberOf_1 : decode cX7_numberOf 1 = .ok (.istore_n 3, 1) := by decide +kernel
theorem dX7_numberOf_2 : decode cX7_numberOf 2 = .ok (.iload_n 1, 1) := by decide +kernel
theorem dX7_numberOf_3 : decode cX7_numberOf 3 = .ok (.istore 4, 2) := by decide +kernel
theorem dX7_numberOf_5 : decode cX7_numberOf 5 = .ok (.iload 4, 2) := by decide +kernel
theorem dX7_numberOf_7 : decode cX7_numberOf 7 = .ok (.iload_n 2, 1) := by decide +kernel
theorem dX7_numberOf_8 : decode cX7_numberOf 8 = .ok (.if_icmp .ge 29, 3) := by decide +kernel
theorem dX7_numberOf_11 : decode cX7_numberOf 11 = .ok (.iload 4, 2) := by decide +kernel
theorem dX7_numberOf_13 : decode cX7_numberOf 13 = .ok (.aload_n 0, 1) := by decide +kernel
theorem dX7_numberOf_14 : decode cX7_numberOf 14 = .ok (.arraylength, 1) := by decide +kernel
theorem dX7_numberOf_15 : decode cX7_numberOf 15 = .ok (.if_icmp .ge 22, 3) := by decide +kernel
theorem dX7_numberOf_18 : decode cX7_numberOf 18 = .ok (.bipush 10, 2) := by decide +kernel
theorem dX7_numberOf_20 : decode cX7_numberOf 20 = .ok (.iload_n 3, 1) := by decide +kernel
theorem dX7_numberOf_21 : decode cX7_numberOf 21 = .ok (.imul, 1) := by decide +kernel
theorem dX7_numberOf_22 : decode cX7_numberOf 22 = .ok (.aload_n 0, 1) := by decide +kernel
theorem dX7_numberOf_23 : decode cX7_numberOf 23 = .ok (.iload 4, 2) := by decide +kernel
theorem dX7_numberOf_25 : decode cX7_numberOf 25 = .ok (.baload, 1) := by decide +kernel
theorem dX7_numberOf_26 : decode cX7_numberOf 26 = .ok (.iadd, 1) := by decide +kernel
theorem dX7_numberOf_27 : decode cX7_numberOf 27 = .ok (.bipush 48, 2) := by decide +kernel
theorem dX7_numberOf_29 : decode cX7_numberOf 29 = .ok (.isub, 1) := by decide +kernel
theorem dX7_numberOf_30 : decode cX7_numberOf 30 = .ok (.istore_n 3, 1) := by decide +kernel
theorem dX7_numberOf_31 : decode cX7_numberOf 31 = .ok (.iinc 4 1, 3) := by decide +kernel
theorem dX7_numberOf_34 : decode cX7_numberOf 34 = .ok (.goto (-29), 3) := by decide +kernel
theorem dX7_numberOf_37 : decode cX7_numberOf 37 = .ok (.iload_n 3, 1) := by decide +kernel
theorem dX7_numberOf_38 : decode cX7_numberOf 38 = .ok (.ireturn, 1) := by decide +kernel
theorem dX7_wordKind_0 : decode cX7_wordKind 0 = .ok (.ldc 52, 2) := by decide +kernel
theorem dX7_wordKind_2 : decode cX7_wordKind 2 = .ok (.aload_n 0, 1) := by decide +kernel
theorem dX7_wordKind_3 : decode cX7_wordKind 3 = .ok (.iload_n 1, 1) := by decide +kernel
theorem dX7_wordKind_4 : decode cX7_wordKind 4 = .ok (.iload_n 2, 1) := by decide +kernel
theorem dX7_wordKind_5 : decode cX7_wordKind 5 = .ok (.invokestatic 54, 3) := by decide +kernel
theorem dX7_wordKind_8 : decode cX7_wordKind 8 = .ok (.ifCond .eq 7, 3) := by decide +kernel
theorem dX7_wordKind_11 : decode cX7_wordKind 11 = .ok (.sipush 259, 3) := by decide +kernel
theorem dX7_wordKind_14 : decode cX7_wordKind 14 = .ok (.ireturn, 1) := by decide +kernel
theorem dX7_wordKind_15 : decode cX7_wordKind 15 = .ok (.ldc 58, 2) := by decide +kernel
theorem dX7_wordKind_17 : decode cX7_wordKind 17 = .ok (.aload_n 0, 1) := by decide +kernel
theorem dX7_wordKind_18 : decode cX7_wordKind 18 = .ok (.iload_n 1, 1) := by decide +kernel
theorem dX7_wordKind_19 : decode cX7_wordKind 19 = .ok (.iload_n 2, 1) := by decide +kernel
theorem dX7_wordKind_20 : decode cX7_wordKind 20 = .ok (.invokestatic 54, 3) := by decide +kernel
theorem dX7_wordKind_23 : decode cX7_wordKind 23 = .ok (.ifCond .eq 7, 3) := by decide +kernel
theorem dX7_wordKind_26 : decode cX7_wordKind 26 = .ok (.sipush 260, 3) := by decide +kernel
theorem dX7_wordKind_29 : decode cX7_wordKind 29 = .ok (.ireturn, 1) := by decide +kernel
theorem dX7_wordKind_30 : decode cX7_wordKind 30 = .ok (.ldc 60, 2) := by decide +kernel
theorem dX7_wordKind_32 : decode cX7_wordKind 32 = .ok (.aload_n 0, 1) := by decide +kernel
theorem dX7_wordKind_33 : decode cX7_wordKind 33 = .ok (.iload_n 1, 1) := by decide +kernel
theorem dX7_wordKind_34 : decode cX7_wordKind 34 = .ok (.iload_n 2, 1) := by decide +kernel
theorem dX7_wordKind_35 : decode cX7_wordKind 35 = .ok (.invokestatic 54, 3) := by decide +kernel
theorem dX7_wordKind_38 : decode cX7_wordKind 38 = .ok (.ifCond .eq 7, 3) := by decide +kernel
theorem dX7_wordKind_41 : decode cX7_wordKind 41 = .ok (.sipush 261, 3) := by decide +kernel
theorem dX7_wordKind_44 : decode cX7_wordKind 44 = .ok (.ireturn, 1) := by decide +kernel
theorem dX7_wordKind_45 : decode cX7_wordKind 45 = .ok (.ldc 62, 2) := by decide +kernel
theorem dX7_wordKind_47 : decode cX7_wordKind 47 = .ok (.aload_n 0, 1) := by decide +kernel
theorem dX7_wordKind_48 : decode cX7_wordKind 48 = .ok (.iload_n 1, 1) := by decide +kernel
theorem dX7_wordKind_49 : decode cX7_wordKind 49 = .ok (.iload_n 2, 1) := by decide +kernel
theorem dX7_wordKind_50 : decode cX7_wordKind 50 = .ok (.invokestatic 54, 3) := by decide +kernel
theorem dX7_wordKind_53 : decode cX7_wordKind 53 = .ok (.ifCond .eq 7, 3) := by decide +kernel
theorem dX7_wordKind_56 : decode cX7_wordKind 56 = .ok (.sipush 262, 3) := by decide +kernel
theorem dX7_wordKind_59 : decode cX7_wordKind 59 = .ok (.ireturn, 1) := by decide +kernel
theorem dX7_wordKind_60 : decode cX7_wordKind 60 = .ok (.ldc 64, 2) := by decide +kernel
theorem dX7_wordKind_62 : decode cX7_wordKind 62 = .ok (.aload_n 0, 1) := by decide +kernel
theorem dX7_wordKind_63 : decode cX7_wordKind 63 = .ok (.iload_n 1, 1) := by decide +kernel
theorem dX7_wordKind_64 : decode cX7_wordKind 64 = .ok (.iload_n 2, 1) := by decide +kernel
theorem dX7_wordKind_65 : decode cX7_wordKind 65 = .ok (.invokestatic 54, 3) := by decide +kernel
theorem dX7_wordKind_68 : decode cX7_wordKind 68 = .ok (.ifCond .eq 7, 3) := by decide +kernel
theorem dX7_wordKind_71 : decode cX7_wordKind 71 = .ok (.sipush 263, 3) := by decide +kernel
theorem dX7_wordKind_74 : decode cX7_wordKind 74 = .ok (.ireturn, 1) := by decide +kernel
theorem dX7_wordKind_75 : decode cX7_wordKind 75 = .ok (.ldc 66, 2) := by decide +kernel
theorem dX7_wordKind_77 : decode cX7_wordKind 77 = .ok (.aload_n 0, 1) := by decide +kernel
theorem dX7_wordKind_78 : decode cX7_wordKind 78 = .ok (.iload_n 1, 1) := by decide +kernel
theorem dX7_wordKind_79 : decode cX7_wordKind 79 = .ok (.iload_n 2, 1) := by decide +kernel
theorem dX7_wordKind_80 : decode cX7_wordKind 80 = .ok (.invokestatic 54, 3) := by decide +kernel
theorem dX7_wordKind_83 : decode cX7_wordKind 83 = .ok (.ifCond .eq 7, 3) := by decide +kernel
theorem dX7_wordKind_86 : decode cX7_wordKind 86 = .ok (.sipush 264, 3) := by decide +kernel
theorem dX7_wordKind_89 : decode cX7_wordKind 89 = .ok (.ireturn, 1) := by decide +kernel
theorem dX7_wordKind_90 : decode cX7_wordKind 90 = .ok (.ldc 68, 2) := by decide +kernel
theorem dX7_wordKind_92 : decode cX7_wordKind 92 = .ok (.aload_n 0, 1) := by decide +kernel
theorem dX7_wordKind_93 : decode cX7_wordKind 93 = .ok (.iload_n 1, 1) := by decide +kernel
theorem dX7_wordKind_94 : decode cX7_wordKind 94 = .ok (.iload_n 2, 1) := by decide +kernel
theorem dX7_wordKind_95 : decode cX7_wordKind 95 = .ok (.invokestatic 54, 3) := by decide +kernel
theorem dX7_wordKind_98 : decode cX7_wordKind 98 = .ok (.ifCond .eq 9, 3) := by decide +kernel
theorem dX7_wordKind_101 : decode cX7_wordKind 101 = .ok (.sipush 265, 3) := by decide +kernel
theorem dX7_wordKind_104 : decode cX7_wordKind 104 = .ok (.goto 6, 3) := by decide +kernel
theorem dX7_wordKind_107 : decode cX7_wordKind 107 = .ok (.sipush 257, 3) := by decide +kernel
theorem dX7_wordKind_110 : decode cX7_wordKind 110 = .ok (.ireturn, 1) := by decide +kernel
theorem dX7_isWord_0 : decode cX7_isWord 0 = .ok (.iload_n 3, 1) := by decide +kernel
theorem dX7_isWord_1 : decode cX7_isWord 1 = .ok (.iload_n 2, 1) := by decide +kernel
theorem dX7_isWord_2 : decode cX7_isWord 2 = .ok (.isub, 1) := by decide +kernel
theorem dX7_isWord_3 : decode cX7_isWord 3 = .ok (.aload_n 0, 1) := by decide +kernel
theorem dX7_isWord_4 : decode cX7_isWord 4 = .ok (.invokevirtual 70, 3) := by decide +kernel
theorem dX7_isWord_7 : decode cX7_isWord 7 = .ok (.if_icmp .ne 13, 3) := by decide +kernel
theorem dX7_isWord_10 : decode cX7_isWord 10 = .ok (.iload_n 2, 1) := by decide +kernel
theorem dX7_isWord_11 : decode cX7_isWord 11 = .ok (.ifCond .lt 9, 3) := by decide +kernel
theorem dX7_isWord_14 : decode cX7_isWord 14 = .ok (.iload_n 3, 1) := by decide +kernel
theorem dX7_isWord_15 : decode cX7_isWord 15 = .ok (.aload_n 1, 1) := by decide +kernel
theorem dX7_isWord_16 : decode cX7_isWord 16 = .ok (.arraylength, 1) := by decide +kernel
theorem dX7_isWord_17 : decode cX7_isWord 17 = .ok (.if_icmp .le 5, 3) := by decide +kernel
theorem dX7_isWord_20 : decode cX7_isWord 20 = .ok (.iconst 0, 1) := by decide +kernel
theorem dX7_isWord_21 : decode cX7_isWord 21 = .ok (.ireturn, 1) := by decide +kernel
theorem dX7_isWord_22 : decode cX7_isWord 22 = .ok (.iload_n 2, 1) := by decide +kernel
theorem dX7_isWord_23 : decode cX7_isWord 23 = .ok (.istore 4, 2) := by decide +kernel
theorem dX7_isWord_25 : decode cX7_isWord 25 = .ok (.iload 4, 2) := by decide +kernel
theorem dX7_isWord_27 : decode cX7_isWord 27 = .ok (.iload_n 3, 1) := by decide +kernel
theorem dX7_isWord_28 : decode cX7_isWord 28 = .ok (.if_icmp .ge 26, 3) := by decide +kernel
theorem dX7_isWord_31 : decode cX7_isWord 31 = .ok (.aload_n 1, 1) := by decide +kernel
theorem dX7_isWord_32 : decode cX7_isWord 32 = .ok (.iload 4, 2) := by decide +kernel
theorem dX7_isWord_34 : decode cX7_isWord 34 = .ok (.baload, 1) := by decide +kernel
theorem dX7_isWord_35 : decode cX7_isWord 35 = .ok (.aload_n 0, 1) := by decide +kernel
theorem dX7_isWord_36 : decode cX7_isWord 36 = .ok (.iload 4, 2) := by decide +kernel
theorem dX7_isWord_38 : decode cX7_isWord 38 = .ok (.iload_n 2, 1) := by decide +kernel
theorem dX7_isWord_39 : decode cX7_isWord 39 = .ok (.isub, 1) := by decide +kernel
theorem dX7_isWord_40 : decode cX7_isWord 40 = .ok (.invokevirtual 76, 3) := by decide +kernel
theorem dX7_isWord_43 : decode cX7_isWord 43 = .ok (.if_icmp .eq 5, 3) := by decide +kernel
theorem dX7_isWord_46 : decode cX7_isWord 46 = .ok (.iconst 0, 1) := by decide +kernel
theorem dX7_isWord_47 : decode cX7_isWord 47 = .ok (.ireturn, 1) := by decide +kernel
theorem dX7_isWord_48 : decode cX7_isWord 48 = .ok (.iinc 4 1, 3) := by decide +kernel
theorem dX7_isWord_51 : decode cX7_isWord 51 = .ok (.goto (-26), 3) := by decide +kernel
theorem dX7_isWord_54 : decode cX7_isWord 54 = .ok (.iconst 1, 1) := by decide +kernel
theorem dX7_isWord_55 : decode cX7_isWord 55 = .ok (.ireturn, 1) := by decide +kernel
theorem dX8_houseAt_0 : decode cX8_houseAt 0 = .ok (.iload_n 1, 1) := by decide +kernel
theorem dX8_houseAt_1 : decode cX8_houseAt 1 = .ok (.ifCond .lt 26, 3) := by decide +kernel
theorem dX8_houseAt_4 : decode cX8_houseAt 4 = .ok (.iload_n 1, 1) := by decide +kernel
theorem dX8_houseAt_5 : decode cX8_houseAt 5 = .ok (.aload_n 0, 1) := by decide +kernel
theorem dX8_houseAt_6 : decode cX8_houseAt 6 = .ok (.getfield 19, 3) := by decide +kernel
theorem dX8_houseAt_9 : decode cX8_houseAt 9 = .ok (.if_icmp .ge 18, 3) := by decide +kernel
theorem dX8_houseAt_12 : decode cX8_houseAt 12 = .ok (.iload_n 1, 1) := by decide +kernel
theorem dX8_houseAt_13 : decode cX8_houseAt 13 = .ok (.bipush 20, 2) := by decide +kernel
theorem dX8_houseAt_15 : decode cX8_houseAt 15 = .ok (.if_icmp .ge 12, 3) := by decide +kernel
theorem dX8_houseAt_18 : decode cX8_houseAt 18 = .ok (.aload_n 0, 1) := by decide +kernel
theorem dX8_houseAt_19 : decode cX8_houseAt 19 = .ok (.getfield 9, 3) := by decide +kernel
theorem dX8_houseAt_22 : decode cX8_houseAt 22 = .ok (.iload_n 1, 1) := by decide +kernel
theorem dX8_houseAt_23 : decode cX8_houseAt 23 = .ok (.iaload, 1) := by decide +kernel
theorem dX8_houseAt_24 : decode cX8_houseAt 24 = .ok (.goto 4, 3) := by decide +kernel
theorem dX8_houseAt_27 : decode cX8_houseAt 27 = .ok (.iconst (-1), 1) := by decide +kernel
theorem dX8_houseAt_28 : decode cX8_houseAt 28 = .ok (.ireturn, 1) := by decide +kernel
theorem dX8_goRound_0 : decode cX8_goRound 0 = .ok (.iconst 2, 1) := by decide +kernel
theorem dX8_goRound_1 : decode cX8_goRound 1 = .ok (.iload_n 3, 1) := by decide +kernel
theorem dX8_goRound_2 : decode cX8_goRound 2 = .ok (.imul, 1) := by decide +kernel
theorem dX8_goRound_3 : decode cX8_goRound 3 = .ok (.aload_n 0, 1) := by decide +kernel
theorem dX8_goRound_4 : decode cX8_goRound 4 = .ok (.getfield 23, 3) := by decide +kernel
theorem dX8_goRound_7 : decode cX8_goRound 7 = .ok (.iadd, 1) := by decide +kernel
theorem dX8_goRound_8 : decode cX8_goRound 8 = .ok (.istore 4, 2) := by decide +kernel
theorem dX8_goRound_10 : decode cX8_goRound 10 = .ok (.iload_n 2, 1) := by decide +kernel
theorem dX8_goRound_11 : decode cX8_goRound 11 = .ok (.istore 5, 2) := by decide +kernel
theorem dX8_goRound_13 : decode cX8_goRound 13 = .ok (.aload_n 0, 1) := by decide +kernel
theorem dX8_goRound_14 : decode cX8_goRound 14 = .ok (.dup, 1) := by decide +kernel
theorem dX8_goRound_15 : decode cX8_goRound 15 = .ok (.getfield 23, 3) := by decide +kernel
theorem dX8_goRound_18 : decode cX8_goRound 18 = .ok (.iconst 1, 1) := by decide +kernel
theorem dX8_goRound_19 : decode cX8_goRound 19 = .ok (.iadd, 1) := by decide +kernel
theorem dX8_goRound_20 : decode cX8_goRound 20 = .ok (.putfield 23, 3) := by decide +kernel
theorem dX8_goRound_23 : decode cX8_goRound 23 = .ok (.aload_n 0, 1) := by decide +kernel
theorem dX8_goRound_24 : decode cX8_goRound 24 = .ok (.iconst 0, 1) := by decide +kernel
theorem dX8_goRound_25 : decode cX8_goRound 25 = .ok (.putfield 19, 3) := by decide +kernel
theorem dX8_goRound_28 : decode cX8_goRound 28 = .ok (.iconst 0, 1) := by decide +kernel
theorem dX8_goRound_29 : decode cX8_goRound 29 = .ok (.istore 6, 2) := by decide +kernel
theorem dX8_goRound_31 : decode cX8_goRound 31 = .ok (.iload 6, 2) := by decide +kernel
theorem dX8_goRound_33 : decode cX8_goRound 33 = .ok (.bipush 20, 2) := by decide +kernel
theorem dX8_goRound_35 : decode cX8_goRound 35 = .ok (.if_icmp .ge 17, 3) := by decide +kernel
theorem dX8_goRound_38 : decode cX8_goRound 38 = .ok (.aload_n 0, 1) := by decide +kernel
theorem dX8_goRound_39 : decode cX8_goRound 39 = .ok (.getfield 15, 3) := by decide +kernel
theorem dX8_goRound_42 : decode cX8_goRound 42 = .ok (.iload 6, 2) := by decide +kernel
theorem dX8_goRound_44 : decode cX8_goRound 44 = .ok (.iconst 0, 1) := by decide +kernel
theorem dX8_goRound_45 : decode cX8_goRound 45 = .ok (.bastore, 1) := by decide +kernel
theorem dX8_goRound_46 : decode cX8_goRound 46 = .ok (.iinc 6 1, 3) := by decide +kernel
theorem dX8_goRound_49 : decode cX8_goRound 49 = .ok (.goto (-18), 3) := by decide +kernel
theorem dX8_goRound_52 : decode cX8_goRound 52 = .ok (.iconst 0, 1) := by decide +kernel
theorem dX8_goRound_53 : decode cX8_goRound 53 = .ok (.istore 6, 2) := by decide +kernel
theorem dX8_goRound_55 : decode cX8_goRound 55 = .ok (.iload 6, 2) := by decide +kernel
theorem dX8_goRound_57 : decode cX8_goRound 57 = .ok (.aload_n 1, 1) := by decide +kernel
theorem dX8_goRound_58 : decode cX8_goRound 58 = .ok (.invokevirtual 26, 3) := by decide +kernel
theorem dX8_goRound_61 : decode cX8_goRound 61 = .ok (.if_icmp .ge 78, 3) := by decide +kernel
theorem dX8_goRound_64 : decode cX8_goRound 64 = .ok (.aload_n 1, 1) := by decide +kernel
theorem dX8_goRound_65 : decode cX8_goRound 65 = .ok (.iload 6, 2) := by decide +kernel
theorem dX8_goRound_67 : decode cX8_goRound 67 = .ok (.invokevirtual 32, 3) := by decide +kernel
theorem dX8_goRound_70 : decode cX8_goRound 70 = .ok (.checkcast 36, 3) := by decide +kernel
theorem dX8_goRound_73 : decode cX8_goRound 73 = .ok (.astore 7, 2) := by decide +kernel
theorem dX8_goRound_75 : decode cX8_goRound 75 = .ok (.aload 7, 2) := by decide +kernel
theorem dX8_goRound_77 : decode cX8_goRound 77 = .ok (.invokevirtual 38, 3) := by decide +kernel
theorem dX8_goRound_80 : decode cX8_goRound 80 = .ok (.ifCond .eq 53, 3) := by decide +kernel
theorem dX8_goRound_83 : decode cX8_goRound 83 = .ok (.aload_n 0, 1) := by decide +kernel
theorem dX8_goRound_84 : decode cX8_goRound 84 = .ok (.aload 7, 2) := by decide +kernel
theorem dX8_goRound_86 : decode cX8_goRound 86 = .ok (.getfield 42, 3) := by decide +kernel
theorem dX8_goRound_89 : decode cX8_goRound 89 = .ok (.invokevirtual 45, 3) := by decide +kernel
theorem dX8_goRound_92 : decode cX8_goRound 92 = .ok (.ifCond .eq 41, 3) := by decide +kernel
theorem dX8_goRound_95 : decode cX8_goRound 95 = .ok (.aload_n 0, 1) := by decide +kernel
theorem dX8_goRound_96 : decode cX8_goRound 96 = .ok (.aload_n 1, 1) := by decide +kernel
theorem dX8_goRound_97 : decode cX8_goRound 97 = .ok (.aload 7, 2) := by decide +kernel
theorem dX8_goRound_99 : decode cX8_goRound 99 = .ok (.getfield 42, 3) := by decide +kernel
theorem dX8_goRound_102 : decode cX8_goRound 102 = .ok (.invokevirtual 49, 3) := by decide +kernel
theorem dX8_goRound_105 : decode cX8_goRound 105 = .ok (.istore 8, 2) := by decide +kernel
theorem dX8_goRound_107 : decode cX8_goRound 107 = .ok (.iload 8, 2) := by decide +kernel
theorem dX8_goRound_109 : decode cX8_goRound 109 = .ok (.iload 5, 2) := by decide +kernel
theorem dX8_goRound_111 : decode cX8_goRound 111 = .ok (.if_icmp .gt 22, 3) := by decide +kernel
theorem dX8_goRound_114 : decode cX8_goRound 114 = .ok (.iload 5, 2) := by decide +kernel
theorem dX8_goRound_116 : decode cX8_goRound 116 = .ok (.iload 8, 2) := by decide +kernel
theorem dX8_goRound_118 : decode cX8_goRound 118 = .ok (.isub, 1) := by decide +kernel
theorem dX8_goRound_119 : decode cX8_goRound 119 = .ok (.istore 5, 2) := by decide +kernel
theorem dX8_goRound_121 : decode cX8_goRound 121 = .ok (.aload_n 0, 1) := by decide +kernel
theorem dX8_goRound_122 : decode cX8_goRound 122 = .ok (.aload_n 1, 1) := by decide +kernel
theorem dX8_goRound_123 : decode cX8_goRound 123 = .ok (.aload 7, 2) := by decide +kernel
theorem dX8_goRound_125 : decode cX8_goRound 125 = .ok (.getfield 42, 3) := by decide +kernel
theorem dX8_goRound_128 : decode cX8_goRound 128 = .ok (.iload 4, 2) := by decide +kernel
theorem dX8_goRound_130 : decode cX8_goRound 130 = .ok (.invokevirtual 53, 3) := by decide +kernel
theorem dX8_goRound_133 : decode cX8_goRound 133 = .ok (.iinc 6 1, 3) := by decide +kernel
theorem dX8_goRound_136 : decode cX8_goRound 136 = .ok (.goto (-81), 3) := by decide +kernel
theorem dX8_goRound_139 : decode cX8_goRound 139 = .ok (.iload_n 2, 1) := by decide +kernel
theorem dX8_goRound_140 : decode cX8_goRound 140 = .ok (.iload 5, 2) := by decide +kernel
theorem dX8_goRound_142 : decode cX8_goRound 142 = .ok (.isub, 1) := by decide +kernel
theorem dX8_goRound_143 : decode cX8_goRound 143 = .ok (.ireturn, 1) := by decide +kernel
theorem dX8_askOnce_0 : decode cX8_askOnce 0 = .ok (.iload_n 1, 1) := by decide +kernel
theorem dX8_askOnce_1 : decode cX8_askOnce 1 = .ok (.ifCond .lt 18, 3) := by decide +kernel
theorem dX8_askOnce_4 : decode cX8_askOnce 4 = .ok (.iload_n 1, 1) := by decide +kernel
theorem dX8_askOnce_5 : decode cX8_askOnce 5 = .ok (.bipush 20, 2) := by decide +kernel
theorem dX8_askOnce_7 : decode cX8_askOnce 7 = .ok (.if_icmp .ge 12, 3) := by decide +kernel
theorem dX8_askOnce_10 : decode cX8_askOnce 10 = .ok (.aload_n 0, 1) := by decide +kernel
theorem dX8_askOnce_11 : decode cX8_askOnce 11 = .ok (.getfield 15, 3) := by decide +kernel
theorem dX8_askOnce_14 : decode cX8_askOnce 14 = .ok (.iload_n 1, 1) := by decide +kernel
theorem dX8_askOnce_15 : decode cX8_askOnce 15 = .ok (.baload, 1) := by decide +kernel
theorem dX8_askOnce_16 : decode cX8_askOnce 16 = .ok (.ifCond .eq 5, 3) := by decide +kernel
theorem dX8_askOnce_19 : decode cX8_askOnce 19 = .ok (.iconst 0, 1) := by decide +kernel
theorem dX8_askOnce_20 : decode cX8_askOnce 20 = .ok (.ireturn, 1) := by decide +kernel
theorem dX8_askOnce_21 : decode cX8_askOnce 21 = .ok (.aload_n 0, 1) := by decide +kernel
theorem dX8_askOnce_22 : decode cX8_askOnce 22 = .ok (.getfield 15, 3) := by decide +kernel
theorem dX8_askOnce_25 : decode cX8_askOnce 25 = .ok (.iload_n 1, 1) := by decide +kernel
theorem dX8_askOnce_26 : decode cX8_askOnce 26 = .ok (.iconst 1, 1) := by decide +kernel
theorem dX8_askOnce_27 : decode cX8_askOnce 27 = .ok (.bastore, 1) := by decide +kernel
theorem dX8_askOnce_28 : decode cX8_askOnce 28 = .ok (.iconst 1, 1) := by decide +kernel
theorem dX8_askOnce_29 : decode cX8_askOnce 29 = .ok (.ireturn, 1) := by decide +kernel
theorem dX8_piecesFor_0 : decode cX8_piecesFor 0 = .ok (.iconst 0, 1) := by decide +kernel
theorem dX8_piecesFor_1 : decode cX8_piecesFor 1 = .ok (.istore_n 3, 1) := by decide +kernel
theorem dX8_piecesFor_2 : decode cX8_piecesFor 2 = .ok (.iconst 0, 1) := by decide +kernel
theorem dX8_piecesFor_3 : decode cX8_piecesFor 3 = .ok (.istore 4, 2) := by decide +kernel
theorem dX8_piecesFor_5 : decode cX8_piecesFor 5 = .ok (.iload 4, 2) := by decide +kernel
theorem dX8_piecesFor_7 : decode cX8_piecesFor 7 = .ok (.aload_n 1, 1) := by decide +kernel
theorem dX8_piecesFor_8 : decode cX8_piecesFor 8 = .ok (.invokevirtual 26, 3) := by decide +kernel
theorem dX8_piecesFor_11 : decode cX8_piecesFor 11 = .ok (.if_icmp .ge 45, 3) := by decide +kernel
theorem dX8_piecesFor_14 : decode cX8_piecesFor 14 = .ok (.aload_n 1, 1) := by decide +kernel
theorem dX8_piecesFor_15 : decode cX8_piecesFor 15 = .ok (.iload 4, 2) := by decide +kernel
theorem dX8_piecesFor_17 : decode cX8_piecesFor 17 = .ok (.invokevirtual 32, 3) := by decide +kernel
theorem dX8_piecesFor_20 : decode cX8_piecesFor 20 = .ok (.checkcast 36, 3) := by decide +kernel
theorem dX8_piecesFor_23 : decode cX8_piecesFor 23 = .ok (.astore 5, 2) := by decide +kernel
theorem dX8_piecesFor_25 : decode cX8_piecesFor 25 = .ok (.aload 5, 2) := by decide +kernel
theorem dX8_piecesFor_27 : decode cX8_piecesFor 27 = .ok (.getfield 42, 3) := by decide +kernel
theorem dX8_piecesFor_30 : decode cX8_piecesFor 30 = .ok (.iload_n 2, 1) := by decide +kernel
theorem dX8_piecesFor_31 : decode cX8_piecesFor 31 = .ok (.if_icmp .ne 19, 3) := by decide +kernel
theorem dX8_piecesFor_34 : decode cX8_piecesFor 34 = .ok (.aload 5, 2) := by decide +kernel
theorem dX8_piecesFor_36 : decode cX8_piecesFor 36 = .ok (.invokevirtual 38, 3) := by decide +kernel
theorem dX8_piecesFor_39 : decode cX8_piecesFor 39 = .ok (.ifCond .eq 11, 3) := by decide +kernel
theorem dX8_piecesFor_42 : decode cX8_piecesFor 42 = .ok (.iload_n 3, 1) := by decide +kernel
theorem dX8_piecesFor_43 : decode cX8_piecesFor 43 = .ok (.aload 5, 2) := by decide +kernel
theorem dX8_piecesFor_45 : decode cX8_piecesFor 45 = .ok (.getfield 57, 3) := by decide +kernel
theorem dX8_piecesFor_48 : decode cX8_piecesFor 48 = .ok (.iadd, 1) := by decide +kernel
theorem dX8_piecesFor_49 : decode cX8_piecesFor 49 = .ok (.istore_n 3, 1) := by decide +kernel
theorem dX8_piecesFor_50 : decode cX8_piecesFor 50 = .ok (.iinc 4 1, 3) := by decide +kernel
theorem dX8_piecesFor_53 : decode cX8_piecesFor 53 = .ok (.goto (-48), 3) := by decide +kernel
theorem dX8_piecesFor_56 : decode cX8_piecesFor 56 = .ok (.iload_n 3, 1) := by decide +kernel
theorem dX8_piecesFor_57 : decode cX8_piecesFor 57 = .ok (.ireturn, 1) := by decide +kernel
theorem dX8_take_0 : decode cX8_take 0 = .ok (.aload_n 0, 1) := by decide +kernel
theorem dX8_take_1 : decode cX8_take 1 = .ok (.getfield 19, 3) := by decide +kernel
theorem dX8_take_4 : decode cX8_take 4 = .ok (.bipush 20, 2) := by decide +kernel
theorem dX8_take_6 : decode cX8_take 6 = .ok (.if_icmp .ge 23, 3) := by decide +kernel
theorem dX8_take_9 : decode cX8_take 9 = .ok (.aload_n 0, 1) := by decide +kernel
theorem dX8_take_10 : decode cX8_take 10 = .ok (.getfield 9, 3) := by decide +kernel
theorem dX8_take_13 : decode cX8_take 13 = .ok (.aload_n 0, 1) := by decide +kernel
theorem dX8_take_14 : decode cX8_take 14 = .ok (.getfield 19, 3) := by decide +kernel
theorem dX8_take_17 : decode cX8_take 17 = .ok (.iload_n 2, 1) := by decide +kernel
theorem dX8_take_18 : decode cX8_take 18 = .ok (.iastore, 1) := by decide +kernel
theorem dX8_take_19 : decode cX8_take 19 = .ok (.aload_n 0, 1) := by decide +kernel
theorem dX8_take_20 : decode cX8_take 20 = .ok (.dup, 1) := by decide +kernel
theorem dX8_take_21 : decode cX8_take 21 = .ok (.getfield 19, 3) := by decide +kernel
theorem dX8_take_24 : decode cX8_take 24 = .ok (.iconst 1, 1) := by decide +kernel
theorem dX8_take_25 : decode cX8_take 25 = .ok (.iadd, 1) := by decide +kernel
theorem dX8_take_26 : decode cX8_take 26 = .ok (.putfield 19, 3) := by decide +kernel
theorem dX8_take_29 : decode cX8_take 29 = .ok (.iconst 0, 1) := by decide +kernel
theorem dX8_take_30 : decode cX8_take 30 = .ok (.istore 4, 2) := by decide +kernel
theorem dX8_take_32 : decode cX8_take 32 = .ok (.iload 4, 2) := by decide +kernel
theorem dX8_take_34 : decode cX8_take 34 = .ok (.aload_n 1, 1) := by decide +kernel
theorem dX8_take_35 : decode cX8_take 35 = .ok (.invokevirtual 26, 3) := by decide +kernel
theorem dX8_take_38 : decode cX8_take 38 = .ok (.if_icmp .ge 43, 3) := by decide +kernel
theorem dX8_take_41 : decode cX8_take 41 = .ok (.aload_n 1, 1) := by decide +kernel
theorem dX8_take_42 : decode cX8_take 42 = .ok (.iload 4, 2) := by decide +kernel
theorem dX8_take_44 : decode cX8_take 44 = .ok (.invokevirtual 32, 3) := by decide +kernel
theorem dX8_take_47 : decode cX8_take 47 = .ok (.checkcast 36, 3) := by decide +kernel
theorem dX8_take_50 : decode cX8_take 50 = .ok (.astore 5, 2) := by decide +kernel
theorem dX8_take_52 : decode cX8_take 52 = .ok (.aload 5, 2) := by decide +kernel
theorem dX8_take_54 : decode cX8_take 54 = .ok (.getfield 42, 3) := by decide +kernel
theorem dX8_take_57 : decode cX8_take 57 = .ok (.iload_n 2, 1) := by decide +kernel
theorem dX8_take_58 : decode cX8_take 58 = .ok (.if_icmp .ne 17, 3) := by decide +kernel
theorem dX8_take_61 : decode cX8_take 61 = .ok (.aload 5, 2) := by decide +kernel
theorem dX8_take_63 : decode cX8_take 63 = .ok (.invokevirtual 38, 3) := by decide +kernel
theorem dX8_take_66 : decode cX8_take 66 = .ok (.ifCond .eq 9, 3) := by decide +kernel
theorem dX8_take_69 : decode cX8_take 69 = .ok (.aload 5, 2) := by decide +kernel
theorem dX8_take_71 : decode cX8_take 71 = .ok (.iload_n 3, 1) := by decide +kernel
theorem dX8_take_72 : decode cX8_take 72 = .ok (.putfield 60, 3) := by decide +kernel
theorem dX8_take_75 : decode cX8_take 75 = .ok (.iinc 4 1, 3) := by decide +kernel
theorem dX8_take_78 : decode cX8_take 78 = .ok (.goto (-46), 3) := by decide +kernel
theorem dX8_take_81 : decode cX8_take 81 = .ok (.return_, 1) := by decide +kernel
theorem dX9_thing_0 : decode cX9_thing 0 = .ok (.aload_n 0, 1) := by decide +kernel
theorem dX9_thing_1 : decode cX9_thing 1 = .ok (.getfield 12, 3) := by decide +kernel
theorem dX9_thing_4 : decode cX9_thing 4 = .ok (.invokevirtual 77, 3) := by decide +kernel
theorem dX9_thing_7 : decode cX9_thing 7 = .ok (.bipush 12, 2) := by decide +kernel
theorem dX9_thing_9 : decode cX9_thing 9 = .ok (.if_icmp .ge 21, 3) := by decide +kernel
theorem dX9_thing_12 : decode cX9_thing 12 = .ok (.iload_n 1, 1) := by decide +kernel
theorem dX9_thing_13 : decode cX9_thing 13 = .ok (.invokestatic 81, 3) := by decide +kernel
theorem dX9_thing_16 : decode cX9_thing 16 = .ok (.ifCond .eq 14, 3) := by decide +kernel
theorem dX9_thing_19 : decode cX9_thing 19 = .ok (.iload_n 2, 1) := by decide +kernel
theorem dX9_thing_20 : decode cX9_thing 20 = .ok (.iconst 0, 1) := by decide +kernel
theorem dX9_thing_21 : decode cX9_thing 21 = .ok (.sipush 999, 3) := by decide +kernel
theorem dX9_thing_24 : decode cX9_thing 24 = .ok (.invokestatic 85, 3) := by decide +kernel
theorem dX9_thing_27 : decode cX9_thing 27 = .ok (.ifCond .ne 5, 3) := by decide +kernel
theorem dX9_thing_30 : decode cX9_thing 30 = .ok (.iconst (-1), 1) := by decide +kernel
theorem dX9_thing_31 : decode cX9_thing 31 = .ok (.ireturn, 1) := by decide +kernel
theorem dX9_thing_32 : decode cX9_thing 32 = .ok (.aload_n 0, 1) := by decide +kernel
theorem dX9_thing_33 : decode cX9_thing 33 = .ok (.getfield 12, 3) := by decide +kernel
theorem dX9_thing_36 : decode cX9_thing 36 = .ok (.new 89, 3) := by decide +kernel
theorem dX9_thing_39 : decode cX9_thing 39 = .ok (.dup, 1) := by decide +kernel
theorem dX9_thing_40 : decode cX9_thing 40 = .ok (.aload_n 0, 1) := by decide +kernel
theorem dX9_thing_41 : decode cX9_thing 41 = .ok (.getfield 73, 3) := by decide +kernel
theorem dX9_thing_44 : decode cX9_thing 44 = .ok (.iload_n 1, 1) := by decide +kernel
theorem dX9_thing_45 : decode cX9_thing 45 = .ok (.iload_n 2, 1) := by decide +kernel
theorem dX9_thing_46 : decode cX9_thing 46 = .ok (.invokespecial 91, 3) := by decide +kernel
theorem dX9_thing_49 : decode cX9_thing 49 = .ok (.invokevirtual 94, 3) := by decide +kernel
theorem dX9_thing_52 : decode cX9_thing 52 = .ok (.pop, 1) := by decide +kernel
theorem dX9_thing_53 : decode cX9_thing 53 = .ok (.aload_n 0, 1) := by decide +kernel
theorem dX9_thing_54 : decode cX9_thing 54 = .ok (.getfield 12, 3) := by decide +kernel
theorem dX9_thing_57 : decode cX9_thing 57 = .ok (.invokevirtual 77, 3) := by decide +kernel
theorem dX9_thing_60 : decode cX9_thing 60 = .ok (.iconst 1, 1) := by decide +kernel
theorem dX9_thing_61 : decode cX9_thing 61 = .ok (.isub, 1) := by decide +kernel
theorem dX9_thing_62 : decode cX9_thing 62 = .ok (.ireturn, 1) := by decide +kernel
theorem dX9_tag_0 : decode cX9_tag 0 = .ok (.aload_n 0, 1) := by decide +kernel
theorem dX9_tag_1 : decode cX9_tag 1 = .ok (.iload_n 1, 1) := by decide +kernel
theorem dX9_tag_2 : decode cX9_tag 2 = .ok (.invokevirtual 98, 3) := by decide +kernel
theorem dX9_tag_5 : decode cX9_tag 5 = .ok (.astore_n 3, 1) := by decide +kernel
theorem dX9_tag_6 : decode cX9_tag 6 = .ok (.aload_n 3, 1) := by decide +kernel
theorem dX9_tag_7 : decode cX9_tag 7 = .ok (.ifnull 10, 3) := by decide +kernel
theorem dX9_tag_10 : decode cX9_tag 10 = .ok (.iload_n 2, 1) := by decide +kernel
theorem dX9_tag_11 : decode cX9_tag 11 = .ok (.invokestatic 81, 3) := by decide +kernel
theorem dX9_tag_14 : decode cX9_tag 14 = .ok (.ifCond .ne 5, 3) := by decide +kernel
theorem dX9_tag_17 : decode cX9_tag 17 = .ok (.iconst (-1), 1) := by decide +kernel
theorem dX9_tag_18 : decode cX9_tag 18 = .ok (.ireturn, 1) := by decide +kernel
theorem dX9_tag_19 : decode cX9_tag 19 = .ok (.aload_n 3, 1) := by decide +kernel
theorem dX9_tag_20 : decode cX9_tag 20 = .ok (.aload_n 0, 1) := by decide +kernel
theorem dX9_tag_21 : decode cX9_tag 21 = .ok (.getfield 73, 3) := by decide +kernel
theorem dX9_tag_24 : decode cX9_tag 24 = .ok (.iload_n 2, 1) := by decide +kernel
theorem dX9_tag_25 : decode cX9_tag 25 = .ok (.invokevirtual 102, 3) := by decide +kernel
theorem dX9_tag_28 : decode cX9_tag 28 = .ok (.ireturn, 1) := by decide +kernel
theorem dX9_of_0 : decode cX9_of 0 = .ok (.aload_n 0, 1) := by decide +kernel
theorem dX9_of_1 : decode cX9_of 1 = .ok (.iload_n 1, 1) := by decide +kernel
theorem dX9_of_2 : decode cX9_of 2 = .ok (.invokevirtual 98, 3) := by decide +kernel
theorem dX9_of_5 : decode cX9_of 5 = .ok (.astore_n 3, 1) := by decide +kernel
theorem dX9_of_6 : decode cX9_of 6 = .ok (.aload_n 3, 1) := by decide +kernel
theorem dX9_of_7 : decode cX9_of 7 = .ok (.ifnonnull 5, 3) := by decide +kernel
theorem dX9_of_10 : decode cX9_of 10 = .ok (.iconst (-1), 1) := by decide +kernel
theorem dX9_of_11 : decode cX9_of 11 = .ok (.ireturn, 1) := by decide +kernel
theorem dX9_of_12 : decode cX9_of 12 = .ok (.iload_n 2, 1) := by decide +kernel
theorem dX9_of_13 : decode cX9_of 13 = .ok (.sipush 1000, 3) := by decide +kernel
theorem dX9_of_16 : decode cX9_of 16 = .ok (.if_icmp .lt 30, 3) := by decide +kernel
theorem dX9_of_19 : decode cX9_of 19 = .ok (.iload_n 2, 1) := by decide +kernel
theorem dX9_of_20 : decode cX9_of 20 = .ok (.sipush 1000, 3) := by decide +kernel
theorem dX9_of_23 : decode cX9_of 23 = .ok (.isub, 1) := by decide +kernel
theorem dX9_of_24 : decode cX9_of 24 = .ok (.istore 4, 2) := by decide +kernel
theorem dX9_of_26 : decode cX9_of 26 = .ok (.iload 4, 2) := by decide +kernel
theorem dX9_of_28 : decode cX9_of 28 = .ok (.aload_n 0, 1) := by decide +kernel
theorem dX9_of_29 : decode cX9_of 29 = .ok (.getfield 73, 3) := by decide +kernel
theorem dX9_of_32 : decode cX9_of 32 = .ok (.if_icmp .gt 12, 3) := by decide +kernel
theorem dX9_of_35 : decode cX9_of 35 = .ok (.aload_n 3, 1) := by decide +kernel
theorem dX9_of_36 : decode cX9_of 36 = .ok (.iload 4, 2) := by decide +kernel
theorem dX9_of_38 : decode cX9_of 38 = .ok (.invokevirtual 106, 3) := by decide +kernel
theorem dX9_of_41 : decode cX9_of 41 = .ok (.goto 4, 3) := by decide +kernel
theorem dX9_of_44 : decode cX9_of 44 = .ok (.iconst (-1), 1) := by decide +kernel
theorem dX9_of_45 : decode cX9_of 45 = .ok (.ireturn, 1) := by decide +kernel
theorem dX9_of_46 : decode cX9_of 46 = .ok (.iload_n 2, 1) := by decide +kernel
theorem dX9_of_47 : decode cX9_of 47 = .ok (.tableswitch 53 0 3 #[29, 38, 43, 48], 29) := by decide +kernel
theorem dX9_of_76 : decode cX9_of 76 = .ok (.aload_n 3, 1) := by decide +kernel
theorem dX9_of_77 : decode cX9_of 77 = .ok (.aload_n 0, 1) := by decide +kernel
theorem dX9_of_78 : decode cX9_of 78 = .ok (.getfield 73, 3) := by decide +kernel
theorem dX9_of_81 : decode cX9_of 81 = .ok (.invokevirtual 106, 3) := by decide +kernel
theorem dX9_of_84 : decode cX9_of 84 = .ok (.ireturn, 1) := by decide +kernel
theorem dX9_of_85 : decode cX9_of 85 = .ok (.aload_n 3, 1) := by decide +kernel
theorem dX9_of_86 : decode cX9_of 86 = .ok (.getfield 110, 3) := by decide +kernel
theorem dX9_of_89 : decode cX9_of 89 = .ok (.ireturn, 1) := by decide +kernel
theorem dX9_of_90 : decode cX9_of 90 = .ok (.aload_n 3, 1) := by decide +kernel
theorem dX9_of_91 : decode cX9_of 91 = .ok (.getfield 113, 3) := by decide +kernel
theorem dX9_of_94 : decode cX9_of 94 = .ok (.ireturn, 1) := by decide +kernel
theorem dX9_of_95 : decode cX9_of 95 = .ok (.aload_n 3, 1) := by decide +kernel
theorem dX9_of_96 : decode cX9_of 96 = .ok (.getfield 116, 3) := by decide +kernel
theorem dX9_of_99 : decode cX9_of 99 = .ok (.ireturn, 1) := by decide +kernel
theorem dX9_of_100 : decode cX9_of 100 = .ok (.iconst (-1), 1) := by decide +kernel
theorem dX9_of_101 : decode cX9_of 101 = .ok (.ireturn, 1) := by decide +kernel
theorem dX9_next_0 : decode cX9_next 0 = .ok (.aload_n 0, 1) := by decide +kernel
theorem dX9_next_1 : decode cX9_next 1 = .ok (.getfield 73, 3) := by decide +kernel
theorem dX9_next_4 : decode cX9_next 4 = .ok (.sipush 363, 3) := by decide +kernel
theorem dX9_next_7 : decode cX9_next 7 = .ok (.if_icmp .lt 5, 3) := by decide +kernel
theorem dX9_next_10 : decode cX9_next 10 = .ok (.iconst (-1), 1) := by decide +kernel
theorem dX9_next_11 : decode cX9_next 11 = .ok (.ireturn, 1) := by decide +kernel
theorem dX9_next_12 : decode cX9_next 12 = .ok (.aload_n 0, 1) := by decide +kernel
theorem dX9_next_13 : decode cX9_next 13 = .ok (.dup, 1) := by decide +kernel
theorem dX9_next_14 : decode cX9_next 14 = .ok (.getfield 73, 3) := by decide +kernel
theorem dX9_next_17 : decode cX9_next 17 = .ok (.iconst 1, 1) := by decide +kernel
theorem dX9_next_18 : decode cX9_next 18 = .ok (.iadd, 1) := by decide +kernel
theorem dX9_next_19 : decode cX9_next 19 = .ok (.putfield 73, 3) := by decide +kernel
theorem dX9_next_22 : decode cX9_next 22 = .ok (.iconst 0, 1) := by decide +kernel
theorem dX9_next_23 : decode cX9_next 23 = .ok (.istore_n 1, 1) := by decide +kernel
theorem dX9_next_24 : decode cX9_next 24 = .ok (.iload_n 1, 1) := by decide +kernel
theorem dX9_next_25 : decode cX9_next 25 = .ok (.aload_n 0, 1) := by decide +kernel
theorem dX9_next_26 : decode cX9_next 26 = .ok (.getfield 12, 3) := by decide +kernel
theorem dX9_next_29 : decode cX9_next 29 = .ok (.invokevirtual 77, 3) := by decide +kernel
theorem dX9_next_32 : decode cX9_next 32 = .ok (.if_icmp .ge 27, 3) := by decide +kernel
theorem dX9_next_35 : decode cX9_next 35 = .ok (.aload_n 0, 1) := by decide +kernel
theorem dX9_next_36 : decode cX9_next 36 = .ok (.getfield 12, 3) := by decide +kernel
theorem dX9_next_39 : decode cX9_next 39 = .ok (.iload_n 1, 1) := by decide +kernel
theorem dX9_next_40 : decode cX9_next 40 = .ok (.invokevirtual 119, 3) := by decide +kernel
theorem dX9_next_43 : decode cX9_next 43 = .ok (.checkcast 89, 3) := by decide +kernel
theorem dX9_next_46 : decode cX9_next 46 = .ok (.aload_n 0, 1) := by decide +kernel
theorem dX9_next_47 : decode cX9_next 47 = .ok (.getfield 73, 3) := by decide +kernel
theorem dX9_next_50 : decode cX9_next 50 = .ok (.invokevirtual 123, 3) := by decide +kernel
theorem dX9_next_53 : decode cX9_next 53 = .ok (.iinc 1 1, 3) := by decide +kernel
theorem dX9_next_56 : decode cX9_next 56 = .ok (.goto (-32), 3) := by decide +kernel
theorem dX9_next_59 : decode cX9_next 59 = .ok (.iconst 0, 1) := by decide +kernel
theorem dX9_next_60 : decode cX9_next 60 = .ok (.istore_n 1, 1) := by decide +kernel
theorem dX9_next_61 : decode cX9_next 61 = .ok (.iload_n 1, 1) := by decide +kernel
theorem dX9_next_62 : decode cX9_next 62 = .ok (.aload_n 0, 1) := by decide +kernel
theorem dX9_next_63 : decode cX9_next 63 = .ok (.getfield 16, 3) := by decide +kernel
theorem dX9_next_66 : decode cX9_next 66 = .ok (.invokevirtual 77, 3) := by decide +kernel
theorem dX9_next_69 : decode cX9_next 69 = .ok (.if_icmp .ge 27, 3) := by decide +kernel
theorem dX9_next_72 : decode cX9_next 72 = .ok (.aload_n 0, 1) := by decide +kernel
theorem dX9_next_73 : decode cX9_next 73 = .ok (.getfield 16, 3) := by decide +kernel
theorem dX9_next_76 : decode cX9_next 76 = .ok (.iload_n 1, 1) := by decide +kernel
theorem dX9_next_77 : decode cX9_next 77 = .ok (.invokevirtual 119, 3) := by decide +kernel
theorem dX9_next_80 : decode cX9_next 80 = .ok (.checkcast 127, 3) := by decide +kernel
theorem dX9_next_83 : decode cX9_next 83 = .ok (.aload_n 0, 1) := by decide +kernel
theorem dX9_next_84 : decode cX9_next 84 = .ok (.getfield 73, 3) := by decide +kernel
theorem dX9_next_87 : decode cX9_next 87 = .ok (.invokevirtual 129, 3) := by decide +kernel
theorem dX9_next_90 : decode cX9_next 90 = .ok (.iinc 1 1, 3) := by decide +kernel
theorem dX9_next_93 : decode cX9_next 93 = .ok (.goto (-32), 3) := by decide +kernel
theorem dX9_next_96 : decode cX9_next 96 = .ok (.aload_n 0, 1) := by decide +kernel
theorem dX9_next_97 : decode cX9_next 97 = .ok (.getfield 22, 3) := by decide +kernel
theorem dX9_next_100 : decode cX9_next 100 = .ok (.iconst 0, 1) := by decide +kernel
theorem dX9_next_101 : decode cX9_next 101 = .ok (.putfield 132, 3) := by decide +kernel
theorem dX9_next_104 : decode cX9_next 104 = .ok (.aload_n 0, 1) := by decide +kernel
theorem dX9_next_105 : decode cX9_next 105 = .ok (.getfield 73, 3) := by decide +kernel
theorem dX9_next_108 : decode cX9_next 108 = .ok (.ireturn, 1) := by decide +kernel
theorem dX9_slip_0 : decode cX9_slip 0 = .ok (.aload_n 0, 1) := by decide +kernel
theorem dX9_slip_1 : decode cX9_slip 1 = .ok (.iload 4, 2) := by decide +kernel
theorem dX9_slip_3 : decode cX9_slip 3 = .ok (.invokevirtual 98, 3) := by decide +kernel
theorem dX9_slip_6 : decode cX9_slip 6 = .ok (.astore 8, 2) := by decide +kernel
theorem dX9_slip_8 : decode cX9_slip 8 = .ok (.aload 8, 2) := by decide +kernel
theorem dX9_slip_10 : decode cX9_slip 10 = .ok (.ifnull 15, 3) := by decide +kernel
theorem dX9_slip_13 : decode cX9_slip 13 = .ok (.aload_n 0, 1) := by decide +kernel
theorem dX9_slip_14 : decode cX9_slip 14 = .ok (.getfield 16, 3) := by decide +kernel
theorem dX9_slip_17 : decode cX9_slip 17 = .ok (.invokevirtual 77, 3) := by decide +kernel
theorem dX9_slip_20 : decode cX9_slip 20 = .ok (.bipush 120, 2) := by decide +kernel
theorem dX9_slip_22 : decode cX9_slip 22 = .ok (.if_icmp .lt 5, 3) := by decide +kernel
theorem dX9_slip_25 : decode cX9_slip 25 = .ok (.iconst (-1), 1) := by decide +kernel
theorem dX9_slip_26 : decode cX9_slip 26 = .ok (.ireturn, 1) := by decide +kernel
theorem dX9_slip_27 : decode cX9_slip 27 = .ok (.iload_n 1, 1) := by decide +kernel
theorem dX9_slip_28 : decode cX9_slip 28 = .ok (.iload_n 3, 1) := by decide +kernel
theorem dX9_slip_29 : decode cX9_slip 29 = .ok (.invokestatic 135, 3) := by decide +kernel
theorem dX9_slip_32 : decode cX9_slip 32 = .ok (.ifCond .eq 21, 3) := by decide +kernel
theorem dX9_slip_35 : decode cX9_slip 35 = .ok (.iload_n 2, 1) := by decide +kernel
theorem dX9_slip_36 : decode cX9_slip 36 = .ok (.iconst 0, 1) := by decide +kernel
theorem dX9_slip_37 : decode cX9_slip 37 = .ok (.bipush 7, 2) := by decide +kernel
theorem dX9_slip_39 : decode cX9_slip 39 = .ok (.invokestatic 85, 3) := by decide +kernel
theorem dX9_slip_42 : decode cX9_slip 42 = .ok (.ifCond .eq 11, 3) := by decide +kernel
theorem dX9_slip_45 : decode cX9_slip 45 = .ok (.iload 6, 2) := by decide +kernel
theorem dX9_slip_47 : decode cX9_slip 47 = .ok (.invokestatic 139, 3) := by decide +kernel
theorem dX9_slip_50 : decode cX9_slip 50 = .ok (.ifCond .ne 5, 3) := by decide +kernel
theorem dX9_slip_53 : decode cX9_slip 53 = .ok (.iconst (-1), 1) := by decide +kernel
theorem dX9_slip_54 : decode cX9_slip 54 = .ok (.ireturn, 1) := by decide +kernel
theorem dX9_slip_55 : decode cX9_slip 55 = .ok (.iload 7, 2) := by decide +kernel
theorem dX9_slip_57 : decode cX9_slip 57 = .ok (.aload_n 0, 1) := by decide +kernel
theorem dX9_slip_58 : decode cX9_slip 58 = .ok (.getfield 73, 3) := by decide +kernel
theorem dX9_slip_61 : decode cX9_slip 61 = .ok (.bipush 28, 2) := by decide +kernel
theorem dX9_slip_63 : decode cX9_slip 63 = .ok (.isub, 1) := by decide +kernel
theorem dX9_slip_64 : decode cX9_slip 64 = .ok (.aload_n 0, 1) := by decide +kernel
theorem dX9_slip_65 : decode cX9_slip 65 = .ok (.getfield 73, 3) := by decide +kernel
theorem dX9_slip_68 : decode cX9_slip 68 = .ok (.invokestatic 85, 3) := by decide +kernel
theorem dX9_slip_71 : decode cX9_slip 71 = .ok (.ifCond .eq 13, 3) := by decide +kernel
theorem dX9_slip_74 : decode cX9_slip 74 = .ok (.iload 7, 2) := by decide +kernel
theorem dX9_slip_76 : decode cX9_slip 76 = .ok (.aload 8, 2) := by decide +kernel
theorem dX9_slip_78 : decode cX9_slip 78 = .ok (.getfield 142, 3) := by decide +kernel
theorem dX9_slip_81 : decode cX9_slip 81 = .ok (.if_icmp .ge 5, 3) := by decide +kernel
theorem dX9_slip_84 : decode cX9_slip 84 = .ok (.iconst (-1), 1) := by decide +kernel
theorem dX9_slip_85 : decode cX9_slip 85 = .ok (.ireturn, 1) := by decide +kernel
theorem dX9_slip_86 : decode cX9_slip 86 = .ok (.iload 5, 2) := by decide +kernel
theorem dX9_slip_88 : decode cX9_slip 88 = .ok (.iconst 1, 1) := by decide +kernel
theorem dX9_slip_89 : decode cX9_slip 89 = .ok (.bipush 99, 2) := by decide +kernel
theorem dX9_slip_91 : decode cX9_slip 91 = .ok (.invokestatic 85, 3) := by decide +kernel
theorem dX9_slip_94 : decode cX9_slip 94 = .ok (.ifCond .eq 13, 3) := by decide +kernel
theorem dX9_slip_97 : decode cX9_slip 97 = .ok (.iload 5, 2) := by decide +kernel
theorem dX9_slip_99 : decode cX9_slip 99 = .ok (.aload 8, 2) := by decide +kernel
theorem dX9_slip_101 : decode cX9_slip 101 = .ok (.getfield 110, 3) := by decide +kernel
theorem dX9_slip_104 : decode cX9_slip 104 = .ok (.if_icmp .le 5, 3) := by decide +kernel
theorem dX9_slip_107 : decode cX9_slip 107 = .ok (.iconst (-1), 1) := by decide +kernel
theorem dX9_slip_108 : decode cX9_slip 108 = .ok (.ireturn, 1) := by decide +kernel
theorem dX9_slip_109 : decode cX9_slip 109 = .ok (.aload 8, 2) := by decide +kernel
theorem dX9_slip_111 : decode cX9_slip 111 = .ok (.dup, 1) := by decide +kernel
theorem dX9_slip_112 : decode cX9_slip 112 = .ok (.getfield 110, 3) := by decide +kernel
theorem dX9_slip_115 : decode cX9_slip 115 = .ok (.iload 5, 2) := by decide +kernel
theorem dX9_slip_117 : decode cX9_slip 117 = .ok (.isub, 1) := by decide +kernel
theorem dX9_slip_118 : decode cX9_slip 118 = .ok (.putfield 110, 3) := by decide +kernel
theorem dX9_slip_121 : decode cX9_slip 121 = .ok (.new 127, 3) := by decide +kernel
theorem dX9_slip_124 : decode cX9_slip 124 = .ok (.dup, 1) := by decide +kernel
theorem dX9_slip_125 : decode cX9_slip 125 = .ok (.iload_n 1, 1) := by decide +kernel
theorem dX9_slip_126 : decode cX9_slip 126 = .ok (.iload_n 2, 1) := by decide +kernel
theorem dX9_slip_127 : decode cX9_slip 127 = .ok (.iload_n 3, 1) := by decide +kernel
theorem dX9_slip_128 : decode cX9_slip 128 = .ok (.aload 8, 2) := by decide +kernel
theorem dX9_slip_130 : decode cX9_slip 130 = .ok (.iload 5, 2) := by decide +kernel
theorem dX9_slip_132 : decode cX9_slip 132 = .ok (.iload 6, 2) := by decide +kernel
theorem dX9_slip_134 : decode cX9_slip 134 = .ok (.iload 7, 2) := by decide +kernel
theorem dX9_slip_136 : decode cX9_slip 136 = .ok (.invokespecial 145, 3) := by decide +kernel
theorem dX9_slip_139 : decode cX9_slip 139 = .ok (.astore 9, 2) := by decide +kernel
theorem dX9_slip_141 : decode cX9_slip 141 = .ok (.aload 9, 2) := by decide +kernel
theorem dX9_slip_143 : decode cX9_slip 143 = .ok (.aload_n 0, 1) := by decide +kernel
theorem dX9_slip_144 : decode cX9_slip 144 = .ok (.getfield 73, 3) := by decide +kernel
theorem dX9_slip_147 : decode cX9_slip 147 = .ok (.putfield 148, 3) := by decide +kernel
theorem dX9_slip_150 : decode cX9_slip 150 = .ok (.aload 9, 2) := by decide +kernel
theorem dX9_slip_152 : decode cX9_slip 152 = .ok (.aload_n 0, 1) := by decide +kernel
theorem dX9_slip_153 : decode cX9_slip 153 = .ok (.getfield 73, 3) := by decide +kernel
theorem dX9_slip_156 : decode cX9_slip 156 = .ok (.invokevirtual 129, 3) := by decide +kernel
theorem dX9_slip_159 : decode cX9_slip 159 = .ok (.aload_n 0, 1) := by decide +kernel
theorem dX9_slip_160 : decode cX9_slip 160 = .ok (.getfield 16, 3) := by decide +kernel
theorem dX9_slip_163 : decode cX9_slip 163 = .ok (.aload 9, 2) := by decide +kernel
theorem dX9_slip_165 : decode cX9_slip 165 = .ok (.invokevirtual 94, 3) := by decide +kernel
theorem dX9_slip_168 : decode cX9_slip 168 = .ok (.pop, 1) := by decide +kernel
theorem dX9_slip_169 : decode cX9_slip 169 = .ok (.aload_n 0, 1) := by decide +kernel
theorem dX9_slip_170 : decode cX9_slip 170 = .ok (.getfield 16, 3) := by decide +kernel
theorem dX9_slip_173 : decode cX9_slip 173 = .ok (.invokevirtual 77, 3) := by decide +kernel
theorem dX9_slip_176 : decode cX9_slip 176 = .ok (.iconst 1, 1) := by decide +kernel
theorem dX9_slip_177 : decode cX9_slip 177 = .ok (.isub, 1) := by decide +kernel
theorem dX9_slip_178 : decode cX9_slip 178 = .ok (.ireturn, 1) := by decide +kernel
theorem dX9_paper_0 : decode cX9_paper 0 = .ok (.aload_n 0, 1) := by decide +kernel
theorem dX9_paper_1 : decode cX9_paper 1 = .ok (.iload_n 1, 1) := by decide +kernel
theorem dX9_paper_2 : decode cX9_paper 2 = .ok (.invokevirtual 151, 3) := by decide +kernel
theorem dX9_paper_5 : decode cX9_paper 5 = .ok (.astore_n 3, 1) := by decide +kernel
theorem dX9_paper_6 : decode cX9_paper 6 = .ok (.aload_n 3, 1) := by decide +kernel
theorem dX9_paper_7 : decode cX9_paper 7 = .ok (.ifnonnull 5, 3) := by decide +kernel
theorem dX9_paper_10 : decode cX9_paper 10 = .ok (.iconst (-1), 1) := by decide +kernel
theorem dX9_paper_11 : decode cX9_paper 11 = .ok (.ireturn, 1) := by decide +kernel
theorem dX9_paper_12 : decode cX9_paper 12 = .ok (.iload_n 2, 1) := by decide +kernel
theorem dX9_paper_13 : decode cX9_paper 13 = .ok (.tableswitch 78 0 6 #[43, 48, 53, 58, 63, 68, 73], 43) := by decide +kernel
theorem dX9_paper_56 : decode cX9_paper 56 = .ok (.aload_n 3, 1) := by decide +kernel
theorem dX9_paper_57 : decode cX9_paper 57 = .ok (.invokevirtual 155, 3) := by decide +kernel
theorem dX9_paper_60 : decode cX9_paper 60 = .ok (.ireturn, 1) := by decide +kernel
theorem dX9_paper_61 : decode cX9_paper 61 = .ok (.aload_n 3, 1) := by decide +kernel
theorem dX9_paper_62 : decode cX9_paper 62 = .ok (.getfield 158, 3) := by decide +kernel
theorem dX9_paper_65 : decode cX9_paper 65 = .ok (.ireturn, 1) := by decide +kernel
theorem dX9_paper_66 : decode cX9_paper 66 = .ok (.aload_n 3, 1) := by decide +kernel
theorem dX9_paper_67 : decode cX9_paper 67 = .ok (.getfield 161, 3) := by decide +kernel
theorem dX9_paper_70 : decode cX9_paper 70 = .ok (.ireturn, 1) := by decide +kernel
theorem dX9_paper_71 : decode cX9_paper 71 = .ok (.aload_n 3, 1) := by decide +kernel
theorem dX9_paper_72 : decode cX9_paper 72 = .ok (.getfield 148, 3) := by decide +kernel
theorem dX9_paper_75 : decode cX9_paper 75 = .ok (.ireturn, 1) := by decide +kernel
theorem dX9_paper_76 : decode cX9_paper 76 = .ok (.aload_n 3, 1) := by decide +kernel
theorem dX9_paper_77 : decode cX9_paper 77 = .ok (.getfield 164, 3) := by decide +kernel
theorem dX9_paper_80 : decode cX9_paper 80 = .ok (.ireturn, 1) := by decide +kernel
theorem dX9_paper_81 : decode cX9_paper 81 = .ok (.aload_n 3, 1) := by decide +kernel
theorem dX9_paper_82 : decode cX9_paper 82 = .ok (.getfield 167, 3) := by decide +kernel
theorem dX9_paper_85 : decode cX9_paper 85 = .ok (.ireturn, 1) := by decide +kernel
theorem dX9_paper_86 : decode cX9_paper 86 = .ok (.aload_n 3, 1) := by decide +kernel
theorem dX9_paper_87 : decode cX9_paper 87 = .ok (.getfield 170, 3) := by decide +kernel
theorem dX9_paper_90 : decode cX9_paper 90 = .ok (.ireturn, 1) := by decide +kernel
theorem dX9_paper_91 : decode cX9_paper 91 = .ok (.iconst (-1), 1) := by decide +kernel
theorem dX9_paper_92 : decode cX9_paper 92 = .ok (.ireturn, 1) := by decide +kernel
theorem dX9_back_0 : decode cX9_back 0 = .ok (.aload_n 0, 1) := by decide +kernel
theorem dX9_back_1 : decode cX9_back 1 = .ok (.iload_n 1, 1) := by decide +kernel
theorem dX9_back_2 : decode cX9_back 2 = .ok (.invokevirtual 151, 3) := by decide +kernel
theorem dX9_back_5 : decode cX9_back 5 = .ok (.astore_n 2, 1) := by decide +kernel
theorem dX9_back_6 : decode cX9_back 6 = .ok (.aload_n 2, 1) := by decide +kernel
theorem dX9_back_7 : decode cX9_back 7 = .ok (.ifnull 14, 3) := by decide +kernel
theorem dX9_back_10 : decode cX9_back 10 = .ok (.aload_n 2, 1) := by decide +kernel
theorem dX9_back_11 : decode cX9_back 11 = .ok (.aload_n 0, 1) := by decide +kernel
theorem dX9_back_12 : decode cX9_back 12 = .ok (.getfield 73, 3) := by decide +kernel
theorem dX9_back_15 : decode cX9_back 15 = .ok (.invokevirtual 173, 3) := by decide +kernel
theorem dX9_back_18 : decode cX9_back 18 = .ok (.ifCond .ne 5, 3) := by decide +kernel
theorem dX9_back_21 : decode cX9_back 21 = .ok (.iconst 0, 1) := by decide +kernel
theorem dX9_back_22 : decode cX9_back 22 = .ok (.ireturn, 1) := by decide +kernel
theorem dX9_back_23 : decode cX9_back 23 = .ok (.aload_n 2, 1) := by decide +kernel
theorem dX9_back_24 : decode cX9_back 24 = .ok (.aload_n 0, 1) := by decide +kernel
theorem dX9_back_25 : decode cX9_back 25 = .ok (.getfield 73, 3) := by decide +kernel
theorem dX9_back_28 : decode cX9_back 28 = .ok (.putfield 167, 3) := by decide +kernel
theorem dX9_back_31 : decode cX9_back 31 = .ok (.aload_n 2, 1) := by decide +kernel
theorem dX9_back_32 : decode cX9_back 32 = .ok (.getfield 176, 3) := by decide +kernel
theorem dX9_back_35 : decode cX9_back 35 = .ok (.dup, 1) := by decide +kernel
theorem dX9_back_36 : decode cX9_back 36 = .ok (.getfield 110, 3) := by decide +kernel
theorem dX9_back_39 : decode cX9_back 39 = .ok (.aload_n 2, 1) := by decide +kernel
theorem dX9_back_40 : decode cX9_back 40 = .ok (.getfield 180, 3) := by decide +kernel
theorem dX9_back_43 : decode cX9_back 43 = .ok (.iadd, 1) := by decide +kernel
theorem dX9_back_44 : decode cX9_back 44 = .ok (.putfield 110, 3) := by decide +kernel
theorem dX9_back_47 : decode cX9_back 47 = .ok (.iconst 1, 1) := by decide +kernel
theorem dX9_back_48 : decode cX9_back 48 = .ok (.ireturn, 1) := by decide +kernel
theorem dX9_look_0 : decode cX9_look 0 = .ok (.iload_n 1, 1) := by decide +kernel
theorem dX9_look_1 : decode cX9_look 1 = .ok (.tableswitch 90 0 6 #[43, 48, 56, 64, 69, 74, 82], 43) := by decide +kernel
theorem dX9_look_44 : decode cX9_look 44 = .ok (.aload_n 0, 1) := by decide +kernel
theorem dX9_look_45 : decode cX9_look 45 = .ok (.getfield 73, 3) := by decide +kernel
theorem dX9_look_48 : decode cX9_look 48 = .ok (.ireturn, 1) := by decide +kernel
theorem dX9_look_49 : decode cX9_look 49 = .ok (.aload_n 0, 1) := by decide +kernel
theorem dX9_look_50 : decode cX9_look 50 = .ok (.getfield 12, 3) := by decide +kernel
theorem dX9_look_53 : decode cX9_look 53 = .ok (.invokevirtual 77, 3) := by decide +kernel
theorem dX9_look_56 : decode cX9_look 56 = .ok (.ireturn, 1) := by decide +kernel
theorem dX9_look_57 : decode cX9_look 57 = .ok (.aload_n 0, 1) := by decide +kernel
theorem dX9_look_58 : decode cX9_look 58 = .ok (.getfield 16, 3) := by decide +kernel
theorem dX9_look_61 : decode cX9_look 61 = .ok (.invokevirtual 77, 3) := by decide +kernel
theorem dX9_look_64 : decode cX9_look 64 = .ok (.ireturn, 1) := by decide +kernel
theorem dX9_look_65 : decode cX9_look 65 = .ok (.aload_n 0, 1) := by decide +kernel
theorem dX9_look_66 : decode cX9_look 66 = .ok (.invokevirtual 183, 3) := by decide +kernel
theorem dX9_look_69 : decode cX9_look 69 = .ok (.ireturn, 1) := by decide +kernel
theorem dX9_look_70 : decode cX9_look 70 = .ok (.aload_n 0, 1) := by decide +kernel
theorem dX9_look_71 : decode cX9_look 71 = .ok (.invokevirtual 186, 3) := by decide +kernel
theorem dX9_look_74 : decode cX9_look 74 = .ok (.ireturn, 1) := by decide +kernel
theorem dX9_look_75 : decode cX9_look 75 = .ok (.aload_n 0, 1) := by decide +kernel
theorem dX9_look_76 : decode cX9_look 76 = .ok (.getfield 22, 3) := by decide +kernel
theorem dX9_look_79 : decode cX9_look 79 = .ok (.getfield 132, 3) := by decide +kernel
theorem dX9_look_82 : decode cX9_look 82 = .ok (.ireturn, 1) := by decide +kernel
theorem dX9_look_83 : decode cX9_look 83 = .ok (.aload_n 0, 1) := by decide +kernel
theorem dX9_look_84 : decode cX9_look 84 = .ok (.getfield 43, 3) := by decide +kernel
theorem dX9_look_87 : decode cX9_look 87 = .ok (.getfield 189, 3) := by decide +kernel
theorem dX9_look_90 : decode cX9_look 90 = .ok (.ireturn, 1) := by decide +kernel
theorem dX9_look_91 : decode cX9_look 91 = .ok (.iconst (-1), 1) := by decide +kernel
theorem dX9_look_92 : decode cX9_look 92 = .ok (.ireturn, 1) := by decide +kernel
theorem dX9_van_0 : decode cX9_van 0 = .ok (.iload_n 1, 1) := by decide +kernel
theorem dX9_van_1 : decode cX9_van 1 = .ok (.iconst 0, 1) := by decide +kernel
theorem dX9_van_2 : decode cX9_van 2 = .ok (.sipush 500, 3) := by decide +kernel
theorem dX9_van_5 : decode cX9_van 5 = .ok (.invokestatic 85, 3) := by decide +kernel
theorem dX9_van_8 : decode cX9_van 8 = .ok (.ifCond .eq 14, 3) := by decide +kernel
theorem dX9_van_11 : decode cX9_van 11 = .ok (.aload_n 0, 1) := by decide +kernel
theorem dX9_van_12 : decode cX9_van 12 = .ok (.getfield 22, 3) := by decide +kernel
theorem dX9_van_15 : decode cX9_van 15 = .ok (.getfield 132, 3) := by decide +kernel
theorem dX9_van_18 : decode cX9_van 18 = .ok (.iconst 2, 1) := by decide +kernel
theorem dX9_van_19 : decode cX9_van 19 = .ok (.if_icmp .lt 5, 3) := by decide +kernel
theorem dX9_van_22 : decode cX9_van 22 = .ok (.iconst (-1), 1) := by decide +kernel
theorem dX9_van_23 : decode cX9_van 23 = .ok (.ireturn, 1) := by decide +kernel
theorem dX9_van_24 : decode cX9_van 24 = .ok (.aload_n 0, 1) := by decide +kernel
theorem dX9_van_25 : decode cX9_van 25 = .ok (.getfield 22, 3) := by decide +kernel
theorem dX9_van_28 : decode cX9_van 28 = .ok (.aload_n 0, 1) := by decide +kernel
theorem dX9_van_29 : decode cX9_van 29 = .ok (.getfield 16, 3) := by decide +kernel
theorem dX9_van_32 : decode cX9_van 32 = .ok (.iload_n 1, 1) := by decide +kernel
theorem dX9_van_33 : decode cX9_van 33 = .ok (.aload_n 0, 1) := by decide +kernel
theorem dX9_van_34 : decode cX9_van 34 = .ok (.getfield 73, 3) := by decide +kernel
theorem dX9_van_37 : decode cX9_van 37 = .ok (.invokevirtual 192, 3) := by decide +kernel
theorem dX9_van_40 : decode cX9_van 40 = .ok (.ireturn, 1) := by decide +kernel
theorem dX9_house_0 : decode cX9_house 0 = .ok (.aload_n 0, 1) := by decide +kernel
theorem dX9_house_1 : decode cX9_house 1 = .ok (.getfield 22, 3) := by decide +kernel
theorem dX9_house_4 : decode cX9_house 4 = .ok (.iload_n 1, 1) := by decide +kernel
theorem dX9_house_5 : decode cX9_house 5 = .ok (.invokevirtual 196, 3) := by decide +kernel
theorem dX9_house_8 : decode cX9_house 8 = .ok (.ireturn, 1) := by decide +kernel
theorem dX9_feed_0 : decode cX9_feed 0 = .ok (.aload_n 0, 1) := by decide +kernel
theorem dX9_feed_1 : decode cX9_feed 1 = .ok (.getfield 29, 3) := by decide +kernel
theorem dX9_feed_4 : decode cX9_feed 4 = .ok (.getfield 199, 3) := by decide +kernel
theorem dX9_feed_7 : decode cX9_feed 7 = .ok (.sipush 380, 3) := by decide +kernel
theorem dX9_feed_10 : decode cX9_feed 10 = .ok (.if_icmp .le 5, 3) := by decide +kernel
theorem dX9_feed_13 : decode cX9_feed 13 = .ok (.iconst (-1), 1) := by decide +kernel
theorem dX9_feed_14 : decode cX9_feed 14 = .ok (.ireturn, 1) := by decide +kernel
theorem dX9_feed_15 : decode cX9_feed 15 = .ok (.aload_n 0, 1) := by decide +kernel
theorem dX9_feed_16 : decode cX9_feed 16 = .ok (.getfield 29, 3) := by decide +kernel
theorem dX9_feed_19 : decode cX9_feed 19 = .ok (.iload_n 1, 1) := by decide +kernel
theorem dX9_feed_20 : decode cX9_feed 20 = .ok (.invokevirtual 202, 3) := by decide +kernel
theorem dX9_feed_23 : decode cX9_feed 23 = .ok (.aload_n 0, 1) := by decide +kernel
theorem dX9_feed_24 : decode cX9_feed 24 = .ok (.getfield 29, 3) := by decide +kernel
theorem dX9_feed_27 : decode cX9_feed 27 = .ok (.iload_n 2, 1) := by decide +kernel
theorem dX9_feed_28 : decode cX9_feed 28 = .ok (.invokevirtual 202, 3) := by decide +kernel
theorem dX9_feed_31 : decode cX9_feed 31 = .ok (.aload_n 0, 1) := by decide +kernel
theorem dX9_feed_32 : decode cX9_feed 32 = .ok (.getfield 29, 3) := by decide +kernel
theorem dX9_feed_35 : decode cX9_feed 35 = .ok (.iload_n 3, 1) := by decide +kernel
theorem dX9_feed_36 : decode cX9_feed 36 = .ok (.invokevirtual 202, 3) := by decide +kernel
theorem dX9_feed_39 : decode cX9_feed 39 = .ok (.aload_n 0, 1) := by decide +kernel
theorem dX9_feed_40 : decode cX9_feed 40 = .ok (.getfield 29, 3) := by decide +kernel
theorem dX9_feed_43 : decode cX9_feed 43 = .ok (.iload 4, 2) := by decide +kernel
theorem dX9_feed_45 : decode cX9_feed 45 = .ok (.invokevirtual 202, 3) := by decide +kernel
theorem dX9_feed_48 : decode cX9_feed 48 = .ok (.aload_n 0, 1) := by decide +kernel
theorem dX9_feed_49 : decode cX9_feed 49 = .ok (.getfield 29, 3) := by decide +kernel
theorem dX9_feed_52 : decode cX9_feed 52 = .ok (.iload 5, 2) := by decide +kernel
theorem dX9_feed_54 : decode cX9_feed 54 = .ok (.invokevirtual 202, 3) := by decide +kernel
theorem dX9_feed_57 : decode cX9_feed 57 = .ok (.aload_n 0, 1) := by decide +kernel
theorem dX9_feed_58 : decode cX9_feed 58 = .ok (.getfield 29, 3) := by decide +kernel
theorem dX9_feed_61 : decode cX9_feed 61 = .ok (.getfield 199, 3) := by decide +kernel
theorem dX9_feed_64 : decode cX9_feed 64 = .ok (.ireturn, 1) := by decide +kernel
theorem dX9_end_0 : decode cX9_end 0 = .ok (.iload_n 1, 1) := by decide +kernel
theorem dX9_end_1 : decode cX9_end 1 = .ok (.iconst 0, 1) := by decide +kernel
theorem dX9_end_2 : decode cX9_end 2 = .ok (.aload_n 0, 1) := by decide +kernel
theorem dX9_end_3 : decode cX9_end 3 = .ok (.getfield 29, 3) := by decide +kernel
theorem dX9_end_6 : decode cX9_end 6 = .ok (.getfield 199, 3) := by decide +kernel
theorem dX9_end_9 : decode cX9_end 9 = .ok (.invokestatic 85, 3) := by decide +kernel
theorem dX9_end_12 : decode cX9_end 12 = .ok (.ifCond .ne 5, 3) := by decide +kernel
theorem dX9_end_15 : decode cX9_end 15 = .ok (.iconst 0, 1) := by decide +kernel
theorem dX9_end_16 : decode cX9_end 16 = .ok (.ireturn, 1) := by decide +kernel
theorem dX9_end_17 : decode cX9_end 17 = .ok (.aload_n 0, 1) := by decide +kernel
theorem dX9_end_18 : decode cX9_end 18 = .ok (.getfield 29, 3) := by decide +kernel
theorem dX9_end_21 : decode cX9_end 21 = .ok (.iload_n 1, 1) := by decide +kernel
theorem dX9_end_22 : decode cX9_end 22 = .ok (.putfield 199, 3) := by decide +kernel
theorem dX9_end_25 : decode cX9_end 25 = .ok (.iconst 1, 1) := by decide +kernel
theorem dX9_end_26 : decode cX9_end 26 = .ok (.ireturn, 1) := by decide +kernel
theorem dX9_rule_0 : decode cX9_rule 0 = .ok (.aload_n 0, 1) := by decide +kernel
theorem dX9_rule_1 : decode cX9_rule 1 = .ok (.getfield 36, 3) := by decide +kernel
theorem dX9_rule_4 : decode cX9_rule 4 = .ok (.aload_n 0, 1) := by decide +kernel
theorem dX9_rule_5 : decode cX9_rule 5 = .ok (.getfield 29, 3) := by decide +kernel
theorem dX9_rule_8 : decode cX9_rule 8 = .ok (.getfield 205, 3) := by decide +kernel
theorem dX9_rule_11 : decode cX9_rule 11 = .ok (.aload_n 0, 1) := by decide +kernel
theorem dX9_rule_12 : decode cX9_rule 12 = .ok (.getfield 29, 3) := by decide +kernel
theorem dX9_rule_15 : decode cX9_rule 15 = .ok (.getfield 199, 3) := by decide +kernel
theorem dX9_rule_18 : decode cX9_rule 18 = .ok (.invokevirtual 209, 3) := by decide +kernel
theorem dX9_rule_21 : decode cX9_rule 21 = .ok (.aload_n 0, 1) := by decide +kernel
theorem dX9_rule_22 : decode cX9_rule 22 = .ok (.getfield 29, 3) := by decide +kernel
theorem dX9_rule_25 : decode cX9_rule 25 = .ok (.iconst 0, 1) := by decide +kernel
theorem dX9_rule_26 : decode cX9_rule 26 = .ok (.putfield 199, 3) := by decide +kernel
theorem dX9_rule_29 : decode cX9_rule 29 = .ok (.aload_n 0, 1) := by decide +kernel
theorem dX9_rule_30 : decode cX9_rule 30 = .ok (.getfield 55, 3) := by decide +kernel
theorem dX9_rule_33 : decode cX9_rule 33 = .ok (.aload_n 0, 1) := by decide +kernel
theorem dX9_rule_34 : decode cX9_rule 34 = .ok (.getfield 47, 3) := by decide +kernel
theorem dX9_rule_37 : decode cX9_rule 37 = .ok (.invokevirtual 213, 3) := by decide +kernel
theorem dX9_rule_40 : decode cX9_rule 40 = .ok (.ifCond .ne 5, 3) := by decide +kernel
theorem dX9_rule_43 : decode cX9_rule 43 = .ok (.iconst (-1), 1) := by decide +kernel
theorem dX9_rule_44 : decode cX9_rule 44 = .ok (.ireturn, 1) := by decide +kernel
theorem dX9_rule_45 : decode cX9_rule 45 = .ok (.aload_n 0, 1) := by decide +kernel
theorem dX9_rule_46 : decode cX9_rule 46 = .ok (.getfield 43, 3) := by decide +kernel
theorem dX9_rule_49 : decode cX9_rule 49 = .ok (.astore_n 1, 1) := by decide +kernel
theorem dX9_rule_50 : decode cX9_rule 50 = .ok (.aload_n 0, 1) := by decide +kernel
theorem dX9_rule_51 : decode cX9_rule 51 = .ok (.aload_n 0, 1) := by decide +kernel
theorem dX9_rule_52 : decode cX9_rule 52 = .ok (.getfield 47, 3) := by decide +kernel
theorem dX9_rule_55 : decode cX9_rule 55 = .ok (.putfield 43, 3) := by decide +kernel
theorem dX9_rule_58 : decode cX9_rule 58 = .ok (.aload_n 0, 1) := by decide +kernel
theorem dX9_rule_59 : decode cX9_rule 59 = .ok (.aload_n 1, 1) := by decide +kernel
theorem dX9_rule_60 : decode cX9_rule 60 = .ok (.putfield 47, 3) := by decide +kernel
theorem dX9_rule_63 : decode cX9_rule 63 = .ok (.aload_n 0, 1) := by decide +kernel
theorem dX9_rule_64 : decode cX9_rule 64 = .ok (.getfield 43, 3) := by decide +kernel
theorem dX9_rule_67 : decode cX9_rule 67 = .ok (.getfield 189, 3) := by decide +kernel
theorem dX9_rule_70 : decode cX9_rule 70 = .ok (.ireturn, 1) := by decide +kernel
theorem dX9_fault_0 : decode cX9_fault 0 = .ok (.iload_n 1, 1) := by decide +kernel
theorem dX9_fault_1 : decode cX9_fault 1 = .ok (.lookupswitch 43 #[(0, 27), (1, 35)], 27) := by decide +kernel
theorem dX9_fault_28 : decode cX9_fault 28 = .ok (.aload_n 0, 1) := by decide +kernel
theorem dX9_fault_29 : decode cX9_fault 29 = .ok (.getfield 55, 3) := by decide +kernel
theorem dX9_fault_32 : decode cX9_fault 32 = .ok (.getfield 217, 3) := by decide +kernel
theorem dX9_fault_35 : decode cX9_fault 35 = .ok (.ireturn, 1) := by decide +kernel
theorem dX9_fault_36 : decode cX9_fault 36 = .ok (.aload_n 0, 1) := by decide +kernel
theorem dX9_fault_37 : decode cX9_fault 37 = .ok (.getfield 55, 3) := by decide +kernel
theorem dX9_fault_40 : decode cX9_fault 40 = .ok (.getfield 220, 3) := by decide +kernel
theorem dX9_fault_43 : decode cX9_fault 43 = .ok (.ireturn, 1) := by decide +kernel
theorem dX9_fault_44 : decode cX9_fault 44 = .ok (.iconst (-1), 1) := by decide +kernel
theorem dX9_fault_45 : decode cX9_fault 45 = .ok (.ireturn, 1) := by decide +kernel
theorem dX9_pay_0 : decode cX9_pay 0 = .ok (.iload_n 1, 1) := by decide +kernel
theorem dX9_pay_1 : decode cX9_pay 1 = .ok (.iconst 0, 1) := by decide +kernel
theorem dX9_pay_2 : decode cX9_pay 2 = .ok (.bipush 7, 2) := by decide +kernel
theorem dX9_pay_4 : decode cX9_pay 4 = .ok (.invokestatic 85, 3) := by decide +kernel
theorem dX9_pay_7 : decode cX9_pay 7 = .ok (.ifCond .eq 13, 3) := by decide +kernel
theorem dX9_pay_10 : decode cX9_pay 10 = .ok (.iload_n 2, 1) := by decide +kernel
theorem dX9_pay_11 : decode cX9_pay 11 = .ok (.iconst 0, 1) := by decide +kernel
theorem dX9_pay_12 : decode cX9_pay 12 = .ok (.bipush 12, 2) := by decide +kernel
theorem dX9_pay_14 : decode cX9_pay 14 = .ok (.invokestatic 85, 3) := by decide +kernel
theorem dX9_pay_17 : decode cX9_pay 17 = .ok (.ifCond .ne 6, 3) := by decide +kernel
theorem dX9_pay_20 : decode cX9_pay 20 = .ok (.ldc 223, 2) := by decide +kernel
theorem dX9_pay_22 : decode cX9_pay 22 = .ok (.ireturn, 1) := by decide +kernel
theorem dX9_pay_23 : decode cX9_pay 23 = .ok (.aload_n 0, 1) := by decide +kernel
theorem dX9_pay_24 : decode cX9_pay 24 = .ok (.getfield 62, 3) := by decide +kernel
theorem dX9_pay_27 : decode cX9_pay 27 = .ok (.aload_n 0, 1) := by decide +kernel
theorem dX9_pay_28 : decode cX9_pay 28 = .ok (.getfield 16, 3) := by decide +kernel
theorem dX9_pay_31 : decode cX9_pay 31 = .ok (.iload_n 1, 1) := by decide +kernel
theorem dX9_pay_32 : decode cX9_pay 32 = .ok (.iload_n 2, 1) := by decide +kernel
theorem dX9_pay_33 : decode cX9_pay 33 = .ok (.invokevirtual 224, 3) := by decide +kernel
theorem dX9_pay_36 : decode cX9_pay 36 = .ok (.iload_n 3, 1) := by decide +kernel
theorem dX9_pay_37 : decode cX9_pay 37 = .ok (.tableswitch 83 0 4 #[35, 43, 51, 59, 71], 35) := by decide +kernel
theorem dX9_pay_72 : decode cX9_pay 72 = .ok (.aload_n 0, 1) := by decide +kernel
theorem dX9_pay_73 : decode cX9_pay 73 = .ok (.getfield 62, 3) := by decide +kernel
theorem dX9_pay_76 : decode cX9_pay 76 = .ok (.getfield 228, 3) := by decide +kernel
theorem dX9_pay_79 : decode cX9_pay 79 = .ok (.ireturn, 1) := by decide +kernel
theorem dX9_pay_80 : decode cX9_pay 80 = .ok (.aload_n 0, 1) := by decide +kernel
theorem dX9_pay_81 : decode cX9_pay 81 = .ok (.getfield 62, 3) := by decide +kernel
theorem dX9_pay_84 : decode cX9_pay 84 = .ok (.getfield 231, 3) := by decide +kernel
theorem dX9_pay_87 : decode cX9_pay 87 = .ok (.ireturn, 1) := by decide +kernel
theorem dX9_pay_88 : decode cX9_pay 88 = .ok (.aload_n 0, 1) := by decide +kernel
theorem dX9_pay_89 : decode cX9_pay 89 = .ok (.getfield 62, 3) := by decide +kernel
theorem dX9_pay_92 : decode cX9_pay 92 = .ok (.getfield 234, 3) := by decide +kernel
theorem dX9_pay_95 : decode cX9_pay 95 = .ok (.ireturn, 1) := by decide +kernel
theorem dX9_pay_96 : decode cX9_pay 96 = .ok (.aload_n 0, 1) := by decide +kernel
theorem dX9_pay_97 : decode cX9_pay 97 = .ok (.getfield 43, 3) := by decide +kernel
theorem dX9_pay_100 : decode cX9_pay 100 = .ok (.aload_n 0, 1) := by decide +kernel
theorem dX9_pay_101 : decode cX9_pay 101 = .ok (.getfield 62, 3) := by decide +kernel
theorem dX9_pay_104 : decode cX9_pay 104 = .ok (.invokevirtual 235, 3) := by decide +kernel
theorem dX9_pay_107 : decode cX9_pay 107 = .ok (.ireturn, 1) := by decide +kernel
theorem dX9_pay_108 : decode cX9_pay 108 = .ok (.aload_n 0, 1) := by decide +kernel
theorem dX9_pay_109 : decode cX9_pay 109 = .ok (.getfield 43, 3) := by decide +kernel
theorem dX9_pay_112 : decode cX9_pay 112 = .ok (.aload_n 0, 1) := by decide +kernel
theorem dX9_pay_113 : decode cX9_pay 113 = .ok (.getfield 62, 3) := by decide +kernel
theorem dX9_pay_116 : decode cX9_pay 116 = .ok (.invokevirtual 239, 3) := by decide +kernel
theorem dX9_pay_119 : decode cX9_pay 119 = .ok (.ireturn, 1) := by decide +kernel
theorem dX9_pay_120 : decode cX9_pay 120 = .ok (.ldc 223, 2) := by decide +kernel
theorem dX9_pay_122 : decode cX9_pay 122 = .ok (.ireturn, 1) := by decide +kernel
theorem dX9_statement_0 : decode cX9_statement 0 = .ok (.iload_n 1, 1) := by decide +kernel
theorem dX9_statement_1 : decode cX9_statement 1 = .ok (.iconst 0, 1) := by decide +kernel
theorem dX9_statement_2 : decode cX9_statement 2 = .ok (.bipush 9, 2) := by decide +kernel
theorem dX9_statement_4 : decode cX9_statement 4 = .ok (.invokestatic 85, 3) := by decide +kernel
theorem dX9_statement_7 : decode cX9_statement 7 = .ok (.ifCond .eq 13, 3) := by decide +kernel
theorem dX9_statement_10 : decode cX9_statement 10 = .ok (.iload_n 2, 1) := by decide +kernel
theorem dX9_statement_11 : decode cX9_statement 11 = .ok (.iconst 0, 1) := by decide +kernel
theorem dX9_statement_12 : decode cX9_statement 12 = .ok (.bipush 12, 2) := by decide +kernel
theorem dX9_statement_14 : decode cX9_statement 14 = .ok (.invokestatic 85, 3) := by decide +kernel
theorem dX9_statement_17 : decode cX9_statement 17 = .ok (.ifCond .ne 6, 3) := by decide +kernel
theorem dX9_statement_20 : decode cX9_statement 20 = .ok (.ldc 223, 2) := by decide +kernel
theorem dX9_statement_22 : decode cX9_statement 22 = .ok (.ireturn, 1) := by decide +kernel
theorem dX9_statement_23 : decode cX9_statement 23 = .ok (.iload_n 3, 1) := by decide +kernel
theorem dX9_statement_24 : decode cX9_statement 24 = .ok (.iconst 0, 1) := by decide +kernel
theorem dX9_statement_25 : decode cX9_statement 25 = .ok (.aload_n 0, 1) := by decide +kernel
theorem dX9_statement_26 : decode cX9_statement 26 = .ok (.getfield 73, 3) := by decide +kernel
theorem dX9_statement_29 : decode cX9_statement 29 = .ok (.invokestatic 85, 3) := by decide +kernel
theorem dX9_statement_32 : decode cX9_statement 32 = .ok (.ifCond .ne 6, 3) := by decide +kernel
theorem dX9_statement_35 : decode cX9_statement 35 = .ok (.ldc 223, 2) := by decide +kernel
theorem dX9_statement_37 : decode cX9_statement 37 = .ok (.ireturn, 1) := by decide +kernel
theorem dX9_statement_38 : decode cX9_statement 38 = .ok (.iconst 0, 1) := by decide +kernel
theorem dX9_statement_39 : decode cX9_statement 39 = .ok (.istore 4, 2) := by decide +kernel
theorem dX9_statement_41 : decode cX9_statement 41 = .ok (.iconst 0, 1) := by decide +kernel
theorem dX9_statement_42 : decode cX9_statement 42 = .ok (.istore 5, 2) := by decide +kernel
theorem dX9_statement_44 : decode cX9_statement 44 = .ok (.iload 5, 2) := by decide +kernel
theorem dX9_statement_46 : decode cX9_statement 46 = .ok (.aload_n 0, 1) := by decide +kernel
theorem dX9_statement_47 : decode cX9_statement 47 = .ok (.getfield 16, 3) := by decide +kernel
theorem dX9_statement_50 : decode cX9_statement 50 = .ok (.invokevirtual 77, 3) := by decide +kernel
theorem dX9_statement_53 : decode cX9_statement 53 = .ok (.if_icmp .ge 44, 3) := by decide +kernel
theorem dX9_statement_56 : decode cX9_statement 56 = .ok (.aload_n 0, 1) := by decide +kernel
theorem dX9_statement_57 : decode cX9_statement 57 = .ok (.getfield 16, 3) := by decide +kernel
theorem dX9_statement_60 : decode cX9_statement 60 = .ok (.iload 5, 2) := by decide +kernel
theorem dX9_statement_62 : decode cX9_statement 62 = .ok (.invokevirtual 119, 3) := by decide +kernel
theorem dX9_statement_65 : decode cX9_statement 65 = .ok (.checkcast 127, 3) := by decide +kernel
theorem dX9_statement_68 : decode cX9_statement 68 = .ok (.astore 6, 2) := by decide +kernel
theorem dX9_statement_70 : decode cX9_statement 70 = .ok (.aload 6, 2) := by decide +kernel
theorem dX9_statement_72 : decode cX9_statement 72 = .ok (.getfield 242, 3) := by decide +kernel
theorem dX9_statement_75 : decode cX9_statement 75 = .ok (.iload_n 1, 1) := by decide +kernel
theorem dX9_statement_76 : decode cX9_statement 76 = .ok (.if_icmp .ne 15, 3) := by decide +kernel
theorem dX9_statement_79 : decode cX9_statement 79 = .ok (.iload 4, 2) := by decide +kernel
theorem dX9_statement_81 : decode cX9_statement 81 = .ok (.aload 6, 2) := by decide +kernel
theorem dX9_statement_83 : decode cX9_statement 83 = .ok (.iload_n 2, 1) := by decide +kernel
theorem dX9_statement_84 : decode cX9_statement 84 = .ok (.iload_n 3, 1) := by decide +kernel
theorem dX9_statement_85 : decode cX9_statement 85 = .ok (.invokevirtual 245, 3) := by decide +kernel
theorem dX9_statement_88 : decode cX9_statement 88 = .ok (.iadd, 1) := by decide +kernel
theorem dX9_statement_89 : decode cX9_statement 89 = .ok (.istore 4, 2) := by decide +kernel
theorem dX9_statement_91 : decode cX9_statement 91 = .ok (.iinc 5 1, 3) := by decide +kernel
theorem dX9_statement_94 : decode cX9_statement 94 = .ok (.goto (-50), 3) := by decide +kernel
theorem dX9_statement_97 : decode cX9_statement 97 = .ok (.iload 4, 2) := by decide +kernel
theorem dX9_statement_99 : decode cX9_statement 99 = .ok (.ireturn, 1) := by decide +kernel
theorem dX9_count_0 : decode cX9_count 0 = .ok (.aload_n 0, 1) := by decide +kernel
theorem dX9_count_1 : decode cX9_count 1 = .ok (.iload_n 1, 1) := by decide +kernel
theorem dX9_count_2 : decode cX9_count 2 = .ok (.invokevirtual 98, 3) := by decide +kernel
theorem dX9_count_5 : decode cX9_count 5 = .ok (.astore_n 3, 1) := by decide +kernel
theorem dX9_count_6 : decode cX9_count 6 = .ok (.aload_n 3, 1) := by decide +kernel
theorem dX9_count_7 : decode cX9_count 7 = .ok (.ifnull 14, 3) := by decide +kernel
theorem dX9_count_10 : decode cX9_count 10 = .ok (.iload_n 2, 1) := by decide +kernel
theorem dX9_count_11 : decode cX9_count 11 = .ok (.iconst 0, 1) := by decide +kernel
theorem dX9_count_12 : decode cX9_count 12 = .ok (.sipush 9999, 3) := by decide +kernel
theorem dX9_count_15 : decode cX9_count 15 = .ok (.invokestatic 85, 3) := by decide +kernel
theorem dX9_count_18 : decode cX9_count 18 = .ok (.ifCond .ne 6, 3) := by decide +kernel
theorem dX9_count_21 : decode cX9_count 21 = .ok (.ldc 223, 2) := by decide +kernel
theorem dX9_count_23 : decode cX9_count 23 = .ok (.ireturn, 1) := by decide +kernel
theorem dX9_count_24 : decode cX9_count 24 = .ok (.aload_n 3, 1) := by decide +kernel
theorem dX9_count_25 : decode cX9_count 25 = .ok (.getfield 110, 3) := by decide +kernel
theorem dX9_count_28 : decode cX9_count 28 = .ok (.iload_n 2, 1) := by decide +kernel
theorem dX9_count_29 : decode cX9_count 29 = .ok (.isub, 1) := by decide +kernel
theorem dX9_count_30 : decode cX9_count 30 = .ok (.istore 4, 2) := by decide +kernel
theorem dX9_count_32 : decode cX9_count 32 = .ok (.aload_n 3, 1) := by decide +kernel
theorem dX9_count_33 : decode cX9_count 33 = .ok (.iload_n 2, 1) := by decide +kernel
theorem dX9_count_34 : decode cX9_count 34 = .ok (.putfield 110, 3) := by decide +kernel
theorem dX9_count_37 : decode cX9_count 37 = .ok (.aload_n 3, 1) := by decide +kernel
theorem dX9_count_38 : decode cX9_count 38 = .ok (.dup, 1) := by decide +kernel
theorem dX9_count_39 : decode cX9_count 39 = .ok (.getfield 116, 3) := by decide +kernel
theorem dX9_count_42 : decode cX9_count 42 = .ok (.iload 4, 2) := by decide +kernel
theorem dX9_count_44 : decode cX9_count 44 = .ok (.aload_n 3, 1) := by decide +kernel
theorem dX9_count_45 : decode cX9_count 45 = .ok (.aload_n 0, 1) := by decide +kernel
theorem dX9_count_46 : decode cX9_count 46 = .ok (.getfield 73, 3) := by decide +kernel
theorem dX9_count_49 : decode cX9_count 49 = .ok (.invokevirtual 106, 3) := by decide +kernel
theorem dX9_count_52 : decode cX9_count 52 = .ok (.imul, 1) := by decide +kernel
theorem dX9_count_53 : decode cX9_count 53 = .ok (.iadd, 1) := by decide +kernel
theorem dX9_count_54 : decode cX9_count 54 = .ok (.putfield 116, 3) := by decide +kernel
theorem dX9_count_57 : decode cX9_count 57 = .ok (.iload 4, 2) := by decide +kernel
theorem dX9_count_59 : decode cX9_count 59 = .ok (.ireturn, 1) := by decide +kernel
theorem dX9_level_0 : decode cX9_level 0 = .ok (.iload_n 1, 1) := by decide +kernel
theorem dX9_level_1 : decode cX9_level 1 = .ok (.invokestatic 248, 3) := by decide +kernel
theorem dX9_level_4 : decode cX9_level 4 = .ok (.ifCond .eq 24, 3) := by decide +kernel
theorem dX9_level_7 : decode cX9_level 7 = .ok (.iload_n 2, 1) := by decide +kernel
theorem dX9_level_8 : decode cX9_level 8 = .ok (.iconst 0, 1) := by decide +kernel
theorem dX9_level_9 : decode cX9_level 9 = .ok (.sipush 999, 3) := by decide +kernel
theorem dX9_level_12 : decode cX9_level 12 = .ok (.invokestatic 85, 3) := by decide +kernel
theorem dX9_level_15 : decode cX9_level 15 = .ok (.ifCond .eq 13, 3) := by decide +kernel
theorem dX9_level_18 : decode cX9_level 18 = .ok (.iload_n 3, 1) := by decide +kernel
theorem dX9_level_19 : decode cX9_level 19 = .ok (.iconst 0, 1) := by decide +kernel
theorem dX9_level_20 : decode cX9_level 20 = .ok (.bipush 99, 2) := by decide +kernel
theorem dX9_level_22 : decode cX9_level 22 = .ok (.invokestatic 85, 3) := by decide +kernel
theorem dX9_level_25 : decode cX9_level 25 = .ok (.ifCond .ne 5, 3) := by decide +kernel
theorem dX9_level_28 : decode cX9_level 28 = .ok (.iconst 0, 1) := by decide +kernel
theorem dX9_level_29 : decode cX9_level 29 = .ok (.ireturn, 1) := by decide +kernel
theorem dX9_level_30 : decode cX9_level 30 = .ok (.aload_n 0, 1) := by decide +kernel
theorem dX9_level_31 : decode cX9_level 31 = .ok (.getfield 69, 3) := by decide +kernel
theorem dX9_level_34 : decode cX9_level 34 = .ok (.getfield 251, 3) := by decide +kernel
theorem dX9_level_37 : decode cX9_level 37 = .ok (.iload_n 1, 1) := by decide +kernel
theorem dX9_level_38 : decode cX9_level 38 = .ok (.iload_n 2, 1) := by decide +kernel
theorem dX9_level_39 : decode cX9_level 39 = .ok (.iastore, 1) := by decide +kernel
theorem dX9_level_40 : decode cX9_level 40 = .ok (.aload_n 0, 1) := by decide +kernel
theorem dX9_level_41 : decode cX9_level 41 = .ok (.getfield 69, 3) := by decide +kernel
theorem dX9_level_44 : decode cX9_level 44 = .ok (.getfield 255, 3) := by decide +kernel
theorem dX9_level_47 : decode cX9_level 47 = .ok (.iload_n 1, 1) := by decide +kernel
theorem dX9_level_48 : decode cX9_level 48 = .ok (.iload_n 3, 1) := by decide +kernel
theorem dX9_level_49 : decode cX9_level 49 = .ok (.iastore, 1) := by decide +kernel
theorem dX9_level_50 : decode cX9_level 50 = .ok (.iconst 1, 1) := by decide +kernel
theorem dX9_level_51 : decode cX9_level 51 = .ok (.ireturn, 1) := by decide +kernel
theorem dX9_best_0 : decode cX9_best 0 = .ok (.iload_n 1, 1) := by decide +kernel
theorem dX9_best_1 : decode cX9_best 1 = .ok (.iconst 0, 1) := by decide +kernel
theorem dX9_best_2 : decode cX9_best 2 = .ok (.sipush 200, 3) := by decide +kernel
theorem dX9_best_5 : decode cX9_best 5 = .ok (.invokestatic 85, 3) := by decide +kernel
theorem dX9_best_8 : decode cX9_best 8 = .ok (.ifCond .eq 20, 3) := by decide +kernel
theorem dX9_best_11 : decode cX9_best 11 = .ok (.iload_n 2, 1) := by decide +kernel
theorem dX9_best_12 : decode cX9_best 12 = .ok (.iconst 0, 1) := by decide +kernel
theorem dX9_best_13 : decode cX9_best 13 = .ok (.bipush 8, 2) := by decide +kernel
theorem dX9_best_15 : decode cX9_best 15 = .ok (.invokestatic 85, 3) := by decide +kernel
theorem dX9_best_18 : decode cX9_best 18 = .ok (.ifCond .eq 10, 3) := by decide +kernel
theorem dX9_best_21 : decode cX9_best 21 = .ok (.iload_n 3, 1) := by decide +kernel
theorem dX9_best_22 : decode cX9_best 22 = .ok (.invokestatic 248, 3) := by decide +kernel
theorem dX9_best_25 : decode cX9_best 25 = .ok (.ifCond .ne 5, 3) := by decide +kernel
theorem dX9_best_28 : decode cX9_best 28 = .ok (.iconst (-1), 1) := by decide +kernel
theorem dX9_best_29 : decode cX9_best 29 = .ok (.ireturn, 1) := by decide +kernel
theorem dX9_best_30 : decode cX9_best 30 = .ok (.aload_n 0, 1) := by decide +kernel
theorem dX9_best_31 : decode cX9_best 31 = .ok (.getfield 69, 3) := by decide +kernel
theorem dX9_best_34 : decode cX9_best 34 = .ok (.iload_n 1, 1) := by decide +kernel
theorem dX9_best_35 : decode cX9_best 35 = .ok (.iload_n 2, 1) := by decide +kernel
theorem dX9_best_36 : decode cX9_best 36 = .ok (.iload_n 3, 1) := by decide +kernel
theorem dX9_best_37 : decode cX9_best 37 = .ok (.invokevirtual 258, 3) := by decide +kernel
theorem dX9_best_40 : decode cX9_best 40 = .ok (.iload 4, 2) := by decide +kernel
theorem dX9_best_42 : decode cX9_best 42 = .ok (.ifCond .ne 11, 3) := by decide +kernel
theorem dX9_best_45 : decode cX9_best 45 = .ok (.aload_n 0, 1) := by decide +kernel
theorem dX9_best_46 : decode cX9_best 46 = .ok (.getfield 69, 3) := by decide +kernel
theorem dX9_best_49 : decode cX9_best 49 = .ok (.getfield 261, 3) := by decide +kernel
theorem dX9_best_52 : decode cX9_best 52 = .ok (.ireturn, 1) := by decide +kernel
theorem dX9_best_53 : decode cX9_best 53 = .ok (.iload 4, 2) := by decide +kernel
theorem dX9_best_55 : decode cX9_best 55 = .ok (.iconst 1, 1) := by decide +kernel
theorem dX9_best_56 : decode cX9_best 56 = .ok (.if_icmp .ne 11, 3) := by decide +kernel
theorem dX9_best_59 : decode cX9_best 59 = .ok (.aload_n 0, 1) := by decide +kernel
theorem dX9_best_60 : decode cX9_best 60 = .ok (.getfield 69, 3) := by decide +kernel
theorem dX9_best_63 : decode cX9_best 63 = .ok (.getfield 264, 3) := by decide +kernel
theorem dX9_best_66 : decode cX9_best 66 = .ok (.ireturn, 1) := by decide +kernel
theorem dX9_best_67 : decode cX9_best 67 = .ok (.iload 4, 2) := by decide +kernel
theorem dX9_best_69 : decode cX9_best 69 = .ok (.bipush 10, 2) := by decide +kernel
theorem dX9_best_71 : decode cX9_best 71 = .ok (.bipush 10, 2) := by decide +kernel
theorem dX9_best_73 : decode cX9_best 73 = .ok (.iload_n 2, 1) := by decide +kernel
theorem dX9_best_74 : decode cX9_best 74 = .ok (.iadd, 1) := by decide +kernel
theorem dX9_best_75 : decode cX9_best 75 = .ok (.iconst 1, 1) := by decide +kernel
theorem dX9_best_76 : decode cX9_best 76 = .ok (.isub, 1) := by decide +kernel
theorem dX9_best_77 : decode cX9_best 77 = .ok (.invokestatic 85, 3) := by decide +kernel
theorem dX9_best_80 : decode cX9_best 80 = .ok (.ifCond .eq 17, 3) := by decide +kernel
theorem dX9_best_83 : decode cX9_best 83 = .ok (.aload_n 0, 1) := by decide +kernel
theorem dX9_best_84 : decode cX9_best 84 = .ok (.getfield 69, 3) := by decide +kernel
theorem dX9_best_87 : decode cX9_best 87 = .ok (.getfield 267, 3) := by decide +kernel
theorem dX9_best_90 : decode cX9_best 90 = .ok (.iload 4, 2) := by decide +kernel
theorem dX9_best_92 : decode cX9_best 92 = .ok (.bipush 10, 2) := by decide +kernel
theorem dX9_best_94 : decode cX9_best 94 = .ok (.isub, 1) := by decide +kernel
theorem dX9_best_95 : decode cX9_best 95 = .ok (.iaload, 1) := by decide +kernel
theorem dX9_best_96 : decode cX9_best 96 = .ok (.ireturn, 1) := by decide +kernel
theorem dX9_best_97 : decode cX9_best 97 = .ok (.iconst (-1), 1) := by decide +kernel
theorem dX9_best_98 : decode cX9_best 98 = .ok (.ireturn, 1) := by decide +kernel
theorem dX9_thingAt_0 : decode cX9_thingAt 0 = .ok (.iload_n 1, 1) := by decide +kernel
theorem dX9_thingAt_1 : decode cX9_thingAt 1 = .ok (.ifCond .lt 28, 3) := by decide +kernel
theorem dX9_thingAt_4 : decode cX9_thingAt 4 = .ok (.iload_n 1, 1) := by decide +kernel
theorem dX9_thingAt_5 : decode cX9_thingAt 5 = .ok (.aload_n 0, 1) := by decide +kernel
theorem dX9_thingAt_6 : decode cX9_thingAt 6 = .ok (.getfield 12, 3) := by decide +kernel
theorem dX9_thingAt_9 : decode cX9_thingAt 9 = .ok (.invokevirtual 77, 3) := by decide +kernel
theorem dX9_thingAt_12 : decode cX9_thingAt 12 = .ok (.if_icmp .ge 17, 3) := by decide +kernel
theorem dX9_thingAt_15 : decode cX9_thingAt 15 = .ok (.aload_n 0, 1) := by decide +kernel
theorem dX9_thingAt_16 : decode cX9_thingAt 16 = .ok (.getfield 12, 3) := by decide +kernel
theorem dX9_thingAt_19 : decode cX9_thingAt 19 = .ok (.iload_n 1, 1) := by decide +kernel
theorem dX9_thingAt_20 : decode cX9_thingAt 20 = .ok (.invokevirtual 119, 3) := by decide +kernel
theorem dX9_thingAt_23 : decode cX9_thingAt 23 = .ok (.checkcast 89, 3) := by decide +kernel
theorem dX9_thingAt_26 : decode cX9_thingAt 26 = .ok (.goto 4, 3) := by decide +kernel
theorem dX9_thingAt_29 : decode cX9_thingAt 29 = .ok (.aconst_null, 1) := by decide +kernel
theorem dX9_thingAt_30 : decode cX9_thingAt 30 = .ok (.areturn, 1) := by decide +kernel
theorem dX9_slipAt_0 : decode cX9_slipAt 0 = .ok (.iload_n 1, 1) := by decide +kernel
theorem dX9_slipAt_1 : decode cX9_slipAt 1 = .ok (.ifCond .lt 28, 3) := by decide +kernel
theorem dX9_slipAt_4 : decode cX9_slipAt 4 = .ok (.iload_n 1, 1) := by decide +kernel
theorem dX9_slipAt_5 : decode cX9_slipAt 5 = .ok (.aload_n 0, 1) := by decide +kernel
theorem dX9_slipAt_6 : decode cX9_slipAt 6 = .ok (.getfield 16, 3) := by decide +kernel
theorem dX9_slipAt_9 : decode cX9_slipAt 9 = .ok (.invokevirtual 77, 3) := by decide +kernel
theorem dX9_slipAt_12 : decode cX9_slipAt 12 = .ok (.if_icmp .ge 17, 3) := by decide +kernel
theorem dX9_slipAt_15 : decode cX9_slipAt 15 = .ok (.aload_n 0, 1) := by decide +kernel
theorem dX9_slipAt_16 : decode cX9_slipAt 16 = .ok (.getfield 16, 3) := by decide +kernel
theorem dX9_slipAt_19 : decode cX9_slipAt 19 = .ok (.iload_n 1, 1) := by decide +kernel
theorem dX9_slipAt_20 : decode cX9_slipAt 20 = .ok (.invokevirtual 119, 3) := by decide +kernel
theorem dX9_slipAt_23 : decode cX9_slipAt 23 = .ok (.checkcast 127, 3) := by decide +kernel
theorem dX9_slipAt_26 : decode cX9_slipAt 26 = .ok (.goto 4, 3) := by decide +kernel
theorem dX9_slipAt_29 : decode cX9_slipAt 29 = .ok (.aconst_null, 1) := by decide +kernel
theorem dX9_slipAt_30 : decode cX9_slipAt 30 = .ok (.areturn, 1) := by decide +kernel
theorem dX9_countOnApproval_0 : decode cX9_countOnApproval 0 = .ok (.iconst 0, 1) := by decide +kernel
theorem dX9_countOnApproval_1 : decode cX9_countOnApproval 1 = .ok (.istore_n 1, 1) := by decide +kernel
theorem dX9_countOnApproval_2 : decode cX9_countOnApproval 2 = .ok (.iconst 0, 1) := by decide +kernel
theorem dX9_countOnApproval_3 : decode cX9_countOnApproval 3 = .ok (.istore_n 2, 1) := by decide +kernel
theorem dX9_countOnApproval_4 : decode cX9_countOnApproval 4 = .ok (.iload_n 2, 1) := by decide +kernel
theorem dX9_countOnApproval_5 : decode cX9_countOnApproval 5 = .ok (.aload_n 0, 1) := by decide +kernel
theorem dX9_countOnApproval_6 : decode cX9_countOnApproval 6 = .ok (.getfield 16, 3) := by decide +kernel
theorem dX9_countOnApproval_9 : decode cX9_countOnApproval 9 = .ok (.invokevirtual 77, 3) := by decide +kernel
theorem dX9_countOnApproval_12 : decode cX9_countOnApproval 12 = .ok (.if_icmp .ge 30, 3) := by decide +kernel
theorem dX9_countOnApproval_15 : decode cX9_countOnApproval 15 = .ok (.aload_n 0, 1) := by decide +kernel
theorem dX9_countOnApproval_16 : decode cX9_countOnApproval 16 = .ok (.getfield 16, 3) := by decide +kernel
theorem dX9_countOnApproval_19 : decode cX9_countOnApproval 19 = .ok (.iload_n 2, 1) := by decide +kernel
theorem dX9_countOnApproval_20 : decode cX9_countOnApproval 20 = .ok (.invokevirtual 119, 3) := by decide +kernel
theorem dX9_countOnApproval_23 : decode cX9_countOnApproval 23 = .ok (.checkcast 127, 3) := by decide +kernel
theorem dX9_countOnApproval_26 : decode cX9_countOnApproval 26 = .ok (.invokevirtual 155, 3) := by decide +kernel
theorem dX9_countOnApproval_29 : decode cX9_countOnApproval 29 = .ok (.iconst 1, 1) := by decide +kernel
theorem dX9_countOnApproval_30 : decode cX9_countOnApproval 30 = .ok (.if_icmp .ne 6, 3) := by decide +kernel
theorem dX9_countOnApproval_33 : decode cX9_countOnApproval 33 = .ok (.iinc 1 1, 3) := by decide +kernel
theorem dX9_countOnApproval_36 : decode cX9_countOnApproval 36 = .ok (.iinc 2 1, 3) := by decide +kernel
theorem dX9_countOnApproval_39 : decode cX9_countOnApproval 39 = .ok (.goto (-35), 3) := by decide +kernel
theorem dX9_countOnApproval_42 : decode cX9_countOnApproval 42 = .ok (.iload_n 1, 1) := by decide +kernel
theorem dX9_countOnApproval_43 : decode cX9_countOnApproval 43 = .ok (.ireturn, 1) := by decide +kernel
theorem dX9_countParcels_0 : decode cX9_countParcels 0 = .ok (.iconst 0, 1) := by decide +kernel
theorem dX9_countParcels_1 : decode cX9_countParcels 1 = .ok (.istore_n 1, 1) := by decide +kernel
theorem dX9_countParcels_2 : decode cX9_countParcels 2 = .ok (.iconst 0, 1) := by decide +kernel
theorem dX9_countParcels_3 : decode cX9_countParcels 3 = .ok (.istore_n 2, 1) := by decide +kernel
theorem dX9_countParcels_4 : decode cX9_countParcels 4 = .ok (.iload_n 2, 1) := by decide +kernel
theorem dX9_countParcels_5 : decode cX9_countParcels 5 = .ok (.aload_n 0, 1) := by decide +kernel
theorem dX9_countParcels_6 : decode cX9_countParcels 6 = .ok (.getfield 16, 3) := by decide +kernel
theorem dX9_countParcels_9 : decode cX9_countParcels 9 = .ok (.invokevirtual 77, 3) := by decide +kernel
theorem dX9_countParcels_12 : decode cX9_countParcels 12 = .ok (.if_icmp .ge 29, 3) := by decide +kernel
theorem dX9_countParcels_15 : decode cX9_countParcels 15 = .ok (.aload_n 0, 1) := by decide +kernel
theorem dX9_countParcels_16 : decode cX9_countParcels 16 = .ok (.getfield 16, 3) := by decide +kernel
theorem dX9_countParcels_19 : decode cX9_countParcels 19 = .ok (.iload_n 2, 1) := by decide +kernel
theorem dX9_countParcels_20 : decode cX9_countParcels 20 = .ok (.invokevirtual 119, 3) := by decide +kernel
theorem dX9_countParcels_23 : decode cX9_countParcels 23 = .ok (.checkcast 127, 3) := by decide +kernel
theorem dX9_countParcels_26 : decode cX9_countParcels 26 = .ok (.invokevirtual 270, 3) := by decide +kernel
theorem dX9_countParcels_29 : decode cX9_countParcels 29 = .ok (.ifCond .eq 6, 3) := by decide +kernel
theorem dX9_countParcels_32 : decode cX9_countParcels 32 = .ok (.iinc 1 1, 3) := by decide +kernel
theorem dX9_countParcels_35 : decode cX9_countParcels 35 = .ok (.iinc 2 1, 3) := by decide +kernel
theorem dX9_countParcels_38 : decode cX9_countParcels 38 = .ok (.goto (-34), 3) := by decide +kernel
theorem dX9_countParcels_41 : decode cX9_countParcels 41 = .ok (.iload_n 1, 1) := by decide +kernel
theorem dX9_countParcels_42 : decode cX9_countParcels 42 = .ok (.ireturn, 1) := by decide +kernel
theorem dX6_init_0 : decode cX6_init 0 = .ok (.aload_n 0, 1) := by decide +kernel
theorem dX6_init_1 : decode cX6_init 1 = .ok (.invokespecial 3, 3) := by decide +kernel
theorem dX6_init_4 : decode cX6_init 4 = .ok (.aload_n 0, 1) := by decide +kernel
theorem dX6_init_5 : decode cX6_init 5 = .ok (.sipush 364, 3) := by decide +kernel
theorem dX6_init_8 : decode cX6_init 8 = .ok (.newarray .int, 2) := by decide +kernel
theorem dX6_init_10 : decode cX6_init 10 = .ok (.putfield 9, 3) := by decide +kernel
theorem dX6_init_13 : decode cX6_init 13 = .ok (.aload_n 0, 1) := by decide +kernel
theorem dX6_init_14 : decode cX6_init 14 = .ok (.iload_n 1, 1) := by decide +kernel
theorem dX6_init_15 : decode cX6_init 15 = .ok (.putfield 15, 3) := by decide +kernel
theorem dX6_init_18 : decode cX6_init 18 = .ok (.aload_n 0, 1) := by decide +kernel
theorem dX6_init_19 : decode cX6_init 19 = .ok (.iload_n 3, 1) := by decide +kernel
theorem dX6_init_20 : decode cX6_init 20 = .ok (.putfield 19, 3) := by decide +kernel
theorem dX6_init_23 : decode cX6_init 23 = .ok (.iload_n 1, 1) := by decide +kernel
theorem dX6_init_24 : decode cX6_init 24 = .ok (.ifCond .lt 17, 3) := by decide +kernel
theorem dX6_init_27 : decode cX6_init 27 = .ok (.iload_n 1, 1) := by decide +kernel
theorem dX6_init_28 : decode cX6_init 28 = .ok (.sipush 364, 3) := by decide +kernel
theorem dX6_init_31 : decode cX6_init 31 = .ok (.if_icmp .ge 10, 3) := by decide +kernel
theorem dX6_init_34 : decode cX6_init 34 = .ok (.aload_n 0, 1) := by decide +kernel
theorem dX6_init_35 : decode cX6_init 35 = .ok (.getfield 9, 3) := by decide +kernel
theorem dX6_init_38 : decode cX6_init 38 = .ok (.iload_n 1, 1) := by decide +kernel
theorem dX6_init_39 : decode cX6_init 39 = .ok (.iload_n 2, 1) := by decide +kernel
theorem dX6_init_40 : decode cX6_init 40 = .ok (.iastore, 1) := by decide +kernel
theorem dX6_init_41 : decode cX6_init 41 = .ok (.return_, 1) := by decide +kernel
theorem dX3_init_0 : decode cX3_init 0 = .ok (.aload_n 0, 1) := by decide +kernel
theorem dX3_init_1 : decode cX3_init 1 = .ok (.invokespecial 3, 3) := by decide +kernel
theorem dX3_init_4 : decode cX3_init 4 = .ok (.aload_n 0, 1) := by decide +kernel
theorem dX3_init_5 : decode cX3_init 5 = .ok (.iload_n 1, 1) := by decide +kernel
theorem dX3_init_6 : decode cX3_init 6 = .ok (.putfield 9, 3) := by decide +kernel
theorem dX3_init_9 : decode cX3_init 9 = .ok (.aload_n 0, 1) := by decide +kernel
theorem dX3_init_10 : decode cX3_init 10 = .ok (.iload_n 2, 1) := by decide +kernel
theorem dX3_init_11 : decode cX3_init 11 = .ok (.putfield 15, 3) := by decide +kernel
theorem dX3_init_14 : decode cX3_init 14 = .ok (.aload_n 0, 1) := by decide +kernel
theorem dX3_init_15 : decode cX3_init 15 = .ok (.iload_n 3, 1) := by decide +kernel
theorem dX3_init_16 : decode cX3_init 16 = .ok (.putfield 18, 3) := by decide +kernel
theorem dX3_init_19 : decode cX3_init 19 = .ok (.aload_n 0, 1) := by decide +kernel
theorem dX3_init_20 : decode cX3_init 20 = .ok (.aload 4, 2) := by decide +kernel
theorem dX3_init_22 : decode cX3_init 22 = .ok (.putfield 21, 3) := by decide +kernel
theorem dX3_init_25 : decode cX3_init 25 = .ok (.aload_n 0, 1) := by decide +kernel
theorem dX3_init_26 : decode cX3_init 26 = .ok (.iload 5, 2) := by decide +kernel
theorem dX3_init_28 : decode cX3_init 28 = .ok (.putfield 25, 3) := by decide +kernel
theorem dX3_init_31 : decode cX3_init 31 = .ok (.aload_n 0, 1) := by decide +kernel
theorem dX3_init_32 : decode cX3_init 32 = .ok (.iload 6, 2) := by decide +kernel
theorem dX3_init_34 : decode cX3_init 34 = .ok (.putfield 28, 3) := by decide +kernel
theorem dX3_init_37 : decode cX3_init 37 = .ok (.aload_n 0, 1) := by decide +kernel
theorem dX3_init_38 : decode cX3_init 38 = .ok (.iload 7, 2) := by decide +kernel
theorem dX3_init_40 : decode cX3_init 40 = .ok (.putfield 31, 3) := by decide +kernel
theorem dX3_init_43 : decode cX3_init 43 = .ok (.aload_n 0, 1) := by decide +kernel
theorem dX3_init_44 : decode cX3_init 44 = .ok (.iload 5, 2) := by decide +kernel
theorem dX3_init_46 : decode cX3_init 46 = .ok (.aload 4, 2) := by decide +kernel
theorem dX3_init_48 : decode cX3_init 48 = .ok (.iload 7, 2) := by decide +kernel
theorem dX3_init_50 : decode cX3_init 50 = .ok (.invokevirtual 34, 3) := by decide +kernel
theorem dX3_init_53 : decode cX3_init 53 = .ok (.imul, 1) := by decide +kernel
theorem dX3_init_54 : decode cX3_init 54 = .ok (.putfield 40, 3) := by decide +kernel
theorem dX3_init_57 : decode cX3_init 57 = .ok (.aload_n 0, 1) := by decide +kernel
theorem dX3_init_58 : decode cX3_init 58 = .ok (.iload 7, 2) := by decide +kernel
theorem dX3_init_60 : decode cX3_init 60 = .ok (.putfield 43, 3) := by decide +kernel
theorem dX3_init_63 : decode cX3_init 63 = .ok (.aload_n 0, 1) := by decide +kernel
theorem dX3_init_64 : decode cX3_init 64 = .ok (.iconst (-1), 1) := by decide +kernel
theorem dX3_init_65 : decode cX3_init 65 = .ok (.putfield 46, 3) := by decide +kernel
theorem dX3_init_68 : decode cX3_init 68 = .ok (.aload_n 0, 1) := by decide +kernel
theorem dX3_init_69 : decode cX3_init 69 = .ok (.iconst (-1), 1) := by decide +kernel
theorem dX3_init_70 : decode cX3_init 70 = .ok (.putfield 49, 3) := by decide +kernel
theorem dX3_init_73 : decode cX3_init 73 = .ok (.aload_n 0, 1) := by decide +kernel
theorem dX3_init_74 : decode cX3_init 74 = .ok (.iconst (-1), 1) := by decide +kernel
theorem dX3_init_75 : decode cX3_init 75 = .ok (.putfield 52, 3) := by decide +kernel
theorem dX3_init_78 : decode cX3_init 78 = .ok (.return_, 1) := by decide +kernel
theorem dJx4a65c_size_8abf5_0 : decode cJx4a65c_size_8abf5 0 = .ok (.aload_n 0, 1) := by decide +kernel
theorem dJx4a65c_size_8abf5_1 : decode cJx4a65c_size_8abf5 1 = .ok (.getfield 48, 3) := by decide +kernel
theorem dJx4a65c_size_8abf5_4 : decode cJx4a65c_size_8abf5 4 = .ok (.ireturn, 1) := by decide +kernel
end
section
-- ===== casts, text constants, calls on texts =====
section VX
variable {σ : Bool} {M : MT} {d bc bs pc : Nat} {lv : List (Nat × AV)} {st : List AV} {h : HS} {P : Option AV → HS → Prop}
theorem V_cast {c i ci idx N : Nat} {C : String} {T : u_T} (hc65 : c < 65) (hr : rty c i = .inl ci) (hcl : vwCl[ci]? = some (C, T, N)) (hw : Cond.classLink M.1.cls idx C ∈ gw) (hd : decode M.2.1 pc = .ok (.checkcast idx, 3)) (kk : V σ M d bc bs (pc + 3) lv (aR c i :: st) h P) : V σ M d bc bs pc lv (aR c i :: st) h P := by
  intro p l e R s m args below meth c0 D cA B ad ad0 L0 H locs cells slots ls b
  obtain ⟨j, -, hj⟩ := ws_at (σ := σ) (cA := cA) (ad := ad) (inL hc65 (okh b.so))
  rw [toE_o hr] at hj
  exact va_castS b.x b.b b.own (b.ts _ hw) (b.K.1 ci _ hcl).2 (va_recv b.K b.rep.1 hcl hj) hd (kk p l e R s m args below meth c0 D cA B ad ad0 L0 H locs cells slots ls b)
theorem V_ldcs {idx : Nat} (j : Nat) {tx : String} (hd : decode M.2.1 pc = .ok (.ldc idx, 2)) (_hw : Cond.stringRef M.1.cls idx tx ∈ lw_tbl) (hown : M.1.cls = "GreatStore$Tokens") (hj : j < 7) (hi : sIx.getD j 0 = idx) (kk : V σ M d bc bs (pc + 2) lv (aR 65 j :: st) h P) : V σ M d bc bs pc lv st h P := by
  intro p l e R s m args below meth c0 D cA B ad ad0 L0 H locs cells slots ls b
  subst hi
  refine va_ldcS b.x b.b b.own (by rw [hown]; exact b.2.2.1.2.1 j hj) hd (kk p l e R s m args below meth c0 D cA B ad ad0 L0 H locs cells slots ls (b.stk (okc (fun q e => ?_) b.so)))
  cases e
  exact Or.inr (Nat.le_refl 65)
/-- a call on a text -/
theorem V_callX {M2 : MT} {n idx mc ms ia : Nat} {as : List AV} (hi7 : ia < 7) (hcs : M2.1.cls = "java/lang/String") (hd : decode M.2.1 pc = .ok (.invokevirtual idx, 3)) (ho : Mok M2 n) (hs : Cond.instanceMethod M2.1 ∈ gw) (hse : Cond.selects M2.1.cls M2.1 M2.1 ∈ gw) (hl : Cond.methodLink M.1.cls idx M2.1 ∈ gw) (hn : as.length = n) (hw : (st.map ct).sum ≤ 8) (hm : mc ≤ bc) (hms : ms ≤ bs)
    (k : Cl σ M2 d mc ms (aR 65 ia :: as) h (fun r h2 => V σ M (d + 1) (bc - mc) (bs - ms) (pc + 3) lv (r.toList ++ st) h2 P)) : V σ M (d + 1) bc bs pc lv (as.reverse ++ aR 65 ia :: st) h P := by
  intro p l e R s m args below meth c D cA B ad ad0 L0 H locs cells slots ls b
  have hst : ∀ v ∈ st, okV h v := fun v hv => b.so v (List.mem_append_right _ (List.mem_cons_of_mem _ hv))
  have has : ∀ v ∈ aR 65 ia :: as, okV h v := okc (b.so _ (List.mem_append_right _ List.mem_cons_self)) (fun v hv => b.so v (List.mem_append_left _ (List.mem_reverse.mpr hv)))
  obtain ⟨o1, o2, o3, o4⟩ := ho
  obtain ⟨f1, f2⟩ := b.2.2.2.1
  obtain ⟨g1, g2⟩ := b.2.2.2.2.1
  have hO := ((b.2.2.1.1).kept b.S.2.1).1 ia hi7
  obtain ⟨cell, y1, y2, y3, -⟩ := hO.1
  refine V_back (M2 := M2) (as := as) hm hms b hst (va_runV (b := ad (65, ia)) (C := M2.1.cls) (As := as.map (vl ad)) (rest := st.map (vl ad)) (Ts := gw) ⟨b.x, b.b, b.1.2.2.1, b.own, b.ts⟩ (k l D cA B ad) ⟨callB_of n b.ts (gwIn o1) rfl rfl rfl (b.ts _ o2) (b.ts _ hl) o3 ⟨f1, by show 8 + (M2.2.2.1 + 11) + 64 * d ≤ R.locals; omega⟩, b.ts _ hs, b.ts _ hse⟩ ⟨blind, ⟨cell, y1, y2, by rw [hcs]; exact y3⟩, pre_at b has⟩ rfl (by rw [List.length_map]; exact hn) b.lh.1 (by rw [stk_split]; rfl) (lv_room (ct_room hw)) hd ⟨by omega, by omega⟩)
end VX
theorem ac_int : Cond.arrayClass .int ∈ gw := by decide +kernel
theorem ac_byte : Cond.arrayClass .byte ∈ gw := by decide +kernel
theorem ac_boolean : Cond.arrayClass .boolean ∈ gw := by decide +kernel
end

section
-- ===== PART A: goes FIRST, ahead of the names: the tables' words, and 'selects' of the private methods out of them =====
/-- a private method of a class that the tables say can be made, by its rows of tables_1 -/
def lw_okq (q : MethodName × Nat) : Prop := (q.1.cls ≠ "java/lang/invoke/MethodHandle" ∧ q.1.cls ≠ "java/lang/invoke/VarHandle") ∧ Cond.instantiable q.1.cls q.2 ∈ tables_1 ∧ Cond.privateMethod q.1 ∈ tables_1 ∧ Cond.instanceMethod q.1 ∈ tables_1
theorem lw_p0 : lw_okq (⟨"java/util/ArrayList", "add", "(Ljava/lang/Object;[Ljava/lang/Object;I)V"⟩, 3) := ⟨⟨by decide +kernel, by decide +kernel⟩, List.mem_of_getElem? (i := 33) (by decide +kernel), List.mem_of_getElem? (i := 309) (by decide +kernel), List.mem_of_getElem? (i := 310) (by decide +kernel)⟩
theorem lw_p1 : lw_okq (⟨"java/util/ArrayList", "grow", "()[Ljava/lang/Object;"⟩, 3) := ⟨⟨by decide +kernel, by decide +kernel⟩, List.mem_of_getElem? (i := 33) (by decide +kernel), List.mem_of_getElem? (i := 313) (by decide +kernel), List.mem_of_getElem? (i := 314) (by decide +kernel)⟩
theorem lw_p2 : lw_okq (⟨"java/util/ArrayList", "grow", "(I)[Ljava/lang/Object;"⟩, 3) := ⟨⟨by decide +kernel, by decide +kernel⟩, List.mem_of_getElem? (i := 33) (by decide +kernel), List.mem_of_getElem? (i := 317) (by decide +kernel), List.mem_of_getElem? (i := 318) (by decide +kernel)⟩
theorem lw_p3 : lw_okq (⟨"GreatStore", "thingAt", "(I)LGreatStore$Thing;"⟩, 11) := ⟨⟨by decide +kernel, by decide +kernel⟩, List.mem_of_getElem? (i := 25) (by decide +kernel), List.mem_of_getElem? (i := 368) (by decide +kernel), List.mem_of_getElem? (i := 369) (by decide +kernel)⟩
theorem lw_p4 : lw_okq (⟨"GreatStore", "slipAt", "(I)LGreatStore$Slip;"⟩, 11) := ⟨⟨by decide +kernel, by decide +kernel⟩, List.mem_of_getElem? (i := 25) (by decide +kernel), List.mem_of_getElem? (i := 487) (by decide +kernel), List.mem_of_getElem? (i := 488) (by decide +kernel)⟩
theorem lw_p5 : lw_okq (⟨"GreatStore", "countOnApproval", "()I"⟩, 11) := ⟨⟨by decide +kernel, by decide +kernel⟩, List.mem_of_getElem? (i := 25) (by decide +kernel), List.mem_of_getElem? (i := 504) (by decide +kernel), List.mem_of_getElem? (i := 505) (by decide +kernel)⟩
theorem lw_p6 : lw_okq (⟨"GreatStore", "countParcels", "()I"⟩, 11) := ⟨⟨by decide +kernel, by decide +kernel⟩, List.mem_of_getElem? (i := 25) (by decide +kernel), List.mem_of_getElem? (i := 508) (by decide +kernel), List.mem_of_getElem? (i := 509) (by decide +kernel)⟩
theorem lw_p7 : lw_okq (⟨"GreatStore$Van", "askOnce", "(I)Z"⟩, 4) := ⟨⟨by decide +kernel, by decide +kernel⟩, List.mem_of_getElem? (i := 59) (by decide +kernel), List.mem_of_getElem? (i := 528) (by decide +kernel), List.mem_of_getElem? (i := 529) (by decide +kernel)⟩
theorem lw_p8 : lw_okq (⟨"GreatStore$Van", "piecesFor", "(Ljava/util/ArrayList;I)I"⟩, 4) := ⟨⟨by decide +kernel, by decide +kernel⟩, List.mem_of_getElem? (i := 59) (by decide +kernel), List.mem_of_getElem? (i := 532) (by decide +kernel), List.mem_of_getElem? (i := 533) (by decide +kernel)⟩
theorem lw_p9 : lw_okq (⟨"GreatStore$Van", "take", "(Ljava/util/ArrayList;II)V"⟩, 4) := ⟨⟨by decide +kernel, by decide +kernel⟩, List.mem_of_getElem? (i := 59) (by decide +kernel), List.mem_of_getElem? (i := 536) (by decide +kernel), List.mem_of_getElem? (i := 537) (by decide +kernel)⟩
theorem lw_p10 : lw_okq (⟨"GreatStore$Tokens", "scanToken", "([BII)I"⟩, 4) := ⟨⟨by decide +kernel, by decide +kernel⟩, List.mem_of_getElem? (i := 97) (by decide +kernel), List.mem_of_getElem? (i := 569) (by decide +kernel), List.mem_of_getElem? (i := 570) (by decide +kernel)⟩
theorem lw_p11 : lw_okq (⟨"GreatStore$Tokens", "add", "(III)V"⟩, 4) := ⟨⟨by decide +kernel, by decide +kernel⟩, List.mem_of_getElem? (i := 97) (by decide +kernel), List.mem_of_getElem? (i := 635) (by decide +kernel), List.mem_of_getElem? (i := 636) (by decide +kernel)⟩
theorem lw_p12 : lw_okq (⟨"GreatStore$RuleReader", "kind", "()I"⟩, 5) := ⟨⟨by decide +kernel, by decide +kernel⟩, List.mem_of_getElem? (i := 156) (by decide +kernel), List.mem_of_getElem? (i := 653) (by decide +kernel), List.mem_of_getElem? (i := 654) (by decide +kernel)⟩
theorem lw_p13 : lw_okq (⟨"GreatStore$RuleReader", "readLine", "(I)Z"⟩, 5) := ⟨⟨by decide +kernel, by decide +kernel⟩, List.mem_of_getElem? (i := 156) (by decide +kernel), List.mem_of_getElem? (i := 657) (by decide +kernel), List.mem_of_getElem? (i := 658) (by decide +kernel)⟩
theorem lw_p14 : lw_okq (⟨"GreatStore$RuleReader", "fail", "(I)Z"⟩, 5) := ⟨⟨by decide +kernel, by decide +kernel⟩, List.mem_of_getElem? (i := 156) (by decide +kernel), List.mem_of_getElem? (i := 661) (by decide +kernel), List.mem_of_getElem? (i := 662) (by decide +kernel)⟩
theorem lw_p15 : lw_okq (⟨"GreatStore$RuleReader", "readSum", "(I)Z"⟩, 5) := ⟨⟨by decide +kernel, by decide +kernel⟩, List.mem_of_getElem? (i := 156) (by decide +kernel), List.mem_of_getElem? (i := 665) (by decide +kernel), List.mem_of_getElem? (i := 666) (by decide +kernel)⟩
def lw_privs_1 : List (MethodName × Nat) := [(⟨"java/util/ArrayList", "add", "(Ljava/lang/Object;[Ljava/lang/Object;I)V"⟩, 3), (⟨"java/util/ArrayList", "grow", "()[Ljava/lang/Object;"⟩, 3), (⟨"java/util/ArrayList", "grow", "(I)[Ljava/lang/Object;"⟩, 3), (⟨"GreatStore", "thingAt", "(I)LGreatStore$Thing;"⟩, 11), (⟨"GreatStore", "slipAt", "(I)LGreatStore$Slip;"⟩, 11), (⟨"GreatStore", "countOnApproval", "()I"⟩, 11), (⟨"GreatStore", "countParcels", "()I"⟩, 11), (⟨"GreatStore$Van", "askOnce", "(I)Z"⟩, 4), (⟨"GreatStore$Van", "piecesFor", "(Ljava/util/ArrayList;I)I"⟩, 4), (⟨"GreatStore$Van", "take", "(Ljava/util/ArrayList;II)V"⟩, 4), (⟨"GreatStore$Tokens", "scanToken", "([BII)I"⟩, 4), (⟨"GreatStore$Tokens", "add", "(III)V"⟩, 4), (⟨"GreatStore$RuleReader", "kind", "()I"⟩, 5), (⟨"GreatStore$RuleReader", "readLine", "(I)Z"⟩, 5), (⟨"GreatStore$RuleReader", "fail", "(I)Z"⟩, 5), (⟨"GreatStore$RuleReader", "readSum", "(I)Z"⟩, 5)]
theorem lw_r1 : ∀ q ∈ lw_privs_1, lw_okq q := List.forall_mem_cons.mpr ⟨lw_p0, List.forall_mem_cons.mpr ⟨lw_p1, List.forall_mem_cons.mpr ⟨lw_p2, List.forall_mem_cons.mpr ⟨lw_p3, List.forall_mem_cons.mpr ⟨lw_p4, List.forall_mem_cons.mpr ⟨lw_p5, List.forall_mem_cons.mpr ⟨lw_p6, List.forall_mem_cons.mpr ⟨lw_p7, List.forall_mem_cons.mpr ⟨lw_p8, List.forall_mem_cons.mpr ⟨lw_p9, List.forall_mem_cons.mpr ⟨lw_p10, List.forall_mem_cons.mpr ⟨lw_p11, List.forall_mem_cons.mpr ⟨lw_p12, List.forall_mem_cons.mpr ⟨lw_p13, List.forall_mem_cons.mpr ⟨lw_p14, List.forall_mem_cons.mpr ⟨lw_p15, fun _ h => absurd h List.not_mem_nil⟩⟩⟩⟩⟩⟩⟩⟩⟩⟩⟩⟩⟩⟩⟩⟩
theorem lw_p16 : lw_okq (⟨"GreatStore$RuleReader", "readTerm", "(I)Z"⟩, 5) := ⟨⟨by decide +kernel, by decide +kernel⟩, List.mem_of_getElem? (i := 156) (by decide +kernel), List.mem_of_getElem? (i := 669) (by decide +kernel), List.mem_of_getElem? (i := 670) (by decide +kernel)⟩
theorem lw_p17 : lw_okq (⟨"GreatStore$RuleReader", "readUnit", "(I)Z"⟩, 5) := ⟨⟨by decide +kernel, by decide +kernel⟩, List.mem_of_getElem? (i := 156) (by decide +kernel), List.mem_of_getElem? (i := 673) (by decide +kernel), List.mem_of_getElem? (i := 674) (by decide +kernel)⟩
theorem lw_p18 : lw_okq (⟨"GreatStore$RuleReader", "number", "()I"⟩, 5) := ⟨⟨by decide +kernel, by decide +kernel⟩, List.mem_of_getElem? (i := 156) (by decide +kernel), List.mem_of_getElem? (i := 677) (by decide +kernel), List.mem_of_getElem? (i := 678) (by decide +kernel)⟩
theorem lw_p19 : lw_okq (⟨"GreatStore$RuleReader", "readDivisor", "()Z"⟩, 5) := ⟨⟨by decide +kernel, by decide +kernel⟩, List.mem_of_getElem? (i := 156) (by decide +kernel), List.mem_of_getElem? (i := 685) (by decide +kernel), List.mem_of_getElem? (i := 686) (by decide +kernel)⟩
theorem lw_p20 : lw_okq (⟨"GreatStore$RuleReader", "pass", "(I)Z"⟩, 5) := ⟨⟨by decide +kernel, by decide +kernel⟩, List.mem_of_getElem? (i := 156) (by decide +kernel), List.mem_of_getElem? (i := 689) (by decide +kernel), List.mem_of_getElem? (i := 690) (by decide +kernel)⟩
theorem lw_p21 : lw_okq (⟨"GreatStore$RuleReader", "readCondition", "()Z"⟩, 5) := ⟨⟨by decide +kernel, by decide +kernel⟩, List.mem_of_getElem? (i := 156) (by decide +kernel), List.mem_of_getElem? (i := 693) (by decide +kernel), List.mem_of_getElem? (i := 694) (by decide +kernel)⟩
theorem lw_p22 : lw_okq (⟨"GreatStore$Takings", "addSlip", "(LGreatStore$Slip;)V"⟩, 4) := ⟨⟨by decide +kernel, by decide +kernel⟩, List.mem_of_getElem? (i := 180) (by decide +kernel), List.mem_of_getElem? (i := 717) (by decide +kernel), List.mem_of_getElem? (i := 718) (by decide +kernel)⟩
theorem lw_p23 : lw_okq (⟨"GreatStore$Rule", "valueOf", "(IILGreatStore$Takings;)I"⟩, 9) := ⟨⟨by decide +kernel, by decide +kernel⟩, List.mem_of_getElem? (i := 120) (by decide +kernel), List.mem_of_getElem? (i := 737) (by decide +kernel), List.mem_of_getElem? (i := 738) (by decide +kernel)⟩
theorem lw_p24 : lw_okq (⟨"GreatStore$Rule", "pop", "()I"⟩, 9) := ⟨⟨by decide +kernel, by decide +kernel⟩, List.mem_of_getElem? (i := 120) (by decide +kernel), List.mem_of_getElem? (i := 742) (by decide +kernel), List.mem_of_getElem? (i := 743) (by decide +kernel)⟩
theorem lw_p25 : lw_okq (⟨"GreatStore$Rule", "push", "(I)V"⟩, 9) := ⟨⟨by decide +kernel, by decide +kernel⟩, List.mem_of_getElem? (i := 120) (by decide +kernel), List.mem_of_getElem? (i := 749) (by decide +kernel), List.mem_of_getElem? (i := 750) (by decide +kernel)⟩
theorem lw_p26 : lw_okq (⟨"GreatStore$Cuts", "tryRow", "(II)V"⟩, 6) := ⟨⟨by decide +kernel, by decide +kernel⟩, List.mem_of_getElem? (i := 202) (by decide +kernel), List.mem_of_getElem? (i := 792) (by decide +kernel), List.mem_of_getElem? (i := 793) (by decide +kernel)⟩
theorem lw_p27 : lw_okq (⟨"GreatStore$Cuts", "keepRow", "(I)V"⟩, 6) := ⟨⟨by decide +kernel, by decide +kernel⟩, List.mem_of_getElem? (i := 202) (by decide +kernel), List.mem_of_getElem? (i := 796) (by decide +kernel), List.mem_of_getElem? (i := 797) (by decide +kernel)⟩
theorem lw_p28 : lw_okq (⟨"GreatStore$Cuts", "stepRow", "(I)Z"⟩, 6) := ⟨⟨by decide +kernel, by decide +kernel⟩, List.mem_of_getElem? (i := 202) (by decide +kernel), List.mem_of_getElem? (i := 800) (by decide +kernel), List.mem_of_getElem? (i := 801) (by decide +kernel)⟩
theorem lw_p29 : lw_okq (⟨"GreatStoreModel", "isThing", "(I)Z"⟩, 55) := ⟨⟨by decide +kernel, by decide +kernel⟩, List.mem_of_getElem? (i := 804) (by decide +kernel), List.mem_of_getElem? (i := 990) (by decide +kernel), List.mem_of_getElem? (i := 991) (by decide +kernel)⟩
theorem lw_p30 : lw_okq (⟨"GreatStoreModel", "isSlip", "(I)Z"⟩, 55) := ⟨⟨by decide +kernel, by decide +kernel⟩, List.mem_of_getElem? (i := 804) (by decide +kernel), List.mem_of_getElem? (i := 1010) (by decide +kernel), List.mem_of_getElem? (i := 1011) (by decide +kernel)⟩
theorem lw_p31 : lw_okq (⟨"GreatStoreModel", "isParcel", "(I)Z"⟩, 55) := ⟨⟨by decide +kernel, by decide +kernel⟩, List.mem_of_getElem? (i := 804) (by decide +kernel), List.mem_of_getElem? (i := 1022) (by decide +kernel), List.mem_of_getElem? (i := 1023) (by decide +kernel)⟩
def lw_privs_2 : List (MethodName × Nat) := [(⟨"GreatStore$RuleReader", "readTerm", "(I)Z"⟩, 5), (⟨"GreatStore$RuleReader", "readUnit", "(I)Z"⟩, 5), (⟨"GreatStore$RuleReader", "number", "()I"⟩, 5), (⟨"GreatStore$RuleReader", "readDivisor", "()Z"⟩, 5), (⟨"GreatStore$RuleReader", "pass", "(I)Z"⟩, 5), (⟨"GreatStore$RuleReader", "readCondition", "()Z"⟩, 5), (⟨"GreatStore$Takings", "addSlip", "(LGreatStore$Slip;)V"⟩, 4), (⟨"GreatStore$Rule", "valueOf", "(IILGreatStore$Takings;)I"⟩, 9), (⟨"GreatStore$Rule", "pop", "()I"⟩, 9), (⟨"GreatStore$Rule", "push", "(I)V"⟩, 9), (⟨"GreatStore$Cuts", "tryRow", "(II)V"⟩, 6), (⟨"GreatStore$Cuts", "keepRow", "(I)V"⟩, 6), (⟨"GreatStore$Cuts", "stepRow", "(I)Z"⟩, 6), (⟨"GreatStoreModel", "isThing", "(I)Z"⟩, 55), (⟨"GreatStoreModel", "isSlip", "(I)Z"⟩, 55), (⟨"GreatStoreModel", "isParcel", "(I)Z"⟩, 55)]
theorem lw_r2 : ∀ q ∈ lw_privs_2, lw_okq q := List.forall_mem_cons.mpr ⟨lw_p16, List.forall_mem_cons.mpr ⟨lw_p17, List.forall_mem_cons.mpr ⟨lw_p18, List.forall_mem_cons.mpr ⟨lw_p19, List.forall_mem_cons.mpr ⟨lw_p20, List.forall_mem_cons.mpr ⟨lw_p21, List.forall_mem_cons.mpr ⟨lw_p22, List.forall_mem_cons.mpr ⟨lw_p23, List.forall_mem_cons.mpr ⟨lw_p24, List.forall_mem_cons.mpr ⟨lw_p25, List.forall_mem_cons.mpr ⟨lw_p26, List.forall_mem_cons.mpr ⟨lw_p27, List.forall_mem_cons.mpr ⟨lw_p28, List.forall_mem_cons.mpr ⟨lw_p29, List.forall_mem_cons.mpr ⟨lw_p30, List.forall_mem_cons.mpr ⟨lw_p31, fun _ h => absurd h List.not_mem_nil⟩⟩⟩⟩⟩⟩⟩⟩⟩⟩⟩⟩⟩⟩⟩⟩
theorem lw_p32 : lw_okq (⟨"GreatStoreModel", "next0", "()V"⟩, 55) := ⟨⟨by decide +kernel, by decide +kernel⟩, List.mem_of_getElem? (i := 804) (by decide +kernel), List.mem_of_getElem? (i := 1046) (by decide +kernel), List.mem_of_getElem? (i := 1047) (by decide +kernel)⟩
theorem lw_p33 : lw_okq (⟨"GreatStoreModel", "see", "(I)I"⟩, 55) := ⟨⟨by decide +kernel, by decide +kernel⟩, List.mem_of_getElem? (i := 804) (by decide +kernel), List.mem_of_getElem? (i := 1050) (by decide +kernel), List.mem_of_getElem? (i := 1051) (by decide +kernel)⟩
theorem lw_p34 : lw_okq (⟨"GreatStoreModel", "aLine", "()Z"⟩, 55) := ⟨⟨by decide +kernel, by decide +kernel⟩, List.mem_of_getElem? (i := 804) (by decide +kernel), List.mem_of_getElem? (i := 1074) (by decide +kernel), List.mem_of_getElem? (i := 1075) (by decide +kernel)⟩
theorem lw_p35 : lw_okq (⟨"GreatStoreModel", "bad", "(I)Z"⟩, 55) := ⟨⟨by decide +kernel, by decide +kernel⟩, List.mem_of_getElem? (i := 804) (by decide +kernel), List.mem_of_getElem? (i := 1078) (by decide +kernel), List.mem_of_getElem? (i := 1079) (by decide +kernel)⟩
theorem lw_p36 : lw_okq (⟨"GreatStoreModel", "sum", "()Z"⟩, 55) := ⟨⟨by decide +kernel, by decide +kernel⟩, List.mem_of_getElem? (i := 804) (by decide +kernel), List.mem_of_getElem? (i := 1082) (by decide +kernel), List.mem_of_getElem? (i := 1083) (by decide +kernel)⟩
theorem lw_p37 : lw_okq (⟨"GreatStoreModel", "product", "()Z"⟩, 55) := ⟨⟨by decide +kernel, by decide +kernel⟩, List.mem_of_getElem? (i := 804) (by decide +kernel), List.mem_of_getElem? (i := 1086) (by decide +kernel), List.mem_of_getElem? (i := 1087) (by decide +kernel)⟩
theorem lw_p38 : lw_okq (⟨"GreatStoreModel", "unit", "()Z"⟩, 55) := ⟨⟨by decide +kernel, by decide +kernel⟩, List.mem_of_getElem? (i := 804) (by decide +kernel), List.mem_of_getElem? (i := 1090) (by decide +kernel), List.mem_of_getElem? (i := 1091) (by decide +kernel)⟩
theorem lw_p39 : lw_okq (⟨"GreatStoreModel", "need", "(I)Z"⟩, 55) := ⟨⟨by decide +kernel, by decide +kernel⟩, List.mem_of_getElem? (i := 804) (by decide +kernel), List.mem_of_getElem? (i := 1094) (by decide +kernel), List.mem_of_getElem? (i := 1095) (by decide +kernel)⟩
theorem lw_p40 : lw_okq (⟨"GreatStoreModel", "lay", "(I)V"⟩, 55) := ⟨⟨by decide +kernel, by decide +kernel⟩, List.mem_of_getElem? (i := 804) (by decide +kernel), List.mem_of_getElem? (i := 1098) (by decide +kernel), List.mem_of_getElem? (i := 1099) (by decide +kernel)⟩
theorem lw_p41 : lw_okq (⟨"GreatStoreModel", "holds", "()Z"⟩, 55) := ⟨⟨by decide +kernel, by decide +kernel⟩, List.mem_of_getElem? (i := 804) (by decide +kernel), List.mem_of_getElem? (i := 1106) (by decide +kernel), List.mem_of_getElem? (i := 1107) (by decide +kernel)⟩
theorem lw_p42 : lw_okq (⟨"GreatStoreModel", "takes", "(II)V"⟩, 55) := ⟨⟨by decide +kernel, by decide +kernel⟩, List.mem_of_getElem? (i := 804) (by decide +kernel), List.mem_of_getElem? (i := 1126) (by decide +kernel), List.mem_of_getElem? (i := 1127) (by decide +kernel)⟩
theorem lw_p43 : lw_okq (⟨"GreatStoreModel", "worked", "(II)I"⟩, 55) := ⟨⟨by decide +kernel, by decide +kernel⟩, List.mem_of_getElem? (i := 804) (by decide +kernel), List.mem_of_getElem? (i := 1133) (by decide +kernel), List.mem_of_getElem? (i := 1134) (by decide +kernel)⟩
theorem lw_p44 : lw_okq (⟨"GreatStoreModel", "tries", "(II)V"⟩, 55) := ⟨⟨by decide +kernel, by decide +kernel⟩, List.mem_of_getElem? (i := 804) (by decide +kernel), List.mem_of_getElem? (i := 1156) (by decide +kernel), List.mem_of_getElem? (i := 1157) (by decide +kernel)⟩
theorem lw_p45 : lw_okq (⟨"GreatStoreModel", "nextRow", "(I)Z"⟩, 55) := ⟨⟨by decide +kernel, by decide +kernel⟩, List.mem_of_getElem? (i := 804) (by decide +kernel), List.mem_of_getElem? (i := 1160) (by decide +kernel), List.mem_of_getElem? (i := 1161) (by decide +kernel)⟩
def lw_privs_3 : List (MethodName × Nat) := [(⟨"GreatStoreModel", "next0", "()V"⟩, 55), (⟨"GreatStoreModel", "see", "(I)I"⟩, 55), (⟨"GreatStoreModel", "aLine", "()Z"⟩, 55), (⟨"GreatStoreModel", "bad", "(I)Z"⟩, 55), (⟨"GreatStoreModel", "sum", "()Z"⟩, 55), (⟨"GreatStoreModel", "product", "()Z"⟩, 55), (⟨"GreatStoreModel", "unit", "()Z"⟩, 55), (⟨"GreatStoreModel", "need", "(I)Z"⟩, 55), (⟨"GreatStoreModel", "lay", "(I)V"⟩, 55), (⟨"GreatStoreModel", "holds", "()Z"⟩, 55), (⟨"GreatStoreModel", "takes", "(II)V"⟩, 55), (⟨"GreatStoreModel", "worked", "(II)I"⟩, 55), (⟨"GreatStoreModel", "tries", "(II)V"⟩, 55), (⟨"GreatStoreModel", "nextRow", "(I)Z"⟩, 55)]
theorem lw_r3 : ∀ q ∈ lw_privs_3, lw_okq q := List.forall_mem_cons.mpr ⟨lw_p32, List.forall_mem_cons.mpr ⟨lw_p33, List.forall_mem_cons.mpr ⟨lw_p34, List.forall_mem_cons.mpr ⟨lw_p35, List.forall_mem_cons.mpr ⟨lw_p36, List.forall_mem_cons.mpr ⟨lw_p37, List.forall_mem_cons.mpr ⟨lw_p38, List.forall_mem_cons.mpr ⟨lw_p39, List.forall_mem_cons.mpr ⟨lw_p40, List.forall_mem_cons.mpr ⟨lw_p41, List.forall_mem_cons.mpr ⟨lw_p42, List.forall_mem_cons.mpr ⟨lw_p43, List.forall_mem_cons.mpr ⟨lw_p44, List.forall_mem_cons.mpr ⟨lw_p45, fun _ h => absurd h List.not_mem_nil⟩⟩⟩⟩⟩⟩⟩⟩⟩⟩⟩⟩⟩⟩
def lw_privs : List (MethodName × Nat) := lw_privs_1 ++ (lw_privs_2 ++ (lw_privs_3))
def lw_tbl : List Cond := k2_sels lw_privs ++ tables_1
theorem lw_privs_ok : ∀ q ∈ lw_privs, lw_okq q := by
  show ∀ q ∈ lw_privs_1 ++ (lw_privs_2 ++ (lw_privs_3)), lw_okq q
  exact List.forall_mem_append.mpr ⟨lw_r1, List.forall_mem_append.mpr ⟨lw_r2, lw_r3⟩⟩
def RX0 : String := "GreatStore$Cuts"
def TX0 : u_T := fun k => match k with
  | 0 => ("GreatStore$Cuts", "prices", "[I", true)
  | 1 => ("GreatStore$Cuts", "wants", "[I", true)
  | 2 => ("GreatStore$Cuts", "row", "[I", true)
  | 3 => ("GreatStore$Cuts", "bestRow", "[I", true)
  | 4 => ("GreatStore$Cuts", "bestSum", "I", false)
  | _ => ("GreatStore$Cuts", "bestLeft", "I", false)
def tyX0 : Nat → FieldType := fun k => match k with
  | 0 => .array .int
  | 1 => .array .int
  | 2 => .array .int
  | 3 => .array .int
  | 4 => .int
  | _ => .int
theorem nmX0 : ∀ a, a < 6 → ∀ b, b < 6 → a ≠ b → (TX0 a).2.1 ≠ (TX0 b).2.1 := by decide +kernel
theorem tyX0_ok : ∀ k, k < 6 → parseFieldDescriptor (TX0 k).2.2.1 = some (tyX0 k) := by decide +kernel
abbrev cX0_init : ByteArray := prog_2_method_1_code
def yX0_init : MethodName := ⟨RX0, "<init>", "()V"⟩
abbrev cX0_seek : ByteArray := prog_2_method_2_code
def yX0_seek : MethodName := ⟨RX0, "seek", "(III)V"⟩
abbrev cX0_tryRow : ByteArray := prog_2_method_3_code
def yX0_tryRow : MethodName := ⟨RX0, "tryRow", "(II)V"⟩
abbrev cX0_keepRow : ByteArray := prog_2_method_4_code
def yX0_keepRow : MethodName := ⟨RX0, "keepRow", "(I)V"⟩
abbrev cX0_stepRow : ByteArray := prog_2_method_5_code
def yX0_stepRow : MethodName := ⟨RX0, "stepRow", "(I)Z"⟩
def RX1 : String := "GreatStore$Rule"
def TX1 : u_T := fun k => match k with
  | 0 => ("GreatStore$Rule", "steps", "[I", true)
  | 1 => ("GreatStore$Rule", "numbers", "[I", true)
  | 2 => ("GreatStore$Rule", "payAt", "[I", true)
  | 3 => ("GreatStore$Rule", "whenAt", "[I", true)
  | 4 => ("GreatStore$Rule", "endAt", "[I", true)
  | 5 => ("GreatStore$Rule", "stack", "[I", true)
  | 6 => ("GreatStore$Rule", "stepCount", "I", false)
  | 7 => ("GreatStore$Rule", "lineCount", "I", false)
  | _ => ("GreatStore$Rule", "height", "I", false)
def tyX1 : Nat → FieldType := fun k => match k with
  | 0 => .array .int
  | 1 => .array .int
  | 2 => .array .int
  | 3 => .array .int
  | 4 => .array .int
  | 5 => .array .int
  | 6 => .int
  | 7 => .int
  | _ => .int
theorem nmX1 : ∀ a, a < 9 → ∀ b, b < 9 → a ≠ b → (TX1 a).2.1 ≠ (TX1 b).2.1 := by decide +kernel
theorem tyX1_ok : ∀ k, k < 9 → parseFieldDescriptor (TX1 k).2.2.1 = some (tyX1 k) := by decide +kernel
abbrev cX1_init : ByteArray := prog_3_method_1_code
def yX1_init : MethodName := ⟨RX1, "<init>", "()V"⟩
abbrev cX1_clear : ByteArray := prog_3_method_2_code
def yX1_clear : MethodName := ⟨RX1, "clear", "()V"⟩
abbrev cX1_addStep : ByteArray := prog_3_method_3_code
def yX1_addStep : MethodName := ⟨RX1, "addStep", "(II)V"⟩
abbrev cX1_addLine : ByteArray := prog_3_method_4_code
def yX1_addLine : MethodName := ⟨RX1, "addLine", "(II)V"⟩
abbrev cX1_lineFor : ByteArray := prog_3_method_5_code
def yX1_lineFor : MethodName := ⟨RX1, "lineFor", "(LGreatStore$Takings;)I"⟩
abbrev cX1_payFor : ByteArray := prog_3_method_6_code
def yX1_payFor : MethodName := ⟨RX1, "payFor", "(LGreatStore$Takings;)I"⟩
abbrev cX1_valueOf : ByteArray := prog_3_method_7_code
def yX1_valueOf : MethodName := ⟨RX1, "valueOf", "(IILGreatStore$Takings;)I"⟩
abbrev cX1_push : ByteArray := prog_3_method_8_code
def yX1_push : MethodName := ⟨RX1, "push", "(I)V"⟩
abbrev cX1_pop : ByteArray := prog_3_method_9_code
def yX1_pop : MethodName := ⟨RX1, "pop", "()I"⟩
abbrev cX1_part : ByteArray := prog_3_method_10_code
def yX1_part : MethodName := ⟨RX1, "part", "(II)I"⟩
abbrev cX1_joined : ByteArray := prog_3_method_11_code
def yX1_joined : MethodName := ⟨RX1, "joined", "(III)I"⟩
def RX2 : String := "GreatStore$RuleReader"
def TX2 : u_T := fun k => match k with
  | 0 => ("GreatStore$RuleReader", "tokens", "LGreatStore$Tokens;", true)
  | 1 => ("GreatStore$RuleReader", "target", "LGreatStore$Rule;", false)
  | 2 => ("GreatStore$RuleReader", "at", "I", false)
  | 3 => ("GreatStore$RuleReader", "fault", "I", false)
  | _ => ("GreatStore$RuleReader", "place", "I", false)
def tyX2 : Nat → FieldType := fun k => match k with
  | 0 => .object "GreatStore$Tokens"
  | 1 => .object "GreatStore$Rule"
  | 2 => .int
  | 3 => .int
  | _ => .int
theorem nmX2 : ∀ a, a < 5 → ∀ b, b < 5 → a ≠ b → (TX2 a).2.1 ≠ (TX2 b).2.1 := by decide +kernel
theorem tyX2_ok : ∀ k, k < 5 → parseFieldDescriptor (TX2 k).2.2.1 = some (tyX2 k) := by decide +kernel
abbrev cX2_init : ByteArray := prog_4_method_1_code
def yX2_init : MethodName := ⟨RX2, "<init>", "(LGreatStore$Tokens;LGreatStore$Rule;)V"⟩
abbrev cX2_read : ByteArray := prog_4_method_2_code
def yX2_read : MethodName := ⟨RX2, "read", "(LGreatStore$Rule;)Z"⟩
abbrev cX2_readLine : ByteArray := prog_4_method_3_code
def yX2_readLine : MethodName := ⟨RX2, "readLine", "(I)Z"⟩
abbrev cX2_readCondition : ByteArray := prog_4_method_4_code
def yX2_readCondition : MethodName := ⟨RX2, "readCondition", "()Z"⟩
abbrev cX2_readSum : ByteArray := prog_4_method_5_code
def yX2_readSum : MethodName := ⟨RX2, "readSum", "(I)Z"⟩
abbrev cX2_readTerm : ByteArray := prog_4_method_6_code
def yX2_readTerm : MethodName := ⟨RX2, "readTerm", "(I)Z"⟩
abbrev cX2_readDivisor : ByteArray := prog_4_method_7_code
def yX2_readDivisor : MethodName := ⟨RX2, "readDivisor", "()Z"⟩
abbrev cX2_readUnit : ByteArray := prog_4_method_8_code
def yX2_readUnit : MethodName := ⟨RX2, "readUnit", "(I)Z"⟩
abbrev cX2_pass : ByteArray := prog_4_method_9_code
def yX2_pass : MethodName := ⟨RX2, "pass", "(I)Z"⟩
abbrev cX2_kind : ByteArray := prog_4_method_10_code
def yX2_kind : MethodName := ⟨RX2, "kind", "()I"⟩
abbrev cX2_number : ByteArray := prog_4_method_11_code
def yX2_number : MethodName := ⟨RX2, "number", "()I"⟩
abbrev cX2_fail : ByteArray := prog_4_method_12_code
def yX2_fail : MethodName := ⟨RX2, "fail", "(I)Z"⟩
def RX3 : String := "GreatStore$Slip"
def TX3 : u_T := fun k => match k with
  | 0 => ("GreatStore$Slip", "kind", "I", true)
  | 1 => ("GreatStore$Slip", "clerk", "I", true)
  | 2 => ("GreatStore$Slip", "account", "I", true)
  | 3 => ("GreatStore$Slip", "thing", "LGreatStore$Thing;", true)
  | 4 => ("GreatStore$Slip", "pieces", "I", true)
  | 5 => ("GreatStore$Slip", "house", "I", true)
  | 6 => ("GreatStore$Slip", "day", "I", true)
  | 7 => ("GreatStore$Slip", "worth", "I", true)
  | 8 => ("GreatStore$Slip", "told", "I", false)
  | 9 => ("GreatStore$Slip", "sold", "I", false)
  | 10 => ("GreatStore$Slip", "cameBack", "I", false)
  | _ => ("GreatStore$Slip", "round", "I", false)
def tyX3 : Nat → FieldType := fun k => match k with
  | 0 => .int
  | 1 => .int
  | 2 => .int
  | 3 => .object "GreatStore$Thing"
  | 4 => .int
  | 5 => .int
  | 6 => .int
  | 7 => .int
  | 8 => .int
  | 9 => .int
  | 10 => .int
  | _ => .int
theorem nmX3 : ∀ a, a < 12 → ∀ b, b < 12 → a ≠ b → (TX3 a).2.1 ≠ (TX3 b).2.1 := by decide +kernel
theorem tyX3_ok : ∀ k, k < 12 → parseFieldDescriptor (TX3 k).2.2.1 = some (tyX3 k) := by decide +kernel
abbrev cX3_init : ByteArray := prog_5_method_1_code
def yX3_init : MethodName := ⟨RX3, "<init>", "(IIILGreatStore$Thing;III)V"⟩
abbrev cX3_state : ByteArray := prog_5_method_2_code
def yX3_state : MethodName := ⟨RX3, "state", "()I"⟩
abbrev cX3_isParcel : ByteArray := prog_5_method_3_code
def yX3_isParcel : MethodName := ⟨RX3, "isParcel", "()Z"⟩
abbrev cX3_sellBy : ByteArray := prog_5_method_4_code
def yX3_sellBy : MethodName := ⟨RX3, "sellBy", "(I)V"⟩
abbrev cX3_canComeBack : ByteArray := prog_5_method_5_code
def yX3_canComeBack : MethodName := ⟨RX3, "canComeBack", "(I)Z"⟩
abbrev cX3_wasSoldIn : ByteArray := prog_5_method_6_code
def yX3_wasSoldIn : MethodName := ⟨RX3, "wasSoldIn", "(I)Z"⟩
abbrev cX3_cameBackSoldIn : ByteArray := prog_5_method_7_code
def yX3_cameBackSoldIn : MethodName := ⟨RX3, "cameBackSoldIn", "(I)Z"⟩
abbrev cX3_statedWorth : ByteArray := prog_5_method_8_code
def yX3_statedWorth : MethodName := ⟨RX3, "statedWorth", "(II)I"⟩
def RX4 : String := "GreatStore$Takings"
def TX4 : u_T := fun k => match k with
  | 0 => ("GreatStore$Takings", "sum", "I", false)
  | 1 => ("GreatStore$Takings", "slipCount", "I", false)
  | 2 => ("GreatStore$Takings", "cameBack", "I", false)
  | _ => ("GreatStore$Takings", "month", "I", false)
def tyX4 : Nat → FieldType := fun k => match k with
  | 0 => .int
  | 1 => .int
  | 2 => .int
  | _ => .int
theorem nmX4 : ∀ a, a < 4 → ∀ b, b < 4 → a ≠ b → (TX4 a).2.1 ≠ (TX4 b).2.1 := by decide +kernel
theorem tyX4_ok : ∀ k, k < 4 → parseFieldDescriptor (TX4 k).2.2.1 = some (tyX4 k) := by decide +kernel
abbrev cX4_init : ByteArray := prog_6_method_1_code
def yX4_init : MethodName := ⟨RX4, "<init>", "()V"⟩
abbrev cX4_gather : ByteArray := prog_6_method_2_code
def yX4_gather : MethodName := ⟨RX4, "gather", "(Ljava/util/ArrayList;II)V"⟩
abbrev cX4_addSlip : ByteArray := prog_6_method_3_code
def yX4_addSlip : MethodName := ⟨RX4, "addSlip", "(LGreatStore$Slip;)V"⟩
abbrev cX4_valueOfWord : ByteArray := prog_6_method_4_code
def yX4_valueOfWord : MethodName := ⟨RX4, "valueOfWord", "(I)I"⟩
def RX5 : String := "GreatStore$Tape"
def TX5 : u_T := fun k => match k with
  | 0 => ("GreatStore$Tape", "bytes", "[B", true)
  | _ => ("GreatStore$Tape", "length", "I", false)
def tyX5 : Nat → FieldType := fun k => match k with
  | 0 => .array .byte
  | _ => .int
theorem nmX5 : ∀ a, a < 2 → ∀ b, b < 2 → a ≠ b → (TX5 a).2.1 ≠ (TX5 b).2.1 := by decide +kernel
theorem tyX5_ok : ∀ k, k < 2 → parseFieldDescriptor (TX5 k).2.2.1 = some (tyX5 k) := by decide +kernel
abbrev cX5_init : ByteArray := prog_7_method_1_code
def yX5_init : MethodName := ⟨RX5, "<init>", "()V"⟩
abbrev cX5_append : ByteArray := prog_7_method_2_code
def yX5_append : MethodName := ⟨RX5, "append", "(I)V"⟩
def RX6 : String := "GreatStore$Thing"
def TX6 : u_T := fun k => match k with
  | 0 => ("GreatStore$Thing", "tags", "[I", true)
  | 1 => ("GreatStore$Thing", "came", "I", true)
  | 2 => ("GreatStore$Thing", "stock", "I", false)
  | 3 => ("GreatStore$Thing", "raised", "I", false)
  | _ => ("GreatStore$Thing", "lost", "I", false)
def tyX6 : Nat → FieldType := fun k => match k with
  | 0 => .array .int
  | 1 => .int
  | 2 => .int
  | 3 => .int
  | _ => .int
theorem nmX6 : ∀ a, a < 5 → ∀ b, b < 5 → a ≠ b → (TX6 a).2.1 ≠ (TX6 b).2.1 := by decide +kernel
theorem tyX6_ok : ∀ k, k < 5 → parseFieldDescriptor (TX6 k).2.2.1 = some (tyX6 k) := by decide +kernel
abbrev cX6_init : ByteArray := prog_8_method_1_code
def yX6_init : MethodName := ⟨RX6, "<init>", "(III)V"⟩
abbrev cX6_tagOn : ByteArray := prog_8_method_2_code
def yX6_tagOn : MethodName := ⟨RX6, "tagOn", "(I)I"⟩
abbrev cX6_keepTag : ByteArray := prog_8_method_3_code
def yX6_keepTag : MethodName := ⟨RX6, "keepTag", "(I)V"⟩
abbrev cX6_changeTag : ByteArray := prog_8_method_4_code
def yX6_changeTag : MethodName := ⟨RX6, "changeTag", "(II)I"⟩
def RX7 : String := "GreatStore$Tokens"
def TX7 : u_T := fun k => match k with
  | 0 => ("GreatStore$Tokens", "kinds", "[I", true)
  | 1 => ("GreatStore$Tokens", "places", "[I", true)
  | 2 => ("GreatStore$Tokens", "numbers", "[I", true)
  | _ => ("GreatStore$Tokens", "tokenCount", "I", false)
def tyX7 : Nat → FieldType := fun k => match k with
  | 0 => .array .int
  | 1 => .array .int
  | 2 => .array .int
  | _ => .int
theorem nmX7 : ∀ a, a < 4 → ∀ b, b < 4 → a ≠ b → (TX7 a).2.1 ≠ (TX7 b).2.1 := by decide +kernel
theorem tyX7_ok : ∀ k, k < 4 → parseFieldDescriptor (TX7 k).2.2.1 = some (tyX7 k) := by decide +kernel
abbrev cX7_init : ByteArray := prog_9_method_1_code
def yX7_init : MethodName := ⟨RX7, "<init>", "()V"⟩
abbrev cX7_scan : ByteArray := prog_9_method_2_code
def yX7_scan : MethodName := ⟨RX7, "scan", "([BI)V"⟩
abbrev cX7_scanToken : ByteArray := prog_9_method_3_code
def yX7_scanToken : MethodName := ⟨RX7, "scanToken", "([BII)I"⟩
abbrev cX7_add : ByteArray := prog_9_method_4_code
def yX7_add : MethodName := ⟨RX7, "add", "(III)V"⟩
abbrev cX7_isLetter : ByteArray := prog_9_method_5_code
def yX7_isLetter : MethodName := ⟨RX7, "isLetter", "(I)Z"⟩
abbrev cX7_isDigit : ByteArray := prog_9_method_6_code
def yX7_isDigit : MethodName := ⟨RX7, "isDigit", "(I)Z"⟩
abbrev cX7_numberOf : ByteArray := prog_9_method_7_code
def yX7_numberOf : MethodName := ⟨RX7, "numberOf", "([BII)I"⟩
abbrev cX7_wordKind : ByteArray := prog_9_method_8_code
def yX7_wordKind : MethodName := ⟨RX7, "wordKind", "([BII)I"⟩
abbrev cX7_isWord : ByteArray := prog_9_method_9_code
def yX7_isWord : MethodName := ⟨RX7, "isWord", "(Ljava/lang/String;[BII)Z"⟩
def RX8 : String := "GreatStore$Van"
def TX8 : u_T := fun k => match k with
  | 0 => ("GreatStore$Van", "houses", "[I", true)
  | 1 => ("GreatStore$Van", "asked", "[Z", true)
  | 2 => ("GreatStore$Van", "houseCount", "I", false)
  | _ => ("GreatStore$Van", "roundsToday", "I", false)
def tyX8 : Nat → FieldType := fun k => match k with
  | 0 => .array .int
  | 1 => .array .boolean
  | 2 => .int
  | _ => .int
theorem nmX8 : ∀ a, a < 4 → ∀ b, b < 4 → a ≠ b → (TX8 a).2.1 ≠ (TX8 b).2.1 := by decide +kernel
theorem tyX8_ok : ∀ k, k < 4 → parseFieldDescriptor (TX8 k).2.2.1 = some (tyX8 k) := by decide +kernel
abbrev cX8_init : ByteArray := prog_10_method_1_code
def yX8_init : MethodName := ⟨RX8, "<init>", "()V"⟩
abbrev cX8_houseAt : ByteArray := prog_10_method_2_code
def yX8_houseAt : MethodName := ⟨RX8, "houseAt", "(I)I"⟩
abbrev cX8_goRound : ByteArray := prog_10_method_3_code
def yX8_goRound : MethodName := ⟨RX8, "goRound", "(Ljava/util/ArrayList;II)I"⟩
abbrev cX8_askOnce : ByteArray := prog_10_method_4_code
def yX8_askOnce : MethodName := ⟨RX8, "askOnce", "(I)Z"⟩
abbrev cX8_piecesFor : ByteArray := prog_10_method_5_code
def yX8_piecesFor : MethodName := ⟨RX8, "piecesFor", "(Ljava/util/ArrayList;I)I"⟩
abbrev cX8_take : ByteArray := prog_10_method_6_code
def yX8_take : MethodName := ⟨RX8, "take", "(Ljava/util/ArrayList;II)V"⟩
def RX9 : String := "GreatStore"
def TX9 : u_T := fun k => match k with
  | 0 => ("GreatStore", "things", "Ljava/util/ArrayList;", true)
  | 1 => ("GreatStore", "slips", "Ljava/util/ArrayList;", true)
  | 2 => ("GreatStore", "wagon", "LGreatStore$Van;", true)
  | 3 => ("GreatStore", "tape", "LGreatStore$Tape;", true)
  | 4 => ("GreatStore", "tokens", "LGreatStore$Tokens;", true)
  | 5 => ("GreatStore", "reader", "LGreatStore$RuleReader;", true)
  | 6 => ("GreatStore", "takings", "LGreatStore$Takings;", true)
  | 7 => ("GreatStore", "cuts", "LGreatStore$Cuts;", true)
  | 8 => ("GreatStore", "theRule", "LGreatStore$Rule;", false)
  | 9 => ("GreatStore", "spareRule", "LGreatStore$Rule;", false)
  | _ => ("GreatStore", "today", "I", false)
def tyX9 : Nat → FieldType := fun k => match k with
  | 0 => .object "java/util/ArrayList"
  | 1 => .object "java/util/ArrayList"
  | 2 => .object "GreatStore$Van"
  | 3 => .object "GreatStore$Tape"
  | 4 => .object "GreatStore$Tokens"
  | 5 => .object "GreatStore$RuleReader"
  | 6 => .object "GreatStore$Takings"
  | 7 => .object "GreatStore$Cuts"
  | 8 => .object "GreatStore$Rule"
  | 9 => .object "GreatStore$Rule"
  | _ => .int
theorem nmX9 : ∀ a, a < 11 → ∀ b, b < 11 → a ≠ b → (TX9 a).2.1 ≠ (TX9 b).2.1 := by decide +kernel
theorem tyX9_ok : ∀ k, k < 11 → parseFieldDescriptor (TX9 k).2.2.1 = some (tyX9 k) := by decide +kernel
abbrev cX9_init : ByteArray := prog_1_method_1_code
def yX9_init : MethodName := ⟨RX9, "<init>", "()V"⟩
abbrev cX9_thing : ByteArray := prog_1_method_2_code
def yX9_thing : MethodName := ⟨RX9, "thing", "(II)I"⟩
abbrev cX9_tag : ByteArray := prog_1_method_3_code
def yX9_tag : MethodName := ⟨RX9, "tag", "(II)I"⟩
abbrev cX9_of : ByteArray := prog_1_method_4_code
def yX9_of : MethodName := ⟨RX9, "of", "(II)I"⟩
abbrev cX9_next : ByteArray := prog_1_method_5_code
def yX9_next : MethodName := ⟨RX9, "next", "()I"⟩
abbrev cX9_slip : ByteArray := prog_1_method_6_code
def yX9_slip : MethodName := ⟨RX9, "slip", "(IIIIIII)I"⟩
abbrev cX9_paper : ByteArray := prog_1_method_7_code
def yX9_paper : MethodName := ⟨RX9, "paper", "(II)I"⟩
abbrev cX9_back : ByteArray := prog_1_method_8_code
def yX9_back : MethodName := ⟨RX9, "back", "(I)Z"⟩
abbrev cX9_look : ByteArray := prog_1_method_9_code
def yX9_look : MethodName := ⟨RX9, "look", "(I)I"⟩
abbrev cX9_van : ByteArray := prog_1_method_10_code
def yX9_van : MethodName := ⟨RX9, "van", "(I)I"⟩
abbrev cX9_house : ByteArray := prog_1_method_11_code
def yX9_house : MethodName := ⟨RX9, "house", "(I)I"⟩
abbrev cX9_feed : ByteArray := prog_1_method_12_code
def yX9_feed : MethodName := ⟨RX9, "feed", "(IIIII)I"⟩
abbrev cX9_end : ByteArray := prog_1_method_13_code
def yX9_end : MethodName := ⟨RX9, "end", "(I)Z"⟩
abbrev cX9_rule : ByteArray := prog_1_method_14_code
def yX9_rule : MethodName := ⟨RX9, "rule", "()I"⟩
abbrev cX9_fault : ByteArray := prog_1_method_15_code
def yX9_fault : MethodName := ⟨RX9, "fault", "(I)I"⟩
abbrev cX9_pay : ByteArray := prog_1_method_16_code
def yX9_pay : MethodName := ⟨RX9, "pay", "(III)I"⟩
abbrev cX9_statement : ByteArray := prog_1_method_17_code
def yX9_statement : MethodName := ⟨RX9, "statement", "(III)I"⟩
abbrev cX9_count : ByteArray := prog_1_method_18_code
def yX9_count : MethodName := ⟨RX9, "count", "(II)I"⟩
abbrev cX9_level : ByteArray := prog_1_method_19_code
def yX9_level : MethodName := ⟨RX9, "level", "(III)Z"⟩
abbrev cX9_best : ByteArray := prog_1_method_20_code
def yX9_best : MethodName := ⟨RX9, "best", "(IIII)I"⟩
abbrev cX9_thingAt : ByteArray := prog_1_method_21_code
def yX9_thingAt : MethodName := ⟨RX9, "thingAt", "(I)LGreatStore$Thing;"⟩
abbrev cX9_slipAt : ByteArray := prog_1_method_22_code
def yX9_slipAt : MethodName := ⟨RX9, "slipAt", "(I)LGreatStore$Slip;"⟩
abbrev cX9_countOnApproval : ByteArray := prog_1_method_23_code
def yX9_countOnApproval : MethodName := ⟨RX9, "countOnApproval", "()I"⟩
abbrev cX9_countParcels : ByteArray := prog_1_method_24_code
def yX9_countParcels : MethodName := ⟨RX9, "countParcels", "()I"⟩
abbrev cX9_isWithin : ByteArray := prog_1_method_25_code
def yX9_isWithin : MethodName := ⟨RX9, "isWithin", "(III)Z"⟩
abbrev cX9_isTag : ByteArray := prog_1_method_26_code
def yX9_isTag : MethodName := ⟨RX9, "isTag", "(I)Z"⟩
abbrev cX9_isLevel : ByteArray := prog_1_method_27_code
def yX9_isLevel : MethodName := ⟨RX9, "isLevel", "(I)Z"⟩
abbrev cX9_isHouseOrNone : ByteArray := prog_1_method_28_code
def yX9_isHouseOrNone : MethodName := ⟨RX9, "isHouseOrNone", "(I)Z"⟩
abbrev cX9_isBuyer : ByteArray := prog_1_method_29_code
def yX9_isBuyer : MethodName := ⟨RX9, "isBuyer", "(II)Z"⟩
def RX10 : String := "GreatStoreModel"
def TX10 : u_T := fun k => match k with
  | 0 => ("GreatStoreModel", "day", "I", false)
  | 1 => ("GreatStoreModel", "things", "I", false)
  | 2 => ("GreatStoreModel", "slips", "I", false)
  | 3 => ("GreatStoreModel", "tag", "[I", true)
  | 4 => ("GreatStoreModel", "stock", "[I", true)
  | 5 => ("GreatStoreModel", "raised", "[I", true)
  | 6 => ("GreatStoreModel", "lost", "[I", true)
  | 7 => ("GreatStoreModel", "came", "[I", true)
  | 8 => ("GreatStoreModel", "kind", "[I", true)
  | 9 => ("GreatStoreModel", "clerk", "[I", true)
  | 10 => ("GreatStoreModel", "account", "[I", true)
  | 11 => ("GreatStoreModel", "thingOf", "[I", true)
  | 12 => ("GreatStoreModel", "pieces", "[I", true)
  | 13 => ("GreatStoreModel", "houseOf", "[I", true)
  | 14 => ("GreatStoreModel", "dayOf", "[I", true)
  | 15 => ("GreatStoreModel", "toldOn", "[I", true)
  | 16 => ("GreatStoreModel", "soldOn", "[I", true)
  | 17 => ("GreatStoreModel", "backOn", "[I", true)
  | 18 => ("GreatStoreModel", "round", "[I", true)
  | 19 => ("GreatStoreModel", "worth", "[I", true)
  | 20 => ("GreatStoreModel", "rounds", "I", false)
  | 21 => ("GreatStoreModel", "housed", "I", false)
  | 22 => ("GreatStoreModel", "houses", "[I", true)
  | 23 => ("GreatStoreModel", "asked", "[Z", true)
  | 24 => ("GreatStoreModel", "lines", "I", false)
  | 25 => ("GreatStoreModel", "freshLines", "I", false)
  | 26 => ("GreatStoreModel", "freshSteps", "I", false)
  | 27 => ("GreatStoreModel", "from", "[I", true)
  | 28 => ("GreatStoreModel", "when", "[I", true)
  | 29 => ("GreatStoreModel", "step", "[I", true)
  | 30 => ("GreatStoreModel", "freshFrom", "[I", true)
  | 31 => ("GreatStoreModel", "freshWhen", "[I", true)
  | 32 => ("GreatStoreModel", "fresh", "[I", true)
  | 33 => ("GreatStoreModel", "pile", "[I", true)
  | 34 => ("GreatStoreModel", "tape", "[I", true)
  | 35 => ("GreatStoreModel", "taped", "I", false)
  | 36 => ("GreatStoreModel", "at", "I", false)
  | 37 => ("GreatStoreModel", "token", "I", false)
  | 38 => ("GreatStoreModel", "tokenAt", "I", false)
  | 39 => ("GreatStoreModel", "value", "I", false)
  | 40 => ("GreatStoreModel", "wrong", "I", false)
  | 41 => ("GreatStoreModel", "wrongAt", "I", false)
  | 42 => ("GreatStoreModel", "faultKind", "I", false)
  | 43 => ("GreatStoreModel", "depth", "I", false)
  | 44 => ("GreatStoreModel", "faultPlace", "I", false)
  | 45 => ("GreatStoreModel", "tSum", "I", false)
  | 46 => ("GreatStoreModel", "tSlips", "I", false)
  | 47 => ("GreatStoreModel", "tBack", "I", false)
  | 48 => ("GreatStoreModel", "tMonth", "I", false)
  | 49 => ("GreatStoreModel", "price", "[I", true)
  | 50 => ("GreatStoreModel", "want", "[I", true)
  | 51 => ("GreatStoreModel", "row", "[I", true)
  | 52 => ("GreatStoreModel", "bestRow", "[I", true)
  | 53 => ("GreatStoreModel", "bestSum", "I", false)
  | _ => ("GreatStoreModel", "bestLeft", "I", false)
def tyX10 : Nat → FieldType := fun k => match k with
  | 0 => .int
  | 1 => .int
  | 2 => .int
  | 3 => .array .int
  | 4 => .array .int
  | 5 => .array .int
  | 6 => .array .int
  | 7 => .array .int
  | 8 => .array .int
  | 9 => .array .int
  | 10 => .array .int
  | 11 => .array .int
  | 12 => .array .int
  | 13 => .array .int
  | 14 => .array .int
  | 15 => .array .int
  | 16 => .array .int
  | 17 => .array .int
  | 18 => .array .int
  | 19 => .array .int
  | 20 => .int
  | 21 => .int
  | 22 => .array .int
  | 23 => .array .boolean
  | 24 => .int
  | 25 => .int
  | 26 => .int
  | 27 => .array .int
  | 28 => .array .int
  | 29 => .array .int
  | 30 => .array .int
  | 31 => .array .int
  | 32 => .array .int
  | 33 => .array .int
  | 34 => .array .int
  | 35 => .int
  | 36 => .int
  | 37 => .int
  | 38 => .int
  | 39 => .int
  | 40 => .int
  | 41 => .int
  | 42 => .int
  | 43 => .int
  | 44 => .int
  | 45 => .int
  | 46 => .int
  | 47 => .int
  | 48 => .int
  | 49 => .array .int
  | 50 => .array .int
  | 51 => .array .int
  | 52 => .array .int
  | 53 => .int
  | _ => .int
theorem nmX10 : ∀ a, a < 55 → ∀ b, b < 55 → a ≠ b → (TX10 a).2.1 ≠ (TX10 b).2.1 := by decide +kernel
theorem tyX10_ok : ∀ k, k < 55 → parseFieldDescriptor (TX10 k).2.2.1 = some (tyX10 k) := by decide +kernel
abbrev cX10_init : ByteArray := prog_12_method_1_code
def yX10_init : MethodName := ⟨RX10, "<init>", "()V"⟩
abbrev cX10_isIn : ByteArray := prog_12_method_2_code
def yX10_isIn : MethodName := ⟨RX10, "isIn", "(III)Z"⟩
abbrev cX10_isThing : ByteArray := prog_12_method_3_code
def yX10_isThing : MethodName := ⟨RX10, "isThing", "(I)Z"⟩
abbrev cX10_isTag : ByteArray := prog_12_method_4_code
def yX10_isTag : MethodName := ⟨RX10, "isTag", "(I)Z"⟩
abbrev cX10_thing : ByteArray := prog_12_method_5_code
def yX10_thing : MethodName := ⟨RX10, "thing", "(II)I"⟩
abbrev cX10_tag : ByteArray := prog_12_method_6_code
def yX10_tag : MethodName := ⟨RX10, "tag", "(II)I"⟩
abbrev cX10_of : ByteArray := prog_12_method_7_code
def yX10_of : MethodName := ⟨RX10, "of", "(II)I"⟩
abbrev cX10_next : ByteArray := prog_12_method_8_code
def yX10_next : MethodName := ⟨RX10, "next", "()I"⟩
abbrev cX10_slip : ByteArray := prog_12_method_9_code
def yX10_slip : MethodName := ⟨RX10, "slip", "(IIIIIII)I"⟩
abbrev cX10_isSlip : ByteArray := prog_12_method_10_code
def yX10_isSlip : MethodName := ⟨RX10, "isSlip", "(I)Z"⟩
abbrev cX10_paper : ByteArray := prog_12_method_11_code
def yX10_paper : MethodName := ⟨RX10, "paper", "(II)I"⟩
abbrev cX10_back : ByteArray := prog_12_method_12_code
def yX10_back : MethodName := ⟨RX10, "back", "(I)Z"⟩
abbrev cX10_isParcel : ByteArray := prog_12_method_13_code
def yX10_isParcel : MethodName := ⟨RX10, "isParcel", "(I)Z"⟩
abbrev cX10_look : ByteArray := prog_12_method_14_code
def yX10_look : MethodName := ⟨RX10, "look", "(I)I"⟩
abbrev cX10_van : ByteArray := prog_12_method_15_code
def yX10_van : MethodName := ⟨RX10, "van", "(I)I"⟩
abbrev cX10_house : ByteArray := prog_12_method_16_code
def yX10_house : MethodName := ⟨RX10, "house", "(I)I"⟩
abbrev cX10_feed : ByteArray := prog_12_method_17_code
def yX10_feed : MethodName := ⟨RX10, "feed", "(IIIII)I"⟩
abbrev cX10_end : ByteArray := prog_12_method_18_code
def yX10_end : MethodName := ⟨RX10, "end", "(I)Z"⟩
abbrev cX10_see : ByteArray := prog_12_method_19_code
def yX10_see : MethodName := ⟨RX10, "see", "(I)I"⟩
abbrev cX10_isLetter : ByteArray := prog_12_method_20_code
def yX10_isLetter : MethodName := ⟨RX10, "isLetter", "(I)Z"⟩
abbrev cX10_isDigit : ByteArray := prog_12_method_21_code
def yX10_isDigit : MethodName := ⟨RX10, "isDigit", "(I)Z"⟩
abbrev cX10_word : ByteArray := prog_12_method_22_code
def yX10_word : MethodName := ⟨RX10, "word", "(J)I"⟩
abbrev cX10_next0 : ByteArray := prog_12_method_23_code
def yX10_next0 : MethodName := ⟨RX10, "next0", "()V"⟩
abbrev cX10_bad : ByteArray := prog_12_method_24_code
def yX10_bad : MethodName := ⟨RX10, "bad", "(I)Z"⟩
abbrev cX10_need : ByteArray := prog_12_method_25_code
def yX10_need : MethodName := ⟨RX10, "need", "(I)Z"⟩
abbrev cX10_lay : ByteArray := prog_12_method_26_code
def yX10_lay : MethodName := ⟨RX10, "lay", "(I)V"⟩
abbrev cX10_sum : ByteArray := prog_12_method_27_code
def yX10_sum : MethodName := ⟨RX10, "sum", "()Z"⟩
abbrev cX10_product : ByteArray := prog_12_method_28_code
def yX10_product : MethodName := ⟨RX10, "product", "()Z"⟩
abbrev cX10_unit : ByteArray := prog_12_method_29_code
def yX10_unit : MethodName := ⟨RX10, "unit", "()Z"⟩
abbrev cX10_holds : ByteArray := prog_12_method_30_code
def yX10_holds : MethodName := ⟨RX10, "holds", "()Z"⟩
abbrev cX10_aLine : ByteArray := prog_12_method_31_code
def yX10_aLine : MethodName := ⟨RX10, "aLine", "()Z"⟩
abbrev cX10_rule : ByteArray := prog_12_method_32_code
def yX10_rule : MethodName := ⟨RX10, "rule", "()I"⟩
abbrev cX10_fault : ByteArray := prog_12_method_33_code
def yX10_fault : MethodName := ⟨RX10, "fault", "(I)I"⟩
abbrev cX10_isOf : ByteArray := prog_12_method_34_code
def yX10_isOf : MethodName := ⟨RX10, "isOf", "(II)Z"⟩
abbrev cX10_takes : ByteArray := prog_12_method_35_code
def yX10_takes : MethodName := ⟨RX10, "takes", "(II)V"⟩
abbrev cX10_worked : ByteArray := prog_12_method_36_code
def yX10_worked : MethodName := ⟨RX10, "worked", "(II)I"⟩
abbrev cX10_both : ByteArray := prog_12_method_37_code
def yX10_both : MethodName := ⟨RX10, "both", "(III)I"⟩
abbrev cX10_isMonth : ByteArray := prog_12_method_38_code
def yX10_isMonth : MethodName := ⟨RX10, "isMonth", "(I)Z"⟩
abbrev cX10_pay : ByteArray := prog_12_method_39_code
def yX10_pay : MethodName := ⟨RX10, "pay", "(III)I"⟩
abbrev cX10_statement : ByteArray := prog_12_method_40_code
def yX10_statement : MethodName := ⟨RX10, "statement", "(III)I"⟩
abbrev cX10_count : ByteArray := prog_12_method_41_code
def yX10_count : MethodName := ⟨RX10, "count", "(II)I"⟩
abbrev cX10_level : ByteArray := prog_12_method_42_code
def yX10_level : MethodName := ⟨RX10, "level", "(III)Z"⟩
abbrev cX10_tries : ByteArray := prog_12_method_43_code
def yX10_tries : MethodName := ⟨RX10, "tries", "(II)V"⟩
abbrev cX10_nextRow : ByteArray := prog_12_method_44_code
def yX10_nextRow : MethodName := ⟨RX10, "nextRow", "(I)Z"⟩
abbrev cX10_best : ByteArray := prog_12_method_45_code
def yX10_best : MethodName := ⟨RX10, "best", "(IIII)I"⟩
def RJx145de : String := "java/io/Serializable"
def TJx145de : u_T := fun k => match k with
  | _ => ("", "", "", false)
def tyJx145de : Nat → FieldType := fun k => match k with
  | _ => .int
theorem nmJx145de : ∀ a, a < 0 → ∀ b, b < 0 → a ≠ b → (TJx145de a).2.1 ≠ (TJx145de b).2.1 := by decide +kernel
theorem tyJx145de_ok : ∀ k, k < 0 → parseFieldDescriptor (TJx145de k).2.2.1 = some (tyJx145de k) := by decide +kernel
def RJx8e188 : String := "java/lang/Cloneable"
def TJx8e188 : u_T := fun k => match k with
  | _ => ("", "", "", false)
def tyJx8e188 : Nat → FieldType := fun k => match k with
  | _ => .int
theorem nmJx8e188 : ∀ a, a < 0 → ∀ b, b < 0 → a ≠ b → (TJx8e188 a).2.1 ≠ (TJx8e188 b).2.1 := by decide +kernel
theorem tyJx8e188_ok : ∀ k, k < 0 → parseFieldDescriptor (TJx8e188 k).2.2.1 = some (tyJx8e188 k) := by decide +kernel
def RJxab1ab : String := "java/lang/Iterable"
def TJxab1ab : u_T := fun k => match k with
  | _ => ("", "", "", false)
def tyJxab1ab : Nat → FieldType := fun k => match k with
  | _ => .int
theorem nmJxab1ab : ∀ a, a < 0 → ∀ b, b < 0 → a ≠ b → (TJxab1ab a).2.1 ≠ (TJxab1ab b).2.1 := by decide +kernel
theorem tyJxab1ab_ok : ∀ k, k < 0 → parseFieldDescriptor (TJxab1ab k).2.2.1 = some (tyJxab1ab k) := by decide +kernel
def RJ9 : String := "java/lang/Math"
def TJ9 : u_T := fun k => match k with
  | _ => ("", "", "", false)
def tyJ9 : Nat → FieldType := fun k => match k with
  | _ => .int
theorem nmJ9 : ∀ a, a < 0 → ∀ b, b < 0 → a ≠ b → (TJ9 a).2.1 ≠ (TJ9 b).2.1 := by decide +kernel
theorem tyJ9_ok : ∀ k, k < 0 → parseFieldDescriptor (TJ9 k).2.2.1 = some (tyJ9 k) := by decide +kernel
abbrev cJ9_max_7cf53 : ByteArray := prog_16_method_65_code
def yJ9_max_7cf53 : MethodName := ⟨RJ9, "max", "(II)I"⟩
abbrev cJ9_min_7cf53 : ByteArray := prog_16_method_69_code
def yJ9_min_7cf53 : MethodName := ⟨RJ9, "min", "(II)I"⟩
def RJ0 : String := "java/lang/String"
def TJ0 : u_T := fun k => match k with
  | _ => ("", "", "", false)
def tyJ0 : Nat → FieldType := fun k => match k with
  | _ => .int
theorem nmJ0 : ∀ a, a < 0 → ∀ b, b < 0 → a ≠ b → (TJ0 a).2.1 ≠ (TJ0 b).2.1 := by decide +kernel
theorem tyJ0_ok : ∀ k, k < 0 → parseFieldDescriptor (TJ0 k).2.2.1 = some (tyJ0 k) := by decide +kernel
abbrev cJ0_length_8abf5 : ByteArray := prog_17_method_54_code
def yJ0_length_8abf5 : MethodName := ⟨RJ0, "length", "()I"⟩
abbrev cJ0_charAt_5068e : ByteArray := prog_17_method_56_code
def yJ0_charAt_5068e : MethodName := ⟨RJ0, "charAt", "(I)C"⟩
abbrev cJ0_coder_7d493 : ByteArray := prog_17_method_152_code
def yJ0_coder_7d493 : MethodName := ⟨RJ0, "coder", "()B"⟩
abbrev cJ0_isLatin1_aae02 : ByteArray := prog_17_method_154_code
def yJ0_isLatin1_aae02 : MethodName := ⟨RJ0, "isLatin1", "()Z"⟩
abbrev cJ0_checkIndex_df160 : ByteArray := prog_17_method_155_code
def yJ0_checkIndex_df160 : MethodName := ⟨RJ0, "checkIndex", "(II)V"⟩
def RJ1 : String := "java/lang/StringLatin1"
def TJ1 : u_T := fun k => match k with
  | _ => ("", "", "", false)
def tyJ1 : Nat → FieldType := fun k => match k with
  | _ => .int
theorem nmJ1 : ∀ a, a < 0 → ∀ b, b < 0 → a ≠ b → (TJ1 a).2.1 ≠ (TJ1 b).2.1 := by decide +kernel
theorem tyJ1_ok : ∀ k, k < 0 → parseFieldDescriptor (TJ1 k).2.2.1 = some (tyJ1 k) := by decide +kernel
abbrev cJ1_charAt_3b067 : ByteArray := prog_18_method_2_code
def yJ1_charAt_3b067 : MethodName := ⟨RJ1, "charAt", "([BI)C"⟩
def RJ2 : String := "java/lang/StringUTF16"
def TJ2 : u_T := fun k => match k with
  | _ => ("", "", "", false)
def tyJ2 : Nat → FieldType := fun k => match k with
  | _ => .int
theorem nmJ2 : ∀ a, a < 0 → ∀ b, b < 0 → a ≠ b → (TJ2 a).2.1 ≠ (TJ2 b).2.1 := by decide +kernel
theorem tyJ2_ok : ∀ k, k < 0 → parseFieldDescriptor (TJ2 k).2.2.1 = some (tyJ2 k) := by decide +kernel
abbrev cJ2_getChar_3b067 : ByteArray := prog_19_method_5_code
def yJ2_getChar_3b067 : MethodName := ⟨RJ2, "getChar", "([BI)C"⟩
abbrev cJ2_length_9d52b : ByteArray := prog_19_method_6_code
def yJ2_length_9d52b : MethodName := ⟨RJ2, "length", "([B)I"⟩
abbrev cJ2_charAt_3b067 : ByteArray := prog_19_method_83_code
def yJ2_charAt_3b067 : MethodName := ⟨RJ2, "charAt", "([BI)C"⟩
abbrev cJ2_checkIndex_2214a : ByteArray := prog_19_method_91_code
def yJ2_checkIndex_2214a : MethodName := ⟨RJ2, "checkIndex", "(I[B)V"⟩
def RJ10 : String := "java/lang/System"
def TJ10 : u_T := fun k => match k with
  | _ => ("", "", "", false)
def tyJ10 : Nat → FieldType := fun k => match k with
  | _ => .int
theorem nmJ10 : ∀ a, a < 0 → ∀ b, b < 0 → a ≠ b → (TJ10 a).2.1 ≠ (TJ10 b).2.1 := by decide +kernel
theorem tyJ10_ok : ∀ k, k < 0 → parseFieldDescriptor (TJ10 k).2.2.1 = some (tyJ10 k) := by decide +kernel
def RJxa1e45 : String := "java/util/AbstractCollection"
def TJxa1e45 : u_T := fun k => match k with
  | _ => ("", "", "", false)
def tyJxa1e45 : Nat → FieldType := fun k => match k with
  | _ => .int
theorem nmJxa1e45 : ∀ a, a < 0 → ∀ b, b < 0 → a ≠ b → (TJxa1e45 a).2.1 ≠ (TJxa1e45 b).2.1 := by decide +kernel
theorem tyJxa1e45_ok : ∀ k, k < 0 → parseFieldDescriptor (TJxa1e45 k).2.2.1 = some (tyJxa1e45 k) := by decide +kernel
abbrev cJxa1e45_init_da8c8 : ByteArray := prog_21_method_1_code
def yJxa1e45_init_da8c8 : MethodName := ⟨RJxa1e45, "<init>", "()V"⟩
def RJxc12de : String := "java/util/AbstractList"
def TJxc12de : u_T := fun k => match k with
  | _ => ("", "", "", false)
def tyJxc12de : Nat → FieldType := fun k => match k with
  | _ => .int
theorem nmJxc12de : ∀ a, a < 0 → ∀ b, b < 0 → a ≠ b → (TJxc12de a).2.1 ≠ (TJxc12de b).2.1 := by decide +kernel
theorem tyJxc12de_ok : ∀ k, k < 0 → parseFieldDescriptor (TJxc12de k).2.2.1 = some (tyJxc12de k) := by decide +kernel
abbrev cJxc12de_init_da8c8 : ByteArray := prog_22_method_1_code
def yJxc12de_init_da8c8 : MethodName := ⟨RJxc12de, "<init>", "()V"⟩
def RJx4a65c : String := "java/util/ArrayList"
def TJx4a65c : u_T := fun k => match k with
  | 0 => ("java/util/AbstractList", "modCount", "I", false)
  | 1 => ("java/util/ArrayList", "elementData", "[Ljava/lang/Object;", false)
  | _ => ("java/util/ArrayList", "size", "I", false)
def tyJx4a65c : Nat → FieldType := fun k => match k with
  | 0 => .int
  | 1 => .array (.object "java/lang/Object")
  | _ => .int
theorem nmJx4a65c : ∀ a, a < 3 → ∀ b, b < 3 → a ≠ b → (TJx4a65c a).2.1 ≠ (TJx4a65c b).2.1 := by decide +kernel
theorem tyJx4a65c_ok : ∀ k, k < 3 → parseFieldDescriptor (TJx4a65c k).2.2.1 = some (tyJx4a65c k) := by decide +kernel
abbrev cJx4a65c_init_da8c8 : ByteArray := prog_23_method_2_code
def yJx4a65c_init_da8c8 : MethodName := ⟨RJx4a65c, "<init>", "()V"⟩
abbrev cJx4a65c_grow_92f84 : ByteArray := prog_23_method_6_code
def yJx4a65c_grow_92f84 : MethodName := ⟨RJx4a65c, "grow", "(I)[Ljava/lang/Object;"⟩
abbrev cJx4a65c_grow_d5877 : ByteArray := prog_23_method_7_code
def yJx4a65c_grow_d5877 : MethodName := ⟨RJx4a65c, "grow", "()[Ljava/lang/Object;"⟩
abbrev cJx4a65c_size_8abf5 : ByteArray := prog_23_method_8_code
def yJx4a65c_size_8abf5 : MethodName := ⟨RJx4a65c, "size", "()I"⟩
abbrev cJx4a65c_elementData_915e3 : ByteArray := prog_23_method_18_code
def yJx4a65c_elementData_915e3 : MethodName := ⟨RJx4a65c, "elementData", "(I)Ljava/lang/Object;"⟩
abbrev cJx4a65c_get_915e3 : ByteArray := prog_23_method_20_code
def yJx4a65c_get_915e3 : MethodName := ⟨RJx4a65c, "get", "(I)Ljava/lang/Object;"⟩
abbrev cJx4a65c_add_72be8 : ByteArray := prog_23_method_24_code
def yJx4a65c_add_72be8 : MethodName := ⟨RJx4a65c, "add", "(Ljava/lang/Object;[Ljava/lang/Object;I)V"⟩
abbrev cJx4a65c_add_9ea2d : ByteArray := prog_23_method_25_code
def yJx4a65c_add_9ea2d : MethodName := ⟨RJx4a65c, "add", "(Ljava/lang/Object;)Z"⟩
def RJ7 : String := "java/util/Arrays"
def TJ7 : u_T := fun k => match k with
  | _ => ("", "", "", false)
def tyJ7 : Nat → FieldType := fun k => match k with
  | _ => .int
theorem nmJ7 : ∀ a, a < 0 → ∀ b, b < 0 → a ≠ b → (TJ7 a).2.1 ≠ (TJ7 b).2.1 := by decide +kernel
theorem tyJ7_ok : ∀ k, k < 0 → parseFieldDescriptor (TJ7 k).2.2.1 = some (tyJ7 k) := by decide +kernel
abbrev cJ7_copyOf_1904c : ByteArray := prog_24_method_119_code
def yJ7_copyOf_1904c : MethodName := ⟨RJ7, "copyOf", "([Ljava/lang/Object;I)[Ljava/lang/Object;"⟩
abbrev cJ7_copyOf_6403c : ByteArray := prog_24_method_120_code
def yJ7_copyOf_6403c : MethodName := ⟨RJ7, "copyOf", "([Ljava/lang/Object;ILjava/lang/Class;)[Ljava/lang/Object;"⟩
def RJx5ef63 : String := "java/util/Collection"
def TJx5ef63 : u_T := fun k => match k with
  | _ => ("", "", "", false)
def tyJx5ef63 : Nat → FieldType := fun k => match k with
  | _ => .int
theorem nmJx5ef63 : ∀ a, a < 0 → ∀ b, b < 0 → a ≠ b → (TJx5ef63 a).2.1 ≠ (TJx5ef63 b).2.1 := by decide +kernel
theorem tyJx5ef63_ok : ∀ k, k < 0 → parseFieldDescriptor (TJx5ef63 k).2.2.1 = some (tyJx5ef63 k) := by decide +kernel
def RJxbd725 : String := "java/util/List"
def TJxbd725 : u_T := fun k => match k with
  | _ => ("", "", "", false)
def tyJxbd725 : Nat → FieldType := fun k => match k with
  | _ => .int
theorem nmJxbd725 : ∀ a, a < 0 → ∀ b, b < 0 → a ≠ b → (TJxbd725 a).2.1 ≠ (TJxbd725 b).2.1 := by decide +kernel
theorem tyJxbd725_ok : ∀ k, k < 0 → parseFieldDescriptor (TJxbd725 k).2.2.1 = some (tyJxbd725 k) := by decide +kernel
def RJ15 : String := "java/util/Objects"
def TJ15 : u_T := fun k => match k with
  | _ => ("", "", "", false)
def tyJ15 : Nat → FieldType := fun k => match k with
  | _ => .int
theorem nmJ15 : ∀ a, a < 0 → ∀ b, b < 0 → a ≠ b → (TJ15 a).2.1 ≠ (TJ15 b).2.1 := by decide +kernel
theorem tyJ15_ok : ∀ k, k < 0 → parseFieldDescriptor (TJ15 k).2.2.1 = some (tyJ15 k) := by decide +kernel
abbrev cJ15_checkIndex_7cf53 : ByteArray := prog_27_method_17_code
def yJ15_checkIndex_7cf53 : MethodName := ⟨RJ15, "checkIndex", "(II)I"⟩
def RJxf0a74 : String := "java/util/RandomAccess"
def TJxf0a74 : u_T := fun k => match k with
  | _ => ("", "", "", false)
def tyJxf0a74 : Nat → FieldType := fun k => match k with
  | _ => .int
theorem nmJxf0a74 : ∀ a, a < 0 → ∀ b, b < 0 → a ≠ b → (TJxf0a74 a).2.1 ≠ (TJxf0a74 b).2.1 := by decide +kernel
theorem tyJxf0a74_ok : ∀ k, k < 0 → parseFieldDescriptor (TJxf0a74 k).2.2.1 = some (tyJxf0a74 k) := by decide +kernel
def RJxa66e6 : String := "java/util/SequencedCollection"
def TJxa66e6 : u_T := fun k => match k with
  | _ => ("", "", "", false)
def tyJxa66e6 : Nat → FieldType := fun k => match k with
  | _ => .int
theorem nmJxa66e6 : ∀ a, a < 0 → ∀ b, b < 0 → a ≠ b → (TJxa66e6 a).2.1 ≠ (TJxa66e6 b).2.1 := by decide +kernel
theorem tyJxa66e6_ok : ∀ k, k < 0 → parseFieldDescriptor (TJxa66e6 k).2.2.1 = some (tyJxa66e6 k) := by decide +kernel
def RJ8 : String := "jdk/internal/util/ArraysSupport"
def TJ8 : u_T := fun k => match k with
  | _ => ("", "", "", false)
def tyJ8 : Nat → FieldType := fun k => match k with
  | _ => .int
theorem nmJ8 : ∀ a, a < 0 → ∀ b, b < 0 → a ≠ b → (TJ8 a).2.1 ≠ (TJ8 b).2.1 := by decide +kernel
theorem tyJ8_ok : ∀ k, k < 0 → parseFieldDescriptor (TJ8 k).2.2.1 = some (tyJ8 k) := by decide +kernel
abbrev cJ8_newLength_cabcc : ByteArray := prog_30_method_27_code
def yJ8_newLength_cabcc : MethodName := ⟨RJ8, "newLength", "(III)I"⟩
abbrev cJ8_hugeLength_7cf53 : ByteArray := prog_30_method_28_code
def yJ8_hugeLength_7cf53 : MethodName := ⟨RJ8, "hugeLength", "(II)I"⟩
def RJ3 : String := "jdk/internal/util/Preconditions"
def TJ3 : u_T := fun k => match k with
  | _ => ("", "", "", false)
def tyJ3 : Nat → FieldType := fun k => match k with
  | _ => .int
theorem nmJ3 : ∀ a, a < 0 → ∀ b, b < 0 → a ≠ b → (TJ3 a).2.1 ≠ (TJ3 b).2.1 := by decide +kernel
theorem tyJ3_ok : ∀ k, k < 0 → parseFieldDescriptor (TJ3 k).2.2.1 = some (tyJ3 k) := by decide +kernel
abbrev cJ3_checkIndex_8e157 : ByteArray := prog_31_method_11_code
def yJ3_checkIndex_8e157 : MethodName := ⟨RJ3, "checkIndex", "(IILjava/util/function/BiFunction;)I"⟩
def RL : String := "GreatStoreLaw"
abbrev cL_law : ByteArray := code
def yL_law : MethodName := ⟨RL, "law", "([I)Z"⟩
abbrev vwCl : List vw_C := [(RJx4a65c, TJx4a65c, 3), (RX0, TX0, 6), (RX1, TX1, 9), (RX2, TX2, 5), (RX3, TX3, 12), (RX4, TX4, 4), (RX5, TX5, 2), (RX6, TX6, 5), (RX7, TX7, 4), (RX8, TX8, 4), (RX9, TX9, 11), (RX10, TX10, 55)]
end
section
-- ===== the abstract store: pointers are (role, number); ints and references by (role, number, place) =====
abbrev PT : Type := Nat × Nat
abbrev AV : Type := Int32 ⊕ (Int64 ⊕ Option PT)
abbrev aI (x : Int32) : AV := Sum.inl x
abbrev aL (x : Int64) : AV := Sum.inr (Sum.inl x)
abbrev aP (q : Option PT) : AV := Sum.inr (Sum.inr q)
abbrev aR (c i : Nat) : AV := Sum.inr (Sum.inr (some (c, i)))
def vl (ad : PT → Nat) (v : AV) : Value := match v with
  | .inl x => .int x
  | .inr (.inl x) => .long x
  | .inr (.inr r) => va_rf (r.map ad)
def ct (v : AV) : Nat := match v with
  | .inr (.inl _) => 2
  | _ => 1
abbrev HS : Type := (Nat → Nat → Nat → Int32) × (Nat → Nat → Nat → Option PT) × List PT
def gI (h : HS) (c i k : Nat) : Int32 := h.1 c i k
def gR (h : HS) (c i k : Nat) : Option PT := h.2.1 c i k
def sI (h : HS) (c i k : Nat) (v : Int32) : HS := (fun c' i' k' => if c' = c ∧ k' = k ∧ i' = i then v else h.1 c' i' k', h.2)
def sR (h : HS) (c i k : Nat) (v : Option PT) : HS := (h.1, fun c' i' k' => if c' = c ∧ k' = k ∧ i' = i then v else h.2.1 c' i' k', h.2.2)
def nw (h : HS) (c i : Nat) : HS := (fun c' i' k' => if c' = c ∧ i' = i then 0 else h.1 c' i' k', fun c' i' k' => if c' = c ∧ i' = i then none else h.2.1 c' i' k', h.2.2 ++ [(c, i)])
abbrev MT : Type := MethodName × ByteArray × Nat × Option FieldType
abbrev OJ : FieldType := .object "java/lang/Object"
def rtl : List (Option (Nat ⊕ (FieldType × Nat))) := [some (.inl 10), some (.inl 0), some (.inl 0), some (.inl 9), some (.inr (.int, 20)), some (.inr (.boolean, 20)), some (.inl 6), some (.inr (.byte, 400)), some (.inl 8), some (.inr (.int, 401)), some (.inr (.int, 401)), some (.inr (.int, 401)), some (.inl 2), some (.inr (.int, 400)), some (.inr (.int, 400)), some (.inr (.int, 8)), some (.inr (.int, 8)), some (.inr (.int, 8)), some (.inr (.int, 64)), some (.inl 3), some (.inl 5), some (.inl 1), some (.inr (.int, 4)), some (.inr (.int, 4)), some (.inr (.int, 8)), some (.inr (.int, 8)), some (.inl 11), some (.inr (.int, 4368)), some (.inr (.int, 12)), some (.inr (.int, 12)), some (.inr (.int, 12)), some (.inr (.int, 12)), some (.inr (.int, 120)), some (.inr (.int, 120)), some (.inr (.int, 120)), some (.inr (.int, 120)), some (.inr (.int, 120)), some (.inr (.int, 120)), some (.inr (.int, 120)), some (.inr (.int, 120)), some (.inr (.int, 120)), some (.inr (.int, 120)), some (.inr (.int, 120)), some (.inr (.int, 120)), some (.inr (.int, 20)), some (.inr (.boolean, 20)), some (.inr (.int, 9)), some (.inr (.int, 8)), some (.inr (.int, 500)), some (.inr (.int, 9)), some (.inr (.int, 8)), some (.inr (.int, 500)), some (.inr (.int, 500)), some (.inr (.int, 400)), some (.inr (.int, 4)), some (.inr (.int, 4)), some (.inr (.int, 8)), some (.inr (.int, 8)), none, none, some (.inl 7), some (.inr (.int, 364)), some (.inl 4)]
def rty (c i : Nat) : Nat ⊕ (FieldType × Nat) := match rtl[c]? with
  | some (some t) => t
  | _ => .inr (OJ, i)
def srl : List ((Nat × Nat) × Nat) := [((0, 0), 1), ((0, 1), 2), ((0, 2), 3), ((0, 3), 6), ((0, 4), 8), ((0, 5), 19), ((0, 6), 20), ((0, 7), 21), ((3, 0), 4), ((3, 1), 5), ((6, 0), 7), ((8, 0), 9), ((8, 1), 10), ((8, 2), 11), ((12, 0), 13), ((12, 1), 14), ((12, 2), 15), ((12, 3), 16), ((12, 4), 17), ((12, 5), 18), ((19, 0), 8), ((21, 0), 22), ((21, 1), 23), ((21, 2), 24), ((21, 3), 25), ((26, 3), 27), ((26, 4), 28), ((26, 5), 29), ((26, 6), 30), ((26, 7), 31), ((26, 8), 32), ((26, 9), 33), ((26, 10), 34), ((26, 11), 35), ((26, 12), 36), ((26, 13), 37), ((26, 14), 38), ((26, 15), 39), ((26, 16), 40), ((26, 17), 41), ((26, 18), 42), ((26, 19), 43), ((26, 22), 44), ((26, 23), 45), ((26, 27), 46), ((26, 28), 47), ((26, 29), 48), ((26, 30), 49), ((26, 31), 50), ((26, 32), 51), ((26, 33), 52), ((26, 34), 53), ((26, 49), 54), ((26, 50), 55), ((26, 51), 56), ((26, 52), 57)]
def fR (c i k : Nat) : Option PT := (srl.lookup (c, k)).map (fun c' => (c', i))
def gS (σ : Bool) (h : HS) (c i k : Nat) : Option PT := if σ then (match fR c i k with
  | some q => some q
  | none => gR h c i k) else gR h c i k
def fts : List (Nat → FieldType) := [tyJx4a65c, tyX0, tyX1, tyX2, tyX3, tyX4, tyX5, tyX6, tyX7, tyX8, tyX9, tyX10]
def fty (ci k : Nat) : FieldType := match fts[ci]? with
  | some f => f k
  | none => .int
def isRT (t : FieldType) : Bool := match t with
  | .object _ => true
  | .array _ => true
  | _ => false
def nF (ci : Nat) : Nat := match vwCl[ci]? with
  | some q => q.2.2
  | none => 0
def fv (σ : Bool) (ad : PT → Nat) (h : HS) (c i ci k : Nat) : Value := if isRT (fty ci k) then va_rf ((gS σ h c i k).map ad) else .int (gI h c i k)
def toE (σ : Bool) (cA : FieldType → ClassId) (ad : PT → Nat) (h : HS) (q : PT) : va_E := match rty q.1 q.2 with
  | .inl ci => .inr (ci, (List.range (nF ci)).map (fv σ ad h q.1 q.2 ci))
  | .inr (t, n) => .inl (cA t, n, if isRT t then .inr (.inr (.inr (.inr (fun k => (gS σ h q.1 q.2 k).map ad)))) else .inl (gI h q.1 q.2))
def wsO (σ : Bool) (cA : FieldType → ClassId) (ad : PT → Nat) (h : HS) : va_W := h.2.2.map (fun q => (ad q, toE σ cA ad h q))
def okL (L : List PT) (q : PT) : Prop := q ∈ L ∨ 65 ≤ q.1
def okV (h : HS) (v : AV) : Prop := ∀ q, v = aP (some q) → okL h.2.2 q
def Rep (σ : Bool) (D : va_G) (cA : FieldType → ClassId) (ad : PT → Nat) (B : Nat) (h : HS) (H : Heap) : Prop :=
  va_P D vwCl (wsO σ cA ad h) H ∧ va_D (fun q => B ≤ q) (wsO σ cA ad h) ∧ ∀ q ∈ h.2.2, ∀ k r, gS σ h q.1 q.2 k = some r → okL h.2.2 r
-- ===== the tables' words that stay =====
def gw : List Cond := lw_tbl.filter goodWord
theorem gw_good (M : Cond) (hM : goodWord M = true) : GoodIn (M :: gw) (M :: gw) := fun w hw => ⟨hw, by
  rcases List.mem_cons.mp hw with h | h
  · rw [h]; exact good_of_word hM
  · exact good_of_word (List.mem_filter.mp h).2⟩
theorem inw_0 : ∀ w ∈ u_ws RJx4a65c TJx4a65c 3, w ∈ gw := by decide +kernel
theorem inw_1 : ∀ w ∈ u_ws RX0 TX0 6, w ∈ gw := by decide +kernel
theorem inw_2 : ∀ w ∈ u_ws RX1 TX1 9, w ∈ gw := by decide +kernel
theorem inw_3 : ∀ w ∈ u_ws RX2 TX2 5, w ∈ gw := by decide +kernel
theorem inw_4 : ∀ w ∈ u_ws RX3 TX3 12, w ∈ gw := by decide +kernel
theorem inw_5 : ∀ w ∈ u_ws RX4 TX4 4, w ∈ gw := by decide +kernel
theorem inw_6 : ∀ w ∈ u_ws RX5 TX5 2, w ∈ gw := by decide +kernel
theorem inw_7 : ∀ w ∈ u_ws RX6 TX6 5, w ∈ gw := by decide +kernel
theorem inw_8 : ∀ w ∈ u_ws RX7 TX7 4, w ∈ gw := by decide +kernel
theorem inw_9 : ∀ w ∈ u_ws RX8 TX8 4, w ∈ gw := by decide +kernel
theorem inw_10 : ∀ w ∈ u_ws RX9 TX9 11, w ∈ gw := by decide +kernel
theorem inw_11 : ∀ w ∈ u_ws RX10 TX10 55, w ∈ gw := by decide +kernel
theorem cls_ok {ci : Nat} {C : String} {T : u_T} {N : Nat} (h : vwCl[ci]? = some (C, T, N)) : N = nF ci ∧ (∀ w ∈ u_ws C T N, w ∈ gw) ∧ (∀ k, k < N → parseFieldDescriptor (T k).2.2.1 = some (fty ci k)) ∧ (∀ a, a < N → ∀ b, b < N → a ≠ b → (T a).2.1 ≠ (T b).2.1) := by
  match ci, h with
  | 0, h => cases h; exact ⟨rfl, inw_0, tyJx4a65c_ok, nmJx4a65c⟩
  | 1, h => cases h; exact ⟨rfl, inw_1, tyX0_ok, nmX0⟩
  | 2, h => cases h; exact ⟨rfl, inw_2, tyX1_ok, nmX1⟩
  | 3, h => cases h; exact ⟨rfl, inw_3, tyX2_ok, nmX2⟩
  | 4, h => cases h; exact ⟨rfl, inw_4, tyX3_ok, nmX3⟩
  | 5, h => cases h; exact ⟨rfl, inw_5, tyX4_ok, nmX4⟩
  | 6, h => cases h; exact ⟨rfl, inw_6, tyX5_ok, nmX5⟩
  | 7, h => cases h; exact ⟨rfl, inw_7, tyX6_ok, nmX6⟩
  | 8, h => cases h; exact ⟨rfl, inw_8, tyX7_ok, nmX7⟩
  | 9, h => cases h; exact ⟨rfl, inw_9, tyX8_ok, nmX8⟩
  | 10, h => cases h; exact ⟨rfl, inw_10, tyX9_ok, nmX9⟩
  | 11, h => cases h; exact ⟨rfl, inw_11, tyX10_ok, nmX10⟩
  | k + 12, h => simp at h
end
section
def lvm (ad : PT → Nat) (lv : List (Nat × AV)) : List (Nat × Value) := lv.map (fun q => (q.1, vl ad q.2))
def tysO (cA : FieldType → ClassId) : List (ClassId × FieldType) := [(cA .int, .int), (cA .byte, .byte), (cA .boolean, .boolean), (cA OJ, OJ)]
/-- what lies outside the store -/
def Ex (cA : FieldType → ClassId) (B : Nat) (ad : PT → Nat) (U : State) (H : Heap) : Prop := True
theorem Ex.moved {cA : FieldType → ClassId} {B : Nat} {ad : PT → Nat} {u U : State} {H : Heap} (hvm : u.vm.Alike U.vm) (h : Ex cA B ad u H) : Ex cA B ad U H := trivial
theorem Ex.kept {cA : FieldType → ClassId} {B : Nat} {ad ad' : PT → Nat} {U : State} {H H1 : Heap} (h : Ex cA B ad U H) (hq : ∀ q : Nat, q < H.size → ¬ B ≤ q → H1[q]? = H[q]?) (ha : ∀ q : PT, 65 ≤ q.1 → ad' q = ad q) : Ex cA B ad' U H1 := trivial
def Cx (M : MT) (p : Program) (s : State) (m : MethodId) (args : Array Value) (meth : Method) (c : Code) (D : va_G) (cA : FieldType → ClassId) : Prop :=
  p.tables.exec = Jvm.exec ∧ c.code = M.2.1 ∧ c.maxLocals = M.2.2.1 ∧ s.vm.findClass M.1.cls = some m.cls ∧ (∀ w ∈ gw, w.before args s = true) ∧ meth.sig.returnType = M.2.2.2 ∧ meth.locks = false ∧ meth.name = M.1.name ∧ va_K D vwCl (tysO cA) s
def QM (σ : Bool) (D : va_G) (cA : FieldType → ClassId) (B : Nat) (ad0 : PT → Nat) (L0 : List PT) (P : Option AV → HS → Prop) : Array Value → State → Outcome → State → Prop := fun _ st o t =>
  ∃ (r : Option AV) (h : HS) (ad : PT → Nat), o = .returned (r.map (vl ad)) ∧ P r h ∧ Rep σ D cA ad B h t.heap ∧ (∀ v, r = some v → okV h v) ∧ (∀ q, okL L0 q → ad q = ad0 q ∧ okL h.2.2 q) ∧ va_F (fun q => B ≤ q) st t
def Bd (σ : Bool) (M : MT) (d bc bs : Nat) (lv : List (Nat × AV)) (st : List AV) (h : HS) (p : Program) (R : Room) (s : State) (m : MethodId) (args : Array Value) (meth : Method) (c : Code) (D : va_G) (cA : FieldType → ClassId) (B : Nat) (ad ad0 : PT → Nat) (L0 : List PT) (H : Heap) (locs : List Loc) (cells slots : Nat) (ls : Array Slot) : Prop :=
  Cx M p s m args meth c D cA ∧ B ≤ s.heap.size ∧ Ex cA B ad s s.heap ∧ (d ≤ R.frames ∧ 64 * d ≤ R.locals) ∧ (cells + bc ≤ R.cells ∧ slots + bs ≤ R.slots) ∧ Rep σ D cA ad B h H ∧ va_S (fun q => B ≤ q) s.heap H locs ∧ lv_has ls M.2.2.1 (lvm ad lv) ∧ (∀ q ∈ lv, okV h q.2) ∧ (∀ v ∈ st, okV h v) ∧ (∀ q, okL L0 q → ad q = ad0 q ∧ okL h.2.2 q)
/-- the machine, in method M at pc, with these locals, this stack and this store, comes to M's end with P -/
def V (σ : Bool) (M : MT) (d bc bs pc : Nat) (lv : List (Nat × AV)) (st : List AV) (h : HS) (P : Option AV → HS → Prop) : Prop :=
  ∀ (p : Program) (l : Launch) (e : Env) (R : Room) (s : State) (m : MethodId) (args : Array Value) (below : List Frame) (meth : Method) (c : Code) (D : va_G) (cA : FieldType → ClassId) (B : Nat) (ad ad0 : PT → Nat) (L0 : List PT) (H : Heap) (locs : List Loc) (cells slots : Nat) (ls : Array Slot),
    Bd σ M d bc bs lv st h p R s m args meth c D cA B ad ad0 L0 H locs cells slots ls →
    W p l e R s m args below meth c H locs cells slots (MQ below (QM σ D cA B ad0 L0 P) args s R.cells R.slots (fun q => B ≤ q)) (F0 m pc ls (st.map (vl ad)))
/-- method M at these arguments and this store comes back, with P -/
def Cl (σ : Bool) (M : MT) (d bc bs : Nat) (as : List AV) (h : HS) (P : Option AV → HS → Prop) : Prop :=
  ∀ (l : Launch) (D : va_G) (cA : FieldType → ClassId) (B : Nat) (ad : PT → Nat), Met l M.1 (Cond.code M.1 M.2.1 M.2.2.1 M.2.2.2 :: gw) { frames := d, cells := bc, slots := bs, locals := 64 * d }
    (va_Pc (as.map (vl ad)) (fun U => B ≤ U.heap.size ∧ Ex cA B ad U U.heap ∧ Rep σ D cA ad B h U.heap ∧ va_K D vwCl (tysO cA) U ∧ ∀ v ∈ as, okV h v)) (QM σ D cA B ad h.2.2 P) bc bs (fun q => B ≤ q)
section VR
variable {σ : Bool} {M : MT} {d bc bs pc : Nat} {lv : List (Nat × AV)} {st : List AV} {h : HS} {P : Option AV → HS → Prop}
theorem okI {x : Int32} : okV h (aI x) := fun q e => by cases e
theorem okLg {x : Int64} : okV h (aL x) := fun q e => by cases e
theorem okN : okV h (aP none) := fun q e => by cases e
theorem okc {v : AV} {st : List AV} (hx : okV h v) (hs : ∀ v ∈ st, okV h v) : ∀ w ∈ v :: st, okV h w := fun w hw => (List.mem_cons.mp hw).elim (fun e => e ▸ hx) (hs w)
theorem okt {v : AV} {st : List AV} (hs : ∀ w ∈ v :: st, okV h w) : ∀ w ∈ st, okV h w := fun w hw => hs w (List.mem_cons_of_mem _ hw)
theorem okh {v : AV} {st : List AV} (hs : ∀ w ∈ v :: st, okV h w) : okV h v := hs v List.mem_cons_self
section BD
variable {p : Program} {R : Room} {s : State} {m : MethodId} {args : Array Value} {meth : Method} {c : Code} {D : va_G} {cA : FieldType → ClassId} {B : Nat} {ad ad0 : PT → Nat} {L0 : List PT} {H : Heap} {locs : List Loc} {cells slots : Nat} {ls : Array Slot}
theorem Bd.x (b : Bd σ M d bc bs lv st h p R s m args meth c D cA B ad ad0 L0 H locs cells slots ls) : p.tables.exec = Jvm.exec := b.1.1
theorem Bd.b (b : Bd σ M d bc bs lv st h p R s m args meth c D cA B ad ad0 L0 H locs cells slots ls) : c.code = M.2.1 := b.1.2.1
theorem Bd.own (b : Bd σ M d bc bs lv st h p R s m args meth c D cA B ad ad0 L0 H locs cells slots ls) : s.vm.findClass M.1.cls = some m.cls := b.1.2.2.2.1
theorem Bd.ts (b : Bd σ M d bc bs lv st h p R s m args meth c D cA B ad ad0 L0 H locs cells slots ls) : ∀ w ∈ gw, w.before args s = true := b.1.2.2.2.2.1
theorem Bd.K (b : Bd σ M d bc bs lv st h p R s m args meth c D cA B ad ad0 L0 H locs cells slots ls) : va_K D vwCl (tysO cA) s := b.1.2.2.2.2.2.2.2.2
theorem Bd.rep (b : Bd σ M d bc bs lv st h p R s m args meth c D cA B ad ad0 L0 H locs cells slots ls) : Rep σ D cA ad B h H := b.2.2.2.2.2.1
theorem Bd.S (b : Bd σ M d bc bs lv st h p R s m args meth c D cA B ad ad0 L0 H locs cells slots ls) : va_S (fun q => B ≤ q) s.heap H locs := b.2.2.2.2.2.2.1
theorem Bd.lh (b : Bd σ M d bc bs lv st h p R s m args meth c D cA B ad ad0 L0 H locs cells slots ls) : lv_has ls M.2.2.1 (lvm ad lv) := b.2.2.2.2.2.2.2.1
theorem Bd.lo (b : Bd σ M d bc bs lv st h p R s m args meth c D cA B ad ad0 L0 H locs cells slots ls) : ∀ q ∈ lv, okV h q.2 := b.2.2.2.2.2.2.2.2.1
theorem Bd.so (b : Bd σ M d bc bs lv st h p R s m args meth c D cA B ad ad0 L0 H locs cells slots ls) : ∀ v ∈ st, okV h v := b.2.2.2.2.2.2.2.2.2.1
theorem Bd.stk {st' : List AV} (b : Bd σ M d bc bs lv st h p R s m args meth c D cA B ad ad0 L0 H locs cells slots ls) (hs : ∀ v ∈ st', okV h v) : Bd σ M d bc bs lv st' h p R s m args meth c D cA B ad ad0 L0 H locs cells slots ls := by
  obtain ⟨h1, h2, h3, h4, h5, h6, h7, h8, h9, -, h11⟩ := b
  exact ⟨h1, h2, h3, h4, h5, h6, h7, h8, h9, hs, h11⟩
theorem Bd.lst {lv' : List (Nat × AV)} {st' : List AV} {ls' : Array Slot} (b : Bd σ M d bc bs lv st h p R s m args meth c D cA B ad ad0 L0 H locs cells slots ls) (hs : ∀ v ∈ st', okV h v) (hl : lv_has ls' M.2.2.1 (lvm ad lv')) (ho : ∀ q ∈ lv', okV h q.2) : Bd σ M d bc bs lv' st' h p R s m args meth c D cA B ad ad0 L0 H locs cells slots ls' := by
  obtain ⟨h1, h2, h3, h4, h5, h6, h7, -, -, -, h11⟩ := b
  exact ⟨h1, h2, h3, h4, h5, h6, h7, hl, ho, hs, h11⟩
end BD
theorem V_iconst {n : Int} (v : Int32) (hd : decode M.2.1 pc = .ok (.iconst n, 1)) (hv : Int32.ofInt n = v) (k : V σ M d bc bs (pc + 1) lv (aI v :: st) h P) : V σ M d bc bs pc lv (st) h P := by
  intro p l e R s m args below meth c D cA B ad ad0 L0 H locs cells slots ls b
  exact lv_iconst b.x b.b hd hv (k p l e R s m args below meth c D cA B ad ad0 L0 H locs cells slots ls (b.stk (okc okI b.so)))
theorem V_bipush {n : Int} (v : Int32) (hd : decode M.2.1 pc = .ok (.bipush n, 2)) (hv : (Int8.ofInt n).toInt32 = v) (k : V σ M d bc bs (pc + 2) lv (aI v :: st) h P) : V σ M d bc bs pc lv (st) h P := by
  intro p l e R s m args below meth c D cA B ad ad0 L0 H locs cells slots ls b
  exact lv_bipush b.x b.b hd hv (k p l e R s m args below meth c D cA B ad ad0 L0 H locs cells slots ls (b.stk (okc okI b.so)))
theorem V_sipush {n : Int} (v : Int32) (hd : decode M.2.1 pc = .ok (.sipush n, 3)) (hv : (Int16.ofInt n).toInt32 = v) (k : V σ M d bc bs (pc + 3) lv (aI v :: st) h P) : V σ M d bc bs pc lv (st) h P := by
  intro p l e R s m args below meth c D cA B ad ad0 L0 H locs cells slots ls b
  exact lv_sipush b.x b.b hd hv (k p l e R s m args below meth c D cA B ad ad0 L0 H locs cells slots ls (b.stk (okc okI b.so)))
theorem V_lconst {n : Fin 2} (v : Int64) (hd : decode M.2.1 pc = .ok (.lconst n, 1)) (hv : Int64.ofNat (n : Nat) = v) (k : V σ M d bc bs (pc + 1) lv (aL v :: st) h P) : V σ M d bc bs pc lv (st) h P := by
  intro p l e R s m args below meth c D cA B ad ad0 L0 H locs cells slots ls b
  exact lv_lconst b.x b.b hd hv (k p l e R s m args below meth c D cA B ad ad0 L0 H locs cells slots ls (b.stk (okc okLg b.so)))
theorem V_null (hd : decode M.2.1 pc = .ok (.aconst_null, 1)) (k : V σ M d bc bs (pc + 1) lv (aP none :: st) h P) : V σ M d bc bs pc lv (st) h P := by
  intro p l e R s m args below meth c D cA B ad ad0 L0 H locs cells slots ls b
  exact lv_null b.x b.b hd (k p l e R s m args below meth c D cA B ad ad0 L0 H locs cells slots ls (b.stk (okc okN b.so)))
theorem V_iadd {x y : Int32} (hd : decode M.2.1 pc = .ok (.iadd, 1)) (k : V σ M d bc bs (pc + 1) lv (aI (x + y) :: st) h P) : V σ M d bc bs pc lv (aI y :: aI x :: st) h P := by
  intro p l e R s m args below meth c D cA B ad ad0 L0 H locs cells slots ls b
  exact lv_iadd b.x b.b hd (k p l e R s m args below meth c D cA B ad ad0 L0 H locs cells slots ls (b.stk (okc okI (okt (okt b.so)))))
theorem V_isub {x y : Int32} (hd : decode M.2.1 pc = .ok (.isub, 1)) (k : V σ M d bc bs (pc + 1) lv (aI (x - y) :: st) h P) : V σ M d bc bs pc lv (aI y :: aI x :: st) h P := by
  intro p l e R s m args below meth c D cA B ad ad0 L0 H locs cells slots ls b
  exact lv_isub b.x b.b hd (k p l e R s m args below meth c D cA B ad ad0 L0 H locs cells slots ls (b.stk (okc okI (okt (okt b.so)))))
theorem V_imul {x y : Int32} (hd : decode M.2.1 pc = .ok (.imul, 1)) (k : V σ M d bc bs (pc + 1) lv (aI (x * y) :: st) h P) : V σ M d bc bs pc lv (aI y :: aI x :: st) h P := by
  intro p l e R s m args below meth c D cA B ad ad0 L0 H locs cells slots ls b
  exact lv_imul b.x b.b hd (k p l e R s m args below meth c D cA B ad ad0 L0 H locs cells slots ls (b.stk (okc okI (okt (okt b.so)))))
theorem V_iand {x y : Int32} (hd : decode M.2.1 pc = .ok (.iand, 1)) (k : V σ M d bc bs (pc + 1) lv (aI (x &&& y) :: st) h P) : V σ M d bc bs pc lv (aI y :: aI x :: st) h P := by
  intro p l e R s m args below meth c D cA B ad ad0 L0 H locs cells slots ls b
  exact lv_iand b.x b.b hd (k p l e R s m args below meth c D cA B ad ad0 L0 H locs cells slots ls (b.stk (okc okI (okt (okt b.so)))))
theorem V_ior {x y : Int32} (hd : decode M.2.1 pc = .ok (.ior, 1)) (k : V σ M d bc bs (pc + 1) lv (aI (x ||| y) :: st) h P) : V σ M d bc bs pc lv (aI y :: aI x :: st) h P := by
  intro p l e R s m args below meth c D cA B ad ad0 L0 H locs cells slots ls b
  exact lv_ior b.x b.b hd (k p l e R s m args below meth c D cA B ad ad0 L0 H locs cells slots ls (b.stk (okc okI (okt (okt b.so)))))
theorem V_ishl {x y : Int32} (hd : decode M.2.1 pc = .ok (.ishl, 1)) (k : V σ M d bc bs (pc + 1) lv (aI (x <<< (y &&& 31)) :: st) h P) : V σ M d bc bs pc lv (aI y :: aI x :: st) h P := by
  intro p l e R s m args below meth c D cA B ad ad0 L0 H locs cells slots ls b
  exact lv_ishl b.x b.b hd (k p l e R s m args below meth c D cA B ad ad0 L0 H locs cells slots ls (b.stk (okc okI (okt (okt b.so)))))
theorem V_ishr {x y : Int32} (hd : decode M.2.1 pc = .ok (.ishr, 1)) (k : V σ M d bc bs (pc + 1) lv (aI (x >>> (y &&& 31)) :: st) h P) : V σ M d bc bs pc lv (aI y :: aI x :: st) h P := by
  intro p l e R s m args below meth c D cA B ad ad0 L0 H locs cells slots ls b
  exact lv_ishr b.x b.b hd (k p l e R s m args below meth c D cA B ad ad0 L0 H locs cells slots ls (b.stk (okc okI (okt (okt b.so)))))
theorem V_iushr {x y : Int32} (hd : decode M.2.1 pc = .ok (.iushr, 1)) (k : V σ M d bc bs (pc + 1) lv (aI ((x.toUInt32 >>> (y.toUInt32 &&& Int32.toUInt32 31)).toInt32) :: st) h P) : V σ M d bc bs pc lv (aI y :: aI x :: st) h P := by
  intro p l e R s m args below meth c D cA B ad ad0 L0 H locs cells slots ls b
  exact lv_iushr b.x b.b hd rfl (k p l e R s m args below meth c D cA B ad ad0 L0 H locs cells slots ls (b.stk (okc okI (okt (okt b.so)))))
theorem V_idiv {x y : Int32} (hd : decode M.2.1 pc = .ok (.idiv, 1)) (hne : ¬ y = 0) (k : V σ M d bc bs (pc + 1) lv (aI (x / y) :: st) h P) : V σ M d bc bs pc lv (aI y :: aI x :: st) h P := by
  intro p l e R s m args below meth c D cA B ad ad0 L0 H locs cells slots ls b
  exact lv_idiv b.x b.b hd hne (k p l e R s m args below meth c D cA B ad ad0 L0 H locs cells slots ls (b.stk (okc okI (okt (okt b.so)))))
theorem V_irem {x y : Int32} (hd : decode M.2.1 pc = .ok (.irem, 1)) (hne : ¬ y = 0) (k : V σ M d bc bs (pc + 1) lv (aI (x - x / y * y) :: st) h P) : V σ M d bc bs pc lv (aI y :: aI x :: st) h P := by
  intro p l e R s m args below meth c D cA B ad ad0 L0 H locs cells slots ls b
  exact lv_irem b.x b.b hd hne (k p l e R s m args below meth c D cA B ad ad0 L0 H locs cells slots ls (b.stk (okc okI (okt (okt b.so)))))
theorem V_ineg {x : Int32} (hd : decode M.2.1 pc = .ok (.ineg, 1)) (k : V σ M d bc bs (pc + 1) lv (aI (-x) :: st) h P) : V σ M d bc bs pc lv (aI x :: st) h P := by
  intro p l e R s m args below meth c D cA B ad ad0 L0 H locs cells slots ls b
  exact lv_ineg b.x b.b hd (k p l e R s m args below meth c D cA B ad ad0 L0 H locs cells slots ls (b.stk (okc okI (okt b.so))))
theorem V_i2b {x : Int32} (hd : decode M.2.1 pc = .ok (.i2b, 1)) (k : V σ M d bc bs (pc + 1) lv (aI (x.toInt8.toInt32) :: st) h P) : V σ M d bc bs pc lv (aI x :: st) h P := by
  intro p l e R s m args below meth c D cA B ad ad0 L0 H locs cells slots ls b
  exact lv_i2b b.x b.b hd rfl (k p l e R s m args below meth c D cA B ad ad0 L0 H locs cells slots ls (b.stk (okc okI (okt b.so))))
theorem V_i2l {x : Int32} (hd : decode M.2.1 pc = .ok (.i2l, 1)) (k : V σ M d bc bs (pc + 1) lv (aL (x.toInt64) :: st) h P) : V σ M d bc bs pc lv (aI x :: st) h P := by
  intro p l e R s m args below meth c D cA B ad ad0 L0 H locs cells slots ls b
  exact lv_i2l b.x b.b hd rfl (k p l e R s m args below meth c D cA B ad ad0 L0 H locs cells slots ls (b.stk (okc okLg (okt b.so))))
theorem V_lshl {x : Int64} {y : Int32} (hd : decode M.2.1 pc = .ok (.lshl, 1)) (k : V σ M d bc bs (pc + 1) lv (aL (x <<< (y.toInt64 &&& 63)) :: st) h P) : V σ M d bc bs pc lv (aI y :: aL x :: st) h P := by
  intro p l e R s m args below meth c D cA B ad ad0 L0 H locs cells slots ls b
  exact lv_lshl b.x b.b hd rfl (k p l e R s m args below meth c D cA B ad ad0 L0 H locs cells slots ls (b.stk (okc okLg (okt (okt b.so)))))
theorem V_lor {x y : Int64} (hd : decode M.2.1 pc = .ok (.lor, 1)) (k : V σ M d bc bs (pc + 1) lv (aL (x ||| y) :: st) h P) : V σ M d bc bs pc lv (aL y :: aL x :: st) h P := by
  intro p l e R s m args below meth c D cA B ad ad0 L0 H locs cells slots ls b
  exact lv_lor b.x b.b hd (k p l e R s m args below meth c D cA B ad ad0 L0 H locs cells slots ls (b.stk (okc okLg (okt (okt b.so)))))
theorem V_lcmp {x y : Int64} (hd : decode M.2.1 pc = .ok (.lcmp, 1)) (k : V σ M d bc bs (pc + 1) lv (aI (lg_cmp x y) :: st) h P) : V σ M d bc bs pc lv (aL y :: aL x :: st) h P := by
  intro p l e R s m args below meth c D cA B ad ad0 L0 H locs cells slots ls b
  exact W.lcmp b.x b.b hd (k p l e R s m args below meth c D cA B ad ad0 L0 H locs cells slots ls (b.stk (okc okI (okt (okt b.so)))))
theorem V_if_eq {x : Int32} {off : Int} (tgt : Nat) (hd : decode M.2.1 pc = .ok (.ifCond .eq off, 3)) (ht : (pc : Int) + off = (tgt : Int)) (k : (x = 0 → V σ M d bc bs tgt lv st h P) ∧ (¬ x = 0 → V σ M d bc bs (pc + 3) lv st h P)) : V σ M d bc bs pc lv (aI x :: st) h P := by
  intro p l e R s m args below meth c D cA B ad ad0 L0 H locs cells slots ls b
  exact lv_if_eq b.x b.b hd ht (fun z => k.1 z p l e R s m args below meth c D cA B ad ad0 L0 H locs cells slots ls (b.stk (okt b.so))) (fun z => k.2 z p l e R s m args below meth c D cA B ad ad0 L0 H locs cells slots ls (b.stk (okt b.so)))
theorem V_icmp_eq {x y : Int32} {off : Int} (tgt : Nat) (hd : decode M.2.1 pc = .ok (.if_icmp .eq off, 3)) (ht : (pc : Int) + off = (tgt : Int)) (k : (x = y → V σ M d bc bs tgt lv st h P) ∧ (¬ x = y → V σ M d bc bs (pc + 3) lv st h P)) : V σ M d bc bs pc lv (aI y :: aI x :: st) h P := by
  intro p l e R s m args below meth c D cA B ad ad0 L0 H locs cells slots ls b
  exact lv_icmp_eq b.x b.b hd ht (fun z => k.1 z p l e R s m args below meth c D cA B ad ad0 L0 H locs cells slots ls (b.stk (okt (okt b.so)))) (fun z => k.2 z p l e R s m args below meth c D cA B ad ad0 L0 H locs cells slots ls (b.stk (okt (okt b.so))))
theorem V_if_ne {x : Int32} {off : Int} (tgt : Nat) (hd : decode M.2.1 pc = .ok (.ifCond .ne off, 3)) (ht : (pc : Int) + off = (tgt : Int)) (k : (¬ x = 0 → V σ M d bc bs tgt lv st h P) ∧ (x = 0 → V σ M d bc bs (pc + 3) lv st h P)) : V σ M d bc bs pc lv (aI x :: st) h P := by
  intro p l e R s m args below meth c D cA B ad ad0 L0 H locs cells slots ls b
  exact lv_if_ne b.x b.b hd ht (fun z => k.1 z p l e R s m args below meth c D cA B ad ad0 L0 H locs cells slots ls (b.stk (okt b.so))) (fun z => k.2 z p l e R s m args below meth c D cA B ad ad0 L0 H locs cells slots ls (b.stk (okt b.so)))
theorem V_icmp_ne {x y : Int32} {off : Int} (tgt : Nat) (hd : decode M.2.1 pc = .ok (.if_icmp .ne off, 3)) (ht : (pc : Int) + off = (tgt : Int)) (k : (¬ x = y → V σ M d bc bs tgt lv st h P) ∧ (x = y → V σ M d bc bs (pc + 3) lv st h P)) : V σ M d bc bs pc lv (aI y :: aI x :: st) h P := by
  intro p l e R s m args below meth c D cA B ad ad0 L0 H locs cells slots ls b
  exact lv_icmp_ne b.x b.b hd ht (fun z => k.1 z p l e R s m args below meth c D cA B ad ad0 L0 H locs cells slots ls (b.stk (okt (okt b.so)))) (fun z => k.2 z p l e R s m args below meth c D cA B ad ad0 L0 H locs cells slots ls (b.stk (okt (okt b.so))))
theorem V_if_lt {x : Int32} {off : Int} (tgt : Nat) (hd : decode M.2.1 pc = .ok (.ifCond .lt off, 3)) (ht : (pc : Int) + off = (tgt : Int)) (k : (x < 0 → V σ M d bc bs tgt lv st h P) ∧ (¬ x < 0 → V σ M d bc bs (pc + 3) lv st h P)) : V σ M d bc bs pc lv (aI x :: st) h P := by
  intro p l e R s m args below meth c D cA B ad ad0 L0 H locs cells slots ls b
  exact lv_if_lt b.x b.b hd ht (fun z => k.1 z p l e R s m args below meth c D cA B ad ad0 L0 H locs cells slots ls (b.stk (okt b.so))) (fun z => k.2 z p l e R s m args below meth c D cA B ad ad0 L0 H locs cells slots ls (b.stk (okt b.so)))
theorem V_icmp_lt {x y : Int32} {off : Int} (tgt : Nat) (hd : decode M.2.1 pc = .ok (.if_icmp .lt off, 3)) (ht : (pc : Int) + off = (tgt : Int)) (k : (x < y → V σ M d bc bs tgt lv st h P) ∧ (¬ x < y → V σ M d bc bs (pc + 3) lv st h P)) : V σ M d bc bs pc lv (aI y :: aI x :: st) h P := by
  intro p l e R s m args below meth c D cA B ad ad0 L0 H locs cells slots ls b
  exact lv_icmp_lt b.x b.b hd ht (fun z => k.1 z p l e R s m args below meth c D cA B ad ad0 L0 H locs cells slots ls (b.stk (okt (okt b.so)))) (fun z => k.2 z p l e R s m args below meth c D cA B ad ad0 L0 H locs cells slots ls (b.stk (okt (okt b.so))))
theorem V_if_ge {x : Int32} {off : Int} (tgt : Nat) (hd : decode M.2.1 pc = .ok (.ifCond .ge off, 3)) (ht : (pc : Int) + off = (tgt : Int)) (k : (0 ≤ x → V σ M d bc bs tgt lv st h P) ∧ (¬ 0 ≤ x → V σ M d bc bs (pc + 3) lv st h P)) : V σ M d bc bs pc lv (aI x :: st) h P := by
  intro p l e R s m args below meth c D cA B ad ad0 L0 H locs cells slots ls b
  exact lv_if_ge b.x b.b hd ht (fun z => k.1 z p l e R s m args below meth c D cA B ad ad0 L0 H locs cells slots ls (b.stk (okt b.so))) (fun z => k.2 z p l e R s m args below meth c D cA B ad ad0 L0 H locs cells slots ls (b.stk (okt b.so)))
theorem V_icmp_ge {x y : Int32} {off : Int} (tgt : Nat) (hd : decode M.2.1 pc = .ok (.if_icmp .ge off, 3)) (ht : (pc : Int) + off = (tgt : Int)) (k : (y ≤ x → V σ M d bc bs tgt lv st h P) ∧ (¬ y ≤ x → V σ M d bc bs (pc + 3) lv st h P)) : V σ M d bc bs pc lv (aI y :: aI x :: st) h P := by
  intro p l e R s m args below meth c D cA B ad ad0 L0 H locs cells slots ls b
  exact lv_icmp_ge b.x b.b hd ht (fun z => k.1 z p l e R s m args below meth c D cA B ad ad0 L0 H locs cells slots ls (b.stk (okt (okt b.so)))) (fun z => k.2 z p l e R s m args below meth c D cA B ad ad0 L0 H locs cells slots ls (b.stk (okt (okt b.so))))
theorem V_if_gt {x : Int32} {off : Int} (tgt : Nat) (hd : decode M.2.1 pc = .ok (.ifCond .gt off, 3)) (ht : (pc : Int) + off = (tgt : Int)) (k : (0 < x → V σ M d bc bs tgt lv st h P) ∧ (¬ 0 < x → V σ M d bc bs (pc + 3) lv st h P)) : V σ M d bc bs pc lv (aI x :: st) h P := by
  intro p l e R s m args below meth c D cA B ad ad0 L0 H locs cells slots ls b
  exact lv_if_gt b.x b.b hd ht (fun z => k.1 z p l e R s m args below meth c D cA B ad ad0 L0 H locs cells slots ls (b.stk (okt b.so))) (fun z => k.2 z p l e R s m args below meth c D cA B ad ad0 L0 H locs cells slots ls (b.stk (okt b.so)))
theorem V_icmp_gt {x y : Int32} {off : Int} (tgt : Nat) (hd : decode M.2.1 pc = .ok (.if_icmp .gt off, 3)) (ht : (pc : Int) + off = (tgt : Int)) (k : (y < x → V σ M d bc bs tgt lv st h P) ∧ (¬ y < x → V σ M d bc bs (pc + 3) lv st h P)) : V σ M d bc bs pc lv (aI y :: aI x :: st) h P := by
  intro p l e R s m args below meth c D cA B ad ad0 L0 H locs cells slots ls b
  exact lv_icmp_gt b.x b.b hd ht (fun z => k.1 z p l e R s m args below meth c D cA B ad ad0 L0 H locs cells slots ls (b.stk (okt (okt b.so)))) (fun z => k.2 z p l e R s m args below meth c D cA B ad ad0 L0 H locs cells slots ls (b.stk (okt (okt b.so))))
theorem V_if_le {x : Int32} {off : Int} (tgt : Nat) (hd : decode M.2.1 pc = .ok (.ifCond .le off, 3)) (ht : (pc : Int) + off = (tgt : Int)) (k : (x ≤ 0 → V σ M d bc bs tgt lv st h P) ∧ (¬ x ≤ 0 → V σ M d bc bs (pc + 3) lv st h P)) : V σ M d bc bs pc lv (aI x :: st) h P := by
  intro p l e R s m args below meth c D cA B ad ad0 L0 H locs cells slots ls b
  exact lv_if_le b.x b.b hd ht (fun z => k.1 z p l e R s m args below meth c D cA B ad ad0 L0 H locs cells slots ls (b.stk (okt b.so))) (fun z => k.2 z p l e R s m args below meth c D cA B ad ad0 L0 H locs cells slots ls (b.stk (okt b.so)))
theorem V_icmp_le {x y : Int32} {off : Int} (tgt : Nat) (hd : decode M.2.1 pc = .ok (.if_icmp .le off, 3)) (ht : (pc : Int) + off = (tgt : Int)) (k : (x ≤ y → V σ M d bc bs tgt lv st h P) ∧ (¬ x ≤ y → V σ M d bc bs (pc + 3) lv st h P)) : V σ M d bc bs pc lv (aI y :: aI x :: st) h P := by
  intro p l e R s m args below meth c D cA B ad ad0 L0 H locs cells slots ls b
  exact lv_icmp_le b.x b.b hd ht (fun z => k.1 z p l e R s m args below meth c D cA B ad ad0 L0 H locs cells slots ls (b.stk (okt (okt b.so)))) (fun z => k.2 z p l e R s m args below meth c D cA B ad ad0 L0 H locs cells slots ls (b.stk (okt (okt b.so))))
theorem V_goto {off : Int} (tgt : Nat) (hd : decode M.2.1 pc = .ok (.goto off, 3)) (ht : (pc : Int) + off = (tgt : Int)) (k : V σ M d bc bs tgt lv st h P) : V σ M d bc bs pc lv st h P := by
  intro p l e R s m args below meth c D cA B ad ad0 L0 H locs cells slots ls b
  exact lv_goto b.x b.b hd ht (k p l e R s m args below meth c D cA B ad ad0 L0 H locs cells slots ls b)
theorem ct1 {ad : PT → Nat} {v : AV} (hv : ct v = 1) : (vl ad v).category = 1 := by
  match v, hv with
  | .inl x, _ => rfl
  | .inr (.inr none), _ => rfl
  | .inr (.inr (some q)), _ => rfl
theorem ctv {ad : PT → Nat} (v : AV) : (vl ad v).category = ct v := by
  match v with
  | .inl x => rfl
  | .inr (.inl x) => rfl
  | .inr (.inr none) => rfl
  | .inr (.inr (some q)) => rfl
theorem V_dup {v : AV} (hd : decode M.2.1 pc = .ok (.dup, 1)) (hv : ct v = 1) (k : V σ M d bc bs (pc + 1) lv (v :: v :: st) h P) : V σ M d bc bs pc lv (v :: st) h P := by
  intro p l e R s m args below meth c D cA B ad ad0 L0 H locs cells slots ls b
  exact lv_dup b.x b.b hd (ct1 hv) (k p l e R s m args below meth c D cA B ad ad0 L0 H locs cells slots ls (b.stk (okc (okh b.so) b.so)))
theorem V_pop {v : AV} (hd : decode M.2.1 pc = .ok (.pop, 1)) (hv : ct v = 1) (k : V σ M d bc bs (pc + 1) lv (st) h P) : V σ M d bc bs pc lv (v :: st) h P := by
  intro p l e R s m args below meth c D cA B ad ad0 L0 H locs cells slots ls b
  exact lv_pop b.x b.b hd (ct1 hv) (k p l e R s m args below meth c D cA B ad ad0 L0 H locs cells slots ls (b.stk (okt b.so)))
theorem V_dup2 {v w : AV} (hd : decode M.2.1 pc = .ok (.dup2, 1)) (hv : ct v = 1) (hw : ct w = 1) (k : V σ M d bc bs (pc + 1) lv (v :: w :: v :: w :: st) h P) : V σ M d bc bs pc lv (v :: w :: st) h P := by
  intro p l e R s m args below meth c D cA B ad ad0 L0 H locs cells slots ls b
  exact lv_dup2_11 b.x b.b hd (ct1 hv) (ct1 hw) (k p l e R s m args below meth c D cA B ad ad0 L0 H locs cells slots ls (b.stk (okc (okh b.so) (okc (okh (okt b.so)) b.so))))
theorem V_dup_x1 {v w : AV} (hd : decode M.2.1 pc = .ok (.dup_x1, 1)) (hv : ct v = 1) (hw : ct w = 1) (k : V σ M d bc bs (pc + 1) lv (v :: w :: v :: st) h P) : V σ M d bc bs pc lv (v :: w :: st) h P := by
  intro p l e R s m args below meth c D cA B ad ad0 L0 H locs cells slots ls b
  exact lv_dup_x1 b.x b.b hd (ct1 hv) (ct1 hw) (k p l e R s m args below meth c D cA B ad ad0 L0 H locs cells slots ls (b.stk (okc (okh b.so) (okc (okh (okt b.so)) (okc (okh b.so) (okt (okt b.so)))))))
theorem V_dup_x2 {v w u : AV} (hd : decode M.2.1 pc = .ok (.dup_x2, 1)) (hv : ct v = 1) (hw : ct w = 1) (hu : ct u = 1) (k : V σ M d bc bs (pc + 1) lv (v :: w :: u :: v :: st) h P) : V σ M d bc bs pc lv (v :: w :: u :: st) h P := by
  intro p l e R s m args below meth c D cA B ad ad0 L0 H locs cells slots ls b
  exact lv_dup_x2 b.x b.b hd (ct1 hv) (ct1 hw) (ct1 hu) (k p l e R s m args below meth c D cA B ad ad0 L0 H locs cells slots ls (b.stk (okc (okh b.so) (okc (okh (okt b.so)) (okc (okh (okt (okt b.so))) (okc (okh b.so) (okt (okt (okt b.so)))))))))
def lg (lv : List (Nat × AV)) (i : Nat) : Option AV := lv.lookup i
theorem lg_mem {i : Nat} {v : AV} : ∀ {lv : List (Nat × AV)}, lv.lookup i = some v → (i, v) ∈ lv
  | [], h => by cases h
  | (j, w) :: t, h => by
    rw [List.lookup_cons] at h
    by_cases e : i = j
    · subst e
      simp at h
      subst h
      exact List.mem_cons_self
    · have e2 : (i == j) = false := by simp [e]
      rw [e2] at h
      exact List.mem_cons_of_mem _ (lg_mem h)
theorem lg_at {ad : PT → Nat} {ls : Array Slot} {nL i : Nat} {v : AV} (hl : lv_has ls nL (lvm ad lv)) (hg : lg lv i = some v) : ls[i]? = some (.val (vl ad v)) :=
  hl.2.2 (i, vl ad v) (List.mem_map.mpr ⟨(i, v), lg_mem hg, rfl⟩)
theorem lg_ok {i : Nat} {v : AV} (ho : ∀ q ∈ lv, okV h q.2) (hg : lg lv i = some v) : okV h v := ho (i, v) (lg_mem hg)
theorem V_iload_n {n : Fin 4} (i : Nat) {x : Int32} (hd : decode M.2.1 pc = .ok (.iload_n n, 1)) (hi : (n : Nat) = i) (hg : lg lv i = some (aI x)) (k : V σ M d bc bs (pc + 1) lv (aI x :: st) h P) : V σ M d bc bs pc lv st h P := by
  intro p l e R s m args below meth c D cA B ad ad0 L0 H locs cells slots ls b
  exact lv_iload_n b.x b.b hd hi (lg_at b.lh hg) (k p l e R s m args below meth c D cA B ad ad0 L0 H locs cells slots ls (b.stk (okc okI b.so)))
theorem V_lload_n {n : Fin 4} (i : Nat) {x : Int64} (hd : decode M.2.1 pc = .ok (.lload_n n, 1)) (hi : (n : Nat) = i) (hg : lg lv i = some (aL x)) (k : V σ M d bc bs (pc + 1) lv (aL x :: st) h P) : V σ M d bc bs pc lv st h P := by
  intro p l e R s m args below meth c D cA B ad ad0 L0 H locs cells slots ls b
  exact lv_lload_n b.x b.b hd hi (lg_at b.lh hg) (k p l e R s m args below meth c D cA B ad ad0 L0 H locs cells slots ls (b.stk (okc okLg b.so)))
theorem V_aload_n {n : Fin 4} (i : Nat) {r : Option PT} (hd : decode M.2.1 pc = .ok (.aload_n n, 1)) (hi : (n : Nat) = i) (hg : lg lv i = some (aP r)) (k : V σ M d bc bs (pc + 1) lv (aP r :: st) h P) : V σ M d bc bs pc lv st h P := by
  intro p l e R s m args below meth c D cA B ad ad0 L0 H locs cells slots ls b
  have b2 := b.stk (okc (lg_ok b.lo hg) b.so)
  cases r with
  | none => exact lv_aload_nN b.x b.b hd hi (lg_at b.lh hg) (k p l e R s m args below meth c D cA B ad ad0 L0 H locs cells slots ls b2)
  | some q => exact lv_aload_n b.x b.b hd hi (lg_at b.lh hg) (k p l e R s m args below meth c D cA B ad ad0 L0 H locs cells slots ls b2)
theorem V_iload (i : Nat) {x : Int32} (hd : decode M.2.1 pc = .ok (.iload i, 2)) (hg : lg lv i = some (aI x)) (k : V σ M d bc bs (pc + 2) lv (aI x :: st) h P) : V σ M d bc bs pc lv st h P := by
  intro p l e R s m args below meth c D cA B ad ad0 L0 H locs cells slots ls b
  exact lv_iload b.x b.b hd (lg_at b.lh hg) (k p l e R s m args below meth c D cA B ad ad0 L0 H locs cells slots ls (b.stk (okc okI b.so)))
theorem V_lload (i : Nat) {x : Int64} (hd : decode M.2.1 pc = .ok (.lload i, 2)) (hg : lg lv i = some (aL x)) (k : V σ M d bc bs (pc + 2) lv (aL x :: st) h P) : V σ M d bc bs pc lv st h P := by
  intro p l e R s m args below meth c D cA B ad ad0 L0 H locs cells slots ls b
  exact lv_lload b.x b.b hd (lg_at b.lh hg) (k p l e R s m args below meth c D cA B ad ad0 L0 H locs cells slots ls (b.stk (okc okLg b.so)))
theorem V_aload (i : Nat) {r : Option PT} (hd : decode M.2.1 pc = .ok (.aload i, 2)) (hg : lg lv i = some (aP r)) (k : V σ M d bc bs (pc + 2) lv (aP r :: st) h P) : V σ M d bc bs pc lv st h P := by
  intro p l e R s m args below meth c D cA B ad ad0 L0 H locs cells slots ls b
  have b2 := b.stk (okc (lg_ok b.lo hg) b.so)
  cases r with
  | none => exact lv_aloadN b.x b.b hd (lg_at b.lh hg) (k p l e R s m args below meth c D cA B ad ad0 L0 H locs cells slots ls b2)
  | some q => exact lv_aload b.x b.b hd (lg_at b.lh hg) (k p l e R s m args below meth c D cA B ad ad0 L0 H locs cells slots ls b2)
def lpS (lv : List (Nat × AV)) (i : Nat) (v : AV) : List (Nat × AV) := (i, v) :: lv.filter (fun q => !(q.1 == i) && !(q.1 + 1 == i && ct q.2 == 2))
def lpD (lv : List (Nat × AV)) (i : Nat) (v : AV) : List (Nat × AV) := (i, v) :: lv.filter (fun q => !(q.1 == i) && (!(q.1 == i + 1) && !(q.1 + 1 == i && ct q.2 == 2)))
theorem lpS_eq {ad : PT → Nat} {i : Nat} {v : AV} : (i, vl ad v) :: (lvm ad lv).filter (fun q => !(q.1 == i) && !(q.1 + 1 == i && q.2.category == 2)) = lvm ad (lpS lv i v) := by
  simp only [lvm, lpS, List.map_cons, List.filter_map]
  congr 2
  apply List.filter_congr
  intro q _
  simp [ctv]
theorem lpD_eq {ad : PT → Nat} {i : Nat} {v : AV} : (i, vl ad v) :: (lvm ad lv).filter (fun q => !(q.1 == i) && (!(q.1 == i + 1) && !(q.1 + 1 == i && q.2.category == 2))) = lvm ad (lpD lv i v) := by
  simp only [lvm, lp2, List.map_cons, List.filter_map]
  congr 2
  apply List.filter_congr
  intro q _
  simp [ctv]
theorem lpS_ok {i : Nat} {v : AV} (hv : okV h v) (ho : ∀ q ∈ lv, okV h q.2) : ∀ q ∈ lpS lv i v, okV h q.2 := fun q hq => (List.mem_cons.mp hq).elim (fun e => by rw [e]; exact hv) (fun hq => ho q (List.mem_filter.mp hq).1)
theorem lpD_ok {i : Nat} {v : AV} (hv : okV h v) (ho : ∀ q ∈ lv, okV h q.2) : ∀ q ∈ lpD lv i v, okV h q.2 := fun q hq => (List.mem_cons.mp hq).elim (fun e => by rw [e]; exact hv) (fun hq => ho q (List.mem_filter.mp hq).1)
theorem V_istore_n {n : Fin 4} (i : Nat) {x : Int32} (hd : decode M.2.1 pc = .ok (.istore_n n, 1)) (hi : (n : Nat) = i) (hn : i < M.2.2.1) {lv2 : List (Nat × AV)} (he : lpS lv i (aI x) = lv2) (k : V σ M d bc bs (pc + 1) lv2 st h P) : V σ M d bc bs pc lv (aI x :: st) h P := by
  subst he
  intro p l e R s m args below meth c D cA B ad ad0 L0 H locs cells slots ls b
  exact lv_istore_n b.x b.b hd hi b.lh hn (lpS_eq (v := aI x)) (fun ls2 hl2 => k p l e R s m args below meth c D cA B ad ad0 L0 H locs cells slots ls2 (b.lst (okt b.so) hl2 (lpS_ok okI b.lo)))
theorem V_lstore_n {n : Fin 4} (i : Nat) {x : Int64} (hd : decode M.2.1 pc = .ok (.lstore_n n, 1)) (hi : (n : Nat) = i) (hn : i + 1 < M.2.2.1) {lv2 : List (Nat × AV)} (he : lpD lv i (aL x) = lv2) (k : V σ M d bc bs (pc + 1) lv2 st h P) : V σ M d bc bs pc lv (aL x :: st) h P := by
  subst he
  intro p l e R s m args below meth c D cA B ad ad0 L0 H locs cells slots ls b
  exact lv_lstore_n b.x b.b hd hi b.lh hn (lpD_eq (v := aL x)) (fun ls2 hl2 => k p l e R s m args below meth c D cA B ad ad0 L0 H locs cells slots ls2 (b.lst (okt b.so) hl2 (lpD_ok okLg b.lo)))
theorem V_astore_n {n : Fin 4} (i : Nat) {r : Option PT} (hd : decode M.2.1 pc = .ok (.astore_n n, 1)) (hi : (n : Nat) = i) (hn : i < M.2.2.1) {lv2 : List (Nat × AV)} (he : lpS lv i (aP r) = lv2) (k : V σ M d bc bs (pc + 1) lv2 st h P) : V σ M d bc bs pc lv (aP r :: st) h P := by
  subst he
  intro p l e R s m args below meth c D cA B ad ad0 L0 H locs cells slots ls b
  have hk := fun ls2 hl2 => k p l e R s m args below meth c D cA B ad ad0 L0 H locs cells slots ls2 (b.lst (okt b.so) hl2 (lpS_ok (okh b.so) b.lo))
  cases r with
  | none => exact lv_astore_nN b.x b.b hd hi b.lh hn (lpS_eq (v := aP none)) hk
  | some q => exact lv_astore_n b.x b.b hd hi b.lh hn (lpS_eq (v := aP (some q))) hk
theorem V_istore (i : Nat) {x : Int32} (hd : decode M.2.1 pc = .ok (.istore i, 2)) (hn : i < M.2.2.1) {lv2 : List (Nat × AV)} (he : lpS lv i (aI x) = lv2) (k : V σ M d bc bs (pc + 2) lv2 st h P) : V σ M d bc bs pc lv (aI x :: st) h P := by
  subst he
  intro p l e R s m args below meth c D cA B ad ad0 L0 H locs cells slots ls b
  exact lv_istore b.x b.b hd b.lh hn (lpS_eq (v := aI x)) (fun ls2 hl2 => k p l e R s m args below meth c D cA B ad ad0 L0 H locs cells slots ls2 (b.lst (okt b.so) hl2 (lpS_ok okI b.lo)))
theorem V_lstore (i : Nat) {x : Int64} (hd : decode M.2.1 pc = .ok (.lstore i, 2)) (hn : i + 1 < M.2.2.1) {lv2 : List (Nat × AV)} (he : lpD lv i (aL x) = lv2) (k : V σ M d bc bs (pc + 2) lv2 st h P) : V σ M d bc bs pc lv (aL x :: st) h P := by
  subst he
  intro p l e R s m args below meth c D cA B ad ad0 L0 H locs cells slots ls b
  exact lv_lstore b.x b.b hd b.lh hn (lpD_eq (v := aL x)) (fun ls2 hl2 => k p l e R s m args below meth c D cA B ad ad0 L0 H locs cells slots ls2 (b.lst (okt b.so) hl2 (lpD_ok okLg b.lo)))
theorem V_astore (i : Nat) {r : Option PT} (hd : decode M.2.1 pc = .ok (.astore i, 2)) (hn : i < M.2.2.1) {lv2 : List (Nat × AV)} (he : lpS lv i (aP r) = lv2) (k : V σ M d bc bs (pc + 2) lv2 st h P) : V σ M d bc bs pc lv (aP r :: st) h P := by
  subst he
  intro p l e R s m args below meth c D cA B ad ad0 L0 H locs cells slots ls b
  have hk := fun ls2 hl2 => k p l e R s m args below meth c D cA B ad ad0 L0 H locs cells slots ls2 (b.lst (okt b.so) hl2 (lpS_ok (okh b.so) b.lo))
  cases r with
  | none => exact lv_astoreN b.x b.b hd b.lh hn (lpS_eq (v := aP none)) hk
  | some q => exact lv_astore b.x b.b hd b.lh hn (lpS_eq (v := aP (some q))) hk
theorem V_iinc (i : Nat) {n : Int} {x v : Int32} (hd : decode M.2.1 pc = .ok (.iinc i n, 3)) (hg : lg lv i = some (aI x)) (hv : x + Int32.ofInt n = v) (hn : i < M.2.2.1) {lv2 : List (Nat × AV)} (he : lpS lv i (aI v) = lv2) (k : V σ M d bc bs (pc + 3) lv2 st h P) : V σ M d bc bs pc lv st h P := by
  subst he
  intro p l e R s m args below meth c D cA B ad ad0 L0 H locs cells slots ls b
  have hm : (i, Value.int x) ∈ lvm ad lv := List.mem_map.mpr ⟨(i, aI x), lg_mem hg, rfl⟩
  obtain ⟨j, hj⟩ := List.getElem?_of_mem hm
  exact lv_iinc b.x b.b hd b.lh hj hv hn (lpS_eq (v := aI v)) (fun ls2 hl2 => k p l e R s m args below meth c D cA B ad ad0 L0 H locs cells slots ls2 (b.lst b.so hl2 (lpS_ok okI b.lo)))
theorem V_ldc {idx : Nat} (v : Int32) (hd : decode M.2.1 pc = .ok (.ldc idx, 2)) (hw : Cond.constant M.1.cls idx v ∈ gw) (k : V σ M d bc bs (pc + 2) lv (aI v :: st) h P) : V σ M d bc bs pc lv st h P := by
  intro p l e R s m args below meth c D cA B ad ad0 L0 H locs cells slots ls b
  exact W.ldc b.x b.b b.own (b.ts _ hw) rfl hd (k p l e R s m args below meth c D cA B ad ad0 L0 H locs cells slots ls (b.stk (okc okI b.so)))
theorem V_ldc_w {idx : Nat} (v : Int32) (hd : decode M.2.1 pc = .ok (.ldc_w idx, 3)) (hw : Cond.constant M.1.cls idx v ∈ gw) (k : V σ M d bc bs (pc + 3) lv (aI v :: st) h P) : V σ M d bc bs pc lv st h P := by
  intro p l e R s m args below meth c D cA B ad ad0 L0 H locs cells slots ls b
  exact lv_ldcw b.x b.b b.own (b.ts _ hw) hd (k p l e R s m args below meth c D cA B ad ad0 L0 H locs cells slots ls (b.stk (okc okI b.so)))
theorem V_ldc2 {idx : Nat} (v : Int64) (hd : decode M.2.1 pc = .ok (.ldc2_w idx, 3)) (hw : Cond.constantLong M.1.cls idx v ∈ gw) (k : V σ M d bc bs (pc + 3) lv (aL v :: st) h P) : V σ M d bc bs pc lv st h P := by
  intro p l e R s m args below meth c D cA B ad ad0 L0 H locs cells slots ls b
  exact W.ldc2 b.x b.b b.own (b.ts _ hw) rfl hd (k p l e R s m args below meth c D cA B ad ad0 L0 H locs cells slots ls (b.stk (okc okLg b.so)))
end VR
end
section
-- ===== entry, return, calls =====
theorem vl_cg {h : HS} {ad ad2 : PT → Nat} {v : AV} (ho : okV h v) (ha : ∀ q, okL h.2.2 q → ad2 q = ad q) : vl ad2 v = vl ad v := by
  match v, ho with
  | .inl x, _ => rfl
  | .inr (.inl x), _ => rfl
  | .inr (.inr none), _ => rfl
  | .inr (.inr (some q)), ho => simp [vl, ha q (ho q rfl)]
theorem vls_cg {h : HS} {ad ad2 : PT → Nat} (ha : ∀ q, okL h.2.2 q → ad2 q = ad q) : ∀ {st : List AV}, (∀ v ∈ st, okV h v) → st.map (vl ad2) = st.map (vl ad)
  | [], _ => rfl
  | v :: t, ho => by rw [List.map_cons, List.map_cons, vl_cg (okh ho) ha, vls_cg ha (okt ho)]
theorem lvm_cg {h : HS} {ad ad2 : PT → Nat} (ha : ∀ q, okL h.2.2 q → ad2 q = ad q) {lv : List (Nat × AV)} (ho : ∀ q ∈ lv, okV h q.2) : lvm ad2 lv = lvm ad lv := by
  unfold lvm
  refine List.map_congr_left (fun q hq => ?_)
  rw [vl_cg (ho q hq) ha]
theorem Cl.mono {σ : Bool} {M : MT} {d bc bs : Nat} {as : List AV} {h : HS} {P P2 : Option AV → HS → Prop} (hp : ∀ r h2, P r h2 → P2 r h2) (k : Cl σ M d bc bs as h P) : Cl σ M d bc bs as h P2 := by
  intro l D cA B ad
  refine MetFree.mono (k l D cA B ad) (fun _ _ z => z) (fun _ _ _ _ _ z => z) (fun a s o t _ z => ?_)
  obtain ⟨⟨r, h2, ad2, z1, z2, z3⟩, z4⟩ := z
  exact ⟨⟨r, h2, ad2, z1, hp r h2 z2, z3⟩, z4⟩
theorem V.mono {σ : Bool} {M : MT} {d bc bs pc : Nat} {lv : List (Nat × AV)} {st : List AV} {h : HS} {P P2 : Option AV → HS → Prop} (hp : ∀ r h2, P r h2 → P2 r h2) (k : V σ M d bc bs pc lv st h P) : V σ M d bc bs pc lv st h P2 := by
  intro p l e R s m args below meth c D cA B ad ad0 L0 H locs cells slots ls b T hT X
  obtain ⟨t, a1, o, z1, z2, ⟨r, h2, ad2, y1, y2, y3⟩, z4⟩ := k p l e R s m args below meth c D cA B ad ad0 L0 H locs cells slots ls b T hT X
  exact ⟨t, a1, o, z1, z2, ⟨r, h2, ad2, y1, hp r h2 y2, y3⟩, z4⟩
def la : Nat → List AV → List (Nat × AV)
  | _, [] => []
  | n, v :: t => (n, v) :: la (if ct v = 2 then n + 2 else n + 1) t
theorem la_eq (ad : PT → Nat) : ∀ (as : List AV) (n : Nat), lv_args n (as.map (vl ad)) = lvm ad (la n as)
  | [], n => rfl
  | v :: t, n => by
    show (n, vl ad v) :: lv_args (if (vl ad v).category = 2 then n + 2 else n + 1) (t.map (vl ad)) = (n, vl ad v) :: lvm ad (la (if ct v = 2 then n + 2 else n + 1) t)
    rw [ctv, la_eq ad t]
theorem la_ok {h : HS} : ∀ (as : List AV) (n : Nat), (∀ v ∈ as, okV h v) → ∀ q ∈ la n as, okV h q.2
  | [], n, _, q, hq => by cases hq
  | v :: t, n, ho, q, hq => by
    rcases List.mem_cons.mp hq with e | hq
    · rw [e]; exact okh ho
    · exact la_ok t _ (okt ho) q hq
theorem la_len (ad : PT → Nat) : ∀ (as : List AV), (lg_sl (as.map (vl ad))).length = (as.map ct).sum
  | [] => rfl
  | v :: t => by
    have ih := la_len ad t
    simp only [lg_sl, List.map_cons, List.flatMap_cons, List.length_append, List.sum_cons, ctv] at ih ⊢
    rw [ih]
    match v with
    | .inl x => rfl
    | .inr (.inl x) => rfl
    | .inr (.inr none) => rfl
    | .inr (.inr (some q)) => rfl
/-- a method's contract, out of its walk from the entry -/
theorem Cl_of {σ : Bool} {M : MT} {d bc bs : Nat} {as : List AV} {h : HS} {P : Option AV → HS → Prop} (hy : plainName M.1.cls = true) (hn : (as.map ct).sum ≤ M.2.2.1) (k : V σ M d bc bs 0 (la 0 as) [] h P) : Cl σ M d bc bs as h P := by
  intro l D cA B ad
  refine Met.ofW (cc := M.2.1) (maxL := M.2.2.1) (ret := M.2.2.2) hy rfl ?_
  intro p e s m args below meth c s₁ Bo hml hv
  obtain ⟨rfl, hB, hE, hR, hK, ho⟩ := hv
  have hts := atoms_spec (ws := Cond.code M.1 M.2.1 M.2.2.1 M.2.2.2 :: gw) Bo.pre
  have hl := lv_entry (as.map (vl ad)) (n := M.2.2.1) (by rw [la_len]; exact hn)
  rw [lg_entry_eq]
  generalize (lg_sl (as.map (vl ad)) ++ List.replicate (M.2.2.1 - (lg_sl (as.map (vl ad))).length) Slot.unset).toArray = ls at hl ⊢
  rw [la_eq] at hl
  exact k p l e _ s m _ below meth c D cA B ad ad h.2.2 s.heap [] 0 0 ls ⟨⟨Bo.exec, Bo.bytes, hml, findClass_of_methodNamed Bo.named, fun w hw => hts w (List.mem_cons_of_mem _ hw), Bo.returns, Bo.notSynchronized, (name_of_methodNamed Bo.named Bo.method).1, hK⟩, hB, hE, ⟨Nat.le_refl _, Nat.le_refl _⟩, ⟨by show 0 + bc ≤ bc; omega, by show 0 + bs ≤ bs; omega⟩, hR, va_S.rf, hl, la_ok as 0 ho, (fun v hv => by cases hv), fun q hq => ⟨rfl, hq⟩⟩
section VC
variable {σ : Bool} {M : MT} {d bc bs pc : Nat} {lv : List (Nat × AV)} {st : List AV} {h : HS} {P : Option AV → HS → Prop}
theorem V_ireturn {x : Int32} (hd : decode M.2.1 pc = .ok (.ireturn, 1)) (hr : M.2.2.2 = some .int) (k : P (some (aI x)) h) : V σ M d bc bs pc lv [aI x] h P := by
  intro p l e R s m args below meth c D cA B ad ad0 L0 H locs cells slots ls b
  refine W.widen (k := R.cells) (n := R.slots) (Nat.le_trans (Nat.le_add_right _ _) b.2.2.2.2.1.1) (Nat.le_trans (Nat.le_add_right _ _) b.2.2.2.2.1.2) ?_
  exact W.iret (v := x) b.x b.b (b.1.2.2.2.2.2.1.trans hr) (fun t ht hW => ⟨some (aI x), h, ad, rfl, k, by rw [ht]; exact b.rep, fun v e => by cases e; exact okI, b.2.2.2.2.2.2.2.2.2.2, b.S.F ht⟩) b.S.2.2 hd b.1.2.2.2.2.2.2.1
theorem V_zreturn {x : Int32} (hd : decode M.2.1 pc = .ok (.ireturn, 1)) (hr : M.2.2.2 = some .boolean) (hz : x = 0 ∨ x = 1) (k : P (some (aI x)) h) : V σ M d bc bs pc lv [aI x] h P := by
  intro p l e R s m args below meth c D cA B ad ad0 L0 H locs cells slots ls b
  refine W.widen (k := R.cells) (n := R.slots) (Nat.le_trans (Nat.le_add_right _ _) b.2.2.2.2.1.1) (Nat.le_trans (Nat.le_add_right _ _) b.2.2.2.2.1.2) ?_
  exact W.zret (v := x) b.x b.b (b.1.2.2.2.2.2.1.trans hr) (by rcases hz with rfl | rfl <;> decide +kernel) (fun t ht hW => ⟨some (aI x), h, ad, rfl, k, by rw [ht]; exact b.rep, fun v e => by cases e; exact okI, b.2.2.2.2.2.2.2.2.2.2, b.S.F ht⟩) b.S.2.2 hd b.1.2.2.2.2.2.2.1
theorem V_areturn {r : Option PT} (hd : decode M.2.1 pc = .ok (.areturn, 1)) {rt : FieldType} (hr : M.2.2.2 = some rt) (hrt : (∃ n, rt = .object n) ∨ ∃ t, rt = .array t) (k : P (some (aP r)) h) : V σ M d bc bs pc lv [aP r] h P := by
  intro p l e R s m args below meth c D cA B ad ad0 L0 H locs cells slots ls b
  refine W.widen (k := R.cells) (n := R.slots) (Nat.le_trans (Nat.le_add_right _ _) b.2.2.2.2.1.1) (Nat.le_trans (Nat.le_add_right _ _) b.2.2.2.2.1.2) ?_
  exact W.aret (v := vl ad (aP r)) b.x b.b (b.1.2.2.2.2.2.1.trans hr) hrt (va_rf_or _) (fun t ht hW => ⟨some (aP r), h, ad, rfl, k, by rw [ht]; exact b.rep, fun v e => by cases e; exact okh b.so, b.2.2.2.2.2.2.2.2.2.2, b.S.F ht⟩) b.S.2.2 hd b.1.2.2.2.2.2.2.1
theorem V_return (hd : decode M.2.1 pc = .ok (.return_, 1)) (hr : M.2.2.2 = none) (k : P none h) : V σ M d bc bs pc lv [] h P := by
  intro p l e R s m args below meth c D cA B ad ad0 L0 H locs cells slots ls b
  refine W.widen (k := R.cells) (n := R.slots) (Nat.le_trans (Nat.le_add_right _ _) b.2.2.2.2.1.1) (Nat.le_trans (Nat.le_add_right _ _) b.2.2.2.2.1.2) ?_
  exact W.vret b.x b.b (b.1.2.2.2.2.2.1.trans hr) (fun t ht hW => ⟨none, h, ad, rfl, k, by rw [ht]; exact b.rep, fun v e => (by cases e), b.2.2.2.2.2.2.2.2.2.2, b.S.F ht⟩) b.S.2.2 hd b.1.2.2.2.2.2.2.1
/-- behind a call -/
theorem V_back {M2 : MT} {mc ms : Nat} {as : List AV} {p : Program} {l : Launch} {e : Env} {R : Room} {s : State} {m : MethodId} {args : Array Value} {below : List Frame} {meth : Method} {c : Code} {D : va_G} {cA : FieldType → ClassId} {B : Nat} {ad ad0 : PT → Nat} {L0 : List PT} {H : Heap} {locs : List Loc} {cells slots : Nat} {ls : Array Slot} {st0 : List AV} {sv : List Value} {av : Array Value}
    (hm : mc ≤ bc) (hs : ms ≤ bs) (b : Bd σ M d bc bs lv st0 h p R s m args meth c D cA B ad ad0 L0 H locs cells slots ls) (ho : ∀ v ∈ st, okV h v)
    (hr : va_Run p l e R s m args below meth c H locs cells slots mc ms (F0 m pc ls sv) (st.map (vl ad)) (QM σ D cA B ad h.2.2 (fun r h2 => V σ M d (bc - mc) (bs - ms) (pc + 3) lv (r.toList ++ st) h2 P) av) (fun q => B ≤ q)) :
    W p l e R s m args below meth c H locs cells slots (MQ below (QM σ D cA B ad0 L0 P) args s R.cells R.slots (fun q => B ≤ q)) (F0 m pc ls sv) := by
  intro T hT X
  obtain ⟨v, st₀, t, T', L, h0, X', hL, e1, e2, ⟨r, h2, ad2, z1, z2, z3, z4, z5, z6⟩, go⟩ := hr T hT X
  have hv : v = r.map (vl ad2) := by cases z1; rfl
  obtain ⟨hz, hk⟩ := z6
  rw [h0] at hz hk
  obtain ⟨b1, b2, b3, b4, b5, b6, b7, b8, b9, b10, b11⟩ := b
  have ha : ∀ q, okL h.2.2 q → ad2 q = ad q := fun q hq => (z5 q hq).1
  have up : ∀ {v : AV}, okV h v → okV h2 v := fun hv q e => (z5 q (hv q e)).2
  have est : (r.toList ++ st).map (vl ad2) = v.toList ++ st.map (vl ad) := by
    rw [List.map_append, vls_cg ha ho, hv]
    cases r <;> rfl
  have b' : Bd σ M d (bc - mc) (bs - ms) lv (r.toList ++ st) h2 p R s m args meth c D cA B ad2 ad0 L0 T'.heap (locs ++ L) (cells + mc) (slots + ms) ls := by
    refine ⟨b1, b2, ?_, b4, ⟨by omega, by omega⟩, by rw [e1]; exact z3, ?_, by rw [lvm_cg ha b9]; exact b8, fun q hq => up (b9 q hq), ?_, fun q hq => ?_⟩
    · exact Ex.kept b3 (fun _ _ _ => rfl) (fun q hq => ha q (Or.inr hq))
    · refine ⟨Nat.le_trans b7.1 (by rw [e1]; exact hz), fun q h1 h2 => by rw [e1, hk q (Nat.lt_of_lt_of_le h1 b7.1) h2]; exact b7.2.1 q h1 h2, fun q hq => ?_⟩
      rcases List.mem_append.mp hq with h | h
      · exact b7.2.2 q h
      · exact hL q h
    · intro w hw
      rcases List.mem_append.mp hw with h | h
      · cases r with
        | none => cases h
        | some x =>
          have : w = x := by simpa using h
          rw [this]
          exact z4 x rfl
      · exact up (ho w h)
    · obtain ⟨y1, y2⟩ := b11 q hq
      exact ⟨(z5 q y2).1.trans y1, (z5 q y2).2⟩
  have K := z2 p l e R s m args below meth c D cA B ad2 ad0 L0 T'.heap (locs ++ L) (cells + mc) (slots + ms) ls b'
  rw [est] at K
  obtain ⟨t2, a1, a2⟩ := K T' rfl X'
  exact ⟨t2, go t2 a1, a2⟩
theorem blind {D : va_G} {cA : FieldType → ClassId} {B : Nat} {ad : PT → Nat} {as : List AV} : FrameBlind (va_Pc (as.map (vl ad)) (fun U => B ≤ U.heap.size ∧ Ex cA B ad U U.heap ∧ Rep σ D cA ad B h U.heap ∧ va_K D vwCl (tysO cA) U ∧ ∀ v ∈ as, okV h v)) := by
  intro a U g mk ⟨q1, q2, q3, q4, q5, q6⟩
  exact ⟨q1, q2, Ex.moved (u := U) (U := U.calling g mk a) (Vm.Alike.refl U.vm) q3, q4, va_K.moved (u := U) (U := U.calling g mk a) (Vm.Alike.refl U.vm) q5, q6⟩
theorem pre_at {p : Program} {R : Room} {s : State} {m : MethodId} {args : Array Value} {meth : Method} {c : Code} {D : va_G} {cA : FieldType → ClassId} {B : Nat} {ad ad0 : PT → Nat} {L0 : List PT} {H : Heap} {locs : List Loc} {cells slots : Nat} {ls : Array Slot} {as : List AV}
    (b : Bd σ M d bc bs lv st h p R s m args meth c D cA B ad ad0 L0 H locs cells slots ls) (ho : ∀ v ∈ as, okV h v) : ∀ U : State, U.heap = H → s.WarmedH U.vm → va_Pc (as.map (vl ad)) (fun U => B ≤ U.heap.size ∧ Ex cA B ad U U.heap ∧ Rep σ D cA ad B h U.heap ∧ va_K D vwCl (tysO cA) U ∧ ∀ v ∈ as, okV h v) (as.map (vl ad)).toArray U := by
  intro U hU hW
  refine ⟨rfl, by rw [hU]; exact Nat.le_trans b.2.1 b.S.1, ?_, by rw [hU]; exact b.rep, va_K.moved hW.alike b.K, ho⟩
  rw [hU]
  exact Ex.kept (Ex.moved hW.alike b.2.2.1) (fun q h1 h2 => b.S.2.1 q h1 h2) (fun _ _ => rfl)
theorem gwIn {w : Cond} (h : w ∈ gw) : GoodIn gw (w :: gw) := fun x hx => by
  have hg : x ∈ gw := (List.mem_cons.mp hx).elim (fun e => e ▸ h) id
  exact ⟨hg, good_of_word (List.mem_filter.mp hg).2⟩
/-- what a method is to a caller: its words among the tables' -/
def Mok (M2 : MT) (n : Nat) : Prop := Cond.code M2.1 M2.2.1 M2.2.2.1 M2.2.2.2 ∈ gw ∧ Cond.initialized M2.1.cls ∈ gw ∧ (M2.1.cls ≠ "java/lang/invoke/MethodHandle" ∧ M2.1.cls ≠ "java/lang/invoke/VarHandle" ∧ (parseMethodDescriptor M2.1.desc).map (fun d => d.parameters.length) = some n) ∧ M2.2.2.1 ≤ 45
theorem stk_split {ad : PT → Nat} {as st : List AV} : (as.reverse ++ st).map (vl ad) = (as.map (vl ad)).reverse ++ st.map (vl ad) := by
  rw [List.map_append, List.map_reverse]
theorem ct_room {ad : PT → Nat} {st : List AV} (hw : (st.map ct).sum ≤ 8) : ((st.map (vl ad)).map fun v => v.category).sum ≤ 8 := by
  rw [List.map_map]
  have : ((fun v => v.category) ∘ vl ad) = ct := by funext v; exact ctv v
  rw [this]
  exact hw
theorem V_callS {M2 : MT} {n idx mc ms : Nat} {as : List AV} (hd : decode M.2.1 pc = .ok (.invokestatic idx, 3)) (ho : Mok M2 n) (hs : Cond.static M2.1 ∈ gw) (hl : Cond.methodLink M.1.cls idx M2.1 ∈ gw) (hn : as.length = n) (hw : (st.map ct).sum ≤ 8) (hm : mc ≤ bc) (hms : ms ≤ bs)
    (k : Cl σ M2 d mc ms as h (fun r h2 => V σ M (d + 1) (bc - mc) (bs - ms) (pc + 3) lv (r.toList ++ st) h2 P)) : V σ M (d + 1) bc bs pc lv (as.reverse ++ st) h P := by
  intro p l e R s m args below meth c D cA B ad ad0 L0 H locs cells slots ls b
  have hst : ∀ v ∈ st, okV h v := fun v hv => b.so v (List.mem_append_right _ hv)
  have has : ∀ v ∈ as, okV h v := fun v hv => b.so v (List.mem_append_left _ (List.mem_reverse.mpr hv))
  obtain ⟨o1, o2, o3, o4⟩ := ho
  obtain ⟨f1, f2⟩ := b.2.2.2.1
  obtain ⟨g1, g2⟩ := b.2.2.2.2.1
  refine V_back (M2 := M2) (as := as) hm hms b hst (va_runS (As := as.map (vl ad)) (rest := st.map (vl ad)) (Ts := gw) ⟨b.x, b.b, b.1.2.2.1, b.own, b.ts⟩ (k l D cA B ad) ⟨callB_of n b.ts (gwIn o1) rfl rfl rfl (b.ts _ o2) (b.ts _ hl) o3 ⟨f1, by show 8 + (M2.2.2.1 + 11) + 64 * d ≤ R.locals; omega⟩, b.ts _ hs⟩ ⟨blind, pre_at b has⟩ rfl (by rw [List.length_map]; exact hn) b.lh.1 stk_split (lv_room (ct_room hw)) hd ⟨by omega, by omega⟩)
theorem V_callI {M2 : MT} {n idx mc ms ca ia : Nat} {as : List AV} (hd : decode M.2.1 pc = .ok (.invokespecial idx, 3)) (ho : Mok M2 n) (hr : M2.2.2.2 = none) (hy : M2.1.name = "<init>") (hs : Cond.instanceMethod M2.1 ∈ gw) (hl : Cond.methodLink M.1.cls idx M2.1 ∈ gw) (hn : as.length = n) (hw : (st.map ct).sum ≤ 8) (hm : mc ≤ bc) (hms : ms ≤ bs)
    (k : Cl σ M2 d mc ms (aR ca ia :: as) h (fun r h2 => V σ M (d + 1) (bc - mc) (bs - ms) (pc + 3) lv (r.toList ++ st) h2 P)) : V σ M (d + 1) bc bs pc lv (as.reverse ++ aR ca ia :: st) h P := by
  intro p l e R s m args below meth c D cA B ad ad0 L0 H locs cells slots ls b
  have hst : ∀ v ∈ st, okV h v := fun v hv => b.so v (List.mem_append_right _ (List.mem_cons_of_mem _ hv))
  have has : ∀ v ∈ aR ca ia :: as, okV h v := okc (b.so _ (List.mem_append_right _ List.mem_cons_self)) (fun v hv => b.so v (List.mem_append_left _ (List.mem_reverse.mpr hv)))
  obtain ⟨o1, o2, o3, o4⟩ := ho
  obtain ⟨f1, f2⟩ := b.2.2.2.1
  obtain ⟨g1, g2⟩ := b.2.2.2.2.1
  obtain ⟨y2, c2, n2, r2⟩ := M2
  dsimp only at hr
  subst hr
  refine V_back (M2 := (y2, c2, n2, none)) (as := as) hm hms b hst (va_runI (b := ad (ca, ia)) (As := as.map (vl ad)) (rest := st.map (vl ad)) (Ts := gw) ⟨b.x, b.b, b.1.2.2.1, b.own, b.ts⟩ (k l D cA B ad) ⟨callB_of n b.ts (gwIn o1) rfl rfl rfl (b.ts _ o2) (b.ts _ hl) o3 ⟨f1, by show 8 + (n2 + 11) + 64 * d ≤ R.locals; dsimp only at o4; omega⟩, hy, b.ts _ hs⟩ ⟨blind, pre_at b has⟩ rfl (by rw [List.length_map]; exact hn) b.lh.1 (by rw [stk_split]; rfl) (lv_room (ct_room hw)) hd ⟨by omega, by omega⟩)
/-- where a pointer of the store lies among the cells -/
theorem ws_at {cA : FieldType → ClassId} {ad : PT → Nat} {q : PT} (hq : q ∈ h.2.2) : ∃ j : Nat, h.2.2[j]? = some q ∧ (wsO σ cA ad h)[j]? = some (ad q, toE σ cA ad h q) := by
  obtain ⟨j, hj⟩ := List.getElem?_of_mem hq
  exact ⟨j, hj, by unfold wsO; rw [List.getElem?_map, hj]; rfl⟩
theorem toE_o {cA : FieldType → ClassId} {ad : PT → Nat} {c i ci : Nat} (hr : rty c i = .inl ci) : toE σ cA ad h (c, i) = .inr (ci, (List.range (nF ci)).map (fv σ ad h c i ci)) := by
  unfold toE
  rw [hr]
theorem toE_a {cA : FieldType → ClassId} {ad : PT → Nat} {c i n : Nat} {t : FieldType} (hr : rty c i = .inr (t, n)) (ht : isRT t = false) : toE σ cA ad h (c, i) = .inl (cA t, n, .inl (gI h c i)) := by
  unfold toE
  rw [hr]
  simp [ht]
theorem inL {c i : Nat} (hc : c < 65) (ho : okV h (aR c i)) : (c, i) ∈ h.2.2 := by
  rcases ho (c, i) rfl with z | z
  · exact z
  · exact absurd z (by show ¬ 65 ≤ c; omega)
theorem V_callV {M2 : MT} {n idx mc ms ca ia ci N : Nat} {T : u_T} {as : List AV} (hc65 : ca < 65) (hty : rty ca ia = .inl ci) (hcl : vwCl[ci]? = some (M2.1.cls, T, N)) (hd : decode M.2.1 pc = .ok (.invokevirtual idx, 3)) (ho : Mok M2 n) (hs : Cond.instanceMethod M2.1 ∈ gw) (hse : Cond.selects M2.1.cls M2.1 M2.1 ∈ gw) (hl : Cond.methodLink M.1.cls idx M2.1 ∈ gw) (hn : as.length = n) (hw : (st.map ct).sum ≤ 8) (hm : mc ≤ bc) (hms : ms ≤ bs)
    (k : Cl σ M2 d mc ms (aR ca ia :: as) h (fun r h2 => V σ M (d + 1) (bc - mc) (bs - ms) (pc + 3) lv (r.toList ++ st) h2 P)) : V σ M (d + 1) bc bs pc lv (as.reverse ++ aR ca ia :: st) h P := by
  intro p l e R s m args below meth c D cA B ad ad0 L0 H locs cells slots ls b
  have hst : ∀ v ∈ st, okV h v := fun v hv => b.so v (List.mem_append_right _ (List.mem_cons_of_mem _ hv))
  have has : ∀ v ∈ aR ca ia :: as, okV h v := okc (b.so _ (List.mem_append_right _ List.mem_cons_self)) (fun v hv => b.so v (List.mem_append_left _ (List.mem_reverse.mpr hv)))
  obtain ⟨o1, o2, o3, o4⟩ := ho
  obtain ⟨f1, f2⟩ := b.2.2.2.1
  obtain ⟨g1, g2⟩ := b.2.2.2.2.1
  obtain ⟨j, -, hj⟩ := ws_at (σ := σ) (cA := cA) (ad := ad) (inL hc65 (okh has))
  rw [toE_o hty] at hj
  refine V_back (M2 := M2) (as := as) hm hms b hst (va_runV (b := ad (ca, ia)) (C := M2.1.cls) (As := as.map (vl ad)) (rest := st.map (vl ad)) (Ts := gw) ⟨b.x, b.b, b.1.2.2.1, b.own, b.ts⟩ (k l D cA B ad) ⟨callB_of n b.ts (gwIn o1) rfl rfl rfl (b.ts _ o2) (b.ts _ hl) o3 ⟨f1, by show 8 + (M2.2.2.1 + 11) + 64 * d ≤ R.locals; omega⟩, b.ts _ hs, b.ts _ hse⟩ ⟨blind, va_recv b.K b.rep.1 hcl hj, pre_at b has⟩ rfl (by rw [List.length_map]; exact hn) b.lh.1 (by rw [stk_split]; rfl) (lv_room (ct_room hw)) hd ⟨by omega, by omega⟩)
end VC
end
section
-- ===== fields, arrays, new cells =====
theorem fs_get {N k : Nat} {f : Nat → Value} (hk : k < N) : ((List.range N).map f)[k]? = some (f k) := by
  rw [List.getElem?_map, List.getElem?_range hk]
  rfl
theorem fs_set {N k : Nat} {f g : Nat → Value} {v : Value} (hv : g k = v) (hg : ∀ j, j ≠ k → g j = f j) : ((List.range N).map f).set k v = (List.range N).map g := by
  apply List.ext_getElem?
  intro n
  rw [List.getElem?_set]
  by_cases e : k = n
  · subst e
    rw [if_pos rfl]
    by_cases hk : k < N
    · rw [if_pos (by simpa using hk), fs_get hk, hv]
    · rw [if_neg (by simpa using hk)]
      symm
      apply List.getElem?_eq_none
      simpa using hk
  · rw [if_neg e]
    by_cases hk : n < N
    · rw [fs_get hk, fs_get hk, hg n (fun z => e z.symm)]
    · rw [List.getElem?_eq_none (by simpa using hk), List.getElem?_eq_none (by simpa using hk)]
section VM
variable {σ : Bool} {M : MT} {d bc bs pc : Nat} {lv : List (Nat × AV)} {st : List AV} {h : HS} {P : Option AV → HS → Prop}
theorem wsO_set {cA : FieldType → ClassId} {ad : PT → Nat} {h2 : HS} {j : Nat} {q : PT} (hL : h2.2.2 = h.2.2) (hj : h.2.2[j]? = some q) (ho : ∀ n q', h.2.2[n]? = some q' → n ≠ j → toE σ cA ad h2 q' = toE σ cA ad h q') : wsO σ cA ad h2 = (wsO σ cA ad h).set j (ad q, toE σ cA ad h2 q) := by
  apply List.ext_getElem?
  intro n
  rw [List.getElem?_set]
  unfold wsO
  rw [hL, List.getElem?_map, List.getElem?_map]
  by_cases e : j = n
  · subst e
    have hl : j < (h.2.2.map (fun q => (ad q, toE σ cA ad h q))).length := by
      rw [List.length_map]
      exact (List.getElem?_eq_some_iff.mp hj).1
    rw [if_pos rfl, if_pos hl, hj]
    rfl
  · rw [if_neg e]
    cases hn : h.2.2[n]? with
    | none => rfl
    | some q' =>
      show some (ad q', toE σ cA ad h2 q') = some (ad q', toE σ cA ad h q')
      rw [ho n q' hn (fun z => e z.symm)]
theorem ws_nd {cA : FieldType → ClassId} {ad : PT → Nat} {A : Nat → Prop} {i j : Nat} {q : PT} (hD : va_D A (wsO σ cA ad h)) (hi : h.2.2[i]? = some q) (hj : h.2.2[j]? = some q) : i = j := by
  refine hD.1 i j (ad q, toE σ cA ad h q) (ad q, toE σ cA ad h q) ?_ ?_ rfl
  · unfold wsO; rw [List.getElem?_map, hi]; rfl
  · unfold wsO; rw [List.getElem?_map, hj]; rfl
theorem gS_sI {c i k c' i' k' : Nat} {v : Int32} : gS σ (sI h c i k v) c' i' k' = gS σ h c' i' k' := rfl
theorem gI_sI {c i k c' i' k' : Nat} {v : Int32} : gI (sI h c i k v) c' i' k' = if c' = c ∧ k' = k ∧ i' = i then v else gI h c' i' k' := rfl
theorem gI_sR {c i k c' i' k' : Nat} {v : Option PT} : gI (sR h c i k v) c' i' k' = gI h c' i' k' := rfl
theorem gR_sI {c i k c' i' k' : Nat} {v : Int32} : gR (sI h c i k v) c' i' k' = gR h c' i' k' := rfl
theorem gR_sR {c i k c' i' k' : Nat} {v : Option PT} : gR (sR h c i k v) c' i' k' = if c' = c ∧ k' = k ∧ i' = i then v else gR h c' i' k' := rfl
theorem toE_sI {cA : FieldType → ClassId} {ad : PT → Nat} {c i k : Nat} {v : Int32} {q : PT} (hq : q ≠ (c, i)) : toE σ cA ad (sI h c i k v) q = toE σ cA ad h q := by
  obtain ⟨c', i'⟩ := q
  have hn : ∀ k', ¬ (c' = c ∧ k' = k ∧ i' = i) := fun k' z => hq (by rw [z.1, z.2.2])
  have e1 : ∀ k', gI (sI h c i k v) c' i' k' = gI h c' i' k' := fun k' => by rw [gI_sI, if_neg (hn k')]
  have e2 : gI (sI h c i k v) c' i' = gI h c' i' := funext e1
  have e3 : ∀ ci, fv σ ad (sI h c i k v) c' i' ci = fv σ ad h c' i' ci := fun ci => by funext k'; unfold fv; rw [gS_sI, e1]
  unfold toE
  simp only [e2, e3, gS_sI]
/-- a store of an int -/
theorem Bd.stI {p : Program} {R : Room} {s : State} {m : MethodId} {args : Array Value} {meth : Method} {c : Code} {D : va_G} {cA : FieldType → ClassId} {B : Nat} {ad ad0 : PT → Nat} {L0 : List PT} {H H1 : Heap} {locs locs1 : List Loc} {cells slots : Nat} {ls : Array Slot} {st' : List AV} {cc i k j : Nat} {v : Int32}
    (b : Bd σ M d bc bs lv st h p R s m args meth c D cA B ad ad0 L0 H locs cells slots ls) (hs : ∀ v ∈ st', okV h v) (hj : h.2.2[j]? = some (cc, i)) (hP : va_P D vwCl ((wsO σ cA ad h).set j (ad (cc, i), toE σ cA ad (sI h cc i k v) (cc, i))) H1) (hD : va_D (fun q => B ≤ q) ((wsO σ cA ad h).set j (ad (cc, i), toE σ cA ad (sI h cc i k v) (cc, i)))) (hS : va_S (fun q => B ≤ q) s.heap H1 locs1) :
    Bd σ M d bc bs lv st' (sI h cc i k v) p R s m args meth c D cA B ad ad0 L0 H1 locs1 cells slots ls := by
  obtain ⟨h1, h2, h3, h4, h5, h6, h7, h8, h9, -, h11⟩ := b
  have e := wsO_set (σ := σ) (cA := cA) (ad := ad) (h := h) (h2 := sI h cc i k v) (j := j) (q := (cc, i)) rfl hj (fun n q' hn hne => toE_sI (fun z => hne (ws_nd h6.2.1 (by rw [hn, z]) hj)))
  refine ⟨h1, h2, h3, h4, h5, ⟨by rw [e]; exact hP, by rw [e]; exact hD, fun q hq k' r hr => h6.2.2 q hq k' r hr⟩, hS, h8, h9, hs, h11⟩
theorem V_getI {c i ci idx k N : Nat} {C : String} {T : u_T} (hc65 : c < 65) (hr : rty c i = .inl ci) (hcl : vwCl[ci]? = some (C, T, N)) (hk : k < N) (hf : isRT (fty ci k) = false) (hd : decode M.2.1 pc = .ok (.getfield idx, 3)) (hw : Cond.fieldLink M.1.cls idx (T k).1 (T k).2.1 (T k).2.2.1 ∈ gw)
    (kk : V σ M d bc bs (pc + 3) lv (aI (gI h c i k) :: st) h P) : V σ M d bc bs pc lv (aR c i :: st) h P := by
  intro p l e R s m args below meth c0 D cA B ad ad0 L0 H locs cells slots ls b
  obtain ⟨j, -, hj⟩ := ws_at (σ := σ) (cA := cA) (ad := ad) (inL hc65 (okh b.so))
  rw [toE_o hr] at hj
  obtain ⟨eN, hin, -, -⟩ := cls_ok hcl
  refine va_get (D := D) b.x b.b b.ts hin b.own b.K b.rep.1 j hj hcl k hk (b.ts _ hw) (fun _ z => z) (v := .int (gI h c i k)) ?_ hd (kk p l e R s m args below meth c0 D cA B ad ad0 L0 H locs cells slots ls (b.stk (okc okI (okt b.so))))
  rw [← eN, fs_get hk]
  simp [fv, hf]
theorem V_getR {c i ci idx k N : Nat} {C : String} {T : u_T} (r : Option PT) (hc65 : c < 65) (hr : rty c i = .inl ci) (hcl : vwCl[ci]? = some (C, T, N)) (hk : k < N) (hf : isRT (fty ci k) = true) (hd : decode M.2.1 pc = .ok (.getfield idx, 3)) (hw : Cond.fieldLink M.1.cls idx (T k).1 (T k).2.1 (T k).2.2.1 ∈ gw) (hg : gS σ h c i k = r)
    (kk : V σ M d bc bs (pc + 3) lv (aP r :: st) h P) : V σ M d bc bs pc lv (aR c i :: st) h P := by
  intro p l e R s m args below meth c0 D cA B ad ad0 L0 H locs cells slots ls b
  have hm := inL hc65 (okh b.so)
  obtain ⟨j, -, hj⟩ := ws_at (σ := σ) (cA := cA) (ad := ad) hm
  rw [toE_o hr] at hj
  obtain ⟨eN, hin, -, -⟩ := cls_ok hcl
  refine va_get (D := D) b.x b.b b.ts hin b.own b.K b.rep.1 j hj hcl k hk (b.ts _ hw) (fun _ z => z) (v := va_rf (r.map ad)) ?_ hd (kk p l e R s m args below meth c0 D cA B ad ad0 L0 H locs cells slots ls (b.stk (okc ?_ (okt b.so))))
  · rw [← eN, fs_get hk]
    simp [fv, hf, hg]
  · intro q e
    cases e
    exact b.rep.2.2 (c, i) hm k q hg
theorem V_putI {c i ci idx k N : Nat} {C : String} {T : u_T} {v : Int32} (hc65 : c < 65) (hr : rty c i = .inl ci) (hcl : vwCl[ci]? = some (C, T, N)) (hk : k < N) (hf : fty ci k = .int) (hfin : (T k).2.2.2 = false ∨ (T k).2.2.2 = true ∧ M.1.name = "<init>" ∧ (T k).1 = M.1.cls) (hd : decode M.2.1 pc = .ok (.putfield idx, 3)) (hw : Cond.fieldLink M.1.cls idx (T k).1 (T k).2.1 (T k).2.2.1 ∈ gw)
    (kk : V σ M d bc bs (pc + 3) lv st (sI h c i k v) P) : V σ M d bc bs pc lv (aI v :: aR c i :: st) h P := by
  intro p l e R s m args below meth c0 D cA B ad ad0 L0 H locs cells slots ls b
  obtain ⟨j, hj0, hj⟩ := ws_at (σ := σ) (cA := cA) (ad := ad) (inL hc65 (okh (okt b.so)))
  rw [toE_o hr] at hj
  obtain ⟨eN, hin, hty, hnm⟩ := cls_ok hcl
  have hlen : k < ((List.range (nF ci)).map (fv σ ad h c i ci)).length := by rw [List.length_map, List.length_range, ← eN]; exact hk
  have hset : ((List.range (nF ci)).map (fv σ ad h c i ci)).set k (.int v) = (List.range (nF ci)).map (fv σ ad (sI h c i k v) c i ci) := by
    refine fs_set ?_ (fun n hn => ?_)
    · unfold fv
      rw [hf]
      simp [isRT, gI_sI]
    · have e1 : gI (sI h c i k v) c i n = gI h c i n := by rw [gI_sI, if_neg (fun z => hn z.2.1)]
      unfold fv
      rw [gS_sI, e1]
  have go : ∀ (H1 : Heap) (locs1 : List Loc), va_P D vwCl ((wsO σ cA ad h).set j (ad (c, i), .inr (ci, ((List.range (nF ci)).map (fv σ ad h c i ci)).set k (.int v)))) H1 → va_D (fun q => B ≤ q) ((wsO σ cA ad h).set j (ad (c, i), .inr (ci, ((List.range (nF ci)).map (fv σ ad h c i ci)).set k (.int v)))) → va_S (fun q => B ≤ q) s.heap H1 locs1 → W p l e R s m args below meth c0 H1 locs1 cells slots (MQ below (QM σ D cA B ad0 L0 P) args s R.cells R.slots (fun q => B ≤ q)) (F0 m (pc + 3) ls (st.map (vl ad))) := by
    intro H1 locs1 hP hD hS
    rw [hset, ← toE_o (cA := cA) hr] at hP hD
    exact kk p l e R s m args below meth c0 D cA B ad ad0 L0 H1 locs1 cells slots ls (b.stI (okt (okt b.so)) hj0 hP hD hS)
  have hp : parseFieldDescriptor (T k).2.2.1 = some .int := by rw [hty k hk, hf]
  rcases hfin with h1 | ⟨h1, h2, h3⟩
  · exact va_put (D := D) (ty := .int) (v := .int v) b.x b.b b.ts hin (fty ci) hty hnm b.own b.K b.rep.1 b.rep.2.1 b.S j hj hcl k hk (b.ts _ hw) (fun _ z => z) h1 hp rfl rfl hlen hd go
  · exact va_putF (D := D) (ty := .int) (v := .int v) b.x b.b b.ts hin (fty ci) hty hnm b.own b.K b.rep.1 b.rep.2.1 b.S j hj hcl k hk (b.ts _ hw) (fun _ z => z) h1 (b.1.2.2.2.2.2.2.2.1.trans h2) h3 hp rfl rfl hlen hd go
/-- fewer locals -/
theorem V_lv {lv2 : List (Nat × AV)} (is : List Nat) (he : is.map (fun i => lv[i]?) = lv2.map some) (kk : V σ M d bc bs pc lv2 st h P) : V σ M d bc bs pc lv st h P := by
  intro p l e R s m args below meth c D cA B ad ad0 L0 H locs cells slots ls b
  have hsub : ∀ q ∈ lv2, q ∈ lv := by
    intro q hq
    have h1 : some q ∈ is.map (fun i => lv[i]?) := by rw [he]; exact List.mem_map.mpr ⟨q, hq, rfl⟩
    obtain ⟨i, -, hi⟩ := List.mem_map.mp h1
    exact List.mem_of_getElem? hi
  refine kk p l e R s m args below meth c D cA B ad ad0 L0 H locs cells slots ls (b.lst b.so ⟨b.lh.1, b.lh.2.1, fun q hq => ?_⟩ (fun q hq => b.lo q (hsub q hq)))
  obtain ⟨q', hq', e⟩ := List.mem_map.mp hq
  exact b.lh.2.2 q (List.mem_map.mpr ⟨q', hsub q' hq', e⟩)
-- arrays of ints, bytes, booleans
theorem V_iald {c i n : Nat} {j : Int32} (hc65 : c < 65) (hr : rty c i = .inr (.int, n)) (hd : decode M.2.1 pc = .ok (.iaload, 1)) (hin : vp_in j n) (kk : V σ M d bc bs (pc + 1) lv (aI (gI h c i j.toNatClampNeg) :: st) h P) : V σ M d bc bs pc lv (aI j :: aR c i :: st) h P := by
  intro p l e R s m args below meth c0 D cA B ad ad0 L0 H locs cells slots ls b
  obtain ⟨j0, -, hj⟩ := ws_at (σ := σ) (cA := cA) (ad := ad) (inL hc65 (okh (okt b.so)))
  rw [toE_a hr rfl] at hj
  exact va_iald b.x b.b b.K b.rep.1 j0 0 hj rfl hin hd (kk p l e R s m args below meth c0 D cA B ad ad0 L0 H locs cells slots ls (b.stk (okc okI (okt (okt b.so)))))
theorem V_bald {c i n : Nat} {j : Int32} (hc65 : c < 65) (hr : rty c i = .inr (.byte, n)) (hd : decode M.2.1 pc = .ok (.baload, 1)) (hin : vp_in j n) (kk : V σ M d bc bs (pc + 1) lv (aI (gI h c i j.toNatClampNeg) :: st) h P) : V σ M d bc bs pc lv (aI j :: aR c i :: st) h P := by
  intro p l e R s m args below meth c0 D cA B ad ad0 L0 H locs cells slots ls b
  obtain ⟨j0, -, hj⟩ := ws_at (σ := σ) (cA := cA) (ad := ad) (inL hc65 (okh (okt b.so)))
  rw [toE_a hr rfl] at hj
  exact va_bald b.x b.b b.K b.rep.1 j0 1 hj rfl hin hd (kk p l e R s m args below meth c0 D cA B ad ad0 L0 H locs cells slots ls (b.stk (okc okI (okt (okt b.so)))))
theorem V_zald {c i n : Nat} {j : Int32} (hc65 : c < 65) (hr : rty c i = .inr (.boolean, n)) (hd : decode M.2.1 pc = .ok (.baload, 1)) (hin : vp_in j n) (kk : V σ M d bc bs (pc + 1) lv (aI (gI h c i j.toNatClampNeg) :: st) h P) : V σ M d bc bs pc lv (aI j :: aR c i :: st) h P := by
  intro p l e R s m args below meth c0 D cA B ad ad0 L0 H locs cells slots ls b
  obtain ⟨j0, -, hj⟩ := ws_at (σ := σ) (cA := cA) (ad := ad) (inL hc65 (okh (okt b.so)))
  rw [toE_a hr rfl] at hj
  exact va_zald b.x b.b b.K b.rep.1 j0 2 hj rfl hin hd (kk p l e R s m args below meth c0 D cA B ad ad0 L0 H locs cells slots ls (b.stk (okc okI (okt (okt b.so)))))
theorem gI_up {c i k : Nat} {v : Int32} : gI (sI h c i k v) c i = upd (gI h c i) k v := by
  funext k'
  rw [gI_sI, upd]
  by_cases e : k' = k
  · rw [if_pos ⟨rfl, e, rfl⟩, if_pos e]
  · rw [if_neg (fun z => e z.2.1), if_neg e]
theorem toE_up {cA : FieldType → ClassId} {ad : PT → Nat} {c i n k : Nat} {t : FieldType} {v : Int32} (hr : rty c i = .inr (t, n)) (ht : isRT t = false) : (.inl (cA t, n, .inl (upd (gI h c i) k v)) : va_E) = toE σ cA ad (sI h c i k v) (c, i) := by
  rw [toE_a hr ht, gI_up]
theorem V_iast {c i n : Nat} {j x : Int32} (hc65 : c < 65) (hr : rty c i = .inr (.int, n)) (hd : decode M.2.1 pc = .ok (.iastore, 1)) (hin : vp_in j n) (kk : V σ M d bc bs (pc + 1) lv st (sI h c i j.toNatClampNeg x) P) : V σ M d bc bs pc lv (aI x :: aI j :: aR c i :: st) h P := by
  intro p l e R s m args below meth c0 D cA B ad ad0 L0 H locs cells slots ls b
  obtain ⟨j0, hj0, hj⟩ := ws_at (σ := σ) (cA := cA) (ad := ad) (inL hc65 (okh (okt (okt b.so))))
  rw [toE_a hr rfl] at hj
  refine va_iast b.x b.b b.K b.rep.1 b.rep.2.1 b.S j0 0 hj rfl hin hd (fun H1 locs1 hP hD hS => ?_)
  rw [toE_up (σ := σ) (ad := ad) hr rfl] at hP hD
  exact kk p l e R s m args below meth c0 D cA B ad ad0 L0 H1 locs1 cells slots ls (b.stI (okt (okt (okt b.so))) hj0 hP hD hS)
theorem V_bast {c i n : Nat} {j x : Int32} (hc65 : c < 65) (hr : rty c i = .inr (.byte, n)) (hd : decode M.2.1 pc = .ok (.bastore, 1)) (hin : vp_in j n) (kk : V σ M d bc bs (pc + 1) lv st (sI h c i j.toNatClampNeg (vp_nar .byte x)) P) : V σ M d bc bs pc lv (aI x :: aI j :: aR c i :: st) h P := by
  intro p l e R s m args below meth c0 D cA B ad ad0 L0 H locs cells slots ls b
  obtain ⟨j0, hj0, hj⟩ := ws_at (σ := σ) (cA := cA) (ad := ad) (inL hc65 (okh (okt (okt b.so))))
  rw [toE_a hr rfl] at hj
  refine va_bast b.x b.b b.K b.rep.1 b.rep.2.1 b.S j0 1 hj rfl hin hd (fun H1 locs1 hP hD hS => ?_)
  rw [toE_up (σ := σ) (ad := ad) hr rfl] at hP hD
  exact kk p l e R s m args below meth c0 D cA B ad ad0 L0 H1 locs1 cells slots ls (b.stI (okt (okt (okt b.so))) hj0 hP hD hS)
theorem V_zast {c i n : Nat} {j x : Int32} (hc65 : c < 65) (hr : rty c i = .inr (.boolean, n)) (hd : decode M.2.1 pc = .ok (.bastore, 1)) (hin : vp_in j n) (hx : x = 0 ∨ x = 1) (kk : V σ M d bc bs (pc + 1) lv st (sI h c i j.toNatClampNeg x) P) : V σ M d bc bs pc lv (aI x :: aI j :: aR c i :: st) h P := by
  intro p l e R s m args below meth c0 D cA B ad ad0 L0 H locs cells slots ls b
  obtain ⟨j0, hj0, hj⟩ := ws_at (σ := σ) (cA := cA) (ad := ad) (inL hc65 (okh (okt (okt b.so))))
  rw [toE_a hr rfl] at hj
  have ex : vp_nar .boolean x = x := by rcases hx with rfl | rfl <;> decide +kernel
  refine va_zast b.x b.b b.K b.rep.1 b.rep.2.1 b.S j0 2 hj rfl hin hd (fun H1 locs1 hP hD hS => ?_)
  rw [ex, toE_up (σ := σ) (ad := ad) hr rfl] at hP hD
  exact kk p l e R s m args below meth c0 D cA B ad ad0 L0 H1 locs1 cells slots ls (b.stI (okt (okt (okt b.so))) hj0 hP hD hS)
theorem V_alen {c i n : Nat} {t : FieldType} {v : Int32} (hc65 : c < 65) (hr : rty c i = .inr (t, n)) (ht : t = .int ∨ t = .byte ∨ t = .boolean) (hv : Int32.ofNat n = v) (hd : decode M.2.1 pc = .ok (.arraylength, 1)) (kk : V σ M d bc bs (pc + 1) lv (aI v :: st) h P) : V σ M d bc bs pc lv (aR c i :: st) h P := by
  intro p l e R s m args below meth c0 D cA B ad ad0 L0 H locs cells slots ls b
  obtain ⟨j0, -, hj⟩ := ws_at (σ := σ) (cA := cA) (ad := ad) (inL hc65 (okh b.so))
  have K := kk p l e R s m args below meth c0 D cA B ad ad0 L0 H locs cells slots ls (b.stk (okc okI (okt b.so)))
  rcases ht with rfl | rfl | rfl
  · rw [toE_a hr rfl] at hj
    exact va_alen b.x b.b b.K b.rep.1 j0 0 hj rfl hv hd K
  · rw [toE_a hr rfl] at hj
    exact va_alen b.x b.b b.K b.rep.1 j0 1 hj rfl hv hd K
  · rw [toE_a hr rfl] at hj
    exact va_alen b.x b.b b.K b.rep.1 j0 2 hj rfl hv hd K
-- switches
theorem V_tabIn {dflt lo hi off : Int} {offs : Array Int} {len : Nat} {x : Int32} (tgt : Nat) (hd : decode M.2.1 pc = .ok (.tableswitch dflt lo hi offs, len)) (h1 : ¬ x.toInt < lo) (h2 : ¬ hi < x.toInt) (ho : offs[(x.toInt - lo).toNat]? = some off) (ht : (pc : Int) + off = (tgt : Int)) (kk : V σ M d bc bs tgt lv st h P) : V σ M d bc bs pc lv (aI x :: st) h P := by
  intro p l e R s m args below meth c D cA B ad ad0 L0 H locs cells slots ls b
  exact lv_tableIn b.x b.b hd h1 h2 ho ht (kk p l e R s m args below meth c D cA B ad ad0 L0 H locs cells slots ls (b.stk (okt b.so)))
theorem V_tabOut {dflt lo hi : Int} {offs : Array Int} {len : Nat} {x : Int32} (tgt : Nat) (hd : decode M.2.1 pc = .ok (.tableswitch dflt lo hi offs, len)) (h1 : x.toInt < lo ∨ hi < x.toInt) (ht : (pc : Int) + dflt = (tgt : Int)) (kk : V σ M d bc bs tgt lv st h P) : V σ M d bc bs pc lv (aI x :: st) h P := by
  intro p l e R s m args below meth c D cA B ad ad0 L0 H locs cells slots ls b
  exact lv_tableOut b.x b.b hd h1 ht (kk p l e R s m args below meth c D cA B ad ad0 L0 H locs cells slots ls (b.stk (okt b.so)))
theorem V_lookup {dflt off : Int} {ps : Array (Int × Int)} {len : Nat} {x : Int32} (tgt : Nat) (hd : decode M.2.1 pc = .ok (.lookupswitch dflt ps, len)) (hp : (ps.toList.zip (ps.toList.drop 1)).all (fun (a, next) => a.1 < next.1) = true) (ho : Op.lookupswitch.offset ps.toList dflt x.toInt = off) (ht : (pc : Int) + off = (tgt : Int)) (kk : V σ M d bc bs tgt lv st h P) : V σ M d bc bs pc lv (aI x :: st) h P := by
  intro p l e R s m args below meth c D cA B ad ad0 L0 H locs cells slots ls b
  exact lv_lookup b.x b.b hd hp ho ht (kk p l e R s m args below meth c D cA B ad ad0 L0 H locs cells slots ls (b.stk (okt b.so)))
theorem V_ifnull {q : PT} {off : Int} (hd : decode M.2.1 pc = .ok (.ifnull off, 3)) (kk : V σ M d bc bs (pc + 3) lv st h P) : V σ M d bc bs pc lv (aP (some q) :: st) h P := by
  intro p l e R s m args below meth c D cA B ad ad0 L0 H locs cells slots ls b
  exact lv_ifnull b.x b.b hd (kk p l e R s m args below meth c D cA B ad ad0 L0 H locs cells slots ls (b.stk (okt b.so)))
theorem V_ifnullN {off : Int} (tgt : Nat) (hd : decode M.2.1 pc = .ok (.ifnull off, 3)) (ht : (pc : Int) + off = (tgt : Int)) (kk : V σ M d bc bs tgt lv st h P) : V σ M d bc bs pc lv (aP none :: st) h P := by
  intro p l e R s m args below meth c D cA B ad ad0 L0 H locs cells slots ls b
  exact lv_ifnullN b.x b.b hd ht (kk p l e R s m args below meth c D cA B ad ad0 L0 H locs cells slots ls (b.stk (okt b.so)))
theorem V_ifnonnull {q : PT} {off : Int} (tgt : Nat) (hd : decode M.2.1 pc = .ok (.ifnonnull off, 3)) (ht : (pc : Int) + off = (tgt : Int)) (kk : V σ M d bc bs tgt lv st h P) : V σ M d bc bs pc lv (aP (some q) :: st) h P := by
  intro p l e R s m args below meth c D cA B ad ad0 L0 H locs cells slots ls b
  exact lv_ifnonnull b.x b.b hd ht (kk p l e R s m args below meth c D cA B ad ad0 L0 H locs cells slots ls (b.stk (okt b.so)))
theorem V_ifnonnullN {off : Int} (hd : decode M.2.1 pc = .ok (.ifnonnull off, 3)) (kk : V σ M d bc bs (pc + 3) lv st h P) : V σ M d bc bs pc lv (aP none :: st) h P := by
  intro p l e R s m args below meth c D cA B ad ad0 L0 H locs cells slots ls b
  exact lv_ifnonnullN b.x b.b hd (kk p l e R s m args below meth c D cA B ad ad0 L0 H locs cells slots ls (b.stk (okt b.so)))
end VM
end
section
theorem rt_0 {i : Nat} : rty 0 i = .inl 10 := rfl
theorem rt_1 {i : Nat} : rty 1 i = .inl 0 := rfl
theorem rt_2 {i : Nat} : rty 2 i = .inl 0 := rfl
theorem rt_3 {i : Nat} : rty 3 i = .inl 9 := rfl
theorem rt_4 {i : Nat} : rty 4 i = .inr (.int, 20) := rfl
theorem rt_5 {i : Nat} : rty 5 i = .inr (.boolean, 20) := rfl
theorem rt_6 {i : Nat} : rty 6 i = .inl 6 := rfl
theorem rt_7 {i : Nat} : rty 7 i = .inr (.byte, 400) := rfl
theorem rt_8 {i : Nat} : rty 8 i = .inl 8 := rfl
theorem rt_9 {i : Nat} : rty 9 i = .inr (.int, 401) := rfl
theorem rt_10 {i : Nat} : rty 10 i = .inr (.int, 401) := rfl
theorem rt_11 {i : Nat} : rty 11 i = .inr (.int, 401) := rfl
theorem rt_12 {i : Nat} : rty 12 i = .inl 2 := rfl
theorem rt_13 {i : Nat} : rty 13 i = .inr (.int, 400) := rfl
theorem rt_14 {i : Nat} : rty 14 i = .inr (.int, 400) := rfl
theorem rt_15 {i : Nat} : rty 15 i = .inr (.int, 8) := rfl
theorem rt_16 {i : Nat} : rty 16 i = .inr (.int, 8) := rfl
theorem rt_17 {i : Nat} : rty 17 i = .inr (.int, 8) := rfl
theorem rt_18 {i : Nat} : rty 18 i = .inr (.int, 64) := rfl
theorem rt_19 {i : Nat} : rty 19 i = .inl 3 := rfl
theorem rt_20 {i : Nat} : rty 20 i = .inl 5 := rfl
theorem rt_21 {i : Nat} : rty 21 i = .inl 1 := rfl
theorem rt_22 {i : Nat} : rty 22 i = .inr (.int, 4) := rfl
theorem rt_23 {i : Nat} : rty 23 i = .inr (.int, 4) := rfl
theorem rt_24 {i : Nat} : rty 24 i = .inr (.int, 8) := rfl
theorem rt_25 {i : Nat} : rty 25 i = .inr (.int, 8) := rfl
theorem rt_26 {i : Nat} : rty 26 i = .inl 11 := rfl
theorem rt_27 {i : Nat} : rty 27 i = .inr (.int, 4368) := rfl
theorem rt_28 {i : Nat} : rty 28 i = .inr (.int, 12) := rfl
theorem rt_29 {i : Nat} : rty 29 i = .inr (.int, 12) := rfl
theorem rt_30 {i : Nat} : rty 30 i = .inr (.int, 12) := rfl
theorem rt_31 {i : Nat} : rty 31 i = .inr (.int, 12) := rfl
theorem rt_32 {i : Nat} : rty 32 i = .inr (.int, 120) := rfl
theorem rt_33 {i : Nat} : rty 33 i = .inr (.int, 120) := rfl
theorem rt_34 {i : Nat} : rty 34 i = .inr (.int, 120) := rfl
theorem rt_35 {i : Nat} : rty 35 i = .inr (.int, 120) := rfl
theorem rt_36 {i : Nat} : rty 36 i = .inr (.int, 120) := rfl
theorem rt_37 {i : Nat} : rty 37 i = .inr (.int, 120) := rfl
theorem rt_38 {i : Nat} : rty 38 i = .inr (.int, 120) := rfl
theorem rt_39 {i : Nat} : rty 39 i = .inr (.int, 120) := rfl
theorem rt_40 {i : Nat} : rty 40 i = .inr (.int, 120) := rfl
theorem rt_41 {i : Nat} : rty 41 i = .inr (.int, 120) := rfl
theorem rt_42 {i : Nat} : rty 42 i = .inr (.int, 120) := rfl
theorem rt_43 {i : Nat} : rty 43 i = .inr (.int, 120) := rfl
theorem rt_44 {i : Nat} : rty 44 i = .inr (.int, 20) := rfl
theorem rt_45 {i : Nat} : rty 45 i = .inr (.boolean, 20) := rfl
theorem rt_46 {i : Nat} : rty 46 i = .inr (.int, 9) := rfl
theorem rt_47 {i : Nat} : rty 47 i = .inr (.int, 8) := rfl
theorem rt_48 {i : Nat} : rty 48 i = .inr (.int, 500) := rfl
theorem rt_49 {i : Nat} : rty 49 i = .inr (.int, 9) := rfl
theorem rt_50 {i : Nat} : rty 50 i = .inr (.int, 8) := rfl
theorem rt_51 {i : Nat} : rty 51 i = .inr (.int, 500) := rfl
theorem rt_52 {i : Nat} : rty 52 i = .inr (.int, 500) := rfl
theorem rt_53 {i : Nat} : rty 53 i = .inr (.int, 400) := rfl
theorem rt_54 {i : Nat} : rty 54 i = .inr (.int, 4) := rfl
theorem rt_55 {i : Nat} : rty 55 i = .inr (.int, 4) := rfl
theorem rt_56 {i : Nat} : rty 56 i = .inr (.int, 8) := rfl
theorem rt_57 {i : Nat} : rty 57 i = .inr (.int, 8) := rfl
theorem rt_60 {i : Nat} : rty 60 i = .inl 7 := rfl
theorem rt_61 {i : Nat} : rty 61 i = .inr (.int, 364) := rfl
theorem rt_62 {i : Nat} : rty 62 i = .inl 4 := rfl
section GP
variable {σ : Bool} {M : MT} {d bc bs pc : Nat} {lv : List (Nat × AV)} {st : List AV} {h : HS} {P : Option AV → HS → Prop}
theorem GS_0_0 {i idx : Nat} (hd : decode M.2.1 pc = .ok (.getfield idx, 3)) (hw : Cond.fieldLink M.1.cls idx "GreatStore" "things" "Ljava/util/ArrayList;" ∈ gw) (kk : V true M d bc bs (pc + 3) lv (aR 1 i :: st) h P) : V true M d bc bs pc lv (aR 0 i :: st) h P := V_getR (T := TX9) (k := 0) (some (1, i)) (by decide) rt_0 rfl (by decide) rfl hd hw rfl kk
theorem GS_0_1 {i idx : Nat} (hd : decode M.2.1 pc = .ok (.getfield idx, 3)) (hw : Cond.fieldLink M.1.cls idx "GreatStore" "slips" "Ljava/util/ArrayList;" ∈ gw) (kk : V true M d bc bs (pc + 3) lv (aR 2 i :: st) h P) : V true M d bc bs pc lv (aR 0 i :: st) h P := V_getR (T := TX9) (k := 1) (some (2, i)) (by decide) rt_0 rfl (by decide) rfl hd hw rfl kk
theorem GS_0_2 {i idx : Nat} (hd : decode M.2.1 pc = .ok (.getfield idx, 3)) (hw : Cond.fieldLink M.1.cls idx "GreatStore" "wagon" "LGreatStore$Van;" ∈ gw) (kk : V true M d bc bs (pc + 3) lv (aR 3 i :: st) h P) : V true M d bc bs pc lv (aR 0 i :: st) h P := V_getR (T := TX9) (k := 2) (some (3, i)) (by decide) rt_0 rfl (by decide) rfl hd hw rfl kk
theorem GS_0_3 {i idx : Nat} (hd : decode M.2.1 pc = .ok (.getfield idx, 3)) (hw : Cond.fieldLink M.1.cls idx "GreatStore" "tape" "LGreatStore$Tape;" ∈ gw) (kk : V true M d bc bs (pc + 3) lv (aR 6 i :: st) h P) : V true M d bc bs pc lv (aR 0 i :: st) h P := V_getR (T := TX9) (k := 3) (some (6, i)) (by decide) rt_0 rfl (by decide) rfl hd hw rfl kk
theorem GS_0_4 {i idx : Nat} (hd : decode M.2.1 pc = .ok (.getfield idx, 3)) (hw : Cond.fieldLink M.1.cls idx "GreatStore" "tokens" "LGreatStore$Tokens;" ∈ gw) (kk : V true M d bc bs (pc + 3) lv (aR 8 i :: st) h P) : V true M d bc bs pc lv (aR 0 i :: st) h P := V_getR (T := TX9) (k := 4) (some (8, i)) (by decide) rt_0 rfl (by decide) rfl hd hw rfl kk
theorem GS_0_5 {i idx : Nat} (hd : decode M.2.1 pc = .ok (.getfield idx, 3)) (hw : Cond.fieldLink M.1.cls idx "GreatStore" "reader" "LGreatStore$RuleReader;" ∈ gw) (kk : V true M d bc bs (pc + 3) lv (aR 19 i :: st) h P) : V true M d bc bs pc lv (aR 0 i :: st) h P := V_getR (T := TX9) (k := 5) (some (19, i)) (by decide) rt_0 rfl (by decide) rfl hd hw rfl kk
theorem GS_0_6 {i idx : Nat} (hd : decode M.2.1 pc = .ok (.getfield idx, 3)) (hw : Cond.fieldLink M.1.cls idx "GreatStore" "takings" "LGreatStore$Takings;" ∈ gw) (kk : V true M d bc bs (pc + 3) lv (aR 20 i :: st) h P) : V true M d bc bs pc lv (aR 0 i :: st) h P := V_getR (T := TX9) (k := 6) (some (20, i)) (by decide) rt_0 rfl (by decide) rfl hd hw rfl kk
theorem GS_0_7 {i idx : Nat} (hd : decode M.2.1 pc = .ok (.getfield idx, 3)) (hw : Cond.fieldLink M.1.cls idx "GreatStore" "cuts" "LGreatStore$Cuts;" ∈ gw) (kk : V true M d bc bs (pc + 3) lv (aR 21 i :: st) h P) : V true M d bc bs pc lv (aR 0 i :: st) h P := V_getR (T := TX9) (k := 7) (some (21, i)) (by decide) rt_0 rfl (by decide) rfl hd hw rfl kk
theorem GI_0_10 {i idx : Nat} (hd : decode M.2.1 pc = .ok (.getfield idx, 3)) (hw : Cond.fieldLink M.1.cls idx "GreatStore" "today" "I" ∈ gw) (kk : V σ M d bc bs (pc + 3) lv (aI (gI h 0 i 10) :: st) h P) : V σ M d bc bs pc lv (aR 0 i :: st) h P := V_getI (T := TX9) (k := 10) (by decide) rt_0 rfl (by decide) rfl hd hw kk
theorem PI_0_10 {i idx : Nat} {v : Int32} (hd : decode M.2.1 pc = .ok (.putfield idx, 3)) (hw : Cond.fieldLink M.1.cls idx "GreatStore" "today" "I" ∈ gw) (kk : V σ M d bc bs (pc + 3) lv st (sI h 0 i 10 v) P) : V σ M d bc bs pc lv (aI v :: aR 0 i :: st) h P := V_putI (T := TX9) (k := 10) (by decide) rt_0 rfl (by decide) rfl (Or.inl rfl) hd hw kk
theorem GI_1_2 {i idx : Nat} (hd : decode M.2.1 pc = .ok (.getfield idx, 3)) (hw : Cond.fieldLink M.1.cls idx "java/util/ArrayList" "size" "I" ∈ gw) (kk : V σ M d bc bs (pc + 3) lv (aI (gI h 1 i 2) :: st) h P) : V σ M d bc bs pc lv (aR 1 i :: st) h P := V_getI (T := TJx4a65c) (k := 2) (by decide) rt_1 rfl (by decide) rfl hd hw kk
theorem PI_1_2 {i idx : Nat} {v : Int32} (hd : decode M.2.1 pc = .ok (.putfield idx, 3)) (hw : Cond.fieldLink M.1.cls idx "java/util/ArrayList" "size" "I" ∈ gw) (kk : V σ M d bc bs (pc + 3) lv st (sI h 1 i 2 v) P) : V σ M d bc bs pc lv (aI v :: aR 1 i :: st) h P := V_putI (T := TJx4a65c) (k := 2) (by decide) rt_1 rfl (by decide) rfl (Or.inl rfl) hd hw kk
theorem GI_2_2 {i idx : Nat} (hd : decode M.2.1 pc = .ok (.getfield idx, 3)) (hw : Cond.fieldLink M.1.cls idx "java/util/ArrayList" "size" "I" ∈ gw) (kk : V σ M d bc bs (pc + 3) lv (aI (gI h 2 i 2) :: st) h P) : V σ M d bc bs pc lv (aR 2 i :: st) h P := V_getI (T := TJx4a65c) (k := 2) (by decide) rt_2 rfl (by decide) rfl hd hw kk
theorem PI_2_2 {i idx : Nat} {v : Int32} (hd : decode M.2.1 pc = .ok (.putfield idx, 3)) (hw : Cond.fieldLink M.1.cls idx "java/util/ArrayList" "size" "I" ∈ gw) (kk : V σ M d bc bs (pc + 3) lv st (sI h 2 i 2 v) P) : V σ M d bc bs pc lv (aI v :: aR 2 i :: st) h P := V_putI (T := TJx4a65c) (k := 2) (by decide) rt_2 rfl (by decide) rfl (Or.inl rfl) hd hw kk
theorem GS_3_0 {i idx : Nat} (hd : decode M.2.1 pc = .ok (.getfield idx, 3)) (hw : Cond.fieldLink M.1.cls idx "GreatStore$Van" "houses" "[I" ∈ gw) (kk : V true M d bc bs (pc + 3) lv (aR 4 i :: st) h P) : V true M d bc bs pc lv (aR 3 i :: st) h P := V_getR (T := TX8) (k := 0) (some (4, i)) (by decide) rt_3 rfl (by decide) rfl hd hw rfl kk
theorem GS_3_1 {i idx : Nat} (hd : decode M.2.1 pc = .ok (.getfield idx, 3)) (hw : Cond.fieldLink M.1.cls idx "GreatStore$Van" "asked" "[Z" ∈ gw) (kk : V true M d bc bs (pc + 3) lv (aR 5 i :: st) h P) : V true M d bc bs pc lv (aR 3 i :: st) h P := V_getR (T := TX8) (k := 1) (some (5, i)) (by decide) rt_3 rfl (by decide) rfl hd hw rfl kk
theorem GI_3_2 {i idx : Nat} (hd : decode M.2.1 pc = .ok (.getfield idx, 3)) (hw : Cond.fieldLink M.1.cls idx "GreatStore$Van" "houseCount" "I" ∈ gw) (kk : V σ M d bc bs (pc + 3) lv (aI (gI h 3 i 2) :: st) h P) : V σ M d bc bs pc lv (aR 3 i :: st) h P := V_getI (T := TX8) (k := 2) (by decide) rt_3 rfl (by decide) rfl hd hw kk
theorem PI_3_2 {i idx : Nat} {v : Int32} (hd : decode M.2.1 pc = .ok (.putfield idx, 3)) (hw : Cond.fieldLink M.1.cls idx "GreatStore$Van" "houseCount" "I" ∈ gw) (kk : V σ M d bc bs (pc + 3) lv st (sI h 3 i 2 v) P) : V σ M d bc bs pc lv (aI v :: aR 3 i :: st) h P := V_putI (T := TX8) (k := 2) (by decide) rt_3 rfl (by decide) rfl (Or.inl rfl) hd hw kk
theorem GI_3_3 {i idx : Nat} (hd : decode M.2.1 pc = .ok (.getfield idx, 3)) (hw : Cond.fieldLink M.1.cls idx "GreatStore$Van" "roundsToday" "I" ∈ gw) (kk : V σ M d bc bs (pc + 3) lv (aI (gI h 3 i 3) :: st) h P) : V σ M d bc bs pc lv (aR 3 i :: st) h P := V_getI (T := TX8) (k := 3) (by decide) rt_3 rfl (by decide) rfl hd hw kk
theorem PI_3_3 {i idx : Nat} {v : Int32} (hd : decode M.2.1 pc = .ok (.putfield idx, 3)) (hw : Cond.fieldLink M.1.cls idx "GreatStore$Van" "roundsToday" "I" ∈ gw) (kk : V σ M d bc bs (pc + 3) lv st (sI h 3 i 3 v) P) : V σ M d bc bs pc lv (aI v :: aR 3 i :: st) h P := V_putI (T := TX8) (k := 3) (by decide) rt_3 rfl (by decide) rfl (Or.inl rfl) hd hw kk
theorem GS_6_0 {i idx : Nat} (hd : decode M.2.1 pc = .ok (.getfield idx, 3)) (hw : Cond.fieldLink M.1.cls idx "GreatStore$Tape" "bytes" "[B" ∈ gw) (kk : V true M d bc bs (pc + 3) lv (aR 7 i :: st) h P) : V true M d bc bs pc lv (aR 6 i :: st) h P := V_getR (T := TX5) (k := 0) (some (7, i)) (by decide) rt_6 rfl (by decide) rfl hd hw rfl kk
theorem GI_6_1 {i idx : Nat} (hd : decode M.2.1 pc = .ok (.getfield idx, 3)) (hw : Cond.fieldLink M.1.cls idx "GreatStore$Tape" "length" "I" ∈ gw) (kk : V σ M d bc bs (pc + 3) lv (aI (gI h 6 i 1) :: st) h P) : V σ M d bc bs pc lv (aR 6 i :: st) h P := V_getI (T := TX5) (k := 1) (by decide) rt_6 rfl (by decide) rfl hd hw kk
theorem PI_6_1 {i idx : Nat} {v : Int32} (hd : decode M.2.1 pc = .ok (.putfield idx, 3)) (hw : Cond.fieldLink M.1.cls idx "GreatStore$Tape" "length" "I" ∈ gw) (kk : V σ M d bc bs (pc + 3) lv st (sI h 6 i 1 v) P) : V σ M d bc bs pc lv (aI v :: aR 6 i :: st) h P := V_putI (T := TX5) (k := 1) (by decide) rt_6 rfl (by decide) rfl (Or.inl rfl) hd hw kk
theorem GS_8_0 {i idx : Nat} (hd : decode M.2.1 pc = .ok (.getfield idx, 3)) (hw : Cond.fieldLink M.1.cls idx "GreatStore$Tokens" "kinds" "[I" ∈ gw) (kk : V true M d bc bs (pc + 3) lv (aR 9 i :: st) h P) : V true M d bc bs pc lv (aR 8 i :: st) h P := V_getR (T := TX7) (k := 0) (some (9, i)) (by decide) rt_8 rfl (by decide) rfl hd hw rfl kk
theorem GS_8_1 {i idx : Nat} (hd : decode M.2.1 pc = .ok (.getfield idx, 3)) (hw : Cond.fieldLink M.1.cls idx "GreatStore$Tokens" "places" "[I" ∈ gw) (kk : V true M d bc bs (pc + 3) lv (aR 10 i :: st) h P) : V true M d bc bs pc lv (aR 8 i :: st) h P := V_getR (T := TX7) (k := 1) (some (10, i)) (by decide) rt_8 rfl (by decide) rfl hd hw rfl kk
theorem GS_8_2 {i idx : Nat} (hd : decode M.2.1 pc = .ok (.getfield idx, 3)) (hw : Cond.fieldLink M.1.cls idx "GreatStore$Tokens" "numbers" "[I" ∈ gw) (kk : V true M d bc bs (pc + 3) lv (aR 11 i :: st) h P) : V true M d bc bs pc lv (aR 8 i :: st) h P := V_getR (T := TX7) (k := 2) (some (11, i)) (by decide) rt_8 rfl (by decide) rfl hd hw rfl kk
theorem GI_8_3 {i idx : Nat} (hd : decode M.2.1 pc = .ok (.getfield idx, 3)) (hw : Cond.fieldLink M.1.cls idx "GreatStore$Tokens" "tokenCount" "I" ∈ gw) (kk : V σ M d bc bs (pc + 3) lv (aI (gI h 8 i 3) :: st) h P) : V σ M d bc bs pc lv (aR 8 i :: st) h P := V_getI (T := TX7) (k := 3) (by decide) rt_8 rfl (by decide) rfl hd hw kk
theorem PI_8_3 {i idx : Nat} {v : Int32} (hd : decode M.2.1 pc = .ok (.putfield idx, 3)) (hw : Cond.fieldLink M.1.cls idx "GreatStore$Tokens" "tokenCount" "I" ∈ gw) (kk : V σ M d bc bs (pc + 3) lv st (sI h 8 i 3 v) P) : V σ M d bc bs pc lv (aI v :: aR 8 i :: st) h P := V_putI (T := TX7) (k := 3) (by decide) rt_8 rfl (by decide) rfl (Or.inl rfl) hd hw kk
theorem GS_12_0 {i idx : Nat} (hd : decode M.2.1 pc = .ok (.getfield idx, 3)) (hw : Cond.fieldLink M.1.cls idx "GreatStore$Rule" "steps" "[I" ∈ gw) (kk : V true M d bc bs (pc + 3) lv (aR 13 i :: st) h P) : V true M d bc bs pc lv (aR 12 i :: st) h P := V_getR (T := TX1) (k := 0) (some (13, i)) (by decide) rt_12 rfl (by decide) rfl hd hw rfl kk
theorem GS_12_1 {i idx : Nat} (hd : decode M.2.1 pc = .ok (.getfield idx, 3)) (hw : Cond.fieldLink M.1.cls idx "GreatStore$Rule" "numbers" "[I" ∈ gw) (kk : V true M d bc bs (pc + 3) lv (aR 14 i :: st) h P) : V true M d bc bs pc lv (aR 12 i :: st) h P := V_getR (T := TX1) (k := 1) (some (14, i)) (by decide) rt_12 rfl (by decide) rfl hd hw rfl kk
theorem GS_12_2 {i idx : Nat} (hd : decode M.2.1 pc = .ok (.getfield idx, 3)) (hw : Cond.fieldLink M.1.cls idx "GreatStore$Rule" "payAt" "[I" ∈ gw) (kk : V true M d bc bs (pc + 3) lv (aR 15 i :: st) h P) : V true M d bc bs pc lv (aR 12 i :: st) h P := V_getR (T := TX1) (k := 2) (some (15, i)) (by decide) rt_12 rfl (by decide) rfl hd hw rfl kk
theorem GS_12_3 {i idx : Nat} (hd : decode M.2.1 pc = .ok (.getfield idx, 3)) (hw : Cond.fieldLink M.1.cls idx "GreatStore$Rule" "whenAt" "[I" ∈ gw) (kk : V true M d bc bs (pc + 3) lv (aR 16 i :: st) h P) : V true M d bc bs pc lv (aR 12 i :: st) h P := V_getR (T := TX1) (k := 3) (some (16, i)) (by decide) rt_12 rfl (by decide) rfl hd hw rfl kk
theorem GS_12_4 {i idx : Nat} (hd : decode M.2.1 pc = .ok (.getfield idx, 3)) (hw : Cond.fieldLink M.1.cls idx "GreatStore$Rule" "endAt" "[I" ∈ gw) (kk : V true M d bc bs (pc + 3) lv (aR 17 i :: st) h P) : V true M d bc bs pc lv (aR 12 i :: st) h P := V_getR (T := TX1) (k := 4) (some (17, i)) (by decide) rt_12 rfl (by decide) rfl hd hw rfl kk
theorem GS_12_5 {i idx : Nat} (hd : decode M.2.1 pc = .ok (.getfield idx, 3)) (hw : Cond.fieldLink M.1.cls idx "GreatStore$Rule" "stack" "[I" ∈ gw) (kk : V true M d bc bs (pc + 3) lv (aR 18 i :: st) h P) : V true M d bc bs pc lv (aR 12 i :: st) h P := V_getR (T := TX1) (k := 5) (some (18, i)) (by decide) rt_12 rfl (by decide) rfl hd hw rfl kk
theorem GI_12_6 {i idx : Nat} (hd : decode M.2.1 pc = .ok (.getfield idx, 3)) (hw : Cond.fieldLink M.1.cls idx "GreatStore$Rule" "stepCount" "I" ∈ gw) (kk : V σ M d bc bs (pc + 3) lv (aI (gI h 12 i 6) :: st) h P) : V σ M d bc bs pc lv (aR 12 i :: st) h P := V_getI (T := TX1) (k := 6) (by decide) rt_12 rfl (by decide) rfl hd hw kk
theorem PI_12_6 {i idx : Nat} {v : Int32} (hd : decode M.2.1 pc = .ok (.putfield idx, 3)) (hw : Cond.fieldLink M.1.cls idx "GreatStore$Rule" "stepCount" "I" ∈ gw) (kk : V σ M d bc bs (pc + 3) lv st (sI h 12 i 6 v) P) : V σ M d bc bs pc lv (aI v :: aR 12 i :: st) h P := V_putI (T := TX1) (k := 6) (by decide) rt_12 rfl (by decide) rfl (Or.inl rfl) hd hw kk
theorem GI_12_7 {i idx : Nat} (hd : decode M.2.1 pc = .ok (.getfield idx, 3)) (hw : Cond.fieldLink M.1.cls idx "GreatStore$Rule" "lineCount" "I" ∈ gw) (kk : V σ M d bc bs (pc + 3) lv (aI (gI h 12 i 7) :: st) h P) : V σ M d bc bs pc lv (aR 12 i :: st) h P := V_getI (T := TX1) (k := 7) (by decide) rt_12 rfl (by decide) rfl hd hw kk
theorem PI_12_7 {i idx : Nat} {v : Int32} (hd : decode M.2.1 pc = .ok (.putfield idx, 3)) (hw : Cond.fieldLink M.1.cls idx "GreatStore$Rule" "lineCount" "I" ∈ gw) (kk : V σ M d bc bs (pc + 3) lv st (sI h 12 i 7 v) P) : V σ M d bc bs pc lv (aI v :: aR 12 i :: st) h P := V_putI (T := TX1) (k := 7) (by decide) rt_12 rfl (by decide) rfl (Or.inl rfl) hd hw kk
theorem GI_12_8 {i idx : Nat} (hd : decode M.2.1 pc = .ok (.getfield idx, 3)) (hw : Cond.fieldLink M.1.cls idx "GreatStore$Rule" "height" "I" ∈ gw) (kk : V σ M d bc bs (pc + 3) lv (aI (gI h 12 i 8) :: st) h P) : V σ M d bc bs pc lv (aR 12 i :: st) h P := V_getI (T := TX1) (k := 8) (by decide) rt_12 rfl (by decide) rfl hd hw kk
theorem PI_12_8 {i idx : Nat} {v : Int32} (hd : decode M.2.1 pc = .ok (.putfield idx, 3)) (hw : Cond.fieldLink M.1.cls idx "GreatStore$Rule" "height" "I" ∈ gw) (kk : V σ M d bc bs (pc + 3) lv st (sI h 12 i 8 v) P) : V σ M d bc bs pc lv (aI v :: aR 12 i :: st) h P := V_putI (T := TX1) (k := 8) (by decide) rt_12 rfl (by decide) rfl (Or.inl rfl) hd hw kk
theorem GS_19_0 {i idx : Nat} (hd : decode M.2.1 pc = .ok (.getfield idx, 3)) (hw : Cond.fieldLink M.1.cls idx "GreatStore$RuleReader" "tokens" "LGreatStore$Tokens;" ∈ gw) (kk : V true M d bc bs (pc + 3) lv (aR 8 i :: st) h P) : V true M d bc bs pc lv (aR 19 i :: st) h P := V_getR (T := TX2) (k := 0) (some (8, i)) (by decide) rt_19 rfl (by decide) rfl hd hw rfl kk
theorem GI_19_2 {i idx : Nat} (hd : decode M.2.1 pc = .ok (.getfield idx, 3)) (hw : Cond.fieldLink M.1.cls idx "GreatStore$RuleReader" "at" "I" ∈ gw) (kk : V σ M d bc bs (pc + 3) lv (aI (gI h 19 i 2) :: st) h P) : V σ M d bc bs pc lv (aR 19 i :: st) h P := V_getI (T := TX2) (k := 2) (by decide) rt_19 rfl (by decide) rfl hd hw kk
theorem PI_19_2 {i idx : Nat} {v : Int32} (hd : decode M.2.1 pc = .ok (.putfield idx, 3)) (hw : Cond.fieldLink M.1.cls idx "GreatStore$RuleReader" "at" "I" ∈ gw) (kk : V σ M d bc bs (pc + 3) lv st (sI h 19 i 2 v) P) : V σ M d bc bs pc lv (aI v :: aR 19 i :: st) h P := V_putI (T := TX2) (k := 2) (by decide) rt_19 rfl (by decide) rfl (Or.inl rfl) hd hw kk
theorem GI_19_3 {i idx : Nat} (hd : decode M.2.1 pc = .ok (.getfield idx, 3)) (hw : Cond.fieldLink M.1.cls idx "GreatStore$RuleReader" "fault" "I" ∈ gw) (kk : V σ M d bc bs (pc + 3) lv (aI (gI h 19 i 3) :: st) h P) : V σ M d bc bs pc lv (aR 19 i :: st) h P := V_getI (T := TX2) (k := 3) (by decide) rt_19 rfl (by decide) rfl hd hw kk
theorem PI_19_3 {i idx : Nat} {v : Int32} (hd : decode M.2.1 pc = .ok (.putfield idx, 3)) (hw : Cond.fieldLink M.1.cls idx "GreatStore$RuleReader" "fault" "I" ∈ gw) (kk : V σ M d bc bs (pc + 3) lv st (sI h 19 i 3 v) P) : V σ M d bc bs pc lv (aI v :: aR 19 i :: st) h P := V_putI (T := TX2) (k := 3) (by decide) rt_19 rfl (by decide) rfl (Or.inl rfl) hd hw kk
theorem GI_19_4 {i idx : Nat} (hd : decode M.2.1 pc = .ok (.getfield idx, 3)) (hw : Cond.fieldLink M.1.cls idx "GreatStore$RuleReader" "place" "I" ∈ gw) (kk : V σ M d bc bs (pc + 3) lv (aI (gI h 19 i 4) :: st) h P) : V σ M d bc bs pc lv (aR 19 i :: st) h P := V_getI (T := TX2) (k := 4) (by decide) rt_19 rfl (by decide) rfl hd hw kk
theorem PI_19_4 {i idx : Nat} {v : Int32} (hd : decode M.2.1 pc = .ok (.putfield idx, 3)) (hw : Cond.fieldLink M.1.cls idx "GreatStore$RuleReader" "place" "I" ∈ gw) (kk : V σ M d bc bs (pc + 3) lv st (sI h 19 i 4 v) P) : V σ M d bc bs pc lv (aI v :: aR 19 i :: st) h P := V_putI (T := TX2) (k := 4) (by decide) rt_19 rfl (by decide) rfl (Or.inl rfl) hd hw kk
theorem GI_20_0 {i idx : Nat} (hd : decode M.2.1 pc = .ok (.getfield idx, 3)) (hw : Cond.fieldLink M.1.cls idx "GreatStore$Takings" "sum" "I" ∈ gw) (kk : V σ M d bc bs (pc + 3) lv (aI (gI h 20 i 0) :: st) h P) : V σ M d bc bs pc lv (aR 20 i :: st) h P := V_getI (T := TX4) (k := 0) (by decide) rt_20 rfl (by decide) rfl hd hw kk
theorem PI_20_0 {i idx : Nat} {v : Int32} (hd : decode M.2.1 pc = .ok (.putfield idx, 3)) (hw : Cond.fieldLink M.1.cls idx "GreatStore$Takings" "sum" "I" ∈ gw) (kk : V σ M d bc bs (pc + 3) lv st (sI h 20 i 0 v) P) : V σ M d bc bs pc lv (aI v :: aR 20 i :: st) h P := V_putI (T := TX4) (k := 0) (by decide) rt_20 rfl (by decide) rfl (Or.inl rfl) hd hw kk
theorem GI_20_1 {i idx : Nat} (hd : decode M.2.1 pc = .ok (.getfield idx, 3)) (hw : Cond.fieldLink M.1.cls idx "GreatStore$Takings" "slipCount" "I" ∈ gw) (kk : V σ M d bc bs (pc + 3) lv (aI (gI h 20 i 1) :: st) h P) : V σ M d bc bs pc lv (aR 20 i :: st) h P := V_getI (T := TX4) (k := 1) (by decide) rt_20 rfl (by decide) rfl hd hw kk
theorem PI_20_1 {i idx : Nat} {v : Int32} (hd : decode M.2.1 pc = .ok (.putfield idx, 3)) (hw : Cond.fieldLink M.1.cls idx "GreatStore$Takings" "slipCount" "I" ∈ gw) (kk : V σ M d bc bs (pc + 3) lv st (sI h 20 i 1 v) P) : V σ M d bc bs pc lv (aI v :: aR 20 i :: st) h P := V_putI (T := TX4) (k := 1) (by decide) rt_20 rfl (by decide) rfl (Or.inl rfl) hd hw kk
theorem GI_20_2 {i idx : Nat} (hd : decode M.2.1 pc = .ok (.getfield idx, 3)) (hw : Cond.fieldLink M.1.cls idx "GreatStore$Takings" "cameBack" "I" ∈ gw) (kk : V σ M d bc bs (pc + 3) lv (aI (gI h 20 i 2) :: st) h P) : V σ M d bc bs pc lv (aR 20 i :: st) h P := V_getI (T := TX4) (k := 2) (by decide) rt_20 rfl (by decide) rfl hd hw kk
theorem PI_20_2 {i idx : Nat} {v : Int32} (hd : decode M.2.1 pc = .ok (.putfield idx, 3)) (hw : Cond.fieldLink M.1.cls idx "GreatStore$Takings" "cameBack" "I" ∈ gw) (kk : V σ M d bc bs (pc + 3) lv st (sI h 20 i 2 v) P) : V σ M d bc bs pc lv (aI v :: aR 20 i :: st) h P := V_putI (T := TX4) (k := 2) (by decide) rt_20 rfl (by decide) rfl (Or.inl rfl) hd hw kk
theorem GI_20_3 {i idx : Nat} (hd : decode M.2.1 pc = .ok (.getfield idx, 3)) (hw : Cond.fieldLink M.1.cls idx "GreatStore$Takings" "month" "I" ∈ gw) (kk : V σ M d bc bs (pc + 3) lv (aI (gI h 20 i 3) :: st) h P) : V σ M d bc bs pc lv (aR 20 i :: st) h P := V_getI (T := TX4) (k := 3) (by decide) rt_20 rfl (by decide) rfl hd hw kk
theorem PI_20_3 {i idx : Nat} {v : Int32} (hd : decode M.2.1 pc = .ok (.putfield idx, 3)) (hw : Cond.fieldLink M.1.cls idx "GreatStore$Takings" "month" "I" ∈ gw) (kk : V σ M d bc bs (pc + 3) lv st (sI h 20 i 3 v) P) : V σ M d bc bs pc lv (aI v :: aR 20 i :: st) h P := V_putI (T := TX4) (k := 3) (by decide) rt_20 rfl (by decide) rfl (Or.inl rfl) hd hw kk
theorem GS_21_0 {i idx : Nat} (hd : decode M.2.1 pc = .ok (.getfield idx, 3)) (hw : Cond.fieldLink M.1.cls idx "GreatStore$Cuts" "prices" "[I" ∈ gw) (kk : V true M d bc bs (pc + 3) lv (aR 22 i :: st) h P) : V true M d bc bs pc lv (aR 21 i :: st) h P := V_getR (T := TX0) (k := 0) (some (22, i)) (by decide) rt_21 rfl (by decide) rfl hd hw rfl kk
theorem GS_21_1 {i idx : Nat} (hd : decode M.2.1 pc = .ok (.getfield idx, 3)) (hw : Cond.fieldLink M.1.cls idx "GreatStore$Cuts" "wants" "[I" ∈ gw) (kk : V true M d bc bs (pc + 3) lv (aR 23 i :: st) h P) : V true M d bc bs pc lv (aR 21 i :: st) h P := V_getR (T := TX0) (k := 1) (some (23, i)) (by decide) rt_21 rfl (by decide) rfl hd hw rfl kk
theorem GS_21_2 {i idx : Nat} (hd : decode M.2.1 pc = .ok (.getfield idx, 3)) (hw : Cond.fieldLink M.1.cls idx "GreatStore$Cuts" "row" "[I" ∈ gw) (kk : V true M d bc bs (pc + 3) lv (aR 24 i :: st) h P) : V true M d bc bs pc lv (aR 21 i :: st) h P := V_getR (T := TX0) (k := 2) (some (24, i)) (by decide) rt_21 rfl (by decide) rfl hd hw rfl kk
theorem GS_21_3 {i idx : Nat} (hd : decode M.2.1 pc = .ok (.getfield idx, 3)) (hw : Cond.fieldLink M.1.cls idx "GreatStore$Cuts" "bestRow" "[I" ∈ gw) (kk : V true M d bc bs (pc + 3) lv (aR 25 i :: st) h P) : V true M d bc bs pc lv (aR 21 i :: st) h P := V_getR (T := TX0) (k := 3) (some (25, i)) (by decide) rt_21 rfl (by decide) rfl hd hw rfl kk
theorem GI_21_4 {i idx : Nat} (hd : decode M.2.1 pc = .ok (.getfield idx, 3)) (hw : Cond.fieldLink M.1.cls idx "GreatStore$Cuts" "bestSum" "I" ∈ gw) (kk : V σ M d bc bs (pc + 3) lv (aI (gI h 21 i 4) :: st) h P) : V σ M d bc bs pc lv (aR 21 i :: st) h P := V_getI (T := TX0) (k := 4) (by decide) rt_21 rfl (by decide) rfl hd hw kk
theorem PI_21_4 {i idx : Nat} {v : Int32} (hd : decode M.2.1 pc = .ok (.putfield idx, 3)) (hw : Cond.fieldLink M.1.cls idx "GreatStore$Cuts" "bestSum" "I" ∈ gw) (kk : V σ M d bc bs (pc + 3) lv st (sI h 21 i 4 v) P) : V σ M d bc bs pc lv (aI v :: aR 21 i :: st) h P := V_putI (T := TX0) (k := 4) (by decide) rt_21 rfl (by decide) rfl (Or.inl rfl) hd hw kk
theorem GI_21_5 {i idx : Nat} (hd : decode M.2.1 pc = .ok (.getfield idx, 3)) (hw : Cond.fieldLink M.1.cls idx "GreatStore$Cuts" "bestLeft" "I" ∈ gw) (kk : V σ M d bc bs (pc + 3) lv (aI (gI h 21 i 5) :: st) h P) : V σ M d bc bs pc lv (aR 21 i :: st) h P := V_getI (T := TX0) (k := 5) (by decide) rt_21 rfl (by decide) rfl hd hw kk
theorem PI_21_5 {i idx : Nat} {v : Int32} (hd : decode M.2.1 pc = .ok (.putfield idx, 3)) (hw : Cond.fieldLink M.1.cls idx "GreatStore$Cuts" "bestLeft" "I" ∈ gw) (kk : V σ M d bc bs (pc + 3) lv st (sI h 21 i 5 v) P) : V σ M d bc bs pc lv (aI v :: aR 21 i :: st) h P := V_putI (T := TX0) (k := 5) (by decide) rt_21 rfl (by decide) rfl (Or.inl rfl) hd hw kk
theorem GI_26_0 {i idx : Nat} (hd : decode M.2.1 pc = .ok (.getfield idx, 3)) (hw : Cond.fieldLink M.1.cls idx "GreatStoreModel" "day" "I" ∈ gw) (kk : V σ M d bc bs (pc + 3) lv (aI (gI h 26 i 0) :: st) h P) : V σ M d bc bs pc lv (aR 26 i :: st) h P := V_getI (T := TX10) (k := 0) (by decide) rt_26 rfl (by decide) rfl hd hw kk
theorem PI_26_0 {i idx : Nat} {v : Int32} (hd : decode M.2.1 pc = .ok (.putfield idx, 3)) (hw : Cond.fieldLink M.1.cls idx "GreatStoreModel" "day" "I" ∈ gw) (kk : V σ M d bc bs (pc + 3) lv st (sI h 26 i 0 v) P) : V σ M d bc bs pc lv (aI v :: aR 26 i :: st) h P := V_putI (T := TX10) (k := 0) (by decide) rt_26 rfl (by decide) rfl (Or.inl rfl) hd hw kk
theorem GI_26_1 {i idx : Nat} (hd : decode M.2.1 pc = .ok (.getfield idx, 3)) (hw : Cond.fieldLink M.1.cls idx "GreatStoreModel" "things" "I" ∈ gw) (kk : V σ M d bc bs (pc + 3) lv (aI (gI h 26 i 1) :: st) h P) : V σ M d bc bs pc lv (aR 26 i :: st) h P := V_getI (T := TX10) (k := 1) (by decide) rt_26 rfl (by decide) rfl hd hw kk
theorem PI_26_1 {i idx : Nat} {v : Int32} (hd : decode M.2.1 pc = .ok (.putfield idx, 3)) (hw : Cond.fieldLink M.1.cls idx "GreatStoreModel" "things" "I" ∈ gw) (kk : V σ M d bc bs (pc + 3) lv st (sI h 26 i 1 v) P) : V σ M d bc bs pc lv (aI v :: aR 26 i :: st) h P := V_putI (T := TX10) (k := 1) (by decide) rt_26 rfl (by decide) rfl (Or.inl rfl) hd hw kk
theorem GI_26_2 {i idx : Nat} (hd : decode M.2.1 pc = .ok (.getfield idx, 3)) (hw : Cond.fieldLink M.1.cls idx "GreatStoreModel" "slips" "I" ∈ gw) (kk : V σ M d bc bs (pc + 3) lv (aI (gI h 26 i 2) :: st) h P) : V σ M d bc bs pc lv (aR 26 i :: st) h P := V_getI (T := TX10) (k := 2) (by decide) rt_26 rfl (by decide) rfl hd hw kk
theorem PI_26_2 {i idx : Nat} {v : Int32} (hd : decode M.2.1 pc = .ok (.putfield idx, 3)) (hw : Cond.fieldLink M.1.cls idx "GreatStoreModel" "slips" "I" ∈ gw) (kk : V σ M d bc bs (pc + 3) lv st (sI h 26 i 2 v) P) : V σ M d bc bs pc lv (aI v :: aR 26 i :: st) h P := V_putI (T := TX10) (k := 2) (by decide) rt_26 rfl (by decide) rfl (Or.inl rfl) hd hw kk
theorem GS_26_3 {i idx : Nat} (hd : decode M.2.1 pc = .ok (.getfield idx, 3)) (hw : Cond.fieldLink M.1.cls idx "GreatStoreModel" "tag" "[I" ∈ gw) (kk : V true M d bc bs (pc + 3) lv (aR 27 i :: st) h P) : V true M d bc bs pc lv (aR 26 i :: st) h P := V_getR (T := TX10) (k := 3) (some (27, i)) (by decide) rt_26 rfl (by decide) rfl hd hw rfl kk
theorem GS_26_4 {i idx : Nat} (hd : decode M.2.1 pc = .ok (.getfield idx, 3)) (hw : Cond.fieldLink M.1.cls idx "GreatStoreModel" "stock" "[I" ∈ gw) (kk : V true M d bc bs (pc + 3) lv (aR 28 i :: st) h P) : V true M d bc bs pc lv (aR 26 i :: st) h P := V_getR (T := TX10) (k := 4) (some (28, i)) (by decide) rt_26 rfl (by decide) rfl hd hw rfl kk
theorem GS_26_5 {i idx : Nat} (hd : decode M.2.1 pc = .ok (.getfield idx, 3)) (hw : Cond.fieldLink M.1.cls idx "GreatStoreModel" "raised" "[I" ∈ gw) (kk : V true M d bc bs (pc + 3) lv (aR 29 i :: st) h P) : V true M d bc bs pc lv (aR 26 i :: st) h P := V_getR (T := TX10) (k := 5) (some (29, i)) (by decide) rt_26 rfl (by decide) rfl hd hw rfl kk
theorem GS_26_6 {i idx : Nat} (hd : decode M.2.1 pc = .ok (.getfield idx, 3)) (hw : Cond.fieldLink M.1.cls idx "GreatStoreModel" "lost" "[I" ∈ gw) (kk : V true M d bc bs (pc + 3) lv (aR 30 i :: st) h P) : V true M d bc bs pc lv (aR 26 i :: st) h P := V_getR (T := TX10) (k := 6) (some (30, i)) (by decide) rt_26 rfl (by decide) rfl hd hw rfl kk
theorem GS_26_7 {i idx : Nat} (hd : decode M.2.1 pc = .ok (.getfield idx, 3)) (hw : Cond.fieldLink M.1.cls idx "GreatStoreModel" "came" "[I" ∈ gw) (kk : V true M d bc bs (pc + 3) lv (aR 31 i :: st) h P) : V true M d bc bs pc lv (aR 26 i :: st) h P := V_getR (T := TX10) (k := 7) (some (31, i)) (by decide) rt_26 rfl (by decide) rfl hd hw rfl kk
theorem GS_26_8 {i idx : Nat} (hd : decode M.2.1 pc = .ok (.getfield idx, 3)) (hw : Cond.fieldLink M.1.cls idx "GreatStoreModel" "kind" "[I" ∈ gw) (kk : V true M d bc bs (pc + 3) lv (aR 32 i :: st) h P) : V true M d bc bs pc lv (aR 26 i :: st) h P := V_getR (T := TX10) (k := 8) (some (32, i)) (by decide) rt_26 rfl (by decide) rfl hd hw rfl kk
theorem GS_26_9 {i idx : Nat} (hd : decode M.2.1 pc = .ok (.getfield idx, 3)) (hw : Cond.fieldLink M.1.cls idx "GreatStoreModel" "clerk" "[I" ∈ gw) (kk : V true M d bc bs (pc + 3) lv (aR 33 i :: st) h P) : V true M d bc bs pc lv (aR 26 i :: st) h P := V_getR (T := TX10) (k := 9) (some (33, i)) (by decide) rt_26 rfl (by decide) rfl hd hw rfl kk
theorem GS_26_10 {i idx : Nat} (hd : decode M.2.1 pc = .ok (.getfield idx, 3)) (hw : Cond.fieldLink M.1.cls idx "GreatStoreModel" "account" "[I" ∈ gw) (kk : V true M d bc bs (pc + 3) lv (aR 34 i :: st) h P) : V true M d bc bs pc lv (aR 26 i :: st) h P := V_getR (T := TX10) (k := 10) (some (34, i)) (by decide) rt_26 rfl (by decide) rfl hd hw rfl kk
theorem GS_26_11 {i idx : Nat} (hd : decode M.2.1 pc = .ok (.getfield idx, 3)) (hw : Cond.fieldLink M.1.cls idx "GreatStoreModel" "thingOf" "[I" ∈ gw) (kk : V true M d bc bs (pc + 3) lv (aR 35 i :: st) h P) : V true M d bc bs pc lv (aR 26 i :: st) h P := V_getR (T := TX10) (k := 11) (some (35, i)) (by decide) rt_26 rfl (by decide) rfl hd hw rfl kk
theorem GS_26_12 {i idx : Nat} (hd : decode M.2.1 pc = .ok (.getfield idx, 3)) (hw : Cond.fieldLink M.1.cls idx "GreatStoreModel" "pieces" "[I" ∈ gw) (kk : V true M d bc bs (pc + 3) lv (aR 36 i :: st) h P) : V true M d bc bs pc lv (aR 26 i :: st) h P := V_getR (T := TX10) (k := 12) (some (36, i)) (by decide) rt_26 rfl (by decide) rfl hd hw rfl kk
theorem GS_26_13 {i idx : Nat} (hd : decode M.2.1 pc = .ok (.getfield idx, 3)) (hw : Cond.fieldLink M.1.cls idx "GreatStoreModel" "houseOf" "[I" ∈ gw) (kk : V true M d bc bs (pc + 3) lv (aR 37 i :: st) h P) : V true M d bc bs pc lv (aR 26 i :: st) h P := V_getR (T := TX10) (k := 13) (some (37, i)) (by decide) rt_26 rfl (by decide) rfl hd hw rfl kk
theorem GS_26_14 {i idx : Nat} (hd : decode M.2.1 pc = .ok (.getfield idx, 3)) (hw : Cond.fieldLink M.1.cls idx "GreatStoreModel" "dayOf" "[I" ∈ gw) (kk : V true M d bc bs (pc + 3) lv (aR 38 i :: st) h P) : V true M d bc bs pc lv (aR 26 i :: st) h P := V_getR (T := TX10) (k := 14) (some (38, i)) (by decide) rt_26 rfl (by decide) rfl hd hw rfl kk
theorem GS_26_15 {i idx : Nat} (hd : decode M.2.1 pc = .ok (.getfield idx, 3)) (hw : Cond.fieldLink M.1.cls idx "GreatStoreModel" "toldOn" "[I" ∈ gw) (kk : V true M d bc bs (pc + 3) lv (aR 39 i :: st) h P) : V true M d bc bs pc lv (aR 26 i :: st) h P := V_getR (T := TX10) (k := 15) (some (39, i)) (by decide) rt_26 rfl (by decide) rfl hd hw rfl kk
theorem GS_26_16 {i idx : Nat} (hd : decode M.2.1 pc = .ok (.getfield idx, 3)) (hw : Cond.fieldLink M.1.cls idx "GreatStoreModel" "soldOn" "[I" ∈ gw) (kk : V true M d bc bs (pc + 3) lv (aR 40 i :: st) h P) : V true M d bc bs pc lv (aR 26 i :: st) h P := V_getR (T := TX10) (k := 16) (some (40, i)) (by decide) rt_26 rfl (by decide) rfl hd hw rfl kk
theorem GS_26_17 {i idx : Nat} (hd : decode M.2.1 pc = .ok (.getfield idx, 3)) (hw : Cond.fieldLink M.1.cls idx "GreatStoreModel" "backOn" "[I" ∈ gw) (kk : V true M d bc bs (pc + 3) lv (aR 41 i :: st) h P) : V true M d bc bs pc lv (aR 26 i :: st) h P := V_getR (T := TX10) (k := 17) (some (41, i)) (by decide) rt_26 rfl (by decide) rfl hd hw rfl kk
theorem GS_26_18 {i idx : Nat} (hd : decode M.2.1 pc = .ok (.getfield idx, 3)) (hw : Cond.fieldLink M.1.cls idx "GreatStoreModel" "round" "[I" ∈ gw) (kk : V true M d bc bs (pc + 3) lv (aR 42 i :: st) h P) : V true M d bc bs pc lv (aR 26 i :: st) h P := V_getR (T := TX10) (k := 18) (some (42, i)) (by decide) rt_26 rfl (by decide) rfl hd hw rfl kk
theorem GS_26_19 {i idx : Nat} (hd : decode M.2.1 pc = .ok (.getfield idx, 3)) (hw : Cond.fieldLink M.1.cls idx "GreatStoreModel" "worth" "[I" ∈ gw) (kk : V true M d bc bs (pc + 3) lv (aR 43 i :: st) h P) : V true M d bc bs pc lv (aR 26 i :: st) h P := V_getR (T := TX10) (k := 19) (some (43, i)) (by decide) rt_26 rfl (by decide) rfl hd hw rfl kk
theorem GI_26_20 {i idx : Nat} (hd : decode M.2.1 pc = .ok (.getfield idx, 3)) (hw : Cond.fieldLink M.1.cls idx "GreatStoreModel" "rounds" "I" ∈ gw) (kk : V σ M d bc bs (pc + 3) lv (aI (gI h 26 i 20) :: st) h P) : V σ M d bc bs pc lv (aR 26 i :: st) h P := V_getI (T := TX10) (k := 20) (by decide) rt_26 rfl (by decide) rfl hd hw kk
theorem PI_26_20 {i idx : Nat} {v : Int32} (hd : decode M.2.1 pc = .ok (.putfield idx, 3)) (hw : Cond.fieldLink M.1.cls idx "GreatStoreModel" "rounds" "I" ∈ gw) (kk : V σ M d bc bs (pc + 3) lv st (sI h 26 i 20 v) P) : V σ M d bc bs pc lv (aI v :: aR 26 i :: st) h P := V_putI (T := TX10) (k := 20) (by decide) rt_26 rfl (by decide) rfl (Or.inl rfl) hd hw kk
theorem GI_26_21 {i idx : Nat} (hd : decode M.2.1 pc = .ok (.getfield idx, 3)) (hw : Cond.fieldLink M.1.cls idx "GreatStoreModel" "housed" "I" ∈ gw) (kk : V σ M d bc bs (pc + 3) lv (aI (gI h 26 i 21) :: st) h P) : V σ M d bc bs pc lv (aR 26 i :: st) h P := V_getI (T := TX10) (k := 21) (by decide) rt_26 rfl (by decide) rfl hd hw kk
theorem PI_26_21 {i idx : Nat} {v : Int32} (hd : decode M.2.1 pc = .ok (.putfield idx, 3)) (hw : Cond.fieldLink M.1.cls idx "GreatStoreModel" "housed" "I" ∈ gw) (kk : V σ M d bc bs (pc + 3) lv st (sI h 26 i 21 v) P) : V σ M d bc bs pc lv (aI v :: aR 26 i :: st) h P := V_putI (T := TX10) (k := 21) (by decide) rt_26 rfl (by decide) rfl (Or.inl rfl) hd hw kk
theorem GS_26_22 {i idx : Nat} (hd : decode M.2.1 pc = .ok (.getfield idx, 3)) (hw : Cond.fieldLink M.1.cls idx "GreatStoreModel" "houses" "[I" ∈ gw) (kk : V true M d bc bs (pc + 3) lv (aR 44 i :: st) h P) : V true M d bc bs pc lv (aR 26 i :: st) h P := V_getR (T := TX10) (k := 22) (some (44, i)) (by decide) rt_26 rfl (by decide) rfl hd hw rfl kk
theorem GS_26_23 {i idx : Nat} (hd : decode M.2.1 pc = .ok (.getfield idx, 3)) (hw : Cond.fieldLink M.1.cls idx "GreatStoreModel" "asked" "[Z" ∈ gw) (kk : V true M d bc bs (pc + 3) lv (aR 45 i :: st) h P) : V true M d bc bs pc lv (aR 26 i :: st) h P := V_getR (T := TX10) (k := 23) (some (45, i)) (by decide) rt_26 rfl (by decide) rfl hd hw rfl kk
theorem GI_26_24 {i idx : Nat} (hd : decode M.2.1 pc = .ok (.getfield idx, 3)) (hw : Cond.fieldLink M.1.cls idx "GreatStoreModel" "lines" "I" ∈ gw) (kk : V σ M d bc bs (pc + 3) lv (aI (gI h 26 i 24) :: st) h P) : V σ M d bc bs pc lv (aR 26 i :: st) h P := V_getI (T := TX10) (k := 24) (by decide) rt_26 rfl (by decide) rfl hd hw kk
theorem PI_26_24 {i idx : Nat} {v : Int32} (hd : decode M.2.1 pc = .ok (.putfield idx, 3)) (hw : Cond.fieldLink M.1.cls idx "GreatStoreModel" "lines" "I" ∈ gw) (kk : V σ M d bc bs (pc + 3) lv st (sI h 26 i 24 v) P) : V σ M d bc bs pc lv (aI v :: aR 26 i :: st) h P := V_putI (T := TX10) (k := 24) (by decide) rt_26 rfl (by decide) rfl (Or.inl rfl) hd hw kk
theorem GI_26_25 {i idx : Nat} (hd : decode M.2.1 pc = .ok (.getfield idx, 3)) (hw : Cond.fieldLink M.1.cls idx "GreatStoreModel" "freshLines" "I" ∈ gw) (kk : V σ M d bc bs (pc + 3) lv (aI (gI h 26 i 25) :: st) h P) : V σ M d bc bs pc lv (aR 26 i :: st) h P := V_getI (T := TX10) (k := 25) (by decide) rt_26 rfl (by decide) rfl hd hw kk
theorem PI_26_25 {i idx : Nat} {v : Int32} (hd : decode M.2.1 pc = .ok (.putfield idx, 3)) (hw : Cond.fieldLink M.1.cls idx "GreatStoreModel" "freshLines" "I" ∈ gw) (kk : V σ M d bc bs (pc + 3) lv st (sI h 26 i 25 v) P) : V σ M d bc bs pc lv (aI v :: aR 26 i :: st) h P := V_putI (T := TX10) (k := 25) (by decide) rt_26 rfl (by decide) rfl (Or.inl rfl) hd hw kk
theorem GI_26_26 {i idx : Nat} (hd : decode M.2.1 pc = .ok (.getfield idx, 3)) (hw : Cond.fieldLink M.1.cls idx "GreatStoreModel" "freshSteps" "I" ∈ gw) (kk : V σ M d bc bs (pc + 3) lv (aI (gI h 26 i 26) :: st) h P) : V σ M d bc bs pc lv (aR 26 i :: st) h P := V_getI (T := TX10) (k := 26) (by decide) rt_26 rfl (by decide) rfl hd hw kk
theorem PI_26_26 {i idx : Nat} {v : Int32} (hd : decode M.2.1 pc = .ok (.putfield idx, 3)) (hw : Cond.fieldLink M.1.cls idx "GreatStoreModel" "freshSteps" "I" ∈ gw) (kk : V σ M d bc bs (pc + 3) lv st (sI h 26 i 26 v) P) : V σ M d bc bs pc lv (aI v :: aR 26 i :: st) h P := V_putI (T := TX10) (k := 26) (by decide) rt_26 rfl (by decide) rfl (Or.inl rfl) hd hw kk
theorem GS_26_27 {i idx : Nat} (hd : decode M.2.1 pc = .ok (.getfield idx, 3)) (hw : Cond.fieldLink M.1.cls idx "GreatStoreModel" "from" "[I" ∈ gw) (kk : V true M d bc bs (pc + 3) lv (aR 46 i :: st) h P) : V true M d bc bs pc lv (aR 26 i :: st) h P := V_getR (T := TX10) (k := 27) (some (46, i)) (by decide) rt_26 rfl (by decide) rfl hd hw rfl kk
theorem GS_26_28 {i idx : Nat} (hd : decode M.2.1 pc = .ok (.getfield idx, 3)) (hw : Cond.fieldLink M.1.cls idx "GreatStoreModel" "when" "[I" ∈ gw) (kk : V true M d bc bs (pc + 3) lv (aR 47 i :: st) h P) : V true M d bc bs pc lv (aR 26 i :: st) h P := V_getR (T := TX10) (k := 28) (some (47, i)) (by decide) rt_26 rfl (by decide) rfl hd hw rfl kk
theorem GS_26_29 {i idx : Nat} (hd : decode M.2.1 pc = .ok (.getfield idx, 3)) (hw : Cond.fieldLink M.1.cls idx "GreatStoreModel" "step" "[I" ∈ gw) (kk : V true M d bc bs (pc + 3) lv (aR 48 i :: st) h P) : V true M d bc bs pc lv (aR 26 i :: st) h P := V_getR (T := TX10) (k := 29) (some (48, i)) (by decide) rt_26 rfl (by decide) rfl hd hw rfl kk
theorem GS_26_30 {i idx : Nat} (hd : decode M.2.1 pc = .ok (.getfield idx, 3)) (hw : Cond.fieldLink M.1.cls idx "GreatStoreModel" "freshFrom" "[I" ∈ gw) (kk : V true M d bc bs (pc + 3) lv (aR 49 i :: st) h P) : V true M d bc bs pc lv (aR 26 i :: st) h P := V_getR (T := TX10) (k := 30) (some (49, i)) (by decide) rt_26 rfl (by decide) rfl hd hw rfl kk
theorem GS_26_31 {i idx : Nat} (hd : decode M.2.1 pc = .ok (.getfield idx, 3)) (hw : Cond.fieldLink M.1.cls idx "GreatStoreModel" "freshWhen" "[I" ∈ gw) (kk : V true M d bc bs (pc + 3) lv (aR 50 i :: st) h P) : V true M d bc bs pc lv (aR 26 i :: st) h P := V_getR (T := TX10) (k := 31) (some (50, i)) (by decide) rt_26 rfl (by decide) rfl hd hw rfl kk
theorem GS_26_32 {i idx : Nat} (hd : decode M.2.1 pc = .ok (.getfield idx, 3)) (hw : Cond.fieldLink M.1.cls idx "GreatStoreModel" "fresh" "[I" ∈ gw) (kk : V true M d bc bs (pc + 3) lv (aR 51 i :: st) h P) : V true M d bc bs pc lv (aR 26 i :: st) h P := V_getR (T := TX10) (k := 32) (some (51, i)) (by decide) rt_26 rfl (by decide) rfl hd hw rfl kk
theorem GS_26_33 {i idx : Nat} (hd : decode M.2.1 pc = .ok (.getfield idx, 3)) (hw : Cond.fieldLink M.1.cls idx "GreatStoreModel" "pile" "[I" ∈ gw) (kk : V true M d bc bs (pc + 3) lv (aR 52 i :: st) h P) : V true M d bc bs pc lv (aR 26 i :: st) h P := V_getR (T := TX10) (k := 33) (some (52, i)) (by decide) rt_26 rfl (by decide) rfl hd hw rfl kk
theorem GS_26_34 {i idx : Nat} (hd : decode M.2.1 pc = .ok (.getfield idx, 3)) (hw : Cond.fieldLink M.1.cls idx "GreatStoreModel" "tape" "[I" ∈ gw) (kk : V true M d bc bs (pc + 3) lv (aR 53 i :: st) h P) : V true M d bc bs pc lv (aR 26 i :: st) h P := V_getR (T := TX10) (k := 34) (some (53, i)) (by decide) rt_26 rfl (by decide) rfl hd hw rfl kk
theorem GI_26_35 {i idx : Nat} (hd : decode M.2.1 pc = .ok (.getfield idx, 3)) (hw : Cond.fieldLink M.1.cls idx "GreatStoreModel" "taped" "I" ∈ gw) (kk : V σ M d bc bs (pc + 3) lv (aI (gI h 26 i 35) :: st) h P) : V σ M d bc bs pc lv (aR 26 i :: st) h P := V_getI (T := TX10) (k := 35) (by decide) rt_26 rfl (by decide) rfl hd hw kk
theorem PI_26_35 {i idx : Nat} {v : Int32} (hd : decode M.2.1 pc = .ok (.putfield idx, 3)) (hw : Cond.fieldLink M.1.cls idx "GreatStoreModel" "taped" "I" ∈ gw) (kk : V σ M d bc bs (pc + 3) lv st (sI h 26 i 35 v) P) : V σ M d bc bs pc lv (aI v :: aR 26 i :: st) h P := V_putI (T := TX10) (k := 35) (by decide) rt_26 rfl (by decide) rfl (Or.inl rfl) hd hw kk
theorem GI_26_36 {i idx : Nat} (hd : decode M.2.1 pc = .ok (.getfield idx, 3)) (hw : Cond.fieldLink M.1.cls idx "GreatStoreModel" "at" "I" ∈ gw) (kk : V σ M d bc bs (pc + 3) lv (aI (gI h 26 i 36) :: st) h P) : V σ M d bc bs pc lv (aR 26 i :: st) h P := V_getI (T := TX10) (k := 36) (by decide) rt_26 rfl (by decide) rfl hd hw kk
theorem PI_26_36 {i idx : Nat} {v : Int32} (hd : decode M.2.1 pc = .ok (.putfield idx, 3)) (hw : Cond.fieldLink M.1.cls idx "GreatStoreModel" "at" "I" ∈ gw) (kk : V σ M d bc bs (pc + 3) lv st (sI h 26 i 36 v) P) : V σ M d bc bs pc lv (aI v :: aR 26 i :: st) h P := V_putI (T := TX10) (k := 36) (by decide) rt_26 rfl (by decide) rfl (Or.inl rfl) hd hw kk
theorem GI_26_37 {i idx : Nat} (hd : decode M.2.1 pc = .ok (.getfield idx, 3)) (hw : Cond.fieldLink M.1.cls idx "GreatStoreModel" "token" "I" ∈ gw) (kk : V σ M d bc bs (pc + 3) lv (aI (gI h 26 i 37) :: st) h P) : V σ M d bc bs pc lv (aR 26 i :: st) h P := V_getI (T := TX10) (k := 37) (by decide) rt_26 rfl (by decide) rfl hd hw kk
theorem PI_26_37 {i idx : Nat} {v : Int32} (hd : decode M.2.1 pc = .ok (.putfield idx, 3)) (hw : Cond.fieldLink M.1.cls idx "GreatStoreModel" "token" "I" ∈ gw) (kk : V σ M d bc bs (pc + 3) lv st (sI h 26 i 37 v) P) : V σ M d bc bs pc lv (aI v :: aR 26 i :: st) h P := V_putI (T := TX10) (k := 37) (by decide) rt_26 rfl (by decide) rfl (Or.inl rfl) hd hw kk
theorem GI_26_38 {i idx : Nat} (hd : decode M.2.1 pc = .ok (.getfield idx, 3)) (hw : Cond.fieldLink M.1.cls idx "GreatStoreModel" "tokenAt" "I" ∈ gw) (kk : V σ M d bc bs (pc + 3) lv (aI (gI h 26 i 38) :: st) h P) : V σ M d bc bs pc lv (aR 26 i :: st) h P := V_getI (T := TX10) (k := 38) (by decide) rt_26 rfl (by decide) rfl hd hw kk
theorem PI_26_38 {i idx : Nat} {v : Int32} (hd : decode M.2.1 pc = .ok (.putfield idx, 3)) (hw : Cond.fieldLink M.1.cls idx "GreatStoreModel" "tokenAt" "I" ∈ gw) (kk : V σ M d bc bs (pc + 3) lv st (sI h 26 i 38 v) P) : V σ M d bc bs pc lv (aI v :: aR 26 i :: st) h P := V_putI (T := TX10) (k := 38) (by decide) rt_26 rfl (by decide) rfl (Or.inl rfl) hd hw kk
theorem GI_26_39 {i idx : Nat} (hd : decode M.2.1 pc = .ok (.getfield idx, 3)) (hw : Cond.fieldLink M.1.cls idx "GreatStoreModel" "value" "I" ∈ gw) (kk : V σ M d bc bs (pc + 3) lv (aI (gI h 26 i 39) :: st) h P) : V σ M d bc bs pc lv (aR 26 i :: st) h P := V_getI (T := TX10) (k := 39) (by decide) rt_26 rfl (by decide) rfl hd hw kk
theorem PI_26_39 {i idx : Nat} {v : Int32} (hd : decode M.2.1 pc = .ok (.putfield idx, 3)) (hw : Cond.fieldLink M.1.cls idx "GreatStoreModel" "value" "I" ∈ gw) (kk : V σ M d bc bs (pc + 3) lv st (sI h 26 i 39 v) P) : V σ M d bc bs pc lv (aI v :: aR 26 i :: st) h P := V_putI (T := TX10) (k := 39) (by decide) rt_26 rfl (by decide) rfl (Or.inl rfl) hd hw kk
theorem GI_26_40 {i idx : Nat} (hd : decode M.2.1 pc = .ok (.getfield idx, 3)) (hw : Cond.fieldLink M.1.cls idx "GreatStoreModel" "wrong" "I" ∈ gw) (kk : V σ M d bc bs (pc + 3) lv (aI (gI h 26 i 40) :: st) h P) : V σ M d bc bs pc lv (aR 26 i :: st) h P := V_getI (T := TX10) (k := 40) (by decide) rt_26 rfl (by decide) rfl hd hw kk
theorem PI_26_40 {i idx : Nat} {v : Int32} (hd : decode M.2.1 pc = .ok (.putfield idx, 3)) (hw : Cond.fieldLink M.1.cls idx "GreatStoreModel" "wrong" "I" ∈ gw) (kk : V σ M d bc bs (pc + 3) lv st (sI h 26 i 40 v) P) : V σ M d bc bs pc lv (aI v :: aR 26 i :: st) h P := V_putI (T := TX10) (k := 40) (by decide) rt_26 rfl (by decide) rfl (Or.inl rfl) hd hw kk
theorem GI_26_41 {i idx : Nat} (hd : decode M.2.1 pc = .ok (.getfield idx, 3)) (hw : Cond.fieldLink M.1.cls idx "GreatStoreModel" "wrongAt" "I" ∈ gw) (kk : V σ M d bc bs (pc + 3) lv (aI (gI h 26 i 41) :: st) h P) : V σ M d bc bs pc lv (aR 26 i :: st) h P := V_getI (T := TX10) (k := 41) (by decide) rt_26 rfl (by decide) rfl hd hw kk
theorem PI_26_41 {i idx : Nat} {v : Int32} (hd : decode M.2.1 pc = .ok (.putfield idx, 3)) (hw : Cond.fieldLink M.1.cls idx "GreatStoreModel" "wrongAt" "I" ∈ gw) (kk : V σ M d bc bs (pc + 3) lv st (sI h 26 i 41 v) P) : V σ M d bc bs pc lv (aI v :: aR 26 i :: st) h P := V_putI (T := TX10) (k := 41) (by decide) rt_26 rfl (by decide) rfl (Or.inl rfl) hd hw kk
theorem GI_26_42 {i idx : Nat} (hd : decode M.2.1 pc = .ok (.getfield idx, 3)) (hw : Cond.fieldLink M.1.cls idx "GreatStoreModel" "faultKind" "I" ∈ gw) (kk : V σ M d bc bs (pc + 3) lv (aI (gI h 26 i 42) :: st) h P) : V σ M d bc bs pc lv (aR 26 i :: st) h P := V_getI (T := TX10) (k := 42) (by decide) rt_26 rfl (by decide) rfl hd hw kk
theorem PI_26_42 {i idx : Nat} {v : Int32} (hd : decode M.2.1 pc = .ok (.putfield idx, 3)) (hw : Cond.fieldLink M.1.cls idx "GreatStoreModel" "faultKind" "I" ∈ gw) (kk : V σ M d bc bs (pc + 3) lv st (sI h 26 i 42 v) P) : V σ M d bc bs pc lv (aI v :: aR 26 i :: st) h P := V_putI (T := TX10) (k := 42) (by decide) rt_26 rfl (by decide) rfl (Or.inl rfl) hd hw kk
theorem GI_26_43 {i idx : Nat} (hd : decode M.2.1 pc = .ok (.getfield idx, 3)) (hw : Cond.fieldLink M.1.cls idx "GreatStoreModel" "depth" "I" ∈ gw) (kk : V σ M d bc bs (pc + 3) lv (aI (gI h 26 i 43) :: st) h P) : V σ M d bc bs pc lv (aR 26 i :: st) h P := V_getI (T := TX10) (k := 43) (by decide) rt_26 rfl (by decide) rfl hd hw kk
theorem PI_26_43 {i idx : Nat} {v : Int32} (hd : decode M.2.1 pc = .ok (.putfield idx, 3)) (hw : Cond.fieldLink M.1.cls idx "GreatStoreModel" "depth" "I" ∈ gw) (kk : V σ M d bc bs (pc + 3) lv st (sI h 26 i 43 v) P) : V σ M d bc bs pc lv (aI v :: aR 26 i :: st) h P := V_putI (T := TX10) (k := 43) (by decide) rt_26 rfl (by decide) rfl (Or.inl rfl) hd hw kk
theorem GI_26_44 {i idx : Nat} (hd : decode M.2.1 pc = .ok (.getfield idx, 3)) (hw : Cond.fieldLink M.1.cls idx "GreatStoreModel" "faultPlace" "I" ∈ gw) (kk : V σ M d bc bs (pc + 3) lv (aI (gI h 26 i 44) :: st) h P) : V σ M d bc bs pc lv (aR 26 i :: st) h P := V_getI (T := TX10) (k := 44) (by decide) rt_26 rfl (by decide) rfl hd hw kk
theorem PI_26_44 {i idx : Nat} {v : Int32} (hd : decode M.2.1 pc = .ok (.putfield idx, 3)) (hw : Cond.fieldLink M.1.cls idx "GreatStoreModel" "faultPlace" "I" ∈ gw) (kk : V σ M d bc bs (pc + 3) lv st (sI h 26 i 44 v) P) : V σ M d bc bs pc lv (aI v :: aR 26 i :: st) h P := V_putI (T := TX10) (k := 44) (by decide) rt_26 rfl (by decide) rfl (Or.inl rfl) hd hw kk
theorem GI_26_45 {i idx : Nat} (hd : decode M.2.1 pc = .ok (.getfield idx, 3)) (hw : Cond.fieldLink M.1.cls idx "GreatStoreModel" "tSum" "I" ∈ gw) (kk : V σ M d bc bs (pc + 3) lv (aI (gI h 26 i 45) :: st) h P) : V σ M d bc bs pc lv (aR 26 i :: st) h P := V_getI (T := TX10) (k := 45) (by decide) rt_26 rfl (by decide) rfl hd hw kk
theorem PI_26_45 {i idx : Nat} {v : Int32} (hd : decode M.2.1 pc = .ok (.putfield idx, 3)) (hw : Cond.fieldLink M.1.cls idx "GreatStoreModel" "tSum" "I" ∈ gw) (kk : V σ M d bc bs (pc + 3) lv st (sI h 26 i 45 v) P) : V σ M d bc bs pc lv (aI v :: aR 26 i :: st) h P := V_putI (T := TX10) (k := 45) (by decide) rt_26 rfl (by decide) rfl (Or.inl rfl) hd hw kk
theorem GI_26_46 {i idx : Nat} (hd : decode M.2.1 pc = .ok (.getfield idx, 3)) (hw : Cond.fieldLink M.1.cls idx "GreatStoreModel" "tSlips" "I" ∈ gw) (kk : V σ M d bc bs (pc + 3) lv (aI (gI h 26 i 46) :: st) h P) : V σ M d bc bs pc lv (aR 26 i :: st) h P := V_getI (T := TX10) (k := 46) (by decide) rt_26 rfl (by decide) rfl hd hw kk
theorem PI_26_46 {i idx : Nat} {v : Int32} (hd : decode M.2.1 pc = .ok (.putfield idx, 3)) (hw : Cond.fieldLink M.1.cls idx "GreatStoreModel" "tSlips" "I" ∈ gw) (kk : V σ M d bc bs (pc + 3) lv st (sI h 26 i 46 v) P) : V σ M d bc bs pc lv (aI v :: aR 26 i :: st) h P := V_putI (T := TX10) (k := 46) (by decide) rt_26 rfl (by decide) rfl (Or.inl rfl) hd hw kk
theorem GI_26_47 {i idx : Nat} (hd : decode M.2.1 pc = .ok (.getfield idx, 3)) (hw : Cond.fieldLink M.1.cls idx "GreatStoreModel" "tBack" "I" ∈ gw) (kk : V σ M d bc bs (pc + 3) lv (aI (gI h 26 i 47) :: st) h P) : V σ M d bc bs pc lv (aR 26 i :: st) h P := V_getI (T := TX10) (k := 47) (by decide) rt_26 rfl (by decide) rfl hd hw kk
theorem PI_26_47 {i idx : Nat} {v : Int32} (hd : decode M.2.1 pc = .ok (.putfield idx, 3)) (hw : Cond.fieldLink M.1.cls idx "GreatStoreModel" "tBack" "I" ∈ gw) (kk : V σ M d bc bs (pc + 3) lv st (sI h 26 i 47 v) P) : V σ M d bc bs pc lv (aI v :: aR 26 i :: st) h P := V_putI (T := TX10) (k := 47) (by decide) rt_26 rfl (by decide) rfl (Or.inl rfl) hd hw kk
theorem GI_26_48 {i idx : Nat} (hd : decode M.2.1 pc = .ok (.getfield idx, 3)) (hw : Cond.fieldLink M.1.cls idx "GreatStoreModel" "tMonth" "I" ∈ gw) (kk : V σ M d bc bs (pc + 3) lv (aI (gI h 26 i 48) :: st) h P) : V σ M d bc bs pc lv (aR 26 i :: st) h P := V_getI (T := TX10) (k := 48) (by decide) rt_26 rfl (by decide) rfl hd hw kk
theorem PI_26_48 {i idx : Nat} {v : Int32} (hd : decode M.2.1 pc = .ok (.putfield idx, 3)) (hw : Cond.fieldLink M.1.cls idx "GreatStoreModel" "tMonth" "I" ∈ gw) (kk : V σ M d bc bs (pc + 3) lv st (sI h 26 i 48 v) P) : V σ M d bc bs pc lv (aI v :: aR 26 i :: st) h P := V_putI (T := TX10) (k := 48) (by decide) rt_26 rfl (by decide) rfl (Or.inl rfl) hd hw kk
theorem GS_26_49 {i idx : Nat} (hd : decode M.2.1 pc = .ok (.getfield idx, 3)) (hw : Cond.fieldLink M.1.cls idx "GreatStoreModel" "price" "[I" ∈ gw) (kk : V true M d bc bs (pc + 3) lv (aR 54 i :: st) h P) : V true M d bc bs pc lv (aR 26 i :: st) h P := V_getR (T := TX10) (k := 49) (some (54, i)) (by decide) rt_26 rfl (by decide) rfl hd hw rfl kk
theorem GS_26_50 {i idx : Nat} (hd : decode M.2.1 pc = .ok (.getfield idx, 3)) (hw : Cond.fieldLink M.1.cls idx "GreatStoreModel" "want" "[I" ∈ gw) (kk : V true M d bc bs (pc + 3) lv (aR 55 i :: st) h P) : V true M d bc bs pc lv (aR 26 i :: st) h P := V_getR (T := TX10) (k := 50) (some (55, i)) (by decide) rt_26 rfl (by decide) rfl hd hw rfl kk
theorem GS_26_51 {i idx : Nat} (hd : decode M.2.1 pc = .ok (.getfield idx, 3)) (hw : Cond.fieldLink M.1.cls idx "GreatStoreModel" "row" "[I" ∈ gw) (kk : V true M d bc bs (pc + 3) lv (aR 56 i :: st) h P) : V true M d bc bs pc lv (aR 26 i :: st) h P := V_getR (T := TX10) (k := 51) (some (56, i)) (by decide) rt_26 rfl (by decide) rfl hd hw rfl kk
theorem GS_26_52 {i idx : Nat} (hd : decode M.2.1 pc = .ok (.getfield idx, 3)) (hw : Cond.fieldLink M.1.cls idx "GreatStoreModel" "bestRow" "[I" ∈ gw) (kk : V true M d bc bs (pc + 3) lv (aR 57 i :: st) h P) : V true M d bc bs pc lv (aR 26 i :: st) h P := V_getR (T := TX10) (k := 52) (some (57, i)) (by decide) rt_26 rfl (by decide) rfl hd hw rfl kk
theorem GI_26_53 {i idx : Nat} (hd : decode M.2.1 pc = .ok (.getfield idx, 3)) (hw : Cond.fieldLink M.1.cls idx "GreatStoreModel" "bestSum" "I" ∈ gw) (kk : V σ M d bc bs (pc + 3) lv (aI (gI h 26 i 53) :: st) h P) : V σ M d bc bs pc lv (aR 26 i :: st) h P := V_getI (T := TX10) (k := 53) (by decide) rt_26 rfl (by decide) rfl hd hw kk
theorem PI_26_53 {i idx : Nat} {v : Int32} (hd : decode M.2.1 pc = .ok (.putfield idx, 3)) (hw : Cond.fieldLink M.1.cls idx "GreatStoreModel" "bestSum" "I" ∈ gw) (kk : V σ M d bc bs (pc + 3) lv st (sI h 26 i 53 v) P) : V σ M d bc bs pc lv (aI v :: aR 26 i :: st) h P := V_putI (T := TX10) (k := 53) (by decide) rt_26 rfl (by decide) rfl (Or.inl rfl) hd hw kk
theorem GI_26_54 {i idx : Nat} (hd : decode M.2.1 pc = .ok (.getfield idx, 3)) (hw : Cond.fieldLink M.1.cls idx "GreatStoreModel" "bestLeft" "I" ∈ gw) (kk : V σ M d bc bs (pc + 3) lv (aI (gI h 26 i 54) :: st) h P) : V σ M d bc bs pc lv (aR 26 i :: st) h P := V_getI (T := TX10) (k := 54) (by decide) rt_26 rfl (by decide) rfl hd hw kk
theorem PI_26_54 {i idx : Nat} {v : Int32} (hd : decode M.2.1 pc = .ok (.putfield idx, 3)) (hw : Cond.fieldLink M.1.cls idx "GreatStoreModel" "bestLeft" "I" ∈ gw) (kk : V σ M d bc bs (pc + 3) lv st (sI h 26 i 54 v) P) : V σ M d bc bs pc lv (aI v :: aR 26 i :: st) h P := V_putI (T := TX10) (k := 54) (by decide) rt_26 rfl (by decide) rfl (Or.inl rfl) hd hw kk
theorem GI_60_1 {i idx : Nat} (hd : decode M.2.1 pc = .ok (.getfield idx, 3)) (hw : Cond.fieldLink M.1.cls idx "GreatStore$Thing" "came" "I" ∈ gw) (kk : V σ M d bc bs (pc + 3) lv (aI (gI h 60 i 1) :: st) h P) : V σ M d bc bs pc lv (aR 60 i :: st) h P := V_getI (T := TX6) (k := 1) (by decide) rt_60 rfl (by decide) rfl hd hw kk
theorem PI_60_1 {i idx : Nat} {v : Int32} (hi : M.1.name = "<init>") (ho : "GreatStore$Thing" = M.1.cls) (hd : decode M.2.1 pc = .ok (.putfield idx, 3)) (hw : Cond.fieldLink M.1.cls idx "GreatStore$Thing" "came" "I" ∈ gw) (kk : V σ M d bc bs (pc + 3) lv st (sI h 60 i 1 v) P) : V σ M d bc bs pc lv (aI v :: aR 60 i :: st) h P := V_putI (T := TX6) (k := 1) (by decide) rt_60 rfl (by decide) rfl (Or.inr ⟨rfl, hi, ho⟩) hd hw kk
theorem GI_60_2 {i idx : Nat} (hd : decode M.2.1 pc = .ok (.getfield idx, 3)) (hw : Cond.fieldLink M.1.cls idx "GreatStore$Thing" "stock" "I" ∈ gw) (kk : V σ M d bc bs (pc + 3) lv (aI (gI h 60 i 2) :: st) h P) : V σ M d bc bs pc lv (aR 60 i :: st) h P := V_getI (T := TX6) (k := 2) (by decide) rt_60 rfl (by decide) rfl hd hw kk
theorem PI_60_2 {i idx : Nat} {v : Int32} (hd : decode M.2.1 pc = .ok (.putfield idx, 3)) (hw : Cond.fieldLink M.1.cls idx "GreatStore$Thing" "stock" "I" ∈ gw) (kk : V σ M d bc bs (pc + 3) lv st (sI h 60 i 2 v) P) : V σ M d bc bs pc lv (aI v :: aR 60 i :: st) h P := V_putI (T := TX6) (k := 2) (by decide) rt_60 rfl (by decide) rfl (Or.inl rfl) hd hw kk
theorem GI_60_3 {i idx : Nat} (hd : decode M.2.1 pc = .ok (.getfield idx, 3)) (hw : Cond.fieldLink M.1.cls idx "GreatStore$Thing" "raised" "I" ∈ gw) (kk : V σ M d bc bs (pc + 3) lv (aI (gI h 60 i 3) :: st) h P) : V σ M d bc bs pc lv (aR 60 i :: st) h P := V_getI (T := TX6) (k := 3) (by decide) rt_60 rfl (by decide) rfl hd hw kk
theorem PI_60_3 {i idx : Nat} {v : Int32} (hd : decode M.2.1 pc = .ok (.putfield idx, 3)) (hw : Cond.fieldLink M.1.cls idx "GreatStore$Thing" "raised" "I" ∈ gw) (kk : V σ M d bc bs (pc + 3) lv st (sI h 60 i 3 v) P) : V σ M d bc bs pc lv (aI v :: aR 60 i :: st) h P := V_putI (T := TX6) (k := 3) (by decide) rt_60 rfl (by decide) rfl (Or.inl rfl) hd hw kk
theorem GI_60_4 {i idx : Nat} (hd : decode M.2.1 pc = .ok (.getfield idx, 3)) (hw : Cond.fieldLink M.1.cls idx "GreatStore$Thing" "lost" "I" ∈ gw) (kk : V σ M d bc bs (pc + 3) lv (aI (gI h 60 i 4) :: st) h P) : V σ M d bc bs pc lv (aR 60 i :: st) h P := V_getI (T := TX6) (k := 4) (by decide) rt_60 rfl (by decide) rfl hd hw kk
theorem PI_60_4 {i idx : Nat} {v : Int32} (hd : decode M.2.1 pc = .ok (.putfield idx, 3)) (hw : Cond.fieldLink M.1.cls idx "GreatStore$Thing" "lost" "I" ∈ gw) (kk : V σ M d bc bs (pc + 3) lv st (sI h 60 i 4 v) P) : V σ M d bc bs pc lv (aI v :: aR 60 i :: st) h P := V_putI (T := TX6) (k := 4) (by decide) rt_60 rfl (by decide) rfl (Or.inl rfl) hd hw kk
theorem GI_62_0 {i idx : Nat} (hd : decode M.2.1 pc = .ok (.getfield idx, 3)) (hw : Cond.fieldLink M.1.cls idx "GreatStore$Slip" "kind" "I" ∈ gw) (kk : V σ M d bc bs (pc + 3) lv (aI (gI h 62 i 0) :: st) h P) : V σ M d bc bs pc lv (aR 62 i :: st) h P := V_getI (T := TX3) (k := 0) (by decide) rt_62 rfl (by decide) rfl hd hw kk
theorem PI_62_0 {i idx : Nat} {v : Int32} (hi : M.1.name = "<init>") (ho : "GreatStore$Slip" = M.1.cls) (hd : decode M.2.1 pc = .ok (.putfield idx, 3)) (hw : Cond.fieldLink M.1.cls idx "GreatStore$Slip" "kind" "I" ∈ gw) (kk : V σ M d bc bs (pc + 3) lv st (sI h 62 i 0 v) P) : V σ M d bc bs pc lv (aI v :: aR 62 i :: st) h P := V_putI (T := TX3) (k := 0) (by decide) rt_62 rfl (by decide) rfl (Or.inr ⟨rfl, hi, ho⟩) hd hw kk
theorem GI_62_1 {i idx : Nat} (hd : decode M.2.1 pc = .ok (.getfield idx, 3)) (hw : Cond.fieldLink M.1.cls idx "GreatStore$Slip" "clerk" "I" ∈ gw) (kk : V σ M d bc bs (pc + 3) lv (aI (gI h 62 i 1) :: st) h P) : V σ M d bc bs pc lv (aR 62 i :: st) h P := V_getI (T := TX3) (k := 1) (by decide) rt_62 rfl (by decide) rfl hd hw kk
theorem PI_62_1 {i idx : Nat} {v : Int32} (hi : M.1.name = "<init>") (ho : "GreatStore$Slip" = M.1.cls) (hd : decode M.2.1 pc = .ok (.putfield idx, 3)) (hw : Cond.fieldLink M.1.cls idx "GreatStore$Slip" "clerk" "I" ∈ gw) (kk : V σ M d bc bs (pc + 3) lv st (sI h 62 i 1 v) P) : V σ M d bc bs pc lv (aI v :: aR 62 i :: st) h P := V_putI (T := TX3) (k := 1) (by decide) rt_62 rfl (by decide) rfl (Or.inr ⟨rfl, hi, ho⟩) hd hw kk
theorem GI_62_2 {i idx : Nat} (hd : decode M.2.1 pc = .ok (.getfield idx, 3)) (hw : Cond.fieldLink M.1.cls idx "GreatStore$Slip" "account" "I" ∈ gw) (kk : V σ M d bc bs (pc + 3) lv (aI (gI h 62 i 2) :: st) h P) : V σ M d bc bs pc lv (aR 62 i :: st) h P := V_getI (T := TX3) (k := 2) (by decide) rt_62 rfl (by decide) rfl hd hw kk
theorem PI_62_2 {i idx : Nat} {v : Int32} (hi : M.1.name = "<init>") (ho : "GreatStore$Slip" = M.1.cls) (hd : decode M.2.1 pc = .ok (.putfield idx, 3)) (hw : Cond.fieldLink M.1.cls idx "GreatStore$Slip" "account" "I" ∈ gw) (kk : V σ M d bc bs (pc + 3) lv st (sI h 62 i 2 v) P) : V σ M d bc bs pc lv (aI v :: aR 62 i :: st) h P := V_putI (T := TX3) (k := 2) (by decide) rt_62 rfl (by decide) rfl (Or.inr ⟨rfl, hi, ho⟩) hd hw kk
theorem GI_62_4 {i idx : Nat} (hd : decode M.2.1 pc = .ok (.getfield idx, 3)) (hw : Cond.fieldLink M.1.cls idx "GreatStore$Slip" "pieces" "I" ∈ gw) (kk : V σ M d bc bs (pc + 3) lv (aI (gI h 62 i 4) :: st) h P) : V σ M d bc bs pc lv (aR 62 i :: st) h P := V_getI (T := TX3) (k := 4) (by decide) rt_62 rfl (by decide) rfl hd hw kk
theorem PI_62_4 {i idx : Nat} {v : Int32} (hi : M.1.name = "<init>") (ho : "GreatStore$Slip" = M.1.cls) (hd : decode M.2.1 pc = .ok (.putfield idx, 3)) (hw : Cond.fieldLink M.1.cls idx "GreatStore$Slip" "pieces" "I" ∈ gw) (kk : V σ M d bc bs (pc + 3) lv st (sI h 62 i 4 v) P) : V σ M d bc bs pc lv (aI v :: aR 62 i :: st) h P := V_putI (T := TX3) (k := 4) (by decide) rt_62 rfl (by decide) rfl (Or.inr ⟨rfl, hi, ho⟩) hd hw kk
theorem GI_62_5 {i idx : Nat} (hd : decode M.2.1 pc = .ok (.getfield idx, 3)) (hw : Cond.fieldLink M.1.cls idx "GreatStore$Slip" "house" "I" ∈ gw) (kk : V σ M d bc bs (pc + 3) lv (aI (gI h 62 i 5) :: st) h P) : V σ M d bc bs pc lv (aR 62 i :: st) h P := V_getI (T := TX3) (k := 5) (by decide) rt_62 rfl (by decide) rfl hd hw kk
theorem PI_62_5 {i idx : Nat} {v : Int32} (hi : M.1.name = "<init>") (ho : "GreatStore$Slip" = M.1.cls) (hd : decode M.2.1 pc = .ok (.putfield idx, 3)) (hw : Cond.fieldLink M.1.cls idx "GreatStore$Slip" "house" "I" ∈ gw) (kk : V σ M d bc bs (pc + 3) lv st (sI h 62 i 5 v) P) : V σ M d bc bs pc lv (aI v :: aR 62 i :: st) h P := V_putI (T := TX3) (k := 5) (by decide) rt_62 rfl (by decide) rfl (Or.inr ⟨rfl, hi, ho⟩) hd hw kk
theorem GI_62_6 {i idx : Nat} (hd : decode M.2.1 pc = .ok (.getfield idx, 3)) (hw : Cond.fieldLink M.1.cls idx "GreatStore$Slip" "day" "I" ∈ gw) (kk : V σ M d bc bs (pc + 3) lv (aI (gI h 62 i 6) :: st) h P) : V σ M d bc bs pc lv (aR 62 i :: st) h P := V_getI (T := TX3) (k := 6) (by decide) rt_62 rfl (by decide) rfl hd hw kk
theorem PI_62_6 {i idx : Nat} {v : Int32} (hi : M.1.name = "<init>") (ho : "GreatStore$Slip" = M.1.cls) (hd : decode M.2.1 pc = .ok (.putfield idx, 3)) (hw : Cond.fieldLink M.1.cls idx "GreatStore$Slip" "day" "I" ∈ gw) (kk : V σ M d bc bs (pc + 3) lv st (sI h 62 i 6 v) P) : V σ M d bc bs pc lv (aI v :: aR 62 i :: st) h P := V_putI (T := TX3) (k := 6) (by decide) rt_62 rfl (by decide) rfl (Or.inr ⟨rfl, hi, ho⟩) hd hw kk
theorem GI_62_7 {i idx : Nat} (hd : decode M.2.1 pc = .ok (.getfield idx, 3)) (hw : Cond.fieldLink M.1.cls idx "GreatStore$Slip" "worth" "I" ∈ gw) (kk : V σ M d bc bs (pc + 3) lv (aI (gI h 62 i 7) :: st) h P) : V σ M d bc bs pc lv (aR 62 i :: st) h P := V_getI (T := TX3) (k := 7) (by decide) rt_62 rfl (by decide) rfl hd hw kk
theorem PI_62_7 {i idx : Nat} {v : Int32} (hi : M.1.name = "<init>") (ho : "GreatStore$Slip" = M.1.cls) (hd : decode M.2.1 pc = .ok (.putfield idx, 3)) (hw : Cond.fieldLink M.1.cls idx "GreatStore$Slip" "worth" "I" ∈ gw) (kk : V σ M d bc bs (pc + 3) lv st (sI h 62 i 7 v) P) : V σ M d bc bs pc lv (aI v :: aR 62 i :: st) h P := V_putI (T := TX3) (k := 7) (by decide) rt_62 rfl (by decide) rfl (Or.inr ⟨rfl, hi, ho⟩) hd hw kk
theorem GI_62_8 {i idx : Nat} (hd : decode M.2.1 pc = .ok (.getfield idx, 3)) (hw : Cond.fieldLink M.1.cls idx "GreatStore$Slip" "told" "I" ∈ gw) (kk : V σ M d bc bs (pc + 3) lv (aI (gI h 62 i 8) :: st) h P) : V σ M d bc bs pc lv (aR 62 i :: st) h P := V_getI (T := TX3) (k := 8) (by decide) rt_62 rfl (by decide) rfl hd hw kk
theorem PI_62_8 {i idx : Nat} {v : Int32} (hd : decode M.2.1 pc = .ok (.putfield idx, 3)) (hw : Cond.fieldLink M.1.cls idx "GreatStore$Slip" "told" "I" ∈ gw) (kk : V σ M d bc bs (pc + 3) lv st (sI h 62 i 8 v) P) : V σ M d bc bs pc lv (aI v :: aR 62 i :: st) h P := V_putI (T := TX3) (k := 8) (by decide) rt_62 rfl (by decide) rfl (Or.inl rfl) hd hw kk
theorem GI_62_9 {i idx : Nat} (hd : decode M.2.1 pc = .ok (.getfield idx, 3)) (hw : Cond.fieldLink M.1.cls idx "GreatStore$Slip" "sold" "I" ∈ gw) (kk : V σ M d bc bs (pc + 3) lv (aI (gI h 62 i 9) :: st) h P) : V σ M d bc bs pc lv (aR 62 i :: st) h P := V_getI (T := TX3) (k := 9) (by decide) rt_62 rfl (by decide) rfl hd hw kk
theorem PI_62_9 {i idx : Nat} {v : Int32} (hd : decode M.2.1 pc = .ok (.putfield idx, 3)) (hw : Cond.fieldLink M.1.cls idx "GreatStore$Slip" "sold" "I" ∈ gw) (kk : V σ M d bc bs (pc + 3) lv st (sI h 62 i 9 v) P) : V σ M d bc bs pc lv (aI v :: aR 62 i :: st) h P := V_putI (T := TX3) (k := 9) (by decide) rt_62 rfl (by decide) rfl (Or.inl rfl) hd hw kk
theorem GI_62_10 {i idx : Nat} (hd : decode M.2.1 pc = .ok (.getfield idx, 3)) (hw : Cond.fieldLink M.1.cls idx "GreatStore$Slip" "cameBack" "I" ∈ gw) (kk : V σ M d bc bs (pc + 3) lv (aI (gI h 62 i 10) :: st) h P) : V σ M d bc bs pc lv (aR 62 i :: st) h P := V_getI (T := TX3) (k := 10) (by decide) rt_62 rfl (by decide) rfl hd hw kk
theorem PI_62_10 {i idx : Nat} {v : Int32} (hd : decode M.2.1 pc = .ok (.putfield idx, 3)) (hw : Cond.fieldLink M.1.cls idx "GreatStore$Slip" "cameBack" "I" ∈ gw) (kk : V σ M d bc bs (pc + 3) lv st (sI h 62 i 10 v) P) : V σ M d bc bs pc lv (aI v :: aR 62 i :: st) h P := V_putI (T := TX3) (k := 10) (by decide) rt_62 rfl (by decide) rfl (Or.inl rfl) hd hw kk
theorem GI_62_11 {i idx : Nat} (hd : decode M.2.1 pc = .ok (.getfield idx, 3)) (hw : Cond.fieldLink M.1.cls idx "GreatStore$Slip" "round" "I" ∈ gw) (kk : V σ M d bc bs (pc + 3) lv (aI (gI h 62 i 11) :: st) h P) : V σ M d bc bs pc lv (aR 62 i :: st) h P := V_getI (T := TX3) (k := 11) (by decide) rt_62 rfl (by decide) rfl hd hw kk
theorem PI_62_11 {i idx : Nat} {v : Int32} (hd : decode M.2.1 pc = .ok (.putfield idx, 3)) (hw : Cond.fieldLink M.1.cls idx "GreatStore$Slip" "round" "I" ∈ gw) (kk : V σ M d bc bs (pc + 3) lv st (sI h 62 i 11 v) P) : V σ M d bc bs pc lv (aI v :: aR 62 i :: st) h P := V_putI (T := TX3) (k := 11) (by decide) rt_62 rfl (by decide) rfl (Or.inl rfl) hd hw kk
end GP
theorem gwm {w : Cond} (i : Nat) (h : lw_tbl[i]? = some w) (hg : goodWord w = true) : w ∈ gw := List.mem_filter.mpr ⟨List.mem_of_getElem? h, hg⟩
theorem sw_cases (x : Int32) (lo hi : Int) (h1 : -2147483648 ≤ lo) (h2 : hi < 2147483648) : ¬ (lo ≤ x.toInt ∧ x.toInt ≤ hi) ∨ ∃ n : Nat, (n : Int) ≤ hi - lo ∧ x = Int32.ofInt (lo + n) := by
  by_cases z : lo ≤ x.toInt ∧ x.toInt ≤ hi
  · right
    refine ⟨(x.toInt - lo).toNat, by omega, ?_⟩
    rw [show lo + ((x.toInt - lo).toNat : Int) = x.toInt by omega]
    exact (Int32.ofInt_toInt x).symm
  · exact Or.inl z
theorem sw_out {x : Int32} {lo hi : Int} (z : ¬ (lo ≤ x.toInt ∧ x.toInt ≤ hi)) : x.toInt < lo ∨ hi < x.toInt := by omega
end
section
def mX10_isIn : MT := (yX10_isIn, cX10_isIn, 3, (some .boolean))
theorem okX10_isIn : Mok mX10_isIn 3 := ⟨gwm 1030 (by decide +kernel) (by decide +kernel), gwm 58 (by decide +kernel) (by decide +kernel), by decide +kernel, by decide⟩
theorem stX10_isIn : Cond.static yX10_isIn ∈ gw := gwm 1029 (by decide +kernel) (by decide +kernel)
def mX10_isThing : MT := (yX10_isThing, cX10_isThing, 2, (some .boolean))
theorem okX10_isThing : Mok mX10_isThing 1 := ⟨gwm 1038 (by decide +kernel) (by decide +kernel), gwm 58 (by decide +kernel) (by decide +kernel), by decide +kernel, by decide⟩
theorem inX10_isThing : Cond.instanceMethod yX10_isThing ∈ gw := gwm 1037 (by decide +kernel) (by decide +kernel)
theorem seX10_isThing : Cond.selects RX10 yX10_isThing yX10_isThing ∈ gw := gwm 29 (by decide +kernel) (by decide +kernel)
def mX10_isTag : MT := (yX10_isTag, cX10_isTag, 1, (some .boolean))
theorem okX10_isTag : Mok mX10_isTag 1 := ⟨gwm 1027 (by decide +kernel) (by decide +kernel), gwm 58 (by decide +kernel) (by decide +kernel), by decide +kernel, by decide⟩
theorem stX10_isTag : Cond.static yX10_isTag ∈ gw := gwm 1026 (by decide +kernel) (by decide +kernel)
def mX10_thing : MT := (yX10_thing, cX10_thing, 4, (some .int))
theorem okX10_thing : Mok mX10_thing 2 := ⟨gwm 1024 (by decide +kernel) (by decide +kernel), gwm 58 (by decide +kernel) (by decide +kernel), by decide +kernel, by decide⟩
theorem inX10_thing : Cond.instanceMethod yX10_thing ∈ gw := gwm 1022 (by decide +kernel) (by decide +kernel)
theorem seX10_thing : Cond.selects RX10 yX10_thing yX10_thing ∈ gw := gwm 1023 (by decide +kernel) (by decide +kernel)
def mX10_tag : MT := (yX10_tag, cX10_tag, 4, (some .int))
theorem okX10_tag : Mok mX10_tag 2 := ⟨gwm 1034 (by decide +kernel) (by decide +kernel), gwm 58 (by decide +kernel) (by decide +kernel), by decide +kernel, by decide⟩
theorem inX10_tag : Cond.instanceMethod yX10_tag ∈ gw := gwm 1032 (by decide +kernel) (by decide +kernel)
theorem seX10_tag : Cond.selects RX10 yX10_tag yX10_tag ∈ gw := gwm 1033 (by decide +kernel) (by decide +kernel)
def mX10_of : MT := (yX10_of, cX10_of, 3, (some .int))
theorem okX10_of : Mok mX10_of 2 := ⟨gwm 1042 (by decide +kernel) (by decide +kernel), gwm 58 (by decide +kernel) (by decide +kernel), by decide +kernel, by decide⟩
theorem inX10_of : Cond.instanceMethod yX10_of ∈ gw := gwm 1040 (by decide +kernel) (by decide +kernel)
theorem seX10_of : Cond.selects RX10 yX10_of yX10_of ∈ gw := gwm 1041 (by decide +kernel) (by decide +kernel)
def mX10_next : MT := (yX10_next, cX10_next, 2, (some .int))
theorem okX10_next : Mok mX10_next 0 := ⟨gwm 1046 (by decide +kernel) (by decide +kernel), gwm 58 (by decide +kernel) (by decide +kernel), by decide +kernel, by decide⟩
theorem inX10_next : Cond.instanceMethod yX10_next ∈ gw := gwm 1044 (by decide +kernel) (by decide +kernel)
theorem seX10_next : Cond.selects RX10 yX10_next yX10_next ∈ gw := gwm 1045 (by decide +kernel) (by decide +kernel)
def mX10_slip : MT := (yX10_slip, cX10_slip, 9, (some .int))
theorem okX10_slip : Mok mX10_slip 7 := ⟨gwm 1050 (by decide +kernel) (by decide +kernel), gwm 58 (by decide +kernel) (by decide +kernel), by decide +kernel, by decide⟩
theorem inX10_slip : Cond.instanceMethod yX10_slip ∈ gw := gwm 1048 (by decide +kernel) (by decide +kernel)
theorem seX10_slip : Cond.selects RX10 yX10_slip yX10_slip ∈ gw := gwm 1049 (by decide +kernel) (by decide +kernel)
def mX10_isSlip : MT := (yX10_isSlip, cX10_isSlip, 2, (some .boolean))
theorem okX10_isSlip : Mok mX10_isSlip 1 := ⟨gwm 1058 (by decide +kernel) (by decide +kernel), gwm 58 (by decide +kernel) (by decide +kernel), by decide +kernel, by decide⟩
theorem inX10_isSlip : Cond.instanceMethod yX10_isSlip ∈ gw := gwm 1057 (by decide +kernel) (by decide +kernel)
theorem seX10_isSlip : Cond.selects RX10 yX10_isSlip yX10_isSlip ∈ gw := gwm 30 (by decide +kernel) (by decide +kernel)
def mX10_paper : MT := (yX10_paper, cX10_paper, 3, (some .int))
theorem okX10_paper : Mok mX10_paper 2 := ⟨gwm 1054 (by decide +kernel) (by decide +kernel), gwm 58 (by decide +kernel) (by decide +kernel), by decide +kernel, by decide⟩
theorem inX10_paper : Cond.instanceMethod yX10_paper ∈ gw := gwm 1052 (by decide +kernel) (by decide +kernel)
theorem seX10_paper : Cond.selects RX10 yX10_paper yX10_paper ∈ gw := gwm 1053 (by decide +kernel) (by decide +kernel)
def mX10_back : MT := (yX10_back, cX10_back, 2, (some .boolean))
theorem okX10_back : Mok mX10_back 1 := ⟨gwm 1062 (by decide +kernel) (by decide +kernel), gwm 58 (by decide +kernel) (by decide +kernel), by decide +kernel, by decide⟩
theorem inX10_back : Cond.instanceMethod yX10_back ∈ gw := gwm 1060 (by decide +kernel) (by decide +kernel)
theorem seX10_back : Cond.selects RX10 yX10_back yX10_back ∈ gw := gwm 1061 (by decide +kernel) (by decide +kernel)
def mX10_isParcel : MT := (yX10_isParcel, cX10_isParcel, 2, (some .boolean))
theorem okX10_isParcel : Mok mX10_isParcel 1 := ⟨gwm 1070 (by decide +kernel) (by decide +kernel), gwm 58 (by decide +kernel) (by decide +kernel), by decide +kernel, by decide⟩
theorem inX10_isParcel : Cond.instanceMethod yX10_isParcel ∈ gw := gwm 1069 (by decide +kernel) (by decide +kernel)
theorem seX10_isParcel : Cond.selects RX10 yX10_isParcel yX10_isParcel ∈ gw := gwm 31 (by decide +kernel) (by decide +kernel)
def mX10_look : MT := (yX10_look, cX10_look, 4, (some .int))
theorem okX10_look : Mok mX10_look 1 := ⟨gwm 1066 (by decide +kernel) (by decide +kernel), gwm 58 (by decide +kernel) (by decide +kernel), by decide +kernel, by decide⟩
theorem inX10_look : Cond.instanceMethod yX10_look ∈ gw := gwm 1064 (by decide +kernel) (by decide +kernel)
theorem seX10_look : Cond.selects RX10 yX10_look yX10_look ∈ gw := gwm 1065 (by decide +kernel) (by decide +kernel)
def mX10_van : MT := (yX10_van, cX10_van, 8, (some .int))
theorem okX10_van : Mok mX10_van 1 := ⟨gwm 1074 (by decide +kernel) (by decide +kernel), gwm 58 (by decide +kernel) (by decide +kernel), by decide +kernel, by decide⟩
theorem inX10_van : Cond.instanceMethod yX10_van ∈ gw := gwm 1072 (by decide +kernel) (by decide +kernel)
theorem seX10_van : Cond.selects RX10 yX10_van yX10_van ∈ gw := gwm 1073 (by decide +kernel) (by decide +kernel)
def mX10_house : MT := (yX10_house, cX10_house, 2, (some .int))
theorem okX10_house : Mok mX10_house 1 := ⟨gwm 1078 (by decide +kernel) (by decide +kernel), gwm 58 (by decide +kernel) (by decide +kernel), by decide +kernel, by decide⟩
theorem inX10_house : Cond.instanceMethod yX10_house ∈ gw := gwm 1076 (by decide +kernel) (by decide +kernel)
theorem seX10_house : Cond.selects RX10 yX10_house yX10_house ∈ gw := gwm 1077 (by decide +kernel) (by decide +kernel)
def mX10_feed : MT := (yX10_feed, cX10_feed, 8, (some .int))
theorem okX10_feed : Mok mX10_feed 5 := ⟨gwm 1082 (by decide +kernel) (by decide +kernel), gwm 58 (by decide +kernel) (by decide +kernel), by decide +kernel, by decide⟩
theorem inX10_feed : Cond.instanceMethod yX10_feed ∈ gw := gwm 1080 (by decide +kernel) (by decide +kernel)
theorem seX10_feed : Cond.selects RX10 yX10_feed yX10_feed ∈ gw := gwm 1081 (by decide +kernel) (by decide +kernel)
def mX10_end : MT := (yX10_end, cX10_end, 2, (some .boolean))
theorem okX10_end : Mok mX10_end 1 := ⟨gwm 1086 (by decide +kernel) (by decide +kernel), gwm 58 (by decide +kernel) (by decide +kernel), by decide +kernel, by decide⟩
theorem inX10_end : Cond.instanceMethod yX10_end ∈ gw := gwm 1084 (by decide +kernel) (by decide +kernel)
theorem seX10_end : Cond.selects RX10 yX10_end yX10_end ∈ gw := gwm 1085 (by decide +kernel) (by decide +kernel)
def mX10_see : MT := (yX10_see, cX10_see, 2, (some .int))
theorem okX10_see : Mok mX10_see 1 := ⟨gwm 1098 (by decide +kernel) (by decide +kernel), gwm 58 (by decide +kernel) (by decide +kernel), by decide +kernel, by decide⟩
theorem inX10_see : Cond.instanceMethod yX10_see ∈ gw := gwm 1097 (by decide +kernel) (by decide +kernel)
theorem seX10_see : Cond.selects RX10 yX10_see yX10_see ∈ gw := gwm 33 (by decide +kernel) (by decide +kernel)
def mX10_isLetter : MT := (yX10_isLetter, cX10_isLetter, 1, (some .boolean))
theorem okX10_isLetter : Mok mX10_isLetter 1 := ⟨gwm 1101 (by decide +kernel) (by decide +kernel), gwm 58 (by decide +kernel) (by decide +kernel), by decide +kernel, by decide⟩
theorem stX10_isLetter : Cond.static yX10_isLetter ∈ gw := gwm 1100 (by decide +kernel) (by decide +kernel)
def mX10_isDigit : MT := (yX10_isDigit, cX10_isDigit, 1, (some .boolean))
theorem okX10_isDigit : Mok mX10_isDigit 1 := ⟨gwm 1118 (by decide +kernel) (by decide +kernel), gwm 58 (by decide +kernel) (by decide +kernel), by decide +kernel, by decide⟩
theorem stX10_isDigit : Cond.static yX10_isDigit ∈ gw := gwm 1117 (by decide +kernel) (by decide +kernel)
def mX10_word : MT := (yX10_word, cX10_word, 2, (some .int))
theorem okX10_word : Mok mX10_word 1 := ⟨gwm 1104 (by decide +kernel) (by decide +kernel), gwm 58 (by decide +kernel) (by decide +kernel), by decide +kernel, by decide⟩
theorem stX10_word : Cond.static yX10_word ∈ gw := gwm 1103 (by decide +kernel) (by decide +kernel)
def mX10_next0 : MT := (yX10_next0, cX10_next0, 5, none)
theorem okX10_next0 : Mok mX10_next0 0 := ⟨gwm 1094 (by decide +kernel) (by decide +kernel), gwm 58 (by decide +kernel) (by decide +kernel), by decide +kernel, by decide⟩
theorem inX10_next0 : Cond.instanceMethod yX10_next0 ∈ gw := gwm 1093 (by decide +kernel) (by decide +kernel)
theorem seX10_next0 : Cond.selects RX10 yX10_next0 yX10_next0 ∈ gw := gwm 32 (by decide +kernel) (by decide +kernel)
def mX10_bad : MT := (yX10_bad, cX10_bad, 2, (some .boolean))
theorem okX10_bad : Mok mX10_bad 1 := ⟨gwm 1126 (by decide +kernel) (by decide +kernel), gwm 58 (by decide +kernel) (by decide +kernel), by decide +kernel, by decide⟩
theorem inX10_bad : Cond.instanceMethod yX10_bad ∈ gw := gwm 1125 (by decide +kernel) (by decide +kernel)
theorem seX10_bad : Cond.selects RX10 yX10_bad yX10_bad ∈ gw := gwm 35 (by decide +kernel) (by decide +kernel)
def mX10_need : MT := (yX10_need, cX10_need, 2, (some .boolean))
theorem okX10_need : Mok mX10_need 1 := ⟨gwm 1142 (by decide +kernel) (by decide +kernel), gwm 58 (by decide +kernel) (by decide +kernel), by decide +kernel, by decide⟩
theorem inX10_need : Cond.instanceMethod yX10_need ∈ gw := gwm 1141 (by decide +kernel) (by decide +kernel)
theorem seX10_need : Cond.selects RX10 yX10_need yX10_need ∈ gw := gwm 39 (by decide +kernel) (by decide +kernel)
def mX10_lay : MT := (yX10_lay, cX10_lay, 2, none)
theorem okX10_lay : Mok mX10_lay 1 := ⟨gwm 1146 (by decide +kernel) (by decide +kernel), gwm 58 (by decide +kernel) (by decide +kernel), by decide +kernel, by decide⟩
theorem inX10_lay : Cond.instanceMethod yX10_lay ∈ gw := gwm 1145 (by decide +kernel) (by decide +kernel)
theorem seX10_lay : Cond.selects RX10 yX10_lay yX10_lay ∈ gw := gwm 40 (by decide +kernel) (by decide +kernel)
def mX10_sum : MT := (yX10_sum, cX10_sum, 2, (some .boolean))
theorem okX10_sum : Mok mX10_sum 0 := ⟨gwm 1130 (by decide +kernel) (by decide +kernel), gwm 58 (by decide +kernel) (by decide +kernel), by decide +kernel, by decide⟩
theorem inX10_sum : Cond.instanceMethod yX10_sum ∈ gw := gwm 1129 (by decide +kernel) (by decide +kernel)
theorem seX10_sum : Cond.selects RX10 yX10_sum yX10_sum ∈ gw := gwm 36 (by decide +kernel) (by decide +kernel)
def mX10_product : MT := (yX10_product, cX10_product, 2, (some .boolean))
theorem okX10_product : Mok mX10_product 0 := ⟨gwm 1134 (by decide +kernel) (by decide +kernel), gwm 58 (by decide +kernel) (by decide +kernel), by decide +kernel, by decide⟩
theorem inX10_product : Cond.instanceMethod yX10_product ∈ gw := gwm 1133 (by decide +kernel) (by decide +kernel)
theorem seX10_product : Cond.selects RX10 yX10_product yX10_product ∈ gw := gwm 37 (by decide +kernel) (by decide +kernel)
def mX10_unit : MT := (yX10_unit, cX10_unit, 1, (some .boolean))
theorem okX10_unit : Mok mX10_unit 0 := ⟨gwm 1138 (by decide +kernel) (by decide +kernel), gwm 58 (by decide +kernel) (by decide +kernel), by decide +kernel, by decide⟩
theorem inX10_unit : Cond.instanceMethod yX10_unit ∈ gw := gwm 1137 (by decide +kernel) (by decide +kernel)
theorem seX10_unit : Cond.selects RX10 yX10_unit yX10_unit ∈ gw := gwm 38 (by decide +kernel) (by decide +kernel)
def mX10_holds : MT := (yX10_holds, cX10_holds, 2, (some .boolean))
theorem okX10_holds : Mok mX10_holds 0 := ⟨gwm 1154 (by decide +kernel) (by decide +kernel), gwm 58 (by decide +kernel) (by decide +kernel), by decide +kernel, by decide⟩
theorem inX10_holds : Cond.instanceMethod yX10_holds ∈ gw := gwm 1153 (by decide +kernel) (by decide +kernel)
theorem seX10_holds : Cond.selects RX10 yX10_holds yX10_holds ∈ gw := gwm 41 (by decide +kernel) (by decide +kernel)
def mX10_aLine : MT := (yX10_aLine, cX10_aLine, 1, (some .boolean))
theorem okX10_aLine : Mok mX10_aLine 0 := ⟨gwm 1122 (by decide +kernel) (by decide +kernel), gwm 58 (by decide +kernel) (by decide +kernel), by decide +kernel, by decide⟩
theorem inX10_aLine : Cond.instanceMethod yX10_aLine ∈ gw := gwm 1121 (by decide +kernel) (by decide +kernel)
theorem seX10_aLine : Cond.selects RX10 yX10_aLine yX10_aLine ∈ gw := gwm 34 (by decide +kernel) (by decide +kernel)
def mX10_rule : MT := (yX10_rule, cX10_rule, 3, (some .int))
theorem okX10_rule : Mok mX10_rule 0 := ⟨gwm 1090 (by decide +kernel) (by decide +kernel), gwm 58 (by decide +kernel) (by decide +kernel), by decide +kernel, by decide⟩
theorem inX10_rule : Cond.instanceMethod yX10_rule ∈ gw := gwm 1088 (by decide +kernel) (by decide +kernel)
theorem seX10_rule : Cond.selects RX10 yX10_rule yX10_rule ∈ gw := gwm 1089 (by decide +kernel) (by decide +kernel)
def mX10_fault : MT := (yX10_fault, cX10_fault, 2, (some .int))
theorem okX10_fault : Mok mX10_fault 1 := ⟨gwm 1162 (by decide +kernel) (by decide +kernel), gwm 58 (by decide +kernel) (by decide +kernel), by decide +kernel, by decide⟩
theorem inX10_fault : Cond.instanceMethod yX10_fault ∈ gw := gwm 1160 (by decide +kernel) (by decide +kernel)
theorem seX10_fault : Cond.selects RX10 yX10_fault yX10_fault ∈ gw := gwm 1161 (by decide +kernel) (by decide +kernel)
def mX10_isOf : MT := (yX10_isOf, cX10_isOf, 2, (some .boolean))
theorem okX10_isOf : Mok mX10_isOf 2 := ⟨gwm 1177 (by decide +kernel) (by decide +kernel), gwm 58 (by decide +kernel) (by decide +kernel), by decide +kernel, by decide⟩
theorem stX10_isOf : Cond.static yX10_isOf ∈ gw := gwm 1176 (by decide +kernel) (by decide +kernel)
def mX10_takes : MT := (yX10_takes, cX10_takes, 4, none)
theorem okX10_takes : Mok mX10_takes 2 := ⟨gwm 1174 (by decide +kernel) (by decide +kernel), gwm 58 (by decide +kernel) (by decide +kernel), by decide +kernel, by decide⟩
theorem inX10_takes : Cond.instanceMethod yX10_takes ∈ gw := gwm 1173 (by decide +kernel) (by decide +kernel)
theorem seX10_takes : Cond.selects RX10 yX10_takes yX10_takes ∈ gw := gwm 42 (by decide +kernel) (by decide +kernel)
def mX10_worked : MT := (yX10_worked, cX10_worked, 6, (some .int))
theorem okX10_worked : Mok mX10_worked 2 := ⟨gwm 1181 (by decide +kernel) (by decide +kernel), gwm 58 (by decide +kernel) (by decide +kernel), by decide +kernel, by decide⟩
theorem inX10_worked : Cond.instanceMethod yX10_worked ∈ gw := gwm 1180 (by decide +kernel) (by decide +kernel)
theorem seX10_worked : Cond.selects RX10 yX10_worked yX10_worked ∈ gw := gwm 43 (by decide +kernel) (by decide +kernel)
def mX10_both : MT := (yX10_both, cX10_both, 3, (some .int))
theorem okX10_both : Mok mX10_both 3 := ⟨gwm 1184 (by decide +kernel) (by decide +kernel), gwm 58 (by decide +kernel) (by decide +kernel), by decide +kernel, by decide⟩
theorem stX10_both : Cond.static yX10_both ∈ gw := gwm 1183 (by decide +kernel) (by decide +kernel)
def mX10_isMonth : MT := (yX10_isMonth, cX10_isMonth, 1, (some .boolean))
theorem okX10_isMonth : Mok mX10_isMonth 1 := ⟨gwm 1169 (by decide +kernel) (by decide +kernel), gwm 58 (by decide +kernel) (by decide +kernel), by decide +kernel, by decide⟩
theorem stX10_isMonth : Cond.static yX10_isMonth ∈ gw := gwm 1168 (by decide +kernel) (by decide +kernel)
def mX10_pay : MT := (yX10_pay, cX10_pay, 5, (some .int))
theorem okX10_pay : Mok mX10_pay 3 := ⟨gwm 1166 (by decide +kernel) (by decide +kernel), gwm 58 (by decide +kernel) (by decide +kernel), by decide +kernel, by decide⟩
theorem inX10_pay : Cond.instanceMethod yX10_pay ∈ gw := gwm 1164 (by decide +kernel) (by decide +kernel)
theorem seX10_pay : Cond.selects RX10 yX10_pay yX10_pay ∈ gw := gwm 1165 (by decide +kernel) (by decide +kernel)
def mX10_statement : MT := (yX10_statement, cX10_statement, 6, (some .int))
theorem okX10_statement : Mok mX10_statement 3 := ⟨gwm 1188 (by decide +kernel) (by decide +kernel), gwm 58 (by decide +kernel) (by decide +kernel), by decide +kernel, by decide⟩
theorem inX10_statement : Cond.instanceMethod yX10_statement ∈ gw := gwm 1186 (by decide +kernel) (by decide +kernel)
theorem seX10_statement : Cond.selects RX10 yX10_statement yX10_statement ∈ gw := gwm 1187 (by decide +kernel) (by decide +kernel)
def mX10_count : MT := (yX10_count, cX10_count, 4, (some .int))
theorem okX10_count : Mok mX10_count 2 := ⟨gwm 1192 (by decide +kernel) (by decide +kernel), gwm 58 (by decide +kernel) (by decide +kernel), by decide +kernel, by decide⟩
theorem inX10_count : Cond.instanceMethod yX10_count ∈ gw := gwm 1190 (by decide +kernel) (by decide +kernel)
theorem seX10_count : Cond.selects RX10 yX10_count yX10_count ∈ gw := gwm 1191 (by decide +kernel) (by decide +kernel)
def mX10_level : MT := (yX10_level, cX10_level, 4, (some .boolean))
theorem okX10_level : Mok mX10_level 3 := ⟨gwm 1196 (by decide +kernel) (by decide +kernel), gwm 58 (by decide +kernel) (by decide +kernel), by decide +kernel, by decide⟩
theorem inX10_level : Cond.instanceMethod yX10_level ∈ gw := gwm 1194 (by decide +kernel) (by decide +kernel)
theorem seX10_level : Cond.selects RX10 yX10_level yX10_level ∈ gw := gwm 1195 (by decide +kernel) (by decide +kernel)
def mX10_tries : MT := (yX10_tries, cX10_tries, 7, none)
theorem okX10_tries : Mok mX10_tries 2 := ⟨gwm 1204 (by decide +kernel) (by decide +kernel), gwm 58 (by decide +kernel) (by decide +kernel), by decide +kernel, by decide⟩
theorem inX10_tries : Cond.instanceMethod yX10_tries ∈ gw := gwm 1203 (by decide +kernel) (by decide +kernel)
theorem seX10_tries : Cond.selects RX10 yX10_tries yX10_tries ∈ gw := gwm 44 (by decide +kernel) (by decide +kernel)
def mX10_nextRow : MT := (yX10_nextRow, cX10_nextRow, 5, (some .boolean))
theorem okX10_nextRow : Mok mX10_nextRow 1 := ⟨gwm 1208 (by decide +kernel) (by decide +kernel), gwm 58 (by decide +kernel) (by decide +kernel), by decide +kernel, by decide⟩
theorem inX10_nextRow : Cond.instanceMethod yX10_nextRow ∈ gw := gwm 1207 (by decide +kernel) (by decide +kernel)
theorem seX10_nextRow : Cond.selects RX10 yX10_nextRow yX10_nextRow ∈ gw := gwm 45 (by decide +kernel) (by decide +kernel)
def mX10_best : MT := (yX10_best, cX10_best, 6, (some .int))
theorem okX10_best : Mok mX10_best 4 := ⟨gwm 1200 (by decide +kernel) (by decide +kernel), gwm 58 (by decide +kernel) (by decide +kernel), by decide +kernel, by decide⟩
theorem inX10_best : Cond.instanceMethod yX10_best ∈ gw := gwm 1198 (by decide +kernel) (by decide +kernel)
theorem seX10_best : Cond.selects RX10 yX10_best yX10_best ∈ gw := gwm 1199 (by decide +kernel) (by decide +kernel)
theorem lkX10_7 : Cond.fieldLink RX10 7 "GreatStoreModel" "tag" "[I" ∈ gw := gwm 858 (by decide +kernel) (by decide +kernel)
theorem lkX10_13 : Cond.fieldLink RX10 13 "GreatStoreModel" "stock" "[I" ∈ gw := gwm 859 (by decide +kernel) (by decide +kernel)
theorem lkX10_16 : Cond.fieldLink RX10 16 "GreatStoreModel" "raised" "[I" ∈ gw := gwm 860 (by decide +kernel) (by decide +kernel)
theorem lkX10_19 : Cond.fieldLink RX10 19 "GreatStoreModel" "lost" "[I" ∈ gw := gwm 861 (by decide +kernel) (by decide +kernel)
theorem lkX10_22 : Cond.fieldLink RX10 22 "GreatStoreModel" "came" "[I" ∈ gw := gwm 862 (by decide +kernel) (by decide +kernel)
theorem lkX10_25 : Cond.fieldLink RX10 25 "GreatStoreModel" "kind" "[I" ∈ gw := gwm 863 (by decide +kernel) (by decide +kernel)
theorem lkX10_28 : Cond.fieldLink RX10 28 "GreatStoreModel" "clerk" "[I" ∈ gw := gwm 864 (by decide +kernel) (by decide +kernel)
theorem lkX10_31 : Cond.fieldLink RX10 31 "GreatStoreModel" "account" "[I" ∈ gw := gwm 865 (by decide +kernel) (by decide +kernel)
theorem lkX10_34 : Cond.fieldLink RX10 34 "GreatStoreModel" "thingOf" "[I" ∈ gw := gwm 866 (by decide +kernel) (by decide +kernel)
theorem lkX10_37 : Cond.fieldLink RX10 37 "GreatStoreModel" "pieces" "[I" ∈ gw := gwm 867 (by decide +kernel) (by decide +kernel)
theorem lkX10_40 : Cond.fieldLink RX10 40 "GreatStoreModel" "houseOf" "[I" ∈ gw := gwm 868 (by decide +kernel) (by decide +kernel)
theorem lkX10_43 : Cond.fieldLink RX10 43 "GreatStoreModel" "dayOf" "[I" ∈ gw := gwm 869 (by decide +kernel) (by decide +kernel)
theorem lkX10_46 : Cond.fieldLink RX10 46 "GreatStoreModel" "toldOn" "[I" ∈ gw := gwm 870 (by decide +kernel) (by decide +kernel)
theorem lkX10_49 : Cond.fieldLink RX10 49 "GreatStoreModel" "soldOn" "[I" ∈ gw := gwm 871 (by decide +kernel) (by decide +kernel)
theorem lkX10_52 : Cond.fieldLink RX10 52 "GreatStoreModel" "backOn" "[I" ∈ gw := gwm 872 (by decide +kernel) (by decide +kernel)
theorem lkX10_55 : Cond.fieldLink RX10 55 "GreatStoreModel" "round" "[I" ∈ gw := gwm 873 (by decide +kernel) (by decide +kernel)
theorem lkX10_58 : Cond.fieldLink RX10 58 "GreatStoreModel" "worth" "[I" ∈ gw := gwm 874 (by decide +kernel) (by decide +kernel)
theorem lkX10_61 : Cond.fieldLink RX10 61 "GreatStoreModel" "houses" "[I" ∈ gw := gwm 877 (by decide +kernel) (by decide +kernel)
theorem lkX10_64 : Cond.fieldLink RX10 64 "GreatStoreModel" "asked" "[Z" ∈ gw := gwm 878 (by decide +kernel) (by decide +kernel)
theorem lkX10_68 : Cond.fieldLink RX10 68 "GreatStoreModel" "from" "[I" ∈ gw := gwm 882 (by decide +kernel) (by decide +kernel)
theorem lkX10_71 : Cond.fieldLink RX10 71 "GreatStoreModel" "when" "[I" ∈ gw := gwm 883 (by decide +kernel) (by decide +kernel)
theorem lkX10_74 : Cond.fieldLink RX10 74 "GreatStoreModel" "step" "[I" ∈ gw := gwm 884 (by decide +kernel) (by decide +kernel)
theorem lkX10_77 : Cond.fieldLink RX10 77 "GreatStoreModel" "freshFrom" "[I" ∈ gw := gwm 885 (by decide +kernel) (by decide +kernel)
theorem lkX10_80 : Cond.fieldLink RX10 80 "GreatStoreModel" "freshWhen" "[I" ∈ gw := gwm 886 (by decide +kernel) (by decide +kernel)
theorem lkX10_83 : Cond.fieldLink RX10 83 "GreatStoreModel" "fresh" "[I" ∈ gw := gwm 887 (by decide +kernel) (by decide +kernel)
theorem lkX10_86 : Cond.fieldLink RX10 86 "GreatStoreModel" "pile" "[I" ∈ gw := gwm 888 (by decide +kernel) (by decide +kernel)
theorem lkX10_89 : Cond.fieldLink RX10 89 "GreatStoreModel" "tape" "[I" ∈ gw := gwm 889 (by decide +kernel) (by decide +kernel)
theorem lkX10_92 : Cond.fieldLink RX10 92 "GreatStoreModel" "faultPlace" "I" ∈ gw := gwm 899 (by decide +kernel) (by decide +kernel)
theorem lkX10_96 : Cond.fieldLink RX10 96 "GreatStoreModel" "price" "[I" ∈ gw := gwm 904 (by decide +kernel) (by decide +kernel)
theorem lkX10_99 : Cond.fieldLink RX10 99 "GreatStoreModel" "want" "[I" ∈ gw := gwm 905 (by decide +kernel) (by decide +kernel)
theorem lkX10_102 : Cond.fieldLink RX10 102 "GreatStoreModel" "row" "[I" ∈ gw := gwm 906 (by decide +kernel) (by decide +kernel)
theorem lkX10_105 : Cond.fieldLink RX10 105 "GreatStoreModel" "bestRow" "[I" ∈ gw := gwm 907 (by decide +kernel) (by decide +kernel)
theorem lkX10_108 : Cond.fieldLink RX10 108 "GreatStoreModel" "things" "I" ∈ gw := gwm 856 (by decide +kernel) (by decide +kernel)
theorem lkX10_111 : Cond.methodLink RX10 111 yX10_isIn ∈ gw := gwm 1028 (by decide +kernel) (by decide +kernel)
theorem lkX10_115 : Cond.methodLink RX10 115 yX10_isTag ∈ gw := gwm 1025 (by decide +kernel) (by decide +kernel)
theorem lkX10_119 : Cond.fieldLink RX10 119 "GreatStoreModel" "day" "I" ∈ gw := gwm 855 (by decide +kernel) (by decide +kernel)
theorem lkX10_122 : Cond.methodLink RX10 122 yX10_isThing ∈ gw := gwm 1035 (by decide +kernel) (by decide +kernel)
theorem lkX10_125 : Cond.fieldLink RX10 125 "GreatStoreModel" "slips" "I" ∈ gw := gwm 857 (by decide +kernel) (by decide +kernel)
theorem lkX10_128 : Cond.fieldLink RX10 128 "GreatStoreModel" "rounds" "I" ∈ gw := gwm 875 (by decide +kernel) (by decide +kernel)
theorem lkX10_131 : Cond.methodLink RX10 131 yX10_isSlip ∈ gw := gwm 1055 (by decide +kernel) (by decide +kernel)
theorem lkX10_134 : Cond.methodLink RX10 134 yX10_isParcel ∈ gw := gwm 1067 (by decide +kernel) (by decide +kernel)
theorem lkX10_137 : Cond.fieldLink RX10 137 "GreatStoreModel" "lines" "I" ∈ gw := gwm 879 (by decide +kernel) (by decide +kernel)
theorem lkX10_140 : Cond.fieldLink RX10 140 "GreatStoreModel" "housed" "I" ∈ gw := gwm 876 (by decide +kernel) (by decide +kernel)
theorem lkX10_143 : Cond.fieldLink RX10 143 "GreatStoreModel" "taped" "I" ∈ gw := gwm 890 (by decide +kernel) (by decide +kernel)
theorem lkX10_146 : Cond.constantLong RX10 146 (7364985) ∈ gw := gwm 1105 (by decide +kernel) (by decide +kernel)
theorem lkX10_148 : Cond.constantLong RX10 148 (2003330414) ∈ gw := gwm 1106 (by decide +kernel) (by decide +kernel)
theorem lkX10_150 : Cond.constantLong RX10 150 (6385252) ∈ gw := gwm 1107 (by decide +kernel) (by decide +kernel)
theorem lkX10_152 : Cond.constantLong RX10 152 (7566701) ∈ gw := gwm 1108 (by decide +kernel) (by decide +kernel)
theorem lkX10_154 : Cond.constant RX10 154 (1000001) ∈ gw := gwm 1109 (by decide +kernel) (by decide +kernel)
theorem lkX10_155 : Cond.constantLong RX10 155 (495740088435) ∈ gw := gwm 1110 (by decide +kernel) (by decide +kernel)
theorem lkX10_157 : Cond.constant RX10 157 (1000002) ∈ gw := gwm 1111 (by decide +kernel) (by decide +kernel)
theorem lkX10_158 : Cond.constantLong RX10 158 (1650549611) ∈ gw := gwm 1112 (by decide +kernel) (by decide +kernel)
theorem lkX10_160 : Cond.constant RX10 160 (1000003) ∈ gw := gwm 1113 (by decide +kernel) (by decide +kernel)
theorem lkX10_161 : Cond.constantLong RX10 161 (470020945000) ∈ gw := gwm 1114 (by decide +kernel) (by decide +kernel)
theorem lkX10_163 : Cond.constant RX10 163 (1000004) ∈ gw := gwm 1115 (by decide +kernel) (by decide +kernel)
theorem lkX10_164 : Cond.fieldLink RX10 164 "GreatStoreModel" "at" "I" ∈ gw := gwm 891 (by decide +kernel) (by decide +kernel)
theorem lkX10_167 : Cond.methodLink RX10 167 yX10_see ∈ gw := gwm 1095 (by decide +kernel) (by decide +kernel)
theorem lkX10_171 : Cond.fieldLink RX10 171 "GreatStoreModel" "tokenAt" "I" ∈ gw := gwm 893 (by decide +kernel) (by decide +kernel)
theorem lkX10_174 : Cond.fieldLink RX10 174 "GreatStoreModel" "token" "I" ∈ gw := gwm 892 (by decide +kernel) (by decide +kernel)
theorem lkX10_177 : Cond.methodLink RX10 177 yX10_isLetter ∈ gw := gwm 1099 (by decide +kernel) (by decide +kernel)
theorem lkX10_180 : Cond.methodLink RX10 180 yX10_word ∈ gw := gwm 1102 (by decide +kernel) (by decide +kernel)
theorem lkX10_184 : Cond.methodLink RX10 184 yX10_isDigit ∈ gw := gwm 1116 (by decide +kernel) (by decide +kernel)
theorem lkX10_187 : Cond.fieldLink RX10 187 "GreatStoreModel" "value" "I" ∈ gw := gwm 894 (by decide +kernel) (by decide +kernel)
theorem lkX10_190 : Cond.fieldLink RX10 190 "GreatStoreModel" "wrong" "I" ∈ gw := gwm 895 (by decide +kernel) (by decide +kernel)
theorem lkX10_193 : Cond.fieldLink RX10 193 "GreatStoreModel" "wrongAt" "I" ∈ gw := gwm 896 (by decide +kernel) (by decide +kernel)
theorem lkX10_196 : Cond.methodLink RX10 196 yX10_bad ∈ gw := gwm 1123 (by decide +kernel) (by decide +kernel)
theorem lkX10_199 : Cond.methodLink RX10 199 yX10_next0 ∈ gw := gwm 1091 (by decide +kernel) (by decide +kernel)
theorem lkX10_202 : Cond.fieldLink RX10 202 "GreatStoreModel" "freshSteps" "I" ∈ gw := gwm 881 (by decide +kernel) (by decide +kernel)
theorem lkX10_205 : Cond.methodLink RX10 205 yX10_product ∈ gw := gwm 1131 (by decide +kernel) (by decide +kernel)
theorem lkX10_209 : Cond.constant RX10 209 (1000010) ∈ gw := gwm 1149 (by decide +kernel) (by decide +kernel)
theorem lkX10_210 : Cond.constant RX10 210 (1000011) ∈ gw := gwm 1150 (by decide +kernel) (by decide +kernel)
theorem lkX10_211 : Cond.methodLink RX10 211 yX10_lay ∈ gw := gwm 1143 (by decide +kernel) (by decide +kernel)
theorem lkX10_215 : Cond.methodLink RX10 215 yX10_unit ∈ gw := gwm 1135 (by decide +kernel) (by decide +kernel)
theorem lkX10_218 : Cond.constant RX10 218 (1000013) ∈ gw := gwm 1147 (by decide +kernel) (by decide +kernel)
theorem lkX10_219 : Cond.constant RX10 219 (1000012) ∈ gw := gwm 1148 (by decide +kernel) (by decide +kernel)
theorem lkX10_220 : Cond.fieldLink RX10 220 "GreatStoreModel" "depth" "I" ∈ gw := gwm 898 (by decide +kernel) (by decide +kernel)
theorem lkX10_223 : Cond.methodLink RX10 223 yX10_sum ∈ gw := gwm 1127 (by decide +kernel) (by decide +kernel)
theorem lkX10_226 : Cond.methodLink RX10 226 yX10_need ∈ gw := gwm 1139 (by decide +kernel) (by decide +kernel)
theorem lkX10_229 : Cond.constant RX10 229 (1000014) ∈ gw := gwm 1155 (by decide +kernel) (by decide +kernel)
theorem lkX10_230 : Cond.constant RX10 230 (1000015) ∈ gw := gwm 1156 (by decide +kernel) (by decide +kernel)
theorem lkX10_231 : Cond.constant RX10 231 (1000016) ∈ gw := gwm 1157 (by decide +kernel) (by decide +kernel)
theorem lkX10_232 : Cond.fieldLink RX10 232 "GreatStoreModel" "freshLines" "I" ∈ gw := gwm 880 (by decide +kernel) (by decide +kernel)
theorem lkX10_235 : Cond.methodLink RX10 235 yX10_holds ∈ gw := gwm 1151 (by decide +kernel) (by decide +kernel)
theorem lkX10_238 : Cond.constant RX10 238 (1000017) ∈ gw := gwm 1158 (by decide +kernel) (by decide +kernel)
theorem lkX10_239 : Cond.methodLink RX10 239 yX10_aLine ∈ gw := gwm 1119 (by decide +kernel) (by decide +kernel)
theorem lkX10_242 : Cond.fieldLink RX10 242 "GreatStoreModel" "faultKind" "I" ∈ gw := gwm 897 (by decide +kernel) (by decide +kernel)
theorem lkX10_245 : Cond.fieldLink RX10 245 "GreatStoreModel" "tSum" "I" ∈ gw := gwm 900 (by decide +kernel) (by decide +kernel)
theorem lkX10_248 : Cond.fieldLink RX10 248 "GreatStoreModel" "tSlips" "I" ∈ gw := gwm 901 (by decide +kernel) (by decide +kernel)
theorem lkX10_251 : Cond.fieldLink RX10 251 "GreatStoreModel" "tBack" "I" ∈ gw := gwm 902 (by decide +kernel) (by decide +kernel)
theorem lkX10_254 : Cond.fieldLink RX10 254 "GreatStoreModel" "tMonth" "I" ∈ gw := gwm 903 (by decide +kernel) (by decide +kernel)
theorem lkX10_257 : Cond.methodLink RX10 257 yX10_isOf ∈ gw := gwm 1175 (by decide +kernel) (by decide +kernel)
theorem lkX10_261 : Cond.methodLink RX10 261 yX10_both ∈ gw := gwm 1182 (by decide +kernel) (by decide +kernel)
theorem lkX10_265 : Cond.methodLink RX10 265 yX10_isMonth ∈ gw := gwm 1167 (by decide +kernel) (by decide +kernel)
theorem lkX10_268 : Cond.constant RX10 268 (-1000001) ∈ gw := gwm 1170 (by decide +kernel) (by decide +kernel)
theorem lkX10_269 : Cond.methodLink RX10 269 yX10_takes ∈ gw := gwm 1171 (by decide +kernel) (by decide +kernel)
theorem lkX10_273 : Cond.methodLink RX10 273 yX10_worked ∈ gw := gwm 1178 (by decide +kernel) (by decide +kernel)
theorem lkX10_277 : Cond.fieldLink RX10 277 "GreatStoreModel" "bestSum" "I" ∈ gw := gwm 908 (by decide +kernel) (by decide +kernel)
theorem lkX10_280 : Cond.fieldLink RX10 280 "GreatStoreModel" "bestLeft" "I" ∈ gw := gwm 909 (by decide +kernel) (by decide +kernel)
theorem lkX10_283 : Cond.methodLink RX10 283 yX10_tries ∈ gw := gwm 1201 (by decide +kernel) (by decide +kernel)
theorem lkX10_286 : Cond.methodLink RX10 286 yX10_nextRow ∈ gw := gwm 1205 (by decide +kernel) (by decide +kernel)
theorem dX10_isIn_0 : decode cX10_isIn 0 = .ok (.iload_n 0, 1) := by decide +kernel
theorem dX10_isIn_1 : decode cX10_isIn 1 = .ok (.iload_n 1, 1) := by decide +kernel
theorem dX10_isIn_2 : decode cX10_isIn 2 = .ok (.if_icmp .lt 12, 3) := by decide +kernel
theorem dX10_isIn_5 : decode cX10_isIn 5 = .ok (.iload_n 0, 1) := by decide +kernel
theorem dX10_isIn_6 : decode cX10_isIn 6 = .ok (.iload_n 2, 1) := by decide +kernel
theorem dX10_isIn_7 : decode cX10_isIn 7 = .ok (.if_icmp .gt 7, 3) := by decide +kernel
theorem dX10_isIn_10 : decode cX10_isIn 10 = .ok (.iconst 1, 1) := by decide +kernel
theorem dX10_isIn_11 : decode cX10_isIn 11 = .ok (.goto 4, 3) := by decide +kernel
theorem dX10_isIn_14 : decode cX10_isIn 14 = .ok (.iconst 0, 1) := by decide +kernel
theorem dX10_isIn_15 : decode cX10_isIn 15 = .ok (.ireturn, 1) := by decide +kernel
theorem dX10_isThing_0 : decode cX10_isThing 0 = .ok (.iload_n 1, 1) := by decide +kernel
theorem dX10_isThing_1 : decode cX10_isThing 1 = .ok (.iconst 0, 1) := by decide +kernel
theorem dX10_isThing_2 : decode cX10_isThing 2 = .ok (.aload_n 0, 1) := by decide +kernel
theorem dX10_isThing_3 : decode cX10_isThing 3 = .ok (.getfield 108, 3) := by decide +kernel
theorem dX10_isThing_6 : decode cX10_isThing 6 = .ok (.iconst 1, 1) := by decide +kernel
theorem dX10_isThing_7 : decode cX10_isThing 7 = .ok (.isub, 1) := by decide +kernel
theorem dX10_isThing_8 : decode cX10_isThing 8 = .ok (.invokestatic 111, 3) := by decide +kernel
theorem dX10_isThing_11 : decode cX10_isThing 11 = .ok (.ireturn, 1) := by decide +kernel
theorem dX10_isTag_0 : decode cX10_isTag 0 = .ok (.iload_n 0, 1) := by decide +kernel
theorem dX10_isTag_1 : decode cX10_isTag 1 = .ok (.iconst 1, 1) := by decide +kernel
theorem dX10_isTag_2 : decode cX10_isTag 2 = .ok (.sipush 9999, 3) := by decide +kernel
theorem dX10_isTag_5 : decode cX10_isTag 5 = .ok (.invokestatic 111, 3) := by decide +kernel
theorem dX10_isTag_8 : decode cX10_isTag 8 = .ok (.ireturn, 1) := by decide +kernel
theorem dX10_thing_0 : decode cX10_thing 0 = .ok (.iload_n 1, 1) := by decide +kernel
theorem dX10_thing_1 : decode cX10_thing 1 = .ok (.invokestatic 115, 3) := by decide +kernel
theorem dX10_thing_4 : decode cX10_thing 4 = .ok (.ifCond .eq 23, 3) := by decide +kernel
theorem dX10_thing_7 : decode cX10_thing 7 = .ok (.iload_n 2, 1) := by decide +kernel
theorem dX10_thing_8 : decode cX10_thing 8 = .ok (.iconst 0, 1) := by decide +kernel
theorem dX10_thing_9 : decode cX10_thing 9 = .ok (.sipush 999, 3) := by decide +kernel
theorem dX10_thing_12 : decode cX10_thing 12 = .ok (.invokestatic 111, 3) := by decide +kernel
theorem dX10_thing_15 : decode cX10_thing 15 = .ok (.ifCond .eq 12, 3) := by decide +kernel
theorem dX10_thing_18 : decode cX10_thing 18 = .ok (.aload_n 0, 1) := by decide +kernel
theorem dX10_thing_19 : decode cX10_thing 19 = .ok (.getfield 108, 3) := by decide +kernel
theorem dX10_thing_22 : decode cX10_thing 22 = .ok (.bipush 12, 2) := by decide +kernel
theorem dX10_thing_24 : decode cX10_thing 24 = .ok (.if_icmp .ne 5, 3) := by decide +kernel
theorem dX10_thing_27 : decode cX10_thing 27 = .ok (.iconst (-1), 1) := by decide +kernel
theorem dX10_thing_28 : decode cX10_thing 28 = .ok (.ireturn, 1) := by decide +kernel
theorem dX10_thing_29 : decode cX10_thing 29 = .ok (.aload_n 0, 1) := by decide +kernel
theorem dX10_thing_30 : decode cX10_thing 30 = .ok (.getfield 108, 3) := by decide +kernel
theorem dX10_thing_33 : decode cX10_thing 33 = .ok (.istore_n 3, 1) := by decide +kernel
theorem dX10_thing_34 : decode cX10_thing 34 = .ok (.aload_n 0, 1) := by decide +kernel
theorem dX10_thing_35 : decode cX10_thing 35 = .ok (.dup, 1) := by decide +kernel
theorem dX10_thing_36 : decode cX10_thing 36 = .ok (.getfield 108, 3) := by decide +kernel
theorem dX10_thing_39 : decode cX10_thing 39 = .ok (.iconst 1, 1) := by decide +kernel
theorem dX10_thing_40 : decode cX10_thing 40 = .ok (.iadd, 1) := by decide +kernel
theorem dX10_thing_41 : decode cX10_thing 41 = .ok (.putfield 108, 3) := by decide +kernel
theorem dX10_thing_44 : decode cX10_thing 44 = .ok (.aload_n 0, 1) := by decide +kernel
theorem dX10_thing_45 : decode cX10_thing 45 = .ok (.getfield 7, 3) := by decide +kernel
theorem dX10_thing_48 : decode cX10_thing 48 = .ok (.sipush 364, 3) := by decide +kernel
theorem dX10_thing_51 : decode cX10_thing 51 = .ok (.iload_n 3, 1) := by decide +kernel
theorem dX10_thing_52 : decode cX10_thing 52 = .ok (.imul, 1) := by decide +kernel
theorem dX10_thing_53 : decode cX10_thing 53 = .ok (.aload_n 0, 1) := by decide +kernel
theorem dX10_thing_54 : decode cX10_thing 54 = .ok (.getfield 119, 3) := by decide +kernel
theorem dX10_thing_57 : decode cX10_thing 57 = .ok (.iadd, 1) := by decide +kernel
theorem dX10_thing_58 : decode cX10_thing 58 = .ok (.iload_n 1, 1) := by decide +kernel
theorem dX10_thing_59 : decode cX10_thing 59 = .ok (.iastore, 1) := by decide +kernel
theorem dX10_thing_60 : decode cX10_thing 60 = .ok (.aload_n 0, 1) := by decide +kernel
theorem dX10_thing_61 : decode cX10_thing 61 = .ok (.getfield 13, 3) := by decide +kernel
theorem dX10_thing_64 : decode cX10_thing 64 = .ok (.iload_n 3, 1) := by decide +kernel
theorem dX10_thing_65 : decode cX10_thing 65 = .ok (.iload_n 2, 1) := by decide +kernel
theorem dX10_thing_66 : decode cX10_thing 66 = .ok (.iastore, 1) := by decide +kernel
theorem dX10_thing_67 : decode cX10_thing 67 = .ok (.aload_n 0, 1) := by decide +kernel
theorem dX10_thing_68 : decode cX10_thing 68 = .ok (.getfield 22, 3) := by decide +kernel
theorem dX10_thing_71 : decode cX10_thing 71 = .ok (.iload_n 3, 1) := by decide +kernel
theorem dX10_thing_72 : decode cX10_thing 72 = .ok (.aload_n 0, 1) := by decide +kernel
theorem dX10_thing_73 : decode cX10_thing 73 = .ok (.getfield 119, 3) := by decide +kernel
theorem dX10_thing_76 : decode cX10_thing 76 = .ok (.iastore, 1) := by decide +kernel
theorem dX10_thing_77 : decode cX10_thing 77 = .ok (.iload_n 3, 1) := by decide +kernel
theorem dX10_thing_78 : decode cX10_thing 78 = .ok (.ireturn, 1) := by decide +kernel
theorem dX10_tag_0 : decode cX10_tag 0 = .ok (.aload_n 0, 1) := by decide +kernel
theorem dX10_tag_1 : decode cX10_tag 1 = .ok (.iload_n 1, 1) := by decide +kernel
theorem dX10_tag_2 : decode cX10_tag 2 = .ok (.invokevirtual 122, 3) := by decide +kernel
theorem dX10_tag_5 : decode cX10_tag 5 = .ok (.ifCond .eq 10, 3) := by decide +kernel
theorem dX10_tag_8 : decode cX10_tag 8 = .ok (.iload_n 2, 1) := by decide +kernel
theorem dX10_tag_9 : decode cX10_tag 9 = .ok (.invokestatic 115, 3) := by decide +kernel
theorem dX10_tag_12 : decode cX10_tag 12 = .ok (.ifCond .ne 5, 3) := by decide +kernel
theorem dX10_tag_15 : decode cX10_tag 15 = .ok (.iconst (-1), 1) := by decide +kernel
theorem dX10_tag_16 : decode cX10_tag 16 = .ok (.ireturn, 1) := by decide +kernel
theorem dX10_tag_17 : decode cX10_tag 17 = .ok (.aload_n 0, 1) := by decide +kernel
theorem dX10_tag_18 : decode cX10_tag 18 = .ok (.getfield 7, 3) := by decide +kernel
theorem dX10_tag_21 : decode cX10_tag 21 = .ok (.sipush 364, 3) := by decide +kernel
theorem dX10_tag_24 : decode cX10_tag 24 = .ok (.iload_n 1, 1) := by decide +kernel
theorem dX10_tag_25 : decode cX10_tag 25 = .ok (.imul, 1) := by decide +kernel
theorem dX10_tag_26 : decode cX10_tag 26 = .ok (.aload_n 0, 1) := by decide +kernel
theorem dX10_tag_27 : decode cX10_tag 27 = .ok (.getfield 119, 3) := by decide +kernel
theorem dX10_tag_30 : decode cX10_tag 30 = .ok (.iadd, 1) := by decide +kernel
theorem dX10_tag_31 : decode cX10_tag 31 = .ok (.iaload, 1) := by decide +kernel
theorem dX10_tag_32 : decode cX10_tag 32 = .ok (.istore_n 3, 1) := by decide +kernel
theorem dX10_tag_33 : decode cX10_tag 33 = .ok (.aload_n 0, 1) := by decide +kernel
theorem dX10_tag_34 : decode cX10_tag 34 = .ok (.getfield 7, 3) := by decide +kernel
theorem dX10_tag_37 : decode cX10_tag 37 = .ok (.sipush 364, 3) := by decide +kernel
theorem dX10_tag_40 : decode cX10_tag 40 = .ok (.iload_n 1, 1) := by decide +kernel
theorem dX10_tag_41 : decode cX10_tag 41 = .ok (.imul, 1) := by decide +kernel
theorem dX10_tag_42 : decode cX10_tag 42 = .ok (.aload_n 0, 1) := by decide +kernel
theorem dX10_tag_43 : decode cX10_tag 43 = .ok (.getfield 119, 3) := by decide +kernel
theorem dX10_tag_46 : decode cX10_tag 46 = .ok (.iadd, 1) := by decide +kernel
theorem dX10_tag_47 : decode cX10_tag 47 = .ok (.iload_n 2, 1) := by decide +kernel
theorem dX10_tag_48 : decode cX10_tag 48 = .ok (.iastore, 1) := by decide +kernel
theorem dX10_tag_49 : decode cX10_tag 49 = .ok (.iload_n 2, 1) := by decide +kernel
theorem dX10_tag_50 : decode cX10_tag 50 = .ok (.iload_n 3, 1) := by decide +kernel
theorem dX10_tag_51 : decode cX10_tag 51 = .ok (.if_icmp .le 13, 3) := by decide +kernel
theorem dX10_tag_54 : decode cX10_tag 54 = .ok (.aload_n 0, 1) := by decide +kernel
theorem dX10_tag_55 : decode cX10_tag 55 = .ok (.getfield 16, 3) := by decide +kernel
theorem dX10_tag_58 : decode cX10_tag 58 = .ok (.iload_n 1, 1) := by decide +kernel
theorem dX10_tag_59 : decode cX10_tag 59 = .ok (.dup2, 1) := by decide +kernel
theorem dX10_tag_60 : decode cX10_tag 60 = .ok (.iaload, 1) := by decide +kernel
theorem dX10_tag_61 : decode cX10_tag 61 = .ok (.iconst 1, 1) := by decide +kernel
theorem dX10_tag_62 : decode cX10_tag 62 = .ok (.iadd, 1) := by decide +kernel
theorem dX10_tag_63 : decode cX10_tag 63 = .ok (.iastore, 1) := by decide +kernel
theorem dX10_tag_64 : decode cX10_tag 64 = .ok (.iload_n 2, 1) := by decide +kernel
theorem dX10_tag_65 : decode cX10_tag 65 = .ok (.iload_n 3, 1) := by decide +kernel
theorem dX10_tag_66 : decode cX10_tag 66 = .ok (.if_icmp .ge 7, 3) := by decide +kernel
theorem dX10_tag_69 : decode cX10_tag 69 = .ok (.iconst 1, 1) := by decide +kernel
theorem dX10_tag_70 : decode cX10_tag 70 = .ok (.goto 13, 3) := by decide +kernel
theorem dX10_tag_73 : decode cX10_tag 73 = .ok (.iload_n 2, 1) := by decide +kernel
theorem dX10_tag_74 : decode cX10_tag 74 = .ok (.iload_n 3, 1) := by decide +kernel
theorem dX10_tag_75 : decode cX10_tag 75 = .ok (.if_icmp .le 7, 3) := by decide +kernel
theorem dX10_tag_78 : decode cX10_tag 78 = .ok (.iconst 2, 1) := by decide +kernel
theorem dX10_tag_79 : decode cX10_tag 79 = .ok (.goto 4, 3) := by decide +kernel
theorem dX10_tag_82 : decode cX10_tag 82 = .ok (.iconst 0, 1) := by decide +kernel
theorem dX10_tag_83 : decode cX10_tag 83 = .ok (.ireturn, 1) := by decide +kernel
theorem dX10_of_0 : decode cX10_of 0 = .ok (.aload_n 0, 1) := by decide +kernel
theorem dX10_of_1 : decode cX10_of 1 = .ok (.iload_n 1, 1) := by decide +kernel
theorem dX10_of_2 : decode cX10_of 2 = .ok (.invokevirtual 122, 3) := by decide +kernel
theorem dX10_of_5 : decode cX10_of 5 = .ok (.ifCond .ne 5, 3) := by decide +kernel
theorem dX10_of_8 : decode cX10_of 8 = .ok (.iconst (-1), 1) := by decide +kernel
theorem dX10_of_9 : decode cX10_of 9 = .ok (.ireturn, 1) := by decide +kernel
theorem dX10_of_10 : decode cX10_of 10 = .ok (.iload_n 2, 1) := by decide +kernel
theorem dX10_of_11 : decode cX10_of 11 = .ok (.tableswitch 66 0 3 #[29, 45, 52, 59], 29) := by decide +kernel
theorem dX10_of_40 : decode cX10_of 40 = .ok (.aload_n 0, 1) := by decide +kernel
theorem dX10_of_41 : decode cX10_of 41 = .ok (.getfield 7, 3) := by decide +kernel
theorem dX10_of_44 : decode cX10_of 44 = .ok (.sipush 364, 3) := by decide +kernel
theorem dX10_of_47 : decode cX10_of 47 = .ok (.iload_n 1, 1) := by decide +kernel
theorem dX10_of_48 : decode cX10_of 48 = .ok (.imul, 1) := by decide +kernel
theorem dX10_of_49 : decode cX10_of 49 = .ok (.aload_n 0, 1) := by decide +kernel
theorem dX10_of_50 : decode cX10_of 50 = .ok (.getfield 119, 3) := by decide +kernel
theorem dX10_of_53 : decode cX10_of 53 = .ok (.iadd, 1) := by decide +kernel
theorem dX10_of_54 : decode cX10_of 54 = .ok (.iaload, 1) := by decide +kernel
theorem dX10_of_55 : decode cX10_of 55 = .ok (.ireturn, 1) := by decide +kernel
theorem dX10_of_56 : decode cX10_of 56 = .ok (.aload_n 0, 1) := by decide +kernel
theorem dX10_of_57 : decode cX10_of 57 = .ok (.getfield 13, 3) := by decide +kernel
theorem dX10_of_60 : decode cX10_of 60 = .ok (.iload_n 1, 1) := by decide +kernel
theorem dX10_of_61 : decode cX10_of 61 = .ok (.iaload, 1) := by decide +kernel
theorem dX10_of_62 : decode cX10_of 62 = .ok (.ireturn, 1) := by decide +kernel
theorem dX10_of_63 : decode cX10_of 63 = .ok (.aload_n 0, 1) := by decide +kernel
theorem dX10_of_64 : decode cX10_of 64 = .ok (.getfield 16, 3) := by decide +kernel
theorem dX10_of_67 : decode cX10_of 67 = .ok (.iload_n 1, 1) := by decide +kernel
theorem dX10_of_68 : decode cX10_of 68 = .ok (.iaload, 1) := by decide +kernel
theorem dX10_of_69 : decode cX10_of 69 = .ok (.ireturn, 1) := by decide +kernel
theorem dX10_of_70 : decode cX10_of 70 = .ok (.aload_n 0, 1) := by decide +kernel
theorem dX10_of_71 : decode cX10_of 71 = .ok (.getfield 19, 3) := by decide +kernel
theorem dX10_of_74 : decode cX10_of 74 = .ok (.iload_n 1, 1) := by decide +kernel
theorem dX10_of_75 : decode cX10_of 75 = .ok (.iaload, 1) := by decide +kernel
theorem dX10_of_76 : decode cX10_of 76 = .ok (.ireturn, 1) := by decide +kernel
theorem dX10_of_77 : decode cX10_of 77 = .ok (.iload_n 2, 1) := by decide +kernel
theorem dX10_of_78 : decode cX10_of 78 = .ok (.sipush 1000, 3) := by decide +kernel
theorem dX10_of_81 : decode cX10_of 81 = .ok (.sipush 1000, 3) := by decide +kernel
theorem dX10_of_84 : decode cX10_of 84 = .ok (.aload_n 0, 1) := by decide +kernel
theorem dX10_of_85 : decode cX10_of 85 = .ok (.getfield 119, 3) := by decide +kernel
theorem dX10_of_88 : decode cX10_of 88 = .ok (.iadd, 1) := by decide +kernel
theorem dX10_of_89 : decode cX10_of 89 = .ok (.invokestatic 111, 3) := by decide +kernel
theorem dX10_of_92 : decode cX10_of 92 = .ok (.ifCond .eq 22, 3) := by decide +kernel
theorem dX10_of_95 : decode cX10_of 95 = .ok (.aload_n 0, 1) := by decide +kernel
theorem dX10_of_96 : decode cX10_of 96 = .ok (.getfield 7, 3) := by decide +kernel
theorem dX10_of_99 : decode cX10_of 99 = .ok (.sipush 364, 3) := by decide +kernel
theorem dX10_of_102 : decode cX10_of 102 = .ok (.iload_n 1, 1) := by decide +kernel
theorem dX10_of_103 : decode cX10_of 103 = .ok (.imul, 1) := by decide +kernel
theorem dX10_of_104 : decode cX10_of 104 = .ok (.iload_n 2, 1) := by decide +kernel
theorem dX10_of_105 : decode cX10_of 105 = .ok (.iadd, 1) := by decide +kernel
theorem dX10_of_106 : decode cX10_of 106 = .ok (.sipush 1000, 3) := by decide +kernel
theorem dX10_of_109 : decode cX10_of 109 = .ok (.isub, 1) := by decide +kernel
theorem dX10_of_110 : decode cX10_of 110 = .ok (.iaload, 1) := by decide +kernel
theorem dX10_of_111 : decode cX10_of 111 = .ok (.goto 4, 3) := by decide +kernel
theorem dX10_of_114 : decode cX10_of 114 = .ok (.iconst (-1), 1) := by decide +kernel
theorem dX10_of_115 : decode cX10_of 115 = .ok (.ireturn, 1) := by decide +kernel
theorem dX10_next_0 : decode cX10_next 0 = .ok (.aload_n 0, 1) := by decide +kernel
theorem dX10_next_1 : decode cX10_next 1 = .ok (.getfield 119, 3) := by decide +kernel
theorem dX10_next_4 : decode cX10_next 4 = .ok (.sipush 363, 3) := by decide +kernel
theorem dX10_next_7 : decode cX10_next 7 = .ok (.if_icmp .ne 5, 3) := by decide +kernel
theorem dX10_next_10 : decode cX10_next 10 = .ok (.iconst (-1), 1) := by decide +kernel
theorem dX10_next_11 : decode cX10_next 11 = .ok (.ireturn, 1) := by decide +kernel
theorem dX10_next_12 : decode cX10_next 12 = .ok (.aload_n 0, 1) := by decide +kernel
theorem dX10_next_13 : decode cX10_next 13 = .ok (.dup, 1) := by decide +kernel
theorem dX10_next_14 : decode cX10_next 14 = .ok (.getfield 119, 3) := by decide +kernel
theorem dX10_next_17 : decode cX10_next 17 = .ok (.iconst 1, 1) := by decide +kernel
theorem dX10_next_18 : decode cX10_next 18 = .ok (.iadd, 1) := by decide +kernel
theorem dX10_next_19 : decode cX10_next 19 = .ok (.putfield 119, 3) := by decide +kernel
theorem dX10_next_22 : decode cX10_next 22 = .ok (.iconst 0, 1) := by decide +kernel
theorem dX10_next_23 : decode cX10_next 23 = .ok (.istore_n 1, 1) := by decide +kernel
theorem dX10_next_24 : decode cX10_next 24 = .ok (.iload_n 1, 1) := by decide +kernel
theorem dX10_next_25 : decode cX10_next 25 = .ok (.aload_n 0, 1) := by decide +kernel
theorem dX10_next_26 : decode cX10_next 26 = .ok (.getfield 108, 3) := by decide +kernel
theorem dX10_next_29 : decode cX10_next 29 = .ok (.if_icmp .ge 41, 3) := by decide +kernel
theorem dX10_next_32 : decode cX10_next 32 = .ok (.aload_n 0, 1) := by decide +kernel
theorem dX10_next_33 : decode cX10_next 33 = .ok (.getfield 7, 3) := by decide +kernel
theorem dX10_next_36 : decode cX10_next 36 = .ok (.sipush 364, 3) := by decide +kernel
theorem dX10_next_39 : decode cX10_next 39 = .ok (.iload_n 1, 1) := by decide +kernel
theorem dX10_next_40 : decode cX10_next 40 = .ok (.imul, 1) := by decide +kernel
theorem dX10_next_41 : decode cX10_next 41 = .ok (.aload_n 0, 1) := by decide +kernel
theorem dX10_next_42 : decode cX10_next 42 = .ok (.getfield 119, 3) := by decide +kernel
theorem dX10_next_45 : decode cX10_next 45 = .ok (.iadd, 1) := by decide +kernel
theorem dX10_next_46 : decode cX10_next 46 = .ok (.aload_n 0, 1) := by decide +kernel
theorem dX10_next_47 : decode cX10_next 47 = .ok (.getfield 7, 3) := by decide +kernel
theorem dX10_next_50 : decode cX10_next 50 = .ok (.sipush 364, 3) := by decide +kernel
theorem dX10_next_53 : decode cX10_next 53 = .ok (.iload_n 1, 1) := by decide +kernel
theorem dX10_next_54 : decode cX10_next 54 = .ok (.imul, 1) := by decide +kernel
theorem dX10_next_55 : decode cX10_next 55 = .ok (.aload_n 0, 1) := by decide +kernel
theorem dX10_next_56 : decode cX10_next 56 = .ok (.getfield 119, 3) := by decide +kernel
theorem dX10_next_59 : decode cX10_next 59 = .ok (.iadd, 1) := by decide +kernel
theorem dX10_next_60 : decode cX10_next 60 = .ok (.iconst 1, 1) := by decide +kernel
theorem dX10_next_61 : decode cX10_next 61 = .ok (.isub, 1) := by decide +kernel
theorem dX10_next_62 : decode cX10_next 62 = .ok (.iaload, 1) := by decide +kernel
theorem dX10_next_63 : decode cX10_next 63 = .ok (.iastore, 1) := by decide +kernel
theorem dX10_next_64 : decode cX10_next 64 = .ok (.iinc 1 1, 3) := by decide +kernel
theorem dX10_next_67 : decode cX10_next 67 = .ok (.goto (-43), 3) := by decide +kernel
theorem dX10_next_70 : decode cX10_next 70 = .ok (.iconst 0, 1) := by decide +kernel
theorem dX10_next_71 : decode cX10_next 71 = .ok (.istore_n 1, 1) := by decide +kernel
theorem dX10_next_72 : decode cX10_next 72 = .ok (.iload_n 1, 1) := by decide +kernel
theorem dX10_next_73 : decode cX10_next 73 = .ok (.aload_n 0, 1) := by decide +kernel
theorem dX10_next_74 : decode cX10_next 74 = .ok (.getfield 125, 3) := by decide +kernel
theorem dX10_next_77 : decode cX10_next 77 = .ok (.if_icmp .ge 65, 3) := by decide +kernel
theorem dX10_next_80 : decode cX10_next 80 = .ok (.aload_n 0, 1) := by decide +kernel
theorem dX10_next_81 : decode cX10_next 81 = .ok (.getfield 25, 3) := by decide +kernel
theorem dX10_next_84 : decode cX10_next 84 = .ok (.iload_n 1, 1) := by decide +kernel
theorem dX10_next_85 : decode cX10_next 85 = .ok (.iaload, 1) := by decide +kernel
theorem dX10_next_86 : decode cX10_next 86 = .ok (.iconst 2, 1) := by decide +kernel
theorem dX10_next_87 : decode cX10_next 87 = .ok (.if_icmp .ne 49, 3) := by decide +kernel
theorem dX10_next_90 : decode cX10_next 90 = .ok (.aload_n 0, 1) := by decide +kernel
theorem dX10_next_91 : decode cX10_next 91 = .ok (.getfield 49, 3) := by decide +kernel
theorem dX10_next_94 : decode cX10_next 94 = .ok (.iload_n 1, 1) := by decide +kernel
theorem dX10_next_95 : decode cX10_next 95 = .ok (.iaload, 1) := by decide +kernel
theorem dX10_next_96 : decode cX10_next 96 = .ok (.iconst (-1), 1) := by decide +kernel
theorem dX10_next_97 : decode cX10_next 97 = .ok (.if_icmp .ne 39, 3) := by decide +kernel
theorem dX10_next_100 : decode cX10_next 100 = .ok (.aload_n 0, 1) := by decide +kernel
theorem dX10_next_101 : decode cX10_next 101 = .ok (.getfield 52, 3) := by decide +kernel
theorem dX10_next_104 : decode cX10_next 104 = .ok (.iload_n 1, 1) := by decide +kernel
theorem dX10_next_105 : decode cX10_next 105 = .ok (.iaload, 1) := by decide +kernel
theorem dX10_next_106 : decode cX10_next 106 = .ok (.iconst (-1), 1) := by decide +kernel
theorem dX10_next_107 : decode cX10_next 107 = .ok (.if_icmp .ne 29, 3) := by decide +kernel
theorem dX10_next_110 : decode cX10_next 110 = .ok (.aload_n 0, 1) := by decide +kernel
theorem dX10_next_111 : decode cX10_next 111 = .ok (.getfield 43, 3) := by decide +kernel
theorem dX10_next_114 : decode cX10_next 114 = .ok (.iload_n 1, 1) := by decide +kernel
theorem dX10_next_115 : decode cX10_next 115 = .ok (.iaload, 1) := by decide +kernel
theorem dX10_next_116 : decode cX10_next 116 = .ok (.bipush 7, 2) := by decide +kernel
theorem dX10_next_118 : decode cX10_next 118 = .ok (.iadd, 1) := by decide +kernel
theorem dX10_next_119 : decode cX10_next 119 = .ok (.aload_n 0, 1) := by decide +kernel
theorem dX10_next_120 : decode cX10_next 120 = .ok (.getfield 119, 3) := by decide +kernel
theorem dX10_next_123 : decode cX10_next 123 = .ok (.if_icmp .ne 13, 3) := by decide +kernel
theorem dX10_next_126 : decode cX10_next 126 = .ok (.aload_n 0, 1) := by decide +kernel
theorem dX10_next_127 : decode cX10_next 127 = .ok (.getfield 49, 3) := by decide +kernel
theorem dX10_next_130 : decode cX10_next 130 = .ok (.iload_n 1, 1) := by decide +kernel
theorem dX10_next_131 : decode cX10_next 131 = .ok (.aload_n 0, 1) := by decide +kernel
theorem dX10_next_132 : decode cX10_next 132 = .ok (.getfield 119, 3) := by decide +kernel
theorem dX10_next_135 : decode cX10_next 135 = .ok (.iastore, 1) := by decide +kernel
theorem dX10_next_136 : decode cX10_next 136 = .ok (.iinc 1 1, 3) := by decide +kernel
theorem dX10_next_139 : decode cX10_next 139 = .ok (.goto (-67), 3) := by decide +kernel
theorem dX10_next_142 : decode cX10_next 142 = .ok (.aload_n 0, 1) := by decide +kernel
theorem dX10_next_143 : decode cX10_next 143 = .ok (.iconst 0, 1) := by decide +kernel
theorem dX10_next_144 : decode cX10_next 144 = .ok (.putfield 128, 3) := by decide +kernel
theorem dX10_next_147 : decode cX10_next 147 = .ok (.aload_n 0, 1) := by decide +kernel
theorem dX10_next_148 : decode cX10_next 148 = .ok (.getfield 119, 3) := by decide +kernel
theorem dX10_next_151 : decode cX10_next 151 = .ok (.ireturn, 1) := by decide +kernel
theorem dX10_slip_0 : decode cX10_slip 0 = .ok (.iload_n 1, 1) := by decide +kernel
theorem dX10_slip_1 : decode cX10_slip 1 = .ok (.iconst 0, 1) := by decide +kernel
theorem dX10_slip_2 : decode cX10_slip 2 = .ok (.iconst 2, 1) := by decide +kernel
theorem dX10_slip_3 : decode cX10_slip 3 = .ok (.invokestatic 111, 3) := by decide +kernel
theorem dX10_slip_6 : decode cX10_slip 6 = .ok (.ifCond .eq 53, 3) := by decide +kernel
theorem dX10_slip_9 : decode cX10_slip 9 = .ok (.iload_n 2, 1) := by decide +kernel
theorem dX10_slip_10 : decode cX10_slip 10 = .ok (.iconst 0, 1) := by decide +kernel
theorem dX10_slip_11 : decode cX10_slip 11 = .ok (.bipush 7, 2) := by decide +kernel
theorem dX10_slip_13 : decode cX10_slip 13 = .ok (.invokestatic 111, 3) := by decide +kernel
theorem dX10_slip_16 : decode cX10_slip 16 = .ok (.ifCond .eq 43, 3) := by decide +kernel
theorem dX10_slip_19 : decode cX10_slip 19 = .ok (.aload_n 0, 1) := by decide +kernel
theorem dX10_slip_20 : decode cX10_slip 20 = .ok (.iload 4, 2) := by decide +kernel
theorem dX10_slip_22 : decode cX10_slip 22 = .ok (.invokevirtual 122, 3) := by decide +kernel
theorem dX10_slip_25 : decode cX10_slip 25 = .ok (.ifCond .eq 34, 3) := by decide +kernel
theorem dX10_slip_28 : decode cX10_slip 28 = .ok (.iload 5, 2) := by decide +kernel
theorem dX10_slip_30 : decode cX10_slip 30 = .ok (.iconst 1, 1) := by decide +kernel
theorem dX10_slip_31 : decode cX10_slip 31 = .ok (.bipush 99, 2) := by decide +kernel
theorem dX10_slip_33 : decode cX10_slip 33 = .ok (.invokestatic 111, 3) := by decide +kernel
theorem dX10_slip_36 : decode cX10_slip 36 = .ok (.ifCond .eq 23, 3) := by decide +kernel
theorem dX10_slip_39 : decode cX10_slip 39 = .ok (.iload 6, 2) := by decide +kernel
theorem dX10_slip_41 : decode cX10_slip 41 = .ok (.iconst (-1), 1) := by decide +kernel
theorem dX10_slip_42 : decode cX10_slip 42 = .ok (.bipush 19, 2) := by decide +kernel
theorem dX10_slip_44 : decode cX10_slip 44 = .ok (.invokestatic 111, 3) := by decide +kernel
theorem dX10_slip_47 : decode cX10_slip 47 = .ok (.ifCond .eq 12, 3) := by decide +kernel
theorem dX10_slip_50 : decode cX10_slip 50 = .ok (.aload_n 0, 1) := by decide +kernel
theorem dX10_slip_51 : decode cX10_slip 51 = .ok (.getfield 125, 3) := by decide +kernel
theorem dX10_slip_54 : decode cX10_slip 54 = .ok (.bipush 120, 2) := by decide +kernel
theorem dX10_slip_56 : decode cX10_slip 56 = .ok (.if_icmp .ne 5, 3) := by decide +kernel
theorem dX10_slip_59 : decode cX10_slip 59 = .ok (.iconst (-1), 1) := by decide +kernel
theorem dX10_slip_60 : decode cX10_slip 60 = .ok (.ireturn, 1) := by decide +kernel
theorem dX10_slip_61 : decode cX10_slip 61 = .ok (.iload_n 1, 1) := by decide +kernel
theorem dX10_slip_62 : decode cX10_slip 62 = .ok (.ifCond .ne 11, 3) := by decide +kernel
theorem dX10_slip_65 : decode cX10_slip 65 = .ok (.iload_n 3, 1) := by decide +kernel
theorem dX10_slip_66 : decode cX10_slip 66 = .ok (.iconst (-1), 1) := by decide +kernel
theorem dX10_slip_67 : decode cX10_slip 67 = .ok (.if_icmp .eq 18, 3) := by decide +kernel
theorem dX10_slip_70 : decode cX10_slip 70 = .ok (.goto 13, 3) := by decide +kernel
theorem dX10_slip_73 : decode cX10_slip 73 = .ok (.iload_n 3, 1) := by decide +kernel
theorem dX10_slip_74 : decode cX10_slip 74 = .ok (.iconst 0, 1) := by decide +kernel
theorem dX10_slip_75 : decode cX10_slip 75 = .ok (.bipush 9, 2) := by decide +kernel
theorem dX10_slip_77 : decode cX10_slip 77 = .ok (.invokestatic 111, 3) := by decide +kernel
theorem dX10_slip_80 : decode cX10_slip 80 = .ok (.ifCond .ne 5, 3) := by decide +kernel
theorem dX10_slip_83 : decode cX10_slip 83 = .ok (.iconst (-1), 1) := by decide +kernel
theorem dX10_slip_84 : decode cX10_slip 84 = .ok (.ireturn, 1) := by decide +kernel
theorem dX10_slip_85 : decode cX10_slip 85 = .ok (.iload 7, 2) := by decide +kernel
theorem dX10_slip_87 : decode cX10_slip 87 = .ok (.aload_n 0, 1) := by decide +kernel
theorem dX10_slip_88 : decode cX10_slip 88 = .ok (.getfield 119, 3) := by decide +kernel
theorem dX10_slip_91 : decode cX10_slip 91 = .ok (.bipush 28, 2) := by decide +kernel
theorem dX10_slip_93 : decode cX10_slip 93 = .ok (.isub, 1) := by decide +kernel
theorem dX10_slip_94 : decode cX10_slip 94 = .ok (.aload_n 0, 1) := by decide +kernel
theorem dX10_slip_95 : decode cX10_slip 95 = .ok (.getfield 119, 3) := by decide +kernel
theorem dX10_slip_98 : decode cX10_slip 98 = .ok (.invokestatic 111, 3) := by decide +kernel
theorem dX10_slip_101 : decode cX10_slip 101 = .ok (.ifCond .eq 32, 3) := by decide +kernel
theorem dX10_slip_104 : decode cX10_slip 104 = .ok (.iload 7, 2) := by decide +kernel
theorem dX10_slip_106 : decode cX10_slip 106 = .ok (.ifCond .lt 27, 3) := by decide +kernel
theorem dX10_slip_109 : decode cX10_slip 109 = .ok (.aload_n 0, 1) := by decide +kernel
theorem dX10_slip_110 : decode cX10_slip 110 = .ok (.getfield 22, 3) := by decide +kernel
theorem dX10_slip_113 : decode cX10_slip 113 = .ok (.iload 4, 2) := by decide +kernel
theorem dX10_slip_115 : decode cX10_slip 115 = .ok (.iaload, 1) := by decide +kernel
theorem dX10_slip_116 : decode cX10_slip 116 = .ok (.iload 7, 2) := by decide +kernel
theorem dX10_slip_118 : decode cX10_slip 118 = .ok (.if_icmp .gt 15, 3) := by decide +kernel
theorem dX10_slip_121 : decode cX10_slip 121 = .ok (.aload_n 0, 1) := by decide +kernel
theorem dX10_slip_122 : decode cX10_slip 122 = .ok (.getfield 13, 3) := by decide +kernel
theorem dX10_slip_125 : decode cX10_slip 125 = .ok (.iload 4, 2) := by decide +kernel
theorem dX10_slip_127 : decode cX10_slip 127 = .ok (.iaload, 1) := by decide +kernel
theorem dX10_slip_128 : decode cX10_slip 128 = .ok (.iload 5, 2) := by decide +kernel
theorem dX10_slip_130 : decode cX10_slip 130 = .ok (.if_icmp .ge 5, 3) := by decide +kernel
theorem dX10_slip_133 : decode cX10_slip 133 = .ok (.iconst (-1), 1) := by decide +kernel
theorem dX10_slip_134 : decode cX10_slip 134 = .ok (.ireturn, 1) := by decide +kernel
theorem dX10_slip_135 : decode cX10_slip 135 = .ok (.aload_n 0, 1) := by decide +kernel
theorem dX10_slip_136 : decode cX10_slip 136 = .ok (.getfield 125, 3) := by decide +kernel
theorem dX10_slip_139 : decode cX10_slip 139 = .ok (.istore 8, 2) := by decide +kernel
theorem dX10_slip_141 : decode cX10_slip 141 = .ok (.aload_n 0, 1) := by decide +kernel
theorem dX10_slip_142 : decode cX10_slip 142 = .ok (.dup, 1) := by decide +kernel
theorem dX10_slip_143 : decode cX10_slip 143 = .ok (.getfield 125, 3) := by decide +kernel
theorem dX10_slip_146 : decode cX10_slip 146 = .ok (.iconst 1, 1) := by decide +kernel
theorem dX10_slip_147 : decode cX10_slip 147 = .ok (.iadd, 1) := by decide +kernel
theorem dX10_slip_148 : decode cX10_slip 148 = .ok (.putfield 125, 3) := by decide +kernel
theorem dX10_slip_151 : decode cX10_slip 151 = .ok (.aload_n 0, 1) := by decide +kernel
theorem dX10_slip_152 : decode cX10_slip 152 = .ok (.getfield 25, 3) := by decide +kernel
theorem dX10_slip_155 : decode cX10_slip 155 = .ok (.iload 8, 2) := by decide +kernel
theorem dX10_slip_157 : decode cX10_slip 157 = .ok (.iload_n 1, 1) := by decide +kernel
theorem dX10_slip_158 : decode cX10_slip 158 = .ok (.iastore, 1) := by decide +kernel
theorem dX10_slip_159 : decode cX10_slip 159 = .ok (.aload_n 0, 1) := by decide +kernel
theorem dX10_slip_160 : decode cX10_slip 160 = .ok (.getfield 28, 3) := by decide +kernel
theorem dX10_slip_163 : decode cX10_slip 163 = .ok (.iload 8, 2) := by decide +kernel
theorem dX10_slip_165 : decode cX10_slip 165 = .ok (.iload_n 2, 1) := by decide +kernel
theorem dX10_slip_166 : decode cX10_slip 166 = .ok (.iastore, 1) := by decide +kernel
theorem dX10_slip_167 : decode cX10_slip 167 = .ok (.aload_n 0, 1) := by decide +kernel
theorem dX10_slip_168 : decode cX10_slip 168 = .ok (.getfield 31, 3) := by decide +kernel
theorem dX10_slip_171 : decode cX10_slip 171 = .ok (.iload 8, 2) := by decide +kernel
theorem dX10_slip_173 : decode cX10_slip 173 = .ok (.iload_n 3, 1) := by decide +kernel
theorem dX10_slip_174 : decode cX10_slip 174 = .ok (.iastore, 1) := by decide +kernel
theorem dX10_slip_175 : decode cX10_slip 175 = .ok (.aload_n 0, 1) := by decide +kernel
theorem dX10_slip_176 : decode cX10_slip 176 = .ok (.getfield 34, 3) := by decide +kernel
theorem dX10_slip_179 : decode cX10_slip 179 = .ok (.iload 8, 2) := by decide +kernel
theorem dX10_slip_181 : decode cX10_slip 181 = .ok (.iload 4, 2) := by decide +kernel
theorem dX10_slip_183 : decode cX10_slip 183 = .ok (.iastore, 1) := by decide +kernel
theorem dX10_slip_184 : decode cX10_slip 184 = .ok (.aload_n 0, 1) := by decide +kernel
theorem dX10_slip_185 : decode cX10_slip 185 = .ok (.getfield 37, 3) := by decide +kernel
theorem dX10_slip_188 : decode cX10_slip 188 = .ok (.iload 8, 2) := by decide +kernel
theorem dX10_slip_190 : decode cX10_slip 190 = .ok (.iload 5, 2) := by decide +kernel
theorem dX10_slip_192 : decode cX10_slip 192 = .ok (.iastore, 1) := by decide +kernel
theorem dX10_slip_193 : decode cX10_slip 193 = .ok (.aload_n 0, 1) := by decide +kernel
theorem dX10_slip_194 : decode cX10_slip 194 = .ok (.getfield 40, 3) := by decide +kernel
theorem dX10_slip_197 : decode cX10_slip 197 = .ok (.iload 8, 2) := by decide +kernel
theorem dX10_slip_199 : decode cX10_slip 199 = .ok (.iload 6, 2) := by decide +kernel
theorem dX10_slip_201 : decode cX10_slip 201 = .ok (.iastore, 1) := by decide +kernel
theorem dX10_slip_202 : decode cX10_slip 202 = .ok (.aload_n 0, 1) := by decide +kernel
theorem dX10_slip_203 : decode cX10_slip 203 = .ok (.getfield 43, 3) := by decide +kernel
theorem dX10_slip_206 : decode cX10_slip 206 = .ok (.iload 8, 2) := by decide +kernel
theorem dX10_slip_208 : decode cX10_slip 208 = .ok (.iload 7, 2) := by decide +kernel
theorem dX10_slip_210 : decode cX10_slip 210 = .ok (.iastore, 1) := by decide +kernel
theorem dX10_slip_211 : decode cX10_slip 211 = .ok (.aload_n 0, 1) := by decide +kernel
theorem dX10_slip_212 : decode cX10_slip 212 = .ok (.getfield 46, 3) := by decide +kernel
theorem dX10_slip_215 : decode cX10_slip 215 = .ok (.iload 8, 2) := by decide +kernel
theorem dX10_slip_217 : decode cX10_slip 217 = .ok (.aload_n 0, 1) := by decide +kernel
theorem dX10_slip_218 : decode cX10_slip 218 = .ok (.getfield 119, 3) := by decide +kernel
theorem dX10_slip_221 : decode cX10_slip 221 = .ok (.iastore, 1) := by decide +kernel
theorem dX10_slip_222 : decode cX10_slip 222 = .ok (.aload_n 0, 1) := by decide +kernel
theorem dX10_slip_223 : decode cX10_slip 223 = .ok (.getfield 49, 3) := by decide +kernel
theorem dX10_slip_226 : decode cX10_slip 226 = .ok (.iload 8, 2) := by decide +kernel
theorem dX10_slip_228 : decode cX10_slip 228 = .ok (.iload_n 1, 1) := by decide +kernel
theorem dX10_slip_229 : decode cX10_slip 229 = .ok (.iconst 2, 1) := by decide +kernel
theorem dX10_slip_230 : decode cX10_slip 230 = .ok (.if_icmp .eq 8, 3) := by decide +kernel
theorem dX10_slip_233 : decode cX10_slip 233 = .ok (.iload 7, 2) := by decide +kernel
theorem dX10_slip_235 : decode cX10_slip 235 = .ok (.goto 24, 3) := by decide +kernel
theorem dX10_slip_238 : decode cX10_slip 238 = .ok (.iload 7, 2) := by decide +kernel
theorem dX10_slip_240 : decode cX10_slip 240 = .ok (.bipush 7, 2) := by decide +kernel
theorem dX10_slip_242 : decode cX10_slip 242 = .ok (.iadd, 1) := by decide +kernel
theorem dX10_slip_243 : decode cX10_slip 243 = .ok (.aload_n 0, 1) := by decide +kernel
theorem dX10_slip_244 : decode cX10_slip 244 = .ok (.getfield 119, 3) := by decide +kernel
theorem dX10_slip_247 : decode cX10_slip 247 = .ok (.if_icmp .gt 11, 3) := by decide +kernel
theorem dX10_slip_250 : decode cX10_slip 250 = .ok (.iload 7, 2) := by decide +kernel
theorem dX10_slip_252 : decode cX10_slip 252 = .ok (.bipush 7, 2) := by decide +kernel
theorem dX10_slip_254 : decode cX10_slip 254 = .ok (.iadd, 1) := by decide +kernel
theorem dX10_slip_255 : decode cX10_slip 255 = .ok (.goto 4, 3) := by decide +kernel
theorem dX10_slip_258 : decode cX10_slip 258 = .ok (.iconst (-1), 1) := by decide +kernel
theorem dX10_slip_259 : decode cX10_slip 259 = .ok (.iastore, 1) := by decide +kernel
theorem dX10_slip_260 : decode cX10_slip 260 = .ok (.aload_n 0, 1) := by decide +kernel
theorem dX10_slip_261 : decode cX10_slip 261 = .ok (.getfield 52, 3) := by decide +kernel
theorem dX10_slip_264 : decode cX10_slip 264 = .ok (.iload 8, 2) := by decide +kernel
theorem dX10_slip_266 : decode cX10_slip 266 = .ok (.iconst (-1), 1) := by decide +kernel
theorem dX10_slip_267 : decode cX10_slip 267 = .ok (.iastore, 1) := by decide +kernel
theorem dX10_slip_268 : decode cX10_slip 268 = .ok (.aload_n 0, 1) := by decide +kernel
theorem dX10_slip_269 : decode cX10_slip 269 = .ok (.getfield 55, 3) := by decide +kernel
theorem dX10_slip_272 : decode cX10_slip 272 = .ok (.iload 8, 2) := by decide +kernel
theorem dX10_slip_274 : decode cX10_slip 274 = .ok (.iconst (-1), 1) := by decide +kernel
theorem dX10_slip_275 : decode cX10_slip 275 = .ok (.iastore, 1) := by decide +kernel
theorem dX10_slip_276 : decode cX10_slip 276 = .ok (.aload_n 0, 1) := by decide +kernel
theorem dX10_slip_277 : decode cX10_slip 277 = .ok (.getfield 58, 3) := by decide +kernel
theorem dX10_slip_280 : decode cX10_slip 280 = .ok (.iload 8, 2) := by decide +kernel
theorem dX10_slip_282 : decode cX10_slip 282 = .ok (.iload 5, 2) := by decide +kernel
theorem dX10_slip_284 : decode cX10_slip 284 = .ok (.aload_n 0, 1) := by decide +kernel
theorem dX10_slip_285 : decode cX10_slip 285 = .ok (.getfield 7, 3) := by decide +kernel
theorem dX10_slip_288 : decode cX10_slip 288 = .ok (.sipush 364, 3) := by decide +kernel
theorem dX10_slip_291 : decode cX10_slip 291 = .ok (.iload 4, 2) := by decide +kernel
theorem dX10_slip_293 : decode cX10_slip 293 = .ok (.imul, 1) := by decide +kernel
theorem dX10_slip_294 : decode cX10_slip 294 = .ok (.iload 7, 2) := by decide +kernel
theorem dX10_slip_296 : decode cX10_slip 296 = .ok (.iadd, 1) := by decide +kernel
theorem dX10_slip_297 : decode cX10_slip 297 = .ok (.iaload, 1) := by decide +kernel
theorem dX10_slip_298 : decode cX10_slip 298 = .ok (.imul, 1) := by decide +kernel
theorem dX10_slip_299 : decode cX10_slip 299 = .ok (.iastore, 1) := by decide +kernel
theorem dX10_slip_300 : decode cX10_slip 300 = .ok (.aload_n 0, 1) := by decide +kernel
theorem dX10_slip_301 : decode cX10_slip 301 = .ok (.getfield 13, 3) := by decide +kernel
theorem dX10_slip_304 : decode cX10_slip 304 = .ok (.iload 4, 2) := by decide +kernel
theorem dX10_slip_306 : decode cX10_slip 306 = .ok (.dup2, 1) := by decide +kernel
theorem dX10_slip_307 : decode cX10_slip 307 = .ok (.iaload, 1) := by decide +kernel
theorem dX10_slip_308 : decode cX10_slip 308 = .ok (.iload 5, 2) := by decide +kernel
theorem dX10_slip_310 : decode cX10_slip 310 = .ok (.isub, 1) := by decide +kernel
theorem dX10_slip_311 : decode cX10_slip 311 = .ok (.iastore, 1) := by decide +kernel
theorem dX10_slip_312 : decode cX10_slip 312 = .ok (.iload 8, 2) := by decide +kernel
theorem dX10_slip_314 : decode cX10_slip 314 = .ok (.ireturn, 1) := by decide +kernel
theorem dX10_isSlip_0 : decode cX10_isSlip 0 = .ok (.iload_n 1, 1) := by decide +kernel
theorem dX10_isSlip_1 : decode cX10_isSlip 1 = .ok (.iconst 0, 1) := by decide +kernel
theorem dX10_isSlip_2 : decode cX10_isSlip 2 = .ok (.aload_n 0, 1) := by decide +kernel
theorem dX10_isSlip_3 : decode cX10_isSlip 3 = .ok (.getfield 125, 3) := by decide +kernel
theorem dX10_isSlip_6 : decode cX10_isSlip 6 = .ok (.iconst 1, 1) := by decide +kernel
theorem dX10_isSlip_7 : decode cX10_isSlip 7 = .ok (.isub, 1) := by decide +kernel
theorem dX10_isSlip_8 : decode cX10_isSlip 8 = .ok (.invokestatic 111, 3) := by decide +kernel
theorem dX10_isSlip_11 : decode cX10_isSlip 11 = .ok (.ireturn, 1) := by decide +kernel
theorem dX10_paper_0 : decode cX10_paper 0 = .ok (.aload_n 0, 1) := by decide +kernel
theorem dX10_paper_1 : decode cX10_paper 1 = .ok (.iload_n 1, 1) := by decide +kernel
theorem dX10_paper_2 : decode cX10_paper 2 = .ok (.invokevirtual 131, 3) := by decide +kernel
theorem dX10_paper_5 : decode cX10_paper 5 = .ok (.ifCond .ne 5, 3) := by decide +kernel
theorem dX10_paper_8 : decode cX10_paper 8 = .ok (.iconst (-1), 1) := by decide +kernel
theorem dX10_paper_9 : decode cX10_paper 9 = .ok (.ireturn, 1) := by decide +kernel
theorem dX10_paper_10 : decode cX10_paper 10 = .ok (.iload_n 2, 1) := by decide +kernel
theorem dX10_paper_11 : decode cX10_paper 11 = .ok (.tableswitch 113 0 6 #[41, 71, 78, 85, 92, 99, 106], 41) := by decide +kernel
theorem dX10_paper_52 : decode cX10_paper 52 = .ok (.aload_n 0, 1) := by decide +kernel
theorem dX10_paper_53 : decode cX10_paper 53 = .ok (.getfield 52, 3) := by decide +kernel
theorem dX10_paper_56 : decode cX10_paper 56 = .ok (.iload_n 1, 1) := by decide +kernel
theorem dX10_paper_57 : decode cX10_paper 57 = .ok (.iaload, 1) := by decide +kernel
theorem dX10_paper_58 : decode cX10_paper 58 = .ok (.iconst (-1), 1) := by decide +kernel
theorem dX10_paper_59 : decode cX10_paper 59 = .ok (.if_icmp .eq 7, 3) := by decide +kernel
theorem dX10_paper_62 : decode cX10_paper 62 = .ok (.iconst 2, 1) := by decide +kernel
theorem dX10_paper_63 : decode cX10_paper 63 = .ok (.goto 18, 3) := by decide +kernel
theorem dX10_paper_66 : decode cX10_paper 66 = .ok (.aload_n 0, 1) := by decide +kernel
theorem dX10_paper_67 : decode cX10_paper 67 = .ok (.getfield 49, 3) := by decide +kernel
theorem dX10_paper_70 : decode cX10_paper 70 = .ok (.iload_n 1, 1) := by decide +kernel
theorem dX10_paper_71 : decode cX10_paper 71 = .ok (.iaload, 1) := by decide +kernel
theorem dX10_paper_72 : decode cX10_paper 72 = .ok (.iconst (-1), 1) := by decide +kernel
theorem dX10_paper_73 : decode cX10_paper 73 = .ok (.if_icmp .eq 7, 3) := by decide +kernel
theorem dX10_paper_76 : decode cX10_paper 76 = .ok (.iconst 0, 1) := by decide +kernel
theorem dX10_paper_77 : decode cX10_paper 77 = .ok (.goto 4, 3) := by decide +kernel
theorem dX10_paper_80 : decode cX10_paper 80 = .ok (.iconst 1, 1) := by decide +kernel
theorem dX10_paper_81 : decode cX10_paper 81 = .ok (.ireturn, 1) := by decide +kernel
theorem dX10_paper_82 : decode cX10_paper 82 = .ok (.aload_n 0, 1) := by decide +kernel
theorem dX10_paper_83 : decode cX10_paper 83 = .ok (.getfield 58, 3) := by decide +kernel
theorem dX10_paper_86 : decode cX10_paper 86 = .ok (.iload_n 1, 1) := by decide +kernel
theorem dX10_paper_87 : decode cX10_paper 87 = .ok (.iaload, 1) := by decide +kernel
theorem dX10_paper_88 : decode cX10_paper 88 = .ok (.ireturn, 1) := by decide +kernel
theorem dX10_paper_89 : decode cX10_paper 89 = .ok (.aload_n 0, 1) := by decide +kernel
theorem dX10_paper_90 : decode cX10_paper 90 = .ok (.getfield 43, 3) := by decide +kernel
theorem dX10_paper_93 : decode cX10_paper 93 = .ok (.iload_n 1, 1) := by decide +kernel
theorem dX10_paper_94 : decode cX10_paper 94 = .ok (.iaload, 1) := by decide +kernel
theorem dX10_paper_95 : decode cX10_paper 95 = .ok (.ireturn, 1) := by decide +kernel
theorem dX10_paper_96 : decode cX10_paper 96 = .ok (.aload_n 0, 1) := by decide +kernel
theorem dX10_paper_97 : decode cX10_paper 97 = .ok (.getfield 46, 3) := by decide +kernel
theorem dX10_paper_100 : decode cX10_paper 100 = .ok (.iload_n 1, 1) := by decide +kernel
theorem dX10_paper_101 : decode cX10_paper 101 = .ok (.iaload, 1) := by decide +kernel
theorem dX10_paper_102 : decode cX10_paper 102 = .ok (.ireturn, 1) := by decide +kernel
theorem dX10_paper_103 : decode cX10_paper 103 = .ok (.aload_n 0, 1) := by decide +kernel
theorem dX10_paper_104 : decode cX10_paper 104 = .ok (.getfield 49, 3) := by decide +kernel
theorem dX10_paper_107 : decode cX10_paper 107 = .ok (.iload_n 1, 1) := by decide +kernel
theorem dX10_paper_108 : decode cX10_paper 108 = .ok (.iaload, 1) := by decide +kernel
theorem dX10_paper_109 : decode cX10_paper 109 = .ok (.ireturn, 1) := by decide +kernel
theorem dX10_paper_110 : decode cX10_paper 110 = .ok (.aload_n 0, 1) := by decide +kernel
theorem dX10_paper_111 : decode cX10_paper 111 = .ok (.getfield 52, 3) := by decide +kernel
theorem dX10_paper_114 : decode cX10_paper 114 = .ok (.iload_n 1, 1) := by decide +kernel
theorem dX10_paper_115 : decode cX10_paper 115 = .ok (.iaload, 1) := by decide +kernel
theorem dX10_paper_116 : decode cX10_paper 116 = .ok (.ireturn, 1) := by decide +kernel
theorem dX10_paper_117 : decode cX10_paper 117 = .ok (.aload_n 0, 1) := by decide +kernel
theorem dX10_paper_118 : decode cX10_paper 118 = .ok (.getfield 55, 3) := by decide +kernel
theorem dX10_paper_121 : decode cX10_paper 121 = .ok (.iload_n 1, 1) := by decide +kernel
theorem dX10_paper_122 : decode cX10_paper 122 = .ok (.iaload, 1) := by decide +kernel
theorem dX10_paper_123 : decode cX10_paper 123 = .ok (.ireturn, 1) := by decide +kernel
theorem dX10_paper_124 : decode cX10_paper 124 = .ok (.iconst (-1), 1) := by decide +kernel
theorem dX10_paper_125 : decode cX10_paper 125 = .ok (.ireturn, 1) := by decide +kernel
theorem dX10_back_0 : decode cX10_back 0 = .ok (.aload_n 0, 1) := by decide +kernel
theorem dX10_back_1 : decode cX10_back 1 = .ok (.iload_n 1, 1) := by decide +kernel
theorem dX10_back_2 : decode cX10_back 2 = .ok (.invokevirtual 131, 3) := by decide +kernel
theorem dX10_back_5 : decode cX10_back 5 = .ok (.ifCond .eq 39, 3) := by decide +kernel
theorem dX10_back_8 : decode cX10_back 8 = .ok (.aload_n 0, 1) := by decide +kernel
theorem dX10_back_9 : decode cX10_back 9 = .ok (.getfield 52, 3) := by decide +kernel
theorem dX10_back_12 : decode cX10_back 12 = .ok (.iload_n 1, 1) := by decide +kernel
theorem dX10_back_13 : decode cX10_back 13 = .ok (.iaload, 1) := by decide +kernel
theorem dX10_back_14 : decode cX10_back 14 = .ok (.iconst (-1), 1) := by decide +kernel
theorem dX10_back_15 : decode cX10_back 15 = .ok (.if_icmp .ne 29, 3) := by decide +kernel
theorem dX10_back_18 : decode cX10_back 18 = .ok (.aload_n 0, 1) := by decide +kernel
theorem dX10_back_19 : decode cX10_back 19 = .ok (.getfield 49, 3) := by decide +kernel
theorem dX10_back_22 : decode cX10_back 22 = .ok (.iload_n 1, 1) := by decide +kernel
theorem dX10_back_23 : decode cX10_back 23 = .ok (.iaload, 1) := by decide +kernel
theorem dX10_back_24 : decode cX10_back 24 = .ok (.iconst (-1), 1) := by decide +kernel
theorem dX10_back_25 : decode cX10_back 25 = .ok (.if_icmp .eq 21, 3) := by decide +kernel
theorem dX10_back_28 : decode cX10_back 28 = .ok (.aload_n 0, 1) := by decide +kernel
theorem dX10_back_29 : decode cX10_back 29 = .ok (.getfield 119, 3) := by decide +kernel
theorem dX10_back_32 : decode cX10_back 32 = .ok (.aload_n 0, 1) := by decide +kernel
theorem dX10_back_33 : decode cX10_back 33 = .ok (.getfield 49, 3) := by decide +kernel
theorem dX10_back_36 : decode cX10_back 36 = .ok (.iload_n 1, 1) := by decide +kernel
theorem dX10_back_37 : decode cX10_back 37 = .ok (.iaload, 1) := by decide +kernel
theorem dX10_back_38 : decode cX10_back 38 = .ok (.isub, 1) := by decide +kernel
theorem dX10_back_39 : decode cX10_back 39 = .ok (.bipush 28, 2) := by decide +kernel
theorem dX10_back_41 : decode cX10_back 41 = .ok (.if_icmp .le 5, 3) := by decide +kernel
theorem dX10_back_44 : decode cX10_back 44 = .ok (.iconst 0, 1) := by decide +kernel
theorem dX10_back_45 : decode cX10_back 45 = .ok (.ireturn, 1) := by decide +kernel
theorem dX10_back_46 : decode cX10_back 46 = .ok (.aload_n 0, 1) := by decide +kernel
theorem dX10_back_47 : decode cX10_back 47 = .ok (.getfield 52, 3) := by decide +kernel
theorem dX10_back_50 : decode cX10_back 50 = .ok (.iload_n 1, 1) := by decide +kernel
theorem dX10_back_51 : decode cX10_back 51 = .ok (.aload_n 0, 1) := by decide +kernel
theorem dX10_back_52 : decode cX10_back 52 = .ok (.getfield 119, 3) := by decide +kernel
theorem dX10_back_55 : decode cX10_back 55 = .ok (.iastore, 1) := by decide +kernel
theorem dX10_back_56 : decode cX10_back 56 = .ok (.aload_n 0, 1) := by decide +kernel
theorem dX10_back_57 : decode cX10_back 57 = .ok (.getfield 13, 3) := by decide +kernel
theorem dX10_back_60 : decode cX10_back 60 = .ok (.aload_n 0, 1) := by decide +kernel
theorem dX10_back_61 : decode cX10_back 61 = .ok (.getfield 34, 3) := by decide +kernel
theorem dX10_back_64 : decode cX10_back 64 = .ok (.iload_n 1, 1) := by decide +kernel
theorem dX10_back_65 : decode cX10_back 65 = .ok (.iaload, 1) := by decide +kernel
theorem dX10_back_66 : decode cX10_back 66 = .ok (.dup2, 1) := by decide +kernel
theorem dX10_back_67 : decode cX10_back 67 = .ok (.iaload, 1) := by decide +kernel
theorem dX10_back_68 : decode cX10_back 68 = .ok (.aload_n 0, 1) := by decide +kernel
theorem dX10_back_69 : decode cX10_back 69 = .ok (.getfield 37, 3) := by decide +kernel
theorem dX10_back_72 : decode cX10_back 72 = .ok (.iload_n 1, 1) := by decide +kernel
theorem dX10_back_73 : decode cX10_back 73 = .ok (.iaload, 1) := by decide +kernel
theorem dX10_back_74 : decode cX10_back 74 = .ok (.iadd, 1) := by decide +kernel
theorem dX10_back_75 : decode cX10_back 75 = .ok (.iastore, 1) := by decide +kernel
theorem dX10_back_76 : decode cX10_back 76 = .ok (.iconst 1, 1) := by decide +kernel
theorem dX10_back_77 : decode cX10_back 77 = .ok (.ireturn, 1) := by decide +kernel
theorem dX10_isParcel_0 : decode cX10_isParcel 0 = .ok (.aload_n 0, 1) := by decide +kernel
theorem dX10_isParcel_1 : decode cX10_isParcel 1 = .ok (.getfield 40, 3) := by decide +kernel
theorem dX10_isParcel_4 : decode cX10_isParcel 4 = .ok (.iload_n 1, 1) := by decide +kernel
theorem dX10_isParcel_5 : decode cX10_isParcel 5 = .ok (.iaload, 1) := by decide +kernel
theorem dX10_isParcel_6 : decode cX10_isParcel 6 = .ok (.iconst (-1), 1) := by decide +kernel
theorem dX10_isParcel_7 : decode cX10_isParcel 7 = .ok (.if_icmp .eq 27, 3) := by decide +kernel
theorem dX10_isParcel_10 : decode cX10_isParcel 10 = .ok (.aload_n 0, 1) := by decide +kernel
theorem dX10_isParcel_11 : decode cX10_isParcel 11 = .ok (.getfield 55, 3) := by decide +kernel
theorem dX10_isParcel_14 : decode cX10_isParcel 14 = .ok (.iload_n 1, 1) := by decide +kernel
theorem dX10_isParcel_15 : decode cX10_isParcel 15 = .ok (.iaload, 1) := by decide +kernel
theorem dX10_isParcel_16 : decode cX10_isParcel 16 = .ok (.iconst (-1), 1) := by decide +kernel
theorem dX10_isParcel_17 : decode cX10_isParcel 17 = .ok (.if_icmp .ne 17, 3) := by decide +kernel
theorem dX10_isParcel_20 : decode cX10_isParcel 20 = .ok (.aload_n 0, 1) := by decide +kernel
theorem dX10_isParcel_21 : decode cX10_isParcel 21 = .ok (.getfield 52, 3) := by decide +kernel
theorem dX10_isParcel_24 : decode cX10_isParcel 24 = .ok (.iload_n 1, 1) := by decide +kernel
theorem dX10_isParcel_25 : decode cX10_isParcel 25 = .ok (.iaload, 1) := by decide +kernel
theorem dX10_isParcel_26 : decode cX10_isParcel 26 = .ok (.iconst (-1), 1) := by decide +kernel
theorem dX10_isParcel_27 : decode cX10_isParcel 27 = .ok (.if_icmp .ne 7, 3) := by decide +kernel
theorem dX10_isParcel_30 : decode cX10_isParcel 30 = .ok (.iconst 1, 1) := by decide +kernel
theorem dX10_isParcel_31 : decode cX10_isParcel 31 = .ok (.goto 4, 3) := by decide +kernel
theorem dX10_isParcel_34 : decode cX10_isParcel 34 = .ok (.iconst 0, 1) := by decide +kernel
theorem dX10_isParcel_35 : decode cX10_isParcel 35 = .ok (.ireturn, 1) := by decide +kernel
theorem dX10_look_0 : decode cX10_look 0 = .ok (.iconst 0, 1) := by decide +kernel
theorem dX10_look_1 : decode cX10_look 1 = .ok (.istore_n 2, 1) := by decide +kernel
theorem dX10_look_2 : decode cX10_look 2 = .ok (.iload_n 1, 1) := by decide +kernel
theorem dX10_look_3 : decode cX10_look 3 = .ok (.tableswitch 146 0 6 #[41, 46, 51, 56, 102, 136, 141], 41) := by decide +kernel
theorem dX10_look_44 : decode cX10_look 44 = .ok (.aload_n 0, 1) := by decide +kernel
theorem dX10_look_45 : decode cX10_look 45 = .ok (.getfield 119, 3) := by decide +kernel
theorem dX10_look_48 : decode cX10_look 48 = .ok (.ireturn, 1) := by decide +kernel
theorem dX10_look_49 : decode cX10_look 49 = .ok (.aload_n 0, 1) := by decide +kernel
theorem dX10_look_50 : decode cX10_look 50 = .ok (.getfield 108, 3) := by decide +kernel
theorem dX10_look_53 : decode cX10_look 53 = .ok (.ireturn, 1) := by decide +kernel
theorem dX10_look_54 : decode cX10_look 54 = .ok (.aload_n 0, 1) := by decide +kernel
theorem dX10_look_55 : decode cX10_look 55 = .ok (.getfield 125, 3) := by decide +kernel
theorem dX10_look_58 : decode cX10_look 58 = .ok (.ireturn, 1) := by decide +kernel
theorem dX10_look_59 : decode cX10_look 59 = .ok (.iconst 0, 1) := by decide +kernel
theorem dX10_look_60 : decode cX10_look 60 = .ok (.istore_n 3, 1) := by decide +kernel
theorem dX10_look_61 : decode cX10_look 61 = .ok (.iload_n 3, 1) := by decide +kernel
theorem dX10_look_62 : decode cX10_look 62 = .ok (.aload_n 0, 1) := by decide +kernel
theorem dX10_look_63 : decode cX10_look 63 = .ok (.getfield 125, 3) := by decide +kernel
theorem dX10_look_66 : decode cX10_look 66 = .ok (.if_icmp .ge 37, 3) := by decide +kernel
theorem dX10_look_69 : decode cX10_look 69 = .ok (.iload_n 2, 1) := by decide +kernel
theorem dX10_look_70 : decode cX10_look 70 = .ok (.aload_n 0, 1) := by decide +kernel
theorem dX10_look_71 : decode cX10_look 71 = .ok (.getfield 49, 3) := by decide +kernel
theorem dX10_look_74 : decode cX10_look 74 = .ok (.iload_n 3, 1) := by decide +kernel
theorem dX10_look_75 : decode cX10_look 75 = .ok (.iaload, 1) := by decide +kernel
theorem dX10_look_76 : decode cX10_look 76 = .ok (.iconst (-1), 1) := by decide +kernel
theorem dX10_look_77 : decode cX10_look 77 = .ok (.if_icmp .ne 17, 3) := by decide +kernel
theorem dX10_look_80 : decode cX10_look 80 = .ok (.aload_n 0, 1) := by decide +kernel
theorem dX10_look_81 : decode cX10_look 81 = .ok (.getfield 52, 3) := by decide +kernel
theorem dX10_look_84 : decode cX10_look 84 = .ok (.iload_n 3, 1) := by decide +kernel
theorem dX10_look_85 : decode cX10_look 85 = .ok (.iaload, 1) := by decide +kernel
theorem dX10_look_86 : decode cX10_look 86 = .ok (.iconst (-1), 1) := by decide +kernel
theorem dX10_look_87 : decode cX10_look 87 = .ok (.if_icmp .ne 7, 3) := by decide +kernel
theorem dX10_look_90 : decode cX10_look 90 = .ok (.iconst 1, 1) := by decide +kernel
theorem dX10_look_91 : decode cX10_look 91 = .ok (.goto 4, 3) := by decide +kernel
theorem dX10_look_94 : decode cX10_look 94 = .ok (.iconst 0, 1) := by decide +kernel
theorem dX10_look_95 : decode cX10_look 95 = .ok (.iadd, 1) := by decide +kernel
theorem dX10_look_96 : decode cX10_look 96 = .ok (.istore_n 2, 1) := by decide +kernel
theorem dX10_look_97 : decode cX10_look 97 = .ok (.iinc 3 1, 3) := by decide +kernel
theorem dX10_look_100 : decode cX10_look 100 = .ok (.goto (-39), 3) := by decide +kernel
theorem dX10_look_103 : decode cX10_look 103 = .ok (.iload_n 2, 1) := by decide +kernel
theorem dX10_look_104 : decode cX10_look 104 = .ok (.ireturn, 1) := by decide +kernel
theorem dX10_look_105 : decode cX10_look 105 = .ok (.iconst 0, 1) := by decide +kernel
theorem dX10_look_106 : decode cX10_look 106 = .ok (.istore_n 3, 1) := by decide +kernel
theorem dX10_look_107 : decode cX10_look 107 = .ok (.iload_n 3, 1) := by decide +kernel
theorem dX10_look_108 : decode cX10_look 108 = .ok (.aload_n 0, 1) := by decide +kernel
theorem dX10_look_109 : decode cX10_look 109 = .ok (.getfield 125, 3) := by decide +kernel
theorem dX10_look_112 : decode cX10_look 112 = .ok (.if_icmp .ge 25, 3) := by decide +kernel
theorem dX10_look_115 : decode cX10_look 115 = .ok (.iload_n 2, 1) := by decide +kernel
theorem dX10_look_116 : decode cX10_look 116 = .ok (.aload_n 0, 1) := by decide +kernel
theorem dX10_look_117 : decode cX10_look 117 = .ok (.iload_n 3, 1) := by decide +kernel
theorem dX10_look_118 : decode cX10_look 118 = .ok (.invokevirtual 134, 3) := by decide +kernel
theorem dX10_look_121 : decode cX10_look 121 = .ok (.ifCond .eq 7, 3) := by decide +kernel
theorem dX10_look_124 : decode cX10_look 124 = .ok (.iconst 1, 1) := by decide +kernel
theorem dX10_look_125 : decode cX10_look 125 = .ok (.goto 4, 3) := by decide +kernel
theorem dX10_look_128 : decode cX10_look 128 = .ok (.iconst 0, 1) := by decide +kernel
theorem dX10_look_129 : decode cX10_look 129 = .ok (.iadd, 1) := by decide +kernel
theorem dX10_look_130 : decode cX10_look 130 = .ok (.istore_n 2, 1) := by decide +kernel
theorem dX10_look_131 : decode cX10_look 131 = .ok (.iinc 3 1, 3) := by decide +kernel
theorem dX10_look_134 : decode cX10_look 134 = .ok (.goto (-27), 3) := by decide +kernel
theorem dX10_look_137 : decode cX10_look 137 = .ok (.iload_n 2, 1) := by decide +kernel
theorem dX10_look_138 : decode cX10_look 138 = .ok (.ireturn, 1) := by decide +kernel
theorem dX10_look_139 : decode cX10_look 139 = .ok (.aload_n 0, 1) := by decide +kernel
theorem dX10_look_140 : decode cX10_look 140 = .ok (.getfield 128, 3) := by decide +kernel
theorem dX10_look_143 : decode cX10_look 143 = .ok (.ireturn, 1) := by decide +kernel
theorem dX10_look_144 : decode cX10_look 144 = .ok (.aload_n 0, 1) := by decide +kernel
theorem dX10_look_145 : decode cX10_look 145 = .ok (.getfield 137, 3) := by decide +kernel
theorem dX10_look_148 : decode cX10_look 148 = .ok (.ireturn, 1) := by decide +kernel
theorem dX10_look_149 : decode cX10_look 149 = .ok (.iconst (-1), 1) := by decide +kernel
theorem dX10_look_150 : decode cX10_look 150 = .ok (.ireturn, 1) := by decide +kernel
theorem dX10_van_0 : decode cX10_van 0 = .ok (.iload_n 1, 1) := by decide +kernel
theorem dX10_van_1 : decode cX10_van 1 = .ok (.iconst 0, 1) := by decide +kernel
theorem dX10_van_2 : decode cX10_van 2 = .ok (.sipush 500, 3) := by decide +kernel
theorem dX10_van_5 : decode cX10_van 5 = .ok (.invokestatic 111, 3) := by decide +kernel
theorem dX10_van_8 : decode cX10_van 8 = .ok (.ifCond .eq 11, 3) := by decide +kernel
theorem dX10_van_11 : decode cX10_van 11 = .ok (.aload_n 0, 1) := by decide +kernel
theorem dX10_van_12 : decode cX10_van 12 = .ok (.getfield 128, 3) := by decide +kernel
theorem dX10_van_15 : decode cX10_van 15 = .ok (.iconst 2, 1) := by decide +kernel
theorem dX10_van_16 : decode cX10_van 16 = .ok (.if_icmp .ne 5, 3) := by decide +kernel
theorem dX10_van_19 : decode cX10_van 19 = .ok (.iconst (-1), 1) := by decide +kernel
theorem dX10_van_20 : decode cX10_van 20 = .ok (.ireturn, 1) := by decide +kernel
theorem dX10_van_21 : decode cX10_van 21 = .ok (.iload_n 1, 1) := by decide +kernel
theorem dX10_van_22 : decode cX10_van 22 = .ok (.istore_n 2, 1) := by decide +kernel
theorem dX10_van_23 : decode cX10_van 23 = .ok (.iconst 0, 1) := by decide +kernel
theorem dX10_van_24 : decode cX10_van 24 = .ok (.istore_n 3, 1) := by decide +kernel
theorem dX10_van_25 : decode cX10_van 25 = .ok (.aload_n 0, 1) := by decide +kernel
theorem dX10_van_26 : decode cX10_van 26 = .ok (.iconst 0, 1) := by decide +kernel
theorem dX10_van_27 : decode cX10_van 27 = .ok (.putfield 140, 3) := by decide +kernel
theorem dX10_van_30 : decode cX10_van 30 = .ok (.iconst 0, 1) := by decide +kernel
theorem dX10_van_31 : decode cX10_van 31 = .ok (.istore 4, 2) := by decide +kernel
theorem dX10_van_33 : decode cX10_van 33 = .ok (.iload 4, 2) := by decide +kernel
theorem dX10_van_35 : decode cX10_van 35 = .ok (.bipush 20, 2) := by decide +kernel
theorem dX10_van_37 : decode cX10_van 37 = .ok (.if_icmp .ge 17, 3) := by decide +kernel
theorem dX10_van_40 : decode cX10_van 40 = .ok (.aload_n 0, 1) := by decide +kernel
theorem dX10_van_41 : decode cX10_van 41 = .ok (.getfield 64, 3) := by decide +kernel
theorem dX10_van_44 : decode cX10_van 44 = .ok (.iload 4, 2) := by decide +kernel
theorem dX10_van_46 : decode cX10_van 46 = .ok (.iconst 0, 1) := by decide +kernel
theorem dX10_van_47 : decode cX10_van 47 = .ok (.bastore, 1) := by decide +kernel
theorem dX10_van_48 : decode cX10_van 48 = .ok (.iinc 4 1, 3) := by decide +kernel
theorem dX10_van_51 : decode cX10_van 51 = .ok (.goto (-18), 3) := by decide +kernel
theorem dX10_van_54 : decode cX10_van 54 = .ok (.iconst 0, 1) := by decide +kernel
theorem dX10_van_55 : decode cX10_van 55 = .ok (.istore 4, 2) := by decide +kernel
theorem dX10_van_57 : decode cX10_van 57 = .ok (.iload 4, 2) := by decide +kernel
theorem dX10_van_59 : decode cX10_van 59 = .ok (.aload_n 0, 1) := by decide +kernel
theorem dX10_van_60 : decode cX10_van 60 = .ok (.getfield 125, 3) := by decide +kernel
theorem dX10_van_63 : decode cX10_van 63 = .ok (.if_icmp .ge 216, 3) := by decide +kernel
theorem dX10_van_66 : decode cX10_van 66 = .ok (.aload_n 0, 1) := by decide +kernel
theorem dX10_van_67 : decode cX10_van 67 = .ok (.iload 4, 2) := by decide +kernel
theorem dX10_van_69 : decode cX10_van 69 = .ok (.invokevirtual 134, 3) := by decide +kernel
theorem dX10_van_72 : decode cX10_van 72 = .ok (.ifCond .eq 201, 3) := by decide +kernel
theorem dX10_van_75 : decode cX10_van 75 = .ok (.aload_n 0, 1) := by decide +kernel
theorem dX10_van_76 : decode cX10_van 76 = .ok (.getfield 64, 3) := by decide +kernel
theorem dX10_van_79 : decode cX10_van 79 = .ok (.aload_n 0, 1) := by decide +kernel
theorem dX10_van_80 : decode cX10_van 80 = .ok (.getfield 40, 3) := by decide +kernel
theorem dX10_van_83 : decode cX10_van 83 = .ok (.iload 4, 2) := by decide +kernel
theorem dX10_van_85 : decode cX10_van 85 = .ok (.iaload, 1) := by decide +kernel
theorem dX10_van_86 : decode cX10_van 86 = .ok (.baload, 1) := by decide +kernel
theorem dX10_van_87 : decode cX10_van 87 = .ok (.ifCond .eq 6, 3) := by decide +kernel
theorem dX10_van_90 : decode cX10_van 90 = .ok (.goto 183, 3) := by decide +kernel
theorem dX10_van_93 : decode cX10_van 93 = .ok (.aload_n 0, 1) := by decide +kernel
theorem dX10_van_94 : decode cX10_van 94 = .ok (.getfield 40, 3) := by decide +kernel
theorem dX10_van_97 : decode cX10_van 97 = .ok (.iload 4, 2) := by decide +kernel
theorem dX10_van_99 : decode cX10_van 99 = .ok (.iaload, 1) := by decide +kernel
theorem dX10_van_100 : decode cX10_van 100 = .ok (.istore 5, 2) := by decide +kernel
theorem dX10_van_102 : decode cX10_van 102 = .ok (.aload_n 0, 1) := by decide +kernel
theorem dX10_van_103 : decode cX10_van 103 = .ok (.getfield 64, 3) := by decide +kernel
theorem dX10_van_106 : decode cX10_van 106 = .ok (.iload 5, 2) := by decide +kernel
theorem dX10_van_108 : decode cX10_van 108 = .ok (.iconst 1, 1) := by decide +kernel
theorem dX10_van_109 : decode cX10_van 109 = .ok (.bastore, 1) := by decide +kernel
theorem dX10_van_110 : decode cX10_van 110 = .ok (.iconst 0, 1) := by decide +kernel
theorem dX10_van_111 : decode cX10_van 111 = .ok (.istore 6, 2) := by decide +kernel
theorem dX10_van_113 : decode cX10_van 113 = .ok (.iconst 0, 1) := by decide +kernel
theorem dX10_van_114 : decode cX10_van 114 = .ok (.istore 7, 2) := by decide +kernel
theorem dX10_van_116 : decode cX10_van 116 = .ok (.iload 7, 2) := by decide +kernel
theorem dX10_van_118 : decode cX10_van 118 = .ok (.aload_n 0, 1) := by decide +kernel
theorem dX10_van_119 : decode cX10_van 119 = .ok (.getfield 125, 3) := by decide +kernel
theorem dX10_van_122 : decode cX10_van 122 = .ok (.if_icmp .ge 46, 3) := by decide +kernel
theorem dX10_van_125 : decode cX10_van 125 = .ok (.iload 6, 2) := by decide +kernel
theorem dX10_van_127 : decode cX10_van 127 = .ok (.aload_n 0, 1) := by decide +kernel
theorem dX10_van_128 : decode cX10_van 128 = .ok (.iload 7, 2) := by decide +kernel
theorem dX10_van_130 : decode cX10_van 130 = .ok (.invokevirtual 134, 3) := by decide +kernel
theorem dX10_van_133 : decode cX10_van 133 = .ok (.ifCond .eq 25, 3) := by decide +kernel
theorem dX10_van_136 : decode cX10_van 136 = .ok (.aload_n 0, 1) := by decide +kernel
theorem dX10_van_137 : decode cX10_van 137 = .ok (.getfield 40, 3) := by decide +kernel
theorem dX10_van_140 : decode cX10_van 140 = .ok (.iload 7, 2) := by decide +kernel
theorem dX10_van_142 : decode cX10_van 142 = .ok (.iaload, 1) := by decide +kernel
theorem dX10_van_143 : decode cX10_van 143 = .ok (.iload 5, 2) := by decide +kernel
theorem dX10_van_145 : decode cX10_van 145 = .ok (.if_icmp .ne 13, 3) := by decide +kernel
theorem dX10_van_148 : decode cX10_van 148 = .ok (.aload_n 0, 1) := by decide +kernel
theorem dX10_van_149 : decode cX10_van 149 = .ok (.getfield 37, 3) := by decide +kernel
theorem dX10_van_152 : decode cX10_van 152 = .ok (.iload 7, 2) := by decide +kernel
theorem dX10_van_154 : decode cX10_van 154 = .ok (.iaload, 1) := by decide +kernel
theorem dX10_van_155 : decode cX10_van 155 = .ok (.goto 4, 3) := by decide +kernel
theorem dX10_van_158 : decode cX10_van 158 = .ok (.iconst 0, 1) := by decide +kernel
theorem dX10_van_159 : decode cX10_van 159 = .ok (.iadd, 1) := by decide +kernel
theorem dX10_van_160 : decode cX10_van 160 = .ok (.istore 6, 2) := by decide +kernel
theorem dX10_van_162 : decode cX10_van 162 = .ok (.iinc 7 1, 3) := by decide +kernel
theorem dX10_van_165 : decode cX10_van 165 = .ok (.goto (-49), 3) := by decide +kernel
theorem dX10_van_168 : decode cX10_van 168 = .ok (.iload 6, 2) := by decide +kernel
theorem dX10_van_170 : decode cX10_van 170 = .ok (.iload_n 2, 1) := by decide +kernel
theorem dX10_van_171 : decode cX10_van 171 = .ok (.if_icmp .le 6, 3) := by decide +kernel
theorem dX10_van_174 : decode cX10_van 174 = .ok (.goto 99, 3) := by decide +kernel
theorem dX10_van_177 : decode cX10_van 177 = .ok (.iload_n 2, 1) := by decide +kernel
theorem dX10_van_178 : decode cX10_van 178 = .ok (.iload 6, 2) := by decide +kernel
theorem dX10_van_180 : decode cX10_van 180 = .ok (.isub, 1) := by decide +kernel
theorem dX10_van_181 : decode cX10_van 181 = .ok (.istore_n 2, 1) := by decide +kernel
theorem dX10_van_182 : decode cX10_van 182 = .ok (.iconst 0, 1) := by decide +kernel
theorem dX10_van_183 : decode cX10_van 183 = .ok (.istore 7, 2) := by decide +kernel
theorem dX10_van_185 : decode cX10_van 185 = .ok (.iload 7, 2) := by decide +kernel
theorem dX10_van_187 : decode cX10_van 187 = .ok (.aload_n 0, 1) := by decide +kernel
theorem dX10_van_188 : decode cX10_van 188 = .ok (.getfield 125, 3) := by decide +kernel
theorem dX10_van_191 : decode cX10_van 191 = .ok (.if_icmp .ge 61, 3) := by decide +kernel
theorem dX10_van_194 : decode cX10_van 194 = .ok (.aload_n 0, 1) := by decide +kernel
theorem dX10_van_195 : decode cX10_van 195 = .ok (.iload 7, 2) := by decide +kernel
theorem dX10_van_197 : decode cX10_van 197 = .ok (.invokevirtual 134, 3) := by decide +kernel
theorem dX10_van_200 : decode cX10_van 200 = .ok (.ifCond .eq 46, 3) := by decide +kernel
theorem dX10_van_203 : decode cX10_van 203 = .ok (.aload_n 0, 1) := by decide +kernel
theorem dX10_van_204 : decode cX10_van 204 = .ok (.getfield 40, 3) := by decide +kernel
theorem dX10_van_207 : decode cX10_van 207 = .ok (.iload 7, 2) := by decide +kernel
theorem dX10_van_209 : decode cX10_van 209 = .ok (.iaload, 1) := by decide +kernel
theorem dX10_van_210 : decode cX10_van 210 = .ok (.iload 5, 2) := by decide +kernel
theorem dX10_van_212 : decode cX10_van 212 = .ok (.if_icmp .eq 6, 3) := by decide +kernel
theorem dX10_van_215 : decode cX10_van 215 = .ok (.goto 31, 3) := by decide +kernel
theorem dX10_van_218 : decode cX10_van 218 = .ok (.aload_n 0, 1) := by decide +kernel
theorem dX10_van_219 : decode cX10_van 219 = .ok (.getfield 55, 3) := by decide +kernel
theorem dX10_van_222 : decode cX10_van 222 = .ok (.iload 7, 2) := by decide +kernel
theorem dX10_van_224 : decode cX10_van 224 = .ok (.iconst 2, 1) := by decide +kernel
theorem dX10_van_225 : decode cX10_van 225 = .ok (.aload_n 0, 1) := by decide +kernel
theorem dX10_van_226 : decode cX10_van 226 = .ok (.getfield 119, 3) := by decide +kernel
theorem dX10_van_229 : decode cX10_van 229 = .ok (.imul, 1) := by decide +kernel
theorem dX10_van_230 : decode cX10_van 230 = .ok (.aload_n 0, 1) := by decide +kernel
theorem dX10_van_231 : decode cX10_van 231 = .ok (.getfield 128, 3) := by decide +kernel
theorem dX10_van_234 : decode cX10_van 234 = .ok (.iadd, 1) := by decide +kernel
theorem dX10_van_235 : decode cX10_van 235 = .ok (.iastore, 1) := by decide +kernel
theorem dX10_van_236 : decode cX10_van 236 = .ok (.iload_n 3, 1) := by decide +kernel
theorem dX10_van_237 : decode cX10_van 237 = .ok (.aload_n 0, 1) := by decide +kernel
theorem dX10_van_238 : decode cX10_van 238 = .ok (.getfield 37, 3) := by decide +kernel
theorem dX10_van_241 : decode cX10_van 241 = .ok (.iload 7, 2) := by decide +kernel
theorem dX10_van_243 : decode cX10_van 243 = .ok (.iaload, 1) := by decide +kernel
theorem dX10_van_244 : decode cX10_van 244 = .ok (.iadd, 1) := by decide +kernel
theorem dX10_van_245 : decode cX10_van 245 = .ok (.istore_n 3, 1) := by decide +kernel
theorem dX10_van_246 : decode cX10_van 246 = .ok (.iinc 7 1, 3) := by decide +kernel
theorem dX10_van_249 : decode cX10_van 249 = .ok (.goto (-64), 3) := by decide +kernel
theorem dX10_van_252 : decode cX10_van 252 = .ok (.aload_n 0, 1) := by decide +kernel
theorem dX10_van_253 : decode cX10_van 253 = .ok (.getfield 61, 3) := by decide +kernel
theorem dX10_van_256 : decode cX10_van 256 = .ok (.aload_n 0, 1) := by decide +kernel
theorem dX10_van_257 : decode cX10_van 257 = .ok (.getfield 140, 3) := by decide +kernel
theorem dX10_van_260 : decode cX10_van 260 = .ok (.iload 5, 2) := by decide +kernel
theorem dX10_van_262 : decode cX10_van 262 = .ok (.iastore, 1) := by decide +kernel
theorem dX10_van_263 : decode cX10_van 263 = .ok (.aload_n 0, 1) := by decide +kernel
theorem dX10_van_264 : decode cX10_van 264 = .ok (.dup, 1) := by decide +kernel
theorem dX10_van_265 : decode cX10_van 265 = .ok (.getfield 140, 3) := by decide +kernel
theorem dX10_van_268 : decode cX10_van 268 = .ok (.iconst 1, 1) := by decide +kernel
theorem dX10_van_269 : decode cX10_van 269 = .ok (.iadd, 1) := by decide +kernel
theorem dX10_van_270 : decode cX10_van 270 = .ok (.putfield 140, 3) := by decide +kernel
theorem dX10_van_273 : decode cX10_van 273 = .ok (.iinc 4 1, 3) := by decide +kernel
theorem dX10_van_276 : decode cX10_van 276 = .ok (.goto (-219), 3) := by decide +kernel
theorem dX10_van_279 : decode cX10_van 279 = .ok (.aload_n 0, 1) := by decide +kernel
theorem dX10_van_280 : decode cX10_van 280 = .ok (.dup, 1) := by decide +kernel
theorem dX10_van_281 : decode cX10_van 281 = .ok (.getfield 128, 3) := by decide +kernel
theorem dX10_van_284 : decode cX10_van 284 = .ok (.iconst 1, 1) := by decide +kernel
theorem dX10_van_285 : decode cX10_van 285 = .ok (.iadd, 1) := by decide +kernel
theorem dX10_van_286 : decode cX10_van 286 = .ok (.putfield 128, 3) := by decide +kernel
theorem dX10_van_289 : decode cX10_van 289 = .ok (.iload_n 3, 1) := by decide +kernel
theorem dX10_van_290 : decode cX10_van 290 = .ok (.ireturn, 1) := by decide +kernel
theorem dX10_house_0 : decode cX10_house 0 = .ok (.iload_n 1, 1) := by decide +kernel
theorem dX10_house_1 : decode cX10_house 1 = .ok (.iconst 0, 1) := by decide +kernel
theorem dX10_house_2 : decode cX10_house 2 = .ok (.aload_n 0, 1) := by decide +kernel
theorem dX10_house_3 : decode cX10_house 3 = .ok (.getfield 140, 3) := by decide +kernel
theorem dX10_house_6 : decode cX10_house 6 = .ok (.iconst 1, 1) := by decide +kernel
theorem dX10_house_7 : decode cX10_house 7 = .ok (.isub, 1) := by decide +kernel
theorem dX10_house_8 : decode cX10_house 8 = .ok (.invokestatic 111, 3) := by decide +kernel
theorem dX10_house_11 : decode cX10_house 11 = .ok (.ifCond .eq 12, 3) := by decide +kernel
theorem dX10_house_14 : decode cX10_house 14 = .ok (.aload_n 0, 1) := by decide +kernel
theorem dX10_house_15 : decode cX10_house 15 = .ok (.getfield 61, 3) := by decide +kernel
theorem dX10_house_18 : decode cX10_house 18 = .ok (.iload_n 1, 1) := by decide +kernel
theorem dX10_house_19 : decode cX10_house 19 = .ok (.iaload, 1) := by decide +kernel
theorem dX10_house_20 : decode cX10_house 20 = .ok (.goto 4, 3) := by decide +kernel
theorem dX10_house_23 : decode cX10_house 23 = .ok (.iconst (-1), 1) := by decide +kernel
theorem dX10_house_24 : decode cX10_house 24 = .ok (.ireturn, 1) := by decide +kernel
theorem dX10_feed_0 : decode cX10_feed 0 = .ok (.aload_n 0, 1) := by decide +kernel
theorem dX10_feed_1 : decode cX10_feed 1 = .ok (.getfield 143, 3) := by decide +kernel
theorem dX10_feed_4 : decode cX10_feed 4 = .ok (.bipush 20, 2) := by decide +kernel
theorem dX10_feed_6 : decode cX10_feed 6 = .ok (.iadd, 1) := by decide +kernel
theorem dX10_feed_7 : decode cX10_feed 7 = .ok (.sipush 400, 3) := by decide +kernel
theorem dX10_feed_10 : decode cX10_feed 10 = .ok (.if_icmp .le 5, 3) := by decide +kernel
theorem dX10_feed_13 : decode cX10_feed 13 = .ok (.iconst (-1), 1) := by decide +kernel
theorem dX10_feed_14 : decode cX10_feed 14 = .ok (.ireturn, 1) := by decide +kernel
theorem dX10_feed_15 : decode cX10_feed 15 = .ok (.iconst 0, 1) := by decide +kernel
theorem dX10_feed_16 : decode cX10_feed 16 = .ok (.istore 6, 2) := by decide +kernel
theorem dX10_feed_18 : decode cX10_feed 18 = .ok (.iload 6, 2) := by decide +kernel
theorem dX10_feed_20 : decode cX10_feed 20 = .ok (.bipush 20, 2) := by decide +kernel
theorem dX10_feed_22 : decode cX10_feed 22 = .ok (.if_icmp .ge 93, 3) := by decide +kernel
theorem dX10_feed_25 : decode cX10_feed 25 = .ok (.iload 6, 2) := by decide +kernel
theorem dX10_feed_27 : decode cX10_feed 27 = .ok (.iconst 4, 1) := by decide +kernel
theorem dX10_feed_28 : decode cX10_feed 28 = .ok (.if_icmp .ge 7, 3) := by decide +kernel
theorem dX10_feed_31 : decode cX10_feed 31 = .ok (.iload_n 1, 1) := by decide +kernel
theorem dX10_feed_32 : decode cX10_feed 32 = .ok (.goto 39, 3) := by decide +kernel
theorem dX10_feed_35 : decode cX10_feed 35 = .ok (.iload 6, 2) := by decide +kernel
theorem dX10_feed_37 : decode cX10_feed 37 = .ok (.bipush 8, 2) := by decide +kernel
theorem dX10_feed_39 : decode cX10_feed 39 = .ok (.if_icmp .ge 7, 3) := by decide +kernel
theorem dX10_feed_42 : decode cX10_feed 42 = .ok (.iload_n 2, 1) := by decide +kernel
theorem dX10_feed_43 : decode cX10_feed 43 = .ok (.goto 28, 3) := by decide +kernel
theorem dX10_feed_46 : decode cX10_feed 46 = .ok (.iload 6, 2) := by decide +kernel
theorem dX10_feed_48 : decode cX10_feed 48 = .ok (.bipush 12, 2) := by decide +kernel
theorem dX10_feed_50 : decode cX10_feed 50 = .ok (.if_icmp .ge 7, 3) := by decide +kernel
theorem dX10_feed_53 : decode cX10_feed 53 = .ok (.iload_n 3, 1) := by decide +kernel
theorem dX10_feed_54 : decode cX10_feed 54 = .ok (.goto 17, 3) := by decide +kernel
theorem dX10_feed_57 : decode cX10_feed 57 = .ok (.iload 6, 2) := by decide +kernel
theorem dX10_feed_59 : decode cX10_feed 59 = .ok (.bipush 16, 2) := by decide +kernel
theorem dX10_feed_61 : decode cX10_feed 61 = .ok (.if_icmp .ge 8, 3) := by decide +kernel
theorem dX10_feed_64 : decode cX10_feed 64 = .ok (.iload 4, 2) := by decide +kernel
theorem dX10_feed_66 : decode cX10_feed 66 = .ok (.goto 5, 3) := by decide +kernel
theorem dX10_feed_69 : decode cX10_feed 69 = .ok (.iload 5, 2) := by decide +kernel
theorem dX10_feed_71 : decode cX10_feed 71 = .ok (.istore 7, 2) := by decide +kernel
theorem dX10_feed_73 : decode cX10_feed 73 = .ok (.aload_n 0, 1) := by decide +kernel
theorem dX10_feed_74 : decode cX10_feed 74 = .ok (.getfield 89, 3) := by decide +kernel
theorem dX10_feed_77 : decode cX10_feed 77 = .ok (.aload_n 0, 1) := by decide +kernel
theorem dX10_feed_78 : decode cX10_feed 78 = .ok (.getfield 143, 3) := by decide +kernel
theorem dX10_feed_81 : decode cX10_feed 81 = .ok (.iload 7, 2) := by decide +kernel
theorem dX10_feed_83 : decode cX10_feed 83 = .ok (.bipush 24, 2) := by decide +kernel
theorem dX10_feed_85 : decode cX10_feed 85 = .ok (.bipush 8, 2) := by decide +kernel
theorem dX10_feed_87 : decode cX10_feed 87 = .ok (.iload 6, 2) := by decide +kernel
theorem dX10_feed_89 : decode cX10_feed 89 = .ok (.iconst 4, 1) := by decide +kernel
theorem dX10_feed_90 : decode cX10_feed 90 = .ok (.irem, 1) := by decide +kernel
theorem dX10_feed_91 : decode cX10_feed 91 = .ok (.imul, 1) := by decide +kernel
theorem dX10_feed_92 : decode cX10_feed 92 = .ok (.isub, 1) := by decide +kernel
theorem dX10_feed_93 : decode cX10_feed 93 = .ok (.ishr, 1) := by decide +kernel
theorem dX10_feed_94 : decode cX10_feed 94 = .ok (.sipush 255, 3) := by decide +kernel
theorem dX10_feed_97 : decode cX10_feed 97 = .ok (.iand, 1) := by decide +kernel
theorem dX10_feed_98 : decode cX10_feed 98 = .ok (.iastore, 1) := by decide +kernel
theorem dX10_feed_99 : decode cX10_feed 99 = .ok (.aload_n 0, 1) := by decide +kernel
theorem dX10_feed_100 : decode cX10_feed 100 = .ok (.dup, 1) := by decide +kernel
theorem dX10_feed_101 : decode cX10_feed 101 = .ok (.getfield 143, 3) := by decide +kernel
theorem dX10_feed_104 : decode cX10_feed 104 = .ok (.iconst 1, 1) := by decide +kernel
theorem dX10_feed_105 : decode cX10_feed 105 = .ok (.iadd, 1) := by decide +kernel
theorem dX10_feed_106 : decode cX10_feed 106 = .ok (.putfield 143, 3) := by decide +kernel
theorem dX10_feed_109 : decode cX10_feed 109 = .ok (.iinc 6 1, 3) := by decide +kernel
theorem dX10_feed_112 : decode cX10_feed 112 = .ok (.goto (-94), 3) := by decide +kernel
theorem dX10_feed_115 : decode cX10_feed 115 = .ok (.aload_n 0, 1) := by decide +kernel
theorem dX10_feed_116 : decode cX10_feed 116 = .ok (.getfield 143, 3) := by decide +kernel
theorem dX10_feed_119 : decode cX10_feed 119 = .ok (.ireturn, 1) := by decide +kernel
theorem dX10_end_0 : decode cX10_end 0 = .ok (.iload_n 1, 1) := by decide +kernel
theorem dX10_end_1 : decode cX10_end 1 = .ok (.iconst 0, 1) := by decide +kernel
theorem dX10_end_2 : decode cX10_end 2 = .ok (.aload_n 0, 1) := by decide +kernel
theorem dX10_end_3 : decode cX10_end 3 = .ok (.getfield 143, 3) := by decide +kernel
theorem dX10_end_6 : decode cX10_end 6 = .ok (.invokestatic 111, 3) := by decide +kernel
theorem dX10_end_9 : decode cX10_end 9 = .ok (.ifCond .ne 5, 3) := by decide +kernel
theorem dX10_end_12 : decode cX10_end 12 = .ok (.iconst 0, 1) := by decide +kernel
theorem dX10_end_13 : decode cX10_end 13 = .ok (.ireturn, 1) := by decide +kernel
theorem dX10_end_14 : decode cX10_end 14 = .ok (.aload_n 0, 1) := by decide +kernel
theorem dX10_end_15 : decode cX10_end 15 = .ok (.iload_n 1, 1) := by decide +kernel
theorem dX10_end_16 : decode cX10_end 16 = .ok (.putfield 143, 3) := by decide +kernel
theorem dX10_end_19 : decode cX10_end 19 = .ok (.iconst 1, 1) := by decide +kernel
theorem dX10_end_20 : decode cX10_end 20 = .ok (.ireturn, 1) := by decide +kernel
theorem dX10_see_0 : decode cX10_see 0 = .ok (.iload_n 1, 1) := by decide +kernel
theorem dX10_see_1 : decode cX10_see 1 = .ok (.aload_n 0, 1) := by decide +kernel
theorem dX10_see_2 : decode cX10_see 2 = .ok (.getfield 143, 3) := by decide +kernel
theorem dX10_see_5 : decode cX10_see 5 = .ok (.if_icmp .ge 12, 3) := by decide +kernel
theorem dX10_see_8 : decode cX10_see 8 = .ok (.aload_n 0, 1) := by decide +kernel
theorem dX10_see_9 : decode cX10_see 9 = .ok (.getfield 89, 3) := by decide +kernel
theorem dX10_see_12 : decode cX10_see 12 = .ok (.iload_n 1, 1) := by decide +kernel
theorem dX10_see_13 : decode cX10_see 13 = .ok (.iaload, 1) := by decide +kernel
theorem dX10_see_14 : decode cX10_see 14 = .ok (.goto 4, 3) := by decide +kernel
theorem dX10_see_17 : decode cX10_see 17 = .ok (.iconst (-1), 1) := by decide +kernel
theorem dX10_see_18 : decode cX10_see 18 = .ok (.ireturn, 1) := by decide +kernel
theorem dX10_isLetter_0 : decode cX10_isLetter 0 = .ok (.iload_n 0, 1) := by decide +kernel
theorem dX10_isLetter_1 : decode cX10_isLetter 1 = .ok (.bipush 97, 2) := by decide +kernel
theorem dX10_isLetter_3 : decode cX10_isLetter 3 = .ok (.bipush 122, 2) := by decide +kernel
theorem dX10_isLetter_5 : decode cX10_isLetter 5 = .ok (.invokestatic 111, 3) := by decide +kernel
theorem dX10_isLetter_8 : decode cX10_isLetter 8 = .ok (.ifCond .ne 14, 3) := by decide +kernel
theorem dX10_isLetter_11 : decode cX10_isLetter 11 = .ok (.iload_n 0, 1) := by decide +kernel
theorem dX10_isLetter_12 : decode cX10_isLetter 12 = .ok (.bipush 65, 2) := by decide +kernel
theorem dX10_isLetter_14 : decode cX10_isLetter 14 = .ok (.bipush 90, 2) := by decide +kernel
theorem dX10_isLetter_16 : decode cX10_isLetter 16 = .ok (.invokestatic 111, 3) := by decide +kernel
theorem dX10_isLetter_19 : decode cX10_isLetter 19 = .ok (.ifCond .eq 7, 3) := by decide +kernel
theorem dX10_isLetter_22 : decode cX10_isLetter 22 = .ok (.iconst 1, 1) := by decide +kernel
theorem dX10_isLetter_23 : decode cX10_isLetter 23 = .ok (.goto 4, 3) := by decide +kernel
theorem dX10_isLetter_26 : decode cX10_isLetter 26 = .ok (.iconst 0, 1) := by decide +kernel
theorem dX10_isLetter_27 : decode cX10_isLetter 27 = .ok (.ireturn, 1) := by decide +kernel
theorem dX10_isDigit_0 : decode cX10_isDigit 0 = .ok (.iload_n 0, 1) := by decide +kernel
theorem dX10_isDigit_1 : decode cX10_isDigit 1 = .ok (.bipush 48, 2) := by decide +kernel
theorem dX10_isDigit_3 : decode cX10_isDigit 3 = .ok (.bipush 57, 2) := by decide +kernel
theorem dX10_isDigit_5 : decode cX10_isDigit 5 = .ok (.invokestatic 111, 3) := by decide +kernel
theorem dX10_isDigit_8 : decode cX10_isDigit 8 = .ok (.ireturn, 1) := by decide +kernel
theorem dX10_word_0 : decode cX10_word 0 = .ok (.lload_n 0, 1) := by decide +kernel
theorem dX10_word_1 : decode cX10_word 1 = .ok (.ldc2_w 146, 3) := by decide +kernel
theorem dX10_word_4 : decode cX10_word 4 = .ok (.lcmp, 1) := by decide +kernel
theorem dX10_word_5 : decode cX10_word 5 = .ok (.ifCond .ne 5, 3) := by decide +kernel
theorem dX10_word_8 : decode cX10_word 8 = .ok (.iconst 3, 1) := by decide +kernel
theorem dX10_word_9 : decode cX10_word 9 = .ok (.ireturn, 1) := by decide +kernel
theorem dX10_word_10 : decode cX10_word 10 = .ok (.lload_n 0, 1) := by decide +kernel
theorem dX10_word_11 : decode cX10_word 11 = .ok (.ldc2_w 148, 3) := by decide +kernel
theorem dX10_word_14 : decode cX10_word 14 = .ok (.lcmp, 1) := by decide +kernel
theorem dX10_word_15 : decode cX10_word 15 = .ok (.ifCond .ne 5, 3) := by decide +kernel
theorem dX10_word_18 : decode cX10_word 18 = .ok (.iconst 4, 1) := by decide +kernel
theorem dX10_word_19 : decode cX10_word 19 = .ok (.ireturn, 1) := by decide +kernel
theorem dX10_word_20 : decode cX10_word 20 = .ok (.lload_n 0, 1) := by decide +kernel
theorem dX10_word_21 : decode cX10_word 21 = .ok (.ldc2_w 150, 3) := by decide +kernel
theorem dX10_word_24 : decode cX10_word 24 = .ok (.lcmp, 1) := by decide +kernel
theorem dX10_word_25 : decode cX10_word 25 = .ok (.ifCond .ne 5, 3) := by decide +kernel
theorem dX10_word_28 : decode cX10_word 28 = .ok (.iconst 5, 1) := by decide +kernel
theorem dX10_word_29 : decode cX10_word 29 = .ok (.ireturn, 1) := by decide +kernel
theorem dX10_word_30 : decode cX10_word 30 = .ok (.lload_n 0, 1) := by decide +kernel
theorem dX10_word_31 : decode cX10_word 31 = .ok (.ldc2_w 152, 3) := by decide +kernel
theorem dX10_word_34 : decode cX10_word 34 = .ok (.lcmp, 1) := by decide +kernel
theorem dX10_word_35 : decode cX10_word 35 = .ok (.ifCond .ne 6, 3) := by decide +kernel
theorem dX10_word_38 : decode cX10_word 38 = .ok (.ldc 154, 2) := by decide +kernel
theorem dX10_word_40 : decode cX10_word 40 = .ok (.ireturn, 1) := by decide +kernel
theorem dX10_word_41 : decode cX10_word 41 = .ok (.lload_n 0, 1) := by decide +kernel
theorem dX10_word_42 : decode cX10_word 42 = .ok (.ldc2_w 155, 3) := by decide +kernel
theorem dX10_word_45 : decode cX10_word 45 = .ok (.lcmp, 1) := by decide +kernel
theorem dX10_word_46 : decode cX10_word 46 = .ok (.ifCond .ne 6, 3) := by decide +kernel
theorem dX10_word_49 : decode cX10_word 49 = .ok (.ldc 157, 2) := by decide +kernel
theorem dX10_word_51 : decode cX10_word 51 = .ok (.ireturn, 1) := by decide +kernel
theorem dX10_word_52 : decode cX10_word 52 = .ok (.lload_n 0, 1) := by decide +kernel
theorem dX10_word_53 : decode cX10_word 53 = .ok (.ldc2_w 158, 3) := by decide +kernel
theorem dX10_word_56 : decode cX10_word 56 = .ok (.lcmp, 1) := by decide +kernel
theorem dX10_word_57 : decode cX10_word 57 = .ok (.ifCond .ne 6, 3) := by decide +kernel
theorem dX10_word_60 : decode cX10_word 60 = .ok (.ldc 160, 2) := by decide +kernel
theorem dX10_word_62 : decode cX10_word 62 = .ok (.ireturn, 1) := by decide +kernel
theorem dX10_word_63 : decode cX10_word 63 = .ok (.lload_n 0, 1) := by decide +kernel
theorem dX10_word_64 : decode cX10_word 64 = .ok (.ldc2_w 161, 3) := by decide +kernel
theorem dX10_word_67 : decode cX10_word 67 = .ok (.lcmp, 1) := by decide +kernel
theorem dX10_word_68 : decode cX10_word 68 = .ok (.ifCond .ne 8, 3) := by decide +kernel
theorem dX10_word_71 : decode cX10_word 71 = .ok (.ldc 163, 2) := by decide +kernel
theorem dX10_word_73 : decode cX10_word 73 = .ok (.goto 4, 3) := by decide +kernel
theorem dX10_word_76 : decode cX10_word 76 = .ok (.iconst 1, 1) := by decide +kernel
theorem dX10_word_77 : decode cX10_word 77 = .ok (.ireturn, 1) := by decide +kernel
theorem dX10_next0_0 : decode cX10_next0 0 = .ok (.aload_n 0, 1) := by decide +kernel
theorem dX10_next0_1 : decode cX10_next0 1 = .ok (.aload_n 0, 1) := by decide +kernel
theorem dX10_next0_2 : decode cX10_next0 2 = .ok (.getfield 164, 3) := by decide +kernel
theorem dX10_next0_5 : decode cX10_next0 5 = .ok (.invokevirtual 167, 3) := by decide +kernel
theorem dX10_next0_8 : decode cX10_next0 8 = .ok (.bipush 32, 2) := by decide +kernel
theorem dX10_next0_10 : decode cX10_next0 10 = .ok (.if_icmp .eq 16, 3) := by decide +kernel
theorem dX10_next0_13 : decode cX10_next0 13 = .ok (.aload_n 0, 1) := by decide +kernel
theorem dX10_next0_14 : decode cX10_next0 14 = .ok (.aload_n 0, 1) := by decide +kernel
theorem dX10_next0_15 : decode cX10_next0 15 = .ok (.getfield 164, 3) := by decide +kernel
theorem dX10_next0_18 : decode cX10_next0 18 = .ok (.invokevirtual 167, 3) := by decide +kernel
theorem dX10_next0_21 : decode cX10_next0 21 = .ok (.bipush 10, 2) := by decide +kernel
theorem dX10_next0_23 : decode cX10_next0 23 = .ok (.if_icmp .ne 16, 3) := by decide +kernel
theorem dX10_next0_26 : decode cX10_next0 26 = .ok (.aload_n 0, 1) := by decide +kernel
theorem dX10_next0_27 : decode cX10_next0 27 = .ok (.dup, 1) := by decide +kernel
theorem dX10_next0_28 : decode cX10_next0 28 = .ok (.getfield 164, 3) := by decide +kernel
theorem dX10_next0_31 : decode cX10_next0 31 = .ok (.iconst 1, 1) := by decide +kernel
theorem dX10_next0_32 : decode cX10_next0 32 = .ok (.iadd, 1) := by decide +kernel
theorem dX10_next0_33 : decode cX10_next0 33 = .ok (.putfield 164, 3) := by decide +kernel
theorem dX10_next0_36 : decode cX10_next0 36 = .ok (.goto (-36), 3) := by decide +kernel
theorem dX10_next0_39 : decode cX10_next0 39 = .ok (.aload_n 0, 1) := by decide +kernel
theorem dX10_next0_40 : decode cX10_next0 40 = .ok (.aload_n 0, 1) := by decide +kernel
theorem dX10_next0_41 : decode cX10_next0 41 = .ok (.getfield 164, 3) := by decide +kernel
theorem dX10_next0_44 : decode cX10_next0 44 = .ok (.putfield 171, 3) := by decide +kernel
theorem dX10_next0_47 : decode cX10_next0 47 = .ok (.aload_n 0, 1) := by decide +kernel
theorem dX10_next0_48 : decode cX10_next0 48 = .ok (.aload_n 0, 1) := by decide +kernel
theorem dX10_next0_49 : decode cX10_next0 49 = .ok (.getfield 164, 3) := by decide +kernel
theorem dX10_next0_52 : decode cX10_next0 52 = .ok (.invokevirtual 167, 3) := by decide +kernel
theorem dX10_next0_55 : decode cX10_next0 55 = .ok (.istore_n 1, 1) := by decide +kernel
theorem dX10_next0_56 : decode cX10_next0 56 = .ok (.iconst 0, 1) := by decide +kernel
theorem dX10_next0_57 : decode cX10_next0 57 = .ok (.istore_n 2, 1) := by decide +kernel
theorem dX10_next0_58 : decode cX10_next0 58 = .ok (.iload_n 1, 1) := by decide +kernel
theorem dX10_next0_59 : decode cX10_next0 59 = .ok (.iconst (-1), 1) := by decide +kernel
theorem dX10_next0_60 : decode cX10_next0 60 = .ok (.if_icmp .ne 11, 3) := by decide +kernel
theorem dX10_next0_63 : decode cX10_next0 63 = .ok (.aload_n 0, 1) := by decide +kernel
theorem dX10_next0_64 : decode cX10_next0 64 = .ok (.iconst 0, 1) := by decide +kernel
theorem dX10_next0_65 : decode cX10_next0 65 = .ok (.putfield 174, 3) := by decide +kernel
theorem dX10_next0_68 : decode cX10_next0 68 = .ok (.goto 262, 3) := by decide +kernel
theorem dX10_next0_71 : decode cX10_next0 71 = .ok (.iload_n 1, 1) := by decide +kernel
theorem dX10_next0_72 : decode cX10_next0 72 = .ok (.invokestatic 177, 3) := by decide +kernel
theorem dX10_next0_75 : decode cX10_next0 75 = .ok (.ifCond .eq 77, 3) := by decide +kernel
theorem dX10_next0_78 : decode cX10_next0 78 = .ok (.lconst 0, 1) := by decide +kernel
theorem dX10_next0_79 : decode cX10_next0 79 = .ok (.lstore_n 3, 1) := by decide +kernel
theorem dX10_next0_80 : decode cX10_next0 80 = .ok (.aload_n 0, 1) := by decide +kernel
theorem dX10_next0_81 : decode cX10_next0 81 = .ok (.aload_n 0, 1) := by decide +kernel
theorem dX10_next0_82 : decode cX10_next0 82 = .ok (.getfield 164, 3) := by decide +kernel
theorem dX10_next0_85 : decode cX10_next0 85 = .ok (.invokevirtual 167, 3) := by decide +kernel
theorem dX10_next0_88 : decode cX10_next0 88 = .ok (.invokestatic 177, 3) := by decide +kernel
theorem dX10_next0_91 : decode cX10_next0 91 = .ok (.ifCond .eq 40, 3) := by decide +kernel
theorem dX10_next0_94 : decode cX10_next0 94 = .ok (.iload_n 2, 1) := by decide +kernel
theorem dX10_next0_95 : decode cX10_next0 95 = .ok (.bipush 7, 2) := by decide +kernel
theorem dX10_next0_97 : decode cX10_next0 97 = .ok (.if_icmp .ge 18, 3) := by decide +kernel
theorem dX10_next0_100 : decode cX10_next0 100 = .ok (.lload_n 3, 1) := by decide +kernel
theorem dX10_next0_101 : decode cX10_next0 101 = .ok (.bipush 8, 2) := by decide +kernel
theorem dX10_next0_103 : decode cX10_next0 103 = .ok (.lshl, 1) := by decide +kernel
theorem dX10_next0_104 : decode cX10_next0 104 = .ok (.aload_n 0, 1) := by decide +kernel
theorem dX10_next0_105 : decode cX10_next0 105 = .ok (.aload_n 0, 1) := by decide +kernel
theorem dX10_next0_106 : decode cX10_next0 106 = .ok (.getfield 164, 3) := by decide +kernel
theorem dX10_next0_109 : decode cX10_next0 109 = .ok (.invokevirtual 167, 3) := by decide +kernel
theorem dX10_next0_112 : decode cX10_next0 112 = .ok (.i2l, 1) := by decide +kernel
theorem dX10_next0_113 : decode cX10_next0 113 = .ok (.lor, 1) := by decide +kernel
theorem dX10_next0_114 : decode cX10_next0 114 = .ok (.lstore_n 3, 1) := by decide +kernel
theorem dX10_next0_115 : decode cX10_next0 115 = .ok (.iinc 2 1, 3) := by decide +kernel
theorem dX10_next0_118 : decode cX10_next0 118 = .ok (.aload_n 0, 1) := by decide +kernel
theorem dX10_next0_119 : decode cX10_next0 119 = .ok (.dup, 1) := by decide +kernel
theorem dX10_next0_120 : decode cX10_next0 120 = .ok (.getfield 164, 3) := by decide +kernel
theorem dX10_next0_123 : decode cX10_next0 123 = .ok (.iconst 1, 1) := by decide +kernel
theorem dX10_next0_124 : decode cX10_next0 124 = .ok (.iadd, 1) := by decide +kernel
theorem dX10_next0_125 : decode cX10_next0 125 = .ok (.putfield 164, 3) := by decide +kernel
theorem dX10_next0_128 : decode cX10_next0 128 = .ok (.goto (-48), 3) := by decide +kernel
theorem dX10_next0_131 : decode cX10_next0 131 = .ok (.aload_n 0, 1) := by decide +kernel
theorem dX10_next0_132 : decode cX10_next0 132 = .ok (.iload_n 2, 1) := by decide +kernel
theorem dX10_next0_133 : decode cX10_next0 133 = .ok (.bipush 7, 2) := by decide +kernel
theorem dX10_next0_135 : decode cX10_next0 135 = .ok (.if_icmp .ge 10, 3) := by decide +kernel
theorem dX10_next0_138 : decode cX10_next0 138 = .ok (.lload_n 3, 1) := by decide +kernel
theorem dX10_next0_139 : decode cX10_next0 139 = .ok (.invokestatic 180, 3) := by decide +kernel
theorem dX10_next0_142 : decode cX10_next0 142 = .ok (.goto 4, 3) := by decide +kernel
theorem dX10_next0_145 : decode cX10_next0 145 = .ok (.iconst 1, 1) := by decide +kernel
theorem dX10_next0_146 : decode cX10_next0 146 = .ok (.putfield 174, 3) := by decide +kernel
theorem dX10_next0_149 : decode cX10_next0 149 = .ok (.goto 181, 3) := by decide +kernel
theorem dX10_next0_152 : decode cX10_next0 152 = .ok (.iload_n 1, 1) := by decide +kernel
theorem dX10_next0_153 : decode cX10_next0 153 = .ok (.invokestatic 184, 3) := by decide +kernel
theorem dX10_next0_156 : decode cX10_next0 156 = .ok (.ifCond .eq 85, 3) := by decide +kernel
theorem dX10_next0_159 : decode cX10_next0 159 = .ok (.aload_n 0, 1) := by decide +kernel
theorem dX10_next0_160 : decode cX10_next0 160 = .ok (.iconst 0, 1) := by decide +kernel
theorem dX10_next0_161 : decode cX10_next0 161 = .ok (.putfield 187, 3) := by decide +kernel
theorem dX10_next0_164 : decode cX10_next0 164 = .ok (.aload_n 0, 1) := by decide +kernel
theorem dX10_next0_165 : decode cX10_next0 165 = .ok (.aload_n 0, 1) := by decide +kernel
theorem dX10_next0_166 : decode cX10_next0 166 = .ok (.getfield 164, 3) := by decide +kernel
theorem dX10_next0_169 : decode cX10_next0 169 = .ok (.invokevirtual 167, 3) := by decide +kernel
theorem dX10_next0_172 : decode cX10_next0 172 = .ok (.invokestatic 184, 3) := by decide +kernel
theorem dX10_next0_175 : decode cX10_next0 175 = .ok (.ifCond .eq 48, 3) := by decide +kernel
theorem dX10_next0_178 : decode cX10_next0 178 = .ok (.iload_n 2, 1) := by decide +kernel
theorem dX10_next0_179 : decode cX10_next0 179 = .ok (.bipush 6, 2) := by decide +kernel
theorem dX10_next0_181 : decode cX10_next0 181 = .ok (.if_icmp .ge 26, 3) := by decide +kernel
theorem dX10_next0_184 : decode cX10_next0 184 = .ok (.aload_n 0, 1) := by decide +kernel
theorem dX10_next0_185 : decode cX10_next0 185 = .ok (.bipush 10, 2) := by decide +kernel
theorem dX10_next0_187 : decode cX10_next0 187 = .ok (.aload_n 0, 1) := by decide +kernel
theorem dX10_next0_188 : decode cX10_next0 188 = .ok (.getfield 187, 3) := by decide +kernel
theorem dX10_next0_191 : decode cX10_next0 191 = .ok (.imul, 1) := by decide +kernel
theorem dX10_next0_192 : decode cX10_next0 192 = .ok (.aload_n 0, 1) := by decide +kernel
theorem dX10_next0_193 : decode cX10_next0 193 = .ok (.aload_n 0, 1) := by decide +kernel
theorem dX10_next0_194 : decode cX10_next0 194 = .ok (.getfield 164, 3) := by decide +kernel
theorem dX10_next0_197 : decode cX10_next0 197 = .ok (.invokevirtual 167, 3) := by decide +kernel
theorem dX10_next0_200 : decode cX10_next0 200 = .ok (.iadd, 1) := by decide +kernel
theorem dX10_next0_201 : decode cX10_next0 201 = .ok (.bipush 48, 2) := by decide +kernel
theorem dX10_next0_203 : decode cX10_next0 203 = .ok (.isub, 1) := by decide +kernel
theorem dX10_next0_204 : decode cX10_next0 204 = .ok (.putfield 187, 3) := by decide +kernel
theorem dX10_next0_207 : decode cX10_next0 207 = .ok (.iinc 2 1, 3) := by decide +kernel
theorem dX10_next0_210 : decode cX10_next0 210 = .ok (.aload_n 0, 1) := by decide +kernel
theorem dX10_next0_211 : decode cX10_next0 211 = .ok (.dup, 1) := by decide +kernel
theorem dX10_next0_212 : decode cX10_next0 212 = .ok (.getfield 164, 3) := by decide +kernel
theorem dX10_next0_215 : decode cX10_next0 215 = .ok (.iconst 1, 1) := by decide +kernel
theorem dX10_next0_216 : decode cX10_next0 216 = .ok (.iadd, 1) := by decide +kernel
theorem dX10_next0_217 : decode cX10_next0 217 = .ok (.putfield 164, 3) := by decide +kernel
theorem dX10_next0_220 : decode cX10_next0 220 = .ok (.goto (-56), 3) := by decide +kernel
theorem dX10_next0_223 : decode cX10_next0 223 = .ok (.aload_n 0, 1) := by decide +kernel
theorem dX10_next0_224 : decode cX10_next0 224 = .ok (.iload_n 2, 1) := by decide +kernel
theorem dX10_next0_225 : decode cX10_next0 225 = .ok (.bipush 7, 2) := by decide +kernel
theorem dX10_next0_227 : decode cX10_next0 227 = .ok (.if_icmp .ge 7, 3) := by decide +kernel
theorem dX10_next0_230 : decode cX10_next0 230 = .ok (.iconst 2, 1) := by decide +kernel
theorem dX10_next0_231 : decode cX10_next0 231 = .ok (.goto 4, 3) := by decide +kernel
theorem dX10_next0_234 : decode cX10_next0 234 = .ok (.iconst 1, 1) := by decide +kernel
theorem dX10_next0_235 : decode cX10_next0 235 = .ok (.putfield 174, 3) := by decide +kernel
theorem dX10_next0_238 : decode cX10_next0 238 = .ok (.goto 92, 3) := by decide +kernel
theorem dX10_next0_241 : decode cX10_next0 241 = .ok (.aload_n 0, 1) := by decide +kernel
theorem dX10_next0_242 : decode cX10_next0 242 = .ok (.dup, 1) := by decide +kernel
theorem dX10_next0_243 : decode cX10_next0 243 = .ok (.getfield 164, 3) := by decide +kernel
theorem dX10_next0_246 : decode cX10_next0 246 = .ok (.iconst 1, 1) := by decide +kernel
theorem dX10_next0_247 : decode cX10_next0 247 = .ok (.iadd, 1) := by decide +kernel
theorem dX10_next0_248 : decode cX10_next0 248 = .ok (.putfield 164, 3) := by decide +kernel
theorem dX10_next0_251 : decode cX10_next0 251 = .ok (.iload_n 1, 1) := by decide +kernel
theorem dX10_next0_252 : decode cX10_next0 252 = .ok (.bipush 59, 2) := by decide +kernel
theorem dX10_next0_254 : decode cX10_next0 254 = .ok (.if_icmp .eq 57, 3) := by decide +kernel
theorem dX10_next0_257 : decode cX10_next0 257 = .ok (.iload_n 1, 1) := by decide +kernel
theorem dX10_next0_258 : decode cX10_next0 258 = .ok (.bipush 43, 2) := by decide +kernel
theorem dX10_next0_260 : decode cX10_next0 260 = .ok (.if_icmp .eq 51, 3) := by decide +kernel
theorem dX10_next0_263 : decode cX10_next0 263 = .ok (.iload_n 1, 1) := by decide +kernel
theorem dX10_next0_264 : decode cX10_next0 264 = .ok (.bipush 45, 2) := by decide +kernel
theorem dX10_next0_266 : decode cX10_next0 266 = .ok (.if_icmp .eq 45, 3) := by decide +kernel
theorem dX10_next0_269 : decode cX10_next0 269 = .ok (.iload_n 1, 1) := by decide +kernel
theorem dX10_next0_270 : decode cX10_next0 270 = .ok (.bipush 42, 2) := by decide +kernel
theorem dX10_next0_272 : decode cX10_next0 272 = .ok (.if_icmp .eq 39, 3) := by decide +kernel
theorem dX10_next0_275 : decode cX10_next0 275 = .ok (.iload_n 1, 1) := by decide +kernel
theorem dX10_next0_276 : decode cX10_next0 276 = .ok (.bipush 47, 2) := by decide +kernel
theorem dX10_next0_278 : decode cX10_next0 278 = .ok (.if_icmp .eq 33, 3) := by decide +kernel
theorem dX10_next0_281 : decode cX10_next0 281 = .ok (.iload_n 1, 1) := by decide +kernel
theorem dX10_next0_282 : decode cX10_next0 282 = .ok (.bipush 40, 2) := by decide +kernel
theorem dX10_next0_284 : decode cX10_next0 284 = .ok (.if_icmp .eq 27, 3) := by decide +kernel
theorem dX10_next0_287 : decode cX10_next0 287 = .ok (.iload_n 1, 1) := by decide +kernel
theorem dX10_next0_288 : decode cX10_next0 288 = .ok (.bipush 41, 2) := by decide +kernel
theorem dX10_next0_290 : decode cX10_next0 290 = .ok (.if_icmp .eq 21, 3) := by decide +kernel
theorem dX10_next0_293 : decode cX10_next0 293 = .ok (.iload_n 1, 1) := by decide +kernel
theorem dX10_next0_294 : decode cX10_next0 294 = .ok (.bipush 60, 2) := by decide +kernel
theorem dX10_next0_296 : decode cX10_next0 296 = .ok (.if_icmp .eq 15, 3) := by decide +kernel
theorem dX10_next0_299 : decode cX10_next0 299 = .ok (.iload_n 1, 1) := by decide +kernel
theorem dX10_next0_300 : decode cX10_next0 300 = .ok (.bipush 61, 2) := by decide +kernel
theorem dX10_next0_302 : decode cX10_next0 302 = .ok (.if_icmp .eq 9, 3) := by decide +kernel
theorem dX10_next0_305 : decode cX10_next0 305 = .ok (.iload_n 1, 1) := by decide +kernel
theorem dX10_next0_306 : decode cX10_next0 306 = .ok (.bipush 62, 2) := by decide +kernel
theorem dX10_next0_308 : decode cX10_next0 308 = .ok (.if_icmp .ne 7, 3) := by decide +kernel
theorem dX10_next0_311 : decode cX10_next0 311 = .ok (.iconst 1, 1) := by decide +kernel
theorem dX10_next0_312 : decode cX10_next0 312 = .ok (.goto 4, 3) := by decide +kernel
theorem dX10_next0_315 : decode cX10_next0 315 = .ok (.iconst 0, 1) := by decide +kernel
theorem dX10_next0_316 : decode cX10_next0 316 = .ok (.istore_n 3, 1) := by decide +kernel
theorem dX10_next0_317 : decode cX10_next0 317 = .ok (.aload_n 0, 1) := by decide +kernel
theorem dX10_next0_318 : decode cX10_next0 318 = .ok (.iload_n 3, 1) := by decide +kernel
theorem dX10_next0_319 : decode cX10_next0 319 = .ok (.ifCond .eq 7, 3) := by decide +kernel
theorem dX10_next0_322 : decode cX10_next0 322 = .ok (.iload_n 1, 1) := by decide +kernel
theorem dX10_next0_323 : decode cX10_next0 323 = .ok (.goto 4, 3) := by decide +kernel
theorem dX10_next0_326 : decode cX10_next0 326 = .ok (.iconst 1, 1) := by decide +kernel
theorem dX10_next0_327 : decode cX10_next0 327 = .ok (.putfield 174, 3) := by decide +kernel
theorem dX10_next0_330 : decode cX10_next0 330 = .ok (.return_, 1) := by decide +kernel
theorem dX10_bad_0 : decode cX10_bad 0 = .ok (.aload_n 0, 1) := by decide +kernel
theorem dX10_bad_1 : decode cX10_bad 1 = .ok (.iload_n 1, 1) := by decide +kernel
theorem dX10_bad_2 : decode cX10_bad 2 = .ok (.putfield 190, 3) := by decide +kernel
theorem dX10_bad_5 : decode cX10_bad 5 = .ok (.aload_n 0, 1) := by decide +kernel
theorem dX10_bad_6 : decode cX10_bad 6 = .ok (.aload_n 0, 1) := by decide +kernel
theorem dX10_bad_7 : decode cX10_bad 7 = .ok (.getfield 171, 3) := by decide +kernel
theorem dX10_bad_10 : decode cX10_bad 10 = .ok (.putfield 193, 3) := by decide +kernel
theorem dX10_bad_13 : decode cX10_bad 13 = .ok (.iconst 0, 1) := by decide +kernel
theorem dX10_bad_14 : decode cX10_bad 14 = .ok (.ireturn, 1) := by decide +kernel
theorem dX10_need_0 : decode cX10_need 0 = .ok (.aload_n 0, 1) := by decide +kernel
theorem dX10_need_1 : decode cX10_need 1 = .ok (.getfield 174, 3) := by decide +kernel
theorem dX10_need_4 : decode cX10_need 4 = .ok (.iload_n 1, 1) := by decide +kernel
theorem dX10_need_5 : decode cX10_need 5 = .ok (.if_icmp .eq 9, 3) := by decide +kernel
theorem dX10_need_8 : decode cX10_need 8 = .ok (.aload_n 0, 1) := by decide +kernel
theorem dX10_need_9 : decode cX10_need 9 = .ok (.iconst 1, 1) := by decide +kernel
theorem dX10_need_10 : decode cX10_need 10 = .ok (.invokevirtual 196, 3) := by decide +kernel
theorem dX10_need_13 : decode cX10_need 13 = .ok (.ireturn, 1) := by decide +kernel
theorem dX10_need_14 : decode cX10_need 14 = .ok (.aload_n 0, 1) := by decide +kernel
theorem dX10_need_15 : decode cX10_need 15 = .ok (.invokevirtual 199, 3) := by decide +kernel
theorem dX10_need_18 : decode cX10_need 18 = .ok (.iconst 1, 1) := by decide +kernel
theorem dX10_need_19 : decode cX10_need 19 = .ok (.ireturn, 1) := by decide +kernel
theorem dX10_lay_0 : decode cX10_lay 0 = .ok (.aload_n 0, 1) := by decide +kernel
theorem dX10_lay_1 : decode cX10_lay 1 = .ok (.getfield 83, 3) := by decide +kernel
theorem dX10_lay_4 : decode cX10_lay 4 = .ok (.aload_n 0, 1) := by decide +kernel
theorem dX10_lay_5 : decode cX10_lay 5 = .ok (.getfield 202, 3) := by decide +kernel
theorem dX10_lay_8 : decode cX10_lay 8 = .ok (.iload_n 1, 1) := by decide +kernel
theorem dX10_lay_9 : decode cX10_lay 9 = .ok (.iastore, 1) := by decide +kernel
theorem dX10_lay_10 : decode cX10_lay 10 = .ok (.aload_n 0, 1) := by decide +kernel
theorem dX10_lay_11 : decode cX10_lay 11 = .ok (.dup, 1) := by decide +kernel
theorem dX10_lay_12 : decode cX10_lay 12 = .ok (.getfield 202, 3) := by decide +kernel
theorem dX10_lay_15 : decode cX10_lay 15 = .ok (.iconst 1, 1) := by decide +kernel
theorem dX10_lay_16 : decode cX10_lay 16 = .ok (.iadd, 1) := by decide +kernel
theorem dX10_lay_17 : decode cX10_lay 17 = .ok (.putfield 202, 3) := by decide +kernel
theorem dX10_lay_20 : decode cX10_lay 20 = .ok (.return_, 1) := by decide +kernel
theorem dX10_sum_0 : decode cX10_sum 0 = .ok (.aload_n 0, 1) := by decide +kernel
theorem dX10_sum_1 : decode cX10_sum 1 = .ok (.invokevirtual 205, 3) := by decide +kernel
theorem dX10_sum_4 : decode cX10_sum 4 = .ok (.ifCond .ne 5, 3) := by decide +kernel
theorem dX10_sum_7 : decode cX10_sum 7 = .ok (.iconst 0, 1) := by decide +kernel
theorem dX10_sum_8 : decode cX10_sum 8 = .ok (.ireturn, 1) := by decide +kernel
theorem dX10_sum_9 : decode cX10_sum 9 = .ok (.aload_n 0, 1) := by decide +kernel
theorem dX10_sum_10 : decode cX10_sum 10 = .ok (.getfield 174, 3) := by decide +kernel
theorem dX10_sum_13 : decode cX10_sum 13 = .ok (.bipush 43, 2) := by decide +kernel
theorem dX10_sum_15 : decode cX10_sum 15 = .ok (.if_icmp .eq 12, 3) := by decide +kernel
theorem dX10_sum_18 : decode cX10_sum 18 = .ok (.aload_n 0, 1) := by decide +kernel
theorem dX10_sum_19 : decode cX10_sum 19 = .ok (.getfield 174, 3) := by decide +kernel
theorem dX10_sum_22 : decode cX10_sum 22 = .ok (.bipush 45, 2) := by decide +kernel
theorem dX10_sum_24 : decode cX10_sum 24 = .ok (.if_icmp .ne 41, 3) := by decide +kernel
theorem dX10_sum_27 : decode cX10_sum 27 = .ok (.aload_n 0, 1) := by decide +kernel
theorem dX10_sum_28 : decode cX10_sum 28 = .ok (.getfield 174, 3) := by decide +kernel
theorem dX10_sum_31 : decode cX10_sum 31 = .ok (.bipush 43, 2) := by decide +kernel
theorem dX10_sum_33 : decode cX10_sum 33 = .ok (.if_icmp .ne 8, 3) := by decide +kernel
theorem dX10_sum_36 : decode cX10_sum 36 = .ok (.ldc 209, 2) := by decide +kernel
theorem dX10_sum_38 : decode cX10_sum 38 = .ok (.goto 5, 3) := by decide +kernel
theorem dX10_sum_41 : decode cX10_sum 41 = .ok (.ldc 210, 2) := by decide +kernel
theorem dX10_sum_43 : decode cX10_sum 43 = .ok (.istore_n 1, 1) := by decide +kernel
theorem dX10_sum_44 : decode cX10_sum 44 = .ok (.aload_n 0, 1) := by decide +kernel
theorem dX10_sum_45 : decode cX10_sum 45 = .ok (.invokevirtual 199, 3) := by decide +kernel
theorem dX10_sum_48 : decode cX10_sum 48 = .ok (.aload_n 0, 1) := by decide +kernel
theorem dX10_sum_49 : decode cX10_sum 49 = .ok (.invokevirtual 205, 3) := by decide +kernel
theorem dX10_sum_52 : decode cX10_sum 52 = .ok (.ifCond .ne 5, 3) := by decide +kernel
theorem dX10_sum_55 : decode cX10_sum 55 = .ok (.iconst 0, 1) := by decide +kernel
theorem dX10_sum_56 : decode cX10_sum 56 = .ok (.ireturn, 1) := by decide +kernel
theorem dX10_sum_57 : decode cX10_sum 57 = .ok (.aload_n 0, 1) := by decide +kernel
theorem dX10_sum_58 : decode cX10_sum 58 = .ok (.iload_n 1, 1) := by decide +kernel
theorem dX10_sum_59 : decode cX10_sum 59 = .ok (.invokevirtual 211, 3) := by decide +kernel
theorem dX10_sum_62 : decode cX10_sum 62 = .ok (.goto (-53), 3) := by decide +kernel
theorem dX10_sum_65 : decode cX10_sum 65 = .ok (.iconst 1, 1) := by decide +kernel
theorem dX10_sum_66 : decode cX10_sum 66 = .ok (.ireturn, 1) := by decide +kernel
theorem dX10_product_0 : decode cX10_product 0 = .ok (.aload_n 0, 1) := by decide +kernel
theorem dX10_product_1 : decode cX10_product 1 = .ok (.invokevirtual 215, 3) := by decide +kernel
theorem dX10_product_4 : decode cX10_product 4 = .ok (.ifCond .ne 5, 3) := by decide +kernel
theorem dX10_product_7 : decode cX10_product 7 = .ok (.iconst 0, 1) := by decide +kernel
theorem dX10_product_8 : decode cX10_product 8 = .ok (.ireturn, 1) := by decide +kernel
theorem dX10_product_9 : decode cX10_product 9 = .ok (.aload_n 0, 1) := by decide +kernel
theorem dX10_product_10 : decode cX10_product 10 = .ok (.getfield 174, 3) := by decide +kernel
theorem dX10_product_13 : decode cX10_product 13 = .ok (.bipush 42, 2) := by decide +kernel
theorem dX10_product_15 : decode cX10_product 15 = .ok (.if_icmp .eq 12, 3) := by decide +kernel
theorem dX10_product_18 : decode cX10_product 18 = .ok (.aload_n 0, 1) := by decide +kernel
theorem dX10_product_19 : decode cX10_product 19 = .ok (.getfield 174, 3) := by decide +kernel
theorem dX10_product_22 : decode cX10_product 22 = .ok (.bipush 47, 2) := by decide +kernel
theorem dX10_product_24 : decode cX10_product 24 = .ok (.if_icmp .ne 84, 3) := by decide +kernel
theorem dX10_product_27 : decode cX10_product 27 = .ok (.aload_n 0, 1) := by decide +kernel
theorem dX10_product_28 : decode cX10_product 28 = .ok (.getfield 174, 3) := by decide +kernel
theorem dX10_product_31 : decode cX10_product 31 = .ok (.bipush 47, 2) := by decide +kernel
theorem dX10_product_33 : decode cX10_product 33 = .ok (.if_icmp .ne 7, 3) := by decide +kernel
theorem dX10_product_36 : decode cX10_product 36 = .ok (.iconst 1, 1) := by decide +kernel
theorem dX10_product_37 : decode cX10_product 37 = .ok (.goto 4, 3) := by decide +kernel
theorem dX10_product_40 : decode cX10_product 40 = .ok (.iconst 0, 1) := by decide +kernel
theorem dX10_product_41 : decode cX10_product 41 = .ok (.istore_n 1, 1) := by decide +kernel
theorem dX10_product_42 : decode cX10_product 42 = .ok (.aload_n 0, 1) := by decide +kernel
theorem dX10_product_43 : decode cX10_product 43 = .ok (.invokevirtual 199, 3) := by decide +kernel
theorem dX10_product_46 : decode cX10_product 46 = .ok (.iload_n 1, 1) := by decide +kernel
theorem dX10_product_47 : decode cX10_product 47 = .ok (.ifCond .eq 17, 3) := by decide +kernel
theorem dX10_product_50 : decode cX10_product 50 = .ok (.aload_n 0, 1) := by decide +kernel
theorem dX10_product_51 : decode cX10_product 51 = .ok (.getfield 174, 3) := by decide +kernel
theorem dX10_product_54 : decode cX10_product 54 = .ok (.iconst 2, 1) := by decide +kernel
theorem dX10_product_55 : decode cX10_product 55 = .ok (.if_icmp .eq 9, 3) := by decide +kernel
theorem dX10_product_58 : decode cX10_product 58 = .ok (.aload_n 0, 1) := by decide +kernel
theorem dX10_product_59 : decode cX10_product 59 = .ok (.iconst 1, 1) := by decide +kernel
theorem dX10_product_60 : decode cX10_product 60 = .ok (.invokevirtual 196, 3) := by decide +kernel
theorem dX10_product_63 : decode cX10_product 63 = .ok (.ireturn, 1) := by decide +kernel
theorem dX10_product_64 : decode cX10_product 64 = .ok (.iload_n 1, 1) := by decide +kernel
theorem dX10_product_65 : decode cX10_product 65 = .ok (.ifCond .eq 16, 3) := by decide +kernel
theorem dX10_product_68 : decode cX10_product 68 = .ok (.aload_n 0, 1) := by decide +kernel
theorem dX10_product_69 : decode cX10_product 69 = .ok (.getfield 187, 3) := by decide +kernel
theorem dX10_product_72 : decode cX10_product 72 = .ok (.ifCond .ne 9, 3) := by decide +kernel
theorem dX10_product_75 : decode cX10_product 75 = .ok (.aload_n 0, 1) := by decide +kernel
theorem dX10_product_76 : decode cX10_product 76 = .ok (.iconst 2, 1) := by decide +kernel
theorem dX10_product_77 : decode cX10_product 77 = .ok (.invokevirtual 196, 3) := by decide +kernel
theorem dX10_product_80 : decode cX10_product 80 = .ok (.ireturn, 1) := by decide +kernel
theorem dX10_product_81 : decode cX10_product 81 = .ok (.aload_n 0, 1) := by decide +kernel
theorem dX10_product_82 : decode cX10_product 82 = .ok (.invokevirtual 215, 3) := by decide +kernel
theorem dX10_product_85 : decode cX10_product 85 = .ok (.ifCond .ne 5, 3) := by decide +kernel
theorem dX10_product_88 : decode cX10_product 88 = .ok (.iconst 0, 1) := by decide +kernel
theorem dX10_product_89 : decode cX10_product 89 = .ok (.ireturn, 1) := by decide +kernel
theorem dX10_product_90 : decode cX10_product 90 = .ok (.aload_n 0, 1) := by decide +kernel
theorem dX10_product_91 : decode cX10_product 91 = .ok (.iload_n 1, 1) := by decide +kernel
theorem dX10_product_92 : decode cX10_product 92 = .ok (.ifCond .eq 8, 3) := by decide +kernel
theorem dX10_product_95 : decode cX10_product 95 = .ok (.ldc 218, 2) := by decide +kernel
theorem dX10_product_97 : decode cX10_product 97 = .ok (.goto 5, 3) := by decide +kernel
theorem dX10_product_100 : decode cX10_product 100 = .ok (.ldc 219, 2) := by decide +kernel
theorem dX10_product_102 : decode cX10_product 102 = .ok (.invokevirtual 211, 3) := by decide +kernel
theorem dX10_product_105 : decode cX10_product 105 = .ok (.goto (-96), 3) := by decide +kernel
theorem dX10_product_108 : decode cX10_product 108 = .ok (.iconst 1, 1) := by decide +kernel
theorem dX10_product_109 : decode cX10_product 109 = .ok (.ireturn, 1) := by decide +kernel
theorem dX10_unit_0 : decode cX10_unit 0 = .ok (.aload_n 0, 1) := by decide +kernel
theorem dX10_unit_1 : decode cX10_unit 1 = .ok (.getfield 174, 3) := by decide +kernel
theorem dX10_unit_4 : decode cX10_unit 4 = .ok (.bipush 40, 2) := by decide +kernel
theorem dX10_unit_6 : decode cX10_unit 6 = .ok (.if_icmp .ne 62, 3) := by decide +kernel
theorem dX10_unit_9 : decode cX10_unit 9 = .ok (.aload_n 0, 1) := by decide +kernel
theorem dX10_unit_10 : decode cX10_unit 10 = .ok (.getfield 220, 3) := by decide +kernel
theorem dX10_unit_13 : decode cX10_unit 13 = .ok (.bipush 8, 2) := by decide +kernel
theorem dX10_unit_15 : decode cX10_unit 15 = .ok (.if_icmp .ne 9, 3) := by decide +kernel
theorem dX10_unit_18 : decode cX10_unit 18 = .ok (.aload_n 0, 1) := by decide +kernel
theorem dX10_unit_19 : decode cX10_unit 19 = .ok (.iconst 3, 1) := by decide +kernel
theorem dX10_unit_20 : decode cX10_unit 20 = .ok (.invokevirtual 196, 3) := by decide +kernel
theorem dX10_unit_23 : decode cX10_unit 23 = .ok (.ireturn, 1) := by decide +kernel
theorem dX10_unit_24 : decode cX10_unit 24 = .ok (.aload_n 0, 1) := by decide +kernel
theorem dX10_unit_25 : decode cX10_unit 25 = .ok (.dup, 1) := by decide +kernel
theorem dX10_unit_26 : decode cX10_unit 26 = .ok (.getfield 220, 3) := by decide +kernel
theorem dX10_unit_29 : decode cX10_unit 29 = .ok (.iconst 1, 1) := by decide +kernel
theorem dX10_unit_30 : decode cX10_unit 30 = .ok (.iadd, 1) := by decide +kernel
theorem dX10_unit_31 : decode cX10_unit 31 = .ok (.putfield 220, 3) := by decide +kernel
theorem dX10_unit_34 : decode cX10_unit 34 = .ok (.aload_n 0, 1) := by decide +kernel
theorem dX10_unit_35 : decode cX10_unit 35 = .ok (.invokevirtual 199, 3) := by decide +kernel
theorem dX10_unit_38 : decode cX10_unit 38 = .ok (.aload_n 0, 1) := by decide +kernel
theorem dX10_unit_39 : decode cX10_unit 39 = .ok (.invokevirtual 223, 3) := by decide +kernel
theorem dX10_unit_42 : decode cX10_unit 42 = .ok (.ifCond .eq 12, 3) := by decide +kernel
theorem dX10_unit_45 : decode cX10_unit 45 = .ok (.aload_n 0, 1) := by decide +kernel
theorem dX10_unit_46 : decode cX10_unit 46 = .ok (.bipush 41, 2) := by decide +kernel
theorem dX10_unit_48 : decode cX10_unit 48 = .ok (.invokevirtual 226, 3) := by decide +kernel
theorem dX10_unit_51 : decode cX10_unit 51 = .ok (.ifCond .ne 5, 3) := by decide +kernel
theorem dX10_unit_54 : decode cX10_unit 54 = .ok (.iconst 0, 1) := by decide +kernel
theorem dX10_unit_55 : decode cX10_unit 55 = .ok (.ireturn, 1) := by decide +kernel
theorem dX10_unit_56 : decode cX10_unit 56 = .ok (.aload_n 0, 1) := by decide +kernel
theorem dX10_unit_57 : decode cX10_unit 57 = .ok (.dup, 1) := by decide +kernel
theorem dX10_unit_58 : decode cX10_unit 58 = .ok (.getfield 220, 3) := by decide +kernel
theorem dX10_unit_61 : decode cX10_unit 61 = .ok (.iconst 1, 1) := by decide +kernel
theorem dX10_unit_62 : decode cX10_unit 62 = .ok (.isub, 1) := by decide +kernel
theorem dX10_unit_63 : decode cX10_unit 63 = .ok (.putfield 220, 3) := by decide +kernel
theorem dX10_unit_66 : decode cX10_unit 66 = .ok (.iconst 1, 1) := by decide +kernel
theorem dX10_unit_67 : decode cX10_unit 67 = .ok (.ireturn, 1) := by decide +kernel
theorem dX10_unit_68 : decode cX10_unit 68 = .ok (.aload_n 0, 1) := by decide +kernel
theorem dX10_unit_69 : decode cX10_unit 69 = .ok (.getfield 174, 3) := by decide +kernel
theorem dX10_unit_72 : decode cX10_unit 72 = .ok (.iconst 2, 1) := by decide +kernel
theorem dX10_unit_73 : decode cX10_unit 73 = .ok (.if_icmp .eq 18, 3) := by decide +kernel
theorem dX10_unit_76 : decode cX10_unit 76 = .ok (.aload_n 0, 1) := by decide +kernel
theorem dX10_unit_77 : decode cX10_unit 77 = .ok (.getfield 174, 3) := by decide +kernel
theorem dX10_unit_80 : decode cX10_unit 80 = .ok (.ldc 154, 2) := by decide +kernel
theorem dX10_unit_82 : decode cX10_unit 82 = .ok (.if_icmp .ge 9, 3) := by decide +kernel
theorem dX10_unit_85 : decode cX10_unit 85 = .ok (.aload_n 0, 1) := by decide +kernel
theorem dX10_unit_86 : decode cX10_unit 86 = .ok (.iconst 1, 1) := by decide +kernel
theorem dX10_unit_87 : decode cX10_unit 87 = .ok (.invokevirtual 196, 3) := by decide +kernel
theorem dX10_unit_90 : decode cX10_unit 90 = .ok (.ireturn, 1) := by decide +kernel
theorem dX10_unit_91 : decode cX10_unit 91 = .ok (.aload_n 0, 1) := by decide +kernel
theorem dX10_unit_92 : decode cX10_unit 92 = .ok (.aload_n 0, 1) := by decide +kernel
theorem dX10_unit_93 : decode cX10_unit 93 = .ok (.getfield 174, 3) := by decide +kernel
theorem dX10_unit_96 : decode cX10_unit 96 = .ok (.iconst 2, 1) := by decide +kernel
theorem dX10_unit_97 : decode cX10_unit 97 = .ok (.if_icmp .ne 10, 3) := by decide +kernel
theorem dX10_unit_100 : decode cX10_unit 100 = .ok (.aload_n 0, 1) := by decide +kernel
theorem dX10_unit_101 : decode cX10_unit 101 = .ok (.getfield 187, 3) := by decide +kernel
theorem dX10_unit_104 : decode cX10_unit 104 = .ok (.goto 7, 3) := by decide +kernel
theorem dX10_unit_107 : decode cX10_unit 107 = .ok (.aload_n 0, 1) := by decide +kernel
theorem dX10_unit_108 : decode cX10_unit 108 = .ok (.getfield 174, 3) := by decide +kernel
theorem dX10_unit_111 : decode cX10_unit 111 = .ok (.invokevirtual 211, 3) := by decide +kernel
theorem dX10_unit_114 : decode cX10_unit 114 = .ok (.aload_n 0, 1) := by decide +kernel
theorem dX10_unit_115 : decode cX10_unit 115 = .ok (.invokevirtual 199, 3) := by decide +kernel
theorem dX10_unit_118 : decode cX10_unit 118 = .ok (.iconst 1, 1) := by decide +kernel
theorem dX10_unit_119 : decode cX10_unit 119 = .ok (.ireturn, 1) := by decide +kernel
theorem dX10_holds_0 : decode cX10_holds 0 = .ok (.aload_n 0, 1) := by decide +kernel
theorem dX10_holds_1 : decode cX10_holds 1 = .ok (.invokevirtual 223, 3) := by decide +kernel
theorem dX10_holds_4 : decode cX10_holds 4 = .ok (.ifCond .ne 5, 3) := by decide +kernel
theorem dX10_holds_7 : decode cX10_holds 7 = .ok (.iconst 0, 1) := by decide +kernel
theorem dX10_holds_8 : decode cX10_holds 8 = .ok (.ireturn, 1) := by decide +kernel
theorem dX10_holds_9 : decode cX10_holds 9 = .ok (.aload_n 0, 1) := by decide +kernel
theorem dX10_holds_10 : decode cX10_holds 10 = .ok (.getfield 174, 3) := by decide +kernel
theorem dX10_holds_13 : decode cX10_holds 13 = .ok (.bipush 60, 2) := by decide +kernel
theorem dX10_holds_15 : decode cX10_holds 15 = .ok (.if_icmp .ne 8, 3) := by decide +kernel
theorem dX10_holds_18 : decode cX10_holds 18 = .ok (.ldc 229, 2) := by decide +kernel
theorem dX10_holds_20 : decode cX10_holds 20 = .ok (.goto 32, 3) := by decide +kernel
theorem dX10_holds_23 : decode cX10_holds 23 = .ok (.aload_n 0, 1) := by decide +kernel
theorem dX10_holds_24 : decode cX10_holds 24 = .ok (.getfield 174, 3) := by decide +kernel
theorem dX10_holds_27 : decode cX10_holds 27 = .ok (.bipush 61, 2) := by decide +kernel
theorem dX10_holds_29 : decode cX10_holds 29 = .ok (.if_icmp .ne 8, 3) := by decide +kernel
theorem dX10_holds_32 : decode cX10_holds 32 = .ok (.ldc 230, 2) := by decide +kernel
theorem dX10_holds_34 : decode cX10_holds 34 = .ok (.goto 18, 3) := by decide +kernel
theorem dX10_holds_37 : decode cX10_holds 37 = .ok (.aload_n 0, 1) := by decide +kernel
theorem dX10_holds_38 : decode cX10_holds 38 = .ok (.getfield 174, 3) := by decide +kernel
theorem dX10_holds_41 : decode cX10_holds 41 = .ok (.bipush 62, 2) := by decide +kernel
theorem dX10_holds_43 : decode cX10_holds 43 = .ok (.if_icmp .ne 8, 3) := by decide +kernel
theorem dX10_holds_46 : decode cX10_holds 46 = .ok (.ldc 231, 2) := by decide +kernel
theorem dX10_holds_48 : decode cX10_holds 48 = .ok (.goto 4, 3) := by decide +kernel
theorem dX10_holds_51 : decode cX10_holds 51 = .ok (.iconst (-1), 1) := by decide +kernel
theorem dX10_holds_52 : decode cX10_holds 52 = .ok (.istore_n 1, 1) := by decide +kernel
theorem dX10_holds_53 : decode cX10_holds 53 = .ok (.iload_n 1, 1) := by decide +kernel
theorem dX10_holds_54 : decode cX10_holds 54 = .ok (.iconst (-1), 1) := by decide +kernel
theorem dX10_holds_55 : decode cX10_holds 55 = .ok (.if_icmp .ne 9, 3) := by decide +kernel
theorem dX10_holds_58 : decode cX10_holds 58 = .ok (.aload_n 0, 1) := by decide +kernel
theorem dX10_holds_59 : decode cX10_holds 59 = .ok (.iconst 1, 1) := by decide +kernel
theorem dX10_holds_60 : decode cX10_holds 60 = .ok (.invokevirtual 196, 3) := by decide +kernel
theorem dX10_holds_63 : decode cX10_holds 63 = .ok (.ireturn, 1) := by decide +kernel
theorem dX10_holds_64 : decode cX10_holds 64 = .ok (.aload_n 0, 1) := by decide +kernel
theorem dX10_holds_65 : decode cX10_holds 65 = .ok (.invokevirtual 199, 3) := by decide +kernel
theorem dX10_holds_68 : decode cX10_holds 68 = .ok (.aload_n 0, 1) := by decide +kernel
theorem dX10_holds_69 : decode cX10_holds 69 = .ok (.invokevirtual 223, 3) := by decide +kernel
theorem dX10_holds_72 : decode cX10_holds 72 = .ok (.ifCond .ne 5, 3) := by decide +kernel
theorem dX10_holds_75 : decode cX10_holds 75 = .ok (.iconst 0, 1) := by decide +kernel
theorem dX10_holds_76 : decode cX10_holds 76 = .ok (.ireturn, 1) := by decide +kernel
theorem dX10_holds_77 : decode cX10_holds 77 = .ok (.aload_n 0, 1) := by decide +kernel
theorem dX10_holds_78 : decode cX10_holds 78 = .ok (.iload_n 1, 1) := by decide +kernel
theorem dX10_holds_79 : decode cX10_holds 79 = .ok (.invokevirtual 211, 3) := by decide +kernel
theorem dX10_holds_82 : decode cX10_holds 82 = .ok (.iconst 1, 1) := by decide +kernel
theorem dX10_holds_83 : decode cX10_holds 83 = .ok (.ireturn, 1) := by decide +kernel
theorem dX10_aLine_0 : decode cX10_aLine 0 = .ok (.aload_n 0, 1) := by decide +kernel
theorem dX10_aLine_1 : decode cX10_aLine 1 = .ok (.getfield 174, 3) := by decide +kernel
theorem dX10_aLine_4 : decode cX10_aLine 4 = .ok (.iconst 3, 1) := by decide +kernel
theorem dX10_aLine_5 : decode cX10_aLine 5 = .ok (.if_icmp .eq 9, 3) := by decide +kernel
theorem dX10_aLine_8 : decode cX10_aLine 8 = .ok (.aload_n 0, 1) := by decide +kernel
theorem dX10_aLine_9 : decode cX10_aLine 9 = .ok (.iconst 1, 1) := by decide +kernel
theorem dX10_aLine_10 : decode cX10_aLine 10 = .ok (.invokevirtual 196, 3) := by decide +kernel
theorem dX10_aLine_13 : decode cX10_aLine 13 = .ok (.ireturn, 1) := by decide +kernel
theorem dX10_aLine_14 : decode cX10_aLine 14 = .ok (.aload_n 0, 1) := by decide +kernel
theorem dX10_aLine_15 : decode cX10_aLine 15 = .ok (.getfield 232, 3) := by decide +kernel
theorem dX10_aLine_18 : decode cX10_aLine 18 = .ok (.bipush 8, 2) := by decide +kernel
theorem dX10_aLine_20 : decode cX10_aLine 20 = .ok (.if_icmp .ne 9, 3) := by decide +kernel
theorem dX10_aLine_23 : decode cX10_aLine 23 = .ok (.aload_n 0, 1) := by decide +kernel
theorem dX10_aLine_24 : decode cX10_aLine 24 = .ok (.iconst 3, 1) := by decide +kernel
theorem dX10_aLine_25 : decode cX10_aLine 25 = .ok (.invokevirtual 196, 3) := by decide +kernel
theorem dX10_aLine_28 : decode cX10_aLine 28 = .ok (.ireturn, 1) := by decide +kernel
theorem dX10_aLine_29 : decode cX10_aLine 29 = .ok (.aload_n 0, 1) := by decide +kernel
theorem dX10_aLine_30 : decode cX10_aLine 30 = .ok (.iconst 0, 1) := by decide +kernel
theorem dX10_aLine_31 : decode cX10_aLine 31 = .ok (.putfield 220, 3) := by decide +kernel
theorem dX10_aLine_34 : decode cX10_aLine 34 = .ok (.aload_n 0, 1) := by decide +kernel
theorem dX10_aLine_35 : decode cX10_aLine 35 = .ok (.getfield 77, 3) := by decide +kernel
theorem dX10_aLine_38 : decode cX10_aLine 38 = .ok (.aload_n 0, 1) := by decide +kernel
theorem dX10_aLine_39 : decode cX10_aLine 39 = .ok (.getfield 232, 3) := by decide +kernel
theorem dX10_aLine_42 : decode cX10_aLine 42 = .ok (.aload_n 0, 1) := by decide +kernel
theorem dX10_aLine_43 : decode cX10_aLine 43 = .ok (.getfield 202, 3) := by decide +kernel
theorem dX10_aLine_46 : decode cX10_aLine 46 = .ok (.iastore, 1) := by decide +kernel
theorem dX10_aLine_47 : decode cX10_aLine 47 = .ok (.aload_n 0, 1) := by decide +kernel
theorem dX10_aLine_48 : decode cX10_aLine 48 = .ok (.invokevirtual 199, 3) := by decide +kernel
theorem dX10_aLine_51 : decode cX10_aLine 51 = .ok (.aload_n 0, 1) := by decide +kernel
theorem dX10_aLine_52 : decode cX10_aLine 52 = .ok (.invokevirtual 223, 3) := by decide +kernel
theorem dX10_aLine_55 : decode cX10_aLine 55 = .ok (.ifCond .ne 5, 3) := by decide +kernel
theorem dX10_aLine_58 : decode cX10_aLine 58 = .ok (.iconst 0, 1) := by decide +kernel
theorem dX10_aLine_59 : decode cX10_aLine 59 = .ok (.ireturn, 1) := by decide +kernel
theorem dX10_aLine_60 : decode cX10_aLine 60 = .ok (.aload_n 0, 1) := by decide +kernel
theorem dX10_aLine_61 : decode cX10_aLine 61 = .ok (.getfield 80, 3) := by decide +kernel
theorem dX10_aLine_64 : decode cX10_aLine 64 = .ok (.aload_n 0, 1) := by decide +kernel
theorem dX10_aLine_65 : decode cX10_aLine 65 = .ok (.getfield 232, 3) := by decide +kernel
theorem dX10_aLine_68 : decode cX10_aLine 68 = .ok (.aload_n 0, 1) := by decide +kernel
theorem dX10_aLine_69 : decode cX10_aLine 69 = .ok (.getfield 202, 3) := by decide +kernel
theorem dX10_aLine_72 : decode cX10_aLine 72 = .ok (.iastore, 1) := by decide +kernel
theorem dX10_aLine_73 : decode cX10_aLine 73 = .ok (.aload_n 0, 1) := by decide +kernel
theorem dX10_aLine_74 : decode cX10_aLine 74 = .ok (.dup, 1) := by decide +kernel
theorem dX10_aLine_75 : decode cX10_aLine 75 = .ok (.getfield 232, 3) := by decide +kernel
theorem dX10_aLine_78 : decode cX10_aLine 78 = .ok (.iconst 1, 1) := by decide +kernel
theorem dX10_aLine_79 : decode cX10_aLine 79 = .ok (.iadd, 1) := by decide +kernel
theorem dX10_aLine_80 : decode cX10_aLine 80 = .ok (.putfield 232, 3) := by decide +kernel
theorem dX10_aLine_83 : decode cX10_aLine 83 = .ok (.aload_n 0, 1) := by decide +kernel
theorem dX10_aLine_84 : decode cX10_aLine 84 = .ok (.iconst 4, 1) := by decide +kernel
theorem dX10_aLine_85 : decode cX10_aLine 85 = .ok (.invokevirtual 226, 3) := by decide +kernel
theorem dX10_aLine_88 : decode cX10_aLine 88 = .ok (.ifCond .eq 10, 3) := by decide +kernel
theorem dX10_aLine_91 : decode cX10_aLine 91 = .ok (.aload_n 0, 1) := by decide +kernel
theorem dX10_aLine_92 : decode cX10_aLine 92 = .ok (.invokevirtual 235, 3) := by decide +kernel
theorem dX10_aLine_95 : decode cX10_aLine 95 = .ok (.ifCond .ne 5, 3) := by decide +kernel
theorem dX10_aLine_98 : decode cX10_aLine 98 = .ok (.iconst 0, 1) := by decide +kernel
theorem dX10_aLine_99 : decode cX10_aLine 99 = .ok (.ireturn, 1) := by decide +kernel
theorem dX10_aLine_100 : decode cX10_aLine 100 = .ok (.aload_n 0, 1) := by decide +kernel
theorem dX10_aLine_101 : decode cX10_aLine 101 = .ok (.getfield 174, 3) := by decide +kernel
theorem dX10_aLine_104 : decode cX10_aLine 104 = .ok (.iconst 5, 1) := by decide +kernel
theorem dX10_aLine_105 : decode cX10_aLine 105 = .ok (.if_icmp .ne 25, 3) := by decide +kernel
theorem dX10_aLine_108 : decode cX10_aLine 108 = .ok (.aload_n 0, 1) := by decide +kernel
theorem dX10_aLine_109 : decode cX10_aLine 109 = .ok (.invokevirtual 199, 3) := by decide +kernel
theorem dX10_aLine_112 : decode cX10_aLine 112 = .ok (.aload_n 0, 1) := by decide +kernel
theorem dX10_aLine_113 : decode cX10_aLine 113 = .ok (.invokevirtual 235, 3) := by decide +kernel
theorem dX10_aLine_116 : decode cX10_aLine 116 = .ok (.ifCond .ne 5, 3) := by decide +kernel
theorem dX10_aLine_119 : decode cX10_aLine 119 = .ok (.iconst 0, 1) := by decide +kernel
theorem dX10_aLine_120 : decode cX10_aLine 120 = .ok (.ireturn, 1) := by decide +kernel
theorem dX10_aLine_121 : decode cX10_aLine 121 = .ok (.aload_n 0, 1) := by decide +kernel
theorem dX10_aLine_122 : decode cX10_aLine 122 = .ok (.ldc 238, 2) := by decide +kernel
theorem dX10_aLine_124 : decode cX10_aLine 124 = .ok (.invokevirtual 211, 3) := by decide +kernel
theorem dX10_aLine_127 : decode cX10_aLine 127 = .ok (.goto (-27), 3) := by decide +kernel
theorem dX10_aLine_130 : decode cX10_aLine 130 = .ok (.aload_n 0, 1) := by decide +kernel
theorem dX10_aLine_131 : decode cX10_aLine 131 = .ok (.bipush 59, 2) := by decide +kernel
theorem dX10_aLine_133 : decode cX10_aLine 133 = .ok (.invokevirtual 226, 3) := by decide +kernel
theorem dX10_aLine_136 : decode cX10_aLine 136 = .ok (.ireturn, 1) := by decide +kernel
theorem dX10_rule_0 : decode cX10_rule 0 = .ok (.aload_n 0, 1) := by decide +kernel
theorem dX10_rule_1 : decode cX10_rule 1 = .ok (.iconst 0, 1) := by decide +kernel
theorem dX10_rule_2 : decode cX10_rule 2 = .ok (.putfield 190, 3) := by decide +kernel
theorem dX10_rule_5 : decode cX10_rule 5 = .ok (.aload_n 0, 1) := by decide +kernel
theorem dX10_rule_6 : decode cX10_rule 6 = .ok (.iconst 0, 1) := by decide +kernel
theorem dX10_rule_7 : decode cX10_rule 7 = .ok (.putfield 164, 3) := by decide +kernel
theorem dX10_rule_10 : decode cX10_rule 10 = .ok (.aload_n 0, 1) := by decide +kernel
theorem dX10_rule_11 : decode cX10_rule 11 = .ok (.iconst 0, 1) := by decide +kernel
theorem dX10_rule_12 : decode cX10_rule 12 = .ok (.putfield 232, 3) := by decide +kernel
theorem dX10_rule_15 : decode cX10_rule 15 = .ok (.aload_n 0, 1) := by decide +kernel
theorem dX10_rule_16 : decode cX10_rule 16 = .ok (.iconst 0, 1) := by decide +kernel
theorem dX10_rule_17 : decode cX10_rule 17 = .ok (.putfield 202, 3) := by decide +kernel
theorem dX10_rule_20 : decode cX10_rule 20 = .ok (.aload_n 0, 1) := by decide +kernel
theorem dX10_rule_21 : decode cX10_rule 21 = .ok (.invokevirtual 199, 3) := by decide +kernel
theorem dX10_rule_24 : decode cX10_rule 24 = .ok (.iconst 1, 1) := by decide +kernel
theorem dX10_rule_25 : decode cX10_rule 25 = .ok (.istore_n 1, 1) := by decide +kernel
theorem dX10_rule_26 : decode cX10_rule 26 = .ok (.iload_n 1, 1) := by decide +kernel
theorem dX10_rule_27 : decode cX10_rule 27 = .ok (.ifCond .eq 18, 3) := by decide +kernel
theorem dX10_rule_30 : decode cX10_rule 30 = .ok (.aload_n 0, 1) := by decide +kernel
theorem dX10_rule_31 : decode cX10_rule 31 = .ok (.getfield 174, 3) := by decide +kernel
theorem dX10_rule_34 : decode cX10_rule 34 = .ok (.ifCond .eq 11, 3) := by decide +kernel
theorem dX10_rule_37 : decode cX10_rule 37 = .ok (.aload_n 0, 1) := by decide +kernel
theorem dX10_rule_38 : decode cX10_rule 38 = .ok (.invokevirtual 239, 3) := by decide +kernel
theorem dX10_rule_41 : decode cX10_rule 41 = .ok (.istore_n 1, 1) := by decide +kernel
theorem dX10_rule_42 : decode cX10_rule 42 = .ok (.goto (-16), 3) := by decide +kernel
theorem dX10_rule_45 : decode cX10_rule 45 = .ok (.aload_n 0, 1) := by decide +kernel
theorem dX10_rule_46 : decode cX10_rule 46 = .ok (.iconst 0, 1) := by decide +kernel
theorem dX10_rule_47 : decode cX10_rule 47 = .ok (.putfield 143, 3) := by decide +kernel
theorem dX10_rule_50 : decode cX10_rule 50 = .ok (.aload_n 0, 1) := by decide +kernel
theorem dX10_rule_51 : decode cX10_rule 51 = .ok (.aload_n 0, 1) := by decide +kernel
theorem dX10_rule_52 : decode cX10_rule 52 = .ok (.getfield 190, 3) := by decide +kernel
theorem dX10_rule_55 : decode cX10_rule 55 = .ok (.putfield 242, 3) := by decide +kernel
theorem dX10_rule_58 : decode cX10_rule 58 = .ok (.aload_n 0, 1) := by decide +kernel
theorem dX10_rule_59 : decode cX10_rule 59 = .ok (.iload_n 1, 1) := by decide +kernel
theorem dX10_rule_60 : decode cX10_rule 60 = .ok (.ifCond .eq 7, 3) := by decide +kernel
theorem dX10_rule_63 : decode cX10_rule 63 = .ok (.iconst (-1), 1) := by decide +kernel
theorem dX10_rule_64 : decode cX10_rule 64 = .ok (.goto 7, 3) := by decide +kernel
theorem dX10_rule_67 : decode cX10_rule 67 = .ok (.aload_n 0, 1) := by decide +kernel
theorem dX10_rule_68 : decode cX10_rule 68 = .ok (.getfield 193, 3) := by decide +kernel
theorem dX10_rule_71 : decode cX10_rule 71 = .ok (.putfield 92, 3) := by decide +kernel
theorem dX10_rule_74 : decode cX10_rule 74 = .ok (.iload_n 1, 1) := by decide +kernel
theorem dX10_rule_75 : decode cX10_rule 75 = .ok (.ifCond .ne 5, 3) := by decide +kernel
theorem dX10_rule_78 : decode cX10_rule 78 = .ok (.iconst (-1), 1) := by decide +kernel
theorem dX10_rule_79 : decode cX10_rule 79 = .ok (.ireturn, 1) := by decide +kernel
theorem dX10_rule_80 : decode cX10_rule 80 = .ok (.aload_n 0, 1) := by decide +kernel
theorem dX10_rule_81 : decode cX10_rule 81 = .ok (.aload_n 0, 1) := by decide +kernel
theorem dX10_rule_82 : decode cX10_rule 82 = .ok (.getfield 232, 3) := by decide +kernel
theorem dX10_rule_85 : decode cX10_rule 85 = .ok (.putfield 137, 3) := by decide +kernel
theorem dX10_rule_88 : decode cX10_rule 88 = .ok (.iconst 0, 1) := by decide +kernel
theorem dX10_rule_89 : decode cX10_rule 89 = .ok (.istore_n 2, 1) := by decide +kernel
theorem dX10_rule_90 : decode cX10_rule 90 = .ok (.iload_n 2, 1) := by decide +kernel
theorem dX10_rule_91 : decode cX10_rule 91 = .ok (.aload_n 0, 1) := by decide +kernel
theorem dX10_rule_92 : decode cX10_rule 92 = .ok (.getfield 137, 3) := by decide +kernel
theorem dX10_rule_95 : decode cX10_rule 95 = .ok (.if_icmp .ge 33, 3) := by decide +kernel
theorem dX10_rule_98 : decode cX10_rule 98 = .ok (.aload_n 0, 1) := by decide +kernel
theorem dX10_rule_99 : decode cX10_rule 99 = .ok (.getfield 68, 3) := by decide +kernel
theorem dX10_rule_102 : decode cX10_rule 102 = .ok (.iload_n 2, 1) := by decide +kernel
theorem dX10_rule_103 : decode cX10_rule 103 = .ok (.aload_n 0, 1) := by decide +kernel
theorem dX10_rule_104 : decode cX10_rule 104 = .ok (.getfield 77, 3) := by decide +kernel
theorem dX10_rule_107 : decode cX10_rule 107 = .ok (.iload_n 2, 1) := by decide +kernel
theorem dX10_rule_108 : decode cX10_rule 108 = .ok (.iaload, 1) := by decide +kernel
theorem dX10_rule_109 : decode cX10_rule 109 = .ok (.iastore, 1) := by decide +kernel
theorem dX10_rule_110 : decode cX10_rule 110 = .ok (.aload_n 0, 1) := by decide +kernel
theorem dX10_rule_111 : decode cX10_rule 111 = .ok (.getfield 71, 3) := by decide +kernel
theorem dX10_rule_114 : decode cX10_rule 114 = .ok (.iload_n 2, 1) := by decide +kernel
theorem dX10_rule_115 : decode cX10_rule 115 = .ok (.aload_n 0, 1) := by decide +kernel
theorem dX10_rule_116 : decode cX10_rule 116 = .ok (.getfield 80, 3) := by decide +kernel
theorem dX10_rule_119 : decode cX10_rule 119 = .ok (.iload_n 2, 1) := by decide +kernel
theorem dX10_rule_120 : decode cX10_rule 120 = .ok (.iaload, 1) := by decide +kernel
theorem dX10_rule_121 : decode cX10_rule 121 = .ok (.iastore, 1) := by decide +kernel
theorem dX10_rule_122 : decode cX10_rule 122 = .ok (.iinc 2 1, 3) := by decide +kernel
theorem dX10_rule_125 : decode cX10_rule 125 = .ok (.goto (-35), 3) := by decide +kernel
theorem dX10_rule_128 : decode cX10_rule 128 = .ok (.aload_n 0, 1) := by decide +kernel
theorem dX10_rule_129 : decode cX10_rule 129 = .ok (.getfield 68, 3) := by decide +kernel
theorem dX10_rule_132 : decode cX10_rule 132 = .ok (.aload_n 0, 1) := by decide +kernel
theorem dX10_rule_133 : decode cX10_rule 133 = .ok (.getfield 137, 3) := by decide +kernel
theorem dX10_rule_136 : decode cX10_rule 136 = .ok (.aload_n 0, 1) := by decide +kernel
theorem dX10_rule_137 : decode cX10_rule 137 = .ok (.getfield 202, 3) := by decide +kernel
theorem dX10_rule_140 : decode cX10_rule 140 = .ok (.iastore, 1) := by decide +kernel
theorem dX10_rule_141 : decode cX10_rule 141 = .ok (.iconst 0, 1) := by decide +kernel
theorem dX10_rule_142 : decode cX10_rule 142 = .ok (.istore_n 2, 1) := by decide +kernel
theorem dX10_rule_143 : decode cX10_rule 143 = .ok (.iload_n 2, 1) := by decide +kernel
theorem dX10_rule_144 : decode cX10_rule 144 = .ok (.aload_n 0, 1) := by decide +kernel
theorem dX10_rule_145 : decode cX10_rule 145 = .ok (.getfield 202, 3) := by decide +kernel
theorem dX10_rule_148 : decode cX10_rule 148 = .ok (.if_icmp .ge 21, 3) := by decide +kernel
theorem dX10_rule_151 : decode cX10_rule 151 = .ok (.aload_n 0, 1) := by decide +kernel
theorem dX10_rule_152 : decode cX10_rule 152 = .ok (.getfield 74, 3) := by decide +kernel
theorem dX10_rule_155 : decode cX10_rule 155 = .ok (.iload_n 2, 1) := by decide +kernel
theorem dX10_rule_156 : decode cX10_rule 156 = .ok (.aload_n 0, 1) := by decide +kernel
theorem dX10_rule_157 : decode cX10_rule 157 = .ok (.getfield 83, 3) := by decide +kernel
theorem dX10_rule_160 : decode cX10_rule 160 = .ok (.iload_n 2, 1) := by decide +kernel
theorem dX10_rule_161 : decode cX10_rule 161 = .ok (.iaload, 1) := by decide +kernel
theorem dX10_rule_162 : decode cX10_rule 162 = .ok (.iastore, 1) := by decide +kernel
theorem dX10_rule_163 : decode cX10_rule 163 = .ok (.iinc 2 1, 3) := by decide +kernel
theorem dX10_rule_166 : decode cX10_rule 166 = .ok (.goto (-23), 3) := by decide +kernel
theorem dX10_rule_169 : decode cX10_rule 169 = .ok (.aload_n 0, 1) := by decide +kernel
theorem dX10_rule_170 : decode cX10_rule 170 = .ok (.getfield 137, 3) := by decide +kernel
theorem dX10_rule_173 : decode cX10_rule 173 = .ok (.ireturn, 1) := by decide +kernel
theorem dX10_fault_0 : decode cX10_fault 0 = .ok (.iload_n 1, 1) := by decide +kernel
theorem dX10_fault_1 : decode cX10_fault 1 = .ok (.ifCond .ne 10, 3) := by decide +kernel
theorem dX10_fault_4 : decode cX10_fault 4 = .ok (.aload_n 0, 1) := by decide +kernel
theorem dX10_fault_5 : decode cX10_fault 5 = .ok (.getfield 242, 3) := by decide +kernel
theorem dX10_fault_8 : decode cX10_fault 8 = .ok (.goto 16, 3) := by decide +kernel
theorem dX10_fault_11 : decode cX10_fault 11 = .ok (.iload_n 1, 1) := by decide +kernel
theorem dX10_fault_12 : decode cX10_fault 12 = .ok (.iconst 1, 1) := by decide +kernel
theorem dX10_fault_13 : decode cX10_fault 13 = .ok (.if_icmp .ne 10, 3) := by decide +kernel
theorem dX10_fault_16 : decode cX10_fault 16 = .ok (.aload_n 0, 1) := by decide +kernel
theorem dX10_fault_17 : decode cX10_fault 17 = .ok (.getfield 92, 3) := by decide +kernel
theorem dX10_fault_20 : decode cX10_fault 20 = .ok (.goto 4, 3) := by decide +kernel
theorem dX10_fault_23 : decode cX10_fault 23 = .ok (.iconst (-1), 1) := by decide +kernel
theorem dX10_fault_24 : decode cX10_fault 24 = .ok (.ireturn, 1) := by decide +kernel
theorem dX10_isOf_0 : decode cX10_isOf 0 = .ok (.iload_n 0, 1) := by decide +kernel
theorem dX10_isOf_1 : decode cX10_isOf 1 = .ok (.iconst (-1), 1) := by decide +kernel
theorem dX10_isOf_2 : decode cX10_isOf 2 = .ok (.if_icmp .eq 15, 3) := by decide +kernel
theorem dX10_isOf_5 : decode cX10_isOf 5 = .ok (.iload_n 0, 1) := by decide +kernel
theorem dX10_isOf_6 : decode cX10_isOf 6 = .ok (.bipush 28, 2) := by decide +kernel
theorem dX10_isOf_8 : decode cX10_isOf 8 = .ok (.idiv, 1) := by decide +kernel
theorem dX10_isOf_9 : decode cX10_isOf 9 = .ok (.iload_n 1, 1) := by decide +kernel
theorem dX10_isOf_10 : decode cX10_isOf 10 = .ok (.if_icmp .ne 7, 3) := by decide +kernel
theorem dX10_isOf_13 : decode cX10_isOf 13 = .ok (.iconst 1, 1) := by decide +kernel
theorem dX10_isOf_14 : decode cX10_isOf 14 = .ok (.goto 4, 3) := by decide +kernel
theorem dX10_isOf_17 : decode cX10_isOf 17 = .ok (.iconst 0, 1) := by decide +kernel
theorem dX10_isOf_18 : decode cX10_isOf 18 = .ok (.ireturn, 1) := by decide +kernel
theorem dX10_takes_0 : decode cX10_takes 0 = .ok (.aload_n 0, 1) := by decide +kernel
theorem dX10_takes_1 : decode cX10_takes 1 = .ok (.iconst 0, 1) := by decide +kernel
theorem dX10_takes_2 : decode cX10_takes 2 = .ok (.putfield 245, 3) := by decide +kernel
theorem dX10_takes_5 : decode cX10_takes 5 = .ok (.aload_n 0, 1) := by decide +kernel
theorem dX10_takes_6 : decode cX10_takes 6 = .ok (.iconst 0, 1) := by decide +kernel
theorem dX10_takes_7 : decode cX10_takes 7 = .ok (.putfield 248, 3) := by decide +kernel
theorem dX10_takes_10 : decode cX10_takes 10 = .ok (.aload_n 0, 1) := by decide +kernel
theorem dX10_takes_11 : decode cX10_takes 11 = .ok (.iconst 0, 1) := by decide +kernel
theorem dX10_takes_12 : decode cX10_takes 12 = .ok (.putfield 251, 3) := by decide +kernel
theorem dX10_takes_15 : decode cX10_takes 15 = .ok (.aload_n 0, 1) := by decide +kernel
theorem dX10_takes_16 : decode cX10_takes 16 = .ok (.iload_n 2, 1) := by decide +kernel
theorem dX10_takes_17 : decode cX10_takes 17 = .ok (.putfield 254, 3) := by decide +kernel
theorem dX10_takes_20 : decode cX10_takes 20 = .ok (.iconst 0, 1) := by decide +kernel
theorem dX10_takes_21 : decode cX10_takes 21 = .ok (.istore_n 3, 1) := by decide +kernel
theorem dX10_takes_22 : decode cX10_takes 22 = .ok (.iload_n 3, 1) := by decide +kernel
theorem dX10_takes_23 : decode cX10_takes 23 = .ok (.aload_n 0, 1) := by decide +kernel
theorem dX10_takes_24 : decode cX10_takes 24 = .ok (.getfield 125, 3) := by decide +kernel
theorem dX10_takes_27 : decode cX10_takes 27 = .ok (.if_icmp .ge 113, 3) := by decide +kernel
theorem dX10_takes_30 : decode cX10_takes 30 = .ok (.aload_n 0, 1) := by decide +kernel
theorem dX10_takes_31 : decode cX10_takes 31 = .ok (.getfield 28, 3) := by decide +kernel
theorem dX10_takes_34 : decode cX10_takes 34 = .ok (.iload_n 3, 1) := by decide +kernel
theorem dX10_takes_35 : decode cX10_takes 35 = .ok (.iaload, 1) := by decide +kernel
theorem dX10_takes_36 : decode cX10_takes 36 = .ok (.iload_n 1, 1) := by decide +kernel
theorem dX10_takes_37 : decode cX10_takes 37 = .ok (.if_icmp .ne 97, 3) := by decide +kernel
theorem dX10_takes_40 : decode cX10_takes 40 = .ok (.aload_n 0, 1) := by decide +kernel
theorem dX10_takes_41 : decode cX10_takes 41 = .ok (.getfield 49, 3) := by decide +kernel
theorem dX10_takes_44 : decode cX10_takes 44 = .ok (.iload_n 3, 1) := by decide +kernel
theorem dX10_takes_45 : decode cX10_takes 45 = .ok (.iaload, 1) := by decide +kernel
theorem dX10_takes_46 : decode cX10_takes 46 = .ok (.iconst (-1), 1) := by decide +kernel
theorem dX10_takes_47 : decode cX10_takes 47 = .ok (.if_icmp .ne 6, 3) := by decide +kernel
theorem dX10_takes_50 : decode cX10_takes 50 = .ok (.goto 84, 3) := by decide +kernel
theorem dX10_takes_53 : decode cX10_takes 53 = .ok (.aload_n 0, 1) := by decide +kernel
theorem dX10_takes_54 : decode cX10_takes 54 = .ok (.getfield 49, 3) := by decide +kernel
theorem dX10_takes_57 : decode cX10_takes 57 = .ok (.iload_n 3, 1) := by decide +kernel
theorem dX10_takes_58 : decode cX10_takes 58 = .ok (.iaload, 1) := by decide +kernel
theorem dX10_takes_59 : decode cX10_takes 59 = .ok (.iload_n 2, 1) := by decide +kernel
theorem dX10_takes_60 : decode cX10_takes 60 = .ok (.invokestatic 257, 3) := by decide +kernel
theorem dX10_takes_63 : decode cX10_takes 63 = .ok (.ifCond .eq 28, 3) := by decide +kernel
theorem dX10_takes_66 : decode cX10_takes 66 = .ok (.aload_n 0, 1) := by decide +kernel
theorem dX10_takes_67 : decode cX10_takes 67 = .ok (.dup, 1) := by decide +kernel
theorem dX10_takes_68 : decode cX10_takes 68 = .ok (.getfield 245, 3) := by decide +kernel
theorem dX10_takes_71 : decode cX10_takes 71 = .ok (.aload_n 0, 1) := by decide +kernel
theorem dX10_takes_72 : decode cX10_takes 72 = .ok (.getfield 58, 3) := by decide +kernel
theorem dX10_takes_75 : decode cX10_takes 75 = .ok (.iload_n 3, 1) := by decide +kernel
theorem dX10_takes_76 : decode cX10_takes 76 = .ok (.iaload, 1) := by decide +kernel
theorem dX10_takes_77 : decode cX10_takes 77 = .ok (.iadd, 1) := by decide +kernel
theorem dX10_takes_78 : decode cX10_takes 78 = .ok (.putfield 245, 3) := by decide +kernel
theorem dX10_takes_81 : decode cX10_takes 81 = .ok (.aload_n 0, 1) := by decide +kernel
theorem dX10_takes_82 : decode cX10_takes 82 = .ok (.dup, 1) := by decide +kernel
theorem dX10_takes_83 : decode cX10_takes 83 = .ok (.getfield 248, 3) := by decide +kernel
theorem dX10_takes_86 : decode cX10_takes 86 = .ok (.iconst 1, 1) := by decide +kernel
theorem dX10_takes_87 : decode cX10_takes 87 = .ok (.iadd, 1) := by decide +kernel
theorem dX10_takes_88 : decode cX10_takes 88 = .ok (.putfield 248, 3) := by decide +kernel
theorem dX10_takes_91 : decode cX10_takes 91 = .ok (.aload_n 0, 1) := by decide +kernel
theorem dX10_takes_92 : decode cX10_takes 92 = .ok (.getfield 52, 3) := by decide +kernel
theorem dX10_takes_95 : decode cX10_takes 95 = .ok (.iload_n 3, 1) := by decide +kernel
theorem dX10_takes_96 : decode cX10_takes 96 = .ok (.iaload, 1) := by decide +kernel
theorem dX10_takes_97 : decode cX10_takes 97 = .ok (.iload_n 2, 1) := by decide +kernel
theorem dX10_takes_98 : decode cX10_takes 98 = .ok (.invokestatic 257, 3) := by decide +kernel
theorem dX10_takes_101 : decode cX10_takes 101 = .ok (.ifCond .eq 33, 3) := by decide +kernel
theorem dX10_takes_104 : decode cX10_takes 104 = .ok (.aload_n 0, 1) := by decide +kernel
theorem dX10_takes_105 : decode cX10_takes 105 = .ok (.dup, 1) := by decide +kernel
theorem dX10_takes_106 : decode cX10_takes 106 = .ok (.getfield 245, 3) := by decide +kernel
theorem dX10_takes_109 : decode cX10_takes 109 = .ok (.aload_n 0, 1) := by decide +kernel
theorem dX10_takes_110 : decode cX10_takes 110 = .ok (.getfield 58, 3) := by decide +kernel
theorem dX10_takes_113 : decode cX10_takes 113 = .ok (.iload_n 3, 1) := by decide +kernel
theorem dX10_takes_114 : decode cX10_takes 114 = .ok (.iaload, 1) := by decide +kernel
theorem dX10_takes_115 : decode cX10_takes 115 = .ok (.isub, 1) := by decide +kernel
theorem dX10_takes_116 : decode cX10_takes 116 = .ok (.putfield 245, 3) := by decide +kernel
theorem dX10_takes_119 : decode cX10_takes 119 = .ok (.aload_n 0, 1) := by decide +kernel
theorem dX10_takes_120 : decode cX10_takes 120 = .ok (.dup, 1) := by decide +kernel
theorem dX10_takes_121 : decode cX10_takes 121 = .ok (.getfield 251, 3) := by decide +kernel
theorem dX10_takes_124 : decode cX10_takes 124 = .ok (.aload_n 0, 1) := by decide +kernel
theorem dX10_takes_125 : decode cX10_takes 125 = .ok (.getfield 58, 3) := by decide +kernel
theorem dX10_takes_128 : decode cX10_takes 128 = .ok (.iload_n 3, 1) := by decide +kernel
theorem dX10_takes_129 : decode cX10_takes 129 = .ok (.iaload, 1) := by decide +kernel
theorem dX10_takes_130 : decode cX10_takes 130 = .ok (.iadd, 1) := by decide +kernel
theorem dX10_takes_131 : decode cX10_takes 131 = .ok (.putfield 251, 3) := by decide +kernel
theorem dX10_takes_134 : decode cX10_takes 134 = .ok (.iinc 3 1, 3) := by decide +kernel
theorem dX10_takes_137 : decode cX10_takes 137 = .ok (.goto (-115), 3) := by decide +kernel
theorem dX10_takes_140 : decode cX10_takes 140 = .ok (.return_, 1) := by decide +kernel
theorem dX10_worked_0 : decode cX10_worked 0 = .ok (.iconst 0, 1) := by decide +kernel
theorem dX10_worked_1 : decode cX10_worked 1 = .ok (.istore_n 3, 1) := by decide +kernel
theorem dX10_worked_2 : decode cX10_worked 2 = .ok (.iload_n 1, 1) := by decide +kernel
theorem dX10_worked_3 : decode cX10_worked 3 = .ok (.istore 4, 2) := by decide +kernel
theorem dX10_worked_5 : decode cX10_worked 5 = .ok (.iload 4, 2) := by decide +kernel
theorem dX10_worked_7 : decode cX10_worked 7 = .ok (.iload_n 2, 1) := by decide +kernel
theorem dX10_worked_8 : decode cX10_worked 8 = .ok (.if_icmp .ge 125, 3) := by decide +kernel
theorem dX10_worked_11 : decode cX10_worked 11 = .ok (.aload_n 0, 1) := by decide +kernel
theorem dX10_worked_12 : decode cX10_worked 12 = .ok (.getfield 74, 3) := by decide +kernel
theorem dX10_worked_15 : decode cX10_worked 15 = .ok (.iload 4, 2) := by decide +kernel
theorem dX10_worked_17 : decode cX10_worked 17 = .ok (.iaload, 1) := by decide +kernel
theorem dX10_worked_18 : decode cX10_worked 18 = .ok (.istore 5, 2) := by decide +kernel
theorem dX10_worked_20 : decode cX10_worked 20 = .ok (.iload 5, 2) := by decide +kernel
theorem dX10_worked_22 : decode cX10_worked 22 = .ok (.ldc 209, 2) := by decide +kernel
theorem dX10_worked_24 : decode cX10_worked 24 = .ok (.if_icmp .ge 73, 3) := by decide +kernel
theorem dX10_worked_27 : decode cX10_worked 27 = .ok (.aload_n 0, 1) := by decide +kernel
theorem dX10_worked_28 : decode cX10_worked 28 = .ok (.getfield 86, 3) := by decide +kernel
theorem dX10_worked_31 : decode cX10_worked 31 = .ok (.iload_n 3, 1) := by decide +kernel
theorem dX10_worked_32 : decode cX10_worked 32 = .ok (.iload 5, 2) := by decide +kernel
theorem dX10_worked_34 : decode cX10_worked 34 = .ok (.ldc 154, 2) := by decide +kernel
theorem dX10_worked_36 : decode cX10_worked 36 = .ok (.if_icmp .ne 10, 3) := by decide +kernel
theorem dX10_worked_39 : decode cX10_worked 39 = .ok (.aload_n 0, 1) := by decide +kernel
theorem dX10_worked_40 : decode cX10_worked 40 = .ok (.getfield 245, 3) := by decide +kernel
theorem dX10_worked_43 : decode cX10_worked 43 = .ok (.goto 47, 3) := by decide +kernel
theorem dX10_worked_46 : decode cX10_worked 46 = .ok (.iload 5, 2) := by decide +kernel
theorem dX10_worked_48 : decode cX10_worked 48 = .ok (.ldc 157, 2) := by decide +kernel
theorem dX10_worked_50 : decode cX10_worked 50 = .ok (.if_icmp .ne 10, 3) := by decide +kernel
theorem dX10_worked_53 : decode cX10_worked 53 = .ok (.aload_n 0, 1) := by decide +kernel
theorem dX10_worked_54 : decode cX10_worked 54 = .ok (.getfield 248, 3) := by decide +kernel
theorem dX10_worked_57 : decode cX10_worked 57 = .ok (.goto 33, 3) := by decide +kernel
theorem dX10_worked_60 : decode cX10_worked 60 = .ok (.iload 5, 2) := by decide +kernel
theorem dX10_worked_62 : decode cX10_worked 62 = .ok (.ldc 160, 2) := by decide +kernel
theorem dX10_worked_64 : decode cX10_worked 64 = .ok (.if_icmp .ne 10, 3) := by decide +kernel
theorem dX10_worked_67 : decode cX10_worked 67 = .ok (.aload_n 0, 1) := by decide +kernel
theorem dX10_worked_68 : decode cX10_worked 68 = .ok (.getfield 251, 3) := by decide +kernel
theorem dX10_worked_71 : decode cX10_worked 71 = .ok (.goto 19, 3) := by decide +kernel
theorem dX10_worked_74 : decode cX10_worked 74 = .ok (.iload 5, 2) := by decide +kernel
theorem dX10_worked_76 : decode cX10_worked 76 = .ok (.ldc 163, 2) := by decide +kernel
theorem dX10_worked_78 : decode cX10_worked 78 = .ok (.if_icmp .ne 10, 3) := by decide +kernel
theorem dX10_worked_81 : decode cX10_worked 81 = .ok (.aload_n 0, 1) := by decide +kernel
theorem dX10_worked_82 : decode cX10_worked 82 = .ok (.getfield 254, 3) := by decide +kernel
theorem dX10_worked_85 : decode cX10_worked 85 = .ok (.goto 5, 3) := by decide +kernel
theorem dX10_worked_88 : decode cX10_worked 88 = .ok (.iload 5, 2) := by decide +kernel
theorem dX10_worked_90 : decode cX10_worked 90 = .ok (.iastore, 1) := by decide +kernel
theorem dX10_worked_91 : decode cX10_worked 91 = .ok (.iinc 3 1, 3) := by decide +kernel
theorem dX10_worked_94 : decode cX10_worked 94 = .ok (.goto 33, 3) := by decide +kernel
theorem dX10_worked_97 : decode cX10_worked 97 = .ok (.iinc 3 (-1), 3) := by decide +kernel
theorem dX10_worked_100 : decode cX10_worked 100 = .ok (.aload_n 0, 1) := by decide +kernel
theorem dX10_worked_101 : decode cX10_worked 101 = .ok (.getfield 86, 3) := by decide +kernel
theorem dX10_worked_104 : decode cX10_worked 104 = .ok (.iload_n 3, 1) := by decide +kernel
theorem dX10_worked_105 : decode cX10_worked 105 = .ok (.iconst 1, 1) := by decide +kernel
theorem dX10_worked_106 : decode cX10_worked 106 = .ok (.isub, 1) := by decide +kernel
theorem dX10_worked_107 : decode cX10_worked 107 = .ok (.iload 5, 2) := by decide +kernel
theorem dX10_worked_109 : decode cX10_worked 109 = .ok (.aload_n 0, 1) := by decide +kernel
theorem dX10_worked_110 : decode cX10_worked 110 = .ok (.getfield 86, 3) := by decide +kernel
theorem dX10_worked_113 : decode cX10_worked 113 = .ok (.iload_n 3, 1) := by decide +kernel
theorem dX10_worked_114 : decode cX10_worked 114 = .ok (.iconst 1, 1) := by decide +kernel
theorem dX10_worked_115 : decode cX10_worked 115 = .ok (.isub, 1) := by decide +kernel
theorem dX10_worked_116 : decode cX10_worked 116 = .ok (.iaload, 1) := by decide +kernel
theorem dX10_worked_117 : decode cX10_worked 117 = .ok (.aload_n 0, 1) := by decide +kernel
theorem dX10_worked_118 : decode cX10_worked 118 = .ok (.getfield 86, 3) := by decide +kernel
theorem dX10_worked_121 : decode cX10_worked 121 = .ok (.iload_n 3, 1) := by decide +kernel
theorem dX10_worked_122 : decode cX10_worked 122 = .ok (.iaload, 1) := by decide +kernel
theorem dX10_worked_123 : decode cX10_worked 123 = .ok (.invokestatic 261, 3) := by decide +kernel
theorem dX10_worked_126 : decode cX10_worked 126 = .ok (.iastore, 1) := by decide +kernel
theorem dX10_worked_127 : decode cX10_worked 127 = .ok (.iinc 4 1, 3) := by decide +kernel
theorem dX10_worked_130 : decode cX10_worked 130 = .ok (.goto (-125), 3) := by decide +kernel
theorem dX10_worked_133 : decode cX10_worked 133 = .ok (.aload_n 0, 1) := by decide +kernel
theorem dX10_worked_134 : decode cX10_worked 134 = .ok (.getfield 86, 3) := by decide +kernel
theorem dX10_worked_137 : decode cX10_worked 137 = .ok (.iconst 0, 1) := by decide +kernel
theorem dX10_worked_138 : decode cX10_worked 138 = .ok (.iaload, 1) := by decide +kernel
theorem dX10_worked_139 : decode cX10_worked 139 = .ok (.ireturn, 1) := by decide +kernel
theorem dX10_both_0 : decode cX10_both 0 = .ok (.iload_n 0, 1) := by decide +kernel
theorem dX10_both_1 : decode cX10_both 1 = .ok (.tableswitch 92 1000010 1000016 #[43, 47, 51, 55, 59, 70, 81], 43) := by decide +kernel
theorem dX10_both_44 : decode cX10_both 44 = .ok (.iload_n 1, 1) := by decide +kernel
theorem dX10_both_45 : decode cX10_both 45 = .ok (.iload_n 2, 1) := by decide +kernel
theorem dX10_both_46 : decode cX10_both 46 = .ok (.iadd, 1) := by decide +kernel
theorem dX10_both_47 : decode cX10_both 47 = .ok (.ireturn, 1) := by decide +kernel
theorem dX10_both_48 : decode cX10_both 48 = .ok (.iload_n 1, 1) := by decide +kernel
theorem dX10_both_49 : decode cX10_both 49 = .ok (.iload_n 2, 1) := by decide +kernel
theorem dX10_both_50 : decode cX10_both 50 = .ok (.isub, 1) := by decide +kernel
theorem dX10_both_51 : decode cX10_both 51 = .ok (.ireturn, 1) := by decide +kernel
theorem dX10_both_52 : decode cX10_both 52 = .ok (.iload_n 1, 1) := by decide +kernel
theorem dX10_both_53 : decode cX10_both 53 = .ok (.iload_n 2, 1) := by decide +kernel
theorem dX10_both_54 : decode cX10_both 54 = .ok (.imul, 1) := by decide +kernel
theorem dX10_both_55 : decode cX10_both 55 = .ok (.ireturn, 1) := by decide +kernel
theorem dX10_both_56 : decode cX10_both 56 = .ok (.iload_n 1, 1) := by decide +kernel
theorem dX10_both_57 : decode cX10_both 57 = .ok (.iload_n 2, 1) := by decide +kernel
theorem dX10_both_58 : decode cX10_both 58 = .ok (.idiv, 1) := by decide +kernel
theorem dX10_both_59 : decode cX10_both 59 = .ok (.ireturn, 1) := by decide +kernel
theorem dX10_both_60 : decode cX10_both 60 = .ok (.iload_n 1, 1) := by decide +kernel
theorem dX10_both_61 : decode cX10_both 61 = .ok (.iload_n 2, 1) := by decide +kernel
theorem dX10_both_62 : decode cX10_both 62 = .ok (.if_icmp .ge 7, 3) := by decide +kernel
theorem dX10_both_65 : decode cX10_both 65 = .ok (.iconst 1, 1) := by decide +kernel
theorem dX10_both_66 : decode cX10_both 66 = .ok (.goto 4, 3) := by decide +kernel
theorem dX10_both_69 : decode cX10_both 69 = .ok (.iconst 0, 1) := by decide +kernel
theorem dX10_both_70 : decode cX10_both 70 = .ok (.ireturn, 1) := by decide +kernel
theorem dX10_both_71 : decode cX10_both 71 = .ok (.iload_n 1, 1) := by decide +kernel
theorem dX10_both_72 : decode cX10_both 72 = .ok (.iload_n 2, 1) := by decide +kernel
theorem dX10_both_73 : decode cX10_both 73 = .ok (.if_icmp .ne 7, 3) := by decide +kernel
theorem dX10_both_76 : decode cX10_both 76 = .ok (.iconst 1, 1) := by decide +kernel
theorem dX10_both_77 : decode cX10_both 77 = .ok (.goto 4, 3) := by decide +kernel
theorem dX10_both_80 : decode cX10_both 80 = .ok (.iconst 0, 1) := by decide +kernel
theorem dX10_both_81 : decode cX10_both 81 = .ok (.ireturn, 1) := by decide +kernel
theorem dX10_both_82 : decode cX10_both 82 = .ok (.iload_n 1, 1) := by decide +kernel
theorem dX10_both_83 : decode cX10_both 83 = .ok (.iload_n 2, 1) := by decide +kernel
theorem dX10_both_84 : decode cX10_both 84 = .ok (.if_icmp .le 7, 3) := by decide +kernel
theorem dX10_both_87 : decode cX10_both 87 = .ok (.iconst 1, 1) := by decide +kernel
theorem dX10_both_88 : decode cX10_both 88 = .ok (.goto 4, 3) := by decide +kernel
theorem dX10_both_91 : decode cX10_both 91 = .ok (.iconst 0, 1) := by decide +kernel
theorem dX10_both_92 : decode cX10_both 92 = .ok (.ireturn, 1) := by decide +kernel
theorem dX10_both_93 : decode cX10_both 93 = .ok (.iload_n 1, 1) := by decide +kernel
theorem dX10_both_94 : decode cX10_both 94 = .ok (.iload_n 2, 1) := by decide +kernel
theorem dX10_both_95 : decode cX10_both 95 = .ok (.iand, 1) := by decide +kernel
theorem dX10_both_96 : decode cX10_both 96 = .ok (.ireturn, 1) := by decide +kernel
theorem dX10_isMonth_0 : decode cX10_isMonth 0 = .ok (.iload_n 0, 1) := by decide +kernel
theorem dX10_isMonth_1 : decode cX10_isMonth 1 = .ok (.iconst 0, 1) := by decide +kernel
theorem dX10_isMonth_2 : decode cX10_isMonth 2 = .ok (.bipush 12, 2) := by decide +kernel
theorem dX10_isMonth_4 : decode cX10_isMonth 4 = .ok (.invokestatic 111, 3) := by decide +kernel
theorem dX10_isMonth_7 : decode cX10_isMonth 7 = .ok (.ireturn, 1) := by decide +kernel
theorem dX10_pay_0 : decode cX10_pay 0 = .ok (.iload_n 1, 1) := by decide +kernel
theorem dX10_pay_1 : decode cX10_pay 1 = .ok (.iconst 0, 1) := by decide +kernel
theorem dX10_pay_2 : decode cX10_pay 2 = .ok (.bipush 7, 2) := by decide +kernel
theorem dX10_pay_4 : decode cX10_pay 4 = .ok (.invokestatic 111, 3) := by decide +kernel
theorem dX10_pay_7 : decode cX10_pay 7 = .ok (.ifCond .eq 19, 3) := by decide +kernel
theorem dX10_pay_10 : decode cX10_pay 10 = .ok (.iload_n 2, 1) := by decide +kernel
theorem dX10_pay_11 : decode cX10_pay 11 = .ok (.invokestatic 265, 3) := by decide +kernel
theorem dX10_pay_14 : decode cX10_pay 14 = .ok (.ifCond .eq 12, 3) := by decide +kernel
theorem dX10_pay_17 : decode cX10_pay 17 = .ok (.iload_n 3, 1) := by decide +kernel
theorem dX10_pay_18 : decode cX10_pay 18 = .ok (.iconst 0, 1) := by decide +kernel
theorem dX10_pay_19 : decode cX10_pay 19 = .ok (.iconst 4, 1) := by decide +kernel
theorem dX10_pay_20 : decode cX10_pay 20 = .ok (.invokestatic 111, 3) := by decide +kernel
theorem dX10_pay_23 : decode cX10_pay 23 = .ok (.ifCond .ne 7, 3) := by decide +kernel
theorem dX10_pay_26 : decode cX10_pay 26 = .ok (.ldc_w 268, 3) := by decide +kernel
theorem dX10_pay_29 : decode cX10_pay 29 = .ok (.ireturn, 1) := by decide +kernel
theorem dX10_pay_30 : decode cX10_pay 30 = .ok (.aload_n 0, 1) := by decide +kernel
theorem dX10_pay_31 : decode cX10_pay 31 = .ok (.iload_n 1, 1) := by decide +kernel
theorem dX10_pay_32 : decode cX10_pay 32 = .ok (.iload_n 2, 1) := by decide +kernel
theorem dX10_pay_33 : decode cX10_pay 33 = .ok (.invokevirtual 269, 3) := by decide +kernel
theorem dX10_pay_36 : decode cX10_pay 36 = .ok (.iload_n 3, 1) := by decide +kernel
theorem dX10_pay_37 : decode cX10_pay 37 = .ok (.iconst 3, 1) := by decide +kernel
theorem dX10_pay_38 : decode cX10_pay 38 = .ok (.if_icmp .ge 31, 3) := by decide +kernel
theorem dX10_pay_41 : decode cX10_pay 41 = .ok (.iload_n 3, 1) := by decide +kernel
theorem dX10_pay_42 : decode cX10_pay 42 = .ok (.ifCond .ne 10, 3) := by decide +kernel
theorem dX10_pay_45 : decode cX10_pay 45 = .ok (.aload_n 0, 1) := by decide +kernel
theorem dX10_pay_46 : decode cX10_pay 46 = .ok (.getfield 245, 3) := by decide +kernel
theorem dX10_pay_49 : decode cX10_pay 49 = .ok (.goto 19, 3) := by decide +kernel
theorem dX10_pay_52 : decode cX10_pay 52 = .ok (.iload_n 3, 1) := by decide +kernel
theorem dX10_pay_53 : decode cX10_pay 53 = .ok (.iconst 1, 1) := by decide +kernel
theorem dX10_pay_54 : decode cX10_pay 54 = .ok (.if_icmp .ne 10, 3) := by decide +kernel
theorem dX10_pay_57 : decode cX10_pay 57 = .ok (.aload_n 0, 1) := by decide +kernel
theorem dX10_pay_58 : decode cX10_pay 58 = .ok (.getfield 248, 3) := by decide +kernel
theorem dX10_pay_61 : decode cX10_pay 61 = .ok (.goto 7, 3) := by decide +kernel
theorem dX10_pay_64 : decode cX10_pay 64 = .ok (.aload_n 0, 1) := by decide +kernel
theorem dX10_pay_65 : decode cX10_pay 65 = .ok (.getfield 251, 3) := by decide +kernel
theorem dX10_pay_68 : decode cX10_pay 68 = .ok (.ireturn, 1) := by decide +kernel
theorem dX10_pay_69 : decode cX10_pay 69 = .ok (.iconst 0, 1) := by decide +kernel
theorem dX10_pay_70 : decode cX10_pay 70 = .ok (.istore 4, 2) := by decide +kernel
theorem dX10_pay_72 : decode cX10_pay 72 = .ok (.iload 4, 2) := by decide +kernel
theorem dX10_pay_74 : decode cX10_pay 74 = .ok (.aload_n 0, 1) := by decide +kernel
theorem dX10_pay_75 : decode cX10_pay 75 = .ok (.getfield 137, 3) := by decide +kernel
theorem dX10_pay_78 : decode cX10_pay 78 = .ok (.if_icmp .ge 62, 3) := by decide +kernel
theorem dX10_pay_81 : decode cX10_pay 81 = .ok (.aload_n 0, 1) := by decide +kernel
theorem dX10_pay_82 : decode cX10_pay 82 = .ok (.aload_n 0, 1) := by decide +kernel
theorem dX10_pay_83 : decode cX10_pay 83 = .ok (.getfield 71, 3) := by decide +kernel
theorem dX10_pay_86 : decode cX10_pay 86 = .ok (.iload 4, 2) := by decide +kernel
theorem dX10_pay_88 : decode cX10_pay 88 = .ok (.iaload, 1) := by decide +kernel
theorem dX10_pay_89 : decode cX10_pay 89 = .ok (.aload_n 0, 1) := by decide +kernel
theorem dX10_pay_90 : decode cX10_pay 90 = .ok (.getfield 68, 3) := by decide +kernel
theorem dX10_pay_93 : decode cX10_pay 93 = .ok (.iload 4, 2) := by decide +kernel
theorem dX10_pay_95 : decode cX10_pay 95 = .ok (.iconst 1, 1) := by decide +kernel
theorem dX10_pay_96 : decode cX10_pay 96 = .ok (.iadd, 1) := by decide +kernel
theorem dX10_pay_97 : decode cX10_pay 97 = .ok (.iaload, 1) := by decide +kernel
theorem dX10_pay_98 : decode cX10_pay 98 = .ok (.invokevirtual 273, 3) := by decide +kernel
theorem dX10_pay_101 : decode cX10_pay 101 = .ok (.iconst 1, 1) := by decide +kernel
theorem dX10_pay_102 : decode cX10_pay 102 = .ok (.if_icmp .ne 32, 3) := by decide +kernel
theorem dX10_pay_105 : decode cX10_pay 105 = .ok (.iload_n 3, 1) := by decide +kernel
theorem dX10_pay_106 : decode cX10_pay 106 = .ok (.iconst 4, 1) := by decide +kernel
theorem dX10_pay_107 : decode cX10_pay 107 = .ok (.if_icmp .ne 8, 3) := by decide +kernel
theorem dX10_pay_110 : decode cX10_pay 110 = .ok (.iload 4, 2) := by decide +kernel
theorem dX10_pay_112 : decode cX10_pay 112 = .ok (.goto 21, 3) := by decide +kernel
theorem dX10_pay_115 : decode cX10_pay 115 = .ok (.aload_n 0, 1) := by decide +kernel
theorem dX10_pay_116 : decode cX10_pay 116 = .ok (.aload_n 0, 1) := by decide +kernel
theorem dX10_pay_117 : decode cX10_pay 117 = .ok (.getfield 68, 3) := by decide +kernel
theorem dX10_pay_120 : decode cX10_pay 120 = .ok (.iload 4, 2) := by decide +kernel
theorem dX10_pay_122 : decode cX10_pay 122 = .ok (.iaload, 1) := by decide +kernel
theorem dX10_pay_123 : decode cX10_pay 123 = .ok (.aload_n 0, 1) := by decide +kernel
theorem dX10_pay_124 : decode cX10_pay 124 = .ok (.getfield 71, 3) := by decide +kernel
theorem dX10_pay_127 : decode cX10_pay 127 = .ok (.iload 4, 2) := by decide +kernel
theorem dX10_pay_129 : decode cX10_pay 129 = .ok (.iaload, 1) := by decide +kernel
theorem dX10_pay_130 : decode cX10_pay 130 = .ok (.invokevirtual 273, 3) := by decide +kernel
theorem dX10_pay_133 : decode cX10_pay 133 = .ok (.ireturn, 1) := by decide +kernel
theorem dX10_pay_134 : decode cX10_pay 134 = .ok (.iinc 4 1, 3) := by decide +kernel
theorem dX10_pay_137 : decode cX10_pay 137 = .ok (.goto (-65), 3) := by decide +kernel
theorem dX10_pay_140 : decode cX10_pay 140 = .ok (.iload_n 3, 1) := by decide +kernel
theorem dX10_pay_141 : decode cX10_pay 141 = .ok (.iconst 4, 1) := by decide +kernel
theorem dX10_pay_142 : decode cX10_pay 142 = .ok (.if_icmp .ne 7, 3) := by decide +kernel
theorem dX10_pay_145 : decode cX10_pay 145 = .ok (.iconst (-1), 1) := by decide +kernel
theorem dX10_pay_146 : decode cX10_pay 146 = .ok (.goto 4, 3) := by decide +kernel
theorem dX10_pay_149 : decode cX10_pay 149 = .ok (.iconst 0, 1) := by decide +kernel
theorem dX10_pay_150 : decode cX10_pay 150 = .ok (.ireturn, 1) := by decide +kernel
theorem dX10_statement_0 : decode cX10_statement 0 = .ok (.iload_n 1, 1) := by decide +kernel
theorem dX10_statement_1 : decode cX10_statement 1 = .ok (.iconst 0, 1) := by decide +kernel
theorem dX10_statement_2 : decode cX10_statement 2 = .ok (.bipush 9, 2) := by decide +kernel
theorem dX10_statement_4 : decode cX10_statement 4 = .ok (.invokestatic 111, 3) := by decide +kernel
theorem dX10_statement_7 : decode cX10_statement 7 = .ok (.ifCond .eq 22, 3) := by decide +kernel
theorem dX10_statement_10 : decode cX10_statement 10 = .ok (.iload_n 2, 1) := by decide +kernel
theorem dX10_statement_11 : decode cX10_statement 11 = .ok (.invokestatic 265, 3) := by decide +kernel
theorem dX10_statement_14 : decode cX10_statement 14 = .ok (.ifCond .eq 15, 3) := by decide +kernel
theorem dX10_statement_17 : decode cX10_statement 17 = .ok (.iload_n 3, 1) := by decide +kernel
theorem dX10_statement_18 : decode cX10_statement 18 = .ok (.iconst 0, 1) := by decide +kernel
theorem dX10_statement_19 : decode cX10_statement 19 = .ok (.aload_n 0, 1) := by decide +kernel
theorem dX10_statement_20 : decode cX10_statement 20 = .ok (.getfield 119, 3) := by decide +kernel
theorem dX10_statement_23 : decode cX10_statement 23 = .ok (.invokestatic 111, 3) := by decide +kernel
theorem dX10_statement_26 : decode cX10_statement 26 = .ok (.ifCond .ne 7, 3) := by decide +kernel
theorem dX10_statement_29 : decode cX10_statement 29 = .ok (.ldc_w 268, 3) := by decide +kernel
theorem dX10_statement_32 : decode cX10_statement 32 = .ok (.ireturn, 1) := by decide +kernel
theorem dX10_statement_33 : decode cX10_statement 33 = .ok (.iconst 0, 1) := by decide +kernel
theorem dX10_statement_34 : decode cX10_statement 34 = .ok (.istore 4, 2) := by decide +kernel
theorem dX10_statement_36 : decode cX10_statement 36 = .ok (.iconst 0, 1) := by decide +kernel
theorem dX10_statement_37 : decode cX10_statement 37 = .ok (.istore 5, 2) := by decide +kernel
theorem dX10_statement_39 : decode cX10_statement 39 = .ok (.iload 5, 2) := by decide +kernel
theorem dX10_statement_41 : decode cX10_statement 41 = .ok (.aload_n 0, 1) := by decide +kernel
theorem dX10_statement_42 : decode cX10_statement 42 = .ok (.getfield 125, 3) := by decide +kernel
theorem dX10_statement_45 : decode cX10_statement 45 = .ok (.if_icmp .ge 119, 3) := by decide +kernel
theorem dX10_statement_48 : decode cX10_statement 48 = .ok (.aload_n 0, 1) := by decide +kernel
theorem dX10_statement_49 : decode cX10_statement 49 = .ok (.getfield 31, 3) := by decide +kernel
theorem dX10_statement_52 : decode cX10_statement 52 = .ok (.iload 5, 2) := by decide +kernel
theorem dX10_statement_54 : decode cX10_statement 54 = .ok (.iaload, 1) := by decide +kernel
theorem dX10_statement_55 : decode cX10_statement 55 = .ok (.iload_n 1, 1) := by decide +kernel
theorem dX10_statement_56 : decode cX10_statement 56 = .ok (.if_icmp .ne 102, 3) := by decide +kernel
theorem dX10_statement_59 : decode cX10_statement 59 = .ok (.aload_n 0, 1) := by decide +kernel
theorem dX10_statement_60 : decode cX10_statement 60 = .ok (.getfield 46, 3) := by decide +kernel
theorem dX10_statement_63 : decode cX10_statement 63 = .ok (.iload 5, 2) := by decide +kernel
theorem dX10_statement_65 : decode cX10_statement 65 = .ok (.iaload, 1) := by decide +kernel
theorem dX10_statement_66 : decode cX10_statement 66 = .ok (.iload_n 3, 1) := by decide +kernel
theorem dX10_statement_67 : decode cX10_statement 67 = .ok (.if_icmp .gt 91, 3) := by decide +kernel
theorem dX10_statement_70 : decode cX10_statement 70 = .ok (.aload_n 0, 1) := by decide +kernel
theorem dX10_statement_71 : decode cX10_statement 71 = .ok (.getfield 49, 3) := by decide +kernel
theorem dX10_statement_74 : decode cX10_statement 74 = .ok (.iload 5, 2) := by decide +kernel
theorem dX10_statement_76 : decode cX10_statement 76 = .ok (.iaload, 1) := by decide +kernel
theorem dX10_statement_77 : decode cX10_statement 77 = .ok (.iconst (-1), 1) := by decide +kernel
theorem dX10_statement_78 : decode cX10_statement 78 = .ok (.if_icmp .ne 6, 3) := by decide +kernel
theorem dX10_statement_81 : decode cX10_statement 81 = .ok (.goto 77, 3) := by decide +kernel
theorem dX10_statement_84 : decode cX10_statement 84 = .ok (.aload_n 0, 1) := by decide +kernel
theorem dX10_statement_85 : decode cX10_statement 85 = .ok (.getfield 49, 3) := by decide +kernel
theorem dX10_statement_88 : decode cX10_statement 88 = .ok (.iload 5, 2) := by decide +kernel
theorem dX10_statement_90 : decode cX10_statement 90 = .ok (.iaload, 1) := by decide +kernel
theorem dX10_statement_91 : decode cX10_statement 91 = .ok (.iload_n 2, 1) := by decide +kernel
theorem dX10_statement_92 : decode cX10_statement 92 = .ok (.invokestatic 257, 3) := by decide +kernel
theorem dX10_statement_95 : decode cX10_statement 95 = .ok (.ifCond .eq 26, 3) := by decide +kernel
theorem dX10_statement_98 : decode cX10_statement 98 = .ok (.aload_n 0, 1) := by decide +kernel
theorem dX10_statement_99 : decode cX10_statement 99 = .ok (.getfield 49, 3) := by decide +kernel
theorem dX10_statement_102 : decode cX10_statement 102 = .ok (.iload 5, 2) := by decide +kernel
theorem dX10_statement_104 : decode cX10_statement 104 = .ok (.iaload, 1) := by decide +kernel
theorem dX10_statement_105 : decode cX10_statement 105 = .ok (.iload_n 3, 1) := by decide +kernel
theorem dX10_statement_106 : decode cX10_statement 106 = .ok (.if_icmp .gt 15, 3) := by decide +kernel
theorem dX10_statement_109 : decode cX10_statement 109 = .ok (.iload 4, 2) := by decide +kernel
theorem dX10_statement_111 : decode cX10_statement 111 = .ok (.aload_n 0, 1) := by decide +kernel
theorem dX10_statement_112 : decode cX10_statement 112 = .ok (.getfield 58, 3) := by decide +kernel
theorem dX10_statement_115 : decode cX10_statement 115 = .ok (.iload 5, 2) := by decide +kernel
theorem dX10_statement_117 : decode cX10_statement 117 = .ok (.iaload, 1) := by decide +kernel
theorem dX10_statement_118 : decode cX10_statement 118 = .ok (.iadd, 1) := by decide +kernel
theorem dX10_statement_119 : decode cX10_statement 119 = .ok (.istore 4, 2) := by decide +kernel
theorem dX10_statement_121 : decode cX10_statement 121 = .ok (.aload_n 0, 1) := by decide +kernel
theorem dX10_statement_122 : decode cX10_statement 122 = .ok (.getfield 52, 3) := by decide +kernel
theorem dX10_statement_125 : decode cX10_statement 125 = .ok (.iload 5, 2) := by decide +kernel
theorem dX10_statement_127 : decode cX10_statement 127 = .ok (.iaload, 1) := by decide +kernel
theorem dX10_statement_128 : decode cX10_statement 128 = .ok (.iload_n 2, 1) := by decide +kernel
theorem dX10_statement_129 : decode cX10_statement 129 = .ok (.invokestatic 257, 3) := by decide +kernel
theorem dX10_statement_132 : decode cX10_statement 132 = .ok (.ifCond .eq 26, 3) := by decide +kernel
theorem dX10_statement_135 : decode cX10_statement 135 = .ok (.aload_n 0, 1) := by decide +kernel
theorem dX10_statement_136 : decode cX10_statement 136 = .ok (.getfield 52, 3) := by decide +kernel
theorem dX10_statement_139 : decode cX10_statement 139 = .ok (.iload 5, 2) := by decide +kernel
theorem dX10_statement_141 : decode cX10_statement 141 = .ok (.iaload, 1) := by decide +kernel
theorem dX10_statement_142 : decode cX10_statement 142 = .ok (.iload_n 3, 1) := by decide +kernel
theorem dX10_statement_143 : decode cX10_statement 143 = .ok (.if_icmp .gt 15, 3) := by decide +kernel
theorem dX10_statement_146 : decode cX10_statement 146 = .ok (.iload 4, 2) := by decide +kernel
theorem dX10_statement_148 : decode cX10_statement 148 = .ok (.aload_n 0, 1) := by decide +kernel
theorem dX10_statement_149 : decode cX10_statement 149 = .ok (.getfield 58, 3) := by decide +kernel
theorem dX10_statement_152 : decode cX10_statement 152 = .ok (.iload 5, 2) := by decide +kernel
theorem dX10_statement_154 : decode cX10_statement 154 = .ok (.iaload, 1) := by decide +kernel
theorem dX10_statement_155 : decode cX10_statement 155 = .ok (.isub, 1) := by decide +kernel
theorem dX10_statement_156 : decode cX10_statement 156 = .ok (.istore 4, 2) := by decide +kernel
theorem dX10_statement_158 : decode cX10_statement 158 = .ok (.iinc 5 1, 3) := by decide +kernel
theorem dX10_statement_161 : decode cX10_statement 161 = .ok (.goto (-122), 3) := by decide +kernel
theorem dX10_statement_164 : decode cX10_statement 164 = .ok (.iload 4, 2) := by decide +kernel
theorem dX10_statement_166 : decode cX10_statement 166 = .ok (.ireturn, 1) := by decide +kernel
theorem dX10_count_0 : decode cX10_count 0 = .ok (.aload_n 0, 1) := by decide +kernel
theorem dX10_count_1 : decode cX10_count 1 = .ok (.iload_n 1, 1) := by decide +kernel
theorem dX10_count_2 : decode cX10_count 2 = .ok (.invokevirtual 122, 3) := by decide +kernel
theorem dX10_count_5 : decode cX10_count 5 = .ok (.ifCond .eq 14, 3) := by decide +kernel
theorem dX10_count_8 : decode cX10_count 8 = .ok (.iload_n 2, 1) := by decide +kernel
theorem dX10_count_9 : decode cX10_count 9 = .ok (.iconst 0, 1) := by decide +kernel
theorem dX10_count_10 : decode cX10_count 10 = .ok (.sipush 9999, 3) := by decide +kernel
theorem dX10_count_13 : decode cX10_count 13 = .ok (.invokestatic 111, 3) := by decide +kernel
theorem dX10_count_16 : decode cX10_count 16 = .ok (.ifCond .ne 7, 3) := by decide +kernel
theorem dX10_count_19 : decode cX10_count 19 = .ok (.ldc_w 268, 3) := by decide +kernel
theorem dX10_count_22 : decode cX10_count 22 = .ok (.ireturn, 1) := by decide +kernel
theorem dX10_count_23 : decode cX10_count 23 = .ok (.aload_n 0, 1) := by decide +kernel
theorem dX10_count_24 : decode cX10_count 24 = .ok (.getfield 13, 3) := by decide +kernel
theorem dX10_count_27 : decode cX10_count 27 = .ok (.iload_n 1, 1) := by decide +kernel
theorem dX10_count_28 : decode cX10_count 28 = .ok (.iaload, 1) := by decide +kernel
theorem dX10_count_29 : decode cX10_count 29 = .ok (.iload_n 2, 1) := by decide +kernel
theorem dX10_count_30 : decode cX10_count 30 = .ok (.isub, 1) := by decide +kernel
theorem dX10_count_31 : decode cX10_count 31 = .ok (.istore_n 3, 1) := by decide +kernel
theorem dX10_count_32 : decode cX10_count 32 = .ok (.aload_n 0, 1) := by decide +kernel
theorem dX10_count_33 : decode cX10_count 33 = .ok (.getfield 13, 3) := by decide +kernel
theorem dX10_count_36 : decode cX10_count 36 = .ok (.iload_n 1, 1) := by decide +kernel
theorem dX10_count_37 : decode cX10_count 37 = .ok (.iload_n 2, 1) := by decide +kernel
theorem dX10_count_38 : decode cX10_count 38 = .ok (.iastore, 1) := by decide +kernel
theorem dX10_count_39 : decode cX10_count 39 = .ok (.aload_n 0, 1) := by decide +kernel
theorem dX10_count_40 : decode cX10_count 40 = .ok (.getfield 19, 3) := by decide +kernel
theorem dX10_count_43 : decode cX10_count 43 = .ok (.iload_n 1, 1) := by decide +kernel
theorem dX10_count_44 : decode cX10_count 44 = .ok (.dup2, 1) := by decide +kernel
theorem dX10_count_45 : decode cX10_count 45 = .ok (.iaload, 1) := by decide +kernel
theorem dX10_count_46 : decode cX10_count 46 = .ok (.iload_n 3, 1) := by decide +kernel
theorem dX10_count_47 : decode cX10_count 47 = .ok (.aload_n 0, 1) := by decide +kernel
theorem dX10_count_48 : decode cX10_count 48 = .ok (.getfield 7, 3) := by decide +kernel
theorem dX10_count_51 : decode cX10_count 51 = .ok (.sipush 364, 3) := by decide +kernel
theorem dX10_count_54 : decode cX10_count 54 = .ok (.iload_n 1, 1) := by decide +kernel
theorem dX10_count_55 : decode cX10_count 55 = .ok (.imul, 1) := by decide +kernel
theorem dX10_count_56 : decode cX10_count 56 = .ok (.aload_n 0, 1) := by decide +kernel
theorem dX10_count_57 : decode cX10_count 57 = .ok (.getfield 119, 3) := by decide +kernel
theorem dX10_count_60 : decode cX10_count 60 = .ok (.iadd, 1) := by decide +kernel
theorem dX10_count_61 : decode cX10_count 61 = .ok (.iaload, 1) := by decide +kernel
theorem dX10_count_62 : decode cX10_count 62 = .ok (.imul, 1) := by decide +kernel
theorem dX10_count_63 : decode cX10_count 63 = .ok (.iadd, 1) := by decide +kernel
theorem dX10_count_64 : decode cX10_count 64 = .ok (.iastore, 1) := by decide +kernel
theorem dX10_count_65 : decode cX10_count 65 = .ok (.iload_n 3, 1) := by decide +kernel
theorem dX10_count_66 : decode cX10_count 66 = .ok (.ireturn, 1) := by decide +kernel
theorem dX10_level_0 : decode cX10_level 0 = .ok (.iload_n 1, 1) := by decide +kernel
theorem dX10_level_1 : decode cX10_level 1 = .ok (.iconst 0, 1) := by decide +kernel
theorem dX10_level_2 : decode cX10_level 2 = .ok (.iconst 3, 1) := by decide +kernel
theorem dX10_level_3 : decode cX10_level 3 = .ok (.invokestatic 111, 3) := by decide +kernel
theorem dX10_level_6 : decode cX10_level 6 = .ok (.ifCond .eq 24, 3) := by decide +kernel
theorem dX10_level_9 : decode cX10_level 9 = .ok (.iload_n 2, 1) := by decide +kernel
theorem dX10_level_10 : decode cX10_level 10 = .ok (.iconst 0, 1) := by decide +kernel
theorem dX10_level_11 : decode cX10_level 11 = .ok (.sipush 999, 3) := by decide +kernel
theorem dX10_level_14 : decode cX10_level 14 = .ok (.invokestatic 111, 3) := by decide +kernel
theorem dX10_level_17 : decode cX10_level 17 = .ok (.ifCond .eq 13, 3) := by decide +kernel
theorem dX10_level_20 : decode cX10_level 20 = .ok (.iload_n 3, 1) := by decide +kernel
theorem dX10_level_21 : decode cX10_level 21 = .ok (.iconst 0, 1) := by decide +kernel
theorem dX10_level_22 : decode cX10_level 22 = .ok (.bipush 99, 2) := by decide +kernel
theorem dX10_level_24 : decode cX10_level 24 = .ok (.invokestatic 111, 3) := by decide +kernel
theorem dX10_level_27 : decode cX10_level 27 = .ok (.ifCond .ne 5, 3) := by decide +kernel
theorem dX10_level_30 : decode cX10_level 30 = .ok (.iconst 0, 1) := by decide +kernel
theorem dX10_level_31 : decode cX10_level 31 = .ok (.ireturn, 1) := by decide +kernel
theorem dX10_level_32 : decode cX10_level 32 = .ok (.aload_n 0, 1) := by decide +kernel
theorem dX10_level_33 : decode cX10_level 33 = .ok (.getfield 96, 3) := by decide +kernel
theorem dX10_level_36 : decode cX10_level 36 = .ok (.iload_n 1, 1) := by decide +kernel
theorem dX10_level_37 : decode cX10_level 37 = .ok (.iload_n 2, 1) := by decide +kernel
theorem dX10_level_38 : decode cX10_level 38 = .ok (.iastore, 1) := by decide +kernel
theorem dX10_level_39 : decode cX10_level 39 = .ok (.aload_n 0, 1) := by decide +kernel
theorem dX10_level_40 : decode cX10_level 40 = .ok (.getfield 99, 3) := by decide +kernel
theorem dX10_level_43 : decode cX10_level 43 = .ok (.iload_n 1, 1) := by decide +kernel
theorem dX10_level_44 : decode cX10_level 44 = .ok (.iload_n 3, 1) := by decide +kernel
theorem dX10_level_45 : decode cX10_level 45 = .ok (.iastore, 1) := by decide +kernel
theorem dX10_level_46 : decode cX10_level 46 = .ok (.iconst 1, 1) := by decide +kernel
theorem dX10_level_47 : decode cX10_level 47 = .ok (.ireturn, 1) := by decide +kernel
theorem dX10_tries_0 : decode cX10_tries 0 = .ok (.iload_n 2, 1) := by decide +kernel
theorem dX10_tries_1 : decode cX10_tries 1 = .ok (.istore_n 3, 1) := by decide +kernel
theorem dX10_tries_2 : decode cX10_tries 2 = .ok (.iconst 0, 1) := by decide +kernel
theorem dX10_tries_3 : decode cX10_tries 3 = .ok (.istore 4, 2) := by decide +kernel
theorem dX10_tries_5 : decode cX10_tries 5 = .ok (.iconst 0, 1) := by decide +kernel
theorem dX10_tries_6 : decode cX10_tries 6 = .ok (.istore 5, 2) := by decide +kernel
theorem dX10_tries_8 : decode cX10_tries 8 = .ok (.iload 5, 2) := by decide +kernel
theorem dX10_tries_10 : decode cX10_tries 10 = .ok (.iload_n 1, 1) := by decide +kernel
theorem dX10_tries_11 : decode cX10_tries 11 = .ok (.if_icmp .ge 68, 3) := by decide +kernel
theorem dX10_tries_14 : decode cX10_tries 14 = .ok (.aload_n 0, 1) := by decide +kernel
theorem dX10_tries_15 : decode cX10_tries 15 = .ok (.getfield 99, 3) := by decide +kernel
theorem dX10_tries_18 : decode cX10_tries 18 = .ok (.aload_n 0, 1) := by decide +kernel
theorem dX10_tries_19 : decode cX10_tries 19 = .ok (.getfield 102, 3) := by decide +kernel
theorem dX10_tries_22 : decode cX10_tries 22 = .ok (.iload 5, 2) := by decide +kernel
theorem dX10_tries_24 : decode cX10_tries 24 = .ok (.iaload, 1) := by decide +kernel
theorem dX10_tries_25 : decode cX10_tries 25 = .ok (.iaload, 1) := by decide +kernel
theorem dX10_tries_26 : decode cX10_tries 26 = .ok (.iload_n 3, 1) := by decide +kernel
theorem dX10_tries_27 : decode cX10_tries 27 = .ok (.if_icmp .ge 18, 3) := by decide +kernel
theorem dX10_tries_30 : decode cX10_tries 30 = .ok (.aload_n 0, 1) := by decide +kernel
theorem dX10_tries_31 : decode cX10_tries 31 = .ok (.getfield 99, 3) := by decide +kernel
theorem dX10_tries_34 : decode cX10_tries 34 = .ok (.aload_n 0, 1) := by decide +kernel
theorem dX10_tries_35 : decode cX10_tries 35 = .ok (.getfield 102, 3) := by decide +kernel
theorem dX10_tries_38 : decode cX10_tries 38 = .ok (.iload 5, 2) := by decide +kernel
theorem dX10_tries_40 : decode cX10_tries 40 = .ok (.iaload, 1) := by decide +kernel
theorem dX10_tries_41 : decode cX10_tries 41 = .ok (.iaload, 1) := by decide +kernel
theorem dX10_tries_42 : decode cX10_tries 42 = .ok (.goto 4, 3) := by decide +kernel
theorem dX10_tries_45 : decode cX10_tries 45 = .ok (.iload_n 3, 1) := by decide +kernel
theorem dX10_tries_46 : decode cX10_tries 46 = .ok (.istore 6, 2) := by decide +kernel
theorem dX10_tries_48 : decode cX10_tries 48 = .ok (.iload_n 3, 1) := by decide +kernel
theorem dX10_tries_49 : decode cX10_tries 49 = .ok (.iload 6, 2) := by decide +kernel
theorem dX10_tries_51 : decode cX10_tries 51 = .ok (.isub, 1) := by decide +kernel
theorem dX10_tries_52 : decode cX10_tries 52 = .ok (.istore_n 3, 1) := by decide +kernel
theorem dX10_tries_53 : decode cX10_tries 53 = .ok (.iload 4, 2) := by decide +kernel
theorem dX10_tries_55 : decode cX10_tries 55 = .ok (.iload 6, 2) := by decide +kernel
theorem dX10_tries_57 : decode cX10_tries 57 = .ok (.aload_n 0, 1) := by decide +kernel
theorem dX10_tries_58 : decode cX10_tries 58 = .ok (.getfield 96, 3) := by decide +kernel
theorem dX10_tries_61 : decode cX10_tries 61 = .ok (.aload_n 0, 1) := by decide +kernel
theorem dX10_tries_62 : decode cX10_tries 62 = .ok (.getfield 102, 3) := by decide +kernel
theorem dX10_tries_65 : decode cX10_tries 65 = .ok (.iload 5, 2) := by decide +kernel
theorem dX10_tries_67 : decode cX10_tries 67 = .ok (.iaload, 1) := by decide +kernel
theorem dX10_tries_68 : decode cX10_tries 68 = .ok (.iaload, 1) := by decide +kernel
theorem dX10_tries_69 : decode cX10_tries 69 = .ok (.imul, 1) := by decide +kernel
theorem dX10_tries_70 : decode cX10_tries 70 = .ok (.iadd, 1) := by decide +kernel
theorem dX10_tries_71 : decode cX10_tries 71 = .ok (.istore 4, 2) := by decide +kernel
theorem dX10_tries_73 : decode cX10_tries 73 = .ok (.iinc 5 1, 3) := by decide +kernel
theorem dX10_tries_76 : decode cX10_tries 76 = .ok (.goto (-68), 3) := by decide +kernel
theorem dX10_tries_79 : decode cX10_tries 79 = .ok (.iload 4, 2) := by decide +kernel
theorem dX10_tries_81 : decode cX10_tries 81 = .ok (.aload_n 0, 1) := by decide +kernel
theorem dX10_tries_82 : decode cX10_tries 82 = .ok (.getfield 277, 3) := by decide +kernel
theorem dX10_tries_85 : decode cX10_tries 85 = .ok (.if_icmp .gt 4, 3) := by decide +kernel
theorem dX10_tries_88 : decode cX10_tries 88 = .ok (.return_, 1) := by decide +kernel
theorem dX10_tries_89 : decode cX10_tries 89 = .ok (.aload_n 0, 1) := by decide +kernel
theorem dX10_tries_90 : decode cX10_tries 90 = .ok (.iload 4, 2) := by decide +kernel
theorem dX10_tries_92 : decode cX10_tries 92 = .ok (.putfield 277, 3) := by decide +kernel
theorem dX10_tries_95 : decode cX10_tries 95 = .ok (.aload_n 0, 1) := by decide +kernel
theorem dX10_tries_96 : decode cX10_tries 96 = .ok (.iload_n 3, 1) := by decide +kernel
theorem dX10_tries_97 : decode cX10_tries 97 = .ok (.putfield 280, 3) := by decide +kernel
theorem dX10_tries_100 : decode cX10_tries 100 = .ok (.iconst 0, 1) := by decide +kernel
theorem dX10_tries_101 : decode cX10_tries 101 = .ok (.istore 5, 2) := by decide +kernel
theorem dX10_tries_103 : decode cX10_tries 103 = .ok (.iload 5, 2) := by decide +kernel
theorem dX10_tries_105 : decode cX10_tries 105 = .ok (.iload_n 1, 1) := by decide +kernel
theorem dX10_tries_106 : decode cX10_tries 106 = .ok (.if_icmp .ge 23, 3) := by decide +kernel
theorem dX10_tries_109 : decode cX10_tries 109 = .ok (.aload_n 0, 1) := by decide +kernel
theorem dX10_tries_110 : decode cX10_tries 110 = .ok (.getfield 105, 3) := by decide +kernel
theorem dX10_tries_113 : decode cX10_tries 113 = .ok (.iload 5, 2) := by decide +kernel
theorem dX10_tries_115 : decode cX10_tries 115 = .ok (.aload_n 0, 1) := by decide +kernel
theorem dX10_tries_116 : decode cX10_tries 116 = .ok (.getfield 102, 3) := by decide +kernel
theorem dX10_tries_119 : decode cX10_tries 119 = .ok (.iload 5, 2) := by decide +kernel
theorem dX10_tries_121 : decode cX10_tries 121 = .ok (.iaload, 1) := by decide +kernel
theorem dX10_tries_122 : decode cX10_tries 122 = .ok (.iastore, 1) := by decide +kernel
theorem dX10_tries_123 : decode cX10_tries 123 = .ok (.iinc 5 1, 3) := by decide +kernel
theorem dX10_tries_126 : decode cX10_tries 126 = .ok (.goto (-23), 3) := by decide +kernel
theorem dX10_tries_129 : decode cX10_tries 129 = .ok (.return_, 1) := by decide +kernel
theorem dX10_nextRow_0 : decode cX10_nextRow 0 = .ok (.iload_n 1, 1) := by decide +kernel
theorem dX10_nextRow_1 : decode cX10_nextRow 1 = .ok (.iconst 1, 1) := by decide +kernel
theorem dX10_nextRow_2 : decode cX10_nextRow 2 = .ok (.isub, 1) := by decide +kernel
theorem dX10_nextRow_3 : decode cX10_nextRow 3 = .ok (.istore_n 2, 1) := by decide +kernel
theorem dX10_nextRow_4 : decode cX10_nextRow 4 = .ok (.iload_n 2, 1) := by decide +kernel
theorem dX10_nextRow_5 : decode cX10_nextRow 5 = .ok (.ifCond .lt 19, 3) := by decide +kernel
theorem dX10_nextRow_8 : decode cX10_nextRow 8 = .ok (.aload_n 0, 1) := by decide +kernel
theorem dX10_nextRow_9 : decode cX10_nextRow 9 = .ok (.getfield 102, 3) := by decide +kernel
theorem dX10_nextRow_12 : decode cX10_nextRow 12 = .ok (.iload_n 2, 1) := by decide +kernel
theorem dX10_nextRow_13 : decode cX10_nextRow 13 = .ok (.iaload, 1) := by decide +kernel
theorem dX10_nextRow_14 : decode cX10_nextRow 14 = .ok (.iconst 3, 1) := by decide +kernel
theorem dX10_nextRow_15 : decode cX10_nextRow 15 = .ok (.if_icmp .ne 9, 3) := by decide +kernel
theorem dX10_nextRow_18 : decode cX10_nextRow 18 = .ok (.iinc 2 (-1), 3) := by decide +kernel
theorem dX10_nextRow_21 : decode cX10_nextRow 21 = .ok (.goto (-17), 3) := by decide +kernel
theorem dX10_nextRow_24 : decode cX10_nextRow 24 = .ok (.iload_n 2, 1) := by decide +kernel
theorem dX10_nextRow_25 : decode cX10_nextRow 25 = .ok (.ifCond .ge 5, 3) := by decide +kernel
theorem dX10_nextRow_28 : decode cX10_nextRow 28 = .ok (.iconst 0, 1) := by decide +kernel
theorem dX10_nextRow_29 : decode cX10_nextRow 29 = .ok (.ireturn, 1) := by decide +kernel
theorem dX10_nextRow_30 : decode cX10_nextRow 30 = .ok (.aload_n 0, 1) := by decide +kernel
theorem dX10_nextRow_31 : decode cX10_nextRow 31 = .ok (.getfield 102, 3) := by decide +kernel
theorem dX10_nextRow_34 : decode cX10_nextRow 34 = .ok (.iload_n 2, 1) := by decide +kernel
theorem dX10_nextRow_35 : decode cX10_nextRow 35 = .ok (.iaload, 1) := by decide +kernel
theorem dX10_nextRow_36 : decode cX10_nextRow 36 = .ok (.iconst 1, 1) := by decide +kernel
theorem dX10_nextRow_37 : decode cX10_nextRow 37 = .ok (.iadd, 1) := by decide +kernel
theorem dX10_nextRow_38 : decode cX10_nextRow 38 = .ok (.istore_n 3, 1) := by decide +kernel
theorem dX10_nextRow_39 : decode cX10_nextRow 39 = .ok (.iload_n 2, 1) := by decide +kernel
theorem dX10_nextRow_40 : decode cX10_nextRow 40 = .ok (.istore 4, 2) := by decide +kernel
theorem dX10_nextRow_42 : decode cX10_nextRow 42 = .ok (.iload 4, 2) := by decide +kernel
theorem dX10_nextRow_44 : decode cX10_nextRow 44 = .ok (.iload_n 1, 1) := by decide +kernel
theorem dX10_nextRow_45 : decode cX10_nextRow 45 = .ok (.if_icmp .ge 17, 3) := by decide +kernel
theorem dX10_nextRow_48 : decode cX10_nextRow 48 = .ok (.aload_n 0, 1) := by decide +kernel
theorem dX10_nextRow_49 : decode cX10_nextRow 49 = .ok (.getfield 102, 3) := by decide +kernel
theorem dX10_nextRow_52 : decode cX10_nextRow 52 = .ok (.iload 4, 2) := by decide +kernel
theorem dX10_nextRow_54 : decode cX10_nextRow 54 = .ok (.iload_n 3, 1) := by decide +kernel
theorem dX10_nextRow_55 : decode cX10_nextRow 55 = .ok (.iastore, 1) := by decide +kernel
theorem dX10_nextRow_56 : decode cX10_nextRow 56 = .ok (.iinc 4 1, 3) := by decide +kernel
theorem dX10_nextRow_59 : decode cX10_nextRow 59 = .ok (.goto (-17), 3) := by decide +kernel
theorem dX10_nextRow_62 : decode cX10_nextRow 62 = .ok (.iconst 1, 1) := by decide +kernel
theorem dX10_nextRow_63 : decode cX10_nextRow 63 = .ok (.ireturn, 1) := by decide +kernel
theorem dX10_best_0 : decode cX10_best 0 = .ok (.iload_n 1, 1) := by decide +kernel
theorem dX10_best_1 : decode cX10_best 1 = .ok (.iconst 0, 1) := by decide +kernel
theorem dX10_best_2 : decode cX10_best 2 = .ok (.sipush 200, 3) := by decide +kernel
theorem dX10_best_5 : decode cX10_best 5 = .ok (.invokestatic 111, 3) := by decide +kernel
theorem dX10_best_8 : decode cX10_best 8 = .ok (.ifCond .eq 22, 3) := by decide +kernel
theorem dX10_best_11 : decode cX10_best 11 = .ok (.iload_n 2, 1) := by decide +kernel
theorem dX10_best_12 : decode cX10_best 12 = .ok (.iconst 0, 1) := by decide +kernel
theorem dX10_best_13 : decode cX10_best 13 = .ok (.bipush 8, 2) := by decide +kernel
theorem dX10_best_15 : decode cX10_best 15 = .ok (.invokestatic 111, 3) := by decide +kernel
theorem dX10_best_18 : decode cX10_best 18 = .ok (.ifCond .eq 12, 3) := by decide +kernel
theorem dX10_best_21 : decode cX10_best 21 = .ok (.iload_n 3, 1) := by decide +kernel
theorem dX10_best_22 : decode cX10_best 22 = .ok (.iconst 0, 1) := by decide +kernel
theorem dX10_best_23 : decode cX10_best 23 = .ok (.iconst 3, 1) := by decide +kernel
theorem dX10_best_24 : decode cX10_best 24 = .ok (.invokestatic 111, 3) := by decide +kernel
theorem dX10_best_27 : decode cX10_best 27 = .ok (.ifCond .ne 5, 3) := by decide +kernel
theorem dX10_best_30 : decode cX10_best 30 = .ok (.iconst (-1), 1) := by decide +kernel
theorem dX10_best_31 : decode cX10_best 31 = .ok (.ireturn, 1) := by decide +kernel
theorem dX10_best_32 : decode cX10_best 32 = .ok (.aload_n 0, 1) := by decide +kernel
theorem dX10_best_33 : decode cX10_best 33 = .ok (.iconst (-1), 1) := by decide +kernel
theorem dX10_best_34 : decode cX10_best 34 = .ok (.putfield 277, 3) := by decide +kernel
theorem dX10_best_37 : decode cX10_best 37 = .ok (.iconst 0, 1) := by decide +kernel
theorem dX10_best_38 : decode cX10_best 38 = .ok (.istore 5, 2) := by decide +kernel
theorem dX10_best_40 : decode cX10_best 40 = .ok (.iload 5, 2) := by decide +kernel
theorem dX10_best_42 : decode cX10_best 42 = .ok (.iload_n 2, 1) := by decide +kernel
theorem dX10_best_43 : decode cX10_best 43 = .ok (.if_icmp .ge 17, 3) := by decide +kernel
theorem dX10_best_46 : decode cX10_best 46 = .ok (.aload_n 0, 1) := by decide +kernel
theorem dX10_best_47 : decode cX10_best 47 = .ok (.getfield 102, 3) := by decide +kernel
theorem dX10_best_50 : decode cX10_best 50 = .ok (.iload 5, 2) := by decide +kernel
theorem dX10_best_52 : decode cX10_best 52 = .ok (.iload_n 3, 1) := by decide +kernel
theorem dX10_best_53 : decode cX10_best 53 = .ok (.iastore, 1) := by decide +kernel
theorem dX10_best_54 : decode cX10_best 54 = .ok (.iinc 5 1, 3) := by decide +kernel
theorem dX10_best_57 : decode cX10_best 57 = .ok (.goto (-17), 3) := by decide +kernel
theorem dX10_best_60 : decode cX10_best 60 = .ok (.iconst 1, 1) := by decide +kernel
theorem dX10_best_61 : decode cX10_best 61 = .ok (.istore 5, 2) := by decide +kernel
theorem dX10_best_63 : decode cX10_best 63 = .ok (.iload 5, 2) := by decide +kernel
theorem dX10_best_65 : decode cX10_best 65 = .ok (.ifCond .eq 19, 3) := by decide +kernel
theorem dX10_best_68 : decode cX10_best 68 = .ok (.aload_n 0, 1) := by decide +kernel
theorem dX10_best_69 : decode cX10_best 69 = .ok (.iload_n 2, 1) := by decide +kernel
theorem dX10_best_70 : decode cX10_best 70 = .ok (.iload_n 1, 1) := by decide +kernel
theorem dX10_best_71 : decode cX10_best 71 = .ok (.invokevirtual 283, 3) := by decide +kernel
theorem dX10_best_74 : decode cX10_best 74 = .ok (.aload_n 0, 1) := by decide +kernel
theorem dX10_best_75 : decode cX10_best 75 = .ok (.iload_n 2, 1) := by decide +kernel
theorem dX10_best_76 : decode cX10_best 76 = .ok (.invokevirtual 286, 3) := by decide +kernel
theorem dX10_best_79 : decode cX10_best 79 = .ok (.istore 5, 2) := by decide +kernel
theorem dX10_best_81 : decode cX10_best 81 = .ok (.goto (-18), 3) := by decide +kernel
theorem dX10_best_84 : decode cX10_best 84 = .ok (.iload 4, 2) := by decide +kernel
theorem dX10_best_86 : decode cX10_best 86 = .ok (.ifCond .ne 10, 3) := by decide +kernel
theorem dX10_best_89 : decode cX10_best 89 = .ok (.aload_n 0, 1) := by decide +kernel
theorem dX10_best_90 : decode cX10_best 90 = .ok (.getfield 277, 3) := by decide +kernel
theorem dX10_best_93 : decode cX10_best 93 = .ok (.goto 44, 3) := by decide +kernel
theorem dX10_best_96 : decode cX10_best 96 = .ok (.iload 4, 2) := by decide +kernel
theorem dX10_best_98 : decode cX10_best 98 = .ok (.iconst 1, 1) := by decide +kernel
theorem dX10_best_99 : decode cX10_best 99 = .ok (.if_icmp .ne 10, 3) := by decide +kernel
theorem dX10_best_102 : decode cX10_best 102 = .ok (.aload_n 0, 1) := by decide +kernel
theorem dX10_best_103 : decode cX10_best 103 = .ok (.getfield 280, 3) := by decide +kernel
theorem dX10_best_106 : decode cX10_best 106 = .ok (.goto 31, 3) := by decide +kernel
theorem dX10_best_109 : decode cX10_best 109 = .ok (.iload 4, 2) := by decide +kernel
theorem dX10_best_111 : decode cX10_best 111 = .ok (.bipush 10, 2) := by decide +kernel
theorem dX10_best_113 : decode cX10_best 113 = .ok (.bipush 9, 2) := by decide +kernel
theorem dX10_best_115 : decode cX10_best 115 = .ok (.iload_n 2, 1) := by decide +kernel
theorem dX10_best_116 : decode cX10_best 116 = .ok (.iadd, 1) := by decide +kernel
theorem dX10_best_117 : decode cX10_best 117 = .ok (.invokestatic 111, 3) := by decide +kernel
theorem dX10_best_120 : decode cX10_best 120 = .ok (.ifCond .eq 16, 3) := by decide +kernel
theorem dX10_best_123 : decode cX10_best 123 = .ok (.aload_n 0, 1) := by decide +kernel
theorem dX10_best_124 : decode cX10_best 124 = .ok (.getfield 105, 3) := by decide +kernel
theorem dX10_best_127 : decode cX10_best 127 = .ok (.iload 4, 2) := by decide +kernel
theorem dX10_best_129 : decode cX10_best 129 = .ok (.bipush 10, 2) := by decide +kernel
theorem dX10_best_131 : decode cX10_best 131 = .ok (.isub, 1) := by decide +kernel
theorem dX10_best_132 : decode cX10_best 132 = .ok (.iaload, 1) := by decide +kernel
theorem dX10_best_133 : decode cX10_best 133 = .ok (.goto 4, 3) := by decide +kernel
theorem dX10_best_136 : decode cX10_best 136 = .ok (.iconst (-1), 1) := by decide +kernel
theorem dX10_best_137 : decode cX10_best 137 = .ok (.ireturn, 1) := by decide +kernel
end
section
-- X10_isIn cuts []
set_option maxRecDepth 20000 in
set_option maxHeartbeats 2000000 in
theorem wX10_isIn {d bc bs : Nat} {h : HS} {P : Option AV → HS → Prop} {l0 : Int32} {l1 : Int32} {l2 : Int32} (k : ((l0 < l1) → (P (some (aI 0)) h)) ∧ ((¬ l0 < l1) → (((l2 < l0) → (P (some (aI 0)) h)) ∧ ((¬ l2 < l0) → (P (some (aI 1)) h))))) : Cl true mX10_isIn (d + 1) bc bs [aI l0, aI l1, aI l2] h P := by
  refine Cl_of (by decide) (Nat.le_of_ble_eq_true rfl) ?_
  show V true mX10_isIn (d + 1) bc bs 0 [(0, aI l0), (1, aI l1), (2, aI l2)] [] h P
  refine V_iload_n 0 dX10_isIn_0 rfl rfl ?_
  refine V_iload_n 1 dX10_isIn_1 rfl rfl ?_
  refine V_icmp_lt 14 dX10_isIn_2 (by decide) ⟨fun z => ?_, fun z => ?_⟩
  · replace k := k.1 z
    refine V_iconst 0 dX10_isIn_14 (by decide) ?_
    exact V_zreturn dX10_isIn_15 rfl (by decide) k
  · replace k := k.2 z
    refine V_iload_n 0 dX10_isIn_5 rfl rfl ?_
    refine V_iload_n 2 dX10_isIn_6 rfl rfl ?_
    refine V_icmp_gt 14 dX10_isIn_7 (by decide) ⟨fun z => ?_, fun z => ?_⟩
    · replace k := k.1 z
      refine V_iconst 0 dX10_isIn_14 (by decide) ?_
      exact V_zreturn dX10_isIn_15 rfl (by decide) k
    · replace k := k.2 z
      refine V_iconst 1 dX10_isIn_10 (by decide) ?_
      refine V_goto 15 dX10_isIn_11 (by decide) ?_
      exact V_zreturn dX10_isIn_15 rfl (by decide) k
-- X10_isThing cuts []
set_option maxRecDepth 20000 in
set_option maxHeartbeats 2000000 in
theorem wX10_isThing {d bc bs : Nat} {h : HS} {P : Option AV → HS → Prop} {l1 : Int32} (k : Cl true mX10_isIn d 0 0 [aI l1, aI 0, aI ((gI h 26 0 1) - 1)] h (fun r1 h2 => ∃ x3 : Int32, r1 = some (aI x3) ∧ ((x3 = 0 ∨ x3 = 1) ∧ P (some (aI x3)) h2))) : Cl true mX10_isThing (d + 1) bc bs [aR 26 0, aI l1] h P := by
  refine Cl_of (by decide) (Nat.le_of_ble_eq_true rfl) ?_
  show V true mX10_isThing (d + 1) bc bs 0 [(0, aR 26 0), (1, aI l1)] [] h P
  refine V_iload_n 1 dX10_isThing_0 rfl rfl ?_
  refine V_iconst 0 dX10_isThing_1 (by decide) ?_
  refine V_aload_n 0 dX10_isThing_2 rfl rfl ?_
  refine GI_26_1 dX10_isThing_3 lkX10_108 ?_
  refine V_iconst 1 dX10_isThing_6 (by decide) ?_
  refine V_isub dX10_isThing_7 ?_
  refine V_callS (mc := 0) (ms := 0) (as := [aI l1, aI 0, aI ((gI h 26 0 1) - 1)]) (st := []) dX10_isThing_8 okX10_isIn stX10_isIn lkX10_111 rfl (Nat.le_of_ble_eq_true rfl) (Nat.zero_le _) (Nat.zero_le _) (Cl.mono (fun r1 h2 z => ?_) k)
  obtain ⟨x3, rfl, k⟩ := z
  exact V_zreturn dX10_isThing_11 rfl k.1 k.2
-- X10_isTag cuts []
set_option maxRecDepth 20000 in
set_option maxHeartbeats 2000000 in
theorem wX10_isTag {d bc bs : Nat} {h : HS} {P : Option AV → HS → Prop} {l0 : Int32} (k : Cl true mX10_isIn d 0 0 [aI l0, aI 1, aI 9999] h (fun r1 h2 => ∃ x3 : Int32, r1 = some (aI x3) ∧ ((x3 = 0 ∨ x3 = 1) ∧ P (some (aI x3)) h2))) : Cl true mX10_isTag (d + 1) bc bs [aI l0] h P := by
  refine Cl_of (by decide) (Nat.le_of_ble_eq_true rfl) ?_
  show V true mX10_isTag (d + 1) bc bs 0 [(0, aI l0)] [] h P
  refine V_iload_n 0 dX10_isTag_0 rfl rfl ?_
  refine V_iconst 1 dX10_isTag_1 (by decide) ?_
  refine V_sipush 9999 dX10_isTag_2 (by decide) ?_
  refine V_callS (mc := 0) (ms := 0) (as := [aI l0, aI 1, aI 9999]) (st := []) dX10_isTag_5 okX10_isIn stX10_isIn lkX10_111 rfl (Nat.le_of_ble_eq_true rfl) (Nat.zero_le _) (Nat.zero_le _) (Cl.mono (fun r1 h2 z => ?_) k)
  obtain ⟨x3, rfl, k⟩ := z
  exact V_zreturn dX10_isTag_8 rfl k.1 k.2
-- X10_thing cuts []
set_option maxRecDepth 20000 in
set_option maxHeartbeats 2000000 in
theorem wX10_thing {d bc bs : Nat} {h : HS} {P : Option AV → HS → Prop} {l1 : Int32} {l2 : Int32} (k : Cl true mX10_isTag d 0 0 [aI l1] h (fun r1 h2 => ∃ x3 : Int32, r1 = some (aI x3) ∧ (((x3 = 0) → (P (some (aI (-1))) h2)) ∧ ((¬ x3 = 0) → (Cl true mX10_isIn d 0 0 [aI l2, aI 0, aI 999] h2 (fun r4 h5 => ∃ x6 : Int32, r4 = some (aI x6) ∧ (((x6 = 0) → (P (some (aI (-1))) h5)) ∧ ((¬ x6 = 0) → (((¬ (gI h5 26 0 1) = 12) → (vp_in ((364 * (gI h5 26 0 1)) + (gI (sI h5 26 0 1 ((gI h5 26 0 1) + 1)) 26 0 0)) 4368 ∧ (vp_in (gI h5 26 0 1) 12 ∧ (vp_in (gI h5 26 0 1) 12 ∧ (P (some (aI (gI h5 26 0 1))) (sI (sI (sI (sI h5 26 0 1 ((gI h5 26 0 1) + 1)) 27 0 ((364 * (gI h5 26 0 1)) + (gI (sI h5 26 0 1 ((gI h5 26 0 1) + 1)) 26 0 0)).toNatClampNeg l1) 28 0 (gI h5 26 0 1).toNatClampNeg l2) 31 0 (gI h5 26 0 1).toNatClampNeg (gI (sI (sI (sI h5 26 0 1 ((gI h5 26 0 1) + 1)) 27 0 ((364 * (gI h5 26 0 1)) + (gI (sI h5 26 0 1 ((gI h5 26 0 1) + 1)) 26 0 0)).toNatClampNeg l1) 28 0 (gI h5 26 0 1).toNatClampNeg l2) 26 0 0))))))) ∧ (((gI h5 26 0 1) = 12) → (P (some (aI (-1))) h5))))))))))) : Cl true mX10_thing (d + 1) bc bs [aR 26 0, aI l1, aI l2] h P := by
  refine Cl_of (by decide) (Nat.le_of_ble_eq_true rfl) ?_
  show V true mX10_thing (d + 1) bc bs 0 [(0, aR 26 0), (1, aI l1), (2, aI l2)] [] h P
  refine V_iload_n 1 dX10_thing_0 rfl rfl ?_
  refine V_callS (mc := 0) (ms := 0) (as := [aI l1]) (st := []) dX10_thing_1 okX10_isTag stX10_isTag lkX10_115 rfl (Nat.le_of_ble_eq_true rfl) (Nat.zero_le _) (Nat.zero_le _) (Cl.mono (fun r1 h2 z => ?_) k)
  obtain ⟨x3, rfl, k⟩ := z
  refine V_if_eq 27 dX10_thing_4 (by decide) ⟨fun z => ?_, fun z => ?_⟩
  · replace k := k.1 z
    refine V_iconst (-1) dX10_thing_27 (by decide) ?_
    exact V_ireturn dX10_thing_28 rfl k
  · replace k := k.2 z
    refine V_iload_n 2 dX10_thing_7 rfl rfl ?_
    refine V_iconst 0 dX10_thing_8 (by decide) ?_
    refine V_sipush 999 dX10_thing_9 (by decide) ?_
    refine V_callS (mc := 0) (ms := 0) (as := [aI l2, aI 0, aI 999]) (st := []) dX10_thing_12 okX10_isIn stX10_isIn lkX10_111 rfl (Nat.le_of_ble_eq_true rfl) (Nat.zero_le _) (Nat.zero_le _) (Cl.mono (fun r4 h5 z => ?_) k)
    obtain ⟨x6, rfl, k⟩ := z
    refine V_if_eq 27 dX10_thing_15 (by decide) ⟨fun z => ?_, fun z => ?_⟩
    · replace k := k.1 z
      refine V_iconst (-1) dX10_thing_27 (by decide) ?_
      exact V_ireturn dX10_thing_28 rfl k
    · replace k := k.2 z
      refine V_aload_n 0 dX10_thing_18 rfl rfl ?_
      refine GI_26_1 dX10_thing_19 lkX10_108 ?_
      refine V_bipush 12 dX10_thing_22 (by decide) ?_
      refine V_icmp_ne 29 dX10_thing_24 (by decide) ⟨fun z => ?_, fun z => ?_⟩
      · replace k := k.1 z
        refine V_aload_n 0 dX10_thing_29 rfl rfl ?_
        refine GI_26_1 dX10_thing_30 lkX10_108 ?_
        refine V_istore_n 3 dX10_thing_33 rfl (by decide) rfl ?_
        refine V_aload_n 0 dX10_thing_34 rfl rfl ?_
        refine V_dup dX10_thing_35 rfl ?_
        refine GI_26_1 dX10_thing_36 lkX10_108 ?_
        refine V_iconst 1 dX10_thing_39 (by decide) ?_
        refine V_iadd dX10_thing_40 ?_
        refine PI_26_1 dX10_thing_41 lkX10_108 ?_
        refine V_aload_n 0 dX10_thing_44 rfl rfl ?_
        refine GS_26_3 dX10_thing_45 lkX10_7 ?_
        refine V_sipush 364 dX10_thing_48 (by decide) ?_
        refine V_iload_n 3 dX10_thing_51 rfl rfl ?_
        refine V_imul dX10_thing_52 ?_
        refine V_aload_n 0 dX10_thing_53 rfl rfl ?_
        refine GI_26_0 dX10_thing_54 lkX10_119 ?_
        refine V_iadd dX10_thing_57 ?_
        refine V_iload_n 1 dX10_thing_58 rfl rfl ?_
        refine V_iast (by decide) rt_27 dX10_thing_59 k.1 ?_
        replace k := k.2
        refine V_aload_n 0 dX10_thing_60 rfl rfl ?_
        refine GS_26_4 dX10_thing_61 lkX10_13 ?_
        refine V_iload_n 3 dX10_thing_64 rfl rfl ?_
        refine V_iload_n 2 dX10_thing_65 rfl rfl ?_
        refine V_iast (by decide) rt_28 dX10_thing_66 k.1 ?_
        replace k := k.2
        refine V_aload_n 0 dX10_thing_67 rfl rfl ?_
        refine GS_26_7 dX10_thing_68 lkX10_22 ?_
        refine V_iload_n 3 dX10_thing_71 rfl rfl ?_
        refine V_aload_n 0 dX10_thing_72 rfl rfl ?_
        refine GI_26_0 dX10_thing_73 lkX10_119 ?_
        refine V_iast (by decide) rt_31 dX10_thing_76 k.1 ?_
        replace k := k.2
        refine V_iload_n 3 dX10_thing_77 rfl rfl ?_
        exact V_ireturn dX10_thing_78 rfl k
      · replace k := k.2 z
        refine V_iconst (-1) dX10_thing_27 (by decide) ?_
        exact V_ireturn dX10_thing_28 rfl k
-- X10_tag cuts []
set_option maxRecDepth 20000 in
set_option maxHeartbeats 2000000 in
theorem wX10_tag {d bc bs : Nat} {h : HS} {P : Option AV → HS → Prop} {l1 : Int32} {l2 : Int32} (k : Cl true mX10_isThing d 0 0 [aR 26 0, aI l1] h (fun r1 h2 => ∃ x3 : Int32, r1 = some (aI x3) ∧ (((x3 = 0) → (P (some (aI (-1))) h2)) ∧ ((¬ x3 = 0) → (Cl true mX10_isTag d 0 0 [aI l2] h2 (fun r4 h5 => ∃ x6 : Int32, r4 = some (aI x6) ∧ (((¬ x6 = 0) → (vp_in ((364 * l1) + (gI h5 26 0 0)) 4368 ∧ (vp_in ((364 * l1) + (gI h5 26 0 0)) 4368 ∧ (((l2 ≤ (gI h5 27 0 ((364 * l1) + (gI h5 26 0 0)).toNatClampNeg)) → ((((gI h5 27 0 ((364 * l1) + (gI h5 26 0 0)).toNatClampNeg) ≤ l2) → (((l2 ≤ (gI h5 27 0 ((364 * l1) + (gI h5 26 0 0)).toNatClampNeg)) → (P (some (aI 0)) (sI h5 27 0 ((364 * l1) + (gI h5 26 0 0)).toNatClampNeg l2))) ∧ ((¬ l2 ≤ (gI h5 27 0 ((364 * l1) + (gI h5 26 0 0)).toNatClampNeg)) → (P (some (aI 2)) (sI h5 27 0 ((364 * l1) + (gI h5 26 0 0)).toNatClampNeg l2))))) ∧ ((¬ (gI h5 27 0 ((364 * l1) + (gI h5 26 0 0)).toNatClampNeg) ≤ l2) → (P (some (aI 1)) (sI h5 27 0 ((364 * l1) + (gI h5 26 0 0)).toNatClampNeg l2))))) ∧ ((¬ l2 ≤ (gI h5 27 0 ((364 * l1) + (gI h5 26 0 0)).toNatClampNeg)) → (vp_in l1 12 ∧ (vp_in l1 12 ∧ ((((gI h5 27 0 ((364 * l1) + (gI h5 26 0 0)).toNatClampNeg) ≤ l2) → (((l2 ≤ (gI h5 27 0 ((364 * l1) + (gI h5 26 0 0)).toNatClampNeg)) → (P (some (aI 0)) (sI (sI h5 27 0 ((364 * l1) + (gI h5 26 0 0)).toNatClampNeg l2) 29 0 l1.toNatClampNeg ((gI (sI h5 27 0 ((364 * l1) + (gI h5 26 0 0)).toNatClampNeg l2) 29 0 l1.toNatClampNeg) + 1)))) ∧ ((¬ l2 ≤ (gI h5 27 0 ((364 * l1) + (gI h5 26 0 0)).toNatClampNeg)) → (P (some (aI 2)) (sI (sI h5 27 0 ((364 * l1) + (gI h5 26 0 0)).toNatClampNeg l2) 29 0 l1.toNatClampNeg ((gI (sI h5 27 0 ((364 * l1) + (gI h5 26 0 0)).toNatClampNeg l2) 29 0 l1.toNatClampNeg) + 1)))))) ∧ ((¬ (gI h5 27 0 ((364 * l1) + (gI h5 26 0 0)).toNatClampNeg) ≤ l2) → (P (some (aI 1)) (sI (sI h5 27 0 ((364 * l1) + (gI h5 26 0 0)).toNatClampNeg l2) 29 0 l1.toNatClampNeg ((gI (sI h5 27 0 ((364 * l1) + (gI h5 26 0 0)).toNatClampNeg l2) 29 0 l1.toNatClampNeg) + 1)))))))))))) ∧ ((x6 = 0) → (P (some (aI (-1))) h5))))))))) : Cl true mX10_tag (d + 1) bc bs [aR 26 0, aI l1, aI l2] h P := by
  refine Cl_of (by decide) (Nat.le_of_ble_eq_true rfl) ?_
  show V true mX10_tag (d + 1) bc bs 0 [(0, aR 26 0), (1, aI l1), (2, aI l2)] [] h P
  refine V_aload_n 0 dX10_tag_0 rfl rfl ?_
  refine V_iload_n 1 dX10_tag_1 rfl rfl ?_
  refine V_callV (mc := 0) (ms := 0) (as := [aI l1]) (st := []) (by decide) rt_26 rfl dX10_tag_2 okX10_isThing inX10_isThing seX10_isThing lkX10_122 rfl (Nat.le_of_ble_eq_true rfl) (Nat.zero_le _) (Nat.zero_le _) (Cl.mono (fun r1 h2 z => ?_) k)
  obtain ⟨x3, rfl, k⟩ := z
  refine V_if_eq 15 dX10_tag_5 (by decide) ⟨fun z => ?_, fun z => ?_⟩
  · replace k := k.1 z
    refine V_iconst (-1) dX10_tag_15 (by decide) ?_
    exact V_ireturn dX10_tag_16 rfl k
  · replace k := k.2 z
    refine V_iload_n 2 dX10_tag_8 rfl rfl ?_
    refine V_callS (mc := 0) (ms := 0) (as := [aI l2]) (st := []) dX10_tag_9 okX10_isTag stX10_isTag lkX10_115 rfl (Nat.le_of_ble_eq_true rfl) (Nat.zero_le _) (Nat.zero_le _) (Cl.mono (fun r4 h5 z => ?_) k)
    obtain ⟨x6, rfl, k⟩ := z
    refine V_if_ne 17 dX10_tag_12 (by decide) ⟨fun z => ?_, fun z => ?_⟩
    · replace k := k.1 z
      refine V_aload_n 0 dX10_tag_17 rfl rfl ?_
      refine GS_26_3 dX10_tag_18 lkX10_7 ?_
      refine V_sipush 364 dX10_tag_21 (by decide) ?_
      refine V_iload_n 1 dX10_tag_24 rfl rfl ?_
      refine V_imul dX10_tag_25 ?_
      refine V_aload_n 0 dX10_tag_26 rfl rfl ?_
      refine GI_26_0 dX10_tag_27 lkX10_119 ?_
      refine V_iadd dX10_tag_30 ?_
      refine V_iald (by decide) rt_27 dX10_tag_31 k.1 ?_
      replace k := k.2
      refine V_istore_n 3 dX10_tag_32 rfl (by decide) rfl ?_
      refine V_aload_n 0 dX10_tag_33 rfl rfl ?_
      refine GS_26_3 dX10_tag_34 lkX10_7 ?_
      refine V_sipush 364 dX10_tag_37 (by decide) ?_
      refine V_iload_n 1 dX10_tag_40 rfl rfl ?_
      refine V_imul dX10_tag_41 ?_
      refine V_aload_n 0 dX10_tag_42 rfl rfl ?_
      refine GI_26_0 dX10_tag_43 lkX10_119 ?_
      refine V_iadd dX10_tag_46 ?_
      refine V_iload_n 2 dX10_tag_47 rfl rfl ?_
      refine V_iast (by decide) rt_27 dX10_tag_48 k.1 ?_
      replace k := k.2
      refine V_iload_n 2 dX10_tag_49 rfl rfl ?_
      refine V_iload_n 3 dX10_tag_50 rfl rfl ?_
      refine V_icmp_le 64 dX10_tag_51 (by decide) ⟨fun z => ?_, fun z => ?_⟩
      · replace k := k.1 z
        refine V_iload_n 2 dX10_tag_64 rfl rfl ?_
        refine V_iload_n 3 dX10_tag_65 rfl rfl ?_
        refine V_icmp_ge 73 dX10_tag_66 (by decide) ⟨fun z => ?_, fun z => ?_⟩
        · replace k := k.1 z
          refine V_iload_n 2 dX10_tag_73 rfl rfl ?_
          refine V_iload_n 3 dX10_tag_74 rfl rfl ?_
          refine V_icmp_le 82 dX10_tag_75 (by decide) ⟨fun z => ?_, fun z => ?_⟩
          · replace k := k.1 z
            refine V_iconst 0 dX10_tag_82 (by decide) ?_
            exact V_ireturn dX10_tag_83 rfl k
          · replace k := k.2 z
            refine V_iconst 2 dX10_tag_78 (by decide) ?_
            refine V_goto 83 dX10_tag_79 (by decide) ?_
            exact V_ireturn dX10_tag_83 rfl k
        · replace k := k.2 z
          refine V_iconst 1 dX10_tag_69 (by decide) ?_
          refine V_goto 83 dX10_tag_70 (by decide) ?_
          exact V_ireturn dX10_tag_83 rfl k
      · replace k := k.2 z
        refine V_aload_n 0 dX10_tag_54 rfl rfl ?_
        refine GS_26_5 dX10_tag_55 lkX10_16 ?_
        refine V_iload_n 1 dX10_tag_58 rfl rfl ?_
        refine V_dup2 dX10_tag_59 rfl rfl ?_
        refine V_iald (by decide) rt_29 dX10_tag_60 k.1 ?_
        replace k := k.2
        refine V_iconst 1 dX10_tag_61 (by decide) ?_
        refine V_iadd dX10_tag_62 ?_
        refine V_iast (by decide) rt_29 dX10_tag_63 k.1 ?_
        replace k := k.2
        refine V_iload_n 2 dX10_tag_64 rfl rfl ?_
        refine V_iload_n 3 dX10_tag_65 rfl rfl ?_
        refine V_icmp_ge 73 dX10_tag_66 (by decide) ⟨fun z => ?_, fun z => ?_⟩
        · replace k := k.1 z
          refine V_iload_n 2 dX10_tag_73 rfl rfl ?_
          refine V_iload_n 3 dX10_tag_74 rfl rfl ?_
          refine V_icmp_le 82 dX10_tag_75 (by decide) ⟨fun z => ?_, fun z => ?_⟩
          · replace k := k.1 z
            refine V_iconst 0 dX10_tag_82 (by decide) ?_
            exact V_ireturn dX10_tag_83 rfl k
          · replace k := k.2 z
            refine V_iconst 2 dX10_tag_78 (by decide) ?_
            refine V_goto 83 dX10_tag_79 (by decide) ?_
            exact V_ireturn dX10_tag_83 rfl k
        · replace k := k.2 z
          refine V_iconst 1 dX10_tag_69 (by decide) ?_
          refine V_goto 83 dX10_tag_70 (by decide) ?_
          exact V_ireturn dX10_tag_83 rfl k
    · replace k := k.2 z
      refine V_iconst (-1) dX10_tag_15 (by decide) ?_
      exact V_ireturn dX10_tag_16 rfl k
-- X10_of cuts []
set_option maxRecDepth 20000 in
set_option maxHeartbeats 2000000 in
theorem wX10_of {d bc bs : Nat} {h : HS} {P : Option AV → HS → Prop} {l1 : Int32} {l2 : Int32} (k : Cl true mX10_isThing d 0 0 [aR 26 0, aI l1] h (fun r1 h2 => ∃ x3 : Int32, r1 = some (aI x3) ∧ (((¬ x3 = 0) → ((l2 = 0 → (vp_in ((364 * l1) + (gI h2 26 0 0)) 4368 ∧ (P (some (aI (gI h2 27 0 ((364 * l1) + (gI h2 26 0 0)).toNatClampNeg))) h2))) ∧ (l2 = 1 → (vp_in l1 12 ∧ (P (some (aI (gI h2 28 0 l1.toNatClampNeg))) h2))) ∧ (l2 = 2 → (vp_in l1 12 ∧ (P (some (aI (gI h2 29 0 l1.toNatClampNeg))) h2))) ∧ (l2 = 3 → (vp_in l1 12 ∧ (P (some (aI (gI h2 30 0 l1.toNatClampNeg))) h2))) ∧ (¬ (0 ≤ (l2).toInt ∧ (l2).toInt ≤ 3) → (Cl true mX10_isIn d 0 0 [aI l2, aI 1000, aI (1000 + (gI h2 26 0 0))] h2 (fun r4 h5 => ∃ x6 : Int32, r4 = some (aI x6) ∧ (((x6 = 0) → (P (some (aI (-1))) h5)) ∧ ((¬ x6 = 0) → (vp_in (((364 * l1) + l2) - 1000) 4368 ∧ (P (some (aI (gI h5 27 0 (((364 * l1) + l2) - 1000).toNatClampNeg))) h5))))))))) ∧ ((x3 = 0) → (P (some (aI (-1))) h2))))) : Cl true mX10_of (d + 1) bc bs [aR 26 0, aI l1, aI l2] h P := by
  refine Cl_of (by decide) (Nat.le_of_ble_eq_true rfl) ?_
  show V true mX10_of (d + 1) bc bs 0 [(0, aR 26 0), (1, aI l1), (2, aI l2)] [] h P
  refine V_aload_n 0 dX10_of_0 rfl rfl ?_
  refine V_iload_n 1 dX10_of_1 rfl rfl ?_
  refine V_callV (mc := 0) (ms := 0) (as := [aI l1]) (st := []) (by decide) rt_26 rfl dX10_of_2 okX10_isThing inX10_isThing seX10_isThing lkX10_122 rfl (Nat.le_of_ble_eq_true rfl) (Nat.zero_le _) (Nat.zero_le _) (Cl.mono (fun r1 h2 z => ?_) k)
  obtain ⟨x3, rfl, k⟩ := z
  refine V_if_ne 10 dX10_of_5 (by decide) ⟨fun z => ?_, fun z => ?_⟩
  · replace k := k.1 z
    refine V_iload_n 2 dX10_of_10 rfl rfl ?_
    obtain ⟨k0, k1, k2, k3, k4⟩ := k
    rcases sw_cases l2 (0) (3) (by decide) (by decide) with zo | ⟨zn, zl, zx⟩
    · have k := k4 zo
      refine V_tabOut 77 dX10_of_11 (sw_out zo) (by decide) ?_
      refine V_iload_n 2 dX10_of_77 rfl rfl ?_
      refine V_sipush 1000 dX10_of_78 (by decide) ?_
      refine V_sipush 1000 dX10_of_81 (by decide) ?_
      refine V_aload_n 0 dX10_of_84 rfl rfl ?_
      refine GI_26_0 dX10_of_85 lkX10_119 ?_
      refine V_iadd dX10_of_88 ?_
      refine V_callS (mc := 0) (ms := 0) (as := [aI l2, aI 1000, aI (1000 + (gI h2 26 0 0))]) (st := []) dX10_of_89 okX10_isIn stX10_isIn lkX10_111 rfl (Nat.le_of_ble_eq_true rfl) (Nat.zero_le _) (Nat.zero_le _) (Cl.mono (fun r4 h5 z => ?_) k)
      obtain ⟨x6, rfl, k⟩ := z
      refine V_if_eq 114 dX10_of_92 (by decide) ⟨fun z => ?_, fun z => ?_⟩
      · replace k := k.1 z
        refine V_iconst (-1) dX10_of_114 (by decide) ?_
        exact V_ireturn dX10_of_115 rfl k
      · replace k := k.2 z
        refine V_aload_n 0 dX10_of_95 rfl rfl ?_
        refine GS_26_3 dX10_of_96 lkX10_7 ?_
        refine V_sipush 364 dX10_of_99 (by decide) ?_
        refine V_iload_n 1 dX10_of_102 rfl rfl ?_
        refine V_imul dX10_of_103 ?_
        refine V_iload_n 2 dX10_of_104 rfl rfl ?_
        refine V_iadd dX10_of_105 ?_
        refine V_sipush 1000 dX10_of_106 (by decide) ?_
        refine V_isub dX10_of_109 ?_
        refine V_iald (by decide) rt_27 dX10_of_110 k.1 ?_
        replace k := k.2
        refine V_goto 115 dX10_of_111 (by decide) ?_
        exact V_ireturn dX10_of_115 rfl k
    · match zn, zl, zx with
      | 0, _, zx =>
        have zx : l2 = 0 := zx
        have k := k0 zx
        refine V_tabIn 40 dX10_of_11 (by rw [zx]; decide) (by rw [zx]; decide) (by rw [zx]; rfl) (by decide) ?_
        refine V_aload_n 0 dX10_of_40 rfl rfl ?_
        refine GS_26_3 dX10_of_41 lkX10_7 ?_
        refine V_sipush 364 dX10_of_44 (by decide) ?_
        refine V_iload_n 1 dX10_of_47 rfl rfl ?_
        refine V_imul dX10_of_48 ?_
        refine V_aload_n 0 dX10_of_49 rfl rfl ?_
        refine GI_26_0 dX10_of_50 lkX10_119 ?_
        refine V_iadd dX10_of_53 ?_
        refine V_iald (by decide) rt_27 dX10_of_54 k.1 ?_
        replace k := k.2
        exact V_ireturn dX10_of_55 rfl k
      | 1, _, zx =>
        have zx : l2 = 1 := zx
        have k := k1 zx
        refine V_tabIn 56 dX10_of_11 (by rw [zx]; decide) (by rw [zx]; decide) (by rw [zx]; rfl) (by decide) ?_
        refine V_aload_n 0 dX10_of_56 rfl rfl ?_
        refine GS_26_4 dX10_of_57 lkX10_13 ?_
        refine V_iload_n 1 dX10_of_60 rfl rfl ?_
        refine V_iald (by decide) rt_28 dX10_of_61 k.1 ?_
        replace k := k.2
        exact V_ireturn dX10_of_62 rfl k
      | 2, _, zx =>
        have zx : l2 = 2 := zx
        have k := k2 zx
        refine V_tabIn 63 dX10_of_11 (by rw [zx]; decide) (by rw [zx]; decide) (by rw [zx]; rfl) (by decide) ?_
        refine V_aload_n 0 dX10_of_63 rfl rfl ?_
        refine GS_26_5 dX10_of_64 lkX10_16 ?_
        refine V_iload_n 1 dX10_of_67 rfl rfl ?_
        refine V_iald (by decide) rt_29 dX10_of_68 k.1 ?_
        replace k := k.2
        exact V_ireturn dX10_of_69 rfl k
      | 3, _, zx =>
        have zx : l2 = 3 := zx
        have k := k3 zx
        refine V_tabIn 70 dX10_of_11 (by rw [zx]; decide) (by rw [zx]; decide) (by rw [zx]; rfl) (by decide) ?_
        refine V_aload_n 0 dX10_of_70 rfl rfl ?_
        refine GS_26_6 dX10_of_71 lkX10_19 ?_
        refine V_iload_n 1 dX10_of_74 rfl rfl ?_
        refine V_iald (by decide) rt_30 dX10_of_75 k.1 ?_
        replace k := k.2
        exact V_ireturn dX10_of_76 rfl k
      | n + 4, zl, _ => exact absurd zl (by omega)
  · replace k := k.2 z
    refine V_iconst (-1) dX10_of_8 (by decide) ?_
    exact V_ireturn dX10_of_9 rfl k
-- X10_next cuts [24, 72]
set_option maxRecDepth 20000 in
set_option maxHeartbeats 2000000 in
theorem wX10_next {d bc bs : Nat} {h : HS} {P : Option AV → HS → Prop}  (k : ((¬ (gI h 26 0 0) = 363) → (V true mX10_next (d + 1) bc bs 24 [(0, aR 26 0), (1, aI 0)] [] (sI h 26 0 0 ((gI h 26 0 0) + 1)) P)) ∧ (((gI h 26 0 0) = 363) → (P (some (aI (-1))) h))) : Cl true mX10_next (d + 1) bc bs [aR 26 0] h P := by
  refine Cl_of (by decide) (Nat.le_of_ble_eq_true rfl) ?_
  show V true mX10_next (d + 1) bc bs 0 [(0, aR 26 0)] [] h P
  refine V_aload_n 0 dX10_next_0 rfl rfl ?_
  refine GI_26_0 dX10_next_1 lkX10_119 ?_
  refine V_sipush 363 dX10_next_4 (by decide) ?_
  refine V_icmp_ne 12 dX10_next_7 (by decide) ⟨fun z => ?_, fun z => ?_⟩
  · replace k := k.1 z
    refine V_aload_n 0 dX10_next_12 rfl rfl ?_
    refine V_dup dX10_next_13 rfl ?_
    refine GI_26_0 dX10_next_14 lkX10_119 ?_
    refine V_iconst 1 dX10_next_17 (by decide) ?_
    refine V_iadd dX10_next_18 ?_
    refine PI_26_0 dX10_next_19 lkX10_119 ?_
    refine V_iconst 0 dX10_next_22 (by decide) ?_
    refine V_istore_n 1 dX10_next_23 rfl (by decide) rfl ?_
    exact V_lv [1, 0] rfl k
  · replace k := k.2 z
    refine V_iconst (-1) dX10_next_10 (by decide) ?_
    exact V_ireturn dX10_next_11 rfl k
set_option maxRecDepth 20000 in
set_option maxHeartbeats 2000000 in
theorem wX10_next_24 {d bc bs : Nat} {h : HS} {P : Option AV → HS → Prop} {l1 : Int32} (k : (((gI h 26 0 1) ≤ l1) → (V true mX10_next (d + 1) bc bs 72 [(0, aR 26 0), (1, aI 0)] [] h P)) ∧ ((¬ (gI h 26 0 1) ≤ l1) → (vp_in (((364 * l1) + (gI h 26 0 0)) - 1) 4368 ∧ (vp_in ((364 * l1) + (gI h 26 0 0)) 4368 ∧ (V true mX10_next (d + 1) bc bs 24 [(0, aR 26 0), (1, aI (l1 + 1))] [] (sI h 27 0 ((364 * l1) + (gI h 26 0 0)).toNatClampNeg (gI h 27 0 (((364 * l1) + (gI h 26 0 0)) - 1).toNatClampNeg)) P))))) : V true mX10_next (d + 1) bc bs 24 [(0, aR 26 0), (1, aI l1)] [] h P := by
  refine V_iload_n 1 dX10_next_24 rfl rfl ?_
  refine V_aload_n 0 dX10_next_25 rfl rfl ?_
  refine GI_26_1 dX10_next_26 lkX10_108 ?_
  refine V_icmp_ge 70 dX10_next_29 (by decide) ⟨fun z => ?_, fun z => ?_⟩
  · replace k := k.1 z
    refine V_iconst 0 dX10_next_70 (by decide) ?_
    refine V_istore_n 1 dX10_next_71 rfl (by decide) rfl ?_
    exact V_lv [1, 0] rfl k
  · replace k := k.2 z
    refine V_aload_n 0 dX10_next_32 rfl rfl ?_
    refine GS_26_3 dX10_next_33 lkX10_7 ?_
    refine V_sipush 364 dX10_next_36 (by decide) ?_
    refine V_iload_n 1 dX10_next_39 rfl rfl ?_
    refine V_imul dX10_next_40 ?_
    refine V_aload_n 0 dX10_next_41 rfl rfl ?_
    refine GI_26_0 dX10_next_42 lkX10_119 ?_
    refine V_iadd dX10_next_45 ?_
    refine V_aload_n 0 dX10_next_46 rfl rfl ?_
    refine GS_26_3 dX10_next_47 lkX10_7 ?_
    refine V_sipush 364 dX10_next_50 (by decide) ?_
    refine V_iload_n 1 dX10_next_53 rfl rfl ?_
    refine V_imul dX10_next_54 ?_
    refine V_aload_n 0 dX10_next_55 rfl rfl ?_
    refine GI_26_0 dX10_next_56 lkX10_119 ?_
    refine V_iadd dX10_next_59 ?_
    refine V_iconst 1 dX10_next_60 (by decide) ?_
    refine V_isub dX10_next_61 ?_
    refine V_iald (by decide) rt_27 dX10_next_62 k.1 ?_
    replace k := k.2
    refine V_iast (by decide) rt_27 dX10_next_63 k.1 ?_
    replace k := k.2
    refine V_iinc 1 (v := l1 + 1) dX10_next_64 rfl rfl (by decide) rfl ?_
    refine V_goto 24 dX10_next_67 (by decide) ?_
    exact V_lv [1, 0] rfl k
set_option maxRecDepth 20000 in
set_option maxHeartbeats 2000000 in
theorem wX10_next_72 {d bc bs : Nat} {h : HS} {P : Option AV → HS → Prop} {l1 : Int32} (k : (((gI h 26 0 2) ≤ l1) → (P (some (aI (gI (sI h 26 0 20 0) 26 0 0))) (sI h 26 0 20 0))) ∧ ((¬ (gI h 26 0 2) ≤ l1) → (vp_in l1 120 ∧ (((¬ (gI h 32 0 l1.toNatClampNeg) = 2) → (V true mX10_next (d + 1) bc bs 72 [(0, aR 26 0), (1, aI (l1 + 1))] [] h P)) ∧ (((gI h 32 0 l1.toNatClampNeg) = 2) → (vp_in l1 120 ∧ (((¬ (gI h 40 0 l1.toNatClampNeg) = (-1)) → (V true mX10_next (d + 1) bc bs 72 [(0, aR 26 0), (1, aI (l1 + 1))] [] h P)) ∧ (((gI h 40 0 l1.toNatClampNeg) = (-1)) → (vp_in l1 120 ∧ (((¬ (gI h 41 0 l1.toNatClampNeg) = (-1)) → (V true mX10_next (d + 1) bc bs 72 [(0, aR 26 0), (1, aI (l1 + 1))] [] h P)) ∧ (((gI h 41 0 l1.toNatClampNeg) = (-1)) → (vp_in l1 120 ∧ (((¬ ((gI h 38 0 l1.toNatClampNeg) + 7) = (gI h 26 0 0)) → (V true mX10_next (d + 1) bc bs 72 [(0, aR 26 0), (1, aI (l1 + 1))] [] h P)) ∧ ((((gI h 38 0 l1.toNatClampNeg) + 7) = (gI h 26 0 0)) → (vp_in l1 120 ∧ (V true mX10_next (d + 1) bc bs 72 [(0, aR 26 0), (1, aI (l1 + 1))] [] (sI h 40 0 l1.toNatClampNeg (gI h 26 0 0)) P)))))))))))))))) : V true mX10_next (d + 1) bc bs 72 [(0, aR 26 0), (1, aI l1)] [] h P := by
  refine V_iload_n 1 dX10_next_72 rfl rfl ?_
  refine V_aload_n 0 dX10_next_73 rfl rfl ?_
  refine GI_26_2 dX10_next_74 lkX10_125 ?_
  refine V_icmp_ge 142 dX10_next_77 (by decide) ⟨fun z => ?_, fun z => ?_⟩
  · replace k := k.1 z
    refine V_aload_n 0 dX10_next_142 rfl rfl ?_
    refine V_iconst 0 dX10_next_143 (by decide) ?_
    refine PI_26_20 dX10_next_144 lkX10_128 ?_
    refine V_aload_n 0 dX10_next_147 rfl rfl ?_
    refine GI_26_0 dX10_next_148 lkX10_119 ?_
    exact V_ireturn dX10_next_151 rfl k
  · replace k := k.2 z
    refine V_aload_n 0 dX10_next_80 rfl rfl ?_
    refine GS_26_8 dX10_next_81 lkX10_25 ?_
    refine V_iload_n 1 dX10_next_84 rfl rfl ?_
    refine V_iald (by decide) rt_32 dX10_next_85 k.1 ?_
    replace k := k.2
    refine V_iconst 2 dX10_next_86 (by decide) ?_
    refine V_icmp_ne 136 dX10_next_87 (by decide) ⟨fun z => ?_, fun z => ?_⟩
    · replace k := k.1 z
      refine V_iinc 1 (v := l1 + 1) dX10_next_136 rfl rfl (by decide) rfl ?_
      refine V_goto 72 dX10_next_139 (by decide) ?_
      exact V_lv [1, 0] rfl k
    · replace k := k.2 z
      refine V_aload_n 0 dX10_next_90 rfl rfl ?_
      refine GS_26_16 dX10_next_91 lkX10_49 ?_
      refine V_iload_n 1 dX10_next_94 rfl rfl ?_
      refine V_iald (by decide) rt_40 dX10_next_95 k.1 ?_
      replace k := k.2
      refine V_iconst (-1) dX10_next_96 (by decide) ?_
      refine V_icmp_ne 136 dX10_next_97 (by decide) ⟨fun z => ?_, fun z => ?_⟩
      · replace k := k.1 z
        refine V_iinc 1 (v := l1 + 1) dX10_next_136 rfl rfl (by decide) rfl ?_
        refine V_goto 72 dX10_next_139 (by decide) ?_
        exact V_lv [1, 0] rfl k
      · replace k := k.2 z
        refine V_aload_n 0 dX10_next_100 rfl rfl ?_
        refine GS_26_17 dX10_next_101 lkX10_52 ?_
        refine V_iload_n 1 dX10_next_104 rfl rfl ?_
        refine V_iald (by decide) rt_41 dX10_next_105 k.1 ?_
        replace k := k.2
        refine V_iconst (-1) dX10_next_106 (by decide) ?_
        refine V_icmp_ne 136 dX10_next_107 (by decide) ⟨fun z => ?_, fun z => ?_⟩
        · replace k := k.1 z
          refine V_iinc 1 (v := l1 + 1) dX10_next_136 rfl rfl (by decide) rfl ?_
          refine V_goto 72 dX10_next_139 (by decide) ?_
          exact V_lv [1, 0] rfl k
        · replace k := k.2 z
          refine V_aload_n 0 dX10_next_110 rfl rfl ?_
          refine GS_26_14 dX10_next_111 lkX10_43 ?_
          refine V_iload_n 1 dX10_next_114 rfl rfl ?_
          refine V_iald (by decide) rt_38 dX10_next_115 k.1 ?_
          replace k := k.2
          refine V_bipush 7 dX10_next_116 (by decide) ?_
          refine V_iadd dX10_next_118 ?_
          refine V_aload_n 0 dX10_next_119 rfl rfl ?_
          refine GI_26_0 dX10_next_120 lkX10_119 ?_
          refine V_icmp_ne 136 dX10_next_123 (by decide) ⟨fun z => ?_, fun z => ?_⟩
          · replace k := k.1 z
            refine V_iinc 1 (v := l1 + 1) dX10_next_136 rfl rfl (by decide) rfl ?_
            refine V_goto 72 dX10_next_139 (by decide) ?_
            exact V_lv [1, 0] rfl k
          · replace k := k.2 z
            refine V_aload_n 0 dX10_next_126 rfl rfl ?_
            refine GS_26_16 dX10_next_127 lkX10_49 ?_
            refine V_iload_n 1 dX10_next_130 rfl rfl ?_
            refine V_aload_n 0 dX10_next_131 rfl rfl ?_
            refine GI_26_0 dX10_next_132 lkX10_119 ?_
            refine V_iast (by decide) rt_40 dX10_next_135 k.1 ?_
            replace k := k.2
            refine V_iinc 1 (v := l1 + 1) dX10_next_136 rfl rfl (by decide) rfl ?_
            refine V_goto 72 dX10_next_139 (by decide) ?_
            exact V_lv [1, 0] rfl k
-- X10_slip cuts []
set_option maxRecDepth 20000 in
set_option maxHeartbeats 2000000 in
theorem wX10_slip {d bc bs : Nat} {h : HS} {P : Option AV → HS → Prop} {l1 : Int32} {l2 : Int32} {l3 : Int32} {l4 : Int32} {l5 : Int32} {l6 : Int32} {l7 : Int32} (k : Cl true mX10_isIn d 0 0 [aI l1, aI 0, aI 2] h (fun r1 h2 => ∃ x3 : Int32, r1 = some (aI x3) ∧ (((x3 = 0) → (P (some (aI (-1))) h2)) ∧ ((¬ x3 = 0) → (Cl true mX10_isIn d 0 0 [aI l2, aI 0, aI 7] h2 (fun r4 h5 => ∃ x6 : Int32, r4 = some (aI x6) ∧ (((x6 = 0) → (P (some (aI (-1))) h5)) ∧ ((¬ x6 = 0) → (Cl true mX10_isThing d 0 0 [aR 26 0, aI l4] h5 (fun r7 h8 => ∃ x9 : Int32, r7 = some (aI x9) ∧ (((x9 = 0) → (P (some (aI (-1))) h8)) ∧ ((¬ x9 = 0) → (Cl true mX10_isIn d 0 0 [aI l5, aI 1, aI 99] h8 (fun r10 h11 => ∃ x12 : Int32, r10 = some (aI x12) ∧ (((x12 = 0) → (P (some (aI (-1))) h11)) ∧ ((¬ x12 = 0) → (Cl true mX10_isIn d 0 0 [aI l6, aI (-1), aI 19] h11 (fun r13 h14 => ∃ x15 : Int32, r13 = some (aI x15) ∧ (((x15 = 0) → (P (some (aI (-1))) h14)) ∧ ((¬ x15 = 0) → (((¬ (gI h14 26 0 2) = 120) → (((¬ l1 = 0) → (Cl true mX10_isIn d 0 0 [aI l3, aI 0, aI 9] h14 (fun r16 h17 => ∃ x18 : Int32, r16 = some (aI x18) ∧ (((¬ x18 = 0) → (Cl true mX10_isIn d 0 0 [aI l7, aI ((gI h17 26 0 0) - 28), aI (gI h17 26 0 0)] h17 (fun r19 h20 => ∃ x21 : Int32, r19 = some (aI x21) ∧ (((x21 = 0) → (P (some (aI (-1))) h20)) ∧ ((¬ x21 = 0) → (((l7 < 0) → (P (some (aI (-1))) h20)) ∧ ((¬ l7 < 0) → (vp_in l4 12 ∧ (((l7 < (gI h20 31 0 l4.toNatClampNeg)) → (P (some (aI (-1))) h20)) ∧ ((¬ l7 < (gI h20 31 0 l4.toNatClampNeg)) → (vp_in l4 12 ∧ (((l5 ≤ (gI h20 28 0 l4.toNatClampNeg)) → (vp_in (gI h20 26 0 2) 120 ∧ (vp_in (gI h20 26 0 2) 120 ∧ (vp_in (gI h20 26 0 2) 120 ∧ (vp_in (gI h20 26 0 2) 120 ∧ (vp_in (gI h20 26 0 2) 120 ∧ (vp_in (gI h20 26 0 2) 120 ∧ (vp_in (gI h20 26 0 2) 120 ∧ (vp_in (gI h20 26 0 2) 120 ∧ (((l1 = 2) → ((((gI (sI (sI (sI (sI (sI (sI (sI (sI (sI h20 26 0 2 ((gI h20 26 0 2) + 1)) 32 0 (gI h20 26 0 2).toNatClampNeg l1) 33 0 (gI h20 26 0 2).toNatClampNeg l2) 34 0 (gI h20 26 0 2).toNatClampNeg l3) 35 0 (gI h20 26 0 2).toNatClampNeg l4) 36 0 (gI h20 26 0 2).toNatClampNeg l5) 37 0 (gI h20 26 0 2).toNatClampNeg l6) 38 0 (gI h20 26 0 2).toNatClampNeg l7) 39 0 (gI h20 26 0 2).toNatClampNeg (gI (sI (sI (sI (sI (sI (sI (sI (sI h20 26 0 2 ((gI h20 26 0 2) + 1)) 32 0 (gI h20 26 0 2).toNatClampNeg l1) 33 0 (gI h20 26 0 2).toNatClampNeg l2) 34 0 (gI h20 26 0 2).toNatClampNeg l3) 35 0 (gI h20 26 0 2).toNatClampNeg l4) 36 0 (gI h20 26 0 2).toNatClampNeg l5) 37 0 (gI h20 26 0 2).toNatClampNeg l6) 38 0 (gI h20 26 0 2).toNatClampNeg l7) 26 0 0)) 26 0 0) < (l7 + 7)) → (vp_in (gI h20 26 0 2) 120 ∧ (vp_in (gI h20 26 0 2) 120 ∧ (vp_in (gI h20 26 0 2) 120 ∧ (vp_in ((364 * l4) + l7) 4368 ∧ (vp_in (gI h20 26 0 2) 120 ∧ (vp_in l4 12 ∧ (vp_in l4 12 ∧ (P (some (aI (gI h20 26 0 2))) (sI (sI (sI (sI (sI (sI (sI (sI (sI (sI (sI (sI (sI (sI h20 26 0 2 ((gI h20 26 0 2) + 1)) 32 0 (gI h20 26 0 2).toNatClampNeg l1) 33 0 (gI h20 26 0 2).toNatClampNeg l2) 34 0 (gI h20 26 0 2).toNatClampNeg l3) 35 0 (gI h20 26 0 2).toNatClampNeg l4) 36 0 (gI h20 26 0 2).toNatClampNeg l5) 37 0 (gI h20 26 0 2).toNatClampNeg l6) 38 0 (gI h20 26 0 2).toNatClampNeg l7) 39 0 (gI h20 26 0 2).toNatClampNeg (gI (sI (sI (sI (sI (sI (sI (sI (sI h20 26 0 2 ((gI h20 26 0 2) + 1)) 32 0 (gI h20 26 0 2).toNatClampNeg l1) 33 0 (gI h20 26 0 2).toNatClampNeg l2) 34 0 (gI h20 26 0 2).toNatClampNeg l3) 35 0 (gI h20 26 0 2).toNatClampNeg l4) 36 0 (gI h20 26 0 2).toNatClampNeg l5) 37 0 (gI h20 26 0 2).toNatClampNeg l6) 38 0 (gI h20 26 0 2).toNatClampNeg l7) 26 0 0)) 40 0 (gI h20 26 0 2).toNatClampNeg (-1)) 41 0 (gI h20 26 0 2).toNatClampNeg (-1)) 42 0 (gI h20 26 0 2).toNatClampNeg (-1)) 43 0 (gI h20 26 0 2).toNatClampNeg (l5 * (gI (sI (sI (sI (sI (sI (sI (sI (sI (sI (sI (sI (sI h20 26 0 2 ((gI h20 26 0 2) + 1)) 32 0 (gI h20 26 0 2).toNatClampNeg l1) 33 0 (gI h20 26 0 2).toNatClampNeg l2) 34 0 (gI h20 26 0 2).toNatClampNeg l3) 35 0 (gI h20 26 0 2).toNatClampNeg l4) 36 0 (gI h20 26 0 2).toNatClampNeg l5) 37 0 (gI h20 26 0 2).toNatClampNeg l6) 38 0 (gI h20 26 0 2).toNatClampNeg l7) 39 0 (gI h20 26 0 2).toNatClampNeg (gI (sI (sI (sI (sI (sI (sI (sI (sI h20 26 0 2 ((gI h20 26 0 2) + 1)) 32 0 (gI h20 26 0 2).toNatClampNeg l1) 33 0 (gI h20 26 0 2).toNatClampNeg l2) 34 0 (gI h20 26 0 2).toNatClampNeg l3) 35 0 (gI h20 26 0 2).toNatClampNeg l4) 36 0 (gI h20 26 0 2).toNatClampNeg l5) 37 0 (gI h20 26 0 2).toNatClampNeg l6) 38 0 (gI h20 26 0 2).toNatClampNeg l7) 26 0 0)) 40 0 (gI h20 26 0 2).toNatClampNeg (-1)) 41 0 (gI h20 26 0 2).toNatClampNeg (-1)) 42 0 (gI h20 26 0 2).toNatClampNeg (-1)) 27 0 ((364 * l4) + l7).toNatClampNeg))) 28 0 l4.toNatClampNeg ((gI (sI (sI (sI (sI (sI (sI (sI (sI (sI (sI (sI (sI (sI h20 26 0 2 ((gI h20 26 0 2) + 1)) 32 0 (gI h20 26 0 2).toNatClampNeg l1) 33 0 (gI h20 26 0 2).toNatClampNeg l2) 34 0 (gI h20 26 0 2).toNatClampNeg l3) 35 0 (gI h20 26 0 2).toNatClampNeg l4) 36 0 (gI h20 26 0 2).toNatClampNeg l5) 37 0 (gI h20 26 0 2).toNatClampNeg l6) 38 0 (gI h20 26 0 2).toNatClampNeg l7) 39 0 (gI h20 26 0 2).toNatClampNeg (gI (sI (sI (sI (sI (sI (sI (sI (sI h20 26 0 2 ((gI h20 26 0 2) + 1)) 32 0 (gI h20 26 0 2).toNatClampNeg l1) 33 0 (gI h20 26 0 2).toNatClampNeg l2) 34 0 (gI h20 26 0 2).toNatClampNeg l3) 35 0 (gI h20 26 0 2).toNatClampNeg l4) 36 0 (gI h20 26 0 2).toNatClampNeg l5) 37 0 (gI h20 26 0 2).toNatClampNeg l6) 38 0 (gI h20 26 0 2).toNatClampNeg l7) 26 0 0)) 40 0 (gI h20 26 0 2).toNatClampNeg (-1)) 41 0 (gI h20 26 0 2).toNatClampNeg (-1)) 42 0 (gI h20 26 0 2).toNatClampNeg (-1)) 43 0 (gI h20 26 0 2).toNatClampNeg (l5 * (gI (sI (sI (sI (sI (sI (sI (sI (sI (sI (sI (sI (sI h20 26 0 2 ((gI h20 26 0 2) + 1)) 32 0 (gI h20 26 0 2).toNatClampNeg l1) 33 0 (gI h20 26 0 2).toNatClampNeg l2) 34 0 (gI h20 26 0 2).toNatClampNeg l3) 35 0 (gI h20 26 0 2).toNatClampNeg l4) 36 0 (gI h20 26 0 2).toNatClampNeg l5) 37 0 (gI h20 26 0 2).toNatClampNeg l6) 38 0 (gI h20 26 0 2).toNatClampNeg l7) 39 0 (gI h20 26 0 2).toNatClampNeg (gI (sI (sI (sI (sI (sI (sI (sI (sI h20 26 0 2 ((gI h20 26 0 2) + 1)) 32 0 (gI h20 26 0 2).toNatClampNeg l1) 33 0 (gI h20 26 0 2).toNatClampNeg l2) 34 0 (gI h20 26 0 2).toNatClampNeg l3) 35 0 (gI h20 26 0 2).toNatClampNeg l4) 36 0 (gI h20 26 0 2).toNatClampNeg l5) 37 0 (gI h20 26 0 2).toNatClampNeg l6) 38 0 (gI h20 26 0 2).toNatClampNeg l7) 26 0 0)) 40 0 (gI h20 26 0 2).toNatClampNeg (-1)) 41 0 (gI h20 26 0 2).toNatClampNeg (-1)) 42 0 (gI h20 26 0 2).toNatClampNeg (-1)) 27 0 ((364 * l4) + l7).toNatClampNeg))) 28 0 l4.toNatClampNeg) - l5))))))))))) ∧ ((¬ (gI (sI (sI (sI (sI (sI (sI (sI (sI (sI h20 26 0 2 ((gI h20 26 0 2) + 1)) 32 0 (gI h20 26 0 2).toNatClampNeg l1) 33 0 (gI h20 26 0 2).toNatClampNeg l2) 34 0 (gI h20 26 0 2).toNatClampNeg l3) 35 0 (gI h20 26 0 2).toNatClampNeg l4) 36 0 (gI h20 26 0 2).toNatClampNeg l5) 37 0 (gI h20 26 0 2).toNatClampNeg l6) 38 0 (gI h20 26 0 2).toNatClampNeg l7) 39 0 (gI h20 26 0 2).toNatClampNeg (gI (sI (sI (sI (sI (sI (sI (sI (sI h20 26 0 2 ((gI h20 26 0 2) + 1)) 32 0 (gI h20 26 0 2).toNatClampNeg l1) 33 0 (gI h20 26 0 2).toNatClampNeg l2) 34 0 (gI h20 26 0 2).toNatClampNeg l3) 35 0 (gI h20 26 0 2).toNatClampNeg l4) 36 0 (gI h20 26 0 2).toNatClampNeg l5) 37 0 (gI h20 26 0 2).toNatClampNeg l6) 38 0 (gI h20 26 0 2).toNatClampNeg l7) 26 0 0)) 26 0 0) < (l7 + 7)) → (vp_in (gI h20 26 0 2) 120 ∧ (vp_in (gI h20 26 0 2) 120 ∧ (vp_in (gI h20 26 0 2) 120 ∧ (vp_in ((364 * l4) + l7) 4368 ∧ (vp_in (gI h20 26 0 2) 120 ∧ (vp_in l4 12 ∧ (vp_in l4 12 ∧ (P (some (aI (gI h20 26 0 2))) (sI (sI (sI (sI (sI (sI (sI (sI (sI (sI (sI (sI (sI (sI h20 26 0 2 ((gI h20 26 0 2) + 1)) 32 0 (gI h20 26 0 2).toNatClampNeg l1) 33 0 (gI h20 26 0 2).toNatClampNeg l2) 34 0 (gI h20 26 0 2).toNatClampNeg l3) 35 0 (gI h20 26 0 2).toNatClampNeg l4) 36 0 (gI h20 26 0 2).toNatClampNeg l5) 37 0 (gI h20 26 0 2).toNatClampNeg l6) 38 0 (gI h20 26 0 2).toNatClampNeg l7) 39 0 (gI h20 26 0 2).toNatClampNeg (gI (sI (sI (sI (sI (sI (sI (sI (sI h20 26 0 2 ((gI h20 26 0 2) + 1)) 32 0 (gI h20 26 0 2).toNatClampNeg l1) 33 0 (gI h20 26 0 2).toNatClampNeg l2) 34 0 (gI h20 26 0 2).toNatClampNeg l3) 35 0 (gI h20 26 0 2).toNatClampNeg l4) 36 0 (gI h20 26 0 2).toNatClampNeg l5) 37 0 (gI h20 26 0 2).toNatClampNeg l6) 38 0 (gI h20 26 0 2).toNatClampNeg l7) 26 0 0)) 40 0 (gI h20 26 0 2).toNatClampNeg (l7 + 7)) 41 0 (gI h20 26 0 2).toNatClampNeg (-1)) 42 0 (gI h20 26 0 2).toNatClampNeg (-1)) 43 0 (gI h20 26 0 2).toNatClampNeg (l5 * (gI (sI (sI (sI (sI (sI (sI (sI (sI (sI (sI (sI (sI h20 26 0 2 ((gI h20 26 0 2) + 1)) 32 0 (gI h20 26 0 2).toNatClampNeg l1) 33 0 (gI h20 26 0 2).toNatClampNeg l2) 34 0 (gI h20 26 0 2).toNatClampNeg l3) 35 0 (gI h20 26 0 2).toNatClampNeg l4) 36 0 (gI h20 26 0 2).toNatClampNeg l5) 37 0 (gI h20 26 0 2).toNatClampNeg l6) 38 0 (gI h20 26 0 2).toNatClampNeg l7) 39 0 (gI h20 26 0 2).toNatClampNeg (gI (sI (sI (sI (sI (sI (sI (sI (sI h20 26 0 2 ((gI h20 26 0 2) + 1)) 32 0 (gI h20 26 0 2).toNatClampNeg l1) 33 0 (gI h20 26 0 2).toNatClampNeg l2) 34 0 (gI h20 26 0 2).toNatClampNeg l3) 35 0 (gI h20 26 0 2).toNatClampNeg l4) 36 0 (gI h20 26 0 2).toNatClampNeg l5) 37 0 (gI h20 26 0 2).toNatClampNeg l6) 38 0 (gI h20 26 0 2).toNatClampNeg l7) 26 0 0)) 40 0 (gI h20 26 0 2).toNatClampNeg (l7 + 7)) 41 0 (gI h20 26 0 2).toNatClampNeg (-1)) 42 0 (gI h20 26 0 2).toNatClampNeg (-1)) 27 0 ((364 * l4) + l7).toNatClampNeg))) 28 0 l4.toNatClampNeg ((gI (sI (sI (sI (sI (sI (sI (sI (sI (sI (sI (sI (sI (sI h20 26 0 2 ((gI h20 26 0 2) + 1)) 32 0 (gI h20 26 0 2).toNatClampNeg l1) 33 0 (gI h20 26 0 2).toNatClampNeg l2) 34 0 (gI h20 26 0 2).toNatClampNeg l3) 35 0 (gI h20 26 0 2).toNatClampNeg l4) 36 0 (gI h20 26 0 2).toNatClampNeg l5) 37 0 (gI h20 26 0 2).toNatClampNeg l6) 38 0 (gI h20 26 0 2).toNatClampNeg l7) 39 0 (gI h20 26 0 2).toNatClampNeg (gI (sI (sI (sI (sI (sI (sI (sI (sI h20 26 0 2 ((gI h20 26 0 2) + 1)) 32 0 (gI h20 26 0 2).toNatClampNeg l1) 33 0 (gI h20 26 0 2).toNatClampNeg l2) 34 0 (gI h20 26 0 2).toNatClampNeg l3) 35 0 (gI h20 26 0 2).toNatClampNeg l4) 36 0 (gI h20 26 0 2).toNatClampNeg l5) 37 0 (gI h20 26 0 2).toNatClampNeg l6) 38 0 (gI h20 26 0 2).toNatClampNeg l7) 26 0 0)) 40 0 (gI h20 26 0 2).toNatClampNeg (l7 + 7)) 41 0 (gI h20 26 0 2).toNatClampNeg (-1)) 42 0 (gI h20 26 0 2).toNatClampNeg (-1)) 43 0 (gI h20 26 0 2).toNatClampNeg (l5 * (gI (sI (sI (sI (sI (sI (sI (sI (sI (sI (sI (sI (sI h20 26 0 2 ((gI h20 26 0 2) + 1)) 32 0 (gI h20 26 0 2).toNatClampNeg l1) 33 0 (gI h20 26 0 2).toNatClampNeg l2) 34 0 (gI h20 26 0 2).toNatClampNeg l3) 35 0 (gI h20 26 0 2).toNatClampNeg l4) 36 0 (gI h20 26 0 2).toNatClampNeg l5) 37 0 (gI h20 26 0 2).toNatClampNeg l6) 38 0 (gI h20 26 0 2).toNatClampNeg l7) 39 0 (gI h20 26 0 2).toNatClampNeg (gI (sI (sI (sI (sI (sI (sI (sI (sI h20 26 0 2 ((gI h20 26 0 2) + 1)) 32 0 (gI h20 26 0 2).toNatClampNeg l1) 33 0 (gI h20 26 0 2).toNatClampNeg l2) 34 0 (gI h20 26 0 2).toNatClampNeg l3) 35 0 (gI h20 26 0 2).toNatClampNeg l4) 36 0 (gI h20 26 0 2).toNatClampNeg l5) 37 0 (gI h20 26 0 2).toNatClampNeg l6) 38 0 (gI h20 26 0 2).toNatClampNeg l7) 26 0 0)) 40 0 (gI h20 26 0 2).toNatClampNeg (l7 + 7)) 41 0 (gI h20 26 0 2).toNatClampNeg (-1)) 42 0 (gI h20 26 0 2).toNatClampNeg (-1)) 27 0 ((364 * l4) + l7).toNatClampNeg))) 28 0 l4.toNatClampNeg) - l5))))))))))))) ∧ ((¬ l1 = 2) → (vp_in (gI h20 26 0 2) 120 ∧ (vp_in (gI h20 26 0 2) 120 ∧ (vp_in (gI h20 26 0 2) 120 ∧ (vp_in ((364 * l4) + l7) 4368 ∧ (vp_in (gI h20 26 0 2) 120 ∧ (vp_in l4 12 ∧ (vp_in l4 12 ∧ (P (some (aI (gI h20 26 0 2))) (sI (sI (sI (sI (sI (sI (sI (sI (sI (sI (sI (sI (sI (sI h20 26 0 2 ((gI h20 26 0 2) + 1)) 32 0 (gI h20 26 0 2).toNatClampNeg l1) 33 0 (gI h20 26 0 2).toNatClampNeg l2) 34 0 (gI h20 26 0 2).toNatClampNeg l3) 35 0 (gI h20 26 0 2).toNatClampNeg l4) 36 0 (gI h20 26 0 2).toNatClampNeg l5) 37 0 (gI h20 26 0 2).toNatClampNeg l6) 38 0 (gI h20 26 0 2).toNatClampNeg l7) 39 0 (gI h20 26 0 2).toNatClampNeg (gI (sI (sI (sI (sI (sI (sI (sI (sI h20 26 0 2 ((gI h20 26 0 2) + 1)) 32 0 (gI h20 26 0 2).toNatClampNeg l1) 33 0 (gI h20 26 0 2).toNatClampNeg l2) 34 0 (gI h20 26 0 2).toNatClampNeg l3) 35 0 (gI h20 26 0 2).toNatClampNeg l4) 36 0 (gI h20 26 0 2).toNatClampNeg l5) 37 0 (gI h20 26 0 2).toNatClampNeg l6) 38 0 (gI h20 26 0 2).toNatClampNeg l7) 26 0 0)) 40 0 (gI h20 26 0 2).toNatClampNeg l7) 41 0 (gI h20 26 0 2).toNatClampNeg (-1)) 42 0 (gI h20 26 0 2).toNatClampNeg (-1)) 43 0 (gI h20 26 0 2).toNatClampNeg (l5 * (gI (sI (sI (sI (sI (sI (sI (sI (sI (sI (sI (sI (sI h20 26 0 2 ((gI h20 26 0 2) + 1)) 32 0 (gI h20 26 0 2).toNatClampNeg l1) 33 0 (gI h20 26 0 2).toNatClampNeg l2) 34 0 (gI h20 26 0 2).toNatClampNeg l3) 35 0 (gI h20 26 0 2).toNatClampNeg l4) 36 0 (gI h20 26 0 2).toNatClampNeg l5) 37 0 (gI h20 26 0 2).toNatClampNeg l6) 38 0 (gI h20 26 0 2).toNatClampNeg l7) 39 0 (gI h20 26 0 2).toNatClampNeg (gI (sI (sI (sI (sI (sI (sI (sI (sI h20 26 0 2 ((gI h20 26 0 2) + 1)) 32 0 (gI h20 26 0 2).toNatClampNeg l1) 33 0 (gI h20 26 0 2).toNatClampNeg l2) 34 0 (gI h20 26 0 2).toNatClampNeg l3) 35 0 (gI h20 26 0 2).toNatClampNeg l4) 36 0 (gI h20 26 0 2).toNatClampNeg l5) 37 0 (gI h20 26 0 2).toNatClampNeg l6) 38 0 (gI h20 26 0 2).toNatClampNeg l7) 26 0 0)) 40 0 (gI h20 26 0 2).toNatClampNeg l7) 41 0 (gI h20 26 0 2).toNatClampNeg (-1)) 42 0 (gI h20 26 0 2).toNatClampNeg (-1)) 27 0 ((364 * l4) + l7).toNatClampNeg))) 28 0 l4.toNatClampNeg ((gI (sI (sI (sI (sI (sI (sI (sI (sI (sI (sI (sI (sI (sI h20 26 0 2 ((gI h20 26 0 2) + 1)) 32 0 (gI h20 26 0 2).toNatClampNeg l1) 33 0 (gI h20 26 0 2).toNatClampNeg l2) 34 0 (gI h20 26 0 2).toNatClampNeg l3) 35 0 (gI h20 26 0 2).toNatClampNeg l4) 36 0 (gI h20 26 0 2).toNatClampNeg l5) 37 0 (gI h20 26 0 2).toNatClampNeg l6) 38 0 (gI h20 26 0 2).toNatClampNeg l7) 39 0 (gI h20 26 0 2).toNatClampNeg (gI (sI (sI (sI (sI (sI (sI (sI (sI h20 26 0 2 ((gI h20 26 0 2) + 1)) 32 0 (gI h20 26 0 2).toNatClampNeg l1) 33 0 (gI h20 26 0 2).toNatClampNeg l2) 34 0 (gI h20 26 0 2).toNatClampNeg l3) 35 0 (gI h20 26 0 2).toNatClampNeg l4) 36 0 (gI h20 26 0 2).toNatClampNeg l5) 37 0 (gI h20 26 0 2).toNatClampNeg l6) 38 0 (gI h20 26 0 2).toNatClampNeg l7) 26 0 0)) 40 0 (gI h20 26 0 2).toNatClampNeg l7) 41 0 (gI h20 26 0 2).toNatClampNeg (-1)) 42 0 (gI h20 26 0 2).toNatClampNeg (-1)) 43 0 (gI h20 26 0 2).toNatClampNeg (l5 * (gI (sI (sI (sI (sI (sI (sI (sI (sI (sI (sI (sI (sI h20 26 0 2 ((gI h20 26 0 2) + 1)) 32 0 (gI h20 26 0 2).toNatClampNeg l1) 33 0 (gI h20 26 0 2).toNatClampNeg l2) 34 0 (gI h20 26 0 2).toNatClampNeg l3) 35 0 (gI h20 26 0 2).toNatClampNeg l4) 36 0 (gI h20 26 0 2).toNatClampNeg l5) 37 0 (gI h20 26 0 2).toNatClampNeg l6) 38 0 (gI h20 26 0 2).toNatClampNeg l7) 39 0 (gI h20 26 0 2).toNatClampNeg (gI (sI (sI (sI (sI (sI (sI (sI (sI h20 26 0 2 ((gI h20 26 0 2) + 1)) 32 0 (gI h20 26 0 2).toNatClampNeg l1) 33 0 (gI h20 26 0 2).toNatClampNeg l2) 34 0 (gI h20 26 0 2).toNatClampNeg l3) 35 0 (gI h20 26 0 2).toNatClampNeg l4) 36 0 (gI h20 26 0 2).toNatClampNeg l5) 37 0 (gI h20 26 0 2).toNatClampNeg l6) 38 0 (gI h20 26 0 2).toNatClampNeg l7) 26 0 0)) 40 0 (gI h20 26 0 2).toNatClampNeg l7) 41 0 (gI h20 26 0 2).toNatClampNeg (-1)) 42 0 (gI h20 26 0 2).toNatClampNeg (-1)) 27 0 ((364 * l4) + l7).toNatClampNeg))) 28 0 l4.toNatClampNeg) - l5))))))))))))))))))))) ∧ ((¬ l5 ≤ (gI h20 28 0 l4.toNatClampNeg)) → (P (some (aI (-1))) h20)))))))))))))) ∧ ((x18 = 0) → (P (some (aI (-1))) h17)))))) ∧ ((l1 = 0) → (((l3 = (-1)) → (Cl true mX10_isIn d 0 0 [aI l7, aI ((gI h14 26 0 0) - 28), aI (gI h14 26 0 0)] h14 (fun r22 h23 => ∃ x24 : Int32, r22 = some (aI x24) ∧ (((x24 = 0) → (P (some (aI (-1))) h23)) ∧ ((¬ x24 = 0) → (((l7 < 0) → (P (some (aI (-1))) h23)) ∧ ((¬ l7 < 0) → (vp_in l4 12 ∧ (((l7 < (gI h23 31 0 l4.toNatClampNeg)) → (P (some (aI (-1))) h23)) ∧ ((¬ l7 < (gI h23 31 0 l4.toNatClampNeg)) → (vp_in l4 12 ∧ (((l5 ≤ (gI h23 28 0 l4.toNatClampNeg)) → (vp_in (gI h23 26 0 2) 120 ∧ (vp_in (gI h23 26 0 2) 120 ∧ (vp_in (gI h23 26 0 2) 120 ∧ (vp_in (gI h23 26 0 2) 120 ∧ (vp_in (gI h23 26 0 2) 120 ∧ (vp_in (gI h23 26 0 2) 120 ∧ (vp_in (gI h23 26 0 2) 120 ∧ (vp_in (gI h23 26 0 2) 120 ∧ (((l1 = 2) → ((((gI (sI (sI (sI (sI (sI (sI (sI (sI (sI h23 26 0 2 ((gI h23 26 0 2) + 1)) 32 0 (gI h23 26 0 2).toNatClampNeg l1) 33 0 (gI h23 26 0 2).toNatClampNeg l2) 34 0 (gI h23 26 0 2).toNatClampNeg l3) 35 0 (gI h23 26 0 2).toNatClampNeg l4) 36 0 (gI h23 26 0 2).toNatClampNeg l5) 37 0 (gI h23 26 0 2).toNatClampNeg l6) 38 0 (gI h23 26 0 2).toNatClampNeg l7) 39 0 (gI h23 26 0 2).toNatClampNeg (gI (sI (sI (sI (sI (sI (sI (sI (sI h23 26 0 2 ((gI h23 26 0 2) + 1)) 32 0 (gI h23 26 0 2).toNatClampNeg l1) 33 0 (gI h23 26 0 2).toNatClampNeg l2) 34 0 (gI h23 26 0 2).toNatClampNeg l3) 35 0 (gI h23 26 0 2).toNatClampNeg l4) 36 0 (gI h23 26 0 2).toNatClampNeg l5) 37 0 (gI h23 26 0 2).toNatClampNeg l6) 38 0 (gI h23 26 0 2).toNatClampNeg l7) 26 0 0)) 26 0 0) < (l7 + 7)) → (vp_in (gI h23 26 0 2) 120 ∧ (vp_in (gI h23 26 0 2) 120 ∧ (vp_in (gI h23 26 0 2) 120 ∧ (vp_in ((364 * l4) + l7) 4368 ∧ (vp_in (gI h23 26 0 2) 120 ∧ (vp_in l4 12 ∧ (vp_in l4 12 ∧ (P (some (aI (gI h23 26 0 2))) (sI (sI (sI (sI (sI (sI (sI (sI (sI (sI (sI (sI (sI (sI h23 26 0 2 ((gI h23 26 0 2) + 1)) 32 0 (gI h23 26 0 2).toNatClampNeg l1) 33 0 (gI h23 26 0 2).toNatClampNeg l2) 34 0 (gI h23 26 0 2).toNatClampNeg l3) 35 0 (gI h23 26 0 2).toNatClampNeg l4) 36 0 (gI h23 26 0 2).toNatClampNeg l5) 37 0 (gI h23 26 0 2).toNatClampNeg l6) 38 0 (gI h23 26 0 2).toNatClampNeg l7) 39 0 (gI h23 26 0 2).toNatClampNeg (gI (sI (sI (sI (sI (sI (sI (sI (sI h23 26 0 2 ((gI h23 26 0 2) + 1)) 32 0 (gI h23 26 0 2).toNatClampNeg l1) 33 0 (gI h23 26 0 2).toNatClampNeg l2) 34 0 (gI h23 26 0 2).toNatClampNeg l3) 35 0 (gI h23 26 0 2).toNatClampNeg l4) 36 0 (gI h23 26 0 2).toNatClampNeg l5) 37 0 (gI h23 26 0 2).toNatClampNeg l6) 38 0 (gI h23 26 0 2).toNatClampNeg l7) 26 0 0)) 40 0 (gI h23 26 0 2).toNatClampNeg (-1)) 41 0 (gI h23 26 0 2).toNatClampNeg (-1)) 42 0 (gI h23 26 0 2).toNatClampNeg (-1)) 43 0 (gI h23 26 0 2).toNatClampNeg (l5 * (gI (sI (sI (sI (sI (sI (sI (sI (sI (sI (sI (sI (sI h23 26 0 2 ((gI h23 26 0 2) + 1)) 32 0 (gI h23 26 0 2).toNatClampNeg l1) 33 0 (gI h23 26 0 2).toNatClampNeg l2) 34 0 (gI h23 26 0 2).toNatClampNeg l3) 35 0 (gI h23 26 0 2).toNatClampNeg l4) 36 0 (gI h23 26 0 2).toNatClampNeg l5) 37 0 (gI h23 26 0 2).toNatClampNeg l6) 38 0 (gI h23 26 0 2).toNatClampNeg l7) 39 0 (gI h23 26 0 2).toNatClampNeg (gI (sI (sI (sI (sI (sI (sI (sI (sI h23 26 0 2 ((gI h23 26 0 2) + 1)) 32 0 (gI h23 26 0 2).toNatClampNeg l1) 33 0 (gI h23 26 0 2).toNatClampNeg l2) 34 0 (gI h23 26 0 2).toNatClampNeg l3) 35 0 (gI h23 26 0 2).toNatClampNeg l4) 36 0 (gI h23 26 0 2).toNatClampNeg l5) 37 0 (gI h23 26 0 2).toNatClampNeg l6) 38 0 (gI h23 26 0 2).toNatClampNeg l7) 26 0 0)) 40 0 (gI h23 26 0 2).toNatClampNeg (-1)) 41 0 (gI h23 26 0 2).toNatClampNeg (-1)) 42 0 (gI h23 26 0 2).toNatClampNeg (-1)) 27 0 ((364 * l4) + l7).toNatClampNeg))) 28 0 l4.toNatClampNeg ((gI (sI (sI (sI (sI (sI (sI (sI (sI (sI (sI (sI (sI (sI h23 26 0 2 ((gI h23 26 0 2) + 1)) 32 0 (gI h23 26 0 2).toNatClampNeg l1) 33 0 (gI h23 26 0 2).toNatClampNeg l2) 34 0 (gI h23 26 0 2).toNatClampNeg l3) 35 0 (gI h23 26 0 2).toNatClampNeg l4) 36 0 (gI h23 26 0 2).toNatClampNeg l5) 37 0 (gI h23 26 0 2).toNatClampNeg l6) 38 0 (gI h23 26 0 2).toNatClampNeg l7) 39 0 (gI h23 26 0 2).toNatClampNeg (gI (sI (sI (sI (sI (sI (sI (sI (sI h23 26 0 2 ((gI h23 26 0 2) + 1)) 32 0 (gI h23 26 0 2).toNatClampNeg l1) 33 0 (gI h23 26 0 2).toNatClampNeg l2) 34 0 (gI h23 26 0 2).toNatClampNeg l3) 35 0 (gI h23 26 0 2).toNatClampNeg l4) 36 0 (gI h23 26 0 2).toNatClampNeg l5) 37 0 (gI h23 26 0 2).toNatClampNeg l6) 38 0 (gI h23 26 0 2).toNatClampNeg l7) 26 0 0)) 40 0 (gI h23 26 0 2).toNatClampNeg (-1)) 41 0 (gI h23 26 0 2).toNatClampNeg (-1)) 42 0 (gI h23 26 0 2).toNatClampNeg (-1)) 43 0 (gI h23 26 0 2).toNatClampNeg (l5 * (gI (sI (sI (sI (sI (sI (sI (sI (sI (sI (sI (sI (sI h23 26 0 2 ((gI h23 26 0 2) + 1)) 32 0 (gI h23 26 0 2).toNatClampNeg l1) 33 0 (gI h23 26 0 2).toNatClampNeg l2) 34 0 (gI h23 26 0 2).toNatClampNeg l3) 35 0 (gI h23 26 0 2).toNatClampNeg l4) 36 0 (gI h23 26 0 2).toNatClampNeg l5) 37 0 (gI h23 26 0 2).toNatClampNeg l6) 38 0 (gI h23 26 0 2).toNatClampNeg l7) 39 0 (gI h23 26 0 2).toNatClampNeg (gI (sI (sI (sI (sI (sI (sI (sI (sI h23 26 0 2 ((gI h23 26 0 2) + 1)) 32 0 (gI h23 26 0 2).toNatClampNeg l1) 33 0 (gI h23 26 0 2).toNatClampNeg l2) 34 0 (gI h23 26 0 2).toNatClampNeg l3) 35 0 (gI h23 26 0 2).toNatClampNeg l4) 36 0 (gI h23 26 0 2).toNatClampNeg l5) 37 0 (gI h23 26 0 2).toNatClampNeg l6) 38 0 (gI h23 26 0 2).toNatClampNeg l7) 26 0 0)) 40 0 (gI h23 26 0 2).toNatClampNeg (-1)) 41 0 (gI h23 26 0 2).toNatClampNeg (-1)) 42 0 (gI h23 26 0 2).toNatClampNeg (-1)) 27 0 ((364 * l4) + l7).toNatClampNeg))) 28 0 l4.toNatClampNeg) - l5))))))))))) ∧ ((¬ (gI (sI (sI (sI (sI (sI (sI (sI (sI (sI h23 26 0 2 ((gI h23 26 0 2) + 1)) 32 0 (gI h23 26 0 2).toNatClampNeg l1) 33 0 (gI h23 26 0 2).toNatClampNeg l2) 34 0 (gI h23 26 0 2).toNatClampNeg l3) 35 0 (gI h23 26 0 2).toNatClampNeg l4) 36 0 (gI h23 26 0 2).toNatClampNeg l5) 37 0 (gI h23 26 0 2).toNatClampNeg l6) 38 0 (gI h23 26 0 2).toNatClampNeg l7) 39 0 (gI h23 26 0 2).toNatClampNeg (gI (sI (sI (sI (sI (sI (sI (sI (sI h23 26 0 2 ((gI h23 26 0 2) + 1)) 32 0 (gI h23 26 0 2).toNatClampNeg l1) 33 0 (gI h23 26 0 2).toNatClampNeg l2) 34 0 (gI h23 26 0 2).toNatClampNeg l3) 35 0 (gI h23 26 0 2).toNatClampNeg l4) 36 0 (gI h23 26 0 2).toNatClampNeg l5) 37 0 (gI h23 26 0 2).toNatClampNeg l6) 38 0 (gI h23 26 0 2).toNatClampNeg l7) 26 0 0)) 26 0 0) < (l7 + 7)) → (vp_in (gI h23 26 0 2) 120 ∧ (vp_in (gI h23 26 0 2) 120 ∧ (vp_in (gI h23 26 0 2) 120 ∧ (vp_in ((364 * l4) + l7) 4368 ∧ (vp_in (gI h23 26 0 2) 120 ∧ (vp_in l4 12 ∧ (vp_in l4 12 ∧ (P (some (aI (gI h23 26 0 2))) (sI (sI (sI (sI (sI (sI (sI (sI (sI (sI (sI (sI (sI (sI h23 26 0 2 ((gI h23 26 0 2) + 1)) 32 0 (gI h23 26 0 2).toNatClampNeg l1) 33 0 (gI h23 26 0 2).toNatClampNeg l2) 34 0 (gI h23 26 0 2).toNatClampNeg l3) 35 0 (gI h23 26 0 2).toNatClampNeg l4) 36 0 (gI h23 26 0 2).toNatClampNeg l5) 37 0 (gI h23 26 0 2).toNatClampNeg l6) 38 0 (gI h23 26 0 2).toNatClampNeg l7) 39 0 (gI h23 26 0 2).toNatClampNeg (gI (sI (sI (sI (sI (sI (sI (sI (sI h23 26 0 2 ((gI h23 26 0 2) + 1)) 32 0 (gI h23 26 0 2).toNatClampNeg l1) 33 0 (gI h23 26 0 2).toNatClampNeg l2) 34 0 (gI h23 26 0 2).toNatClampNeg l3) 35 0 (gI h23 26 0 2).toNatClampNeg l4) 36 0 (gI h23 26 0 2).toNatClampNeg l5) 37 0 (gI h23 26 0 2).toNatClampNeg l6) 38 0 (gI h23 26 0 2).toNatClampNeg l7) 26 0 0)) 40 0 (gI h23 26 0 2).toNatClampNeg (l7 + 7)) 41 0 (gI h23 26 0 2).toNatClampNeg (-1)) 42 0 (gI h23 26 0 2).toNatClampNeg (-1)) 43 0 (gI h23 26 0 2).toNatClampNeg (l5 * (gI (sI (sI (sI (sI (sI (sI (sI (sI (sI (sI (sI (sI h23 26 0 2 ((gI h23 26 0 2) + 1)) 32 0 (gI h23 26 0 2).toNatClampNeg l1) 33 0 (gI h23 26 0 2).toNatClampNeg l2) 34 0 (gI h23 26 0 2).toNatClampNeg l3) 35 0 (gI h23 26 0 2).toNatClampNeg l4) 36 0 (gI h23 26 0 2).toNatClampNeg l5) 37 0 (gI h23 26 0 2).toNatClampNeg l6) 38 0 (gI h23 26 0 2).toNatClampNeg l7) 39 0 (gI h23 26 0 2).toNatClampNeg (gI (sI (sI (sI (sI (sI (sI (sI (sI h23 26 0 2 ((gI h23 26 0 2) + 1)) 32 0 (gI h23 26 0 2).toNatClampNeg l1) 33 0 (gI h23 26 0 2).toNatClampNeg l2) 34 0 (gI h23 26 0 2).toNatClampNeg l3) 35 0 (gI h23 26 0 2).toNatClampNeg l4) 36 0 (gI h23 26 0 2).toNatClampNeg l5) 37 0 (gI h23 26 0 2).toNatClampNeg l6) 38 0 (gI h23 26 0 2).toNatClampNeg l7) 26 0 0)) 40 0 (gI h23 26 0 2).toNatClampNeg (l7 + 7)) 41 0 (gI h23 26 0 2).toNatClampNeg (-1)) 42 0 (gI h23 26 0 2).toNatClampNeg (-1)) 27 0 ((364 * l4) + l7).toNatClampNeg))) 28 0 l4.toNatClampNeg ((gI (sI (sI (sI (sI (sI (sI (sI (sI (sI (sI (sI (sI (sI h23 26 0 2 ((gI h23 26 0 2) + 1)) 32 0 (gI h23 26 0 2).toNatClampNeg l1) 33 0 (gI h23 26 0 2).toNatClampNeg l2) 34 0 (gI h23 26 0 2).toNatClampNeg l3) 35 0 (gI h23 26 0 2).toNatClampNeg l4) 36 0 (gI h23 26 0 2).toNatClampNeg l5) 37 0 (gI h23 26 0 2).toNatClampNeg l6) 38 0 (gI h23 26 0 2).toNatClampNeg l7) 39 0 (gI h23 26 0 2).toNatClampNeg (gI (sI (sI (sI (sI (sI (sI (sI (sI h23 26 0 2 ((gI h23 26 0 2) + 1)) 32 0 (gI h23 26 0 2).toNatClampNeg l1) 33 0 (gI h23 26 0 2).toNatClampNeg l2) 34 0 (gI h23 26 0 2).toNatClampNeg l3) 35 0 (gI h23 26 0 2).toNatClampNeg l4) 36 0 (gI h23 26 0 2).toNatClampNeg l5) 37 0 (gI h23 26 0 2).toNatClampNeg l6) 38 0 (gI h23 26 0 2).toNatClampNeg l7) 26 0 0)) 40 0 (gI h23 26 0 2).toNatClampNeg (l7 + 7)) 41 0 (gI h23 26 0 2).toNatClampNeg (-1)) 42 0 (gI h23 26 0 2).toNatClampNeg (-1)) 43 0 (gI h23 26 0 2).toNatClampNeg (l5 * (gI (sI (sI (sI (sI (sI (sI (sI (sI (sI (sI (sI (sI h23 26 0 2 ((gI h23 26 0 2) + 1)) 32 0 (gI h23 26 0 2).toNatClampNeg l1) 33 0 (gI h23 26 0 2).toNatClampNeg l2) 34 0 (gI h23 26 0 2).toNatClampNeg l3) 35 0 (gI h23 26 0 2).toNatClampNeg l4) 36 0 (gI h23 26 0 2).toNatClampNeg l5) 37 0 (gI h23 26 0 2).toNatClampNeg l6) 38 0 (gI h23 26 0 2).toNatClampNeg l7) 39 0 (gI h23 26 0 2).toNatClampNeg (gI (sI (sI (sI (sI (sI (sI (sI (sI h23 26 0 2 ((gI h23 26 0 2) + 1)) 32 0 (gI h23 26 0 2).toNatClampNeg l1) 33 0 (gI h23 26 0 2).toNatClampNeg l2) 34 0 (gI h23 26 0 2).toNatClampNeg l3) 35 0 (gI h23 26 0 2).toNatClampNeg l4) 36 0 (gI h23 26 0 2).toNatClampNeg l5) 37 0 (gI h23 26 0 2).toNatClampNeg l6) 38 0 (gI h23 26 0 2).toNatClampNeg l7) 26 0 0)) 40 0 (gI h23 26 0 2).toNatClampNeg (l7 + 7)) 41 0 (gI h23 26 0 2).toNatClampNeg (-1)) 42 0 (gI h23 26 0 2).toNatClampNeg (-1)) 27 0 ((364 * l4) + l7).toNatClampNeg))) 28 0 l4.toNatClampNeg) - l5))))))))))))) ∧ ((¬ l1 = 2) → (vp_in (gI h23 26 0 2) 120 ∧ (vp_in (gI h23 26 0 2) 120 ∧ (vp_in (gI h23 26 0 2) 120 ∧ (vp_in ((364 * l4) + l7) 4368 ∧ (vp_in (gI h23 26 0 2) 120 ∧ (vp_in l4 12 ∧ (vp_in l4 12 ∧ (P (some (aI (gI h23 26 0 2))) (sI (sI (sI (sI (sI (sI (sI (sI (sI (sI (sI (sI (sI (sI h23 26 0 2 ((gI h23 26 0 2) + 1)) 32 0 (gI h23 26 0 2).toNatClampNeg l1) 33 0 (gI h23 26 0 2).toNatClampNeg l2) 34 0 (gI h23 26 0 2).toNatClampNeg l3) 35 0 (gI h23 26 0 2).toNatClampNeg l4) 36 0 (gI h23 26 0 2).toNatClampNeg l5) 37 0 (gI h23 26 0 2).toNatClampNeg l6) 38 0 (gI h23 26 0 2).toNatClampNeg l7) 39 0 (gI h23 26 0 2).toNatClampNeg (gI (sI (sI (sI (sI (sI (sI (sI (sI h23 26 0 2 ((gI h23 26 0 2) + 1)) 32 0 (gI h23 26 0 2).toNatClampNeg l1) 33 0 (gI h23 26 0 2).toNatClampNeg l2) 34 0 (gI h23 26 0 2).toNatClampNeg l3) 35 0 (gI h23 26 0 2).toNatClampNeg l4) 36 0 (gI h23 26 0 2).toNatClampNeg l5) 37 0 (gI h23 26 0 2).toNatClampNeg l6) 38 0 (gI h23 26 0 2).toNatClampNeg l7) 26 0 0)) 40 0 (gI h23 26 0 2).toNatClampNeg l7) 41 0 (gI h23 26 0 2).toNatClampNeg (-1)) 42 0 (gI h23 26 0 2).toNatClampNeg (-1)) 43 0 (gI h23 26 0 2).toNatClampNeg (l5 * (gI (sI (sI (sI (sI (sI (sI (sI (sI (sI (sI (sI (sI h23 26 0 2 ((gI h23 26 0 2) + 1)) 32 0 (gI h23 26 0 2).toNatClampNeg l1) 33 0 (gI h23 26 0 2).toNatClampNeg l2) 34 0 (gI h23 26 0 2).toNatClampNeg l3) 35 0 (gI h23 26 0 2).toNatClampNeg l4) 36 0 (gI h23 26 0 2).toNatClampNeg l5) 37 0 (gI h23 26 0 2).toNatClampNeg l6) 38 0 (gI h23 26 0 2).toNatClampNeg l7) 39 0 (gI h23 26 0 2).toNatClampNeg (gI (sI (sI (sI (sI (sI (sI (sI (sI h23 26 0 2 ((gI h23 26 0 2) + 1)) 32 0 (gI h23 26 0 2).toNatClampNeg l1) 33 0 (gI h23 26 0 2).toNatClampNeg l2) 34 0 (gI h23 26 0 2).toNatClampNeg l3) 35 0 (gI h23 26 0 2).toNatClampNeg l4) 36 0 (gI h23 26 0 2).toNatClampNeg l5) 37 0 (gI h23 26 0 2).toNatClampNeg l6) 38 0 (gI h23 26 0 2).toNatClampNeg l7) 26 0 0)) 40 0 (gI h23 26 0 2).toNatClampNeg l7) 41 0 (gI h23 26 0 2).toNatClampNeg (-1)) 42 0 (gI h23 26 0 2).toNatClampNeg (-1)) 27 0 ((364 * l4) + l7).toNatClampNeg))) 28 0 l4.toNatClampNeg ((gI (sI (sI (sI (sI (sI (sI (sI (sI (sI (sI (sI (sI (sI h23 26 0 2 ((gI h23 26 0 2) + 1)) 32 0 (gI h23 26 0 2).toNatClampNeg l1) 33 0 (gI h23 26 0 2).toNatClampNeg l2) 34 0 (gI h23 26 0 2).toNatClampNeg l3) 35 0 (gI h23 26 0 2).toNatClampNeg l4) 36 0 (gI h23 26 0 2).toNatClampNeg l5) 37 0 (gI h23 26 0 2).toNatClampNeg l6) 38 0 (gI h23 26 0 2).toNatClampNeg l7) 39 0 (gI h23 26 0 2).toNatClampNeg (gI (sI (sI (sI (sI (sI (sI (sI (sI h23 26 0 2 ((gI h23 26 0 2) + 1)) 32 0 (gI h23 26 0 2).toNatClampNeg l1) 33 0 (gI h23 26 0 2).toNatClampNeg l2) 34 0 (gI h23 26 0 2).toNatClampNeg l3) 35 0 (gI h23 26 0 2).toNatClampNeg l4) 36 0 (gI h23 26 0 2).toNatClampNeg l5) 37 0 (gI h23 26 0 2).toNatClampNeg l6) 38 0 (gI h23 26 0 2).toNatClampNeg l7) 26 0 0)) 40 0 (gI h23 26 0 2).toNatClampNeg l7) 41 0 (gI h23 26 0 2).toNatClampNeg (-1)) 42 0 (gI h23 26 0 2).toNatClampNeg (-1)) 43 0 (gI h23 26 0 2).toNatClampNeg (l5 * (gI (sI (sI (sI (sI (sI (sI (sI (sI (sI (sI (sI (sI h23 26 0 2 ((gI h23 26 0 2) + 1)) 32 0 (gI h23 26 0 2).toNatClampNeg l1) 33 0 (gI h23 26 0 2).toNatClampNeg l2) 34 0 (gI h23 26 0 2).toNatClampNeg l3) 35 0 (gI h23 26 0 2).toNatClampNeg l4) 36 0 (gI h23 26 0 2).toNatClampNeg l5) 37 0 (gI h23 26 0 2).toNatClampNeg l6) 38 0 (gI h23 26 0 2).toNatClampNeg l7) 39 0 (gI h23 26 0 2).toNatClampNeg (gI (sI (sI (sI (sI (sI (sI (sI (sI h23 26 0 2 ((gI h23 26 0 2) + 1)) 32 0 (gI h23 26 0 2).toNatClampNeg l1) 33 0 (gI h23 26 0 2).toNatClampNeg l2) 34 0 (gI h23 26 0 2).toNatClampNeg l3) 35 0 (gI h23 26 0 2).toNatClampNeg l4) 36 0 (gI h23 26 0 2).toNatClampNeg l5) 37 0 (gI h23 26 0 2).toNatClampNeg l6) 38 0 (gI h23 26 0 2).toNatClampNeg l7) 26 0 0)) 40 0 (gI h23 26 0 2).toNatClampNeg l7) 41 0 (gI h23 26 0 2).toNatClampNeg (-1)) 42 0 (gI h23 26 0 2).toNatClampNeg (-1)) 27 0 ((364 * l4) + l7).toNatClampNeg))) 28 0 l4.toNatClampNeg) - l5))))))))))))))))))))) ∧ ((¬ l5 ≤ (gI h23 28 0 l4.toNatClampNeg)) → (P (some (aI (-1))) h23)))))))))))))) ∧ ((¬ l3 = (-1)) → (P (some (aI (-1))) h14)))))) ∧ (((gI h14 26 0 2) = 120) → (P (some (aI (-1))) h14))))))))))))))))))))))) : Cl true mX10_slip (d + 1) bc bs [aR 26 0, aI l1, aI l2, aI l3, aI l4, aI l5, aI l6, aI l7] h P := by
  refine Cl_of (by decide) (Nat.le_of_ble_eq_true rfl) ?_
  show V true mX10_slip (d + 1) bc bs 0 [(0, aR 26 0), (1, aI l1), (2, aI l2), (3, aI l3), (4, aI l4), (5, aI l5), (6, aI l6), (7, aI l7)] [] h P
  refine V_iload_n 1 dX10_slip_0 rfl rfl ?_
  refine V_iconst 0 dX10_slip_1 (by decide) ?_
  refine V_iconst 2 dX10_slip_2 (by decide) ?_
  refine V_callS (mc := 0) (ms := 0) (as := [aI l1, aI 0, aI 2]) (st := []) dX10_slip_3 okX10_isIn stX10_isIn lkX10_111 rfl (Nat.le_of_ble_eq_true rfl) (Nat.zero_le _) (Nat.zero_le _) (Cl.mono (fun r1 h2 z => ?_) k)
  obtain ⟨x3, rfl, k⟩ := z
  refine V_if_eq 59 dX10_slip_6 (by decide) ⟨fun z => ?_, fun z => ?_⟩
  · replace k := k.1 z
    refine V_iconst (-1) dX10_slip_59 (by decide) ?_
    exact V_ireturn dX10_slip_60 rfl k
  · replace k := k.2 z
    refine V_iload_n 2 dX10_slip_9 rfl rfl ?_
    refine V_iconst 0 dX10_slip_10 (by decide) ?_
    refine V_bipush 7 dX10_slip_11 (by decide) ?_
    refine V_callS (mc := 0) (ms := 0) (as := [aI l2, aI 0, aI 7]) (st := []) dX10_slip_13 okX10_isIn stX10_isIn lkX10_111 rfl (Nat.le_of_ble_eq_true rfl) (Nat.zero_le _) (Nat.zero_le _) (Cl.mono (fun r4 h5 z => ?_) k)
    obtain ⟨x6, rfl, k⟩ := z
    refine V_if_eq 59 dX10_slip_16 (by decide) ⟨fun z => ?_, fun z => ?_⟩
    · replace k := k.1 z
      refine V_iconst (-1) dX10_slip_59 (by decide) ?_
      exact V_ireturn dX10_slip_60 rfl k
    · replace k := k.2 z
      refine V_aload_n 0 dX10_slip_19 rfl rfl ?_
      refine V_iload 4 dX10_slip_20 rfl ?_
      refine V_callV (mc := 0) (ms := 0) (as := [aI l4]) (st := []) (by decide) rt_26 rfl dX10_slip_22 okX10_isThing inX10_isThing seX10_isThing lkX10_122 rfl (Nat.le_of_ble_eq_true rfl) (Nat.zero_le _) (Nat.zero_le _) (Cl.mono (fun r7 h8 z => ?_) k)
      obtain ⟨x9, rfl, k⟩ := z
      refine V_if_eq 59 dX10_slip_25 (by decide) ⟨fun z => ?_, fun z => ?_⟩
      · replace k := k.1 z
        refine V_iconst (-1) dX10_slip_59 (by decide) ?_
        exact V_ireturn dX10_slip_60 rfl k
      · replace k := k.2 z
        refine V_iload 5 dX10_slip_28 rfl ?_
        refine V_iconst 1 dX10_slip_30 (by decide) ?_
        refine V_bipush 99 dX10_slip_31 (by decide) ?_
        refine V_callS (mc := 0) (ms := 0) (as := [aI l5, aI 1, aI 99]) (st := []) dX10_slip_33 okX10_isIn stX10_isIn lkX10_111 rfl (Nat.le_of_ble_eq_true rfl) (Nat.zero_le _) (Nat.zero_le _) (Cl.mono (fun r10 h11 z => ?_) k)
        obtain ⟨x12, rfl, k⟩ := z
        refine V_if_eq 59 dX10_slip_36 (by decide) ⟨fun z => ?_, fun z => ?_⟩
        · replace k := k.1 z
          refine V_iconst (-1) dX10_slip_59 (by decide) ?_
          exact V_ireturn dX10_slip_60 rfl k
        · replace k := k.2 z
          refine V_iload 6 dX10_slip_39 rfl ?_
          refine V_iconst (-1) dX10_slip_41 (by decide) ?_
          refine V_bipush 19 dX10_slip_42 (by decide) ?_
          refine V_callS (mc := 0) (ms := 0) (as := [aI l6, aI (-1), aI 19]) (st := []) dX10_slip_44 okX10_isIn stX10_isIn lkX10_111 rfl (Nat.le_of_ble_eq_true rfl) (Nat.zero_le _) (Nat.zero_le _) (Cl.mono (fun r13 h14 z => ?_) k)
          obtain ⟨x15, rfl, k⟩ := z
          refine V_if_eq 59 dX10_slip_47 (by decide) ⟨fun z => ?_, fun z => ?_⟩
          · replace k := k.1 z
            refine V_iconst (-1) dX10_slip_59 (by decide) ?_
            exact V_ireturn dX10_slip_60 rfl k
          · replace k := k.2 z
            refine V_aload_n 0 dX10_slip_50 rfl rfl ?_
            refine GI_26_2 dX10_slip_51 lkX10_125 ?_
            refine V_bipush 120 dX10_slip_54 (by decide) ?_
            refine V_icmp_ne 61 dX10_slip_56 (by decide) ⟨fun z => ?_, fun z => ?_⟩
            · replace k := k.1 z
              refine V_iload_n 1 dX10_slip_61 rfl rfl ?_
              refine V_if_ne 73 dX10_slip_62 (by decide) ⟨fun z => ?_, fun z => ?_⟩
              · replace k := k.1 z
                refine V_iload_n 3 dX10_slip_73 rfl rfl ?_
                refine V_iconst 0 dX10_slip_74 (by decide) ?_
                refine V_bipush 9 dX10_slip_75 (by decide) ?_
                refine V_callS (mc := 0) (ms := 0) (as := [aI l3, aI 0, aI 9]) (st := []) dX10_slip_77 okX10_isIn stX10_isIn lkX10_111 rfl (Nat.le_of_ble_eq_true rfl) (Nat.zero_le _) (Nat.zero_le _) (Cl.mono (fun r16 h17 z => ?_) k)
                obtain ⟨x18, rfl, k⟩ := z
                refine V_if_ne 85 dX10_slip_80 (by decide) ⟨fun z => ?_, fun z => ?_⟩
                · replace k := k.1 z
                  refine V_iload 7 dX10_slip_85 rfl ?_
                  refine V_aload_n 0 dX10_slip_87 rfl rfl ?_
                  refine GI_26_0 dX10_slip_88 lkX10_119 ?_
                  refine V_bipush 28 dX10_slip_91 (by decide) ?_
                  refine V_isub dX10_slip_93 ?_
                  refine V_aload_n 0 dX10_slip_94 rfl rfl ?_
                  refine GI_26_0 dX10_slip_95 lkX10_119 ?_
                  refine V_callS (mc := 0) (ms := 0) (as := [aI l7, aI ((gI h17 26 0 0) - 28), aI (gI h17 26 0 0)]) (st := []) dX10_slip_98 okX10_isIn stX10_isIn lkX10_111 rfl (Nat.le_of_ble_eq_true rfl) (Nat.zero_le _) (Nat.zero_le _) (Cl.mono (fun r19 h20 z => ?_) k)
                  obtain ⟨x21, rfl, k⟩ := z
                  refine V_if_eq 133 dX10_slip_101 (by decide) ⟨fun z => ?_, fun z => ?_⟩
                  · replace k := k.1 z
                    refine V_iconst (-1) dX10_slip_133 (by decide) ?_
                    exact V_ireturn dX10_slip_134 rfl k
                  · replace k := k.2 z
                    refine V_iload 7 dX10_slip_104 rfl ?_
                    refine V_if_lt 133 dX10_slip_106 (by decide) ⟨fun z => ?_, fun z => ?_⟩
                    · replace k := k.1 z
                      refine V_iconst (-1) dX10_slip_133 (by decide) ?_
                      exact V_ireturn dX10_slip_134 rfl k
                    · replace k := k.2 z
                      refine V_aload_n 0 dX10_slip_109 rfl rfl ?_
                      refine GS_26_7 dX10_slip_110 lkX10_22 ?_
                      refine V_iload 4 dX10_slip_113 rfl ?_
                      refine V_iald (by decide) rt_31 dX10_slip_115 k.1 ?_
                      replace k := k.2
                      refine V_iload 7 dX10_slip_116 rfl ?_
                      refine V_icmp_gt 133 dX10_slip_118 (by decide) ⟨fun z => ?_, fun z => ?_⟩
                      · replace k := k.1 z
                        refine V_iconst (-1) dX10_slip_133 (by decide) ?_
                        exact V_ireturn dX10_slip_134 rfl k
                      · replace k := k.2 z
                        refine V_aload_n 0 dX10_slip_121 rfl rfl ?_
                        refine GS_26_4 dX10_slip_122 lkX10_13 ?_
                        refine V_iload 4 dX10_slip_125 rfl ?_
                        refine V_iald (by decide) rt_28 dX10_slip_127 k.1 ?_
                        replace k := k.2
                        refine V_iload 5 dX10_slip_128 rfl ?_
                        refine V_icmp_ge 135 dX10_slip_130 (by decide) ⟨fun z => ?_, fun z => ?_⟩
                        · replace k := k.1 z
                          refine V_aload_n 0 dX10_slip_135 rfl rfl ?_
                          refine GI_26_2 dX10_slip_136 lkX10_125 ?_
                          refine V_istore 8 dX10_slip_139 (by decide) rfl ?_
                          refine V_aload_n 0 dX10_slip_141 rfl rfl ?_
                          refine V_dup dX10_slip_142 rfl ?_
                          refine GI_26_2 dX10_slip_143 lkX10_125 ?_
                          refine V_iconst 1 dX10_slip_146 (by decide) ?_
                          refine V_iadd dX10_slip_147 ?_
                          refine PI_26_2 dX10_slip_148 lkX10_125 ?_
                          refine V_aload_n 0 dX10_slip_151 rfl rfl ?_
                          refine GS_26_8 dX10_slip_152 lkX10_25 ?_
                          refine V_iload 8 dX10_slip_155 rfl ?_
                          refine V_iload_n 1 dX10_slip_157 rfl rfl ?_
                          refine V_iast (by decide) rt_32 dX10_slip_158 k.1 ?_
                          replace k := k.2
                          refine V_aload_n 0 dX10_slip_159 rfl rfl ?_
                          refine GS_26_9 dX10_slip_160 lkX10_28 ?_
                          refine V_iload 8 dX10_slip_163 rfl ?_
                          refine V_iload_n 2 dX10_slip_165 rfl rfl ?_
                          refine V_iast (by decide) rt_33 dX10_slip_166 k.1 ?_
                          replace k := k.2
                          refine V_aload_n 0 dX10_slip_167 rfl rfl ?_
                          refine GS_26_10 dX10_slip_168 lkX10_31 ?_
                          refine V_iload 8 dX10_slip_171 rfl ?_
                          refine V_iload_n 3 dX10_slip_173 rfl rfl ?_
                          refine V_iast (by decide) rt_34 dX10_slip_174 k.1 ?_
                          replace k := k.2
                          refine V_aload_n 0 dX10_slip_175 rfl rfl ?_
                          refine GS_26_11 dX10_slip_176 lkX10_34 ?_
                          refine V_iload 8 dX10_slip_179 rfl ?_
                          refine V_iload 4 dX10_slip_181 rfl ?_
                          refine V_iast (by decide) rt_35 dX10_slip_183 k.1 ?_
                          replace k := k.2
                          refine V_aload_n 0 dX10_slip_184 rfl rfl ?_
                          refine GS_26_12 dX10_slip_185 lkX10_37 ?_
                          refine V_iload 8 dX10_slip_188 rfl ?_
                          refine V_iload 5 dX10_slip_190 rfl ?_
                          refine V_iast (by decide) rt_36 dX10_slip_192 k.1 ?_
                          replace k := k.2
                          refine V_aload_n 0 dX10_slip_193 rfl rfl ?_
                          refine GS_26_13 dX10_slip_194 lkX10_40 ?_
                          refine V_iload 8 dX10_slip_197 rfl ?_
                          refine V_iload 6 dX10_slip_199 rfl ?_
                          refine V_iast (by decide) rt_37 dX10_slip_201 k.1 ?_
                          replace k := k.2
                          refine V_aload_n 0 dX10_slip_202 rfl rfl ?_
                          refine GS_26_14 dX10_slip_203 lkX10_43 ?_
                          refine V_iload 8 dX10_slip_206 rfl ?_
                          refine V_iload 7 dX10_slip_208 rfl ?_
                          refine V_iast (by decide) rt_38 dX10_slip_210 k.1 ?_
                          replace k := k.2
                          refine V_aload_n 0 dX10_slip_211 rfl rfl ?_
                          refine GS_26_15 dX10_slip_212 lkX10_46 ?_
                          refine V_iload 8 dX10_slip_215 rfl ?_
                          refine V_aload_n 0 dX10_slip_217 rfl rfl ?_
                          refine GI_26_0 dX10_slip_218 lkX10_119 ?_
                          refine V_iast (by decide) rt_39 dX10_slip_221 k.1 ?_
                          replace k := k.2
                          refine V_aload_n 0 dX10_slip_222 rfl rfl ?_
                          refine GS_26_16 dX10_slip_223 lkX10_49 ?_
                          refine V_iload 8 dX10_slip_226 rfl ?_
                          refine V_iload_n 1 dX10_slip_228 rfl rfl ?_
                          refine V_iconst 2 dX10_slip_229 (by decide) ?_
                          refine V_icmp_eq 238 dX10_slip_230 (by decide) ⟨fun z => ?_, fun z => ?_⟩
                          · replace k := k.1 z
                            refine V_iload 7 dX10_slip_238 rfl ?_
                            refine V_bipush 7 dX10_slip_240 (by decide) ?_
                            refine V_iadd dX10_slip_242 ?_
                            refine V_aload_n 0 dX10_slip_243 rfl rfl ?_
                            refine GI_26_0 dX10_slip_244 lkX10_119 ?_
                            refine V_icmp_gt 258 dX10_slip_247 (by decide) ⟨fun z => ?_, fun z => ?_⟩
                            · replace k := k.1 z
                              refine V_iconst (-1) dX10_slip_258 (by decide) ?_
                              refine V_iast (by decide) rt_40 dX10_slip_259 k.1 ?_
                              replace k := k.2
                              refine V_aload_n 0 dX10_slip_260 rfl rfl ?_
                              refine GS_26_17 dX10_slip_261 lkX10_52 ?_
                              refine V_iload 8 dX10_slip_264 rfl ?_
                              refine V_iconst (-1) dX10_slip_266 (by decide) ?_
                              refine V_iast (by decide) rt_41 dX10_slip_267 k.1 ?_
                              replace k := k.2
                              refine V_aload_n 0 dX10_slip_268 rfl rfl ?_
                              refine GS_26_18 dX10_slip_269 lkX10_55 ?_
                              refine V_iload 8 dX10_slip_272 rfl ?_
                              refine V_iconst (-1) dX10_slip_274 (by decide) ?_
                              refine V_iast (by decide) rt_42 dX10_slip_275 k.1 ?_
                              replace k := k.2
                              refine V_aload_n 0 dX10_slip_276 rfl rfl ?_
                              refine GS_26_19 dX10_slip_277 lkX10_58 ?_
                              refine V_iload 8 dX10_slip_280 rfl ?_
                              refine V_iload 5 dX10_slip_282 rfl ?_
                              refine V_aload_n 0 dX10_slip_284 rfl rfl ?_
                              refine GS_26_3 dX10_slip_285 lkX10_7 ?_
                              refine V_sipush 364 dX10_slip_288 (by decide) ?_
                              refine V_iload 4 dX10_slip_291 rfl ?_
                              refine V_imul dX10_slip_293 ?_
                              refine V_iload 7 dX10_slip_294 rfl ?_
                              refine V_iadd dX10_slip_296 ?_
                              refine V_iald (by decide) rt_27 dX10_slip_297 k.1 ?_
                              replace k := k.2
                              refine V_imul dX10_slip_298 ?_
                              refine V_iast (by decide) rt_43 dX10_slip_299 k.1 ?_
                              replace k := k.2
                              refine V_aload_n 0 dX10_slip_300 rfl rfl ?_
                              refine GS_26_4 dX10_slip_301 lkX10_13 ?_
                              refine V_iload 4 dX10_slip_304 rfl ?_
                              refine V_dup2 dX10_slip_306 rfl rfl ?_
                              refine V_iald (by decide) rt_28 dX10_slip_307 k.1 ?_
                              replace k := k.2
                              refine V_iload 5 dX10_slip_308 rfl ?_
                              refine V_isub dX10_slip_310 ?_
                              refine V_iast (by decide) rt_28 dX10_slip_311 k.1 ?_
                              replace k := k.2
                              refine V_iload 8 dX10_slip_312 rfl ?_
                              exact V_ireturn dX10_slip_314 rfl k
                            · replace k := k.2 z
                              refine V_iload 7 dX10_slip_250 rfl ?_
                              refine V_bipush 7 dX10_slip_252 (by decide) ?_
                              refine V_iadd dX10_slip_254 ?_
                              refine V_goto 259 dX10_slip_255 (by decide) ?_
                              refine V_iast (by decide) rt_40 dX10_slip_259 k.1 ?_
                              replace k := k.2
                              refine V_aload_n 0 dX10_slip_260 rfl rfl ?_
                              refine GS_26_17 dX10_slip_261 lkX10_52 ?_
                              refine V_iload 8 dX10_slip_264 rfl ?_
                              refine V_iconst (-1) dX10_slip_266 (by decide) ?_
                              refine V_iast (by decide) rt_41 dX10_slip_267 k.1 ?_
                              replace k := k.2
                              refine V_aload_n 0 dX10_slip_268 rfl rfl ?_
                              refine GS_26_18 dX10_slip_269 lkX10_55 ?_
                              refine V_iload 8 dX10_slip_272 rfl ?_
                              refine V_iconst (-1) dX10_slip_274 (by decide) ?_
                              refine V_iast (by decide) rt_42 dX10_slip_275 k.1 ?_
                              replace k := k.2
                              refine V_aload_n 0 dX10_slip_276 rfl rfl ?_
                              refine GS_26_19 dX10_slip_277 lkX10_58 ?_
                              refine V_iload 8 dX10_slip_280 rfl ?_
                              refine V_iload 5 dX10_slip_282 rfl ?_
                              refine V_aload_n 0 dX10_slip_284 rfl rfl ?_
                              refine GS_26_3 dX10_slip_285 lkX10_7 ?_
                              refine V_sipush 364 dX10_slip_288 (by decide) ?_
                              refine V_iload 4 dX10_slip_291 rfl ?_
                              refine V_imul dX10_slip_293 ?_
                              refine V_iload 7 dX10_slip_294 rfl ?_
                              refine V_iadd dX10_slip_296 ?_
                              refine V_iald (by decide) rt_27 dX10_slip_297 k.1 ?_
                              replace k := k.2
                              refine V_imul dX10_slip_298 ?_
                              refine V_iast (by decide) rt_43 dX10_slip_299 k.1 ?_
                              replace k := k.2
                              refine V_aload_n 0 dX10_slip_300 rfl rfl ?_
                              refine GS_26_4 dX10_slip_301 lkX10_13 ?_
                              refine V_iload 4 dX10_slip_304 rfl ?_
                              refine V_dup2 dX10_slip_306 rfl rfl ?_
                              refine V_iald (by decide) rt_28 dX10_slip_307 k.1 ?_
                              replace k := k.2
                              refine V_iload 5 dX10_slip_308 rfl ?_
                              refine V_isub dX10_slip_310 ?_
                              refine V_iast (by decide) rt_28 dX10_slip_311 k.1 ?_
                              replace k := k.2
                              refine V_iload 8 dX10_slip_312 rfl ?_
                              exact V_ireturn dX10_slip_314 rfl k
                          · replace k := k.2 z
                            refine V_iload 7 dX10_slip_233 rfl ?_
                            refine V_goto 259 dX10_slip_235 (by decide) ?_
                            refine V_iast (by decide) rt_40 dX10_slip_259 k.1 ?_
                            replace k := k.2
                            refine V_aload_n 0 dX10_slip_260 rfl rfl ?_
                            refine GS_26_17 dX10_slip_261 lkX10_52 ?_
                            refine V_iload 8 dX10_slip_264 rfl ?_
                            refine V_iconst (-1) dX10_slip_266 (by decide) ?_
                            refine V_iast (by decide) rt_41 dX10_slip_267 k.1 ?_
                            replace k := k.2
                            refine V_aload_n 0 dX10_slip_268 rfl rfl ?_
                            refine GS_26_18 dX10_slip_269 lkX10_55 ?_
                            refine V_iload 8 dX10_slip_272 rfl ?_
                            refine V_iconst (-1) dX10_slip_274 (by decide) ?_
                            refine V_iast (by decide) rt_42 dX10_slip_275 k.1 ?_
                            replace k := k.2
                            refine V_aload_n 0 dX10_slip_276 rfl rfl ?_
                            refine GS_26_19 dX10_slip_277 lkX10_58 ?_
                            refine V_iload 8 dX10_slip_280 rfl ?_
                            refine V_iload 5 dX10_slip_282 rfl ?_
                            refine V_aload_n 0 dX10_slip_284 rfl rfl ?_
                            refine GS_26_3 dX10_slip_285 lkX10_7 ?_
                            refine V_sipush 364 dX10_slip_288 (by decide) ?_
                            refine V_iload 4 dX10_slip_291 rfl ?_
                            refine V_imul dX10_slip_293 ?_
                            refine V_iload 7 dX10_slip_294 rfl ?_
                            refine V_iadd dX10_slip_296 ?_
                            refine V_iald (by decide) rt_27 dX10_slip_297 k.1 ?_
                            replace k := k.2
                            refine V_imul dX10_slip_298 ?_
                            refine V_iast (by decide) rt_43 dX10_slip_299 k.1 ?_
                            replace k := k.2
                            refine V_aload_n 0 dX10_slip_300 rfl rfl ?_
                            refine GS_26_4 dX10_slip_301 lkX10_13 ?_
                            refine V_iload 4 dX10_slip_304 rfl ?_
                            refine V_dup2 dX10_slip_306 rfl rfl ?_
                            refine V_iald (by decide) rt_28 dX10_slip_307 k.1 ?_
                            replace k := k.2
                            refine V_iload 5 dX10_slip_308 rfl ?_
                            refine V_isub dX10_slip_310 ?_
                            refine V_iast (by decide) rt_28 dX10_slip_311 k.1 ?_
                            replace k := k.2
                            refine V_iload 8 dX10_slip_312 rfl ?_
                            exact V_ireturn dX10_slip_314 rfl k
                        · replace k := k.2 z
                          refine V_iconst (-1) dX10_slip_133 (by decide) ?_
                          exact V_ireturn dX10_slip_134 rfl k
                · replace k := k.2 z
                  refine V_iconst (-1) dX10_slip_83 (by decide) ?_
                  exact V_ireturn dX10_slip_84 rfl k
              · replace k := k.2 z
                refine V_iload_n 3 dX10_slip_65 rfl rfl ?_
                refine V_iconst (-1) dX10_slip_66 (by decide) ?_
                refine V_icmp_eq 85 dX10_slip_67 (by decide) ⟨fun z => ?_, fun z => ?_⟩
                · replace k := k.1 z
                  refine V_iload 7 dX10_slip_85 rfl ?_
                  refine V_aload_n 0 dX10_slip_87 rfl rfl ?_
                  refine GI_26_0 dX10_slip_88 lkX10_119 ?_
                  refine V_bipush 28 dX10_slip_91 (by decide) ?_
                  refine V_isub dX10_slip_93 ?_
                  refine V_aload_n 0 dX10_slip_94 rfl rfl ?_
                  refine GI_26_0 dX10_slip_95 lkX10_119 ?_
                  refine V_callS (mc := 0) (ms := 0) (as := [aI l7, aI ((gI h14 26 0 0) - 28), aI (gI h14 26 0 0)]) (st := []) dX10_slip_98 okX10_isIn stX10_isIn lkX10_111 rfl (Nat.le_of_ble_eq_true rfl) (Nat.zero_le _) (Nat.zero_le _) (Cl.mono (fun r22 h23 z => ?_) k)
                  obtain ⟨x24, rfl, k⟩ := z
                  refine V_if_eq 133 dX10_slip_101 (by decide) ⟨fun z => ?_, fun z => ?_⟩
                  · replace k := k.1 z
                    refine V_iconst (-1) dX10_slip_133 (by decide) ?_
                    exact V_ireturn dX10_slip_134 rfl k
                  · replace k := k.2 z
                    refine V_iload 7 dX10_slip_104 rfl ?_
                    refine V_if_lt 133 dX10_slip_106 (by decide) ⟨fun z => ?_, fun z => ?_⟩
                    · replace k := k.1 z
                      refine V_iconst (-1) dX10_slip_133 (by decide) ?_
                      exact V_ireturn dX10_slip_134 rfl k
                    · replace k := k.2 z
                      refine V_aload_n 0 dX10_slip_109 rfl rfl ?_
                      refine GS_26_7 dX10_slip_110 lkX10_22 ?_
                      refine V_iload 4 dX10_slip_113 rfl ?_
                      refine V_iald (by decide) rt_31 dX10_slip_115 k.1 ?_
                      replace k := k.2
                      refine V_iload 7 dX10_slip_116 rfl ?_
                      refine V_icmp_gt 133 dX10_slip_118 (by decide) ⟨fun z => ?_, fun z => ?_⟩
                      · replace k := k.1 z
                        refine V_iconst (-1) dX10_slip_133 (by decide) ?_
                        exact V_ireturn dX10_slip_134 rfl k
                      · replace k := k.2 z
                        refine V_aload_n 0 dX10_slip_121 rfl rfl ?_
                        refine GS_26_4 dX10_slip_122 lkX10_13 ?_
                        refine V_iload 4 dX10_slip_125 rfl ?_
                        refine V_iald (by decide) rt_28 dX10_slip_127 k.1 ?_
                        replace k := k.2
                        refine V_iload 5 dX10_slip_128 rfl ?_
                        refine V_icmp_ge 135 dX10_slip_130 (by decide) ⟨fun z => ?_, fun z => ?_⟩
                        · replace k := k.1 z
                          refine V_aload_n 0 dX10_slip_135 rfl rfl ?_
                          refine GI_26_2 dX10_slip_136 lkX10_125 ?_
                          refine V_istore 8 dX10_slip_139 (by decide) rfl ?_
                          refine V_aload_n 0 dX10_slip_141 rfl rfl ?_
                          refine V_dup dX10_slip_142 rfl ?_
                          refine GI_26_2 dX10_slip_143 lkX10_125 ?_
                          refine V_iconst 1 dX10_slip_146 (by decide) ?_
                          refine V_iadd dX10_slip_147 ?_
                          refine PI_26_2 dX10_slip_148 lkX10_125 ?_
                          refine V_aload_n 0 dX10_slip_151 rfl rfl ?_
                          refine GS_26_8 dX10_slip_152 lkX10_25 ?_
                          refine V_iload 8 dX10_slip_155 rfl ?_
                          refine V_iload_n 1 dX10_slip_157 rfl rfl ?_
                          refine V_iast (by decide) rt_32 dX10_slip_158 k.1 ?_
                          replace k := k.2
                          refine V_aload_n 0 dX10_slip_159 rfl rfl ?_
                          refine GS_26_9 dX10_slip_160 lkX10_28 ?_
                          refine V_iload 8 dX10_slip_163 rfl ?_
                          refine V_iload_n 2 dX10_slip_165 rfl rfl ?_
                          refine V_iast (by decide) rt_33 dX10_slip_166 k.1 ?_
                          replace k := k.2
                          refine V_aload_n 0 dX10_slip_167 rfl rfl ?_
                          refine GS_26_10 dX10_slip_168 lkX10_31 ?_
                          refine V_iload 8 dX10_slip_171 rfl ?_
                          refine V_iload_n 3 dX10_slip_173 rfl rfl ?_
                          refine V_iast (by decide) rt_34 dX10_slip_174 k.1 ?_
                          replace k := k.2
                          refine V_aload_n 0 dX10_slip_175 rfl rfl ?_
                          refine GS_26_11 dX10_slip_176 lkX10_34 ?_
                          refine V_iload 8 dX10_slip_179 rfl ?_
                          refine V_iload 4 dX10_slip_181 rfl ?_
                          refine V_iast (by decide) rt_35 dX10_slip_183 k.1 ?_
                          replace k := k.2
                          refine V_aload_n 0 dX10_slip_184 rfl rfl ?_
                          refine GS_26_12 dX10_slip_185 lkX10_37 ?_
                          refine V_iload 8 dX10_slip_188 rfl ?_
                          refine V_iload 5 dX10_slip_190 rfl ?_
                          refine V_iast (by decide) rt_36 dX10_slip_192 k.1 ?_
                          replace k := k.2
                          refine V_aload_n 0 dX10_slip_193 rfl rfl ?_
                          refine GS_26_13 dX10_slip_194 lkX10_40 ?_
                          refine V_iload 8 dX10_slip_197 rfl ?_
                          refine V_iload 6 dX10_slip_199 rfl ?_
                          refine V_iast (by decide) rt_37 dX10_slip_201 k.1 ?_
                          replace k := k.2
                          refine V_aload_n 0 dX10_slip_202 rfl rfl ?_
                          refine GS_26_14 dX10_slip_203 lkX10_43 ?_
                          refine V_iload 8 dX10_slip_206 rfl ?_
                          refine V_iload 7 dX10_slip_208 rfl ?_
                          refine V_iast (by decide) rt_38 dX10_slip_210 k.1 ?_
                          replace k := k.2
                          refine V_aload_n 0 dX10_slip_211 rfl rfl ?_
                          refine GS_26_15 dX10_slip_212 lkX10_46 ?_
                          refine V_iload 8 dX10_slip_215 rfl ?_
                          refine V_aload_n 0 dX10_slip_217 rfl rfl ?_
                          refine GI_26_0 dX10_slip_218 lkX10_119 ?_
                          refine V_iast (by decide) rt_39 dX10_slip_221 k.1 ?_
                          replace k := k.2
                          refine V_aload_n 0 dX10_slip_222 rfl rfl ?_
                          refine GS_26_16 dX10_slip_223 lkX10_49 ?_
                          refine V_iload 8 dX10_slip_226 rfl ?_
                          refine V_iload_n 1 dX10_slip_228 rfl rfl ?_
                          refine V_iconst 2 dX10_slip_229 (by decide) ?_
                          refine V_icmp_eq 238 dX10_slip_230 (by decide) ⟨fun z => ?_, fun z => ?_⟩
                          · replace k := k.1 z
                            refine V_iload 7 dX10_slip_238 rfl ?_
                            refine V_bipush 7 dX10_slip_240 (by decide) ?_
                            refine V_iadd dX10_slip_242 ?_
                            refine V_aload_n 0 dX10_slip_243 rfl rfl ?_
                            refine GI_26_0 dX10_slip_244 lkX10_119 ?_
                            refine V_icmp_gt 258 dX10_slip_247 (by decide) ⟨fun z => ?_, fun z => ?_⟩
                            · replace k := k.1 z
                              refine V_iconst (-1) dX10_slip_258 (by decide) ?_
                              refine V_iast (by decide) rt_40 dX10_slip_259 k.1 ?_
                              replace k := k.2
                              refine V_aload_n 0 dX10_slip_260 rfl rfl ?_
                              refine GS_26_17 dX10_slip_261 lkX10_52 ?_
                              refine V_iload 8 dX10_slip_264 rfl ?_
                              refine V_iconst (-1) dX10_slip_266 (by decide) ?_
                              refine V_iast (by decide) rt_41 dX10_slip_267 k.1 ?_
                              replace k := k.2
                              refine V_aload_n 0 dX10_slip_268 rfl rfl ?_
                              refine GS_26_18 dX10_slip_269 lkX10_55 ?_
                              refine V_iload 8 dX10_slip_272 rfl ?_
                              refine V_iconst (-1) dX10_slip_274 (by decide) ?_
                              refine V_iast (by decide) rt_42 dX10_slip_275 k.1 ?_
                              replace k := k.2
                              refine V_aload_n 0 dX10_slip_276 rfl rfl ?_
                              refine GS_26_19 dX10_slip_277 lkX10_58 ?_
                              refine V_iload 8 dX10_slip_280 rfl ?_
                              refine V_iload 5 dX10_slip_282 rfl ?_
                              refine V_aload_n 0 dX10_slip_284 rfl rfl ?_
                              refine GS_26_3 dX10_slip_285 lkX10_7 ?_
                              refine V_sipush 364 dX10_slip_288 (by decide) ?_
                              refine V_iload 4 dX10_slip_291 rfl ?_
                              refine V_imul dX10_slip_293 ?_
                              refine V_iload 7 dX10_slip_294 rfl ?_
                              refine V_iadd dX10_slip_296 ?_
                              refine V_iald (by decide) rt_27 dX10_slip_297 k.1 ?_
                              replace k := k.2
                              refine V_imul dX10_slip_298 ?_
                              refine V_iast (by decide) rt_43 dX10_slip_299 k.1 ?_
                              replace k := k.2
                              refine V_aload_n 0 dX10_slip_300 rfl rfl ?_
                              refine GS_26_4 dX10_slip_301 lkX10_13 ?_
                              refine V_iload 4 dX10_slip_304 rfl ?_
                              refine V_dup2 dX10_slip_306 rfl rfl ?_
                              refine V_iald (by decide) rt_28 dX10_slip_307 k.1 ?_
                              replace k := k.2
                              refine V_iload 5 dX10_slip_308 rfl ?_
                              refine V_isub dX10_slip_310 ?_
                              refine V_iast (by decide) rt_28 dX10_slip_311 k.1 ?_
                              replace k := k.2
                              refine V_iload 8 dX10_slip_312 rfl ?_
                              exact V_ireturn dX10_slip_314 rfl k
                            · replace k := k.2 z
                              refine V_iload 7 dX10_slip_250 rfl ?_
                              refine V_bipush 7 dX10_slip_252 (by decide) ?_
                              refine V_iadd dX10_slip_254 ?_
                              refine V_goto 259 dX10_slip_255 (by decide) ?_
                              refine V_iast (by decide) rt_40 dX10_slip_259 k.1 ?_
                              replace k := k.2
                              refine V_aload_n 0 dX10_slip_260 rfl rfl ?_
                              refine GS_26_17 dX10_slip_261 lkX10_52 ?_
                              refine V_iload 8 dX10_slip_264 rfl ?_
                              refine V_iconst (-1) dX10_slip_266 (by decide) ?_
                              refine V_iast (by decide) rt_41 dX10_slip_267 k.1 ?_
                              replace k := k.2
                              refine V_aload_n 0 dX10_slip_268 rfl rfl ?_
                              refine GS_26_18 dX10_slip_269 lkX10_55 ?_
                              refine V_iload 8 dX10_slip_272 rfl ?_
                              refine V_iconst (-1) dX10_slip_274 (by decide) ?_
                              refine V_iast (by decide) rt_42 dX10_slip_275 k.1 ?_
                              replace k := k.2
                              refine V_aload_n 0 dX10_slip_276 rfl rfl ?_
                              refine GS_26_19 dX10_slip_277 lkX10_58 ?_
                              refine V_iload 8 dX10_slip_280 rfl ?_
                              refine V_iload 5 dX10_slip_282 rfl ?_
                              refine V_aload_n 0 dX10_slip_284 rfl rfl ?_
                              refine GS_26_3 dX10_slip_285 lkX10_7 ?_
                              refine V_sipush 364 dX10_slip_288 (by decide) ?_
                              refine V_iload 4 dX10_slip_291 rfl ?_
                              refine V_imul dX10_slip_293 ?_
                              refine V_iload 7 dX10_slip_294 rfl ?_
                              refine V_iadd dX10_slip_296 ?_
                              refine V_iald (by decide) rt_27 dX10_slip_297 k.1 ?_
                              replace k := k.2
                              refine V_imul dX10_slip_298 ?_
                              refine V_iast (by decide) rt_43 dX10_slip_299 k.1 ?_
                              replace k := k.2
                              refine V_aload_n 0 dX10_slip_300 rfl rfl ?_
                              refine GS_26_4 dX10_slip_301 lkX10_13 ?_
                              refine V_iload 4 dX10_slip_304 rfl ?_
                              refine V_dup2 dX10_slip_306 rfl rfl ?_
                              refine V_iald (by decide) rt_28 dX10_slip_307 k.1 ?_
                              replace k := k.2
                              refine V_iload 5 dX10_slip_308 rfl ?_
                              refine V_isub dX10_slip_310 ?_
                              refine V_iast (by decide) rt_28 dX10_slip_311 k.1 ?_
                              replace k := k.2
                              refine V_iload 8 dX10_slip_312 rfl ?_
                              exact V_ireturn dX10_slip_314 rfl k
                          · replace k := k.2 z
                            refine V_iload 7 dX10_slip_233 rfl ?_
                            refine V_goto 259 dX10_slip_235 (by decide) ?_
                            refine V_iast (by decide) rt_40 dX10_slip_259 k.1 ?_
                            replace k := k.2
                            refine V_aload_n 0 dX10_slip_260 rfl rfl ?_
                            refine GS_26_17 dX10_slip_261 lkX10_52 ?_
                            refine V_iload 8 dX10_slip_264 rfl ?_
                            refine V_iconst (-1) dX10_slip_266 (by decide) ?_
                            refine V_iast (by decide) rt_41 dX10_slip_267 k.1 ?_
                            replace k := k.2
                            refine V_aload_n 0 dX10_slip_268 rfl rfl ?_
                            refine GS_26_18 dX10_slip_269 lkX10_55 ?_
                            refine V_iload 8 dX10_slip_272 rfl ?_
                            refine V_iconst (-1) dX10_slip_274 (by decide) ?_
                            refine V_iast (by decide) rt_42 dX10_slip_275 k.1 ?_
                            replace k := k.2
                            refine V_aload_n 0 dX10_slip_276 rfl rfl ?_
                            refine GS_26_19 dX10_slip_277 lkX10_58 ?_
                            refine V_iload 8 dX10_slip_280 rfl ?_
                            refine V_iload 5 dX10_slip_282 rfl ?_
                            refine V_aload_n 0 dX10_slip_284 rfl rfl ?_
                            refine GS_26_3 dX10_slip_285 lkX10_7 ?_
                            refine V_sipush 364 dX10_slip_288 (by decide) ?_
                            refine V_iload 4 dX10_slip_291 rfl ?_
                            refine V_imul dX10_slip_293 ?_
                            refine V_iload 7 dX10_slip_294 rfl ?_
                            refine V_iadd dX10_slip_296 ?_
                            refine V_iald (by decide) rt_27 dX10_slip_297 k.1 ?_
                            replace k := k.2
                            refine V_imul dX10_slip_298 ?_
                            refine V_iast (by decide) rt_43 dX10_slip_299 k.1 ?_
                            replace k := k.2
                            refine V_aload_n 0 dX10_slip_300 rfl rfl ?_
                            refine GS_26_4 dX10_slip_301 lkX10_13 ?_
                            refine V_iload 4 dX10_slip_304 rfl ?_
                            refine V_dup2 dX10_slip_306 rfl rfl ?_
                            refine V_iald (by decide) rt_28 dX10_slip_307 k.1 ?_
                            replace k := k.2
                            refine V_iload 5 dX10_slip_308 rfl ?_
                            refine V_isub dX10_slip_310 ?_
                            refine V_iast (by decide) rt_28 dX10_slip_311 k.1 ?_
                            replace k := k.2
                            refine V_iload 8 dX10_slip_312 rfl ?_
                            exact V_ireturn dX10_slip_314 rfl k
                        · replace k := k.2 z
                          refine V_iconst (-1) dX10_slip_133 (by decide) ?_
                          exact V_ireturn dX10_slip_134 rfl k
                · replace k := k.2 z
                  refine V_goto 83 dX10_slip_70 (by decide) ?_
                  refine V_iconst (-1) dX10_slip_83 (by decide) ?_
                  exact V_ireturn dX10_slip_84 rfl k
            · replace k := k.2 z
              refine V_iconst (-1) dX10_slip_59 (by decide) ?_
              exact V_ireturn dX10_slip_60 rfl k
-- X10_isSlip cuts []
set_option maxRecDepth 20000 in
set_option maxHeartbeats 2000000 in
theorem wX10_isSlip {d bc bs : Nat} {h : HS} {P : Option AV → HS → Prop} {l1 : Int32} (k : Cl true mX10_isIn d 0 0 [aI l1, aI 0, aI ((gI h 26 0 2) - 1)] h (fun r1 h2 => ∃ x3 : Int32, r1 = some (aI x3) ∧ ((x3 = 0 ∨ x3 = 1) ∧ P (some (aI x3)) h2))) : Cl true mX10_isSlip (d + 1) bc bs [aR 26 0, aI l1] h P := by
  refine Cl_of (by decide) (Nat.le_of_ble_eq_true rfl) ?_
  show V true mX10_isSlip (d + 1) bc bs 0 [(0, aR 26 0), (1, aI l1)] [] h P
  refine V_iload_n 1 dX10_isSlip_0 rfl rfl ?_
  refine V_iconst 0 dX10_isSlip_1 (by decide) ?_
  refine V_aload_n 0 dX10_isSlip_2 rfl rfl ?_
  refine GI_26_2 dX10_isSlip_3 lkX10_125 ?_
  refine V_iconst 1 dX10_isSlip_6 (by decide) ?_
  refine V_isub dX10_isSlip_7 ?_
  refine V_callS (mc := 0) (ms := 0) (as := [aI l1, aI 0, aI ((gI h 26 0 2) - 1)]) (st := []) dX10_isSlip_8 okX10_isIn stX10_isIn lkX10_111 rfl (Nat.le_of_ble_eq_true rfl) (Nat.zero_le _) (Nat.zero_le _) (Cl.mono (fun r1 h2 z => ?_) k)
  obtain ⟨x3, rfl, k⟩ := z
  exact V_zreturn dX10_isSlip_11 rfl k.1 k.2
-- X10_paper cuts []
set_option maxRecDepth 20000 in
set_option maxHeartbeats 2000000 in
theorem wX10_paper {d bc bs : Nat} {h : HS} {P : Option AV → HS → Prop} {l1 : Int32} {l2 : Int32} (k : Cl true mX10_isSlip d 0 0 [aR 26 0, aI l1] h (fun r1 h2 => ∃ x3 : Int32, r1 = some (aI x3) ∧ (((¬ x3 = 0) → ((l2 = 0 → (vp_in l1 120 ∧ ((((gI h2 41 0 l1.toNatClampNeg) = (-1)) → (vp_in l1 120 ∧ ((((gI h2 40 0 l1.toNatClampNeg) = (-1)) → (P (some (aI 1)) h2)) ∧ ((¬ (gI h2 40 0 l1.toNatClampNeg) = (-1)) → (P (some (aI 0)) h2))))) ∧ ((¬ (gI h2 41 0 l1.toNatClampNeg) = (-1)) → (P (some (aI 2)) h2))))) ∧ (l2 = 1 → (vp_in l1 120 ∧ (P (some (aI (gI h2 43 0 l1.toNatClampNeg))) h2))) ∧ (l2 = 2 → (vp_in l1 120 ∧ (P (some (aI (gI h2 38 0 l1.toNatClampNeg))) h2))) ∧ (l2 = 3 → (vp_in l1 120 ∧ (P (some (aI (gI h2 39 0 l1.toNatClampNeg))) h2))) ∧ (l2 = 4 → (vp_in l1 120 ∧ (P (some (aI (gI h2 40 0 l1.toNatClampNeg))) h2))) ∧ (l2 = 5 → (vp_in l1 120 ∧ (P (some (aI (gI h2 41 0 l1.toNatClampNeg))) h2))) ∧ (l2 = 6 → (vp_in l1 120 ∧ (P (some (aI (gI h2 42 0 l1.toNatClampNeg))) h2))) ∧ (¬ (0 ≤ (l2).toInt ∧ (l2).toInt ≤ 6) → (P (some (aI (-1))) h2)))) ∧ ((x3 = 0) → (P (some (aI (-1))) h2))))) : Cl true mX10_paper (d + 1) bc bs [aR 26 0, aI l1, aI l2] h P := by
  refine Cl_of (by decide) (Nat.le_of_ble_eq_true rfl) ?_
  show V true mX10_paper (d + 1) bc bs 0 [(0, aR 26 0), (1, aI l1), (2, aI l2)] [] h P
  refine V_aload_n 0 dX10_paper_0 rfl rfl ?_
  refine V_iload_n 1 dX10_paper_1 rfl rfl ?_
  refine V_callV (mc := 0) (ms := 0) (as := [aI l1]) (st := []) (by decide) rt_26 rfl dX10_paper_2 okX10_isSlip inX10_isSlip seX10_isSlip lkX10_131 rfl (Nat.le_of_ble_eq_true rfl) (Nat.zero_le _) (Nat.zero_le _) (Cl.mono (fun r1 h2 z => ?_) k)
  obtain ⟨x3, rfl, k⟩ := z
  refine V_if_ne 10 dX10_paper_5 (by decide) ⟨fun z => ?_, fun z => ?_⟩
  · replace k := k.1 z
    refine V_iload_n 2 dX10_paper_10 rfl rfl ?_
    obtain ⟨k0, k1, k2, k3, k4, k5, k6, k7⟩ := k
    rcases sw_cases l2 (0) (6) (by decide) (by decide) with zo | ⟨zn, zl, zx⟩
    · have k := k7 zo
      refine V_tabOut 124 dX10_paper_11 (sw_out zo) (by decide) ?_
      refine V_iconst (-1) dX10_paper_124 (by decide) ?_
      exact V_ireturn dX10_paper_125 rfl k
    · match zn, zl, zx with
      | 0, _, zx =>
        have zx : l2 = 0 := zx
        have k := k0 zx
        refine V_tabIn 52 dX10_paper_11 (by rw [zx]; decide) (by rw [zx]; decide) (by rw [zx]; rfl) (by decide) ?_
        refine V_aload_n 0 dX10_paper_52 rfl rfl ?_
        refine GS_26_17 dX10_paper_53 lkX10_52 ?_
        refine V_iload_n 1 dX10_paper_56 rfl rfl ?_
        refine V_iald (by decide) rt_41 dX10_paper_57 k.1 ?_
        replace k := k.2
        refine V_iconst (-1) dX10_paper_58 (by decide) ?_
        refine V_icmp_eq 66 dX10_paper_59 (by decide) ⟨fun z => ?_, fun z => ?_⟩
        · replace k := k.1 z
          refine V_aload_n 0 dX10_paper_66 rfl rfl ?_
          refine GS_26_16 dX10_paper_67 lkX10_49 ?_
          refine V_iload_n 1 dX10_paper_70 rfl rfl ?_
          refine V_iald (by decide) rt_40 dX10_paper_71 k.1 ?_
          replace k := k.2
          refine V_iconst (-1) dX10_paper_72 (by decide) ?_
          refine V_icmp_eq 80 dX10_paper_73 (by decide) ⟨fun z => ?_, fun z => ?_⟩
          · replace k := k.1 z
            refine V_iconst 1 dX10_paper_80 (by decide) ?_
            exact V_ireturn dX10_paper_81 rfl k
          · replace k := k.2 z
            refine V_iconst 0 dX10_paper_76 (by decide) ?_
            refine V_goto 81 dX10_paper_77 (by decide) ?_
            exact V_ireturn dX10_paper_81 rfl k
        · replace k := k.2 z
          refine V_iconst 2 dX10_paper_62 (by decide) ?_
          refine V_goto 81 dX10_paper_63 (by decide) ?_
          exact V_ireturn dX10_paper_81 rfl k
      | 1, _, zx =>
        have zx : l2 = 1 := zx
        have k := k1 zx
        refine V_tabIn 82 dX10_paper_11 (by rw [zx]; decide) (by rw [zx]; decide) (by rw [zx]; rfl) (by decide) ?_
        refine V_aload_n 0 dX10_paper_82 rfl rfl ?_
        refine GS_26_19 dX10_paper_83 lkX10_58 ?_
        refine V_iload_n 1 dX10_paper_86 rfl rfl ?_
        refine V_iald (by decide) rt_43 dX10_paper_87 k.1 ?_
        replace k := k.2
        exact V_ireturn dX10_paper_88 rfl k
      | 2, _, zx =>
        have zx : l2 = 2 := zx
        have k := k2 zx
        refine V_tabIn 89 dX10_paper_11 (by rw [zx]; decide) (by rw [zx]; decide) (by rw [zx]; rfl) (by decide) ?_
        refine V_aload_n 0 dX10_paper_89 rfl rfl ?_
        refine GS_26_14 dX10_paper_90 lkX10_43 ?_
        refine V_iload_n 1 dX10_paper_93 rfl rfl ?_
        refine V_iald (by decide) rt_38 dX10_paper_94 k.1 ?_
        replace k := k.2
        exact V_ireturn dX10_paper_95 rfl k
      | 3, _, zx =>
        have zx : l2 = 3 := zx
        have k := k3 zx
        refine V_tabIn 96 dX10_paper_11 (by rw [zx]; decide) (by rw [zx]; decide) (by rw [zx]; rfl) (by decide) ?_
        refine V_aload_n 0 dX10_paper_96 rfl rfl ?_
        refine GS_26_15 dX10_paper_97 lkX10_46 ?_
        refine V_iload_n 1 dX10_paper_100 rfl rfl ?_
        refine V_iald (by decide) rt_39 dX10_paper_101 k.1 ?_
        replace k := k.2
        exact V_ireturn dX10_paper_102 rfl k
      | 4, _, zx =>
        have zx : l2 = 4 := zx
        have k := k4 zx
        refine V_tabIn 103 dX10_paper_11 (by rw [zx]; decide) (by rw [zx]; decide) (by rw [zx]; rfl) (by decide) ?_
        refine V_aload_n 0 dX10_paper_103 rfl rfl ?_
        refine GS_26_16 dX10_paper_104 lkX10_49 ?_
        refine V_iload_n 1 dX10_paper_107 rfl rfl ?_
        refine V_iald (by decide) rt_40 dX10_paper_108 k.1 ?_
        replace k := k.2
        exact V_ireturn dX10_paper_109 rfl k
      | 5, _, zx =>
        have zx : l2 = 5 := zx
        have k := k5 zx
        refine V_tabIn 110 dX10_paper_11 (by rw [zx]; decide) (by rw [zx]; decide) (by rw [zx]; rfl) (by decide) ?_
        refine V_aload_n 0 dX10_paper_110 rfl rfl ?_
        refine GS_26_17 dX10_paper_111 lkX10_52 ?_
        refine V_iload_n 1 dX10_paper_114 rfl rfl ?_
        refine V_iald (by decide) rt_41 dX10_paper_115 k.1 ?_
        replace k := k.2
        exact V_ireturn dX10_paper_116 rfl k
      | 6, _, zx =>
        have zx : l2 = 6 := zx
        have k := k6 zx
        refine V_tabIn 117 dX10_paper_11 (by rw [zx]; decide) (by rw [zx]; decide) (by rw [zx]; rfl) (by decide) ?_
        refine V_aload_n 0 dX10_paper_117 rfl rfl ?_
        refine GS_26_18 dX10_paper_118 lkX10_55 ?_
        refine V_iload_n 1 dX10_paper_121 rfl rfl ?_
        refine V_iald (by decide) rt_42 dX10_paper_122 k.1 ?_
        replace k := k.2
        exact V_ireturn dX10_paper_123 rfl k
      | n + 7, zl, _ => exact absurd zl (by omega)
  · replace k := k.2 z
    refine V_iconst (-1) dX10_paper_8 (by decide) ?_
    exact V_ireturn dX10_paper_9 rfl k
-- X10_back cuts []
set_option maxRecDepth 20000 in
set_option maxHeartbeats 2000000 in
theorem wX10_back {d bc bs : Nat} {h : HS} {P : Option AV → HS → Prop} {l1 : Int32} (k : Cl true mX10_isSlip d 0 0 [aR 26 0, aI l1] h (fun r1 h2 => ∃ x3 : Int32, r1 = some (aI x3) ∧ (((x3 = 0) → (P (some (aI 0)) h2)) ∧ ((¬ x3 = 0) → (vp_in l1 120 ∧ (((¬ (gI h2 41 0 l1.toNatClampNeg) = (-1)) → (P (some (aI 0)) h2)) ∧ (((gI h2 41 0 l1.toNatClampNeg) = (-1)) → (vp_in l1 120 ∧ ((((gI h2 40 0 l1.toNatClampNeg) = (-1)) → (vp_in l1 120 ∧ (vp_in l1 120 ∧ (vp_in (gI (sI h2 41 0 l1.toNatClampNeg (gI h2 26 0 0)) 35 0 l1.toNatClampNeg) 12 ∧ (vp_in l1 120 ∧ (vp_in (gI (sI h2 41 0 l1.toNatClampNeg (gI h2 26 0 0)) 35 0 l1.toNatClampNeg) 12 ∧ (P (some (aI 1)) (sI (sI h2 41 0 l1.toNatClampNeg (gI h2 26 0 0)) 28 0 (gI (sI h2 41 0 l1.toNatClampNeg (gI h2 26 0 0)) 35 0 l1.toNatClampNeg).toNatClampNeg ((gI (sI h2 41 0 l1.toNatClampNeg (gI h2 26 0 0)) 28 0 (gI (sI h2 41 0 l1.toNatClampNeg (gI h2 26 0 0)) 35 0 l1.toNatClampNeg).toNatClampNeg) + (gI (sI h2 41 0 l1.toNatClampNeg (gI h2 26 0 0)) 36 0 l1.toNatClampNeg)))))))))) ∧ ((¬ (gI h2 40 0 l1.toNatClampNeg) = (-1)) → (vp_in l1 120 ∧ (((((gI h2 26 0 0) - (gI h2 40 0 l1.toNatClampNeg)) ≤ 28) → (vp_in l1 120 ∧ (vp_in l1 120 ∧ (vp_in (gI (sI h2 41 0 l1.toNatClampNeg (gI h2 26 0 0)) 35 0 l1.toNatClampNeg) 12 ∧ (vp_in l1 120 ∧ (vp_in (gI (sI h2 41 0 l1.toNatClampNeg (gI h2 26 0 0)) 35 0 l1.toNatClampNeg) 12 ∧ (P (some (aI 1)) (sI (sI h2 41 0 l1.toNatClampNeg (gI h2 26 0 0)) 28 0 (gI (sI h2 41 0 l1.toNatClampNeg (gI h2 26 0 0)) 35 0 l1.toNatClampNeg).toNatClampNeg ((gI (sI h2 41 0 l1.toNatClampNeg (gI h2 26 0 0)) 28 0 (gI (sI h2 41 0 l1.toNatClampNeg (gI h2 26 0 0)) 35 0 l1.toNatClampNeg).toNatClampNeg) + (gI (sI h2 41 0 l1.toNatClampNeg (gI h2 26 0 0)) 36 0 l1.toNatClampNeg)))))))))) ∧ ((¬ ((gI h2 26 0 0) - (gI h2 40 0 l1.toNatClampNeg)) ≤ 28) → (P (some (aI 0)) h2)))))))))))))) : Cl true mX10_back (d + 1) bc bs [aR 26 0, aI l1] h P := by
  refine Cl_of (by decide) (Nat.le_of_ble_eq_true rfl) ?_
  show V true mX10_back (d + 1) bc bs 0 [(0, aR 26 0), (1, aI l1)] [] h P
  refine V_aload_n 0 dX10_back_0 rfl rfl ?_
  refine V_iload_n 1 dX10_back_1 rfl rfl ?_
  refine V_callV (mc := 0) (ms := 0) (as := [aI l1]) (st := []) (by decide) rt_26 rfl dX10_back_2 okX10_isSlip inX10_isSlip seX10_isSlip lkX10_131 rfl (Nat.le_of_ble_eq_true rfl) (Nat.zero_le _) (Nat.zero_le _) (Cl.mono (fun r1 h2 z => ?_) k)
  obtain ⟨x3, rfl, k⟩ := z
  refine V_if_eq 44 dX10_back_5 (by decide) ⟨fun z => ?_, fun z => ?_⟩
  · replace k := k.1 z
    refine V_iconst 0 dX10_back_44 (by decide) ?_
    exact V_zreturn dX10_back_45 rfl (by decide) k
  · replace k := k.2 z
    refine V_aload_n 0 dX10_back_8 rfl rfl ?_
    refine GS_26_17 dX10_back_9 lkX10_52 ?_
    refine V_iload_n 1 dX10_back_12 rfl rfl ?_
    refine V_iald (by decide) rt_41 dX10_back_13 k.1 ?_
    replace k := k.2
    refine V_iconst (-1) dX10_back_14 (by decide) ?_
    refine V_icmp_ne 44 dX10_back_15 (by decide) ⟨fun z => ?_, fun z => ?_⟩
    · replace k := k.1 z
      refine V_iconst 0 dX10_back_44 (by decide) ?_
      exact V_zreturn dX10_back_45 rfl (by decide) k
    · replace k := k.2 z
      refine V_aload_n 0 dX10_back_18 rfl rfl ?_
      refine GS_26_16 dX10_back_19 lkX10_49 ?_
      refine V_iload_n 1 dX10_back_22 rfl rfl ?_
      refine V_iald (by decide) rt_40 dX10_back_23 k.1 ?_
      replace k := k.2
      refine V_iconst (-1) dX10_back_24 (by decide) ?_
      refine V_icmp_eq 46 dX10_back_25 (by decide) ⟨fun z => ?_, fun z => ?_⟩
      · replace k := k.1 z
        refine V_aload_n 0 dX10_back_46 rfl rfl ?_
        refine GS_26_17 dX10_back_47 lkX10_52 ?_
        refine V_iload_n 1 dX10_back_50 rfl rfl ?_
        refine V_aload_n 0 dX10_back_51 rfl rfl ?_
        refine GI_26_0 dX10_back_52 lkX10_119 ?_
        refine V_iast (by decide) rt_41 dX10_back_55 k.1 ?_
        replace k := k.2
        refine V_aload_n 0 dX10_back_56 rfl rfl ?_
        refine GS_26_4 dX10_back_57 lkX10_13 ?_
        refine V_aload_n 0 dX10_back_60 rfl rfl ?_
        refine GS_26_11 dX10_back_61 lkX10_34 ?_
        refine V_iload_n 1 dX10_back_64 rfl rfl ?_
        refine V_iald (by decide) rt_35 dX10_back_65 k.1 ?_
        replace k := k.2
        refine V_dup2 dX10_back_66 rfl rfl ?_
        refine V_iald (by decide) rt_28 dX10_back_67 k.1 ?_
        replace k := k.2
        refine V_aload_n 0 dX10_back_68 rfl rfl ?_
        refine GS_26_12 dX10_back_69 lkX10_37 ?_
        refine V_iload_n 1 dX10_back_72 rfl rfl ?_
        refine V_iald (by decide) rt_36 dX10_back_73 k.1 ?_
        replace k := k.2
        refine V_iadd dX10_back_74 ?_
        refine V_iast (by decide) rt_28 dX10_back_75 k.1 ?_
        replace k := k.2
        refine V_iconst 1 dX10_back_76 (by decide) ?_
        exact V_zreturn dX10_back_77 rfl (by decide) k
      · replace k := k.2 z
        refine V_aload_n 0 dX10_back_28 rfl rfl ?_
        refine GI_26_0 dX10_back_29 lkX10_119 ?_
        refine V_aload_n 0 dX10_back_32 rfl rfl ?_
        refine GS_26_16 dX10_back_33 lkX10_49 ?_
        refine V_iload_n 1 dX10_back_36 rfl rfl ?_
        refine V_iald (by decide) rt_40 dX10_back_37 k.1 ?_
        replace k := k.2
        refine V_isub dX10_back_38 ?_
        refine V_bipush 28 dX10_back_39 (by decide) ?_
        refine V_icmp_le 46 dX10_back_41 (by decide) ⟨fun z => ?_, fun z => ?_⟩
        · replace k := k.1 z
          refine V_aload_n 0 dX10_back_46 rfl rfl ?_
          refine GS_26_17 dX10_back_47 lkX10_52 ?_
          refine V_iload_n 1 dX10_back_50 rfl rfl ?_
          refine V_aload_n 0 dX10_back_51 rfl rfl ?_
          refine GI_26_0 dX10_back_52 lkX10_119 ?_
          refine V_iast (by decide) rt_41 dX10_back_55 k.1 ?_
          replace k := k.2
          refine V_aload_n 0 dX10_back_56 rfl rfl ?_
          refine GS_26_4 dX10_back_57 lkX10_13 ?_
          refine V_aload_n 0 dX10_back_60 rfl rfl ?_
          refine GS_26_11 dX10_back_61 lkX10_34 ?_
          refine V_iload_n 1 dX10_back_64 rfl rfl ?_
          refine V_iald (by decide) rt_35 dX10_back_65 k.1 ?_
          replace k := k.2
          refine V_dup2 dX10_back_66 rfl rfl ?_
          refine V_iald (by decide) rt_28 dX10_back_67 k.1 ?_
          replace k := k.2
          refine V_aload_n 0 dX10_back_68 rfl rfl ?_
          refine GS_26_12 dX10_back_69 lkX10_37 ?_
          refine V_iload_n 1 dX10_back_72 rfl rfl ?_
          refine V_iald (by decide) rt_36 dX10_back_73 k.1 ?_
          replace k := k.2
          refine V_iadd dX10_back_74 ?_
          refine V_iast (by decide) rt_28 dX10_back_75 k.1 ?_
          replace k := k.2
          refine V_iconst 1 dX10_back_76 (by decide) ?_
          exact V_zreturn dX10_back_77 rfl (by decide) k
        · replace k := k.2 z
          refine V_iconst 0 dX10_back_44 (by decide) ?_
          exact V_zreturn dX10_back_45 rfl (by decide) k
-- X10_isParcel cuts []
set_option maxRecDepth 20000 in
set_option maxHeartbeats 2000000 in
theorem wX10_isParcel {d bc bs : Nat} {h : HS} {P : Option AV → HS → Prop} {l1 : Int32} (k : vp_in l1 120 ∧ ((((gI h 37 0 l1.toNatClampNeg) = (-1)) → (P (some (aI 0)) h)) ∧ ((¬ (gI h 37 0 l1.toNatClampNeg) = (-1)) → (vp_in l1 120 ∧ (((¬ (gI h 42 0 l1.toNatClampNeg) = (-1)) → (P (some (aI 0)) h)) ∧ (((gI h 42 0 l1.toNatClampNeg) = (-1)) → (vp_in l1 120 ∧ (((¬ (gI h 41 0 l1.toNatClampNeg) = (-1)) → (P (some (aI 0)) h)) ∧ (((gI h 41 0 l1.toNatClampNeg) = (-1)) → (P (some (aI 1)) h)))))))))) : Cl true mX10_isParcel (d + 1) bc bs [aR 26 0, aI l1] h P := by
  refine Cl_of (by decide) (Nat.le_of_ble_eq_true rfl) ?_
  show V true mX10_isParcel (d + 1) bc bs 0 [(0, aR 26 0), (1, aI l1)] [] h P
  refine V_aload_n 0 dX10_isParcel_0 rfl rfl ?_
  refine GS_26_13 dX10_isParcel_1 lkX10_40 ?_
  refine V_iload_n 1 dX10_isParcel_4 rfl rfl ?_
  refine V_iald (by decide) rt_37 dX10_isParcel_5 k.1 ?_
  replace k := k.2
  refine V_iconst (-1) dX10_isParcel_6 (by decide) ?_
  refine V_icmp_eq 34 dX10_isParcel_7 (by decide) ⟨fun z => ?_, fun z => ?_⟩
  · replace k := k.1 z
    refine V_iconst 0 dX10_isParcel_34 (by decide) ?_
    exact V_zreturn dX10_isParcel_35 rfl (by decide) k
  · replace k := k.2 z
    refine V_aload_n 0 dX10_isParcel_10 rfl rfl ?_
    refine GS_26_18 dX10_isParcel_11 lkX10_55 ?_
    refine V_iload_n 1 dX10_isParcel_14 rfl rfl ?_
    refine V_iald (by decide) rt_42 dX10_isParcel_15 k.1 ?_
    replace k := k.2
    refine V_iconst (-1) dX10_isParcel_16 (by decide) ?_
    refine V_icmp_ne 34 dX10_isParcel_17 (by decide) ⟨fun z => ?_, fun z => ?_⟩
    · replace k := k.1 z
      refine V_iconst 0 dX10_isParcel_34 (by decide) ?_
      exact V_zreturn dX10_isParcel_35 rfl (by decide) k
    · replace k := k.2 z
      refine V_aload_n 0 dX10_isParcel_20 rfl rfl ?_
      refine GS_26_17 dX10_isParcel_21 lkX10_52 ?_
      refine V_iload_n 1 dX10_isParcel_24 rfl rfl ?_
      refine V_iald (by decide) rt_41 dX10_isParcel_25 k.1 ?_
      replace k := k.2
      refine V_iconst (-1) dX10_isParcel_26 (by decide) ?_
      refine V_icmp_ne 34 dX10_isParcel_27 (by decide) ⟨fun z => ?_, fun z => ?_⟩
      · replace k := k.1 z
        refine V_iconst 0 dX10_isParcel_34 (by decide) ?_
        exact V_zreturn dX10_isParcel_35 rfl (by decide) k
      · replace k := k.2 z
        refine V_iconst 1 dX10_isParcel_30 (by decide) ?_
        refine V_goto 35 dX10_isParcel_31 (by decide) ?_
        exact V_zreturn dX10_isParcel_35 rfl (by decide) k
-- X10_look cuts [61, 107]
set_option maxRecDepth 20000 in
set_option maxHeartbeats 2000000 in
theorem wX10_look {d bc bs : Nat} {h : HS} {P : Option AV → HS → Prop} {l1 : Int32} (k : (l1 = 0 → (P (some (aI (gI h 26 0 0))) h)) ∧ (l1 = 1 → (P (some (aI (gI h 26 0 1))) h)) ∧ (l1 = 2 → (P (some (aI (gI h 26 0 2))) h)) ∧ (l1 = 3 → (V true mX10_look (d + 1) bc bs 61 [(0, aR 26 0), (2, aI 0), (3, aI 0)] [] h P)) ∧ (l1 = 4 → (V true mX10_look (d + 1) bc bs 107 [(0, aR 26 0), (2, aI 0), (3, aI 0)] [] h P)) ∧ (l1 = 5 → (P (some (aI (gI h 26 0 20))) h)) ∧ (l1 = 6 → (P (some (aI (gI h 26 0 24))) h)) ∧ (¬ (0 ≤ (l1).toInt ∧ (l1).toInt ≤ 6) → (P (some (aI (-1))) h))) : Cl true mX10_look (d + 1) bc bs [aR 26 0, aI l1] h P := by
  refine Cl_of (by decide) (Nat.le_of_ble_eq_true rfl) ?_
  show V true mX10_look (d + 1) bc bs 0 [(0, aR 26 0), (1, aI l1)] [] h P
  refine V_iconst 0 dX10_look_0 (by decide) ?_
  refine V_istore_n 2 dX10_look_1 rfl (by decide) rfl ?_
  refine V_iload_n 1 dX10_look_2 rfl rfl ?_
  obtain ⟨k0, k1, k2, k3, k4, k5, k6, k7⟩ := k
  rcases sw_cases l1 (0) (6) (by decide) (by decide) with zo | ⟨zn, zl, zx⟩
  · have k := k7 zo
    refine V_tabOut 149 dX10_look_3 (sw_out zo) (by decide) ?_
    refine V_iconst (-1) dX10_look_149 (by decide) ?_
    exact V_ireturn dX10_look_150 rfl k
  · match zn, zl, zx with
    | 0, _, zx =>
      have zx : l1 = 0 := zx
      have k := k0 zx
      refine V_tabIn 44 dX10_look_3 (by rw [zx]; decide) (by rw [zx]; decide) (by rw [zx]; rfl) (by decide) ?_
      refine V_aload_n 0 dX10_look_44 rfl rfl ?_
      refine GI_26_0 dX10_look_45 lkX10_119 ?_
      exact V_ireturn dX10_look_48 rfl k
    | 1, _, zx =>
      have zx : l1 = 1 := zx
      have k := k1 zx
      refine V_tabIn 49 dX10_look_3 (by rw [zx]; decide) (by rw [zx]; decide) (by rw [zx]; rfl) (by decide) ?_
      refine V_aload_n 0 dX10_look_49 rfl rfl ?_
      refine GI_26_1 dX10_look_50 lkX10_108 ?_
      exact V_ireturn dX10_look_53 rfl k
    | 2, _, zx =>
      have zx : l1 = 2 := zx
      have k := k2 zx
      refine V_tabIn 54 dX10_look_3 (by rw [zx]; decide) (by rw [zx]; decide) (by rw [zx]; rfl) (by decide) ?_
      refine V_aload_n 0 dX10_look_54 rfl rfl ?_
      refine GI_26_2 dX10_look_55 lkX10_125 ?_
      exact V_ireturn dX10_look_58 rfl k
    | 3, _, zx =>
      have zx : l1 = 3 := zx
      have k := k3 zx
      refine V_tabIn 59 dX10_look_3 (by rw [zx]; decide) (by rw [zx]; decide) (by rw [zx]; rfl) (by decide) ?_
      refine V_iconst 0 dX10_look_59 (by decide) ?_
      refine V_istore_n 3 dX10_look_60 rfl (by decide) rfl ?_
      exact V_lv [2, 1, 0] rfl k
    | 4, _, zx =>
      have zx : l1 = 4 := zx
      have k := k4 zx
      refine V_tabIn 105 dX10_look_3 (by rw [zx]; decide) (by rw [zx]; decide) (by rw [zx]; rfl) (by decide) ?_
      refine V_iconst 0 dX10_look_105 (by decide) ?_
      refine V_istore_n 3 dX10_look_106 rfl (by decide) rfl ?_
      exact V_lv [2, 1, 0] rfl k
    | 5, _, zx =>
      have zx : l1 = 5 := zx
      have k := k5 zx
      refine V_tabIn 139 dX10_look_3 (by rw [zx]; decide) (by rw [zx]; decide) (by rw [zx]; rfl) (by decide) ?_
      refine V_aload_n 0 dX10_look_139 rfl rfl ?_
      refine GI_26_20 dX10_look_140 lkX10_128 ?_
      exact V_ireturn dX10_look_143 rfl k
    | 6, _, zx =>
      have zx : l1 = 6 := zx
      have k := k6 zx
      refine V_tabIn 144 dX10_look_3 (by rw [zx]; decide) (by rw [zx]; decide) (by rw [zx]; rfl) (by decide) ?_
      refine V_aload_n 0 dX10_look_144 rfl rfl ?_
      refine GI_26_24 dX10_look_145 lkX10_137 ?_
      exact V_ireturn dX10_look_148 rfl k
    | n + 7, zl, _ => exact absurd zl (by omega)
set_option maxRecDepth 20000 in
set_option maxHeartbeats 2000000 in
theorem wX10_look_61 {d bc bs : Nat} {h : HS} {P : Option AV → HS → Prop} {l2 : Int32} {l3 : Int32} (k : (((gI h 26 0 2) ≤ l3) → (P (some (aI l2)) h)) ∧ ((¬ (gI h 26 0 2) ≤ l3) → (vp_in l3 120 ∧ (((¬ (gI h 40 0 l3.toNatClampNeg) = (-1)) → (V true mX10_look (d + 1) bc bs 61 [(0, aR 26 0), (2, aI (l2 + 0)), (3, aI (l3 + 1))] [] h P)) ∧ (((gI h 40 0 l3.toNatClampNeg) = (-1)) → (vp_in l3 120 ∧ (((¬ (gI h 41 0 l3.toNatClampNeg) = (-1)) → (V true mX10_look (d + 1) bc bs 61 [(0, aR 26 0), (2, aI (l2 + 0)), (3, aI (l3 + 1))] [] h P)) ∧ (((gI h 41 0 l3.toNatClampNeg) = (-1)) → (V true mX10_look (d + 1) bc bs 61 [(0, aR 26 0), (2, aI (l2 + 1)), (3, aI (l3 + 1))] [] h P))))))))) : V true mX10_look (d + 1) bc bs 61 [(0, aR 26 0), (2, aI l2), (3, aI l3)] [] h P := by
  refine V_iload_n 3 dX10_look_61 rfl rfl ?_
  refine V_aload_n 0 dX10_look_62 rfl rfl ?_
  refine GI_26_2 dX10_look_63 lkX10_125 ?_
  refine V_icmp_ge 103 dX10_look_66 (by decide) ⟨fun z => ?_, fun z => ?_⟩
  · replace k := k.1 z
    refine V_iload_n 2 dX10_look_103 rfl rfl ?_
    exact V_ireturn dX10_look_104 rfl k
  · replace k := k.2 z
    refine V_iload_n 2 dX10_look_69 rfl rfl ?_
    refine V_aload_n 0 dX10_look_70 rfl rfl ?_
    refine GS_26_16 dX10_look_71 lkX10_49 ?_
    refine V_iload_n 3 dX10_look_74 rfl rfl ?_
    refine V_iald (by decide) rt_40 dX10_look_75 k.1 ?_
    replace k := k.2
    refine V_iconst (-1) dX10_look_76 (by decide) ?_
    refine V_icmp_ne 94 dX10_look_77 (by decide) ⟨fun z => ?_, fun z => ?_⟩
    · replace k := k.1 z
      refine V_iconst 0 dX10_look_94 (by decide) ?_
      refine V_iadd dX10_look_95 ?_
      refine V_istore_n 2 dX10_look_96 rfl (by decide) rfl ?_
      refine V_iinc 3 (v := l3 + 1) dX10_look_97 rfl rfl (by decide) rfl ?_
      refine V_goto 61 dX10_look_100 (by decide) ?_
      exact V_lv [2, 1, 0] rfl k
    · replace k := k.2 z
      refine V_aload_n 0 dX10_look_80 rfl rfl ?_
      refine GS_26_17 dX10_look_81 lkX10_52 ?_
      refine V_iload_n 3 dX10_look_84 rfl rfl ?_
      refine V_iald (by decide) rt_41 dX10_look_85 k.1 ?_
      replace k := k.2
      refine V_iconst (-1) dX10_look_86 (by decide) ?_
      refine V_icmp_ne 94 dX10_look_87 (by decide) ⟨fun z => ?_, fun z => ?_⟩
      · replace k := k.1 z
        refine V_iconst 0 dX10_look_94 (by decide) ?_
        refine V_iadd dX10_look_95 ?_
        refine V_istore_n 2 dX10_look_96 rfl (by decide) rfl ?_
        refine V_iinc 3 (v := l3 + 1) dX10_look_97 rfl rfl (by decide) rfl ?_
        refine V_goto 61 dX10_look_100 (by decide) ?_
        exact V_lv [2, 1, 0] rfl k
      · replace k := k.2 z
        refine V_iconst 1 dX10_look_90 (by decide) ?_
        refine V_goto 95 dX10_look_91 (by decide) ?_
        refine V_iadd dX10_look_95 ?_
        refine V_istore_n 2 dX10_look_96 rfl (by decide) rfl ?_
        refine V_iinc 3 (v := l3 + 1) dX10_look_97 rfl rfl (by decide) rfl ?_
        refine V_goto 61 dX10_look_100 (by decide) ?_
        exact V_lv [2, 1, 0] rfl k
set_option maxRecDepth 20000 in
set_option maxHeartbeats 2000000 in
theorem wX10_look_107 {d bc bs : Nat} {h : HS} {P : Option AV → HS → Prop} {l2 : Int32} {l3 : Int32} (k : (((gI h 26 0 2) ≤ l3) → (P (some (aI l2)) h)) ∧ ((¬ (gI h 26 0 2) ≤ l3) → (Cl true mX10_isParcel d 0 0 [aR 26 0, aI l3] h (fun r1 h2 => ∃ x3 : Int32, r1 = some (aI x3) ∧ (((x3 = 0) → (V true mX10_look (d + 1) bc bs 107 [(0, aR 26 0), (2, aI (l2 + 0)), (3, aI (l3 + 1))] [] h2 P)) ∧ ((¬ x3 = 0) → (V true mX10_look (d + 1) bc bs 107 [(0, aR 26 0), (2, aI (l2 + 1)), (3, aI (l3 + 1))] [] h2 P))))))) : V true mX10_look (d + 1) bc bs 107 [(0, aR 26 0), (2, aI l2), (3, aI l3)] [] h P := by
  refine V_iload_n 3 dX10_look_107 rfl rfl ?_
  refine V_aload_n 0 dX10_look_108 rfl rfl ?_
  refine GI_26_2 dX10_look_109 lkX10_125 ?_
  refine V_icmp_ge 137 dX10_look_112 (by decide) ⟨fun z => ?_, fun z => ?_⟩
  · replace k := k.1 z
    refine V_iload_n 2 dX10_look_137 rfl rfl ?_
    exact V_ireturn dX10_look_138 rfl k
  · replace k := k.2 z
    refine V_iload_n 2 dX10_look_115 rfl rfl ?_
    refine V_aload_n 0 dX10_look_116 rfl rfl ?_
    refine V_iload_n 3 dX10_look_117 rfl rfl ?_
    refine V_callV (mc := 0) (ms := 0) (as := [aI l3]) (st := [aI l2]) (by decide) rt_26 rfl dX10_look_118 okX10_isParcel inX10_isParcel seX10_isParcel lkX10_134 rfl (Nat.le_of_ble_eq_true rfl) (Nat.zero_le _) (Nat.zero_le _) (Cl.mono (fun r1 h2 z => ?_) k)
    obtain ⟨x3, rfl, k⟩ := z
    refine V_if_eq 128 dX10_look_121 (by decide) ⟨fun z => ?_, fun z => ?_⟩
    · replace k := k.1 z
      refine V_iconst 0 dX10_look_128 (by decide) ?_
      refine V_iadd dX10_look_129 ?_
      refine V_istore_n 2 dX10_look_130 rfl (by decide) rfl ?_
      refine V_iinc 3 (v := l3 + 1) dX10_look_131 rfl rfl (by decide) rfl ?_
      refine V_goto 107 dX10_look_134 (by decide) ?_
      exact V_lv [2, 1, 0] rfl k
    · replace k := k.2 z
      refine V_iconst 1 dX10_look_124 (by decide) ?_
      refine V_goto 129 dX10_look_125 (by decide) ?_
      refine V_iadd dX10_look_129 ?_
      refine V_istore_n 2 dX10_look_130 rfl (by decide) rfl ?_
      refine V_iinc 3 (v := l3 + 1) dX10_look_131 rfl rfl (by decide) rfl ?_
      refine V_goto 107 dX10_look_134 (by decide) ?_
      exact V_lv [2, 1, 0] rfl k
-- X10_van cuts [33, 57, 116, 185]
set_option maxRecDepth 20000 in
set_option maxHeartbeats 2000000 in
theorem wX10_van {d bc bs : Nat} {h : HS} {P : Option AV → HS → Prop} {l1 : Int32} (k : Cl true mX10_isIn d 0 0 [aI l1, aI 0, aI 500] h (fun r1 h2 => ∃ x3 : Int32, r1 = some (aI x3) ∧ (((x3 = 0) → (P (some (aI (-1))) h2)) ∧ ((¬ x3 = 0) → (((¬ (gI h2 26 0 20) = 2) → (V true mX10_van (d + 1) bc bs 33 [(0, aR 26 0), (2, aI l1), (3, aI 0), (4, aI 0)] [] (sI h2 26 0 21 0) P)) ∧ (((gI h2 26 0 20) = 2) → (P (some (aI (-1))) h2))))))) : Cl true mX10_van (d + 1) bc bs [aR 26 0, aI l1] h P := by
  refine Cl_of (by decide) (Nat.le_of_ble_eq_true rfl) ?_
  show V true mX10_van (d + 1) bc bs 0 [(0, aR 26 0), (1, aI l1)] [] h P
  refine V_iload_n 1 dX10_van_0 rfl rfl ?_
  refine V_iconst 0 dX10_van_1 (by decide) ?_
  refine V_sipush 500 dX10_van_2 (by decide) ?_
  refine V_callS (mc := 0) (ms := 0) (as := [aI l1, aI 0, aI 500]) (st := []) dX10_van_5 okX10_isIn stX10_isIn lkX10_111 rfl (Nat.le_of_ble_eq_true rfl) (Nat.zero_le _) (Nat.zero_le _) (Cl.mono (fun r1 h2 z => ?_) k)
  obtain ⟨x3, rfl, k⟩ := z
  refine V_if_eq 19 dX10_van_8 (by decide) ⟨fun z => ?_, fun z => ?_⟩
  · replace k := k.1 z
    refine V_iconst (-1) dX10_van_19 (by decide) ?_
    exact V_ireturn dX10_van_20 rfl k
  · replace k := k.2 z
    refine V_aload_n 0 dX10_van_11 rfl rfl ?_
    refine GI_26_20 dX10_van_12 lkX10_128 ?_
    refine V_iconst 2 dX10_van_15 (by decide) ?_
    refine V_icmp_ne 21 dX10_van_16 (by decide) ⟨fun z => ?_, fun z => ?_⟩
    · replace k := k.1 z
      refine V_iload_n 1 dX10_van_21 rfl rfl ?_
      refine V_istore_n 2 dX10_van_22 rfl (by decide) rfl ?_
      refine V_iconst 0 dX10_van_23 (by decide) ?_
      refine V_istore_n 3 dX10_van_24 rfl (by decide) rfl ?_
      refine V_aload_n 0 dX10_van_25 rfl rfl ?_
      refine V_iconst 0 dX10_van_26 (by decide) ?_
      refine PI_26_21 dX10_van_27 lkX10_140 ?_
      refine V_iconst 0 dX10_van_30 (by decide) ?_
      refine V_istore 4 dX10_van_31 (by decide) rfl ?_
      exact V_lv [3, 2, 1, 0] rfl k
    · replace k := k.2 z
      refine V_iconst (-1) dX10_van_19 (by decide) ?_
      exact V_ireturn dX10_van_20 rfl k
set_option maxRecDepth 20000 in
set_option maxHeartbeats 2000000 in
theorem wX10_van_33 {d bc bs : Nat} {h : HS} {P : Option AV → HS → Prop} {l2 : Int32} {l3 : Int32} {l4 : Int32} (k : ((20 ≤ l4) → (V true mX10_van (d + 1) bc bs 57 [(0, aR 26 0), (2, aI l2), (3, aI l3), (4, aI 0)] [] h P)) ∧ ((¬ 20 ≤ l4) → (vp_in l4 20 ∧ (V true mX10_van (d + 1) bc bs 33 [(0, aR 26 0), (2, aI l2), (3, aI l3), (4, aI (l4 + 1))] [] (sI h 45 0 l4.toNatClampNeg 0) P)))) : V true mX10_van (d + 1) bc bs 33 [(0, aR 26 0), (2, aI l2), (3, aI l3), (4, aI l4)] [] h P := by
  refine V_iload 4 dX10_van_33 rfl ?_
  refine V_bipush 20 dX10_van_35 (by decide) ?_
  refine V_icmp_ge 54 dX10_van_37 (by decide) ⟨fun z => ?_, fun z => ?_⟩
  · replace k := k.1 z
    refine V_iconst 0 dX10_van_54 (by decide) ?_
    refine V_istore 4 dX10_van_55 (by decide) rfl ?_
    exact V_lv [1, 2, 3, 0] rfl k
  · replace k := k.2 z
    refine V_aload_n 0 dX10_van_40 rfl rfl ?_
    refine GS_26_23 dX10_van_41 lkX10_64 ?_
    refine V_iload 4 dX10_van_44 rfl ?_
    refine V_iconst 0 dX10_van_46 (by decide) ?_
    refine V_zast (by decide) rt_45 dX10_van_47 k.1 (by decide) ?_
    replace k := k.2
    refine V_iinc 4 (v := l4 + 1) dX10_van_48 rfl rfl (by decide) rfl ?_
    refine V_goto 33 dX10_van_51 (by decide) ?_
    exact V_lv [1, 2, 3, 0] rfl k
set_option maxRecDepth 20000 in
set_option maxHeartbeats 2000000 in
theorem wX10_van_57 {d bc bs : Nat} {h : HS} {P : Option AV → HS → Prop} {l2 : Int32} {l3 : Int32} {l4 : Int32} (k : (((gI h 26 0 2) ≤ l4) → (P (some (aI l3)) (sI h 26 0 20 ((gI h 26 0 20) + 1)))) ∧ ((¬ (gI h 26 0 2) ≤ l4) → (Cl true mX10_isParcel d 0 0 [aR 26 0, aI l4] h (fun r1 h2 => ∃ x3 : Int32, r1 = some (aI x3) ∧ (((x3 = 0) → (V true mX10_van (d + 1) bc bs 57 [(0, aR 26 0), (2, aI l2), (3, aI l3), (4, aI (l4 + 1))] [] h2 P)) ∧ ((¬ x3 = 0) → (vp_in l4 120 ∧ (vp_in (gI h2 37 0 l4.toNatClampNeg) 20 ∧ ((((gI h2 45 0 (gI h2 37 0 l4.toNatClampNeg).toNatClampNeg) = 0) → (vp_in l4 120 ∧ (vp_in (gI h2 37 0 l4.toNatClampNeg) 20 ∧ (V true mX10_van (d + 1) bc bs 116 [(0, aR 26 0), (2, aI l2), (3, aI l3), (4, aI l4), (5, aI (gI h2 37 0 l4.toNatClampNeg)), (6, aI 0), (7, aI 0)] [] (sI h2 45 0 (gI h2 37 0 l4.toNatClampNeg).toNatClampNeg 1) P)))) ∧ ((¬ (gI h2 45 0 (gI h2 37 0 l4.toNatClampNeg).toNatClampNeg) = 0) → (V true mX10_van (d + 1) bc bs 57 [(0, aR 26 0), (2, aI l2), (3, aI l3), (4, aI (l4 + 1))] [] h2 P))))))))))) : V true mX10_van (d + 1) bc bs 57 [(0, aR 26 0), (2, aI l2), (3, aI l3), (4, aI l4)] [] h P := by
  refine V_iload 4 dX10_van_57 rfl ?_
  refine V_aload_n 0 dX10_van_59 rfl rfl ?_
  refine GI_26_2 dX10_van_60 lkX10_125 ?_
  refine V_icmp_ge 279 dX10_van_63 (by decide) ⟨fun z => ?_, fun z => ?_⟩
  · replace k := k.1 z
    refine V_aload_n 0 dX10_van_279 rfl rfl ?_
    refine V_dup dX10_van_280 rfl ?_
    refine GI_26_20 dX10_van_281 lkX10_128 ?_
    refine V_iconst 1 dX10_van_284 (by decide) ?_
    refine V_iadd dX10_van_285 ?_
    refine PI_26_20 dX10_van_286 lkX10_128 ?_
    refine V_iload_n 3 dX10_van_289 rfl rfl ?_
    exact V_ireturn dX10_van_290 rfl k
  · replace k := k.2 z
    refine V_aload_n 0 dX10_van_66 rfl rfl ?_
    refine V_iload 4 dX10_van_67 rfl ?_
    refine V_callV (mc := 0) (ms := 0) (as := [aI l4]) (st := []) (by decide) rt_26 rfl dX10_van_69 okX10_isParcel inX10_isParcel seX10_isParcel lkX10_134 rfl (Nat.le_of_ble_eq_true rfl) (Nat.zero_le _) (Nat.zero_le _) (Cl.mono (fun r1 h2 z => ?_) k)
    obtain ⟨x3, rfl, k⟩ := z
    refine V_if_eq 273 dX10_van_72 (by decide) ⟨fun z => ?_, fun z => ?_⟩
    · replace k := k.1 z
      refine V_iinc 4 (v := l4 + 1) dX10_van_273 rfl rfl (by decide) rfl ?_
      refine V_goto 57 dX10_van_276 (by decide) ?_
      exact V_lv [1, 2, 3, 0] rfl k
    · replace k := k.2 z
      refine V_aload_n 0 dX10_van_75 rfl rfl ?_
      refine GS_26_23 dX10_van_76 lkX10_64 ?_
      refine V_aload_n 0 dX10_van_79 rfl rfl ?_
      refine GS_26_13 dX10_van_80 lkX10_40 ?_
      refine V_iload 4 dX10_van_83 rfl ?_
      refine V_iald (by decide) rt_37 dX10_van_85 k.1 ?_
      replace k := k.2
      refine V_zald (by decide) rt_45 dX10_van_86 k.1 ?_
      replace k := k.2
      refine V_if_eq 93 dX10_van_87 (by decide) ⟨fun z => ?_, fun z => ?_⟩
      · replace k := k.1 z
        refine V_aload_n 0 dX10_van_93 rfl rfl ?_
        refine GS_26_13 dX10_van_94 lkX10_40 ?_
        refine V_iload 4 dX10_van_97 rfl ?_
        refine V_iald (by decide) rt_37 dX10_van_99 k.1 ?_
        replace k := k.2
        refine V_istore 5 dX10_van_100 (by decide) rfl ?_
        refine V_aload_n 0 dX10_van_102 rfl rfl ?_
        refine GS_26_23 dX10_van_103 lkX10_64 ?_
        refine V_iload 5 dX10_van_106 rfl ?_
        refine V_iconst 1 dX10_van_108 (by decide) ?_
        refine V_zast (by decide) rt_45 dX10_van_109 k.1 (by decide) ?_
        replace k := k.2
        refine V_iconst 0 dX10_van_110 (by decide) ?_
        refine V_istore 6 dX10_van_111 (by decide) rfl ?_
        refine V_iconst 0 dX10_van_113 (by decide) ?_
        refine V_istore 7 dX10_van_114 (by decide) rfl ?_
        exact V_lv [3, 4, 5, 6, 2, 1, 0] rfl k
      · replace k := k.2 z
        refine V_goto 273 dX10_van_90 (by decide) ?_
        refine V_iinc 4 (v := l4 + 1) dX10_van_273 rfl rfl (by decide) rfl ?_
        refine V_goto 57 dX10_van_276 (by decide) ?_
        exact V_lv [1, 2, 3, 0] rfl k
set_option maxRecDepth 20000 in
set_option maxHeartbeats 2000000 in
theorem wX10_van_116 {d bc bs : Nat} {h : HS} {P : Option AV → HS → Prop} {l2 : Int32} {l3 : Int32} {l4 : Int32} {l5 : Int32} {l6 : Int32} {l7 : Int32} (k : (((gI h 26 0 2) ≤ l7) → (((l6 ≤ l2) → (V true mX10_van (d + 1) bc bs 185 [(0, aR 26 0), (2, aI (l2 - l6)), (3, aI l3), (4, aI l4), (5, aI l5), (7, aI 0)] [] h P)) ∧ ((¬ l6 ≤ l2) → (V true mX10_van (d + 1) bc bs 57 [(0, aR 26 0), (2, aI l2), (3, aI l3), (4, aI (l4 + 1))] [] h P)))) ∧ ((¬ (gI h 26 0 2) ≤ l7) → (Cl true mX10_isParcel d 0 0 [aR 26 0, aI l7] h (fun r1 h2 => ∃ x3 : Int32, r1 = some (aI x3) ∧ (((x3 = 0) → (V true mX10_van (d + 1) bc bs 116 [(0, aR 26 0), (2, aI l2), (3, aI l3), (4, aI l4), (5, aI l5), (6, aI (l6 + 0)), (7, aI (l7 + 1))] [] h2 P)) ∧ ((¬ x3 = 0) → (vp_in l7 120 ∧ (((¬ (gI h2 37 0 l7.toNatClampNeg) = l5) → (V true mX10_van (d + 1) bc bs 116 [(0, aR 26 0), (2, aI l2), (3, aI l3), (4, aI l4), (5, aI l5), (6, aI (l6 + 0)), (7, aI (l7 + 1))] [] h2 P)) ∧ (((gI h2 37 0 l7.toNatClampNeg) = l5) → (vp_in l7 120 ∧ (V true mX10_van (d + 1) bc bs 116 [(0, aR 26 0), (2, aI l2), (3, aI l3), (4, aI l4), (5, aI l5), (6, aI (l6 + (gI h2 36 0 l7.toNatClampNeg))), (7, aI (l7 + 1))] [] h2 P))))))))))) : V true mX10_van (d + 1) bc bs 116 [(0, aR 26 0), (2, aI l2), (3, aI l3), (4, aI l4), (5, aI l5), (6, aI l6), (7, aI l7)] [] h P := by
  refine V_iload 7 dX10_van_116 rfl ?_
  refine V_aload_n 0 dX10_van_118 rfl rfl ?_
  refine GI_26_2 dX10_van_119 lkX10_125 ?_
  refine V_icmp_ge 168 dX10_van_122 (by decide) ⟨fun z => ?_, fun z => ?_⟩
  · replace k := k.1 z
    refine V_iload 6 dX10_van_168 rfl ?_
    refine V_iload_n 2 dX10_van_170 rfl rfl ?_
    refine V_icmp_le 177 dX10_van_171 (by decide) ⟨fun z => ?_, fun z => ?_⟩
    · replace k := k.1 z
      refine V_iload_n 2 dX10_van_177 rfl rfl ?_
      refine V_iload 6 dX10_van_178 rfl ?_
      refine V_isub dX10_van_180 ?_
      refine V_istore_n 2 dX10_van_181 rfl (by decide) rfl ?_
      refine V_iconst 0 dX10_van_182 (by decide) ?_
      refine V_istore 7 dX10_van_183 (by decide) rfl ?_
      exact V_lv [2, 1, 3, 4, 5, 0] rfl k
    · replace k := k.2 z
      refine V_goto 273 dX10_van_174 (by decide) ?_
      refine V_iinc 4 (v := l4 + 1) dX10_van_273 rfl rfl (by decide) rfl ?_
      refine V_goto 57 dX10_van_276 (by decide) ?_
      exact V_lv [1, 2, 3, 0] rfl k
  · replace k := k.2 z
    refine V_iload 6 dX10_van_125 rfl ?_
    refine V_aload_n 0 dX10_van_127 rfl rfl ?_
    refine V_iload 7 dX10_van_128 rfl ?_
    refine V_callV (mc := 0) (ms := 0) (as := [aI l7]) (st := [aI l6]) (by decide) rt_26 rfl dX10_van_130 okX10_isParcel inX10_isParcel seX10_isParcel lkX10_134 rfl (Nat.le_of_ble_eq_true rfl) (Nat.zero_le _) (Nat.zero_le _) (Cl.mono (fun r1 h2 z => ?_) k)
    obtain ⟨x3, rfl, k⟩ := z
    refine V_if_eq 158 dX10_van_133 (by decide) ⟨fun z => ?_, fun z => ?_⟩
    · replace k := k.1 z
      refine V_iconst 0 dX10_van_158 (by decide) ?_
      refine V_iadd dX10_van_159 ?_
      refine V_istore 6 dX10_van_160 (by decide) rfl ?_
      refine V_iinc 7 (v := l7 + 1) dX10_van_162 rfl rfl (by decide) rfl ?_
      refine V_goto 116 dX10_van_165 (by decide) ?_
      exact V_lv [2, 3, 4, 5, 6, 1, 0] rfl k
    · replace k := k.2 z
      refine V_aload_n 0 dX10_van_136 rfl rfl ?_
      refine GS_26_13 dX10_van_137 lkX10_40 ?_
      refine V_iload 7 dX10_van_140 rfl ?_
      refine V_iald (by decide) rt_37 dX10_van_142 k.1 ?_
      replace k := k.2
      refine V_iload 5 dX10_van_143 rfl ?_
      refine V_icmp_ne 158 dX10_van_145 (by decide) ⟨fun z => ?_, fun z => ?_⟩
      · replace k := k.1 z
        refine V_iconst 0 dX10_van_158 (by decide) ?_
        refine V_iadd dX10_van_159 ?_
        refine V_istore 6 dX10_van_160 (by decide) rfl ?_
        refine V_iinc 7 (v := l7 + 1) dX10_van_162 rfl rfl (by decide) rfl ?_
        refine V_goto 116 dX10_van_165 (by decide) ?_
        exact V_lv [2, 3, 4, 5, 6, 1, 0] rfl k
      · replace k := k.2 z
        refine V_aload_n 0 dX10_van_148 rfl rfl ?_
        refine GS_26_12 dX10_van_149 lkX10_37 ?_
        refine V_iload 7 dX10_van_152 rfl ?_
        refine V_iald (by decide) rt_36 dX10_van_154 k.1 ?_
        replace k := k.2
        refine V_goto 159 dX10_van_155 (by decide) ?_
        refine V_iadd dX10_van_159 ?_
        refine V_istore 6 dX10_van_160 (by decide) rfl ?_
        refine V_iinc 7 (v := l7 + 1) dX10_van_162 rfl rfl (by decide) rfl ?_
        refine V_goto 116 dX10_van_165 (by decide) ?_
        exact V_lv [2, 3, 4, 5, 6, 1, 0] rfl k
set_option maxRecDepth 20000 in
set_option maxHeartbeats 2000000 in
theorem wX10_van_185 {d bc bs : Nat} {h : HS} {P : Option AV → HS → Prop} {l2 : Int32} {l3 : Int32} {l4 : Int32} {l5 : Int32} {l7 : Int32} (k : (((gI h 26 0 2) ≤ l7) → (vp_in (gI h 26 0 21) 20 ∧ (V true mX10_van (d + 1) bc bs 57 [(0, aR 26 0), (2, aI l2), (3, aI l3), (4, aI (l4 + 1))] [] (sI (sI h 44 0 (gI h 26 0 21).toNatClampNeg l5) 26 0 21 ((gI (sI h 44 0 (gI h 26 0 21).toNatClampNeg l5) 26 0 21) + 1)) P))) ∧ ((¬ (gI h 26 0 2) ≤ l7) → (Cl true mX10_isParcel d 0 0 [aR 26 0, aI l7] h (fun r1 h2 => ∃ x3 : Int32, r1 = some (aI x3) ∧ (((x3 = 0) → (V true mX10_van (d + 1) bc bs 185 [(0, aR 26 0), (2, aI l2), (3, aI l3), (4, aI l4), (5, aI l5), (7, aI (l7 + 1))] [] h2 P)) ∧ ((¬ x3 = 0) → (vp_in l7 120 ∧ ((((gI h2 37 0 l7.toNatClampNeg) = l5) → (vp_in l7 120 ∧ (vp_in l7 120 ∧ (V true mX10_van (d + 1) bc bs 185 [(0, aR 26 0), (2, aI l2), (3, aI (l3 + (gI (sI h2 42 0 l7.toNatClampNeg ((2 * (gI h2 26 0 0)) + (gI h2 26 0 20))) 36 0 l7.toNatClampNeg))), (4, aI l4), (5, aI l5), (7, aI (l7 + 1))] [] (sI h2 42 0 l7.toNatClampNeg ((2 * (gI h2 26 0 0)) + (gI h2 26 0 20))) P)))) ∧ ((¬ (gI h2 37 0 l7.toNatClampNeg) = l5) → (V true mX10_van (d + 1) bc bs 185 [(0, aR 26 0), (2, aI l2), (3, aI l3), (4, aI l4), (5, aI l5), (7, aI (l7 + 1))] [] h2 P)))))))))) : V true mX10_van (d + 1) bc bs 185 [(0, aR 26 0), (2, aI l2), (3, aI l3), (4, aI l4), (5, aI l5), (7, aI l7)] [] h P := by
  refine V_iload 7 dX10_van_185 rfl ?_
  refine V_aload_n 0 dX10_van_187 rfl rfl ?_
  refine GI_26_2 dX10_van_188 lkX10_125 ?_
  refine V_icmp_ge 252 dX10_van_191 (by decide) ⟨fun z => ?_, fun z => ?_⟩
  · replace k := k.1 z
    refine V_aload_n 0 dX10_van_252 rfl rfl ?_
    refine GS_26_22 dX10_van_253 lkX10_61 ?_
    refine V_aload_n 0 dX10_van_256 rfl rfl ?_
    refine GI_26_21 dX10_van_257 lkX10_140 ?_
    refine V_iload 5 dX10_van_260 rfl ?_
    refine V_iast (by decide) rt_44 dX10_van_262 k.1 ?_
    replace k := k.2
    refine V_aload_n 0 dX10_van_263 rfl rfl ?_
    refine V_dup dX10_van_264 rfl ?_
    refine GI_26_21 dX10_van_265 lkX10_140 ?_
    refine V_iconst 1 dX10_van_268 (by decide) ?_
    refine V_iadd dX10_van_269 ?_
    refine PI_26_21 dX10_van_270 lkX10_140 ?_
    refine V_iinc 4 (v := l4 + 1) dX10_van_273 rfl rfl (by decide) rfl ?_
    refine V_goto 57 dX10_van_276 (by decide) ?_
    exact V_lv [1, 2, 3, 0] rfl k
  · replace k := k.2 z
    refine V_aload_n 0 dX10_van_194 rfl rfl ?_
    refine V_iload 7 dX10_van_195 rfl ?_
    refine V_callV (mc := 0) (ms := 0) (as := [aI l7]) (st := []) (by decide) rt_26 rfl dX10_van_197 okX10_isParcel inX10_isParcel seX10_isParcel lkX10_134 rfl (Nat.le_of_ble_eq_true rfl) (Nat.zero_le _) (Nat.zero_le _) (Cl.mono (fun r1 h2 z => ?_) k)
    obtain ⟨x3, rfl, k⟩ := z
    refine V_if_eq 246 dX10_van_200 (by decide) ⟨fun z => ?_, fun z => ?_⟩
    · replace k := k.1 z
      refine V_iinc 7 (v := l7 + 1) dX10_van_246 rfl rfl (by decide) rfl ?_
      refine V_goto 185 dX10_van_249 (by decide) ?_
      exact V_lv [1, 2, 3, 4, 5, 0] rfl k
    · replace k := k.2 z
      refine V_aload_n 0 dX10_van_203 rfl rfl ?_
      refine GS_26_13 dX10_van_204 lkX10_40 ?_
      refine V_iload 7 dX10_van_207 rfl ?_
      refine V_iald (by decide) rt_37 dX10_van_209 k.1 ?_
      replace k := k.2
      refine V_iload 5 dX10_van_210 rfl ?_
      refine V_icmp_eq 218 dX10_van_212 (by decide) ⟨fun z => ?_, fun z => ?_⟩
      · replace k := k.1 z
        refine V_aload_n 0 dX10_van_218 rfl rfl ?_
        refine GS_26_18 dX10_van_219 lkX10_55 ?_
        refine V_iload 7 dX10_van_222 rfl ?_
        refine V_iconst 2 dX10_van_224 (by decide) ?_
        refine V_aload_n 0 dX10_van_225 rfl rfl ?_
        refine GI_26_0 dX10_van_226 lkX10_119 ?_
        refine V_imul dX10_van_229 ?_
        refine V_aload_n 0 dX10_van_230 rfl rfl ?_
        refine GI_26_20 dX10_van_231 lkX10_128 ?_
        refine V_iadd dX10_van_234 ?_
        refine V_iast (by decide) rt_42 dX10_van_235 k.1 ?_
        replace k := k.2
        refine V_iload_n 3 dX10_van_236 rfl rfl ?_
        refine V_aload_n 0 dX10_van_237 rfl rfl ?_
        refine GS_26_12 dX10_van_238 lkX10_37 ?_
        refine V_iload 7 dX10_van_241 rfl ?_
        refine V_iald (by decide) rt_36 dX10_van_243 k.1 ?_
        replace k := k.2
        refine V_iadd dX10_van_244 ?_
        refine V_istore_n 3 dX10_van_245 rfl (by decide) rfl ?_
        refine V_iinc 7 (v := l7 + 1) dX10_van_246 rfl rfl (by decide) rfl ?_
        refine V_goto 185 dX10_van_249 (by decide) ?_
        exact V_lv [2, 3, 1, 4, 5, 0] rfl k
      · replace k := k.2 z
        refine V_goto 246 dX10_van_215 (by decide) ?_
        refine V_iinc 7 (v := l7 + 1) dX10_van_246 rfl rfl (by decide) rfl ?_
        refine V_goto 185 dX10_van_249 (by decide) ?_
        exact V_lv [1, 2, 3, 4, 5, 0] rfl k
-- X10_house cuts []
set_option maxRecDepth 20000 in
set_option maxHeartbeats 2000000 in
theorem wX10_house {d bc bs : Nat} {h : HS} {P : Option AV → HS → Prop} {l1 : Int32} (k : Cl true mX10_isIn d 0 0 [aI l1, aI 0, aI ((gI h 26 0 21) - 1)] h (fun r1 h2 => ∃ x3 : Int32, r1 = some (aI x3) ∧ (((x3 = 0) → (P (some (aI (-1))) h2)) ∧ ((¬ x3 = 0) → (vp_in l1 20 ∧ (P (some (aI (gI h2 44 0 l1.toNatClampNeg))) h2)))))) : Cl true mX10_house (d + 1) bc bs [aR 26 0, aI l1] h P := by
  refine Cl_of (by decide) (Nat.le_of_ble_eq_true rfl) ?_
  show V true mX10_house (d + 1) bc bs 0 [(0, aR 26 0), (1, aI l1)] [] h P
  refine V_iload_n 1 dX10_house_0 rfl rfl ?_
  refine V_iconst 0 dX10_house_1 (by decide) ?_
  refine V_aload_n 0 dX10_house_2 rfl rfl ?_
  refine GI_26_21 dX10_house_3 lkX10_140 ?_
  refine V_iconst 1 dX10_house_6 (by decide) ?_
  refine V_isub dX10_house_7 ?_
  refine V_callS (mc := 0) (ms := 0) (as := [aI l1, aI 0, aI ((gI h 26 0 21) - 1)]) (st := []) dX10_house_8 okX10_isIn stX10_isIn lkX10_111 rfl (Nat.le_of_ble_eq_true rfl) (Nat.zero_le _) (Nat.zero_le _) (Cl.mono (fun r1 h2 z => ?_) k)
  obtain ⟨x3, rfl, k⟩ := z
  refine V_if_eq 23 dX10_house_11 (by decide) ⟨fun z => ?_, fun z => ?_⟩
  · replace k := k.1 z
    refine V_iconst (-1) dX10_house_23 (by decide) ?_
    exact V_ireturn dX10_house_24 rfl k
  · replace k := k.2 z
    refine V_aload_n 0 dX10_house_14 rfl rfl ?_
    refine GS_26_22 dX10_house_15 lkX10_61 ?_
    refine V_iload_n 1 dX10_house_18 rfl rfl ?_
    refine V_iald (by decide) rt_44 dX10_house_19 k.1 ?_
    replace k := k.2
    refine V_goto 24 dX10_house_20 (by decide) ?_
    exact V_ireturn dX10_house_24 rfl k
-- X10_feed cuts [18]
set_option maxRecDepth 20000 in
set_option maxHeartbeats 2000000 in
theorem wX10_feed {d bc bs : Nat} {h : HS} {P : Option AV → HS → Prop} {l1 : Int32} {l2 : Int32} {l3 : Int32} {l4 : Int32} {l5 : Int32} (k : ((((gI h 26 0 35) + 20) ≤ 400) → (V true mX10_feed (d + 1) bc bs 18 [(0, aR 26 0), (1, aI l1), (2, aI l2), (3, aI l3), (4, aI l4), (5, aI l5), (6, aI 0)] [] h P)) ∧ ((¬ ((gI h 26 0 35) + 20) ≤ 400) → (P (some (aI (-1))) h))) : Cl true mX10_feed (d + 1) bc bs [aR 26 0, aI l1, aI l2, aI l3, aI l4, aI l5] h P := by
  refine Cl_of (by decide) (Nat.le_of_ble_eq_true rfl) ?_
  show V true mX10_feed (d + 1) bc bs 0 [(0, aR 26 0), (1, aI l1), (2, aI l2), (3, aI l3), (4, aI l4), (5, aI l5)] [] h P
  refine V_aload_n 0 dX10_feed_0 rfl rfl ?_
  refine GI_26_35 dX10_feed_1 lkX10_143 ?_
  refine V_bipush 20 dX10_feed_4 (by decide) ?_
  refine V_iadd dX10_feed_6 ?_
  refine V_sipush 400 dX10_feed_7 (by decide) ?_
  refine V_icmp_le 15 dX10_feed_10 (by decide) ⟨fun z => ?_, fun z => ?_⟩
  · replace k := k.1 z
    refine V_iconst 0 dX10_feed_15 (by decide) ?_
    refine V_istore 6 dX10_feed_16 (by decide) rfl ?_
    exact V_lv [1, 2, 3, 4, 5, 6, 0] rfl k
  · replace k := k.2 z
    refine V_iconst (-1) dX10_feed_13 (by decide) ?_
    exact V_ireturn dX10_feed_14 rfl k
set_option maxRecDepth 20000 in
set_option maxHeartbeats 2000000 in
theorem wX10_feed_18 {d bc bs : Nat} {h : HS} {P : Option AV → HS → Prop} {l1 : Int32} {l2 : Int32} {l3 : Int32} {l4 : Int32} {l5 : Int32} {l6 : Int32} (k : ((20 ≤ l6) → (P (some (aI (gI h 26 0 35))) h)) ∧ ((¬ 20 ≤ l6) → (((4 ≤ l6) → (((8 ≤ l6) → (((12 ≤ l6) → (((16 ≤ l6) → (vp_in (gI h 26 0 35) 400 ∧ (V true mX10_feed (d + 1) bc bs 18 [(0, aR 26 0), (1, aI l1), (2, aI l2), (3, aI l3), (4, aI l4), (5, aI l5), (6, aI (l6 + 1))] [] (sI (sI h 53 0 (gI h 26 0 35).toNatClampNeg ((l5 >>> ((24 - (8 * (l6 - l6 / 4 * 4))) &&& 31)) &&& 255)) 26 0 35 ((gI (sI h 53 0 (gI h 26 0 35).toNatClampNeg ((l5 >>> ((24 - (8 * (l6 - l6 / 4 * 4))) &&& 31)) &&& 255)) 26 0 35) + 1)) P))) ∧ ((¬ 16 ≤ l6) → (vp_in (gI h 26 0 35) 400 ∧ (V true mX10_feed (d + 1) bc bs 18 [(0, aR 26 0), (1, aI l1), (2, aI l2), (3, aI l3), (4, aI l4), (5, aI l5), (6, aI (l6 + 1))] [] (sI (sI h 53 0 (gI h 26 0 35).toNatClampNeg ((l4 >>> ((24 - (8 * (l6 - l6 / 4 * 4))) &&& 31)) &&& 255)) 26 0 35 ((gI (sI h 53 0 (gI h 26 0 35).toNatClampNeg ((l4 >>> ((24 - (8 * (l6 - l6 / 4 * 4))) &&& 31)) &&& 255)) 26 0 35) + 1)) P))))) ∧ ((¬ 12 ≤ l6) → (vp_in (gI h 26 0 35) 400 ∧ (V true mX10_feed (d + 1) bc bs 18 [(0, aR 26 0), (1, aI l1), (2, aI l2), (3, aI l3), (4, aI l4), (5, aI l5), (6, aI (l6 + 1))] [] (sI (sI h 53 0 (gI h 26 0 35).toNatClampNeg ((l3 >>> ((24 - (8 * (l6 - l6 / 4 * 4))) &&& 31)) &&& 255)) 26 0 35 ((gI (sI h 53 0 (gI h 26 0 35).toNatClampNeg ((l3 >>> ((24 - (8 * (l6 - l6 / 4 * 4))) &&& 31)) &&& 255)) 26 0 35) + 1)) P))))) ∧ ((¬ 8 ≤ l6) → (vp_in (gI h 26 0 35) 400 ∧ (V true mX10_feed (d + 1) bc bs 18 [(0, aR 26 0), (1, aI l1), (2, aI l2), (3, aI l3), (4, aI l4), (5, aI l5), (6, aI (l6 + 1))] [] (sI (sI h 53 0 (gI h 26 0 35).toNatClampNeg ((l2 >>> ((24 - (8 * (l6 - l6 / 4 * 4))) &&& 31)) &&& 255)) 26 0 35 ((gI (sI h 53 0 (gI h 26 0 35).toNatClampNeg ((l2 >>> ((24 - (8 * (l6 - l6 / 4 * 4))) &&& 31)) &&& 255)) 26 0 35) + 1)) P))))) ∧ ((¬ 4 ≤ l6) → (vp_in (gI h 26 0 35) 400 ∧ (V true mX10_feed (d + 1) bc bs 18 [(0, aR 26 0), (1, aI l1), (2, aI l2), (3, aI l3), (4, aI l4), (5, aI l5), (6, aI (l6 + 1))] [] (sI (sI h 53 0 (gI h 26 0 35).toNatClampNeg ((l1 >>> ((24 - (8 * (l6 - l6 / 4 * 4))) &&& 31)) &&& 255)) 26 0 35 ((gI (sI h 53 0 (gI h 26 0 35).toNatClampNeg ((l1 >>> ((24 - (8 * (l6 - l6 / 4 * 4))) &&& 31)) &&& 255)) 26 0 35) + 1)) P)))))) : V true mX10_feed (d + 1) bc bs 18 [(0, aR 26 0), (1, aI l1), (2, aI l2), (3, aI l3), (4, aI l4), (5, aI l5), (6, aI l6)] [] h P := by
  refine V_iload 6 dX10_feed_18 rfl ?_
  refine V_bipush 20 dX10_feed_20 (by decide) ?_
  refine V_icmp_ge 115 dX10_feed_22 (by decide) ⟨fun z => ?_, fun z => ?_⟩
  · replace k := k.1 z
    refine V_aload_n 0 dX10_feed_115 rfl rfl ?_
    refine GI_26_35 dX10_feed_116 lkX10_143 ?_
    exact V_ireturn dX10_feed_119 rfl k
  · replace k := k.2 z
    refine V_iload 6 dX10_feed_25 rfl ?_
    refine V_iconst 4 dX10_feed_27 (by decide) ?_
    refine V_icmp_ge 35 dX10_feed_28 (by decide) ⟨fun z => ?_, fun z => ?_⟩
    · replace k := k.1 z
      refine V_iload 6 dX10_feed_35 rfl ?_
      refine V_bipush 8 dX10_feed_37 (by decide) ?_
      refine V_icmp_ge 46 dX10_feed_39 (by decide) ⟨fun z => ?_, fun z => ?_⟩
      · replace k := k.1 z
        refine V_iload 6 dX10_feed_46 rfl ?_
        refine V_bipush 12 dX10_feed_48 (by decide) ?_
        refine V_icmp_ge 57 dX10_feed_50 (by decide) ⟨fun z => ?_, fun z => ?_⟩
        · replace k := k.1 z
          refine V_iload 6 dX10_feed_57 rfl ?_
          refine V_bipush 16 dX10_feed_59 (by decide) ?_
          refine V_icmp_ge 69 dX10_feed_61 (by decide) ⟨fun z => ?_, fun z => ?_⟩
          · replace k := k.1 z
            refine V_iload 5 dX10_feed_69 rfl ?_
            refine V_istore 7 dX10_feed_71 (by decide) rfl ?_
            refine V_aload_n 0 dX10_feed_73 rfl rfl ?_
            refine GS_26_34 dX10_feed_74 lkX10_89 ?_
            refine V_aload_n 0 dX10_feed_77 rfl rfl ?_
            refine GI_26_35 dX10_feed_78 lkX10_143 ?_
            refine V_iload 7 dX10_feed_81 rfl ?_
            refine V_bipush 24 dX10_feed_83 (by decide) ?_
            refine V_bipush 8 dX10_feed_85 (by decide) ?_
            refine V_iload 6 dX10_feed_87 rfl ?_
            refine V_iconst 4 dX10_feed_89 (by decide) ?_
            refine V_irem dX10_feed_90 (by decide) ?_
            refine V_imul dX10_feed_91 ?_
            refine V_isub dX10_feed_92 ?_
            refine V_ishr dX10_feed_93 ?_
            refine V_sipush 255 dX10_feed_94 (by decide) ?_
            refine V_iand dX10_feed_97 ?_
            refine V_iast (by decide) rt_53 dX10_feed_98 k.1 ?_
            replace k := k.2
            refine V_aload_n 0 dX10_feed_99 rfl rfl ?_
            refine V_dup dX10_feed_100 rfl ?_
            refine GI_26_35 dX10_feed_101 lkX10_143 ?_
            refine V_iconst 1 dX10_feed_104 (by decide) ?_
            refine V_iadd dX10_feed_105 ?_
            refine PI_26_35 dX10_feed_106 lkX10_143 ?_
            refine V_iinc 6 (v := l6 + 1) dX10_feed_109 rfl rfl (by decide) rfl ?_
            refine V_goto 18 dX10_feed_112 (by decide) ?_
            exact V_lv [2, 3, 4, 5, 6, 7, 0] rfl k
          · replace k := k.2 z
            refine V_iload 4 dX10_feed_64 rfl ?_
            refine V_goto 71 dX10_feed_66 (by decide) ?_
            refine V_istore 7 dX10_feed_71 (by decide) rfl ?_
            refine V_aload_n 0 dX10_feed_73 rfl rfl ?_
            refine GS_26_34 dX10_feed_74 lkX10_89 ?_
            refine V_aload_n 0 dX10_feed_77 rfl rfl ?_
            refine GI_26_35 dX10_feed_78 lkX10_143 ?_
            refine V_iload 7 dX10_feed_81 rfl ?_
            refine V_bipush 24 dX10_feed_83 (by decide) ?_
            refine V_bipush 8 dX10_feed_85 (by decide) ?_
            refine V_iload 6 dX10_feed_87 rfl ?_
            refine V_iconst 4 dX10_feed_89 (by decide) ?_
            refine V_irem dX10_feed_90 (by decide) ?_
            refine V_imul dX10_feed_91 ?_
            refine V_isub dX10_feed_92 ?_
            refine V_ishr dX10_feed_93 ?_
            refine V_sipush 255 dX10_feed_94 (by decide) ?_
            refine V_iand dX10_feed_97 ?_
            refine V_iast (by decide) rt_53 dX10_feed_98 k.1 ?_
            replace k := k.2
            refine V_aload_n 0 dX10_feed_99 rfl rfl ?_
            refine V_dup dX10_feed_100 rfl ?_
            refine GI_26_35 dX10_feed_101 lkX10_143 ?_
            refine V_iconst 1 dX10_feed_104 (by decide) ?_
            refine V_iadd dX10_feed_105 ?_
            refine PI_26_35 dX10_feed_106 lkX10_143 ?_
            refine V_iinc 6 (v := l6 + 1) dX10_feed_109 rfl rfl (by decide) rfl ?_
            refine V_goto 18 dX10_feed_112 (by decide) ?_
            exact V_lv [2, 3, 4, 5, 6, 7, 0] rfl k
        · replace k := k.2 z
          refine V_iload_n 3 dX10_feed_53 rfl rfl ?_
          refine V_goto 71 dX10_feed_54 (by decide) ?_
          refine V_istore 7 dX10_feed_71 (by decide) rfl ?_
          refine V_aload_n 0 dX10_feed_73 rfl rfl ?_
          refine GS_26_34 dX10_feed_74 lkX10_89 ?_
          refine V_aload_n 0 dX10_feed_77 rfl rfl ?_
          refine GI_26_35 dX10_feed_78 lkX10_143 ?_
          refine V_iload 7 dX10_feed_81 rfl ?_
          refine V_bipush 24 dX10_feed_83 (by decide) ?_
          refine V_bipush 8 dX10_feed_85 (by decide) ?_
          refine V_iload 6 dX10_feed_87 rfl ?_
          refine V_iconst 4 dX10_feed_89 (by decide) ?_
          refine V_irem dX10_feed_90 (by decide) ?_
          refine V_imul dX10_feed_91 ?_
          refine V_isub dX10_feed_92 ?_
          refine V_ishr dX10_feed_93 ?_
          refine V_sipush 255 dX10_feed_94 (by decide) ?_
          refine V_iand dX10_feed_97 ?_
          refine V_iast (by decide) rt_53 dX10_feed_98 k.1 ?_
          replace k := k.2
          refine V_aload_n 0 dX10_feed_99 rfl rfl ?_
          refine V_dup dX10_feed_100 rfl ?_
          refine GI_26_35 dX10_feed_101 lkX10_143 ?_
          refine V_iconst 1 dX10_feed_104 (by decide) ?_
          refine V_iadd dX10_feed_105 ?_
          refine PI_26_35 dX10_feed_106 lkX10_143 ?_
          refine V_iinc 6 (v := l6 + 1) dX10_feed_109 rfl rfl (by decide) rfl ?_
          refine V_goto 18 dX10_feed_112 (by decide) ?_
          exact V_lv [2, 3, 4, 5, 6, 7, 0] rfl k
      · replace k := k.2 z
        refine V_iload_n 2 dX10_feed_42 rfl rfl ?_
        refine V_goto 71 dX10_feed_43 (by decide) ?_
        refine V_istore 7 dX10_feed_71 (by decide) rfl ?_
        refine V_aload_n 0 dX10_feed_73 rfl rfl ?_
        refine GS_26_34 dX10_feed_74 lkX10_89 ?_
        refine V_aload_n 0 dX10_feed_77 rfl rfl ?_
        refine GI_26_35 dX10_feed_78 lkX10_143 ?_
        refine V_iload 7 dX10_feed_81 rfl ?_
        refine V_bipush 24 dX10_feed_83 (by decide) ?_
        refine V_bipush 8 dX10_feed_85 (by decide) ?_
        refine V_iload 6 dX10_feed_87 rfl ?_
        refine V_iconst 4 dX10_feed_89 (by decide) ?_
        refine V_irem dX10_feed_90 (by decide) ?_
        refine V_imul dX10_feed_91 ?_
        refine V_isub dX10_feed_92 ?_
        refine V_ishr dX10_feed_93 ?_
        refine V_sipush 255 dX10_feed_94 (by decide) ?_
        refine V_iand dX10_feed_97 ?_
        refine V_iast (by decide) rt_53 dX10_feed_98 k.1 ?_
        replace k := k.2
        refine V_aload_n 0 dX10_feed_99 rfl rfl ?_
        refine V_dup dX10_feed_100 rfl ?_
        refine GI_26_35 dX10_feed_101 lkX10_143 ?_
        refine V_iconst 1 dX10_feed_104 (by decide) ?_
        refine V_iadd dX10_feed_105 ?_
        refine PI_26_35 dX10_feed_106 lkX10_143 ?_
        refine V_iinc 6 (v := l6 + 1) dX10_feed_109 rfl rfl (by decide) rfl ?_
        refine V_goto 18 dX10_feed_112 (by decide) ?_
        exact V_lv [2, 3, 4, 5, 6, 7, 0] rfl k
    · replace k := k.2 z
      refine V_iload_n 1 dX10_feed_31 rfl rfl ?_
      refine V_goto 71 dX10_feed_32 (by decide) ?_
      refine V_istore 7 dX10_feed_71 (by decide) rfl ?_
      refine V_aload_n 0 dX10_feed_73 rfl rfl ?_
      refine GS_26_34 dX10_feed_74 lkX10_89 ?_
      refine V_aload_n 0 dX10_feed_77 rfl rfl ?_
      refine GI_26_35 dX10_feed_78 lkX10_143 ?_
      refine V_iload 7 dX10_feed_81 rfl ?_
      refine V_bipush 24 dX10_feed_83 (by decide) ?_
      refine V_bipush 8 dX10_feed_85 (by decide) ?_
      refine V_iload 6 dX10_feed_87 rfl ?_
      refine V_iconst 4 dX10_feed_89 (by decide) ?_
      refine V_irem dX10_feed_90 (by decide) ?_
      refine V_imul dX10_feed_91 ?_
      refine V_isub dX10_feed_92 ?_
      refine V_ishr dX10_feed_93 ?_
      refine V_sipush 255 dX10_feed_94 (by decide) ?_
      refine V_iand dX10_feed_97 ?_
      refine V_iast (by decide) rt_53 dX10_feed_98 k.1 ?_
      replace k := k.2
      refine V_aload_n 0 dX10_feed_99 rfl rfl ?_
      refine V_dup dX10_feed_100 rfl ?_
      refine GI_26_35 dX10_feed_101 lkX10_143 ?_
      refine V_iconst 1 dX10_feed_104 (by decide) ?_
      refine V_iadd dX10_feed_105 ?_
      refine PI_26_35 dX10_feed_106 lkX10_143 ?_
      refine V_iinc 6 (v := l6 + 1) dX10_feed_109 rfl rfl (by decide) rfl ?_
      refine V_goto 18 dX10_feed_112 (by decide) ?_
      exact V_lv [2, 3, 4, 5, 6, 7, 0] rfl k
-- X10_end cuts []
set_option maxRecDepth 20000 in
set_option maxHeartbeats 2000000 in
theorem wX10_end {d bc bs : Nat} {h : HS} {P : Option AV → HS → Prop} {l1 : Int32} (k : Cl true mX10_isIn d 0 0 [aI l1, aI 0, aI (gI h 26 0 35)] h (fun r1 h2 => ∃ x3 : Int32, r1 = some (aI x3) ∧ (((¬ x3 = 0) → (P (some (aI 1)) (sI h2 26 0 35 l1))) ∧ ((x3 = 0) → (P (some (aI 0)) h2))))) : Cl true mX10_end (d + 1) bc bs [aR 26 0, aI l1] h P := by
  refine Cl_of (by decide) (Nat.le_of_ble_eq_true rfl) ?_
  show V true mX10_end (d + 1) bc bs 0 [(0, aR 26 0), (1, aI l1)] [] h P
  refine V_iload_n 1 dX10_end_0 rfl rfl ?_
  refine V_iconst 0 dX10_end_1 (by decide) ?_
  refine V_aload_n 0 dX10_end_2 rfl rfl ?_
  refine GI_26_35 dX10_end_3 lkX10_143 ?_
  refine V_callS (mc := 0) (ms := 0) (as := [aI l1, aI 0, aI (gI h 26 0 35)]) (st := []) dX10_end_6 okX10_isIn stX10_isIn lkX10_111 rfl (Nat.le_of_ble_eq_true rfl) (Nat.zero_le _) (Nat.zero_le _) (Cl.mono (fun r1 h2 z => ?_) k)
  obtain ⟨x3, rfl, k⟩ := z
  refine V_if_ne 14 dX10_end_9 (by decide) ⟨fun z => ?_, fun z => ?_⟩
  · replace k := k.1 z
    refine V_aload_n 0 dX10_end_14 rfl rfl ?_
    refine V_iload_n 1 dX10_end_15 rfl rfl ?_
    refine PI_26_35 dX10_end_16 lkX10_143 ?_
    refine V_iconst 1 dX10_end_19 (by decide) ?_
    exact V_zreturn dX10_end_20 rfl (by decide) k
  · replace k := k.2 z
    refine V_iconst 0 dX10_end_12 (by decide) ?_
    exact V_zreturn dX10_end_13 rfl (by decide) k
-- X10_see cuts []
set_option maxRecDepth 20000 in
set_option maxHeartbeats 2000000 in
theorem wX10_see {d bc bs : Nat} {h : HS} {P : Option AV → HS → Prop} {l1 : Int32} (k : (((gI h 26 0 35) ≤ l1) → (P (some (aI (-1))) h)) ∧ ((¬ (gI h 26 0 35) ≤ l1) → (vp_in l1 400 ∧ (P (some (aI (gI h 53 0 l1.toNatClampNeg))) h)))) : Cl true mX10_see (d + 1) bc bs [aR 26 0, aI l1] h P := by
  refine Cl_of (by decide) (Nat.le_of_ble_eq_true rfl) ?_
  show V true mX10_see (d + 1) bc bs 0 [(0, aR 26 0), (1, aI l1)] [] h P
  refine V_iload_n 1 dX10_see_0 rfl rfl ?_
  refine V_aload_n 0 dX10_see_1 rfl rfl ?_
  refine GI_26_35 dX10_see_2 lkX10_143 ?_
  refine V_icmp_ge 17 dX10_see_5 (by decide) ⟨fun z => ?_, fun z => ?_⟩
  · replace k := k.1 z
    refine V_iconst (-1) dX10_see_17 (by decide) ?_
    exact V_ireturn dX10_see_18 rfl k
  · replace k := k.2 z
    refine V_aload_n 0 dX10_see_8 rfl rfl ?_
    refine GS_26_34 dX10_see_9 lkX10_89 ?_
    refine V_iload_n 1 dX10_see_12 rfl rfl ?_
    refine V_iald (by decide) rt_53 dX10_see_13 k.1 ?_
    replace k := k.2
    refine V_goto 18 dX10_see_14 (by decide) ?_
    exact V_ireturn dX10_see_18 rfl k
-- X10_isLetter cuts []
set_option maxRecDepth 20000 in
set_option maxHeartbeats 2000000 in
theorem wX10_isLetter {d bc bs : Nat} {h : HS} {P : Option AV → HS → Prop} {l0 : Int32} (k : Cl true mX10_isIn d 0 0 [aI l0, aI 97, aI 122] h (fun r1 h2 => ∃ x3 : Int32, r1 = some (aI x3) ∧ (((¬ x3 = 0) → (P (some (aI 1)) h2)) ∧ ((x3 = 0) → (Cl true mX10_isIn d 0 0 [aI l0, aI 65, aI 90] h2 (fun r4 h5 => ∃ x6 : Int32, r4 = some (aI x6) ∧ (((x6 = 0) → (P (some (aI 0)) h5)) ∧ ((¬ x6 = 0) → (P (some (aI 1)) h5))))))))) : Cl true mX10_isLetter (d + 1) bc bs [aI l0] h P := by
  refine Cl_of (by decide) (Nat.le_of_ble_eq_true rfl) ?_
  show V true mX10_isLetter (d + 1) bc bs 0 [(0, aI l0)] [] h P
  refine V_iload_n 0 dX10_isLetter_0 rfl rfl ?_
  refine V_bipush 97 dX10_isLetter_1 (by decide) ?_
  refine V_bipush 122 dX10_isLetter_3 (by decide) ?_
  refine V_callS (mc := 0) (ms := 0) (as := [aI l0, aI 97, aI 122]) (st := []) dX10_isLetter_5 okX10_isIn stX10_isIn lkX10_111 rfl (Nat.le_of_ble_eq_true rfl) (Nat.zero_le _) (Nat.zero_le _) (Cl.mono (fun r1 h2 z => ?_) k)
  obtain ⟨x3, rfl, k⟩ := z
  refine V_if_ne 22 dX10_isLetter_8 (by decide) ⟨fun z => ?_, fun z => ?_⟩
  · replace k := k.1 z
    refine V_iconst 1 dX10_isLetter_22 (by decide) ?_
    refine V_goto 27 dX10_isLetter_23 (by decide) ?_
    exact V_zreturn dX10_isLetter_27 rfl (by decide) k
  · replace k := k.2 z
    refine V_iload_n 0 dX10_isLetter_11 rfl rfl ?_
    refine V_bipush 65 dX10_isLetter_12 (by decide) ?_
    refine V_bipush 90 dX10_isLetter_14 (by decide) ?_
    refine V_callS (mc := 0) (ms := 0) (as := [aI l0, aI 65, aI 90]) (st := []) dX10_isLetter_16 okX10_isIn stX10_isIn lkX10_111 rfl (Nat.le_of_ble_eq_true rfl) (Nat.zero_le _) (Nat.zero_le _) (Cl.mono (fun r4 h5 z => ?_) k)
    obtain ⟨x6, rfl, k⟩ := z
    refine V_if_eq 26 dX10_isLetter_19 (by decide) ⟨fun z => ?_, fun z => ?_⟩
    · replace k := k.1 z
      refine V_iconst 0 dX10_isLetter_26 (by decide) ?_
      exact V_zreturn dX10_isLetter_27 rfl (by decide) k
    · replace k := k.2 z
      refine V_iconst 1 dX10_isLetter_22 (by decide) ?_
      refine V_goto 27 dX10_isLetter_23 (by decide) ?_
      exact V_zreturn dX10_isLetter_27 rfl (by decide) k
-- X10_isDigit cuts []
set_option maxRecDepth 20000 in
set_option maxHeartbeats 2000000 in
theorem wX10_isDigit {d bc bs : Nat} {h : HS} {P : Option AV → HS → Prop} {l0 : Int32} (k : Cl true mX10_isIn d 0 0 [aI l0, aI 48, aI 57] h (fun r1 h2 => ∃ x3 : Int32, r1 = some (aI x3) ∧ ((x3 = 0 ∨ x3 = 1) ∧ P (some (aI x3)) h2))) : Cl true mX10_isDigit (d + 1) bc bs [aI l0] h P := by
  refine Cl_of (by decide) (Nat.le_of_ble_eq_true rfl) ?_
  show V true mX10_isDigit (d + 1) bc bs 0 [(0, aI l0)] [] h P
  refine V_iload_n 0 dX10_isDigit_0 rfl rfl ?_
  refine V_bipush 48 dX10_isDigit_1 (by decide) ?_
  refine V_bipush 57 dX10_isDigit_3 (by decide) ?_
  refine V_callS (mc := 0) (ms := 0) (as := [aI l0, aI 48, aI 57]) (st := []) dX10_isDigit_5 okX10_isIn stX10_isIn lkX10_111 rfl (Nat.le_of_ble_eq_true rfl) (Nat.zero_le _) (Nat.zero_le _) (Cl.mono (fun r1 h2 z => ?_) k)
  obtain ⟨x3, rfl, k⟩ := z
  exact V_zreturn dX10_isDigit_8 rfl k.1 k.2
-- X10_word cuts []
set_option maxRecDepth 20000 in
set_option maxHeartbeats 2000000 in
theorem wX10_word {d bc bs : Nat} {h : HS} {P : Option AV → HS → Prop} {l0 : Int64} (k : ((¬ (lg_cmp l0 7364985) = 0) → (((¬ (lg_cmp l0 2003330414) = 0) → (((¬ (lg_cmp l0 6385252) = 0) → (((¬ (lg_cmp l0 7566701) = 0) → (((¬ (lg_cmp l0 495740088435) = 0) → (((¬ (lg_cmp l0 1650549611) = 0) → (((¬ (lg_cmp l0 470020945000) = 0) → (P (some (aI 1)) h)) ∧ (((lg_cmp l0 470020945000) = 0) → (P (some (aI 1000004)) h)))) ∧ (((lg_cmp l0 1650549611) = 0) → (P (some (aI 1000003)) h)))) ∧ (((lg_cmp l0 495740088435) = 0) → (P (some (aI 1000002)) h)))) ∧ (((lg_cmp l0 7566701) = 0) → (P (some (aI 1000001)) h)))) ∧ (((lg_cmp l0 6385252) = 0) → (P (some (aI 5)) h)))) ∧ (((lg_cmp l0 2003330414) = 0) → (P (some (aI 4)) h)))) ∧ (((lg_cmp l0 7364985) = 0) → (P (some (aI 3)) h))) : Cl true mX10_word (d + 1) bc bs [aL l0] h P := by
  refine Cl_of (by decide) (Nat.le_of_ble_eq_true rfl) ?_
  show V true mX10_word (d + 1) bc bs 0 [(0, aL l0)] [] h P
  refine V_lload_n 0 dX10_word_0 rfl rfl ?_
  refine V_ldc2 7364985 dX10_word_1 lkX10_146 ?_
  refine V_lcmp dX10_word_4 ?_
  refine V_if_ne 10 dX10_word_5 (by decide) ⟨fun z => ?_, fun z => ?_⟩
  · replace k := k.1 z
    refine V_lload_n 0 dX10_word_10 rfl rfl ?_
    refine V_ldc2 2003330414 dX10_word_11 lkX10_148 ?_
    refine V_lcmp dX10_word_14 ?_
    refine V_if_ne 20 dX10_word_15 (by decide) ⟨fun z => ?_, fun z => ?_⟩
    · replace k := k.1 z
      refine V_lload_n 0 dX10_word_20 rfl rfl ?_
      refine V_ldc2 6385252 dX10_word_21 lkX10_150 ?_
      refine V_lcmp dX10_word_24 ?_
      refine V_if_ne 30 dX10_word_25 (by decide) ⟨fun z => ?_, fun z => ?_⟩
      · replace k := k.1 z
        refine V_lload_n 0 dX10_word_30 rfl rfl ?_
        refine V_ldc2 7566701 dX10_word_31 lkX10_152 ?_
        refine V_lcmp dX10_word_34 ?_
        refine V_if_ne 41 dX10_word_35 (by decide) ⟨fun z => ?_, fun z => ?_⟩
        · replace k := k.1 z
          refine V_lload_n 0 dX10_word_41 rfl rfl ?_
          refine V_ldc2 495740088435 dX10_word_42 lkX10_155 ?_
          refine V_lcmp dX10_word_45 ?_
          refine V_if_ne 52 dX10_word_46 (by decide) ⟨fun z => ?_, fun z => ?_⟩
          · replace k := k.1 z
            refine V_lload_n 0 dX10_word_52 rfl rfl ?_
            refine V_ldc2 1650549611 dX10_word_53 lkX10_158 ?_
            refine V_lcmp dX10_word_56 ?_
            refine V_if_ne 63 dX10_word_57 (by decide) ⟨fun z => ?_, fun z => ?_⟩
            · replace k := k.1 z
              refine V_lload_n 0 dX10_word_63 rfl rfl ?_
              refine V_ldc2 470020945000 dX10_word_64 lkX10_161 ?_
              refine V_lcmp dX10_word_67 ?_
              refine V_if_ne 76 dX10_word_68 (by decide) ⟨fun z => ?_, fun z => ?_⟩
              · replace k := k.1 z
                refine V_iconst 1 dX10_word_76 (by decide) ?_
                exact V_ireturn dX10_word_77 rfl k
              · replace k := k.2 z
                refine V_ldc 1000004 dX10_word_71 lkX10_163 ?_
                refine V_goto 77 dX10_word_73 (by decide) ?_
                exact V_ireturn dX10_word_77 rfl k
            · replace k := k.2 z
              refine V_ldc 1000003 dX10_word_60 lkX10_160 ?_
              exact V_ireturn dX10_word_62 rfl k
          · replace k := k.2 z
            refine V_ldc 1000002 dX10_word_49 lkX10_157 ?_
            exact V_ireturn dX10_word_51 rfl k
        · replace k := k.2 z
          refine V_ldc 1000001 dX10_word_38 lkX10_154 ?_
          exact V_ireturn dX10_word_40 rfl k
      · replace k := k.2 z
        refine V_iconst 5 dX10_word_28 (by decide) ?_
        exact V_ireturn dX10_word_29 rfl k
    · replace k := k.2 z
      refine V_iconst 4 dX10_word_18 (by decide) ?_
      exact V_ireturn dX10_word_19 rfl k
  · replace k := k.2 z
    refine V_iconst 3 dX10_word_8 (by decide) ?_
    exact V_ireturn dX10_word_9 rfl k
-- X10_next0 cuts [0, 80, 164]
set_option maxRecDepth 20000 in
set_option maxHeartbeats 2000000 in
theorem wX10_next0 {d bc bs : Nat} {h : HS} {P : Option AV → HS → Prop}  (k : Cl true mX10_see d 0 0 [aR 26 0, aI (gI h 26 0 36)] h (fun r1 h2 => ∃ x3 : Int32, r1 = some (aI x3) ∧ (((x3 = 32) → (V true mX10_next0 (d + 1) bc bs 0 [(0, aR 26 0)] [] (sI h2 26 0 36 ((gI h2 26 0 36) + 1)) P)) ∧ ((¬ x3 = 32) → (Cl true mX10_see d 0 0 [aR 26 0, aI (gI h2 26 0 36)] h2 (fun r4 h5 => ∃ x6 : Int32, r4 = some (aI x6) ∧ (((¬ x6 = 10) → (Cl true mX10_see d 0 0 [aR 26 0, aI (gI (sI h5 26 0 38 (gI h5 26 0 36)) 26 0 36)] (sI h5 26 0 38 (gI h5 26 0 36)) (fun r7 h8 => ∃ x9 : Int32, r7 = some (aI x9) ∧ (((¬ x9 = (-1)) → (Cl true mX10_isLetter d 0 0 [aI x9] h8 (fun r10 h11 => ∃ x12 : Int32, r10 = some (aI x12) ∧ (((x12 = 0) → (Cl true mX10_isDigit d 0 0 [aI x9] h11 (fun r13 h14 => ∃ x15 : Int32, r13 = some (aI x15) ∧ (((x15 = 0) → (((x9 = 59) → (P none (sI (sI h14 26 0 36 ((gI h14 26 0 36) + 1)) 26 0 37 x9))) ∧ ((¬ x9 = 59) → (((x9 = 43) → (P none (sI (sI h14 26 0 36 ((gI h14 26 0 36) + 1)) 26 0 37 x9))) ∧ ((¬ x9 = 43) → (((x9 = 45) → (P none (sI (sI h14 26 0 36 ((gI h14 26 0 36) + 1)) 26 0 37 x9))) ∧ ((¬ x9 = 45) → (((x9 = 42) → (P none (sI (sI h14 26 0 36 ((gI h14 26 0 36) + 1)) 26 0 37 x9))) ∧ ((¬ x9 = 42) → (((x9 = 47) → (P none (sI (sI h14 26 0 36 ((gI h14 26 0 36) + 1)) 26 0 37 x9))) ∧ ((¬ x9 = 47) → (((x9 = 40) → (P none (sI (sI h14 26 0 36 ((gI h14 26 0 36) + 1)) 26 0 37 x9))) ∧ ((¬ x9 = 40) → (((x9 = 41) → (P none (sI (sI h14 26 0 36 ((gI h14 26 0 36) + 1)) 26 0 37 x9))) ∧ ((¬ x9 = 41) → (((x9 = 60) → (P none (sI (sI h14 26 0 36 ((gI h14 26 0 36) + 1)) 26 0 37 x9))) ∧ ((¬ x9 = 60) → (((x9 = 61) → (P none (sI (sI h14 26 0 36 ((gI h14 26 0 36) + 1)) 26 0 37 x9))) ∧ ((¬ x9 = 61) → (((¬ x9 = 62) → (P none (sI (sI h14 26 0 36 ((gI h14 26 0 36) + 1)) 26 0 37 1))) ∧ ((x9 = 62) → (P none (sI (sI h14 26 0 36 ((gI h14 26 0 36) + 1)) 26 0 37 x9))))))))))))))))))))))) ∧ ((¬ x15 = 0) → (V true mX10_next0 (d + 1) bc bs 164 [(0, aR 26 0), (2, aI 0)] [] (sI h14 26 0 39 0) P)))))) ∧ ((¬ x12 = 0) → (V true mX10_next0 (d + 1) bc bs 80 [(0, aR 26 0), (2, aI 0), (3, aL 0)] [] h11 P)))))) ∧ ((x9 = (-1)) → (P none (sI h8 26 0 37 0))))))) ∧ ((x6 = 10) → (V true mX10_next0 (d + 1) bc bs 0 [(0, aR 26 0)] [] (sI h5 26 0 36 ((gI h5 26 0 36) + 1)) P))))))))) : Cl true mX10_next0 (d + 1) bc bs [aR 26 0] h P := by
  refine Cl_of (by decide) (Nat.le_of_ble_eq_true rfl) ?_
  show V true mX10_next0 (d + 1) bc bs 0 [(0, aR 26 0)] [] h P
  refine V_aload_n 0 dX10_next0_0 rfl rfl ?_
  refine V_aload_n 0 dX10_next0_1 rfl rfl ?_
  refine GI_26_36 dX10_next0_2 lkX10_164 ?_
  refine V_callV (mc := 0) (ms := 0) (as := [aI (gI h 26 0 36)]) (st := []) (by decide) rt_26 rfl dX10_next0_5 okX10_see inX10_see seX10_see lkX10_167 rfl (Nat.le_of_ble_eq_true rfl) (Nat.zero_le _) (Nat.zero_le _) (Cl.mono (fun r1 h2 z => ?_) k)
  obtain ⟨x3, rfl, k⟩ := z
  refine V_bipush 32 dX10_next0_8 (by decide) ?_
  refine V_icmp_eq 26 dX10_next0_10 (by decide) ⟨fun z => ?_, fun z => ?_⟩
  · replace k := k.1 z
    refine V_aload_n 0 dX10_next0_26 rfl rfl ?_
    refine V_dup dX10_next0_27 rfl ?_
    refine GI_26_36 dX10_next0_28 lkX10_164 ?_
    refine V_iconst 1 dX10_next0_31 (by decide) ?_
    refine V_iadd dX10_next0_32 ?_
    refine PI_26_36 dX10_next0_33 lkX10_164 ?_
    refine V_goto 0 dX10_next0_36 (by decide) ?_
    exact V_lv [0] rfl k
  · replace k := k.2 z
    refine V_aload_n 0 dX10_next0_13 rfl rfl ?_
    refine V_aload_n 0 dX10_next0_14 rfl rfl ?_
    refine GI_26_36 dX10_next0_15 lkX10_164 ?_
    refine V_callV (mc := 0) (ms := 0) (as := [aI (gI h2 26 0 36)]) (st := []) (by decide) rt_26 rfl dX10_next0_18 okX10_see inX10_see seX10_see lkX10_167 rfl (Nat.le_of_ble_eq_true rfl) (Nat.zero_le _) (Nat.zero_le _) (Cl.mono (fun r4 h5 z => ?_) k)
    obtain ⟨x6, rfl, k⟩ := z
    refine V_bipush 10 dX10_next0_21 (by decide) ?_
    refine V_icmp_ne 39 dX10_next0_23 (by decide) ⟨fun z => ?_, fun z => ?_⟩
    · replace k := k.1 z
      refine V_aload_n 0 dX10_next0_39 rfl rfl ?_
      refine V_aload_n 0 dX10_next0_40 rfl rfl ?_
      refine GI_26_36 dX10_next0_41 lkX10_164 ?_
      refine PI_26_38 dX10_next0_44 lkX10_171 ?_
      refine V_aload_n 0 dX10_next0_47 rfl rfl ?_
      refine V_aload_n 0 dX10_next0_48 rfl rfl ?_
      refine GI_26_36 dX10_next0_49 lkX10_164 ?_
      refine V_callV (mc := 0) (ms := 0) (as := [aI (gI (sI h5 26 0 38 (gI h5 26 0 36)) 26 0 36)]) (st := []) (by decide) rt_26 rfl dX10_next0_52 okX10_see inX10_see seX10_see lkX10_167 rfl (Nat.le_of_ble_eq_true rfl) (Nat.zero_le _) (Nat.zero_le _) (Cl.mono (fun r7 h8 z => ?_) k)
      obtain ⟨x9, rfl, k⟩ := z
      refine V_istore_n 1 dX10_next0_55 rfl (by decide) rfl ?_
      refine V_iconst 0 dX10_next0_56 (by decide) ?_
      refine V_istore_n 2 dX10_next0_57 rfl (by decide) rfl ?_
      refine V_iload_n 1 dX10_next0_58 rfl rfl ?_
      refine V_iconst (-1) dX10_next0_59 (by decide) ?_
      refine V_icmp_ne 71 dX10_next0_60 (by decide) ⟨fun z => ?_, fun z => ?_⟩
      · replace k := k.1 z
        refine V_iload_n 1 dX10_next0_71 rfl rfl ?_
        refine V_callS (mc := 0) (ms := 0) (as := [aI x9]) (st := []) dX10_next0_72 okX10_isLetter stX10_isLetter lkX10_177 rfl (Nat.le_of_ble_eq_true rfl) (Nat.zero_le _) (Nat.zero_le _) (Cl.mono (fun r10 h11 z => ?_) k)
        obtain ⟨x12, rfl, k⟩ := z
        refine V_if_eq 152 dX10_next0_75 (by decide) ⟨fun z => ?_, fun z => ?_⟩
        · replace k := k.1 z
          refine V_iload_n 1 dX10_next0_152 rfl rfl ?_
          refine V_callS (mc := 0) (ms := 0) (as := [aI x9]) (st := []) dX10_next0_153 okX10_isDigit stX10_isDigit lkX10_184 rfl (Nat.le_of_ble_eq_true rfl) (Nat.zero_le _) (Nat.zero_le _) (Cl.mono (fun r13 h14 z => ?_) k)
          obtain ⟨x15, rfl, k⟩ := z
          refine V_if_eq 241 dX10_next0_156 (by decide) ⟨fun z => ?_, fun z => ?_⟩
          · replace k := k.1 z
            refine V_aload_n 0 dX10_next0_241 rfl rfl ?_
            refine V_dup dX10_next0_242 rfl ?_
            refine GI_26_36 dX10_next0_243 lkX10_164 ?_
            refine V_iconst 1 dX10_next0_246 (by decide) ?_
            refine V_iadd dX10_next0_247 ?_
            refine PI_26_36 dX10_next0_248 lkX10_164 ?_
            refine V_iload_n 1 dX10_next0_251 rfl rfl ?_
            refine V_bipush 59 dX10_next0_252 (by decide) ?_
            refine V_icmp_eq 311 dX10_next0_254 (by decide) ⟨fun z => ?_, fun z => ?_⟩
            · replace k := k.1 z
              refine V_iconst 1 dX10_next0_311 (by decide) ?_
              refine V_goto 316 dX10_next0_312 (by decide) ?_
              refine V_istore_n 3 dX10_next0_316 rfl (by decide) rfl ?_
              refine V_aload_n 0 dX10_next0_317 rfl rfl ?_
              refine V_iload_n 3 dX10_next0_318 rfl rfl ?_
              refine V_if_eq 326 dX10_next0_319 (by decide) ⟨fun z => absurd z (by decide), fun z => ?_⟩
              refine V_iload_n 1 dX10_next0_322 rfl rfl ?_
              refine V_goto 327 dX10_next0_323 (by decide) ?_
              refine PI_26_37 dX10_next0_327 lkX10_174 ?_
              exact V_return dX10_next0_330 rfl k
            · replace k := k.2 z
              refine V_iload_n 1 dX10_next0_257 rfl rfl ?_
              refine V_bipush 43 dX10_next0_258 (by decide) ?_
              refine V_icmp_eq 311 dX10_next0_260 (by decide) ⟨fun z => ?_, fun z => ?_⟩
              · replace k := k.1 z
                refine V_iconst 1 dX10_next0_311 (by decide) ?_
                refine V_goto 316 dX10_next0_312 (by decide) ?_
                refine V_istore_n 3 dX10_next0_316 rfl (by decide) rfl ?_
                refine V_aload_n 0 dX10_next0_317 rfl rfl ?_
                refine V_iload_n 3 dX10_next0_318 rfl rfl ?_
                refine V_if_eq 326 dX10_next0_319 (by decide) ⟨fun z => absurd z (by decide), fun z => ?_⟩
                refine V_iload_n 1 dX10_next0_322 rfl rfl ?_
                refine V_goto 327 dX10_next0_323 (by decide) ?_
                refine PI_26_37 dX10_next0_327 lkX10_174 ?_
                exact V_return dX10_next0_330 rfl k
              · replace k := k.2 z
                refine V_iload_n 1 dX10_next0_263 rfl rfl ?_
                refine V_bipush 45 dX10_next0_264 (by decide) ?_
                refine V_icmp_eq 311 dX10_next0_266 (by decide) ⟨fun z => ?_, fun z => ?_⟩
                · replace k := k.1 z
                  refine V_iconst 1 dX10_next0_311 (by decide) ?_
                  refine V_goto 316 dX10_next0_312 (by decide) ?_
                  refine V_istore_n 3 dX10_next0_316 rfl (by decide) rfl ?_
                  refine V_aload_n 0 dX10_next0_317 rfl rfl ?_
                  refine V_iload_n 3 dX10_next0_318 rfl rfl ?_
                  refine V_if_eq 326 dX10_next0_319 (by decide) ⟨fun z => absurd z (by decide), fun z => ?_⟩
                  refine V_iload_n 1 dX10_next0_322 rfl rfl ?_
                  refine V_goto 327 dX10_next0_323 (by decide) ?_
                  refine PI_26_37 dX10_next0_327 lkX10_174 ?_
                  exact V_return dX10_next0_330 rfl k
                · replace k := k.2 z
                  refine V_iload_n 1 dX10_next0_269 rfl rfl ?_
                  refine V_bipush 42 dX10_next0_270 (by decide) ?_
                  refine V_icmp_eq 311 dX10_next0_272 (by decide) ⟨fun z => ?_, fun z => ?_⟩
                  · replace k := k.1 z
                    refine V_iconst 1 dX10_next0_311 (by decide) ?_
                    refine V_goto 316 dX10_next0_312 (by decide) ?_
                    refine V_istore_n 3 dX10_next0_316 rfl (by decide) rfl ?_
                    refine V_aload_n 0 dX10_next0_317 rfl rfl ?_
                    refine V_iload_n 3 dX10_next0_318 rfl rfl ?_
                    refine V_if_eq 326 dX10_next0_319 (by decide) ⟨fun z => absurd z (by decide), fun z => ?_⟩
                    refine V_iload_n 1 dX10_next0_322 rfl rfl ?_
                    refine V_goto 327 dX10_next0_323 (by decide) ?_
                    refine PI_26_37 dX10_next0_327 lkX10_174 ?_
                    exact V_return dX10_next0_330 rfl k
                  · replace k := k.2 z
                    refine V_iload_n 1 dX10_next0_275 rfl rfl ?_
                    refine V_bipush 47 dX10_next0_276 (by decide) ?_
                    refine V_icmp_eq 311 dX10_next0_278 (by decide) ⟨fun z => ?_, fun z => ?_⟩
                    · replace k := k.1 z
                      refine V_iconst 1 dX10_next0_311 (by decide) ?_
                      refine V_goto 316 dX10_next0_312 (by decide) ?_
                      refine V_istore_n 3 dX10_next0_316 rfl (by decide) rfl ?_
                      refine V_aload_n 0 dX10_next0_317 rfl rfl ?_
                      refine V_iload_n 3 dX10_next0_318 rfl rfl ?_
                      refine V_if_eq 326 dX10_next0_319 (by decide) ⟨fun z => absurd z (by decide), fun z => ?_⟩
                      refine V_iload_n 1 dX10_next0_322 rfl rfl ?_
                      refine V_goto 327 dX10_next0_323 (by decide) ?_
                      refine PI_26_37 dX10_next0_327 lkX10_174 ?_
                      exact V_return dX10_next0_330 rfl k
                    · replace k := k.2 z
                      refine V_iload_n 1 dX10_next0_281 rfl rfl ?_
                      refine V_bipush 40 dX10_next0_282 (by decide) ?_
                      refine V_icmp_eq 311 dX10_next0_284 (by decide) ⟨fun z => ?_, fun z => ?_⟩
                      · replace k := k.1 z
                        refine V_iconst 1 dX10_next0_311 (by decide) ?_
                        refine V_goto 316 dX10_next0_312 (by decide) ?_
                        refine V_istore_n 3 dX10_next0_316 rfl (by decide) rfl ?_
                        refine V_aload_n 0 dX10_next0_317 rfl rfl ?_
                        refine V_iload_n 3 dX10_next0_318 rfl rfl ?_
                        refine V_if_eq 326 dX10_next0_319 (by decide) ⟨fun z => absurd z (by decide), fun z => ?_⟩
                        refine V_iload_n 1 dX10_next0_322 rfl rfl ?_
                        refine V_goto 327 dX10_next0_323 (by decide) ?_
                        refine PI_26_37 dX10_next0_327 lkX10_174 ?_
                        exact V_return dX10_next0_330 rfl k
                      · replace k := k.2 z
                        refine V_iload_n 1 dX10_next0_287 rfl rfl ?_
                        refine V_bipush 41 dX10_next0_288 (by decide) ?_
                        refine V_icmp_eq 311 dX10_next0_290 (by decide) ⟨fun z => ?_, fun z => ?_⟩
                        · replace k := k.1 z
                          refine V_iconst 1 dX10_next0_311 (by decide) ?_
                          refine V_goto 316 dX10_next0_312 (by decide) ?_
                          refine V_istore_n 3 dX10_next0_316 rfl (by decide) rfl ?_
                          refine V_aload_n 0 dX10_next0_317 rfl rfl ?_
                          refine V_iload_n 3 dX10_next0_318 rfl rfl ?_
                          refine V_if_eq 326 dX10_next0_319 (by decide) ⟨fun z => absurd z (by decide), fun z => ?_⟩
                          refine V_iload_n 1 dX10_next0_322 rfl rfl ?_
                          refine V_goto 327 dX10_next0_323 (by decide) ?_
                          refine PI_26_37 dX10_next0_327 lkX10_174 ?_
                          exact V_return dX10_next0_330 rfl k
                        · replace k := k.2 z
                          refine V_iload_n 1 dX10_next0_293 rfl rfl ?_
                          refine V_bipush 60 dX10_next0_294 (by decide) ?_
                          refine V_icmp_eq 311 dX10_next0_296 (by decide) ⟨fun z => ?_, fun z => ?_⟩
                          · replace k := k.1 z
                            refine V_iconst 1 dX10_next0_311 (by decide) ?_
                            refine V_goto 316 dX10_next0_312 (by decide) ?_
                            refine V_istore_n 3 dX10_next0_316 rfl (by decide) rfl ?_
                            refine V_aload_n 0 dX10_next0_317 rfl rfl ?_
                            refine V_iload_n 3 dX10_next0_318 rfl rfl ?_
                            refine V_if_eq 326 dX10_next0_319 (by decide) ⟨fun z => absurd z (by decide), fun z => ?_⟩
                            refine V_iload_n 1 dX10_next0_322 rfl rfl ?_
                            refine V_goto 327 dX10_next0_323 (by decide) ?_
                            refine PI_26_37 dX10_next0_327 lkX10_174 ?_
                            exact V_return dX10_next0_330 rfl k
                          · replace k := k.2 z
                            refine V_iload_n 1 dX10_next0_299 rfl rfl ?_
                            refine V_bipush 61 dX10_next0_300 (by decide) ?_
                            refine V_icmp_eq 311 dX10_next0_302 (by decide) ⟨fun z => ?_, fun z => ?_⟩
                            · replace k := k.1 z
                              refine V_iconst 1 dX10_next0_311 (by decide) ?_
                              refine V_goto 316 dX10_next0_312 (by decide) ?_
                              refine V_istore_n 3 dX10_next0_316 rfl (by decide) rfl ?_
                              refine V_aload_n 0 dX10_next0_317 rfl rfl ?_
                              refine V_iload_n 3 dX10_next0_318 rfl rfl ?_
                              refine V_if_eq 326 dX10_next0_319 (by decide) ⟨fun z => absurd z (by decide), fun z => ?_⟩
                              refine V_iload_n 1 dX10_next0_322 rfl rfl ?_
                              refine V_goto 327 dX10_next0_323 (by decide) ?_
                              refine PI_26_37 dX10_next0_327 lkX10_174 ?_
                              exact V_return dX10_next0_330 rfl k
                            · replace k := k.2 z
                              refine V_iload_n 1 dX10_next0_305 rfl rfl ?_
                              refine V_bipush 62 dX10_next0_306 (by decide) ?_
                              refine V_icmp_ne 315 dX10_next0_308 (by decide) ⟨fun z => ?_, fun z => ?_⟩
                              · replace k := k.1 z
                                refine V_iconst 0 dX10_next0_315 (by decide) ?_
                                refine V_istore_n 3 dX10_next0_316 rfl (by decide) rfl ?_
                                refine V_aload_n 0 dX10_next0_317 rfl rfl ?_
                                refine V_iload_n 3 dX10_next0_318 rfl rfl ?_
                                refine V_if_eq 326 dX10_next0_319 (by decide) ⟨fun z => ?_, fun z => absurd z (by decide)⟩
                                refine V_iconst 1 dX10_next0_326 (by decide) ?_
                                refine PI_26_37 dX10_next0_327 lkX10_174 ?_
                                exact V_return dX10_next0_330 rfl k
                              · replace k := k.2 z
                                refine V_iconst 1 dX10_next0_311 (by decide) ?_
                                refine V_goto 316 dX10_next0_312 (by decide) ?_
                                refine V_istore_n 3 dX10_next0_316 rfl (by decide) rfl ?_
                                refine V_aload_n 0 dX10_next0_317 rfl rfl ?_
                                refine V_iload_n 3 dX10_next0_318 rfl rfl ?_
                                refine V_if_eq 326 dX10_next0_319 (by decide) ⟨fun z => absurd z (by decide), fun z => ?_⟩
                                refine V_iload_n 1 dX10_next0_322 rfl rfl ?_
                                refine V_goto 327 dX10_next0_323 (by decide) ?_
                                refine PI_26_37 dX10_next0_327 lkX10_174 ?_
                                exact V_return dX10_next0_330 rfl k
          · replace k := k.2 z
            refine V_aload_n 0 dX10_next0_159 rfl rfl ?_
            refine V_iconst 0 dX10_next0_160 (by decide) ?_
            refine PI_26_39 dX10_next0_161 lkX10_187 ?_
            exact V_lv [2, 0] rfl k
        · replace k := k.2 z
          refine V_lconst 0 dX10_next0_78 (by decide) ?_
          refine V_lstore_n 3 dX10_next0_79 rfl (by decide) rfl ?_
          exact V_lv [3, 1, 0] rfl k
      · replace k := k.2 z
        refine V_aload_n 0 dX10_next0_63 rfl rfl ?_
        refine V_iconst 0 dX10_next0_64 (by decide) ?_
        refine PI_26_37 dX10_next0_65 lkX10_174 ?_
        refine V_goto 330 dX10_next0_68 (by decide) ?_
        exact V_return dX10_next0_330 rfl k
    · replace k := k.2 z
      refine V_aload_n 0 dX10_next0_26 rfl rfl ?_
      refine V_dup dX10_next0_27 rfl ?_
      refine GI_26_36 dX10_next0_28 lkX10_164 ?_
      refine V_iconst 1 dX10_next0_31 (by decide) ?_
      refine V_iadd dX10_next0_32 ?_
      refine PI_26_36 dX10_next0_33 lkX10_164 ?_
      refine V_goto 0 dX10_next0_36 (by decide) ?_
      exact V_lv [0] rfl k
set_option maxRecDepth 20000 in
set_option maxHeartbeats 2000000 in
theorem wX10_next0_0 {d bc bs : Nat} {h : HS} {P : Option AV → HS → Prop}  (k : Cl true mX10_see d 0 0 [aR 26 0, aI (gI h 26 0 36)] h (fun r1 h2 => ∃ x3 : Int32, r1 = some (aI x3) ∧ (((x3 = 32) → (V true mX10_next0 (d + 1) bc bs 0 [(0, aR 26 0)] [] (sI h2 26 0 36 ((gI h2 26 0 36) + 1)) P)) ∧ ((¬ x3 = 32) → (Cl true mX10_see d 0 0 [aR 26 0, aI (gI h2 26 0 36)] h2 (fun r4 h5 => ∃ x6 : Int32, r4 = some (aI x6) ∧ (((¬ x6 = 10) → (Cl true mX10_see d 0 0 [aR 26 0, aI (gI (sI h5 26 0 38 (gI h5 26 0 36)) 26 0 36)] (sI h5 26 0 38 (gI h5 26 0 36)) (fun r7 h8 => ∃ x9 : Int32, r7 = some (aI x9) ∧ (((¬ x9 = (-1)) → (Cl true mX10_isLetter d 0 0 [aI x9] h8 (fun r10 h11 => ∃ x12 : Int32, r10 = some (aI x12) ∧ (((x12 = 0) → (Cl true mX10_isDigit d 0 0 [aI x9] h11 (fun r13 h14 => ∃ x15 : Int32, r13 = some (aI x15) ∧ (((x15 = 0) → (((x9 = 59) → (P none (sI (sI h14 26 0 36 ((gI h14 26 0 36) + 1)) 26 0 37 x9))) ∧ ((¬ x9 = 59) → (((x9 = 43) → (P none (sI (sI h14 26 0 36 ((gI h14 26 0 36) + 1)) 26 0 37 x9))) ∧ ((¬ x9 = 43) → (((x9 = 45) → (P none (sI (sI h14 26 0 36 ((gI h14 26 0 36) + 1)) 26 0 37 x9))) ∧ ((¬ x9 = 45) → (((x9 = 42) → (P none (sI (sI h14 26 0 36 ((gI h14 26 0 36) + 1)) 26 0 37 x9))) ∧ ((¬ x9 = 42) → (((x9 = 47) → (P none (sI (sI h14 26 0 36 ((gI h14 26 0 36) + 1)) 26 0 37 x9))) ∧ ((¬ x9 = 47) → (((x9 = 40) → (P none (sI (sI h14 26 0 36 ((gI h14 26 0 36) + 1)) 26 0 37 x9))) ∧ ((¬ x9 = 40) → (((x9 = 41) → (P none (sI (sI h14 26 0 36 ((gI h14 26 0 36) + 1)) 26 0 37 x9))) ∧ ((¬ x9 = 41) → (((x9 = 60) → (P none (sI (sI h14 26 0 36 ((gI h14 26 0 36) + 1)) 26 0 37 x9))) ∧ ((¬ x9 = 60) → (((x9 = 61) → (P none (sI (sI h14 26 0 36 ((gI h14 26 0 36) + 1)) 26 0 37 x9))) ∧ ((¬ x9 = 61) → (((¬ x9 = 62) → (P none (sI (sI h14 26 0 36 ((gI h14 26 0 36) + 1)) 26 0 37 1))) ∧ ((x9 = 62) → (P none (sI (sI h14 26 0 36 ((gI h14 26 0 36) + 1)) 26 0 37 x9))))))))))))))))))))))) ∧ ((¬ x15 = 0) → (V true mX10_next0 (d + 1) bc bs 164 [(0, aR 26 0), (2, aI 0)] [] (sI h14 26 0 39 0) P)))))) ∧ ((¬ x12 = 0) → (V true mX10_next0 (d + 1) bc bs 80 [(0, aR 26 0), (2, aI 0), (3, aL 0)] [] h11 P)))))) ∧ ((x9 = (-1)) → (P none (sI h8 26 0 37 0))))))) ∧ ((x6 = 10) → (V true mX10_next0 (d + 1) bc bs 0 [(0, aR 26 0)] [] (sI h5 26 0 36 ((gI h5 26 0 36) + 1)) P))))))))) : V true mX10_next0 (d + 1) bc bs 0 [(0, aR 26 0)] [] h P := by
  refine V_aload_n 0 dX10_next0_0 rfl rfl ?_
  refine V_aload_n 0 dX10_next0_1 rfl rfl ?_
  refine GI_26_36 dX10_next0_2 lkX10_164 ?_
  refine V_callV (mc := 0) (ms := 0) (as := [aI (gI h 26 0 36)]) (st := []) (by decide) rt_26 rfl dX10_next0_5 okX10_see inX10_see seX10_see lkX10_167 rfl (Nat.le_of_ble_eq_true rfl) (Nat.zero_le _) (Nat.zero_le _) (Cl.mono (fun r1 h2 z => ?_) k)
  obtain ⟨x3, rfl, k⟩ := z
  refine V_bipush 32 dX10_next0_8 (by decide) ?_
  refine V_icmp_eq 26 dX10_next0_10 (by decide) ⟨fun z => ?_, fun z => ?_⟩
  · replace k := k.1 z
    refine V_aload_n 0 dX10_next0_26 rfl rfl ?_
    refine V_dup dX10_next0_27 rfl ?_
    refine GI_26_36 dX10_next0_28 lkX10_164 ?_
    refine V_iconst 1 dX10_next0_31 (by decide) ?_
    refine V_iadd dX10_next0_32 ?_
    refine PI_26_36 dX10_next0_33 lkX10_164 ?_
    refine V_goto 0 dX10_next0_36 (by decide) ?_
    exact V_lv [0] rfl k
  · replace k := k.2 z
    refine V_aload_n 0 dX10_next0_13 rfl rfl ?_
    refine V_aload_n 0 dX10_next0_14 rfl rfl ?_
    refine GI_26_36 dX10_next0_15 lkX10_164 ?_
    refine V_callV (mc := 0) (ms := 0) (as := [aI (gI h2 26 0 36)]) (st := []) (by decide) rt_26 rfl dX10_next0_18 okX10_see inX10_see seX10_see lkX10_167 rfl (Nat.le_of_ble_eq_true rfl) (Nat.zero_le _) (Nat.zero_le _) (Cl.mono (fun r4 h5 z => ?_) k)
    obtain ⟨x6, rfl, k⟩ := z
    refine V_bipush 10 dX10_next0_21 (by decide) ?_
    refine V_icmp_ne 39 dX10_next0_23 (by decide) ⟨fun z => ?_, fun z => ?_⟩
    · replace k := k.1 z
      refine V_aload_n 0 dX10_next0_39 rfl rfl ?_
      refine V_aload_n 0 dX10_next0_40 rfl rfl ?_
      refine GI_26_36 dX10_next0_41 lkX10_164 ?_
      refine PI_26_38 dX10_next0_44 lkX10_171 ?_
      refine V_aload_n 0 dX10_next0_47 rfl rfl ?_
      refine V_aload_n 0 dX10_next0_48 rfl rfl ?_
      refine GI_26_36 dX10_next0_49 lkX10_164 ?_
      refine V_callV (mc := 0) (ms := 0) (as := [aI (gI (sI h5 26 0 38 (gI h5 26 0 36)) 26 0 36)]) (st := []) (by decide) rt_26 rfl dX10_next0_52 okX10_see inX10_see seX10_see lkX10_167 rfl (Nat.le_of_ble_eq_true rfl) (Nat.zero_le _) (Nat.zero_le _) (Cl.mono (fun r7 h8 z => ?_) k)
      obtain ⟨x9, rfl, k⟩ := z
      refine V_istore_n 1 dX10_next0_55 rfl (by decide) rfl ?_
      refine V_iconst 0 dX10_next0_56 (by decide) ?_
      refine V_istore_n 2 dX10_next0_57 rfl (by decide) rfl ?_
      refine V_iload_n 1 dX10_next0_58 rfl rfl ?_
      refine V_iconst (-1) dX10_next0_59 (by decide) ?_
      refine V_icmp_ne 71 dX10_next0_60 (by decide) ⟨fun z => ?_, fun z => ?_⟩
      · replace k := k.1 z
        refine V_iload_n 1 dX10_next0_71 rfl rfl ?_
        refine V_callS (mc := 0) (ms := 0) (as := [aI x9]) (st := []) dX10_next0_72 okX10_isLetter stX10_isLetter lkX10_177 rfl (Nat.le_of_ble_eq_true rfl) (Nat.zero_le _) (Nat.zero_le _) (Cl.mono (fun r10 h11 z => ?_) k)
        obtain ⟨x12, rfl, k⟩ := z
        refine V_if_eq 152 dX10_next0_75 (by decide) ⟨fun z => ?_, fun z => ?_⟩
        · replace k := k.1 z
          refine V_iload_n 1 dX10_next0_152 rfl rfl ?_
          refine V_callS (mc := 0) (ms := 0) (as := [aI x9]) (st := []) dX10_next0_153 okX10_isDigit stX10_isDigit lkX10_184 rfl (Nat.le_of_ble_eq_true rfl) (Nat.zero_le _) (Nat.zero_le _) (Cl.mono (fun r13 h14 z => ?_) k)
          obtain ⟨x15, rfl, k⟩ := z
          refine V_if_eq 241 dX10_next0_156 (by decide) ⟨fun z => ?_, fun z => ?_⟩
          · replace k := k.1 z
            refine V_aload_n 0 dX10_next0_241 rfl rfl ?_
            refine V_dup dX10_next0_242 rfl ?_
            refine GI_26_36 dX10_next0_243 lkX10_164 ?_
            refine V_iconst 1 dX10_next0_246 (by decide) ?_
            refine V_iadd dX10_next0_247 ?_
            refine PI_26_36 dX10_next0_248 lkX10_164 ?_
            refine V_iload_n 1 dX10_next0_251 rfl rfl ?_
            refine V_bipush 59 dX10_next0_252 (by decide) ?_
            refine V_icmp_eq 311 dX10_next0_254 (by decide) ⟨fun z => ?_, fun z => ?_⟩
            · replace k := k.1 z
              refine V_iconst 1 dX10_next0_311 (by decide) ?_
              refine V_goto 316 dX10_next0_312 (by decide) ?_
              refine V_istore_n 3 dX10_next0_316 rfl (by decide) rfl ?_
              refine V_aload_n 0 dX10_next0_317 rfl rfl ?_
              refine V_iload_n 3 dX10_next0_318 rfl rfl ?_
              refine V_if_eq 326 dX10_next0_319 (by decide) ⟨fun z => absurd z (by decide), fun z => ?_⟩
              refine V_iload_n 1 dX10_next0_322 rfl rfl ?_
              refine V_goto 327 dX10_next0_323 (by decide) ?_
              refine PI_26_37 dX10_next0_327 lkX10_174 ?_
              exact V_return dX10_next0_330 rfl k
            · replace k := k.2 z
              refine V_iload_n 1 dX10_next0_257 rfl rfl ?_
              refine V_bipush 43 dX10_next0_258 (by decide) ?_
              refine V_icmp_eq 311 dX10_next0_260 (by decide) ⟨fun z => ?_, fun z => ?_⟩
              · replace k := k.1 z
                refine V_iconst 1 dX10_next0_311 (by decide) ?_
                refine V_goto 316 dX10_next0_312 (by decide) ?_
                refine V_istore_n 3 dX10_next0_316 rfl (by decide) rfl ?_
                refine V_aload_n 0 dX10_next0_317 rfl rfl ?_
                refine V_iload_n 3 dX10_next0_318 rfl rfl ?_
                refine V_if_eq 326 dX10_next0_319 (by decide) ⟨fun z => absurd z (by decide), fun z => ?_⟩
                refine V_iload_n 1 dX10_next0_322 rfl rfl ?_
                refine V_goto 327 dX10_next0_323 (by decide) ?_
                refine PI_26_37 dX10_next0_327 lkX10_174 ?_
                exact V_return dX10_next0_330 rfl k
              · replace k := k.2 z
                refine V_iload_n 1 dX10_next0_263 rfl rfl ?_
                refine V_bipush 45 dX10_next0_264 (by decide) ?_
                refine V_icmp_eq 311 dX10_next0_266 (by decide) ⟨fun z => ?_, fun z => ?_⟩
                · replace k := k.1 z
                  refine V_iconst 1 dX10_next0_311 (by decide) ?_
                  refine V_goto 316 dX10_next0_312 (by decide) ?_
                  refine V_istore_n 3 dX10_next0_316 rfl (by decide) rfl ?_
                  refine V_aload_n 0 dX10_next0_317 rfl rfl ?_
                  refine V_iload_n 3 dX10_next0_318 rfl rfl ?_
                  refine V_if_eq 326 dX10_next0_319 (by decide) ⟨fun z => absurd z (by decide), fun z => ?_⟩
                  refine V_iload_n 1 dX10_next0_322 rfl rfl ?_
                  refine V_goto 327 dX10_next0_323 (by decide) ?_
                  refine PI_26_37 dX10_next0_327 lkX10_174 ?_
                  exact V_return dX10_next0_330 rfl k
                · replace k := k.2 z
                  refine V_iload_n 1 dX10_next0_269 rfl rfl ?_
                  refine V_bipush 42 dX10_next0_270 (by decide) ?_
                  refine V_icmp_eq 311 dX10_next0_272 (by decide) ⟨fun z => ?_, fun z => ?_⟩
                  · replace k := k.1 z
                    refine V_iconst 1 dX10_next0_311 (by decide) ?_
                    refine V_goto 316 dX10_next0_312 (by decide) ?_
                    refine V_istore_n 3 dX10_next0_316 rfl (by decide) rfl ?_
                    refine V_aload_n 0 dX10_next0_317 rfl rfl ?_
                    refine V_iload_n 3 dX10_next0_318 rfl rfl ?_
                    refine V_if_eq 326 dX10_next0_319 (by decide) ⟨fun z => absurd z (by decide), fun z => ?_⟩
                    refine V_iload_n 1 dX10_next0_322 rfl rfl ?_
                    refine V_goto 327 dX10_next0_323 (by decide) ?_
                    refine PI_26_37 dX10_next0_327 lkX10_174 ?_
                    exact V_return dX10_next0_330 rfl k
                  · replace k := k.2 z
                    refine V_iload_n 1 dX10_next0_275 rfl rfl ?_
                    refine V_bipush 47 dX10_next0_276 (by decide) ?_
                    refine V_icmp_eq 311 dX10_next0_278 (by decide) ⟨fun z => ?_, fun z => ?_⟩
                    · replace k := k.1 z
                      refine V_iconst 1 dX10_next0_311 (by decide) ?_
                      refine V_goto 316 dX10_next0_312 (by decide) ?_
                      refine V_istore_n 3 dX10_next0_316 rfl (by decide) rfl ?_
                      refine V_aload_n 0 dX10_next0_317 rfl rfl ?_
                      refine V_iload_n 3 dX10_next0_318 rfl rfl ?_
                      refine V_if_eq 326 dX10_next0_319 (by decide) ⟨fun z => absurd z (by decide), fun z => ?_⟩
                      refine V_iload_n 1 dX10_next0_322 rfl rfl ?_
                      refine V_goto 327 dX10_next0_323 (by decide) ?_
                      refine PI_26_37 dX10_next0_327 lkX10_174 ?_
                      exact V_return dX10_next0_330 rfl k
                    · replace k := k.2 z
                      refine V_iload_n 1 dX10_next0_281 rfl rfl ?_
                      refine V_bipush 40 dX10_next0_282 (by decide) ?_
                      refine V_icmp_eq 311 dX10_next0_284 (by decide) ⟨fun z => ?_, fun z => ?_⟩
                      · replace k := k.1 z
                        refine V_iconst 1 dX10_next0_311 (by decide) ?_
                        refine V_goto 316 dX10_next0_312 (by decide) ?_
                        refine V_istore_n 3 dX10_next0_316 rfl (by decide) rfl ?_
                        refine V_aload_n 0 dX10_next0_317 rfl rfl ?_
                        refine V_iload_n 3 dX10_next0_318 rfl rfl ?_
                        refine V_if_eq 326 dX10_next0_319 (by decide) ⟨fun z => absurd z (by decide), fun z => ?_⟩
                        refine V_iload_n 1 dX10_next0_322 rfl rfl ?_
                        refine V_goto 327 dX10_next0_323 (by decide) ?_
                        refine PI_26_37 dX10_next0_327 lkX10_174 ?_
                        exact V_return dX10_next0_330 rfl k
                      · replace k := k.2 z
                        refine V_iload_n 1 dX10_next0_287 rfl rfl ?_
                        refine V_bipush 41 dX10_next0_288 (by decide) ?_
                        refine V_icmp_eq 311 dX10_next0_290 (by decide) ⟨fun z => ?_, fun z => ?_⟩
                        · replace k := k.1 z
                          refine V_iconst 1 dX10_next0_311 (by decide) ?_
                          refine V_goto 316 dX10_next0_312 (by decide) ?_
                          refine V_istore_n 3 dX10_next0_316 rfl (by decide) rfl ?_
                          refine V_aload_n 0 dX10_next0_317 rfl rfl ?_
                          refine V_iload_n 3 dX10_next0_318 rfl rfl ?_
                          refine V_if_eq 326 dX10_next0_319 (by decide) ⟨fun z => absurd z (by decide), fun z => ?_⟩
                          refine V_iload_n 1 dX10_next0_322 rfl rfl ?_
                          refine V_goto 327 dX10_next0_323 (by decide) ?_
                          refine PI_26_37 dX10_next0_327 lkX10_174 ?_
                          exact V_return dX10_next0_330 rfl k
                        · replace k := k.2 z
                          refine V_iload_n 1 dX10_next0_293 rfl rfl ?_
                          refine V_bipush 60 dX10_next0_294 (by decide) ?_
                          refine V_icmp_eq 311 dX10_next0_296 (by decide) ⟨fun z => ?_, fun z => ?_⟩
                          · replace k := k.1 z
                            refine V_iconst 1 dX10_next0_311 (by decide) ?_
                            refine V_goto 316 dX10_next0_312 (by decide) ?_
                            refine V_istore_n 3 dX10_next0_316 rfl (by decide) rfl ?_
                            refine V_aload_n 0 dX10_next0_317 rfl rfl ?_
                            refine V_iload_n 3 dX10_next0_318 rfl rfl ?_
                            refine V_if_eq 326 dX10_next0_319 (by decide) ⟨fun z => absurd z (by decide), fun z => ?_⟩
                            refine V_iload_n 1 dX10_next0_322 rfl rfl ?_
                            refine V_goto 327 dX10_next0_323 (by decide) ?_
                            refine PI_26_37 dX10_next0_327 lkX10_174 ?_
                            exact V_return dX10_next0_330 rfl k
                          · replace k := k.2 z
                            refine V_iload_n 1 dX10_next0_299 rfl rfl ?_
                            refine V_bipush 61 dX10_next0_300 (by decide) ?_
                            refine V_icmp_eq 311 dX10_next0_302 (by decide) ⟨fun z => ?_, fun z => ?_⟩
                            · replace k := k.1 z
                              refine V_iconst 1 dX10_next0_311 (by decide) ?_
                              refine V_goto 316 dX10_next0_312 (by decide) ?_
                              refine V_istore_n 3 dX10_next0_316 rfl (by decide) rfl ?_
                              refine V_aload_n 0 dX10_next0_317 rfl rfl ?_
                              refine V_iload_n 3 dX10_next0_318 rfl rfl ?_
                              refine V_if_eq 326 dX10_next0_319 (by decide) ⟨fun z => absurd z (by decide), fun z => ?_⟩
                              refine V_iload_n 1 dX10_next0_322 rfl rfl ?_
                              refine V_goto 327 dX10_next0_323 (by decide) ?_
                              refine PI_26_37 dX10_next0_327 lkX10_174 ?_
                              exact V_return dX10_next0_330 rfl k
                            · replace k := k.2 z
                              refine V_iload_n 1 dX10_next0_305 rfl rfl ?_
                              refine V_bipush 62 dX10_next0_306 (by decide) ?_
                              refine V_icmp_ne 315 dX10_next0_308 (by decide) ⟨fun z => ?_, fun z => ?_⟩
                              · replace k := k.1 z
                                refine V_iconst 0 dX10_next0_315 (by decide) ?_
                                refine V_istore_n 3 dX10_next0_316 rfl (by decide) rfl ?_
                                refine V_aload_n 0 dX10_next0_317 rfl rfl ?_
                                refine V_iload_n 3 dX10_next0_318 rfl rfl ?_
                                refine V_if_eq 326 dX10_next0_319 (by decide) ⟨fun z => ?_, fun z => absurd z (by decide)⟩
                                refine V_iconst 1 dX10_next0_326 (by decide) ?_
                                refine PI_26_37 dX10_next0_327 lkX10_174 ?_
                                exact V_return dX10_next0_330 rfl k
                              · replace k := k.2 z
                                refine V_iconst 1 dX10_next0_311 (by decide) ?_
                                refine V_goto 316 dX10_next0_312 (by decide) ?_
                                refine V_istore_n 3 dX10_next0_316 rfl (by decide) rfl ?_
                                refine V_aload_n 0 dX10_next0_317 rfl rfl ?_
                                refine V_iload_n 3 dX10_next0_318 rfl rfl ?_
                                refine V_if_eq 326 dX10_next0_319 (by decide) ⟨fun z => absurd z (by decide), fun z => ?_⟩
                                refine V_iload_n 1 dX10_next0_322 rfl rfl ?_
                                refine V_goto 327 dX10_next0_323 (by decide) ?_
                                refine PI_26_37 dX10_next0_327 lkX10_174 ?_
                                exact V_return dX10_next0_330 rfl k
          · replace k := k.2 z
            refine V_aload_n 0 dX10_next0_159 rfl rfl ?_
            refine V_iconst 0 dX10_next0_160 (by decide) ?_
            refine PI_26_39 dX10_next0_161 lkX10_187 ?_
            exact V_lv [2, 0] rfl k
        · replace k := k.2 z
          refine V_lconst 0 dX10_next0_78 (by decide) ?_
          refine V_lstore_n 3 dX10_next0_79 rfl (by decide) rfl ?_
          exact V_lv [3, 1, 0] rfl k
      · replace k := k.2 z
        refine V_aload_n 0 dX10_next0_63 rfl rfl ?_
        refine V_iconst 0 dX10_next0_64 (by decide) ?_
        refine PI_26_37 dX10_next0_65 lkX10_174 ?_
        refine V_goto 330 dX10_next0_68 (by decide) ?_
        exact V_return dX10_next0_330 rfl k
    · replace k := k.2 z
      refine V_aload_n 0 dX10_next0_26 rfl rfl ?_
      refine V_dup dX10_next0_27 rfl ?_
      refine GI_26_36 dX10_next0_28 lkX10_164 ?_
      refine V_iconst 1 dX10_next0_31 (by decide) ?_
      refine V_iadd dX10_next0_32 ?_
      refine PI_26_36 dX10_next0_33 lkX10_164 ?_
      refine V_goto 0 dX10_next0_36 (by decide) ?_
      exact V_lv [0] rfl k
set_option maxRecDepth 20000 in
set_option maxHeartbeats 2000000 in
theorem wX10_next0_80 {d bc bs : Nat} {h : HS} {P : Option AV → HS → Prop} {l2 : Int32} {l3 : Int64} (k : Cl true mX10_see d 0 0 [aR 26 0, aI (gI h 26 0 36)] h (fun r1 h2 => ∃ x3 : Int32, r1 = some (aI x3) ∧ (Cl true mX10_isLetter d 0 0 [aI x3] h2 (fun r4 h5 => ∃ x6 : Int32, r4 = some (aI x6) ∧ (((x6 = 0) → (((7 ≤ l2) → (P none (sI h5 26 0 37 1))) ∧ ((¬ 7 ≤ l2) → (Cl true mX10_word d 0 0 [aL l3] h5 (fun r7 h8 => ∃ x9 : Int32, r7 = some (aI x9) ∧ (P none (sI h8 26 0 37 x9))))))) ∧ ((¬ x6 = 0) → (((7 ≤ l2) → (V true mX10_next0 (d + 1) bc bs 80 [(0, aR 26 0), (2, aI (l2 + 1)), (3, aL l3)] [] (sI h5 26 0 36 ((gI h5 26 0 36) + 1)) P)) ∧ ((¬ 7 ≤ l2) → (Cl true mX10_see d 0 0 [aR 26 0, aI (gI h5 26 0 36)] h5 (fun r10 h11 => ∃ x12 : Int32, r10 = some (aI x12) ∧ (V true mX10_next0 (d + 1) bc bs 80 [(0, aR 26 0), (2, aI (l2 + 1)), (3, aL ((l3 <<< (Int32.toInt64 8 &&& 63)) ||| x12.toInt64))] [] (sI h11 26 0 36 ((gI h11 26 0 36) + 1)) P))))))))))) : V true mX10_next0 (d + 1) bc bs 80 [(0, aR 26 0), (2, aI l2), (3, aL l3)] [] h P := by
  refine V_aload_n 0 dX10_next0_80 rfl rfl ?_
  refine V_aload_n 0 dX10_next0_81 rfl rfl ?_
  refine GI_26_36 dX10_next0_82 lkX10_164 ?_
  refine V_callV (mc := 0) (ms := 0) (as := [aI (gI h 26 0 36)]) (st := []) (by decide) rt_26 rfl dX10_next0_85 okX10_see inX10_see seX10_see lkX10_167 rfl (Nat.le_of_ble_eq_true rfl) (Nat.zero_le _) (Nat.zero_le _) (Cl.mono (fun r1 h2 z => ?_) k)
  obtain ⟨x3, rfl, k⟩ := z
  refine V_callS (mc := 0) (ms := 0) (as := [aI x3]) (st := []) dX10_next0_88 okX10_isLetter stX10_isLetter lkX10_177 rfl (Nat.le_of_ble_eq_true rfl) (Nat.zero_le _) (Nat.zero_le _) (Cl.mono (fun r4 h5 z => ?_) k)
  obtain ⟨x6, rfl, k⟩ := z
  refine V_if_eq 131 dX10_next0_91 (by decide) ⟨fun z => ?_, fun z => ?_⟩
  · replace k := k.1 z
    refine V_aload_n 0 dX10_next0_131 rfl rfl ?_
    refine V_iload_n 2 dX10_next0_132 rfl rfl ?_
    refine V_bipush 7 dX10_next0_133 (by decide) ?_
    refine V_icmp_ge 145 dX10_next0_135 (by decide) ⟨fun z => ?_, fun z => ?_⟩
    · replace k := k.1 z
      refine V_iconst 1 dX10_next0_145 (by decide) ?_
      refine PI_26_37 dX10_next0_146 lkX10_174 ?_
      refine V_goto 330 dX10_next0_149 (by decide) ?_
      exact V_return dX10_next0_330 rfl k
    · replace k := k.2 z
      refine V_lload_n 3 dX10_next0_138 rfl rfl ?_
      refine V_callS (mc := 0) (ms := 0) (as := [aL l3]) (st := [aR 26 0]) dX10_next0_139 okX10_word stX10_word lkX10_180 rfl (Nat.le_of_ble_eq_true rfl) (Nat.zero_le _) (Nat.zero_le _) (Cl.mono (fun r7 h8 z => ?_) k)
      obtain ⟨x9, rfl, k⟩ := z
      refine V_goto 146 dX10_next0_142 (by decide) ?_
      refine PI_26_37 dX10_next0_146 lkX10_174 ?_
      refine V_goto 330 dX10_next0_149 (by decide) ?_
      exact V_return dX10_next0_330 rfl k
  · replace k := k.2 z
    refine V_iload_n 2 dX10_next0_94 rfl rfl ?_
    refine V_bipush 7 dX10_next0_95 (by decide) ?_
    refine V_icmp_ge 115 dX10_next0_97 (by decide) ⟨fun z => ?_, fun z => ?_⟩
    · replace k := k.1 z
      refine V_iinc 2 (v := l2 + 1) dX10_next0_115 rfl rfl (by decide) rfl ?_
      refine V_aload_n 0 dX10_next0_118 rfl rfl ?_
      refine V_dup dX10_next0_119 rfl ?_
      refine GI_26_36 dX10_next0_120 lkX10_164 ?_
      refine V_iconst 1 dX10_next0_123 (by decide) ?_
      refine V_iadd dX10_next0_124 ?_
      refine PI_26_36 dX10_next0_125 lkX10_164 ?_
      refine V_goto 80 dX10_next0_128 (by decide) ?_
      exact V_lv [1, 0, 2] rfl k
    · replace k := k.2 z
      refine V_lload_n 3 dX10_next0_100 rfl rfl ?_
      refine V_bipush 8 dX10_next0_101 (by decide) ?_
      refine V_lshl dX10_next0_103 ?_
      refine V_aload_n 0 dX10_next0_104 rfl rfl ?_
      refine V_aload_n 0 dX10_next0_105 rfl rfl ?_
      refine GI_26_36 dX10_next0_106 lkX10_164 ?_
      refine V_callV (mc := 0) (ms := 0) (as := [aI (gI h5 26 0 36)]) (st := [aL (l3 <<< (Int32.toInt64 8 &&& 63))]) (by decide) rt_26 rfl dX10_next0_109 okX10_see inX10_see seX10_see lkX10_167 rfl (Nat.le_of_ble_eq_true rfl) (Nat.zero_le _) (Nat.zero_le _) (Cl.mono (fun r10 h11 z => ?_) k)
      obtain ⟨x12, rfl, k⟩ := z
      refine V_i2l dX10_next0_112 ?_
      refine V_lor dX10_next0_113 ?_
      refine V_lstore_n 3 dX10_next0_114 rfl (by decide) rfl ?_
      refine V_iinc 2 (v := l2 + 1) dX10_next0_115 rfl rfl (by decide) rfl ?_
      refine V_aload_n 0 dX10_next0_118 rfl rfl ?_
      refine V_dup dX10_next0_119 rfl ?_
      refine GI_26_36 dX10_next0_120 lkX10_164 ?_
      refine V_iconst 1 dX10_next0_123 (by decide) ?_
      refine V_iadd dX10_next0_124 ?_
      refine PI_26_36 dX10_next0_125 lkX10_164 ?_
      refine V_goto 80 dX10_next0_128 (by decide) ?_
      exact V_lv [2, 0, 1] rfl k
set_option maxRecDepth 20000 in
set_option maxHeartbeats 2000000 in
theorem wX10_next0_164 {d bc bs : Nat} {h : HS} {P : Option AV → HS → Prop} {l2 : Int32} (k : Cl true mX10_see d 0 0 [aR 26 0, aI (gI h 26 0 36)] h (fun r1 h2 => ∃ x3 : Int32, r1 = some (aI x3) ∧ (Cl true mX10_isDigit d 0 0 [aI x3] h2 (fun r4 h5 => ∃ x6 : Int32, r4 = some (aI x6) ∧ (((x6 = 0) → (((7 ≤ l2) → (P none (sI h5 26 0 37 1))) ∧ ((¬ 7 ≤ l2) → (P none (sI h5 26 0 37 2))))) ∧ ((¬ x6 = 0) → (((6 ≤ l2) → (V true mX10_next0 (d + 1) bc bs 164 [(0, aR 26 0), (2, aI (l2 + 1))] [] (sI h5 26 0 36 ((gI h5 26 0 36) + 1)) P)) ∧ ((¬ 6 ≤ l2) → (Cl true mX10_see d 0 0 [aR 26 0, aI (gI h5 26 0 36)] h5 (fun r7 h8 => ∃ x9 : Int32, r7 = some (aI x9) ∧ (V true mX10_next0 (d + 1) bc bs 164 [(0, aR 26 0), (2, aI (l2 + 1))] [] (sI (sI h8 26 0 39 (((10 * (gI h5 26 0 39)) + x9) - 48)) 26 0 36 ((gI (sI h8 26 0 39 (((10 * (gI h5 26 0 39)) + x9) - 48)) 26 0 36) + 1)) P))))))))))) : V true mX10_next0 (d + 1) bc bs 164 [(0, aR 26 0), (2, aI l2)] [] h P := by
  refine V_aload_n 0 dX10_next0_164 rfl rfl ?_
  refine V_aload_n 0 dX10_next0_165 rfl rfl ?_
  refine GI_26_36 dX10_next0_166 lkX10_164 ?_
  refine V_callV (mc := 0) (ms := 0) (as := [aI (gI h 26 0 36)]) (st := []) (by decide) rt_26 rfl dX10_next0_169 okX10_see inX10_see seX10_see lkX10_167 rfl (Nat.le_of_ble_eq_true rfl) (Nat.zero_le _) (Nat.zero_le _) (Cl.mono (fun r1 h2 z => ?_) k)
  obtain ⟨x3, rfl, k⟩ := z
  refine V_callS (mc := 0) (ms := 0) (as := [aI x3]) (st := []) dX10_next0_172 okX10_isDigit stX10_isDigit lkX10_184 rfl (Nat.le_of_ble_eq_true rfl) (Nat.zero_le _) (Nat.zero_le _) (Cl.mono (fun r4 h5 z => ?_) k)
  obtain ⟨x6, rfl, k⟩ := z
  refine V_if_eq 223 dX10_next0_175 (by decide) ⟨fun z => ?_, fun z => ?_⟩
  · replace k := k.1 z
    refine V_aload_n 0 dX10_next0_223 rfl rfl ?_
    refine V_iload_n 2 dX10_next0_224 rfl rfl ?_
    refine V_bipush 7 dX10_next0_225 (by decide) ?_
    refine V_icmp_ge 234 dX10_next0_227 (by decide) ⟨fun z => ?_, fun z => ?_⟩
    · replace k := k.1 z
      refine V_iconst 1 dX10_next0_234 (by decide) ?_
      refine PI_26_37 dX10_next0_235 lkX10_174 ?_
      refine V_goto 330 dX10_next0_238 (by decide) ?_
      exact V_return dX10_next0_330 rfl k
    · replace k := k.2 z
      refine V_iconst 2 dX10_next0_230 (by decide) ?_
      refine V_goto 235 dX10_next0_231 (by decide) ?_
      refine PI_26_37 dX10_next0_235 lkX10_174 ?_
      refine V_goto 330 dX10_next0_238 (by decide) ?_
      exact V_return dX10_next0_330 rfl k
  · replace k := k.2 z
    refine V_iload_n 2 dX10_next0_178 rfl rfl ?_
    refine V_bipush 6 dX10_next0_179 (by decide) ?_
    refine V_icmp_ge 207 dX10_next0_181 (by decide) ⟨fun z => ?_, fun z => ?_⟩
    · replace k := k.1 z
      refine V_iinc 2 (v := l2 + 1) dX10_next0_207 rfl rfl (by decide) rfl ?_
      refine V_aload_n 0 dX10_next0_210 rfl rfl ?_
      refine V_dup dX10_next0_211 rfl ?_
      refine GI_26_36 dX10_next0_212 lkX10_164 ?_
      refine V_iconst 1 dX10_next0_215 (by decide) ?_
      refine V_iadd dX10_next0_216 ?_
      refine PI_26_36 dX10_next0_217 lkX10_164 ?_
      refine V_goto 164 dX10_next0_220 (by decide) ?_
      exact V_lv [1, 0] rfl k
    · replace k := k.2 z
      refine V_aload_n 0 dX10_next0_184 rfl rfl ?_
      refine V_bipush 10 dX10_next0_185 (by decide) ?_
      refine V_aload_n 0 dX10_next0_187 rfl rfl ?_
      refine GI_26_39 dX10_next0_188 lkX10_187 ?_
      refine V_imul dX10_next0_191 ?_
      refine V_aload_n 0 dX10_next0_192 rfl rfl ?_
      refine V_aload_n 0 dX10_next0_193 rfl rfl ?_
      refine GI_26_36 dX10_next0_194 lkX10_164 ?_
      refine V_callV (mc := 0) (ms := 0) (as := [aI (gI h5 26 0 36)]) (st := [aI (10 * (gI h5 26 0 39)), aR 26 0]) (by decide) rt_26 rfl dX10_next0_197 okX10_see inX10_see seX10_see lkX10_167 rfl (Nat.le_of_ble_eq_true rfl) (Nat.zero_le _) (Nat.zero_le _) (Cl.mono (fun r7 h8 z => ?_) k)
      obtain ⟨x9, rfl, k⟩ := z
      refine V_iadd dX10_next0_200 ?_
      refine V_bipush 48 dX10_next0_201 (by decide) ?_
      refine V_isub dX10_next0_203 ?_
      refine PI_26_39 dX10_next0_204 lkX10_187 ?_
      refine V_iinc 2 (v := l2 + 1) dX10_next0_207 rfl rfl (by decide) rfl ?_
      refine V_aload_n 0 dX10_next0_210 rfl rfl ?_
      refine V_dup dX10_next0_211 rfl ?_
      refine GI_26_36 dX10_next0_212 lkX10_164 ?_
      refine V_iconst 1 dX10_next0_215 (by decide) ?_
      refine V_iadd dX10_next0_216 ?_
      refine PI_26_36 dX10_next0_217 lkX10_164 ?_
      refine V_goto 164 dX10_next0_220 (by decide) ?_
      exact V_lv [1, 0] rfl k
-- X10_bad cuts []
set_option maxRecDepth 20000 in
set_option maxHeartbeats 2000000 in
theorem wX10_bad {d bc bs : Nat} {h : HS} {P : Option AV → HS → Prop} {l1 : Int32} (k : P (some (aI 0)) (sI (sI h 26 0 40 l1) 26 0 41 (gI (sI h 26 0 40 l1) 26 0 38))) : Cl true mX10_bad (d + 1) bc bs [aR 26 0, aI l1] h P := by
  refine Cl_of (by decide) (Nat.le_of_ble_eq_true rfl) ?_
  show V true mX10_bad (d + 1) bc bs 0 [(0, aR 26 0), (1, aI l1)] [] h P
  refine V_aload_n 0 dX10_bad_0 rfl rfl ?_
  refine V_iload_n 1 dX10_bad_1 rfl rfl ?_
  refine PI_26_40 dX10_bad_2 lkX10_190 ?_
  refine V_aload_n 0 dX10_bad_5 rfl rfl ?_
  refine V_aload_n 0 dX10_bad_6 rfl rfl ?_
  refine GI_26_38 dX10_bad_7 lkX10_171 ?_
  refine PI_26_41 dX10_bad_10 lkX10_193 ?_
  refine V_iconst 0 dX10_bad_13 (by decide) ?_
  exact V_zreturn dX10_bad_14 rfl (by decide) k
-- X10_need cuts []
set_option maxRecDepth 20000 in
set_option maxHeartbeats 2000000 in
theorem wX10_need {d bc bs : Nat} {h : HS} {P : Option AV → HS → Prop} {l1 : Int32} (k : (((gI h 26 0 37) = l1) → (Cl true mX10_next0 d 0 0 [aR 26 0] h (fun r1 h2 => r1 = none ∧ (P (some (aI 1)) h2)))) ∧ ((¬ (gI h 26 0 37) = l1) → (Cl true mX10_bad d 0 0 [aR 26 0, aI 1] h (fun r3 h4 => ∃ x5 : Int32, r3 = some (aI x5) ∧ ((x5 = 0 ∨ x5 = 1) ∧ P (some (aI x5)) h4))))) : Cl true mX10_need (d + 1) bc bs [aR 26 0, aI l1] h P := by
  refine Cl_of (by decide) (Nat.le_of_ble_eq_true rfl) ?_
  show V true mX10_need (d + 1) bc bs 0 [(0, aR 26 0), (1, aI l1)] [] h P
  refine V_aload_n 0 dX10_need_0 rfl rfl ?_
  refine GI_26_37 dX10_need_1 lkX10_174 ?_
  refine V_iload_n 1 dX10_need_4 rfl rfl ?_
  refine V_icmp_eq 14 dX10_need_5 (by decide) ⟨fun z => ?_, fun z => ?_⟩
  · replace k := k.1 z
    refine V_aload_n 0 dX10_need_14 rfl rfl ?_
    refine V_callV (mc := 0) (ms := 0) (as := []) (st := []) (by decide) rt_26 rfl dX10_need_15 okX10_next0 inX10_next0 seX10_next0 lkX10_199 rfl (Nat.le_of_ble_eq_true rfl) (Nat.zero_le _) (Nat.zero_le _) (Cl.mono (fun r1 h2 z => ?_) k)
    obtain ⟨rfl, k⟩ := z
    refine V_iconst 1 dX10_need_18 (by decide) ?_
    exact V_zreturn dX10_need_19 rfl (by decide) k
  · replace k := k.2 z
    refine V_aload_n 0 dX10_need_8 rfl rfl ?_
    refine V_iconst 1 dX10_need_9 (by decide) ?_
    refine V_callV (mc := 0) (ms := 0) (as := [aI 1]) (st := []) (by decide) rt_26 rfl dX10_need_10 okX10_bad inX10_bad seX10_bad lkX10_196 rfl (Nat.le_of_ble_eq_true rfl) (Nat.zero_le _) (Nat.zero_le _) (Cl.mono (fun r3 h4 z => ?_) k)
    obtain ⟨x5, rfl, k⟩ := z
    exact V_zreturn dX10_need_13 rfl k.1 k.2
-- X10_lay cuts []
set_option maxRecDepth 20000 in
set_option maxHeartbeats 2000000 in
theorem wX10_lay {d bc bs : Nat} {h : HS} {P : Option AV → HS → Prop} {l1 : Int32} (k : vp_in (gI h 26 0 26) 500 ∧ (P none (sI (sI h 51 0 (gI h 26 0 26).toNatClampNeg l1) 26 0 26 ((gI (sI h 51 0 (gI h 26 0 26).toNatClampNeg l1) 26 0 26) + 1)))) : Cl true mX10_lay (d + 1) bc bs [aR 26 0, aI l1] h P := by
  refine Cl_of (by decide) (Nat.le_of_ble_eq_true rfl) ?_
  show V true mX10_lay (d + 1) bc bs 0 [(0, aR 26 0), (1, aI l1)] [] h P
  refine V_aload_n 0 dX10_lay_0 rfl rfl ?_
  refine GS_26_32 dX10_lay_1 lkX10_83 ?_
  refine V_aload_n 0 dX10_lay_4 rfl rfl ?_
  refine GI_26_26 dX10_lay_5 lkX10_202 ?_
  refine V_iload_n 1 dX10_lay_8 rfl rfl ?_
  refine V_iast (by decide) rt_51 dX10_lay_9 k.1 ?_
  replace k := k.2
  refine V_aload_n 0 dX10_lay_10 rfl rfl ?_
  refine V_dup dX10_lay_11 rfl ?_
  refine GI_26_26 dX10_lay_12 lkX10_202 ?_
  refine V_iconst 1 dX10_lay_15 (by decide) ?_
  refine V_iadd dX10_lay_16 ?_
  refine PI_26_26 dX10_lay_17 lkX10_202 ?_
  exact V_return dX10_lay_20 rfl k
-- X10_sum cuts [9]
set_option maxRecDepth 20000 in
set_option maxHeartbeats 2000000 in
theorem wX10_sum {d bc bs : Nat} {h : HS} {P : Option AV → HS → Prop}  (k : Cl true mX10_product d 0 0 [aR 26 0] h (fun r1 h2 => ∃ x3 : Int32, r1 = some (aI x3) ∧ (((¬ x3 = 0) → (V true mX10_sum (d + 1) bc bs 9 [(0, aR 26 0)] [] h2 P)) ∧ ((x3 = 0) → (P (some (aI 0)) h2))))) : Cl true mX10_sum (d + 1) bc bs [aR 26 0] h P := by
  refine Cl_of (by decide) (Nat.le_of_ble_eq_true rfl) ?_
  show V true mX10_sum (d + 1) bc bs 0 [(0, aR 26 0)] [] h P
  refine V_aload_n 0 dX10_sum_0 rfl rfl ?_
  refine V_callV (mc := 0) (ms := 0) (as := []) (st := []) (by decide) rt_26 rfl dX10_sum_1 okX10_product inX10_product seX10_product lkX10_205 rfl (Nat.le_of_ble_eq_true rfl) (Nat.zero_le _) (Nat.zero_le _) (Cl.mono (fun r1 h2 z => ?_) k)
  obtain ⟨x3, rfl, k⟩ := z
  refine V_if_ne 9 dX10_sum_4 (by decide) ⟨fun z => ?_, fun z => ?_⟩
  · replace k := k.1 z
    exact V_lv [0] rfl k
  · replace k := k.2 z
    refine V_iconst 0 dX10_sum_7 (by decide) ?_
    exact V_zreturn dX10_sum_8 rfl (by decide) k
set_option maxRecDepth 20000 in
set_option maxHeartbeats 2000000 in
theorem wX10_sum_9 {d bc bs : Nat} {h : HS} {P : Option AV → HS → Prop}  (k : (((gI h 26 0 37) = 43) → (((¬ (gI h 26 0 37) = 43) → (Cl true mX10_next0 d 0 0 [aR 26 0] h (fun r1 h2 => r1 = none ∧ (Cl true mX10_product d 0 0 [aR 26 0] h2 (fun r3 h4 => ∃ x5 : Int32, r3 = some (aI x5) ∧ (((¬ x5 = 0) → (Cl true mX10_lay d 0 0 [aR 26 0, aI 1000011] h4 (fun r6 h7 => r6 = none ∧ (V true mX10_sum (d + 1) bc bs 9 [(0, aR 26 0)] [] h7 P)))) ∧ ((x5 = 0) → (P (some (aI 0)) h4)))))))) ∧ (((gI h 26 0 37) = 43) → (Cl true mX10_next0 d 0 0 [aR 26 0] h (fun r8 h9 => r8 = none ∧ (Cl true mX10_product d 0 0 [aR 26 0] h9 (fun r10 h11 => ∃ x12 : Int32, r10 = some (aI x12) ∧ (((¬ x12 = 0) → (Cl true mX10_lay d 0 0 [aR 26 0, aI 1000010] h11 (fun r13 h14 => r13 = none ∧ (V true mX10_sum (d + 1) bc bs 9 [(0, aR 26 0)] [] h14 P)))) ∧ ((x12 = 0) → (P (some (aI 0)) h11)))))))))) ∧ ((¬ (gI h 26 0 37) = 43) → (((¬ (gI h 26 0 37) = 45) → (P (some (aI 1)) h)) ∧ (((gI h 26 0 37) = 45) → (((¬ (gI h 26 0 37) = 43) → (Cl true mX10_next0 d 0 0 [aR 26 0] h (fun r15 h16 => r15 = none ∧ (Cl true mX10_product d 0 0 [aR 26 0] h16 (fun r17 h18 => ∃ x19 : Int32, r17 = some (aI x19) ∧ (((¬ x19 = 0) → (Cl true mX10_lay d 0 0 [aR 26 0, aI 1000011] h18 (fun r20 h21 => r20 = none ∧ (V true mX10_sum (d + 1) bc bs 9 [(0, aR 26 0)] [] h21 P)))) ∧ ((x19 = 0) → (P (some (aI 0)) h18)))))))) ∧ (((gI h 26 0 37) = 43) → (Cl true mX10_next0 d 0 0 [aR 26 0] h (fun r22 h23 => r22 = none ∧ (Cl true mX10_product d 0 0 [aR 26 0] h23 (fun r24 h25 => ∃ x26 : Int32, r24 = some (aI x26) ∧ (((¬ x26 = 0) → (Cl true mX10_lay d 0 0 [aR 26 0, aI 1000010] h25 (fun r27 h28 => r27 = none ∧ (V true mX10_sum (d + 1) bc bs 9 [(0, aR 26 0)] [] h28 P)))) ∧ ((x26 = 0) → (P (some (aI 0)) h25))))))))))))) : V true mX10_sum (d + 1) bc bs 9 [(0, aR 26 0)] [] h P := by
  refine V_aload_n 0 dX10_sum_9 rfl rfl ?_
  refine GI_26_37 dX10_sum_10 lkX10_174 ?_
  refine V_bipush 43 dX10_sum_13 (by decide) ?_
  refine V_icmp_eq 27 dX10_sum_15 (by decide) ⟨fun z => ?_, fun z => ?_⟩
  · replace k := k.1 z
    refine V_aload_n 0 dX10_sum_27 rfl rfl ?_
    refine GI_26_37 dX10_sum_28 lkX10_174 ?_
    refine V_bipush 43 dX10_sum_31 (by decide) ?_
    refine V_icmp_ne 41 dX10_sum_33 (by decide) ⟨fun z => ?_, fun z => ?_⟩
    · replace k := k.1 z
      refine V_ldc 1000011 dX10_sum_41 lkX10_210 ?_
      refine V_istore_n 1 dX10_sum_43 rfl (by decide) rfl ?_
      refine V_aload_n 0 dX10_sum_44 rfl rfl ?_
      refine V_callV (mc := 0) (ms := 0) (as := []) (st := []) (by decide) rt_26 rfl dX10_sum_45 okX10_next0 inX10_next0 seX10_next0 lkX10_199 rfl (Nat.le_of_ble_eq_true rfl) (Nat.zero_le _) (Nat.zero_le _) (Cl.mono (fun r1 h2 z => ?_) k)
      obtain ⟨rfl, k⟩ := z
      refine V_aload_n 0 dX10_sum_48 rfl rfl ?_
      refine V_callV (mc := 0) (ms := 0) (as := []) (st := []) (by decide) rt_26 rfl dX10_sum_49 okX10_product inX10_product seX10_product lkX10_205 rfl (Nat.le_of_ble_eq_true rfl) (Nat.zero_le _) (Nat.zero_le _) (Cl.mono (fun r3 h4 z => ?_) k)
      obtain ⟨x5, rfl, k⟩ := z
      refine V_if_ne 57 dX10_sum_52 (by decide) ⟨fun z => ?_, fun z => ?_⟩
      · replace k := k.1 z
        refine V_aload_n 0 dX10_sum_57 rfl rfl ?_
        refine V_iload_n 1 dX10_sum_58 rfl rfl ?_
        refine V_callV (mc := 0) (ms := 0) (as := [aI 1000011]) (st := []) (by decide) rt_26 rfl dX10_sum_59 okX10_lay inX10_lay seX10_lay lkX10_211 rfl (Nat.le_of_ble_eq_true rfl) (Nat.zero_le _) (Nat.zero_le _) (Cl.mono (fun r6 h7 z => ?_) k)
        obtain ⟨rfl, k⟩ := z
        refine V_goto 9 dX10_sum_62 (by decide) ?_
        exact V_lv [1] rfl k
      · replace k := k.2 z
        refine V_iconst 0 dX10_sum_55 (by decide) ?_
        exact V_zreturn dX10_sum_56 rfl (by decide) k
    · replace k := k.2 z
      refine V_ldc 1000010 dX10_sum_36 lkX10_209 ?_
      refine V_goto 43 dX10_sum_38 (by decide) ?_
      refine V_istore_n 1 dX10_sum_43 rfl (by decide) rfl ?_
      refine V_aload_n 0 dX10_sum_44 rfl rfl ?_
      refine V_callV (mc := 0) (ms := 0) (as := []) (st := []) (by decide) rt_26 rfl dX10_sum_45 okX10_next0 inX10_next0 seX10_next0 lkX10_199 rfl (Nat.le_of_ble_eq_true rfl) (Nat.zero_le _) (Nat.zero_le _) (Cl.mono (fun r8 h9 z => ?_) k)
      obtain ⟨rfl, k⟩ := z
      refine V_aload_n 0 dX10_sum_48 rfl rfl ?_
      refine V_callV (mc := 0) (ms := 0) (as := []) (st := []) (by decide) rt_26 rfl dX10_sum_49 okX10_product inX10_product seX10_product lkX10_205 rfl (Nat.le_of_ble_eq_true rfl) (Nat.zero_le _) (Nat.zero_le _) (Cl.mono (fun r10 h11 z => ?_) k)
      obtain ⟨x12, rfl, k⟩ := z
      refine V_if_ne 57 dX10_sum_52 (by decide) ⟨fun z => ?_, fun z => ?_⟩
      · replace k := k.1 z
        refine V_aload_n 0 dX10_sum_57 rfl rfl ?_
        refine V_iload_n 1 dX10_sum_58 rfl rfl ?_
        refine V_callV (mc := 0) (ms := 0) (as := [aI 1000010]) (st := []) (by decide) rt_26 rfl dX10_sum_59 okX10_lay inX10_lay seX10_lay lkX10_211 rfl (Nat.le_of_ble_eq_true rfl) (Nat.zero_le _) (Nat.zero_le _) (Cl.mono (fun r13 h14 z => ?_) k)
        obtain ⟨rfl, k⟩ := z
        refine V_goto 9 dX10_sum_62 (by decide) ?_
        exact V_lv [1] rfl k
      · replace k := k.2 z
        refine V_iconst 0 dX10_sum_55 (by decide) ?_
        exact V_zreturn dX10_sum_56 rfl (by decide) k
  · replace k := k.2 z
    refine V_aload_n 0 dX10_sum_18 rfl rfl ?_
    refine GI_26_37 dX10_sum_19 lkX10_174 ?_
    refine V_bipush 45 dX10_sum_22 (by decide) ?_
    refine V_icmp_ne 65 dX10_sum_24 (by decide) ⟨fun z => ?_, fun z => ?_⟩
    · replace k := k.1 z
      refine V_iconst 1 dX10_sum_65 (by decide) ?_
      exact V_zreturn dX10_sum_66 rfl (by decide) k
    · replace k := k.2 z
      refine V_aload_n 0 dX10_sum_27 rfl rfl ?_
      refine GI_26_37 dX10_sum_28 lkX10_174 ?_
      refine V_bipush 43 dX10_sum_31 (by decide) ?_
      refine V_icmp_ne 41 dX10_sum_33 (by decide) ⟨fun z => ?_, fun z => ?_⟩
      · replace k := k.1 z
        refine V_ldc 1000011 dX10_sum_41 lkX10_210 ?_
        refine V_istore_n 1 dX10_sum_43 rfl (by decide) rfl ?_
        refine V_aload_n 0 dX10_sum_44 rfl rfl ?_
        refine V_callV (mc := 0) (ms := 0) (as := []) (st := []) (by decide) rt_26 rfl dX10_sum_45 okX10_next0 inX10_next0 seX10_next0 lkX10_199 rfl (Nat.le_of_ble_eq_true rfl) (Nat.zero_le _) (Nat.zero_le _) (Cl.mono (fun r15 h16 z => ?_) k)
        obtain ⟨rfl, k⟩ := z
        refine V_aload_n 0 dX10_sum_48 rfl rfl ?_
        refine V_callV (mc := 0) (ms := 0) (as := []) (st := []) (by decide) rt_26 rfl dX10_sum_49 okX10_product inX10_product seX10_product lkX10_205 rfl (Nat.le_of_ble_eq_true rfl) (Nat.zero_le _) (Nat.zero_le _) (Cl.mono (fun r17 h18 z => ?_) k)
        obtain ⟨x19, rfl, k⟩ := z
        refine V_if_ne 57 dX10_sum_52 (by decide) ⟨fun z => ?_, fun z => ?_⟩
        · replace k := k.1 z
          refine V_aload_n 0 dX10_sum_57 rfl rfl ?_
          refine V_iload_n 1 dX10_sum_58 rfl rfl ?_
          refine V_callV (mc := 0) (ms := 0) (as := [aI 1000011]) (st := []) (by decide) rt_26 rfl dX10_sum_59 okX10_lay inX10_lay seX10_lay lkX10_211 rfl (Nat.le_of_ble_eq_true rfl) (Nat.zero_le _) (Nat.zero_le _) (Cl.mono (fun r20 h21 z => ?_) k)
          obtain ⟨rfl, k⟩ := z
          refine V_goto 9 dX10_sum_62 (by decide) ?_
          exact V_lv [1] rfl k
        · replace k := k.2 z
          refine V_iconst 0 dX10_sum_55 (by decide) ?_
          exact V_zreturn dX10_sum_56 rfl (by decide) k
      · replace k := k.2 z
        refine V_ldc 1000010 dX10_sum_36 lkX10_209 ?_
        refine V_goto 43 dX10_sum_38 (by decide) ?_
        refine V_istore_n 1 dX10_sum_43 rfl (by decide) rfl ?_
        refine V_aload_n 0 dX10_sum_44 rfl rfl ?_
        refine V_callV (mc := 0) (ms := 0) (as := []) (st := []) (by decide) rt_26 rfl dX10_sum_45 okX10_next0 inX10_next0 seX10_next0 lkX10_199 rfl (Nat.le_of_ble_eq_true rfl) (Nat.zero_le _) (Nat.zero_le _) (Cl.mono (fun r22 h23 z => ?_) k)
        obtain ⟨rfl, k⟩ := z
        refine V_aload_n 0 dX10_sum_48 rfl rfl ?_
        refine V_callV (mc := 0) (ms := 0) (as := []) (st := []) (by decide) rt_26 rfl dX10_sum_49 okX10_product inX10_product seX10_product lkX10_205 rfl (Nat.le_of_ble_eq_true rfl) (Nat.zero_le _) (Nat.zero_le _) (Cl.mono (fun r24 h25 z => ?_) k)
        obtain ⟨x26, rfl, k⟩ := z
        refine V_if_ne 57 dX10_sum_52 (by decide) ⟨fun z => ?_, fun z => ?_⟩
        · replace k := k.1 z
          refine V_aload_n 0 dX10_sum_57 rfl rfl ?_
          refine V_iload_n 1 dX10_sum_58 rfl rfl ?_
          refine V_callV (mc := 0) (ms := 0) (as := [aI 1000010]) (st := []) (by decide) rt_26 rfl dX10_sum_59 okX10_lay inX10_lay seX10_lay lkX10_211 rfl (Nat.le_of_ble_eq_true rfl) (Nat.zero_le _) (Nat.zero_le _) (Cl.mono (fun r27 h28 z => ?_) k)
          obtain ⟨rfl, k⟩ := z
          refine V_goto 9 dX10_sum_62 (by decide) ?_
          exact V_lv [1] rfl k
        · replace k := k.2 z
          refine V_iconst 0 dX10_sum_55 (by decide) ?_
          exact V_zreturn dX10_sum_56 rfl (by decide) k
-- X10_product cuts [9]
set_option maxRecDepth 20000 in
set_option maxHeartbeats 2000000 in
theorem wX10_product {d bc bs : Nat} {h : HS} {P : Option AV → HS → Prop}  (k : Cl true mX10_unit d 0 0 [aR 26 0] h (fun r1 h2 => ∃ x3 : Int32, r1 = some (aI x3) ∧ (((¬ x3 = 0) → (V true mX10_product (d + 1) bc bs 9 [(0, aR 26 0)] [] h2 P)) ∧ ((x3 = 0) → (P (some (aI 0)) h2))))) : Cl true mX10_product (d + 1) bc bs [aR 26 0] h P := by
  refine Cl_of (by decide) (Nat.le_of_ble_eq_true rfl) ?_
  show V true mX10_product (d + 1) bc bs 0 [(0, aR 26 0)] [] h P
  refine V_aload_n 0 dX10_product_0 rfl rfl ?_
  refine V_callV (mc := 0) (ms := 0) (as := []) (st := []) (by decide) rt_26 rfl dX10_product_1 okX10_unit inX10_unit seX10_unit lkX10_215 rfl (Nat.le_of_ble_eq_true rfl) (Nat.zero_le _) (Nat.zero_le _) (Cl.mono (fun r1 h2 z => ?_) k)
  obtain ⟨x3, rfl, k⟩ := z
  refine V_if_ne 9 dX10_product_4 (by decide) ⟨fun z => ?_, fun z => ?_⟩
  · replace k := k.1 z
    exact V_lv [0] rfl k
  · replace k := k.2 z
    refine V_iconst 0 dX10_product_7 (by decide) ?_
    exact V_zreturn dX10_product_8 rfl (by decide) k
set_option maxRecDepth 20000 in
set_option maxHeartbeats 2000000 in
theorem wX10_product_9 {d bc bs : Nat} {h : HS} {P : Option AV → HS → Prop}  (k : (((gI h 26 0 37) = 42) → (((¬ (gI h 26 0 37) = 47) → (Cl true mX10_next0 d 0 0 [aR 26 0] h (fun r1 h2 => r1 = none ∧ (Cl true mX10_unit d 0 0 [aR 26 0] h2 (fun r3 h4 => ∃ x5 : Int32, r3 = some (aI x5) ∧ (((¬ x5 = 0) → (Cl true mX10_lay d 0 0 [aR 26 0, aI 1000012] h4 (fun r6 h7 => r6 = none ∧ (V true mX10_product (d + 1) bc bs 9 [(0, aR 26 0)] [] h7 P)))) ∧ ((x5 = 0) → (P (some (aI 0)) h4)))))))) ∧ (((gI h 26 0 37) = 47) → (Cl true mX10_next0 d 0 0 [aR 26 0] h (fun r8 h9 => r8 = none ∧ ((((gI h9 26 0 37) = 2) → (((¬ (gI h9 26 0 39) = 0) → (Cl true mX10_unit d 0 0 [aR 26 0] h9 (fun r10 h11 => ∃ x12 : Int32, r10 = some (aI x12) ∧ (((¬ x12 = 0) → (Cl true mX10_lay d 0 0 [aR 26 0, aI 1000013] h11 (fun r13 h14 => r13 = none ∧ (V true mX10_product (d + 1) bc bs 9 [(0, aR 26 0)] [] h14 P)))) ∧ ((x12 = 0) → (P (some (aI 0)) h11)))))) ∧ (((gI h9 26 0 39) = 0) → (Cl true mX10_bad d 0 0 [aR 26 0, aI 2] h9 (fun r15 h16 => ∃ x17 : Int32, r15 = some (aI x17) ∧ ((x17 = 0 ∨ x17 = 1) ∧ P (some (aI x17)) h16)))))) ∧ ((¬ (gI h9 26 0 37) = 2) → (Cl true mX10_bad d 0 0 [aR 26 0, aI 1] h9 (fun r18 h19 => ∃ x20 : Int32, r18 = some (aI x20) ∧ ((x20 = 0 ∨ x20 = 1) ∧ P (some (aI x20)) h19)))))))))) ∧ ((¬ (gI h 26 0 37) = 42) → (((¬ (gI h 26 0 37) = 47) → (P (some (aI 1)) h)) ∧ (((gI h 26 0 37) = 47) → (((¬ (gI h 26 0 37) = 47) → (Cl true mX10_next0 d 0 0 [aR 26 0] h (fun r21 h22 => r21 = none ∧ (Cl true mX10_unit d 0 0 [aR 26 0] h22 (fun r23 h24 => ∃ x25 : Int32, r23 = some (aI x25) ∧ (((¬ x25 = 0) → (Cl true mX10_lay d 0 0 [aR 26 0, aI 1000012] h24 (fun r26 h27 => r26 = none ∧ (V true mX10_product (d + 1) bc bs 9 [(0, aR 26 0)] [] h27 P)))) ∧ ((x25 = 0) → (P (some (aI 0)) h24)))))))) ∧ (((gI h 26 0 37) = 47) → (Cl true mX10_next0 d 0 0 [aR 26 0] h (fun r28 h29 => r28 = none ∧ ((((gI h29 26 0 37) = 2) → (((¬ (gI h29 26 0 39) = 0) → (Cl true mX10_unit d 0 0 [aR 26 0] h29 (fun r30 h31 => ∃ x32 : Int32, r30 = some (aI x32) ∧ (((¬ x32 = 0) → (Cl true mX10_lay d 0 0 [aR 26 0, aI 1000013] h31 (fun r33 h34 => r33 = none ∧ (V true mX10_product (d + 1) bc bs 9 [(0, aR 26 0)] [] h34 P)))) ∧ ((x32 = 0) → (P (some (aI 0)) h31)))))) ∧ (((gI h29 26 0 39) = 0) → (Cl true mX10_bad d 0 0 [aR 26 0, aI 2] h29 (fun r35 h36 => ∃ x37 : Int32, r35 = some (aI x37) ∧ ((x37 = 0 ∨ x37 = 1) ∧ P (some (aI x37)) h36)))))) ∧ ((¬ (gI h29 26 0 37) = 2) → (Cl true mX10_bad d 0 0 [aR 26 0, aI 1] h29 (fun r38 h39 => ∃ x40 : Int32, r38 = some (aI x40) ∧ ((x40 = 0 ∨ x40 = 1) ∧ P (some (aI x40)) h39))))))))))))) : V true mX10_product (d + 1) bc bs 9 [(0, aR 26 0)] [] h P := by
  refine V_aload_n 0 dX10_product_9 rfl rfl ?_
  refine GI_26_37 dX10_product_10 lkX10_174 ?_
  refine V_bipush 42 dX10_product_13 (by decide) ?_
  refine V_icmp_eq 27 dX10_product_15 (by decide) ⟨fun z => ?_, fun z => ?_⟩
  · replace k := k.1 z
    refine V_aload_n 0 dX10_product_27 rfl rfl ?_
    refine GI_26_37 dX10_product_28 lkX10_174 ?_
    refine V_bipush 47 dX10_product_31 (by decide) ?_
    refine V_icmp_ne 40 dX10_product_33 (by decide) ⟨fun z => ?_, fun z => ?_⟩
    · replace k := k.1 z
      refine V_iconst 0 dX10_product_40 (by decide) ?_
      refine V_istore_n 1 dX10_product_41 rfl (by decide) rfl ?_
      refine V_aload_n 0 dX10_product_42 rfl rfl ?_
      refine V_callV (mc := 0) (ms := 0) (as := []) (st := []) (by decide) rt_26 rfl dX10_product_43 okX10_next0 inX10_next0 seX10_next0 lkX10_199 rfl (Nat.le_of_ble_eq_true rfl) (Nat.zero_le _) (Nat.zero_le _) (Cl.mono (fun r1 h2 z => ?_) k)
      obtain ⟨rfl, k⟩ := z
      refine V_iload_n 1 dX10_product_46 rfl rfl ?_
      refine V_if_eq 64 dX10_product_47 (by decide) ⟨fun z => ?_, fun z => absurd z (by decide)⟩
      refine V_iload_n 1 dX10_product_64 rfl rfl ?_
      refine V_if_eq 81 dX10_product_65 (by decide) ⟨fun z => ?_, fun z => absurd z (by decide)⟩
      refine V_aload_n 0 dX10_product_81 rfl rfl ?_
      refine V_callV (mc := 0) (ms := 0) (as := []) (st := []) (by decide) rt_26 rfl dX10_product_82 okX10_unit inX10_unit seX10_unit lkX10_215 rfl (Nat.le_of_ble_eq_true rfl) (Nat.zero_le _) (Nat.zero_le _) (Cl.mono (fun r3 h4 z => ?_) k)
      obtain ⟨x5, rfl, k⟩ := z
      refine V_if_ne 90 dX10_product_85 (by decide) ⟨fun z => ?_, fun z => ?_⟩
      · replace k := k.1 z
        refine V_aload_n 0 dX10_product_90 rfl rfl ?_
        refine V_iload_n 1 dX10_product_91 rfl rfl ?_
        refine V_if_eq 100 dX10_product_92 (by decide) ⟨fun z => ?_, fun z => absurd z (by decide)⟩
        refine V_ldc 1000012 dX10_product_100 lkX10_219 ?_
        refine V_callV (mc := 0) (ms := 0) (as := [aI 1000012]) (st := []) (by decide) rt_26 rfl dX10_product_102 okX10_lay inX10_lay seX10_lay lkX10_211 rfl (Nat.le_of_ble_eq_true rfl) (Nat.zero_le _) (Nat.zero_le _) (Cl.mono (fun r6 h7 z => ?_) k)
        obtain ⟨rfl, k⟩ := z
        refine V_goto 9 dX10_product_105 (by decide) ?_
        exact V_lv [1] rfl k
      · replace k := k.2 z
        refine V_iconst 0 dX10_product_88 (by decide) ?_
        exact V_zreturn dX10_product_89 rfl (by decide) k
    · replace k := k.2 z
      refine V_iconst 1 dX10_product_36 (by decide) ?_
      refine V_goto 41 dX10_product_37 (by decide) ?_
      refine V_istore_n 1 dX10_product_41 rfl (by decide) rfl ?_
      refine V_aload_n 0 dX10_product_42 rfl rfl ?_
      refine V_callV (mc := 0) (ms := 0) (as := []) (st := []) (by decide) rt_26 rfl dX10_product_43 okX10_next0 inX10_next0 seX10_next0 lkX10_199 rfl (Nat.le_of_ble_eq_true rfl) (Nat.zero_le _) (Nat.zero_le _) (Cl.mono (fun r8 h9 z => ?_) k)
      obtain ⟨rfl, k⟩ := z
      refine V_iload_n 1 dX10_product_46 rfl rfl ?_
      refine V_if_eq 64 dX10_product_47 (by decide) ⟨fun z => absurd z (by decide), fun z => ?_⟩
      refine V_aload_n 0 dX10_product_50 rfl rfl ?_
      refine GI_26_37 dX10_product_51 lkX10_174 ?_
      refine V_iconst 2 dX10_product_54 (by decide) ?_
      refine V_icmp_eq 64 dX10_product_55 (by decide) ⟨fun z => ?_, fun z => ?_⟩
      · replace k := k.1 z
        refine V_iload_n 1 dX10_product_64 rfl rfl ?_
        refine V_if_eq 81 dX10_product_65 (by decide) ⟨fun z => absurd z (by decide), fun z => ?_⟩
        refine V_aload_n 0 dX10_product_68 rfl rfl ?_
        refine GI_26_39 dX10_product_69 lkX10_187 ?_
        refine V_if_ne 81 dX10_product_72 (by decide) ⟨fun z => ?_, fun z => ?_⟩
        · replace k := k.1 z
          refine V_aload_n 0 dX10_product_81 rfl rfl ?_
          refine V_callV (mc := 0) (ms := 0) (as := []) (st := []) (by decide) rt_26 rfl dX10_product_82 okX10_unit inX10_unit seX10_unit lkX10_215 rfl (Nat.le_of_ble_eq_true rfl) (Nat.zero_le _) (Nat.zero_le _) (Cl.mono (fun r10 h11 z => ?_) k)
          obtain ⟨x12, rfl, k⟩ := z
          refine V_if_ne 90 dX10_product_85 (by decide) ⟨fun z => ?_, fun z => ?_⟩
          · replace k := k.1 z
            refine V_aload_n 0 dX10_product_90 rfl rfl ?_
            refine V_iload_n 1 dX10_product_91 rfl rfl ?_
            refine V_if_eq 100 dX10_product_92 (by decide) ⟨fun z => absurd z (by decide), fun z => ?_⟩
            refine V_ldc 1000013 dX10_product_95 lkX10_218 ?_
            refine V_goto 102 dX10_product_97 (by decide) ?_
            refine V_callV (mc := 0) (ms := 0) (as := [aI 1000013]) (st := []) (by decide) rt_26 rfl dX10_product_102 okX10_lay inX10_lay seX10_lay lkX10_211 rfl (Nat.le_of_ble_eq_true rfl) (Nat.zero_le _) (Nat.zero_le _) (Cl.mono (fun r13 h14 z => ?_) k)
            obtain ⟨rfl, k⟩ := z
            refine V_goto 9 dX10_product_105 (by decide) ?_
            exact V_lv [1] rfl k
          · replace k := k.2 z
            refine V_iconst 0 dX10_product_88 (by decide) ?_
            exact V_zreturn dX10_product_89 rfl (by decide) k
        · replace k := k.2 z
          refine V_aload_n 0 dX10_product_75 rfl rfl ?_
          refine V_iconst 2 dX10_product_76 (by decide) ?_
          refine V_callV (mc := 0) (ms := 0) (as := [aI 2]) (st := []) (by decide) rt_26 rfl dX10_product_77 okX10_bad inX10_bad seX10_bad lkX10_196 rfl (Nat.le_of_ble_eq_true rfl) (Nat.zero_le _) (Nat.zero_le _) (Cl.mono (fun r15 h16 z => ?_) k)
          obtain ⟨x17, rfl, k⟩ := z
          exact V_zreturn dX10_product_80 rfl k.1 k.2
      · replace k := k.2 z
        refine V_aload_n 0 dX10_product_58 rfl rfl ?_
        refine V_iconst 1 dX10_product_59 (by decide) ?_
        refine V_callV (mc := 0) (ms := 0) (as := [aI 1]) (st := []) (by decide) rt_26 rfl dX10_product_60 okX10_bad inX10_bad seX10_bad lkX10_196 rfl (Nat.le_of_ble_eq_true rfl) (Nat.zero_le _) (Nat.zero_le _) (Cl.mono (fun r18 h19 z => ?_) k)
        obtain ⟨x20, rfl, k⟩ := z
        exact V_zreturn dX10_product_63 rfl k.1 k.2
  · replace k := k.2 z
    refine V_aload_n 0 dX10_product_18 rfl rfl ?_
    refine GI_26_37 dX10_product_19 lkX10_174 ?_
    refine V_bipush 47 dX10_product_22 (by decide) ?_
    refine V_icmp_ne 108 dX10_product_24 (by decide) ⟨fun z => ?_, fun z => ?_⟩
    · replace k := k.1 z
      refine V_iconst 1 dX10_product_108 (by decide) ?_
      exact V_zreturn dX10_product_109 rfl (by decide) k
    · replace k := k.2 z
      refine V_aload_n 0 dX10_product_27 rfl rfl ?_
      refine GI_26_37 dX10_product_28 lkX10_174 ?_
      refine V_bipush 47 dX10_product_31 (by decide) ?_
      refine V_icmp_ne 40 dX10_product_33 (by decide) ⟨fun z => ?_, fun z => ?_⟩
      · replace k := k.1 z
        refine V_iconst 0 dX10_product_40 (by decide) ?_
        refine V_istore_n 1 dX10_product_41 rfl (by decide) rfl ?_
        refine V_aload_n 0 dX10_product_42 rfl rfl ?_
        refine V_callV (mc := 0) (ms := 0) (as := []) (st := []) (by decide) rt_26 rfl dX10_product_43 okX10_next0 inX10_next0 seX10_next0 lkX10_199 rfl (Nat.le_of_ble_eq_true rfl) (Nat.zero_le _) (Nat.zero_le _) (Cl.mono (fun r21 h22 z => ?_) k)
        obtain ⟨rfl, k⟩ := z
        refine V_iload_n 1 dX10_product_46 rfl rfl ?_
        refine V_if_eq 64 dX10_product_47 (by decide) ⟨fun z => ?_, fun z => absurd z (by decide)⟩
        refine V_iload_n 1 dX10_product_64 rfl rfl ?_
        refine V_if_eq 81 dX10_product_65 (by decide) ⟨fun z => ?_, fun z => absurd z (by decide)⟩
        refine V_aload_n 0 dX10_product_81 rfl rfl ?_
        refine V_callV (mc := 0) (ms := 0) (as := []) (st := []) (by decide) rt_26 rfl dX10_product_82 okX10_unit inX10_unit seX10_unit lkX10_215 rfl (Nat.le_of_ble_eq_true rfl) (Nat.zero_le _) (Nat.zero_le _) (Cl.mono (fun r23 h24 z => ?_) k)
        obtain ⟨x25, rfl, k⟩ := z
        refine V_if_ne 90 dX10_product_85 (by decide) ⟨fun z => ?_, fun z => ?_⟩
        · replace k := k.1 z
          refine V_aload_n 0 dX10_product_90 rfl rfl ?_
          refine V_iload_n 1 dX10_product_91 rfl rfl ?_
          refine V_if_eq 100 dX10_product_92 (by decide) ⟨fun z => ?_, fun z => absurd z (by decide)⟩
          refine V_ldc 1000012 dX10_product_100 lkX10_219 ?_
          refine V_callV (mc := 0) (ms := 0) (as := [aI 1000012]) (st := []) (by decide) rt_26 rfl dX10_product_102 okX10_lay inX10_lay seX10_lay lkX10_211 rfl (Nat.le_of_ble_eq_true rfl) (Nat.zero_le _) (Nat.zero_le _) (Cl.mono (fun r26 h27 z => ?_) k)
          obtain ⟨rfl, k⟩ := z
          refine V_goto 9 dX10_product_105 (by decide) ?_
          exact V_lv [1] rfl k
        · replace k := k.2 z
          refine V_iconst 0 dX10_product_88 (by decide) ?_
          exact V_zreturn dX10_product_89 rfl (by decide) k
      · replace k := k.2 z
        refine V_iconst 1 dX10_product_36 (by decide) ?_
        refine V_goto 41 dX10_product_37 (by decide) ?_
        refine V_istore_n 1 dX10_product_41 rfl (by decide) rfl ?_
        refine V_aload_n 0 dX10_product_42 rfl rfl ?_
        refine V_callV (mc := 0) (ms := 0) (as := []) (st := []) (by decide) rt_26 rfl dX10_product_43 okX10_next0 inX10_next0 seX10_next0 lkX10_199 rfl (Nat.le_of_ble_eq_true rfl) (Nat.zero_le _) (Nat.zero_le _) (Cl.mono (fun r28 h29 z => ?_) k)
        obtain ⟨rfl, k⟩ := z
        refine V_iload_n 1 dX10_product_46 rfl rfl ?_
        refine V_if_eq 64 dX10_product_47 (by decide) ⟨fun z => absurd z (by decide), fun z => ?_⟩
        refine V_aload_n 0 dX10_product_50 rfl rfl ?_
        refine GI_26_37 dX10_product_51 lkX10_174 ?_
        refine V_iconst 2 dX10_product_54 (by decide) ?_
        refine V_icmp_eq 64 dX10_product_55 (by decide) ⟨fun z => ?_, fun z => ?_⟩
        · replace k := k.1 z
          refine V_iload_n 1 dX10_product_64 rfl rfl ?_
          refine V_if_eq 81 dX10_product_65 (by decide) ⟨fun z => absurd z (by decide), fun z => ?_⟩
          refine V_aload_n 0 dX10_product_68 rfl rfl ?_
          refine GI_26_39 dX10_product_69 lkX10_187 ?_
          refine V_if_ne 81 dX10_product_72 (by decide) ⟨fun z => ?_, fun z => ?_⟩
          · replace k := k.1 z
            refine V_aload_n 0 dX10_product_81 rfl rfl ?_
            refine V_callV (mc := 0) (ms := 0) (as := []) (st := []) (by decide) rt_26 rfl dX10_product_82 okX10_unit inX10_unit seX10_unit lkX10_215 rfl (Nat.le_of_ble_eq_true rfl) (Nat.zero_le _) (Nat.zero_le _) (Cl.mono (fun r30 h31 z => ?_) k)
            obtain ⟨x32, rfl, k⟩ := z
            refine V_if_ne 90 dX10_product_85 (by decide) ⟨fun z => ?_, fun z => ?_⟩
            · replace k := k.1 z
              refine V_aload_n 0 dX10_product_90 rfl rfl ?_
              refine V_iload_n 1 dX10_product_91 rfl rfl ?_
              refine V_if_eq 100 dX10_product_92 (by decide) ⟨fun z => absurd z (by decide), fun z => ?_⟩
              refine V_ldc 1000013 dX10_product_95 lkX10_218 ?_
              refine V_goto 102 dX10_product_97 (by decide) ?_
              refine V_callV (mc := 0) (ms := 0) (as := [aI 1000013]) (st := []) (by decide) rt_26 rfl dX10_product_102 okX10_lay inX10_lay seX10_lay lkX10_211 rfl (Nat.le_of_ble_eq_true rfl) (Nat.zero_le _) (Nat.zero_le _) (Cl.mono (fun r33 h34 z => ?_) k)
              obtain ⟨rfl, k⟩ := z
              refine V_goto 9 dX10_product_105 (by decide) ?_
              exact V_lv [1] rfl k
            · replace k := k.2 z
              refine V_iconst 0 dX10_product_88 (by decide) ?_
              exact V_zreturn dX10_product_89 rfl (by decide) k
          · replace k := k.2 z
            refine V_aload_n 0 dX10_product_75 rfl rfl ?_
            refine V_iconst 2 dX10_product_76 (by decide) ?_
            refine V_callV (mc := 0) (ms := 0) (as := [aI 2]) (st := []) (by decide) rt_26 rfl dX10_product_77 okX10_bad inX10_bad seX10_bad lkX10_196 rfl (Nat.le_of_ble_eq_true rfl) (Nat.zero_le _) (Nat.zero_le _) (Cl.mono (fun r35 h36 z => ?_) k)
            obtain ⟨x37, rfl, k⟩ := z
            exact V_zreturn dX10_product_80 rfl k.1 k.2
        · replace k := k.2 z
          refine V_aload_n 0 dX10_product_58 rfl rfl ?_
          refine V_iconst 1 dX10_product_59 (by decide) ?_
          refine V_callV (mc := 0) (ms := 0) (as := [aI 1]) (st := []) (by decide) rt_26 rfl dX10_product_60 okX10_bad inX10_bad seX10_bad lkX10_196 rfl (Nat.le_of_ble_eq_true rfl) (Nat.zero_le _) (Nat.zero_le _) (Cl.mono (fun r38 h39 z => ?_) k)
          obtain ⟨x40, rfl, k⟩ := z
          exact V_zreturn dX10_product_63 rfl k.1 k.2
-- X10_unit cuts []
set_option maxRecDepth 20000 in
set_option maxHeartbeats 2000000 in
theorem wX10_unit {d bc bs : Nat} {h : HS} {P : Option AV → HS → Prop}  (k : ((¬ (gI h 26 0 37) = 40) → ((((gI h 26 0 37) = 2) → (((¬ (gI h 26 0 37) = 2) → (Cl true mX10_lay d 0 0 [aR 26 0, aI (gI h 26 0 37)] h (fun r1 h2 => r1 = none ∧ (Cl true mX10_next0 d 0 0 [aR 26 0] h2 (fun r3 h4 => r3 = none ∧ (P (some (aI 1)) h4)))))) ∧ (((gI h 26 0 37) = 2) → (Cl true mX10_lay d 0 0 [aR 26 0, aI (gI h 26 0 39)] h (fun r5 h6 => r5 = none ∧ (Cl true mX10_next0 d 0 0 [aR 26 0] h6 (fun r7 h8 => r7 = none ∧ (P (some (aI 1)) h8)))))))) ∧ ((¬ (gI h 26 0 37) = 2) → (((1000001 ≤ (gI h 26 0 37)) → (((¬ (gI h 26 0 37) = 2) → (Cl true mX10_lay d 0 0 [aR 26 0, aI (gI h 26 0 37)] h (fun r9 h10 => r9 = none ∧ (Cl true mX10_next0 d 0 0 [aR 26 0] h10 (fun r11 h12 => r11 = none ∧ (P (some (aI 1)) h12)))))) ∧ (((gI h 26 0 37) = 2) → (Cl true mX10_lay d 0 0 [aR 26 0, aI (gI h 26 0 39)] h (fun r13 h14 => r13 = none ∧ (Cl true mX10_next0 d 0 0 [aR 26 0] h14 (fun r15 h16 => r15 = none ∧ (P (some (aI 1)) h16)))))))) ∧ ((¬ 1000001 ≤ (gI h 26 0 37)) → (Cl true mX10_bad d 0 0 [aR 26 0, aI 1] h (fun r17 h18 => ∃ x19 : Int32, r17 = some (aI x19) ∧ ((x19 = 0 ∨ x19 = 1) ∧ P (some (aI x19)) h18)))))))) ∧ (((gI h 26 0 37) = 40) → (((¬ (gI h 26 0 43) = 8) → (Cl true mX10_next0 d 0 0 [aR 26 0] (sI h 26 0 43 ((gI h 26 0 43) + 1)) (fun r20 h21 => r20 = none ∧ (Cl true mX10_sum d 0 0 [aR 26 0] h21 (fun r22 h23 => ∃ x24 : Int32, r22 = some (aI x24) ∧ (((x24 = 0) → (P (some (aI 0)) h23)) ∧ ((¬ x24 = 0) → (Cl true mX10_need d 0 0 [aR 26 0, aI 41] h23 (fun r25 h26 => ∃ x27 : Int32, r25 = some (aI x27) ∧ (((¬ x27 = 0) → (P (some (aI 1)) (sI h26 26 0 43 ((gI h26 26 0 43) - 1)))) ∧ ((x27 = 0) → (P (some (aI 0)) h26)))))))))))) ∧ (((gI h 26 0 43) = 8) → (Cl true mX10_bad d 0 0 [aR 26 0, aI 3] h (fun r28 h29 => ∃ x30 : Int32, r28 = some (aI x30) ∧ ((x30 = 0 ∨ x30 = 1) ∧ P (some (aI x30)) h29))))))) : Cl true mX10_unit (d + 1) bc bs [aR 26 0] h P := by
  refine Cl_of (by decide) (Nat.le_of_ble_eq_true rfl) ?_
  show V true mX10_unit (d + 1) bc bs 0 [(0, aR 26 0)] [] h P
  refine V_aload_n 0 dX10_unit_0 rfl rfl ?_
  refine GI_26_37 dX10_unit_1 lkX10_174 ?_
  refine V_bipush 40 dX10_unit_4 (by decide) ?_
  refine V_icmp_ne 68 dX10_unit_6 (by decide) ⟨fun z => ?_, fun z => ?_⟩
  · replace k := k.1 z
    refine V_aload_n 0 dX10_unit_68 rfl rfl ?_
    refine GI_26_37 dX10_unit_69 lkX10_174 ?_
    refine V_iconst 2 dX10_unit_72 (by decide) ?_
    refine V_icmp_eq 91 dX10_unit_73 (by decide) ⟨fun z => ?_, fun z => ?_⟩
    · replace k := k.1 z
      refine V_aload_n 0 dX10_unit_91 rfl rfl ?_
      refine V_aload_n 0 dX10_unit_92 rfl rfl ?_
      refine GI_26_37 dX10_unit_93 lkX10_174 ?_
      refine V_iconst 2 dX10_unit_96 (by decide) ?_
      refine V_icmp_ne 107 dX10_unit_97 (by decide) ⟨fun z => ?_, fun z => ?_⟩
      · replace k := k.1 z
        refine V_aload_n 0 dX10_unit_107 rfl rfl ?_
        refine GI_26_37 dX10_unit_108 lkX10_174 ?_
        refine V_callV (mc := 0) (ms := 0) (as := [aI (gI h 26 0 37)]) (st := []) (by decide) rt_26 rfl dX10_unit_111 okX10_lay inX10_lay seX10_lay lkX10_211 rfl (Nat.le_of_ble_eq_true rfl) (Nat.zero_le _) (Nat.zero_le _) (Cl.mono (fun r1 h2 z => ?_) k)
        obtain ⟨rfl, k⟩ := z
        refine V_aload_n 0 dX10_unit_114 rfl rfl ?_
        refine V_callV (mc := 0) (ms := 0) (as := []) (st := []) (by decide) rt_26 rfl dX10_unit_115 okX10_next0 inX10_next0 seX10_next0 lkX10_199 rfl (Nat.le_of_ble_eq_true rfl) (Nat.zero_le _) (Nat.zero_le _) (Cl.mono (fun r3 h4 z => ?_) k)
        obtain ⟨rfl, k⟩ := z
        refine V_iconst 1 dX10_unit_118 (by decide) ?_
        exact V_zreturn dX10_unit_119 rfl (by decide) k
      · replace k := k.2 z
        refine V_aload_n 0 dX10_unit_100 rfl rfl ?_
        refine GI_26_39 dX10_unit_101 lkX10_187 ?_
        refine V_goto 111 dX10_unit_104 (by decide) ?_
        refine V_callV (mc := 0) (ms := 0) (as := [aI (gI h 26 0 39)]) (st := []) (by decide) rt_26 rfl dX10_unit_111 okX10_lay inX10_lay seX10_lay lkX10_211 rfl (Nat.le_of_ble_eq_true rfl) (Nat.zero_le _) (Nat.zero_le _) (Cl.mono (fun r5 h6 z => ?_) k)
        obtain ⟨rfl, k⟩ := z
        refine V_aload_n 0 dX10_unit_114 rfl rfl ?_
        refine V_callV (mc := 0) (ms := 0) (as := []) (st := []) (by decide) rt_26 rfl dX10_unit_115 okX10_next0 inX10_next0 seX10_next0 lkX10_199 rfl (Nat.le_of_ble_eq_true rfl) (Nat.zero_le _) (Nat.zero_le _) (Cl.mono (fun r7 h8 z => ?_) k)
        obtain ⟨rfl, k⟩ := z
        refine V_iconst 1 dX10_unit_118 (by decide) ?_
        exact V_zreturn dX10_unit_119 rfl (by decide) k
    · replace k := k.2 z
      refine V_aload_n 0 dX10_unit_76 rfl rfl ?_
      refine GI_26_37 dX10_unit_77 lkX10_174 ?_
      refine V_ldc 1000001 dX10_unit_80 lkX10_154 ?_
      refine V_icmp_ge 91 dX10_unit_82 (by decide) ⟨fun z => ?_, fun z => ?_⟩
      · replace k := k.1 z
        refine V_aload_n 0 dX10_unit_91 rfl rfl ?_
        refine V_aload_n 0 dX10_unit_92 rfl rfl ?_
        refine GI_26_37 dX10_unit_93 lkX10_174 ?_
        refine V_iconst 2 dX10_unit_96 (by decide) ?_
        refine V_icmp_ne 107 dX10_unit_97 (by decide) ⟨fun z => ?_, fun z => ?_⟩
        · replace k := k.1 z
          refine V_aload_n 0 dX10_unit_107 rfl rfl ?_
          refine GI_26_37 dX10_unit_108 lkX10_174 ?_
          refine V_callV (mc := 0) (ms := 0) (as := [aI (gI h 26 0 37)]) (st := []) (by decide) rt_26 rfl dX10_unit_111 okX10_lay inX10_lay seX10_lay lkX10_211 rfl (Nat.le_of_ble_eq_true rfl) (Nat.zero_le _) (Nat.zero_le _) (Cl.mono (fun r9 h10 z => ?_) k)
          obtain ⟨rfl, k⟩ := z
          refine V_aload_n 0 dX10_unit_114 rfl rfl ?_
          refine V_callV (mc := 0) (ms := 0) (as := []) (st := []) (by decide) rt_26 rfl dX10_unit_115 okX10_next0 inX10_next0 seX10_next0 lkX10_199 rfl (Nat.le_of_ble_eq_true rfl) (Nat.zero_le _) (Nat.zero_le _) (Cl.mono (fun r11 h12 z => ?_) k)
          obtain ⟨rfl, k⟩ := z
          refine V_iconst 1 dX10_unit_118 (by decide) ?_
          exact V_zreturn dX10_unit_119 rfl (by decide) k
        · replace k := k.2 z
          refine V_aload_n 0 dX10_unit_100 rfl rfl ?_
          refine GI_26_39 dX10_unit_101 lkX10_187 ?_
          refine V_goto 111 dX10_unit_104 (by decide) ?_
          refine V_callV (mc := 0) (ms := 0) (as := [aI (gI h 26 0 39)]) (st := []) (by decide) rt_26 rfl dX10_unit_111 okX10_lay inX10_lay seX10_lay lkX10_211 rfl (Nat.le_of_ble_eq_true rfl) (Nat.zero_le _) (Nat.zero_le _) (Cl.mono (fun r13 h14 z => ?_) k)
          obtain ⟨rfl, k⟩ := z
          refine V_aload_n 0 dX10_unit_114 rfl rfl ?_
          refine V_callV (mc := 0) (ms := 0) (as := []) (st := []) (by decide) rt_26 rfl dX10_unit_115 okX10_next0 inX10_next0 seX10_next0 lkX10_199 rfl (Nat.le_of_ble_eq_true rfl) (Nat.zero_le _) (Nat.zero_le _) (Cl.mono (fun r15 h16 z => ?_) k)
          obtain ⟨rfl, k⟩ := z
          refine V_iconst 1 dX10_unit_118 (by decide) ?_
          exact V_zreturn dX10_unit_119 rfl (by decide) k
      · replace k := k.2 z
        refine V_aload_n 0 dX10_unit_85 rfl rfl ?_
        refine V_iconst 1 dX10_unit_86 (by decide) ?_
        refine V_callV (mc := 0) (ms := 0) (as := [aI 1]) (st := []) (by decide) rt_26 rfl dX10_unit_87 okX10_bad inX10_bad seX10_bad lkX10_196 rfl (Nat.le_of_ble_eq_true rfl) (Nat.zero_le _) (Nat.zero_le _) (Cl.mono (fun r17 h18 z => ?_) k)
        obtain ⟨x19, rfl, k⟩ := z
        exact V_zreturn dX10_unit_90 rfl k.1 k.2
  · replace k := k.2 z
    refine V_aload_n 0 dX10_unit_9 rfl rfl ?_
    refine GI_26_43 dX10_unit_10 lkX10_220 ?_
    refine V_bipush 8 dX10_unit_13 (by decide) ?_
    refine V_icmp_ne 24 dX10_unit_15 (by decide) ⟨fun z => ?_, fun z => ?_⟩
    · replace k := k.1 z
      refine V_aload_n 0 dX10_unit_24 rfl rfl ?_
      refine V_dup dX10_unit_25 rfl ?_
      refine GI_26_43 dX10_unit_26 lkX10_220 ?_
      refine V_iconst 1 dX10_unit_29 (by decide) ?_
      refine V_iadd dX10_unit_30 ?_
      refine PI_26_43 dX10_unit_31 lkX10_220 ?_
      refine V_aload_n 0 dX10_unit_34 rfl rfl ?_
      refine V_callV (mc := 0) (ms := 0) (as := []) (st := []) (by decide) rt_26 rfl dX10_unit_35 okX10_next0 inX10_next0 seX10_next0 lkX10_199 rfl (Nat.le_of_ble_eq_true rfl) (Nat.zero_le _) (Nat.zero_le _) (Cl.mono (fun r20 h21 z => ?_) k)
      obtain ⟨rfl, k⟩ := z
      refine V_aload_n 0 dX10_unit_38 rfl rfl ?_
      refine V_callV (mc := 0) (ms := 0) (as := []) (st := []) (by decide) rt_26 rfl dX10_unit_39 okX10_sum inX10_sum seX10_sum lkX10_223 rfl (Nat.le_of_ble_eq_true rfl) (Nat.zero_le _) (Nat.zero_le _) (Cl.mono (fun r22 h23 z => ?_) k)
      obtain ⟨x24, rfl, k⟩ := z
      refine V_if_eq 54 dX10_unit_42 (by decide) ⟨fun z => ?_, fun z => ?_⟩
      · replace k := k.1 z
        refine V_iconst 0 dX10_unit_54 (by decide) ?_
        exact V_zreturn dX10_unit_55 rfl (by decide) k
      · replace k := k.2 z
        refine V_aload_n 0 dX10_unit_45 rfl rfl ?_
        refine V_bipush 41 dX10_unit_46 (by decide) ?_
        refine V_callV (mc := 0) (ms := 0) (as := [aI 41]) (st := []) (by decide) rt_26 rfl dX10_unit_48 okX10_need inX10_need seX10_need lkX10_226 rfl (Nat.le_of_ble_eq_true rfl) (Nat.zero_le _) (Nat.zero_le _) (Cl.mono (fun r25 h26 z => ?_) k)
        obtain ⟨x27, rfl, k⟩ := z
        refine V_if_ne 56 dX10_unit_51 (by decide) ⟨fun z => ?_, fun z => ?_⟩
        · replace k := k.1 z
          refine V_aload_n 0 dX10_unit_56 rfl rfl ?_
          refine V_dup dX10_unit_57 rfl ?_
          refine GI_26_43 dX10_unit_58 lkX10_220 ?_
          refine V_iconst 1 dX10_unit_61 (by decide) ?_
          refine V_isub dX10_unit_62 ?_
          refine PI_26_43 dX10_unit_63 lkX10_220 ?_
          refine V_iconst 1 dX10_unit_66 (by decide) ?_
          exact V_zreturn dX10_unit_67 rfl (by decide) k
        · replace k := k.2 z
          refine V_iconst 0 dX10_unit_54 (by decide) ?_
          exact V_zreturn dX10_unit_55 rfl (by decide) k
    · replace k := k.2 z
      refine V_aload_n 0 dX10_unit_18 rfl rfl ?_
      refine V_iconst 3 dX10_unit_19 (by decide) ?_
      refine V_callV (mc := 0) (ms := 0) (as := [aI 3]) (st := []) (by decide) rt_26 rfl dX10_unit_20 okX10_bad inX10_bad seX10_bad lkX10_196 rfl (Nat.le_of_ble_eq_true rfl) (Nat.zero_le _) (Nat.zero_le _) (Cl.mono (fun r28 h29 z => ?_) k)
      obtain ⟨x30, rfl, k⟩ := z
      exact V_zreturn dX10_unit_23 rfl k.1 k.2
-- X10_holds cuts []
set_option maxRecDepth 20000 in
set_option maxHeartbeats 2000000 in
theorem wX10_holds {d bc bs : Nat} {h : HS} {P : Option AV → HS → Prop}  (k : Cl true mX10_sum d 0 0 [aR 26 0] h (fun r1 h2 => ∃ x3 : Int32, r1 = some (aI x3) ∧ (((¬ x3 = 0) → (((¬ (gI h2 26 0 37) = 60) → (((¬ (gI h2 26 0 37) = 61) → (((¬ (gI h2 26 0 37) = 62) → (Cl true mX10_bad d 0 0 [aR 26 0, aI 1] h2 (fun r4 h5 => ∃ x6 : Int32, r4 = some (aI x6) ∧ ((x6 = 0 ∨ x6 = 1) ∧ P (some (aI x6)) h5)))) ∧ (((gI h2 26 0 37) = 62) → (Cl true mX10_next0 d 0 0 [aR 26 0] h2 (fun r7 h8 => r7 = none ∧ (Cl true mX10_sum d 0 0 [aR 26 0] h8 (fun r9 h10 => ∃ x11 : Int32, r9 = some (aI x11) ∧ (((¬ x11 = 0) → (Cl true mX10_lay d 0 0 [aR 26 0, aI 1000016] h10 (fun r12 h13 => r12 = none ∧ (P (some (aI 1)) h13)))) ∧ ((x11 = 0) → (P (some (aI 0)) h10)))))))))) ∧ (((gI h2 26 0 37) = 61) → (Cl true mX10_next0 d 0 0 [aR 26 0] h2 (fun r14 h15 => r14 = none ∧ (Cl true mX10_sum d 0 0 [aR 26 0] h15 (fun r16 h17 => ∃ x18 : Int32, r16 = some (aI x18) ∧ (((¬ x18 = 0) → (Cl true mX10_lay d 0 0 [aR 26 0, aI 1000015] h17 (fun r19 h20 => r19 = none ∧ (P (some (aI 1)) h20)))) ∧ ((x18 = 0) → (P (some (aI 0)) h17)))))))))) ∧ (((gI h2 26 0 37) = 60) → (Cl true mX10_next0 d 0 0 [aR 26 0] h2 (fun r21 h22 => r21 = none ∧ (Cl true mX10_sum d 0 0 [aR 26 0] h22 (fun r23 h24 => ∃ x25 : Int32, r23 = some (aI x25) ∧ (((¬ x25 = 0) → (Cl true mX10_lay d 0 0 [aR 26 0, aI 1000014] h24 (fun r26 h27 => r26 = none ∧ (P (some (aI 1)) h27)))) ∧ ((x25 = 0) → (P (some (aI 0)) h24)))))))))) ∧ ((x3 = 0) → (P (some (aI 0)) h2))))) : Cl true mX10_holds (d + 1) bc bs [aR 26 0] h P := by
  refine Cl_of (by decide) (Nat.le_of_ble_eq_true rfl) ?_
  show V true mX10_holds (d + 1) bc bs 0 [(0, aR 26 0)] [] h P
  refine V_aload_n 0 dX10_holds_0 rfl rfl ?_
  refine V_callV (mc := 0) (ms := 0) (as := []) (st := []) (by decide) rt_26 rfl dX10_holds_1 okX10_sum inX10_sum seX10_sum lkX10_223 rfl (Nat.le_of_ble_eq_true rfl) (Nat.zero_le _) (Nat.zero_le _) (Cl.mono (fun r1 h2 z => ?_) k)
  obtain ⟨x3, rfl, k⟩ := z
  refine V_if_ne 9 dX10_holds_4 (by decide) ⟨fun z => ?_, fun z => ?_⟩
  · replace k := k.1 z
    refine V_aload_n 0 dX10_holds_9 rfl rfl ?_
    refine GI_26_37 dX10_holds_10 lkX10_174 ?_
    refine V_bipush 60 dX10_holds_13 (by decide) ?_
    refine V_icmp_ne 23 dX10_holds_15 (by decide) ⟨fun z => ?_, fun z => ?_⟩
    · replace k := k.1 z
      refine V_aload_n 0 dX10_holds_23 rfl rfl ?_
      refine GI_26_37 dX10_holds_24 lkX10_174 ?_
      refine V_bipush 61 dX10_holds_27 (by decide) ?_
      refine V_icmp_ne 37 dX10_holds_29 (by decide) ⟨fun z => ?_, fun z => ?_⟩
      · replace k := k.1 z
        refine V_aload_n 0 dX10_holds_37 rfl rfl ?_
        refine GI_26_37 dX10_holds_38 lkX10_174 ?_
        refine V_bipush 62 dX10_holds_41 (by decide) ?_
        refine V_icmp_ne 51 dX10_holds_43 (by decide) ⟨fun z => ?_, fun z => ?_⟩
        · replace k := k.1 z
          refine V_iconst (-1) dX10_holds_51 (by decide) ?_
          refine V_istore_n 1 dX10_holds_52 rfl (by decide) rfl ?_
          refine V_iload_n 1 dX10_holds_53 rfl rfl ?_
          refine V_iconst (-1) dX10_holds_54 (by decide) ?_
          refine V_icmp_ne 64 dX10_holds_55 (by decide) ⟨fun z => absurd z (by decide), fun z => ?_⟩
          refine V_aload_n 0 dX10_holds_58 rfl rfl ?_
          refine V_iconst 1 dX10_holds_59 (by decide) ?_
          refine V_callV (mc := 0) (ms := 0) (as := [aI 1]) (st := []) (by decide) rt_26 rfl dX10_holds_60 okX10_bad inX10_bad seX10_bad lkX10_196 rfl (Nat.le_of_ble_eq_true rfl) (Nat.zero_le _) (Nat.zero_le _) (Cl.mono (fun r4 h5 z => ?_) k)
          obtain ⟨x6, rfl, k⟩ := z
          exact V_zreturn dX10_holds_63 rfl k.1 k.2
        · replace k := k.2 z
          refine V_ldc 1000016 dX10_holds_46 lkX10_231 ?_
          refine V_goto 52 dX10_holds_48 (by decide) ?_
          refine V_istore_n 1 dX10_holds_52 rfl (by decide) rfl ?_
          refine V_iload_n 1 dX10_holds_53 rfl rfl ?_
          refine V_iconst (-1) dX10_holds_54 (by decide) ?_
          refine V_icmp_ne 64 dX10_holds_55 (by decide) ⟨fun z => ?_, fun z => absurd z (by decide)⟩
          refine V_aload_n 0 dX10_holds_64 rfl rfl ?_
          refine V_callV (mc := 0) (ms := 0) (as := []) (st := []) (by decide) rt_26 rfl dX10_holds_65 okX10_next0 inX10_next0 seX10_next0 lkX10_199 rfl (Nat.le_of_ble_eq_true rfl) (Nat.zero_le _) (Nat.zero_le _) (Cl.mono (fun r7 h8 z => ?_) k)
          obtain ⟨rfl, k⟩ := z
          refine V_aload_n 0 dX10_holds_68 rfl rfl ?_
          refine V_callV (mc := 0) (ms := 0) (as := []) (st := []) (by decide) rt_26 rfl dX10_holds_69 okX10_sum inX10_sum seX10_sum lkX10_223 rfl (Nat.le_of_ble_eq_true rfl) (Nat.zero_le _) (Nat.zero_le _) (Cl.mono (fun r9 h10 z => ?_) k)
          obtain ⟨x11, rfl, k⟩ := z
          refine V_if_ne 77 dX10_holds_72 (by decide) ⟨fun z => ?_, fun z => ?_⟩
          · replace k := k.1 z
            refine V_aload_n 0 dX10_holds_77 rfl rfl ?_
            refine V_iload_n 1 dX10_holds_78 rfl rfl ?_
            refine V_callV (mc := 0) (ms := 0) (as := [aI 1000016]) (st := []) (by decide) rt_26 rfl dX10_holds_79 okX10_lay inX10_lay seX10_lay lkX10_211 rfl (Nat.le_of_ble_eq_true rfl) (Nat.zero_le _) (Nat.zero_le _) (Cl.mono (fun r12 h13 z => ?_) k)
            obtain ⟨rfl, k⟩ := z
            refine V_iconst 1 dX10_holds_82 (by decide) ?_
            exact V_zreturn dX10_holds_83 rfl (by decide) k
          · replace k := k.2 z
            refine V_iconst 0 dX10_holds_75 (by decide) ?_
            exact V_zreturn dX10_holds_76 rfl (by decide) k
      · replace k := k.2 z
        refine V_ldc 1000015 dX10_holds_32 lkX10_230 ?_
        refine V_goto 52 dX10_holds_34 (by decide) ?_
        refine V_istore_n 1 dX10_holds_52 rfl (by decide) rfl ?_
        refine V_iload_n 1 dX10_holds_53 rfl rfl ?_
        refine V_iconst (-1) dX10_holds_54 (by decide) ?_
        refine V_icmp_ne 64 dX10_holds_55 (by decide) ⟨fun z => ?_, fun z => absurd z (by decide)⟩
        refine V_aload_n 0 dX10_holds_64 rfl rfl ?_
        refine V_callV (mc := 0) (ms := 0) (as := []) (st := []) (by decide) rt_26 rfl dX10_holds_65 okX10_next0 inX10_next0 seX10_next0 lkX10_199 rfl (Nat.le_of_ble_eq_true rfl) (Nat.zero_le _) (Nat.zero_le _) (Cl.mono (fun r14 h15 z => ?_) k)
        obtain ⟨rfl, k⟩ := z
        refine V_aload_n 0 dX10_holds_68 rfl rfl ?_
        refine V_callV (mc := 0) (ms := 0) (as := []) (st := []) (by decide) rt_26 rfl dX10_holds_69 okX10_sum inX10_sum seX10_sum lkX10_223 rfl (Nat.le_of_ble_eq_true rfl) (Nat.zero_le _) (Nat.zero_le _) (Cl.mono (fun r16 h17 z => ?_) k)
        obtain ⟨x18, rfl, k⟩ := z
        refine V_if_ne 77 dX10_holds_72 (by decide) ⟨fun z => ?_, fun z => ?_⟩
        · replace k := k.1 z
          refine V_aload_n 0 dX10_holds_77 rfl rfl ?_
          refine V_iload_n 1 dX10_holds_78 rfl rfl ?_
          refine V_callV (mc := 0) (ms := 0) (as := [aI 1000015]) (st := []) (by decide) rt_26 rfl dX10_holds_79 okX10_lay inX10_lay seX10_lay lkX10_211 rfl (Nat.le_of_ble_eq_true rfl) (Nat.zero_le _) (Nat.zero_le _) (Cl.mono (fun r19 h20 z => ?_) k)
          obtain ⟨rfl, k⟩ := z
          refine V_iconst 1 dX10_holds_82 (by decide) ?_
          exact V_zreturn dX10_holds_83 rfl (by decide) k
        · replace k := k.2 z
          refine V_iconst 0 dX10_holds_75 (by decide) ?_
          exact V_zreturn dX10_holds_76 rfl (by decide) k
    · replace k := k.2 z
      refine V_ldc 1000014 dX10_holds_18 lkX10_229 ?_
      refine V_goto 52 dX10_holds_20 (by decide) ?_
      refine V_istore_n 1 dX10_holds_52 rfl (by decide) rfl ?_
      refine V_iload_n 1 dX10_holds_53 rfl rfl ?_
      refine V_iconst (-1) dX10_holds_54 (by decide) ?_
      refine V_icmp_ne 64 dX10_holds_55 (by decide) ⟨fun z => ?_, fun z => absurd z (by decide)⟩
      refine V_aload_n 0 dX10_holds_64 rfl rfl ?_
      refine V_callV (mc := 0) (ms := 0) (as := []) (st := []) (by decide) rt_26 rfl dX10_holds_65 okX10_next0 inX10_next0 seX10_next0 lkX10_199 rfl (Nat.le_of_ble_eq_true rfl) (Nat.zero_le _) (Nat.zero_le _) (Cl.mono (fun r21 h22 z => ?_) k)
      obtain ⟨rfl, k⟩ := z
      refine V_aload_n 0 dX10_holds_68 rfl rfl ?_
      refine V_callV (mc := 0) (ms := 0) (as := []) (st := []) (by decide) rt_26 rfl dX10_holds_69 okX10_sum inX10_sum seX10_sum lkX10_223 rfl (Nat.le_of_ble_eq_true rfl) (Nat.zero_le _) (Nat.zero_le _) (Cl.mono (fun r23 h24 z => ?_) k)
      obtain ⟨x25, rfl, k⟩ := z
      refine V_if_ne 77 dX10_holds_72 (by decide) ⟨fun z => ?_, fun z => ?_⟩
      · replace k := k.1 z
        refine V_aload_n 0 dX10_holds_77 rfl rfl ?_
        refine V_iload_n 1 dX10_holds_78 rfl rfl ?_
        refine V_callV (mc := 0) (ms := 0) (as := [aI 1000014]) (st := []) (by decide) rt_26 rfl dX10_holds_79 okX10_lay inX10_lay seX10_lay lkX10_211 rfl (Nat.le_of_ble_eq_true rfl) (Nat.zero_le _) (Nat.zero_le _) (Cl.mono (fun r26 h27 z => ?_) k)
        obtain ⟨rfl, k⟩ := z
        refine V_iconst 1 dX10_holds_82 (by decide) ?_
        exact V_zreturn dX10_holds_83 rfl (by decide) k
      · replace k := k.2 z
        refine V_iconst 0 dX10_holds_75 (by decide) ?_
        exact V_zreturn dX10_holds_76 rfl (by decide) k
  · replace k := k.2 z
    refine V_iconst 0 dX10_holds_7 (by decide) ?_
    exact V_zreturn dX10_holds_8 rfl (by decide) k
-- X10_aLine cuts [100]
set_option maxRecDepth 20000 in
set_option maxHeartbeats 2000000 in
theorem wX10_aLine {d bc bs : Nat} {h : HS} {P : Option AV → HS → Prop}  (k : (((gI h 26 0 37) = 3) → (((¬ (gI h 26 0 25) = 8) → (vp_in (gI (sI h 26 0 43 0) 26 0 25) 9 ∧ (Cl true mX10_next0 d 0 0 [aR 26 0] (sI (sI h 26 0 43 0) 49 0 (gI (sI h 26 0 43 0) 26 0 25).toNatClampNeg (gI (sI h 26 0 43 0) 26 0 26)) (fun r1 h2 => r1 = none ∧ (Cl true mX10_sum d 0 0 [aR 26 0] h2 (fun r3 h4 => ∃ x5 : Int32, r3 = some (aI x5) ∧ (((¬ x5 = 0) → (vp_in (gI h4 26 0 25) 8 ∧ (Cl true mX10_need d 0 0 [aR 26 0, aI 4] (sI (sI h4 50 0 (gI h4 26 0 25).toNatClampNeg (gI h4 26 0 26)) 26 0 25 ((gI (sI h4 50 0 (gI h4 26 0 25).toNatClampNeg (gI h4 26 0 26)) 26 0 25) + 1)) (fun r6 h7 => ∃ x8 : Int32, r6 = some (aI x8) ∧ (((x8 = 0) → (P (some (aI 0)) h7)) ∧ ((¬ x8 = 0) → (Cl true mX10_holds d 0 0 [aR 26 0] h7 (fun r9 h10 => ∃ x11 : Int32, r9 = some (aI x11) ∧ (((¬ x11 = 0) → (V true mX10_aLine (d + 1) bc bs 100 [(0, aR 26 0)] [] h10 P)) ∧ ((x11 = 0) → (P (some (aI 0)) h10))))))))))) ∧ ((x5 = 0) → (P (some (aI 0)) h4))))))))) ∧ (((gI h 26 0 25) = 8) → (Cl true mX10_bad d 0 0 [aR 26 0, aI 3] h (fun r12 h13 => ∃ x14 : Int32, r12 = some (aI x14) ∧ ((x14 = 0 ∨ x14 = 1) ∧ P (some (aI x14)) h13)))))) ∧ ((¬ (gI h 26 0 37) = 3) → (Cl true mX10_bad d 0 0 [aR 26 0, aI 1] h (fun r15 h16 => ∃ x17 : Int32, r15 = some (aI x17) ∧ ((x17 = 0 ∨ x17 = 1) ∧ P (some (aI x17)) h16))))) : Cl true mX10_aLine (d + 1) bc bs [aR 26 0] h P := by
  refine Cl_of (by decide) (Nat.le_of_ble_eq_true rfl) ?_
  show V true mX10_aLine (d + 1) bc bs 0 [(0, aR 26 0)] [] h P
  refine V_aload_n 0 dX10_aLine_0 rfl rfl ?_
  refine GI_26_37 dX10_aLine_1 lkX10_174 ?_
  refine V_iconst 3 dX10_aLine_4 (by decide) ?_
  refine V_icmp_eq 14 dX10_aLine_5 (by decide) ⟨fun z => ?_, fun z => ?_⟩
  · replace k := k.1 z
    refine V_aload_n 0 dX10_aLine_14 rfl rfl ?_
    refine GI_26_25 dX10_aLine_15 lkX10_232 ?_
    refine V_bipush 8 dX10_aLine_18 (by decide) ?_
    refine V_icmp_ne 29 dX10_aLine_20 (by decide) ⟨fun z => ?_, fun z => ?_⟩
    · replace k := k.1 z
      refine V_aload_n 0 dX10_aLine_29 rfl rfl ?_
      refine V_iconst 0 dX10_aLine_30 (by decide) ?_
      refine PI_26_43 dX10_aLine_31 lkX10_220 ?_
      refine V_aload_n 0 dX10_aLine_34 rfl rfl ?_
      refine GS_26_30 dX10_aLine_35 lkX10_77 ?_
      refine V_aload_n 0 dX10_aLine_38 rfl rfl ?_
      refine GI_26_25 dX10_aLine_39 lkX10_232 ?_
      refine V_aload_n 0 dX10_aLine_42 rfl rfl ?_
      refine GI_26_26 dX10_aLine_43 lkX10_202 ?_
      refine V_iast (by decide) rt_49 dX10_aLine_46 k.1 ?_
      replace k := k.2
      refine V_aload_n 0 dX10_aLine_47 rfl rfl ?_
      refine V_callV (mc := 0) (ms := 0) (as := []) (st := []) (by decide) rt_26 rfl dX10_aLine_48 okX10_next0 inX10_next0 seX10_next0 lkX10_199 rfl (Nat.le_of_ble_eq_true rfl) (Nat.zero_le _) (Nat.zero_le _) (Cl.mono (fun r1 h2 z => ?_) k)
      obtain ⟨rfl, k⟩ := z
      refine V_aload_n 0 dX10_aLine_51 rfl rfl ?_
      refine V_callV (mc := 0) (ms := 0) (as := []) (st := []) (by decide) rt_26 rfl dX10_aLine_52 okX10_sum inX10_sum seX10_sum lkX10_223 rfl (Nat.le_of_ble_eq_true rfl) (Nat.zero_le _) (Nat.zero_le _) (Cl.mono (fun r3 h4 z => ?_) k)
      obtain ⟨x5, rfl, k⟩ := z
      refine V_if_ne 60 dX10_aLine_55 (by decide) ⟨fun z => ?_, fun z => ?_⟩
      · replace k := k.1 z
        refine V_aload_n 0 dX10_aLine_60 rfl rfl ?_
        refine GS_26_31 dX10_aLine_61 lkX10_80 ?_
        refine V_aload_n 0 dX10_aLine_64 rfl rfl ?_
        refine GI_26_25 dX10_aLine_65 lkX10_232 ?_
        refine V_aload_n 0 dX10_aLine_68 rfl rfl ?_
        refine GI_26_26 dX10_aLine_69 lkX10_202 ?_
        refine V_iast (by decide) rt_50 dX10_aLine_72 k.1 ?_
        replace k := k.2
        refine V_aload_n 0 dX10_aLine_73 rfl rfl ?_
        refine V_dup dX10_aLine_74 rfl ?_
        refine GI_26_25 dX10_aLine_75 lkX10_232 ?_
        refine V_iconst 1 dX10_aLine_78 (by decide) ?_
        refine V_iadd dX10_aLine_79 ?_
        refine PI_26_25 dX10_aLine_80 lkX10_232 ?_
        refine V_aload_n 0 dX10_aLine_83 rfl rfl ?_
        refine V_iconst 4 dX10_aLine_84 (by decide) ?_
        refine V_callV (mc := 0) (ms := 0) (as := [aI 4]) (st := []) (by decide) rt_26 rfl dX10_aLine_85 okX10_need inX10_need seX10_need lkX10_226 rfl (Nat.le_of_ble_eq_true rfl) (Nat.zero_le _) (Nat.zero_le _) (Cl.mono (fun r6 h7 z => ?_) k)
        obtain ⟨x8, rfl, k⟩ := z
        refine V_if_eq 98 dX10_aLine_88 (by decide) ⟨fun z => ?_, fun z => ?_⟩
        · replace k := k.1 z
          refine V_iconst 0 dX10_aLine_98 (by decide) ?_
          exact V_zreturn dX10_aLine_99 rfl (by decide) k
        · replace k := k.2 z
          refine V_aload_n 0 dX10_aLine_91 rfl rfl ?_
          refine V_callV (mc := 0) (ms := 0) (as := []) (st := []) (by decide) rt_26 rfl dX10_aLine_92 okX10_holds inX10_holds seX10_holds lkX10_235 rfl (Nat.le_of_ble_eq_true rfl) (Nat.zero_le _) (Nat.zero_le _) (Cl.mono (fun r9 h10 z => ?_) k)
          obtain ⟨x11, rfl, k⟩ := z
          refine V_if_ne 100 dX10_aLine_95 (by decide) ⟨fun z => ?_, fun z => ?_⟩
          · replace k := k.1 z
            exact V_lv [0] rfl k
          · replace k := k.2 z
            refine V_iconst 0 dX10_aLine_98 (by decide) ?_
            exact V_zreturn dX10_aLine_99 rfl (by decide) k
      · replace k := k.2 z
        refine V_iconst 0 dX10_aLine_58 (by decide) ?_
        exact V_zreturn dX10_aLine_59 rfl (by decide) k
    · replace k := k.2 z
      refine V_aload_n 0 dX10_aLine_23 rfl rfl ?_
      refine V_iconst 3 dX10_aLine_24 (by decide) ?_
      refine V_callV (mc := 0) (ms := 0) (as := [aI 3]) (st := []) (by decide) rt_26 rfl dX10_aLine_25 okX10_bad inX10_bad seX10_bad lkX10_196 rfl (Nat.le_of_ble_eq_true rfl) (Nat.zero_le _) (Nat.zero_le _) (Cl.mono (fun r12 h13 z => ?_) k)
      obtain ⟨x14, rfl, k⟩ := z
      exact V_zreturn dX10_aLine_28 rfl k.1 k.2
  · replace k := k.2 z
    refine V_aload_n 0 dX10_aLine_8 rfl rfl ?_
    refine V_iconst 1 dX10_aLine_9 (by decide) ?_
    refine V_callV (mc := 0) (ms := 0) (as := [aI 1]) (st := []) (by decide) rt_26 rfl dX10_aLine_10 okX10_bad inX10_bad seX10_bad lkX10_196 rfl (Nat.le_of_ble_eq_true rfl) (Nat.zero_le _) (Nat.zero_le _) (Cl.mono (fun r15 h16 z => ?_) k)
    obtain ⟨x17, rfl, k⟩ := z
    exact V_zreturn dX10_aLine_13 rfl k.1 k.2
set_option maxRecDepth 20000 in
set_option maxHeartbeats 2000000 in
theorem wX10_aLine_100 {d bc bs : Nat} {h : HS} {P : Option AV → HS → Prop}  (k : ((¬ (gI h 26 0 37) = 5) → (Cl true mX10_need d 0 0 [aR 26 0, aI 59] h (fun r1 h2 => ∃ x3 : Int32, r1 = some (aI x3) ∧ ((x3 = 0 ∨ x3 = 1) ∧ P (some (aI x3)) h2)))) ∧ (((gI h 26 0 37) = 5) → (Cl true mX10_next0 d 0 0 [aR 26 0] h (fun r4 h5 => r4 = none ∧ (Cl true mX10_holds d 0 0 [aR 26 0] h5 (fun r6 h7 => ∃ x8 : Int32, r6 = some (aI x8) ∧ (((¬ x8 = 0) → (Cl true mX10_lay d 0 0 [aR 26 0, aI 1000017] h7 (fun r9 h10 => r9 = none ∧ (V true mX10_aLine (d + 1) bc bs 100 [(0, aR 26 0)] [] h10 P)))) ∧ ((x8 = 0) → (P (some (aI 0)) h7))))))))) : V true mX10_aLine (d + 1) bc bs 100 [(0, aR 26 0)] [] h P := by
  refine V_aload_n 0 dX10_aLine_100 rfl rfl ?_
  refine GI_26_37 dX10_aLine_101 lkX10_174 ?_
  refine V_iconst 5 dX10_aLine_104 (by decide) ?_
  refine V_icmp_ne 130 dX10_aLine_105 (by decide) ⟨fun z => ?_, fun z => ?_⟩
  · replace k := k.1 z
    refine V_aload_n 0 dX10_aLine_130 rfl rfl ?_
    refine V_bipush 59 dX10_aLine_131 (by decide) ?_
    refine V_callV (mc := 0) (ms := 0) (as := [aI 59]) (st := []) (by decide) rt_26 rfl dX10_aLine_133 okX10_need inX10_need seX10_need lkX10_226 rfl (Nat.le_of_ble_eq_true rfl) (Nat.zero_le _) (Nat.zero_le _) (Cl.mono (fun r1 h2 z => ?_) k)
    obtain ⟨x3, rfl, k⟩ := z
    exact V_zreturn dX10_aLine_136 rfl k.1 k.2
  · replace k := k.2 z
    refine V_aload_n 0 dX10_aLine_108 rfl rfl ?_
    refine V_callV (mc := 0) (ms := 0) (as := []) (st := []) (by decide) rt_26 rfl dX10_aLine_109 okX10_next0 inX10_next0 seX10_next0 lkX10_199 rfl (Nat.le_of_ble_eq_true rfl) (Nat.zero_le _) (Nat.zero_le _) (Cl.mono (fun r4 h5 z => ?_) k)
    obtain ⟨rfl, k⟩ := z
    refine V_aload_n 0 dX10_aLine_112 rfl rfl ?_
    refine V_callV (mc := 0) (ms := 0) (as := []) (st := []) (by decide) rt_26 rfl dX10_aLine_113 okX10_holds inX10_holds seX10_holds lkX10_235 rfl (Nat.le_of_ble_eq_true rfl) (Nat.zero_le _) (Nat.zero_le _) (Cl.mono (fun r6 h7 z => ?_) k)
    obtain ⟨x8, rfl, k⟩ := z
    refine V_if_ne 121 dX10_aLine_116 (by decide) ⟨fun z => ?_, fun z => ?_⟩
    · replace k := k.1 z
      refine V_aload_n 0 dX10_aLine_121 rfl rfl ?_
      refine V_ldc 1000017 dX10_aLine_122 lkX10_238 ?_
      refine V_callV (mc := 0) (ms := 0) (as := [aI 1000017]) (st := []) (by decide) rt_26 rfl dX10_aLine_124 okX10_lay inX10_lay seX10_lay lkX10_211 rfl (Nat.le_of_ble_eq_true rfl) (Nat.zero_le _) (Nat.zero_le _) (Cl.mono (fun r9 h10 z => ?_) k)
      obtain ⟨rfl, k⟩ := z
      refine V_goto 100 dX10_aLine_127 (by decide) ?_
      exact V_lv [0] rfl k
    · replace k := k.2 z
      refine V_iconst 0 dX10_aLine_119 (by decide) ?_
      exact V_zreturn dX10_aLine_120 rfl (by decide) k
-- X10_rule cuts [26, 90, 143]
set_option maxRecDepth 20000 in
set_option maxHeartbeats 2000000 in
theorem wX10_rule {d bc bs : Nat} {h : HS} {P : Option AV → HS → Prop}  (k : Cl true mX10_next0 d 0 0 [aR 26 0] (sI (sI (sI (sI h 26 0 40 0) 26 0 36 0) 26 0 25 0) 26 0 26 0) (fun r1 h2 => r1 = none ∧ (V true mX10_rule (d + 1) bc bs 26 [(0, aR 26 0), (1, aI 1)] [] h2 P))) : Cl true mX10_rule (d + 1) bc bs [aR 26 0] h P := by
  refine Cl_of (by decide) (Nat.le_of_ble_eq_true rfl) ?_
  show V true mX10_rule (d + 1) bc bs 0 [(0, aR 26 0)] [] h P
  refine V_aload_n 0 dX10_rule_0 rfl rfl ?_
  refine V_iconst 0 dX10_rule_1 (by decide) ?_
  refine PI_26_40 dX10_rule_2 lkX10_190 ?_
  refine V_aload_n 0 dX10_rule_5 rfl rfl ?_
  refine V_iconst 0 dX10_rule_6 (by decide) ?_
  refine PI_26_36 dX10_rule_7 lkX10_164 ?_
  refine V_aload_n 0 dX10_rule_10 rfl rfl ?_
  refine V_iconst 0 dX10_rule_11 (by decide) ?_
  refine PI_26_25 dX10_rule_12 lkX10_232 ?_
  refine V_aload_n 0 dX10_rule_15 rfl rfl ?_
  refine V_iconst 0 dX10_rule_16 (by decide) ?_
  refine PI_26_26 dX10_rule_17 lkX10_202 ?_
  refine V_aload_n 0 dX10_rule_20 rfl rfl ?_
  refine V_callV (mc := 0) (ms := 0) (as := []) (st := []) (by decide) rt_26 rfl dX10_rule_21 okX10_next0 inX10_next0 seX10_next0 lkX10_199 rfl (Nat.le_of_ble_eq_true rfl) (Nat.zero_le _) (Nat.zero_le _) (Cl.mono (fun r1 h2 z => ?_) k)
  obtain ⟨rfl, k⟩ := z
  refine V_iconst 1 dX10_rule_24 (by decide) ?_
  refine V_istore_n 1 dX10_rule_25 rfl (by decide) rfl ?_
  exact V_lv [1, 0] rfl k
set_option maxRecDepth 20000 in
set_option maxHeartbeats 2000000 in
theorem wX10_rule_26 {d bc bs : Nat} {h : HS} {P : Option AV → HS → Prop} {l1 : Int32} (k : ((l1 = 0) → (((l1 = 0) → (((¬ l1 = 0) → (V true mX10_rule (d + 1) bc bs 90 [(0, aR 26 0), (2, aI 0)] [] (sI (sI (sI (sI h 26 0 35 0) 26 0 42 (gI (sI h 26 0 35 0) 26 0 40)) 26 0 44 (gI (sI (sI h 26 0 35 0) 26 0 42 (gI (sI h 26 0 35 0) 26 0 40)) 26 0 41)) 26 0 24 (gI (sI (sI (sI h 26 0 35 0) 26 0 42 (gI (sI h 26 0 35 0) 26 0 40)) 26 0 44 (gI (sI (sI h 26 0 35 0) 26 0 42 (gI (sI h 26 0 35 0) 26 0 40)) 26 0 41)) 26 0 25)) P)) ∧ ((l1 = 0) → (P (some (aI (-1))) (sI (sI (sI h 26 0 35 0) 26 0 42 (gI (sI h 26 0 35 0) 26 0 40)) 26 0 44 (gI (sI (sI h 26 0 35 0) 26 0 42 (gI (sI h 26 0 35 0) 26 0 40)) 26 0 41)))))) ∧ ((¬ l1 = 0) → (((¬ l1 = 0) → (V true mX10_rule (d + 1) bc bs 90 [(0, aR 26 0), (2, aI 0)] [] (sI (sI (sI (sI h 26 0 35 0) 26 0 42 (gI (sI h 26 0 35 0) 26 0 40)) 26 0 44 (-1)) 26 0 24 (gI (sI (sI (sI h 26 0 35 0) 26 0 42 (gI (sI h 26 0 35 0) 26 0 40)) 26 0 44 (-1)) 26 0 25)) P)) ∧ ((l1 = 0) → (P (some (aI (-1))) (sI (sI (sI h 26 0 35 0) 26 0 42 (gI (sI h 26 0 35 0) 26 0 40)) 26 0 44 (-1)))))))) ∧ ((¬ l1 = 0) → ((((gI h 26 0 37) = 0) → (((l1 = 0) → (((¬ l1 = 0) → (V true mX10_rule (d + 1) bc bs 90 [(0, aR 26 0), (2, aI 0)] [] (sI (sI (sI (sI h 26 0 35 0) 26 0 42 (gI (sI h 26 0 35 0) 26 0 40)) 26 0 44 (gI (sI (sI h 26 0 35 0) 26 0 42 (gI (sI h 26 0 35 0) 26 0 40)) 26 0 41)) 26 0 24 (gI (sI (sI (sI h 26 0 35 0) 26 0 42 (gI (sI h 26 0 35 0) 26 0 40)) 26 0 44 (gI (sI (sI h 26 0 35 0) 26 0 42 (gI (sI h 26 0 35 0) 26 0 40)) 26 0 41)) 26 0 25)) P)) ∧ ((l1 = 0) → (P (some (aI (-1))) (sI (sI (sI h 26 0 35 0) 26 0 42 (gI (sI h 26 0 35 0) 26 0 40)) 26 0 44 (gI (sI (sI h 26 0 35 0) 26 0 42 (gI (sI h 26 0 35 0) 26 0 40)) 26 0 41)))))) ∧ ((¬ l1 = 0) → (((¬ l1 = 0) → (V true mX10_rule (d + 1) bc bs 90 [(0, aR 26 0), (2, aI 0)] [] (sI (sI (sI (sI h 26 0 35 0) 26 0 42 (gI (sI h 26 0 35 0) 26 0 40)) 26 0 44 (-1)) 26 0 24 (gI (sI (sI (sI h 26 0 35 0) 26 0 42 (gI (sI h 26 0 35 0) 26 0 40)) 26 0 44 (-1)) 26 0 25)) P)) ∧ ((l1 = 0) → (P (some (aI (-1))) (sI (sI (sI h 26 0 35 0) 26 0 42 (gI (sI h 26 0 35 0) 26 0 40)) 26 0 44 (-1)))))))) ∧ ((¬ (gI h 26 0 37) = 0) → (Cl true mX10_aLine d 0 0 [aR 26 0] h (fun r1 h2 => ∃ x3 : Int32, r1 = some (aI x3) ∧ (V true mX10_rule (d + 1) bc bs 26 [(0, aR 26 0), (1, aI x3)] [] h2 P))))))) : V true mX10_rule (d + 1) bc bs 26 [(0, aR 26 0), (1, aI l1)] [] h P := by
  refine V_iload_n 1 dX10_rule_26 rfl rfl ?_
  refine V_if_eq 45 dX10_rule_27 (by decide) ⟨fun z => ?_, fun z => ?_⟩
  · replace k := k.1 z
    refine V_aload_n 0 dX10_rule_45 rfl rfl ?_
    refine V_iconst 0 dX10_rule_46 (by decide) ?_
    refine PI_26_35 dX10_rule_47 lkX10_143 ?_
    refine V_aload_n 0 dX10_rule_50 rfl rfl ?_
    refine V_aload_n 0 dX10_rule_51 rfl rfl ?_
    refine GI_26_40 dX10_rule_52 lkX10_190 ?_
    refine PI_26_42 dX10_rule_55 lkX10_242 ?_
    refine V_aload_n 0 dX10_rule_58 rfl rfl ?_
    refine V_iload_n 1 dX10_rule_59 rfl rfl ?_
    refine V_if_eq 67 dX10_rule_60 (by decide) ⟨fun z => ?_, fun z => ?_⟩
    · replace k := k.1 z
      refine V_aload_n 0 dX10_rule_67 rfl rfl ?_
      refine GI_26_41 dX10_rule_68 lkX10_193 ?_
      refine PI_26_44 dX10_rule_71 lkX10_92 ?_
      refine V_iload_n 1 dX10_rule_74 rfl rfl ?_
      refine V_if_ne 80 dX10_rule_75 (by decide) ⟨fun z => ?_, fun z => ?_⟩
      · replace k := k.1 z
        refine V_aload_n 0 dX10_rule_80 rfl rfl ?_
        refine V_aload_n 0 dX10_rule_81 rfl rfl ?_
        refine GI_26_25 dX10_rule_82 lkX10_232 ?_
        refine PI_26_24 dX10_rule_85 lkX10_137 ?_
        refine V_iconst 0 dX10_rule_88 (by decide) ?_
        refine V_istore_n 2 dX10_rule_89 rfl (by decide) rfl ?_
        exact V_lv [1, 0] rfl k
      · replace k := k.2 z
        refine V_iconst (-1) dX10_rule_78 (by decide) ?_
        exact V_ireturn dX10_rule_79 rfl k
    · replace k := k.2 z
      refine V_iconst (-1) dX10_rule_63 (by decide) ?_
      refine V_goto 71 dX10_rule_64 (by decide) ?_
      refine PI_26_44 dX10_rule_71 lkX10_92 ?_
      refine V_iload_n 1 dX10_rule_74 rfl rfl ?_
      refine V_if_ne 80 dX10_rule_75 (by decide) ⟨fun z => ?_, fun z => ?_⟩
      · replace k := k.1 z
        refine V_aload_n 0 dX10_rule_80 rfl rfl ?_
        refine V_aload_n 0 dX10_rule_81 rfl rfl ?_
        refine GI_26_25 dX10_rule_82 lkX10_232 ?_
        refine PI_26_24 dX10_rule_85 lkX10_137 ?_
        refine V_iconst 0 dX10_rule_88 (by decide) ?_
        refine V_istore_n 2 dX10_rule_89 rfl (by decide) rfl ?_
        exact V_lv [1, 0] rfl k
      · replace k := k.2 z
        refine V_iconst (-1) dX10_rule_78 (by decide) ?_
        exact V_ireturn dX10_rule_79 rfl k
  · replace k := k.2 z
    refine V_aload_n 0 dX10_rule_30 rfl rfl ?_
    refine GI_26_37 dX10_rule_31 lkX10_174 ?_
    refine V_if_eq 45 dX10_rule_34 (by decide) ⟨fun z => ?_, fun z => ?_⟩
    · replace k := k.1 z
      refine V_aload_n 0 dX10_rule_45 rfl rfl ?_
      refine V_iconst 0 dX10_rule_46 (by decide) ?_
      refine PI_26_35 dX10_rule_47 lkX10_143 ?_
      refine V_aload_n 0 dX10_rule_50 rfl rfl ?_
      refine V_aload_n 0 dX10_rule_51 rfl rfl ?_
      refine GI_26_40 dX10_rule_52 lkX10_190 ?_
      refine PI_26_42 dX10_rule_55 lkX10_242 ?_
      refine V_aload_n 0 dX10_rule_58 rfl rfl ?_
      refine V_iload_n 1 dX10_rule_59 rfl rfl ?_
      refine V_if_eq 67 dX10_rule_60 (by decide) ⟨fun z => ?_, fun z => ?_⟩
      · replace k := k.1 z
        refine V_aload_n 0 dX10_rule_67 rfl rfl ?_
        refine GI_26_41 dX10_rule_68 lkX10_193 ?_
        refine PI_26_44 dX10_rule_71 lkX10_92 ?_
        refine V_iload_n 1 dX10_rule_74 rfl rfl ?_
        refine V_if_ne 80 dX10_rule_75 (by decide) ⟨fun z => ?_, fun z => ?_⟩
        · replace k := k.1 z
          refine V_aload_n 0 dX10_rule_80 rfl rfl ?_
          refine V_aload_n 0 dX10_rule_81 rfl rfl ?_
          refine GI_26_25 dX10_rule_82 lkX10_232 ?_
          refine PI_26_24 dX10_rule_85 lkX10_137 ?_
          refine V_iconst 0 dX10_rule_88 (by decide) ?_
          refine V_istore_n 2 dX10_rule_89 rfl (by decide) rfl ?_
          exact V_lv [1, 0] rfl k
        · replace k := k.2 z
          refine V_iconst (-1) dX10_rule_78 (by decide) ?_
          exact V_ireturn dX10_rule_79 rfl k
      · replace k := k.2 z
        refine V_iconst (-1) dX10_rule_63 (by decide) ?_
        refine V_goto 71 dX10_rule_64 (by decide) ?_
        refine PI_26_44 dX10_rule_71 lkX10_92 ?_
        refine V_iload_n 1 dX10_rule_74 rfl rfl ?_
        refine V_if_ne 80 dX10_rule_75 (by decide) ⟨fun z => ?_, fun z => ?_⟩
        · replace k := k.1 z
          refine V_aload_n 0 dX10_rule_80 rfl rfl ?_
          refine V_aload_n 0 dX10_rule_81 rfl rfl ?_
          refine GI_26_25 dX10_rule_82 lkX10_232 ?_
          refine PI_26_24 dX10_rule_85 lkX10_137 ?_
          refine V_iconst 0 dX10_rule_88 (by decide) ?_
          refine V_istore_n 2 dX10_rule_89 rfl (by decide) rfl ?_
          exact V_lv [1, 0] rfl k
        · replace k := k.2 z
          refine V_iconst (-1) dX10_rule_78 (by decide) ?_
          exact V_ireturn dX10_rule_79 rfl k
    · replace k := k.2 z
      refine V_aload_n 0 dX10_rule_37 rfl rfl ?_
      refine V_callV (mc := 0) (ms := 0) (as := []) (st := []) (by decide) rt_26 rfl dX10_rule_38 okX10_aLine inX10_aLine seX10_aLine lkX10_239 rfl (Nat.le_of_ble_eq_true rfl) (Nat.zero_le _) (Nat.zero_le _) (Cl.mono (fun r1 h2 z => ?_) k)
      obtain ⟨x3, rfl, k⟩ := z
      refine V_istore_n 1 dX10_rule_41 rfl (by decide) rfl ?_
      refine V_goto 26 dX10_rule_42 (by decide) ?_
      exact V_lv [1, 0] rfl k
set_option maxRecDepth 20000 in
set_option maxHeartbeats 2000000 in
theorem wX10_rule_90 {d bc bs : Nat} {h : HS} {P : Option AV → HS → Prop} {l2 : Int32} (k : (((gI h 26 0 24) ≤ l2) → (vp_in (gI h 26 0 24) 9 ∧ (V true mX10_rule (d + 1) bc bs 143 [(0, aR 26 0), (2, aI 0)] [] (sI h 46 0 (gI h 26 0 24).toNatClampNeg (gI h 26 0 26)) P))) ∧ ((¬ (gI h 26 0 24) ≤ l2) → (vp_in l2 9 ∧ (vp_in l2 9 ∧ (vp_in l2 8 ∧ (vp_in l2 8 ∧ (V true mX10_rule (d + 1) bc bs 90 [(0, aR 26 0), (2, aI (l2 + 1))] [] (sI (sI h 46 0 l2.toNatClampNeg (gI h 49 0 l2.toNatClampNeg)) 47 0 l2.toNatClampNeg (gI (sI h 46 0 l2.toNatClampNeg (gI h 49 0 l2.toNatClampNeg)) 50 0 l2.toNatClampNeg)) P))))))) : V true mX10_rule (d + 1) bc bs 90 [(0, aR 26 0), (2, aI l2)] [] h P := by
  refine V_iload_n 2 dX10_rule_90 rfl rfl ?_
  refine V_aload_n 0 dX10_rule_91 rfl rfl ?_
  refine GI_26_24 dX10_rule_92 lkX10_137 ?_
  refine V_icmp_ge 128 dX10_rule_95 (by decide) ⟨fun z => ?_, fun z => ?_⟩
  · replace k := k.1 z
    refine V_aload_n 0 dX10_rule_128 rfl rfl ?_
    refine GS_26_27 dX10_rule_129 lkX10_68 ?_
    refine V_aload_n 0 dX10_rule_132 rfl rfl ?_
    refine GI_26_24 dX10_rule_133 lkX10_137 ?_
    refine V_aload_n 0 dX10_rule_136 rfl rfl ?_
    refine GI_26_26 dX10_rule_137 lkX10_202 ?_
    refine V_iast (by decide) rt_46 dX10_rule_140 k.1 ?_
    replace k := k.2
    refine V_iconst 0 dX10_rule_141 (by decide) ?_
    refine V_istore_n 2 dX10_rule_142 rfl (by decide) rfl ?_
    exact V_lv [1, 0] rfl k
  · replace k := k.2 z
    refine V_aload_n 0 dX10_rule_98 rfl rfl ?_
    refine GS_26_27 dX10_rule_99 lkX10_68 ?_
    refine V_iload_n 2 dX10_rule_102 rfl rfl ?_
    refine V_aload_n 0 dX10_rule_103 rfl rfl ?_
    refine GS_26_30 dX10_rule_104 lkX10_77 ?_
    refine V_iload_n 2 dX10_rule_107 rfl rfl ?_
    refine V_iald (by decide) rt_49 dX10_rule_108 k.1 ?_
    replace k := k.2
    refine V_iast (by decide) rt_46 dX10_rule_109 k.1 ?_
    replace k := k.2
    refine V_aload_n 0 dX10_rule_110 rfl rfl ?_
    refine GS_26_28 dX10_rule_111 lkX10_71 ?_
    refine V_iload_n 2 dX10_rule_114 rfl rfl ?_
    refine V_aload_n 0 dX10_rule_115 rfl rfl ?_
    refine GS_26_31 dX10_rule_116 lkX10_80 ?_
    refine V_iload_n 2 dX10_rule_119 rfl rfl ?_
    refine V_iald (by decide) rt_50 dX10_rule_120 k.1 ?_
    replace k := k.2
    refine V_iast (by decide) rt_47 dX10_rule_121 k.1 ?_
    replace k := k.2
    refine V_iinc 2 (v := l2 + 1) dX10_rule_122 rfl rfl (by decide) rfl ?_
    refine V_goto 90 dX10_rule_125 (by decide) ?_
    exact V_lv [1, 0] rfl k
set_option maxRecDepth 20000 in
set_option maxHeartbeats 2000000 in
theorem wX10_rule_143 {d bc bs : Nat} {h : HS} {P : Option AV → HS → Prop} {l2 : Int32} (k : (((gI h 26 0 26) ≤ l2) → (P (some (aI (gI h 26 0 24))) h)) ∧ ((¬ (gI h 26 0 26) ≤ l2) → (vp_in l2 500 ∧ (vp_in l2 500 ∧ (V true mX10_rule (d + 1) bc bs 143 [(0, aR 26 0), (2, aI (l2 + 1))] [] (sI h 48 0 l2.toNatClampNeg (gI h 51 0 l2.toNatClampNeg)) P))))) : V true mX10_rule (d + 1) bc bs 143 [(0, aR 26 0), (2, aI l2)] [] h P := by
  refine V_iload_n 2 dX10_rule_143 rfl rfl ?_
  refine V_aload_n 0 dX10_rule_144 rfl rfl ?_
  refine GI_26_26 dX10_rule_145 lkX10_202 ?_
  refine V_icmp_ge 169 dX10_rule_148 (by decide) ⟨fun z => ?_, fun z => ?_⟩
  · replace k := k.1 z
    refine V_aload_n 0 dX10_rule_169 rfl rfl ?_
    refine GI_26_24 dX10_rule_170 lkX10_137 ?_
    exact V_ireturn dX10_rule_173 rfl k
  · replace k := k.2 z
    refine V_aload_n 0 dX10_rule_151 rfl rfl ?_
    refine GS_26_29 dX10_rule_152 lkX10_74 ?_
    refine V_iload_n 2 dX10_rule_155 rfl rfl ?_
    refine V_aload_n 0 dX10_rule_156 rfl rfl ?_
    refine GS_26_32 dX10_rule_157 lkX10_83 ?_
    refine V_iload_n 2 dX10_rule_160 rfl rfl ?_
    refine V_iald (by decide) rt_51 dX10_rule_161 k.1 ?_
    replace k := k.2
    refine V_iast (by decide) rt_48 dX10_rule_162 k.1 ?_
    replace k := k.2
    refine V_iinc 2 (v := l2 + 1) dX10_rule_163 rfl rfl (by decide) rfl ?_
    refine V_goto 143 dX10_rule_166 (by decide) ?_
    exact V_lv [1, 0] rfl k
-- X10_fault cuts []
set_option maxRecDepth 20000 in
set_option maxHeartbeats 2000000 in
theorem wX10_fault {d bc bs : Nat} {h : HS} {P : Option AV → HS → Prop} {l1 : Int32} (k : ((¬ l1 = 0) → (((¬ l1 = 1) → (P (some (aI (-1))) h)) ∧ ((l1 = 1) → (P (some (aI (gI h 26 0 44))) h)))) ∧ ((l1 = 0) → (P (some (aI (gI h 26 0 42))) h))) : Cl true mX10_fault (d + 1) bc bs [aR 26 0, aI l1] h P := by
  refine Cl_of (by decide) (Nat.le_of_ble_eq_true rfl) ?_
  show V true mX10_fault (d + 1) bc bs 0 [(0, aR 26 0), (1, aI l1)] [] h P
  refine V_iload_n 1 dX10_fault_0 rfl rfl ?_
  refine V_if_ne 11 dX10_fault_1 (by decide) ⟨fun z => ?_, fun z => ?_⟩
  · replace k := k.1 z
    refine V_iload_n 1 dX10_fault_11 rfl rfl ?_
    refine V_iconst 1 dX10_fault_12 (by decide) ?_
    refine V_icmp_ne 23 dX10_fault_13 (by decide) ⟨fun z => ?_, fun z => ?_⟩
    · replace k := k.1 z
      refine V_iconst (-1) dX10_fault_23 (by decide) ?_
      exact V_ireturn dX10_fault_24 rfl k
    · replace k := k.2 z
      refine V_aload_n 0 dX10_fault_16 rfl rfl ?_
      refine GI_26_44 dX10_fault_17 lkX10_92 ?_
      refine V_goto 24 dX10_fault_20 (by decide) ?_
      exact V_ireturn dX10_fault_24 rfl k
  · replace k := k.2 z
    refine V_aload_n 0 dX10_fault_4 rfl rfl ?_
    refine GI_26_42 dX10_fault_5 lkX10_242 ?_
    refine V_goto 24 dX10_fault_8 (by decide) ?_
    exact V_ireturn dX10_fault_24 rfl k
-- X10_isOf cuts []
set_option maxRecDepth 20000 in
set_option maxHeartbeats 2000000 in
theorem wX10_isOf {d bc bs : Nat} {h : HS} {P : Option AV → HS → Prop} {l0 : Int32} {l1 : Int32} (k : ((l0 = (-1)) → (P (some (aI 0)) h)) ∧ ((¬ l0 = (-1)) → (((¬ (l0 / 28) = l1) → (P (some (aI 0)) h)) ∧ (((l0 / 28) = l1) → (P (some (aI 1)) h))))) : Cl true mX10_isOf (d + 1) bc bs [aI l0, aI l1] h P := by
  refine Cl_of (by decide) (Nat.le_of_ble_eq_true rfl) ?_
  show V true mX10_isOf (d + 1) bc bs 0 [(0, aI l0), (1, aI l1)] [] h P
  refine V_iload_n 0 dX10_isOf_0 rfl rfl ?_
  refine V_iconst (-1) dX10_isOf_1 (by decide) ?_
  refine V_icmp_eq 17 dX10_isOf_2 (by decide) ⟨fun z => ?_, fun z => ?_⟩
  · replace k := k.1 z
    refine V_iconst 0 dX10_isOf_17 (by decide) ?_
    exact V_zreturn dX10_isOf_18 rfl (by decide) k
  · replace k := k.2 z
    refine V_iload_n 0 dX10_isOf_5 rfl rfl ?_
    refine V_bipush 28 dX10_isOf_6 (by decide) ?_
    refine V_idiv dX10_isOf_8 (by decide) ?_
    refine V_iload_n 1 dX10_isOf_9 rfl rfl ?_
    refine V_icmp_ne 17 dX10_isOf_10 (by decide) ⟨fun z => ?_, fun z => ?_⟩
    · replace k := k.1 z
      refine V_iconst 0 dX10_isOf_17 (by decide) ?_
      exact V_zreturn dX10_isOf_18 rfl (by decide) k
    · replace k := k.2 z
      refine V_iconst 1 dX10_isOf_13 (by decide) ?_
      refine V_goto 18 dX10_isOf_14 (by decide) ?_
      exact V_zreturn dX10_isOf_18 rfl (by decide) k
-- X10_takes cuts [22]
set_option maxRecDepth 20000 in
set_option maxHeartbeats 2000000 in
theorem wX10_takes {d bc bs : Nat} {h : HS} {P : Option AV → HS → Prop} {l1 : Int32} {l2 : Int32} (k : V true mX10_takes (d + 1) bc bs 22 [(0, aR 26 0), (1, aI l1), (2, aI l2), (3, aI 0)] [] (sI (sI (sI (sI h 26 0 45 0) 26 0 46 0) 26 0 47 0) 26 0 48 l2) P) : Cl true mX10_takes (d + 1) bc bs [aR 26 0, aI l1, aI l2] h P := by
  refine Cl_of (by decide) (Nat.le_of_ble_eq_true rfl) ?_
  show V true mX10_takes (d + 1) bc bs 0 [(0, aR 26 0), (1, aI l1), (2, aI l2)] [] h P
  refine V_aload_n 0 dX10_takes_0 rfl rfl ?_
  refine V_iconst 0 dX10_takes_1 (by decide) ?_
  refine PI_26_45 dX10_takes_2 lkX10_245 ?_
  refine V_aload_n 0 dX10_takes_5 rfl rfl ?_
  refine V_iconst 0 dX10_takes_6 (by decide) ?_
  refine PI_26_46 dX10_takes_7 lkX10_248 ?_
  refine V_aload_n 0 dX10_takes_10 rfl rfl ?_
  refine V_iconst 0 dX10_takes_11 (by decide) ?_
  refine PI_26_47 dX10_takes_12 lkX10_251 ?_
  refine V_aload_n 0 dX10_takes_15 rfl rfl ?_
  refine V_iload_n 2 dX10_takes_16 rfl rfl ?_
  refine PI_26_48 dX10_takes_17 lkX10_254 ?_
  refine V_iconst 0 dX10_takes_20 (by decide) ?_
  refine V_istore_n 3 dX10_takes_21 rfl (by decide) rfl ?_
  exact V_lv [1, 2, 3, 0] rfl k
set_option maxRecDepth 20000 in
set_option maxHeartbeats 2000000 in
theorem wX10_takes_22 {d bc bs : Nat} {h : HS} {P : Option AV → HS → Prop} {l1 : Int32} {l2 : Int32} {l3 : Int32} (k : (((gI h 26 0 2) ≤ l3) → (P none h)) ∧ ((¬ (gI h 26 0 2) ≤ l3) → (vp_in l3 120 ∧ (((¬ (gI h 33 0 l3.toNatClampNeg) = l1) → (V true mX10_takes (d + 1) bc bs 22 [(0, aR 26 0), (1, aI l1), (2, aI l2), (3, aI (l3 + 1))] [] h P)) ∧ (((gI h 33 0 l3.toNatClampNeg) = l1) → (vp_in l3 120 ∧ (((¬ (gI h 40 0 l3.toNatClampNeg) = (-1)) → (vp_in l3 120 ∧ (Cl true mX10_isOf d 0 0 [aI (gI h 40 0 l3.toNatClampNeg), aI l2] h (fun r1 h2 => ∃ x3 : Int32, r1 = some (aI x3) ∧ (((x3 = 0) → (vp_in l3 120 ∧ (Cl true mX10_isOf d 0 0 [aI (gI h2 41 0 l3.toNatClampNeg), aI l2] h2 (fun r4 h5 => ∃ x6 : Int32, r4 = some (aI x6) ∧ (((x6 = 0) → (V true mX10_takes (d + 1) bc bs 22 [(0, aR 26 0), (1, aI l1), (2, aI l2), (3, aI (l3 + 1))] [] h5 P)) ∧ ((¬ x6 = 0) → (vp_in l3 120 ∧ (vp_in l3 120 ∧ (V true mX10_takes (d + 1) bc bs 22 [(0, aR 26 0), (1, aI l1), (2, aI l2), (3, aI (l3 + 1))] [] (sI (sI h5 26 0 45 ((gI h5 26 0 45) - (gI h5 43 0 l3.toNatClampNeg))) 26 0 47 ((gI (sI h5 26 0 45 ((gI h5 26 0 45) - (gI h5 43 0 l3.toNatClampNeg))) 26 0 47) + (gI (sI h5 26 0 45 ((gI h5 26 0 45) - (gI h5 43 0 l3.toNatClampNeg))) 43 0 l3.toNatClampNeg))) P))))))))) ∧ ((¬ x3 = 0) → (vp_in l3 120 ∧ (vp_in l3 120 ∧ (Cl true mX10_isOf d 0 0 [aI (gI (sI (sI h2 26 0 45 ((gI h2 26 0 45) + (gI h2 43 0 l3.toNatClampNeg))) 26 0 46 ((gI (sI h2 26 0 45 ((gI h2 26 0 45) + (gI h2 43 0 l3.toNatClampNeg))) 26 0 46) + 1)) 41 0 l3.toNatClampNeg), aI l2] (sI (sI h2 26 0 45 ((gI h2 26 0 45) + (gI h2 43 0 l3.toNatClampNeg))) 26 0 46 ((gI (sI h2 26 0 45 ((gI h2 26 0 45) + (gI h2 43 0 l3.toNatClampNeg))) 26 0 46) + 1)) (fun r7 h8 => ∃ x9 : Int32, r7 = some (aI x9) ∧ (((x9 = 0) → (V true mX10_takes (d + 1) bc bs 22 [(0, aR 26 0), (1, aI l1), (2, aI l2), (3, aI (l3 + 1))] [] h8 P)) ∧ ((¬ x9 = 0) → (vp_in l3 120 ∧ (vp_in l3 120 ∧ (V true mX10_takes (d + 1) bc bs 22 [(0, aR 26 0), (1, aI l1), (2, aI l2), (3, aI (l3 + 1))] [] (sI (sI h8 26 0 45 ((gI h8 26 0 45) - (gI h8 43 0 l3.toNatClampNeg))) 26 0 47 ((gI (sI h8 26 0 45 ((gI h8 26 0 45) - (gI h8 43 0 l3.toNatClampNeg))) 26 0 47) + (gI (sI h8 26 0 45 ((gI h8 26 0 45) - (gI h8 43 0 l3.toNatClampNeg))) 43 0 l3.toNatClampNeg))) P))))))))))))))) ∧ (((gI h 40 0 l3.toNatClampNeg) = (-1)) → (V true mX10_takes (d + 1) bc bs 22 [(0, aR 26 0), (1, aI l1), (2, aI l2), (3, aI (l3 + 1))] [] h P))))))))) : V true mX10_takes (d + 1) bc bs 22 [(0, aR 26 0), (1, aI l1), (2, aI l2), (3, aI l3)] [] h P := by
  refine V_iload_n 3 dX10_takes_22 rfl rfl ?_
  refine V_aload_n 0 dX10_takes_23 rfl rfl ?_
  refine GI_26_2 dX10_takes_24 lkX10_125 ?_
  refine V_icmp_ge 140 dX10_takes_27 (by decide) ⟨fun z => ?_, fun z => ?_⟩
  · replace k := k.1 z
    exact V_return dX10_takes_140 rfl k
  · replace k := k.2 z
    refine V_aload_n 0 dX10_takes_30 rfl rfl ?_
    refine GS_26_9 dX10_takes_31 lkX10_28 ?_
    refine V_iload_n 3 dX10_takes_34 rfl rfl ?_
    refine V_iald (by decide) rt_33 dX10_takes_35 k.1 ?_
    replace k := k.2
    refine V_iload_n 1 dX10_takes_36 rfl rfl ?_
    refine V_icmp_ne 134 dX10_takes_37 (by decide) ⟨fun z => ?_, fun z => ?_⟩
    · replace k := k.1 z
      refine V_iinc 3 (v := l3 + 1) dX10_takes_134 rfl rfl (by decide) rfl ?_
      refine V_goto 22 dX10_takes_137 (by decide) ?_
      exact V_lv [1, 2, 3, 0] rfl k
    · replace k := k.2 z
      refine V_aload_n 0 dX10_takes_40 rfl rfl ?_
      refine GS_26_16 dX10_takes_41 lkX10_49 ?_
      refine V_iload_n 3 dX10_takes_44 rfl rfl ?_
      refine V_iald (by decide) rt_40 dX10_takes_45 k.1 ?_
      replace k := k.2
      refine V_iconst (-1) dX10_takes_46 (by decide) ?_
      refine V_icmp_ne 53 dX10_takes_47 (by decide) ⟨fun z => ?_, fun z => ?_⟩
      · replace k := k.1 z
        refine V_aload_n 0 dX10_takes_53 rfl rfl ?_
        refine GS_26_16 dX10_takes_54 lkX10_49 ?_
        refine V_iload_n 3 dX10_takes_57 rfl rfl ?_
        refine V_iald (by decide) rt_40 dX10_takes_58 k.1 ?_
        replace k := k.2
        refine V_iload_n 2 dX10_takes_59 rfl rfl ?_
        refine V_callS (mc := 0) (ms := 0) (as := [aI (gI h 40 0 l3.toNatClampNeg), aI l2]) (st := []) dX10_takes_60 okX10_isOf stX10_isOf lkX10_257 rfl (Nat.le_of_ble_eq_true rfl) (Nat.zero_le _) (Nat.zero_le _) (Cl.mono (fun r1 h2 z => ?_) k)
        obtain ⟨x3, rfl, k⟩ := z
        refine V_if_eq 91 dX10_takes_63 (by decide) ⟨fun z => ?_, fun z => ?_⟩
        · replace k := k.1 z
          refine V_aload_n 0 dX10_takes_91 rfl rfl ?_
          refine GS_26_17 dX10_takes_92 lkX10_52 ?_
          refine V_iload_n 3 dX10_takes_95 rfl rfl ?_
          refine V_iald (by decide) rt_41 dX10_takes_96 k.1 ?_
          replace k := k.2
          refine V_iload_n 2 dX10_takes_97 rfl rfl ?_
          refine V_callS (mc := 0) (ms := 0) (as := [aI (gI h2 41 0 l3.toNatClampNeg), aI l2]) (st := []) dX10_takes_98 okX10_isOf stX10_isOf lkX10_257 rfl (Nat.le_of_ble_eq_true rfl) (Nat.zero_le _) (Nat.zero_le _) (Cl.mono (fun r4 h5 z => ?_) k)
          obtain ⟨x6, rfl, k⟩ := z
          refine V_if_eq 134 dX10_takes_101 (by decide) ⟨fun z => ?_, fun z => ?_⟩
          · replace k := k.1 z
            refine V_iinc 3 (v := l3 + 1) dX10_takes_134 rfl rfl (by decide) rfl ?_
            refine V_goto 22 dX10_takes_137 (by decide) ?_
            exact V_lv [1, 2, 3, 0] rfl k
          · replace k := k.2 z
            refine V_aload_n 0 dX10_takes_104 rfl rfl ?_
            refine V_dup dX10_takes_105 rfl ?_
            refine GI_26_45 dX10_takes_106 lkX10_245 ?_
            refine V_aload_n 0 dX10_takes_109 rfl rfl ?_
            refine GS_26_19 dX10_takes_110 lkX10_58 ?_
            refine V_iload_n 3 dX10_takes_113 rfl rfl ?_
            refine V_iald (by decide) rt_43 dX10_takes_114 k.1 ?_
            replace k := k.2
            refine V_isub dX10_takes_115 ?_
            refine PI_26_45 dX10_takes_116 lkX10_245 ?_
            refine V_aload_n 0 dX10_takes_119 rfl rfl ?_
            refine V_dup dX10_takes_120 rfl ?_
            refine GI_26_47 dX10_takes_121 lkX10_251 ?_
            refine V_aload_n 0 dX10_takes_124 rfl rfl ?_
            refine GS_26_19 dX10_takes_125 lkX10_58 ?_
            refine V_iload_n 3 dX10_takes_128 rfl rfl ?_
            refine V_iald (by decide) rt_43 dX10_takes_129 k.1 ?_
            replace k := k.2
            refine V_iadd dX10_takes_130 ?_
            refine PI_26_47 dX10_takes_131 lkX10_251 ?_
            refine V_iinc 3 (v := l3 + 1) dX10_takes_134 rfl rfl (by decide) rfl ?_
            refine V_goto 22 dX10_takes_137 (by decide) ?_
            exact V_lv [1, 2, 3, 0] rfl k
        · replace k := k.2 z
          refine V_aload_n 0 dX10_takes_66 rfl rfl ?_
          refine V_dup dX10_takes_67 rfl ?_
          refine GI_26_45 dX10_takes_68 lkX10_245 ?_
          refine V_aload_n 0 dX10_takes_71 rfl rfl ?_
          refine GS_26_19 dX10_takes_72 lkX10_58 ?_
          refine V_iload_n 3 dX10_takes_75 rfl rfl ?_
          refine V_iald (by decide) rt_43 dX10_takes_76 k.1 ?_
          replace k := k.2
          refine V_iadd dX10_takes_77 ?_
          refine PI_26_45 dX10_takes_78 lkX10_245 ?_
          refine V_aload_n 0 dX10_takes_81 rfl rfl ?_
          refine V_dup dX10_takes_82 rfl ?_
          refine GI_26_46 dX10_takes_83 lkX10_248 ?_
          refine V_iconst 1 dX10_takes_86 (by decide) ?_
          refine V_iadd dX10_takes_87 ?_
          refine PI_26_46 dX10_takes_88 lkX10_248 ?_
          refine V_aload_n 0 dX10_takes_91 rfl rfl ?_
          refine GS_26_17 dX10_takes_92 lkX10_52 ?_
          refine V_iload_n 3 dX10_takes_95 rfl rfl ?_
          refine V_iald (by decide) rt_41 dX10_takes_96 k.1 ?_
          replace k := k.2
          refine V_iload_n 2 dX10_takes_97 rfl rfl ?_
          refine V_callS (mc := 0) (ms := 0) (as := [aI (gI (sI (sI h2 26 0 45 ((gI h2 26 0 45) + (gI h2 43 0 l3.toNatClampNeg))) 26 0 46 ((gI (sI h2 26 0 45 ((gI h2 26 0 45) + (gI h2 43 0 l3.toNatClampNeg))) 26 0 46) + 1)) 41 0 l3.toNatClampNeg), aI l2]) (st := []) dX10_takes_98 okX10_isOf stX10_isOf lkX10_257 rfl (Nat.le_of_ble_eq_true rfl) (Nat.zero_le _) (Nat.zero_le _) (Cl.mono (fun r7 h8 z => ?_) k)
          obtain ⟨x9, rfl, k⟩ := z
          refine V_if_eq 134 dX10_takes_101 (by decide) ⟨fun z => ?_, fun z => ?_⟩
          · replace k := k.1 z
            refine V_iinc 3 (v := l3 + 1) dX10_takes_134 rfl rfl (by decide) rfl ?_
            refine V_goto 22 dX10_takes_137 (by decide) ?_
            exact V_lv [1, 2, 3, 0] rfl k
          · replace k := k.2 z
            refine V_aload_n 0 dX10_takes_104 rfl rfl ?_
            refine V_dup dX10_takes_105 rfl ?_
            refine GI_26_45 dX10_takes_106 lkX10_245 ?_
            refine V_aload_n 0 dX10_takes_109 rfl rfl ?_
            refine GS_26_19 dX10_takes_110 lkX10_58 ?_
            refine V_iload_n 3 dX10_takes_113 rfl rfl ?_
            refine V_iald (by decide) rt_43 dX10_takes_114 k.1 ?_
            replace k := k.2
            refine V_isub dX10_takes_115 ?_
            refine PI_26_45 dX10_takes_116 lkX10_245 ?_
            refine V_aload_n 0 dX10_takes_119 rfl rfl ?_
            refine V_dup dX10_takes_120 rfl ?_
            refine GI_26_47 dX10_takes_121 lkX10_251 ?_
            refine V_aload_n 0 dX10_takes_124 rfl rfl ?_
            refine GS_26_19 dX10_takes_125 lkX10_58 ?_
            refine V_iload_n 3 dX10_takes_128 rfl rfl ?_
            refine V_iald (by decide) rt_43 dX10_takes_129 k.1 ?_
            replace k := k.2
            refine V_iadd dX10_takes_130 ?_
            refine PI_26_47 dX10_takes_131 lkX10_251 ?_
            refine V_iinc 3 (v := l3 + 1) dX10_takes_134 rfl rfl (by decide) rfl ?_
            refine V_goto 22 dX10_takes_137 (by decide) ?_
            exact V_lv [1, 2, 3, 0] rfl k
      · replace k := k.2 z
        refine V_goto 134 dX10_takes_50 (by decide) ?_
        refine V_iinc 3 (v := l3 + 1) dX10_takes_134 rfl rfl (by decide) rfl ?_
        refine V_goto 22 dX10_takes_137 (by decide) ?_
        exact V_lv [1, 2, 3, 0] rfl k
-- X10_worked cuts [5]
set_option maxRecDepth 20000 in
set_option maxHeartbeats 2000000 in
theorem wX10_worked {d bc bs : Nat} {h : HS} {P : Option AV → HS → Prop} {l1 : Int32} {l2 : Int32} (k : V true mX10_worked (d + 1) bc bs 5 [(0, aR 26 0), (2, aI l2), (3, aI 0), (4, aI l1)] [] h P) : Cl true mX10_worked (d + 1) bc bs [aR 26 0, aI l1, aI l2] h P := by
  refine Cl_of (by decide) (Nat.le_of_ble_eq_true rfl) ?_
  show V true mX10_worked (d + 1) bc bs 0 [(0, aR 26 0), (1, aI l1), (2, aI l2)] [] h P
  refine V_iconst 0 dX10_worked_0 (by decide) ?_
  refine V_istore_n 3 dX10_worked_1 rfl (by decide) rfl ?_
  refine V_iload_n 1 dX10_worked_2 rfl rfl ?_
  refine V_istore 4 dX10_worked_3 (by decide) rfl ?_
  exact V_lv [2, 4, 1, 0] rfl k
set_option maxRecDepth 20000 in
set_option maxHeartbeats 2000000 in
theorem wX10_worked_5 {d bc bs : Nat} {h : HS} {P : Option AV → HS → Prop} {l2 : Int32} {l3 : Int32} {l4 : Int32} (k : ((l2 ≤ l4) → (vp_in 0 500 ∧ (P (some (aI (gI h 52 0 (0 : Int32).toNatClampNeg))) h))) ∧ ((¬ l2 ≤ l4) → (vp_in l4 500 ∧ (((1000010 ≤ (gI h 48 0 l4.toNatClampNeg)) → (vp_in ((l3 + (-1)) - 1) 500 ∧ (vp_in (l3 + (-1)) 500 ∧ (Cl true mX10_both d 0 0 [aI (gI h 48 0 l4.toNatClampNeg), aI (gI h 52 0 ((l3 + (-1)) - 1).toNatClampNeg), aI (gI h 52 0 (l3 + (-1)).toNatClampNeg)] h (fun r1 h2 => ∃ x3 : Int32, r1 = some (aI x3) ∧ (vp_in ((l3 + (-1)) - 1) 500 ∧ (V true mX10_worked (d + 1) bc bs 5 [(0, aR 26 0), (2, aI l2), (3, aI (l3 + (-1))), (4, aI (l4 + 1))] [] (sI h2 52 0 ((l3 + (-1)) - 1).toNatClampNeg x3) P))))))) ∧ ((¬ 1000010 ≤ (gI h 48 0 l4.toNatClampNeg)) → (((¬ (gI h 48 0 l4.toNatClampNeg) = 1000001) → (((¬ (gI h 48 0 l4.toNatClampNeg) = 1000002) → (((¬ (gI h 48 0 l4.toNatClampNeg) = 1000003) → (((¬ (gI h 48 0 l4.toNatClampNeg) = 1000004) → (vp_in l3 500 ∧ (V true mX10_worked (d + 1) bc bs 5 [(0, aR 26 0), (2, aI l2), (3, aI (l3 + 1)), (4, aI (l4 + 1))] [] (sI h 52 0 l3.toNatClampNeg (gI h 48 0 l4.toNatClampNeg)) P))) ∧ (((gI h 48 0 l4.toNatClampNeg) = 1000004) → (vp_in l3 500 ∧ (V true mX10_worked (d + 1) bc bs 5 [(0, aR 26 0), (2, aI l2), (3, aI (l3 + 1)), (4, aI (l4 + 1))] [] (sI h 52 0 l3.toNatClampNeg (gI h 26 0 48)) P))))) ∧ (((gI h 48 0 l4.toNatClampNeg) = 1000003) → (vp_in l3 500 ∧ (V true mX10_worked (d + 1) bc bs 5 [(0, aR 26 0), (2, aI l2), (3, aI (l3 + 1)), (4, aI (l4 + 1))] [] (sI h 52 0 l3.toNatClampNeg (gI h 26 0 47)) P))))) ∧ (((gI h 48 0 l4.toNatClampNeg) = 1000002) → (vp_in l3 500 ∧ (V true mX10_worked (d + 1) bc bs 5 [(0, aR 26 0), (2, aI l2), (3, aI (l3 + 1)), (4, aI (l4 + 1))] [] (sI h 52 0 l3.toNatClampNeg (gI h 26 0 46)) P))))) ∧ (((gI h 48 0 l4.toNatClampNeg) = 1000001) → (vp_in l3 500 ∧ (V true mX10_worked (d + 1) bc bs 5 [(0, aR 26 0), (2, aI l2), (3, aI (l3 + 1)), (4, aI (l4 + 1))] [] (sI h 52 0 l3.toNatClampNeg (gI h 26 0 45)) P))))))))) : V true mX10_worked (d + 1) bc bs 5 [(0, aR 26 0), (2, aI l2), (3, aI l3), (4, aI l4)] [] h P := by
  refine V_iload 4 dX10_worked_5 rfl ?_
  refine V_iload_n 2 dX10_worked_7 rfl rfl ?_
  refine V_icmp_ge 133 dX10_worked_8 (by decide) ⟨fun z => ?_, fun z => ?_⟩
  · replace k := k.1 z
    refine V_aload_n 0 dX10_worked_133 rfl rfl ?_
    refine GS_26_33 dX10_worked_134 lkX10_86 ?_
    refine V_iconst 0 dX10_worked_137 (by decide) ?_
    refine V_iald (by decide) rt_52 dX10_worked_138 k.1 ?_
    replace k := k.2
    exact V_ireturn dX10_worked_139 rfl k
  · replace k := k.2 z
    refine V_aload_n 0 dX10_worked_11 rfl rfl ?_
    refine GS_26_29 dX10_worked_12 lkX10_74 ?_
    refine V_iload 4 dX10_worked_15 rfl ?_
    refine V_iald (by decide) rt_48 dX10_worked_17 k.1 ?_
    replace k := k.2
    refine V_istore 5 dX10_worked_18 (by decide) rfl ?_
    refine V_iload 5 dX10_worked_20 rfl ?_
    refine V_ldc 1000010 dX10_worked_22 lkX10_209 ?_
    refine V_icmp_ge 97 dX10_worked_24 (by decide) ⟨fun z => ?_, fun z => ?_⟩
    · replace k := k.1 z
      refine V_iinc 3 (v := l3 + (-1)) dX10_worked_97 rfl rfl (by decide) rfl ?_
      refine V_aload_n 0 dX10_worked_100 rfl rfl ?_
      refine GS_26_33 dX10_worked_101 lkX10_86 ?_
      refine V_iload_n 3 dX10_worked_104 rfl rfl ?_
      refine V_iconst 1 dX10_worked_105 (by decide) ?_
      refine V_isub dX10_worked_106 ?_
      refine V_iload 5 dX10_worked_107 rfl ?_
      refine V_aload_n 0 dX10_worked_109 rfl rfl ?_
      refine GS_26_33 dX10_worked_110 lkX10_86 ?_
      refine V_iload_n 3 dX10_worked_113 rfl rfl ?_
      refine V_iconst 1 dX10_worked_114 (by decide) ?_
      refine V_isub dX10_worked_115 ?_
      refine V_iald (by decide) rt_52 dX10_worked_116 k.1 ?_
      replace k := k.2
      refine V_aload_n 0 dX10_worked_117 rfl rfl ?_
      refine GS_26_33 dX10_worked_118 lkX10_86 ?_
      refine V_iload_n 3 dX10_worked_121 rfl rfl ?_
      refine V_iald (by decide) rt_52 dX10_worked_122 k.1 ?_
      replace k := k.2
      refine V_callS (mc := 0) (ms := 0) (as := [aI (gI h 48 0 l4.toNatClampNeg), aI (gI h 52 0 ((l3 + (-1)) - 1).toNatClampNeg), aI (gI h 52 0 (l3 + (-1)).toNatClampNeg)]) (st := [aI ((l3 + (-1)) - 1), aR 52 0]) dX10_worked_123 okX10_both stX10_both lkX10_261 rfl (Nat.le_of_ble_eq_true rfl) (Nat.zero_le _) (Nat.zero_le _) (Cl.mono (fun r1 h2 z => ?_) k)
      obtain ⟨x3, rfl, k⟩ := z
      refine V_iast (by decide) rt_52 dX10_worked_126 k.1 ?_
      replace k := k.2
      refine V_iinc 4 (v := l4 + 1) dX10_worked_127 rfl rfl (by decide) rfl ?_
      refine V_goto 5 dX10_worked_130 (by decide) ?_
      exact V_lv [3, 4, 1, 0] rfl k
    · replace k := k.2 z
      refine V_aload_n 0 dX10_worked_27 rfl rfl ?_
      refine GS_26_33 dX10_worked_28 lkX10_86 ?_
      refine V_iload_n 3 dX10_worked_31 rfl rfl ?_
      refine V_iload 5 dX10_worked_32 rfl ?_
      refine V_ldc 1000001 dX10_worked_34 lkX10_154 ?_
      refine V_icmp_ne 46 dX10_worked_36 (by decide) ⟨fun z => ?_, fun z => ?_⟩
      · replace k := k.1 z
        refine V_iload 5 dX10_worked_46 rfl ?_
        refine V_ldc 1000002 dX10_worked_48 lkX10_157 ?_
        refine V_icmp_ne 60 dX10_worked_50 (by decide) ⟨fun z => ?_, fun z => ?_⟩
        · replace k := k.1 z
          refine V_iload 5 dX10_worked_60 rfl ?_
          refine V_ldc 1000003 dX10_worked_62 lkX10_160 ?_
          refine V_icmp_ne 74 dX10_worked_64 (by decide) ⟨fun z => ?_, fun z => ?_⟩
          · replace k := k.1 z
            refine V_iload 5 dX10_worked_74 rfl ?_
            refine V_ldc 1000004 dX10_worked_76 lkX10_163 ?_
            refine V_icmp_ne 88 dX10_worked_78 (by decide) ⟨fun z => ?_, fun z => ?_⟩
            · replace k := k.1 z
              refine V_iload 5 dX10_worked_88 rfl ?_
              refine V_iast (by decide) rt_52 dX10_worked_90 k.1 ?_
              replace k := k.2
              refine V_iinc 3 (v := l3 + 1) dX10_worked_91 rfl rfl (by decide) rfl ?_
              refine V_goto 127 dX10_worked_94 (by decide) ?_
              refine V_iinc 4 (v := l4 + 1) dX10_worked_127 rfl rfl (by decide) rfl ?_
              refine V_goto 5 dX10_worked_130 (by decide) ?_
              exact V_lv [3, 4, 1, 0] rfl k
            · replace k := k.2 z
              refine V_aload_n 0 dX10_worked_81 rfl rfl ?_
              refine GI_26_48 dX10_worked_82 lkX10_254 ?_
              refine V_goto 90 dX10_worked_85 (by decide) ?_
              refine V_iast (by decide) rt_52 dX10_worked_90 k.1 ?_
              replace k := k.2
              refine V_iinc 3 (v := l3 + 1) dX10_worked_91 rfl rfl (by decide) rfl ?_
              refine V_goto 127 dX10_worked_94 (by decide) ?_
              refine V_iinc 4 (v := l4 + 1) dX10_worked_127 rfl rfl (by decide) rfl ?_
              refine V_goto 5 dX10_worked_130 (by decide) ?_
              exact V_lv [3, 4, 1, 0] rfl k
          · replace k := k.2 z
            refine V_aload_n 0 dX10_worked_67 rfl rfl ?_
            refine GI_26_47 dX10_worked_68 lkX10_251 ?_
            refine V_goto 90 dX10_worked_71 (by decide) ?_
            refine V_iast (by decide) rt_52 dX10_worked_90 k.1 ?_
            replace k := k.2
            refine V_iinc 3 (v := l3 + 1) dX10_worked_91 rfl rfl (by decide) rfl ?_
            refine V_goto 127 dX10_worked_94 (by decide) ?_
            refine V_iinc 4 (v := l4 + 1) dX10_worked_127 rfl rfl (by decide) rfl ?_
            refine V_goto 5 dX10_worked_130 (by decide) ?_
            exact V_lv [3, 4, 1, 0] rfl k
        · replace k := k.2 z
          refine V_aload_n 0 dX10_worked_53 rfl rfl ?_
          refine GI_26_46 dX10_worked_54 lkX10_248 ?_
          refine V_goto 90 dX10_worked_57 (by decide) ?_
          refine V_iast (by decide) rt_52 dX10_worked_90 k.1 ?_
          replace k := k.2
          refine V_iinc 3 (v := l3 + 1) dX10_worked_91 rfl rfl (by decide) rfl ?_
          refine V_goto 127 dX10_worked_94 (by decide) ?_
          refine V_iinc 4 (v := l4 + 1) dX10_worked_127 rfl rfl (by decide) rfl ?_
          refine V_goto 5 dX10_worked_130 (by decide) ?_
          exact V_lv [3, 4, 1, 0] rfl k
      · replace k := k.2 z
        refine V_aload_n 0 dX10_worked_39 rfl rfl ?_
        refine GI_26_45 dX10_worked_40 lkX10_245 ?_
        refine V_goto 90 dX10_worked_43 (by decide) ?_
        refine V_iast (by decide) rt_52 dX10_worked_90 k.1 ?_
        replace k := k.2
        refine V_iinc 3 (v := l3 + 1) dX10_worked_91 rfl rfl (by decide) rfl ?_
        refine V_goto 127 dX10_worked_94 (by decide) ?_
        refine V_iinc 4 (v := l4 + 1) dX10_worked_127 rfl rfl (by decide) rfl ?_
        refine V_goto 5 dX10_worked_130 (by decide) ?_
        exact V_lv [3, 4, 1, 0] rfl k
-- X10_both cuts []
set_option maxRecDepth 20000 in
set_option maxHeartbeats 2000000 in
theorem wX10_both {d bc bs : Nat} {h : HS} {P : Option AV → HS → Prop} {l0 : Int32} {l1 : Int32} {l2 : Int32} (k : (l0 = 1000010 → (P (some (aI (l1 + l2))) h)) ∧ (l0 = 1000011 → (P (some (aI (l1 - l2))) h)) ∧ (l0 = 1000012 → (P (some (aI (l1 * l2))) h)) ∧ (l0 = 1000013 → (¬ l2 = 0 ∧ (P (some (aI (l1 / l2))) h))) ∧ (l0 = 1000014 → (((l2 ≤ l1) → (P (some (aI 0)) h)) ∧ ((¬ l2 ≤ l1) → (P (some (aI 1)) h)))) ∧ (l0 = 1000015 → (((¬ l1 = l2) → (P (some (aI 0)) h)) ∧ ((l1 = l2) → (P (some (aI 1)) h)))) ∧ (l0 = 1000016 → (((l1 ≤ l2) → (P (some (aI 0)) h)) ∧ ((¬ l1 ≤ l2) → (P (some (aI 1)) h)))) ∧ (¬ (1000010 ≤ (l0).toInt ∧ (l0).toInt ≤ 1000016) → (P (some (aI (l1 &&& l2))) h))) : Cl true mX10_both (d + 1) bc bs [aI l0, aI l1, aI l2] h P := by
  refine Cl_of (by decide) (Nat.le_of_ble_eq_true rfl) ?_
  show V true mX10_both (d + 1) bc bs 0 [(0, aI l0), (1, aI l1), (2, aI l2)] [] h P
  refine V_iload_n 0 dX10_both_0 rfl rfl ?_
  obtain ⟨k0, k1, k2, k3, k4, k5, k6, k7⟩ := k
  rcases sw_cases l0 (1000010) (1000016) (by decide) (by decide) with zo | ⟨zn, zl, zx⟩
  · have k := k7 zo
    refine V_tabOut 93 dX10_both_1 (sw_out zo) (by decide) ?_
    refine V_iload_n 1 dX10_both_93 rfl rfl ?_
    refine V_iload_n 2 dX10_both_94 rfl rfl ?_
    refine V_iand dX10_both_95 ?_
    exact V_ireturn dX10_both_96 rfl k
  · match zn, zl, zx with
    | 0, _, zx =>
      have zx : l0 = 1000010 := zx
      have k := k0 zx
      refine V_tabIn 44 dX10_both_1 (by rw [zx]; decide) (by rw [zx]; decide) (by rw [zx]; rfl) (by decide) ?_
      refine V_iload_n 1 dX10_both_44 rfl rfl ?_
      refine V_iload_n 2 dX10_both_45 rfl rfl ?_
      refine V_iadd dX10_both_46 ?_
      exact V_ireturn dX10_both_47 rfl k
    | 1, _, zx =>
      have zx : l0 = 1000011 := zx
      have k := k1 zx
      refine V_tabIn 48 dX10_both_1 (by rw [zx]; decide) (by rw [zx]; decide) (by rw [zx]; rfl) (by decide) ?_
      refine V_iload_n 1 dX10_both_48 rfl rfl ?_
      refine V_iload_n 2 dX10_both_49 rfl rfl ?_
      refine V_isub dX10_both_50 ?_
      exact V_ireturn dX10_both_51 rfl k
    | 2, _, zx =>
      have zx : l0 = 1000012 := zx
      have k := k2 zx
      refine V_tabIn 52 dX10_both_1 (by rw [zx]; decide) (by rw [zx]; decide) (by rw [zx]; rfl) (by decide) ?_
      refine V_iload_n 1 dX10_both_52 rfl rfl ?_
      refine V_iload_n 2 dX10_both_53 rfl rfl ?_
      refine V_imul dX10_both_54 ?_
      exact V_ireturn dX10_both_55 rfl k
    | 3, _, zx =>
      have zx : l0 = 1000013 := zx
      have k := k3 zx
      refine V_tabIn 56 dX10_both_1 (by rw [zx]; decide) (by rw [zx]; decide) (by rw [zx]; rfl) (by decide) ?_
      refine V_iload_n 1 dX10_both_56 rfl rfl ?_
      refine V_iload_n 2 dX10_both_57 rfl rfl ?_
      refine V_idiv dX10_both_58 k.1 ?_
      replace k := k.2
      exact V_ireturn dX10_both_59 rfl k
    | 4, _, zx =>
      have zx : l0 = 1000014 := zx
      have k := k4 zx
      refine V_tabIn 60 dX10_both_1 (by rw [zx]; decide) (by rw [zx]; decide) (by rw [zx]; rfl) (by decide) ?_
      refine V_iload_n 1 dX10_both_60 rfl rfl ?_
      refine V_iload_n 2 dX10_both_61 rfl rfl ?_
      refine V_icmp_ge 69 dX10_both_62 (by decide) ⟨fun z => ?_, fun z => ?_⟩
      · replace k := k.1 z
        refine V_iconst 0 dX10_both_69 (by decide) ?_
        exact V_ireturn dX10_both_70 rfl k
      · replace k := k.2 z
        refine V_iconst 1 dX10_both_65 (by decide) ?_
        refine V_goto 70 dX10_both_66 (by decide) ?_
        exact V_ireturn dX10_both_70 rfl k
    | 5, _, zx =>
      have zx : l0 = 1000015 := zx
      have k := k5 zx
      refine V_tabIn 71 dX10_both_1 (by rw [zx]; decide) (by rw [zx]; decide) (by rw [zx]; rfl) (by decide) ?_
      refine V_iload_n 1 dX10_both_71 rfl rfl ?_
      refine V_iload_n 2 dX10_both_72 rfl rfl ?_
      refine V_icmp_ne 80 dX10_both_73 (by decide) ⟨fun z => ?_, fun z => ?_⟩
      · replace k := k.1 z
        refine V_iconst 0 dX10_both_80 (by decide) ?_
        exact V_ireturn dX10_both_81 rfl k
      · replace k := k.2 z
        refine V_iconst 1 dX10_both_76 (by decide) ?_
        refine V_goto 81 dX10_both_77 (by decide) ?_
        exact V_ireturn dX10_both_81 rfl k
    | 6, _, zx =>
      have zx : l0 = 1000016 := zx
      have k := k6 zx
      refine V_tabIn 82 dX10_both_1 (by rw [zx]; decide) (by rw [zx]; decide) (by rw [zx]; rfl) (by decide) ?_
      refine V_iload_n 1 dX10_both_82 rfl rfl ?_
      refine V_iload_n 2 dX10_both_83 rfl rfl ?_
      refine V_icmp_le 91 dX10_both_84 (by decide) ⟨fun z => ?_, fun z => ?_⟩
      · replace k := k.1 z
        refine V_iconst 0 dX10_both_91 (by decide) ?_
        exact V_ireturn dX10_both_92 rfl k
      · replace k := k.2 z
        refine V_iconst 1 dX10_both_87 (by decide) ?_
        refine V_goto 92 dX10_both_88 (by decide) ?_
        exact V_ireturn dX10_both_92 rfl k
    | n + 7, zl, _ => exact absurd zl (by omega)
-- X10_isMonth cuts []
set_option maxRecDepth 20000 in
set_option maxHeartbeats 2000000 in
theorem wX10_isMonth {d bc bs : Nat} {h : HS} {P : Option AV → HS → Prop} {l0 : Int32} (k : Cl true mX10_isIn d 0 0 [aI l0, aI 0, aI 12] h (fun r1 h2 => ∃ x3 : Int32, r1 = some (aI x3) ∧ ((x3 = 0 ∨ x3 = 1) ∧ P (some (aI x3)) h2))) : Cl true mX10_isMonth (d + 1) bc bs [aI l0] h P := by
  refine Cl_of (by decide) (Nat.le_of_ble_eq_true rfl) ?_
  show V true mX10_isMonth (d + 1) bc bs 0 [(0, aI l0)] [] h P
  refine V_iload_n 0 dX10_isMonth_0 rfl rfl ?_
  refine V_iconst 0 dX10_isMonth_1 (by decide) ?_
  refine V_bipush 12 dX10_isMonth_2 (by decide) ?_
  refine V_callS (mc := 0) (ms := 0) (as := [aI l0, aI 0, aI 12]) (st := []) dX10_isMonth_4 okX10_isIn stX10_isIn lkX10_111 rfl (Nat.le_of_ble_eq_true rfl) (Nat.zero_le _) (Nat.zero_le _) (Cl.mono (fun r1 h2 z => ?_) k)
  obtain ⟨x3, rfl, k⟩ := z
  exact V_zreturn dX10_isMonth_7 rfl k.1 k.2
-- X10_pay cuts [72]
set_option maxRecDepth 20000 in
set_option maxHeartbeats 2000000 in
theorem wX10_pay {d bc bs : Nat} {h : HS} {P : Option AV → HS → Prop} {l1 : Int32} {l2 : Int32} {l3 : Int32} (k : Cl true mX10_isIn d 0 0 [aI l1, aI 0, aI 7] h (fun r1 h2 => ∃ x3 : Int32, r1 = some (aI x3) ∧ (((x3 = 0) → (P (some (aI (-1000001))) h2)) ∧ ((¬ x3 = 0) → (Cl true mX10_isMonth d 0 0 [aI l2] h2 (fun r4 h5 => ∃ x6 : Int32, r4 = some (aI x6) ∧ (((x6 = 0) → (P (some (aI (-1000001))) h5)) ∧ ((¬ x6 = 0) → (Cl true mX10_isIn d 0 0 [aI l3, aI 0, aI 4] h5 (fun r7 h8 => ∃ x9 : Int32, r7 = some (aI x9) ∧ (((¬ x9 = 0) → (Cl true mX10_takes d 0 0 [aR 26 0, aI l1, aI l2] h8 (fun r10 h11 => r10 = none ∧ (((3 ≤ l3) → (V true mX10_pay (d + 1) bc bs 72 [(0, aR 26 0), (3, aI l3), (4, aI 0)] [] h11 P)) ∧ ((¬ 3 ≤ l3) → (((¬ l3 = 0) → (((¬ l3 = 1) → (P (some (aI (gI h11 26 0 47))) h11)) ∧ ((l3 = 1) → (P (some (aI (gI h11 26 0 46))) h11)))) ∧ ((l3 = 0) → (P (some (aI (gI h11 26 0 45))) h11)))))))) ∧ ((x9 = 0) → (P (some (aI (-1000001))) h8))))))))))))) : Cl true mX10_pay (d + 1) bc bs [aR 26 0, aI l1, aI l2, aI l3] h P := by
  refine Cl_of (by decide) (Nat.le_of_ble_eq_true rfl) ?_
  show V true mX10_pay (d + 1) bc bs 0 [(0, aR 26 0), (1, aI l1), (2, aI l2), (3, aI l3)] [] h P
  refine V_iload_n 1 dX10_pay_0 rfl rfl ?_
  refine V_iconst 0 dX10_pay_1 (by decide) ?_
  refine V_bipush 7 dX10_pay_2 (by decide) ?_
  refine V_callS (mc := 0) (ms := 0) (as := [aI l1, aI 0, aI 7]) (st := []) dX10_pay_4 okX10_isIn stX10_isIn lkX10_111 rfl (Nat.le_of_ble_eq_true rfl) (Nat.zero_le _) (Nat.zero_le _) (Cl.mono (fun r1 h2 z => ?_) k)
  obtain ⟨x3, rfl, k⟩ := z
  refine V_if_eq 26 dX10_pay_7 (by decide) ⟨fun z => ?_, fun z => ?_⟩
  · replace k := k.1 z
    refine V_ldc_w (-1000001) dX10_pay_26 lkX10_268 ?_
    exact V_ireturn dX10_pay_29 rfl k
  · replace k := k.2 z
    refine V_iload_n 2 dX10_pay_10 rfl rfl ?_
    refine V_callS (mc := 0) (ms := 0) (as := [aI l2]) (st := []) dX10_pay_11 okX10_isMonth stX10_isMonth lkX10_265 rfl (Nat.le_of_ble_eq_true rfl) (Nat.zero_le _) (Nat.zero_le _) (Cl.mono (fun r4 h5 z => ?_) k)
    obtain ⟨x6, rfl, k⟩ := z
    refine V_if_eq 26 dX10_pay_14 (by decide) ⟨fun z => ?_, fun z => ?_⟩
    · replace k := k.1 z
      refine V_ldc_w (-1000001) dX10_pay_26 lkX10_268 ?_
      exact V_ireturn dX10_pay_29 rfl k
    · replace k := k.2 z
      refine V_iload_n 3 dX10_pay_17 rfl rfl ?_
      refine V_iconst 0 dX10_pay_18 (by decide) ?_
      refine V_iconst 4 dX10_pay_19 (by decide) ?_
      refine V_callS (mc := 0) (ms := 0) (as := [aI l3, aI 0, aI 4]) (st := []) dX10_pay_20 okX10_isIn stX10_isIn lkX10_111 rfl (Nat.le_of_ble_eq_true rfl) (Nat.zero_le _) (Nat.zero_le _) (Cl.mono (fun r7 h8 z => ?_) k)
      obtain ⟨x9, rfl, k⟩ := z
      refine V_if_ne 30 dX10_pay_23 (by decide) ⟨fun z => ?_, fun z => ?_⟩
      · replace k := k.1 z
        refine V_aload_n 0 dX10_pay_30 rfl rfl ?_
        refine V_iload_n 1 dX10_pay_31 rfl rfl ?_
        refine V_iload_n 2 dX10_pay_32 rfl rfl ?_
        refine V_callV (mc := 0) (ms := 0) (as := [aI l1, aI l2]) (st := []) (by decide) rt_26 rfl dX10_pay_33 okX10_takes inX10_takes seX10_takes lkX10_269 rfl (Nat.le_of_ble_eq_true rfl) (Nat.zero_le _) (Nat.zero_le _) (Cl.mono (fun r10 h11 z => ?_) k)
        obtain ⟨rfl, k⟩ := z
        refine V_iload_n 3 dX10_pay_36 rfl rfl ?_
        refine V_iconst 3 dX10_pay_37 (by decide) ?_
        refine V_icmp_ge 69 dX10_pay_38 (by decide) ⟨fun z => ?_, fun z => ?_⟩
        · replace k := k.1 z
          refine V_iconst 0 dX10_pay_69 (by decide) ?_
          refine V_istore 4 dX10_pay_70 (by decide) rfl ?_
          exact V_lv [1, 4, 0] rfl k
        · replace k := k.2 z
          refine V_iload_n 3 dX10_pay_41 rfl rfl ?_
          refine V_if_ne 52 dX10_pay_42 (by decide) ⟨fun z => ?_, fun z => ?_⟩
          · replace k := k.1 z
            refine V_iload_n 3 dX10_pay_52 rfl rfl ?_
            refine V_iconst 1 dX10_pay_53 (by decide) ?_
            refine V_icmp_ne 64 dX10_pay_54 (by decide) ⟨fun z => ?_, fun z => ?_⟩
            · replace k := k.1 z
              refine V_aload_n 0 dX10_pay_64 rfl rfl ?_
              refine GI_26_47 dX10_pay_65 lkX10_251 ?_
              exact V_ireturn dX10_pay_68 rfl k
            · replace k := k.2 z
              refine V_aload_n 0 dX10_pay_57 rfl rfl ?_
              refine GI_26_46 dX10_pay_58 lkX10_248 ?_
              refine V_goto 68 dX10_pay_61 (by decide) ?_
              exact V_ireturn dX10_pay_68 rfl k
          · replace k := k.2 z
            refine V_aload_n 0 dX10_pay_45 rfl rfl ?_
            refine GI_26_45 dX10_pay_46 lkX10_245 ?_
            refine V_goto 68 dX10_pay_49 (by decide) ?_
            exact V_ireturn dX10_pay_68 rfl k
      · replace k := k.2 z
        refine V_ldc_w (-1000001) dX10_pay_26 lkX10_268 ?_
        exact V_ireturn dX10_pay_29 rfl k
set_option maxRecDepth 20000 in
set_option maxHeartbeats 2000000 in
theorem wX10_pay_72 {d bc bs : Nat} {h : HS} {P : Option AV → HS → Prop} {l3 : Int32} {l4 : Int32} (k : (((gI h 26 0 24) ≤ l4) → (((¬ l3 = 4) → (P (some (aI 0)) h)) ∧ ((l3 = 4) → (P (some (aI (-1))) h)))) ∧ ((¬ (gI h 26 0 24) ≤ l4) → (vp_in l4 8 ∧ (vp_in (l4 + 1) 9 ∧ (Cl true mX10_worked d 0 0 [aR 26 0, aI (gI h 47 0 l4.toNatClampNeg), aI (gI h 46 0 (l4 + 1).toNatClampNeg)] h (fun r1 h2 => ∃ x3 : Int32, r1 = some (aI x3) ∧ (((¬ x3 = 1) → (V true mX10_pay (d + 1) bc bs 72 [(0, aR 26 0), (3, aI l3), (4, aI (l4 + 1))] [] h2 P)) ∧ ((x3 = 1) → (((¬ l3 = 4) → (vp_in l4 9 ∧ (vp_in l4 8 ∧ (Cl true mX10_worked d 0 0 [aR 26 0, aI (gI h2 46 0 l4.toNatClampNeg), aI (gI h2 47 0 l4.toNatClampNeg)] h2 (fun r4 h5 => ∃ x6 : Int32, r4 = some (aI x6) ∧ (P (some (aI x6)) h5)))))) ∧ ((l3 = 4) → (P (some (aI l4)) h2))))))))))) : V true mX10_pay (d + 1) bc bs 72 [(0, aR 26 0), (3, aI l3), (4, aI l4)] [] h P := by
  refine V_iload 4 dX10_pay_72 rfl ?_
  refine V_aload_n 0 dX10_pay_74 rfl rfl ?_
  refine GI_26_24 dX10_pay_75 lkX10_137 ?_
  refine V_icmp_ge 140 dX10_pay_78 (by decide) ⟨fun z => ?_, fun z => ?_⟩
  · replace k := k.1 z
    refine V_iload_n 3 dX10_pay_140 rfl rfl ?_
    refine V_iconst 4 dX10_pay_141 (by decide) ?_
    refine V_icmp_ne 149 dX10_pay_142 (by decide) ⟨fun z => ?_, fun z => ?_⟩
    · replace k := k.1 z
      refine V_iconst 0 dX10_pay_149 (by decide) ?_
      exact V_ireturn dX10_pay_150 rfl k
    · replace k := k.2 z
      refine V_iconst (-1) dX10_pay_145 (by decide) ?_
      refine V_goto 150 dX10_pay_146 (by decide) ?_
      exact V_ireturn dX10_pay_150 rfl k
  · replace k := k.2 z
    refine V_aload_n 0 dX10_pay_81 rfl rfl ?_
    refine V_aload_n 0 dX10_pay_82 rfl rfl ?_
    refine GS_26_28 dX10_pay_83 lkX10_71 ?_
    refine V_iload 4 dX10_pay_86 rfl ?_
    refine V_iald (by decide) rt_47 dX10_pay_88 k.1 ?_
    replace k := k.2
    refine V_aload_n 0 dX10_pay_89 rfl rfl ?_
    refine GS_26_27 dX10_pay_90 lkX10_68 ?_
    refine V_iload 4 dX10_pay_93 rfl ?_
    refine V_iconst 1 dX10_pay_95 (by decide) ?_
    refine V_iadd dX10_pay_96 ?_
    refine V_iald (by decide) rt_46 dX10_pay_97 k.1 ?_
    replace k := k.2
    refine V_callV (mc := 0) (ms := 0) (as := [aI (gI h 47 0 l4.toNatClampNeg), aI (gI h 46 0 (l4 + 1).toNatClampNeg)]) (st := []) (by decide) rt_26 rfl dX10_pay_98 okX10_worked inX10_worked seX10_worked lkX10_273 rfl (Nat.le_of_ble_eq_true rfl) (Nat.zero_le _) (Nat.zero_le _) (Cl.mono (fun r1 h2 z => ?_) k)
    obtain ⟨x3, rfl, k⟩ := z
    refine V_iconst 1 dX10_pay_101 (by decide) ?_
    refine V_icmp_ne 134 dX10_pay_102 (by decide) ⟨fun z => ?_, fun z => ?_⟩
    · replace k := k.1 z
      refine V_iinc 4 (v := l4 + 1) dX10_pay_134 rfl rfl (by decide) rfl ?_
      refine V_goto 72 dX10_pay_137 (by decide) ?_
      exact V_lv [1, 2, 0] rfl k
    · replace k := k.2 z
      refine V_iload_n 3 dX10_pay_105 rfl rfl ?_
      refine V_iconst 4 dX10_pay_106 (by decide) ?_
      refine V_icmp_ne 115 dX10_pay_107 (by decide) ⟨fun z => ?_, fun z => ?_⟩
      · replace k := k.1 z
        refine V_aload_n 0 dX10_pay_115 rfl rfl ?_
        refine V_aload_n 0 dX10_pay_116 rfl rfl ?_
        refine GS_26_27 dX10_pay_117 lkX10_68 ?_
        refine V_iload 4 dX10_pay_120 rfl ?_
        refine V_iald (by decide) rt_46 dX10_pay_122 k.1 ?_
        replace k := k.2
        refine V_aload_n 0 dX10_pay_123 rfl rfl ?_
        refine GS_26_28 dX10_pay_124 lkX10_71 ?_
        refine V_iload 4 dX10_pay_127 rfl ?_
        refine V_iald (by decide) rt_47 dX10_pay_129 k.1 ?_
        replace k := k.2
        refine V_callV (mc := 0) (ms := 0) (as := [aI (gI h2 46 0 l4.toNatClampNeg), aI (gI h2 47 0 l4.toNatClampNeg)]) (st := []) (by decide) rt_26 rfl dX10_pay_130 okX10_worked inX10_worked seX10_worked lkX10_273 rfl (Nat.le_of_ble_eq_true rfl) (Nat.zero_le _) (Nat.zero_le _) (Cl.mono (fun r4 h5 z => ?_) k)
        obtain ⟨x6, rfl, k⟩ := z
        exact V_ireturn dX10_pay_133 rfl k
      · replace k := k.2 z
        refine V_iload 4 dX10_pay_110 rfl ?_
        refine V_goto 133 dX10_pay_112 (by decide) ?_
        exact V_ireturn dX10_pay_133 rfl k
-- X10_statement cuts [39]
set_option maxRecDepth 20000 in
set_option maxHeartbeats 2000000 in
theorem wX10_statement {d bc bs : Nat} {h : HS} {P : Option AV → HS → Prop} {l1 : Int32} {l2 : Int32} {l3 : Int32} (k : Cl true mX10_isIn d 0 0 [aI l1, aI 0, aI 9] h (fun r1 h2 => ∃ x3 : Int32, r1 = some (aI x3) ∧ (((x3 = 0) → (P (some (aI (-1000001))) h2)) ∧ ((¬ x3 = 0) → (Cl true mX10_isMonth d 0 0 [aI l2] h2 (fun r4 h5 => ∃ x6 : Int32, r4 = some (aI x6) ∧ (((x6 = 0) → (P (some (aI (-1000001))) h5)) ∧ ((¬ x6 = 0) → (Cl true mX10_isIn d 0 0 [aI l3, aI 0, aI (gI h5 26 0 0)] h5 (fun r7 h8 => ∃ x9 : Int32, r7 = some (aI x9) ∧ (((¬ x9 = 0) → (V true mX10_statement (d + 1) bc bs 39 [(0, aR 26 0), (1, aI l1), (2, aI l2), (3, aI l3), (4, aI 0), (5, aI 0)] [] h8 P)) ∧ ((x9 = 0) → (P (some (aI (-1000001))) h8))))))))))))) : Cl true mX10_statement (d + 1) bc bs [aR 26 0, aI l1, aI l2, aI l3] h P := by
  refine Cl_of (by decide) (Nat.le_of_ble_eq_true rfl) ?_
  show V true mX10_statement (d + 1) bc bs 0 [(0, aR 26 0), (1, aI l1), (2, aI l2), (3, aI l3)] [] h P
  refine V_iload_n 1 dX10_statement_0 rfl rfl ?_
  refine V_iconst 0 dX10_statement_1 (by decide) ?_
  refine V_bipush 9 dX10_statement_2 (by decide) ?_
  refine V_callS (mc := 0) (ms := 0) (as := [aI l1, aI 0, aI 9]) (st := []) dX10_statement_4 okX10_isIn stX10_isIn lkX10_111 rfl (Nat.le_of_ble_eq_true rfl) (Nat.zero_le _) (Nat.zero_le _) (Cl.mono (fun r1 h2 z => ?_) k)
  obtain ⟨x3, rfl, k⟩ := z
  refine V_if_eq 29 dX10_statement_7 (by decide) ⟨fun z => ?_, fun z => ?_⟩
  · replace k := k.1 z
    refine V_ldc_w (-1000001) dX10_statement_29 lkX10_268 ?_
    exact V_ireturn dX10_statement_32 rfl k
  · replace k := k.2 z
    refine V_iload_n 2 dX10_statement_10 rfl rfl ?_
    refine V_callS (mc := 0) (ms := 0) (as := [aI l2]) (st := []) dX10_statement_11 okX10_isMonth stX10_isMonth lkX10_265 rfl (Nat.le_of_ble_eq_true rfl) (Nat.zero_le _) (Nat.zero_le _) (Cl.mono (fun r4 h5 z => ?_) k)
    obtain ⟨x6, rfl, k⟩ := z
    refine V_if_eq 29 dX10_statement_14 (by decide) ⟨fun z => ?_, fun z => ?_⟩
    · replace k := k.1 z
      refine V_ldc_w (-1000001) dX10_statement_29 lkX10_268 ?_
      exact V_ireturn dX10_statement_32 rfl k
    · replace k := k.2 z
      refine V_iload_n 3 dX10_statement_17 rfl rfl ?_
      refine V_iconst 0 dX10_statement_18 (by decide) ?_
      refine V_aload_n 0 dX10_statement_19 rfl rfl ?_
      refine GI_26_0 dX10_statement_20 lkX10_119 ?_
      refine V_callS (mc := 0) (ms := 0) (as := [aI l3, aI 0, aI (gI h5 26 0 0)]) (st := []) dX10_statement_23 okX10_isIn stX10_isIn lkX10_111 rfl (Nat.le_of_ble_eq_true rfl) (Nat.zero_le _) (Nat.zero_le _) (Cl.mono (fun r7 h8 z => ?_) k)
      obtain ⟨x9, rfl, k⟩ := z
      refine V_if_ne 33 dX10_statement_26 (by decide) ⟨fun z => ?_, fun z => ?_⟩
      · replace k := k.1 z
        refine V_iconst 0 dX10_statement_33 (by decide) ?_
        refine V_istore 4 dX10_statement_34 (by decide) rfl ?_
        refine V_iconst 0 dX10_statement_36 (by decide) ?_
        refine V_istore 5 dX10_statement_37 (by decide) rfl ?_
        exact V_lv [2, 3, 4, 5, 1, 0] rfl k
      · replace k := k.2 z
        refine V_ldc_w (-1000001) dX10_statement_29 lkX10_268 ?_
        exact V_ireturn dX10_statement_32 rfl k
set_option maxRecDepth 20000 in
set_option maxHeartbeats 2000000 in
theorem wX10_statement_39 {d bc bs : Nat} {h : HS} {P : Option AV → HS → Prop} {l1 : Int32} {l2 : Int32} {l3 : Int32} {l4 : Int32} {l5 : Int32} (k : (((gI h 26 0 2) ≤ l5) → (P (some (aI l4)) h)) ∧ ((¬ (gI h 26 0 2) ≤ l5) → (vp_in l5 120 ∧ (((¬ (gI h 34 0 l5.toNatClampNeg) = l1) → (V true mX10_statement (d + 1) bc bs 39 [(0, aR 26 0), (1, aI l1), (2, aI l2), (3, aI l3), (4, aI l4), (5, aI (l5 + 1))] [] h P)) ∧ (((gI h 34 0 l5.toNatClampNeg) = l1) → (vp_in l5 120 ∧ (((l3 < (gI h 39 0 l5.toNatClampNeg)) → (V true mX10_statement (d + 1) bc bs 39 [(0, aR 26 0), (1, aI l1), (2, aI l2), (3, aI l3), (4, aI l4), (5, aI (l5 + 1))] [] h P)) ∧ ((¬ l3 < (gI h 39 0 l5.toNatClampNeg)) → (vp_in l5 120 ∧ (((¬ (gI h 40 0 l5.toNatClampNeg) = (-1)) → (vp_in l5 120 ∧ (Cl true mX10_isOf d 0 0 [aI (gI h 40 0 l5.toNatClampNeg), aI l2] h (fun r1 h2 => ∃ x3 : Int32, r1 = some (aI x3) ∧ (((x3 = 0) → (vp_in l5 120 ∧ (Cl true mX10_isOf d 0 0 [aI (gI h2 41 0 l5.toNatClampNeg), aI l2] h2 (fun r4 h5 => ∃ x6 : Int32, r4 = some (aI x6) ∧ (((x6 = 0) → (V true mX10_statement (d + 1) bc bs 39 [(0, aR 26 0), (1, aI l1), (2, aI l2), (3, aI l3), (4, aI l4), (5, aI (l5 + 1))] [] h5 P)) ∧ ((¬ x6 = 0) → (vp_in l5 120 ∧ (((l3 < (gI h5 41 0 l5.toNatClampNeg)) → (V true mX10_statement (d + 1) bc bs 39 [(0, aR 26 0), (1, aI l1), (2, aI l2), (3, aI l3), (4, aI l4), (5, aI (l5 + 1))] [] h5 P)) ∧ ((¬ l3 < (gI h5 41 0 l5.toNatClampNeg)) → (vp_in l5 120 ∧ (V true mX10_statement (d + 1) bc bs 39 [(0, aR 26 0), (1, aI l1), (2, aI l2), (3, aI l3), (4, aI (l4 - (gI h5 43 0 l5.toNatClampNeg))), (5, aI (l5 + 1))] [] h5 P))))))))))) ∧ ((¬ x3 = 0) → (vp_in l5 120 ∧ (((l3 < (gI h2 40 0 l5.toNatClampNeg)) → (vp_in l5 120 ∧ (Cl true mX10_isOf d 0 0 [aI (gI h2 41 0 l5.toNatClampNeg), aI l2] h2 (fun r7 h8 => ∃ x9 : Int32, r7 = some (aI x9) ∧ (((x9 = 0) → (V true mX10_statement (d + 1) bc bs 39 [(0, aR 26 0), (1, aI l1), (2, aI l2), (3, aI l3), (4, aI l4), (5, aI (l5 + 1))] [] h8 P)) ∧ ((¬ x9 = 0) → (vp_in l5 120 ∧ (((l3 < (gI h8 41 0 l5.toNatClampNeg)) → (V true mX10_statement (d + 1) bc bs 39 [(0, aR 26 0), (1, aI l1), (2, aI l2), (3, aI l3), (4, aI l4), (5, aI (l5 + 1))] [] h8 P)) ∧ ((¬ l3 < (gI h8 41 0 l5.toNatClampNeg)) → (vp_in l5 120 ∧ (V true mX10_statement (d + 1) bc bs 39 [(0, aR 26 0), (1, aI l1), (2, aI l2), (3, aI l3), (4, aI (l4 - (gI h8 43 0 l5.toNatClampNeg))), (5, aI (l5 + 1))] [] h8 P))))))))))) ∧ ((¬ l3 < (gI h2 40 0 l5.toNatClampNeg)) → (vp_in l5 120 ∧ (vp_in l5 120 ∧ (Cl true mX10_isOf d 0 0 [aI (gI h2 41 0 l5.toNatClampNeg), aI l2] h2 (fun r10 h11 => ∃ x12 : Int32, r10 = some (aI x12) ∧ (((x12 = 0) → (V true mX10_statement (d + 1) bc bs 39 [(0, aR 26 0), (1, aI l1), (2, aI l2), (3, aI l3), (4, aI (l4 + (gI h2 43 0 l5.toNatClampNeg))), (5, aI (l5 + 1))] [] h11 P)) ∧ ((¬ x12 = 0) → (vp_in l5 120 ∧ (((l3 < (gI h11 41 0 l5.toNatClampNeg)) → (V true mX10_statement (d + 1) bc bs 39 [(0, aR 26 0), (1, aI l1), (2, aI l2), (3, aI l3), (4, aI (l4 + (gI h2 43 0 l5.toNatClampNeg))), (5, aI (l5 + 1))] [] h11 P)) ∧ ((¬ l3 < (gI h11 41 0 l5.toNatClampNeg)) → (vp_in l5 120 ∧ (V true mX10_statement (d + 1) bc bs 39 [(0, aR 26 0), (1, aI l1), (2, aI l2), (3, aI l3), (4, aI ((l4 + (gI h2 43 0 l5.toNatClampNeg)) - (gI h11 43 0 l5.toNatClampNeg))), (5, aI (l5 + 1))] [] h11 P)))))))))))))))))))) ∧ (((gI h 40 0 l5.toNatClampNeg) = (-1)) → (V true mX10_statement (d + 1) bc bs 39 [(0, aR 26 0), (1, aI l1), (2, aI l2), (3, aI l3), (4, aI l4), (5, aI (l5 + 1))] [] h P)))))))))))) : V true mX10_statement (d + 1) bc bs 39 [(0, aR 26 0), (1, aI l1), (2, aI l2), (3, aI l3), (4, aI l4), (5, aI l5)] [] h P := by
  refine V_iload 5 dX10_statement_39 rfl ?_
  refine V_aload_n 0 dX10_statement_41 rfl rfl ?_
  refine GI_26_2 dX10_statement_42 lkX10_125 ?_
  refine V_icmp_ge 164 dX10_statement_45 (by decide) ⟨fun z => ?_, fun z => ?_⟩
  · replace k := k.1 z
    refine V_iload 4 dX10_statement_164 rfl ?_
    exact V_ireturn dX10_statement_166 rfl k
  · replace k := k.2 z
    refine V_aload_n 0 dX10_statement_48 rfl rfl ?_
    refine GS_26_10 dX10_statement_49 lkX10_31 ?_
    refine V_iload 5 dX10_statement_52 rfl ?_
    refine V_iald (by decide) rt_34 dX10_statement_54 k.1 ?_
    replace k := k.2
    refine V_iload_n 1 dX10_statement_55 rfl rfl ?_
    refine V_icmp_ne 158 dX10_statement_56 (by decide) ⟨fun z => ?_, fun z => ?_⟩
    · replace k := k.1 z
      refine V_iinc 5 (v := l5 + 1) dX10_statement_158 rfl rfl (by decide) rfl ?_
      refine V_goto 39 dX10_statement_161 (by decide) ?_
      exact V_lv [1, 2, 3, 4, 5, 0] rfl k
    · replace k := k.2 z
      refine V_aload_n 0 dX10_statement_59 rfl rfl ?_
      refine GS_26_15 dX10_statement_60 lkX10_46 ?_
      refine V_iload 5 dX10_statement_63 rfl ?_
      refine V_iald (by decide) rt_39 dX10_statement_65 k.1 ?_
      replace k := k.2
      refine V_iload_n 3 dX10_statement_66 rfl rfl ?_
      refine V_icmp_gt 158 dX10_statement_67 (by decide) ⟨fun z => ?_, fun z => ?_⟩
      · replace k := k.1 z
        refine V_iinc 5 (v := l5 + 1) dX10_statement_158 rfl rfl (by decide) rfl ?_
        refine V_goto 39 dX10_statement_161 (by decide) ?_
        exact V_lv [1, 2, 3, 4, 5, 0] rfl k
      · replace k := k.2 z
        refine V_aload_n 0 dX10_statement_70 rfl rfl ?_
        refine GS_26_16 dX10_statement_71 lkX10_49 ?_
        refine V_iload 5 dX10_statement_74 rfl ?_
        refine V_iald (by decide) rt_40 dX10_statement_76 k.1 ?_
        replace k := k.2
        refine V_iconst (-1) dX10_statement_77 (by decide) ?_
        refine V_icmp_ne 84 dX10_statement_78 (by decide) ⟨fun z => ?_, fun z => ?_⟩
        · replace k := k.1 z
          refine V_aload_n 0 dX10_statement_84 rfl rfl ?_
          refine GS_26_16 dX10_statement_85 lkX10_49 ?_
          refine V_iload 5 dX10_statement_88 rfl ?_
          refine V_iald (by decide) rt_40 dX10_statement_90 k.1 ?_
          replace k := k.2
          refine V_iload_n 2 dX10_statement_91 rfl rfl ?_
          refine V_callS (mc := 0) (ms := 0) (as := [aI (gI h 40 0 l5.toNatClampNeg), aI l2]) (st := []) dX10_statement_92 okX10_isOf stX10_isOf lkX10_257 rfl (Nat.le_of_ble_eq_true rfl) (Nat.zero_le _) (Nat.zero_le _) (Cl.mono (fun r1 h2 z => ?_) k)
          obtain ⟨x3, rfl, k⟩ := z
          refine V_if_eq 121 dX10_statement_95 (by decide) ⟨fun z => ?_, fun z => ?_⟩
          · replace k := k.1 z
            refine V_aload_n 0 dX10_statement_121 rfl rfl ?_
            refine GS_26_17 dX10_statement_122 lkX10_52 ?_
            refine V_iload 5 dX10_statement_125 rfl ?_
            refine V_iald (by decide) rt_41 dX10_statement_127 k.1 ?_
            replace k := k.2
            refine V_iload_n 2 dX10_statement_128 rfl rfl ?_
            refine V_callS (mc := 0) (ms := 0) (as := [aI (gI h2 41 0 l5.toNatClampNeg), aI l2]) (st := []) dX10_statement_129 okX10_isOf stX10_isOf lkX10_257 rfl (Nat.le_of_ble_eq_true rfl) (Nat.zero_le _) (Nat.zero_le _) (Cl.mono (fun r4 h5 z => ?_) k)
            obtain ⟨x6, rfl, k⟩ := z
            refine V_if_eq 158 dX10_statement_132 (by decide) ⟨fun z => ?_, fun z => ?_⟩
            · replace k := k.1 z
              refine V_iinc 5 (v := l5 + 1) dX10_statement_158 rfl rfl (by decide) rfl ?_
              refine V_goto 39 dX10_statement_161 (by decide) ?_
              exact V_lv [1, 2, 3, 4, 5, 0] rfl k
            · replace k := k.2 z
              refine V_aload_n 0 dX10_statement_135 rfl rfl ?_
              refine GS_26_17 dX10_statement_136 lkX10_52 ?_
              refine V_iload 5 dX10_statement_139 rfl ?_
              refine V_iald (by decide) rt_41 dX10_statement_141 k.1 ?_
              replace k := k.2
              refine V_iload_n 3 dX10_statement_142 rfl rfl ?_
              refine V_icmp_gt 158 dX10_statement_143 (by decide) ⟨fun z => ?_, fun z => ?_⟩
              · replace k := k.1 z
                refine V_iinc 5 (v := l5 + 1) dX10_statement_158 rfl rfl (by decide) rfl ?_
                refine V_goto 39 dX10_statement_161 (by decide) ?_
                exact V_lv [1, 2, 3, 4, 5, 0] rfl k
              · replace k := k.2 z
                refine V_iload 4 dX10_statement_146 rfl ?_
                refine V_aload_n 0 dX10_statement_148 rfl rfl ?_
                refine GS_26_19 dX10_statement_149 lkX10_58 ?_
                refine V_iload 5 dX10_statement_152 rfl ?_
                refine V_iald (by decide) rt_43 dX10_statement_154 k.1 ?_
                replace k := k.2
                refine V_isub dX10_statement_155 ?_
                refine V_istore 4 dX10_statement_156 (by decide) rfl ?_
                refine V_iinc 5 (v := l5 + 1) dX10_statement_158 rfl rfl (by decide) rfl ?_
                refine V_goto 39 dX10_statement_161 (by decide) ?_
                exact V_lv [2, 3, 4, 5, 1, 0] rfl k
          · replace k := k.2 z
            refine V_aload_n 0 dX10_statement_98 rfl rfl ?_
            refine GS_26_16 dX10_statement_99 lkX10_49 ?_
            refine V_iload 5 dX10_statement_102 rfl ?_
            refine V_iald (by decide) rt_40 dX10_statement_104 k.1 ?_
            replace k := k.2
            refine V_iload_n 3 dX10_statement_105 rfl rfl ?_
            refine V_icmp_gt 121 dX10_statement_106 (by decide) ⟨fun z => ?_, fun z => ?_⟩
            · replace k := k.1 z
              refine V_aload_n 0 dX10_statement_121 rfl rfl ?_
              refine GS_26_17 dX10_statement_122 lkX10_52 ?_
              refine V_iload 5 dX10_statement_125 rfl ?_
              refine V_iald (by decide) rt_41 dX10_statement_127 k.1 ?_
              replace k := k.2
              refine V_iload_n 2 dX10_statement_128 rfl rfl ?_
              refine V_callS (mc := 0) (ms := 0) (as := [aI (gI h2 41 0 l5.toNatClampNeg), aI l2]) (st := []) dX10_statement_129 okX10_isOf stX10_isOf lkX10_257 rfl (Nat.le_of_ble_eq_true rfl) (Nat.zero_le _) (Nat.zero_le _) (Cl.mono (fun r7 h8 z => ?_) k)
              obtain ⟨x9, rfl, k⟩ := z
              refine V_if_eq 158 dX10_statement_132 (by decide) ⟨fun z => ?_, fun z => ?_⟩
              · replace k := k.1 z
                refine V_iinc 5 (v := l5 + 1) dX10_statement_158 rfl rfl (by decide) rfl ?_
                refine V_goto 39 dX10_statement_161 (by decide) ?_
                exact V_lv [1, 2, 3, 4, 5, 0] rfl k
              · replace k := k.2 z
                refine V_aload_n 0 dX10_statement_135 rfl rfl ?_
                refine GS_26_17 dX10_statement_136 lkX10_52 ?_
                refine V_iload 5 dX10_statement_139 rfl ?_
                refine V_iald (by decide) rt_41 dX10_statement_141 k.1 ?_
                replace k := k.2
                refine V_iload_n 3 dX10_statement_142 rfl rfl ?_
                refine V_icmp_gt 158 dX10_statement_143 (by decide) ⟨fun z => ?_, fun z => ?_⟩
                · replace k := k.1 z
                  refine V_iinc 5 (v := l5 + 1) dX10_statement_158 rfl rfl (by decide) rfl ?_
                  refine V_goto 39 dX10_statement_161 (by decide) ?_
                  exact V_lv [1, 2, 3, 4, 5, 0] rfl k
                · replace k := k.2 z
                  refine V_iload 4 dX10_statement_146 rfl ?_
                  refine V_aload_n 0 dX10_statement_148 rfl rfl ?_
                  refine GS_26_19 dX10_statement_149 lkX10_58 ?_
                  refine V_iload 5 dX10_statement_152 rfl ?_
                  refine V_iald (by decide) rt_43 dX10_statement_154 k.1 ?_
                  replace k := k.2
                  refine V_isub dX10_statement_155 ?_
                  refine V_istore 4 dX10_statement_156 (by decide) rfl ?_
                  refine V_iinc 5 (v := l5 + 1) dX10_statement_158 rfl rfl (by decide) rfl ?_
                  refine V_goto 39 dX10_statement_161 (by decide) ?_
                  exact V_lv [2, 3, 4, 5, 1, 0] rfl k
            · replace k := k.2 z
              refine V_iload 4 dX10_statement_109 rfl ?_
              refine V_aload_n 0 dX10_statement_111 rfl rfl ?_
              refine GS_26_19 dX10_statement_112 lkX10_58 ?_
              refine V_iload 5 dX10_statement_115 rfl ?_
              refine V_iald (by decide) rt_43 dX10_statement_117 k.1 ?_
              replace k := k.2
              refine V_iadd dX10_statement_118 ?_
              refine V_istore 4 dX10_statement_119 (by decide) rfl ?_
              refine V_aload_n 0 dX10_statement_121 rfl rfl ?_
              refine GS_26_17 dX10_statement_122 lkX10_52 ?_
              refine V_iload 5 dX10_statement_125 rfl ?_
              refine V_iald (by decide) rt_41 dX10_statement_127 k.1 ?_
              replace k := k.2
              refine V_iload_n 2 dX10_statement_128 rfl rfl ?_
              refine V_callS (mc := 0) (ms := 0) (as := [aI (gI h2 41 0 l5.toNatClampNeg), aI l2]) (st := []) dX10_statement_129 okX10_isOf stX10_isOf lkX10_257 rfl (Nat.le_of_ble_eq_true rfl) (Nat.zero_le _) (Nat.zero_le _) (Cl.mono (fun r10 h11 z => ?_) k)
              obtain ⟨x12, rfl, k⟩ := z
              refine V_if_eq 158 dX10_statement_132 (by decide) ⟨fun z => ?_, fun z => ?_⟩
              · replace k := k.1 z
                refine V_iinc 5 (v := l5 + 1) dX10_statement_158 rfl rfl (by decide) rfl ?_
                refine V_goto 39 dX10_statement_161 (by decide) ?_
                exact V_lv [2, 3, 4, 5, 1, 0] rfl k
              · replace k := k.2 z
                refine V_aload_n 0 dX10_statement_135 rfl rfl ?_
                refine GS_26_17 dX10_statement_136 lkX10_52 ?_
                refine V_iload 5 dX10_statement_139 rfl ?_
                refine V_iald (by decide) rt_41 dX10_statement_141 k.1 ?_
                replace k := k.2
                refine V_iload_n 3 dX10_statement_142 rfl rfl ?_
                refine V_icmp_gt 158 dX10_statement_143 (by decide) ⟨fun z => ?_, fun z => ?_⟩
                · replace k := k.1 z
                  refine V_iinc 5 (v := l5 + 1) dX10_statement_158 rfl rfl (by decide) rfl ?_
                  refine V_goto 39 dX10_statement_161 (by decide) ?_
                  exact V_lv [2, 3, 4, 5, 1, 0] rfl k
                · replace k := k.2 z
                  refine V_iload 4 dX10_statement_146 rfl ?_
                  refine V_aload_n 0 dX10_statement_148 rfl rfl ?_
                  refine GS_26_19 dX10_statement_149 lkX10_58 ?_
                  refine V_iload 5 dX10_statement_152 rfl ?_
                  refine V_iald (by decide) rt_43 dX10_statement_154 k.1 ?_
                  replace k := k.2
                  refine V_isub dX10_statement_155 ?_
                  refine V_istore 4 dX10_statement_156 (by decide) rfl ?_
                  refine V_iinc 5 (v := l5 + 1) dX10_statement_158 rfl rfl (by decide) rfl ?_
                  refine V_goto 39 dX10_statement_161 (by decide) ?_
                  exact V_lv [2, 3, 4, 5, 1, 0] rfl k
        · replace k := k.2 z
          refine V_goto 158 dX10_statement_81 (by decide) ?_
          refine V_iinc 5 (v := l5 + 1) dX10_statement_158 rfl rfl (by decide) rfl ?_
          refine V_goto 39 dX10_statement_161 (by decide) ?_
          exact V_lv [1, 2, 3, 4, 5, 0] rfl k
-- X10_count cuts []
set_option maxRecDepth 20000 in
set_option maxHeartbeats 2000000 in
theorem wX10_count {d bc bs : Nat} {h : HS} {P : Option AV → HS → Prop} {l1 : Int32} {l2 : Int32} (k : Cl true mX10_isThing d 0 0 [aR 26 0, aI l1] h (fun r1 h2 => ∃ x3 : Int32, r1 = some (aI x3) ∧ (((x3 = 0) → (P (some (aI (-1000001))) h2)) ∧ ((¬ x3 = 0) → (Cl true mX10_isIn d 0 0 [aI l2, aI 0, aI 9999] h2 (fun r4 h5 => ∃ x6 : Int32, r4 = some (aI x6) ∧ (((¬ x6 = 0) → (vp_in l1 12 ∧ (vp_in l1 12 ∧ (vp_in l1 12 ∧ (vp_in ((364 * l1) + (gI (sI h5 28 0 l1.toNatClampNeg l2) 26 0 0)) 4368 ∧ (vp_in l1 12 ∧ (P (some (aI ((gI h5 28 0 l1.toNatClampNeg) - l2))) (sI (sI h5 28 0 l1.toNatClampNeg l2) 30 0 l1.toNatClampNeg ((gI (sI h5 28 0 l1.toNatClampNeg l2) 30 0 l1.toNatClampNeg) + (((gI h5 28 0 l1.toNatClampNeg) - l2) * (gI (sI h5 28 0 l1.toNatClampNeg l2) 27 0 ((364 * l1) + (gI (sI h5 28 0 l1.toNatClampNeg l2) 26 0 0)).toNatClampNeg))))))))))) ∧ ((x6 = 0) → (P (some (aI (-1000001))) h5))))))))) : Cl true mX10_count (d + 1) bc bs [aR 26 0, aI l1, aI l2] h P := by
  refine Cl_of (by decide) (Nat.le_of_ble_eq_true rfl) ?_
  show V true mX10_count (d + 1) bc bs 0 [(0, aR 26 0), (1, aI l1), (2, aI l2)] [] h P
  refine V_aload_n 0 dX10_count_0 rfl rfl ?_
  refine V_iload_n 1 dX10_count_1 rfl rfl ?_
  refine V_callV (mc := 0) (ms := 0) (as := [aI l1]) (st := []) (by decide) rt_26 rfl dX10_count_2 okX10_isThing inX10_isThing seX10_isThing lkX10_122 rfl (Nat.le_of_ble_eq_true rfl) (Nat.zero_le _) (Nat.zero_le _) (Cl.mono (fun r1 h2 z => ?_) k)
  obtain ⟨x3, rfl, k⟩ := z
  refine V_if_eq 19 dX10_count_5 (by decide) ⟨fun z => ?_, fun z => ?_⟩
  · replace k := k.1 z
    refine V_ldc_w (-1000001) dX10_count_19 lkX10_268 ?_
    exact V_ireturn dX10_count_22 rfl k
  · replace k := k.2 z
    refine V_iload_n 2 dX10_count_8 rfl rfl ?_
    refine V_iconst 0 dX10_count_9 (by decide) ?_
    refine V_sipush 9999 dX10_count_10 (by decide) ?_
    refine V_callS (mc := 0) (ms := 0) (as := [aI l2, aI 0, aI 9999]) (st := []) dX10_count_13 okX10_isIn stX10_isIn lkX10_111 rfl (Nat.le_of_ble_eq_true rfl) (Nat.zero_le _) (Nat.zero_le _) (Cl.mono (fun r4 h5 z => ?_) k)
    obtain ⟨x6, rfl, k⟩ := z
    refine V_if_ne 23 dX10_count_16 (by decide) ⟨fun z => ?_, fun z => ?_⟩
    · replace k := k.1 z
      refine V_aload_n 0 dX10_count_23 rfl rfl ?_
      refine GS_26_4 dX10_count_24 lkX10_13 ?_
      refine V_iload_n 1 dX10_count_27 rfl rfl ?_
      refine V_iald (by decide) rt_28 dX10_count_28 k.1 ?_
      replace k := k.2
      refine V_iload_n 2 dX10_count_29 rfl rfl ?_
      refine V_isub dX10_count_30 ?_
      refine V_istore_n 3 dX10_count_31 rfl (by decide) rfl ?_
      refine V_aload_n 0 dX10_count_32 rfl rfl ?_
      refine GS_26_4 dX10_count_33 lkX10_13 ?_
      refine V_iload_n 1 dX10_count_36 rfl rfl ?_
      refine V_iload_n 2 dX10_count_37 rfl rfl ?_
      refine V_iast (by decide) rt_28 dX10_count_38 k.1 ?_
      replace k := k.2
      refine V_aload_n 0 dX10_count_39 rfl rfl ?_
      refine GS_26_6 dX10_count_40 lkX10_19 ?_
      refine V_iload_n 1 dX10_count_43 rfl rfl ?_
      refine V_dup2 dX10_count_44 rfl rfl ?_
      refine V_iald (by decide) rt_30 dX10_count_45 k.1 ?_
      replace k := k.2
      refine V_iload_n 3 dX10_count_46 rfl rfl ?_
      refine V_aload_n 0 dX10_count_47 rfl rfl ?_
      refine GS_26_3 dX10_count_48 lkX10_7 ?_
      refine V_sipush 364 dX10_count_51 (by decide) ?_
      refine V_iload_n 1 dX10_count_54 rfl rfl ?_
      refine V_imul dX10_count_55 ?_
      refine V_aload_n 0 dX10_count_56 rfl rfl ?_
      refine GI_26_0 dX10_count_57 lkX10_119 ?_
      refine V_iadd dX10_count_60 ?_
      refine V_iald (by decide) rt_27 dX10_count_61 k.1 ?_
      replace k := k.2
      refine V_imul dX10_count_62 ?_
      refine V_iadd dX10_count_63 ?_
      refine V_iast (by decide) rt_30 dX10_count_64 k.1 ?_
      replace k := k.2
      refine V_iload_n 3 dX10_count_65 rfl rfl ?_
      exact V_ireturn dX10_count_66 rfl k
    · replace k := k.2 z
      refine V_ldc_w (-1000001) dX10_count_19 lkX10_268 ?_
      exact V_ireturn dX10_count_22 rfl k
-- X10_level cuts []
set_option maxRecDepth 20000 in
set_option maxHeartbeats 2000000 in
theorem wX10_level {d bc bs : Nat} {h : HS} {P : Option AV → HS → Prop} {l1 : Int32} {l2 : Int32} {l3 : Int32} (k : Cl true mX10_isIn d 0 0 [aI l1, aI 0, aI 3] h (fun r1 h2 => ∃ x3 : Int32, r1 = some (aI x3) ∧ (((x3 = 0) → (P (some (aI 0)) h2)) ∧ ((¬ x3 = 0) → (Cl true mX10_isIn d 0 0 [aI l2, aI 0, aI 999] h2 (fun r4 h5 => ∃ x6 : Int32, r4 = some (aI x6) ∧ (((x6 = 0) → (P (some (aI 0)) h5)) ∧ ((¬ x6 = 0) → (Cl true mX10_isIn d 0 0 [aI l3, aI 0, aI 99] h5 (fun r7 h8 => ∃ x9 : Int32, r7 = some (aI x9) ∧ (((¬ x9 = 0) → (vp_in l1 4 ∧ (vp_in l1 4 ∧ (P (some (aI 1)) (sI (sI h8 54 0 l1.toNatClampNeg l2) 55 0 l1.toNatClampNeg l3))))) ∧ ((x9 = 0) → (P (some (aI 0)) h8))))))))))))) : Cl true mX10_level (d + 1) bc bs [aR 26 0, aI l1, aI l2, aI l3] h P := by
  refine Cl_of (by decide) (Nat.le_of_ble_eq_true rfl) ?_
  show V true mX10_level (d + 1) bc bs 0 [(0, aR 26 0), (1, aI l1), (2, aI l2), (3, aI l3)] [] h P
  refine V_iload_n 1 dX10_level_0 rfl rfl ?_
  refine V_iconst 0 dX10_level_1 (by decide) ?_
  refine V_iconst 3 dX10_level_2 (by decide) ?_
  refine V_callS (mc := 0) (ms := 0) (as := [aI l1, aI 0, aI 3]) (st := []) dX10_level_3 okX10_isIn stX10_isIn lkX10_111 rfl (Nat.le_of_ble_eq_true rfl) (Nat.zero_le _) (Nat.zero_le _) (Cl.mono (fun r1 h2 z => ?_) k)
  obtain ⟨x3, rfl, k⟩ := z
  refine V_if_eq 30 dX10_level_6 (by decide) ⟨fun z => ?_, fun z => ?_⟩
  · replace k := k.1 z
    refine V_iconst 0 dX10_level_30 (by decide) ?_
    exact V_zreturn dX10_level_31 rfl (by decide) k
  · replace k := k.2 z
    refine V_iload_n 2 dX10_level_9 rfl rfl ?_
    refine V_iconst 0 dX10_level_10 (by decide) ?_
    refine V_sipush 999 dX10_level_11 (by decide) ?_
    refine V_callS (mc := 0) (ms := 0) (as := [aI l2, aI 0, aI 999]) (st := []) dX10_level_14 okX10_isIn stX10_isIn lkX10_111 rfl (Nat.le_of_ble_eq_true rfl) (Nat.zero_le _) (Nat.zero_le _) (Cl.mono (fun r4 h5 z => ?_) k)
    obtain ⟨x6, rfl, k⟩ := z
    refine V_if_eq 30 dX10_level_17 (by decide) ⟨fun z => ?_, fun z => ?_⟩
    · replace k := k.1 z
      refine V_iconst 0 dX10_level_30 (by decide) ?_
      exact V_zreturn dX10_level_31 rfl (by decide) k
    · replace k := k.2 z
      refine V_iload_n 3 dX10_level_20 rfl rfl ?_
      refine V_iconst 0 dX10_level_21 (by decide) ?_
      refine V_bipush 99 dX10_level_22 (by decide) ?_
      refine V_callS (mc := 0) (ms := 0) (as := [aI l3, aI 0, aI 99]) (st := []) dX10_level_24 okX10_isIn stX10_isIn lkX10_111 rfl (Nat.le_of_ble_eq_true rfl) (Nat.zero_le _) (Nat.zero_le _) (Cl.mono (fun r7 h8 z => ?_) k)
      obtain ⟨x9, rfl, k⟩ := z
      refine V_if_ne 32 dX10_level_27 (by decide) ⟨fun z => ?_, fun z => ?_⟩
      · replace k := k.1 z
        refine V_aload_n 0 dX10_level_32 rfl rfl ?_
        refine GS_26_49 dX10_level_33 lkX10_96 ?_
        refine V_iload_n 1 dX10_level_36 rfl rfl ?_
        refine V_iload_n 2 dX10_level_37 rfl rfl ?_
        refine V_iast (by decide) rt_54 dX10_level_38 k.1 ?_
        replace k := k.2
        refine V_aload_n 0 dX10_level_39 rfl rfl ?_
        refine GS_26_50 dX10_level_40 lkX10_99 ?_
        refine V_iload_n 1 dX10_level_43 rfl rfl ?_
        refine V_iload_n 3 dX10_level_44 rfl rfl ?_
        refine V_iast (by decide) rt_55 dX10_level_45 k.1 ?_
        replace k := k.2
        refine V_iconst 1 dX10_level_46 (by decide) ?_
        exact V_zreturn dX10_level_47 rfl (by decide) k
      · replace k := k.2 z
        refine V_iconst 0 dX10_level_30 (by decide) ?_
        exact V_zreturn dX10_level_31 rfl (by decide) k
-- X10_tries cuts [8, 103]
set_option maxRecDepth 20000 in
set_option maxHeartbeats 2000000 in
theorem wX10_tries {d bc bs : Nat} {h : HS} {P : Option AV → HS → Prop} {l1 : Int32} {l2 : Int32} (k : V true mX10_tries (d + 1) bc bs 8 [(0, aR 26 0), (1, aI l1), (3, aI l2), (4, aI 0), (5, aI 0)] [] h P) : Cl true mX10_tries (d + 1) bc bs [aR 26 0, aI l1, aI l2] h P := by
  refine Cl_of (by decide) (Nat.le_of_ble_eq_true rfl) ?_
  show V true mX10_tries (d + 1) bc bs 0 [(0, aR 26 0), (1, aI l1), (2, aI l2)] [] h P
  refine V_iload_n 2 dX10_tries_0 rfl rfl ?_
  refine V_istore_n 3 dX10_tries_1 rfl (by decide) rfl ?_
  refine V_iconst 0 dX10_tries_2 (by decide) ?_
  refine V_istore 4 dX10_tries_3 (by decide) rfl ?_
  refine V_iconst 0 dX10_tries_5 (by decide) ?_
  refine V_istore 5 dX10_tries_6 (by decide) rfl ?_
  exact V_lv [3, 4, 2, 1, 0] rfl k
set_option maxRecDepth 20000 in
set_option maxHeartbeats 2000000 in
theorem wX10_tries_8 {d bc bs : Nat} {h : HS} {P : Option AV → HS → Prop} {l1 : Int32} {l3 : Int32} {l4 : Int32} {l5 : Int32} (k : ((l1 ≤ l5) → ((((gI h 26 0 53) < l4) → (V true mX10_tries (d + 1) bc bs 103 [(0, aR 26 0), (1, aI l1), (5, aI 0)] [] (sI (sI h 26 0 53 l4) 26 0 54 l3) P)) ∧ ((¬ (gI h 26 0 53) < l4) → (P none h)))) ∧ ((¬ l1 ≤ l5) → (vp_in l5 8 ∧ (vp_in (gI h 56 0 l5.toNatClampNeg) 4 ∧ (((l3 ≤ (gI h 55 0 (gI h 56 0 l5.toNatClampNeg).toNatClampNeg)) → (vp_in l5 8 ∧ (vp_in (gI h 56 0 l5.toNatClampNeg) 4 ∧ (V true mX10_tries (d + 1) bc bs 8 [(0, aR 26 0), (1, aI l1), (3, aI (l3 - l3)), (4, aI (l4 + (l3 * (gI h 54 0 (gI h 56 0 l5.toNatClampNeg).toNatClampNeg)))), (5, aI (l5 + 1))] [] h P)))) ∧ ((¬ l3 ≤ (gI h 55 0 (gI h 56 0 l5.toNatClampNeg).toNatClampNeg)) → (vp_in l5 8 ∧ (vp_in (gI h 56 0 l5.toNatClampNeg) 4 ∧ (vp_in l5 8 ∧ (vp_in (gI h 56 0 l5.toNatClampNeg) 4 ∧ (V true mX10_tries (d + 1) bc bs 8 [(0, aR 26 0), (1, aI l1), (3, aI (l3 - (gI h 55 0 (gI h 56 0 l5.toNatClampNeg).toNatClampNeg))), (4, aI (l4 + ((gI h 55 0 (gI h 56 0 l5.toNatClampNeg).toNatClampNeg) * (gI h 54 0 (gI h 56 0 l5.toNatClampNeg).toNatClampNeg)))), (5, aI (l5 + 1))] [] h P))))))))))) : V true mX10_tries (d + 1) bc bs 8 [(0, aR 26 0), (1, aI l1), (3, aI l3), (4, aI l4), (5, aI l5)] [] h P := by
  refine V_iload 5 dX10_tries_8 rfl ?_
  refine V_iload_n 1 dX10_tries_10 rfl rfl ?_
  refine V_icmp_ge 79 dX10_tries_11 (by decide) ⟨fun z => ?_, fun z => ?_⟩
  · replace k := k.1 z
    refine V_iload 4 dX10_tries_79 rfl ?_
    refine V_aload_n 0 dX10_tries_81 rfl rfl ?_
    refine GI_26_53 dX10_tries_82 lkX10_277 ?_
    refine V_icmp_gt 89 dX10_tries_85 (by decide) ⟨fun z => ?_, fun z => ?_⟩
    · replace k := k.1 z
      refine V_aload_n 0 dX10_tries_89 rfl rfl ?_
      refine V_iload 4 dX10_tries_90 rfl ?_
      refine PI_26_53 dX10_tries_92 lkX10_277 ?_
      refine V_aload_n 0 dX10_tries_95 rfl rfl ?_
      refine V_iload_n 3 dX10_tries_96 rfl rfl ?_
      refine PI_26_54 dX10_tries_97 lkX10_280 ?_
      refine V_iconst 0 dX10_tries_100 (by decide) ?_
      refine V_istore 5 dX10_tries_101 (by decide) rfl ?_
      exact V_lv [1, 2, 0] rfl k
    · replace k := k.2 z
      exact V_return dX10_tries_88 rfl k
  · replace k := k.2 z
    refine V_aload_n 0 dX10_tries_14 rfl rfl ?_
    refine GS_26_50 dX10_tries_15 lkX10_99 ?_
    refine V_aload_n 0 dX10_tries_18 rfl rfl ?_
    refine GS_26_51 dX10_tries_19 lkX10_102 ?_
    refine V_iload 5 dX10_tries_22 rfl ?_
    refine V_iald (by decide) rt_56 dX10_tries_24 k.1 ?_
    replace k := k.2
    refine V_iald (by decide) rt_55 dX10_tries_25 k.1 ?_
    replace k := k.2
    refine V_iload_n 3 dX10_tries_26 rfl rfl ?_
    refine V_icmp_ge 45 dX10_tries_27 (by decide) ⟨fun z => ?_, fun z => ?_⟩
    · replace k := k.1 z
      refine V_iload_n 3 dX10_tries_45 rfl rfl ?_
      refine V_istore 6 dX10_tries_46 (by decide) rfl ?_
      refine V_iload_n 3 dX10_tries_48 rfl rfl ?_
      refine V_iload 6 dX10_tries_49 rfl ?_
      refine V_isub dX10_tries_51 ?_
      refine V_istore_n 3 dX10_tries_52 rfl (by decide) rfl ?_
      refine V_iload 4 dX10_tries_53 rfl ?_
      refine V_iload 6 dX10_tries_55 rfl ?_
      refine V_aload_n 0 dX10_tries_57 rfl rfl ?_
      refine GS_26_49 dX10_tries_58 lkX10_96 ?_
      refine V_aload_n 0 dX10_tries_61 rfl rfl ?_
      refine GS_26_51 dX10_tries_62 lkX10_102 ?_
      refine V_iload 5 dX10_tries_65 rfl ?_
      refine V_iald (by decide) rt_56 dX10_tries_67 k.1 ?_
      replace k := k.2
      refine V_iald (by decide) rt_54 dX10_tries_68 k.1 ?_
      replace k := k.2
      refine V_imul dX10_tries_69 ?_
      refine V_iadd dX10_tries_70 ?_
      refine V_istore 4 dX10_tries_71 (by decide) rfl ?_
      refine V_iinc 5 (v := l5 + 1) dX10_tries_73 rfl rfl (by decide) rfl ?_
      refine V_goto 8 dX10_tries_76 (by decide) ?_
      exact V_lv [4, 5, 2, 1, 0] rfl k
    · replace k := k.2 z
      refine V_aload_n 0 dX10_tries_30 rfl rfl ?_
      refine GS_26_50 dX10_tries_31 lkX10_99 ?_
      refine V_aload_n 0 dX10_tries_34 rfl rfl ?_
      refine GS_26_51 dX10_tries_35 lkX10_102 ?_
      refine V_iload 5 dX10_tries_38 rfl ?_
      refine V_iald (by decide) rt_56 dX10_tries_40 k.1 ?_
      replace k := k.2
      refine V_iald (by decide) rt_55 dX10_tries_41 k.1 ?_
      replace k := k.2
      refine V_goto 46 dX10_tries_42 (by decide) ?_
      refine V_istore 6 dX10_tries_46 (by decide) rfl ?_
      refine V_iload_n 3 dX10_tries_48 rfl rfl ?_
      refine V_iload 6 dX10_tries_49 rfl ?_
      refine V_isub dX10_tries_51 ?_
      refine V_istore_n 3 dX10_tries_52 rfl (by decide) rfl ?_
      refine V_iload 4 dX10_tries_53 rfl ?_
      refine V_iload 6 dX10_tries_55 rfl ?_
      refine V_aload_n 0 dX10_tries_57 rfl rfl ?_
      refine GS_26_49 dX10_tries_58 lkX10_96 ?_
      refine V_aload_n 0 dX10_tries_61 rfl rfl ?_
      refine GS_26_51 dX10_tries_62 lkX10_102 ?_
      refine V_iload 5 dX10_tries_65 rfl ?_
      refine V_iald (by decide) rt_56 dX10_tries_67 k.1 ?_
      replace k := k.2
      refine V_iald (by decide) rt_54 dX10_tries_68 k.1 ?_
      replace k := k.2
      refine V_imul dX10_tries_69 ?_
      refine V_iadd dX10_tries_70 ?_
      refine V_istore 4 dX10_tries_71 (by decide) rfl ?_
      refine V_iinc 5 (v := l5 + 1) dX10_tries_73 rfl rfl (by decide) rfl ?_
      refine V_goto 8 dX10_tries_76 (by decide) ?_
      exact V_lv [4, 5, 2, 1, 0] rfl k
set_option maxRecDepth 20000 in
set_option maxHeartbeats 2000000 in
theorem wX10_tries_103 {d bc bs : Nat} {h : HS} {P : Option AV → HS → Prop} {l1 : Int32} {l5 : Int32} (k : ((l1 ≤ l5) → (P none h)) ∧ ((¬ l1 ≤ l5) → (vp_in l5 8 ∧ (vp_in l5 8 ∧ (V true mX10_tries (d + 1) bc bs 103 [(0, aR 26 0), (1, aI l1), (5, aI (l5 + 1))] [] (sI h 57 0 l5.toNatClampNeg (gI h 56 0 l5.toNatClampNeg)) P))))) : V true mX10_tries (d + 1) bc bs 103 [(0, aR 26 0), (1, aI l1), (5, aI l5)] [] h P := by
  refine V_iload 5 dX10_tries_103 rfl ?_
  refine V_iload_n 1 dX10_tries_105 rfl rfl ?_
  refine V_icmp_ge 129 dX10_tries_106 (by decide) ⟨fun z => ?_, fun z => ?_⟩
  · replace k := k.1 z
    exact V_return dX10_tries_129 rfl k
  · replace k := k.2 z
    refine V_aload_n 0 dX10_tries_109 rfl rfl ?_
    refine GS_26_52 dX10_tries_110 lkX10_105 ?_
    refine V_iload 5 dX10_tries_113 rfl ?_
    refine V_aload_n 0 dX10_tries_115 rfl rfl ?_
    refine GS_26_51 dX10_tries_116 lkX10_102 ?_
    refine V_iload 5 dX10_tries_119 rfl ?_
    refine V_iald (by decide) rt_56 dX10_tries_121 k.1 ?_
    replace k := k.2
    refine V_iast (by decide) rt_57 dX10_tries_122 k.1 ?_
    replace k := k.2
    refine V_iinc 5 (v := l5 + 1) dX10_tries_123 rfl rfl (by decide) rfl ?_
    refine V_goto 103 dX10_tries_126 (by decide) ?_
    exact V_lv [1, 2, 0] rfl k
-- X10_nextRow cuts [4, 42]
set_option maxRecDepth 20000 in
set_option maxHeartbeats 2000000 in
theorem wX10_nextRow {d bc bs : Nat} {h : HS} {P : Option AV → HS → Prop} {l1 : Int32} (k : V true mX10_nextRow (d + 1) bc bs 4 [(0, aR 26 0), (1, aI l1), (2, aI (l1 - 1))] [] h P) : Cl true mX10_nextRow (d + 1) bc bs [aR 26 0, aI l1] h P := by
  refine Cl_of (by decide) (Nat.le_of_ble_eq_true rfl) ?_
  show V true mX10_nextRow (d + 1) bc bs 0 [(0, aR 26 0), (1, aI l1)] [] h P
  refine V_iload_n 1 dX10_nextRow_0 rfl rfl ?_
  refine V_iconst 1 dX10_nextRow_1 (by decide) ?_
  refine V_isub dX10_nextRow_2 ?_
  refine V_istore_n 2 dX10_nextRow_3 rfl (by decide) rfl ?_
  exact V_lv [1, 2, 0] rfl k
set_option maxRecDepth 20000 in
set_option maxHeartbeats 2000000 in
theorem wX10_nextRow_4 {d bc bs : Nat} {h : HS} {P : Option AV → HS → Prop} {l1 : Int32} {l2 : Int32} (k : ((l2 < 0) → (((0 ≤ l2) → (vp_in l2 8 ∧ (V true mX10_nextRow (d + 1) bc bs 42 [(0, aR 26 0), (1, aI l1), (3, aI ((gI h 56 0 l2.toNatClampNeg) + 1)), (4, aI l2)] [] h P))) ∧ ((¬ 0 ≤ l2) → (P (some (aI 0)) h)))) ∧ ((¬ l2 < 0) → (vp_in l2 8 ∧ (((¬ (gI h 56 0 l2.toNatClampNeg) = 3) → (((0 ≤ l2) → (vp_in l2 8 ∧ (V true mX10_nextRow (d + 1) bc bs 42 [(0, aR 26 0), (1, aI l1), (3, aI ((gI h 56 0 l2.toNatClampNeg) + 1)), (4, aI l2)] [] h P))) ∧ ((¬ 0 ≤ l2) → (P (some (aI 0)) h)))) ∧ (((gI h 56 0 l2.toNatClampNeg) = 3) → (V true mX10_nextRow (d + 1) bc bs 4 [(0, aR 26 0), (1, aI l1), (2, aI (l2 + (-1)))] [] h P)))))) : V true mX10_nextRow (d + 1) bc bs 4 [(0, aR 26 0), (1, aI l1), (2, aI l2)] [] h P := by
  refine V_iload_n 2 dX10_nextRow_4 rfl rfl ?_
  refine V_if_lt 24 dX10_nextRow_5 (by decide) ⟨fun z => ?_, fun z => ?_⟩
  · replace k := k.1 z
    refine V_iload_n 2 dX10_nextRow_24 rfl rfl ?_
    refine V_if_ge 30 dX10_nextRow_25 (by decide) ⟨fun z => ?_, fun z => ?_⟩
    · replace k := k.1 z
      refine V_aload_n 0 dX10_nextRow_30 rfl rfl ?_
      refine GS_26_51 dX10_nextRow_31 lkX10_102 ?_
      refine V_iload_n 2 dX10_nextRow_34 rfl rfl ?_
      refine V_iald (by decide) rt_56 dX10_nextRow_35 k.1 ?_
      replace k := k.2
      refine V_iconst 1 dX10_nextRow_36 (by decide) ?_
      refine V_iadd dX10_nextRow_37 ?_
      refine V_istore_n 3 dX10_nextRow_38 rfl (by decide) rfl ?_
      refine V_iload_n 2 dX10_nextRow_39 rfl rfl ?_
      refine V_istore 4 dX10_nextRow_40 (by decide) rfl ?_
      exact V_lv [2, 3, 1, 0] rfl k
    · replace k := k.2 z
      refine V_iconst 0 dX10_nextRow_28 (by decide) ?_
      exact V_zreturn dX10_nextRow_29 rfl (by decide) k
  · replace k := k.2 z
    refine V_aload_n 0 dX10_nextRow_8 rfl rfl ?_
    refine GS_26_51 dX10_nextRow_9 lkX10_102 ?_
    refine V_iload_n 2 dX10_nextRow_12 rfl rfl ?_
    refine V_iald (by decide) rt_56 dX10_nextRow_13 k.1 ?_
    replace k := k.2
    refine V_iconst 3 dX10_nextRow_14 (by decide) ?_
    refine V_icmp_ne 24 dX10_nextRow_15 (by decide) ⟨fun z => ?_, fun z => ?_⟩
    · replace k := k.1 z
      refine V_iload_n 2 dX10_nextRow_24 rfl rfl ?_
      refine V_if_ge 30 dX10_nextRow_25 (by decide) ⟨fun z => ?_, fun z => ?_⟩
      · replace k := k.1 z
        refine V_aload_n 0 dX10_nextRow_30 rfl rfl ?_
        refine GS_26_51 dX10_nextRow_31 lkX10_102 ?_
        refine V_iload_n 2 dX10_nextRow_34 rfl rfl ?_
        refine V_iald (by decide) rt_56 dX10_nextRow_35 k.1 ?_
        replace k := k.2
        refine V_iconst 1 dX10_nextRow_36 (by decide) ?_
        refine V_iadd dX10_nextRow_37 ?_
        refine V_istore_n 3 dX10_nextRow_38 rfl (by decide) rfl ?_
        refine V_iload_n 2 dX10_nextRow_39 rfl rfl ?_
        refine V_istore 4 dX10_nextRow_40 (by decide) rfl ?_
        exact V_lv [2, 3, 1, 0] rfl k
      · replace k := k.2 z
        refine V_iconst 0 dX10_nextRow_28 (by decide) ?_
        exact V_zreturn dX10_nextRow_29 rfl (by decide) k
    · replace k := k.2 z
      refine V_iinc 2 (v := l2 + (-1)) dX10_nextRow_18 rfl rfl (by decide) rfl ?_
      refine V_goto 4 dX10_nextRow_21 (by decide) ?_
      exact V_lv [1, 2, 0] rfl k
set_option maxRecDepth 20000 in
set_option maxHeartbeats 2000000 in
theorem wX10_nextRow_42 {d bc bs : Nat} {h : HS} {P : Option AV → HS → Prop} {l1 : Int32} {l3 : Int32} {l4 : Int32} (k : ((l1 ≤ l4) → (P (some (aI 1)) h)) ∧ ((¬ l1 ≤ l4) → (vp_in l4 8 ∧ (V true mX10_nextRow (d + 1) bc bs 42 [(0, aR 26 0), (1, aI l1), (3, aI l3), (4, aI (l4 + 1))] [] (sI h 56 0 l4.toNatClampNeg l3) P)))) : V true mX10_nextRow (d + 1) bc bs 42 [(0, aR 26 0), (1, aI l1), (3, aI l3), (4, aI l4)] [] h P := by
  refine V_iload 4 dX10_nextRow_42 rfl ?_
  refine V_iload_n 1 dX10_nextRow_44 rfl rfl ?_
  refine V_icmp_ge 62 dX10_nextRow_45 (by decide) ⟨fun z => ?_, fun z => ?_⟩
  · replace k := k.1 z
    refine V_iconst 1 dX10_nextRow_62 (by decide) ?_
    exact V_zreturn dX10_nextRow_63 rfl (by decide) k
  · replace k := k.2 z
    refine V_aload_n 0 dX10_nextRow_48 rfl rfl ?_
    refine GS_26_51 dX10_nextRow_49 lkX10_102 ?_
    refine V_iload 4 dX10_nextRow_52 rfl ?_
    refine V_iload_n 3 dX10_nextRow_54 rfl rfl ?_
    refine V_iast (by decide) rt_56 dX10_nextRow_55 k.1 ?_
    replace k := k.2
    refine V_iinc 4 (v := l4 + 1) dX10_nextRow_56 rfl rfl (by decide) rfl ?_
    refine V_goto 42 dX10_nextRow_59 (by decide) ?_
    exact V_lv [1, 2, 3, 0] rfl k
-- X10_best cuts [40, 63]
set_option maxRecDepth 20000 in
set_option maxHeartbeats 2000000 in
theorem wX10_best {d bc bs : Nat} {h : HS} {P : Option AV → HS → Prop} {l1 : Int32} {l2 : Int32} {l3 : Int32} {l4 : Int32} (k : Cl true mX10_isIn d 0 0 [aI l1, aI 0, aI 200] h (fun r1 h2 => ∃ x3 : Int32, r1 = some (aI x3) ∧ (((x3 = 0) → (P (some (aI (-1))) h2)) ∧ ((¬ x3 = 0) → (Cl true mX10_isIn d 0 0 [aI l2, aI 0, aI 8] h2 (fun r4 h5 => ∃ x6 : Int32, r4 = some (aI x6) ∧ (((x6 = 0) → (P (some (aI (-1))) h5)) ∧ ((¬ x6 = 0) → (Cl true mX10_isIn d 0 0 [aI l3, aI 0, aI 3] h5 (fun r7 h8 => ∃ x9 : Int32, r7 = some (aI x9) ∧ (((¬ x9 = 0) → (V true mX10_best (d + 1) bc bs 40 [(0, aR 26 0), (1, aI l1), (2, aI l2), (3, aI l3), (4, aI l4), (5, aI 0)] [] (sI h8 26 0 53 (-1)) P)) ∧ ((x9 = 0) → (P (some (aI (-1))) h8))))))))))))) : Cl true mX10_best (d + 1) bc bs [aR 26 0, aI l1, aI l2, aI l3, aI l4] h P := by
  refine Cl_of (by decide) (Nat.le_of_ble_eq_true rfl) ?_
  show V true mX10_best (d + 1) bc bs 0 [(0, aR 26 0), (1, aI l1), (2, aI l2), (3, aI l3), (4, aI l4)] [] h P
  refine V_iload_n 1 dX10_best_0 rfl rfl ?_
  refine V_iconst 0 dX10_best_1 (by decide) ?_
  refine V_sipush 200 dX10_best_2 (by decide) ?_
  refine V_callS (mc := 0) (ms := 0) (as := [aI l1, aI 0, aI 200]) (st := []) dX10_best_5 okX10_isIn stX10_isIn lkX10_111 rfl (Nat.le_of_ble_eq_true rfl) (Nat.zero_le _) (Nat.zero_le _) (Cl.mono (fun r1 h2 z => ?_) k)
  obtain ⟨x3, rfl, k⟩ := z
  refine V_if_eq 30 dX10_best_8 (by decide) ⟨fun z => ?_, fun z => ?_⟩
  · replace k := k.1 z
    refine V_iconst (-1) dX10_best_30 (by decide) ?_
    exact V_ireturn dX10_best_31 rfl k
  · replace k := k.2 z
    refine V_iload_n 2 dX10_best_11 rfl rfl ?_
    refine V_iconst 0 dX10_best_12 (by decide) ?_
    refine V_bipush 8 dX10_best_13 (by decide) ?_
    refine V_callS (mc := 0) (ms := 0) (as := [aI l2, aI 0, aI 8]) (st := []) dX10_best_15 okX10_isIn stX10_isIn lkX10_111 rfl (Nat.le_of_ble_eq_true rfl) (Nat.zero_le _) (Nat.zero_le _) (Cl.mono (fun r4 h5 z => ?_) k)
    obtain ⟨x6, rfl, k⟩ := z
    refine V_if_eq 30 dX10_best_18 (by decide) ⟨fun z => ?_, fun z => ?_⟩
    · replace k := k.1 z
      refine V_iconst (-1) dX10_best_30 (by decide) ?_
      exact V_ireturn dX10_best_31 rfl k
    · replace k := k.2 z
      refine V_iload_n 3 dX10_best_21 rfl rfl ?_
      refine V_iconst 0 dX10_best_22 (by decide) ?_
      refine V_iconst 3 dX10_best_23 (by decide) ?_
      refine V_callS (mc := 0) (ms := 0) (as := [aI l3, aI 0, aI 3]) (st := []) dX10_best_24 okX10_isIn stX10_isIn lkX10_111 rfl (Nat.le_of_ble_eq_true rfl) (Nat.zero_le _) (Nat.zero_le _) (Cl.mono (fun r7 h8 z => ?_) k)
      obtain ⟨x9, rfl, k⟩ := z
      refine V_if_ne 32 dX10_best_27 (by decide) ⟨fun z => ?_, fun z => ?_⟩
      · replace k := k.1 z
        refine V_aload_n 0 dX10_best_32 rfl rfl ?_
        refine V_iconst (-1) dX10_best_33 (by decide) ?_
        refine PI_26_53 dX10_best_34 lkX10_277 ?_
        refine V_iconst 0 dX10_best_37 (by decide) ?_
        refine V_istore 5 dX10_best_38 (by decide) rfl ?_
        exact V_lv [1, 2, 3, 4, 5, 0] rfl k
      · replace k := k.2 z
        refine V_iconst (-1) dX10_best_30 (by decide) ?_
        exact V_ireturn dX10_best_31 rfl k
set_option maxRecDepth 20000 in
set_option maxHeartbeats 2000000 in
theorem wX10_best_40 {d bc bs : Nat} {h : HS} {P : Option AV → HS → Prop} {l1 : Int32} {l2 : Int32} {l3 : Int32} {l4 : Int32} {l5 : Int32} (k : ((l2 ≤ l5) → (V true mX10_best (d + 1) bc bs 63 [(0, aR 26 0), (1, aI l1), (2, aI l2), (4, aI l4), (5, aI 1)] [] h P)) ∧ ((¬ l2 ≤ l5) → (vp_in l5 8 ∧ (V true mX10_best (d + 1) bc bs 40 [(0, aR 26 0), (1, aI l1), (2, aI l2), (3, aI l3), (4, aI l4), (5, aI (l5 + 1))] [] (sI h 56 0 l5.toNatClampNeg l3) P)))) : V true mX10_best (d + 1) bc bs 40 [(0, aR 26 0), (1, aI l1), (2, aI l2), (3, aI l3), (4, aI l4), (5, aI l5)] [] h P := by
  refine V_iload 5 dX10_best_40 rfl ?_
  refine V_iload_n 2 dX10_best_42 rfl rfl ?_
  refine V_icmp_ge 60 dX10_best_43 (by decide) ⟨fun z => ?_, fun z => ?_⟩
  · replace k := k.1 z
    refine V_iconst 1 dX10_best_60 (by decide) ?_
    refine V_istore 5 dX10_best_61 (by decide) rfl ?_
    exact V_lv [1, 2, 3, 5, 0] rfl k
  · replace k := k.2 z
    refine V_aload_n 0 dX10_best_46 rfl rfl ?_
    refine GS_26_51 dX10_best_47 lkX10_102 ?_
    refine V_iload 5 dX10_best_50 rfl ?_
    refine V_iload_n 3 dX10_best_52 rfl rfl ?_
    refine V_iast (by decide) rt_56 dX10_best_53 k.1 ?_
    replace k := k.2
    refine V_iinc 5 (v := l5 + 1) dX10_best_54 rfl rfl (by decide) rfl ?_
    refine V_goto 40 dX10_best_57 (by decide) ?_
    exact V_lv [1, 2, 3, 4, 5, 0] rfl k
set_option maxRecDepth 20000 in
set_option maxHeartbeats 2000000 in
theorem wX10_best_63 {d bc bs : Nat} {h : HS} {P : Option AV → HS → Prop} {l1 : Int32} {l2 : Int32} {l4 : Int32} {l5 : Int32} (k : ((l5 = 0) → (((¬ l4 = 0) → (((¬ l4 = 1) → (Cl true mX10_isIn d 0 0 [aI l4, aI 10, aI (9 + l2)] h (fun r1 h2 => ∃ x3 : Int32, r1 = some (aI x3) ∧ (((x3 = 0) → (P (some (aI (-1))) h2)) ∧ ((¬ x3 = 0) → (vp_in (l4 - 10) 8 ∧ (P (some (aI (gI h2 57 0 (l4 - 10).toNatClampNeg))) h2))))))) ∧ ((l4 = 1) → (P (some (aI (gI h 26 0 54))) h)))) ∧ ((l4 = 0) → (P (some (aI (gI h 26 0 53))) h)))) ∧ ((¬ l5 = 0) → (Cl true mX10_tries d 0 0 [aR 26 0, aI l2, aI l1] h (fun r4 h5 => r4 = none ∧ (Cl true mX10_nextRow d 0 0 [aR 26 0, aI l2] h5 (fun r6 h7 => ∃ x8 : Int32, r6 = some (aI x8) ∧ (V true mX10_best (d + 1) bc bs 63 [(0, aR 26 0), (1, aI l1), (2, aI l2), (4, aI l4), (5, aI x8)] [] h7 P))))))) : V true mX10_best (d + 1) bc bs 63 [(0, aR 26 0), (1, aI l1), (2, aI l2), (4, aI l4), (5, aI l5)] [] h P := by
  refine V_iload 5 dX10_best_63 rfl ?_
  refine V_if_eq 84 dX10_best_65 (by decide) ⟨fun z => ?_, fun z => ?_⟩
  · replace k := k.1 z
    refine V_iload 4 dX10_best_84 rfl ?_
    refine V_if_ne 96 dX10_best_86 (by decide) ⟨fun z => ?_, fun z => ?_⟩
    · replace k := k.1 z
      refine V_iload 4 dX10_best_96 rfl ?_
      refine V_iconst 1 dX10_best_98 (by decide) ?_
      refine V_icmp_ne 109 dX10_best_99 (by decide) ⟨fun z => ?_, fun z => ?_⟩
      · replace k := k.1 z
        refine V_iload 4 dX10_best_109 rfl ?_
        refine V_bipush 10 dX10_best_111 (by decide) ?_
        refine V_bipush 9 dX10_best_113 (by decide) ?_
        refine V_iload_n 2 dX10_best_115 rfl rfl ?_
        refine V_iadd dX10_best_116 ?_
        refine V_callS (mc := 0) (ms := 0) (as := [aI l4, aI 10, aI (9 + l2)]) (st := []) dX10_best_117 okX10_isIn stX10_isIn lkX10_111 rfl (Nat.le_of_ble_eq_true rfl) (Nat.zero_le _) (Nat.zero_le _) (Cl.mono (fun r1 h2 z => ?_) k)
        obtain ⟨x3, rfl, k⟩ := z
        refine V_if_eq 136 dX10_best_120 (by decide) ⟨fun z => ?_, fun z => ?_⟩
        · replace k := k.1 z
          refine V_iconst (-1) dX10_best_136 (by decide) ?_
          exact V_ireturn dX10_best_137 rfl k
        · replace k := k.2 z
          refine V_aload_n 0 dX10_best_123 rfl rfl ?_
          refine GS_26_52 dX10_best_124 lkX10_105 ?_
          refine V_iload 4 dX10_best_127 rfl ?_
          refine V_bipush 10 dX10_best_129 (by decide) ?_
          refine V_isub dX10_best_131 ?_
          refine V_iald (by decide) rt_57 dX10_best_132 k.1 ?_
          replace k := k.2
          refine V_goto 137 dX10_best_133 (by decide) ?_
          exact V_ireturn dX10_best_137 rfl k
      · replace k := k.2 z
        refine V_aload_n 0 dX10_best_102 rfl rfl ?_
        refine GI_26_54 dX10_best_103 lkX10_280 ?_
        refine V_goto 137 dX10_best_106 (by decide) ?_
        exact V_ireturn dX10_best_137 rfl k
    · replace k := k.2 z
      refine V_aload_n 0 dX10_best_89 rfl rfl ?_
      refine GI_26_53 dX10_best_90 lkX10_277 ?_
      refine V_goto 137 dX10_best_93 (by decide) ?_
      exact V_ireturn dX10_best_137 rfl k
  · replace k := k.2 z
    refine V_aload_n 0 dX10_best_68 rfl rfl ?_
    refine V_iload_n 2 dX10_best_69 rfl rfl ?_
    refine V_iload_n 1 dX10_best_70 rfl rfl ?_
    refine V_callV (mc := 0) (ms := 0) (as := [aI l2, aI l1]) (st := []) (by decide) rt_26 rfl dX10_best_71 okX10_tries inX10_tries seX10_tries lkX10_283 rfl (Nat.le_of_ble_eq_true rfl) (Nat.zero_le _) (Nat.zero_le _) (Cl.mono (fun r4 h5 z => ?_) k)
    obtain ⟨rfl, k⟩ := z
    refine V_aload_n 0 dX10_best_74 rfl rfl ?_
    refine V_iload_n 2 dX10_best_75 rfl rfl ?_
    refine V_callV (mc := 0) (ms := 0) (as := [aI l2]) (st := []) (by decide) rt_26 rfl dX10_best_76 okX10_nextRow inX10_nextRow seX10_nextRow lkX10_286 rfl (Nat.le_of_ble_eq_true rfl) (Nat.zero_le _) (Nat.zero_le _) (Cl.mono (fun r6 h7 z => ?_) k)
    obtain ⟨x8, rfl, k⟩ := z
    refine V_istore 5 dX10_best_79 (by decide) rfl ?_
    refine V_goto 63 dX10_best_81 (by decide) ?_
    exact V_lv [1, 2, 3, 4, 0] rfl k
end

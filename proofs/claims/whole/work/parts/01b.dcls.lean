theorem dX1_part_0 : decode cX1_part 0 = .ok (.iload_n 1, 1) := by decide +kernel
theorem dX1_part_1 : decode cX1_part 1 = .ok (.ifCond .ne 7, 3) := by decide +kernel
theorem dX1_part_4 : decode cX1_part 4 = .ok (.iconst 0, 1) := by decide +kernel
theorem dX1_part_5 : decode cX1_part 5 = .ok (.goto 6, 3) := by decide +kernel
theorem dX1_part_8 : decode cX1_part 8 = .ok (.iload_n 0, 1) := by decide +kernel
theorem dX1_part_9 : decode cX1_part 9 = .ok (.iload_n 1, 1) := by decide +kernel
theorem dX1_part_10 : decode cX1_part 10 = .ok (.idiv, 1) := by decide +kernel
theorem dX1_part_11 : decode cX1_part 11 = .ok (.ireturn, 1) := by decide +kernel
theorem dX1_joined_0 : decode cX1_joined 0 = .ok (.iload_n 0, 1) := by decide +kernel
theorem dX1_joined_1 : decode cX1_joined 1 = .ok (.lookupswitch 104 #[(42, 67), (43, 59), (45, 63), (60, 71), (61, 82), (62, 93)], 59) := by decide +kernel
theorem dX1_joined_60 : decode cX1_joined 60 = .ok (.iload_n 1, 1) := by decide +kernel
theorem dX1_joined_61 : decode cX1_joined 61 = .ok (.iload_n 2, 1) := by decide +kernel
theorem dX1_joined_62 : decode cX1_joined 62 = .ok (.iadd, 1) := by decide +kernel
theorem dX1_joined_63 : decode cX1_joined 63 = .ok (.ireturn, 1) := by decide +kernel
theorem dX1_joined_64 : decode cX1_joined 64 = .ok (.iload_n 1, 1) := by decide +kernel
theorem dX1_joined_65 : decode cX1_joined 65 = .ok (.iload_n 2, 1) := by decide +kernel
theorem dX1_joined_66 : decode cX1_joined 66 = .ok (.isub, 1) := by decide +kernel
theorem dX1_joined_67 : decode cX1_joined 67 = .ok (.ireturn, 1) := by decide +kernel
theorem dX1_joined_68 : decode cX1_joined 68 = .ok (.iload_n 1, 1) := by decide +kernel
theorem dX1_joined_69 : decode cX1_joined 69 = .ok (.iload_n 2, 1) := by decide +kernel
theorem dX1_joined_70 : decode cX1_joined 70 = .ok (.imul, 1) := by decide +kernel
theorem dX1_joined_71 : decode cX1_joined 71 = .ok (.ireturn, 1) := by decide +kernel
theorem dX1_joined_72 : decode cX1_joined 72 = .ok (.iload_n 1, 1) := by decide +kernel
theorem dX1_joined_73 : decode cX1_joined 73 = .ok (.iload_n 2, 1) := by decide +kernel
theorem dX1_joined_74 : decode cX1_joined 74 = .ok (.if_icmp .ge 7, 3) := by decide +kernel
theorem dX1_joined_77 : decode cX1_joined 77 = .ok (.iconst 1, 1) := by decide +kernel
theorem dX1_joined_78 : decode cX1_joined 78 = .ok (.goto 4, 3) := by decide +kernel
theorem dX1_joined_81 : decode cX1_joined 81 = .ok (.iconst 0, 1) := by decide +kernel
theorem dX1_joined_82 : decode cX1_joined 82 = .ok (.ireturn, 1) := by decide +kernel
theorem dX1_joined_83 : decode cX1_joined 83 = .ok (.iload_n 1, 1) := by decide +kernel
theorem dX1_joined_84 : decode cX1_joined 84 = .ok (.iload_n 2, 1) := by decide +kernel
theorem dX1_joined_85 : decode cX1_joined 85 = .ok (.if_icmp .ne 7, 3) := by decide +kernel
theorem dX1_joined_88 : decode cX1_joined 88 = .ok (.iconst 1, 1) := by decide +kernel
theorem dX1_joined_89 : decode cX1_joined 89 = .ok (.goto 4, 3) := by decide +kernel
theorem dX1_joined_92 : decode cX1_joined 92 = .ok (.iconst 0, 1) := by decide +kernel
theorem dX1_joined_93 : decode cX1_joined 93 = .ok (.ireturn, 1) := by decide +kernel
theorem dX1_joined_94 : decode cX1_joined 94 = .ok (.iload_n 1, 1) := by decide +kernel
theorem dX1_joined_95 : decode cX1_joined 95 = .ok (.iload_n 2, 1) := by decide +kernel
theorem dX1_joined_96 : decode cX1_joined 96 = .ok (.if_icmp .le 7, 3) := by decide +kernel
theorem dX1_joined_99 : decode cX1_joined 99 = .ok (.iconst 1, 1) := by decide +kernel
theorem dX1_joined_100 : decode cX1_joined 100 = .ok (.goto 4, 3) := by decide +kernel
theorem dX1_joined_103 : decode cX1_joined 103 = .ok (.iconst 0, 1) := by decide +kernel
theorem dX1_joined_104 : decode cX1_joined 104 = .ok (.ireturn, 1) := by decide +kernel
theorem dX1_joined_105 : decode cX1_joined 105 = .ok (.iload_n 1, 1) := by decide +kernel
theorem dX1_joined_106 : decode cX1_joined 106 = .ok (.iload_n 2, 1) := by decide +kernel
theorem dX1_joined_107 : decode cX1_joined 107 = .ok (.iand, 1) := by decide +kernel
theorem dX1_joined_108 : decode cX1_joined 108 = .ok (.ireturn, 1) := by decide +kernel
theorem dX2_kind_0 : decode cX2_kind 0 = .ok (.aload_n 0, 1) := by decide +kernel
theorem dX2_kind_1 : decode cX2_kind 1 = .ok (.getfield 19, 3) := by decide +kernel
theorem dX2_kind_4 : decode cX2_kind 4 = .ok (.ifCond .lt 42, 3) := by decide +kernel
theorem dX2_kind_7 : decode cX2_kind 7 = .ok (.aload_n 0, 1) := by decide +kernel
theorem dX2_kind_8 : decode cX2_kind 8 = .ok (.getfield 19, 3) := by decide +kernel
theorem dX2_kind_11 : decode cX2_kind 11 = .ok (.aload_n 0, 1) := by decide +kernel
theorem dX2_kind_12 : decode cX2_kind 12 = .ok (.getfield 9, 3) := by decide +kernel
theorem dX2_kind_15 : decode cX2_kind 15 = .ok (.getfield 79, 3) := by decide +kernel
theorem dX2_kind_18 : decode cX2_kind 18 = .ok (.if_icmp .ge 28, 3) := by decide +kernel
theorem dX2_kind_21 : decode cX2_kind 21 = .ok (.aload_n 0, 1) := by decide +kernel
theorem dX2_kind_22 : decode cX2_kind 22 = .ok (.getfield 19, 3) := by decide +kernel
theorem dX2_kind_25 : decode cX2_kind 25 = .ok (.sipush 400, 3) := by decide +kernel
theorem dX2_kind_28 : decode cX2_kind 28 = .ok (.if_icmp .gt 18, 3) := by decide +kernel
theorem dX2_kind_31 : decode cX2_kind 31 = .ok (.aload_n 0, 1) := by decide +kernel
theorem dX2_kind_32 : decode cX2_kind 32 = .ok (.getfield 9, 3) := by decide +kernel
theorem dX2_kind_35 : decode cX2_kind 35 = .ok (.getfield 82, 3) := by decide +kernel
theorem dX2_kind_38 : decode cX2_kind 38 = .ok (.aload_n 0, 1) := by decide +kernel
theorem dX2_kind_39 : decode cX2_kind 39 = .ok (.getfield 19, 3) := by decide +kernel
theorem dX2_kind_42 : decode cX2_kind 42 = .ok (.iaload, 1) := by decide +kernel
theorem dX2_kind_43 : decode cX2_kind 43 = .ok (.goto 6, 3) := by decide +kernel
theorem dX2_kind_46 : decode cX2_kind 46 = .ok (.sipush 256, 3) := by decide +kernel
theorem dX2_kind_49 : decode cX2_kind 49 = .ok (.ireturn, 1) := by decide +kernel
theorem dX2_number_0 : decode cX2_number 0 = .ok (.aload_n 0, 1) := by decide +kernel
theorem dX2_number_1 : decode cX2_number 1 = .ok (.getfield 19, 3) := by decide +kernel
theorem dX2_number_4 : decode cX2_number 4 = .ok (.ifCond .lt 42, 3) := by decide +kernel
theorem dX2_number_7 : decode cX2_number 7 = .ok (.aload_n 0, 1) := by decide +kernel
theorem dX2_number_8 : decode cX2_number 8 = .ok (.getfield 19, 3) := by decide +kernel
theorem dX2_number_11 : decode cX2_number 11 = .ok (.aload_n 0, 1) := by decide +kernel
theorem dX2_number_12 : decode cX2_number 12 = .ok (.getfield 9, 3) := by decide +kernel
theorem dX2_number_15 : decode cX2_number 15 = .ok (.getfield 79, 3) := by decide +kernel
theorem dX2_number_18 : decode cX2_number 18 = .ok (.if_icmp .ge 28, 3) := by decide +kernel
theorem dX2_number_21 : decode cX2_number 21 = .ok (.aload_n 0, 1) := by decide +kernel
theorem dX2_number_22 : decode cX2_number 22 = .ok (.getfield 19, 3) := by decide +kernel
theorem dX2_number_25 : decode cX2_number 25 = .ok (.sipush 400, 3) := by decide +kernel
theorem dX2_number_28 : decode cX2_number 28 = .ok (.if_icmp .gt 18, 3) := by decide +kernel
theorem dX2_number_31 : decode cX2_number 31 = .ok (.aload_n 0, 1) := by decide +kernel
theorem dX2_number_32 : decode cX2_number 32 = .ok (.getfield 9, 3) := by decide +kernel
theorem dX2_number_35 : decode cX2_number 35 = .ok (.getfield 86, 3) := by decide +kernel
theorem dX2_number_38 : decode cX2_number 38 = .ok (.aload_n 0, 1) := by decide +kernel
theorem dX2_number_39 : decode cX2_number 39 = .ok (.getfield 19, 3) := by decide +kernel
theorem dX2_number_42 : decode cX2_number 42 = .ok (.iaload, 1) := by decide +kernel
theorem dX2_number_43 : decode cX2_number 43 = .ok (.goto 4, 3) := by decide +kernel
theorem dX2_number_46 : decode cX2_number 46 = .ok (.iconst 0, 1) := by decide +kernel
theorem dX2_number_47 : decode cX2_number 47 = .ok (.ireturn, 1) := by decide +kernel
theorem dX3_state_0 : decode cX3_state 0 = .ok (.aload_n 0, 1) := by decide +kernel
theorem dX3_state_1 : decode cX3_state 1 = .ok (.getfield 49, 3) := by decide +kernel
theorem dX3_state_4 : decode cX3_state 4 = .ok (.iconst (-1), 1) := by decide +kernel
theorem dX3_state_5 : decode cX3_state 5 = .ok (.if_icmp .eq 5, 3) := by decide +kernel
theorem dX3_state_8 : decode cX3_state 8 = .ok (.iconst 2, 1) := by decide +kernel
theorem dX3_state_9 : decode cX3_state 9 = .ok (.ireturn, 1) := by decide +kernel
theorem dX3_state_10 : decode cX3_state 10 = .ok (.aload_n 0, 1) := by decide +kernel
theorem dX3_state_11 : decode cX3_state 11 = .ok (.getfield 46, 3) := by decide +kernel
theorem dX3_state_14 : decode cX3_state 14 = .ok (.iconst (-1), 1) := by decide +kernel
theorem dX3_state_15 : decode cX3_state 15 = .ok (.if_icmp .ne 7, 3) := by decide +kernel
theorem dX3_state_18 : decode cX3_state 18 = .ok (.iconst 1, 1) := by decide +kernel
theorem dX3_state_19 : decode cX3_state 19 = .ok (.goto 4, 3) := by decide +kernel
theorem dX3_state_22 : decode cX3_state 22 = .ok (.iconst 0, 1) := by decide +kernel
theorem dX3_state_23 : decode cX3_state 23 = .ok (.ireturn, 1) := by decide +kernel
theorem dX3_isParcel_0 : decode cX3_isParcel 0 = .ok (.aload_n 0, 1) := by decide +kernel
theorem dX3_isParcel_1 : decode cX3_isParcel 1 = .ok (.getfield 28, 3) := by decide +kernel
theorem dX3_isParcel_4 : decode cX3_isParcel 4 = .ok (.iconst (-1), 1) := by decide +kernel
theorem dX3_isParcel_5 : decode cX3_isParcel 5 = .ok (.if_icmp .eq 23, 3) := by decide +kernel
theorem dX3_isParcel_8 : decode cX3_isParcel 8 = .ok (.aload_n 0, 1) := by decide +kernel
theorem dX3_isParcel_9 : decode cX3_isParcel 9 = .ok (.getfield 52, 3) := by decide +kernel
theorem dX3_isParcel_12 : decode cX3_isParcel 12 = .ok (.iconst (-1), 1) := by decide +kernel
theorem dX3_isParcel_13 : decode cX3_isParcel 13 = .ok (.if_icmp .ne 15, 3) := by decide +kernel
theorem dX3_isParcel_16 : decode cX3_isParcel 16 = .ok (.aload_n 0, 1) := by decide +kernel
theorem dX3_isParcel_17 : decode cX3_isParcel 17 = .ok (.getfield 49, 3) := by decide +kernel
theorem dX3_isParcel_20 : decode cX3_isParcel 20 = .ok (.iconst (-1), 1) := by decide +kernel
theorem dX3_isParcel_21 : decode cX3_isParcel 21 = .ok (.if_icmp .ne 7, 3) := by decide +kernel
theorem dX3_isParcel_24 : decode cX3_isParcel 24 = .ok (.iconst 1, 1) := by decide +kernel
theorem dX3_isParcel_25 : decode cX3_isParcel 25 = .ok (.goto 4, 3) := by decide +kernel
theorem dX3_isParcel_28 : decode cX3_isParcel 28 = .ok (.iconst 0, 1) := by decide +kernel
theorem dX3_isParcel_29 : decode cX3_isParcel 29 = .ok (.ireturn, 1) := by decide +kernel
theorem dX3_canComeBack_0 : decode cX3_canComeBack 0 = .ok (.aload_n 0, 1) := by decide +kernel
theorem dX3_canComeBack_1 : decode cX3_canComeBack 1 = .ok (.getfield 49, 3) := by decide +kernel
theorem dX3_canComeBack_4 : decode cX3_canComeBack 4 = .ok (.iconst (-1), 1) := by decide +kernel
theorem dX3_canComeBack_5 : decode cX3_canComeBack 5 = .ok (.if_icmp .eq 5, 3) := by decide +kernel
theorem dX3_canComeBack_8 : decode cX3_canComeBack 8 = .ok (.iconst 0, 1) := by decide +kernel
theorem dX3_canComeBack_9 : decode cX3_canComeBack 9 = .ok (.ireturn, 1) := by decide +kernel
theorem dX3_canComeBack_10 : decode cX3_canComeBack 10 = .ok (.aload_n 0, 1) := by decide +kernel
theorem dX3_canComeBack_11 : decode cX3_canComeBack 11 = .ok (.getfield 46, 3) := by decide +kernel
theorem dX3_canComeBack_14 : decode cX3_canComeBack 14 = .ok (.iconst (-1), 1) := by decide +kernel
theorem dX3_canComeBack_15 : decode cX3_canComeBack 15 = .ok (.if_icmp .eq 14, 3) := by decide +kernel
theorem dX3_canComeBack_18 : decode cX3_canComeBack 18 = .ok (.iload_n 1, 1) := by decide +kernel
theorem dX3_canComeBack_19 : decode cX3_canComeBack 19 = .ok (.aload_n 0, 1) := by decide +kernel
theorem dX3_canComeBack_20 : decode cX3_canComeBack 20 = .ok (.getfield 46, 3) := by decide +kernel
theorem dX3_canComeBack_23 : decode cX3_canComeBack 23 = .ok (.bipush 28, 2) := by decide +kernel
theorem dX3_canComeBack_25 : decode cX3_canComeBack 25 = .ok (.iadd, 1) := by decide +kernel
theorem dX3_canComeBack_26 : decode cX3_canComeBack 26 = .ok (.if_icmp .gt 7, 3) := by decide +kernel
theorem dX3_canComeBack_29 : decode cX3_canComeBack 29 = .ok (.iconst 1, 1) := by decide +kernel
theorem dX3_canComeBack_30 : decode cX3_canComeBack 30 = .ok (.goto 4, 3) := by decide +kernel
theorem dX3_canComeBack_33 : decode cX3_canComeBack 33 = .ok (.iconst 0, 1) := by decide +kernel
theorem dX3_canComeBack_34 : decode cX3_canComeBack 34 = .ok (.ireturn, 1) := by decide +kernel
theorem dX3_wasSoldIn_0 : decode cX3_wasSoldIn 0 = .ok (.aload_n 0, 1) := by decide +kernel
theorem dX3_wasSoldIn_1 : decode cX3_wasSoldIn 1 = .ok (.getfield 46, 3) := by decide +kernel
theorem dX3_wasSoldIn_4 : decode cX3_wasSoldIn 4 = .ok (.iconst (-1), 1) := by decide +kernel
theorem dX3_wasSoldIn_5 : decode cX3_wasSoldIn 5 = .ok (.if_icmp .eq 18, 3) := by decide +kernel
theorem dX3_wasSoldIn_8 : decode cX3_wasSoldIn 8 = .ok (.aload_n 0, 1) := by decide +kernel
theorem dX3_wasSoldIn_9 : decode cX3_wasSoldIn 9 = .ok (.getfield 46, 3) := by decide +kernel
theorem dX3_wasSoldIn_12 : decode cX3_wasSoldIn 12 = .ok (.bipush 28, 2) := by decide +kernel
theorem dX3_wasSoldIn_14 : decode cX3_wasSoldIn 14 = .ok (.idiv, 1) := by decide +kernel
theorem dX3_wasSoldIn_15 : decode cX3_wasSoldIn 15 = .ok (.iload_n 1, 1) := by decide +kernel
theorem dX3_wasSoldIn_16 : decode cX3_wasSoldIn 16 = .ok (.if_icmp .ne 7, 3) := by decide +kernel
theorem dX3_wasSoldIn_19 : decode cX3_wasSoldIn 19 = .ok (.iconst 1, 1) := by decide +kernel
theorem dX3_wasSoldIn_20 : decode cX3_wasSoldIn 20 = .ok (.goto 4, 3) := by decide +kernel
theorem dX3_wasSoldIn_23 : decode cX3_wasSoldIn 23 = .ok (.iconst 0, 1) := by decide +kernel
theorem dX3_wasSoldIn_24 : decode cX3_wasSoldIn 24 = .ok (.ireturn, 1) := by decide +kernel
theorem dX3_cameBackSoldIn_0 : decode cX3_cameBackSoldIn 0 = .ok (.aload_n 0, 1) := by decide +kernel
theorem dX3_cameBackSoldIn_1 : decode cX3_cameBackSoldIn 1 = .ok (.getfield 46, 3) := by decide +kernel
theorem dX3_cameBackSoldIn_4 : decode cX3_cameBackSoldIn 4 = .ok (.iconst (-1), 1) := by decide +kernel
theorem dX3_cameBackSoldIn_5 : decode cX3_cameBackSoldIn 5 = .ok (.if_icmp .eq 26, 3) := by decide +kernel
theorem dX3_cameBackSoldIn_8 : decode cX3_cameBackSoldIn 8 = .ok (.aload_n 0, 1) := by decide +kernel
theorem dX3_cameBackSoldIn_9 : decode cX3_cameBackSoldIn 9 = .ok (.getfield 49, 3) := by decide +kernel
theorem dX3_cameBackSoldIn_12 : decode cX3_cameBackSoldIn 12 = .ok (.iconst (-1), 1) := by decide +kernel
theorem dX3_cameBackSoldIn_13 : decode cX3_cameBackSoldIn 13 = .ok (.if_icmp .eq 18, 3) := by decide +kernel
theorem dX3_cameBackSoldIn_16 : decode cX3_cameBackSoldIn 16 = .ok (.aload_n 0, 1) := by decide +kernel
theorem dX3_cameBackSoldIn_17 : decode cX3_cameBackSoldIn 17 = .ok (.getfield 49, 3) := by decide +kernel
theorem dX3_cameBackSoldIn_20 : decode cX3_cameBackSoldIn 20 = .ok (.bipush 28, 2) := by decide +kernel
theorem dX3_cameBackSoldIn_22 : decode cX3_cameBackSoldIn 22 = .ok (.idiv, 1) := by decide +kernel
theorem dX3_cameBackSoldIn_23 : decode cX3_cameBackSoldIn 23 = .ok (.iload_n 1, 1) := by decide +kernel
theorem dX3_cameBackSoldIn_24 : decode cX3_cameBackSoldIn 24 = .ok (.if_icmp .ne 7, 3) := by decide +kernel
theorem dX3_cameBackSoldIn_27 : decode cX3_cameBackSoldIn 27 = .ok (.iconst 1, 1) := by decide +kernel
theorem dX3_cameBackSoldIn_28 : decode cX3_cameBackSoldIn 28 = .ok (.goto 4, 3) := by decide +kernel
theorem dX3_cameBackSoldIn_31 : decode cX3_cameBackSoldIn 31 = .ok (.iconst 0, 1) := by decide +kernel
theorem dX3_cameBackSoldIn_32 : decode cX3_cameBackSoldIn 32 = .ok (.ireturn, 1) := by decide +kernel
theorem dX3_statedWorth_0 : decode cX3_statedWorth 0 = .ok (.iconst 0, 1) := by decide +kernel
theorem dX3_statedWorth_1 : decode cX3_statedWorth 1 = .ok (.istore_n 3, 1) := by decide +kernel
theorem dX3_statedWorth_2 : decode cX3_statedWorth 2 = .ok (.aload_n 0, 1) := by decide +kernel
theorem dX3_statedWorth_3 : decode cX3_statedWorth 3 = .ok (.getfield 43, 3) := by decide +kernel
theorem dX3_statedWorth_6 : decode cX3_statedWorth 6 = .ok (.iload_n 2, 1) := by decide +kernel
theorem dX3_statedWorth_7 : decode cX3_statedWorth 7 = .ok (.if_icmp .le 5, 3) := by decide +kernel
theorem dX3_statedWorth_10 : decode cX3_statedWorth 10 = .ok (.iload_n 3, 1) := by decide +kernel
theorem dX3_statedWorth_11 : decode cX3_statedWorth 11 = .ok (.ireturn, 1) := by decide +kernel
theorem dX3_statedWorth_12 : decode cX3_statedWorth 12 = .ok (.aload_n 0, 1) := by decide +kernel
theorem dX3_statedWorth_13 : decode cX3_statedWorth 13 = .ok (.iload_n 1, 1) := by decide +kernel
theorem dX3_statedWorth_14 : decode cX3_statedWorth 14 = .ok (.invokevirtual 59, 3) := by decide +kernel
theorem dX3_statedWorth_17 : decode cX3_statedWorth 17 = .ok (.ifCond .eq 18, 3) := by decide +kernel
theorem dX3_statedWorth_20 : decode cX3_statedWorth 20 = .ok (.aload_n 0, 1) := by decide +kernel
theorem dX3_statedWorth_21 : decode cX3_statedWorth 21 = .ok (.getfield 46, 3) := by decide +kernel
theorem dX3_statedWorth_24 : decode cX3_statedWorth 24 = .ok (.iload_n 2, 1) := by decide +kernel
theorem dX3_statedWorth_25 : decode cX3_statedWorth 25 = .ok (.if_icmp .gt 10, 3) := by decide +kernel
theorem dX3_statedWorth_28 : decode cX3_statedWorth 28 = .ok (.iload_n 3, 1) := by decide +kernel
theorem dX3_statedWorth_29 : decode cX3_statedWorth 29 = .ok (.aload_n 0, 1) := by decide +kernel
theorem dX3_statedWorth_30 : decode cX3_statedWorth 30 = .ok (.getfield 40, 3) := by decide +kernel
theorem dX3_statedWorth_33 : decode cX3_statedWorth 33 = .ok (.iadd, 1) := by decide +kernel
theorem dX3_statedWorth_34 : decode cX3_statedWorth 34 = .ok (.istore_n 3, 1) := by decide +kernel
theorem dX3_statedWorth_35 : decode cX3_statedWorth 35 = .ok (.aload_n 0, 1) := by decide +kernel
theorem dX3_statedWorth_36 : decode cX3_statedWorth 36 = .ok (.iload_n 1, 1) := by decide +kernel
theorem dX3_statedWorth_37 : decode cX3_statedWorth 37 = .ok (.invokevirtual 63, 3) := by decide +kernel
theorem dX3_statedWorth_40 : decode cX3_statedWorth 40 = .ok (.ifCond .eq 18, 3) := by decide +kernel
theorem dX3_statedWorth_43 : decode cX3_statedWorth 43 = .ok (.aload_n 0, 1) := by decide +kernel
theorem dX3_statedWorth_44 : decode cX3_statedWorth 44 = .ok (.getfield 49, 3) := by decide +kernel
theorem dX3_statedWorth_47 : decode cX3_statedWorth 47 = .ok (.iload_n 2, 1) := by decide +kernel
theorem dX3_statedWorth_48 : decode cX3_statedWorth 48 = .ok (.if_icmp .gt 10, 3) := by decide +kernel
theorem dX3_statedWorth_51 : decode cX3_statedWorth 51 = .ok (.iload_n 3, 1) := by decide +kernel
theorem dX3_statedWorth_52 : decode cX3_statedWorth 52 = .ok (.aload_n 0, 1) := by decide +kernel
theorem dX3_statedWorth_53 : decode cX3_statedWorth 53 = .ok (.getfield 40, 3) := by decide +kernel
theorem dX3_statedWorth_56 : decode cX3_statedWorth 56 = .ok (.isub, 1) := by decide +kernel
theorem dX3_statedWorth_57 : decode cX3_statedWorth 57 = .ok (.istore_n 3, 1) := by decide +kernel
theorem dX3_statedWorth_58 : decode cX3_statedWorth 58 = .ok (.iload_n 3, 1) := by decide +kernel
theorem dX3_statedWorth_59 : decode cX3_statedWorth 59 = .ok (.ireturn, 1) := by decide +kernel
theorem dX4_valueOfWord_0 : decode cX4_valueOfWord 0 = .ok (.iload_n 1, 1) := by decide +kernel
theorem dX4_valueOfWord_1 : decode cX4_valueOfWord 1 = .ok (.tableswitch 42 262 264 #[27, 32, 37], 27) := by decide +kernel
theorem dX4_valueOfWord_28 : decode cX4_valueOfWord 28 = .ok (.aload_n 0, 1) := by decide +kernel
theorem dX4_valueOfWord_29 : decode cX4_valueOfWord 29 = .ok (.getfield 7, 3) := by decide +kernel
theorem dX4_valueOfWord_32 : decode cX4_valueOfWord 32 = .ok (.ireturn, 1) := by decide +kernel
theorem dX4_valueOfWord_33 : decode cX4_valueOfWord 33 = .ok (.aload_n 0, 1) := by decide +kernel
theorem dX4_valueOfWord_34 : decode cX4_valueOfWord 34 = .ok (.getfield 13, 3) := by decide +kernel
theorem dX4_valueOfWord_37 : decode cX4_valueOfWord 37 = .ok (.ireturn, 1) := by decide +kernel
theorem dX4_valueOfWord_38 : decode cX4_valueOfWord 38 = .ok (.aload_n 0, 1) := by decide +kernel
theorem dX4_valueOfWord_39 : decode cX4_valueOfWord 39 = .ok (.getfield 16, 3) := by decide +kernel
theorem dX4_valueOfWord_42 : decode cX4_valueOfWord 42 = .ok (.ireturn, 1) := by decide +kernel
theorem dX4_valueOfWord_43 : decode cX4_valueOfWord 43 = .ok (.aload_n 0, 1) := by decide +kernel
theorem dX4_valueOfWord_44 : decode cX4_valueOfWord 44 = .ok (.getfield 19, 3) := by decide +kernel
theorem dX4_valueOfWord_47 : decode cX4_valueOfWord 47 = .ok (.ireturn, 1) := by decide +kernel
theorem dX6_tagOn_0 : decode cX6_tagOn 0 = .ok (.iload_n 1, 1) := by decide +kernel
theorem dX6_tagOn_1 : decode cX6_tagOn 1 = .ok (.ifCond .lt 19, 3) := by decide +kernel
theorem dX6_tagOn_4 : decode cX6_tagOn 4 = .ok (.iload_n 1, 1) := by decide +kernel
theorem dX6_tagOn_5 : decode cX6_tagOn 5 = .ok (.sipush 364, 3) := by decide +kernel
theorem dX6_tagOn_8 : decode cX6_tagOn 8 = .ok (.if_icmp .ge 12, 3) := by decide +kernel
theorem dX6_tagOn_11 : decode cX6_tagOn 11 = .ok (.aload_n 0, 1) := by decide +kernel
theorem dX6_tagOn_12 : decode cX6_tagOn 12 = .ok (.getfield 9, 3) := by decide +kernel
theorem dX6_tagOn_15 : decode cX6_tagOn 15 = .ok (.iload_n 1, 1) := by decide +kernel
theorem dX6_tagOn_16 : decode cX6_tagOn 16 = .ok (.iaload, 1) := by decide +kernel
theorem dX6_tagOn_17 : decode cX6_tagOn 17 = .ok (.goto 4, 3) := by decide +kernel
theorem dX6_tagOn_20 : decode cX6_tagOn 20 = .ok (.iconst 0, 1) := by decide +kernel
theorem dX6_tagOn_21 : decode cX6_tagOn 21 = .ok (.ireturn, 1) := by decide +kernel
theorem dX7_isLetter_0 : decode cX7_isLetter 0 = .ok (.iload_n 0, 1) := by decide +kernel
theorem dX7_isLetter_1 : decode cX7_isLetter 1 = .ok (.bipush 97, 2) := by decide +kernel
theorem dX7_isLetter_3 : decode cX7_isLetter 3 = .ok (.if_icmp .lt 9, 3) := by decide +kernel
theorem dX7_isLetter_6 : decode cX7_isLetter 6 = .ok (.iload_n 0, 1) := by decide +kernel
theorem dX7_isLetter_7 : decode cX7_isLetter 7 = .ok (.bipush 122, 2) := by decide +kernel
theorem dX7_isLetter_9 : decode cX7_isLetter 9 = .ok (.if_icmp .le 15, 3) := by decide +kernel
theorem dX7_isLetter_12 : decode cX7_isLetter 12 = .ok (.iload_n 0, 1) := by decide +kernel
theorem dX7_isLetter_13 : decode cX7_isLetter 13 = .ok (.bipush 65, 2) := by decide +kernel
theorem dX7_isLetter_15 : decode cX7_isLetter 15 = .ok (.if_icmp .lt 13, 3) := by decide +kernel
theorem dX7_isLetter_18 : decode cX7_isLetter 18 = .ok (.iload_n 0, 1) := by decide +kernel
theorem dX7_isLetter_19 : decode cX7_isLetter 19 = .ok (.bipush 90, 2) := by decide +kernel
theorem dX7_isLetter_21 : decode cX7_isLetter 21 = .ok (.if_icmp .gt 7, 3) := by decide +kernel
theorem dX7_isLetter_24 : decode cX7_isLetter 24 = .ok (.iconst 1, 1) := by decide +kernel
theorem dX7_isLetter_25 : decode cX7_isLetter 25 = .ok (.goto 4, 3) := by decide +kernel
theorem dX7_isLetter_28 : decode cX7_isLetter 28 = .ok (.iconst 0, 1) := by decide +kernel
theorem dX7_isLetter_29 : decode cX7_isLetter 29 = .ok (.ireturn, 1) := by decide +kernel
theorem dX7_isDigit_0 : decode cX7_isDigit 0 = .ok (.iload_n 0, 1) := by decide +kernel
theorem dX7_isDigit_1 : decode cX7_isDigit 1 = .ok (.bipush 48, 2) := by decide +kernel
theorem dX7_isDigit_3 : decode cX7_isDigit 3 = .ok (.if_icmp .lt 13, 3) := by decide +kernel
theorem dX7_isDigit_6 : decode cX7_isDigit 6 = .ok (.iload_n 0, 1) := by decide +kernel
theorem dX7_isDigit_7 : decode cX7_isDigit 7 = .ok (.bipush 57, 2) := by decide +kernel
theorem dX7_isDigit_9 : decode cX7_isDigit 9 = .ok (.if_icmp .gt 7, 3) := by decide +kernel
theorem dX7_isDigit_12 : decode cX7_isDigit 12 = .ok (.iconst 1, 1) := by decide +kernel
theorem dX7_isDigit_13 : decode cX7_isDigit 13 = .ok (.goto 4, 3) := by decide +kernel
theorem dX7_isDigit_16 : decode cX7_isDigit 16 = .ok (.iconst 0, 1) := by decide +kernel
theorem dX7_isDigit_17 : decode cX7_isDigit 17 = .ok (.ireturn, 1) := by decide +kernel
theorem dX9_isWithin_0 : decode cX9_isWithin 0 = .ok (.iload_n 0, 1) := by decide +kernel
theorem dX9_isWithin_1 : decode cX9_isWithin 1 = .ok (.iload_n 1, 1) := by decide +kernel
theorem dX9_isWithin_2 : decode cX9_isWithin 2 = .ok (.if_icmp .lt 12, 3) := by decide +kernel
theorem dX9_isWithin_5 : decode cX9_isWithin 5 = .ok (.iload_n 0, 1) := by decide +kernel
theorem dX9_isWithin_6 : decode cX9_isWithin 6 = .ok (.iload_n 2, 1) := by decide +kernel
theorem dX9_isWithin_7 : decode cX9_isWithin 7 = .ok (.if_icmp .gt 7, 3) := by decide +kernel
theorem dX9_isWithin_10 : decode cX9_isWithin 10 = .ok (.iconst 1, 1) := by decide +kernel
theorem dX9_isWithin_11 : decode cX9_isWithin 11 = .ok (.goto 4, 3) := by decide +kernel
theorem dX9_isWithin_14 : decode cX9_isWithin 14 = .ok (.iconst 0, 1) := by decide +kernel
theorem dX9_isWithin_15 : decode cX9_isWithin 15 = .ok (.ireturn, 1) := by decide +kernel
theorem dX9_isTag_0 : decode cX9_isTag 0 = .ok (.iload_n 0, 1) := by decide +kernel
theorem dX9_isTag_1 : decode cX9_isTag 1 = .ok (.iconst 1, 1) := by decide +kernel
theorem dX9_isTag_2 : decode cX9_isTag 2 = .ok (.sipush 9999, 3) := by decide +kernel
theorem dX9_isTag_5 : decode cX9_isTag 5 = .ok (.invokestatic 85, 3) := by decide +kernel
theorem dX9_isTag_8 : decode cX9_isTag 8 = .ok (.ireturn, 1) := by decide +kernel
theorem dX9_isLevel_0 : decode cX9_isLevel 0 = .ok (.iload_n 0, 1) := by decide +kernel
theorem dX9_isLevel_1 : decode cX9_isLevel 1 = .ok (.iconst 0, 1) := by decide +kernel
theorem dX9_isLevel_2 : decode cX9_isLevel 2 = .ok (.iconst 3, 1) := by decide +kernel
theorem dX9_isLevel_3 : decode cX9_isLevel 3 = .ok (.invokestatic 85, 3) := by decide +kernel
theorem dX9_isLevel_6 : decode cX9_isLevel 6 = .ok (.ireturn, 1) := by decide +kernel
theorem dX9_isHouseOrNone_0 : decode cX9_isHouseOrNone 0 = .ok (.iload_n 0, 1) := by decide +kernel
theorem dX9_isHouseOrNone_1 : decode cX9_isHouseOrNone 1 = .ok (.iconst (-1), 1) := by decide +kernel
theorem dX9_isHouseOrNone_2 : decode cX9_isHouseOrNone 2 = .ok (.bipush 19, 2) := by decide +kernel
theorem dX9_isHouseOrNone_4 : decode cX9_isHouseOrNone 4 = .ok (.invokestatic 85, 3) := by decide +kernel
theorem dX9_isHouseOrNone_7 : decode cX9_isHouseOrNone 7 = .ok (.ireturn, 1) := by decide +kernel
theorem dX9_isBuyer_0 : decode cX9_isBuyer 0 = .ok (.iload_n 0, 1) := by decide +kernel
theorem dX9_isBuyer_1 : decode cX9_isBuyer 1 = .ok (.ifCond .ne 14, 3) := by decide +kernel
theorem dX9_isBuyer_4 : decode cX9_isBuyer 4 = .ok (.iload_n 1, 1) := by decide +kernel
theorem dX9_isBuyer_5 : decode cX9_isBuyer 5 = .ok (.iconst (-1), 1) := by decide +kernel
theorem dX9_isBuyer_6 : decode cX9_isBuyer 6 = .ok (.if_icmp .ne 7, 3) := by decide +kernel
theorem dX9_isBuyer_9 : decode cX9_isBuyer 9 = .ok (.iconst 1, 1) := by decide +kernel
theorem dX9_isBuyer_10 : decode cX9_isBuyer 10 = .ok (.goto 4, 3) := by decide +kernel
theorem dX9_isBuyer_13 : decode cX9_isBuyer 13 = .ok (.iconst 0, 1) := by decide +kernel
theorem dX9_isBuyer_14 : decode cX9_isBuyer 14 = .ok (.ireturn, 1) := by decide +kernel
theorem dX9_isBuyer_15 : decode cX9_isBuyer 15 = .ok (.iload_n 0, 1) := by decide +kernel
theorem dX9_isBuyer_16 : decode cX9_isBuyer 16 = .ok (.iconst 0, 1) := by decide +kernel
theorem dX9_isBuyer_17 : decode cX9_isBuyer 17 = .ok (.iconst 2, 1) := by decide +kernel
theorem dX9_isBuyer_18 : decode cX9_isBuyer 18 = .ok (.invokestatic 85, 3) := by decide +kernel
theorem dX9_isBuyer_21 : decode cX9_isBuyer 21 = .ok (.ifCond .eq 17, 3) := by decide +kernel
theorem dX9_isBuyer_24 : decode cX9_isBuyer 24 = .ok (.iload_n 1, 1) := by decide +kernel
theorem dX9_isBuyer_25 : decode cX9_isBuyer 25 = .ok (.iconst 0, 1) := by decide +kernel
theorem dX9_isBuyer_26 : decode cX9_isBuyer 26 = .ok (.bipush 9, 2) := by decide +kernel
theorem dX9_isBuyer_28 : decode cX9_isBuyer 28 = .ok (.invokestatic 85, 3) := by decide +kernel
theorem dX9_isBuyer_31 : decode cX9_isBuyer 31 = .ok (.ifCond .eq 7, 3) := by decide +kernel
theorem dX9_isBuyer_34 : decode cX9_isBuyer 34 = .ok (.iconst 1, 1) := by decide +kernel
theorem dX9_isBuyer_35 : decode cX9_isBuyer 35 = .ok (.goto 4, 3) := by decide +kernel
theorem dX9_isBuyer_38 : decode cX9_isBuyer 38 = .ok (.iconst 0, 1) := by decide +kernel
theorem dX9_isBuyer_39 : decode cX9_isBuyer 39 = .ok (.ireturn, 1) := by decide +kernel
theorem dX0_seek_0 : decode cX0_seek 0 = .ok (.iload_n 2, 1) := by decide +kernel
theorem dX0_seek_1 : decode cX0_seek 1 = .ok (.bipush 8, 2) := by decide +kernel
theorem dX0_seek_3 : decode cX0_seek 3 = .ok (.invokestatic 31, 3) := by decide +kernel
theorem dX0_seek_6 : decode cX0_seek 6 = .ok (.istore 4, 2) := by decide +kernel
theorem dX0_seek_8 : decode cX0_seek 8 = .ok (.aload_n 0, 1) := by decide +kernel
theorem dX0_seek_9 : decode cX0_seek 9 = .ok (.iconst (-1), 1) := by decide +kernel
theorem dX0_seek_10 : decode cX0_seek 10 = .ok (.putfield 24, 3) := by decide +kernel
theorem dX0_seek_13 : decode cX0_seek 13 = .ok (.iconst 0, 1) := by decide +kernel
theorem dX0_seek_14 : decode cX0_seek 14 = .ok (.istore 5, 2) := by decide +kernel
theorem dX0_seek_16 : decode cX0_seek 16 = .ok (.iload 5, 2) := by decide +kernel
theorem dX0_seek_18 : decode cX0_seek 18 = .ok (.iload 4, 2) := by decide +kernel
theorem dX0_seek_20 : decode cX0_seek 20 = .ok (.if_icmp .ge 17, 3) := by decide +kernel
theorem dX0_seek_23 : decode cX0_seek 23 = .ok (.aload_n 0, 1) := by decide +kernel
theorem dX0_seek_24 : decode cX0_seek 24 = .ok (.getfield 18, 3) := by decide +kernel
theorem dX0_seek_27 : decode cX0_seek 27 = .ok (.iload 5, 2) := by decide +kernel
theorem dX0_seek_29 : decode cX0_seek 29 = .ok (.iload_n 3, 1) := by decide +kernel
theorem dX0_seek_30 : decode cX0_seek 30 = .ok (.iastore, 1) := by decide +kernel
theorem dX0_seek_31 : decode cX0_seek 31 = .ok (.iinc 5 1, 3) := by decide +kernel
theorem dX0_seek_34 : decode cX0_seek 34 = .ok (.goto (-18), 3) := by decide +kernel
theorem dX0_seek_37 : decode cX0_seek 37 = .ok (.iconst 1, 1) := by decide +kernel
theorem dX0_seek_38 : decode cX0_seek 38 = .ok (.istore 5, 2) := by decide +kernel
theorem dX0_seek_40 : decode cX0_seek 40 = .ok (.iconst 0, 1) := by decide +kernel
theorem dX0_seek_41 : decode cX0_seek 41 = .ok (.istore 6, 2) := by decide +kernel
theorem dX0_seek_43 : decode cX0_seek 43 = .ok (.iload 6, 2) := by decide +kernel
theorem dX0_seek_45 : decode cX0_seek 45 = .ok (.ldc 37, 2) := by decide +kernel
theorem dX0_seek_47 : decode cX0_seek 47 = .ok (.if_icmp .ge 29, 3) := by decide +kernel
theorem dX0_seek_50 : decode cX0_seek 50 = .ok (.iload 5, 2) := by decide +kernel
theorem dX0_seek_52 : decode cX0_seek 52 = .ok (.ifCond .eq 24, 3) := by decide +kernel
theorem dX0_seek_55 : decode cX0_seek 55 = .ok (.aload_n 0, 1) := by decide +kernel
theorem dX0_seek_56 : decode cX0_seek 56 = .ok (.iload_n 1, 1) := by decide +kernel
theorem dX0_seek_57 : decode cX0_seek 57 = .ok (.iload 4, 2) := by decide +kernel
theorem dX0_seek_59 : decode cX0_seek 59 = .ok (.invokevirtual 38, 3) := by decide +kernel
theorem dX0_seek_62 : decode cX0_seek 62 = .ok (.aload_n 0, 1) := by decide +kernel
theorem dX0_seek_63 : decode cX0_seek 63 = .ok (.iload 4, 2) := by decide +kernel
theorem dX0_seek_65 : decode cX0_seek 65 = .ok (.invokevirtual 42, 3) := by decide +kernel
theorem dX0_seek_68 : decode cX0_seek 68 = .ok (.istore 5, 2) := by decide +kernel
theorem dX0_seek_70 : decode cX0_seek 70 = .ok (.iinc 6 1, 3) := by decide +kernel
theorem dX0_seek_73 : decode cX0_seek 73 = .ok (.goto (-30), 3) := by decide +kernel
theorem dX0_seek_76 : decode cX0_seek 76 = .ok (.return_, 1) := by decide +kernel
theorem dX0_tryRow_0 : decode cX0_tryRow 0 = .ok (.iload_n 1, 1) := by decide +kernel
theorem dX0_tryRow_1 : decode cX0_tryRow 1 = .ok (.istore_n 3, 1) := by decide +kernel
theorem dX0_tryRow_2 : decode cX0_tryRow 2 = .ok (.iconst 0, 1) := by decide +kernel
theorem dX0_tryRow_3 : decode cX0_tryRow 3 = .ok (.istore 4, 2) := by decide +kernel
theorem dX0_tryRow_5 : decode cX0_tryRow 5 = .ok (.iconst 0, 1) := by decide +kernel
theorem dX0_tryRow_6 : decode cX0_tryRow 6 = .ok (.istore 5, 2) := by decide +kernel
theorem dX0_tryRow_8 : decode cX0_tryRow 8 = .ok (.iload 5, 2) := by decide +kernel
theorem dX0_tryRow_10 : decode cX0_tryRow 10 = .ok (.iload_n 2, 1) := by decide +kernel
theorem dX0_tryRow_11 : decode cX0_tryRow 11 = .ok (.if_icmp .ge 69, 3) := by decide +kernel
theorem dX0_tryRow_14 : decode cX0_tryRow 14 = .ok (.iload 5, 2) := by decide +kernel
theorem dX0_tryRow_16 : decode cX0_tryRow 16 = .ok (.bipush 8, 2) := by decide +kernel
theorem dX0_tryRow_18 : decode cX0_tryRow 18 = .ok (.if_icmp .ge 62, 3) := by decide +kernel
theorem dX0_tryRow_21 : decode cX0_tryRow 21 = .ok (.aload_n 0, 1) := by decide +kernel
theorem dX0_tryRow_22 : decode cX0_tryRow 22 = .ok (.getfield 18, 3) := by decide +kernel
theorem dX0_tryRow_25 : decode cX0_tryRow 25 = .ok (.iload 5, 2) := by decide +kernel
theorem dX0_tryRow_27 : decode cX0_tryRow 27 = .ok (.iaload, 1) := by decide +kernel
theorem dX0_tryRow_28 : decode cX0_tryRow 28 = .ok (.istore 6, 2) := by decide +kernel
theorem dX0_tryRow_30 : decode cX0_tryRow 30 = .ok (.iload 6, 2) := by decide +kernel
theorem dX0_tryRow_32 : decode cX0_tryRow 32 = .ok (.ifCond .lt 42, 3) := by decide +kernel
theorem dX0_tryRow_35 : decode cX0_tryRow 35 = .ok (.iload 6, 2) := by decide +kernel
theorem dX0_tryRow_37 : decode cX0_tryRow 37 = .ok (.iconst 4, 1) := by decide +kernel
theorem dX0_tryRow_38 : decode cX0_tryRow 38 = .ok (.if_icmp .ge 36, 3) := by decide +kernel
theorem dX0_tryRow_41 : decode cX0_tryRow 41 = .ok (.aload_n 0, 1) := by decide +kernel
theorem dX0_tryRow_42 : decode cX0_tryRow 42 = .ok (.getfield 15, 3) := by decide +kernel
theorem dX0_tryRow_45 : decode cX0_tryRow 45 = .ok (.iload 6, 2) := by decide +kernel
theorem dX0_tryRow_47 : decode cX0_tryRow 47 = .ok (.iaload, 1) := by decide +kernel
theorem dX0_tryRow_48 : decode cX0_tryRow 48 = .ok (.iload_n 3, 1) := by decide +kernel
theorem dX0_tryRow_49 : decode cX0_tryRow 49 = .ok (.invokestatic 31, 3) := by decide +kernel
theorem dX0_tryRow_52 : decode cX0_tryRow 52 = .ok (.istore 7, 2) := by decide +kernel
theorem dX0_tryRow_54 : decode cX0_tryRow 54 = .ok (.iload_n 3, 1) := by decide +kernel
theorem dX0_tryRow_55 : decode cX0_tryRow 55 = .ok (.iload 7, 2) := by decide +kernel
theorem dX0_tryRow_57 : decode cX0_tryRow 57 = .ok (.isub, 1) := by decide +kernel
theorem dX0_tryRow_58 : decode cX0_tryRow 58 = .ok (.istore_n 3, 1) := by decide +kernel
theorem dX0_tryRow_59 : decode cX0_tryRow 59 = .ok (.iload 4, 2) := by decide +kernel
theorem dX0_tryRow_61 : decode cX0_tryRow 61 = .ok (.iload 7, 2) := by decide +kernel
theorem dX0_tryRow_63 : decode cX0_tryRow 63 = .ok (.aload_n 0, 1) := by decide +kernel
theorem dX0_tryRow_64 : decode cX0_tryRow 64 = .ok (.getfield 9, 3) := by decide +kernel
theorem dX0_tryRow_67 : decode cX0_tryRow 67 = .ok (.iload 6, 2) := by decide +kernel
theorem dX0_tryRow_69 : decode cX0_tryRow 69 = .ok (.iaload, 1) := by decide +kernel
theorem dX0_tryRow_70 : decode cX0_tryRow 70 = .ok (.imul, 1) := by decide +kernel
theorem dX0_tryRow_71 : decode cX0_tryRow 71 = .ok (.iadd, 1) := by decide +kernel
theorem dX0_tryRow_72 : decode cX0_tryRow 72 = .ok (.istore 4, 2) := by decide +kernel
theorem dX0_tryRow_74 : decode cX0_tryRow 74 = .ok (.iinc 5 1, 3) := by decide +kernel
theorem dX0_tryRow_77 : decode cX0_tryRow 77 = .ok (.goto (-69), 3) := by decide +kernel
theorem dX0_tryRow_80 : decode cX0_tryRow 80 = .ok (.iload 4, 2) := by decide +kernel
theorem dX0_tryRow_82 : decode cX0_tryRow 82 = .ok (.aload_n 0, 1) := by decide +kernel
theorem dX0_tryRow_83 : decode cX0_tryRow 83 = .ok (.getfield 24, 3) := by decide +kernel
theorem dX0_tryRow_86 : decode cX0_tryRow 86 = .ok (.if_icmp .le 19, 3) := by decide +kernel
theorem dX0_tryRow_89 : decode cX0_tryRow 89 = .ok (.aload_n 0, 1) := by decide +kernel
theorem dX0_tryRow_90 : decode cX0_tryRow 90 = .ok (.iload 4, 2) := by decide +kernel
theorem dX0_tryRow_92 : decode cX0_tryRow 92 = .ok (.putfield 24, 3) := by decide +kernel
theorem dX0_tryRow_95 : decode cX0_tryRow 95 = .ok (.aload_n 0, 1) := by decide +kernel
theorem dX0_tryRow_96 : decode cX0_tryRow 96 = .ok (.iload_n 3, 1) := by decide +kernel
theorem dX0_tryRow_97 : decode cX0_tryRow 97 = .ok (.putfield 28, 3) := by decide +kernel
theorem dX0_tryRow_100 : decode cX0_tryRow 100 = .ok (.aload_n 0, 1) := by decide +kernel
theorem dX0_tryRow_101 : decode cX0_tryRow 101 = .ok (.iload_n 2, 1) := by decide +kernel
theorem dX0_tryRow_102 : decode cX0_tryRow 102 = .ok (.invokevirtual 46, 3) := by decide +kernel
theorem dX0_tryRow_105 : decode cX0_tryRow 105 = .ok (.return_, 1) := by decide +kernel
theorem dX0_keepRow_0 : decode cX0_keepRow 0 = .ok (.iconst 0, 1) := by decide +kernel
theorem dX0_keepRow_1 : decode cX0_keepRow 1 = .ok (.istore_n 2, 1) := by decide +kernel
theorem dX0_keepRow_2 : decode cX0_keepRow 2 = .ok (.iload_n 2, 1) := by decide +kernel
theorem dX0_keepRow_3 : decode cX0_keepRow 3 = .ok (.iload_n 1, 1) := by decide +kernel
theorem dX0_keepRow_4 : decode cX0_keepRow 4 = .ok (.if_icmp .ge 27, 3) := by decide +kernel
theorem dX0_keepRow_7 : decode cX0_keepRow 7 = .ok (.iload_n 2, 1) := by decide +kernel
theorem dX0_keepRow_8 : decode cX0_keepRow 8 = .ok (.bipush 8, 2) := by decide +kernel
theorem dX0_keepRow_10 : decode cX0_keepRow 10 = .ok (.if_icmp .ge 21, 3) := by decide +kernel
theorem dX0_keepRow_13 : decode cX0_keepRow 13 = .ok (.aload_n 0, 1) := by decide +kernel
theorem dX0_keepRow_14 : decode cX0_keepRow 14 = .ok (.getfield 21, 3) := by decide +kernel
theorem dX0_keepRow_17 : decode cX0_keepRow 17 = .ok (.iload_n 2, 1) := by decide +kernel
theorem dX0_keepRow_18 : decode cX0_keepRow 18 = .ok (.aload_n 0, 1) := by decide +kernel
theorem dX0_keepRow_19 : decode cX0_keepRow 19 = .ok (.getfield 18, 3) := by decide +kernel
theorem dX0_keepRow_22 : decode cX0_keepRow 22 = .ok (.iload_n 2, 1) := by decide +kernel
theorem dX0_keepRow_23 : decode cX0_keepRow 23 = .ok (.iaload, 1) := by decide +kernel
theorem dX0_keepRow_24 : decode cX0_keepRow 24 = .ok (.iastore, 1) := by decide +kernel
theorem dX0_keepRow_25 : decode cX0_keepRow 25 = .ok (.iinc 2 1, 3) := by decide +kernel
theorem dX0_keepRow_28 : decode cX0_keepRow 28 = .ok (.goto (-26), 3) := by decide +kernel
theorem dX0_keepRow_31 : decode cX0_keepRow 31 = .ok (.return_, 1) := by decide +kernel
theorem dX0_stepRow_0 : decode cX0_stepRow 0 = .ok (.iload_n 1, 1) := by decide +kernel
theorem dX0_stepRow_1 : decode cX0_stepRow 1 = .ok (.bipush 8, 2) := by decide +kernel
theorem dX0_stepRow_3 : decode cX0_stepRow 3 = .ok (.invokestatic 31, 3) := by decide +kernel
theorem dX0_stepRow_6 : decode cX0_stepRow 6 = .ok (.iconst 1, 1) := by decide +kernel
theorem dX0_stepRow_7 : decode cX0_stepRow 7 = .ok (.isub, 1) := by decide +kernel
theorem dX0_stepRow_8 : decode cX0_stepRow 8 = .ok (.istore_n 2, 1) := by decide +kernel
theorem dX0_stepRow_9 : decode cX0_stepRow 9 = .ok (.iload_n 2, 1) := by decide +kernel
theorem dX0_stepRow_10 : decode cX0_stepRow 10 = .ok (.istore_n 3, 1) := by decide +kernel
theorem dX0_stepRow_11 : decode cX0_stepRow 11 = .ok (.iload_n 3, 1) := by decide +kernel
theorem dX0_stepRow_12 : decode cX0_stepRow 12 = .ok (.ifCond .lt 55, 3) := by decide +kernel
theorem dX0_stepRow_15 : decode cX0_stepRow 15 = .ok (.aload_n 0, 1) := by decide +kernel
theorem dX0_stepRow_16 : decode cX0_stepRow 16 = .ok (.getfield 18, 3) := by decide +kernel
theorem dX0_stepRow_19 : decode cX0_stepRow 19 = .ok (.iload_n 3, 1) := by decide +kernel
theorem dX0_stepRow_20 : decode cX0_stepRow 20 = .ok (.iaload, 1) := by decide +kernel
theorem dX0_stepRow_21 : decode cX0_stepRow 21 = .ok (.iconst 3, 1) := by decide +kernel
theorem dX0_stepRow_22 : decode cX0_stepRow 22 = .ok (.if_icmp .ge 39, 3) := by decide +kernel
theorem dX0_stepRow_25 : decode cX0_stepRow 25 = .ok (.aload_n 0, 1) := by decide +kernel
theorem dX0_stepRow_26 : decode cX0_stepRow 26 = .ok (.getfield 18, 3) := by decide +kernel
theorem dX0_stepRow_29 : decode cX0_stepRow 29 = .ok (.iload_n 3, 1) := by decide +kernel
theorem dX0_stepRow_30 : decode cX0_stepRow 30 = .ok (.iaload, 1) := by decide +kernel
theorem dX0_stepRow_31 : decode cX0_stepRow 31 = .ok (.iconst 1, 1) := by decide +kernel
theorem dX0_stepRow_32 : decode cX0_stepRow 32 = .ok (.iadd, 1) := by decide +kernel
theorem dX0_stepRow_33 : decode cX0_stepRow 33 = .ok (.istore 4, 2) := by decide +kernel
theorem dX0_stepRow_35 : decode cX0_stepRow 35 = .ok (.iload_n 3, 1) := by decide +kernel
theorem dX0_stepRow_36 : decode cX0_stepRow 36 = .ok (.istore 5, 2) := by decide +kernel
theorem dX0_stepRow_38 : decode cX0_stepRow 38 = .ok (.iload 5, 2) := by decide +kernel
theorem dX0_stepRow_40 : decode cX0_stepRow 40 = .ok (.iload_n 2, 1) := by decide +kernel
theorem dX0_stepRow_41 : decode cX0_stepRow 41 = .ok (.if_icmp .gt 18, 3) := by decide +kernel
theorem dX0_stepRow_44 : decode cX0_stepRow 44 = .ok (.aload_n 0, 1) := by decide +kernel
theorem dX0_stepRow_45 : decode cX0_stepRow 45 = .ok (.getfield 18, 3) := by decide +kernel
theorem dX0_stepRow_48 : decode cX0_stepRow 48 = .ok (.iload 5, 2) := by decide +kernel
theorem dX0_stepRow_50 : decode cX0_stepRow 50 = .ok (.iload 4, 2) := by decide +kernel
theorem dX0_stepRow_52 : decode cX0_stepRow 52 = .ok (.iastore, 1) := by decide +kernel
theorem dX0_stepRow_53 : decode cX0_stepRow 53 = .ok (.iinc 5 1, 3) := by decide +kernel
theorem dX0_stepRow_56 : decode cX0_stepRow 56 = .ok (.goto (-18), 3) := by decide +kernel
theorem dX0_stepRow_59 : decode cX0_stepRow 59 = .ok (.iconst 1, 1) := by decide +kernel
theorem dX0_stepRow_60 : decode cX0_stepRow 60 = .ok (.ireturn, 1) := by decide +kernel
theorem dX0_stepRow_61 : decode cX0_stepRow 61 = .ok (.iinc 3 (-1), 3) := by decide +kernel
theorem dX0_stepRow_64 : decode cX0_stepRow 64 = .ok (.goto (-53), 3) := by decide +kernel
theorem dX0_stepRow_67 : decode cX0_stepRow 67 = .ok (.iconst 0, 1) := by decide +kernel
theorem dX0_stepRow_68 : decode cX0_stepRow 68 = .ok (.ireturn, 1) := by decide +kernel
theorem dX1_clear_0 : decode cX1_clear 0 = .ok (.aload_n 0, 1) := by decide +kernel
theorem dX1_clear_1 : decode cX1_clear 1 = .ok (.iconst 0, 1) := by decide +kernel
theorem dX1_clear_2 : decode cX1_clear 2 = .ok (.putfield 30, 3) := by decide +kernel
theorem dX1_clear_5 : decode cX1_clear 5 = .ok (.aload_n 0, 1) := by decide +kernel
theorem dX1_clear_6 : decode cX1_clear 6 = .ok (.iconst 0, 1) := by decide +kernel
theorem dX1_clear_7 : decode cX1_clear 7 = .ok (.putfield 34, 3) := by decide +kernel
theorem dX1_clear_10 : decode cX1_clear 10 = .ok (.return_, 1) := by decide +kernel
theorem dX1_addStep_0 : decode cX1_addStep 0 = .ok (.aload_n 0, 1) := by decide +kernel
theorem dX1_addStep_1 : decode cX1_addStep 1 = .ok (.getfield 30, 3) := by decide +kernel
theorem dX1_addStep_4 : decode cX1_addStep 4 = .ok (.ifCond .lt 43, 3) := by decide +kernel
theorem dX1_addStep_7 : decode cX1_addStep 7 = .ok (.aload_n 0, 1) := by decide +kernel
theorem dX1_addStep_8 : decode cX1_addStep 8 = .ok (.getfield 30, 3) := by decide +kernel
theorem dX1_addStep_11 : decode cX1_addStep 11 = .ok (.sipush 400, 3) := by decide +kernel
theorem dX1_addStep_14 : decode cX1_addStep 14 = .ok (.if_icmp .ge 33, 3) := by decide +kernel
theorem dX1_addStep_17 : decode cX1_addStep 17 = .ok (.aload_n 0, 1) := by decide +kernel
theorem dX1_addStep_18 : decode cX1_addStep 18 = .ok (.getfield 9, 3) := by decide +kernel
theorem dX1_addStep_21 : decode cX1_addStep 21 = .ok (.aload_n 0, 1) := by decide +kernel
theorem dX1_addStep_22 : decode cX1_addStep 22 = .ok (.getfield 30, 3) := by decide +kernel
theorem dX1_addStep_25 : decode cX1_addStep 25 = .ok (.iload_n 1, 1) := by decide +kernel
theorem dX1_addStep_26 : decode cX1_addStep 26 = .ok (.iastore, 1) := by decide +kernel
theorem dX1_addStep_27 : decode cX1_addStep 27 = .ok (.aload_n 0, 1) := by decide +kernel
theorem dX1_addStep_28 : decode cX1_addStep 28 = .ok (.getfield 15, 3) := by decide +kernel
theorem dX1_addStep_31 : decode cX1_addStep 31 = .ok (.aload_n 0, 1) := by decide +kernel
theorem dX1_addStep_32 : decode cX1_addStep 32 = .ok (.getfield 30, 3) := by decide +kernel
theorem dX1_addStep_35 : decode cX1_addStep 35 = .ok (.iload_n 2, 1) := by decide +kernel
theorem dX1_addStep_36 : decode cX1_addStep 36 = .ok (.iastore, 1) := by decide +kernel
theorem dX1_addStep_37 : decode cX1_addStep 37 = .ok (.aload_n 0, 1) := by decide +kernel
theorem dX1_addStep_38 : decode cX1_addStep 38 = .ok (.dup, 1) := by decide +kernel
theorem dX1_addStep_39 : decode cX1_addStep 39 = .ok (.getfield 30, 3) := by decide +kernel
theorem dX1_addStep_42 : decode cX1_addStep 42 = .ok (.iconst 1, 1) := by decide +kernel
theorem dX1_addStep_43 : decode cX1_addStep 43 = .ok (.iadd, 1) := by decide +kernel
theorem dX1_addStep_44 : decode cX1_addStep 44 = .ok (.putfield 30, 3) := by decide +kernel
theorem dX1_addStep_47 : decode cX1_addStep 47 = .ok (.return_, 1) := by decide +kernel
theorem dX1_addLine_0 : decode cX1_addLine 0 = .ok (.aload_n 0, 1) := by decide +kernel
theorem dX1_addLine_1 : decode cX1_addLine 1 = .ok (.getfield 34, 3) := by decide +kernel
theorem dX1_addLine_4 : decode cX1_addLine 4 = .ok (.ifCond .lt 55, 3) := by decide +kernel
theorem dX1_addLine_7 : decode cX1_addLine 7 = .ok (.aload_n 0, 1) := by decide +kernel
theorem dX1_addLine_8 : decode cX1_addLine 8 = .ok (.getfield 34, 3) := by decide +kernel
theorem dX1_addLine_11 : decode cX1_addLine 11 = .ok (.bipush 8, 2) := by decide +kernel
theorem dX1_addLine_13 : decode cX1_addLine 13 = .ok (.if_icmp .ge 46, 3) := by decide +kernel
theorem dX1_addLine_16 : decode cX1_addLine 16 = .ok (.aload_n 0, 1) := by decide +kernel
theorem dX1_addLine_17 : decode cX1_addLine 17 = .ok (.getfield 18, 3) := by decide +kernel
theorem dX1_addLine_20 : decode cX1_addLine 20 = .ok (.aload_n 0, 1) := by decide +kernel
theorem dX1_addLine_21 : decode cX1_addLine 21 = .ok (.getfield 34, 3) := by decide +kernel
theorem dX1_addLine_24 : decode cX1_addLine 24 = .ok (.iload_n 1, 1) := by decide +kernel
theorem dX1_addLine_25 : decode cX1_addLine 25 = .ok (.iastore, 1) := by decide +kernel
theorem dX1_addLine_26 : decode cX1_addLine 26 = .ok (.aload_n 0, 1) := by decide +kernel
theorem dX1_addLine_27 : decode cX1_addLine 27 = .ok (.getfield 21, 3) := by decide +kernel
theorem dX1_addLine_30 : decode cX1_addLine 30 = .ok (.aload_n 0, 1) := by decide +kernel
theorem dX1_addLine_31 : decode cX1_addLine 31 = .ok (.getfield 34, 3) := by decide +kernel
theorem dX1_addLine_34 : decode cX1_addLine 34 = .ok (.iload_n 2, 1) := by decide +kernel
theorem dX1_addLine_35 : decode cX1_addLine 35 = .ok (.iastore, 1) := by decide +kernel
theorem dX1_addLine_36 : decode cX1_addLine 36 = .ok (.aload_n 0, 1) := by decide +kernel
theorem dX1_addLine_37 : decode cX1_addLine 37 = .ok (.getfield 24, 3) := by decide +kernel
theorem dX1_addLine_40 : decode cX1_addLine 40 = .ok (.aload_n 0, 1) := by decide +kernel
theorem dX1_addLine_41 : decode cX1_addLine 41 = .ok (.getfield 34, 3) := by decide +kernel
theorem dX1_addLine_44 : decode cX1_addLine 44 = .ok (.aload_n 0, 1) := by decide +kernel
theorem dX1_addLine_45 : decode cX1_addLine 45 = .ok (.getfield 30, 3) := by decide +kernel
theorem dX1_addLine_48 : decode cX1_addLine 48 = .ok (.iastore, 1) := by decide +kernel
theorem dX1_addLine_49 : decode cX1_addLine 49 = .ok (.aload_n 0, 1) := by decide +kernel
theorem dX1_addLine_50 : decode cX1_addLine 50 = .ok (.dup, 1) := by decide +kernel
theorem dX1_addLine_51 : decode cX1_addLine 51 = .ok (.getfield 34, 3) := by decide +kernel
theorem dX1_addLine_54 : decode cX1_addLine 54 = .ok (.iconst 1, 1) := by decide +kernel
theorem dX1_addLine_55 : decode cX1_addLine 55 = .ok (.iadd, 1) := by decide +kernel
theorem dX1_addLine_56 : decode cX1_addLine 56 = .ok (.putfield 34, 3) := by decide +kernel
theorem dX1_addLine_59 : decode cX1_addLine 59 = .ok (.return_, 1) := by decide +kernel
theorem dX1_lineFor_0 : decode cX1_lineFor 0 = .ok (.iconst 0, 1) := by decide +kernel
theorem dX1_lineFor_1 : decode cX1_lineFor 1 = .ok (.istore_n 2, 1) := by decide +kernel
theorem dX1_lineFor_2 : decode cX1_lineFor 2 = .ok (.iload_n 2, 1) := by decide +kernel
theorem dX1_lineFor_3 : decode cX1_lineFor 3 = .ok (.aload_n 0, 1) := by decide +kernel
theorem dX1_lineFor_4 : decode cX1_lineFor 4 = .ok (.getfield 34, 3) := by decide +kernel
theorem dX1_lineFor_7 : decode cX1_lineFor 7 = .ok (.if_icmp .ge 37, 3) := by decide +kernel
theorem dX1_lineFor_10 : decode cX1_lineFor 10 = .ok (.iload_n 2, 1) := by decide +kernel
theorem dX1_lineFor_11 : decode cX1_lineFor 11 = .ok (.bipush 8, 2) := by decide +kernel
theorem dX1_lineFor_13 : decode cX1_lineFor 13 = .ok (.if_icmp .ge 31, 3) := by decide +kernel
theorem dX1_lineFor_16 : decode cX1_lineFor 16 = .ok (.aload_n 0, 1) := by decide +kernel
theorem dX1_lineFor_17 : decode cX1_lineFor 17 = .ok (.aload_n 0, 1) := by decide +kernel
theorem dX1_lineFor_18 : decode cX1_lineFor 18 = .ok (.getfield 21, 3) := by decide +kernel
theorem dX1_lineFor_21 : decode cX1_lineFor 21 = .ok (.iload_n 2, 1) := by decide +kernel
theorem dX1_lineFor_22 : decode cX1_lineFor 22 = .ok (.iaload, 1) := by decide +kernel
theorem dX1_lineFor_23 : decode cX1_lineFor 23 = .ok (.aload_n 0, 1) := by decide +kernel
theorem dX1_lineFor_24 : decode cX1_lineFor 24 = .ok (.getfield 24, 3) := by decide +kernel
theorem dX1_lineFor_27 : decode cX1_lineFor 27 = .ok (.iload_n 2, 1) := by decide +kernel
theorem dX1_lineFor_28 : decode cX1_lineFor 28 = .ok (.iaload, 1) := by decide +kernel
theorem dX1_lineFor_29 : decode cX1_lineFor 29 = .ok (.aload_n 1, 1) := by decide +kernel
theorem dX1_lineFor_30 : decode cX1_lineFor 30 = .ok (.invokevirtual 40, 3) := by decide +kernel
theorem dX1_lineFor_33 : decode cX1_lineFor 33 = .ok (.ifCond .eq 5, 3) := by decide +kernel
theorem dX1_lineFor_36 : decode cX1_lineFor 36 = .ok (.iload_n 2, 1) := by decide +kernel
theorem dX1_lineFor_37 : decode cX1_lineFor 37 = .ok (.ireturn, 1) := by decide +kernel
theorem dX1_lineFor_38 : decode cX1_lineFor 38 = .ok (.iinc 2 1, 3) := by decide +kernel
theorem dX1_lineFor_41 : decode cX1_lineFor 41 = .ok (.goto (-39), 3) := by decide +kernel
theorem dX1_lineFor_44 : decode cX1_lineFor 44 = .ok (.iconst (-1), 1) := by decide +kernel
theorem dX1_lineFor_45 : decode cX1_lineFor 45 = .ok (.ireturn, 1) := by decide +kernel
theorem dX1_payFor_0 : decode cX1_payFor 0 = .ok (.aload_n 0, 1) := by decide +kernel
theorem dX1_payFor_1 : decode cX1_payFor 1 = .ok (.aload_n 1, 1) := by decide +kernel
theorem dX1_payFor_2 : decode cX1_payFor 2 = .ok (.invokevirtual 44, 3) := by decide +kernel
theorem dX1_payFor_5 : decode cX1_payFor 5 = .ok (.istore_n 2, 1) := by decide +kernel
theorem dX1_payFor_6 : decode cX1_payFor 6 = .ok (.iload_n 2, 1) := by decide +kernel
theorem dX1_payFor_7 : decode cX1_payFor 7 = .ok (.ifCond .lt 9, 3) := by decide +kernel
theorem dX1_payFor_10 : decode cX1_payFor 10 = .ok (.iload_n 2, 1) := by decide +kernel
theorem dX1_payFor_11 : decode cX1_payFor 11 = .ok (.bipush 8, 2) := by decide +kernel
theorem dX1_payFor_13 : decode cX1_payFor 13 = .ok (.if_icmp .lt 5, 3) := by decide +kernel
theorem dX1_payFor_16 : decode cX1_payFor 16 = .ok (.iconst 0, 1) := by decide +kernel
theorem dX1_payFor_17 : decode cX1_payFor 17 = .ok (.ireturn, 1) := by decide +kernel
theorem dX1_payFor_18 : decode cX1_payFor 18 = .ok (.aload_n 0, 1) := by decide +kernel
theorem dX1_payFor_19 : decode cX1_payFor 19 = .ok (.aload_n 0, 1) := by decide +kernel
theorem dX1_payFor_20 : decode cX1_payFor 20 = .ok (.getfield 18, 3) := by decide +kernel
theorem dX1_payFor_23 : decode cX1_payFor 23 = .ok (.iload_n 2, 1) := by decide +kernel
theorem dX1_payFor_24 : decode cX1_payFor 24 = .ok (.iaload, 1) := by decide +kernel
theorem dX1_payFor_25 : decode cX1_payFor 25 = .ok (.aload_n 0, 1) := by decide +kernel
theorem dX1_payFor_26 : decode cX1_payFor 26 = .ok (.getfield 21, 3) := by decide +kernel
theorem dX1_payFor_29 : decode cX1_payFor 29 = .ok (.iload_n 2, 1) := by decide +kernel
theorem dX1_payFor_30 : decode cX1_payFor 30 = .ok (.iaload, 1) := by decide +kernel
theorem dX1_payFor_31 : decode cX1_payFor 31 = .ok (.aload_n 1, 1) := by decide +kernel
theorem dX1_payFor_32 : decode cX1_payFor 32 = .ok (.invokevirtual 40, 3) := by decide +kernel
theorem dX1_payFor_35 : decode cX1_payFor 35 = .ok (.ireturn, 1) := by decide +kernel
theorem dX1_valueOf_0 : decode cX1_valueOf 0 = .ok (.aload_n 0, 1) := by decide +kernel
theorem dX1_valueOf_1 : decode cX1_valueOf 1 = .ok (.iconst 0, 1) := by decide +kernel
theorem dX1_valueOf_2 : decode cX1_valueOf 2 = .ok (.putfield 37, 3) := by decide +kernel
theorem dX1_valueOf_5 : decode cX1_valueOf 5 = .ok (.iload_n 1, 1) := by decide +kernel
theorem dX1_valueOf_6 : decode cX1_valueOf 6 = .ok (.iconst 0, 1) := by decide +kernel
theorem dX1_valueOf_7 : decode cX1_valueOf 7 = .ok (.invokestatic 48, 3) := by decide +kernel
theorem dX1_valueOf_10 : decode cX1_valueOf 10 = .ok (.istore 4, 2) := by decide +kernel
theorem dX1_valueOf_12 : decode cX1_valueOf 12 = .ok (.iload 4, 2) := by decide +kernel
theorem dX1_valueOf_14 : decode cX1_valueOf 14 = .ok (.iload_n 2, 1) := by decide +kernel
theorem dX1_valueOf_15 : decode cX1_valueOf 15 = .ok (.if_icmp .ge 134, 3) := by decide +kernel
theorem dX1_valueOf_18 : decode cX1_valueOf 18 = .ok (.iload 4, 2) := by decide +kernel
theorem dX1_valueOf_20 : decode cX1_valueOf 20 = .ok (.sipush 400, 3) := by decide +kernel
theorem dX1_valueOf_23 : decode cX1_valueOf 23 = .ok (.if_icmp .ge 126, 3) := by decide +kernel
theorem dX1_valueOf_26 : decode cX1_valueOf 26 = .ok (.aload_n 0, 1) := by decide +kernel
theorem dX1_valueOf_27 : decode cX1_valueOf 27 = .ok (.getfield 9, 3) := by decide +kernel
theorem dX1_valueOf_30 : decode cX1_valueOf 30 = .ok (.iload 4, 2) := by decide +kernel
theorem dX1_valueOf_32 : decode cX1_valueOf 32 = .ok (.iaload, 1) := by decide +kernel
theorem dX1_valueOf_33 : decode cX1_valueOf 33 = .ok (.bipush 47, 2) := by decide +kernel
theorem dX1_valueOf_35 : decode cX1_valueOf 35 = .ok (.if_icmp .ne 24, 3) := by decide +kernel
theorem dX1_valueOf_38 : decode cX1_valueOf 38 = .ok (.aload_n 0, 1) := by decide +kernel
theorem dX1_valueOf_39 : decode cX1_valueOf 39 = .ok (.aload_n 0, 1) := by decide +kernel
theorem dX1_valueOf_40 : decode cX1_valueOf 40 = .ok (.invokevirtual 54, 3) := by decide +kernel
theorem dX1_valueOf_43 : decode cX1_valueOf 43 = .ok (.aload_n 0, 1) := by decide +kernel
theorem dX1_valueOf_44 : decode cX1_valueOf 44 = .ok (.getfield 15, 3) := by decide +kernel
theorem dX1_valueOf_47 : decode cX1_valueOf 47 = .ok (.iload 4, 2) := by decide +kernel
theorem dX1_valueOf_49 : decode cX1_valueOf 49 = .ok (.iaload, 1) := by decide +kernel
theorem dX1_valueOf_50 : decode cX1_valueOf 50 = .ok (.invokestatic 58, 3) := by decide +kernel
theorem dX1_valueOf_53 : decode cX1_valueOf 53 = .ok (.invokevirtual 61, 3) := by decide +kernel
theorem dX1_valueOf_56 : decode cX1_valueOf 56 = .ok (.goto 87, 3) := by decide +kernel
theorem dX1_valueOf_59 : decode cX1_valueOf 59 = .ok (.aload_n 0, 1) := by decide +kernel
theorem dX1_valueOf_60 : decode cX1_valueOf 60 = .ok (.getfield 9, 3) := by decide +kernel
theorem dX1_valueOf_63 : decode cX1_valueOf 63 = .ok (.iload 4, 2) := by decide +kernel
theorem dX1_valueOf_65 : decode cX1_valueOf 65 = .ok (.iaload, 1) := by decide +kernel
theorem dX1_valueOf_66 : decode cX1_valueOf 66 = .ok (.sipush 258, 3) := by decide +kernel
theorem dX1_valueOf_69 : decode cX1_valueOf 69 = .ok (.if_icmp .ne 17, 3) := by decide +kernel
theorem dX1_valueOf_72 : decode cX1_valueOf 72 = .ok (.aload_n 0, 1) := by decide +kernel
theorem dX1_valueOf_73 : decode cX1_valueOf 73 = .ok (.aload_n 0, 1) := by decide +kernel
theorem dX1_valueOf_74 : decode cX1_valueOf 74 = .ok (.getfield 15, 3) := by decide +kernel
theorem dX1_valueOf_77 : decode cX1_valueOf 77 = .ok (.iload 4, 2) := by decide +kernel
theorem dX1_valueOf_79 : decode cX1_valueOf 79 = .ok (.iaload, 1) := by decide +kernel
theorem dX1_valueOf_80 : decode cX1_valueOf 80 = .ok (.invokevirtual 61, 3) := by decide +kernel
theorem dX1_valueOf_83 : decode cX1_valueOf 83 = .ok (.goto 60, 3) := by decide +kernel
theorem dX1_valueOf_86 : decode cX1_valueOf 86 = .ok (.aload_n 0, 1) := by decide +kernel
theorem dX1_valueOf_87 : decode cX1_valueOf 87 = .ok (.getfield 9, 3) := by decide +kernel
theorem dX1_valueOf_90 : decode cX1_valueOf 90 = .ok (.iload 4, 2) := by decide +kernel
theorem dX1_valueOf_92 : decode cX1_valueOf 92 = .ok (.iaload, 1) := by decide +kernel
theorem dX1_valueOf_93 : decode cX1_valueOf 93 = .ok (.sipush 262, 3) := by decide +kernel
theorem dX1_valueOf_96 : decode cX1_valueOf 96 = .ok (.if_icmp .lt 21, 3) := by decide +kernel
theorem dX1_valueOf_99 : decode cX1_valueOf 99 = .ok (.aload_n 0, 1) := by decide +kernel
theorem dX1_valueOf_100 : decode cX1_valueOf 100 = .ok (.aload_n 3, 1) := by decide +kernel
theorem dX1_valueOf_101 : decode cX1_valueOf 101 = .ok (.aload_n 0, 1) := by decide +kernel
theorem dX1_valueOf_102 : decode cX1_valueOf 102 = .ok (.getfield 9, 3) := by decide +kernel
theorem dX1_valueOf_105 : decode cX1_valueOf 105 = .ok (.iload 4, 2) := by decide +kernel
theorem dX1_valueOf_107 : decode cX1_valueOf 107 = .ok (.iaload, 1) := by decide +kernel
theorem dX1_valueOf_108 : decode cX1_valueOf 108 = .ok (.invokevirtual 67, 3) := by decide +kernel
theorem dX1_valueOf_111 : decode cX1_valueOf 111 = .ok (.invokevirtual 61, 3) := by decide +kernel
theorem dX1_valueOf_114 : decode cX1_valueOf 114 = .ok (.goto 29, 3) := by decide +kernel
theorem dX1_valueOf_117 : decode cX1_valueOf 117 = .ok (.aload_n 0, 1) := by decide +kernel
theorem dX1_valueOf_118 : decode cX1_valueOf 118 = .ok (.invokevirtual 54, 3) := by decide +kernel
theorem dX1_valueOf_121 : decode cX1_valueOf 121 = .ok (.istore 5, 2) := by decide +kernel
theorem dX1_valueOf_123 : decode cX1_valueOf 123 = .ok (.aload_n 0, 1) := by decide +kernel
theorem dX1_valueOf_124 : decode cX1_valueOf 124 = .ok (.aload_n 0, 1) := by decide +kernel
theorem dX1_valueOf_125 : decode cX1_valueOf 125 = .ok (.getfield 9, 3) := by decide +kernel
theorem dX1_valueOf_128 : decode cX1_valueOf 128 = .ok (.iload 4, 2) := by decide +kernel
theorem dX1_valueOf_130 : decode cX1_valueOf 130 = .ok (.iaload, 1) := by decide +kernel
theorem dX1_valueOf_131 : decode cX1_valueOf 131 = .ok (.aload_n 0, 1) := by decide +kernel
theorem dX1_valueOf_132 : decode cX1_valueOf 132 = .ok (.invokevirtual 54, 3) := by decide +kernel
theorem dX1_valueOf_135 : decode cX1_valueOf 135 = .ok (.iload 5, 2) := by decide +kernel
theorem dX1_valueOf_137 : decode cX1_valueOf 137 = .ok (.invokestatic 73, 3) := by decide +kernel
theorem dX1_valueOf_140 : decode cX1_valueOf 140 = .ok (.invokevirtual 61, 3) := by decide +kernel
theorem dX1_valueOf_143 : decode cX1_valueOf 143 = .ok (.iinc 4 1, 3) := by decide +kernel
theorem dX1_valueOf_146 : decode cX1_valueOf 146 = .ok (.goto (-134), 3) := by decide +kernel
theorem dX1_valueOf_149 : decode cX1_valueOf 149 = .ok (.aload_n 0, 1) := by decide +kernel
theorem dX1_valueOf_150 : decode cX1_valueOf 150 = .ok (.invokevirtual 54, 3) := by decide +kernel
theorem dX1_valueOf_153 : decode cX1_valueOf 153 = .ok (.ireturn, 1) := by decide +kernel
theorem dX1_push_0 : decode cX1_push 0 = .ok (.aload_n 0, 1) := by decide +kernel
theorem dX1_push_1 : decode cX1_push 1 = .ok (.getfield 37, 3) := by decide +kernel
theorem dX1_push_4 : decode cX1_push 4 = .ok (.ifCond .lt 32, 3) := by decide +kernel
theorem dX1_push_7 : decode cX1_push 7 = .ok (.aload_n 0, 1) := by decide +kernel
theorem dX1_push_8 : decode cX1_push 8 = .ok (.getfield 37, 3) := by decide +kernel
theorem dX1_push_11 : decode cX1_push 11 = .ok (.bipush 64, 2) := by decide +kernel
theorem dX1_push_13 : decode cX1_push 13 = .ok (.if_icmp .ge 23, 3) := by decide +kernel
theorem dX1_push_16 : decode cX1_push 16 = .ok (.aload_n 0, 1) := by decide +kernel
theorem dX1_push_17 : decode cX1_push 17 = .ok (.getfield 27, 3) := by decide +kernel
theorem dX1_push_20 : decode cX1_push 20 = .ok (.aload_n 0, 1) := by decide +kernel
theorem dX1_push_21 : decode cX1_push 21 = .ok (.getfield 37, 3) := by decide +kernel
theorem dX1_push_24 : decode cX1_push 24 = .ok (.iload_n 1, 1) := by decide +kernel
theorem dX1_push_25 : decode cX1_push 25 = .ok (.iastore, 1) := by decide +kernel
theorem dX1_push_26 : decode cX1_push 26 = .ok (.aload_n 0, 1) := by decide +kernel
theorem dX1_push_27 : decode cX1_push 27 = .ok (.dup, 1) := by decide +kernel
theorem dX1_push_28 : decode cX1_push 28 = .ok (.getfield 37, 3) := by decide +kernel
theorem dX1_push_31 : decode cX1_push 31 = .ok (.iconst 1, 1) := by decide +kernel
theorem dX1_push_32 : decode cX1_push 32 = .ok (.iadd, 1) := by decide +kernel
theorem dX1_push_33 : decode cX1_push 33 = .ok (.putfield 37, 3) := by decide +kernel
theorem dX1_push_36 : decode cX1_push 36 = .ok (.return_, 1) := by decide +kernel
theorem dX1_pop_0 : decode cX1_pop 0 = .ok (.aload_n 0, 1) := by decide +kernel
theorem dX1_pop_1 : decode cX1_pop 1 = .ok (.getfield 37, 3) := by decide +kernel
theorem dX1_pop_4 : decode cX1_pop 4 = .ok (.ifCond .le 12, 3) := by decide +kernel
theorem dX1_pop_7 : decode cX1_pop 7 = .ok (.aload_n 0, 1) := by decide +kernel
theorem dX1_pop_8 : decode cX1_pop 8 = .ok (.getfield 37, 3) := by decide +kernel
theorem dX1_pop_11 : decode cX1_pop 11 = .ok (.bipush 64, 2) := by decide +kernel
theorem dX1_pop_13 : decode cX1_pop 13 = .ok (.if_icmp .le 5, 3) := by decide +kernel
theorem dX1_pop_16 : decode cX1_pop 16 = .ok (.iconst 0, 1) := by decide +kernel
theorem dX1_pop_17 : decode cX1_pop 17 = .ok (.ireturn, 1) := by decide +kernel
theorem dX1_pop_18 : decode cX1_pop 18 = .ok (.aload_n 0, 1) := by decide +kernel
theorem dX1_pop_19 : decode cX1_pop 19 = .ok (.dup, 1) := by decide +kernel
theorem dX1_pop_20 : decode cX1_pop 20 = .ok (.getfield 37, 3) := by decide +kernel
theorem dX1_pop_23 : decode cX1_pop 23 = .ok (.iconst 1, 1) := by decide +kernel
theorem dX1_pop_24 : decode cX1_pop 24 = .ok (.isub, 1) := by decide +kernel
theorem dX1_pop_25 : decode cX1_pop 25 = .ok (.putfield 37, 3) := by decide +kernel
theorem dX1_pop_28 : decode cX1_pop 28 = .ok (.aload_n 0, 1) := by decide +kernel
theorem dX1_pop_29 : decode cX1_pop 29 = .ok (.getfield 27, 3) := by decide +kernel
theorem dX1_pop_32 : decode cX1_pop 32 = .ok (.aload_n 0, 1) := by decide +kernel
theorem dX1_pop_33 : decode cX1_pop 33 = .ok (.getfield 37, 3) := by decide +kernel
theorem dX1_pop_36 : decode cX1_pop 36 = .ok (.iaload, 1) := by decide +kernel
theorem dX1_pop_37 : decode cX1_pop 37 = .ok (.ireturn, 1) := by decide +kernel
theorem dX2_read_0 : decode cX2_read 0 = .ok (.aload_n 1, 1) := by decide +kernel
theorem dX2_read_1 : decode cX2_read 1 = .ok (.ifnull 8, 3) := by decide +kernel
theorem dX2_read_4 : decode cX2_read 4 = .ok (.aload_n 0, 1) := by decide +kernel
theorem dX2_read_5 : decode cX2_read 5 = .ok (.aload_n 1, 1) := by decide +kernel
theorem dX2_read_6 : decode cX2_read 6 = .ok (.putfield 15, 3) := by decide +kernel
theorem dX2_read_9 : decode cX2_read 9 = .ok (.aload_n 0, 1) := by decide +kernel
theorem dX2_read_10 : decode cX2_read 10 = .ok (.getfield 15, 3) := by decide +kernel
theorem dX2_read_13 : decode cX2_read 13 = .ok (.invokevirtual 29, 3) := by decide +kernel
theorem dX2_read_16 : decode cX2_read 16 = .ok (.aload_n 0, 1) := by decide +kernel
theorem dX2_read_17 : decode cX2_read 17 = .ok (.iconst 0, 1) := by decide +kernel
theorem dX2_read_18 : decode cX2_read 18 = .ok (.putfield 19, 3) := by decide +kernel
theorem dX2_read_21 : decode cX2_read 21 = .ok (.aload_n 0, 1) := by decide +kernel
theorem dX2_read_22 : decode cX2_read 22 = .ok (.iconst 0, 1) := by decide +kernel
theorem dX2_read_23 : decode cX2_read 23 = .ok (.putfield 23, 3) := by decide +kernel
theorem dX2_read_26 : decode cX2_read 26 = .ok (.aload_n 0, 1) := by decide +kernel
theorem dX2_read_27 : decode cX2_read 27 = .ok (.iconst (-1), 1) := by decide +kernel
theorem dX2_read_28 : decode cX2_read 28 = .ok (.putfield 26, 3) := by decide +kernel
theorem dX2_read_31 : decode cX2_read 31 = .ok (.iconst 0, 1) := by decide +kernel
theorem dX2_read_32 : decode cX2_read 32 = .ok (.istore_n 2, 1) := by decide +kernel
theorem dX2_read_33 : decode cX2_read 33 = .ok (.iload_n 2, 1) := by decide +kernel
theorem dX2_read_34 : decode cX2_read 34 = .ok (.bipush 8, 2) := by decide +kernel
theorem dX2_read_36 : decode cX2_read 36 = .ok (.if_icmp .gt 31, 3) := by decide +kernel
theorem dX2_read_39 : decode cX2_read 39 = .ok (.aload_n 0, 1) := by decide +kernel
theorem dX2_read_40 : decode cX2_read 40 = .ok (.invokevirtual 34, 3) := by decide +kernel
theorem dX2_read_43 : decode cX2_read 43 = .ok (.sipush 256, 3) := by decide +kernel
theorem dX2_read_46 : decode cX2_read 46 = .ok (.if_icmp .ne 5, 3) := by decide +kernel
theorem dX2_read_49 : decode cX2_read 49 = .ok (.iconst 1, 1) := by decide +kernel
theorem dX2_read_50 : decode cX2_read 50 = .ok (.ireturn, 1) := by decide +kernel
theorem dX2_read_51 : decode cX2_read 51 = .ok (.aload_n 0, 1) := by decide +kernel
theorem dX2_read_52 : decode cX2_read 52 = .ok (.iload_n 2, 1) := by decide +kernel
theorem dX2_read_53 : decode cX2_read 53 = .ok (.invokevirtual 40, 3) := by decide +kernel
theorem dX2_read_56 : decode cX2_read 56 = .ok (.ifCond .ne 5, 3) := by decide +kernel
theorem dX2_read_59 : decode cX2_read 59 = .ok (.iconst 0, 1) := by decide +kernel
theorem dX2_read_60 : decode cX2_read 60 = .ok (.ireturn, 1) := by decide +kernel
theorem dX2_read_61 : decode cX2_read 61 = .ok (.iinc 2 1, 3) := by decide +kernel
theorem dX2_read_64 : decode cX2_read 64 = .ok (.goto (-31), 3) := by decide +kernel
theorem dX2_read_67 : decode cX2_read 67 = .ok (.iconst 0, 1) := by decide +kernel
theorem dX2_read_68 : decode cX2_read 68 = .ok (.ireturn, 1) := by decide +kernel
theorem dX2_readLine_0 : decode cX2_readLine 0 = .ok (.aload_n 0, 1) := by decide +kernel
theorem dX2_readLine_1 : decode cX2_readLine 1 = .ok (.invokevirtual 34, 3) := by decide +kernel
theorem dX2_readLine_4 : decode cX2_readLine 4 = .ok (.sipush 259, 3) := by decide +kernel
theorem dX2_readLine_7 : decode cX2_readLine 7 = .ok (.if_icmp .eq 9, 3) := by decide +kernel
theorem dX2_readLine_10 : decode cX2_readLine 10 = .ok (.aload_n 0, 1) := by decide +kernel
theorem dX2_readLine_11 : decode cX2_readLine 11 = .ok (.iconst 1, 1) := by decide +kernel
theorem dX2_readLine_12 : decode cX2_readLine 12 = .ok (.invokevirtual 44, 3) := by decide +kernel
theorem dX2_readLine_15 : decode cX2_readLine 15 = .ok (.ireturn, 1) := by decide +kernel
theorem dX2_readLine_16 : decode cX2_readLine 16 = .ok (.iload_n 1, 1) := by decide +kernel
theorem dX2_readLine_17 : decode cX2_readLine 17 = .ok (.bipush 8, 2) := by decide +kernel
theorem dX2_readLine_19 : decode cX2_readLine 19 = .ok (.if_icmp .lt 9, 3) := by decide +kernel
theorem dX2_readLine_22 : decode cX2_readLine 22 = .ok (.aload_n 0, 1) := by decide +kernel
theorem dX2_readLine_23 : decode cX2_readLine 23 = .ok (.iconst 3, 1) := by decide +kernel
theorem dX2_readLine_24 : decode cX2_readLine 24 = .ok (.invokevirtual 44, 3) := by decide +kernel
theorem dX2_readLine_27 : decode cX2_readLine 27 = .ok (.ireturn, 1) := by decide +kernel
theorem dX2_readLine_28 : decode cX2_readLine 28 = .ok (.aload_n 0, 1) := by decide +kernel
theorem dX2_readLine_29 : decode cX2_readLine 29 = .ok (.dup, 1) := by decide +kernel
theorem dX2_readLine_30 : decode cX2_readLine 30 = .ok (.getfield 19, 3) := by decide +kernel
theorem dX2_readLine_33 : decode cX2_readLine 33 = .ok (.iconst 1, 1) := by decide +kernel
theorem dX2_readLine_34 : decode cX2_readLine 34 = .ok (.iadd, 1) := by decide +kernel
theorem dX2_readLine_35 : decode cX2_readLine 35 = .ok (.putfield 19, 3) := by decide +kernel
theorem dX2_readLine_38 : decode cX2_readLine 38 = .ok (.aload_n 0, 1) := by decide +kernel
theorem dX2_readLine_39 : decode cX2_readLine 39 = .ok (.getfield 15, 3) := by decide +kernel
theorem dX2_readLine_42 : decode cX2_readLine 42 = .ok (.getfield 47, 3) := by decide +kernel
theorem dX2_readLine_45 : decode cX2_readLine 45 = .ok (.istore_n 2, 1) := by decide +kernel
theorem dX2_readLine_46 : decode cX2_readLine 46 = .ok (.aload_n 0, 1) := by decide +kernel
theorem dX2_readLine_47 : decode cX2_readLine 47 = .ok (.iconst 0, 1) := by decide +kernel
theorem dX2_readLine_48 : decode cX2_readLine 48 = .ok (.invokevirtual 50, 3) := by decide +kernel
theorem dX2_readLine_51 : decode cX2_readLine 51 = .ok (.ifCond .eq 13, 3) := by decide +kernel
theorem dX2_readLine_54 : decode cX2_readLine 54 = .ok (.aload_n 0, 1) := by decide +kernel
theorem dX2_readLine_55 : decode cX2_readLine 55 = .ok (.sipush 260, 3) := by decide +kernel
theorem dX2_readLine_58 : decode cX2_readLine 58 = .ok (.invokevirtual 53, 3) := by decide +kernel
theorem dX2_readLine_61 : decode cX2_readLine 61 = .ok (.ifCond .ne 5, 3) := by decide +kernel
theorem dX2_readLine_64 : decode cX2_readLine 64 = .ok (.iconst 0, 1) := by decide +kernel
theorem dX2_readLine_65 : decode cX2_readLine 65 = .ok (.ireturn, 1) := by decide +kernel
theorem dX2_readLine_66 : decode cX2_readLine 66 = .ok (.aload_n 0, 1) := by decide +kernel
theorem dX2_readLine_67 : decode cX2_readLine 67 = .ok (.getfield 15, 3) := by decide +kernel
theorem dX2_readLine_70 : decode cX2_readLine 70 = .ok (.getfield 47, 3) := by decide +kernel
theorem dX2_readLine_73 : decode cX2_readLine 73 = .ok (.istore_n 3, 1) := by decide +kernel
theorem dX2_readLine_74 : decode cX2_readLine 74 = .ok (.aload_n 0, 1) := by decide +kernel
theorem dX2_readLine_75 : decode cX2_readLine 75 = .ok (.invokevirtual 56, 3) := by decide +kernel
theorem dX2_readLine_78 : decode cX2_readLine 78 = .ok (.ifCond .eq 12, 3) := by decide +kernel
theorem dX2_readLine_81 : decode cX2_readLine 81 = .ok (.aload_n 0, 1) := by decide +kernel
theorem dX2_readLine_82 : decode cX2_readLine 82 = .ok (.bipush 59, 2) := by decide +kernel
theorem dX2_readLine_84 : decode cX2_readLine 84 = .ok (.invokevirtual 53, 3) := by decide +kernel
theorem dX2_readLine_87 : decode cX2_readLine 87 = .ok (.ifCond .ne 5, 3) := by decide +kernel
theorem dX2_readLine_90 : decode cX2_readLine 90 = .ok (.iconst 0, 1) := by decide +kernel
theorem dX2_readLine_91 : decode cX2_readLine 91 = .ok (.ireturn, 1) := by decide +kernel
theorem dX2_readLine_92 : decode cX2_readLine 92 = .ok (.aload_n 0, 1) := by decide +kernel
theorem dX2_readLine_93 : decode cX2_readLine 93 = .ok (.getfield 15, 3) := by decide +kernel
theorem dX2_readLine_96 : decode cX2_readLine 96 = .ok (.iload_n 2, 1) := by decide +kernel
theorem dX2_readLine_97 : decode cX2_readLine 97 = .ok (.iload_n 3, 1) := by decide +kernel
theorem dX2_readLine_98 : decode cX2_readLine 98 = .ok (.invokevirtual 60, 3) := by decide +kernel
theorem dX2_readLine_101 : decode cX2_readLine 101 = .ok (.iconst 1, 1) := by decide +kernel
theorem dX2_readLine_102 : decode cX2_readLine 102 = .ok (.ireturn, 1) := by decide +kernel
theorem dX2_readCondition_0 : decode cX2_readCondition 0 = .ok (.iconst 0, 1) := by decide +kernel
theorem dX2_readCondition_1 : decode cX2_readCondition 1 = .ok (.istore_n 1, 1) := by decide +kernel
theorem dX2_readCondition_2 : decode cX2_readCondition 2 = .ok (.iload_n 1, 1) := by decide +kernel
theorem dX2_readCondition_3 : decode cX2_readCondition 3 = .ok (.sipush 400, 3) := by decide +kernel
theorem dX2_readCondition_6 : decode cX2_readCondition 6 = .ok (.if_icmp .gt 114, 3) := by decide +kernel
theorem dX2_readCondition_9 : decode cX2_readCondition 9 = .ok (.aload_n 0, 1) := by decide +kernel
theorem dX2_readCondition_10 : decode cX2_readCondition 10 = .ok (.iconst 0, 1) := by decide +kernel
theorem dX2_readCondition_11 : decode cX2_readCondition 11 = .ok (.invokevirtual 50, 3) := by decide +kernel
theorem dX2_readCondition_14 : decode cX2_readCondition 14 = .ok (.ifCond .ne 5, 3) := by decide +kernel
theorem dX2_readCondition_17 : decode cX2_readCondition 17 = .ok (.iconst 0, 1) := by decide +kernel
theorem dX2_readCondition_18 : decode cX2_readCondition 18 = .ok (.ireturn, 1) := by decide +kernel
theorem dX2_readCondition_19 : decode cX2_readCondition 19 = .ok (.aload_n 0, 1) := by decide +kernel
theorem dX2_readCondition_20 : decode cX2_readCondition 20 = .ok (.invokevirtual 34, 3) := by decide +kernel
theorem dX2_readCondition_23 : decode cX2_readCondition 23 = .ok (.istore_n 2, 1) := by decide +kernel
theorem dX2_readCondition_24 : decode cX2_readCondition 24 = .ok (.iload_n 2, 1) := by decide +kernel
theorem dX2_readCondition_25 : decode cX2_readCondition 25 = .ok (.bipush 60, 2) := by decide +kernel
theorem dX2_readCondition_27 : decode cX2_readCondition 27 = .ok (.if_icmp .eq 21, 3) := by decide +kernel
theorem dX2_readCondition_30 : decode cX2_readCondition 30 = .ok (.iload_n 2, 1) := by decide +kernel
theorem dX2_readCondition_31 : decode cX2_readCondition 31 = .ok (.bipush 61, 2) := by decide +kernel
theorem dX2_readCondition_33 : decode cX2_readCondition 33 = .ok (.if_icmp .eq 15, 3) := by decide +kernel
theorem dX2_readCondition_36 : decode cX2_readCondition 36 = .ok (.iload_n 2, 1) := by decide +kernel
theorem dX2_readCondition_37 : decode cX2_readCondition 37 = .ok (.bipush 62, 2) := by decide +kernel
theorem dX2_readCondition_39 : decode cX2_readCondition 39 = .ok (.if_icmp .eq 9, 3) := by decide +kernel
theorem dX2_readCondition_42 : decode cX2_readCondition 42 = .ok (.aload_n 0, 1) := by decide +kernel
theorem dX2_readCondition_43 : decode cX2_readCondition 43 = .ok (.iconst 1, 1) := by decide +kernel
theorem dX2_readCondition_44 : decode cX2_readCondition 44 = .ok (.invokevirtual 44, 3) := by decide +kernel
theorem dX2_readCondition_47 : decode cX2_readCondition 47 = .ok (.ireturn, 1) := by decide +kernel
theorem dX2_readCondition_48 : decode cX2_readCondition 48 = .ok (.aload_n 0, 1) := by decide +kernel
theorem dX2_readCondition_49 : decode cX2_readCondition 49 = .ok (.dup, 1) := by decide +kernel
theorem dX2_readCondition_50 : decode cX2_readCondition 50 = .ok (.getfield 19, 3) := by decide +kernel
theorem dX2_readCondition_53 : decode cX2_readCondition 53 = .ok (.iconst 1, 1) := by decide +kernel
theorem dX2_readCondition_54 : decode cX2_readCondition 54 = .ok (.iadd, 1) := by decide +kernel
theorem dX2_readCondition_55 : decode cX2_readCondition 55 = .ok (.putfield 19, 3) := by decide +kernel
theorem dX2_readCondition_58 : decode cX2_readCondition 58 = .ok (.aload_n 0, 1) := by decide +kernel
theorem dX2_readCondition_59 : decode cX2_readCondition 59 = .ok (.iconst 0, 1) := by decide +kernel
theorem dX2_readCondition_60 : decode cX2_readCondition 60 = .ok (.invokevirtual 50, 3) := by decide +kernel
theorem dX2_readCondition_63 : decode cX2_readCondition 63 = .ok (.ifCond .ne 5, 3) := by decide +kernel
theorem dX2_readCondition_66 : decode cX2_readCondition 66 = .ok (.iconst 0, 1) := by decide +kernel
theorem dX2_readCondition_67 : decode cX2_readCondition 67 = .ok (.ireturn, 1) := by decide +kernel
theorem dX2_readCondition_68 : decode cX2_readCondition 68 = .ok (.aload_n 0, 1) := by decide +kernel
theorem dX2_readCondition_69 : decode cX2_readCondition 69 = .ok (.getfield 15, 3) := by decide +kernel
theorem dX2_readCondition_72 : decode cX2_readCondition 72 = .ok (.iload_n 2, 1) := by decide +kernel
theorem dX2_readCondition_73 : decode cX2_readCondition 73 = .ok (.iconst 0, 1) := by decide +kernel
theorem dX2_readCondition_74 : decode cX2_readCondition 74 = .ok (.invokevirtual 64, 3) := by decide +kernel
theorem dX2_readCondition_77 : decode cX2_readCondition 77 = .ok (.iload_n 1, 1) := by decide +kernel
theorem dX2_readCondition_78 : decode cX2_readCondition 78 = .ok (.ifCond .le 14, 3) := by decide +kernel
theorem dX2_readCondition_81 : decode cX2_readCondition 81 = .ok (.aload_n 0, 1) := by decide +kernel
theorem dX2_readCondition_82 : decode cX2_readCondition 82 = .ok (.getfield 15, 3) := by decide +kernel
theorem dX2_readCondition_85 : decode cX2_readCondition 85 = .ok (.sipush 261, 3) := by decide +kernel
theorem dX2_readCondition_88 : decode cX2_readCondition 88 = .ok (.iconst 0, 1) := by decide +kernel
theorem dX2_readCondition_89 : decode cX2_readCondition 89 = .ok (.invokevirtual 64, 3) := by decide +kernel
theorem dX2_readCondition_92 : decode cX2_readCondition 92 = .ok (.aload_n 0, 1) := by decide +kernel
theorem dX2_readCondition_93 : decode cX2_readCondition 93 = .ok (.invokevirtual 34, 3) := by decide +kernel
theorem dX2_readCondition_96 : decode cX2_readCondition 96 = .ok (.sipush 261, 3) := by decide +kernel
theorem dX2_readCondition_99 : decode cX2_readCondition 99 = .ok (.if_icmp .eq 5, 3) := by decide +kernel
theorem dX2_readCondition_102 : decode cX2_readCondition 102 = .ok (.iconst 1, 1) := by decide +kernel
theorem dX2_readCondition_103 : decode cX2_readCondition 103 = .ok (.ireturn, 1) := by decide +kernel
theorem dX2_readCondition_104 : decode cX2_readCondition 104 = .ok (.aload_n 0, 1) := by decide +kernel
theorem dX2_readCondition_105 : decode cX2_readCondition 105 = .ok (.dup, 1) := by decide +kernel
theorem dX2_readCondition_106 : decode cX2_readCondition 106 = .ok (.getfield 19, 3) := by decide +kernel
theorem dX2_readCondition_109 : decode cX2_readCondition 109 = .ok (.iconst 1, 1) := by decide +kernel
theorem dX2_readCondition_110 : decode cX2_readCondition 110 = .ok (.iadd, 1) := by decide +kernel
theorem dX2_readCondition_111 : decode cX2_readCondition 111 = .ok (.putfield 19, 3) := by decide +kernel
theorem dX2_readCondition_114 : decode cX2_readCondition 114 = .ok (.iinc 1 1, 3) := by decide +kernel
theorem dX2_readCondition_117 : decode cX2_readCondition 117 = .ok (.goto (-115), 3) := by decide +kernel
theorem dX2_readCondition_120 : decode cX2_readCondition 120 = .ok (.aload_n 0, 1) := by decide +kernel
theorem dX2_readCondition_121 : decode cX2_readCondition 121 = .ok (.iconst 1, 1) := by decide +kernel
theorem dX2_readCondition_122 : decode cX2_readCondition 122 = .ok (.invokevirtual 44, 3) := by decide +kernel
theorem dX2_readCondition_125 : decode cX2_readCondition 125 = .ok (.ireturn, 1) := by decide +kernel
theorem dX2_readSum_0 : decode cX2_readSum 0 = .ok (.aload_n 0, 1) := by decide +kernel
theorem dX2_readSum_1 : decode cX2_readSum 1 = .ok (.iload_n 1, 1) := by decide +kernel
theorem dX2_readSum_2 : decode cX2_readSum 2 = .ok (.invokevirtual 67, 3) := by decide +kernel
theorem dX2_readSum_5 : decode cX2_readSum 5 = .ok (.ifCond .ne 5, 3) := by decide +kernel
theorem dX2_readSum_8 : decode cX2_readSum 8 = .ok (.iconst 0, 1) := by decide +kernel
theorem dX2_readSum_9 : decode cX2_readSum 9 = .ok (.ireturn, 1) := by decide +kernel
theorem dX2_readSum_10 : decode cX2_readSum 10 = .ok (.iconst 0, 1) := by decide +kernel
theorem dX2_readSum_11 : decode cX2_readSum 11 = .ok (.istore_n 2, 1) := by decide +kernel
theorem dX2_readSum_12 : decode cX2_readSum 12 = .ok (.iload_n 2, 1) := by decide +kernel
theorem dX2_readSum_13 : decode cX2_readSum 13 = .ok (.sipush 400, 3) := by decide +kernel
theorem dX2_readSum_16 : decode cX2_readSum 16 = .ok (.if_icmp .gt 57, 3) := by decide +kernel
theorem dX2_readSum_19 : decode cX2_readSum 19 = .ok (.aload_n 0, 1) := by decide +kernel
theorem dX2_readSum_20 : decode cX2_readSum 20 = .ok (.invokevirtual 34, 3) := by decide +kernel
theorem dX2_readSum_23 : decode cX2_readSum 23 = .ok (.istore_n 3, 1) := by decide +kernel
theorem dX2_readSum_24 : decode cX2_readSum 24 = .ok (.iload_n 3, 1) := by decide +kernel
theorem dX2_readSum_25 : decode cX2_readSum 25 = .ok (.bipush 43, 2) := by decide +kernel
theorem dX2_readSum_27 : decode cX2_readSum 27 = .ok (.if_icmp .eq 11, 3) := by decide +kernel
theorem dX2_readSum_30 : decode cX2_readSum 30 = .ok (.iload_n 3, 1) := by decide +kernel
theorem dX2_readSum_31 : decode cX2_readSum 31 = .ok (.bipush 45, 2) := by decide +kernel
theorem dX2_readSum_33 : decode cX2_readSum 33 = .ok (.if_icmp .eq 5, 3) := by decide +kernel
theorem dX2_readSum_36 : decode cX2_readSum 36 = .ok (.iconst 1, 1) := by decide +kernel
theorem dX2_readSum_37 : decode cX2_readSum 37 = .ok (.ireturn, 1) := by decide +kernel
theorem dX2_readSum_38 : decode cX2_readSum 38 = .ok (.aload_n 0, 1) := by decide +kernel
theorem dX2_readSum_39 : decode cX2_readSum 39 = .ok (.dup, 1) := by decide +kernel
theorem dX2_readSum_40 : decode cX2_readSum 40 = .ok (.getfield 19, 3) := by decide +kernel
theorem dX2_readSum_43 : decode cX2_readSum 43 = .ok (.iconst 1, 1) := by decide +kernel
theorem dX2_readSum_44 : decode cX2_readSum 44 = .ok (.iadd, 1) := by decide +kernel
theorem dX2_readSum_45 : decode cX2_readSum 45 = .ok (.putfield 19, 3) := by decide +kernel
theorem dX2_readSum_48 : decode cX2_readSum 48 = .ok (.aload_n 0, 1) := by decide +kernel
theorem dX2_readSum_49 : decode cX2_readSum 49 = .ok (.iload_n 1, 1) := by decide +kernel
theorem dX2_readSum_50 : decode cX2_readSum 50 = .ok (.invokevirtual 67, 3) := by decide +kernel
theorem dX2_readSum_53 : decode cX2_readSum 53 = .ok (.ifCond .ne 5, 3) := by decide +kernel
theorem dX2_readSum_56 : decode cX2_readSum 56 = .ok (.iconst 0, 1) := by decide +kernel
theorem dX2_readSum_57 : decode cX2_readSum 57 = .ok (.ireturn, 1) := by decide +kernel
theorem dX2_readSum_58 : decode cX2_readSum 58 = .ok (.aload_n 0, 1) := by decide +kernel
theorem dX2_readSum_59 : decode cX2_readSum 59 = .ok (.getfield 15, 3) := by decide +kernel
theorem dX2_readSum_62 : decode cX2_readSum 62 = .ok (.iload_n 3, 1) := by decide +kernel
theorem dX2_readSum_63 : decode cX2_readSum 63 = .ok (.iconst 0, 1) := by decide +kernel
theorem dX2_readSum_64 : decode cX2_readSum 64 = .ok (.invokevirtual 64, 3) := by decide +kernel
theorem dX2_readSum_67 : decode cX2_readSum 67 = .ok (.iinc 2 1, 3) := by decide +kernel
theorem dX2_readSum_70 : decode cX2_readSum 70 = .ok (.goto (-58), 3) := by decide +kernel
theorem dX2_readSum_73 : decode cX2_readSum 73 = .ok (.aload_n 0, 1) := by decide +kernel
theorem dX2_readSum_74 : decode cX2_readSum 74 = .ok (.iconst 1, 1) := by decide +kernel
theorem dX2_readSum_75 : decode cX2_readSum 75 = .ok (.invokevirtual 44, 3) := by decide +kernel
theorem dX2_readSum_78 : decode cX2_readSum 78 = .ok (.ireturn, 1) := by decide +kernel
theorem dX2_readTerm_0 : decode cX2_readTerm 0 = .ok (.aload_n 0, 1) := by decide +kernel
theorem dX2_readTerm_1 : decode cX2_readTerm 1 = .ok (.iload_n 1, 1) := by decide +kernel
theorem dX2_readTerm_2 : decode cX2_readTerm 2 = .ok (.invokevirtual 70, 3) := by decide +kernel
theorem dX2_readTerm_5 : decode cX2_readTerm 5 = .ok (.ifCond .ne 5, 3) := by decide +kernel
theorem dX2_readTerm_8 : decode cX2_readTerm 8 = .ok (.iconst 0, 1) := by decide +kernel
theorem dX2_readTerm_9 : decode cX2_readTerm 9 = .ok (.ireturn, 1) := by decide +kernel
theorem dX2_readTerm_10 : decode cX2_readTerm 10 = .ok (.iconst 0, 1) := by decide +kernel
theorem dX2_readTerm_11 : decode cX2_readTerm 11 = .ok (.istore_n 2, 1) := by decide +kernel
theorem dX2_readTerm_12 : decode cX2_readTerm 12 = .ok (.iload_n 2, 1) := by decide +kernel
theorem dX2_readTerm_13 : decode cX2_readTerm 13 = .ok (.sipush 400, 3) := by decide +kernel
theorem dX2_readTerm_16 : decode cX2_readTerm 16 = .ok (.if_icmp .gt 80, 3) := by decide +kernel
theorem dX2_readTerm_19 : decode cX2_readTerm 19 = .ok (.aload_n 0, 1) := by decide +kernel
theorem dX2_readTerm_20 : decode cX2_readTerm 20 = .ok (.invokevirtual 34, 3) := by decide +kernel
theorem dX2_readTerm_23 : decode cX2_readTerm 23 = .ok (.istore_n 3, 1) := by decide +kernel
theorem dX2_readTerm_24 : decode cX2_readTerm 24 = .ok (.iload_n 3, 1) := by decide +kernel
theorem dX2_readTerm_25 : decode cX2_readTerm 25 = .ok (.bipush 42, 2) := by decide +kernel
theorem dX2_readTerm_27 : decode cX2_readTerm 27 = .ok (.if_icmp .ne 36, 3) := by decide +kernel
theorem dX2_readTerm_30 : decode cX2_readTerm 30 = .ok (.aload_n 0, 1) := by decide +kernel
theorem dX2_readTerm_31 : decode cX2_readTerm 31 = .ok (.dup, 1) := by decide +kernel
theorem dX2_readTerm_32 : decode cX2_readTerm 32 = .ok (.getfield 19, 3) := by decide +kernel
theorem dX2_readTerm_35 : decode cX2_readTerm 35 = .ok (.iconst 1, 1) := by decide +kernel
theorem dX2_readTerm_36 : decode cX2_readTerm 36 = .ok (.iadd, 1) := by decide +kernel
theorem dX2_readTerm_37 : decode cX2_readTerm 37 = .ok (.putfield 19, 3) := by decide +kernel
theorem dX2_readTerm_40 : decode cX2_readTerm 40 = .ok (.aload_n 0, 1) := by decide +kernel
theorem dX2_readTerm_41 : decode cX2_readTerm 41 = .ok (.iload_n 1, 1) := by decide +kernel
theorem dX2_readTerm_42 : decode cX2_readTerm 42 = .ok (.invokevirtual 70, 3) := by decide +kernel
theorem dX2_readTerm_45 : decode cX2_readTerm 45 = .ok (.ifCond .ne 5, 3) := by decide +kernel
theorem dX2_readTerm_48 : decode cX2_readTerm 48 = .ok (.iconst 0, 1) := by decide +kernel
theorem dX2_readTerm_49 : decode cX2_readTerm 49 = .ok (.ireturn, 1) := by decide +kernel
theorem dX2_readTerm_50 : decode cX2_readTerm 50 = .ok (.aload_n 0, 1) := by decide +kernel
theorem dX2_readTerm_51 : decode cX2_readTerm 51 = .ok (.getfield 15, 3) := by decide +kernel
theorem dX2_readTerm_54 : decode cX2_readTerm 54 = .ok (.bipush 42, 2) := by decide +kernel
theorem dX2_readTerm_56 : decode cX2_readTerm 56 = .ok (.iconst 0, 1) := by decide +kernel
theorem dX2_readTerm_57 : decode cX2_readTerm 57 = .ok (.invokevirtual 64, 3) := by decide +kernel
theorem dX2_readTerm_60 : decode cX2_readTerm 60 = .ok (.goto 30, 3) := by decide +kernel
theorem dX2_readTerm_63 : decode cX2_readTerm 63 = .ok (.iload_n 3, 1) := by decide +kernel
theorem dX2_readTerm_64 : decode cX2_readTerm 64 = .ok (.bipush 47, 2) := by decide +kernel
theorem dX2_readTerm_66 : decode cX2_readTerm 66 = .ok (.if_icmp .ne 22, 3) := by decide +kernel
theorem dX2_readTerm_69 : decode cX2_readTerm 69 = .ok (.aload_n 0, 1) := by decide +kernel
theorem dX2_readTerm_70 : decode cX2_readTerm 70 = .ok (.dup, 1) := by decide +kernel
theorem dX2_readTerm_71 : decode cX2_readTerm 71 = .ok (.getfield 19, 3) := by decide +kernel
theorem dX2_readTerm_74 : decode cX2_readTerm 74 = .ok (.iconst 1, 1) := by decide +kernel
theorem dX2_readTerm_75 : decode cX2_readTerm 75 = .ok (.iadd, 1) := by decide +kernel
theorem dX2_readTerm_76 : decode cX2_readTerm 76 = .ok (.putfield 19, 3) := by decide +kernel
theorem dX2_readTerm_79 : decode cX2_readTerm 79 = .ok (.aload_n 0, 1) := by decide +kernel
theorem dX2_readTerm_80 : decode cX2_readTerm 80 = .ok (.invokevirtual 73, 3) := by decide +kernel
theorem dX2_readTerm_83 : decode cX2_readTerm 83 = .ok (.ifCond .ne 7, 3) := by decide +kernel
theorem dX2_readTerm_86 : decode cX2_readTerm 86 = .ok (.iconst 0, 1) := by decide +kernel
theorem dX2_readTerm_87 : decode cX2_readTerm 87 = .ok (.ireturn, 1) := by decide +kernel
theorem dX2_readTerm_88 : decode cX2_readTerm 88 = .ok (.iconst 1, 1) := by decide +kernel
theorem dX2_readTerm_89 : decode cX2_readTerm 89 = .ok (.ireturn, 1) := by decide +kernel
theorem dX2_readTerm_90 : decode cX2_readTerm 90 = .ok (.iinc 2 1, 3) := by decide +kernel
theorem dX2_readTerm_93 : decode cX2_readTerm 93 = .ok (.goto (-81), 3) := by decide +kernel
theorem dX2_readTerm_96 : decode cX2_readTerm 96 = .ok (.aload_n 0, 1) := by decide +kernel
theorem dX2_readTerm_97 : decode cX2_readTerm 97 = .ok (.iconst 1, 1) := by decide +kernel
theorem dX2_readTerm_98 : decode cX2_readTerm 98 = .ok (.invokevirtual 44, 3) := by decide +kernel
theorem dX2_readTerm_101 : decode cX2_readTerm 101 = .ok (.ireturn, 1) := by decide +kernel
theorem dX2_readDivisor_0 : decode cX2_readDivisor 0 = .ok (.aload_n 0, 1) := by decide +kernel
theorem dX2_readDivisor_1 : decode cX2_readDivisor 1 = .ok (.invokevirtual 34, 3) := by decide +kernel
theorem dX2_readDivisor_4 : decode cX2_readDivisor 4 = .ok (.sipush 258, 3) := by decide +kernel
theorem dX2_readDivisor_7 : decode cX2_readDivisor 7 = .ok (.if_icmp .eq 9, 3) := by decide +kernel
theorem dX2_readDivisor_10 : decode cX2_readDivisor 10 = .ok (.aload_n 0, 1) := by decide +kernel
theorem dX2_readDivisor_11 : decode cX2_readDivisor 11 = .ok (.iconst 1, 1) := by decide +kernel
theorem dX2_readDivisor_12 : decode cX2_readDivisor 12 = .ok (.invokevirtual 44, 3) := by decide +kernel
theorem dX2_readDivisor_15 : decode cX2_readDivisor 15 = .ok (.ireturn, 1) := by decide +kernel
theorem dX2_readDivisor_16 : decode cX2_readDivisor 16 = .ok (.aload_n 0, 1) := by decide +kernel
theorem dX2_readDivisor_17 : decode cX2_readDivisor 17 = .ok (.invokevirtual 76, 3) := by decide +kernel
theorem dX2_readDivisor_20 : decode cX2_readDivisor 20 = .ok (.ifCond .ne 9, 3) := by decide +kernel
theorem dX2_readDivisor_23 : decode cX2_readDivisor 23 = .ok (.aload_n 0, 1) := by decide +kernel
theorem dX2_readDivisor_24 : decode cX2_readDivisor 24 = .ok (.iconst 2, 1) := by decide +kernel
theorem dX2_readDivisor_25 : decode cX2_readDivisor 25 = .ok (.invokevirtual 44, 3) := by decide +kernel
theorem dX2_readDivisor_28 : decode cX2_readDivisor 28 = .ok (.ireturn, 1) := by decide +kernel
theorem dX2_readDivisor_29 : decode cX2_readDivisor 29 = .ok (.aload_n 0, 1) := by decide +kernel
theorem dX2_readDivisor_30 : decode cX2_readDivisor 30 = .ok (.getfield 15, 3) := by decide +kernel
theorem dX2_readDivisor_33 : decode cX2_readDivisor 33 = .ok (.bipush 47, 2) := by decide +kernel
theorem dX2_readDivisor_35 : decode cX2_readDivisor 35 = .ok (.aload_n 0, 1) := by decide +kernel
theorem dX2_readDivisor_36 : decode cX2_readDivisor 36 = .ok (.invokevirtual 76, 3) := by decide +kernel
theorem dX2_readDivisor_39 : decode cX2_readDivisor 39 = .ok (.invokevirtual 64, 3) := by decide +kernel
theorem dX2_readDivisor_42 : decode cX2_readDivisor 42 = .ok (.aload_n 0, 1) := by decide +kernel
theorem dX2_readDivisor_43 : decode cX2_readDivisor 43 = .ok (.dup, 1) := by decide +kernel
theorem dX2_readDivisor_44 : decode cX2_readDivisor 44 = .ok (.getfield 19, 3) := by decide +kernel
theorem dX2_readDivisor_47 : decode cX2_readDivisor 47 = .ok (.iconst 1, 1) := by decide +kernel
theorem dX2_readDivisor_48 : decode cX2_readDivisor 48 = .ok (.iadd, 1) := by decide +kernel
theorem dX2_readDivisor_49 : decode cX2_readDivisor 49 = .ok (.putfield 19, 3) := by decide +kernel
theorem dX2_readDivisor_52 : decode cX2_readDivisor 52 = .ok (.iconst 1, 1) := by decide +kernel
theorem dX2_readDivisor_53 : decode cX2_readDivisor 53 = .ok (.ireturn, 1) := by decide +kernel
theorem dX2_readUnit_0 : decode cX2_readUnit 0 = .ok (.aload_n 0, 1) := by decide +kernel
theorem dX2_readUnit_1 : decode cX2_readUnit 1 = .ok (.invokevirtual 34, 3) := by decide +kernel
theorem dX2_readUnit_4 : decode cX2_readUnit 4 = .ok (.istore_n 2, 1) := by decide +kernel
theorem dX2_readUnit_5 : decode cX2_readUnit 5 = .ok (.iload_n 2, 1) := by decide +kernel
theorem dX2_readUnit_6 : decode cX2_readUnit 6 = .ok (.sipush 258, 3) := by decide +kernel
theorem dX2_readUnit_9 : decode cX2_readUnit 9 = .ok (.if_icmp .eq 17, 3) := by decide +kernel
theorem dX2_readUnit_12 : decode cX2_readUnit 12 = .ok (.iload_n 2, 1) := by decide +kernel
theorem dX2_readUnit_13 : decode cX2_readUnit 13 = .ok (.sipush 262, 3) := by decide +kernel
theorem dX2_readUnit_16 : decode cX2_readUnit 16 = .ok (.if_icmp .lt 34, 3) := by decide +kernel
theorem dX2_readUnit_19 : decode cX2_readUnit 19 = .ok (.iload_n 2, 1) := by decide +kernel
theorem dX2_readUnit_20 : decode cX2_readUnit 20 = .ok (.sipush 265, 3) := by decide +kernel
theorem dX2_readUnit_23 : decode cX2_readUnit 23 = .ok (.if_icmp .gt 27, 3) := by decide +kernel
theorem dX2_readUnit_26 : decode cX2_readUnit 26 = .ok (.aload_n 0, 1) := by decide +kernel
theorem dX2_readUnit_27 : decode cX2_readUnit 27 = .ok (.getfield 15, 3) := by decide +kernel
theorem dX2_readUnit_30 : decode cX2_readUnit 30 = .ok (.iload_n 2, 1) := by decide +kernel
theorem dX2_readUnit_31 : decode cX2_readUnit 31 = .ok (.aload_n 0, 1) := by decide +kernel
theorem dX2_readUnit_32 : decode cX2_readUnit 32 = .ok (.invokevirtual 76, 3) := by decide +kernel
theorem dX2_readUnit_35 : decode cX2_readUnit 35 = .ok (.invokevirtual 64, 3) := by decide +kernel
theorem dX2_readUnit_38 : decode cX2_readUnit 38 = .ok (.aload_n 0, 1) := by decide +kernel
theorem dX2_readUnit_39 : decode cX2_readUnit 39 = .ok (.dup, 1) := by decide +kernel
theorem dX2_readUnit_40 : decode cX2_readUnit 40 = .ok (.getfield 19, 3) := by decide +kernel
theorem dX2_readUnit_43 : decode cX2_readUnit 43 = .ok (.iconst 1, 1) := by decide +kernel
theorem dX2_readUnit_44 : decode cX2_readUnit 44 = .ok (.iadd, 1) := by decide +kernel
theorem dX2_readUnit_45 : decode cX2_readUnit 45 = .ok (.putfield 19, 3) := by decide +kernel
theorem dX2_readUnit_48 : decode cX2_readUnit 48 = .ok (.iconst 1, 1) := by decide +kernel
theorem dX2_readUnit_49 : decode cX2_readUnit 49 = .ok (.ireturn, 1) := by decide +kernel
theorem dX2_readUnit_50 : decode cX2_readUnit 50 = .ok (.iload_n 2, 1) := by decide +kernel
theorem dX2_readUnit_51 : decode cX2_readUnit 51 = .ok (.bipush 40, 2) := by decide +kernel
theorem dX2_readUnit_53 : decode cX2_readUnit 53 = .ok (.if_icmp .eq 9, 3) := by decide +kernel
theorem dX2_readUnit_56 : decode cX2_readUnit 56 = .ok (.aload_n 0, 1) := by decide +kernel
theorem dX2_readUnit_57 : decode cX2_readUnit 57 = .ok (.iconst 1, 1) := by decide +kernel
theorem dX2_readUnit_58 : decode cX2_readUnit 58 = .ok (.invokevirtual 44, 3) := by decide +kernel
theorem dX2_readUnit_61 : decode cX2_readUnit 61 = .ok (.ireturn, 1) := by decide +kernel
theorem dX2_readUnit_62 : decode cX2_readUnit 62 = .ok (.iload_n 1, 1) := by decide +kernel
theorem dX2_readUnit_63 : decode cX2_readUnit 63 = .ok (.bipush 8, 2) := by decide +kernel
theorem dX2_readUnit_65 : decode cX2_readUnit 65 = .ok (.if_icmp .lt 9, 3) := by decide +kernel
theorem dX2_readUnit_68 : decode cX2_readUnit 68 = .ok (.aload_n 0, 1) := by decide +kernel
theorem dX2_readUnit_69 : decode cX2_readUnit 69 = .ok (.iconst 3, 1) := by decide +kernel
theorem dX2_readUnit_70 : decode cX2_readUnit 70 = .ok (.invokevirtual 44, 3) := by decide +kernel
theorem dX2_readUnit_73 : decode cX2_readUnit 73 = .ok (.ireturn, 1) := by decide +kernel
theorem dX2_readUnit_74 : decode cX2_readUnit 74 = .ok (.aload_n 0, 1) := by decide +kernel
theorem dX2_readUnit_75 : decode cX2_readUnit 75 = .ok (.dup, 1) := by decide +kernel
theorem dX2_readUnit_76 : decode cX2_readUnit 76 = .ok (.getfield 19, 3) := by decide +kernel
theorem dX2_readUnit_79 : decode cX2_readUnit 79 = .ok (.iconst 1, 1) := by decide +kernel
theorem dX2_readUnit_80 : decode cX2_readUnit 80 = .ok (.iadd, 1) := by decide +kernel
theorem dX2_readUnit_81 : decode cX2_readUnit 81 = .ok (.putfield 19, 3) := by decide +kernel
theorem dX2_readUnit_84 : decode cX2_readUnit 84 = .ok (.aload_n 0, 1) := by decide +kernel
theorem dX2_readUnit_85 : decode cX2_readUnit 85 = .ok (.iload_n 1, 1) := by decide +kernel
theorem dX2_readUnit_86 : decode cX2_readUnit 86 = .ok (.iconst 1, 1) := by decide +kernel
theorem dX2_readUnit_87 : decode cX2_readUnit 87 = .ok (.iadd, 1) := by decide +kernel
theorem dX2_readUnit_88 : decode cX2_readUnit 88 = .ok (.invokevirtual 50, 3) := by decide +kernel
theorem dX2_readUnit_91 : decode cX2_readUnit 91 = .ok (.ifCond .ne 5, 3) := by decide +kernel
theorem dX2_readUnit_94 : decode cX2_readUnit 94 = .ok (.iconst 0, 1) := by decide +kernel
theorem dX2_readUnit_95 : decode cX2_readUnit 95 = .ok (.ireturn, 1) := by decide +kernel
theorem dX2_readUnit_96 : decode cX2_readUnit 96 = .ok (.aload_n 0, 1) := by decide +kernel
theorem dX2_readUnit_97 : decode cX2_readUnit 97 = .ok (.invokevirtual 34, 3) := by decide +kernel
theorem dX2_readUnit_100 : decode cX2_readUnit 100 = .ok (.bipush 41, 2) := by decide +kernel
theorem dX2_readUnit_102 : decode cX2_readUnit 102 = .ok (.if_icmp .eq 9, 3) := by decide +kernel
theorem dX2_readUnit_105 : decode cX2_readUnit 105 = .ok (.aload_n 0, 1) := by decide +kernel
theorem dX2_readUnit_106 : decode cX2_readUnit 106 = .ok (.iconst 1, 1) := by decide +kernel
theorem dX2_readUnit_107 : decode cX2_readUnit 107 = .ok (.invokevirtual 44, 3) := by decide +kernel
theorem dX2_readUnit_110 : decode cX2_readUnit 110 = .ok (.ireturn, 1) := by decide +kernel
theorem dX2_readUnit_111 : decode cX2_readUnit 111 = .ok (.aload_n 0, 1) := by decide +kernel
theorem dX2_readUnit_112 : decode cX2_readUnit 112 = .ok (.dup, 1) := by decide +kernel
theorem dX2_readUnit_113 : decode cX2_readUnit 113 = .ok (.getfield 19, 3) := by decide +kernel
theorem dX2_readUnit_116 : decode cX2_readUnit 116 = .ok (.iconst 1, 1) := by decide +kernel
theorem dX2_readUnit_117 : decode cX2_readUnit 117 = .ok (.iadd, 1) := by decide +kernel
theorem dX2_readUnit_118 : decode cX2_readUnit 118 = .ok (.putfield 19, 3) := by decide +kernel
theorem dX2_readUnit_121 : decode cX2_readUnit 121 = .ok (.iconst 1, 1) := by decide +kernel
theorem dX2_readUnit_122 : decode cX2_readUnit 122 = .ok (.ireturn, 1) := by decide +kernel
theorem dX2_pass_0 : decode cX2_pass 0 = .ok (.aload_n 0, 1) := by decide +kernel
theorem dX2_pass_1 : decode cX2_pass 1 = .ok (.invokevirtual 34, 3) := by decide +kernel
theorem dX2_pass_4 : decode cX2_pass 4 = .ok (.iload_n 1, 1) := by decide +kernel
theorem dX2_pass_5 : decode cX2_pass 5 = .ok (.if_icmp .eq 9, 3) := by decide +kernel
theorem dX2_pass_8 : decode cX2_pass 8 = .ok (.aload_n 0, 1) := by decide +kernel
theorem dX2_pass_9 : decode cX2_pass 9 = .ok (.iconst 1, 1) := by decide +kernel
theorem dX2_pass_10 : decode cX2_pass 10 = .ok (.invokevirtual 44, 3) := by decide +kernel
theorem dX2_pass_13 : decode cX2_pass 13 = .ok (.ireturn, 1) := by decide +kernel
theorem dX2_pass_14 : decode cX2_pass 14 = .ok (.aload_n 0, 1) := by decide +kernel
theorem dX2_pass_15 : decode cX2_pass 15 = .ok (.dup, 1) := by decide +kernel
theorem dX2_pass_16 : decode cX2_pass 16 = .ok (.getfield 19, 3) := by decide +kernel
theorem dX2_pass_19 : decode cX2_pass 19 = .ok (.iconst 1, 1) := by decide +kernel
theorem dX2_pass_20 : decode cX2_pass 20 = .ok (.iadd, 1) := by decide +kernel
theorem dX2_pass_21 : decode cX2_pass 21 = .ok (.putfield 19, 3) := by decide +kernel
theorem dX2_pass_24 : decode cX2_pass 24 = .ok (.iconst 1, 1) := by decide +kernel
theorem dX2_pass_25 : decode cX2_pass 25 = .ok (.ireturn, 1) := by decide +kernel
theorem dX2_fail_0 : decode cX2_fail 0 = .ok (.aload_n 0, 1) := by decide +kernel
theorem dX2_fail_1 : decode cX2_fail 1 = .ok (.iload_n 1, 1) := by decide +kernel
theorem dX2_fail_2 : decode cX2_fail 2 = .ok (.putfield 23, 3) := by decide +kernel
theorem dX2_fail_5 : decode cX2_fail 5 = .ok (.aload_n 0, 1) := by decide +kernel
theorem dX2_fail_6 : decode cX2_fail 6 = .ok (.aload_n 0, 1) := by decide +kernel
theorem dX2_fail_7 : decode cX2_fail 7 = .ok (.getfield 19, 3) := by decide +kernel
theorem dX2_fail_10 : decode cX2_fail 10 = .ok (.ifCond .lt 42, 3) := by decide +kernel
theorem dX2_fail_13 : decode cX2_fail 13 = .ok (.aload_n 0, 1) := by decide +kernel
theorem dX2_fail_14 : decode cX2_fail 14 = .ok (.getfield 19, 3) := by decide +kernel
theorem dX2_fail_17 : decode cX2_fail 17 = .ok (.aload_n 0, 1) := by decide +kernel
theorem dX2_fail_18 : decode cX2_fail 18 = .ok (.getfield 9, 3) := by decide +kernel
theorem dX2_fail_21 : decode cX2_fail 21 = .ok (.getfield 79, 3) := by decide +kernel
theorem dX2_fail_24 : decode cX2_fail 24 = .ok (.if_icmp .ge 28, 3) := by decide +kernel
theorem dX2_fail_27 : decode cX2_fail 27 = .ok (.aload_n 0, 1) := by decide +kernel
theorem dX2_fail_28 : decode cX2_fail 28 = .ok (.getfield 19, 3) := by decide +kernel
theorem dX2_fail_31 : decode cX2_fail 31 = .ok (.sipush 400, 3) := by decide +kernel
theorem dX2_fail_34 : decode cX2_fail 34 = .ok (.if_icmp .gt 18, 3) := by decide +kernel
theorem dX2_fail_37 : decode cX2_fail 37 = .ok (.aload_n 0, 1) := by decide +kernel
theorem dX2_fail_38 : decode cX2_fail 38 = .ok (.getfield 9, 3) := by decide +kernel
theorem dX2_fail_41 : decode cX2_fail 41 = .ok (.getfield 89, 3) := by decide +kernel
theorem dX2_fail_44 : decode cX2_fail 44 = .ok (.aload_n 0, 1) := by decide +kernel
theorem dX2_fail_45 : decode cX2_fail 45 = .ok (.getfield 19, 3) := by decide +kernel
theorem dX2_fail_48 : decode cX2_fail 48 = .ok (.iaload, 1) := by decide +kernel
theorem dX2_fail_49 : decode cX2_fail 49 = .ok (.goto 4, 3) := by decide +kernel
theorem dX2_fail_52 : decode cX2_fail 52 = .ok (.iconst (-1), 1) := by decide +kernel
theorem dX2_fail_53 : decode cX2_fail 53 = .ok (.putfield 26, 3) := by decide +kernel
theorem dX2_fail_56 : decode cX2_fail 56 = .ok (.iconst 0, 1) := by decide +kernel
theorem dX2_fail_57 : decode cX2_fail 57 = .ok (.ireturn, 1) := by decide +kernel
theorem dX3_sellBy_0 : decode cX3_sellBy 0 = .ok (.aload_n 0, 1) := by decide +kernel
theorem dX3_sellBy_1 : decode cX3_sellBy 1 = .ok (.getfield 9, 3) := by decide +kernel
theorem dX3_sellBy_4 : decode cX3_sellBy 4 = .ok (.iconst 2, 1) := by decide +kernel
theorem dX3_sellBy_5 : decode cX3_sellBy 5 = .ok (.if_icmp .ne 13, 3) := by decide +kernel
theorem dX3_sellBy_8 : decode cX3_sellBy 8 = .ok (.aload_n 0, 1) := by decide +kernel
theorem dX3_sellBy_9 : decode cX3_sellBy 9 = .ok (.getfield 31, 3) := by decide +kernel
theorem dX3_sellBy_12 : decode cX3_sellBy 12 = .ok (.bipush 7, 2) := by decide +kernel
theorem dX3_sellBy_14 : decode cX3_sellBy 14 = .ok (.iadd, 1) := by decide +kernel
theorem dX3_sellBy_15 : decode cX3_sellBy 15 = .ok (.goto 7, 3) := by decide +kernel
theorem dX3_sellBy_18 : decode cX3_sellBy 18 = .ok (.aload_n 0, 1) := by decide +kernel
theorem dX3_sellBy_19 : decode cX3_sellBy 19 = .ok (.getfield 31, 3) := by decide +kernel
theorem dX3_sellBy_22 : decode cX3_sellBy 22 = .ok (.istore_n 2, 1) := by decide +kernel
theorem dX3_sellBy_23 : decode cX3_sellBy 23 = .ok (.aload_n 0, 1) := by decide +kernel
theorem dX3_sellBy_24 : decode cX3_sellBy 24 = .ok (.invokevirtual 55, 3) := by decide +kernel
theorem dX3_sellBy_27 : decode cX3_sellBy 27 = .ok (.iconst 1, 1) := by decide +kernel
theorem dX3_sellBy_28 : decode cX3_sellBy 28 = .ok (.if_icmp .ne 13, 3) := by decide +kernel
theorem dX3_sellBy_31 : decode cX3_sellBy 31 = .ok (.iload_n 2, 1) := by decide +kernel
theorem dX3_sellBy_32 : decode cX3_sellBy 32 = .ok (.iload_n 1, 1) := by decide +kernel
theorem dX3_sellBy_33 : decode cX3_sellBy 33 = .ok (.if_icmp .gt 8, 3) := by decide +kernel
theorem dX3_sellBy_36 : decode cX3_sellBy 36 = .ok (.aload_n 0, 1) := by decide +kernel
theorem dX3_sellBy_37 : decode cX3_sellBy 37 = .ok (.iload_n 2, 1) := by decide +kernel
theorem dX3_sellBy_38 : decode cX3_sellBy 38 = .ok (.putfield 46, 3) := by decide +kernel
theorem dX3_sellBy_41 : decode cX3_sellBy 41 = .ok (.return_, 1) := by decide +kernel
theorem dX4_gather_0 : decode cX4_gather 0 = .ok (.aload_n 0, 1) := by decide +kernel
theorem dX4_gather_1 : decode cX4_gather 1 = .ok (.iconst 0, 1) := by decide +kernel
theorem dX4_gather_2 : decode cX4_gather 2 = .ok (.putfield 7, 3) := by decide +kernel
theorem dX4_gather_5 : decode cX4_gather 5 = .ok (.aload_n 0, 1) := by decide +kernel
theorem dX4_gather_6 : decode cX4_gather 6 = .ok (.iconst 0, 1) := by decide +kernel
theorem dX4_gather_7 : decode cX4_gather 7 = .ok (.putfield 13, 3) := by decide +kernel
theorem dX4_gather_10 : decode cX4_gather 10 = .ok (.aload_n 0, 1) := by decide +kernel
theorem dX4_gather_11 : decode cX4_gather 11 = .ok (.iconst 0, 1) := by decide +kernel
theorem dX4_gather_12 : decode cX4_gather 12 = .ok (.putfield 16, 3) := by decide +kernel
theorem dX4_gather_15 : decode cX4_gather 15 = .ok (.aload_n 0, 1) := by decide +kernel
theorem dX4_gather_16 : decode cX4_gather 16 = .ok (.iload_n 3, 1) := by decide +kernel
theorem dX4_gather_17 : decode cX4_gather 17 = .ok (.putfield 19, 3) := by decide +kernel
theorem dX4_gather_20 : decode cX4_gather 20 = .ok (.iconst 0, 1) := by decide +kernel
theorem dX4_gather_21 : decode cX4_gather 21 = .ok (.istore 4, 2) := by decide +kernel
theorem dX4_gather_23 : decode cX4_gather 23 = .ok (.iload 4, 2) := by decide +kernel
theorem dX4_gather_25 : decode cX4_gather 25 = .ok (.aload_n 1, 1) := by decide +kernel
theorem dX4_gather_26 : decode cX4_gather 26 = .ok (.invokevirtual 22, 3) := by decide +kernel
theorem dX4_gather_29 : decode cX4_gather 29 = .ok (.if_icmp .ge 35, 3) := by decide +kernel
theorem dX4_gather_32 : decode cX4_gather 32 = .ok (.aload_n 1, 1) := by decide +kernel
theorem dX4_gather_33 : decode cX4_gather 33 = .ok (.iload 4, 2) := by decide +kernel
theorem dX4_gather_35 : decode cX4_gather 35 = .ok (.invokevirtual 28, 3) := by decide +kernel
theorem dX4_gather_38 : decode cX4_gather 38 = .ok (.checkcast 32, 3) := by decide +kernel
theorem dX4_gather_41 : decode cX4_gather 41 = .ok (.astore 5, 2) := by decide +kernel
theorem dX4_gather_43 : decode cX4_gather 43 = .ok (.aload 5, 2) := by decide +kernel
theorem dX4_gather_45 : decode cX4_gather 45 = .ok (.getfield 34, 3) := by decide +kernel
theorem dX4_gather_48 : decode cX4_gather 48 = .ok (.iload_n 2, 1) := by decide +kernel
theorem dX4_gather_49 : decode cX4_gather 49 = .ok (.if_icmp .ne 9, 3) := by decide +kernel
theorem dX4_gather_52 : decode cX4_gather 52 = .ok (.aload_n 0, 1) := by decide +kernel
theorem dX4_gather_53 : decode cX4_gather 53 = .ok (.aload 5, 2) := by decide +kernel
theorem dX4_gather_55 : decode cX4_gather 55 = .ok (.invokevirtual 37, 3) := by decide +kernel
theorem dX4_gather_58 : decode cX4_gather 58 = .ok (.iinc 4 1, 3) := by decide +kernel
theorem dX4_gather_61 : decode cX4_gather 61 = .ok (.goto (-38), 3) := by decide +kernel
theorem dX4_gather_64 : decode cX4_gather 64 = .ok (.return_, 1) := by decide +kernel
theorem dX4_addSlip_0 : decode cX4_addSlip 0 = .ok (.aload_n 1, 1) := by decide +kernel
theorem dX4_addSlip_1 : decode cX4_addSlip 1 = .ok (.aload_n 0, 1) := by decide +kernel
theorem dX4_addSlip_2 : decode cX4_addSlip 2 = .ok (.getfield 19, 3) := by decide +kernel
theorem dX4_addSlip_5 : decode cX4_addSlip 5 = .ok (.invokevirtual 41, 3) := by decide +kernel
theorem dX4_addSlip_8 : decode cX4_addSlip 8 = .ok (.ifCond .eq 26, 3) := by decide +kernel
theorem dX4_addSlip_11 : decode cX4_addSlip 11 = .ok (.aload_n 0, 1) := by decide +kernel
theorem dX4_addSlip_12 : decode cX4_addSlip 12 = .ok (.dup, 1) := by decide +kernel
theorem dX4_addSlip_13 : decode cX4_addSlip 13 = .ok (.getfield 7, 3) := by decide +kernel
theorem dX4_addSlip_16 : decode cX4_addSlip 16 = .ok (.aload_n 1, 1) := by decide +kernel
theorem dX4_addSlip_17 : decode cX4_addSlip 17 = .ok (.getfield 45, 3) := by decide +kernel
theorem dX4_addSlip_20 : decode cX4_addSlip 20 = .ok (.iadd, 1) := by decide +kernel
theorem dX4_addSlip_21 : decode cX4_addSlip 21 = .ok (.putfield 7, 3) := by decide +kernel
theorem dX4_addSlip_24 : decode cX4_addSlip 24 = .ok (.aload_n 0, 1) := by decide +kernel
theorem dX4_addSlip_25 : decode cX4_addSlip 25 = .ok (.dup, 1) := by decide +kernel
theorem dX4_addSlip_26 : decode cX4_addSlip 26 = .ok (.getfield 13, 3) := by decide +kernel
theorem dX4_addSlip_29 : decode cX4_addSlip 29 = .ok (.iconst 1, 1) := by decide +kernel
theorem dX4_addSlip_30 : decode cX4_addSlip 30 = .ok (.iadd, 1) := by decide +kernel
theorem dX4_addSlip_31 : decode cX4_addSlip 31 = .ok (.putfield 13, 3) := by decide +kernel
theorem dX4_addSlip_34 : decode cX4_addSlip 34 = .ok (.aload_n 1, 1) := by decide +kernel
theorem dX4_addSlip_35 : decode cX4_addSlip 35 = .ok (.aload_n 0, 1) := by decide +kernel
theorem dX4_addSlip_36 : decode cX4_addSlip 36 = .ok (.getfield 19, 3) := by decide +kernel
theorem dX4_addSlip_39 : decode cX4_addSlip 39 = .ok (.invokevirtual 48, 3) := by decide +kernel
theorem dX4_addSlip_42 : decode cX4_addSlip 42 = .ok (.ifCond .eq 29, 3) := by decide +kernel
theorem dX4_addSlip_45 : decode cX4_addSlip 45 = .ok (.aload_n 0, 1) := by decide +kernel
theorem dX4_addSlip_46 : decode cX4_addSlip 46 = .ok (.dup, 1) := by decide +kernel
theorem dX4_addSlip_47 : decode cX4_addSlip 47 = .ok (.getfield 7, 3) := by decide +kernel
theorem dX4_addSlip_50 : decode cX4_addSlip 50 = .ok (.aload_n 1, 1) := by decide +kernel
theorem dX4_addSlip_51 : decode cX4_addSlip 51 = .ok (.getfield 45, 3) := by decide +kernel
theorem dX4_addSlip_54 : decode cX4_addSlip 54 = .ok (.isub, 1) := by decide +kernel
theorem dX4_addSlip_55 : decode cX4_addSlip 55 = .ok (.putfield 7, 3) := by decide +kernel
theorem dX4_addSlip_58 : decode cX4_addSlip 58 = .ok (.aload_n 0, 1) := by decide +kernel
theorem dX4_addSlip_59 : decode cX4_addSlip 59 = .ok (.dup, 1) := by decide +kernel
theorem dX4_addSlip_60 : decode cX4_addSlip 60 = .ok (.getfield 16, 3) := by decide +kernel
theorem dX4_addSlip_63 : decode cX4_addSlip 63 = .ok (.aload_n 1, 1) := by decide +kernel
theorem dX4_addSlip_64 : decode cX4_addSlip 64 = .ok (.getfield 45, 3) := by decide +kernel
theorem dX4_addSlip_67 : decode cX4_addSlip 67 = .ok (.iadd, 1) := by decide +kernel
theorem dX4_addSlip_68 : decode cX4_addSlip 68 = .ok (.putfield 16, 3) := by decide +kernel
theorem dX4_addSlip_71 : decode cX4_addSlip 71 = .ok (.return_, 1) := by decide +kernel
theorem dX5_append_0 : decode cX5_append 0 = .ok (.bipush 24, 2) := by decide +kernel
theorem dX5_append_2 : decode cX5_append 2 = .ok (.istore_n 2, 1) := by decide +kernel
theorem dX5_append_3 : decode cX5_append 3 = .ok (.iload_n 2, 1) := by decide +kernel
theorem dX5_append_4 : decode cX5_append 4 = .ok (.ifCond .lt 49, 3) := by decide +kernel
theorem dX5_append_7 : decode cX5_append 7 = .ok (.aload_n 0, 1) := by decide +kernel
theorem dX5_append_8 : decode cX5_append 8 = .ok (.getfield 15, 3) := by decide +kernel
theorem dX5_append_11 : decode cX5_append 11 = .ok (.ifCond .lt 36, 3) := by decide +kernel
theorem dX5_append_14 : decode cX5_append 14 = .ok (.aload_n 0, 1) := by decide +kernel
theorem dX5_append_15 : decode cX5_append 15 = .ok (.getfield 15, 3) := by decide +kernel
theorem dX5_append_18 : decode cX5_append 18 = .ok (.sipush 400, 3) := by decide +kernel
theorem dX5_append_21 : decode cX5_append 21 = .ok (.if_icmp .ge 26, 3) := by decide +kernel
theorem dX5_append_24 : decode cX5_append 24 = .ok (.aload_n 0, 1) := by decide +kernel
theorem dX5_append_25 : decode cX5_append 25 = .ok (.getfield 9, 3) := by decide +kernel
theorem dX5_append_28 : decode cX5_append 28 = .ok (.aload_n 0, 1) := by decide +kernel
theorem dX5_append_29 : decode cX5_append 29 = .ok (.getfield 15, 3) := by decide +kernel
theorem dX5_append_32 : decode cX5_append 32 = .ok (.iload_n 1, 1) := by decide +kernel
theorem dX5_append_33 : decode cX5_append 33 = .ok (.iload_n 2, 1) := by decide +kernel
theorem dX5_append_34 : decode cX5_append 34 = .ok (.iushr, 1) := by decide +kernel
theorem dX5_append_35 : decode cX5_append 35 = .ok (.i2b, 1) := by decide +kernel
theorem dX5_append_36 : decode cX5_append 36 = .ok (.bastore, 1) := by decide +kernel
theorem dX5_append_37 : decode cX5_append 37 = .ok (.aload_n 0, 1) := by decide +kernel
theorem dX5_append_38 : decode cX5_append 38 = .ok (.dup, 1) := by decide +kernel
theorem dX5_append_39 : decode cX5_append 39 = .ok (.getfield 15, 3) := by decide +kernel
theorem dX5_append_42 : decode cX5_append 42 = .ok (.iconst 1, 1) := by decide +kernel
theorem dX5_append_43 : decode cX5_append 43 = .ok (.iadd, 1) := by decide +kernel
theorem dX5_append_44 : decode cX5_append 44 = .ok (.putfield 15, 3) := by decide +kernel
theorem dX5_append_47 : decode cX5_append 47 = .ok (.iinc 2 (-8), 3) := by decide +kernel
theorem dX5_append_50 : decode cX5_append 50 = .ok (.goto (-47), 3) := by decide +kernel
theorem dX5_append_53 : decode cX5_append 53 = .ok (.return_, 1) := by decide +kernel
theorem dX6_keepTag_0 : decode cX6_keepTag 0 = .ok (.iload_n 1, 1) := by decide +kernel
theorem dX6_keepTag_1 : decode cX6_keepTag 1 = .ok (.iconst 1, 1) := by decide +kernel
theorem dX6_keepTag_2 : decode cX6_keepTag 2 = .ok (.if_icmp .lt 24, 3) := by decide +kernel
theorem dX6_keepTag_5 : decode cX6_keepTag 5 = .ok (.iload_n 1, 1) := by decide +kernel
theorem dX6_keepTag_6 : decode cX6_keepTag 6 = .ok (.sipush 364, 3) := by decide +kernel
theorem dX6_keepTag_9 : decode cX6_keepTag 9 = .ok (.if_icmp .ge 17, 3) := by decide +kernel
theorem dX6_keepTag_12 : decode cX6_keepTag 12 = .ok (.aload_n 0, 1) := by decide +kernel
theorem dX6_keepTag_13 : decode cX6_keepTag 13 = .ok (.getfield 9, 3) := by decide +kernel
theorem dX6_keepTag_16 : decode cX6_keepTag 16 = .ok (.iload_n 1, 1) := by decide +kernel
theorem dX6_keepTag_17 : decode cX6_keepTag 17 = .ok (.aload_n 0, 1) := by decide +kernel
theorem dX6_keepTag_18 : decode cX6_keepTag 18 = .ok (.getfield 9, 3) := by decide +kernel
theorem dX6_keepTag_21 : decode cX6_keepTag 21 = .ok (.iload_n 1, 1) := by decide +kernel
theorem dX6_keepTag_22 : decode cX6_keepTag 22 = .ok (.iconst 1, 1) := by decide +kernel
theorem dX6_keepTag_23 : decode cX6_keepTag 23 = .ok (.isub, 1) := by decide +kernel
theorem dX6_keepTag_24 : decode cX6_keepTag 24 = .ok (.iaload, 1) := by decide +kernel
theorem dX6_keepTag_25 : decode cX6_keepTag 25 = .ok (.iastore, 1) := by decide +kernel
theorem dX6_keepTag_26 : decode cX6_keepTag 26 = .ok (.return_, 1) := by decide +kernel
theorem dX6_changeTag_0 : decode cX6_changeTag 0 = .ok (.aload_n 0, 1) := by decide +kernel
theorem dX6_changeTag_1 : decode cX6_changeTag 1 = .ok (.iload_n 1, 1) := by decide +kernel
theorem dX6_changeTag_2 : decode cX6_changeTag 2 = .ok (.invokevirtual 22, 3) := by decide +kernel
theorem dX6_changeTag_5 : decode cX6_changeTag 5 = .ok (.istore_n 3, 1) := by decide +kernel
theorem dX6_changeTag_6 : decode cX6_changeTag 6 = .ok (.iload_n 2, 1) := by decide +kernel
theorem dX6_changeTag_7 : decode cX6_changeTag 7 = .ok (.iload_n 3, 1) := by decide +kernel
theorem dX6_changeTag_8 : decode cX6_changeTag 8 = .ok (.if_icmp .eq 14, 3) := by decide +kernel
theorem dX6_changeTag_11 : decode cX6_changeTag 11 = .ok (.iload_n 1, 1) := by decide +kernel
theorem dX6_changeTag_12 : decode cX6_changeTag 12 = .ok (.ifCond .lt 10, 3) := by decide +kernel
theorem dX6_changeTag_15 : decode cX6_changeTag 15 = .ok (.iload_n 1, 1) := by decide +kernel
theorem dX6_changeTag_16 : decode cX6_changeTag 16 = .ok (.sipush 364, 3) := by decide +kernel
theorem dX6_changeTag_19 : decode cX6_changeTag 19 = .ok (.if_icmp .lt 5, 3) := by decide +kernel
theorem dX6_changeTag_22 : decode cX6_changeTag 22 = .ok (.iconst 0, 1) := by decide +kernel
theorem dX6_changeTag_23 : decode cX6_changeTag 23 = .ok (.ireturn, 1) := by decide +kernel
theorem dX6_changeTag_24 : decode cX6_changeTag 24 = .ok (.aload_n 0, 1) := by decide +kernel
theorem dX6_changeTag_25 : decode cX6_changeTag 25 = .ok (.getfield 9, 3) := by decide +kernel
theorem dX6_changeTag_28 : decode cX6_changeTag 28 = .ok (.iload_n 1, 1) := by decide +kernel
theorem dX6_changeTag_29 : decode cX6_changeTag 29 = .ok (.iload_n 2, 1) := by decide +kernel
theorem dX6_changeTag_30 : decode cX6_changeTag 30 = .ok (.iastore, 1) := by decide +kernel
theorem dX6_changeTag_31 : decode cX6_changeTag 31 = .ok (.iload_n 2, 1) := by decide +kernel
theorem dX6_changeTag_32 : decode cX6_changeTag 32 = .ok (.iload_n 3, 1) := by decide +kernel
theorem dX6_changeTag_33 : decode cX6_changeTag 33 = .ok (.if_icmp .ge 5, 3) := by decide +kernel
theorem dX6_changeTag_36 : decode cX6_changeTag 36 = .ok (.iconst 1, 1) := by decide +kernel
theorem dX6_changeTag_37 : decode cX6_changeTag 37 = .ok (.ireturn, 1) := by decide +kernel
theorem dX6_changeTag_38 : decode cX6_changeTag 38 = .ok (.aload_n 0, 1) := by decide +kernel
theorem dX6_changeTag_39 : decode cX6_changeTag 39 = .ok (.dup, 1) := by decide +kernel
theorem dX6_changeTag_40 : decode cX6_changeTag 40 = .ok (.getfield 26, 3) := by decide +kernel
theorem dX6_changeTag_43 : decode cX6_changeTag 43 = .ok (.iconst 1, 1) := by decide +kernel
theorem dX6_changeTag_44 : decode cX6_changeTag 44 = .ok (.iadd, 1) := by decide +kernel
theorem dX6_changeTag_45 : decode cX6_changeTag 45 = .ok (.putfield 26, 3) := by decide +kernel
theorem dX6_changeTag_48 : decode cX6_changeTag 48 = .ok (.iconst 2, 1) := by decide +kernel
theorem dX6_changeTag_49 : decode cX6_changeTag 49 = .ok (.ireturn, 1) := by decide +kernel
theorem dX7_scan_0 : decode cX7_scan 0 = .ok (.iload_n 2, 1) := by decide +kernel
theorem dX7_scan_1 : decode cX7_scan 1 = .ok (.aload_n 1, 1) := by decide +kernel
theorem dX7_scan_2 : decode cX7_scan 2 = .ok (.arraylength, 1) := by decide +kernel
theorem dX7_scan_3 : decode cX7_scan 3 = .ok (.invokestatic 25, 3) := by decide +kernel
theorem dX7_scan_6 : decode cX7_scan 6 = .ok (.istore_n 3, 1) := by decide +kernel
theorem dX7_scan_7 : decode cX7_scan 7 = .ok (.iconst 0, 1) := by decide +kernel
theorem dX7_scan_8 : decode cX7_scan 8 = .ok (.istore 4, 2) := by decide +kernel
theorem dX7_scan_10 : decode cX7_scan 10 = .ok (.aload_n 0, 1) := by decide +kernel
theorem dX7_scan_11 : decode cX7_scan 11 = .ok (.iconst 0, 1) := by decide +kernel
theorem dX7_scan_12 : decode cX7_scan 12 = .ok (.putfield 21, 3) := by decide +kernel
theorem dX7_scan_15 : decode cX7_scan 15 = .ok (.iconst 0, 1) := by decide +kernel
theorem dX7_scan_16 : decode cX7_scan 16 = .ok (.istore 5, 2) := by decide +kernel
theorem dX7_scan_18 : decode cX7_scan 18 = .ok (.iload 5, 2) := by decide +kernel
theorem dX7_scan_20 : decode cX7_scan 20 = .ok (.sipush 400, 3) := by decide +kernel
theorem dX7_scan_23 : decode cX7_scan 23 = .ok (.if_icmp .ge 49, 3) := by decide +kernel
theorem dX7_scan_26 : decode cX7_scan 26 = .ok (.iload 4, 2) := by decide +kernel
theorem dX7_scan_28 : decode cX7_scan 28 = .ok (.iload_n 3, 1) := by decide +kernel
theorem dX7_scan_29 : decode cX7_scan 29 = .ok (.if_icmp .ge 43, 3) := by decide +kernel
theorem dX7_scan_32 : decode cX7_scan 32 = .ok (.aload_n 1, 1) := by decide +kernel
theorem dX7_scan_33 : decode cX7_scan 33 = .ok (.iload 4, 2) := by decide +kernel
theorem dX7_scan_35 : decode cX7_scan 35 = .ok (.baload, 1) := by decide +kernel
theorem dX7_scan_36 : decode cX7_scan 36 = .ok (.bipush 32, 2) := by decide +kernel
theorem dX7_scan_38 : decode cX7_scan 38 = .ok (.if_icmp .eq 12, 3) := by decide +kernel
theorem dX7_scan_41 : decode cX7_scan 41 = .ok (.aload_n 1, 1) := by decide +kernel
theorem dX7_scan_42 : decode cX7_scan 42 = .ok (.iload 4, 2) := by decide +kernel
theorem dX7_scan_44 : decode cX7_scan 44 = .ok (.baload, 1) := by decide +kernel
theorem dX7_scan_45 : decode cX7_scan 45 = .ok (.bipush 10, 2) := by decide +kernel
theorem dX7_scan_47 : decode cX7_scan 47 = .ok (.if_icmp .ne 9, 3) := by decide +kernel
theorem dX7_scan_50 : decode cX7_scan 50 = .ok (.iinc 4 1, 3) := by decide +kernel
theorem dX7_scan_53 : decode cX7_scan 53 = .ok (.goto 13, 3) := by decide +kernel
theorem dX7_scan_56 : decode cX7_scan 56 = .ok (.aload_n 0, 1) := by decide +kernel
theorem dX7_scan_57 : decode cX7_scan 57 = .ok (.aload_n 1, 1) := by decide +kernel
theorem dX7_scan_58 : decode cX7_scan 58 = .ok (.iload 4, 2) := by decide +kernel
theorem dX7_scan_60 : decode cX7_scan 60 = .ok (.iload_n 3, 1) := by decide +kernel
theorem dX7_scan_61 : decode cX7_scan 61 = .ok (.invokevirtual 31, 3) := by decide +kernel
theorem dX7_scan_64 : decode cX7_scan 64 = .ok (.istore 4, 2) := by decide +kernel
theorem dX7_scan_66 : decode cX7_scan 66 = .ok (.iinc 5 1, 3) := by decide +kernel
theorem dX7_scan_69 : decode cX7_scan 69 = .ok (.goto (-51), 3) := by decide +kernel
theorem dX7_scan_72 : decode cX7_scan 72 = .ok (.aload_n 0, 1) := by decide +kernel
theorem dX7_scan_73 : decode cX7_scan 73 = .ok (.sipush 256, 3) := by decide +kernel
theorem dX7_scan_76 : decode cX7_scan 76 = .ok (.iload_n 3, 1) := by decide +kernel
theorem dX7_scan_77 : decode cX7_scan 77 = .ok (.iconst 0, 1) := by decide +kernel
theorem dX7_scan_78 : decode cX7_scan 78 = .ok (.invokevirtual 35, 3) := by decide +kernel
theorem dX7_scan_81 : decode cX7_scan 81 = .ok (.return_, 1) := by decide +kernel
theorem dX7_scanToken_0 : decode cX7_scanToken 0 = .ok (.iload_n 2, 1) := by decide +kernel
theorem dX7_scanToken_1 : decode cX7_scanToken 1 = .ok (.iconst 1, 1) := by decide +kernel
theorem dX7_scanToken_2 : decode cX7_scanToken 2 = .ok (.iadd, 1) := by decide +kernel
theorem dX7_scanToken_3 : decode cX7_scanToken 3 = .ok (.istore 4, 2) := by decide +kernel
theorem dX7_scanToken_5 : decode cX7_scanToken 5 = .ok (.aload_n 1, 1) := by decide +kernel
theorem dX7_scanToken_6 : decode cX7_scanToken 6 = .ok (.iload_n 2, 1) := by decide +kernel
theorem dX7_scanToken_7 : decode cX7_scanToken 7 = .ok (.baload, 1) := by decide +kernel
theorem dX7_scanToken_8 : decode cX7_scanToken 8 = .ok (.invokestatic 39, 3) := by decide +kernel
theorem dX7_scanToken_11 : decode cX7_scanToken 11 = .ok (.ifCond .eq 41, 3) := by decide +kernel
theorem dX7_scanToken_14 : decode cX7_scanToken 14 = .ok (.iload 4, 2) := by decide +kernel
theorem dX7_scanToken_16 : decode cX7_scanToken 16 = .ok (.iload_n 3, 1) := by decide +kernel
theorem dX7_scanToken_17 : decode cX7_scanToken 17 = .ok (.if_icmp .ge 19, 3) := by decide +kernel
theorem dX7_scanToken_20 : decode cX7_scanToken 20 = .ok (.aload_n 1, 1) := by decide +kernel
theorem dX7_scanToken_21 : decode cX7_scanToken 21 = .ok (.iload 4, 2) := by decide +kernel
theorem dX7_scanToken_23 : decode cX7_scanToken 23 = .ok (.baload, 1) := by decide +kernel
theorem dX7_scanToken_24 : decode cX7_scanToken 24 = .ok (.invokestatic 39, 3) := by decide +kernel
theorem dX7_scanToken_27 : decode cX7_scanToken 27 = .ok (.ifCond .eq 9, 3) := by decide +kernel
theorem dX7_scanToken_30 : decode cX7_scanToken 30 = .ok (.iinc 4 1, 3) := by decide +kernel
theorem dX7_scanToken_33 : decode cX7_scanToken 33 = .ok (.goto (-19), 3) := by decide +kernel
theorem dX7_scanToken_36 : decode cX7_scanToken 36 = .ok (.aload_n 0, 1) := by decide +kernel
theorem dX7_scanToken_37 : decode cX7_scanToken 37 = .ok (.aload_n 1, 1) := by decide +kernel
theorem dX7_scanToken_38 : decode cX7_scanToken 38 = .ok (.iload_n 2, 1) := by decide +kernel
theorem dX7_scanToken_39 : decode cX7_scanToken 39 = .ok (.iload 4, 2) := by decide +kernel
theorem dX7_scanToken_41 : decode cX7_scanToken 41 = .ok (.invokestatic 43, 3) := by decide +kernel
theorem dX7_scanToken_44 : decode cX7_scanToken 44 = .ok (.iload_n 2, 1) := by decide +kernel
theorem dX7_scanToken_45 : decode cX7_scanToken 45 = .ok (.iconst 0, 1) := by decide +kernel
theorem dX7_scanToken_46 : decode cX7_scanToken 46 = .ok (.invokevirtual 35, 3) := by decide +kernel
theorem dX7_scanToken_49 : decode cX7_scanToken 49 = .ok (.goto 96, 3) := by decide +kernel
theorem dX7_scanToken_52 : decode cX7_scanToken 52 = .ok (.aload_n 1, 1) := by decide +kernel
theorem dX7_scanToken_53 : decode cX7_scanToken 53 = .ok (.iload_n 2, 1) := by decide +kernel
theorem dX7_scanToken_54 : decode cX7_scanToken 54 = .ok (.baload, 1) := by decide +kernel
theorem dX7_scanToken_55 : decode cX7_scanToken 55 = .ok (.invokestatic 46, 3) := by decide +kernel
theorem dX7_scanToken_58 : decode cX7_scanToken 58 = .ok (.ifCond .eq 74, 3) := by decide +kernel
theorem dX7_scanToken_61 : decode cX7_scanToken 61 = .ok (.iload 4, 2) := by decide +kernel
theorem dX7_scanToken_63 : decode cX7_scanToken 63 = .ok (.iload_n 3, 1) := by decide +kernel
theorem dX7_scanToken_64 : decode cX7_scanToken 64 = .ok (.if_icmp .ge 19, 3) := by decide +kernel
theorem dX7_scanToken_67 : decode cX7_scanToken 67 = .ok (.aload_n 1, 1) := by decide +kernel
theorem dX7_scanToken_68 : decode cX7_scanToken 68 = .ok (.iload 4, 2) := by decide +kernel
theorem dX7_scanToken_70 : decode cX7_scanToken 70 = .ok (.baload, 1) := by decide +kernel
theorem dX7_scanToken_71 : decode cX7_scanToken 71 = .ok (.invokestatic 46, 3) := by decide +kernel
theorem dX7_scanToken_74 : decode cX7_scanToken 74 = .ok (.ifCond .eq 9, 3) := by decide +kernel
theorem dX7_scanToken_77 : decode cX7_scanToken 77 = .ok (.iinc 4 1, 3) := by decide +kernel
theorem dX7_scanToken_80 : decode cX7_scanToken 80 = .ok (.goto (-19), 3) := by decide +kernel
theorem dX7_scanToken_83 : decode cX7_scanToken 83 = .ok (.iload 4, 2) := by decide +kernel
theorem dX7_scanToken_85 : decode cX7_scanToken 85 = .ok (.iload_n 2, 1) := by decide +kernel
theorem dX7_scanToken_86 : decode cX7_scanToken 86 = .ok (.isub, 1) := by decide +kernel
theorem dX7_scanToken_87 : decode cX7_scanToken 87 = .ok (.bipush 6, 2) := by decide +kernel
theorem dX7_scanToken_89 : decode cX7_scanToken 89 = .ok (.if_icmp .gt 9, 3) := by decide +kernel
theorem dX7_scanToken_92 : decode cX7_scanToken 92 = .ok (.sipush 258, 3) := by decide +kernel
theorem dX7_scanToken_95 : decode cX7_scanToken 95 = .ok (.goto 6, 3) := by decide +kernel
theorem dX7_scanToken_98 : decode cX7_scanToken 98 = .ok (.sipush 257, 3) := by decide +kernel
theorem dX7_scanToken_101 : decode cX7_scanToken 101 = .ok (.istore 5, 2) := by decide +kernel
theorem dX7_scanToken_103 : decode cX7_scanToken 103 = .ok (.aload_n 0, 1) := by decide +kernel
theorem dX7_scanToken_104 : decode cX7_scanToken 104 = .ok (.iload 5, 2) := by decide +kernel
theorem dX7_scanToken_106 : decode cX7_scanToken 106 = .ok (.iload_n 2, 1) := by decide +kernel
theorem dX7_scanToken_107 : decode cX7_scanToken 107 = .ok (.iload 5, 2) := by decide +kernel
theorem dX7_scanToken_109 : decode cX7_scanToken 109 = .ok (.sipush 258, 3) := by decide +kernel
theorem dX7_scanToken_112 : decode cX7_scanToken 112 = .ok (.if_icmp .ne 13, 3) := by decide +kernel
theorem dX7_scanToken_115 : decode cX7_scanToken 115 = .ok (.aload_n 1, 1) := by decide +kernel
theorem dX7_scanToken_116 : decode cX7_scanToken 116 = .ok (.iload_n 2, 1) := by decide +kernel
theorem dX7_scanToken_117 : decode cX7_scanToken 117 = .ok (.iload 4, 2) := by decide +kernel
theorem dX7_scanToken_119 : decode cX7_scanToken 119 = .ok (.invokestatic 49, 3) := by decide +kernel
theorem dX7_scanToken_122 : decode cX7_scanToken 122 = .ok (.goto 4, 3) := by decide +kernel
theorem dX7_scanToken_125 : decode cX7_scanToken 125 = .ok (.iconst 0, 1) := by decide +kernel
theorem dX7_scanToken_126 : decode cX7_scanToken 126 = .ok (.invokevirtual 35, 3) := by decide +kernel
theorem dX7_scanToken_129 : decode cX7_scanToken 129 = .ok (.goto 16, 3) := by decide +kernel
theorem dX7_scanToken_132 : decode cX7_scanToken 132 = .ok (.aload_n 0, 1) := by decide +kernel
theorem dX7_scanToken_133 : decode cX7_scanToken 133 = .ok (.aload_n 1, 1) := by decide +kernel
theorem dX7_scanToken_134 : decode cX7_scanToken 134 = .ok (.iload_n 2, 1) := by decide +kernel
theorem dX7_scanToken_135 : decode cX7_scanToken 135 = .ok (.baload, 1) := by decide +kernel
theorem dX7_scanToken_136 : decode cX7_scanToken 136 = .ok (.sipush 255, 3) := by decide +kernel
theorem dX7_scanToken_139 : decode cX7_scanToken 139 = .ok (.iand, 1) := by decide +kernel
theorem dX7_scanToken_140 : decode cX7_scanToken 140 = .ok (.iload_n 2, 1) := by decide +kernel
theorem dX7_scanToken_141 : decode cX7_scanToken 141 = .ok (.iconst 0, 1) := by decide +kernel
theorem dX7_scanToken_142 : decode cX7_scanToken 142 = .ok (.invokevirtual 35, 3) := by decide +kernel
theorem dX7_scanToken_145 : decode cX7_scanToken 145 = .ok (.iload 4, 2) := by decide +kernel
theorem dX7_scanToken_147 : decode cX7_scanToken 147 = .ok (.ireturn, 1) := by decide +kernel
theorem dX7_add_0 : decode cX7_add 0 = .ok (.aload_n 0, 1) := by decide +kernel
theorem dX7_add_1 : decode cX7_add 1 = .ok (.getfield 21, 3) := by decide +kernel
theorem dX7_add_4 : decode cX7_add 4 = .ok (.ifCond .lt 53, 3) := by decide +kernel
theorem dX7_add_7 : decode cX7_add 7 = .ok (.aload_n 0, 1) := by decide +kernel
theorem dX7_add_8 : decode cX7_add 8 = .ok (.getfield 21, 3) := by decide +kernel
theorem dX7_add_11 : decode cX7_add 11 = .ok (.sipush 400, 3) := by decide +kernel
theorem dX7_add_14 : decode cX7_add 14 = .ok (.if_icmp .gt 43, 3) := by decide +kernel
theorem dX7_add_17 : decode cX7_add 17 = .ok (.aload_n 0, 1) := by decide +kernel
theorem dX7_add_18 : decode cX7_add 18 = .ok (.getfield 9, 3) := by decide +kernel
theorem dX7_add_21 : decode cX7_add 21 = .ok (.aload_n 0, 1) := by decide +kernel
theorem dX7_add_22 : decode cX7_add 22 = .ok (.getfield 21, 3) := by decide +kernel
theorem dX7_add_25 : decode cX7_add 25 = .ok (.iload_n 1, 1) := by decide +kernel
theorem dX7_add_26 : decode cX7_add 26 = .ok (.iastore, 1) := by decide +kernel
theorem dX7_add_27 : decode cX7_add 27 = .ok (.aload_n 0, 1) := by decide +kernel
theorem dX7_add_28 : decode cX7_add 28 = .ok (.getfield 15, 3) := by decide +kernel
theorem dX7_add_31 : decode cX7_add 31 = .ok (.aload_n 0, 1) := by decide +kernel
theorem dX7_add_32 : decode cX7_add 32 = .ok (.getfield 21, 3) := by decide +kernel
theorem dX7_add_35 : decode cX7_add 35 = .ok (.iload_n 2, 1) := by decide +kernel
theorem dX7_add_36 : decode cX7_add 36 = .ok (.iastore, 1) := by decide +kernel
theorem dX7_add_37 : decode cX7_add 37 = .ok (.aload_n 0, 1) := by decide +kernel
theorem dX7_add_38 : decode cX7_add 38 = .ok (.getfield 18, 3) := by decide +kernel
theorem dX7_add_41 : decode cX7_add 41 = .ok (.aload_n 0, 1) := by decide +kernel
theorem dX7_add_42 : decode cX7_add 42 = .ok (.getfield 21, 3) := by decide +kernel
theorem dX7_add_45 : decode cX7_add 45 = .ok (.iload_n 3, 1) := by decide +kernel
theorem dX7_add_46 : decode cX7_add 46 = .ok (.iastore, 1) := by decide +kernel
theorem dX7_add_47 : decode cX7_add 47 = .ok (.aload_n 0, 1) := by decide +kernel
theorem dX7_add_48 : decode cX7_add 48 = .ok (.dup, 1) := by decide +kernel
theorem dX7_add_49 : decode cX7_add 49 = .ok (.getfield 21, 3) := by decide +kernel
theorem dX7_add_52 : decode cX7_add 52 = .ok (.iconst 1, 1) := by decide +kernel
theorem dX7_add_53 : decode cX7_add 53 = .ok (.iadd, 1) := by decide +kernel
theorem dX7_add_54 : decode cX7_add 54 = .ok (.putfield 21, 3) := by decide +kernel
theorem dX7_add_57 : decode cX7_add 57 = .ok (.return_, 1) := by decide +kernel
theorem dX7_numberOf_0 : decode cX7_numberOf 0 = .ok (.iconst 0, 1) := by decide +kernel
theorem dX7_numberOf_1 : decode cX7_numberOf 1 = .ok (.istore_n 3, 1) := by decide +kernel
theorem dX7_numberOf_2 : decode cX7_numberOf 2 = .ok (.iload_n 1, 1) := by decide +kernel
theorem dX7_numberOf_3 : decode cX7_numberOf 3 = .ok (.istore 4, 2) := by decide +kernel
theorem dX7_numberOf_5 : decode cX7_numberOf 5 = .ok (.iload 4, 2) := by decide +kernel
theorem dX7_numberOf_7 : decode cX7_numberOf 7 = .ok (.iload_n 2, 1) := by decide +kernel
theorem dX7_numberOf_8 : decode cX7_numberOf 8 = .ok (.if_icmp .ge 29, 3) := by decide +kernel
theorem dX7_numberOf_11 : decode cX7_numberOf 11 = .ok (.iload 4, 2) := by decide +kernel
theorem dX7_numberOf_13 : decode cX7_numberOf 13 = .ok (.aload_n 0, 1) := by decide +kernel
theorem dX7_numberOf_14 : decode cX7_numberOf 14 = .ok (.arraylength, 1) := by decide +kernel
theorem dX7_numberOf_15 : decode cX7_numberOf 15 = .ok (.if_icmp .ge 22, 3) := by decide +kernel
theorem dX7_numberOf_18 : decode cX7_numberOf 18 = .ok (.bipush 10, 2) := by decide +kernel
theorem dX7_numberOf_20 : decode cX7_numberOf 20 = .ok (.iload_n 3, 1) := by decide +kernel
theorem dX7_numberOf_21 : decode cX7_numberOf 21 = .ok (.imul, 1) := by decide +kernel
theorem dX7_numberOf_22 : decode cX7_numberOf 22 = .ok (.aload_n 0, 1) := by decide +kernel
theorem dX7_numberOf_23 : decode cX7_numberOf 23 = .ok (.iload 4, 2) := by decide +kernel
theorem dX7_numberOf_25 : decode cX7_numberOf 25 = .ok (.baload, 1) := by decide +kernel
theorem dX7_numberOf_26 : decode cX7_numberOf 26 = .ok (.iadd, 1) := by decide +kernel
theorem dX7_numberOf_27 : decode cX7_numberOf 27 = .ok (.bipush 48, 2) := by decide +kernel
theorem dX7_numberOf_29 : decode cX7_numberOf 29 = .ok (.isub, 1) := by decide +kernel
theorem dX7_numberOf_30 : decode cX7_numberOf 30 = .ok (.istore_n 3, 1) := by decide +kernel
theorem dX7_numberOf_31 : decode cX7_numberOf 31 = .ok (.iinc 4 1, 3) := by decide +kernel
theorem dX7_numberOf_34 : decode cX7_numberOf 34 = .ok (.goto (-29), 3) := by decide +kernel
theorem dX7_numberOf_37 : decode cX7_numberOf 37 = .ok (.iload_n 3, 1) := by decide +kernel
theorem dX7_numberOf_38 : decode cX7_numberOf 38 = .ok (.ireturn, 1) := by decide +kernel
theorem dX7_wordKind_0 : decode cX7_wordKind 0 = .ok (.ldc 52, 2) := by decide +kernel
theorem dX7_wordKind_2 : decode cX7_wordKind 2 = .ok (.aload_n 0, 1) := by decide +kernel
theorem dX7_wordKind_3 : decode cX7_wordKind 3 = .ok (.iload_n 1, 1) := by decide +kernel
theorem dX7_wordKind_4 : decode cX7_wordKind 4 = .ok (.iload_n 2, 1) := by decide +kernel
theorem dX7_wordKind_5 : decode cX7_wordKind 5 = .ok (.invokestatic 54, 3) := by decide +kernel
theorem dX7_wordKind_8 : decode cX7_wordKind 8 = .ok (.ifCond .eq 7, 3) := by decide +kernel
theorem dX7_wordKind_11 : decode cX7_wordKind 11 = .ok (.sipush 259, 3) := by decide +kernel
theorem dX7_wordKind_14 : decode cX7_wordKind 14 = .ok (.ireturn, 1) := by decide +kernel
theorem dX7_wordKind_15 : decode cX7_wordKind 15 = .ok (.ldc 58, 2) := by decide +kernel
theorem dX7_wordKind_17 : decode cX7_wordKind 17 = .ok (.aload_n 0, 1) := by decide +kernel
theorem dX7_wordKind_18 : decode cX7_wordKind 18 = .ok (.iload_n 1, 1) := by decide +kernel
theorem dX7_wordKind_19 : decode cX7_wordKind 19 = .ok (.iload_n 2, 1) := by decide +kernel
theorem dX7_wordKind_20 : decode cX7_wordKind 20 = .ok (.invokestatic 54, 3) := by decide +kernel
theorem dX7_wordKind_23 : decode cX7_wordKind 23 = .ok (.ifCond .eq 7, 3) := by decide +kernel
theorem dX7_wordKind_26 : decode cX7_wordKind 26 = .ok (.sipush 260, 3) := by decide +kernel
theorem dX7_wordKind_29 : decode cX7_wordKind 29 = .ok (.ireturn, 1) := by decide +kernel
theorem dX7_wordKind_30 : decode cX7_wordKind 30 = .ok (.ldc 60, 2) := by decide +kernel
theorem dX7_wordKind_32 : decode cX7_wordKind 32 = .ok (.aload_n 0, 1) := by decide +kernel
theorem dX7_wordKind_33 : decode cX7_wordKind 33 = .ok (.iload_n 1, 1) := by decide +kernel
theorem dX7_wordKind_34 : decode cX7_wordKind 34 = .ok (.iload_n 2, 1) := by decide +kernel
theorem dX7_wordKind_35 : decode cX7_wordKind 35 = .ok (.invokestatic 54, 3) := by decide +kernel
theorem dX7_wordKind_38 : decode cX7_wordKind 38 = .ok (.ifCond .eq 7, 3) := by decide +kernel
theorem dX7_wordKind_41 : decode cX7_wordKind 41 = .ok (.sipush 261, 3) := by decide +kernel
theorem dX7_wordKind_44 : decode cX7_wordKind 44 = .ok (.ireturn, 1) := by decide +kernel
theorem dX7_wordKind_45 : decode cX7_wordKind 45 = .ok (.ldc 62, 2) := by decide +kernel
theorem dX7_wordKind_47 : decode cX7_wordKind 47 = .ok (.aload_n 0, 1) := by decide +kernel
theorem dX7_wordKind_48 : decode cX7_wordKind 48 = .ok (.iload_n 1, 1) := by decide +kernel
theorem dX7_wordKind_49 : decode cX7_wordKind 49 = .ok (.iload_n 2, 1) := by decide +kernel
theorem dX7_wordKind_50 : decode cX7_wordKind 50 = .ok (.invokestatic 54, 3) := by decide +kernel
theorem dX7_wordKind_53 : decode cX7_wordKind 53 = .ok (.ifCond .eq 7, 3) := by decide +kernel
theorem dX7_wordKind_56 : decode cX7_wordKind 56 = .ok (.sipush 262, 3) := by decide +kernel
theorem dX7_wordKind_59 : decode cX7_wordKind 59 = .ok (.ireturn, 1) := by decide +kernel
theorem dX7_wordKind_60 : decode cX7_wordKind 60 = .ok (.ldc 64, 2) := by decide +kernel
theorem dX7_wordKind_62 : decode cX7_wordKind 62 = .ok (.aload_n 0, 1) := by decide +kernel
theorem dX7_wordKind_63 : decode cX7_wordKind 63 = .ok (.iload_n 1, 1) := by decide +kernel
theorem dX7_wordKind_64 : decode cX7_wordKind 64 = .ok (.iload_n 2, 1) := by decide +kernel
theorem dX7_wordKind_65 : decode cX7_wordKind 65 = .ok (.invokestatic 54, 3) := by decide +kernel
theorem dX7_wordKind_68 : decode cX7_wordKind 68 = .ok (.ifCond .eq 7, 3) := by decide +kernel
theorem dX7_wordKind_71 : decode cX7_wordKind 71 = .ok (.sipush 263, 3) := by decide +kernel
theorem dX7_wordKind_74 : decode cX7_wordKind 74 = .ok (.ireturn, 1) := by decide +kernel
theorem dX7_wordKind_75 : decode cX7_wordKind 75 = .ok (.ldc 66, 2) := by decide +kernel
theorem dX7_wordKind_77 : decode cX7_wordKind 77 = .ok (.aload_n 0, 1) := by decide +kernel
theorem dX7_wordKind_78 : decode cX7_wordKind 78 = .ok (.iload_n 1, 1) := by decide +kernel
theorem dX7_wordKind_79 : decode cX7_wordKind 79 = .ok (.iload_n 2, 1) := by decide +kernel
theorem dX7_wordKind_80 : decode cX7_wordKind 80 = .ok (.invokestatic 54, 3) := by decide +kernel
theorem dX7_wordKind_83 : decode cX7_wordKind 83 = .ok (.ifCond .eq 7, 3) := by decide +kernel
theorem dX7_wordKind_86 : decode cX7_wordKind 86 = .ok (.sipush 264, 3) := by decide +kernel
theorem dX7_wordKind_89 : decode cX7_wordKind 89 = .ok (.ireturn, 1) := by decide +kernel
theorem dX7_wordKind_90 : decode cX7_wordKind 90 = .ok (.ldc 68, 2) := by decide +kernel
theorem dX7_wordKind_92 : decode cX7_wordKind 92 = .ok (.aload_n 0, 1) := by decide +kernel
theorem dX7_wordKind_93 : decode cX7_wordKind 93 = .ok (.iload_n 1, 1) := by decide +kernel
theorem dX7_wordKind_94 : decode cX7_wordKind 94 = .ok (.iload_n 2, 1) := by decide +kernel
theorem dX7_wordKind_95 : decode cX7_wordKind 95 = .ok (.invokestatic 54, 3) := by decide +kernel
theorem dX7_wordKind_98 : decode cX7_wordKind 98 = .ok (.ifCond .eq 9, 3) := by decide +kernel
theorem dX7_wordKind_101 : decode cX7_wordKind 101 = .ok (.sipush 265, 3) := by decide +kernel
theorem dX7_wordKind_104 : decode cX7_wordKind 104 = .ok (.goto 6, 3) := by decide +kernel
theorem dX7_wordKind_107 : decode cX7_wordKind 107 = .ok (.sipush 257, 3) := by decide +kernel
theorem dX7_wordKind_110 : decode cX7_wordKind 110 = .ok (.ireturn, 1) := by decide +kernel
theorem dX7_isWord_0 : decode cX7_isWord 0 = .ok (.iload_n 3, 1) := by decide +kernel
theorem dX7_isWord_1 : decode cX7_isWord 1 = .ok (.iload_n 2, 1) := by decide +kernel
theorem dX7_isWord_2 : decode cX7_isWord 2 = .ok (.isub, 1) := by decide +kernel
theorem dX7_isWord_3 : decode cX7_isWord 3 = .ok (.aload_n 0, 1) := by decide +kernel
theorem dX7_isWord_4 : decode cX7_isWord 4 = .ok (.invokevirtual 70, 3) := by decide +kernel
theorem dX7_isWord_7 : decode cX7_isWord 7 = .ok (.if_icmp .ne 13, 3) := by decide +kernel
theorem dX7_isWord_10 : decode cX7_isWord 10 = .ok (.iload_n 2, 1) := by decide +kernel
theorem dX7_isWord_11 : decode cX7_isWord 11 = .ok (.ifCond .lt 9, 3) := by decide +kernel
theorem dX7_isWord_14 : decode cX7_isWord 14 = .ok (.iload_n 3, 1) := by decide +kernel
theorem dX7_isWord_15 : decode cX7_isWord 15 = .ok (.aload_n 1, 1) := by decide +kernel
theorem dX7_isWord_16 : decode cX7_isWord 16 = .ok (.arraylength, 1) := by decide +kernel
theorem dX7_isWord_17 : decode cX7_isWord 17 = .ok (.if_icmp .le 5, 3) := by decide +kernel
theorem dX7_isWord_20 : decode cX7_isWord 20 = .ok (.iconst 0, 1) := by decide +kernel
theorem dX7_isWord_21 : decode cX7_isWord 21 = .ok (.ireturn, 1) := by decide +kernel
theorem dX7_isWord_22 : decode cX7_isWord 22 = .ok (.iload_n 2, 1) := by decide +kernel
theorem dX7_isWord_23 : decode cX7_isWord 23 = .ok (.istore 4, 2) := by decide +kernel
theorem dX7_isWord_25 : decode cX7_isWord 25 = .ok (.iload 4, 2) := by decide +kernel
theorem dX7_isWord_27 : decode cX7_isWord 27 = .ok (.iload_n 3, 1) := by decide +kernel
theorem dX7_isWord_28 : decode cX7_isWord 28 = .ok (.if_icmp .ge 26, 3) := by decide +kernel
theorem dX7_isWord_31 : decode cX7_isWord 31 = .ok (.aload_n 1, 1) := by decide +kernel
theorem dX7_isWord_32 : decode cX7_isWord 32 = .ok (.iload 4, 2) := by decide +kernel
theorem dX7_isWord_34 : decode cX7_isWord 34 = .ok (.baload, 1) := by decide +kernel
theorem dX7_isWord_35 : decode cX7_isWord 35 = .ok (.aload_n 0, 1) := by decide +kernel
theorem dX7_isWord_36 : decode cX7_isWord 36 = .ok (.iload 4, 2) := by decide +kernel
theorem dX7_isWord_38 : decode cX7_isWord 38 = .ok (.iload_n 2, 1) := by decide +kernel
theorem dX7_isWord_39 : decode cX7_isWord 39 = .ok (.isub, 1) := by decide +kernel
theorem dX7_isWord_40 : decode cX7_isWord 40 = .ok (.invokevirtual 76, 3) := by decide +kernel
theorem dX7_isWord_43 : decode cX7_isWord 43 = .ok (.if_icmp .eq 5, 3) := by decide +kernel
theorem dX7_isWord_46 : decode cX7_isWord 46 = .ok (.iconst 0, 1) := by decide +kernel
theorem dX7_isWord_47 : decode cX7_isWord 47 = .ok (.ireturn, 1) := by decide +kernel
theorem dX7_isWord_48 : decode cX7_isWord 48 = .ok (.iinc 4 1, 3) := by decide +kernel
theorem dX7_isWord_51 : decode cX7_isWord 51 = .ok (.goto (-26), 3) := by decide +kernel
theorem dX7_isWord_54 : decode cX7_isWord 54 = .ok (.iconst 1, 1) := by decide +kernel
theorem dX7_isWord_55 : decode cX7_isWord 55 = .ok (.ireturn, 1) := by decide +kernel
theorem dX8_houseAt_0 : decode cX8_houseAt 0 = .ok (.iload_n 1, 1) := by decide +kernel
theorem dX8_houseAt_1 : decode cX8_houseAt 1 = .ok (.ifCond .lt 26, 3) := by decide +kernel
theorem dX8_houseAt_4 : decode cX8_houseAt 4 = .ok (.iload_n 1, 1) := by decide +kernel
theorem dX8_houseAt_5 : decode cX8_houseAt 5 = .ok (.aload_n 0, 1) := by decide +kernel
theorem dX8_houseAt_6 : decode cX8_houseAt 6 = .ok (.getfield 19, 3) := by decide +kernel
theorem dX8_houseAt_9 : decode cX8_houseAt 9 = .ok (.if_icmp .ge 18, 3) := by decide +kernel
theorem dX8_houseAt_12 : decode cX8_houseAt 12 = .ok (.iload_n 1, 1) := by decide +kernel
theorem dX8_houseAt_13 : decode cX8_houseAt 13 = .ok (.bipush 20, 2) := by decide +kernel
theorem dX8_houseAt_15 : decode cX8_houseAt 15 = .ok (.if_icmp .ge 12, 3) := by decide +kernel
theorem dX8_houseAt_18 : decode cX8_houseAt 18 = .ok (.aload_n 0, 1) := by decide +kernel
theorem dX8_houseAt_19 : decode cX8_houseAt 19 = .ok (.getfield 9, 3) := by decide +kernel
theorem dX8_houseAt_22 : decode cX8_houseAt 22 = .ok (.iload_n 1, 1) := by decide +kernel
theorem dX8_houseAt_23 : decode cX8_houseAt 23 = .ok (.iaload, 1) := by decide +kernel
theorem dX8_houseAt_24 : decode cX8_houseAt 24 = .ok (.goto 4, 3) := by decide +kernel
theorem dX8_houseAt_27 : decode cX8_houseAt 27 = .ok (.iconst (-1), 1) := by decide +kernel
theorem dX8_houseAt_28 : decode cX8_houseAt 28 = .ok (.ireturn, 1) := by decide +kernel
theorem dX8_goRound_0 : decode cX8_goRound 0 = .ok (.iconst 2, 1) := by decide +kernel
theorem dX8_goRound_1 : decode cX8_goRound 1 = .ok (.iload_n 3, 1) := by decide +kernel
theorem dX8_goRound_2 : decode cX8_goRound 2 = .ok (.imul, 1) := by decide +kernel
theorem dX8_goRound_3 : decode cX8_goRound 3 = .ok (.aload_n 0, 1) := by decide +kernel
theorem dX8_goRound_4 : decode cX8_goRound 4 = .ok (.getfield 23, 3) := by decide +kernel
theorem dX8_goRound_7 : decode cX8_goRound 7 = .ok (.iadd, 1) := by decide +kernel
theorem dX8_goRound_8 : decode cX8_goRound 8 = .ok (.istore 4, 2) := by decide +kernel
theorem dX8_goRound_10 : decode cX8_goRound 10 = .ok (.iload_n 2, 1) := by decide +kernel
theorem dX8_goRound_11 : decode cX8_goRound 11 = .ok (.istore 5, 2) := by decide +kernel
theorem dX8_goRound_13 : decode cX8_goRound 13 = .ok (.aload_n 0, 1) := by decide +kernel
theorem dX8_goRound_14 : decode cX8_goRound 14 = .ok (.dup, 1) := by decide +kernel
theorem dX8_goRound_15 : decode cX8_goRound 15 = .ok (.getfield 23, 3) := by decide +kernel
theorem dX8_goRound_18 : decode cX8_goRound 18 = .ok (.iconst 1, 1) := by decide +kernel
theorem dX8_goRound_19 : decode cX8_goRound 19 = .ok (.iadd, 1) := by decide +kernel
theorem dX8_goRound_20 : decode cX8_goRound 20 = .ok (.putfield 23, 3) := by decide +kernel
theorem dX8_goRound_23 : decode cX8_goRound 23 = .ok (.aload_n 0, 1) := by decide +kernel
theorem dX8_goRound_24 : decode cX8_goRound 24 = .ok (.iconst 0, 1) := by decide +kernel
theorem dX8_goRound_25 : decode cX8_goRound 25 = .ok (.putfield 19, 3) := by decide +kernel
theorem dX8_goRound_28 : decode cX8_goRound 28 = .ok (.iconst 0, 1) := by decide +kernel
theorem dX8_goRound_29 : decode cX8_goRound 29 = .ok (.istore 6, 2) := by decide +kernel
theorem dX8_goRound_31 : decode cX8_goRound 31 = .ok (.iload 6, 2) := by decide +kernel
theorem dX8_goRound_33 : decode cX8_goRound 33 = .ok (.bipush 20, 2) := by decide +kernel
theorem dX8_goRound_35 : decode cX8_goRound 35 = .ok (.if_icmp .ge 17, 3) := by decide +kernel
theorem dX8_goRound_38 : decode cX8_goRound 38 = .ok (.aload_n 0, 1) := by decide +kernel
theorem dX8_goRound_39 : decode cX8_goRound 39 = .ok (.getfield 15, 3) := by decide +kernel
theorem dX8_goRound_42 : decode cX8_goRound 42 = .ok (.iload 6, 2) := by decide +kernel
theorem dX8_goRound_44 : decode cX8_goRound 44 = .ok (.iconst 0, 1) := by decide +kernel
theorem dX8_goRound_45 : decode cX8_goRound 45 = .ok (.bastore, 1) := by decide +kernel
theorem dX8_goRound_46 : decode cX8_goRound 46 = .ok (.iinc 6 1, 3) := by decide +kernel
theorem dX8_goRound_49 : decode cX8_goRound 49 = .ok (.goto (-18), 3) := by decide +kernel
theorem dX8_goRound_52 : decode cX8_goRound 52 = .ok (.iconst 0, 1) := by decide +kernel
theorem dX8_goRound_53 : decode cX8_goRound 53 = .ok (.istore 6, 2) := by decide +kernel
theorem dX8_goRound_55 : decode cX8_goRound 55 = .ok (.iload 6, 2) := by decide +kernel
theorem dX8_goRound_57 : decode cX8_goRound 57 = .ok (.aload_n 1, 1) := by decide +kernel
theorem dX8_goRound_58 : decode cX8_goRound 58 = .ok (.invokevirtual 26, 3) := by decide +kernel
theorem dX8_goRound_61 : decode cX8_goRound 61 = .ok (.if_icmp .ge 78, 3) := by decide +kernel
theorem dX8_goRound_64 : decode cX8_goRound 64 = .ok (.aload_n 1, 1) := by decide +kernel
theorem dX8_goRound_65 : decode cX8_goRound 65 = .ok (.iload 6, 2) := by decide +kernel
theorem dX8_goRound_67 : decode cX8_goRound 67 = .ok (.invokevirtual 32, 3) := by decide +kernel
theorem dX8_goRound_70 : decode cX8_goRound 70 = .ok (.checkcast 36, 3) := by decide +kernel
theorem dX8_goRound_73 : decode cX8_goRound 73 = .ok (.astore 7, 2) := by decide +kernel
theorem dX8_goRound_75 : decode cX8_goRound 75 = .ok (.aload 7, 2) := by decide +kernel
theorem dX8_goRound_77 : decode cX8_goRound 77 = .ok (.invokevirtual 38, 3) := by decide +kernel
theorem dX8_goRound_80 : decode cX8_goRound 80 = .ok (.ifCond .eq 53, 3) := by decide +kernel
theorem dX8_goRound_83 : decode cX8_goRound 83 = .ok (.aload_n 0, 1) := by decide +kernel
theorem dX8_goRound_84 : decode cX8_goRound 84 = .ok (.aload 7, 2) := by decide +kernel
theorem dX8_goRound_86 : decode cX8_goRound 86 = .ok (.getfield 42, 3) := by decide +kernel
theorem dX8_goRound_89 : decode cX8_goRound 89 = .ok (.invokevirtual 45, 3) := by decide +kernel
theorem dX8_goRound_92 : decode cX8_goRound 92 = .ok (.ifCond .eq 41, 3) := by decide +kernel
theorem dX8_goRound_95 : decode cX8_goRound 95 = .ok (.aload_n 0, 1) := by decide +kernel
theorem dX8_goRound_96 : decode cX8_goRound 96 = .ok (.aload_n 1, 1) := by decide +kernel
theorem dX8_goRound_97 : decode cX8_goRound 97 = .ok (.aload 7, 2) := by decide +kernel
theorem dX8_goRound_99 : decode cX8_goRound 99 = .ok (.getfield 42, 3) := by decide +kernel
theorem dX8_goRound_102 : decode cX8_goRound 102 = .ok (.invokevirtual 49, 3) := by decide +kernel
theorem dX8_goRound_105 : decode cX8_goRound 105 = .ok (.istore 8, 2) := by decide +kernel
theorem dX8_goRound_107 : decode cX8_goRound 107 = .ok (.iload 8, 2) := by decide +kernel
theorem dX8_goRound_109 : decode cX8_goRound 109 = .ok (.iload 5, 2) := by decide +kernel
theorem dX8_goRound_111 : decode cX8_goRound 111 = .ok (.if_icmp .gt 22, 3) := by decide +kernel
theorem dX8_goRound_114 : decode cX8_goRound 114 = .ok (.iload 5, 2) := by decide +kernel
theorem dX8_goRound_116 : decode cX8_goRound 116 = .ok (.iload 8, 2) := by decide +kernel
theorem dX8_goRound_118 : decode cX8_goRound 118 = .ok (.isub, 1) := by decide +kernel
theorem dX8_goRound_119 : decode cX8_goRound 119 = .ok (.istore 5, 2) := by decide +kernel
theorem dX8_goRound_121 : decode cX8_goRound 121 = .ok (.aload_n 0, 1) := by decide +kernel
theorem dX8_goRound_122 : decode cX8_goRound 122 = .ok (.aload_n 1, 1) := by decide +kernel
theorem dX8_goRound_123 : decode cX8_goRound 123 = .ok (.aload 7, 2) := by decide +kernel
theorem dX8_goRound_125 : decode cX8_goRound 125 = .ok (.getfield 42, 3) := by decide +kernel
theorem dX8_goRound_128 : decode cX8_goRound 128 = .ok (.iload 4, 2) := by decide +kernel
theorem dX8_goRound_130 : decode cX8_goRound 130 = .ok (.invokevirtual 53, 3) := by decide +kernel
theorem dX8_goRound_133 : decode cX8_goRound 133 = .ok (.iinc 6 1, 3) := by decide +kernel
theorem dX8_goRound_136 : decode cX8_goRound 136 = .ok (.goto (-81), 3) := by decide +kernel
theorem dX8_goRound_139 : decode cX8_goRound 139 = .ok (.iload_n 2, 1) := by decide +kernel
theorem dX8_goRound_140 : decode cX8_goRound 140 = .ok (.iload 5, 2) := by decide +kernel
theorem dX8_goRound_142 : decode cX8_goRound 142 = .ok (.isub, 1) := by decide +kernel
theorem dX8_goRound_143 : decode cX8_goRound 143 = .ok (.ireturn, 1) := by decide +kernel
theorem dX8_askOnce_0 : decode cX8_askOnce 0 = .ok (.iload_n 1, 1) := by decide +kernel
theorem dX8_askOnce_1 : decode cX8_askOnce 1 = .ok (.ifCond .lt 18, 3) := by decide +kernel
theorem dX8_askOnce_4 : decode cX8_askOnce 4 = .ok (.iload_n 1, 1) := by decide +kernel
theorem dX8_askOnce_5 : decode cX8_askOnce 5 = .ok (.bipush 20, 2) := by decide +kernel
theorem dX8_askOnce_7 : decode cX8_askOnce 7 = .ok (.if_icmp .ge 12, 3) := by decide +kernel
theorem dX8_askOnce_10 : decode cX8_askOnce 10 = .ok (.aload_n 0, 1) := by decide +kernel
theorem dX8_askOnce_11 : decode cX8_askOnce 11 = .ok (.getfield 15, 3) := by decide +kernel
theorem dX8_askOnce_14 : decode cX8_askOnce 14 = .ok (.iload_n 1, 1) := by decide +kernel
theorem dX8_askOnce_15 : decode cX8_askOnce 15 = .ok (.baload, 1) := by decide +kernel
theorem dX8_askOnce_16 : decode cX8_askOnce 16 = .ok (.ifCond .eq 5, 3) := by decide +kernel
theorem dX8_askOnce_19 : decode cX8_askOnce 19 = .ok (.iconst 0, 1) := by decide +kernel
theorem dX8_askOnce_20 : decode cX8_askOnce 20 = .ok (.ireturn, 1) := by decide +kernel
theorem dX8_askOnce_21 : decode cX8_askOnce 21 = .ok (.aload_n 0, 1) := by decide +kernel
theorem dX8_askOnce_22 : decode cX8_askOnce 22 = .ok (.getfield 15, 3) := by decide +kernel
theorem dX8_askOnce_25 : decode cX8_askOnce 25 = .ok (.iload_n 1, 1) := by decide +kernel
theorem dX8_askOnce_26 : decode cX8_askOnce 26 = .ok (.iconst 1, 1) := by decide +kernel
theorem dX8_askOnce_27 : decode cX8_askOnce 27 = .ok (.bastore, 1) := by decide +kernel
theorem dX8_askOnce_28 : decode cX8_askOnce 28 = .ok (.iconst 1, 1) := by decide +kernel
theorem dX8_askOnce_29 : decode cX8_askOnce 29 = .ok (.ireturn, 1) := by decide +kernel
theorem dX8_piecesFor_0 : decode cX8_piecesFor 0 = .ok (.iconst 0, 1) := by decide +kernel
theorem dX8_piecesFor_1 : decode cX8_piecesFor 1 = .ok (.istore_n 3, 1) := by decide +kernel
theorem dX8_piecesFor_2 : decode cX8_piecesFor 2 = .ok (.iconst 0, 1) := by decide +kernel
theorem dX8_piecesFor_3 : decode cX8_piecesFor 3 = .ok (.istore 4, 2) := by decide +kernel
theorem dX8_piecesFor_5 : decode cX8_piecesFor 5 = .ok (.iload 4, 2) := by decide +kernel
theorem dX8_piecesFor_7 : decode cX8_piecesFor 7 = .ok (.aload_n 1, 1) := by decide +kernel
theorem dX8_piecesFor_8 : decode cX8_piecesFor 8 = .ok (.invokevirtual 26, 3) := by decide +kernel
theorem dX8_piecesFor_11 : decode cX8_piecesFor 11 = .ok (.if_icmp .ge 45, 3) := by decide +kernel
theorem dX8_piecesFor_14 : decode cX8_piecesFor 14 = .ok (.aload_n 1, 1) := by decide +kernel
theorem dX8_piecesFor_15 : decode cX8_piecesFor 15 = .ok (.iload 4, 2) := by decide +kernel
theorem dX8_piecesFor_17 : decode cX8_piecesFor 17 = .ok (.invokevirtual 32, 3) := by decide +kernel
theorem dX8_piecesFor_20 : decode cX8_piecesFor 20 = .ok (.checkcast 36, 3) := by decide +kernel
theorem dX8_piecesFor_23 : decode cX8_piecesFor 23 = .ok (.astore 5, 2) := by decide +kernel
theorem dX8_piecesFor_25 : decode cX8_piecesFor 25 = .ok (.aload 5, 2) := by decide +kernel
theorem dX8_piecesFor_27 : decode cX8_piecesFor 27 = .ok (.getfield 42, 3) := by decide +kernel
theorem dX8_piecesFor_30 : decode cX8_piecesFor 30 = .ok (.iload_n 2, 1) := by decide +kernel
theorem dX8_piecesFor_31 : decode cX8_piecesFor 31 = .ok (.if_icmp .ne 19, 3) := by decide +kernel
theorem dX8_piecesFor_34 : decode cX8_piecesFor 34 = .ok (.aload 5, 2) := by decide +kernel
theorem dX8_piecesFor_36 : decode cX8_piecesFor 36 = .ok (.invokevirtual 38, 3) := by decide +kernel
theorem dX8_piecesFor_39 : decode cX8_piecesFor 39 = .ok (.ifCond .eq 11, 3) := by decide +kernel
theorem dX8_piecesFor_42 : decode cX8_piecesFor 42 = .ok (.iload_n 3, 1) := by decide +kernel
theorem dX8_piecesFor_43 : decode cX8_piecesFor 43 = .ok (.aload 5, 2) := by decide +kernel
theorem dX8_piecesFor_45 : decode cX8_piecesFor 45 = .ok (.getfield 57, 3) := by decide +kernel
theorem dX8_piecesFor_48 : decode cX8_piecesFor 48 = .ok (.iadd, 1) := by decide +kernel
theorem dX8_piecesFor_49 : decode cX8_piecesFor 49 = .ok (.istore_n 3, 1) := by decide +kernel
theorem dX8_piecesFor_50 : decode cX8_piecesFor 50 = .ok (.iinc 4 1, 3) := by decide +kernel
theorem dX8_piecesFor_53 : decode cX8_piecesFor 53 = .ok (.goto (-48), 3) := by decide +kernel
theorem dX8_piecesFor_56 : decode cX8_piecesFor 56 = .ok (.iload_n 3, 1) := by decide +kernel
theorem dX8_piecesFor_57 : decode cX8_piecesFor 57 = .ok (.ireturn, 1) := by decide +kernel
theorem dX8_take_0 : decode cX8_take 0 = .ok (.aload_n 0, 1) := by decide +kernel
theorem dX8_take_1 : decode cX8_take 1 = .ok (.getfield 19, 3) := by decide +kernel
theorem dX8_take_4 : decode cX8_take 4 = .ok (.bipush 20, 2) := by decide +kernel
theorem dX8_take_6 : decode cX8_take 6 = .ok (.if_icmp .ge 23, 3) := by decide +kernel
theorem dX8_take_9 : decode cX8_take 9 = .ok (.aload_n 0, 1) := by decide +kernel
theorem dX8_take_10 : decode cX8_take 10 = .ok (.getfield 9, 3) := by decide +kernel
theorem dX8_take_13 : decode cX8_take 13 = .ok (.aload_n 0, 1) := by decide +kernel
theorem dX8_take_14 : decode cX8_take 14 = .ok (.getfield 19, 3) := by decide +kernel
theorem dX8_take_17 : decode cX8_take 17 = .ok (.iload_n 2, 1) := by decide +kernel
theorem dX8_take_18 : decode cX8_take 18 = .ok (.iastore, 1) := by decide +kernel
theorem dX8_take_19 : decode cX8_take 19 = .ok (.aload_n 0, 1) := by decide +kernel
theorem dX8_take_20 : decode cX8_take 20 = .ok (.dup, 1) := by decide +kernel
theorem dX8_take_21 : decode cX8_take 21 = .ok (.getfield 19, 3) := by decide +kernel
theorem dX8_take_24 : decode cX8_take 24 = .ok (.iconst 1, 1) := by decide +kernel
theorem dX8_take_25 : decode cX8_take 25 = .ok (.iadd, 1) := by decide +kernel
theorem dX8_take_26 : decode cX8_take 26 = .ok (.putfield 19, 3) := by decide +kernel
theorem dX8_take_29 : decode cX8_take 29 = .ok (.iconst 0, 1) := by decide +kernel
theorem dX8_take_30 : decode cX8_take 30 = .ok (.istore 4, 2) := by decide +kernel
theorem dX8_take_32 : decode cX8_take 32 = .ok (.iload 4, 2) := by decide +kernel
theorem dX8_take_34 : decode cX8_take 34 = .ok (.aload_n 1, 1) := by decide +kernel
theorem dX8_take_35 : decode cX8_take 35 = .ok (.invokevirtual 26, 3) := by decide +kernel
theorem dX8_take_38 : decode cX8_take 38 = .ok (.if_icmp .ge 43, 3) := by decide +kernel
theorem dX8_take_41 : decode cX8_take 41 = .ok (.aload_n 1, 1) := by decide +kernel
theorem dX8_take_42 : decode cX8_take 42 = .ok (.iload 4, 2) := by decide +kernel
theorem dX8_take_44 : decode cX8_take 44 = .ok (.invokevirtual 32, 3) := by decide +kernel
theorem dX8_take_47 : decode cX8_take 47 = .ok (.checkcast 36, 3) := by decide +kernel
theorem dX8_take_50 : decode cX8_take 50 = .ok (.astore 5, 2) := by decide +kernel
theorem dX8_take_52 : decode cX8_take 52 = .ok (.aload 5, 2) := by decide +kernel
theorem dX8_take_54 : decode cX8_take 54 = .ok (.getfield 42, 3) := by decide +kernel
theorem dX8_take_57 : decode cX8_take 57 = .ok (.iload_n 2, 1) := by decide +kernel
theorem dX8_take_58 : decode cX8_take 58 = .ok (.if_icmp .ne 17, 3) := by decide +kernel
theorem dX8_take_61 : decode cX8_take 61 = .ok (.aload 5, 2) := by decide +kernel
theorem dX8_take_63 : decode cX8_take 63 = .ok (.invokevirtual 38, 3) := by decide +kernel
theorem dX8_take_66 : decode cX8_take 66 = .ok (.ifCond .eq 9, 3) := by decide +kernel
theorem dX8_take_69 : decode cX8_take 69 = .ok (.aload 5, 2) := by decide +kernel
theorem dX8_take_71 : decode cX8_take 71 = .ok (.iload_n 3, 1) := by decide +kernel
theorem dX8_take_72 : decode cX8_take 72 = .ok (.putfield 60, 3) := by decide +kernel
theorem dX8_take_75 : decode cX8_take 75 = .ok (.iinc 4 1, 3) := by decide +kernel
theorem dX8_take_78 : decode cX8_take 78 = .ok (.goto (-46), 3) := by decide +kernel
theorem dX8_take_81 : decode cX8_take 81 = .ok (.return_, 1) := by decide +kernel
theorem dX9_thing_0 : decode cX9_thing 0 = .ok (.aload_n 0, 1) := by decide +kernel
theorem dX9_thing_1 : decode cX9_thing 1 = .ok (.getfield 12, 3) := by decide +kernel
theorem dX9_thing_4 : decode cX9_thing 4 = .ok (.invokevirtual 77, 3) := by decide +kernel
theorem dX9_thing_7 : decode cX9_thing 7 = .ok (.bipush 12, 2) := by decide +kernel
theorem dX9_thing_9 : decode cX9_thing 9 = .ok (.if_icmp .ge 21, 3) := by decide +kernel
theorem dX9_thing_12 : decode cX9_thing 12 = .ok (.iload_n 1, 1) := by decide +kernel
theorem dX9_thing_13 : decode cX9_thing 13 = .ok (.invokestatic 81, 3) := by decide +kernel
theorem dX9_thing_16 : decode cX9_thing 16 = .ok (.ifCond .eq 14, 3) := by decide +kernel
theorem dX9_thing_19 : decode cX9_thing 19 = .ok (.iload_n 2, 1) := by decide +kernel
theorem dX9_thing_20 : decode cX9_thing 20 = .ok (.iconst 0, 1) := by decide +kernel
theorem dX9_thing_21 : decode cX9_thing 21 = .ok (.sipush 999, 3) := by decide +kernel
theorem dX9_thing_24 : decode cX9_thing 24 = .ok (.invokestatic 85, 3) := by decide +kernel
theorem dX9_thing_27 : decode cX9_thing 27 = .ok (.ifCond .ne 5, 3) := by decide +kernel
theorem dX9_thing_30 : decode cX9_thing 30 = .ok (.iconst (-1), 1) := by decide +kernel
theorem dX9_thing_31 : decode cX9_thing 31 = .ok (.ireturn, 1) := by decide +kernel
theorem dX9_thing_32 : decode cX9_thing 32 = .ok (.aload_n 0, 1) := by decide +kernel
theorem dX9_thing_33 : decode cX9_thing 33 = .ok (.getfield 12, 3) := by decide +kernel
theorem dX9_thing_36 : decode cX9_thing 36 = .ok (.new 89, 3) := by decide +kernel
theorem dX9_thing_39 : decode cX9_thing 39 = .ok (.dup, 1) := by decide +kernel
theorem dX9_thing_40 : decode cX9_thing 40 = .ok (.aload_n 0, 1) := by decide +kernel
theorem dX9_thing_41 : decode cX9_thing 41 = .ok (.getfield 73, 3) := by decide +kernel
theorem dX9_thing_44 : decode cX9_thing 44 = .ok (.iload_n 1, 1) := by decide +kernel
theorem dX9_thing_45 : decode cX9_thing 45 = .ok (.iload_n 2, 1) := by decide +kernel
theorem dX9_thing_46 : decode cX9_thing 46 = .ok (.invokespecial 91, 3) := by decide +kernel
theorem dX9_thing_49 : decode cX9_thing 49 = .ok (.invokevirtual 94, 3) := by decide +kernel
theorem dX9_thing_52 : decode cX9_thing 52 = .ok (.pop, 1) := by decide +kernel
theorem dX9_thing_53 : decode cX9_thing 53 = .ok (.aload_n 0, 1) := by decide +kernel
theorem dX9_thing_54 : decode cX9_thing 54 = .ok (.getfield 12, 3) := by decide +kernel
theorem dX9_thing_57 : decode cX9_thing 57 = .ok (.invokevirtual 77, 3) := by decide +kernel
theorem dX9_thing_60 : decode cX9_thing 60 = .ok (.iconst 1, 1) := by decide +kernel
theorem dX9_thing_61 : decode cX9_thing 61 = .ok (.isub, 1) := by decide +kernel
theorem dX9_thing_62 : decode cX9_thing 62 = .ok (.ireturn, 1) := by decide +kernel
theorem dX9_tag_0 : decode cX9_tag 0 = .ok (.aload_n 0, 1) := by decide +kernel
theorem dX9_tag_1 : decode cX9_tag 1 = .ok (.iload_n 1, 1) := by decide +kernel
theorem dX9_tag_2 : decode cX9_tag 2 = .ok (.invokevirtual 98, 3) := by decide +kernel
theorem dX9_tag_5 : decode cX9_tag 5 = .ok (.astore_n 3, 1) := by decide +kernel
theorem dX9_tag_6 : decode cX9_tag 6 = .ok (.aload_n 3, 1) := by decide +kernel
theorem dX9_tag_7 : decode cX9_tag 7 = .ok (.ifnull 10, 3) := by decide +kernel
theorem dX9_tag_10 : decode cX9_tag 10 = .ok (.iload_n 2, 1) := by decide +kernel
theorem dX9_tag_11 : decode cX9_tag 11 = .ok (.invokestatic 81, 3) := by decide +kernel
theorem dX9_tag_14 : decode cX9_tag 14 = .ok (.ifCond .ne 5, 3) := by decide +kernel
theorem dX9_tag_17 : decode cX9_tag 17 = .ok (.iconst (-1), 1) := by decide +kernel
theorem dX9_tag_18 : decode cX9_tag 18 = .ok (.ireturn, 1) := by decide +kernel
theorem dX9_tag_19 : decode cX9_tag 19 = .ok (.aload_n 3, 1) := by decide +kernel
theorem dX9_tag_20 : decode cX9_tag 20 = .ok (.aload_n 0, 1) := by decide +kernel
theorem dX9_tag_21 : decode cX9_tag 21 = .ok (.getfield 73, 3) := by decide +kernel
theorem dX9_tag_24 : decode cX9_tag 24 = .ok (.iload_n 2, 1) := by decide +kernel
theorem dX9_tag_25 : decode cX9_tag 25 = .ok (.invokevirtual 102, 3) := by decide +kernel
theorem dX9_tag_28 : decode cX9_tag 28 = .ok (.ireturn, 1) := by decide +kernel
theorem dX9_of_0 : decode cX9_of 0 = .ok (.aload_n 0, 1) := by decide +kernel
theorem dX9_of_1 : decode cX9_of 1 = .ok (.iload_n 1, 1) := by decide +kernel
theorem dX9_of_2 : decode cX9_of 2 = .ok (.invokevirtual 98, 3) := by decide +kernel
theorem dX9_of_5 : decode cX9_of 5 = .ok (.astore_n 3, 1) := by decide +kernel
theorem dX9_of_6 : decode cX9_of 6 = .ok (.aload_n 3, 1) := by decide +kernel
theorem dX9_of_7 : decode cX9_of 7 = .ok (.ifnonnull 5, 3) := by decide +kernel
theorem dX9_of_10 : decode cX9_of 10 = .ok (.iconst (-1), 1) := by decide +kernel
theorem dX9_of_11 : decode cX9_of 11 = .ok (.ireturn, 1) := by decide +kernel
theorem dX9_of_12 : decode cX9_of 12 = .ok (.iload_n 2, 1) := by decide +kernel
theorem dX9_of_13 : decode cX9_of 13 = .ok (.sipush 1000, 3) := by decide +kernel
theorem dX9_of_16 : decode cX9_of 16 = .ok (.if_icmp .lt 30, 3) := by decide +kernel
theorem dX9_of_19 : decode cX9_of 19 = .ok (.iload_n 2, 1) := by decide +kernel
theorem dX9_of_20 : decode cX9_of 20 = .ok (.sipush 1000, 3) := by decide +kernel
theorem dX9_of_23 : decode cX9_of 23 = .ok (.isub, 1) := by decide +kernel
theorem dX9_of_24 : decode cX9_of 24 = .ok (.istore 4, 2) := by decide +kernel
theorem dX9_of_26 : decode cX9_of 26 = .ok (.iload 4, 2) := by decide +kernel
theorem dX9_of_28 : decode cX9_of 28 = .ok (.aload_n 0, 1) := by decide +kernel
theorem dX9_of_29 : decode cX9_of 29 = .ok (.getfield 73, 3) := by decide +kernel
theorem dX9_of_32 : decode cX9_of 32 = .ok (.if_icmp .gt 12, 3) := by decide +kernel
theorem dX9_of_35 : decode cX9_of 35 = .ok (.aload_n 3, 1) := by decide +kernel
theorem dX9_of_36 : decode cX9_of 36 = .ok (.iload 4, 2) := by decide +kernel
theorem dX9_of_38 : decode cX9_of 38 = .ok (.invokevirtual 106, 3) := by decide +kernel
theorem dX9_of_41 : decode cX9_of 41 = .ok (.goto 4, 3) := by decide +kernel
theorem dX9_of_44 : decode cX9_of 44 = .ok (.iconst (-1), 1) := by decide +kernel
theorem dX9_of_45 : decode cX9_of 45 = .ok (.ireturn, 1) := by decide +kernel
theorem dX9_of_46 : decode cX9_of 46 = .ok (.iload_n 2, 1) := by decide +kernel
theorem dX9_of_47 : decode cX9_of 47 = .ok (.tableswitch 53 0 3 #[29, 38, 43, 48], 29) := by decide +kernel
theorem dX9_of_76 : decode cX9_of 76 = .ok (.aload_n 3, 1) := by decide +kernel
theorem dX9_of_77 : decode cX9_of 77 = .ok (.aload_n 0, 1) := by decide +kernel
theorem dX9_of_78 : decode cX9_of 78 = .ok (.getfield 73, 3) := by decide +kernel
theorem dX9_of_81 : decode cX9_of 81 = .ok (.invokevirtual 106, 3) := by decide +kernel
theorem dX9_of_84 : decode cX9_of 84 = .ok (.ireturn, 1) := by decide +kernel
theorem dX9_of_85 : decode cX9_of 85 = .ok (.aload_n 3, 1) := by decide +kernel
theorem dX9_of_86 : decode cX9_of 86 = .ok (.getfield 110, 3) := by decide +kernel
theorem dX9_of_89 : decode cX9_of 89 = .ok (.ireturn, 1) := by decide +kernel
theorem dX9_of_90 : decode cX9_of 90 = .ok (.aload_n 3, 1) := by decide +kernel
theorem dX9_of_91 : decode cX9_of 91 = .ok (.getfield 113, 3) := by decide +kernel
theorem dX9_of_94 : decode cX9_of 94 = .ok (.ireturn, 1) := by decide +kernel
theorem dX9_of_95 : decode cX9_of 95 = .ok (.aload_n 3, 1) := by decide +kernel
theorem dX9_of_96 : decode cX9_of 96 = .ok (.getfield 116, 3) := by decide +kernel
theorem dX9_of_99 : decode cX9_of 99 = .ok (.ireturn, 1) := by decide +kernel
theorem dX9_of_100 : decode cX9_of 100 = .ok (.iconst (-1), 1) := by decide +kernel
theorem dX9_of_101 : decode cX9_of 101 = .ok (.ireturn, 1) := by decide +kernel
theorem dX9_next_0 : decode cX9_next 0 = .ok (.aload_n 0, 1) := by decide +kernel
theorem dX9_next_1 : decode cX9_next 1 = .ok (.getfield 73, 3) := by decide +kernel
theorem dX9_next_4 : decode cX9_next 4 = .ok (.sipush 363, 3) := by decide +kernel
theorem dX9_next_7 : decode cX9_next 7 = .ok (.if_icmp .lt 5, 3) := by decide +kernel
theorem dX9_next_10 : decode cX9_next 10 = .ok (.iconst (-1), 1) := by decide +kernel
theorem dX9_next_11 : decode cX9_next 11 = .ok (.ireturn, 1) := by decide +kernel
theorem dX9_next_12 : decode cX9_next 12 = .ok (.aload_n 0, 1) := by decide +kernel
theorem dX9_next_13 : decode cX9_next 13 = .ok (.dup, 1) := by decide +kernel
theorem dX9_next_14 : decode cX9_next 14 = .ok (.getfield 73, 3) := by decide +kernel
theorem dX9_next_17 : decode cX9_next 17 = .ok (.iconst 1, 1) := by decide +kernel
theorem dX9_next_18 : decode cX9_next 18 = .ok (.iadd, 1) := by decide +kernel
theorem dX9_next_19 : decode cX9_next 19 = .ok (.putfield 73, 3) := by decide +kernel
theorem dX9_next_22 : decode cX9_next 22 = .ok (.iconst 0, 1) := by decide +kernel
theorem dX9_next_23 : decode cX9_next 23 = .ok (.istore_n 1, 1) := by decide +kernel
theorem dX9_next_24 : decode cX9_next 24 = .ok (.iload_n 1, 1) := by decide +kernel
theorem dX9_next_25 : decode cX9_next 25 = .ok (.aload_n 0, 1) := by decide +kernel
theorem dX9_next_26 : decode cX9_next 26 = .ok (.getfield 12, 3) := by decide +kernel
theorem dX9_next_29 : decode cX9_next 29 = .ok (.invokevirtual 77, 3) := by decide +kernel
theorem dX9_next_32 : decode cX9_next 32 = .ok (.if_icmp .ge 27, 3) := by decide +kernel
theorem dX9_next_35 : decode cX9_next 35 = .ok (.aload_n 0, 1) := by decide +kernel
theorem dX9_next_36 : decode cX9_next 36 = .ok (.getfield 12, 3) := by decide +kernel
theorem dX9_next_39 : decode cX9_next 39 = .ok (.iload_n 1, 1) := by decide +kernel
theorem dX9_next_40 : decode cX9_next 40 = .ok (.invokevirtual 119, 3) := by decide +kernel
theorem dX9_next_43 : decode cX9_next 43 = .ok (.checkcast 89, 3) := by decide +kernel
theorem dX9_next_46 : decode cX9_next 46 = .ok (.aload_n 0, 1) := by decide +kernel
theorem dX9_next_47 : decode cX9_next 47 = .ok (.getfield 73, 3) := by decide +kernel
theorem dX9_next_50 : decode cX9_next 50 = .ok (.invokevirtual 123, 3) := by decide +kernel
theorem dX9_next_53 : decode cX9_next 53 = .ok (.iinc 1 1, 3) := by decide +kernel
theorem dX9_next_56 : decode cX9_next 56 = .ok (.goto (-32), 3) := by decide +kernel
theorem dX9_next_59 : decode cX9_next 59 = .ok (.iconst 0, 1) := by decide +kernel
theorem dX9_next_60 : decode cX9_next 60 = .ok (.istore_n 1, 1) := by decide +kernel
theorem dX9_next_61 : decode cX9_next 61 = .ok (.iload_n 1, 1) := by decide +kernel
theorem dX9_next_62 : decode cX9_next 62 = .ok (.aload_n 0, 1) := by decide +kernel
theorem dX9_next_63 : decode cX9_next 63 = .ok (.getfield 16, 3) := by decide +kernel
theorem dX9_next_66 : decode cX9_next 66 = .ok (.invokevirtual 77, 3) := by decide +kernel
theorem dX9_next_69 : decode cX9_next 69 = .ok (.if_icmp .ge 27, 3) := by decide +kernel
theorem dX9_next_72 : decode cX9_next 72 = .ok (.aload_n 0, 1) := by decide +kernel
theorem dX9_next_73 : decode cX9_next 73 = .ok (.getfield 16, 3) := by decide +kernel
theorem dX9_next_76 : decode cX9_next 76 = .ok (.iload_n 1, 1) := by decide +kernel
theorem dX9_next_77 : decode cX9_next 77 = .ok (.invokevirtual 119, 3) := by decide +kernel
theorem dX9_next_80 : decode cX9_next 80 = .ok (.checkcast 127, 3) := by decide +kernel
theorem dX9_next_83 : decode cX9_next 83 = .ok (.aload_n 0, 1) := by decide +kernel
theorem dX9_next_84 : decode cX9_next 84 = .ok (.getfield 73, 3) := by decide +kernel
theorem dX9_next_87 : decode cX9_next 87 = .ok (.invokevirtual 129, 3) := by decide +kernel
theorem dX9_next_90 : decode cX9_next 90 = .ok (.iinc 1 1, 3) := by decide +kernel
theorem dX9_next_93 : decode cX9_next 93 = .ok (.goto (-32), 3) := by decide +kernel
theorem dX9_next_96 : decode cX9_next 96 = .ok (.aload_n 0, 1) := by decide +kernel
theorem dX9_next_97 : decode cX9_next 97 = .ok (.getfield 22, 3) := by decide +kernel
theorem dX9_next_100 : decode cX9_next 100 = .ok (.iconst 0, 1) := by decide +kernel
theorem dX9_next_101 : decode cX9_next 101 = .ok (.putfield 132, 3) := by decide +kernel
theorem dX9_next_104 : decode cX9_next 104 = .ok (.aload_n 0, 1) := by decide +kernel
theorem dX9_next_105 : decode cX9_next 105 = .ok (.getfield 73, 3) := by decide +kernel
theorem dX9_next_108 : decode cX9_next 108 = .ok (.ireturn, 1) := by decide +kernel
theorem dX9_slip_0 : decode cX9_slip 0 = .ok (.aload_n 0, 1) := by decide +kernel
theorem dX9_slip_1 : decode cX9_slip 1 = .ok (.iload 4, 2) := by decide +kernel
theorem dX9_slip_3 : decode cX9_slip 3 = .ok (.invokevirtual 98, 3) := by decide +kernel
theorem dX9_slip_6 : decode cX9_slip 6 = .ok (.astore 8, 2) := by decide +kernel
theorem dX9_slip_8 : decode cX9_slip 8 = .ok (.aload 8, 2) := by decide +kernel
theorem dX9_slip_10 : decode cX9_slip 10 = .ok (.ifnull 15, 3) := by decide +kernel
theorem dX9_slip_13 : decode cX9_slip 13 = .ok (.aload_n 0, 1) := by decide +kernel
theorem dX9_slip_14 : decode cX9_slip 14 = .ok (.getfield 16, 3) := by decide +kernel
theorem dX9_slip_17 : decode cX9_slip 17 = .ok (.invokevirtual 77, 3) := by decide +kernel
theorem dX9_slip_20 : decode cX9_slip 20 = .ok (.bipush 120, 2) := by decide +kernel
theorem dX9_slip_22 : decode cX9_slip 22 = .ok (.if_icmp .lt 5, 3) := by decide +kernel
theorem dX9_slip_25 : decode cX9_slip 25 = .ok (.iconst (-1), 1) := by decide +kernel
theorem dX9_slip_26 : decode cX9_slip 26 = .ok (.ireturn, 1) := by decide +kernel
theorem dX9_slip_27 : decode cX9_slip 27 = .ok (.iload_n 1, 1) := by decide +kernel
theorem dX9_slip_28 : decode cX9_slip 28 = .ok (.iload_n 3, 1) := by decide +kernel
theorem dX9_slip_29 : decode cX9_slip 29 = .ok (.invokestatic 135, 3) := by decide +kernel
theorem dX9_slip_32 : decode cX9_slip 32 = .ok (.ifCond .eq 21, 3) := by decide +kernel
theorem dX9_slip_35 : decode cX9_slip 35 = .ok (.iload_n 2, 1) := by decide +kernel
theorem dX9_slip_36 : decode cX9_slip 36 = .ok (.iconst 0, 1) := by decide +kernel
theorem dX9_slip_37 : decode cX9_slip 37 = .ok (.bipush 7, 2) := by decide +kernel
theorem dX9_slip_39 : decode cX9_slip 39 = .ok (.invokestatic 85, 3) := by decide +kernel
theorem dX9_slip_42 : decode cX9_slip 42 = .ok (.ifCond .eq 11, 3) := by decide +kernel
theorem dX9_slip_45 : decode cX9_slip 45 = .ok (.iload 6, 2) := by decide +kernel
theorem dX9_slip_47 : decode cX9_slip 47 = .ok (.invokestatic 139, 3) := by decide +kernel
theorem dX9_slip_50 : decode cX9_slip 50 = .ok (.ifCond .ne 5, 3) := by decide +kernel
theorem dX9_slip_53 : decode cX9_slip 53 = .ok (.iconst (-1), 1) := by decide +kernel
theorem dX9_slip_54 : decode cX9_slip 54 = .ok (.ireturn, 1) := by decide +kernel
theorem dX9_slip_55 : decode cX9_slip 55 = .ok (.iload 7, 2) := by decide +kernel
theorem dX9_slip_57 : decode cX9_slip 57 = .ok (.aload_n 0, 1) := by decide +kernel
theorem dX9_slip_58 : decode cX9_slip 58 = .ok (.getfield 73, 3) := by decide +kernel
theorem dX9_slip_61 : decode cX9_slip 61 = .ok (.bipush 28, 2) := by decide +kernel
theorem dX9_slip_63 : decode cX9_slip 63 = .ok (.isub, 1) := by decide +kernel
theorem dX9_slip_64 : decode cX9_slip 64 = .ok (.aload_n 0, 1) := by decide +kernel
theorem dX9_slip_65 : decode cX9_slip 65 = .ok (.getfield 73, 3) := by decide +kernel
theorem dX9_slip_68 : decode cX9_slip 68 = .ok (.invokestatic 85, 3) := by decide +kernel
theorem dX9_slip_71 : decode cX9_slip 71 = .ok (.ifCond .eq 13, 3) := by decide +kernel
theorem dX9_slip_74 : decode cX9_slip 74 = .ok (.iload 7, 2) := by decide +kernel
theorem dX9_slip_76 : decode cX9_slip 76 = .ok (.aload 8, 2) := by decide +kernel
theorem dX9_slip_78 : decode cX9_slip 78 = .ok (.getfield 142, 3) := by decide +kernel
theorem dX9_slip_81 : decode cX9_slip 81 = .ok (.if_icmp .ge 5, 3) := by decide +kernel
theorem dX9_slip_84 : decode cX9_slip 84 = .ok (.iconst (-1), 1) := by decide +kernel
theorem dX9_slip_85 : decode cX9_slip 85 = .ok (.ireturn, 1) := by decide +kernel
theorem dX9_slip_86 : decode cX9_slip 86 = .ok (.iload 5, 2) := by decide +kernel
theorem dX9_slip_88 : decode cX9_slip 88 = .ok (.iconst 1, 1) := by decide +kernel
theorem dX9_slip_89 : decode cX9_slip 89 = .ok (.bipush 99, 2) := by decide +kernel
theorem dX9_slip_91 : decode cX9_slip 91 = .ok (.invokestatic 85, 3) := by decide +kernel
theorem dX9_slip_94 : decode cX9_slip 94 = .ok (.ifCond .eq 13, 3) := by decide +kernel
theorem dX9_slip_97 : decode cX9_slip 97 = .ok (.iload 5, 2) := by decide +kernel
theorem dX9_slip_99 : decode cX9_slip 99 = .ok (.aload 8, 2) := by decide +kernel
theorem dX9_slip_101 : decode cX9_slip 101 = .ok (.getfield 110, 3) := by decide +kernel
theorem dX9_slip_104 : decode cX9_slip 104 = .ok (.if_icmp .le 5, 3) := by decide +kernel
theorem dX9_slip_107 : decode cX9_slip 107 = .ok (.iconst (-1), 1) := by decide +kernel
theorem dX9_slip_108 : decode cX9_slip 108 = .ok (.ireturn, 1) := by decide +kernel
theorem dX9_slip_109 : decode cX9_slip 109 = .ok (.aload 8, 2) := by decide +kernel
theorem dX9_slip_111 : decode cX9_slip 111 = .ok (.dup, 1) := by decide +kernel
theorem dX9_slip_112 : decode cX9_slip 112 = .ok (.getfield 110, 3) := by decide +kernel
theorem dX9_slip_115 : decode cX9_slip 115 = .ok (.iload 5, 2) := by decide +kernel
theorem dX9_slip_117 : decode cX9_slip 117 = .ok (.isub, 1) := by decide +kernel
theorem dX9_slip_118 : decode cX9_slip 118 = .ok (.putfield 110, 3) := by decide +kernel
theorem dX9_slip_121 : decode cX9_slip 121 = .ok (.new 127, 3) := by decide +kernel
theorem dX9_slip_124 : decode cX9_slip 124 = .ok (.dup, 1) := by decide +kernel
theorem dX9_slip_125 : decode cX9_slip 125 = .ok (.iload_n 1, 1) := by decide +kernel
theorem dX9_slip_126 : decode cX9_slip 126 = .ok (.iload_n 2, 1) := by decide +kernel
theorem dX9_slip_127 : decode cX9_slip 127 = .ok (.iload_n 3, 1) := by decide +kernel
theorem dX9_slip_128 : decode cX9_slip 128 = .ok (.aload 8, 2) := by decide +kernel
theorem dX9_slip_130 : decode cX9_slip 130 = .ok (.iload 5, 2) := by decide +kernel
theorem dX9_slip_132 : decode cX9_slip 132 = .ok (.iload 6, 2) := by decide +kernel
theorem dX9_slip_134 : decode cX9_slip 134 = .ok (.iload 7, 2) := by decide +kernel
theorem dX9_slip_136 : decode cX9_slip 136 = .ok (.invokespecial 145, 3) := by decide +kernel
theorem dX9_slip_139 : decode cX9_slip 139 = .ok (.astore 9, 2) := by decide +kernel
theorem dX9_slip_141 : decode cX9_slip 141 = .ok (.aload 9, 2) := by decide +kernel
theorem dX9_slip_143 : decode cX9_slip 143 = .ok (.aload_n 0, 1) := by decide +kernel
theorem dX9_slip_144 : decode cX9_slip 144 = .ok (.getfield 73, 3) := by decide +kernel
theorem dX9_slip_147 : decode cX9_slip 147 = .ok (.putfield 148, 3) := by decide +kernel
theorem dX9_slip_150 : decode cX9_slip 150 = .ok (.aload 9, 2) := by decide +kernel
theorem dX9_slip_152 : decode cX9_slip 152 = .ok (.aload_n 0, 1) := by decide +kernel
theorem dX9_slip_153 : decode cX9_slip 153 = .ok (.getfield 73, 3) := by decide +kernel
theorem dX9_slip_156 : decode cX9_slip 156 = .ok (.invokevirtual 129, 3) := by decide +kernel
theorem dX9_slip_159 : decode cX9_slip 159 = .ok (.aload_n 0, 1) := by decide +kernel
theorem dX9_slip_160 : decode cX9_slip 160 = .ok (.getfield 16, 3) := by decide +kernel
theorem dX9_slip_163 : decode cX9_slip 163 = .ok (.aload 9, 2) := by decide +kernel
theorem dX9_slip_165 : decode cX9_slip 165 = .ok (.invokevirtual 94, 3) := by decide +kernel
theorem dX9_slip_168 : decode cX9_slip 168 = .ok (.pop, 1) := by decide +kernel
theorem dX9_slip_169 : decode cX9_slip 169 = .ok (.aload_n 0, 1) := by decide +kernel
theorem dX9_slip_170 : decode cX9_slip 170 = .ok (.getfield 16, 3) := by decide +kernel
theorem dX9_slip_173 : decode cX9_slip 173 = .ok (.invokevirtual 77, 3) := by decide +kernel
theorem dX9_slip_176 : decode cX9_slip 176 = .ok (.iconst 1, 1) := by decide +kernel
theorem dX9_slip_177 : decode cX9_slip 177 = .ok (.isub, 1) := by decide +kernel
theorem dX9_slip_178 : decode cX9_slip 178 = .ok (.ireturn, 1) := by decide +kernel
theorem dX9_paper_0 : decode cX9_paper 0 = .ok (.aload_n 0, 1) := by decide +kernel
theorem dX9_paper_1 : decode cX9_paper 1 = .ok (.iload_n 1, 1) := by decide +kernel
theorem dX9_paper_2 : decode cX9_paper 2 = .ok (.invokevirtual 151, 3) := by decide +kernel
theorem dX9_paper_5 : decode cX9_paper 5 = .ok (.astore_n 3, 1) := by decide +kernel
theorem dX9_paper_6 : decode cX9_paper 6 = .ok (.aload_n 3, 1) := by decide +kernel
theorem dX9_paper_7 : decode cX9_paper 7 = .ok (.ifnonnull 5, 3) := by decide +kernel
theorem dX9_paper_10 : decode cX9_paper 10 = .ok (.iconst (-1), 1) := by decide +kernel
theorem dX9_paper_11 : decode cX9_paper 11 = .ok (.ireturn, 1) := by decide +kernel
theorem dX9_paper_12 : decode cX9_paper 12 = .ok (.iload_n 2, 1) := by decide +kernel
theorem dX9_paper_13 : decode cX9_paper 13 = .ok (.tableswitch 78 0 6 #[43, 48, 53, 58, 63, 68, 73], 43) := by decide +kernel
theorem dX9_paper_56 : decode cX9_paper 56 = .ok (.aload_n 3, 1) := by decide +kernel
theorem dX9_paper_57 : decode cX9_paper 57 = .ok (.invokevirtual 155, 3) := by decide +kernel
theorem dX9_paper_60 : decode cX9_paper 60 = .ok (.ireturn, 1) := by decide +kernel
theorem dX9_paper_61 : decode cX9_paper 61 = .ok (.aload_n 3, 1) := by decide +kernel
theorem dX9_paper_62 : decode cX9_paper 62 = .ok (.getfield 158, 3) := by decide +kernel
theorem dX9_paper_65 : decode cX9_paper 65 = .ok (.ireturn, 1) := by decide +kernel
theorem dX9_paper_66 : decode cX9_paper 66 = .ok (.aload_n 3, 1) := by decide +kernel
theorem dX9_paper_67 : decode cX9_paper 67 = .ok (.getfield 161, 3) := by decide +kernel
theorem dX9_paper_70 : decode cX9_paper 70 = .ok (.ireturn, 1) := by decide +kernel
theorem dX9_paper_71 : decode cX9_paper 71 = .ok (.aload_n 3, 1) := by decide +kernel
theorem dX9_paper_72 : decode cX9_paper 72 = .ok (.getfield 148, 3) := by decide +kernel
theorem dX9_paper_75 : decode cX9_paper 75 = .ok (.ireturn, 1) := by decide +kernel
theorem dX9_paper_76 : decode cX9_paper 76 = .ok (.aload_n 3, 1) := by decide +kernel
theorem dX9_paper_77 : decode cX9_paper 77 = .ok (.getfield 164, 3) := by decide +kernel
theorem dX9_paper_80 : decode cX9_paper 80 = .ok (.ireturn, 1) := by decide +kernel
theorem dX9_paper_81 : decode cX9_paper 81 = .ok (.aload_n 3, 1) := by decide +kernel
theorem dX9_paper_82 : decode cX9_paper 82 = .ok (.getfield 167, 3) := by decide +kernel
theorem dX9_paper_85 : decode cX9_paper 85 = .ok (.ireturn, 1) := by decide +kernel
theorem dX9_paper_86 : decode cX9_paper 86 = .ok (.aload_n 3, 1) := by decide +kernel
theorem dX9_paper_87 : decode cX9_paper 87 = .ok (.getfield 170, 3) := by decide +kernel
theorem dX9_paper_90 : decode cX9_paper 90 = .ok (.ireturn, 1) := by decide +kernel
theorem dX9_paper_91 : decode cX9_paper 91 = .ok (.iconst (-1), 1) := by decide +kernel
theorem dX9_paper_92 : decode cX9_paper 92 = .ok (.ireturn, 1) := by decide +kernel
theorem dX9_back_0 : decode cX9_back 0 = .ok (.aload_n 0, 1) := by decide +kernel
theorem dX9_back_1 : decode cX9_back 1 = .ok (.iload_n 1, 1) := by decide +kernel
theorem dX9_back_2 : decode cX9_back 2 = .ok (.invokevirtual 151, 3) := by decide +kernel
theorem dX9_back_5 : decode cX9_back 5 = .ok (.astore_n 2, 1) := by decide +kernel
theorem dX9_back_6 : decode cX9_back 6 = .ok (.aload_n 2, 1) := by decide +kernel
theorem dX9_back_7 : decode cX9_back 7 = .ok (.ifnull 14, 3) := by decide +kernel
theorem dX9_back_10 : decode cX9_back 10 = .ok (.aload_n 2, 1) := by decide +kernel
theorem dX9_back_11 : decode cX9_back 11 = .ok (.aload_n 0, 1) := by decide +kernel
theorem dX9_back_12 : decode cX9_back 12 = .ok (.getfield 73, 3) := by decide +kernel
theorem dX9_back_15 : decode cX9_back 15 = .ok (.invokevirtual 173, 3) := by decide +kernel
theorem dX9_back_18 : decode cX9_back 18 = .ok (.ifCond .ne 5, 3) := by decide +kernel
theorem dX9_back_21 : decode cX9_back 21 = .ok (.iconst 0, 1) := by decide +kernel
theorem dX9_back_22 : decode cX9_back 22 = .ok (.ireturn, 1) := by decide +kernel
theorem dX9_back_23 : decode cX9_back 23 = .ok (.aload_n 2, 1) := by decide +kernel
theorem dX9_back_24 : decode cX9_back 24 = .ok (.aload_n 0, 1) := by decide +kernel
theorem dX9_back_25 : decode cX9_back 25 = .ok (.getfield 73, 3) := by decide +kernel
theorem dX9_back_28 : decode cX9_back 28 = .ok (.putfield 167, 3) := by decide +kernel
theorem dX9_back_31 : decode cX9_back 31 = .ok (.aload_n 2, 1) := by decide +kernel
theorem dX9_back_32 : decode cX9_back 32 = .ok (.getfield 176, 3) := by decide +kernel
theorem dX9_back_35 : decode cX9_back 35 = .ok (.dup, 1) := by decide +kernel
theorem dX9_back_36 : decode cX9_back 36 = .ok (.getfield 110, 3) := by decide +kernel
theorem dX9_back_39 : decode cX9_back 39 = .ok (.aload_n 2, 1) := by decide +kernel
theorem dX9_back_40 : decode cX9_back 40 = .ok (.getfield 180, 3) := by decide +kernel
theorem dX9_back_43 : decode cX9_back 43 = .ok (.iadd, 1) := by decide +kernel
theorem dX9_back_44 : decode cX9_back 44 = .ok (.putfield 110, 3) := by decide +kernel
theorem dX9_back_47 : decode cX9_back 47 = .ok (.iconst 1, 1) := by decide +kernel
theorem dX9_back_48 : decode cX9_back 48 = .ok (.ireturn, 1) := by decide +kernel
theorem dX9_look_0 : decode cX9_look 0 = .ok (.iload_n 1, 1) := by decide +kernel
theorem dX9_look_1 : decode cX9_look 1 = .ok (.tableswitch 90 0 6 #[43, 48, 56, 64, 69, 74, 82], 43) := by decide +kernel
theorem dX9_look_44 : decode cX9_look 44 = .ok (.aload_n 0, 1) := by decide +kernel
theorem dX9_look_45 : decode cX9_look 45 = .ok (.getfield 73, 3) := by decide +kernel
theorem dX9_look_48 : decode cX9_look 48 = .ok (.ireturn, 1) := by decide +kernel
theorem dX9_look_49 : decode cX9_look 49 = .ok (.aload_n 0, 1) := by decide +kernel
theorem dX9_look_50 : decode cX9_look 50 = .ok (.getfield 12, 3) := by decide +kernel
theorem dX9_look_53 : decode cX9_look 53 = .ok (.invokevirtual 77, 3) := by decide +kernel
theorem dX9_look_56 : decode cX9_look 56 = .ok (.ireturn, 1) := by decide +kernel
theorem dX9_look_57 : decode cX9_look 57 = .ok (.aload_n 0, 1) := by decide +kernel
theorem dX9_look_58 : decode cX9_look 58 = .ok (.getfield 16, 3) := by decide +kernel
theorem dX9_look_61 : decode cX9_look 61 = .ok (.invokevirtual 77, 3) := by decide +kernel
theorem dX9_look_64 : decode cX9_look 64 = .ok (.ireturn, 1) := by decide +kernel
theorem dX9_look_65 : decode cX9_look 65 = .ok (.aload_n 0, 1) := by decide +kernel
theorem dX9_look_66 : decode cX9_look 66 = .ok (.invokevirtual 183, 3) := by decide +kernel
theorem dX9_look_69 : decode cX9_look 69 = .ok (.ireturn, 1) := by decide +kernel
theorem dX9_look_70 : decode cX9_look 70 = .ok (.aload_n 0, 1) := by decide +kernel
theorem dX9_look_71 : decode cX9_look 71 = .ok (.invokevirtual 186, 3) := by decide +kernel
theorem dX9_look_74 : decode cX9_look 74 = .ok (.ireturn, 1) := by decide +kernel
theorem dX9_look_75 : decode cX9_look 75 = .ok (.aload_n 0, 1) := by decide +kernel
theorem dX9_look_76 : decode cX9_look 76 = .ok (.getfield 22, 3) := by decide +kernel
theorem dX9_look_79 : decode cX9_look 79 = .ok (.getfield 132, 3) := by decide +kernel
theorem dX9_look_82 : decode cX9_look 82 = .ok (.ireturn, 1) := by decide +kernel
theorem dX9_look_83 : decode cX9_look 83 = .ok (.aload_n 0, 1) := by decide +kernel
theorem dX9_look_84 : decode cX9_look 84 = .ok (.getfield 43, 3) := by decide +kernel
theorem dX9_look_87 : decode cX9_look 87 = .ok (.getfield 189, 3) := by decide +kernel
theorem dX9_look_90 : decode cX9_look 90 = .ok (.ireturn, 1) := by decide +kernel
theorem dX9_look_91 : decode cX9_look 91 = .ok (.iconst (-1), 1) := by decide +kernel
theorem dX9_look_92 : decode cX9_look 92 = .ok (.ireturn, 1) := by decide +kernel
theorem dX9_van_0 : decode cX9_van 0 = .ok (.iload_n 1, 1) := by decide +kernel
theorem dX9_van_1 : decode cX9_van 1 = .ok (.iconst 0, 1) := by decide +kernel
theorem dX9_van_2 : decode cX9_van 2 = .ok (.sipush 500, 3) := by decide +kernel
theorem dX9_van_5 : decode cX9_van 5 = .ok (.invokestatic 85, 3) := by decide +kernel
theorem dX9_van_8 : decode cX9_van 8 = .ok (.ifCond .eq 14, 3) := by decide +kernel
theorem dX9_van_11 : decode cX9_van 11 = .ok (.aload_n 0, 1) := by decide +kernel
theorem dX9_van_12 : decode cX9_van 12 = .ok (.getfield 22, 3) := by decide +kernel
theorem dX9_van_15 : decode cX9_van 15 = .ok (.getfield 132, 3) := by decide +kernel
theorem dX9_van_18 : decode cX9_van 18 = .ok (.iconst 2, 1) := by decide +kernel
theorem dX9_van_19 : decode cX9_van 19 = .ok (.if_icmp .lt 5, 3) := by decide +kernel
theorem dX9_van_22 : decode cX9_van 22 = .ok (.iconst (-1), 1) := by decide +kernel
theorem dX9_van_23 : decode cX9_van 23 = .ok (.ireturn, 1) := by decide +kernel
theorem dX9_van_24 : decode cX9_van 24 = .ok (.aload_n 0, 1) := by decide +kernel
theorem dX9_van_25 : decode cX9_van 25 = .ok (.getfield 22, 3) := by decide +kernel
theorem dX9_van_28 : decode cX9_van 28 = .ok (.aload_n 0, 1) := by decide +kernel
theorem dX9_van_29 : decode cX9_van 29 = .ok (.getfield 16, 3) := by decide +kernel
theorem dX9_van_32 : decode cX9_van 32 = .ok (.iload_n 1, 1) := by decide +kernel
theorem dX9_van_33 : decode cX9_van 33 = .ok (.aload_n 0, 1) := by decide +kernel
theorem dX9_van_34 : decode cX9_van 34 = .ok (.getfield 73, 3) := by decide +kernel
theorem dX9_van_37 : decode cX9_van 37 = .ok (.invokevirtual 192, 3) := by decide +kernel
theorem dX9_van_40 : decode cX9_van 40 = .ok (.ireturn, 1) := by decide +kernel
theorem dX9_house_0 : decode cX9_house 0 = .ok (.aload_n 0, 1) := by decide +kernel
theorem dX9_house_1 : decode cX9_house 1 = .ok (.getfield 22, 3) := by decide +kernel
theorem dX9_house_4 : decode cX9_house 4 = .ok (.iload_n 1, 1) := by decide +kernel
theorem dX9_house_5 : decode cX9_house 5 = .ok (.invokevirtual 196, 3) := by decide +kernel
theorem dX9_house_8 : decode cX9_house 8 = .ok (.ireturn, 1) := by decide +kernel
theorem dX9_feed_0 : decode cX9_feed 0 = .ok (.aload_n 0, 1) := by decide +kernel
theorem dX9_feed_1 : decode cX9_feed 1 = .ok (.getfield 29, 3) := by decide +kernel
theorem dX9_feed_4 : decode cX9_feed 4 = .ok (.getfield 199, 3) := by decide +kernel
theorem dX9_feed_7 : decode cX9_feed 7 = .ok (.sipush 380, 3) := by decide +kernel
theorem dX9_feed_10 : decode cX9_feed 10 = .ok (.if_icmp .le 5, 3) := by decide +kernel
theorem dX9_feed_13 : decode cX9_feed 13 = .ok (.iconst (-1), 1) := by decide +kernel
theorem dX9_feed_14 : decode cX9_feed 14 = .ok (.ireturn, 1) := by decide +kernel
theorem dX9_feed_15 : decode cX9_feed 15 = .ok (.aload_n 0, 1) := by decide +kernel
theorem dX9_feed_16 : decode cX9_feed 16 = .ok (.getfield 29, 3) := by decide +kernel
theorem dX9_feed_19 : decode cX9_feed 19 = .ok (.iload_n 1, 1) := by decide +kernel
theorem dX9_feed_20 : decode cX9_feed 20 = .ok (.invokevirtual 202, 3) := by decide +kernel
theorem dX9_feed_23 : decode cX9_feed 23 = .ok (.aload_n 0, 1) := by decide +kernel
theorem dX9_feed_24 : decode cX9_feed 24 = .ok (.getfield 29, 3) := by decide +kernel
theorem dX9_feed_27 : decode cX9_feed 27 = .ok (.iload_n 2, 1) := by decide +kernel
theorem dX9_feed_28 : decode cX9_feed 28 = .ok (.invokevirtual 202, 3) := by decide +kernel
theorem dX9_feed_31 : decode cX9_feed 31 = .ok (.aload_n 0, 1) := by decide +kernel
theorem dX9_feed_32 : decode cX9_feed 32 = .ok (.getfield 29, 3) := by decide +kernel
theorem dX9_feed_35 : decode cX9_feed 35 = .ok (.iload_n 3, 1) := by decide +kernel
theorem dX9_feed_36 : decode cX9_feed 36 = .ok (.invokevirtual 202, 3) := by decide +kernel
theorem dX9_feed_39 : decode cX9_feed 39 = .ok (.aload_n 0, 1) := by decide +kernel
theorem dX9_feed_40 : decode cX9_feed 40 = .ok (.getfield 29, 3) := by decide +kernel
theorem dX9_feed_43 : decode cX9_feed 43 = .ok (.iload 4, 2) := by decide +kernel
theorem dX9_feed_45 : decode cX9_feed 45 = .ok (.invokevirtual 202, 3) := by decide +kernel
theorem dX9_feed_48 : decode cX9_feed 48 = .ok (.aload_n 0, 1) := by decide +kernel
theorem dX9_feed_49 : decode cX9_feed 49 = .ok (.getfield 29, 3) := by decide +kernel
theorem dX9_feed_52 : decode cX9_feed 52 = .ok (.iload 5, 2) := by decide +kernel
theorem dX9_feed_54 : decode cX9_feed 54 = .ok (.invokevirtual 202, 3) := by decide +kernel
theorem dX9_feed_57 : decode cX9_feed 57 = .ok (.aload_n 0, 1) := by decide +kernel
theorem dX9_feed_58 : decode cX9_feed 58 = .ok (.getfield 29, 3) := by decide +kernel
theorem dX9_feed_61 : decode cX9_feed 61 = .ok (.getfield 199, 3) := by decide +kernel
theorem dX9_feed_64 : decode cX9_feed 64 = .ok (.ireturn, 1) := by decide +kernel
theorem dX9_end_0 : decode cX9_end 0 = .ok (.iload_n 1, 1) := by decide +kernel
theorem dX9_end_1 : decode cX9_end 1 = .ok (.iconst 0, 1) := by decide +kernel
theorem dX9_end_2 : decode cX9_end 2 = .ok (.aload_n 0, 1) := by decide +kernel
theorem dX9_end_3 : decode cX9_end 3 = .ok (.getfield 29, 3) := by decide +kernel
theorem dX9_end_6 : decode cX9_end 6 = .ok (.getfield 199, 3) := by decide +kernel
theorem dX9_end_9 : decode cX9_end 9 = .ok (.invokestatic 85, 3) := by decide +kernel
theorem dX9_end_12 : decode cX9_end 12 = .ok (.ifCond .ne 5, 3) := by decide +kernel
theorem dX9_end_15 : decode cX9_end 15 = .ok (.iconst 0, 1) := by decide +kernel
theorem dX9_end_16 : decode cX9_end 16 = .ok (.ireturn, 1) := by decide +kernel
theorem dX9_end_17 : decode cX9_end 17 = .ok (.aload_n 0, 1) := by decide +kernel
theorem dX9_end_18 : decode cX9_end 18 = .ok (.getfield 29, 3) := by decide +kernel
theorem dX9_end_21 : decode cX9_end 21 = .ok (.iload_n 1, 1) := by decide +kernel
theorem dX9_end_22 : decode cX9_end 22 = .ok (.putfield 199, 3) := by decide +kernel
theorem dX9_end_25 : decode cX9_end 25 = .ok (.iconst 1, 1) := by decide +kernel
theorem dX9_end_26 : decode cX9_end 26 = .ok (.ireturn, 1) := by decide +kernel
theorem dX9_rule_0 : decode cX9_rule 0 = .ok (.aload_n 0, 1) := by decide +kernel
theorem dX9_rule_1 : decode cX9_rule 1 = .ok (.getfield 36, 3) := by decide +kernel
theorem dX9_rule_4 : decode cX9_rule 4 = .ok (.aload_n 0, 1) := by decide +kernel
theorem dX9_rule_5 : decode cX9_rule 5 = .ok (.getfield 29, 3) := by decide +kernel
theorem dX9_rule_8 : decode cX9_rule 8 = .ok (.getfield 205, 3) := by decide +kernel
theorem dX9_rule_11 : decode cX9_rule 11 = .ok (.aload_n 0, 1) := by decide +kernel
theorem dX9_rule_12 : decode cX9_rule 12 = .ok (.getfield 29, 3) := by decide +kernel
theorem dX9_rule_15 : decode cX9_rule 15 = .ok (.getfield 199, 3) := by decide +kernel
theorem dX9_rule_18 : decode cX9_rule 18 = .ok (.invokevirtual 209, 3) := by decide +kernel
theorem dX9_rule_21 : decode cX9_rule 21 = .ok (.aload_n 0, 1) := by decide +kernel
theorem dX9_rule_22 : decode cX9_rule 22 = .ok (.getfield 29, 3) := by decide +kernel
theorem dX9_rule_25 : decode cX9_rule 25 = .ok (.iconst 0, 1) := by decide +kernel
theorem dX9_rule_26 : decode cX9_rule 26 = .ok (.putfield 199, 3) := by decide +kernel
theorem dX9_rule_29 : decode cX9_rule 29 = .ok (.aload_n 0, 1) := by decide +kernel
theorem dX9_rule_30 : decode cX9_rule 30 = .ok (.getfield 55, 3) := by decide +kernel
theorem dX9_rule_33 : decode cX9_rule 33 = .ok (.aload_n 0, 1) := by decide +kernel
theorem dX9_rule_34 : decode cX9_rule 34 = .ok (.getfield 47, 3) := by decide +kernel
theorem dX9_rule_37 : decode cX9_rule 37 = .ok (.invokevirtual 213, 3) := by decide +kernel
theorem dX9_rule_40 : decode cX9_rule 40 = .ok (.ifCond .ne 5, 3) := by decide +kernel
theorem dX9_rule_43 : decode cX9_rule 43 = .ok (.iconst (-1), 1) := by decide +kernel
theorem dX9_rule_44 : decode cX9_rule 44 = .ok (.ireturn, 1) := by decide +kernel
theorem dX9_rule_45 : decode cX9_rule 45 = .ok (.aload_n 0, 1) := by decide +kernel
theorem dX9_rule_46 : decode cX9_rule 46 = .ok (.getfield 43, 3) := by decide +kernel
theorem dX9_rule_49 : decode cX9_rule 49 = .ok (.astore_n 1, 1) := by decide +kernel
theorem dX9_rule_50 : decode cX9_rule 50 = .ok (.aload_n 0, 1) := by decide +kernel
theorem dX9_rule_51 : decode cX9_rule 51 = .ok (.aload_n 0, 1) := by decide +kernel
theorem dX9_rule_52 : decode cX9_rule 52 = .ok (.getfield 47, 3) := by decide +kernel
theorem dX9_rule_55 : decode cX9_rule 55 = .ok (.putfield 43, 3) := by decide +kernel
theorem dX9_rule_58 : decode cX9_rule 58 = .ok (.aload_n 0, 1) := by decide +kernel
theorem dX9_rule_59 : decode cX9_rule 59 = .ok (.aload_n 1, 1) := by decide +kernel
theorem dX9_rule_60 : decode cX9_rule 60 = .ok (.putfield 47, 3) := by decide +kernel
theorem dX9_rule_63 : decode cX9_rule 63 = .ok (.aload_n 0, 1) := by decide +kernel
theorem dX9_rule_64 : decode cX9_rule 64 = .ok (.getfield 43, 3) := by decide +kernel
theorem dX9_rule_67 : decode cX9_rule 67 = .ok (.getfield 189, 3) := by decide +kernel
theorem dX9_rule_70 : decode cX9_rule 70 = .ok (.ireturn, 1) := by decide +kernel
theorem dX9_fault_0 : decode cX9_fault 0 = .ok (.iload_n 1, 1) := by decide +kernel
theorem dX9_fault_1 : decode cX9_fault 1 = .ok (.lookupswitch 43 #[(0, 27), (1, 35)], 27) := by decide +kernel
theorem dX9_fault_28 : decode cX9_fault 28 = .ok (.aload_n 0, 1) := by decide +kernel
theorem dX9_fault_29 : decode cX9_fault 29 = .ok (.getfield 55, 3) := by decide +kernel
theorem dX9_fault_32 : decode cX9_fault 32 = .ok (.getfield 217, 3) := by decide +kernel
theorem dX9_fault_35 : decode cX9_fault 35 = .ok (.ireturn, 1) := by decide +kernel
theorem dX9_fault_36 : decode cX9_fault 36 = .ok (.aload_n 0, 1) := by decide +kernel
theorem dX9_fault_37 : decode cX9_fault 37 = .ok (.getfield 55, 3) := by decide +kernel
theorem dX9_fault_40 : decode cX9_fault 40 = .ok (.getfield 220, 3) := by decide +kernel
theorem dX9_fault_43 : decode cX9_fault 43 = .ok (.ireturn, 1) := by decide +kernel
theorem dX9_fault_44 : decode cX9_fault 44 = .ok (.iconst (-1), 1) := by decide +kernel
theorem dX9_fault_45 : decode cX9_fault 45 = .ok (.ireturn, 1) := by decide +kernel
theorem dX9_pay_0 : decode cX9_pay 0 = .ok (.iload_n 1, 1) := by decide +kernel
theorem dX9_pay_1 : decode cX9_pay 1 = .ok (.iconst 0, 1) := by decide +kernel
theorem dX9_pay_2 : decode cX9_pay 2 = .ok (.bipush 7, 2) := by decide +kernel
theorem dX9_pay_4 : decode cX9_pay 4 = .ok (.invokestatic 85, 3) := by decide +kernel
theorem dX9_pay_7 : decode cX9_pay 7 = .ok (.ifCond .eq 13, 3) := by decide +kernel
theorem dX9_pay_10 : decode cX9_pay 10 = .ok (.iload_n 2, 1) := by decide +kernel
theorem dX9_pay_11 : decode cX9_pay 11 = .ok (.iconst 0, 1) := by decide +kernel
theorem dX9_pay_12 : decode cX9_pay 12 = .ok (.bipush 12, 2) := by decide +kernel
theorem dX9_pay_14 : decode cX9_pay 14 = .ok (.invokestatic 85, 3) := by decide +kernel
theorem dX9_pay_17 : decode cX9_pay 17 = .ok (.ifCond .ne 6, 3) := by decide +kernel
theorem dX9_pay_20 : decode cX9_pay 20 = .ok (.ldc 223, 2) := by decide +kernel
theorem dX9_pay_22 : decode cX9_pay 22 = .ok (.ireturn, 1) := by decide +kernel
theorem dX9_pay_23 : decode cX9_pay 23 = .ok (.aload_n 0, 1) := by decide +kernel
theorem dX9_pay_24 : decode cX9_pay 24 = .ok (.getfield 62, 3) := by decide +kernel
theorem dX9_pay_27 : decode cX9_pay 27 = .ok (.aload_n 0, 1) := by decide +kernel
theorem dX9_pay_28 : decode cX9_pay 28 = .ok (.getfield 16, 3) := by decide +kernel
theorem dX9_pay_31 : decode cX9_pay 31 = .ok (.iload_n 1, 1) := by decide +kernel
theorem dX9_pay_32 : decode cX9_pay 32 = .ok (.iload_n 2, 1) := by decide +kernel
theorem dX9_pay_33 : decode cX9_pay 33 = .ok (.invokevirtual 224, 3) := by decide +kernel
theorem dX9_pay_36 : decode cX9_pay 36 = .ok (.iload_n 3, 1) := by decide +kernel
theorem dX9_pay_37 : decode cX9_pay 37 = .ok (.tableswitch 83 0 4 #[35, 43, 51, 59, 71], 35) := by decide +kernel
theorem dX9_pay_72 : decode cX9_pay 72 = .ok (.aload_n 0, 1) := by decide +kernel
theorem dX9_pay_73 : decode cX9_pay 73 = .ok (.getfield 62, 3) := by decide +kernel
theorem dX9_pay_76 : decode cX9_pay 76 = .ok (.getfield 228, 3) := by decide +kernel
theorem dX9_pay_79 : decode cX9_pay 79 = .ok (.ireturn, 1) := by decide +kernel
theorem dX9_pay_80 : decode cX9_pay 80 = .ok (.aload_n 0, 1) := by decide +kernel
theorem dX9_pay_81 : decode cX9_pay 81 = .ok (.getfield 62, 3) := by decide +kernel
theorem dX9_pay_84 : decode cX9_pay 84 = .ok (.getfield 231, 3) := by decide +kernel
theorem dX9_pay_87 : decode cX9_pay 87 = .ok (.ireturn, 1) := by decide +kernel
theorem dX9_pay_88 : decode cX9_pay 88 = .ok (.aload_n 0, 1) := by decide +kernel
theorem dX9_pay_89 : decode cX9_pay 89 = .ok (.getfield 62, 3) := by decide +kernel
theorem dX9_pay_92 : decode cX9_pay 92 = .ok (.getfield 234, 3) := by decide +kernel
theorem dX9_pay_95 : decode cX9_pay 95 = .ok (.ireturn, 1) := by decide +kernel
theorem dX9_pay_96 : decode cX9_pay 96 = .ok (.aload_n 0, 1) := by decide +kernel
theorem dX9_pay_97 : decode cX9_pay 97 = .ok (.getfield 43, 3) := by decide +kernel
theorem dX9_pay_100 : decode cX9_pay 100 = .ok (.aload_n 0, 1) := by decide +kernel
theorem dX9_pay_101 : decode cX9_pay 101 = .ok (.getfield 62, 3) := by decide +kernel
theorem dX9_pay_104 : decode cX9_pay 104 = .ok (.invokevirtual 235, 3) := by decide +kernel
theorem dX9_pay_107 : decode cX9_pay 107 = .ok (.ireturn, 1) := by decide +kernel
theorem dX9_pay_108 : decode cX9_pay 108 = .ok (.aload_n 0, 1) := by decide +kernel
theorem dX9_pay_109 : decode cX9_pay 109 = .ok (.getfield 43, 3) := by decide +kernel
theorem dX9_pay_112 : decode cX9_pay 112 = .ok (.aload_n 0, 1) := by decide +kernel
theorem dX9_pay_113 : decode cX9_pay 113 = .ok (.getfield 62, 3) := by decide +kernel
theorem dX9_pay_116 : decode cX9_pay 116 = .ok (.invokevirtual 239, 3) := by decide +kernel
theorem dX9_pay_119 : decode cX9_pay 119 = .ok (.ireturn, 1) := by decide +kernel
theorem dX9_pay_120 : decode cX9_pay 120 = .ok (.ldc 223, 2) := by decide +kernel
theorem dX9_pay_122 : decode cX9_pay 122 = .ok (.ireturn, 1) := by decide +kernel
theorem dX9_statement_0 : decode cX9_statement 0 = .ok (.iload_n 1, 1) := by decide +kernel
theorem dX9_statement_1 : decode cX9_statement 1 = .ok (.iconst 0, 1) := by decide +kernel
theorem dX9_statement_2 : decode cX9_statement 2 = .ok (.bipush 9, 2) := by decide +kernel
theorem dX9_statement_4 : decode cX9_statement 4 = .ok (.invokestatic 85, 3) := by decide +kernel
theorem dX9_statement_7 : decode cX9_statement 7 = .ok (.ifCond .eq 13, 3) := by decide +kernel
theorem dX9_statement_10 : decode cX9_statement 10 = .ok (.iload_n 2, 1) := by decide +kernel
theorem dX9_statement_11 : decode cX9_statement 11 = .ok (.iconst 0, 1) := by decide +kernel
theorem dX9_statement_12 : decode cX9_statement 12 = .ok (.bipush 12, 2) := by decide +kernel
theorem dX9_statement_14 : decode cX9_statement 14 = .ok (.invokestatic 85, 3) := by decide +kernel
theorem dX9_statement_17 : decode cX9_statement 17 = .ok (.ifCond .ne 6, 3) := by decide +kernel
theorem dX9_statement_20 : decode cX9_statement 20 = .ok (.ldc 223, 2) := by decide +kernel
theorem dX9_statement_22 : decode cX9_statement 22 = .ok (.ireturn, 1) := by decide +kernel
theorem dX9_statement_23 : decode cX9_statement 23 = .ok (.iload_n 3, 1) := by decide +kernel
theorem dX9_statement_24 : decode cX9_statement 24 = .ok (.iconst 0, 1) := by decide +kernel
theorem dX9_statement_25 : decode cX9_statement 25 = .ok (.aload_n 0, 1) := by decide +kernel
theorem dX9_statement_26 : decode cX9_statement 26 = .ok (.getfield 73, 3) := by decide +kernel
theorem dX9_statement_29 : decode cX9_statement 29 = .ok (.invokestatic 85, 3) := by decide +kernel
theorem dX9_statement_32 : decode cX9_statement 32 = .ok (.ifCond .ne 6, 3) := by decide +kernel
theorem dX9_statement_35 : decode cX9_statement 35 = .ok (.ldc 223, 2) := by decide +kernel
theorem dX9_statement_37 : decode cX9_statement 37 = .ok (.ireturn, 1) := by decide +kernel
theorem dX9_statement_38 : decode cX9_statement 38 = .ok (.iconst 0, 1) := by decide +kernel
theorem dX9_statement_39 : decode cX9_statement 39 = .ok (.istore 4, 2) := by decide +kernel
theorem dX9_statement_41 : decode cX9_statement 41 = .ok (.iconst 0, 1) := by decide +kernel
theorem dX9_statement_42 : decode cX9_statement 42 = .ok (.istore 5, 2) := by decide +kernel
theorem dX9_statement_44 : decode cX9_statement 44 = .ok (.iload 5, 2) := by decide +kernel
theorem dX9_statement_46 : decode cX9_statement 46 = .ok (.aload_n 0, 1) := by decide +kernel
theorem dX9_statement_47 : decode cX9_statement 47 = .ok (.getfield 16, 3) := by decide +kernel
theorem dX9_statement_50 : decode cX9_statement 50 = .ok (.invokevirtual 77, 3) := by decide +kernel
theorem dX9_statement_53 : decode cX9_statement 53 = .ok (.if_icmp .ge 44, 3) := by decide +kernel
theorem dX9_statement_56 : decode cX9_statement 56 = .ok (.aload_n 0, 1) := by decide +kernel
theorem dX9_statement_57 : decode cX9_statement 57 = .ok (.getfield 16, 3) := by decide +kernel
theorem dX9_statement_60 : decode cX9_statement 60 = .ok (.iload 5, 2) := by decide +kernel
theorem dX9_statement_62 : decode cX9_statement 62 = .ok (.invokevirtual 119, 3) := by decide +kernel
theorem dX9_statement_65 : decode cX9_statement 65 = .ok (.checkcast 127, 3) := by decide +kernel
theorem dX9_statement_68 : decode cX9_statement 68 = .ok (.astore 6, 2) := by decide +kernel
theorem dX9_statement_70 : decode cX9_statement 70 = .ok (.aload 6, 2) := by decide +kernel
theorem dX9_statement_72 : decode cX9_statement 72 = .ok (.getfield 242, 3) := by decide +kernel
theorem dX9_statement_75 : decode cX9_statement 75 = .ok (.iload_n 1, 1) := by decide +kernel
theorem dX9_statement_76 : decode cX9_statement 76 = .ok (.if_icmp .ne 15, 3) := by decide +kernel
theorem dX9_statement_79 : decode cX9_statement 79 = .ok (.iload 4, 2) := by decide +kernel
theorem dX9_statement_81 : decode cX9_statement 81 = .ok (.aload 6, 2) := by decide +kernel
theorem dX9_statement_83 : decode cX9_statement 83 = .ok (.iload_n 2, 1) := by decide +kernel
theorem dX9_statement_84 : decode cX9_statement 84 = .ok (.iload_n 3, 1) := by decide +kernel
theorem dX9_statement_85 : decode cX9_statement 85 = .ok (.invokevirtual 245, 3) := by decide +kernel
theorem dX9_statement_88 : decode cX9_statement 88 = .ok (.iadd, 1) := by decide +kernel
theorem dX9_statement_89 : decode cX9_statement 89 = .ok (.istore 4, 2) := by decide +kernel
theorem dX9_statement_91 : decode cX9_statement 91 = .ok (.iinc 5 1, 3) := by decide +kernel
theorem dX9_statement_94 : decode cX9_statement 94 = .ok (.goto (-50), 3) := by decide +kernel
theorem dX9_statement_97 : decode cX9_statement 97 = .ok (.iload 4, 2) := by decide +kernel
theorem dX9_statement_99 : decode cX9_statement 99 = .ok (.ireturn, 1) := by decide +kernel
theorem dX9_count_0 : decode cX9_count 0 = .ok (.aload_n 0, 1) := by decide +kernel
theorem dX9_count_1 : decode cX9_count 1 = .ok (.iload_n 1, 1) := by decide +kernel
theorem dX9_count_2 : decode cX9_count 2 = .ok (.invokevirtual 98, 3) := by decide +kernel
theorem dX9_count_5 : decode cX9_count 5 = .ok (.astore_n 3, 1) := by decide +kernel
theorem dX9_count_6 : decode cX9_count 6 = .ok (.aload_n 3, 1) := by decide +kernel
theorem dX9_count_7 : decode cX9_count 7 = .ok (.ifnull 14, 3) := by decide +kernel
theorem dX9_count_10 : decode cX9_count 10 = .ok (.iload_n 2, 1) := by decide +kernel
theorem dX9_count_11 : decode cX9_count 11 = .ok (.iconst 0, 1) := by decide +kernel
theorem dX9_count_12 : decode cX9_count 12 = .ok (.sipush 9999, 3) := by decide +kernel
theorem dX9_count_15 : decode cX9_count 15 = .ok (.invokestatic 85, 3) := by decide +kernel
theorem dX9_count_18 : decode cX9_count 18 = .ok (.ifCond .ne 6, 3) := by decide +kernel
theorem dX9_count_21 : decode cX9_count 21 = .ok (.ldc 223, 2) := by decide +kernel
theorem dX9_count_23 : decode cX9_count 23 = .ok (.ireturn, 1) := by decide +kernel
theorem dX9_count_24 : decode cX9_count 24 = .ok (.aload_n 3, 1) := by decide +kernel
theorem dX9_count_25 : decode cX9_count 25 = .ok (.getfield 110, 3) := by decide +kernel
theorem dX9_count_28 : decode cX9_count 28 = .ok (.iload_n 2, 1) := by decide +kernel
theorem dX9_count_29 : decode cX9_count 29 = .ok (.isub, 1) := by decide +kernel
theorem dX9_count_30 : decode cX9_count 30 = .ok (.istore 4, 2) := by decide +kernel
theorem dX9_count_32 : decode cX9_count 32 = .ok (.aload_n 3, 1) := by decide +kernel
theorem dX9_count_33 : decode cX9_count 33 = .ok (.iload_n 2, 1) := by decide +kernel
theorem dX9_count_34 : decode cX9_count 34 = .ok (.putfield 110, 3) := by decide +kernel
theorem dX9_count_37 : decode cX9_count 37 = .ok (.aload_n 3, 1) := by decide +kernel
theorem dX9_count_38 : decode cX9_count 38 = .ok (.dup, 1) := by decide +kernel
theorem dX9_count_39 : decode cX9_count 39 = .ok (.getfield 116, 3) := by decide +kernel
theorem dX9_count_42 : decode cX9_count 42 = .ok (.iload 4, 2) := by decide +kernel
theorem dX9_count_44 : decode cX9_count 44 = .ok (.aload_n 3, 1) := by decide +kernel
theorem dX9_count_45 : decode cX9_count 45 = .ok (.aload_n 0, 1) := by decide +kernel
theorem dX9_count_46 : decode cX9_count 46 = .ok (.getfield 73, 3) := by decide +kernel
theorem dX9_count_49 : decode cX9_count 49 = .ok (.invokevirtual 106, 3) := by decide +kernel
theorem dX9_count_52 : decode cX9_count 52 = .ok (.imul, 1) := by decide +kernel
theorem dX9_count_53 : decode cX9_count 53 = .ok (.iadd, 1) := by decide +kernel
theorem dX9_count_54 : decode cX9_count 54 = .ok (.putfield 116, 3) := by decide +kernel
theorem dX9_count_57 : decode cX9_count 57 = .ok (.iload 4, 2) := by decide +kernel
theorem dX9_count_59 : decode cX9_count 59 = .ok (.ireturn, 1) := by decide +kernel
theorem dX9_level_0 : decode cX9_level 0 = .ok (.iload_n 1, 1) := by decide +kernel
theorem dX9_level_1 : decode cX9_level 1 = .ok (.invokestatic 248, 3) := by decide +kernel
theorem dX9_level_4 : decode cX9_level 4 = .ok (.ifCond .eq 24, 3) := by decide +kernel
theorem dX9_level_7 : decode cX9_level 7 = .ok (.iload_n 2, 1) := by decide +kernel
theorem dX9_level_8 : decode cX9_level 8 = .ok (.iconst 0, 1) := by decide +kernel
theorem dX9_level_9 : decode cX9_level 9 = .ok (.sipush 999, 3) := by decide +kernel
theorem dX9_level_12 : decode cX9_level 12 = .ok (.invokestatic 85, 3) := by decide +kernel
theorem dX9_level_15 : decode cX9_level 15 = .ok (.ifCond .eq 13, 3) := by decide +kernel
theorem dX9_level_18 : decode cX9_level 18 = .ok (.iload_n 3, 1) := by decide +kernel
theorem dX9_level_19 : decode cX9_level 19 = .ok (.iconst 0, 1) := by decide +kernel
theorem dX9_level_20 : decode cX9_level 20 = .ok (.bipush 99, 2) := by decide +kernel
theorem dX9_level_22 : decode cX9_level 22 = .ok (.invokestatic 85, 3) := by decide +kernel
theorem dX9_level_25 : decode cX9_level 25 = .ok (.ifCond .ne 5, 3) := by decide +kernel
theorem dX9_level_28 : decode cX9_level 28 = .ok (.iconst 0, 1) := by decide +kernel
theorem dX9_level_29 : decode cX9_level 29 = .ok (.ireturn, 1) := by decide +kernel
theorem dX9_level_30 : decode cX9_level 30 = .ok (.aload_n 0, 1) := by decide +kernel
theorem dX9_level_31 : decode cX9_level 31 = .ok (.getfield 69, 3) := by decide +kernel
theorem dX9_level_34 : decode cX9_level 34 = .ok (.getfield 251, 3) := by decide +kernel
theorem dX9_level_37 : decode cX9_level 37 = .ok (.iload_n 1, 1) := by decide +kernel
theorem dX9_level_38 : decode cX9_level 38 = .ok (.iload_n 2, 1) := by decide +kernel
theorem dX9_level_39 : decode cX9_level 39 = .ok (.iastore, 1) := by decide +kernel
theorem dX9_level_40 : decode cX9_level 40 = .ok (.aload_n 0, 1) := by decide +kernel
theorem dX9_level_41 : decode cX9_level 41 = .ok (.getfield 69, 3) := by decide +kernel
theorem dX9_level_44 : decode cX9_level 44 = .ok (.getfield 255, 3) := by decide +kernel
theorem dX9_level_47 : decode cX9_level 47 = .ok (.iload_n 1, 1) := by decide +kernel
theorem dX9_level_48 : decode cX9_level 48 = .ok (.iload_n 3, 1) := by decide +kernel
theorem dX9_level_49 : decode cX9_level 49 = .ok (.iastore, 1) := by decide +kernel
theorem dX9_level_50 : decode cX9_level 50 = .ok (.iconst 1, 1) := by decide +kernel
theorem dX9_level_51 : decode cX9_level 51 = .ok (.ireturn, 1) := by decide +kernel
theorem dX9_best_0 : decode cX9_best 0 = .ok (.iload_n 1, 1) := by decide +kernel
theorem dX9_best_1 : decode cX9_best 1 = .ok (.iconst 0, 1) := by decide +kernel
theorem dX9_best_2 : decode cX9_best 2 = .ok (.sipush 200, 3) := by decide +kernel
theorem dX9_best_5 : decode cX9_best 5 = .ok (.invokestatic 85, 3) := by decide +kernel
theorem dX9_best_8 : decode cX9_best 8 = .ok (.ifCond .eq 20, 3) := by decide +kernel
theorem dX9_best_11 : decode cX9_best 11 = .ok (.iload_n 2, 1) := by decide +kernel
theorem dX9_best_12 : decode cX9_best 12 = .ok (.iconst 0, 1) := by decide +kernel
theorem dX9_best_13 : decode cX9_best 13 = .ok (.bipush 8, 2) := by decide +kernel
theorem dX9_best_15 : decode cX9_best 15 = .ok (.invokestatic 85, 3) := by decide +kernel
theorem dX9_best_18 : decode cX9_best 18 = .ok (.ifCond .eq 10, 3) := by decide +kernel
theorem dX9_best_21 : decode cX9_best 21 = .ok (.iload_n 3, 1) := by decide +kernel
theorem dX9_best_22 : decode cX9_best 22 = .ok (.invokestatic 248, 3) := by decide +kernel
theorem dX9_best_25 : decode cX9_best 25 = .ok (.ifCond .ne 5, 3) := by decide +kernel
theorem dX9_best_28 : decode cX9_best 28 = .ok (.iconst (-1), 1) := by decide +kernel
theorem dX9_best_29 : decode cX9_best 29 = .ok (.ireturn, 1) := by decide +kernel
theorem dX9_best_30 : decode cX9_best 30 = .ok (.aload_n 0, 1) := by decide +kernel
theorem dX9_best_31 : decode cX9_best 31 = .ok (.getfield 69, 3) := by decide +kernel
theorem dX9_best_34 : decode cX9_best 34 = .ok (.iload_n 1, 1) := by decide +kernel
theorem dX9_best_35 : decode cX9_best 35 = .ok (.iload_n 2, 1) := by decide +kernel
theorem dX9_best_36 : decode cX9_best 36 = .ok (.iload_n 3, 1) := by decide +kernel
theorem dX9_best_37 : decode cX9_best 37 = .ok (.invokevirtual 258, 3) := by decide +kernel
theorem dX9_best_40 : decode cX9_best 40 = .ok (.iload 4, 2) := by decide +kernel
theorem dX9_best_42 : decode cX9_best 42 = .ok (.ifCond .ne 11, 3) := by decide +kernel
theorem dX9_best_45 : decode cX9_best 45 = .ok (.aload_n 0, 1) := by decide +kernel
theorem dX9_best_46 : decode cX9_best 46 = .ok (.getfield 69, 3) := by decide +kernel
theorem dX9_best_49 : decode cX9_best 49 = .ok (.getfield 261, 3) := by decide +kernel
theorem dX9_best_52 : decode cX9_best 52 = .ok (.ireturn, 1) := by decide +kernel
theorem dX9_best_53 : decode cX9_best 53 = .ok (.iload 4, 2) := by decide +kernel
theorem dX9_best_55 : decode cX9_best 55 = .ok (.iconst 1, 1) := by decide +kernel
theorem dX9_best_56 : decode cX9_best 56 = .ok (.if_icmp .ne 11, 3) := by decide +kernel
theorem dX9_best_59 : decode cX9_best 59 = .ok (.aload_n 0, 1) := by decide +kernel
theorem dX9_best_60 : decode cX9_best 60 = .ok (.getfield 69, 3) := by decide +kernel
theorem dX9_best_63 : decode cX9_best 63 = .ok (.getfield 264, 3) := by decide +kernel
theorem dX9_best_66 : decode cX9_best 66 = .ok (.ireturn, 1) := by decide +kernel
theorem dX9_best_67 : decode cX9_best 67 = .ok (.iload 4, 2) := by decide +kernel
theorem dX9_best_69 : decode cX9_best 69 = .ok (.bipush 10, 2) := by decide +kernel
theorem dX9_best_71 : decode cX9_best 71 = .ok (.bipush 10, 2) := by decide +kernel
theorem dX9_best_73 : decode cX9_best 73 = .ok (.iload_n 2, 1) := by decide +kernel
theorem dX9_best_74 : decode cX9_best 74 = .ok (.iadd, 1) := by decide +kernel
theorem dX9_best_75 : decode cX9_best 75 = .ok (.iconst 1, 1) := by decide +kernel
theorem dX9_best_76 : decode cX9_best 76 = .ok (.isub, 1) := by decide +kernel
theorem dX9_best_77 : decode cX9_best 77 = .ok (.invokestatic 85, 3) := by decide +kernel
theorem dX9_best_80 : decode cX9_best 80 = .ok (.ifCond .eq 17, 3) := by decide +kernel
theorem dX9_best_83 : decode cX9_best 83 = .ok (.aload_n 0, 1) := by decide +kernel
theorem dX9_best_84 : decode cX9_best 84 = .ok (.getfield 69, 3) := by decide +kernel
theorem dX9_best_87 : decode cX9_best 87 = .ok (.getfield 267, 3) := by decide +kernel
theorem dX9_best_90 : decode cX9_best 90 = .ok (.iload 4, 2) := by decide +kernel
theorem dX9_best_92 : decode cX9_best 92 = .ok (.bipush 10, 2) := by decide +kernel
theorem dX9_best_94 : decode cX9_best 94 = .ok (.isub, 1) := by decide +kernel
theorem dX9_best_95 : decode cX9_best 95 = .ok (.iaload, 1) := by decide +kernel
theorem dX9_best_96 : decode cX9_best 96 = .ok (.ireturn, 1) := by decide +kernel
theorem dX9_best_97 : decode cX9_best 97 = .ok (.iconst (-1), 1) := by decide +kernel
theorem dX9_best_98 : decode cX9_best 98 = .ok (.ireturn, 1) := by decide +kernel
theorem dX9_thingAt_0 : decode cX9_thingAt 0 = .ok (.iload_n 1, 1) := by decide +kernel
theorem dX9_thingAt_1 : decode cX9_thingAt 1 = .ok (.ifCond .lt 28, 3) := by decide +kernel
theorem dX9_thingAt_4 : decode cX9_thingAt 4 = .ok (.iload_n 1, 1) := by decide +kernel
theorem dX9_thingAt_5 : decode cX9_thingAt 5 = .ok (.aload_n 0, 1) := by decide +kernel
theorem dX9_thingAt_6 : decode cX9_thingAt 6 = .ok (.getfield 12, 3) := by decide +kernel
theorem dX9_thingAt_9 : decode cX9_thingAt 9 = .ok (.invokevirtual 77, 3) := by decide +kernel
theorem dX9_thingAt_12 : decode cX9_thingAt 12 = .ok (.if_icmp .ge 17, 3) := by decide +kernel
theorem dX9_thingAt_15 : decode cX9_thingAt 15 = .ok (.aload_n 0, 1) := by decide +kernel
theorem dX9_thingAt_16 : decode cX9_thingAt 16 = .ok (.getfield 12, 3) := by decide +kernel
theorem dX9_thingAt_19 : decode cX9_thingAt 19 = .ok (.iload_n 1, 1) := by decide +kernel
theorem dX9_thingAt_20 : decode cX9_thingAt 20 = .ok (.invokevirtual 119, 3) := by decide +kernel
theorem dX9_thingAt_23 : decode cX9_thingAt 23 = .ok (.checkcast 89, 3) := by decide +kernel
theorem dX9_thingAt_26 : decode cX9_thingAt 26 = .ok (.goto 4, 3) := by decide +kernel
theorem dX9_thingAt_29 : decode cX9_thingAt 29 = .ok (.aconst_null, 1) := by decide +kernel
theorem dX9_thingAt_30 : decode cX9_thingAt 30 = .ok (.areturn, 1) := by decide +kernel
theorem dX9_slipAt_0 : decode cX9_slipAt 0 = .ok (.iload_n 1, 1) := by decide +kernel
theorem dX9_slipAt_1 : decode cX9_slipAt 1 = .ok (.ifCond .lt 28, 3) := by decide +kernel
theorem dX9_slipAt_4 : decode cX9_slipAt 4 = .ok (.iload_n 1, 1) := by decide +kernel
theorem dX9_slipAt_5 : decode cX9_slipAt 5 = .ok (.aload_n 0, 1) := by decide +kernel
theorem dX9_slipAt_6 : decode cX9_slipAt 6 = .ok (.getfield 16, 3) := by decide +kernel
theorem dX9_slipAt_9 : decode cX9_slipAt 9 = .ok (.invokevirtual 77, 3) := by decide +kernel
theorem dX9_slipAt_12 : decode cX9_slipAt 12 = .ok (.if_icmp .ge 17, 3) := by decide +kernel
theorem dX9_slipAt_15 : decode cX9_slipAt 15 = .ok (.aload_n 0, 1) := by decide +kernel
theorem dX9_slipAt_16 : decode cX9_slipAt 16 = .ok (.getfield 16, 3) := by decide +kernel
theorem dX9_slipAt_19 : decode cX9_slipAt 19 = .ok (.iload_n 1, 1) := by decide +kernel
theorem dX9_slipAt_20 : decode cX9_slipAt 20 = .ok (.invokevirtual 119, 3) := by decide +kernel
theorem dX9_slipAt_23 : decode cX9_slipAt 23 = .ok (.checkcast 127, 3) := by decide +kernel
theorem dX9_slipAt_26 : decode cX9_slipAt 26 = .ok (.goto 4, 3) := by decide +kernel
theorem dX9_slipAt_29 : decode cX9_slipAt 29 = .ok (.aconst_null, 1) := by decide +kernel
theorem dX9_slipAt_30 : decode cX9_slipAt 30 = .ok (.areturn, 1) := by decide +kernel
theorem dX9_countOnApproval_0 : decode cX9_countOnApproval 0 = .ok (.iconst 0, 1) := by decide +kernel
theorem dX9_countOnApproval_1 : decode cX9_countOnApproval 1 = .ok (.istore_n 1, 1) := by decide +kernel
theorem dX9_countOnApproval_2 : decode cX9_countOnApproval 2 = .ok (.iconst 0, 1) := by decide +kernel
theorem dX9_countOnApproval_3 : decode cX9_countOnApproval 3 = .ok (.istore_n 2, 1) := by decide +kernel
theorem dX9_countOnApproval_4 : decode cX9_countOnApproval 4 = .ok (.iload_n 2, 1) := by decide +kernel
theorem dX9_countOnApproval_5 : decode cX9_countOnApproval 5 = .ok (.aload_n 0, 1) := by decide +kernel
theorem dX9_countOnApproval_6 : decode cX9_countOnApproval 6 = .ok (.getfield 16, 3) := by decide +kernel
theorem dX9_countOnApproval_9 : decode cX9_countOnApproval 9 = .ok (.invokevirtual 77, 3) := by decide +kernel
theorem dX9_countOnApproval_12 : decode cX9_countOnApproval 12 = .ok (.if_icmp .ge 30, 3) := by decide +kernel
theorem dX9_countOnApproval_15 : decode cX9_countOnApproval 15 = .ok (.aload_n 0, 1) := by decide +kernel
theorem dX9_countOnApproval_16 : decode cX9_countOnApproval 16 = .ok (.getfield 16, 3) := by decide +kernel
theorem dX9_countOnApproval_19 : decode cX9_countOnApproval 19 = .ok (.iload_n 2, 1) := by decide +kernel
theorem dX9_countOnApproval_20 : decode cX9_countOnApproval 20 = .ok (.invokevirtual 119, 3) := by decide +kernel
theorem dX9_countOnApproval_23 : decode cX9_countOnApproval 23 = .ok (.checkcast 127, 3) := by decide +kernel
theorem dX9_countOnApproval_26 : decode cX9_countOnApproval 26 = .ok (.invokevirtual 155, 3) := by decide +kernel
theorem dX9_countOnApproval_29 : decode cX9_countOnApproval 29 = .ok (.iconst 1, 1) := by decide +kernel
theorem dX9_countOnApproval_30 : decode cX9_countOnApproval 30 = .ok (.if_icmp .ne 6, 3) := by decide +kernel
theorem dX9_countOnApproval_33 : decode cX9_countOnApproval 33 = .ok (.iinc 1 1, 3) := by decide +kernel
theorem dX9_countOnApproval_36 : decode cX9_countOnApproval 36 = .ok (.iinc 2 1, 3) := by decide +kernel
theorem dX9_countOnApproval_39 : decode cX9_countOnApproval 39 = .ok (.goto (-35), 3) := by decide +kernel
theorem dX9_countOnApproval_42 : decode cX9_countOnApproval 42 = .ok (.iload_n 1, 1) := by decide +kernel
theorem dX9_countOnApproval_43 : decode cX9_countOnApproval 43 = .ok (.ireturn, 1) := by decide +kernel
theorem dX9_countParcels_0 : decode cX9_countParcels 0 = .ok (.iconst 0, 1) := by decide +kernel
theorem dX9_countParcels_1 : decode cX9_countParcels 1 = .ok (.istore_n 1, 1) := by decide +kernel
theorem dX9_countParcels_2 : decode cX9_countParcels 2 = .ok (.iconst 0, 1) := by decide +kernel
theorem dX9_countParcels_3 : decode cX9_countParcels 3 = .ok (.istore_n 2, 1) := by decide +kernel
theorem dX9_countParcels_4 : decode cX9_countParcels 4 = .ok (.iload_n 2, 1) := by decide +kernel
theorem dX9_countParcels_5 : decode cX9_countParcels 5 = .ok (.aload_n 0, 1) := by decide +kernel
theorem dX9_countParcels_6 : decode cX9_countParcels 6 = .ok (.getfield 16, 3) := by decide +kernel
theorem dX9_countParcels_9 : decode cX9_countParcels 9 = .ok (.invokevirtual 77, 3) := by decide +kernel
theorem dX9_countParcels_12 : decode cX9_countParcels 12 = .ok (.if_icmp .ge 29, 3) := by decide +kernel
theorem dX9_countParcels_15 : decode cX9_countParcels 15 = .ok (.aload_n 0, 1) := by decide +kernel
theorem dX9_countParcels_16 : decode cX9_countParcels 16 = .ok (.getfield 16, 3) := by decide +kernel
theorem dX9_countParcels_19 : decode cX9_countParcels 19 = .ok (.iload_n 2, 1) := by decide +kernel
theorem dX9_countParcels_20 : decode cX9_countParcels 20 = .ok (.invokevirtual 119, 3) := by decide +kernel
theorem dX9_countParcels_23 : decode cX9_countParcels 23 = .ok (.checkcast 127, 3) := by decide +kernel
theorem dX9_countParcels_26 : decode cX9_countParcels 26 = .ok (.invokevirtual 270, 3) := by decide +kernel
theorem dX9_countParcels_29 : decode cX9_countParcels 29 = .ok (.ifCond .eq 6, 3) := by decide +kernel
theorem dX9_countParcels_32 : decode cX9_countParcels 32 = .ok (.iinc 1 1, 3) := by decide +kernel
theorem dX9_countParcels_35 : decode cX9_countParcels 35 = .ok (.iinc 2 1, 3) := by decide +kernel
theorem dX9_countParcels_38 : decode cX9_countParcels 38 = .ok (.goto (-34), 3) := by decide +kernel
theorem dX9_countParcels_41 : decode cX9_countParcels 41 = .ok (.iload_n 1, 1) := by decide +kernel
theorem dX9_countParcels_42 : decode cX9_countParcels 42 = .ok (.ireturn, 1) := by decide +kernel
theorem dX6_init_0 : decode cX6_init 0 = .ok (.aload_n 0, 1) := by decide +kernel
theorem dX6_init_1 : decode cX6_init 1 = .ok (.invokespecial 3, 3) := by decide +kernel
theorem dX6_init_4 : decode cX6_init 4 = .ok (.aload_n 0, 1) := by decide +kernel
theorem dX6_init_5 : decode cX6_init 5 = .ok (.sipush 364, 3) := by decide +kernel
theorem dX6_init_8 : decode cX6_init 8 = .ok (.newarray .int, 2) := by decide +kernel
theorem dX6_init_10 : decode cX6_init 10 = .ok (.putfield 9, 3) := by decide +kernel
theorem dX6_init_13 : decode cX6_init 13 = .ok (.aload_n 0, 1) := by decide +kernel
theorem dX6_init_14 : decode cX6_init 14 = .ok (.iload_n 1, 1) := by decide +kernel
theorem dX6_init_15 : decode cX6_init 15 = .ok (.putfield 15, 3) := by decide +kernel
theorem dX6_init_18 : decode cX6_init 18 = .ok (.aload_n 0, 1) := by decide +kernel
theorem dX6_init_19 : decode cX6_init 19 = .ok (.iload_n 3, 1) := by decide +kernel
theorem dX6_init_20 : decode cX6_init 20 = .ok (.putfield 19, 3) := by decide +kernel
theorem dX6_init_23 : decode cX6_init 23 = .ok (.iload_n 1, 1) := by decide +kernel
theorem dX6_init_24 : decode cX6_init 24 = .ok (.ifCond .lt 17, 3) := by decide +kernel
theorem dX6_init_27 : decode cX6_init 27 = .ok (.iload_n 1, 1) := by decide +kernel
theorem dX6_init_28 : decode cX6_init 28 = .ok (.sipush 364, 3) := by decide +kernel
theorem dX6_init_31 : decode cX6_init 31 = .ok (.if_icmp .ge 10, 3) := by decide +kernel
theorem dX6_init_34 : decode cX6_init 34 = .ok (.aload_n 0, 1) := by decide +kernel
theorem dX6_init_35 : decode cX6_init 35 = .ok (.getfield 9, 3) := by decide +kernel
theorem dX6_init_38 : decode cX6_init 38 = .ok (.iload_n 1, 1) := by decide +kernel
theorem dX6_init_39 : decode cX6_init 39 = .ok (.iload_n 2, 1) := by decide +kernel
theorem dX6_init_40 : decode cX6_init 40 = .ok (.iastore, 1) := by decide +kernel
theorem dX6_init_41 : decode cX6_init 41 = .ok (.return_, 1) := by decide +kernel
theorem dX3_init_0 : decode cX3_init 0 = .ok (.aload_n 0, 1) := by decide +kernel
theorem dX3_init_1 : decode cX3_init 1 = .ok (.invokespecial 3, 3) := by decide +kernel
theorem dX3_init_4 : decode cX3_init 4 = .ok (.aload_n 0, 1) := by decide +kernel
theorem dX3_init_5 : decode cX3_init 5 = .ok (.iload_n 1, 1) := by decide +kernel
theorem dX3_init_6 : decode cX3_init 6 = .ok (.putfield 9, 3) := by decide +kernel
theorem dX3_init_9 : decode cX3_init 9 = .ok (.aload_n 0, 1) := by decide +kernel
theorem dX3_init_10 : decode cX3_init 10 = .ok (.iload_n 2, 1) := by decide +kernel
theorem dX3_init_11 : decode cX3_init 11 = .ok (.putfield 15, 3) := by decide +kernel
theorem dX3_init_14 : decode cX3_init 14 = .ok (.aload_n 0, 1) := by decide +kernel
theorem dX3_init_15 : decode cX3_init 15 = .ok (.iload_n 3, 1) := by decide +kernel
theorem dX3_init_16 : decode cX3_init 16 = .ok (.putfield 18, 3) := by decide +kernel
theorem dX3_init_19 : decode cX3_init 19 = .ok (.aload_n 0, 1) := by decide +kernel
theorem dX3_init_20 : decode cX3_init 20 = .ok (.aload 4, 2) := by decide +kernel
theorem dX3_init_22 : decode cX3_init 22 = .ok (.putfield 21, 3) := by decide +kernel
theorem dX3_init_25 : decode cX3_init 25 = .ok (.aload_n 0, 1) := by decide +kernel
theorem dX3_init_26 : decode cX3_init 26 = .ok (.iload 5, 2) := by decide +kernel
theorem dX3_init_28 : decode cX3_init 28 = .ok (.putfield 25, 3) := by decide +kernel
theorem dX3_init_31 : decode cX3_init 31 = .ok (.aload_n 0, 1) := by decide +kernel
theorem dX3_init_32 : decode cX3_init 32 = .ok (.iload 6, 2) := by decide +kernel
theorem dX3_init_34 : decode cX3_init 34 = .ok (.putfield 28, 3) := by decide +kernel
theorem dX3_init_37 : decode cX3_init 37 = .ok (.aload_n 0, 1) := by decide +kernel
theorem dX3_init_38 : decode cX3_init 38 = .ok (.iload 7, 2) := by decide +kernel
theorem dX3_init_40 : decode cX3_init 40 = .ok (.putfield 31, 3) := by decide +kernel
theorem dX3_init_43 : decode cX3_init 43 = .ok (.aload_n 0, 1) := by decide +kernel
theorem dX3_init_44 : decode cX3_init 44 = .ok (.iload 5, 2) := by decide +kernel
theorem dX3_init_46 : decode cX3_init 46 = .ok (.aload 4, 2) := by decide +kernel
theorem dX3_init_48 : decode cX3_init 48 = .ok (.iload 7, 2) := by decide +kernel
theorem dX3_init_50 : decode cX3_init 50 = .ok (.invokevirtual 34, 3) := by decide +kernel
theorem dX3_init_53 : decode cX3_init 53 = .ok (.imul, 1) := by decide +kernel
theorem dX3_init_54 : decode cX3_init 54 = .ok (.putfield 40, 3) := by decide +kernel
theorem dX3_init_57 : decode cX3_init 57 = .ok (.aload_n 0, 1) := by decide +kernel
theorem dX3_init_58 : decode cX3_init 58 = .ok (.iload 7, 2) := by decide +kernel
theorem dX3_init_60 : decode cX3_init 60 = .ok (.putfield 43, 3) := by decide +kernel
theorem dX3_init_63 : decode cX3_init 63 = .ok (.aload_n 0, 1) := by decide +kernel
theorem dX3_init_64 : decode cX3_init 64 = .ok (.iconst (-1), 1) := by decide +kernel
theorem dX3_init_65 : decode cX3_init 65 = .ok (.putfield 46, 3) := by decide +kernel
theorem dX3_init_68 : decode cX3_init 68 = .ok (.aload_n 0, 1) := by decide +kernel
theorem dX3_init_69 : decode cX3_init 69 = .ok (.iconst (-1), 1) := by decide +kernel
theorem dX3_init_70 : decode cX3_init 70 = .ok (.putfield 49, 3) := by decide +kernel
theorem dX3_init_73 : decode cX3_init 73 = .ok (.aload_n 0, 1) := by decide +kernel
theorem dX3_init_74 : decode cX3_init 74 = .ok (.iconst (-1), 1) := by decide +kernel
theorem dX3_init_75 : decode cX3_init 75 = .ok (.putfield 52, 3) := by decide +kernel
theorem dX3_init_78 : decode cX3_init 78 = .ok (.return_, 1) := by decide +kernel
theorem dX0_init_0 : decode cX0_init 0 = .ok (.aload_n 0, 1) := by decide +kernel
theorem dX0_init_1 : decode cX0_init 1 = .ok (.invokespecial 3, 3) := by decide +kernel
theorem dX0_init_4 : decode cX0_init 4 = .ok (.aload_n 0, 1) := by decide +kernel
theorem dX0_init_5 : decode cX0_init 5 = .ok (.iconst 4, 1) := by decide +kernel
theorem dX0_init_6 : decode cX0_init 6 = .ok (.newarray .int, 2) := by decide +kernel
theorem dX0_init_8 : decode cX0_init 8 = .ok (.putfield 9, 3) := by decide +kernel
theorem dX0_init_11 : decode cX0_init 11 = .ok (.aload_n 0, 1) := by decide +kernel
theorem dX0_init_12 : decode cX0_init 12 = .ok (.iconst 4, 1) := by decide +kernel
theorem dX0_init_13 : decode cX0_init 13 = .ok (.newarray .int, 2) := by decide +kernel
theorem dX0_init_15 : decode cX0_init 15 = .ok (.putfield 15, 3) := by decide +kernel
theorem dX0_init_18 : decode cX0_init 18 = .ok (.aload_n 0, 1) := by decide +kernel
theorem dX0_init_19 : decode cX0_init 19 = .ok (.bipush 8, 2) := by decide +kernel
theorem dX0_init_21 : decode cX0_init 21 = .ok (.newarray .int, 2) := by decide +kernel
theorem dX0_init_23 : decode cX0_init 23 = .ok (.putfield 18, 3) := by decide +kernel
theorem dX0_init_26 : decode cX0_init 26 = .ok (.aload_n 0, 1) := by decide +kernel
theorem dX0_init_27 : decode cX0_init 27 = .ok (.bipush 8, 2) := by decide +kernel
theorem dX0_init_29 : decode cX0_init 29 = .ok (.newarray .int, 2) := by decide +kernel
theorem dX0_init_31 : decode cX0_init 31 = .ok (.putfield 21, 3) := by decide +kernel
theorem dX0_init_34 : decode cX0_init 34 = .ok (.aload_n 0, 1) := by decide +kernel
theorem dX0_init_35 : decode cX0_init 35 = .ok (.iconst (-1), 1) := by decide +kernel
theorem dX0_init_36 : decode cX0_init 36 = .ok (.putfield 24, 3) := by decide +kernel
theorem dX0_init_39 : decode cX0_init 39 = .ok (.aload_n 0, 1) := by decide +kernel
theorem dX0_init_40 : decode cX0_init 40 = .ok (.iconst 0, 1) := by decide +kernel
theorem dX0_init_41 : decode cX0_init 41 = .ok (.putfield 28, 3) := by decide +kernel
theorem dX0_init_44 : decode cX0_init 44 = .ok (.return_, 1) := by decide +kernel
theorem dX1_init_0 : decode cX1_init 0 = .ok (.aload_n 0, 1) := by decide +kernel
theorem dX1_init_1 : decode cX1_init 1 = .ok (.invokespecial 3, 3) := by decide +kernel
theorem dX1_init_4 : decode cX1_init 4 = .ok (.aload_n 0, 1) := by decide +kernel
theorem dX1_init_5 : decode cX1_init 5 = .ok (.sipush 400, 3) := by decide +kernel
theorem dX1_init_8 : decode cX1_init 8 = .ok (.newarray .int, 2) := by decide +kernel
theorem dX1_init_10 : decode cX1_init 10 = .ok (.putfield 9, 3) := by decide +kernel
theorem dX1_init_13 : decode cX1_init 13 = .ok (.aload_n 0, 1) := by decide +kernel
theorem dX1_init_14 : decode cX1_init 14 = .ok (.sipush 400, 3) := by decide +kernel
theorem dX1_init_17 : decode cX1_init 17 = .ok (.newarray .int, 2) := by decide +kernel
theorem dX1_init_19 : decode cX1_init 19 = .ok (.putfield 15, 3) := by decide +kernel
theorem dX1_init_22 : decode cX1_init 22 = .ok (.aload_n 0, 1) := by decide +kernel
theorem dX1_init_23 : decode cX1_init 23 = .ok (.bipush 8, 2) := by decide +kernel
theorem dX1_init_25 : decode cX1_init 25 = .ok (.newarray .int, 2) := by decide +kernel
theorem dX1_init_27 : decode cX1_init 27 = .ok (.putfield 18, 3) := by decide +kernel
theorem dX1_init_30 : decode cX1_init 30 = .ok (.aload_n 0, 1) := by decide +kernel
theorem dX1_init_31 : decode cX1_init 31 = .ok (.bipush 8, 2) := by decide +kernel
theorem dX1_init_33 : decode cX1_init 33 = .ok (.newarray .int, 2) := by decide +kernel
theorem dX1_init_35 : decode cX1_init 35 = .ok (.putfield 21, 3) := by decide +kernel
theorem dX1_init_38 : decode cX1_init 38 = .ok (.aload_n 0, 1) := by decide +kernel
theorem dX1_init_39 : decode cX1_init 39 = .ok (.bipush 8, 2) := by decide +kernel
theorem dX1_init_41 : decode cX1_init 41 = .ok (.newarray .int, 2) := by decide +kernel
theorem dX1_init_43 : decode cX1_init 43 = .ok (.putfield 24, 3) := by decide +kernel
theorem dX1_init_46 : decode cX1_init 46 = .ok (.aload_n 0, 1) := by decide +kernel
theorem dX1_init_47 : decode cX1_init 47 = .ok (.bipush 64, 2) := by decide +kernel
theorem dX1_init_49 : decode cX1_init 49 = .ok (.newarray .int, 2) := by decide +kernel
theorem dX1_init_51 : decode cX1_init 51 = .ok (.putfield 27, 3) := by decide +kernel
theorem dX1_init_54 : decode cX1_init 54 = .ok (.aload_n 0, 1) := by decide +kernel
theorem dX1_init_55 : decode cX1_init 55 = .ok (.iconst 0, 1) := by decide +kernel
theorem dX1_init_56 : decode cX1_init 56 = .ok (.putfield 30, 3) := by decide +kernel
theorem dX1_init_59 : decode cX1_init 59 = .ok (.aload_n 0, 1) := by decide +kernel
theorem dX1_init_60 : decode cX1_init 60 = .ok (.iconst 0, 1) := by decide +kernel
theorem dX1_init_61 : decode cX1_init 61 = .ok (.putfield 34, 3) := by decide +kernel
theorem dX1_init_64 : decode cX1_init 64 = .ok (.aload_n 0, 1) := by decide +kernel
theorem dX1_init_65 : decode cX1_init 65 = .ok (.iconst 0, 1) := by decide +kernel
theorem dX1_init_66 : decode cX1_init 66 = .ok (.putfield 37, 3) := by decide +kernel
theorem dX1_init_69 : decode cX1_init 69 = .ok (.return_, 1) := by decide +kernel
theorem dX2_init_0 : decode cX2_init 0 = .ok (.aload_n 0, 1) := by decide +kernel
theorem dX2_init_1 : decode cX2_init 1 = .ok (.invokespecial 3, 3) := by decide +kernel
theorem dX2_init_4 : decode cX2_init 4 = .ok (.aload_n 0, 1) := by decide +kernel
theorem dX2_init_5 : decode cX2_init 5 = .ok (.aload_n 1, 1) := by decide +kernel
theorem dX2_init_6 : decode cX2_init 6 = .ok (.putfield 9, 3) := by decide +kernel
theorem dX2_init_9 : decode cX2_init 9 = .ok (.aload_n 0, 1) := by decide +kernel
theorem dX2_init_10 : decode cX2_init 10 = .ok (.aload_n 2, 1) := by decide +kernel
theorem dX2_init_11 : decode cX2_init 11 = .ok (.putfield 15, 3) := by decide +kernel
theorem dX2_init_14 : decode cX2_init 14 = .ok (.aload_n 0, 1) := by decide +kernel
theorem dX2_init_15 : decode cX2_init 15 = .ok (.iconst 0, 1) := by decide +kernel
theorem dX2_init_16 : decode cX2_init 16 = .ok (.putfield 19, 3) := by decide +kernel
theorem dX2_init_19 : decode cX2_init 19 = .ok (.aload_n 0, 1) := by decide +kernel
theorem dX2_init_20 : decode cX2_init 20 = .ok (.iconst 0, 1) := by decide +kernel
theorem dX2_init_21 : decode cX2_init 21 = .ok (.putfield 23, 3) := by decide +kernel
theorem dX2_init_24 : decode cX2_init 24 = .ok (.aload_n 0, 1) := by decide +kernel
theorem dX2_init_25 : decode cX2_init 25 = .ok (.iconst (-1), 1) := by decide +kernel
theorem dX2_init_26 : decode cX2_init 26 = .ok (.putfield 26, 3) := by decide +kernel
theorem dX2_init_29 : decode cX2_init 29 = .ok (.return_, 1) := by decide +kernel
theorem dX4_init_0 : decode cX4_init 0 = .ok (.aload_n 0, 1) := by decide +kernel
theorem dX4_init_1 : decode cX4_init 1 = .ok (.invokespecial 1, 3) := by decide +kernel
theorem dX4_init_4 : decode cX4_init 4 = .ok (.aload_n 0, 1) := by decide +kernel
theorem dX4_init_5 : decode cX4_init 5 = .ok (.iconst 0, 1) := by decide +kernel
theorem dX4_init_6 : decode cX4_init 6 = .ok (.putfield 7, 3) := by decide +kernel
theorem dX4_init_9 : decode cX4_init 9 = .ok (.aload_n 0, 1) := by decide +kernel
theorem dX4_init_10 : decode cX4_init 10 = .ok (.iconst 0, 1) := by decide +kernel
theorem dX4_init_11 : decode cX4_init 11 = .ok (.putfield 13, 3) := by decide +kernel
theorem dX4_init_14 : decode cX4_init 14 = .ok (.aload_n 0, 1) := by decide +kernel
theorem dX4_init_15 : decode cX4_init 15 = .ok (.iconst 0, 1) := by decide +kernel
theorem dX4_init_16 : decode cX4_init 16 = .ok (.putfield 16, 3) := by decide +kernel
theorem dX4_init_19 : decode cX4_init 19 = .ok (.aload_n 0, 1) := by decide +kernel
theorem dX4_init_20 : decode cX4_init 20 = .ok (.iconst 0, 1) := by decide +kernel
theorem dX4_init_21 : decode cX4_init 21 = .ok (.putfield 19, 3) := by decide +kernel
theorem dX4_init_24 : decode cX4_init 24 = .ok (.return_, 1) := by decide +kernel
theorem dX5_init_0 : decode cX5_init 0 = .ok (.aload_n 0, 1) := by decide +kernel
theorem dX5_init_1 : decode cX5_init 1 = .ok (.invokespecial 3, 3) := by decide +kernel
theorem dX5_init_4 : decode cX5_init 4 = .ok (.aload_n 0, 1) := by decide +kernel
theorem dX5_init_5 : decode cX5_init 5 = .ok (.sipush 400, 3) := by decide +kernel
theorem dX5_init_8 : decode cX5_init 8 = .ok (.newarray .byte, 2) := by decide +kernel
theorem dX5_init_10 : decode cX5_init 10 = .ok (.putfield 9, 3) := by decide +kernel
theorem dX5_init_13 : decode cX5_init 13 = .ok (.aload_n 0, 1) := by decide +kernel
theorem dX5_init_14 : decode cX5_init 14 = .ok (.iconst 0, 1) := by decide +kernel
theorem dX5_init_15 : decode cX5_init 15 = .ok (.putfield 15, 3) := by decide +kernel
theorem dX5_init_18 : decode cX5_init 18 = .ok (.return_, 1) := by decide +kernel
theorem dX7_init_0 : decode cX7_init 0 = .ok (.aload_n 0, 1) := by decide +kernel
theorem dX7_init_1 : decode cX7_init 1 = .ok (.invokespecial 3, 3) := by decide +kernel
theorem dX7_init_4 : decode cX7_init 4 = .ok (.aload_n 0, 1) := by decide +kernel
theorem dX7_init_5 : decode cX7_init 5 = .ok (.sipush 401, 3) := by decide +kernel
theorem dX7_init_8 : decode cX7_init 8 = .ok (.newarray .int, 2) := by decide +kernel
theorem dX7_init_10 : decode cX7_init 10 = .ok (.putfield 9, 3) := by decide +kernel
theorem dX7_init_13 : decode cX7_init 13 = .ok (.aload_n 0, 1) := by decide +kernel
theorem dX7_init_14 : decode cX7_init 14 = .ok (.sipush 401, 3) := by decide +kernel
theorem dX7_init_17 : decode cX7_init 17 = .ok (.newarray .int, 2) := by decide +kernel
theorem dX7_init_19 : decode cX7_init 19 = .ok (.putfield 15, 3) := by decide +kernel
theorem dX7_init_22 : decode cX7_init 22 = .ok (.aload_n 0, 1) := by decide +kernel
theorem dX7_init_23 : decode cX7_init 23 = .ok (.sipush 401, 3) := by decide +kernel
theorem dX7_init_26 : decode cX7_init 26 = .ok (.newarray .int, 2) := by decide +kernel
theorem dX7_init_28 : decode cX7_init 28 = .ok (.putfield 18, 3) := by decide +kernel
theorem dX7_init_31 : decode cX7_init 31 = .ok (.aload_n 0, 1) := by decide +kernel
theorem dX7_init_32 : decode cX7_init 32 = .ok (.iconst 0, 1) := by decide +kernel
theorem dX7_init_33 : decode cX7_init 33 = .ok (.putfield 21, 3) := by decide +kernel
theorem dX7_init_36 : decode cX7_init 36 = .ok (.return_, 1) := by decide +kernel
theorem dX8_init_0 : decode cX8_init 0 = .ok (.aload_n 0, 1) := by decide +kernel
theorem dX8_init_1 : decode cX8_init 1 = .ok (.invokespecial 3, 3) := by decide +kernel
theorem dX8_init_4 : decode cX8_init 4 = .ok (.aload_n 0, 1) := by decide +kernel
theorem dX8_init_5 : decode cX8_init 5 = .ok (.bipush 20, 2) := by decide +kernel
theorem dX8_init_7 : decode cX8_init 7 = .ok (.newarray .int, 2) := by decide +kernel
theorem dX8_init_9 : decode cX8_init 9 = .ok (.putfield 9, 3) := by decide +kernel
theorem dX8_init_12 : decode cX8_init 12 = .ok (.aload_n 0, 1) := by decide +kernel
theorem dX8_init_13 : decode cX8_init 13 = .ok (.bipush 20, 2) := by decide +kernel
theorem dX8_init_15 : decode cX8_init 15 = .ok (.newarray .boolean, 2) := by decide +kernel
theorem dX8_init_17 : decode cX8_init 17 = .ok (.putfield 15, 3) := by decide +kernel
theorem dX8_init_20 : decode cX8_init 20 = .ok (.aload_n 0, 1) := by decide +kernel
theorem dX8_init_21 : decode cX8_init 21 = .ok (.iconst 0, 1) := by decide +kernel
theorem dX8_init_22 : decode cX8_init 22 = .ok (.putfield 19, 3) := by decide +kernel
theorem dX8_init_25 : decode cX8_init 25 = .ok (.aload_n 0, 1) := by decide +kernel
theorem dX8_init_26 : decode cX8_init 26 = .ok (.iconst 0, 1) := by decide +kernel
theorem dX8_init_27 : decode cX8_init 27 = .ok (.putfield 23, 3) := by decide +kernel
theorem dX8_init_30 : decode cX8_init 30 = .ok (.return_, 1) := by decide +kernel
theorem dX9_init_0 : decode cX9_init 0 = .ok (.aload_n 0, 1) := by decide +kernel
theorem dX9_init_1 : decode cX9_init 1 = .ok (.invokespecial 3, 3) := by decide +kernel
theorem dX9_init_4 : decode cX9_init 4 = .ok (.aload_n 0, 1) := by decide +kernel
theorem dX9_init_5 : decode cX9_init 5 = .ok (.new 9, 3) := by decide +kernel
theorem dX9_init_8 : decode cX9_init 8 = .ok (.dup, 1) := by decide +kernel
theorem dX9_init_9 : decode cX9_init 9 = .ok (.invokespecial 11, 3) := by decide +kernel
theorem dX9_init_12 : decode cX9_init 12 = .ok (.putfield 12, 3) := by decide +kernel
theorem dX9_init_15 : decode cX9_init 15 = .ok (.aload_n 0, 1) := by decide +kernel
theorem dX9_init_16 : decode cX9_init 16 = .ok (.new 9, 3) := by decide +kernel
theorem dX9_init_19 : decode cX9_init 19 = .ok (.dup, 1) := by decide +kernel
theorem dX9_init_20 : decode cX9_init 20 = .ok (.invokespecial 11, 3) := by decide +kernel
theorem dX9_init_23 : decode cX9_init 23 = .ok (.putfield 16, 3) := by decide +kernel
theorem dX9_init_26 : decode cX9_init 26 = .ok (.aload_n 0, 1) := by decide +kernel
theorem dX9_init_27 : decode cX9_init 27 = .ok (.new 19, 3) := by decide +kernel
theorem dX9_init_30 : decode cX9_init 30 = .ok (.dup, 1) := by decide +kernel
theorem dX9_init_31 : decode cX9_init 31 = .ok (.invokespecial 21, 3) := by decide +kernel
theorem dX9_init_34 : decode cX9_init 34 = .ok (.putfield 22, 3) := by decide +kernel
theorem dX9_init_37 : decode cX9_init 37 = .ok (.aload_n 0, 1) := by decide +kernel
theorem dX9_init_38 : decode cX9_init 38 = .ok (.new 26, 3) := by decide +kernel
theorem dX9_init_41 : decode cX9_init 41 = .ok (.dup, 1) := by decide +kernel
theorem dX9_init_42 : decode cX9_init 42 = .ok (.invokespecial 28, 3) := by decide +kernel
theorem dX9_init_45 : decode cX9_init 45 = .ok (.putfield 29, 3) := by decide +kernel
theorem dX9_init_48 : decode cX9_init 48 = .ok (.aload_n 0, 1) := by decide +kernel
theorem dX9_init_49 : decode cX9_init 49 = .ok (.new 33, 3) := by decide +kernel
theorem dX9_init_52 : decode cX9_init 52 = .ok (.dup, 1) := by decide +kernel
theorem dX9_init_53 : decode cX9_init 53 = .ok (.invokespecial 35, 3) := by decide +kernel
theorem dX9_init_56 : decode cX9_init 56 = .ok (.putfield 36, 3) := by decide +kernel
theorem dX9_init_59 : decode cX9_init 59 = .ok (.aload_n 0, 1) := by decide +kernel
theorem dX9_init_60 : decode cX9_init 60 = .ok (.new 40, 3) := by decide +kernel
theorem dX9_init_63 : decode cX9_init 63 = .ok (.dup, 1) := by decide +kernel
theorem dX9_init_64 : decode cX9_init 64 = .ok (.invokespecial 42, 3) := by decide +kernel
theorem dX9_init_67 : decode cX9_init 67 = .ok (.putfield 43, 3) := by decide +kernel
theorem dX9_init_70 : decode cX9_init 70 = .ok (.aload_n 0, 1) := by decide +kernel
theorem dX9_init_71 : decode cX9_init 71 = .ok (.new 40, 3) := by decide +kernel
theorem dX9_init_74 : decode cX9_init 74 = .ok (.dup, 1) := by decide +kernel
theorem dX9_init_75 : decode cX9_init 75 = .ok (.invokespecial 42, 3) := by decide +kernel
theorem dX9_init_78 : decode cX9_init 78 = .ok (.putfield 47, 3) := by decide +kernel
theorem dX9_init_81 : decode cX9_init 81 = .ok (.aload_n 0, 1) := by decide +kernel
theorem dX9_init_82 : decode cX9_init 82 = .ok (.new 50, 3) := by decide +kernel
theorem dX9_init_85 : decode cX9_init 85 = .ok (.dup, 1) := by decide +kernel
theorem dX9_init_86 : decode cX9_init 86 = .ok (.aload_n 0, 1) := by decide +kernel
theorem dX9_init_87 : decode cX9_init 87 = .ok (.getfield 36, 3) := by decide +kernel
theorem dX9_init_90 : decode cX9_init 90 = .ok (.aload_n 0, 1) := by decide +kernel
theorem dX9_init_91 : decode cX9_init 91 = .ok (.getfield 47, 3) := by decide +kernel
theorem dX9_init_94 : decode cX9_init 94 = .ok (.invokespecial 52, 3) := by decide +kernel
theorem dX9_init_97 : decode cX9_init 97 = .ok (.putfield 55, 3) := by decide +kernel
theorem dX9_init_100 : decode cX9_init 100 = .ok (.aload_n 0, 1) := by decide +kernel
theorem dX9_init_101 : decode cX9_init 101 = .ok (.new 59, 3) := by decide +kernel
theorem dX9_init_104 : decode cX9_init 104 = .ok (.dup, 1) := by decide +kernel
theorem dX9_init_105 : decode cX9_init 105 = .ok (.invokespecial 61, 3) := by decide +kernel
theorem dX9_init_108 : decode cX9_init 108 = .ok (.putfield 62, 3) := by decide +kernel
theorem dX9_init_111 : decode cX9_init 111 = .ok (.aload_n 0, 1) := by decide +kernel
theorem dX9_init_112 : decode cX9_init 112 = .ok (.new 66, 3) := by decide +kernel
theorem dX9_init_115 : decode cX9_init 115 = .ok (.dup, 1) := by decide +kernel
theorem dX9_init_116 : decode cX9_init 116 = .ok (.invokespecial 68, 3) := by decide +kernel
theorem dX9_init_119 : decode cX9_init 119 = .ok (.putfield 69, 3) := by decide +kernel
theorem dX9_init_122 : decode cX9_init 122 = .ok (.aload_n 0, 1) := by decide +kernel
theorem dX9_init_123 : decode cX9_init 123 = .ok (.iconst 0, 1) := by decide +kernel
theorem dX9_init_124 : decode cX9_init 124 = .ok (.putfield 73, 3) := by decide +kernel
theorem dX9_init_127 : decode cX9_init 127 = .ok (.return_, 1) := by decide +kernel

theorem dX10_isIn_0 : decode cX10_isIn 0 = .ok (.iload_n 0, 1) := by decide +kernel
theorem dX10_isIn_1 : decode cX10_isIn 1 = .ok (.iload_n 1, 1) := by decide +kernel
theorem dX10_isIn_2 : decode cX10_isIn 2 = .ok (.if_icmp .lt 12, 3) := by decide +kernel
theorem dX10_isIn_5 : decode cX10_isIn 5 = .ok (.iload_n 0, 1) := by decide +kernel
theorem dX10_isIn_6 : decode cX10_isIn 6 = .ok (.iload_n 2, 1) := by decide +kernel
theorem dX10_isIn_7 : decode cX10_isIn 7 = .ok (.if_icmp .gt 7, 3) := by decide +kernel
theorem dX10_isIn_10 : decode cX10_isIn 10 = .ok (.iconst 1, 1) := by decide +kernel
theorem dX10_isIn_11 : decode cX10_isIn 11 = .ok (.goto 4, 3) := by decide +kernel
theorem dX10_isIn_14 : decode cX10_isIn 14 = .ok (.iconst 0, 1) := by decide +kernel
theorem dX10_isIn_15 : decode cX10_isIn 15 = .ok (.ireturn, 1) := by decide +kernel
theorem dX10_isThing_0 : decode cX10_isThing 0 = .ok (.iload_n 1, 1) := by decide +kernel
theorem dX10_isThing_1 : decode cX10_isThing 1 = .ok (.iconst 0, 1) := by decide +kernel
theorem dX10_isThing_2 : decode cX10_isThing 2 = .ok (.aload_n 0, 1) := by decide +kernel
theorem dX10_isThing_3 : decode cX10_isThing 3 = .ok (.getfield 108, 3) := by decide +kernel
theorem dX10_isThing_6 : decode cX10_isThing 6 = .ok (.iconst 1, 1) := by decide +kernel
theorem dX10_isThing_7 : decode cX10_isThing 7 = .ok (.isub, 1) := by decide +kernel
theorem dX10_isThing_8 : decode cX10_isThing 8 = .ok (.invokestatic 111, 3) := by decide +kernel
theorem dX10_isThing_11 : decode cX10_isThing 11 = .ok (.ireturn, 1) := by decide +kernel
theorem dX10_isTag_0 : decode cX10_isTag 0 = .ok (.iload_n 0, 1) := by decide +kernel
theorem dX10_isTag_1 : decode cX10_isTag 1 = .ok (.iconst 1, 1) := by decide +kernel
theorem dX10_isTag_2 : decode cX10_isTag 2 = .ok (.sipush 9999, 3) := by decide +kernel
theorem dX10_isTag_5 : decode cX10_isTag 5 = .ok (.invokestatic 111, 3) := by decide +kernel
theorem dX10_isTag_8 : decode cX10_isTag 8 = .ok (.ireturn, 1) := by decide +kernel
theorem dX10_isSlip_0 : decode cX10_isSlip 0 = .ok (.iload_n 1, 1) := by decide +kernel
theorem dX10_isSlip_1 : decode cX10_isSlip 1 = .ok (.iconst 0, 1) := by decide +kernel
theorem dX10_isSlip_2 : decode cX10_isSlip 2 = .ok (.aload_n 0, 1) := by decide +kernel
theorem dX10_isSlip_3 : decode cX10_isSlip 3 = .ok (.getfield 125, 3) := by decide +kernel
theorem dX10_isSlip_6 : decode cX10_isSlip 6 = .ok (.iconst 1, 1) := by decide +kernel
theorem dX10_isSlip_7 : decode cX10_isSlip 7 = .ok (.isub, 1) := by decide +kernel
theorem dX10_isSlip_8 : decode cX10_isSlip 8 = .ok (.invokestatic 111, 3) := by decide +kernel
theorem dX10_isSlip_11 : decode cX10_isSlip 11 = .ok (.ireturn, 1) := by decide +kernel
theorem dX10_isParcel_0 : decode cX10_isParcel 0 = .ok (.aload_n 0, 1) := by decide +kernel
theorem dX10_isParcel_1 : decode cX10_isParcel 1 = .ok (.getfield 40, 3) := by decide +kernel
theorem dX10_isParcel_4 : decode cX10_isParcel 4 = .ok (.iload_n 1, 1) := by decide +kernel
theorem dX10_isParcel_5 : decode cX10_isParcel 5 = .ok (.iaload, 1) := by decide +kernel
theorem dX10_isParcel_6 : decode cX10_isParcel 6 = .ok (.iconst (-1), 1) := by decide +kernel
theorem dX10_isParcel_7 : decode cX10_isParcel 7 = .ok (.if_icmp .eq 27, 3) := by decide +kernel
theorem dX10_isParcel_10 : decode cX10_isParcel 10 = .ok (.aload_n 0, 1) := by decide +kernel
theorem dX10_isParcel_11 : decode cX10_isParcel 11 = .ok (.getfield 55, 3) := by decide +kernel
theorem dX10_isParcel_14 : decode cX10_isParcel 14 = .ok (.iload_n 1, 1) := by decide +kernel
theorem dX10_isParcel_15 : decode cX10_isParcel 15 = .ok (.iaload, 1) := by decide +kernel
theorem dX10_isParcel_16 : decode cX10_isParcel 16 = .ok (.iconst (-1), 1) := by decide +kernel
theorem dX10_isParcel_17 : decode cX10_isParcel 17 = .ok (.if_icmp .ne 17, 3) := by decide +kernel
theorem dX10_isParcel_20 : decode cX10_isParcel 20 = .ok (.aload_n 0, 1) := by decide +kernel
theorem dX10_isParcel_21 : decode cX10_isParcel 21 = .ok (.getfield 52, 3) := by decide +kernel
theorem dX10_isParcel_24 : decode cX10_isParcel 24 = .ok (.iload_n 1, 1) := by decide +kernel
theorem dX10_isParcel_25 : decode cX10_isParcel 25 = .ok (.iaload, 1) := by decide +kernel
theorem dX10_isParcel_26 : decode cX10_isParcel 26 = .ok (.iconst (-1), 1) := by decide +kernel
theorem dX10_isParcel_27 : decode cX10_isParcel 27 = .ok (.if_icmp .ne 7, 3) := by decide +kernel
theorem dX10_isParcel_30 : decode cX10_isParcel 30 = .ok (.iconst 1, 1) := by decide +kernel
theorem dX10_isParcel_31 : decode cX10_isParcel 31 = .ok (.goto 4, 3) := by decide +kernel
theorem dX10_isParcel_34 : decode cX10_isParcel 34 = .ok (.iconst 0, 1) := by decide +kernel
theorem dX10_isParcel_35 : decode cX10_isParcel 35 = .ok (.ireturn, 1) := by decide +kernel
theorem dX10_see_0 : decode cX10_see 0 = .ok (.iload_n 1, 1) := by decide +kernel
theorem dX10_see_1 : decode cX10_see 1 = .ok (.aload_n 0, 1) := by decide +kernel
theorem dX10_see_2 : decode cX10_see 2 = .ok (.getfield 143, 3) := by decide +kernel
theorem dX10_see_5 : decode cX10_see 5 = .ok (.if_icmp .ge 12, 3) := by decide +kernel
theorem dX10_see_8 : decode cX10_see 8 = .ok (.aload_n 0, 1) := by decide +kernel
theorem dX10_see_9 : decode cX10_see 9 = .ok (.getfield 89, 3) := by decide +kernel
theorem dX10_see_12 : decode cX10_see 12 = .ok (.iload_n 1, 1) := by decide +kernel
theorem dX10_see_13 : decode cX10_see 13 = .ok (.iaload, 1) := by decide +kernel
theorem dX10_see_14 : decode cX10_see 14 = .ok (.goto 4, 3) := by decide +kernel
theorem dX10_see_17 : decode cX10_see 17 = .ok (.iconst (-1), 1) := by decide +kernel
theorem dX10_see_18 : decode cX10_see 18 = .ok (.ireturn, 1) := by decide +kernel
theorem dX10_isLetter_0 : decode cX10_isLetter 0 = .ok (.iload_n 0, 1) := by decide +kernel
theorem dX10_isLetter_1 : decode cX10_isLetter 1 = .ok (.bipush 97, 2) := by decide +kernel
theorem dX10_isLetter_3 : decode cX10_isLetter 3 = .ok (.bipush 122, 2) := by decide +kernel
theorem dX10_isLetter_5 : decode cX10_isLetter 5 = .ok (.invokestatic 111, 3) := by decide +kernel
theorem dX10_isLetter_8 : decode cX10_isLetter 8 = .ok (.ifCond .ne 14, 3) := by decide +kernel
theorem dX10_isLetter_11 : decode cX10_isLetter 11 = .ok (.iload_n 0, 1) := by decide +kernel
theorem dX10_isLetter_12 : decode cX10_isLetter 12 = .ok (.bipush 65, 2) := by decide +kernel
theorem dX10_isLetter_14 : decode cX10_isLetter 14 = .ok (.bipush 90, 2) := by decide +kernel
theorem dX10_isLetter_16 : decode cX10_isLetter 16 = .ok (.invokestatic 111, 3) := by decide +kernel
theorem dX10_isLetter_19 : decode cX10_isLetter 19 = .ok (.ifCond .eq 7, 3) := by decide +kernel
theorem dX10_isLetter_22 : decode cX10_isLetter 22 = .ok (.iconst 1, 1) := by decide +kernel
theorem dX10_isLetter_23 : decode cX10_isLetter 23 = .ok (.goto 4, 3) := by decide +kernel
theorem dX10_isLetter_26 : decode cX10_isLetter 26 = .ok (.iconst 0, 1) := by decide +kernel
theorem dX10_isLetter_27 : decode cX10_isLetter 27 = .ok (.ireturn, 1) := by decide +kernel
theorem dX10_isDigit_0 : decode cX10_isDigit 0 = .ok (.iload_n 0, 1) := by decide +kernel
theorem dX10_isDigit_1 : decode cX10_isDigit 1 = .ok (.bipush 48, 2) := by decide +kernel
theorem dX10_isDigit_3 : decode cX10_isDigit 3 = .ok (.bipush 57, 2) := by decide +kernel
theorem dX10_isDigit_5 : decode cX10_isDigit 5 = .ok (.invokestatic 111, 3) := by decide +kernel
theorem dX10_isDigit_8 : decode cX10_isDigit 8 = .ok (.ireturn, 1) := by decide +kernel
theorem dX10_word_0 : decode cX10_word 0 = .ok (.lload_n 0, 1) := by decide +kernel
theorem dX10_word_1 : decode cX10_word 1 = .ok (.ldc2_w 146, 3) := by decide +kernel
theorem dX10_word_4 : decode cX10_word 4 = .ok (.lcmp, 1) := by decide +kernel
theorem dX10_word_5 : decode cX10_word 5 = .ok (.ifCond .ne 5, 3) := by decide +kernel
theorem dX10_word_8 : decode cX10_word 8 = .ok (.iconst 3, 1) := by decide +kernel
theorem dX10_word_9 : decode cX10_word 9 = .ok (.ireturn, 1) := by decide +kernel
theorem dX10_word_10 : decode cX10_word 10 = .ok (.lload_n 0, 1) := by decide +kernel
theorem dX10_word_11 : decode cX10_word 11 = .ok (.ldc2_w 148, 3) := by decide +kernel
theorem dX10_word_14 : decode cX10_word 14 = .ok (.lcmp, 1) := by decide +kernel
theorem dX10_word_15 : decode cX10_word 15 = .ok (.ifCond .ne 5, 3) := by decide +kernel
theorem dX10_word_18 : decode cX10_word 18 = .ok (.iconst 4, 1) := by decide +kernel
theorem dX10_word_19 : decode cX10_word 19 = .ok (.ireturn, 1) := by decide +kernel
theorem dX10_word_20 : decode cX10_word 20 = .ok (.lload_n 0, 1) := by decide +kernel
theorem dX10_word_21 : decode cX10_word 21 = .ok (.ldc2_w 150, 3) := by decide +kernel
theorem dX10_word_24 : decode cX10_word 24 = .ok (.lcmp, 1) := by decide +kernel
theorem dX10_word_25 : decode cX10_word 25 = .ok (.ifCond .ne 5, 3) := by decide +kernel
theorem dX10_word_28 : decode cX10_word 28 = .ok (.iconst 5, 1) := by decide +kernel
theorem dX10_word_29 : decode cX10_word 29 = .ok (.ireturn, 1) := by decide +kernel
theorem dX10_word_30 : decode cX10_word 30 = .ok (.lload_n 0, 1) := by decide +kernel
theorem dX10_word_31 : decode cX10_word 31 = .ok (.ldc2_w 152, 3) := by decide +kernel
theorem dX10_word_34 : decode cX10_word 34 = .ok (.lcmp, 1) := by decide +kernel
theorem dX10_word_35 : decode cX10_word 35 = .ok (.ifCond .ne 6, 3) := by decide +kernel
theorem dX10_word_38 : decode cX10_word 38 = .ok (.ldc 154, 2) := by decide +kernel
theorem dX10_word_40 : decode cX10_word 40 = .ok (.ireturn, 1) := by decide +kernel
theorem dX10_word_41 : decode cX10_word 41 = .ok (.lload_n 0, 1) := by decide +kernel
theorem dX10_word_42 : decode cX10_word 42 = .ok (.ldc2_w 155, 3) := by decide +kernel
theorem dX10_word_45 : decode cX10_word 45 = .ok (.lcmp, 1) := by decide +kernel
theorem dX10_word_46 : decode cX10_word 46 = .ok (.ifCond .ne 6, 3) := by decide +kernel
theorem dX10_word_49 : decode cX10_word 49 = .ok (.ldc 157, 2) := by decide +kernel
theorem dX10_word_51 : decode cX10_word 51 = .ok (.ireturn, 1) := by decide +kernel
theorem dX10_word_52 : decode cX10_word 52 = .ok (.lload_n 0, 1) := by decide +kernel
theorem dX10_word_53 : decode cX10_word 53 = .ok (.ldc2_w 158, 3) := by decide +kernel
theorem dX10_word_56 : decode cX10_word 56 = .ok (.lcmp, 1) := by decide +kernel
theorem dX10_word_57 : decode cX10_word 57 = .ok (.ifCond .ne 6, 3) := by decide +kernel
theorem dX10_word_60 : decode cX10_word 60 = .ok (.ldc 160, 2) := by decide +kernel
theorem dX10_word_62 : decode cX10_word 62 = .ok (.ireturn, 1) := by decide +kernel
theorem dX10_word_63 : decode cX10_word 63 = .ok (.lload_n 0, 1) := by decide +kernel
theorem dX10_word_64 : decode cX10_word 64 = .ok (.ldc2_w 161, 3) := by decide +kernel
theorem dX10_word_67 : decode cX10_word 67 = .ok (.lcmp, 1) := by decide +kernel
theorem dX10_word_68 : decode cX10_word 68 = .ok (.ifCond .ne 8, 3) := by decide +kernel
theorem dX10_word_71 : decode cX10_word 71 = .ok (.ldc 163, 2) := by decide +kernel
theorem dX10_word_73 : decode cX10_word 73 = .ok (.goto 4, 3) := by decide +kernel
theorem dX10_word_76 : decode cX10_word 76 = .ok (.iconst 1, 1) := by decide +kernel
theorem dX10_word_77 : decode cX10_word 77 = .ok (.ireturn, 1) := by decide +kernel
theorem dX10_isOf_0 : decode cX10_isOf 0 = .ok (.iload_n 0, 1) := by decide +kernel
theorem dX10_isOf_1 : decode cX10_isOf 1 = .ok (.iconst (-1), 1) := by decide +kernel
theorem dX10_isOf_2 : decode cX10_isOf 2 = .ok (.if_icmp .eq 15, 3) := by decide +kernel
theorem dX10_isOf_5 : decode cX10_isOf 5 = .ok (.iload_n 0, 1) := by decide +kernel
theorem dX10_isOf_6 : decode cX10_isOf 6 = .ok (.bipush 28, 2) := by decide +kernel
theorem dX10_isOf_8 : decode cX10_isOf 8 = .ok (.idiv, 1) := by decide +kernel
theorem dX10_isOf_9 : decode cX10_isOf 9 = .ok (.iload_n 1, 1) := by decide +kernel
theorem dX10_isOf_10 : decode cX10_isOf 10 = .ok (.if_icmp .ne 7, 3) := by decide +kernel
theorem dX10_isOf_13 : decode cX10_isOf 13 = .ok (.iconst 1, 1) := by decide +kernel
theorem dX10_isOf_14 : decode cX10_isOf 14 = .ok (.goto 4, 3) := by decide +kernel
theorem dX10_isOf_17 : decode cX10_isOf 17 = .ok (.iconst 0, 1) := by decide +kernel
theorem dX10_isOf_18 : decode cX10_isOf 18 = .ok (.ireturn, 1) := by decide +kernel
theorem dX10_both_0 : decode cX10_both 0 = .ok (.iload_n 0, 1) := by decide +kernel
theorem dX10_both_1 : decode cX10_both 1 = .ok (.tableswitch 92 1000010 1000016 #[43, 47, 51, 55, 59, 70, 81], 43) := by decide +kernel
theorem dX10_both_44 : decode cX10_both 44 = .ok (.iload_n 1, 1) := by decide +kernel
theorem dX10_both_45 : decode cX10_both 45 = .ok (.iload_n 2, 1) := by decide +kernel
theorem dX10_both_46 : decode cX10_both 46 = .ok (.iadd, 1) := by decide +kernel
theorem dX10_both_47 : decode cX10_both 47 = .ok (.ireturn, 1) := by decide +kernel
theorem dX10_both_48 : decode cX10_both 48 = .ok (.iload_n 1, 1) := by decide +kernel
theorem dX10_both_49 : decode cX10_both 49 = .ok (.iload_n 2, 1) := by decide +kernel
theorem dX10_both_50 : decode cX10_both 50 = .ok (.isub, 1) := by decide +kernel
theorem dX10_both_51 : decode cX10_both 51 = .ok (.ireturn, 1) := by decide +kernel
theorem dX10_both_52 : decode cX10_both 52 = .ok (.iload_n 1, 1) := by decide +kernel
theorem dX10_both_53 : decode cX10_both 53 = .ok (.iload_n 2, 1) := by decide +kernel
theorem dX10_both_54 : decode cX10_both 54 = .ok (.imul, 1) := by decide +kernel
theorem dX10_both_55 : decode cX10_both 55 = .ok (.ireturn, 1) := by decide +kernel
theorem dX10_both_56 : decode cX10_both 56 = .ok (.iload_n 1, 1) := by decide +kernel
theorem dX10_both_57 : decode cX10_both 57 = .ok (.iload_n 2, 1) := by decide +kernel
theorem dX10_both_58 : decode cX10_both 58 = .ok (.idiv, 1) := by decide +kernel
theorem dX10_both_59 : decode cX10_both 59 = .ok (.ireturn, 1) := by decide +kernel
theorem dX10_both_60 : decode cX10_both 60 = .ok (.iload_n 1, 1) := by decide +kernel
theorem dX10_both_61 : decode cX10_both 61 = .ok (.iload_n 2, 1) := by decide +kernel
theorem dX10_both_62 : decode cX10_both 62 = .ok (.if_icmp .ge 7, 3) := by decide +kernel
theorem dX10_both_65 : decode cX10_both 65 = .ok (.iconst 1, 1) := by decide +kernel
theorem dX10_both_66 : decode cX10_both 66 = .ok (.goto 4, 3) := by decide +kernel
theorem dX10_both_69 : decode cX10_both 69 = .ok (.iconst 0, 1) := by decide +kernel
theorem dX10_both_70 : decode cX10_both 70 = .ok (.ireturn, 1) := by decide +kernel
theorem dX10_both_71 : decode cX10_both 71 = .ok (.iload_n 1, 1) := by decide +kernel
theorem dX10_both_72 : decode cX10_both 72 = .ok (.iload_n 2, 1) := by decide +kernel
theorem dX10_both_73 : decode cX10_both 73 = .ok (.if_icmp .ne 7, 3) := by decide +kernel
theorem dX10_both_76 : decode cX10_both 76 = .ok (.iconst 1, 1) := by decide +kernel
theorem dX10_both_77 : decode cX10_both 77 = .ok (.goto 4, 3) := by decide +kernel
theorem dX10_both_80 : decode cX10_both 80 = .ok (.iconst 0, 1) := by decide +kernel
theorem dX10_both_81 : decode cX10_both 81 = .ok (.ireturn, 1) := by decide +kernel
theorem dX10_both_82 : decode cX10_both 82 = .ok (.iload_n 1, 1) := by decide +kernel
theorem dX10_both_83 : decode cX10_both 83 = .ok (.iload_n 2, 1) := by decide +kernel
theorem dX10_both_84 : decode cX10_both 84 = .ok (.if_icmp .le 7, 3) := by decide +kernel
theorem dX10_both_87 : decode cX10_both 87 = .ok (.iconst 1, 1) := by decide +kernel
theorem dX10_both_88 : decode cX10_both 88 = .ok (.goto 4, 3) := by decide +kernel
theorem dX10_both_91 : decode cX10_both 91 = .ok (.iconst 0, 1) := by decide +kernel
theorem dX10_both_92 : decode cX10_both 92 = .ok (.ireturn, 1) := by decide +kernel
theorem dX10_both_93 : decode cX10_both 93 = .ok (.iload_n 1, 1) := by decide +kernel
theorem dX10_both_94 : decode cX10_both 94 = .ok (.iload_n 2, 1) := by decide +kernel
theorem dX10_both_95 : decode cX10_both 95 = .ok (.iand, 1) := by decide +kernel
theorem dX10_both_96 : decode cX10_both 96 = .ok (.ireturn, 1) := by decide +kernel
theorem dX10_isMonth_0 : decode cX10_isMonth 0 = .ok (.iload_n 0, 1) := by decide +kernel
theorem dX10_isMonth_1 : decode cX10_isMonth 1 = .ok (.iconst 0, 1) := by decide +kernel
theorem dX10_isMonth_2 : decode cX10_isMonth 2 = .ok (.bipush 12, 2) := by decide +kernel
theorem dX10_isMonth_4 : decode cX10_isMonth 4 = .ok (.invokestatic 111, 3) := by decide +kernel
theorem dX10_isMonth_7 : decode cX10_isMonth 7 = .ok (.ireturn, 1) := by decide +kernel
theorem dX10_thing_0 : decode cX10_thing 0 = .ok (.iload_n 1, 1) := by decide +kernel
theorem dX10_thing_1 : decode cX10_thing 1 = .ok (.invokestatic 115, 3) := by decide +kernel
theorem dX10_thing_4 : decode cX10_thing 4 = .ok (.ifCond .eq 23, 3) := by decide +kernel
theorem dX10_thing_7 : decode cX10_thing 7 = .ok (.iload_n 2, 1) := by decide +kernel
theorem dX10_thing_8 : decode cX10_thing 8 = .ok (.iconst 0, 1) := by decide +kernel
theorem dX10_thing_9 : decode cX10_thing 9 = .ok (.sipush 999, 3) := by decide +kernel
theorem dX10_thing_12 : decode cX10_thing 12 = .ok (.invokestatic 111, 3) := by decide +kernel
theorem dX10_thing_15 : decode cX10_thing 15 = .ok (.ifCond .eq 12, 3) := by decide +kernel
theorem dX10_thing_18 : decode cX10_thing 18 = .ok (.aload_n 0, 1) := by decide +kernel
theorem dX10_thing_19 : decode cX10_thing 19 = .ok (.getfield 108, 3) := by decide +kernel
theorem dX10_thing_22 : decode cX10_thing 22 = .ok (.bipush 12, 2) := by decide +kernel
theorem dX10_thing_24 : decode cX10_thing 24 = .ok (.if_icmp .ne 5, 3) := by decide +kernel
theorem dX10_thing_27 : decode cX10_thing 27 = .ok (.iconst (-1), 1) := by decide +kernel
theorem dX10_thing_28 : decode cX10_thing 28 = .ok (.ireturn, 1) := by decide +kernel
theorem dX10_thing_29 : decode cX10_thing 29 = .ok (.aload_n 0, 1) := by decide +kernel
theorem dX10_thing_30 : decode cX10_thing 30 = .ok (.getfield 108, 3) := by decide +kernel
theorem dX10_thing_33 : decode cX10_thing 33 = .ok (.istore_n 3, 1) := by decide +kernel
theorem dX10_thing_34 : decode cX10_thing 34 = .ok (.aload_n 0, 1) := by decide +kernel
theorem dX10_thing_35 : decode cX10_thing 35 = .ok (.dup, 1) := by decide +kernel
theorem dX10_thing_36 : decode cX10_thing 36 = .ok (.getfield 108, 3) := by decide +kernel
theorem dX10_thing_39 : decode cX10_thing 39 = .ok (.iconst 1, 1) := by decide +kernel
theorem dX10_thing_40 : decode cX10_thing 40 = .ok (.iadd, 1) := by decide +kernel
theorem dX10_thing_41 : decode cX10_thing 41 = .ok (.putfield 108, 3) := by decide +kernel
theorem dX10_thing_44 : decode cX10_thing 44 = .ok (.aload_n 0, 1) := by decide +kernel
theorem dX10_thing_45 : decode cX10_thing 45 = .ok (.getfield 7, 3) := by decide +kernel
theorem dX10_thing_48 : decode cX10_thing 48 = .ok (.sipush 364, 3) := by decide +kernel
theorem dX10_thing_51 : decode cX10_thing 51 = .ok (.iload_n 3, 1) := by decide +kernel
theorem dX10_thing_52 : decode cX10_thing 52 = .ok (.imul, 1) := by decide +kernel
theorem dX10_thing_53 : decode cX10_thing 53 = .ok (.aload_n 0, 1) := by decide +kernel
theorem dX10_thing_54 : decode cX10_thing 54 = .ok (.getfield 119, 3) := by decide +kernel
theorem dX10_thing_57 : decode cX10_thing 57 = .ok (.iadd, 1) := by decide +kernel
theorem dX10_thing_58 : decode cX10_thing 58 = .ok (.iload_n 1, 1) := by decide +kernel
theorem dX10_thing_59 : decode cX10_thing 59 = .ok (.iastore, 1) := by decide +kernel
theorem dX10_thing_60 : decode cX10_thing 60 = .ok (.aload_n 0, 1) := by decide +kernel
theorem dX10_thing_61 : decode cX10_thing 61 = .ok (.getfield 13, 3) := by decide +kernel
theorem dX10_thing_64 : decode cX10_thing 64 = .ok (.iload_n 3, 1) := by decide +kernel
theorem dX10_thing_65 : decode cX10_thing 65 = .ok (.iload_n 2, 1) := by decide +kernel
theorem dX10_thing_66 : decode cX10_thing 66 = .ok (.iastore, 1) := by decide +kernel
theorem dX10_thing_67 : decode cX10_thing 67 = .ok (.aload_n 0, 1) := by decide +kernel
theorem dX10_thing_68 : decode cX10_thing 68 = .ok (.getfield 22, 3) := by decide +kernel
theorem dX10_thing_71 : decode cX10_thing 71 = .ok (.iload_n 3, 1) := by decide +kernel
theorem dX10_thing_72 : decode cX10_thing 72 = .ok (.aload_n 0, 1) := by decide +kernel
theorem dX10_thing_73 : decode cX10_thing 73 = .ok (.getfield 119, 3) := by decide +kernel
theorem dX10_thing_76 : decode cX10_thing 76 = .ok (.iastore, 1) := by decide +kernel
theorem dX10_thing_77 : decode cX10_thing 77 = .ok (.iload_n 3, 1) := by decide +kernel
theorem dX10_thing_78 : decode cX10_thing 78 = .ok (.ireturn, 1) := by decide +kernel
theorem dX10_tag_0 : decode cX10_tag 0 = .ok (.aload_n 0, 1) := by decide +kernel
theorem dX10_tag_1 : decode cX10_tag 1 = .ok (.iload_n 1, 1) := by decide +kernel
theorem dX10_tag_2 : decode cX10_tag 2 = .ok (.invokevirtual 122, 3) := by decide +kernel
theorem dX10_tag_5 : decode cX10_tag 5 = .ok (.ifCond .eq 10, 3) := by decide +kernel
theorem dX10_tag_8 : decode cX10_tag 8 = .ok (.iload_n 2, 1) := by decide +kernel
theorem dX10_tag_9 : decode cX10_tag 9 = .ok (.invokestatic 115, 3) := by decide +kernel
theorem dX10_tag_12 : decode cX10_tag 12 = .ok (.ifCond .ne 5, 3) := by decide +kernel
theorem dX10_tag_15 : decode cX10_tag 15 = .ok (.iconst (-1), 1) := by decide +kernel
theorem dX10_tag_16 : decode cX10_tag 16 = .ok (.ireturn, 1) := by decide +kernel
theorem dX10_tag_17 : decode cX10_tag 17 = .ok (.aload_n 0, 1) := by decide +kernel
theorem dX10_tag_18 : decode cX10_tag 18 = .ok (.getfield 7, 3) := by decide +kernel
theorem dX10_tag_21 : decode cX10_tag 21 = .ok (.sipush 364, 3) := by decide +kernel
theorem dX10_tag_24 : decode cX10_tag 24 = .ok (.iload_n 1, 1) := by decide +kernel
theorem dX10_tag_25 : decode cX10_tag 25 = .ok (.imul, 1) := by decide +kernel
theorem dX10_tag_26 : decode cX10_tag 26 = .ok (.aload_n 0, 1) := by decide +kernel
theorem dX10_tag_27 : decode cX10_tag 27 = .ok (.getfield 119, 3) := by decide +kernel
theorem dX10_tag_30 : decode cX10_tag 30 = .ok (.iadd, 1) := by decide +kernel
theorem dX10_tag_31 : decode cX10_tag 31 = .ok (.iaload, 1) := by decide +kernel
theorem dX10_tag_32 : decode cX10_tag 32 = .ok (.istore_n 3, 1) := by decide +kernel
theorem dX10_tag_33 : decode cX10_tag 33 = .ok (.aload_n 0, 1) := by decide +kernel
theorem dX10_tag_34 : decode cX10_tag 34 = .ok (.getfield 7, 3) := by decide +kernel
theorem dX10_tag_37 : decode cX10_tag 37 = .ok (.sipush 364, 3) := by decide +kernel
theorem dX10_tag_40 : decode cX10_tag 40 = .ok (.iload_n 1, 1) := by decide +kernel
theorem dX10_tag_41 : decode cX10_tag 41 = .ok (.imul, 1) := by decide +kernel
theorem dX10_tag_42 : decode cX10_tag 42 = .ok (.aload_n 0, 1) := by decide +kernel
theorem dX10_tag_43 : decode cX10_tag 43 = .ok (.getfield 119, 3) := by decide +kernel
theorem dX10_tag_46 : decode cX10_tag 46 = .ok (.iadd, 1) := by decide +kernel
theorem dX10_tag_47 : decode cX10_tag 47 = .ok (.iload_n 2, 1) := by decide +kernel
theorem dX10_tag_48 : decode cX10_tag 48 = .ok (.iastore, 1) := by decide +kernel
theorem dX10_tag_49 : decode cX10_tag 49 = .ok (.iload_n 2, 1) := by decide +kernel
theorem dX10_tag_50 : decode cX10_tag 50 = .ok (.iload_n 3, 1) := by decide +kernel
theorem dX10_tag_51 : decode cX10_tag 51 = .ok (.if_icmp .le 13, 3) := by decide +kernel
theorem dX10_tag_54 : decode cX10_tag 54 = .ok (.aload_n 0, 1) := by decide +kernel
theorem dX10_tag_55 : decode cX10_tag 55 = .ok (.getfield 16, 3) := by decide +kernel
theorem dX10_tag_58 : decode cX10_tag 58 = .ok (.iload_n 1, 1) := by decide +kernel
theorem dX10_tag_59 : decode cX10_tag 59 = .ok (.dup2, 1) := by decide +kernel
theorem dX10_tag_60 : decode cX10_tag 60 = .ok (.iaload, 1) := by decide +kernel
theorem dX10_tag_61 : decode cX10_tag 61 = .ok (.iconst 1, 1) := by decide +kernel
theorem dX10_tag_62 : decode cX10_tag 62 = .ok (.iadd, 1) := by decide +kernel
theorem dX10_tag_63 : decode cX10_tag 63 = .ok (.iastore, 1) := by decide +kernel
theorem dX10_tag_64 : decode cX10_tag 64 = .ok (.iload_n 2, 1) := by decide +kernel
theorem dX10_tag_65 : decode cX10_tag 65 = .ok (.iload_n 3, 1) := by decide +kernel
theorem dX10_tag_66 : decode cX10_tag 66 = .ok (.if_icmp .ge 7, 3) := by decide +kernel
theorem dX10_tag_69 : decode cX10_tag 69 = .ok (.iconst 1, 1) := by decide +kernel
theorem dX10_tag_70 : decode cX10_tag 70 = .ok (.goto 13, 3) := by decide +kernel
theorem dX10_tag_73 : decode cX10_tag 73 = .ok (.iload_n 2, 1) := by decide +kernel
theorem dX10_tag_74 : decode cX10_tag 74 = .ok (.iload_n 3, 1) := by decide +kernel
theorem dX10_tag_75 : decode cX10_tag 75 = .ok (.if_icmp .le 7, 3) := by decide +kernel
theorem dX10_tag_78 : decode cX10_tag 78 = .ok (.iconst 2, 1) := by decide +kernel
theorem dX10_tag_79 : decode cX10_tag 79 = .ok (.goto 4, 3) := by decide +kernel
theorem dX10_tag_82 : decode cX10_tag 82 = .ok (.iconst 0, 1) := by decide +kernel
theorem dX10_tag_83 : decode cX10_tag 83 = .ok (.ireturn, 1) := by decide +kernel
theorem dX10_of_0 : decode cX10_of 0 = .ok (.aload_n 0, 1) := by decide +kernel
theorem dX10_of_1 : decode cX10_of 1 = .ok (.iload_n 1, 1) := by decide +kernel
theorem dX10_of_2 : decode cX10_of 2 = .ok (.invokevirtual 122, 3) := by decide +kernel
theorem dX10_of_5 : decode cX10_of 5 = .ok (.ifCond .ne 5, 3) := by decide +kernel
theorem dX10_of_8 : decode cX10_of 8 = .ok (.iconst (-1), 1) := by decide +kernel
theorem dX10_of_9 : decode cX10_of 9 = .ok (.ireturn, 1) := by decide +kernel
theorem dX10_of_10 : decode cX10_of 10 = .ok (.iload_n 2, 1) := by decide +kernel
theorem dX10_of_11 : decode cX10_of 11 = .ok (.tableswitch 66 0 3 #[29, 45, 52, 59], 29) := by decide +kernel
theorem dX10_of_40 : decode cX10_of 40 = .ok (.aload_n 0, 1) := by decide +kernel
theorem dX10_of_41 : decode cX10_of 41 = .ok (.getfield 7, 3) := by decide +kernel
theorem dX10_of_44 : decode cX10_of 44 = .ok (.sipush 364, 3) := by decide +kernel
theorem dX10_of_47 : decode cX10_of 47 = .ok (.iload_n 1, 1) := by decide +kernel
theorem dX10_of_48 : decode cX10_of 48 = .ok (.imul, 1) := by decide +kernel
theorem dX10_of_49 : decode cX10_of 49 = .ok (.aload_n 0, 1) := by decide +kernel
theorem dX10_of_50 : decode cX10_of 50 = .ok (.getfield 119, 3) := by decide +kernel
theorem dX10_of_53 : decode cX10_of 53 = .ok (.iadd, 1) := by decide +kernel
theorem dX10_of_54 : decode cX10_of 54 = .ok (.iaload, 1) := by decide +kernel
theorem dX10_of_55 : decode cX10_of 55 = .ok (.ireturn, 1) := by decide +kernel
theorem dX10_of_56 : decode cX10_of 56 = .ok (.aload_n 0, 1) := by decide +kernel
theorem dX10_of_57 : decode cX10_of 57 = .ok (.getfield 13, 3) := by decide +kernel
theorem dX10_of_60 : decode cX10_of 60 = .ok (.iload_n 1, 1) := by decide +kernel
theorem dX10_of_61 : decode cX10_of 61 = .ok (.iaload, 1) := by decide +kernel
theorem dX10_of_62 : decode cX10_of 62 = .ok (.ireturn, 1) := by decide +kernel
theorem dX10_of_63 : decode cX10_of 63 = .ok (.aload_n 0, 1) := by decide +kernel
theorem dX10_of_64 : decode cX10_of 64 = .ok (.getfield 16, 3) := by decide +kernel
theorem dX10_of_67 : decode cX10_of 67 = .ok (.iload_n 1, 1) := by decide +kernel
theorem dX10_of_68 : decode cX10_of 68 = .ok (.iaload, 1) := by decide +kernel
theorem dX10_of_69 : decode cX10_of 69 = .ok (.ireturn, 1) := by decide +kernel
theorem dX10_of_70 : decode cX10_of 70 = .ok (.aload_n 0, 1) := by decide +kernel
theorem dX10_of_71 : decode cX10_of 71 = .ok (.getfield 19, 3) := by decide +kernel
theorem dX10_of_74 : decode cX10_of 74 = .ok (.iload_n 1, 1) := by decide +kernel
theorem dX10_of_75 : decode cX10_of 75 = .ok (.iaload, 1) := by decide +kernel
theorem dX10_of_76 : decode cX10_of 76 = .ok (.ireturn, 1) := by decide +kernel
theorem dX10_of_77 : decode cX10_of 77 = .ok (.iload_n 2, 1) := by decide +kernel
theorem dX10_of_78 : decode cX10_of 78 = .ok (.sipush 1000, 3) := by decide +kernel
theorem dX10_of_81 : decode cX10_of 81 = .ok (.sipush 1000, 3) := by decide +kernel
theorem dX10_of_84 : decode cX10_of 84 = .ok (.aload_n 0, 1) := by decide +kernel
theorem dX10_of_85 : decode cX10_of 85 = .ok (.getfield 119, 3) := by decide +kernel
theorem dX10_of_88 : decode cX10_of 88 = .ok (.iadd, 1) := by decide +kernel
theorem dX10_of_89 : decode cX10_of 89 = .ok (.invokestatic 111, 3) := by decide +kernel
theorem dX10_of_92 : decode cX10_of 92 = .ok (.ifCond .eq 22, 3) := by decide +kernel
theorem dX10_of_95 : decode cX10_of 95 = .ok (.aload_n 0, 1) := by decide +kernel
theorem dX10_of_96 : decode cX10_of 96 = .ok (.getfield 7, 3) := by decide +kernel
theorem dX10_of_99 : decode cX10_of 99 = .ok (.sipush 364, 3) := by decide +kernel
theorem dX10_of_102 : decode cX10_of 102 = .ok (.iload_n 1, 1) := by decide +kernel
theorem dX10_of_103 : decode cX10_of 103 = .ok (.imul, 1) := by decide +kernel
theorem dX10_of_104 : decode cX10_of 104 = .ok (.iload_n 2, 1) := by decide +kernel
theorem dX10_of_105 : decode cX10_of 105 = .ok (.iadd, 1) := by decide +kernel
theorem dX10_of_106 : decode cX10_of 106 = .ok (.sipush 1000, 3) := by decide +kernel
theorem dX10_of_109 : decode cX10_of 109 = .ok (.isub, 1) := by decide +kernel
theorem dX10_of_110 : decode cX10_of 110 = .ok (.iaload, 1) := by decide +kernel
theorem dX10_of_111 : decode cX10_of 111 = .ok (.goto 4, 3) := by decide +kernel
theorem dX10_of_114 : decode cX10_of 114 = .ok (.iconst (-1), 1) := by decide +kernel
theorem dX10_of_115 : decode cX10_of 115 = .ok (.ireturn, 1) := by decide +kernel
theorem dX10_next_0 : decode cX10_next 0 = .ok (.aload_n 0, 1) := by decide +kernel
theorem dX10_next_1 : decode cX10_next 1 = .ok (.getfield 119, 3) := by decide +kernel
theorem dX10_next_4 : decode cX10_next 4 = .ok (.sipush 363, 3) := by decide +kernel
theorem dX10_next_7 : decode cX10_next 7 = .ok (.if_icmp .ne 5, 3) := by decide +kernel
theorem dX10_next_10 : decode cX10_next 10 = .ok (.iconst (-1), 1) := by decide +kernel
theorem dX10_next_11 : decode cX10_next 11 = .ok (.ireturn, 1) := by decide +kernel
theorem dX10_next_12 : decode cX10_next 12 = .ok (.aload_n 0, 1) := by decide +kernel
theorem dX10_next_13 : decode cX10_next 13 = .ok (.dup, 1) := by decide +kernel
theorem dX10_next_14 : decode cX10_next 14 = .ok (.getfield 119, 3) := by decide +kernel
theorem dX10_next_17 : decode cX10_next 17 = .ok (.iconst 1, 1) := by decide +kernel
theorem dX10_next_18 : decode cX10_next 18 = .ok (.iadd, 1) := by decide +kernel
theorem dX10_next_19 : decode cX10_next 19 = .ok (.putfield 119, 3) := by decide +kernel
theorem dX10_next_22 : decode cX10_next 22 = .ok (.iconst 0, 1) := by decide +kernel
theorem dX10_next_23 : decode cX10_next 23 = .ok (.istore_n 1, 1) := by decide +kernel
theorem dX10_next_24 : decode cX10_next 24 = .ok (.iload_n 1, 1) := by decide +kernel
theorem dX10_next_25 : decode cX10_next 25 = .ok (.aload_n 0, 1) := by decide +kernel
theorem dX10_next_26 : decode cX10_next 26 = .ok (.getfield 108, 3) := by decide +kernel
theorem dX10_next_29 : decode cX10_next 29 = .ok (.if_icmp .ge 41, 3) := by decide +kernel
theorem dX10_next_32 : decode cX10_next 32 = .ok (.aload_n 0, 1) := by decide +kernel
theorem dX10_next_33 : decode cX10_next 33 = .ok (.getfield 7, 3) := by decide +kernel
theorem dX10_next_36 : decode cX10_next 36 = .ok (.sipush 364, 3) := by decide +kernel
theorem dX10_next_39 : decode cX10_next 39 = .ok (.iload_n 1, 1) := by decide +kernel
theorem dX10_next_40 : decode cX10_next 40 = .ok (.imul, 1) := by decide +kernel
theorem dX10_next_41 : decode cX10_next 41 = .ok (.aload_n 0, 1) := by decide +kernel
theorem dX10_next_42 : decode cX10_next 42 = .ok (.getfield 119, 3) := by decide +kernel
theorem dX10_next_45 : decode cX10_next 45 = .ok (.iadd, 1) := by decide +kernel
theorem dX10_next_46 : decode cX10_next 46 = .ok (.aload_n 0, 1) := by decide +kernel
theorem dX10_next_47 : decode cX10_next 47 = .ok (.getfield 7, 3) := by decide +kernel
theorem dX10_next_50 : decode cX10_next 50 = .ok (.sipush 364, 3) := by decide +kernel
theorem dX10_next_53 : decode cX10_next 53 = .ok (.iload_n 1, 1) := by decide +kernel
theorem dX10_next_54 : decode cX10_next 54 = .ok (.imul, 1) := by decide +kernel
theorem dX10_next_55 : decode cX10_next 55 = .ok (.aload_n 0, 1) := by decide +kernel
theorem dX10_next_56 : decode cX10_next 56 = .ok (.getfield 119, 3) := by decide +kernel
theorem dX10_next_59 : decode cX10_next 59 = .ok (.iadd, 1) := by decide +kernel
theorem dX10_next_60 : decode cX10_next 60 = .ok (.iconst 1, 1) := by decide +kernel
theorem dX10_next_61 : decode cX10_next 61 = .ok (.isub, 1) := by decide +kernel
theorem dX10_next_62 : decode cX10_next 62 = .ok (.iaload, 1) := by decide +kernel
theorem dX10_next_63 : decode cX10_next 63 = .ok (.iastore, 1) := by decide +kernel
theorem dX10_next_64 : decode cX10_next 64 = .ok (.iinc 1 1, 3) := by decide +kernel
theorem dX10_next_67 : decode cX10_next 67 = .ok (.goto (-43), 3) := by decide +kernel
theorem dX10_next_70 : decode cX10_next 70 = .ok (.iconst 0, 1) := by decide +kernel
theorem dX10_next_71 : decode cX10_next 71 = .ok (.istore_n 1, 1) := by decide +kernel
theorem dX10_next_72 : decode cX10_next 72 = .ok (.iload_n 1, 1) := by decide +kernel
theorem dX10_next_73 : decode cX10_next 73 = .ok (.aload_n 0, 1) := by decide +kernel
theorem dX10_next_74 : decode cX10_next 74 = .ok (.getfield 125, 3) := by decide +kernel
theorem dX10_next_77 : decode cX10_next 77 = .ok (.if_icmp .ge 65, 3) := by decide +kernel
theorem dX10_next_80 : decode cX10_next 80 = .ok (.aload_n 0, 1) := by decide +kernel
theorem dX10_next_81 : decode cX10_next 81 = .ok (.getfield 25, 3) := by decide +kernel
theorem dX10_next_84 : decode cX10_next 84 = .ok (.iload_n 1, 1) := by decide +kernel
theorem dX10_next_85 : decode cX10_next 85 = .ok (.iaload, 1) := by decide +kernel
theorem dX10_next_86 : decode cX10_next 86 = .ok (.iconst 2, 1) := by decide +kernel
theorem dX10_next_87 : decode cX10_next 87 = .ok (.if_icmp .ne 49, 3) := by decide +kernel
theorem dX10_next_90 : decode cX10_next 90 = .ok (.aload_n 0, 1) := by decide +kernel
theorem dX10_next_91 : decode cX10_next 91 = .ok (.getfield 49, 3) := by decide +kernel
theorem dX10_next_94 : decode cX10_next 94 = .ok (.iload_n 1, 1) := by decide +kernel
theorem dX10_next_95 : decode cX10_next 95 = .ok (.iaload, 1) := by decide +kernel
theorem dX10_next_96 : decode cX10_next 96 = .ok (.iconst (-1), 1) := by decide +kernel
theorem dX10_next_97 : decode cX10_next 97 = .ok (.if_icmp .ne 39, 3) := by decide +kernel
theorem dX10_next_100 : decode cX10_next 100 = .ok (.aload_n 0, 1) := by decide +kernel
theorem dX10_next_101 : decode cX10_next 101 = .ok (.getfield 52, 3) := by decide +kernel
theorem dX10_next_104 : decode cX10_next 104 = .ok (.iload_n 1, 1) := by decide +kernel
theorem dX10_next_105 : decode cX10_next 105 = .ok (.iaload, 1) := by decide +kernel
theorem dX10_next_106 : decode cX10_next 106 = .ok (.iconst (-1), 1) := by decide +kernel
theorem dX10_next_107 : decode cX10_next 107 = .ok (.if_icmp .ne 29, 3) := by decide +kernel
theorem dX10_next_110 : decode cX10_next 110 = .ok (.aload_n 0, 1) := by decide +kernel
theorem dX10_next_111 : decode cX10_next 111 = .ok (.getfield 43, 3) := by decide +kernel
theorem dX10_next_114 : decode cX10_next 114 = .ok (.iload_n 1, 1) := by decide +kernel
theorem dX10_next_115 : decode cX10_next 115 = .ok (.iaload, 1) := by decide +kernel
theorem dX10_next_116 : decode cX10_next 116 = .ok (.bipush 7, 2) := by decide +kernel
theorem dX10_next_118 : decode cX10_next 118 = .ok (.iadd, 1) := by decide +kernel
theorem dX10_next_119 : decode cX10_next 119 = .ok (.aload_n 0, 1) := by decide +kernel
theorem dX10_next_120 : decode cX10_next 120 = .ok (.getfield 119, 3) := by decide +kernel
theorem dX10_next_123 : decode cX10_next 123 = .ok (.if_icmp .ne 13, 3) := by decide +kernel
theorem dX10_next_126 : decode cX10_next 126 = .ok (.aload_n 0, 1) := by decide +kernel
theorem dX10_next_127 : decode cX10_next 127 = .ok (.getfield 49, 3) := by decide +kernel
theorem dX10_next_130 : decode cX10_next 130 = .ok (.iload_n 1, 1) := by decide +kernel
theorem dX10_next_131 : decode cX10_next 131 = .ok (.aload_n 0, 1) := by decide +kernel
theorem dX10_next_132 : decode cX10_next 132 = .ok (.getfield 119, 3) := by decide +kernel
theorem dX10_next_135 : decode cX10_next 135 = .ok (.iastore, 1) := by decide +kernel
theorem dX10_next_136 : decode cX10_next 136 = .ok (.iinc 1 1, 3) := by decide +kernel
theorem dX10_next_139 : decode cX10_next 139 = .ok (.goto (-67), 3) := by decide +kernel
theorem dX10_next_142 : decode cX10_next 142 = .ok (.aload_n 0, 1) := by decide +kernel
theorem dX10_next_143 : decode cX10_next 143 = .ok (.iconst 0, 1) := by decide +kernel
theorem dX10_next_144 : decode cX10_next 144 = .ok (.putfield 128, 3) := by decide +kernel
theorem dX10_next_147 : decode cX10_next 147 = .ok (.aload_n 0, 1) := by decide +kernel
theorem dX10_next_148 : decode cX10_next 148 = .ok (.getfield 119, 3) := by decide +kernel
theorem dX10_next_151 : decode cX10_next 151 = .ok (.ireturn, 1) := by decide +kernel
theorem dX10_slip_0 : decode cX10_slip 0 = .ok (.iload_n 1, 1) := by decide +kernel
theorem dX10_slip_1 : decode cX10_slip 1 = .ok (.iconst 0, 1) := by decide +kernel
theorem dX10_slip_2 : decode cX10_slip 2 = .ok (.iconst 2, 1) := by decide +kernel
theorem dX10_slip_3 : decode cX10_slip 3 = .ok (.invokestatic 111, 3) := by decide +kernel
theorem dX10_slip_6 : decode cX10_slip 6 = .ok (.ifCond .eq 53, 3) := by decide +kernel
theorem dX10_slip_9 : decode cX10_slip 9 = .ok (.iload_n 2, 1) := by decide +kernel
theorem dX10_slip_10 : decode cX10_slip 10 = .ok (.iconst 0, 1) := by decide +kernel
theorem dX10_slip_11 : decode cX10_slip 11 = .ok (.bipush 7, 2) := by decide +kernel
theorem dX10_slip_13 : decode cX10_slip 13 = .ok (.invokestatic 111, 3) := by decide +kernel
theorem dX10_slip_16 : decode cX10_slip 16 = .ok (.ifCond .eq 43, 3) := by decide +kernel
theorem dX10_slip_19 : decode cX10_slip 19 = .ok (.aload_n 0, 1) := by decide +kernel
theorem dX10_slip_20 : decode cX10_slip 20 = .ok (.iload 4, 2) := by decide +kernel
theorem dX10_slip_22 : decode cX10_slip 22 = .ok (.invokevirtual 122, 3) := by decide +kernel
theorem dX10_slip_25 : decode cX10_slip 25 = .ok (.ifCond .eq 34, 3) := by decide +kernel
theorem dX10_slip_28 : decode cX10_slip 28 = .ok (.iload 5, 2) := by decide +kernel
theorem dX10_slip_30 : decode cX10_slip 30 = .ok (.iconst 1, 1) := by decide +kernel
theorem dX10_slip_31 : decode cX10_slip 31 = .ok (.bipush 99, 2) := by decide +kernel
theorem dX10_slip_33 : decode cX10_slip 33 = .ok (.invokestatic 111, 3) := by decide +kernel
theorem dX10_slip_36 : decode cX10_slip 36 = .ok (.ifCond .eq 23, 3) := by decide +kernel
theorem dX10_slip_39 : decode cX10_slip 39 = .ok (.iload 6, 2) := by decide +kernel
theorem dX10_slip_41 : decode cX10_slip 41 = .ok (.iconst (-1), 1) := by decide +kernel
theorem dX10_slip_42 : decode cX10_slip 42 = .ok (.bipush 19, 2) := by decide +kernel
theorem dX10_slip_44 : decode cX10_slip 44 = .ok (.invokestatic 111, 3) := by decide +kernel
theorem dX10_slip_47 : decode cX10_slip 47 = .ok (.ifCond .eq 12, 3) := by decide +kernel
theorem dX10_slip_50 : decode cX10_slip 50 = .ok (.aload_n 0, 1) := by decide +kernel
theorem dX10_slip_51 : decode cX10_slip 51 = .ok (.getfield 125, 3) := by decide +kernel
theorem dX10_slip_54 : decode cX10_slip 54 = .ok (.bipush 120, 2) := by decide +kernel
theorem dX10_slip_56 : decode cX10_slip 56 = .ok (.if_icmp .ne 5, 3) := by decide +kernel
theorem dX10_slip_59 : decode cX10_slip 59 = .ok (.iconst (-1), 1) := by decide +kernel
theorem dX10_slip_60 : decode cX10_slip 60 = .ok (.ireturn, 1) := by decide +kernel
theorem dX10_slip_61 : decode cX10_slip 61 = .ok (.iload_n 1, 1) := by decide +kernel
theorem dX10_slip_62 : decode cX10_slip 62 = .ok (.ifCond .ne 11, 3) := by decide +kernel
theorem dX10_slip_65 : decode cX10_slip 65 = .ok (.iload_n 3, 1) := by decide +kernel
theorem dX10_slip_66 : decode cX10_slip 66 = .ok (.iconst (-1), 1) := by decide +kernel
theorem dX10_slip_67 : decode cX10_slip 67 = .ok (.if_icmp .eq 18, 3) := by decide +kernel
theorem dX10_slip_70 : decode cX10_slip 70 = .ok (.goto 13, 3) := by decide +kernel
theorem dX10_slip_73 : decode cX10_slip 73 = .ok (.iload_n 3, 1) := by decide +kernel
theorem dX10_slip_74 : decode cX10_slip 74 = .ok (.iconst 0, 1) := by decide +kernel
theorem dX10_slip_75 : decode cX10_slip 75 = .ok (.bipush 9, 2) := by decide +kernel
theorem dX10_slip_77 : decode cX10_slip 77 = .ok (.invokestatic 111, 3) := by decide +kernel
theorem dX10_slip_80 : decode cX10_slip 80 = .ok (.ifCond .ne 5, 3) := by decide +kernel
theorem dX10_slip_83 : decode cX10_slip 83 = .ok (.iconst (-1), 1) := by decide +kernel
theorem dX10_slip_84 : decode cX10_slip 84 = .ok (.ireturn, 1) := by decide +kernel
theorem dX10_slip_85 : decode cX10_slip 85 = .ok (.iload 7, 2) := by decide +kernel
theorem dX10_slip_87 : decode cX10_slip 87 = .ok (.aload_n 0, 1) := by decide +kernel
theorem dX10_slip_88 : decode cX10_slip 88 = .ok (.getfield 119, 3) := by decide +kernel
theorem dX10_slip_91 : decode cX10_slip 91 = .ok (.bipush 28, 2) := by decide +kernel
theorem dX10_slip_93 : decode cX10_slip 93 = .ok (.isub, 1) := by decide +kernel
theorem dX10_slip_94 : decode cX10_slip 94 = .ok (.aload_n 0, 1) := by decide +kernel
theorem dX10_slip_95 : decode cX10_slip 95 = .ok (.getfield 119, 3) := by decide +kernel
theorem dX10_slip_98 : decode cX10_slip 98 = .ok (.invokestatic 111, 3) := by decide +kernel
theorem dX10_slip_101 : decode cX10_slip 101 = .ok (.ifCond .eq 32, 3) := by decide +kernel
theorem dX10_slip_104 : decode cX10_slip 104 = .ok (.iload 7, 2) := by decide +kernel
theorem dX10_slip_106 : decode cX10_slip 106 = .ok (.ifCond .lt 27, 3) := by decide +kernel
theorem dX10_slip_109 : decode cX10_slip 109 = .ok (.aload_n 0, 1) := by decide +kernel
theorem dX10_slip_110 : decode cX10_slip 110 = .ok (.getfield 22, 3) := by decide +kernel
theorem dX10_slip_113 : decode cX10_slip 113 = .ok (.iload 4, 2) := by decide +kernel
theorem dX10_slip_115 : decode cX10_slip 115 = .ok (.iaload, 1) := by decide +kernel
theorem dX10_slip_116 : decode cX10_slip 116 = .ok (.iload 7, 2) := by decide +kernel
theorem dX10_slip_118 : decode cX10_slip 118 = .ok (.if_icmp .gt 15, 3) := by decide +kernel
theorem dX10_slip_121 : decode cX10_slip 121 = .ok (.aload_n 0, 1) := by decide +kernel
theorem dX10_slip_122 : decode cX10_slip 122 = .ok (.getfield 13, 3) := by decide +kernel
theorem dX10_slip_125 : decode cX10_slip 125 = .ok (.iload 4, 2) := by decide +kernel
theorem dX10_slip_127 : decode cX10_slip 127 = .ok (.iaload, 1) := by decide +kernel
theorem dX10_slip_128 : decode cX10_slip 128 = .ok (.iload 5, 2) := by decide +kernel
theorem dX10_slip_130 : decode cX10_slip 130 = .ok (.if_icmp .ge 5, 3) := by decide +kernel
theorem dX10_slip_133 : decode cX10_slip 133 = .ok (.iconst (-1), 1) := by decide +kernel
theorem dX10_slip_134 : decode cX10_slip 134 = .ok (.ireturn, 1) := by decide +kernel
theorem dX10_slip_135 : decode cX10_slip 135 = .ok (.aload_n 0, 1) := by decide +kernel
theorem dX10_slip_136 : decode cX10_slip 136 = .ok (.getfield 125, 3) := by decide +kernel
theorem dX10_slip_139 : decode cX10_slip 139 = .ok (.istore 8, 2) := by decide +kernel
theorem dX10_slip_141 : decode cX10_slip 141 = .ok (.aload_n 0, 1) := by decide +kernel
theorem dX10_slip_142 : decode cX10_slip 142 = .ok (.dup, 1) := by decide +kernel
theorem dX10_slip_143 : decode cX10_slip 143 = .ok (.getfield 125, 3) := by decide +kernel
theorem dX10_slip_146 : decode cX10_slip 146 = .ok (.iconst 1, 1) := by decide +kernel
theorem dX10_slip_147 : decode cX10_slip 147 = .ok (.iadd, 1) := by decide +kernel
theorem dX10_slip_148 : decode cX10_slip 148 = .ok (.putfield 125, 3) := by decide +kernel
theorem dX10_slip_151 : decode cX10_slip 151 = .ok (.aload_n 0, 1) := by decide +kernel
theorem dX10_slip_152 : decode cX10_slip 152 = .ok (.getfield 25, 3) := by decide +kernel
theorem dX10_slip_155 : decode cX10_slip 155 = .ok (.iload 8, 2) := by decide +kernel
theorem dX10_slip_157 : decode cX10_slip 157 = .ok (.iload_n 1, 1) := by decide +kernel
theorem dX10_slip_158 : decode cX10_slip 158 = .ok (.iastore, 1) := by decide +kernel
theorem dX10_slip_159 : decode cX10_slip 159 = .ok (.aload_n 0, 1) := by decide +kernel
theorem dX10_slip_160 : decode cX10_slip 160 = .ok (.getfield 28, 3) := by decide +kernel
theorem dX10_slip_163 : decode cX10_slip 163 = .ok (.iload 8, 2) := by decide +kernel
theorem dX10_slip_165 : decode cX10_slip 165 = .ok (.iload_n 2, 1) := by decide +kernel
theorem dX10_slip_166 : decode cX10_slip 166 = .ok (.iastore, 1) := by decide +kernel
theorem dX10_slip_167 : decode cX10_slip 167 = .ok (.aload_n 0, 1) := by decide +kernel
theorem dX10_slip_168 : decode cX10_slip 168 = .ok (.getfield 31, 3) := by decide +kernel
theorem dX10_slip_171 : decode cX10_slip 171 = .ok (.iload 8, 2) := by decide +kernel
theorem dX10_slip_173 : decode cX10_slip 173 = .ok (.iload_n 3, 1) := by decide +kernel
theorem dX10_slip_174 : decode cX10_slip 174 = .ok (.iastore, 1) := by decide +kernel
theorem dX10_slip_175 : decode cX10_slip 175 = .ok (.aload_n 0, 1) := by decide +kernel
theorem dX10_slip_176 : decode cX10_slip 176 = .ok (.getfield 34, 3) := by decide +kernel
theorem dX10_slip_179 : decode cX10_slip 179 = .ok (.iload 8, 2) := by decide +kernel
theorem dX10_slip_181 : decode cX10_slip 181 = .ok (.iload 4, 2) := by decide +kernel
theorem dX10_slip_183 : decode cX10_slip 183 = .ok (.iastore, 1) := by decide +kernel
theorem dX10_slip_184 : decode cX10_slip 184 = .ok (.aload_n 0, 1) := by decide +kernel
theorem dX10_slip_185 : decode cX10_slip 185 = .ok (.getfield 37, 3) := by decide +kernel
theorem dX10_slip_188 : decode cX10_slip 188 = .ok (.iload 8, 2) := by decide +kernel
theorem dX10_slip_190 : decode cX10_slip 190 = .ok (.iload 5, 2) := by decide +kernel
theorem dX10_slip_192 : decode cX10_slip 192 = .ok (.iastore, 1) := by decide +kernel
theorem dX10_slip_193 : decode cX10_slip 193 = .ok (.aload_n 0, 1) := by decide +kernel
theorem dX10_slip_194 : decode cX10_slip 194 = .ok (.getfield 40, 3) := by decide +kernel
theorem dX10_slip_197 : decode cX10_slip 197 = .ok (.iload 8, 2) := by decide +kernel
theorem dX10_slip_199 : decode cX10_slip 199 = .ok (.iload 6, 2) := by decide +kernel
theorem dX10_slip_201 : decode cX10_slip 201 = .ok (.iastore, 1) := by decide +kernel
theorem dX10_slip_202 : decode cX10_slip 202 = .ok (.aload_n 0, 1) := by decide +kernel
theorem dX10_slip_203 : decode cX10_slip 203 = .ok (.getfield 43, 3) := by decide +kernel
theorem dX10_slip_206 : decode cX10_slip 206 = .ok (.iload 8, 2) := by decide +kernel
theorem dX10_slip_208 : decode cX10_slip 208 = .ok (.iload 7, 2) := by decide +kernel
theorem dX10_slip_210 : decode cX10_slip 210 = .ok (.iastore, 1) := by decide +kernel
theorem dX10_slip_211 : decode cX10_slip 211 = .ok (.aload_n 0, 1) := by decide +kernel
theorem dX10_slip_212 : decode cX10_slip 212 = .ok (.getfield 46, 3) := by decide +kernel
theorem dX10_slip_215 : decode cX10_slip 215 = .ok (.iload 8, 2) := by decide +kernel
theorem dX10_slip_217 : decode cX10_slip 217 = .ok (.aload_n 0, 1) := by decide +kernel
theorem dX10_slip_218 : decode cX10_slip 218 = .ok (.getfield 119, 3) := by decide +kernel
theorem dX10_slip_221 : decode cX10_slip 221 = .ok (.iastore, 1) := by decide +kernel
theorem dX10_slip_222 : decode cX10_slip 222 = .ok (.aload_n 0, 1) := by decide +kernel
theorem dX10_slip_223 : decode cX10_slip 223 = .ok (.getfield 49, 3) := by decide +kernel
theorem dX10_slip_226 : decode cX10_slip 226 = .ok (.iload 8, 2) := by decide +kernel
theorem dX10_slip_228 : decode cX10_slip 228 = .ok (.iload_n 1, 1) := by decide +kernel
theorem dX10_slip_229 : decode cX10_slip 229 = .ok (.iconst 2, 1) := by decide +kernel
theorem dX10_slip_230 : decode cX10_slip 230 = .ok (.if_icmp .eq 8, 3) := by decide +kernel
theorem dX10_slip_233 : decode cX10_slip 233 = .ok (.iload 7, 2) := by decide +kernel
theorem dX10_slip_235 : decode cX10_slip 235 = .ok (.goto 24, 3) := by decide +kernel
theorem dX10_slip_238 : decode cX10_slip 238 = .ok (.iload 7, 2) := by decide +kernel
theorem dX10_slip_240 : decode cX10_slip 240 = .ok (.bipush 7, 2) := by decide +kernel
theorem dX10_slip_242 : decode cX10_slip 242 = .ok (.iadd, 1) := by decide +kernel
theorem dX10_slip_243 : decode cX10_slip 243 = .ok (.aload_n 0, 1) := by decide +kernel
theorem dX10_slip_244 : decode cX10_slip 244 = .ok (.getfield 119, 3) := by decide +kernel
theorem dX10_slip_247 : decode cX10_slip 247 = .ok (.if_icmp .gt 11, 3) := by decide +kernel
theorem dX10_slip_250 : decode cX10_slip 250 = .ok (.iload 7, 2) := by decide +kernel
theorem dX10_slip_252 : decode cX10_slip 252 = .ok (.bipush 7, 2) := by decide +kernel
theorem dX10_slip_254 : decode cX10_slip 254 = .ok (.iadd, 1) := by decide +kernel
theorem dX10_slip_255 : decode cX10_slip 255 = .ok (.goto 4, 3) := by decide +kernel
theorem dX10_slip_258 : decode cX10_slip 258 = .ok (.iconst (-1), 1) := by decide +kernel
theorem dX10_slip_259 : decode cX10_slip 259 = .ok (.iastore, 1) := by decide +kernel
theorem dX10_slip_260 : decode cX10_slip 260 = .ok (.aload_n 0, 1) := by decide +kernel
theorem dX10_slip_261 : decode cX10_slip 261 = .ok (.getfield 52, 3) := by decide +kernel
theorem dX10_slip_264 : decode cX10_slip 264 = .ok (.iload 8, 2) := by decide +kernel
theorem dX10_slip_266 : decode cX10_slip 266 = .ok (.iconst (-1), 1) := by decide +kernel
theorem dX10_slip_267 : decode cX10_slip 267 = .ok (.iastore, 1) := by decide +kernel
theorem dX10_slip_268 : decode cX10_slip 268 = .ok (.aload_n 0, 1) := by decide +kernel
theorem dX10_slip_269 : decode cX10_slip 269 = .ok (.getfield 55, 3) := by decide +kernel
theorem dX10_slip_272 : decode cX10_slip 272 = .ok (.iload 8, 2) := by decide +kernel
theorem dX10_slip_274 : decode cX10_slip 274 = .ok (.iconst (-1), 1) := by decide +kernel
theorem dX10_slip_275 : decode cX10_slip 275 = .ok (.iastore, 1) := by decide +kernel
theorem dX10_slip_276 : decode cX10_slip 276 = .ok (.aload_n 0, 1) := by decide +kernel
theorem dX10_slip_277 : decode cX10_slip 277 = .ok (.getfield 58, 3) := by decide +kernel
theorem dX10_slip_280 : decode cX10_slip 280 = .ok (.iload 8, 2) := by decide +kernel
theorem dX10_slip_282 : decode cX10_slip 282 = .ok (.iload 5, 2) := by decide +kernel
theorem dX10_slip_284 : decode cX10_slip 284 = .ok (.aload_n 0, 1) := by decide +kernel
theorem dX10_slip_285 : decode cX10_slip 285 = .ok (.getfield 7, 3) := by decide +kernel
theorem dX10_slip_288 : decode cX10_slip 288 = .ok (.sipush 364, 3) := by decide +kernel
theorem dX10_slip_291 : decode cX10_slip 291 = .ok (.iload 4, 2) := by decide +kernel
theorem dX10_slip_293 : decode cX10_slip 293 = .ok (.imul, 1) := by decide +kernel
theorem dX10_slip_294 : decode cX10_slip 294 = .ok (.iload 7, 2) := by decide +kernel
theorem dX10_slip_296 : decode cX10_slip 296 = .ok (.iadd, 1) := by decide +kernel
theorem dX10_slip_297 : decode cX10_slip 297 = .ok (.iaload, 1) := by decide +kernel
theorem dX10_slip_298 : decode cX10_slip 298 = .ok (.imul, 1) := by decide +kernel
theorem dX10_slip_299 : decode cX10_slip 299 = .ok (.iastore, 1) := by decide +kernel
theorem dX10_slip_300 : decode cX10_slip 300 = .ok (.aload_n 0, 1) := by decide +kernel
theorem dX10_slip_301 : decode cX10_slip 301 = .ok (.getfield 13, 3) := by decide +kernel
theorem dX10_slip_304 : decode cX10_slip 304 = .ok (.iload 4, 2) := by decide +kernel
theorem dX10_slip_306 : decode cX10_slip 306 = .ok (.dup2, 1) := by decide +kernel
theorem dX10_slip_307 : decode cX10_slip 307 = .ok (.iaload, 1) := by decide +kernel
theorem dX10_slip_308 : decode cX10_slip 308 = .ok (.iload 5, 2) := by decide +kernel
theorem dX10_slip_310 : decode cX10_slip 310 = .ok (.isub, 1) := by decide +kernel
theorem dX10_slip_311 : decode cX10_slip 311 = .ok (.iastore, 1) := by decide +kernel
theorem dX10_slip_312 : decode cX10_slip 312 = .ok (.iload 8, 2) := by decide +kernel
theorem dX10_slip_314 : decode cX10_slip 314 = .ok (.ireturn, 1) := by decide +kernel
theorem dX10_paper_0 : decode cX10_paper 0 = .ok (.aload_n 0, 1) := by decide +kernel
theorem dX10_paper_1 : decode cX10_paper 1 = .ok (.iload_n 1, 1) := by decide +kernel
theorem dX10_paper_2 : decode cX10_paper 2 = .ok (.invokevirtual 131, 3) := by decide +kernel
theorem dX10_paper_5 : decode cX10_paper 5 = .ok (.ifCond .ne 5, 3) := by decide +kernel
theorem dX10_paper_8 : decode cX10_paper 8 = .ok (.iconst (-1), 1) := by decide +kernel
theorem dX10_paper_9 : decode cX10_paper 9 = .ok (.ireturn, 1) := by decide +kernel
theorem dX10_paper_10 : decode cX10_paper 10 = .ok (.iload_n 2, 1) := by decide +kernel
theorem dX10_paper_11 : decode cX10_paper 11 = .ok (.tableswitch 113 0 6 #[41, 71, 78, 85, 92, 99, 106], 41) := by decide +kernel
theorem dX10_paper_52 : decode cX10_paper 52 = .ok (.aload_n 0, 1) := by decide +kernel
theorem dX10_paper_53 : decode cX10_paper 53 = .ok (.getfield 52, 3) := by decide +kernel
theorem dX10_paper_56 : decode cX10_paper 56 = .ok (.iload_n 1, 1) := by decide +kernel
theorem dX10_paper_57 : decode cX10_paper 57 = .ok (.iaload, 1) := by decide +kernel
theorem dX10_paper_58 : decode cX10_paper 58 = .ok (.iconst (-1), 1) := by decide +kernel
theorem dX10_paper_59 : decode cX10_paper 59 = .ok (.if_icmp .eq 7, 3) := by decide +kernel
theorem dX10_paper_62 : decode cX10_paper 62 = .ok (.iconst 2, 1) := by decide +kernel
theorem dX10_paper_63 : decode cX10_paper 63 = .ok (.goto 18, 3) := by decide +kernel
theorem dX10_paper_66 : decode cX10_paper 66 = .ok (.aload_n 0, 1) := by decide +kernel
theorem dX10_paper_67 : decode cX10_paper 67 = .ok (.getfield 49, 3) := by decide +kernel
theorem dX10_paper_70 : decode cX10_paper 70 = .ok (.iload_n 1, 1) := by decide +kernel
theorem dX10_paper_71 : decode cX10_paper 71 = .ok (.iaload, 1) := by decide +kernel
theorem dX10_paper_72 : decode cX10_paper 72 = .ok (.iconst (-1), 1) := by decide +kernel
theorem dX10_paper_73 : decode cX10_paper 73 = .ok (.if_icmp .eq 7, 3) := by decide +kernel
theorem dX10_paper_76 : decode cX10_paper 76 = .ok (.iconst 0, 1) := by decide +kernel
theorem dX10_paper_77 : decode cX10_paper 77 = .ok (.goto 4, 3) := by decide +kernel
theorem dX10_paper_80 : decode cX10_paper 80 = .ok (.iconst 1, 1) := by decide +kernel
theorem dX10_paper_81 : decode cX10_paper 81 = .ok (.ireturn, 1) := by decide +kernel
theorem dX10_paper_82 : decode cX10_paper 82 = .ok (.aload_n 0, 1) := by decide +kernel
theorem dX10_paper_83 : decode cX10_paper 83 = .ok (.getfield 58, 3) := by decide +kernel
theorem dX10_paper_86 : decode cX10_paper 86 = .ok (.iload_n 1, 1) := by decide +kernel
theorem dX10_paper_87 : decode cX10_paper 87 = .ok (.iaload, 1) := by decide +kernel
theorem dX10_paper_88 : decode cX10_paper 88 = .ok (.ireturn, 1) := by decide +kernel
theorem dX10_paper_89 : decode cX10_paper 89 = .ok (.aload_n 0, 1) := by decide +kernel
theorem dX10_paper_90 : decode cX10_paper 90 = .ok (.getfield 43, 3) := by decide +kernel
theorem dX10_paper_93 : decode cX10_paper 93 = .ok (.iload_n 1, 1) := by decide +kernel
theorem dX10_paper_94 : decode cX10_paper 94 = .ok (.iaload, 1) := by decide +kernel
theorem dX10_paper_95 : decode cX10_paper 95 = .ok (.ireturn, 1) := by decide +kernel
theorem dX10_paper_96 : decode cX10_paper 96 = .ok (.aload_n 0, 1) := by decide +kernel
theorem dX10_paper_97 : decode cX10_paper 97 = .ok (.getfield 46, 3) := by decide +kernel
theorem dX10_paper_100 : decode cX10_paper 100 = .ok (.iload_n 1, 1) := by decide +kernel
theorem dX10_paper_101 : decode cX10_paper 101 = .ok (.iaload, 1) := by decide +kernel
theorem dX10_paper_102 : decode cX10_paper 102 = .ok (.ireturn, 1) := by decide +kernel
theorem dX10_paper_103 : decode cX10_paper 103 = .ok (.aload_n 0, 1) := by decide +kernel
theorem dX10_paper_104 : decode cX10_paper 104 = .ok (.getfield 49, 3) := by decide +kernel
theorem dX10_paper_107 : decode cX10_paper 107 = .ok (.iload_n 1, 1) := by decide +kernel
theorem dX10_paper_108 : decode cX10_paper 108 = .ok (.iaload, 1) := by decide +kernel
theorem dX10_paper_109 : decode cX10_paper 109 = .ok (.ireturn, 1) := by decide +kernel
theorem dX10_paper_110 : decode cX10_paper 110 = .ok (.aload_n 0, 1) := by decide +kernel
theorem dX10_paper_111 : decode cX10_paper 111 = .ok (.getfield 52, 3) := by decide +kernel
theorem dX10_paper_114 : decode cX10_paper 114 = .ok (.iload_n 1, 1) := by decide +kernel
theorem dX10_paper_115 : decode cX10_paper 115 = .ok (.iaload, 1) := by decide +kernel
theorem dX10_paper_116 : decode cX10_paper 116 = .ok (.ireturn, 1) := by decide +kernel
theorem dX10_paper_117 : decode cX10_paper 117 = .ok (.aload_n 0, 1) := by decide +kernel
theorem dX10_paper_118 : decode cX10_paper 118 = .ok (.getfield 55, 3) := by decide +kernel
theorem dX10_paper_121 : decode cX10_paper 121 = .ok (.iload_n 1, 1) := by decide +kernel
theorem dX10_paper_122 : decode cX10_paper 122 = .ok (.iaload, 1) := by decide +kernel
theorem dX10_paper_123 : decode cX10_paper 123 = .ok (.ireturn, 1) := by decide +kernel
theorem dX10_paper_124 : decode cX10_paper 124 = .ok (.iconst (-1), 1) := by decide +kernel
theorem dX10_paper_125 : decode cX10_paper 125 = .ok (.ireturn, 1) := by decide +kernel
theorem dX10_back_0 : decode cX10_back 0 = .ok (.aload_n 0, 1) := by decide +kernel
theorem dX10_back_1 : decode cX10_back 1 = .ok (.iload_n 1, 1) := by decide +kernel
theorem dX10_back_2 : decode cX10_back 2 = .ok (.invokevirtual 131, 3) := by decide +kernel
theorem dX10_back_5 : decode cX10_back 5 = .ok (.ifCond .eq 39, 3) := by decide +kernel
theorem dX10_back_8 : decode cX10_back 8 = .ok (.aload_n 0, 1) := by decide +kernel
theorem dX10_back_9 : decode cX10_back 9 = .ok (.getfield 52, 3) := by decide +kernel
theorem dX10_back_12 : decode cX10_back 12 = .ok (.iload_n 1, 1) := by decide +kernel
theorem dX10_back_13 : decode cX10_back 13 = .ok (.iaload, 1) := by decide +kernel
theorem dX10_back_14 : decode cX10_back 14 = .ok (.iconst (-1), 1) := by decide +kernel
theorem dX10_back_15 : decode cX10_back 15 = .ok (.if_icmp .ne 29, 3) := by decide +kernel
theorem dX10_back_18 : decode cX10_back 18 = .ok (.aload_n 0, 1) := by decide +kernel
theorem dX10_back_19 : decode cX10_back 19 = .ok (.getfield 49, 3) := by decide +kernel
theorem dX10_back_22 : decode cX10_back 22 = .ok (.iload_n 1, 1) := by decide +kernel
theorem dX10_back_23 : decode cX10_back 23 = .ok (.iaload, 1) := by decide +kernel
theorem dX10_back_24 : decode cX10_back 24 = .ok (.iconst (-1), 1) := by decide +kernel
theorem dX10_back_25 : decode cX10_back 25 = .ok (.if_icmp .eq 21, 3) := by decide +kernel
theorem dX10_back_28 : decode cX10_back 28 = .ok (.aload_n 0, 1) := by decide +kernel
theorem dX10_back_29 : decode cX10_back 29 = .ok (.getfield 119, 3) := by decide +kernel
theorem dX10_back_32 : decode cX10_back 32 = .ok (.aload_n 0, 1) := by decide +kernel
theorem dX10_back_33 : decode cX10_back 33 = .ok (.getfield 49, 3) := by decide +kernel
theorem dX10_back_36 : decode cX10_back 36 = .ok (.iload_n 1, 1) := by decide +kernel
theorem dX10_back_37 : decode cX10_back 37 = .ok (.iaload, 1) := by decide +kernel
theorem dX10_back_38 : decode cX10_back 38 = .ok (.isub, 1) := by decide +kernel
theorem dX10_back_39 : decode cX10_back 39 = .ok (.bipush 28, 2) := by decide +kernel
theorem dX10_back_41 : decode cX10_back 41 = .ok (.if_icmp .le 5, 3) := by decide +kernel
theorem dX10_back_44 : decode cX10_back 44 = .ok (.iconst 0, 1) := by decide +kernel
theorem dX10_back_45 : decode cX10_back 45 = .ok (.ireturn, 1) := by decide +kernel
theorem dX10_back_46 : decode cX10_back 46 = .ok (.aload_n 0, 1) := by decide +kernel
theorem dX10_back_47 : decode cX10_back 47 = .ok (.getfield 52, 3) := by decide +kernel
theorem dX10_back_50 : decode cX10_back 50 = .ok (.iload_n 1, 1) := by decide +kernel
theorem dX10_back_51 : decode cX10_back 51 = .ok (.aload_n 0, 1) := by decide +kernel
theorem dX10_back_52 : decode cX10_back 52 = .ok (.getfield 119, 3) := by decide +kernel
theorem dX10_back_55 : decode cX10_back 55 = .ok (.iastore, 1) := by decide +kernel
theorem dX10_back_56 : decode cX10_back 56 = .ok (.aload_n 0, 1) := by decide +kernel
theorem dX10_back_57 : decode cX10_back 57 = .ok (.getfield 13, 3) := by decide +kernel
theorem dX10_back_60 : decode cX10_back 60 = .ok (.aload_n 0, 1) := by decide +kernel
theorem dX10_back_61 : decode cX10_back 61 = .ok (.getfield 34, 3) := by decide +kernel
theorem dX10_back_64 : decode cX10_back 64 = .ok (.iload_n 1, 1) := by decide +kernel
theorem dX10_back_65 : decode cX10_back 65 = .ok (.iaload, 1) := by decide +kernel
theorem dX10_back_66 : decode cX10_back 66 = .ok (.dup2, 1) := by decide +kernel
theorem dX10_back_67 : decode cX10_back 67 = .ok (.iaload, 1) := by decide +kernel
theorem dX10_back_68 : decode cX10_back 68 = .ok (.aload_n 0, 1) := by decide +kernel
theorem dX10_back_69 : decode cX10_back 69 = .ok (.getfield 37, 3) := by decide +kernel
theorem dX10_back_72 : decode cX10_back 72 = .ok (.iload_n 1, 1) := by decide +kernel
theorem dX10_back_73 : decode cX10_back 73 = .ok (.iaload, 1) := by decide +kernel
theorem dX10_back_74 : decode cX10_back 74 = .ok (.iadd, 1) := by decide +kernel
theorem dX10_back_75 : decode cX10_back 75 = .ok (.iastore, 1) := by decide +kernel
theorem dX10_back_76 : decode cX10_back 76 = .ok (.iconst 1, 1) := by decide +kernel
theorem dX10_back_77 : decode cX10_back 77 = .ok (.ireturn, 1) := by decide +kernel
theorem dX10_look_0 : decode cX10_look 0 = .ok (.iconst 0, 1) := by decide +kernel
theorem dX10_look_1 : decode cX10_look 1 = .ok (.istore_n 2, 1) := by decide +kernel
theorem dX10_look_2 : decode cX10_look 2 = .ok (.iload_n 1, 1) := by decide +kernel
theorem dX10_look_3 : decode cX10_look 3 = .ok (.tableswitch 146 0 6 #[41, 46, 51, 56, 102, 136, 141], 41) := by decide +kernel
theorem dX10_look_44 : decode cX10_look 44 = .ok (.aload_n 0, 1) := by decide +kernel
theorem dX10_look_45 : decode cX10_look 45 = .ok (.getfield 119, 3) := by decide +kernel
theorem dX10_look_48 : decode cX10_look 48 = .ok (.ireturn, 1) := by decide +kernel
theorem dX10_look_49 : decode cX10_look 49 = .ok (.aload_n 0, 1) := by decide +kernel
theorem dX10_look_50 : decode cX10_look 50 = .ok (.getfield 108, 3) := by decide +kernel
theorem dX10_look_53 : decode cX10_look 53 = .ok (.ireturn, 1) := by decide +kernel
theorem dX10_look_54 : decode cX10_look 54 = .ok (.aload_n 0, 1) := by decide +kernel
theorem dX10_look_55 : decode cX10_look 55 = .ok (.getfield 125, 3) := by decide +kernel
theorem dX10_look_58 : decode cX10_look 58 = .ok (.ireturn, 1) := by decide +kernel
theorem dX10_look_59 : decode cX10_look 59 = .ok (.iconst 0, 1) := by decide +kernel
theorem dX10_look_60 : decode cX10_look 60 = .ok (.istore_n 3, 1) := by decide +kernel
theorem dX10_look_61 : decode cX10_look 61 = .ok (.iload_n 3, 1) := by decide +kernel
theorem dX10_look_62 : decode cX10_look 62 = .ok (.aload_n 0, 1) := by decide +kernel
theorem dX10_look_63 : decode cX10_look 63 = .ok (.getfield 125, 3) := by decide +kernel
theorem dX10_look_66 : decode cX10_look 66 = .ok (.if_icmp .ge 37, 3) := by decide +kernel
theorem dX10_look_69 : decode cX10_look 69 = .ok (.iload_n 2, 1) := by decide +kernel
theorem dX10_look_70 : decode cX10_look 70 = .ok (.aload_n 0, 1) := by decide +kernel
theorem dX10_look_71 : decode cX10_look 71 = .ok (.getfield 49, 3) := by decide +kernel
theorem dX10_look_74 : decode cX10_look 74 = .ok (.iload_n 3, 1) := by decide +kernel
theorem dX10_look_75 : decode cX10_look 75 = .ok (.iaload, 1) := by decide +kernel
theorem dX10_look_76 : decode cX10_look 76 = .ok (.iconst (-1), 1) := by decide +kernel
theorem dX10_look_77 : decode cX10_look 77 = .ok (.if_icmp .ne 17, 3) := by decide +kernel
theorem dX10_look_80 : decode cX10_look 80 = .ok (.aload_n 0, 1) := by decide +kernel
theorem dX10_look_81 : decode cX10_look 81 = .ok (.getfield 52, 3) := by decide +kernel
theorem dX10_look_84 : decode cX10_look 84 = .ok (.iload_n 3, 1) := by decide +kernel
theorem dX10_look_85 : decode cX10_look 85 = .ok (.iaload, 1) := by decide +kernel
theorem dX10_look_86 : decode cX10_look 86 = .ok (.iconst (-1), 1) := by decide +kernel
theorem dX10_look_87 : decode cX10_look 87 = .ok (.if_icmp .ne 7, 3) := by decide +kernel
theorem dX10_look_90 : decode cX10_look 90 = .ok (.iconst 1, 1) := by decide +kernel
theorem dX10_look_91 : decode cX10_look 91 = .ok (.goto 4, 3) := by decide +kernel
theorem dX10_look_94 : decode cX10_look 94 = .ok (.iconst 0, 1) := by decide +kernel
theorem dX10_look_95 : decode cX10_look 95 = .ok (.iadd, 1) := by decide +kernel
theorem dX10_look_96 : decode cX10_look 96 = .ok (.istore_n 2, 1) := by decide +kernel
theorem dX10_look_97 : decode cX10_look 97 = .ok (.iinc 3 1, 3) := by decide +kernel
theorem dX10_look_100 : decode cX10_look 100 = .ok (.goto (-39), 3) := by decide +kernel
theorem dX10_look_103 : decode cX10_look 103 = .ok (.iload_n 2, 1) := by decide +kernel
theorem dX10_look_104 : decode cX10_look 104 = .ok (.ireturn, 1) := by decide +kernel
theorem dX10_look_105 : decode cX10_look 105 = .ok (.iconst 0, 1) := by decide +kernel
theorem dX10_look_106 : decode cX10_look 106 = .ok (.istore_n 3, 1) := by decide +kernel
theorem dX10_look_107 : decode cX10_look 107 = .ok (.iload_n 3, 1) := by decide +kernel
theorem dX10_look_108 : decode cX10_look 108 = .ok (.aload_n 0, 1) := by decide +kernel
theorem dX10_look_109 : decode cX10_look 109 = .ok (.getfield 125, 3) := by decide +kernel
theorem dX10_look_112 : decode cX10_look 112 = .ok (.if_icmp .ge 25, 3) := by decide +kernel
theorem dX10_look_115 : decode cX10_look 115 = .ok (.iload_n 2, 1) := by decide +kernel
theorem dX10_look_116 : decode cX10_look 116 = .ok (.aload_n 0, 1) := by decide +kernel
theorem dX10_look_117 : decode cX10_look 117 = .ok (.iload_n 3, 1) := by decide +kernel
theorem dX10_look_118 : decode cX10_look 118 = .ok (.invokevirtual 134, 3) := by decide +kernel
theorem dX10_look_121 : decode cX10_look 121 = .ok (.ifCond .eq 7, 3) := by decide +kernel
theorem dX10_look_124 : decode cX10_look 124 = .ok (.iconst 1, 1) := by decide +kernel
theorem dX10_look_125 : decode cX10_look 125 = .ok (.goto 4, 3) := by decide +kernel
theorem dX10_look_128 : decode cX10_look 128 = .ok (.iconst 0, 1) := by decide +kernel
theorem dX10_look_129 : decode cX10_look 129 = .ok (.iadd, 1) := by decide +kernel
theorem dX10_look_130 : decode cX10_look 130 = .ok (.istore_n 2, 1) := by decide +kernel
theorem dX10_look_131 : decode cX10_look 131 = .ok (.iinc 3 1, 3) := by decide +kernel
theorem dX10_look_134 : decode cX10_look 134 = .ok (.goto (-27), 3) := by decide +kernel
theorem dX10_look_137 : decode cX10_look 137 = .ok (.iload_n 2, 1) := by decide +kernel
theorem dX10_look_138 : decode cX10_look 138 = .ok (.ireturn, 1) := by decide +kernel
theorem dX10_look_139 : decode cX10_look 139 = .ok (.aload_n 0, 1) := by decide +kernel
theorem dX10_look_140 : decode cX10_look 140 = .ok (.getfield 128, 3) := by decide +kernel
theorem dX10_look_143 : decode cX10_look 143 = .ok (.ireturn, 1) := by decide +kernel
theorem dX10_look_144 : decode cX10_look 144 = .ok (.aload_n 0, 1) := by decide +kernel
theorem dX10_look_145 : decode cX10_look 145 = .ok (.getfield 137, 3) := by decide +kernel
theorem dX10_look_148 : decode cX10_look 148 = .ok (.ireturn, 1) := by decide +kernel
theorem dX10_look_149 : decode cX10_look 149 = .ok (.iconst (-1), 1) := by decide +kernel
theorem dX10_look_150 : decode cX10_look 150 = .ok (.ireturn, 1) := by decide +kernel
theorem dX10_van_0 : decode cX10_van 0 = .ok (.iload_n 1, 1) := by decide +kernel
theorem dX10_van_1 : decode cX10_van 1 = .ok (.iconst 0, 1) := by decide +kernel
theorem dX10_van_2 : decode cX10_van 2 = .ok (.sipush 500, 3) := by decide +kernel
theorem dX10_van_5 : decode cX10_van 5 = .ok (.invokestatic 111, 3) := by decide +kernel
theorem dX10_van_8 : decode cX10_van 8 = .ok (.ifCond .eq 11, 3) := by decide +kernel
theorem dX10_van_11 : decode cX10_van 11 = .ok (.aload_n 0, 1) := by decide +kernel
theorem dX10_van_12 : decode cX10_van 12 = .ok (.getfield 128, 3) := by decide +kernel
theorem dX10_van_15 : decode cX10_van 15 = .ok (.iconst 2, 1) := by decide +kernel
theorem dX10_van_16 : decode cX10_van 16 = .ok (.if_icmp .ne 5, 3) := by decide +kernel
theorem dX10_van_19 : decode cX10_van 19 = .ok (.iconst (-1), 1) := by decide +kernel
theorem dX10_van_20 : decode cX10_van 20 = .ok (.ireturn, 1) := by decide +kernel
theorem dX10_van_21 : decode cX10_van 21 = .ok (.iload_n 1, 1) := by decide +kernel
theorem dX10_van_22 : decode cX10_van 22 = .ok (.istore_n 2, 1) := by decide +kernel
theorem dX10_van_23 : decode cX10_van 23 = .ok (.iconst 0, 1) := by decide +kernel
theorem dX10_van_24 : decode cX10_van 24 = .ok (.istore_n 3, 1) := by decide +kernel
theorem dX10_van_25 : decode cX10_van 25 = .ok (.aload_n 0, 1) := by decide +kernel
theorem dX10_van_26 : decode cX10_van 26 = .ok (.iconst 0, 1) := by decide +kernel
theorem dX10_van_27 : decode cX10_van 27 = .ok (.putfield 140, 3) := by decide +kernel
theorem dX10_van_30 : decode cX10_van 30 = .ok (.iconst 0, 1) := by decide +kernel
theorem dX10_van_31 : decode cX10_van 31 = .ok (.istore 4, 2) := by decide +kernel
theorem dX10_van_33 : decode cX10_van 33 = .ok (.iload 4, 2) := by decide +kernel
theorem dX10_van_35 : decode cX10_van 35 = .ok (.bipush 20, 2) := by decide +kernel
theorem dX10_van_37 : decode cX10_van 37 = .ok (.if_icmp .ge 17, 3) := by decide +kernel
theorem dX10_van_40 : decode cX10_van 40 = .ok (.aload_n 0, 1) := by decide +kernel
theorem dX10_van_41 : decode cX10_van 41 = .ok (.getfield 64, 3) := by decide +kernel
theorem dX10_van_44 : decode cX10_van 44 = .ok (.iload 4, 2) := by decide +kernel
theorem dX10_van_46 : decode cX10_van 46 = .ok (.iconst 0, 1) := by decide +kernel
theorem dX10_van_47 : decode cX10_van 47 = .ok (.bastore, 1) := by decide +kernel
theorem dX10_van_48 : decode cX10_van 48 = .ok (.iinc 4 1, 3) := by decide +kernel
theorem dX10_van_51 : decode cX10_van 51 = .ok (.goto (-18), 3) := by decide +kernel
theorem dX10_van_54 : decode cX10_van 54 = .ok (.iconst 0, 1) := by decide +kernel
theorem dX10_van_55 : decode cX10_van 55 = .ok (.istore 4, 2) := by decide +kernel
theorem dX10_van_57 : decode cX10_van 57 = .ok (.iload 4, 2) := by decide +kernel
theorem dX10_van_59 : decode cX10_van 59 = .ok (.aload_n 0, 1) := by decide +kernel
theorem dX10_van_60 : decode cX10_van 60 = .ok (.getfield 125, 3) := by decide +kernel
theorem dX10_van_63 : decode cX10_van 63 = .ok (.if_icmp .ge 216, 3) := by decide +kernel
theorem dX10_van_66 : decode cX10_van 66 = .ok (.aload_n 0, 1) := by decide +kernel
theorem dX10_van_67 : decode cX10_van 67 = .ok (.iload 4, 2) := by decide +kernel
theorem dX10_van_69 : decode cX10_van 69 = .ok (.invokevirtual 134, 3) := by decide +kernel
theorem dX10_van_72 : decode cX10_van 72 = .ok (.ifCond .eq 201, 3) := by decide +kernel
theorem dX10_van_75 : decode cX10_van 75 = .ok (.aload_n 0, 1) := by decide +kernel
theorem dX10_van_76 : decode cX10_van 76 = .ok (.getfield 64, 3) := by decide +kernel
theorem dX10_van_79 : decode cX10_van 79 = .ok (.aload_n 0, 1) := by decide +kernel
theorem dX10_van_80 : decode cX10_van 80 = .ok (.getfield 40, 3) := by decide +kernel
theorem dX10_van_83 : decode cX10_van 83 = .ok (.iload 4, 2) := by decide +kernel
theorem dX10_van_85 : decode cX10_van 85 = .ok (.iaload, 1) := by decide +kernel
theorem dX10_van_86 : decode cX10_van 86 = .ok (.baload, 1) := by decide +kernel
theorem dX10_van_87 : decode cX10_van 87 = .ok (.ifCond .eq 6, 3) := by decide +kernel
theorem dX10_van_90 : decode cX10_van 90 = .ok (.goto 183, 3) := by decide +kernel
theorem dX10_van_93 : decode cX10_van 93 = .ok (.aload_n 0, 1) := by decide +kernel
theorem dX10_van_94 : decode cX10_van 94 = .ok (.getfield 40, 3) := by decide +kernel
theorem dX10_van_97 : decode cX10_van 97 = .ok (.iload 4, 2) := by decide +kernel
theorem dX10_van_99 : decode cX10_van 99 = .ok (.iaload, 1) := by decide +kernel
theorem dX10_van_100 : decode cX10_van 100 = .ok (.istore 5, 2) := by decide +kernel
theorem dX10_van_102 : decode cX10_van 102 = .ok (.aload_n 0, 1) := by decide +kernel
theorem dX10_van_103 : decode cX10_van 103 = .ok (.getfield 64, 3) := by decide +kernel
theorem dX10_van_106 : decode cX10_van 106 = .ok (.iload 5, 2) := by decide +kernel
theorem dX10_van_108 : decode cX10_van 108 = .ok (.iconst 1, 1) := by decide +kernel
theorem dX10_van_109 : decode cX10_van 109 = .ok (.bastore, 1) := by decide +kernel
theorem dX10_van_110 : decode cX10_van 110 = .ok (.iconst 0, 1) := by decide +kernel
theorem dX10_van_111 : decode cX10_van 111 = .ok (.istore 6, 2) := by decide +kernel
theorem dX10_van_113 : decode cX10_van 113 = .ok (.iconst 0, 1) := by decide +kernel
theorem dX10_van_114 : decode cX10_van 114 = .ok (.istore 7, 2) := by decide +kernel
theorem dX10_van_116 : decode cX10_van 116 = .ok (.iload 7, 2) := by decide +kernel
theorem dX10_van_118 : decode cX10_van 118 = .ok (.aload_n 0, 1) := by decide +kernel
theorem dX10_van_119 : decode cX10_van 119 = .ok (.getfield 125, 3) := by decide +kernel
theorem dX10_van_122 : decode cX10_van 122 = .ok (.if_icmp .ge 46, 3) := by decide +kernel
theorem dX10_van_125 : decode cX10_van 125 = .ok (.iload 6, 2) := by decide +kernel
theorem dX10_van_127 : decode cX10_van 127 = .ok (.aload_n 0, 1) := by decide +kernel
theorem dX10_van_128 : decode cX10_van 128 = .ok (.iload 7, 2) := by decide +kernel
theorem dX10_van_130 : decode cX10_van 130 = .ok (.invokevirtual 134, 3) := by decide +kernel
theorem dX10_van_133 : decode cX10_van 133 = .ok (.ifCond .eq 25, 3) := by decide +kernel
theorem dX10_van_136 : decode cX10_van 136 = .ok (.aload_n 0, 1) := by decide +kernel
theorem dX10_van_137 : decode cX10_van 137 = .ok (.getfield 40, 3) := by decide +kernel
theorem dX10_van_140 : decode cX10_van 140 = .ok (.iload 7, 2) := by decide +kernel
theorem dX10_van_142 : decode cX10_van 142 = .ok (.iaload, 1) := by decide +kernel
theorem dX10_van_143 : decode cX10_van 143 = .ok (.iload 5, 2) := by decide +kernel
theorem dX10_van_145 : decode cX10_van 145 = .ok (.if_icmp .ne 13, 3) := by decide +kernel
theorem dX10_van_148 : decode cX10_van 148 = .ok (.aload_n 0, 1) := by decide +kernel
theorem dX10_van_149 : decode cX10_van 149 = .ok (.getfield 37, 3) := by decide +kernel
theorem dX10_van_152 : decode cX10_van 152 = .ok (.iload 7, 2) := by decide +kernel
theorem dX10_van_154 : decode cX10_van 154 = .ok (.iaload, 1) := by decide +kernel
theorem dX10_van_155 : decode cX10_van 155 = .ok (.goto 4, 3) := by decide +kernel
theorem dX10_van_158 : decode cX10_van 158 = .ok (.iconst 0, 1) := by decide +kernel
theorem dX10_van_159 : decode cX10_van 159 = .ok (.iadd, 1) := by decide +kernel
theorem dX10_van_160 : decode cX10_van 160 = .ok (.istore 6, 2) := by decide +kernel
theorem dX10_van_162 : decode cX10_van 162 = .ok (.iinc 7 1, 3) := by decide +kernel
theorem dX10_van_165 : decode cX10_van 165 = .ok (.goto (-49), 3) := by decide +kernel
theorem dX10_van_168 : decode cX10_van 168 = .ok (.iload 6, 2) := by decide +kernel
theorem dX10_van_170 : decode cX10_van 170 = .ok (.iload_n 2, 1) := by decide +kernel
theorem dX10_van_171 : decode cX10_van 171 = .ok (.if_icmp .le 6, 3) := by decide +kernel
theorem dX10_van_174 : decode cX10_van 174 = .ok (.goto 99, 3) := by decide +kernel
theorem dX10_van_177 : decode cX10_van 177 = .ok (.iload_n 2, 1) := by decide +kernel
theorem dX10_van_178 : decode cX10_van 178 = .ok (.iload 6, 2) := by decide +kernel
theorem dX10_van_180 : decode cX10_van 180 = .ok (.isub, 1) := by decide +kernel
theorem dX10_van_181 : decode cX10_van 181 = .ok (.istore_n 2, 1) := by decide +kernel
theorem dX10_van_182 : decode cX10_van 182 = .ok (.iconst 0, 1) := by decide +kernel
theorem dX10_van_183 : decode cX10_van 183 = .ok (.istore 7, 2) := by decide +kernel
theorem dX10_van_185 : decode cX10_van 185 = .ok (.iload 7, 2) := by decide +kernel
theorem dX10_van_187 : decode cX10_van 187 = .ok (.aload_n 0, 1) := by decide +kernel
theorem dX10_van_188 : decode cX10_van 188 = .ok (.getfield 125, 3) := by decide +kernel
theorem dX10_van_191 : decode cX10_van 191 = .ok (.if_icmp .ge 61, 3) := by decide +kernel
theorem dX10_van_194 : decode cX10_van 194 = .ok (.aload_n 0, 1) := by decide +kernel
theorem dX10_van_195 : decode cX10_van 195 = .ok (.iload 7, 2) := by decide +kernel
theorem dX10_van_197 : decode cX10_van 197 = .ok (.invokevirtual 134, 3) := by decide +kernel
theorem dX10_van_200 : decode cX10_van 200 = .ok (.ifCond .eq 46, 3) := by decide +kernel
theorem dX10_van_203 : decode cX10_van 203 = .ok (.aload_n 0, 1) := by decide +kernel
theorem dX10_van_204 : decode cX10_van 204 = .ok (.getfield 40, 3) := by decide +kernel
theorem dX10_van_207 : decode cX10_van 207 = .ok (.iload 7, 2) := by decide +kernel
theorem dX10_van_209 : decode cX10_van 209 = .ok (.iaload, 1) := by decide +kernel
theorem dX10_van_210 : decode cX10_van 210 = .ok (.iload 5, 2) := by decide +kernel
theorem dX10_van_212 : decode cX10_van 212 = .ok (.if_icmp .eq 6, 3) := by decide +kernel
theorem dX10_van_215 : decode cX10_van 215 = .ok (.goto 31, 3) := by decide +kernel
theorem dX10_van_218 : decode cX10_van 218 = .ok (.aload_n 0, 1) := by decide +kernel
theorem dX10_van_219 : decode cX10_van 219 = .ok (.getfield 55, 3) := by decide +kernel
theorem dX10_van_222 : decode cX10_van 222 = .ok (.iload 7, 2) := by decide +kernel
theorem dX10_van_224 : decode cX10_van 224 = .ok (.iconst 2, 1) := by decide +kernel
theorem dX10_van_225 : decode cX10_van 225 = .ok (.aload_n 0, 1) := by decide +kernel
theorem dX10_van_226 : decode cX10_van 226 = .ok (.getfield 119, 3) := by decide +kernel
theorem dX10_van_229 : decode cX10_van 229 = .ok (.imul, 1) := by decide +kernel
theorem dX10_van_230 : decode cX10_van 230 = .ok (.aload_n 0, 1) := by decide +kernel
theorem dX10_van_231 : decode cX10_van 231 = .ok (.getfield 128, 3) := by decide +kernel
theorem dX10_van_234 : decode cX10_van 234 = .ok (.iadd, 1) := by decide +kernel
theorem dX10_van_235 : decode cX10_van 235 = .ok (.iastore, 1) := by decide +kernel
theorem dX10_van_236 : decode cX10_van 236 = .ok (.iload_n 3, 1) := by decide +kernel
theorem dX10_van_237 : decode cX10_van 237 = .ok (.aload_n 0, 1) := by decide +kernel
theorem dX10_van_238 : decode cX10_van 238 = .ok (.getfield 37, 3) := by decide +kernel
theorem dX10_van_241 : decode cX10_van 241 = .ok (.iload 7, 2) := by decide +kernel
theorem dX10_van_243 : decode cX10_van 243 = .ok (.iaload, 1) := by decide +kernel
theorem dX10_van_244 : decode cX10_van 244 = .ok (.iadd, 1) := by decide +kernel
theorem dX10_van_245 : decode cX10_van 245 = .ok (.istore_n 3, 1) := by decide +kernel
theorem dX10_van_246 : decode cX10_van 246 = .ok (.iinc 7 1, 3) := by decide +kernel
theorem dX10_van_249 : decode cX10_van 249 = .ok (.goto (-64), 3) := by decide +kernel
theorem dX10_van_252 : decode cX10_van 252 = .ok (.aload_n 0, 1) := by decide +kernel
theorem dX10_van_253 : decode cX10_van 253 = .ok (.getfield 61, 3) := by decide +kernel
theorem dX10_van_256 : decode cX10_van 256 = .ok (.aload_n 0, 1) := by decide +kernel
theorem dX10_van_257 : decode cX10_van 257 = .ok (.getfield 140, 3) := by decide +kernel
theorem dX10_van_260 : decode cX10_van 260 = .ok (.iload 5, 2) := by decide +kernel
theorem dX10_van_262 : decode cX10_van 262 = .ok (.iastore, 1) := by decide +kernel
theorem dX10_van_263 : decode cX10_van 263 = .ok (.aload_n 0, 1) := by decide +kernel
theorem dX10_van_264 : decode cX10_van 264 = .ok (.dup, 1) := by decide +kernel
theorem dX10_van_265 : decode cX10_van 265 = .ok (.getfield 140, 3) := by decide +kernel
theorem dX10_van_268 : decode cX10_van 268 = .ok (.iconst 1, 1) := by decide +kernel
theorem dX10_van_269 : decode cX10_van 269 = .ok (.iadd, 1) := by decide +kernel
theorem dX10_van_270 : decode cX10_van 270 = .ok (.putfield 140, 3) := by decide +kernel
theorem dX10_van_273 : decode cX10_van 273 = .ok (.iinc 4 1, 3) := by decide +kernel
theorem dX10_van_276 : decode cX10_van 276 = .ok (.goto (-219), 3) := by decide +kernel
theorem dX10_van_279 : decode cX10_van 279 = .ok (.aload_n 0, 1) := by decide +kernel
theorem dX10_van_280 : decode cX10_van 280 = .ok (.dup, 1) := by decide +kernel
theorem dX10_van_281 : decode cX10_van 281 = .ok (.getfield 128, 3) := by decide +kernel
theorem dX10_van_284 : decode cX10_van 284 = .ok (.iconst 1, 1) := by decide +kernel
theorem dX10_van_285 : decode cX10_van 285 = .ok (.iadd, 1) := by decide +kernel
theorem dX10_van_286 : decode cX10_van 286 = .ok (.putfield 128, 3) := by decide +kernel
theorem dX10_van_289 : decode cX10_van 289 = .ok (.iload_n 3, 1) := by decide +kernel
theorem dX10_van_290 : decode cX10_van 290 = .ok (.ireturn, 1) := by decide +kernel
theorem dX10_house_0 : decode cX10_house 0 = .ok (.iload_n 1, 1) := by decide +kernel
theorem dX10_house_1 : decode cX10_house 1 = .ok (.iconst 0, 1) := by decide +kernel
theorem dX10_house_2 : decode cX10_house 2 = .ok (.aload_n 0, 1) := by decide +kernel
theorem dX10_house_3 : decode cX10_house 3 = .ok (.getfield 140, 3) := by decide +kernel
theorem dX10_house_6 : decode cX10_house 6 = .ok (.iconst 1, 1) := by decide +kernel
theorem dX10_house_7 : decode cX10_house 7 = .ok (.isub, 1) := by decide +kernel
theorem dX10_house_8 : decode cX10_house 8 = .ok (.invokestatic 111, 3) := by decide +kernel
theorem dX10_house_11 : decode cX10_house 11 = .ok (.ifCond .eq 12, 3) := by decide +kernel
theorem dX10_house_14 : decode cX10_house 14 = .ok (.aload_n 0, 1) := by decide +kernel
theorem dX10_house_15 : decode cX10_house 15 = .ok (.getfield 61, 3) := by decide +kernel
theorem dX10_house_18 : decode cX10_house 18 = .ok (.iload_n 1, 1) := by decide +kernel
theorem dX10_house_19 : decode cX10_house 19 = .ok (.iaload, 1) := by decide +kernel
theorem dX10_house_20 : decode cX10_house 20 = .ok (.goto 4, 3) := by decide +kernel
theorem dX10_house_23 : decode cX10_house 23 = .ok (.iconst (-1), 1) := by decide +kernel
theorem dX10_house_24 : decode cX10_house 24 = .ok (.ireturn, 1) := by decide +kernel
theorem dX10_feed_0 : decode cX10_feed 0 = .ok (.aload_n 0, 1) := by decide +kernel
theorem dX10_feed_1 : decode cX10_feed 1 = .ok (.getfield 143, 3) := by decide +kernel
theorem dX10_feed_4 : decode cX10_feed 4 = .ok (.bipush 20, 2) := by decide +kernel
theorem dX10_feed_6 : decode cX10_feed 6 = .ok (.iadd, 1) := by decide +kernel
theorem dX10_feed_7 : decode cX10_feed 7 = .ok (.sipush 400, 3) := by decide +kernel
theorem dX10_feed_10 : decode cX10_feed 10 = .ok (.if_icmp .le 5, 3) := by decide +kernel
theorem dX10_feed_13 : decode cX10_feed 13 = .ok (.iconst (-1), 1) := by decide +kernel
theorem dX10_feed_14 : decode cX10_feed 14 = .ok (.ireturn, 1) := by decide +kernel
theorem dX10_feed_15 : decode cX10_feed 15 = .ok (.iconst 0, 1) := by decide +kernel
theorem dX10_feed_16 : decode cX10_feed 16 = .ok (.istore 6, 2) := by decide +kernel
theorem dX10_feed_18 : decode cX10_feed 18 = .ok (.iload 6, 2) := by decide +kernel
theorem dX10_feed_20 : decode cX10_feed 20 = .ok (.bipush 20, 2) := by decide +kernel
theorem dX10_feed_22 : decode cX10_feed 22 = .ok (.if_icmp .ge 93, 3) := by decide +kernel
theorem dX10_feed_25 : decode cX10_feed 25 = .ok (.iload 6, 2) := by decide +kernel
theorem dX10_feed_27 : decode cX10_feed 27 = .ok (.iconst 4, 1) := by decide +kernel
theorem dX10_feed_28 : decode cX10_feed 28 = .ok (.if_icmp .ge 7, 3) := by decide +kernel
theorem dX10_feed_31 : decode cX10_feed 31 = .ok (.iload_n 1, 1) := by decide +kernel
theorem dX10_feed_32 : decode cX10_feed 32 = .ok (.goto 39, 3) := by decide +kernel
theorem dX10_feed_35 : decode cX10_feed 35 = .ok (.iload 6, 2) := by decide +kernel
theorem dX10_feed_37 : decode cX10_feed 37 = .ok (.bipush 8, 2) := by decide +kernel
theorem dX10_feed_39 : decode cX10_feed 39 = .ok (.if_icmp .ge 7, 3) := by decide +kernel
theorem dX10_feed_42 : decode cX10_feed 42 = .ok (.iload_n 2, 1) := by decide +kernel
theorem dX10_feed_43 : decode cX10_feed 43 = .ok (.goto 28, 3) := by decide +kernel
theorem dX10_feed_46 : decode cX10_feed 46 = .ok (.iload 6, 2) := by decide +kernel
theorem dX10_feed_48 : decode cX10_feed 48 = .ok (.bipush 12, 2) := by decide +kernel
theorem dX10_feed_50 : decode cX10_feed 50 = .ok (.if_icmp .ge 7, 3) := by decide +kernel
theorem dX10_feed_53 : decode cX10_feed 53 = .ok (.iload_n 3, 1) := by decide +kernel
theorem dX10_feed_54 : decode cX10_feed 54 = .ok (.goto 17, 3) := by decide +kernel
theorem dX10_feed_57 : decode cX10_feed 57 = .ok (.iload 6, 2) := by decide +kernel
theorem dX10_feed_59 : decode cX10_feed 59 = .ok (.bipush 16, 2) := by decide +kernel
theorem dX10_feed_61 : decode cX10_feed 61 = .ok (.if_icmp .ge 8, 3) := by decide +kernel
theorem dX10_feed_64 : decode cX10_feed 64 = .ok (.iload 4, 2) := by decide +kernel
theorem dX10_feed_66 : decode cX10_feed 66 = .ok (.goto 5, 3) := by decide +kernel
theorem dX10_feed_69 : decode cX10_feed 69 = .ok (.iload 5, 2) := by decide +kernel
theorem dX10_feed_71 : decode cX10_feed 71 = .ok (.istore 7, 2) := by decide +kernel
theorem dX10_feed_73 : decode cX10_feed 73 = .ok (.aload_n 0, 1) := by decide +kernel
theorem dX10_feed_74 : decode cX10_feed 74 = .ok (.getfield 89, 3) := by decide +kernel
theorem dX10_feed_77 : decode cX10_feed 77 = .ok (.aload_n 0, 1) := by decide +kernel
theorem dX10_feed_78 : decode cX10_feed 78 = .ok (.getfield 143, 3) := by decide +kernel
theorem dX10_feed_81 : decode cX10_feed 81 = .ok (.iload 7, 2) := by decide +kernel
theorem dX10_feed_83 : decode cX10_feed 83 = .ok (.bipush 24, 2) := by decide +kernel
theorem dX10_feed_85 : decode cX10_feed 85 = .ok (.bipush 8, 2) := by decide +kernel
theorem dX10_feed_87 : decode cX10_feed 87 = .ok (.iload 6, 2) := by decide +kernel
theorem dX10_feed_89 : decode cX10_feed 89 = .ok (.iconst 4, 1) := by decide +kernel
theorem dX10_feed_90 : decode cX10_feed 90 = .ok (.irem, 1) := by decide +kernel
theorem dX10_feed_91 : decode cX10_feed 91 = .ok (.imul, 1) := by decide +kernel
theorem dX10_feed_92 : decode cX10_feed 92 = .ok (.isub, 1) := by decide +kernel
theorem dX10_feed_93 : decode cX10_feed 93 = .ok (.ishr, 1) := by decide +kernel
theorem dX10_feed_94 : decode cX10_feed 94 = .ok (.sipush 255, 3) := by decide +kernel
theorem dX10_feed_97 : decode cX10_feed 97 = .ok (.iand, 1) := by decide +kernel
theorem dX10_feed_98 : decode cX10_feed 98 = .ok (.iastore, 1) := by decide +kernel
theorem dX10_feed_99 : decode cX10_feed 99 = .ok (.aload_n 0, 1) := by decide +kernel
theorem dX10_feed_100 : decode cX10_feed 100 = .ok (.dup, 1) := by decide +kernel
theorem dX10_feed_101 : decode cX10_feed 101 = .ok (.getfield 143, 3) := by decide +kernel
theorem dX10_feed_104 : decode cX10_feed 104 = .ok (.iconst 1, 1) := by decide +kernel
theorem dX10_feed_105 : decode cX10_feed 105 = .ok (.iadd, 1) := by decide +kernel
theorem dX10_feed_106 : decode cX10_feed 106 = .ok (.putfield 143, 3) := by decide +kernel
theorem dX10_feed_109 : decode cX10_feed 109 = .ok (.iinc 6 1, 3) := by decide +kernel
theorem dX10_feed_112 : decode cX10_feed 112 = .ok (.goto (-94), 3) := by decide +kernel
theorem dX10_feed_115 : decode cX10_feed 115 = .ok (.aload_n 0, 1) := by decide +kernel
theorem dX10_feed_116 : decode cX10_feed 116 = .ok (.getfield 143, 3) := by decide +kernel
theorem dX10_feed_119 : decode cX10_feed 119 = .ok (.ireturn, 1) := by decide +kernel
theorem dX10_end_0 : decode cX10_end 0 = .ok (.iload_n 1, 1) := by decide +kernel
theorem dX10_end_1 : decode cX10_end 1 = .ok (.iconst 0, 1) := by decide +kernel
theorem dX10_end_2 : decode cX10_end 2 = .ok (.aload_n 0, 1) := by decide +kernel
theorem dX10_end_3 : decode cX10_end 3 = .ok (.getfield 143, 3) := by decide +kernel
theorem dX10_end_6 : decode cX10_end 6 = .ok (.invokestatic 111, 3) := by decide +kernel
theorem dX10_end_9 : decode cX10_end 9 = .ok (.ifCond .ne 5, 3) := by decide +kernel
theorem dX10_end_12 : decode cX10_end 12 = .ok (.iconst 0, 1) := by decide +kernel
theorem dX10_end_13 : decode cX10_end 13 = .ok (.ireturn, 1) := by decide +kernel
theorem dX10_end_14 : decode cX10_end 14 = .ok (.aload_n 0, 1) := by decide +kernel
theorem dX10_end_15 : decode cX10_end 15 = .ok (.iload_n 1, 1) := by decide +kernel
theorem dX10_end_16 : decode cX10_end 16 = .ok (.putfield 143, 3) := by decide +kernel
theorem dX10_end_19 : decode cX10_end 19 = .ok (.iconst 1, 1) := by decide +kernel
theorem dX10_end_20 : decode cX10_end 20 = .ok (.ireturn, 1) := by decide +kernel
theorem dX10_next0_0 : decode cX10_next0 0 = .ok (.aload_n 0, 1) := by decide +kernel
theorem dX10_next0_1 : decode cX10_next0 1 = .ok (.aload_n 0, 1) := by decide +kernel
theorem dX10_next0_2 : decode cX10_next0 2 = .ok (.getfield 164, 3) := by decide +kernel
theorem dX10_next0_5 : decode cX10_next0 5 = .ok (.invokevirtual 167, 3) := by decide +kernel
theorem dX10_next0_8 : decode cX10_next0 8 = .ok (.bipush 32, 2) := by decide +kernel
theorem dX10_next0_10 : decode cX10_next0 10 = .ok (.if_icmp .eq 16, 3) := by decide +kernel
theorem dX10_next0_13 : decode cX10_next0 13 = .ok (.aload_n 0, 1) := by decide +kernel
theorem dX10_next0_14 : decode cX10_next0 14 = .ok (.aload_n 0, 1) := by decide +kernel
theorem dX10_next0_15 : decode cX10_next0 15 = .ok (.getfield 164, 3) := by decide +kernel
theorem dX10_next0_18 : decode cX10_next0 18 = .ok (.invokevirtual 167, 3) := by decide +kernel
theorem dX10_next0_21 : decode cX10_next0 21 = .ok (.bipush 10, 2) := by decide +kernel
theorem dX10_next0_23 : decode cX10_next0 23 = .ok (.if_icmp .ne 16, 3) := by decide +kernel
theorem dX10_next0_26 : decode cX10_next0 26 = .ok (.aload_n 0, 1) := by decide +kernel
theorem dX10_next0_27 : decode cX10_next0 27 = .ok (.dup, 1) := by decide +kernel
theorem dX10_next0_28 : decode cX10_next0 28 = .ok (.getfield 164, 3) := by decide +kernel
theorem dX10_next0_31 : decode cX10_next0 31 = .ok (.iconst 1, 1) := by decide +kernel
theorem dX10_next0_32 : decode cX10_next0 32 = .ok (.iadd, 1) := by decide +kernel
theorem dX10_next0_33 : decode cX10_next0 33 = .ok (.putfield 164, 3) := by decide +kernel
theorem dX10_next0_36 : decode cX10_next0 36 = .ok (.goto (-36), 3) := by decide +kernel
theorem dX10_next0_39 : decode cX10_next0 39 = .ok (.aload_n 0, 1) := by decide +kernel
theorem dX10_next0_40 : decode cX10_next0 40 = .ok (.aload_n 0, 1) := by decide +kernel
theorem dX10_next0_41 : decode cX10_next0 41 = .ok (.getfield 164, 3) := by decide +kernel
theorem dX10_next0_44 : decode cX10_next0 44 = .ok (.putfield 171, 3) := by decide +kernel
theorem dX10_next0_47 : decode cX10_next0 47 = .ok (.aload_n 0, 1) := by decide +kernel
theorem dX10_next0_48 : decode cX10_next0 48 = .ok (.aload_n 0, 1) := by decide +kernel
theorem dX10_next0_49 : decode cX10_next0 49 = .ok (.getfield 164, 3) := by decide +kernel
theorem dX10_next0_52 : decode cX10_next0 52 = .ok (.invokevirtual 167, 3) := by decide +kernel
theorem dX10_next0_55 : decode cX10_next0 55 = .ok (.istore_n 1, 1) := by decide +kernel
theorem dX10_next0_56 : decode cX10_next0 56 = .ok (.iconst 0, 1) := by decide +kernel
theorem dX10_next0_57 : decode cX10_next0 57 = .ok (.istore_n 2, 1) := by decide +kernel
theorem dX10_next0_58 : decode cX10_next0 58 = .ok (.iload_n 1, 1) := by decide +kernel
theorem dX10_next0_59 : decode cX10_next0 59 = .ok (.iconst (-1), 1) := by decide +kernel
theorem dX10_next0_60 : decode cX10_next0 60 = .ok (.if_icmp .ne 11, 3) := by decide +kernel
theorem dX10_next0_63 : decode cX10_next0 63 = .ok (.aload_n 0, 1) := by decide +kernel
theorem dX10_next0_64 : decode cX10_next0 64 = .ok (.iconst 0, 1) := by decide +kernel
theorem dX10_next0_65 : decode cX10_next0 65 = .ok (.putfield 174, 3) := by decide +kernel
theorem dX10_next0_68 : decode cX10_next0 68 = .ok (.goto 262, 3) := by decide +kernel
theorem dX10_next0_71 : decode cX10_next0 71 = .ok (.iload_n 1, 1) := by decide +kernel
theorem dX10_next0_72 : decode cX10_next0 72 = .ok (.invokestatic 177, 3) := by decide +kernel
theorem dX10_next0_75 : decode cX10_next0 75 = .ok (.ifCond .eq 77, 3) := by decide +kernel
theorem dX10_next0_78 : decode cX10_next0 78 = .ok (.lconst 0, 1) := by decide +kernel
theorem dX10_next0_79 : decode cX10_next0 79 = .ok (.lstore_n 3, 1) := by decide +kernel
theorem dX10_next0_80 : decode cX10_next0 80 = .ok (.aload_n 0, 1) := by decide +kernel
theorem dX10_next0_81 : decode cX10_next0 81 = .ok (.aload_n 0, 1) := by decide +kernel
theorem dX10_next0_82 : decode cX10_next0 82 = .ok (.getfield 164, 3) := by decide +kernel
theorem dX10_next0_85 : decode cX10_next0 85 = .ok (.invokevirtual 167, 3) := by decide +kernel
theorem dX10_next0_88 : decode cX10_next0 88 = .ok (.invokestatic 177, 3) := by decide +kernel
theorem dX10_next0_91 : decode cX10_next0 91 = .ok (.ifCond .eq 40, 3) := by decide +kernel
theorem dX10_next0_94 : decode cX10_next0 94 = .ok (.iload_n 2, 1) := by decide +kernel
theorem dX10_next0_95 : decode cX10_next0 95 = .ok (.bipush 7, 2) := by decide +kernel
theorem dX10_next0_97 : decode cX10_next0 97 = .ok (.if_icmp .ge 18, 3) := by decide +kernel
theorem dX10_next0_100 : decode cX10_next0 100 = .ok (.lload_n 3, 1) := by decide +kernel
theorem dX10_next0_101 : decode cX10_next0 101 = .ok (.bipush 8, 2) := by decide +kernel
theorem dX10_next0_103 : decode cX10_next0 103 = .ok (.lshl, 1) := by decide +kernel
theorem dX10_next0_104 : decode cX10_next0 104 = .ok (.aload_n 0, 1) := by decide +kernel
theorem dX10_next0_105 : decode cX10_next0 105 = .ok (.aload_n 0, 1) := by decide +kernel
theorem dX10_next0_106 : decode cX10_next0 106 = .ok (.getfield 164, 3) := by decide +kernel
theorem dX10_next0_109 : decode cX10_next0 109 = .ok (.invokevirtual 167, 3) := by decide +kernel
theorem dX10_next0_112 : decode cX10_next0 112 = .ok (.i2l, 1) := by decide +kernel
theorem dX10_next0_113 : decode cX10_next0 113 = .ok (.lor, 1) := by decide +kernel
theorem dX10_next0_114 : decode cX10_next0 114 = .ok (.lstore_n 3, 1) := by decide +kernel
theorem dX10_next0_115 : decode cX10_next0 115 = .ok (.iinc 2 1, 3) := by decide +kernel
theorem dX10_next0_118 : decode cX10_next0 118 = .ok (.aload_n 0, 1) := by decide +kernel
theorem dX10_next0_119 : decode cX10_next0 119 = .ok (.dup, 1) := by decide +kernel
theorem dX10_next0_120 : decode cX10_next0 120 = .ok (.getfield 164, 3) := by decide +kernel
theorem dX10_next0_123 : decode cX10_next0 123 = .ok (.iconst 1, 1) := by decide +kernel
theorem dX10_next0_124 : decode cX10_next0 124 = .ok (.iadd, 1) := by decide +kernel
theorem dX10_next0_125 : decode cX10_next0 125 = .ok (.putfield 164, 3) := by decide +kernel
theorem dX10_next0_128 : decode cX10_next0 128 = .ok (.goto (-48), 3) := by decide +kernel
theorem dX10_next0_131 : decode cX10_next0 131 = .ok (.aload_n 0, 1) := by decide +kernel
theorem dX10_next0_132 : decode cX10_next0 132 = .ok (.iload_n 2, 1) := by decide +kernel
theorem dX10_next0_133 : decode cX10_next0 133 = .ok (.bipush 7, 2) := by decide +kernel
theorem dX10_next0_135 : decode cX10_next0 135 = .ok (.if_icmp .ge 10, 3) := by decide +kernel
theorem dX10_next0_138 : decode cX10_next0 138 = .ok (.lload_n 3, 1) := by decide +kernel
theorem dX10_next0_139 : decode cX10_next0 139 = .ok (.invokestatic 180, 3) := by decide +kernel
theorem dX10_next0_142 : decode cX10_next0 142 = .ok (.goto 4, 3) := by decide +kernel
theorem dX10_next0_145 : decode cX10_next0 145 = .ok (.iconst 1, 1) := by decide +kernel
theorem dX10_next0_146 : decode cX10_next0 146 = .ok (.putfield 174, 3) := by decide +kernel
theorem dX10_next0_149 : decode cX10_next0 149 = .ok (.goto 181, 3) := by decide +kernel
theorem dX10_next0_152 : decode cX10_next0 152 = .ok (.iload_n 1, 1) := by decide +kernel
theorem dX10_next0_153 : decode cX10_next0 153 = .ok (.invokestatic 184, 3) := by decide +kernel
theorem dX10_next0_156 : decode cX10_next0 156 = .ok (.ifCond .eq 85, 3) := by decide +kernel
theorem dX10_next0_159 : decode cX10_next0 159 = .ok (.aload_n 0, 1) := by decide +kernel
theorem dX10_next0_160 : decode cX10_next0 160 = .ok (.iconst 0, 1) := by decide +kernel
theorem dX10_next0_161 : decode cX10_next0 161 = .ok (.putfield 187, 3) := by decide +kernel
theorem dX10_next0_164 : decode cX10_next0 164 = .ok (.aload_n 0, 1) := by decide +kernel
theorem dX10_next0_165 : decode cX10_next0 165 = .ok (.aload_n 0, 1) := by decide +kernel
theorem dX10_next0_166 : decode cX10_next0 166 = .ok (.getfield 164, 3) := by decide +kernel
theorem dX10_next0_169 : decode cX10_next0 169 = .ok (.invokevirtual 167, 3) := by decide +kernel
theorem dX10_next0_172 : decode cX10_next0 172 = .ok (.invokestatic 184, 3) := by decide +kernel
theorem dX10_next0_175 : decode cX10_next0 175 = .ok (.ifCond .eq 48, 3) := by decide +kernel
theorem dX10_next0_178 : decode cX10_next0 178 = .ok (.iload_n 2, 1) := by decide +kernel
theorem dX10_next0_179 : decode cX10_next0 179 = .ok (.bipush 6, 2) := by decide +kernel
theorem dX10_next0_181 : decode cX10_next0 181 = .ok (.if_icmp .ge 26, 3) := by decide +kernel
theorem dX10_next0_184 : decode cX10_next0 184 = .ok (.aload_n 0, 1) := by decide +kernel
theorem dX10_next0_185 : decode cX10_next0 185 = .ok (.bipush 10, 2) := by decide +kernel
theorem dX10_next0_187 : decode cX10_next0 187 = .ok (.aload_n 0, 1) := by decide +kernel
theorem dX10_next0_188 : decode cX10_next0 188 = .ok (.getfield 187, 3) := by decide +kernel
theorem dX10_next0_191 : decode cX10_next0 191 = .ok (.imul, 1) := by decide +kernel
theorem dX10_next0_192 : decode cX10_next0 192 = .ok (.aload_n 0, 1) := by decide +kernel
theorem dX10_next0_193 : decode cX10_next0 193 = .ok (.aload_n 0, 1) := by decide +kernel
theorem dX10_next0_194 : decode cX10_next0 194 = .ok (.getfield 164, 3) := by decide +kernel
theorem dX10_next0_197 : decode cX10_next0 197 = .ok (.invokevirtual 167, 3) := by decide +kernel
theorem dX10_next0_200 : decode cX10_next0 200 = .ok (.iadd, 1) := by decide +kernel
theorem dX10_next0_201 : decode cX10_next0 201 = .ok (.bipush 48, 2) := by decide +kernel
theorem dX10_next0_203 : decode cX10_next0 203 = .ok (.isub, 1) := by decide +kernel
theorem dX10_next0_204 : decode cX10_next0 204 = .ok (.putfield 187, 3) := by decide +kernel
theorem dX10_next0_207 : decode cX10_next0 207 = .ok (.iinc 2 1, 3) := by decide +kernel
theorem dX10_next0_210 : decode cX10_next0 210 = .ok (.aload_n 0, 1) := by decide +kernel
theorem dX10_next0_211 : decode cX10_next0 211 = .ok (.dup, 1) := by decide +kernel
theorem dX10_next0_212 : decode cX10_next0 212 = .ok (.getfield 164, 3) := by decide +kernel
theorem dX10_next0_215 : decode cX10_next0 215 = .ok (.iconst 1, 1) := by decide +kernel
theorem dX10_next0_216 : decode cX10_next0 216 = .ok (.iadd, 1) := by decide +kernel
theorem dX10_next0_217 : decode cX10_next0 217 = .ok (.putfield 164, 3) := by decide +kernel
theorem dX10_next0_220 : decode cX10_next0 220 = .ok (.goto (-56), 3) := by decide +kernel
theorem dX10_next0_223 : decode cX10_next0 223 = .ok (.aload_n 0, 1) := by decide +kernel
theorem dX10_next0_224 : decode cX10_next0 224 = .ok (.iload_n 2, 1) := by decide +kernel
theorem dX10_next0_225 : decode cX10_next0 225 = .ok (.bipush 7, 2) := by decide +kernel
theorem dX10_next0_227 : decode cX10_next0 227 = .ok (.if_icmp .ge 7, 3) := by decide +kernel
theorem dX10_next0_230 : decode cX10_next0 230 = .ok (.iconst 2, 1) := by decide +kernel
theorem dX10_next0_231 : decode cX10_next0 231 = .ok (.goto 4, 3) := by decide +kernel
theorem dX10_next0_234 : decode cX10_next0 234 = .ok (.iconst 1, 1) := by decide +kernel
theorem dX10_next0_235 : decode cX10_next0 235 = .ok (.putfield 174, 3) := by decide +kernel
theorem dX10_next0_238 : decode cX10_next0 238 = .ok (.goto 92, 3) := by decide +kernel
theorem dX10_next0_241 : decode cX10_next0 241 = .ok (.aload_n 0, 1) := by decide +kernel
theorem dX10_next0_242 : decode cX10_next0 242 = .ok (.dup, 1) := by decide +kernel
theorem dX10_next0_243 : decode cX10_next0 243 = .ok (.getfield 164, 3) := by decide +kernel
theorem dX10_next0_246 : decode cX10_next0 246 = .ok (.iconst 1, 1) := by decide +kernel
theorem dX10_next0_247 : decode cX10_next0 247 = .ok (.iadd, 1) := by decide +kernel
theorem dX10_next0_248 : decode cX10_next0 248 = .ok (.putfield 164, 3) := by decide +kernel
theorem dX10_next0_251 : decode cX10_next0 251 = .ok (.iload_n 1, 1) := by decide +kernel
theorem dX10_next0_252 : decode cX10_next0 252 = .ok (.bipush 59, 2) := by decide +kernel
theorem dX10_next0_254 : decode cX10_next0 254 = .ok (.if_icmp .eq 57, 3) := by decide +kernel
theorem dX10_next0_257 : decode cX10_next0 257 = .ok (.iload_n 1, 1) := by decide +kernel
theorem dX10_next0_258 : decode cX10_next0 258 = .ok (.bipush 43, 2) := by decide +kernel
theorem dX10_next0_260 : decode cX10_next0 260 = .ok (.if_icmp .eq 51, 3) := by decide +kernel
theorem dX10_next0_263 : decode cX10_next0 263 = .ok (.iload_n 1, 1) := by decide +kernel
theorem dX10_next0_264 : decode cX10_next0 264 = .ok (.bipush 45, 2) := by decide +kernel
theorem dX10_next0_266 : decode cX10_next0 266 = .ok (.if_icmp .eq 45, 3) := by decide +kernel
theorem dX10_next0_269 : decode cX10_next0 269 = .ok (.iload_n 1, 1) := by decide +kernel
theorem dX10_next0_270 : decode cX10_next0 270 = .ok (.bipush 42, 2) := by decide +kernel
theorem dX10_next0_272 : decode cX10_next0 272 = .ok (.if_icmp .eq 39, 3) := by decide +kernel
theorem dX10_next0_275 : decode cX10_next0 275 = .ok (.iload_n 1, 1) := by decide +kernel
theorem dX10_next0_276 : decode cX10_next0 276 = .ok (.bipush 47, 2) := by decide +kernel
theorem dX10_next0_278 : decode cX10_next0 278 = .ok (.if_icmp .eq 33, 3) := by decide +kernel
theorem dX10_next0_281 : decode cX10_next0 281 = .ok (.iload_n 1, 1) := by decide +kernel
theorem dX10_next0_282 : decode cX10_next0 282 = .ok (.bipush 40, 2) := by decide +kernel
theorem dX10_next0_284 : decode cX10_next0 284 = .ok (.if_icmp .eq 27, 3) := by decide +kernel
theorem dX10_next0_287 : decode cX10_next0 287 = .ok (.iload_n 1, 1) := by decide +kernel
theorem dX10_next0_288 : decode cX10_next0 288 = .ok (.bipush 41, 2) := by decide +kernel
theorem dX10_next0_290 : decode cX10_next0 290 = .ok (.if_icmp .eq 21, 3) := by decide +kernel
theorem dX10_next0_293 : decode cX10_next0 293 = .ok (.iload_n 1, 1) := by decide +kernel
theorem dX10_next0_294 : decode cX10_next0 294 = .ok (.bipush 60, 2) := by decide +kernel
theorem dX10_next0_296 : decode cX10_next0 296 = .ok (.if_icmp .eq 15, 3) := by decide +kernel
theorem dX10_next0_299 : decode cX10_next0 299 = .ok (.iload_n 1, 1) := by decide +kernel
theorem dX10_next0_300 : decode cX10_next0 300 = .ok (.bipush 61, 2) := by decide +kernel
theorem dX10_next0_302 : decode cX10_next0 302 = .ok (.if_icmp .eq 9, 3) := by decide +kernel
theorem dX10_next0_305 : decode cX10_next0 305 = .ok (.iload_n 1, 1) := by decide +kernel
theorem dX10_next0_306 : decode cX10_next0 306 = .ok (.bipush 62, 2) := by decide +kernel
theorem dX10_next0_308 : decode cX10_next0 308 = .ok (.if_icmp .ne 7, 3) := by decide +kernel
theorem dX10_next0_311 : decode cX10_next0 311 = .ok (.iconst 1, 1) := by decide +kernel
theorem dX10_next0_312 : decode cX10_next0 312 = .ok (.goto 4, 3) := by decide +kernel
theorem dX10_next0_315 : decode cX10_next0 315 = .ok (.iconst 0, 1) := by decide +kernel
theorem dX10_next0_316 : decode cX10_next0 316 = .ok (.istore_n 3, 1) := by decide +kernel
theorem dX10_next0_317 : decode cX10_next0 317 = .ok (.aload_n 0, 1) := by decide +kernel
theorem dX10_next0_318 : decode cX10_next0 318 = .ok (.iload_n 3, 1) := by decide +kernel
theorem dX10_next0_319 : decode cX10_next0 319 = .ok (.ifCond .eq 7, 3) := by decide +kernel
theorem dX10_next0_322 : decode cX10_next0 322 = .ok (.iload_n 1, 1) := by decide +kernel
theorem dX10_next0_323 : decode cX10_next0 323 = .ok (.goto 4, 3) := by decide +kernel
theorem dX10_next0_326 : decode cX10_next0 326 = .ok (.iconst 1, 1) := by decide +kernel
theorem dX10_next0_327 : decode cX10_next0 327 = .ok (.putfield 174, 3) := by decide +kernel
theorem dX10_next0_330 : decode cX10_next0 330 = .ok (.return_, 1) := by decide +kernel
theorem dX10_bad_0 : decode cX10_bad 0 = .ok (.aload_n 0, 1) := by decide +kernel
theorem dX10_bad_1 : decode cX10_bad 1 = .ok (.iload_n 1, 1) := by decide +kernel
theorem dX10_bad_2 : decode cX10_bad 2 = .ok (.putfield 190, 3) := by decide +kernel
theorem dX10_bad_5 : decode cX10_bad 5 = .ok (.aload_n 0, 1) := by decide +kernel
theorem dX10_bad_6 : decode cX10_bad 6 = .ok (.aload_n 0, 1) := by decide +kernel
theorem dX10_bad_7 : decode cX10_bad 7 = .ok (.getfield 171, 3) := by decide +kernel
theorem dX10_bad_10 : decode cX10_bad 10 = .ok (.putfield 193, 3) := by decide +kernel
theorem dX10_bad_13 : decode cX10_bad 13 = .ok (.iconst 0, 1) := by decide +kernel
theorem dX10_bad_14 : decode cX10_bad 14 = .ok (.ireturn, 1) := by decide +kernel
theorem dX10_need_0 : decode cX10_need 0 = .ok (.aload_n 0, 1) := by decide +kernel
theorem dX10_need_1 : decode cX10_need 1 = .ok (.getfield 174, 3) := by decide +kernel
theorem dX10_need_4 : decode cX10_need 4 = .ok (.iload_n 1, 1) := by decide +kernel
theorem dX10_need_5 : decode cX10_need 5 = .ok (.if_icmp .eq 9, 3) := by decide +kernel
theorem dX10_need_8 : decode cX10_need 8 = .ok (.aload_n 0, 1) := by decide +kernel
theorem dX10_need_9 : decode cX10_need 9 = .ok (.iconst 1, 1) := by decide +kernel
theorem dX10_need_10 : decode cX10_need 10 = .ok (.invokevirtual 196, 3) := by decide +kernel
theorem dX10_need_13 : decode cX10_need 13 = .ok (.ireturn, 1) := by decide +kernel
theorem dX10_need_14 : decode cX10_need 14 = .ok (.aload_n 0, 1) := by decide +kernel
theorem dX10_need_15 : decode cX10_need 15 = .ok (.invokevirtual 199, 3) := by decide +kernel
theorem dX10_need_18 : decode cX10_need 18 = .ok (.iconst 1, 1) := by decide +kernel
theorem dX10_need_19 : decode cX10_need 19 = .ok (.ireturn, 1) := by decide +kernel
theorem dX10_lay_0 : decode cX10_lay 0 = .ok (.aload_n 0, 1) := by decide +kernel
theorem dX10_lay_1 : decode cX10_lay 1 = .ok (.getfield 83, 3) := by decide +kernel
theorem dX10_lay_4 : decode cX10_lay 4 = .ok (.aload_n 0, 1) := by decide +kernel
theorem dX10_lay_5 : decode cX10_lay 5 = .ok (.getfield 202, 3) := by decide +kernel
theorem dX10_lay_8 : decode cX10_lay 8 = .ok (.iload_n 1, 1) := by decide +kernel
theorem dX10_lay_9 : decode cX10_lay 9 = .ok (.iastore, 1) := by decide +kernel
theorem dX10_lay_10 : decode cX10_lay 10 = .ok (.aload_n 0, 1) := by decide +kernel
theorem dX10_lay_11 : decode cX10_lay 11 = .ok (.dup, 1) := by decide +kernel
theorem dX10_lay_12 : decode cX10_lay 12 = .ok (.getfield 202, 3) := by decide +kernel
theorem dX10_lay_15 : decode cX10_lay 15 = .ok (.iconst 1, 1) := by decide +kernel
theorem dX10_lay_16 : decode cX10_lay 16 = .ok (.iadd, 1) := by decide +kernel
theorem dX10_lay_17 : decode cX10_lay 17 = .ok (.putfield 202, 3) := by decide +kernel
theorem dX10_lay_20 : decode cX10_lay 20 = .ok (.return_, 1) := by decide +kernel
theorem dX10_sum_0 : decode cX10_sum 0 = .ok (.aload_n 0, 1) := by decide +kernel
theorem dX10_sum_1 : decode cX10_sum 1 = .ok (.invokevirtual 205, 3) := by decide +kernel
theorem dX10_sum_4 : decode cX10_sum 4 = .ok (.ifCond .ne 5, 3) := by decide +kernel
theorem dX10_sum_7 : decode cX10_sum 7 = .ok (.iconst 0, 1) := by decide +kernel
theorem dX10_sum_8 : decode cX10_sum 8 = .ok (.ireturn, 1) := by decide +kernel
theorem dX10_sum_9 : decode cX10_sum 9 = .ok (.aload_n 0, 1) := by decide +kernel
theorem dX10_sum_10 : decode cX10_sum 10 = .ok (.getfield 174, 3) := by decide +kernel
theorem dX10_sum_13 : decode cX10_sum 13 = .ok (.bipush 43, 2) := by decide +kernel
theorem dX10_sum_15 : decode cX10_sum 15 = .ok (.if_icmp .eq 12, 3) := by decide +kernel
theorem dX10_sum_18 : decode cX10_sum 18 = .ok (.aload_n 0, 1) := by decide +kernel
theorem dX10_sum_19 : decode cX10_sum 19 = .ok (.getfield 174, 3) := by decide +kernel
theorem dX10_sum_22 : decode cX10_sum 22 = .ok (.bipush 45, 2) := by decide +kernel
theorem dX10_sum_24 : decode cX10_sum 24 = .ok (.if_icmp .ne 41, 3) := by decide +kernel
theorem dX10_sum_27 : decode cX10_sum 27 = .ok (.aload_n 0, 1) := by decide +kernel
theorem dX10_sum_28 : decode cX10_sum 28 = .ok (.getfield 174, 3) := by decide +kernel
theorem dX10_sum_31 : decode cX10_sum 31 = .ok (.bipush 43, 2) := by decide +kernel
theorem dX10_sum_33 : decode cX10_sum 33 = .ok (.if_icmp .ne 8, 3) := by decide +kernel
theorem dX10_sum_36 : decode cX10_sum 36 = .ok (.ldc 209, 2) := by decide +kernel
theorem dX10_sum_38 : decode cX10_sum 38 = .ok (.goto 5, 3) := by decide +kernel
theorem dX10_sum_41 : decode cX10_sum 41 = .ok (.ldc 210, 2) := by decide +kernel
theorem dX10_sum_43 : decode cX10_sum 43 = .ok (.istore_n 1, 1) := by decide +kernel
theorem dX10_sum_44 : decode cX10_sum 44 = .ok (.aload_n 0, 1) := by decide +kernel
theorem dX10_sum_45 : decode cX10_sum 45 = .ok (.invokevirtual 199, 3) := by decide +kernel
theorem dX10_sum_48 : decode cX10_sum 48 = .ok (.aload_n 0, 1) := by decide +kernel
theorem dX10_sum_49 : decode cX10_sum 49 = .ok (.invokevirtual 205, 3) := by decide +kernel
theorem dX10_sum_52 : decode cX10_sum 52 = .ok (.ifCond .ne 5, 3) := by decide +kernel
theorem dX10_sum_55 : decode cX10_sum 55 = .ok (.iconst 0, 1) := by decide +kernel
theorem dX10_sum_56 : decode cX10_sum 56 = .ok (.ireturn, 1) := by decide +kernel
theorem dX10_sum_57 : decode cX10_sum 57 = .ok (.aload_n 0, 1) := by decide +kernel
theorem dX10_sum_58 : decode cX10_sum 58 = .ok (.iload_n 1, 1) := by decide +kernel
theorem dX10_sum_59 : decode cX10_sum 59 = .ok (.invokevirtual 211, 3) := by decide +kernel
theorem dX10_sum_62 : decode cX10_sum 62 = .ok (.goto (-53), 3) := by decide +kernel
theorem dX10_sum_65 : decode cX10_sum 65 = .ok (.iconst 1, 1) := by decide +kernel
theorem dX10_sum_66 : decode cX10_sum 66 = .ok (.ireturn, 1) := by decide +kernel
theorem dX10_product_0 : decode cX10_product 0 = .ok (.aload_n 0, 1) := by decide +kernel
theorem dX10_product_1 : decode cX10_product 1 = .ok (.invokevirtual 215, 3) := by decide +kernel
theorem dX10_product_4 : decode cX10_product 4 = .ok (.ifCond .ne 5, 3) := by decide +kernel
theorem dX10_product_7 : decode cX10_product 7 = .ok (.iconst 0, 1) := by decide +kernel
theorem dX10_product_8 : decode cX10_product 8 = .ok (.ireturn, 1) := by decide +kernel
theorem dX10_product_9 : decode cX10_product 9 = .ok (.aload_n 0, 1) := by decide +kernel
theorem dX10_product_10 : decode cX10_product 10 = .ok (.getfield 174, 3) := by decide +kernel
theorem dX10_product_13 : decode cX10_product 13 = .ok (.bipush 42, 2) := by decide +kernel
theorem dX10_product_15 : decode cX10_product 15 = .ok (.if_icmp .eq 12, 3) := by decide +kernel
theorem dX10_product_18 : decode cX10_product 18 = .ok (.aload_n 0, 1) := by decide +kernel
theorem dX10_product_19 : decode cX10_product 19 = .ok (.getfield 174, 3) := by decide +kernel
theorem dX10_product_22 : decode cX10_product 22 = .ok (.bipush 47, 2) := by decide +kernel
theorem dX10_product_24 : decode cX10_product 24 = .ok (.if_icmp .ne 84, 3) := by decide +kernel
theorem dX10_product_27 : decode cX10_product 27 = .ok (.aload_n 0, 1) := by decide +kernel
theorem dX10_product_28 : decode cX10_product 28 = .ok (.getfield 174, 3) := by decide +kernel
theorem dX10_product_31 : decode cX10_product 31 = .ok (.bipush 47, 2) := by decide +kernel
theorem dX10_product_33 : decode cX10_product 33 = .ok (.if_icmp .ne 7, 3) := by decide +kernel
theorem dX10_product_36 : decode cX10_product 36 = .ok (.iconst 1, 1) := by decide +kernel
theorem dX10_product_37 : decode cX10_product 37 = .ok (.goto 4, 3) := by decide +kernel
theorem dX10_product_40 : decode cX10_product 40 = .ok (.iconst 0, 1) := by decide +kernel
theorem dX10_product_41 : decode cX10_product 41 = .ok (.istore_n 1, 1) := by decide +kernel
theorem dX10_product_42 : decode cX10_product 42 = .ok (.aload_n 0, 1) := by decide +kernel
theorem dX10_product_43 : decode cX10_product 43 = .ok (.invokevirtual 199, 3) := by decide +kernel
theorem dX10_product_46 : decode cX10_product 46 = .ok (.iload_n 1, 1) := by decide +kernel
theorem dX10_product_47 : decode cX10_product 47 = .ok (.ifCond .eq 17, 3) := by decide +kernel
theorem dX10_product_50 : decode cX10_product 50 = .ok (.aload_n 0, 1) := by decide +kernel
theorem dX10_product_51 : decode cX10_product 51 = .ok (.getfield 174, 3) := by decide +kernel
theorem dX10_product_54 : decode cX10_product 54 = .ok (.iconst 2, 1) := by decide +kernel
theorem dX10_product_55 : decode cX10_product 55 = .ok (.if_icmp .eq 9, 3) := by decide +kernel
theorem dX10_product_58 : decode cX10_product 58 = .ok (.aload_n 0, 1) := by decide +kernel
theorem dX10_product_59 : decode cX10_product 59 = .ok (.iconst 1, 1) := by decide +kernel
theorem dX10_product_60 : decode cX10_product 60 = .ok (.invokevirtual 196, 3) := by decide +kernel
theorem dX10_product_63 : decode cX10_product 63 = .ok (.ireturn, 1) := by decide +kernel
theorem dX10_product_64 : decode cX10_product 64 = .ok (.iload_n 1, 1) := by decide +kernel
theorem dX10_product_65 : decode cX10_product 65 = .ok (.ifCond .eq 16, 3) := by decide +kernel
theorem dX10_product_68 : decode cX10_product 68 = .ok (.aload_n 0, 1) := by decide +kernel
theorem dX10_product_69 : decode cX10_product 69 = .ok (.getfield 187, 3) := by decide +kernel
theorem dX10_product_72 : decode cX10_product 72 = .ok (.ifCond .ne 9, 3) := by decide +kernel
theorem dX10_product_75 : decode cX10_product 75 = .ok (.aload_n 0, 1) := by decide +kernel
theorem dX10_product_76 : decode cX10_product 76 = .ok (.iconst 2, 1) := by decide +kernel
theorem dX10_product_77 : decode cX10_product 77 = .ok (.invokevirtual 196, 3) := by decide +kernel
theorem dX10_product_80 : decode cX10_product 80 = .ok (.ireturn, 1) := by decide +kernel
theorem dX10_product_81 : decode cX10_product 81 = .ok (.aload_n 0, 1) := by decide +kernel
theorem dX10_product_82 : decode cX10_product 82 = .ok (.invokevirtual 215, 3) := by decide +kernel
theorem dX10_product_85 : decode cX10_product 85 = .ok (.ifCond .ne 5, 3) := by decide +kernel
theorem dX10_product_88 : decode cX10_product 88 = .ok (.iconst 0, 1) := by decide +kernel
theorem dX10_product_89 : decode cX10_product 89 = .ok (.ireturn, 1) := by decide +kernel
theorem dX10_product_90 : decode cX10_product 90 = .ok (.aload_n 0, 1) := by decide +kernel
theorem dX10_product_91 : decode cX10_product 91 = .ok (.iload_n 1, 1) := by decide +kernel
theorem dX10_product_92 : decode cX10_product 92 = .ok (.ifCond .eq 8, 3) := by decide +kernel
theorem dX10_product_95 : decode cX10_product 95 = .ok (.ldc 218, 2) := by decide +kernel
theorem dX10_product_97 : decode cX10_product 97 = .ok (.goto 5, 3) := by decide +kernel
theorem dX10_product_100 : decode cX10_product 100 = .ok (.ldc 219, 2) := by decide +kernel
theorem dX10_product_102 : decode cX10_product 102 = .ok (.invokevirtual 211, 3) := by decide +kernel
theorem dX10_product_105 : decode cX10_product 105 = .ok (.goto (-96), 3) := by decide +kernel
theorem dX10_product_108 : decode cX10_product 108 = .ok (.iconst 1, 1) := by decide +kernel
theorem dX10_product_109 : decode cX10_product 109 = .ok (.ireturn, 1) := by decide +kernel
theorem dX10_unit_0 : decode cX10_unit 0 = .ok (.aload_n 0, 1) := by decide +kernel
theorem dX10_unit_1 : decode cX10_unit 1 = .ok (.getfield 174, 3) := by decide +kernel
theorem dX10_unit_4 : decode cX10_unit 4 = .ok (.bipush 40, 2) := by decide +kernel
theorem dX10_unit_6 : decode cX10_unit 6 = .ok (.if_icmp .ne 62, 3) := by decide +kernel
theorem dX10_unit_9 : decode cX10_unit 9 = .ok (.aload_n 0, 1) := by decide +kernel
theorem dX10_unit_10 : decode cX10_unit 10 = .ok (.getfield 220, 3) := by decide +kernel
theorem dX10_unit_13 : decode cX10_unit 13 = .ok (.bipush 8, 2) := by decide +kernel
theorem dX10_unit_15 : decode cX10_unit 15 = .ok (.if_icmp .ne 9, 3) := by decide +kernel
theorem dX10_unit_18 : decode cX10_unit 18 = .ok (.aload_n 0, 1) := by decide +kernel
theorem dX10_unit_19 : decode cX10_unit 19 = .ok (.iconst 3, 1) := by decide +kernel
theorem dX10_unit_20 : decode cX10_unit 20 = .ok (.invokevirtual 196, 3) := by decide +kernel
theorem dX10_unit_23 : decode cX10_unit 23 = .ok (.ireturn, 1) := by decide +kernel
theorem dX10_unit_24 : decode cX10_unit 24 = .ok (.aload_n 0, 1) := by decide +kernel
theorem dX10_unit_25 : decode cX10_unit 25 = .ok (.dup, 1) := by decide +kernel
theorem dX10_unit_26 : decode cX10_unit 26 = .ok (.getfield 220, 3) := by decide +kernel
theorem dX10_unit_29 : decode cX10_unit 29 = .ok (.iconst 1, 1) := by decide +kernel
theorem dX10_unit_30 : decode cX10_unit 30 = .ok (.iadd, 1) := by decide +kernel
theorem dX10_unit_31 : decode cX10_unit 31 = .ok (.putfield 220, 3) := by decide +kernel
theorem dX10_unit_34 : decode cX10_unit 34 = .ok (.aload_n 0, 1) := by decide +kernel
theorem dX10_unit_35 : decode cX10_unit 35 = .ok (.invokevirtual 199, 3) := by decide +kernel
theorem dX10_unit_38 : decode cX10_unit 38 = .ok (.aload_n 0, 1) := by decide +kernel
theorem dX10_unit_39 : decode cX10_unit 39 = .ok (.invokevirtual 223, 3) := by decide +kernel
theorem dX10_unit_42 : decode cX10_unit 42 = .ok (.ifCond .eq 12, 3) := by decide +kernel
theorem dX10_unit_45 : decode cX10_unit 45 = .ok (.aload_n 0, 1) := by decide +kernel
theorem dX10_unit_46 : decode cX10_unit 46 = .ok (.bipush 41, 2) := by decide +kernel
theorem dX10_unit_48 : decode cX10_unit 48 = .ok (.invokevirtual 226, 3) := by decide +kernel
theorem dX10_unit_51 : decode cX10_unit 51 = .ok (.ifCond .ne 5, 3) := by decide +kernel
theorem dX10_unit_54 : decode cX10_unit 54 = .ok (.iconst 0, 1) := by decide +kernel
theorem dX10_unit_55 : decode cX10_unit 55 = .ok (.ireturn, 1) := by decide +kernel
theorem dX10_unit_56 : decode cX10_unit 56 = .ok (.aload_n 0, 1) := by decide +kernel
theorem dX10_unit_57 : decode cX10_unit 57 = .ok (.dup, 1) := by decide +kernel
theorem dX10_unit_58 : decode cX10_unit 58 = .ok (.getfield 220, 3) := by decide +kernel
theorem dX10_unit_61 : decode cX10_unit 61 = .ok (.iconst 1, 1) := by decide +kernel
theorem dX10_unit_62 : decode cX10_unit 62 = .ok (.isub, 1) := by decide +kernel
theorem dX10_unit_63 : decode cX10_unit 63 = .ok (.putfield 220, 3) := by decide +kernel
theorem dX10_unit_66 : decode cX10_unit 66 = .ok (.iconst 1, 1) := by decide +kernel
theorem dX10_unit_67 : decode cX10_unit 67 = .ok (.ireturn, 1) := by decide +kernel
theorem dX10_unit_68 : decode cX10_unit 68 = .ok (.aload_n 0, 1) := by decide +kernel
theorem dX10_unit_69 : decode cX10_unit 69 = .ok (.getfield 174, 3) := by decide +kernel
theorem dX10_unit_72 : decode cX10_unit 72 = .ok (.iconst 2, 1) := by decide +kernel
theorem dX10_unit_73 : decode cX10_unit 73 = .ok (.if_icmp .eq 18, 3) := by decide +kernel
theorem dX10_unit_76 : decode cX10_unit 76 = .ok (.aload_n 0, 1) := by decide +kernel
theorem dX10_unit_77 : decode cX10_unit 77 = .ok (.getfield 174, 3) := by decide +kernel
theorem dX10_unit_80 : decode cX10_unit 80 = .ok (.ldc 154, 2) := by decide +kernel
theorem dX10_unit_82 : decode cX10_unit 82 = .ok (.if_icmp .ge 9, 3) := by decide +kernel
theorem dX10_unit_85 : decode cX10_unit 85 = .ok (.aload_n 0, 1) := by decide +kernel
theorem dX10_unit_86 : decode cX10_unit 86 = .ok (.iconst 1, 1) := by decide +kernel
theorem dX10_unit_87 : decode cX10_unit 87 = .ok (.invokevirtual 196, 3) := by decide +kernel
theorem dX10_unit_90 : decode cX10_unit 90 = .ok (.ireturn, 1) := by decide +kernel
theorem dX10_unit_91 : decode cX10_unit 91 = .ok (.aload_n 0, 1) := by decide +kernel
theorem dX10_unit_92 : decode cX10_unit 92 = .ok (.aload_n 0, 1) := by decide +kernel
theorem dX10_unit_93 : decode cX10_unit 93 = .ok (.getfield 174, 3) := by decide +kernel
theorem dX10_unit_96 : decode cX10_unit 96 = .ok (.iconst 2, 1) := by decide +kernel
theorem dX10_unit_97 : decode cX10_unit 97 = .ok (.if_icmp .ne 10, 3) := by decide +kernel
theorem dX10_unit_100 : decode cX10_unit 100 = .ok (.aload_n 0, 1) := by decide +kernel
theorem dX10_unit_101 : decode cX10_unit 101 = .ok (.getfield 187, 3) := by decide +kernel
theorem dX10_unit_104 : decode cX10_unit 104 = .ok (.goto 7, 3) := by decide +kernel
theorem dX10_unit_107 : decode cX10_unit 107 = .ok (.aload_n 0, 1) := by decide +kernel
theorem dX10_unit_108 : decode cX10_unit 108 = .ok (.getfield 174, 3) := by decide +kernel
theorem dX10_unit_111 : decode cX10_unit 111 = .ok (.invokevirtual 211, 3) := by decide +kernel
theorem dX10_unit_114 : decode cX10_unit 114 = .ok (.aload_n 0, 1) := by decide +kernel
theorem dX10_unit_115 : decode cX10_unit 115 = .ok (.invokevirtual 199, 3) := by decide +kernel
theorem dX10_unit_118 : decode cX10_unit 118 = .ok (.iconst 1, 1) := by decide +kernel
theorem dX10_unit_119 : decode cX10_unit 119 = .ok (.ireturn, 1) := by decide +kernel
theorem dX10_holds_0 : decode cX10_holds 0 = .ok (.aload_n 0, 1) := by decide +kernel
theorem dX10_holds_1 : decode cX10_holds 1 = .ok (.invokevirtual 223, 3) := by decide +kernel
theorem dX10_holds_4 : decode cX10_holds 4 = .ok (.ifCond .ne 5, 3) := by decide +kernel
theorem dX10_holds_7 : decode cX10_holds 7 = .ok (.iconst 0, 1) := by decide +kernel
theorem dX10_holds_8 : decode cX10_holds 8 = .ok (.ireturn, 1) := by decide +kernel
theorem dX10_holds_9 : decode cX10_holds 9 = .ok (.aload_n 0, 1) := by decide +kernel
theorem dX10_holds_10 : decode cX10_holds 10 = .ok (.getfield 174, 3) := by decide +kernel
theorem dX10_holds_13 : decode cX10_holds 13 = .ok (.bipush 60, 2) := by decide +kernel
theorem dX10_holds_15 : decode cX10_holds 15 = .ok (.if_icmp .ne 8, 3) := by decide +kernel
theorem dX10_holds_18 : decode cX10_holds 18 = .ok (.ldc 229, 2) := by decide +kernel
theorem dX10_holds_20 : decode cX10_holds 20 = .ok (.goto 32, 3) := by decide +kernel
theorem dX10_holds_23 : decode cX10_holds 23 = .ok (.aload_n 0, 1) := by decide +kernel
theorem dX10_holds_24 : decode cX10_holds 24 = .ok (.getfield 174, 3) := by decide +kernel
theorem dX10_holds_27 : decode cX10_holds 27 = .ok (.bipush 61, 2) := by decide +kernel
theorem dX10_holds_29 : decode cX10_holds 29 = .ok (.if_icmp .ne 8, 3) := by decide +kernel
theorem dX10_holds_32 : decode cX10_holds 32 = .ok (.ldc 230, 2) := by decide +kernel
theorem dX10_holds_34 : decode cX10_holds 34 = .ok (.goto 18, 3) := by decide +kernel
theorem dX10_holds_37 : decode cX10_holds 37 = .ok (.aload_n 0, 1) := by decide +kernel
theorem dX10_holds_38 : decode cX10_holds 38 = .ok (.getfield 174, 3) := by decide +kernel
theorem dX10_holds_41 : decode cX10_holds 41 = .ok (.bipush 62, 2) := by decide +kernel
theorem dX10_holds_43 : decode cX10_holds 43 = .ok (.if_icmp .ne 8, 3) := by decide +kernel
theorem dX10_holds_46 : decode cX10_holds 46 = .ok (.ldc 231, 2) := by decide +kernel
theorem dX10_holds_48 : decode cX10_holds 48 = .ok (.goto 4, 3) := by decide +kernel
theorem dX10_holds_51 : decode cX10_holds 51 = .ok (.iconst (-1), 1) := by decide +kernel
theorem dX10_holds_52 : decode cX10_holds 52 = .ok (.istore_n 1, 1) := by decide +kernel
theorem dX10_holds_53 : decode cX10_holds 53 = .ok (.iload_n 1, 1) := by decide +kernel
theorem dX10_holds_54 : decode cX10_holds 54 = .ok (.iconst (-1), 1) := by decide +kernel
theorem dX10_holds_55 : decode cX10_holds 55 = .ok (.if_icmp .ne 9, 3) := by decide +kernel
theorem dX10_holds_58 : decode cX10_holds 58 = .ok (.aload_n 0, 1) := by decide +kernel
theorem dX10_holds_59 : decode cX10_holds 59 = .ok (.iconst 1, 1) := by decide +kernel
theorem dX10_holds_60 : decode cX10_holds 60 = .ok (.invokevirtual 196, 3) := by decide +kernel
theorem dX10_holds_63 : decode cX10_holds 63 = .ok (.ireturn, 1) := by decide +kernel
theorem dX10_holds_64 : decode cX10_holds 64 = .ok (.aload_n 0, 1) := by decide +kernel
theorem dX10_holds_65 : decode cX10_holds 65 = .ok (.invokevirtual 199, 3) := by decide +kernel
theorem dX10_holds_68 : decode cX10_holds 68 = .ok (.aload_n 0, 1) := by decide +kernel
theorem dX10_holds_69 : decode cX10_holds 69 = .ok (.invokevirtual 223, 3) := by decide +kernel
theorem dX10_holds_72 : decode cX10_holds 72 = .ok (.ifCond .ne 5, 3) := by decide +kernel
theorem dX10_holds_75 : decode cX10_holds 75 = .ok (.iconst 0, 1) := by decide +kernel
theorem dX10_holds_76 : decode cX10_holds 76 = .ok (.ireturn, 1) := by decide +kernel
theorem dX10_holds_77 : decode cX10_holds 77 = .ok (.aload_n 0, 1) := by decide +kernel
theorem dX10_holds_78 : decode cX10_holds 78 = .ok (.iload_n 1, 1) := by decide +kernel
theorem dX10_holds_79 : decode cX10_holds 79 = .ok (.invokevirtual 211, 3) := by decide +kernel
theorem dX10_holds_82 : decode cX10_holds 82 = .ok (.iconst 1, 1) := by decide +kernel
theorem dX10_holds_83 : decode cX10_holds 83 = .ok (.ireturn, 1) := by decide +kernel
theorem dX10_aLine_0 : decode cX10_aLine 0 = .ok (.aload_n 0, 1) := by decide +kernel
theorem dX10_aLine_1 : decode cX10_aLine 1 = .ok (.getfield 174, 3) := by decide +kernel
theorem dX10_aLine_4 : decode cX10_aLine 4 = .ok (.iconst 3, 1) := by decide +kernel
theorem dX10_aLine_5 : decode cX10_aLine 5 = .ok (.if_icmp .eq 9, 3) := by decide +kernel
theorem dX10_aLine_8 : decode cX10_aLine 8 = .ok (.aload_n 0, 1) := by decide +kernel
theorem dX10_aLine_9 : decode cX10_aLine 9 = .ok (.iconst 1, 1) := by decide +kernel
theorem dX10_aLine_10 : decode cX10_aLine 10 = .ok (.invokevirtual 196, 3) := by decide +kernel
theorem dX10_aLine_13 : decode cX10_aLine 13 = .ok (.ireturn, 1) := by decide +kernel
theorem dX10_aLine_14 : decode cX10_aLine 14 = .ok (.aload_n 0, 1) := by decide +kernel
theorem dX10_aLine_15 : decode cX10_aLine 15 = .ok (.getfield 232, 3) := by decide +kernel
theorem dX10_aLine_18 : decode cX10_aLine 18 = .ok (.bipush 8, 2) := by decide +kernel
theorem dX10_aLine_20 : decode cX10_aLine 20 = .ok (.if_icmp .ne 9, 3) := by decide +kernel
theorem dX10_aLine_23 : decode cX10_aLine 23 = .ok (.aload_n 0, 1) := by decide +kernel
theorem dX10_aLine_24 : decode cX10_aLine 24 = .ok (.iconst 3, 1) := by decide +kernel
theorem dX10_aLine_25 : decode cX10_aLine 25 = .ok (.invokevirtual 196, 3) := by decide +kernel
theorem dX10_aLine_28 : decode cX10_aLine 28 = .ok (.ireturn, 1) := by decide +kernel
theorem dX10_aLine_29 : decode cX10_aLine 29 = .ok (.aload_n 0, 1) := by decide +kernel
theorem dX10_aLine_30 : decode cX10_aLine 30 = .ok (.iconst 0, 1) := by decide +kernel
theorem dX10_aLine_31 : decode cX10_aLine 31 = .ok (.putfield 220, 3) := by decide +kernel
theorem dX10_aLine_34 : decode cX10_aLine 34 = .ok (.aload_n 0, 1) := by decide +kernel
theorem dX10_aLine_35 : decode cX10_aLine 35 = .ok (.getfield 77, 3) := by decide +kernel
theorem dX10_aLine_38 : decode cX10_aLine 38 = .ok (.aload_n 0, 1) := by decide +kernel
theorem dX10_aLine_39 : decode cX10_aLine 39 = .ok (.getfield 232, 3) := by decide +kernel
theorem dX10_aLine_42 : decode cX10_aLine 42 = .ok (.aload_n 0, 1) := by decide +kernel
theorem dX10_aLine_43 : decode cX10_aLine 43 = .ok (.getfield 202, 3) := by decide +kernel
theorem dX10_aLine_46 : decode cX10_aLine 46 = .ok (.iastore, 1) := by decide +kernel
theorem dX10_aLine_47 : decode cX10_aLine 47 = .ok (.aload_n 0, 1) := by decide +kernel
theorem dX10_aLine_48 : decode cX10_aLine 48 = .ok (.invokevirtual 199, 3) := by decide +kernel
theorem dX10_aLine_51 : decode cX10_aLine 51 = .ok (.aload_n 0, 1) := by decide +kernel
theorem dX10_aLine_52 : decode cX10_aLine 52 = .ok (.invokevirtual 223, 3) := by decide +kernel
theorem dX10_aLine_55 : decode cX10_aLine 55 = .ok (.ifCond .ne 5, 3) := by decide +kernel
theorem dX10_aLine_58 : decode cX10_aLine 58 = .ok (.iconst 0, 1) := by decide +kernel
theorem dX10_aLine_59 : decode cX10_aLine 59 = .ok (.ireturn, 1) := by decide +kernel
theorem dX10_aLine_60 : decode cX10_aLine 60 = .ok (.aload_n 0, 1) := by decide +kernel
theorem dX10_aLine_61 : decode cX10_aLine 61 = .ok (.getfield 80, 3) := by decide +kernel
theorem dX10_aLine_64 : decode cX10_aLine 64 = .ok (.aload_n 0, 1) := by decide +kernel
theorem dX10_aLine_65 : decode cX10_aLine 65 = .ok (.getfield 232, 3) := by decide +kernel
theorem dX10_aLine_68 : decode cX10_aLine 68 = .ok (.aload_n 0, 1) := by decide +kernel
theorem dX10_aLine_69 : decode cX10_aLine 69 = .ok (.getfield 202, 3) := by decide +kernel
theorem dX10_aLine_72 : decode cX10_aLine 72 = .ok (.iastore, 1) := by decide +kernel
theorem dX10_aLine_73 : decode cX10_aLine 73 = .ok (.aload_n 0, 1) := by decide +kernel
theorem dX10_aLine_74 : decode cX10_aLine 74 = .ok (.dup, 1) := by decide +kernel
theorem dX10_aLine_75 : decode cX10_aLine 75 = .ok (.getfield 232, 3) := by decide +kernel
theorem dX10_aLine_78 : decode cX10_aLine 78 = .ok (.iconst 1, 1) := by decide +kernel
theorem dX10_aLine_79 : decode cX10_aLine 79 = .ok (.iadd, 1) := by decide +kernel
theorem dX10_aLine_80 : decode cX10_aLine 80 = .ok (.putfield 232, 3) := by decide +kernel
theorem dX10_aLine_83 : decode cX10_aLine 83 = .ok (.aload_n 0, 1) := by decide +kernel
theorem dX10_aLine_84 : decode cX10_aLine 84 = .ok (.iconst 4, 1) := by decide +kernel
theorem dX10_aLine_85 : decode cX10_aLine 85 = .ok (.invokevirtual 226, 3) := by decide +kernel
theorem dX10_aLine_88 : decode cX10_aLine 88 = .ok (.ifCond .eq 10, 3) := by decide +kernel
theorem dX10_aLine_91 : decode cX10_aLine 91 = .ok (.aload_n 0, 1) := by decide +kernel
theorem dX10_aLine_92 : decode cX10_aLine 92 = .ok (.invokevirtual 235, 3) := by decide +kernel
theorem dX10_aLine_95 : decode cX10_aLine 95 = .ok (.ifCond .ne 5, 3) := by decide +kernel
theorem dX10_aLine_98 : decode cX10_aLine 98 = .ok (.iconst 0, 1) := by decide +kernel
theorem dX10_aLine_99 : decode cX10_aLine 99 = .ok (.ireturn, 1) := by decide +kernel
theorem dX10_aLine_100 : decode cX10_aLine 100 = .ok (.aload_n 0, 1) := by decide +kernel
theorem dX10_aLine_101 : decode cX10_aLine 101 = .ok (.getfield 174, 3) := by decide +kernel
theorem dX10_aLine_104 : decode cX10_aLine 104 = .ok (.iconst 5, 1) := by decide +kernel
theorem dX10_aLine_105 : decode cX10_aLine 105 = .ok (.if_icmp .ne 25, 3) := by decide +kernel
theorem dX10_aLine_108 : decode cX10_aLine 108 = .ok (.aload_n 0, 1) := by decide +kernel
theorem dX10_aLine_109 : decode cX10_aLine 109 = .ok (.invokevirtual 199, 3) := by decide +kernel
theorem dX10_aLine_112 : decode cX10_aLine 112 = .ok (.aload_n 0, 1) := by decide +kernel
theorem dX10_aLine_113 : decode cX10_aLine 113 = .ok (.invokevirtual 235, 3) := by decide +kernel
theorem dX10_aLine_116 : decode cX10_aLine 116 = .ok (.ifCond .ne 5, 3) := by decide +kernel
theorem dX10_aLine_119 : decode cX10_aLine 119 = .ok (.iconst 0, 1) := by decide +kernel
theorem dX10_aLine_120 : decode cX10_aLine 120 = .ok (.ireturn, 1) := by decide +kernel
theorem dX10_aLine_121 : decode cX10_aLine 121 = .ok (.aload_n 0, 1) := by decide +kernel
theorem dX10_aLine_122 : decode cX10_aLine 122 = .ok (.ldc 238, 2) := by decide +kernel
theorem dX10_aLine_124 : decode cX10_aLine 124 = .ok (.invokevirtual 211, 3) := by decide +kernel
theorem dX10_aLine_127 : decode cX10_aLine 127 = .ok (.goto (-27), 3) := by decide +kernel
theorem dX10_aLine_130 : decode cX10_aLine 130 = .ok (.aload_n 0, 1) := by decide +kernel
theorem dX10_aLine_131 : decode cX10_aLine 131 = .ok (.bipush 59, 2) := by decide +kernel
theorem dX10_aLine_133 : decode cX10_aLine 133 = .ok (.invokevirtual 226, 3) := by decide +kernel
theorem dX10_aLine_136 : decode cX10_aLine 136 = .ok (.ireturn, 1) := by decide +kernel
theorem dX10_rule_0 : decode cX10_rule 0 = .ok (.aload_n 0, 1) := by decide +kernel
theorem dX10_rule_1 : decode cX10_rule 1 = .ok (.iconst 0, 1) := by decide +kernel
theorem dX10_rule_2 : decode cX10_rule 2 = .ok (.putfield 190, 3) := by decide +kernel
theorem dX10_rule_5 : decode cX10_rule 5 = .ok (.aload_n 0, 1) := by decide +kernel
theorem dX10_rule_6 : decode cX10_rule 6 = .ok (.iconst 0, 1) := by decide +kernel
theorem dX10_rule_7 : decode cX10_rule 7 = .ok (.putfield 164, 3) := by decide +kernel
theorem dX10_rule_10 : decode cX10_rule 10 = .ok (.aload_n 0, 1) := by decide +kernel
theorem dX10_rule_11 : decode cX10_rule 11 = .ok (.iconst 0, 1) := by decide +kernel
theorem dX10_rule_12 : decode cX10_rule 12 = .ok (.putfield 232, 3) := by decide +kernel
theorem dX10_rule_15 : decode cX10_rule 15 = .ok (.aload_n 0, 1) := by decide +kernel
theorem dX10_rule_16 : decode cX10_rule 16 = .ok (.iconst 0, 1) := by decide +kernel
theorem dX10_rule_17 : decode cX10_rule 17 = .ok (.putfield 202, 3) := by decide +kernel
theorem dX10_rule_20 : decode cX10_rule 20 = .ok (.aload_n 0, 1) := by decide +kernel
theorem dX10_rule_21 : decode cX10_rule 21 = .ok (.invokevirtual 199, 3) := by decide +kernel
theorem dX10_rule_24 : decode cX10_rule 24 = .ok (.iconst 1, 1) := by decide +kernel
theorem dX10_rule_25 : decode cX10_rule 25 = .ok (.istore_n 1, 1) := by decide +kernel
theorem dX10_rule_26 : decode cX10_rule 26 = .ok (.iload_n 1, 1) := by decide +kernel
theorem dX10_rule_27 : decode cX10_rule 27 = .ok (.ifCond .eq 18, 3) := by decide +kernel
theorem dX10_rule_30 : decode cX10_rule 30 = .ok (.aload_n 0, 1) := by decide +kernel
theorem dX10_rule_31 : decode cX10_rule 31 = .ok (.getfield 174, 3) := by decide +kernel
theorem dX10_rule_34 : decode cX10_rule 34 = .ok (.ifCond .eq 11, 3) := by decide +kernel
theorem dX10_rule_37 : decode cX10_rule 37 = .ok (.aload_n 0, 1) := by decide +kernel
theorem dX10_rule_38 : decode cX10_rule 38 = .ok (.invokevirtual 239, 3) := by decide +kernel
theorem dX10_rule_41 : decode cX10_rule 41 = .ok (.istore_n 1, 1) := by decide +kernel
theorem dX10_rule_42 : decode cX10_rule 42 = .ok (.goto (-16), 3) := by decide +kernel
theorem dX10_rule_45 : decode cX10_rule 45 = .ok (.aload_n 0, 1) := by decide +kernel
theorem dX10_rule_46 : decode cX10_rule 46 = .ok (.iconst 0, 1) := by decide +kernel
theorem dX10_rule_47 : decode cX10_rule 47 = .ok (.putfield 143, 3) := by decide +kernel
theorem dX10_rule_50 : decode cX10_rule 50 = .ok (.aload_n 0, 1) := by decide +kernel
theorem dX10_rule_51 : decode cX10_rule 51 = .ok (.aload_n 0, 1) := by decide +kernel
theorem dX10_rule_52 : decode cX10_rule 52 = .ok (.getfield 190, 3) := by decide +kernel
theorem dX10_rule_55 : decode cX10_rule 55 = .ok (.putfield 242, 3) := by decide +kernel
theorem dX10_rule_58 : decode cX10_rule 58 = .ok (.aload_n 0, 1) := by decide +kernel
theorem dX10_rule_59 : decode cX10_rule 59 = .ok (.iload_n 1, 1) := by decide +kernel
theorem dX10_rule_60 : decode cX10_rule 60 = .ok (.ifCond .eq 7, 3) := by decide +kernel
theorem dX10_rule_63 : decode cX10_rule 63 = .ok (.iconst (-1), 1) := by decide +kernel
theorem dX10_rule_64 : decode cX10_rule 64 = .ok (.goto 7, 3) := by decide +kernel
theorem dX10_rule_67 : decode cX10_rule 67 = .ok (.aload_n 0, 1) := by decide +kernel
theorem dX10_rule_68 : decode cX10_rule 68 = .ok (.getfield 193, 3) := by decide +kernel
theorem dX10_rule_71 : decode cX10_rule 71 = .ok (.putfield 92, 3) := by decide +kernel
theorem dX10_rule_74 : decode cX10_rule 74 = .ok (.iload_n 1, 1) := by decide +kernel
theorem dX10_rule_75 : decode cX10_rule 75 = .ok (.ifCond .ne 5, 3) := by decide +kernel
theorem dX10_rule_78 : decode cX10_rule 78 = .ok (.iconst (-1), 1) := by decide +kernel
theorem dX10_rule_79 : decode cX10_rule 79 = .ok (.ireturn, 1) := by decide +kernel
theorem dX10_rule_80 : decode cX10_rule 80 = .ok (.aload_n 0, 1) := by decide +kernel
theorem dX10_rule_81 : decode cX10_rule 81 = .ok (.aload_n 0, 1) := by decide +kernel
theorem dX10_rule_82 : decode cX10_rule 82 = .ok (.getfield 232, 3) := by decide +kernel
theorem dX10_rule_85 : decode cX10_rule 85 = .ok (.putfield 137, 3) := by decide +kernel
theorem dX10_rule_88 : decode cX10_rule 88 = .ok (.iconst 0, 1) := by decide +kernel
theorem dX10_rule_89 : decode cX10_rule 89 = .ok (.istore_n 2, 1) := by decide +kernel
theorem dX10_rule_90 : decode cX10_rule 90 = .ok (.iload_n 2, 1) := by decide +kernel
theorem dX10_rule_91 : decode cX10_rule 91 = .ok (.aload_n 0, 1) := by decide +kernel
theorem dX10_rule_92 : decode cX10_rule 92 = .ok (.getfield 137, 3) := by decide +kernel
theorem dX10_rule_95 : decode cX10_rule 95 = .ok (.if_icmp .ge 33, 3) := by decide +kernel
theorem dX10_rule_98 : decode cX10_rule 98 = .ok (.aload_n 0, 1) := by decide +kernel
theorem dX10_rule_99 : decode cX10_rule 99 = .ok (.getfield 68, 3) := by decide +kernel
theorem dX10_rule_102 : decode cX10_rule 102 = .ok (.iload_n 2, 1) := by decide +kernel
theorem dX10_rule_103 : decode cX10_rule 103 = .ok (.aload_n 0, 1) := by decide +kernel
theorem dX10_rule_104 : decode cX10_rule 104 = .ok (.getfield 77, 3) := by decide +kernel
theorem dX10_rule_107 : decode cX10_rule 107 = .ok (.iload_n 2, 1) := by decide +kernel
theorem dX10_rule_108 : decode cX10_rule 108 = .ok (.iaload, 1) := by decide +kernel
theorem dX10_rule_109 : decode cX10_rule 109 = .ok (.iastore, 1) := by decide +kernel
theorem dX10_rule_110 : decode cX10_rule 110 = .ok (.aload_n 0, 1) := by decide +kernel
theorem dX10_rule_111 : decode cX10_rule 111 = .ok (.getfield 71, 3) := by decide +kernel
theorem dX10_rule_114 : decode cX10_rule 114 = .ok (.iload_n 2, 1) := by decide +kernel
theorem dX10_rule_115 : decode cX10_rule 115 = .ok (.aload_n 0, 1) := by decide +kernel
theorem dX10_rule_116 : decode cX10_rule 116 = .ok (.getfield 80, 3) := by decide +kernel
theorem dX10_rule_119 : decode cX10_rule 119 = .ok (.iload_n 2, 1) := by decide +kernel
theorem dX10_rule_120 : decode cX10_rule 120 = .ok (.iaload, 1) := by decide +kernel
theorem dX10_rule_121 : decode cX10_rule 121 = .ok (.iastore, 1) := by decide +kernel
theorem dX10_rule_122 : decode cX10_rule 122 = .ok (.iinc 2 1, 3) := by decide +kernel
theorem dX10_rule_125 : decode cX10_rule 125 = .ok (.goto (-35), 3) := by decide +kernel
theorem dX10_rule_128 : decode cX10_rule 128 = .ok (.aload_n 0, 1) := by decide +kernel
theorem dX10_rule_129 : decode cX10_rule 129 = .ok (.getfield 68, 3) := by decide +kernel
theorem dX10_rule_132 : decode cX10_rule 132 = .ok (.aload_n 0, 1) := by decide +kernel
theorem dX10_rule_133 : decode cX10_rule 133 = .ok (.getfield 137, 3) := by decide +kernel
theorem dX10_rule_136 : decode cX10_rule 136 = .ok (.aload_n 0, 1) := by decide +kernel
theorem dX10_rule_137 : decode cX10_rule 137 = .ok (.getfield 202, 3) := by decide +kernel
theorem dX10_rule_140 : decode cX10_rule 140 = .ok (.iastore, 1) := by decide +kernel
theorem dX10_rule_141 : decode cX10_rule 141 = .ok (.iconst 0, 1) := by decide +kernel
theorem dX10_rule_142 : decode cX10_rule 142 = .ok (.istore_n 2, 1) := by decide +kernel
theorem dX10_rule_143 : decode cX10_rule 143 = .ok (.iload_n 2, 1) := by decide +kernel
theorem dX10_rule_144 : decode cX10_rule 144 = .ok (.aload_n 0, 1) := by decide +kernel
theorem dX10_rule_145 : decode cX10_rule 145 = .ok (.getfield 202, 3) := by decide +kernel
theorem dX10_rule_148 : decode cX10_rule 148 = .ok (.if_icmp .ge 21, 3) := by decide +kernel
theorem dX10_rule_151 : decode cX10_rule 151 = .ok (.aload_n 0, 1) := by decide +kernel
theorem dX10_rule_152 : decode cX10_rule 152 = .ok (.getfield 74, 3) := by decide +kernel
theorem dX10_rule_155 : decode cX10_rule 155 = .ok (.iload_n 2, 1) := by decide +kernel
theorem dX10_rule_156 : decode cX10_rule 156 = .ok (.aload_n 0, 1) := by decide +kernel
theorem dX10_rule_157 : decode cX10_rule 157 = .ok (.getfield 83, 3) := by decide +kernel
theorem dX10_rule_160 : decode cX10_rule 160 = .ok (.iload_n 2, 1) := by decide +kernel
theorem dX10_rule_161 : decode cX10_rule 161 = .ok (.iaload, 1) := by decide +kernel
theorem dX10_rule_162 : decode cX10_rule 162 = .ok (.iastore, 1) := by decide +kernel
theorem dX10_rule_163 : decode cX10_rule 163 = .ok (.iinc 2 1, 3) := by decide +kernel
theorem dX10_rule_166 : decode cX10_rule 166 = .ok (.goto (-23), 3) := by decide +kernel
theorem dX10_rule_169 : decode cX10_rule 169 = .ok (.aload_n 0, 1) := by decide +kernel
theorem dX10_rule_170 : decode cX10_rule 170 = .ok (.getfield 137, 3) := by decide +kernel
theorem dX10_rule_173 : decode cX10_rule 173 = .ok (.ireturn, 1) := by decide +kernel
theorem dX10_fault_0 : decode cX10_fault 0 = .ok (.iload_n 1, 1) := by decide +kernel
theorem dX10_fault_1 : decode cX10_fault 1 = .ok (.ifCond .ne 10, 3) := by decide +kernel
theorem dX10_fault_4 : decode cX10_fault 4 = .ok (.aload_n 0, 1) := by decide +kernel
theorem dX10_fault_5 : decode cX10_fault 5 = .ok (.getfield 242, 3) := by decide +kernel
theorem dX10_fault_8 : decode cX10_fault 8 = .ok (.goto 16, 3) := by decide +kernel
theorem dX10_fault_11 : decode cX10_fault 11 = .ok (.iload_n 1, 1) := by decide +kernel
theorem dX10_fault_12 : decode cX10_fault 12 = .ok (.iconst 1, 1) := by decide +kernel
theorem dX10_fault_13 : decode cX10_fault 13 = .ok (.if_icmp .ne 10, 3) := by decide +kernel
theorem dX10_fault_16 : decode cX10_fault 16 = .ok (.aload_n 0, 1) := by decide +kernel
theorem dX10_fault_17 : decode cX10_fault 17 = .ok (.getfield 92, 3) := by decide +kernel
theorem dX10_fault_20 : decode cX10_fault 20 = .ok (.goto 4, 3) := by decide +kernel
theorem dX10_fault_23 : decode cX10_fault 23 = .ok (.iconst (-1), 1) := by decide +kernel
theorem dX10_fault_24 : decode cX10_fault 24 = .ok (.ireturn, 1) := by decide +kernel
theorem dX10_takes_0 : decode cX10_takes 0 = .ok (.aload_n 0, 1) := by decide +kernel
theorem dX10_takes_1 : decode cX10_takes 1 = .ok (.iconst 0, 1) := by decide +kernel
theorem dX10_takes_2 : decode cX10_takes 2 = .ok (.putfield 245, 3) := by decide +kernel
theorem dX10_takes_5 : decode cX10_takes 5 = .ok (.aload_n 0, 1) := by decide +kernel
theorem dX10_takes_6 : decode cX10_takes 6 = .ok (.iconst 0, 1) := by decide +kernel
theorem dX10_takes_7 : decode cX10_takes 7 = .ok (.putfield 248, 3) := by decide +kernel
theorem dX10_takes_10 : decode cX10_takes 10 = .ok (.aload_n 0, 1) := by decide +kernel
theorem dX10_takes_11 : decode cX10_takes 11 = .ok (.iconst 0, 1) := by decide +kernel
theorem dX10_takes_12 : decode cX10_takes 12 = .ok (.putfield 251, 3) := by decide +kernel
theorem dX10_takes_15 : decode cX10_takes 15 = .ok (.aload_n 0, 1) := by decide +kernel
theorem dX10_takes_16 : decode cX10_takes 16 = .ok (.iload_n 2, 1) := by decide +kernel
theorem dX10_takes_17 : decode cX10_takes 17 = .ok (.putfield 254, 3) := by decide +kernel
theorem dX10_takes_20 : decode cX10_takes 20 = .ok (.iconst 0, 1) := by decide +kernel
theorem dX10_takes_21 : decode cX10_takes 21 = .ok (.istore_n 3, 1) := by decide +kernel
theorem dX10_takes_22 : decode cX10_takes 22 = .ok (.iload_n 3, 1) := by decide +kernel
theorem dX10_takes_23 : decode cX10_takes 23 = .ok (.aload_n 0, 1) := by decide +kernel
theorem dX10_takes_24 : decode cX10_takes 24 = .ok (.getfield 125, 3) := by decide +kernel
theorem dX10_takes_27 : decode cX10_takes 27 = .ok (.if_icmp .ge 113, 3) := by decide +kernel
theorem dX10_takes_30 : decode cX10_takes 30 = .ok (.aload_n 0, 1) := by decide +kernel
theorem dX10_takes_31 : decode cX10_takes 31 = .ok (.getfield 28, 3) := by decide +kernel
theorem dX10_takes_34 : decode cX10_takes 34 = .ok (.iload_n 3, 1) := by decide +kernel
theorem dX10_takes_35 : decode cX10_takes 35 = .ok (.iaload, 1) := by decide +kernel
theorem dX10_takes_36 : decode cX10_takes 36 = .ok (.iload_n 1, 1) := by decide +kernel
theorem dX10_takes_37 : decode cX10_takes 37 = .ok (.if_icmp .ne 97, 3) := by decide +kernel
theorem dX10_takes_40 : decode cX10_takes 40 = .ok (.aload_n 0, 1) := by decide +kernel
theorem dX10_takes_41 : decode cX10_takes 41 = .ok (.getfield 49, 3) := by decide +kernel
theorem dX10_takes_44 : decode cX10_takes 44 = .ok (.iload_n 3, 1) := by decide +kernel
theorem dX10_takes_45 : decode cX10_takes 45 = .ok (.iaload, 1) := by decide +kernel
theorem dX10_takes_46 : decode cX10_takes 46 = .ok (.iconst (-1), 1) := by decide +kernel
theorem dX10_takes_47 : decode cX10_takes 47 = .ok (.if_icmp .ne 6, 3) := by decide +kernel
theorem dX10_takes_50 : decode cX10_takes 50 = .ok (.goto 84, 3) := by decide +kernel
theorem dX10_takes_53 : decode cX10_takes 53 = .ok (.aload_n 0, 1) := by decide +kernel
theorem dX10_takes_54 : decode cX10_takes 54 = .ok (.getfield 49, 3) := by decide +kernel
theorem dX10_takes_57 : decode cX10_takes 57 = .ok (.iload_n 3, 1) := by decide +kernel
theorem dX10_takes_58 : decode cX10_takes 58 = .ok (.iaload, 1) := by decide +kernel
theorem dX10_takes_59 : decode cX10_takes 59 = .ok (.iload_n 2, 1) := by decide +kernel
theorem dX10_takes_60 : decode cX10_takes 60 = .ok (.invokestatic 257, 3) := by decide +kernel
theorem dX10_takes_63 : decode cX10_takes 63 = .ok (.ifCond .eq 28, 3) := by decide +kernel
theorem dX10_takes_66 : decode cX10_takes 66 = .ok (.aload_n 0, 1) := by decide +kernel
theorem dX10_takes_67 : decode cX10_takes 67 = .ok (.dup, 1) := by decide +kernel
theorem dX10_takes_68 : decode cX10_takes 68 = .ok (.getfield 245, 3) := by decide +kernel
theorem dX10_takes_71 : decode cX10_takes 71 = .ok (.aload_n 0, 1) := by decide +kernel
theorem dX10_takes_72 : decode cX10_takes 72 = .ok (.getfield 58, 3) := by decide +kernel
theorem dX10_takes_75 : decode cX10_takes 75 = .ok (.iload_n 3, 1) := by decide +kernel
theorem dX10_takes_76 : decode cX10_takes 76 = .ok (.iaload, 1) := by decide +kernel
theorem dX10_takes_77 : decode cX10_takes 77 = .ok (.iadd, 1) := by decide +kernel
theorem dX10_takes_78 : decode cX10_takes 78 = .ok (.putfield 245, 3) := by decide +kernel
theorem dX10_takes_81 : decode cX10_takes 81 = .ok (.aload_n 0, 1) := by decide +kernel
theorem dX10_takes_82 : decode cX10_takes 82 = .ok (.dup, 1) := by decide +kernel
theorem dX10_takes_83 : decode cX10_takes 83 = .ok (.getfield 248, 3) := by decide +kernel
theorem dX10_takes_86 : decode cX10_takes 86 = .ok (.iconst 1, 1) := by decide +kernel
theorem dX10_takes_87 : decode cX10_takes 87 = .ok (.iadd, 1) := by decide +kernel
theorem dX10_takes_88 : decode cX10_takes 88 = .ok (.putfield 248, 3) := by decide +kernel
theorem dX10_takes_91 : decode cX10_takes 91 = .ok (.aload_n 0, 1) := by decide +kernel
theorem dX10_takes_92 : decode cX10_takes 92 = .ok (.getfield 52, 3) := by decide +kernel
theorem dX10_takes_95 : decode cX10_takes 95 = .ok (.iload_n 3, 1) := by decide +kernel
theorem dX10_takes_96 : decode cX10_takes 96 = .ok (.iaload, 1) := by decide +kernel
theorem dX10_takes_97 : decode cX10_takes 97 = .ok (.iload_n 2, 1) := by decide +kernel
theorem dX10_takes_98 : decode cX10_takes 98 = .ok (.invokestatic 257, 3) := by decide +kernel
theorem dX10_takes_101 : decode cX10_takes 101 = .ok (.ifCond .eq 33, 3) := by decide +kernel
theorem dX10_takes_104 : decode cX10_takes 104 = .ok (.aload_n 0, 1) := by decide +kernel
theorem dX10_takes_105 : decode cX10_takes 105 = .ok (.dup, 1) := by decide +kernel
theorem dX10_takes_106 : decode cX10_takes 106 = .ok (.getfield 245, 3) := by decide +kernel
theorem dX10_takes_109 : decode cX10_takes 109 = .ok (.aload_n 0, 1) := by decide +kernel
theorem dX10_takes_110 : decode cX10_takes 110 = .ok (.getfield 58, 3) := by decide +kernel
theorem dX10_takes_113 : decode cX10_takes 113 = .ok (.iload_n 3, 1) := by decide +kernel
theorem dX10_takes_114 : decode cX10_takes 114 = .ok (.iaload, 1) := by decide +kernel
theorem dX10_takes_115 : decode cX10_takes 115 = .ok (.isub, 1) := by decide +kernel
theorem dX10_takes_116 : decode cX10_takes 116 = .ok (.putfield 245, 3) := by decide +kernel
theorem dX10_takes_119 : decode cX10_takes 119 = .ok (.aload_n 0, 1) := by decide +kernel
theorem dX10_takes_120 : decode cX10_takes 120 = .ok (.dup, 1) := by decide +kernel
theorem dX10_takes_121 : decode cX10_takes 121 = .ok (.getfield 251, 3) := by decide +kernel
theorem dX10_takes_124 : decode cX10_takes 124 = .ok (.aload_n 0, 1) := by decide +kernel
theorem dX10_takes_125 : decode cX10_takes 125 = .ok (.getfield 58, 3) := by decide +kernel
theorem dX10_takes_128 : decode cX10_takes 128 = .ok (.iload_n 3, 1) := by decide +kernel
theorem dX10_takes_129 : decode cX10_takes 129 = .ok (.iaload, 1) := by decide +kernel
theorem dX10_takes_130 : decode cX10_takes 130 = .ok (.iadd, 1) := by decide +kernel
theorem dX10_takes_131 : decode cX10_takes 131 = .ok (.putfield 251, 3) := by decide +kernel
theorem dX10_takes_134 : decode cX10_takes 134 = .ok (.iinc 3 1, 3) := by decide +kernel
theorem dX10_takes_137 : decode cX10_takes 137 = .ok (.goto (-115), 3) := by decide +kernel
theorem dX10_takes_140 : decode cX10_takes 140 = .ok (.return_, 1) := by decide +kernel
theorem dX10_worked_0 : decode cX10_worked 0 = .ok (.iconst 0, 1) := by decide +kernel
theorem dX10_worked_1 : decode cX10_worked 1 = .ok (.istore_n 3, 1) := by decide +kernel
theorem dX10_worked_2 : decode cX10_worked 2 = .ok (.iload_n 1, 1) := by decide +kernel
theorem dX10_worked_3 : decode cX10_worked 3 = .ok (.istore 4, 2) := by decide +kernel
theorem dX10_worked_5 : decode cX10_worked 5 = .ok (.iload 4, 2) := by decide +kernel
theorem dX10_worked_7 : decode cX10_worked 7 = .ok (.iload_n 2, 1) := by decide +kernel
theorem dX10_worked_8 : decode cX10_worked 8 = .ok (.if_icmp .ge 125, 3) := by decide +kernel
theorem dX10_worked_11 : decode cX10_worked 11 = .ok (.aload_n 0, 1) := by decide +kernel
theorem dX10_worked_12 : decode cX10_worked 12 = .ok (.getfield 74, 3) := by decide +kernel
theorem dX10_worked_15 : decode cX10_worked 15 = .ok (.iload 4, 2) := by decide +kernel
theorem dX10_worked_17 : decode cX10_worked 17 = .ok (.iaload, 1) := by decide +kernel
theorem dX10_worked_18 : decode cX10_worked 18 = .ok (.istore 5, 2) := by decide +kernel
theorem dX10_worked_20 : decode cX10_worked 20 = .ok (.iload 5, 2) := by decide +kernel
theorem dX10_worked_22 : decode cX10_worked 22 = .ok (.ldc 209, 2) := by decide +kernel
theorem dX10_worked_24 : decode cX10_worked 24 = .ok (.if_icmp .ge 73, 3) := by decide +kernel
theorem dX10_worked_27 : decode cX10_worked 27 = .ok (.aload_n 0, 1) := by decide +kernel
theorem dX10_worked_28 : decode cX10_worked 28 = .ok (.getfield 86, 3) := by decide +kernel
theorem dX10_worked_31 : decode cX10_worked 31 = .ok (.iload_n 3, 1) := by decide +kernel
theorem dX10_worked_32 : decode cX10_worked 32 = .ok (.iload 5, 2) := by decide +kernel
theorem dX10_worked_34 : decode cX10_worked 34 = .ok (.ldc 154, 2) := by decide +kernel
theorem dX10_worked_36 : decode cX10_worked 36 = .ok (.if_icmp .ne 10, 3) := by decide +kernel
theorem dX10_worked_39 : decode cX10_worked 39 = .ok (.aload_n 0, 1) := by decide +kernel
theorem dX10_worked_40 : decode cX10_worked 40 = .ok (.getfield 245, 3) := by decide +kernel
theorem dX10_worked_43 : decode cX10_worked 43 = .ok (.goto 47, 3) := by decide +kernel
theorem dX10_worked_46 : decode cX10_worked 46 = .ok (.iload 5, 2) := by decide +kernel
theorem dX10_worked_48 : decode cX10_worked 48 = .ok (.ldc 157, 2) := by decide +kernel
theorem dX10_worked_50 : decode cX10_worked 50 = .ok (.if_icmp .ne 10, 3) := by decide +kernel
theorem dX10_worked_53 : decode cX10_worked 53 = .ok (.aload_n 0, 1) := by decide +kernel
theorem dX10_worked_54 : decode cX10_worked 54 = .ok (.getfield 248, 3) := by decide +kernel
theorem dX10_worked_57 : decode cX10_worked 57 = .ok (.goto 33, 3) := by decide +kernel
theorem dX10_worked_60 : decode cX10_worked 60 = .ok (.iload 5, 2) := by decide +kernel
theorem dX10_worked_62 : decode cX10_worked 62 = .ok (.ldc 160, 2) := by decide +kernel
theorem dX10_worked_64 : decode cX10_worked 64 = .ok (.if_icmp .ne 10, 3) := by decide +kernel
theorem dX10_worked_67 : decode cX10_worked 67 = .ok (.aload_n 0, 1) := by decide +kernel
theorem dX10_worked_68 : decode cX10_worked 68 = .ok (.getfield 251, 3) := by decide +kernel
theorem dX10_worked_71 : decode cX10_worked 71 = .ok (.goto 19, 3) := by decide +kernel
theorem dX10_worked_74 : decode cX10_worked 74 = .ok (.iload 5, 2) := by decide +kernel
theorem dX10_worked_76 : decode cX10_worked 76 = .ok (.ldc 163, 2) := by decide +kernel
theorem dX10_worked_78 : decode cX10_worked 78 = .ok (.if_icmp .ne 10, 3) := by decide +kernel
theorem dX10_worked_81 : decode cX10_worked 81 = .ok (.aload_n 0, 1) := by decide +kernel
theorem dX10_worked_82 : decode cX10_worked 82 = .ok (.getfield 254, 3) := by decide +kernel
theorem dX10_worked_85 : decode cX10_worked 85 = .ok (.goto 5, 3) := by decide +kernel
theorem dX10_worked_88 : decode cX10_worked 88 = .ok (.iload 5, 2) := by decide +kernel
theorem dX10_worked_90 : decode cX10_worked 90 = .ok (.iastore, 1) := by decide +kernel
theorem dX10_worked_91 : decode cX10_worked 91 = .ok (.iinc 3 1, 3) := by decide +kernel
theorem dX10_worked_94 : decode cX10_worked 94 = .ok (.goto 33, 3) := by decide +kernel
theorem dX10_worked_97 : decode cX10_worked 97 = .ok (.iinc 3 (-1), 3) := by decide +kernel
theorem dX10_worked_100 : decode cX10_worked 100 = .ok (.aload_n 0, 1) := by decide +kernel
theorem dX10_worked_101 : decode cX10_worked 101 = .ok (.getfield 86, 3) := by decide +kernel
theorem dX10_worked_104 : decode cX10_worked 104 = .ok (.iload_n 3, 1) := by decide +kernel
theorem dX10_worked_105 : decode cX10_worked 105 = .ok (.iconst 1, 1) := by decide +kernel
theorem dX10_worked_106 : decode cX10_worked 106 = .ok (.isub, 1) := by decide +kernel
theorem dX10_worked_107 : decode cX10_worked 107 = .ok (.iload 5, 2) := by decide +kernel
theorem dX10_worked_109 : decode cX10_worked 109 = .ok (.aload_n 0, 1) := by decide +kernel
theorem dX10_worked_110 : decode cX10_worked 110 = .ok (.getfield 86, 3) := by decide +kernel
theorem dX10_worked_113 : decode cX10_worked 113 = .ok (.iload_n 3, 1) := by decide +kernel
theorem dX10_worked_114 : decode cX10_worked 114 = .ok (.iconst 1, 1) := by decide +kernel
theorem dX10_worked_115 : decode cX10_worked 115 = .ok (.isub, 1) := by decide +kernel
theorem dX10_worked_116 : decode cX10_worked 116 = .ok (.iaload, 1) := by decide +kernel
theorem dX10_worked_117 : decode cX10_worked 117 = .ok (.aload_n 0, 1) := by decide +kernel
theorem dX10_worked_118 : decode cX10_worked 118 = .ok (.getfield 86, 3) := by decide +kernel
theorem dX10_worked_121 : decode cX10_worked 121 = .ok (.iload_n 3, 1) := by decide +kernel
theorem dX10_worked_122 : decode cX10_worked 122 = .ok (.iaload, 1) := by decide +kernel
theorem dX10_worked_123 : decode cX10_worked 123 = .ok (.invokestatic 261, 3) := by decide +kernel
theorem dX10_worked_126 : decode cX10_worked 126 = .ok (.iastore, 1) := by decide +kernel
theorem dX10_worked_127 : decode cX10_worked 127 = .ok (.iinc 4 1, 3) := by decide +kernel
theorem dX10_worked_130 : decode cX10_worked 130 = .ok (.goto (-125), 3) := by decide +kernel
theorem dX10_worked_133 : decode cX10_worked 133 = .ok (.aload_n 0, 1) := by decide +kernel
theorem dX10_worked_134 : decode cX10_worked 134 = .ok (.getfield 86, 3) := by decide +kernel
theorem dX10_worked_137 : decode cX10_worked 137 = .ok (.iconst 0, 1) := by decide +kernel
theorem dX10_worked_138 : decode cX10_worked 138 = .ok (.iaload, 1) := by decide +kernel
theorem dX10_worked_139 : decode cX10_worked 139 = .ok (.ireturn, 1) := by decide +kernel
theorem dX10_pay_0 : decode cX10_pay 0 = .ok (.iload_n 1, 1) := by decide +kernel
theorem dX10_pay_1 : decode cX10_pay 1 = .ok (.iconst 0, 1) := by decide +kernel
theorem dX10_pay_2 : decode cX10_pay 2 = .ok (.bipush 7, 2) := by decide +kernel
theorem dX10_pay_4 : decode cX10_pay 4 = .ok (.invokestatic 111, 3) := by decide +kernel
theorem dX10_pay_7 : decode cX10_pay 7 = .ok (.ifCond .eq 19, 3) := by decide +kernel
theorem dX10_pay_10 : decode cX10_pay 10 = .ok (.iload_n 2, 1) := by decide +kernel
theorem dX10_pay_11 : decode cX10_pay 11 = .ok (.invokestatic 265, 3) := by decide +kernel
theorem dX10_pay_14 : decode cX10_pay 14 = .ok (.ifCond .eq 12, 3) := by decide +kernel
theorem dX10_pay_17 : decode cX10_pay 17 = .ok (.iload_n 3, 1) := by decide +kernel
theorem dX10_pay_18 : decode cX10_pay 18 = .ok (.iconst 0, 1) := by decide +kernel
theorem dX10_pay_19 : decode cX10_pay 19 = .ok (.iconst 4, 1) := by decide +kernel
theorem dX10_pay_20 : decode cX10_pay 20 = .ok (.invokestatic 111, 3) := by decide +kernel
theorem dX10_pay_23 : decode cX10_pay 23 = .ok (.ifCond .ne 7, 3) := by decide +kernel
theorem dX10_pay_26 : decode cX10_pay 26 = .ok (.ldc_w 268, 3) := by decide +kernel
theorem dX10_pay_29 : decode cX10_pay 29 = .ok (.ireturn, 1) := by decide +kernel
theorem dX10_pay_30 : decode cX10_pay 30 = .ok (.aload_n 0, 1) := by decide +kernel
theorem dX10_pay_31 : decode cX10_pay 31 = .ok (.iload_n 1, 1) := by decide +kernel
theorem dX10_pay_32 : decode cX10_pay 32 = .ok (.iload_n 2, 1) := by decide +kernel
theorem dX10_pay_33 : decode cX10_pay 33 = .ok (.invokevirtual 269, 3) := by decide +kernel
theorem dX10_pay_36 : decode cX10_pay 36 = .ok (.iload_n 3, 1) := by decide +kernel
theorem dX10_pay_37 : decode cX10_pay 37 = .ok (.iconst 3, 1) := by decide +kernel
theorem dX10_pay_38 : decode cX10_pay 38 = .ok (.if_icmp .ge 31, 3) := by decide +kernel
theorem dX10_pay_41 : decode cX10_pay 41 = .ok (.iload_n 3, 1) := by decide +kernel
theorem dX10_pay_42 : decode cX10_pay 42 = .ok (.ifCond .ne 10, 3) := by decide +kernel
theorem dX10_pay_45 : decode cX10_pay 45 = .ok (.aload_n 0, 1) := by decide +kernel
theorem dX10_pay_46 : decode cX10_pay 46 = .ok (.getfield 245, 3) := by decide +kernel
theorem dX10_pay_49 : decode cX10_pay 49 = .ok (.goto 19, 3) := by decide +kernel
theorem dX10_pay_52 : decode cX10_pay 52 = .ok (.iload_n 3, 1) := by decide +kernel
theorem dX10_pay_53 : decode cX10_pay 53 = .ok (.iconst 1, 1) := by decide +kernel
theorem dX10_pay_54 : decode cX10_pay 54 = .ok (.if_icmp .ne 10, 3) := by decide +kernel
theorem dX10_pay_57 : decode cX10_pay 57 = .ok (.aload_n 0, 1) := by decide +kernel
theorem dX10_pay_58 : decode cX10_pay 58 = .ok (.getfield 248, 3) := by decide +kernel
theorem dX10_pay_61 : decode cX10_pay 61 = .ok (.goto 7, 3) := by decide +kernel
theorem dX10_pay_64 : decode cX10_pay 64 = .ok (.aload_n 0, 1) := by decide +kernel
theorem dX10_pay_65 : decode cX10_pay 65 = .ok (.getfield 251, 3) := by decide +kernel
theorem dX10_pay_68 : decode cX10_pay 68 = .ok (.ireturn, 1) := by decide +kernel
theorem dX10_pay_69 : decode cX10_pay 69 = .ok (.iconst 0, 1) := by decide +kernel
theorem dX10_pay_70 : decode cX10_pay 70 = .ok (.istore 4, 2) := by decide +kernel
theorem dX10_pay_72 : decode cX10_pay 72 = .ok (.iload 4, 2) := by decide +kernel
theorem dX10_pay_74 : decode cX10_pay 74 = .ok (.aload_n 0, 1) := by decide +kernel
theorem dX10_pay_75 : decode cX10_pay 75 = .ok (.getfield 137, 3) := by decide +kernel
theorem dX10_pay_78 : decode cX10_pay 78 = .ok (.if_icmp .ge 62, 3) := by decide +kernel
theorem dX10_pay_81 : decode cX10_pay 81 = .ok (.aload_n 0, 1) := by decide +kernel
theorem dX10_pay_82 : decode cX10_pay 82 = .ok (.aload_n 0, 1) := by decide +kernel
theorem dX10_pay_83 : decode cX10_pay 83 = .ok (.getfield 71, 3) := by decide +kernel
theorem dX10_pay_86 : decode cX10_pay 86 = .ok (.iload 4, 2) := by decide +kernel
theorem dX10_pay_88 : decode cX10_pay 88 = .ok (.iaload, 1) := by decide +kernel
theorem dX10_pay_89 : decode cX10_pay 89 = .ok (.aload_n 0, 1) := by decide +kernel
theorem dX10_pay_90 : decode cX10_pay 90 = .ok (.getfield 68, 3) := by decide +kernel
theorem dX10_pay_93 : decode cX10_pay 93 = .ok (.iload 4, 2) := by decide +kernel
theorem dX10_pay_95 : decode cX10_pay 95 = .ok (.iconst 1, 1) := by decide +kernel
theorem dX10_pay_96 : decode cX10_pay 96 = .ok (.iadd, 1) := by decide +kernel
theorem dX10_pay_97 : decode cX10_pay 97 = .ok (.iaload, 1) := by decide +kernel
theorem dX10_pay_98 : decode cX10_pay 98 = .ok (.invokevirtual 273, 3) := by decide +kernel
theorem dX10_pay_101 : decode cX10_pay 101 = .ok (.iconst 1, 1) := by decide +kernel
theorem dX10_pay_102 : decode cX10_pay 102 = .ok (.if_icmp .ne 32, 3) := by decide +kernel
theorem dX10_pay_105 : decode cX10_pay 105 = .ok (.iload_n 3, 1) := by decide +kernel
theorem dX10_pay_106 : decode cX10_pay 106 = .ok (.iconst 4, 1) := by decide +kernel
theorem dX10_pay_107 : decode cX10_pay 107 = .ok (.if_icmp .ne 8, 3) := by decide +kernel
theorem dX10_pay_110 : decode cX10_pay 110 = .ok (.iload 4, 2) := by decide +kernel
theorem dX10_pay_112 : decode cX10_pay 112 = .ok (.goto 21, 3) := by decide +kernel
theorem dX10_pay_115 : decode cX10_pay 115 = .ok (.aload_n 0, 1) := by decide +kernel
theorem dX10_pay_116 : decode cX10_pay 116 = .ok (.aload_n 0, 1) := by decide +kernel
theorem dX10_pay_117 : decode cX10_pay 117 = .ok (.getfield 68, 3) := by decide +kernel
theorem dX10_pay_120 : decode cX10_pay 120 = .ok (.iload 4, 2) := by decide +kernel
theorem dX10_pay_122 : decode cX10_pay 122 = .ok (.iaload, 1) := by decide +kernel
theorem dX10_pay_123 : decode cX10_pay 123 = .ok (.aload_n 0, 1) := by decide +kernel
theorem dX10_pay_124 : decode cX10_pay 124 = .ok (.getfield 71, 3) := by decide +kernel
theorem dX10_pay_127 : decode cX10_pay 127 = .ok (.iload 4, 2) := by decide +kernel
theorem dX10_pay_129 : decode cX10_pay 129 = .ok (.iaload, 1) := by decide +kernel
theorem dX10_pay_130 : decode cX10_pay 130 = .ok (.invokevirtual 273, 3) := by decide +kernel
theorem dX10_pay_133 : decode cX10_pay 133 = .ok (.ireturn, 1) := by decide +kernel
theorem dX10_pay_134 : decode cX10_pay 134 = .ok (.iinc 4 1, 3) := by decide +kernel
theorem dX10_pay_137 : decode cX10_pay 137 = .ok (.goto (-65), 3) := by decide +kernel
theorem dX10_pay_140 : decode cX10_pay 140 = .ok (.iload_n 3, 1) := by decide +kernel
theorem dX10_pay_141 : decode cX10_pay 141 = .ok (.iconst 4, 1) := by decide +kernel
theorem dX10_pay_142 : decode cX10_pay 142 = .ok (.if_icmp .ne 7, 3) := by decide +kernel
theorem dX10_pay_145 : decode cX10_pay 145 = .ok (.iconst (-1), 1) := by decide +kernel
theorem dX10_pay_146 : decode cX10_pay 146 = .ok (.goto 4, 3) := by decide +kernel
theorem dX10_pay_149 : decode cX10_pay 149 = .ok (.iconst 0, 1) := by decide +kernel
theorem dX10_pay_150 : decode cX10_pay 150 = .ok (.ireturn, 1) := by decide +kernel
theorem dX10_statement_0 : decode cX10_statement 0 = .ok (.iload_n 1, 1) := by decide +kernel
theorem dX10_statement_1 : decode cX10_statement 1 = .ok (.iconst 0, 1) := by decide +kernel
theorem dX10_statement_2 : decode cX10_statement 2 = .ok (.bipush 9, 2) := by decide +kernel
theorem dX10_statement_4 : decode cX10_statement 4 = .ok (.invokestatic 111, 3) := by decide +kernel
theorem dX10_statement_7 : decode cX10_statement 7 = .ok (.ifCond .eq 22, 3) := by decide +kernel
theorem dX10_statement_10 : decode cX10_statement 10 = .ok (.iload_n 2, 1) := by decide +kernel
theorem dX10_statement_11 : decode cX10_statement 11 = .ok (.invokestatic 265, 3) := by decide +kernel
theorem dX10_statement_14 : decode cX10_statement 14 = .ok (.ifCond .eq 15, 3) := by decide +kernel
theorem dX10_statement_17 : decode cX10_statement 17 = .ok (.iload_n 3, 1) := by decide +kernel
theorem dX10_statement_18 : decode cX10_statement 18 = .ok (.iconst 0, 1) := by decide +kernel
theorem dX10_statement_19 : decode cX10_statement 19 = .ok (.aload_n 0, 1) := by decide +kernel
theorem dX10_statement_20 : decode cX10_statement 20 = .ok (.getfield 119, 3) := by decide +kernel
theorem dX10_statement_23 : decode cX10_statement 23 = .ok (.invokestatic 111, 3) := by decide +kernel
theorem dX10_statement_26 : decode cX10_statement 26 = .ok (.ifCond .ne 7, 3) := by decide +kernel
theorem dX10_statement_29 : decode cX10_statement 29 = .ok (.ldc_w 268, 3) := by decide +kernel
theorem dX10_statement_32 : decode cX10_statement 32 = .ok (.ireturn, 1) := by decide +kernel
theorem dX10_statement_33 : decode cX10_statement 33 = .ok (.iconst 0, 1) := by decide +kernel
theorem dX10_statement_34 : decode cX10_statement 34 = .ok (.istore 4, 2) := by decide +kernel
theorem dX10_statement_36 : decode cX10_statement 36 = .ok (.iconst 0, 1) := by decide +kernel
theorem dX10_statement_37 : decode cX10_statement 37 = .ok (.istore 5, 2) := by decide +kernel
theorem dX10_statement_39 : decode cX10_statement 39 = .ok (.iload 5, 2) := by decide +kernel
theorem dX10_statement_41 : decode cX10_statement 41 = .ok (.aload_n 0, 1) := by decide +kernel
theorem dX10_statement_42 : decode cX10_statement 42 = .ok (.getfield 125, 3) := by decide +kernel
theorem dX10_statement_45 : decode cX10_statement 45 = .ok (.if_icmp .ge 119, 3) := by decide +kernel
theorem dX10_statement_48 : decode cX10_statement 48 = .ok (.aload_n 0, 1) := by decide +kernel
theorem dX10_statement_49 : decode cX10_statement 49 = .ok (.getfield 31, 3) := by decide +kernel
theorem dX10_statement_52 : decode cX10_statement 52 = .ok (.iload 5, 2) := by decide +kernel
theorem dX10_statement_54 : decode cX10_statement 54 = .ok (.iaload, 1) := by decide +kernel
theorem dX10_statement_55 : decode cX10_statement 55 = .ok (.iload_n 1, 1) := by decide +kernel
theorem dX10_statement_56 : decode cX10_statement 56 = .ok (.if_icmp .ne 102, 3) := by decide +kernel
theorem dX10_statement_59 : decode cX10_statement 59 = .ok (.aload_n 0, 1) := by decide +kernel
theorem dX10_statement_60 : decode cX10_statement 60 = .ok (.getfield 46, 3) := by decide +kernel
theorem dX10_statement_63 : decode cX10_statement 63 = .ok (.iload 5, 2) := by decide +kernel
theorem dX10_statement_65 : decode cX10_statement 65 = .ok (.iaload, 1) := by decide +kernel
theorem dX10_statement_66 : decode cX10_statement 66 = .ok (.iload_n 3, 1) := by decide +kernel
theorem dX10_statement_67 : decode cX10_statement 67 = .ok (.if_icmp .gt 91, 3) := by decide +kernel
theorem dX10_statement_70 : decode cX10_statement 70 = .ok (.aload_n 0, 1) := by decide +kernel
theorem dX10_statement_71 : decode cX10_statement 71 = .ok (.getfield 49, 3) := by decide +kernel
theorem dX10_statement_74 : decode cX10_statement 74 = .ok (.iload 5, 2) := by decide +kernel
theorem dX10_statement_76 : decode cX10_statement 76 = .ok (.iaload, 1) := by decide +kernel
theorem dX10_statement_77 : decode cX10_statement 77 = .ok (.iconst (-1), 1) := by decide +kernel
theorem dX10_statement_78 : decode cX10_statement 78 = .ok (.if_icmp .ne 6, 3) := by decide +kernel
theorem dX10_statement_81 : decode cX10_statement 81 = .ok (.goto 77, 3) := by decide +kernel
theorem dX10_statement_84 : decode cX10_statement 84 = .ok (.aload_n 0, 1) := by decide +kernel
theorem dX10_statement_85 : decode cX10_statement 85 = .ok (.getfield 49, 3) := by decide +kernel
theorem dX10_statement_88 : decode cX10_statement 88 = .ok (.iload 5, 2) := by decide +kernel
theorem dX10_statement_90 : decode cX10_statement 90 = .ok (.iaload, 1) := by decide +kernel
theorem dX10_statement_91 : decode cX10_statement 91 = .ok (.iload_n 2, 1) := by decide +kernel
theorem dX10_statement_92 : decode cX10_statement 92 = .ok (.invokestatic 257, 3) := by decide +kernel
theorem dX10_statement_95 : decode cX10_statement 95 = .ok (.ifCond .eq 26, 3) := by decide +kernel
theorem dX10_statement_98 : decode cX10_statement 98 = .ok (.aload_n 0, 1) := by decide +kernel
theorem dX10_statement_99 : decode cX10_statement 99 = .ok (.getfield 49, 3) := by decide +kernel
theorem dX10_statement_102 : decode cX10_statement 102 = .ok (.iload 5, 2) := by decide +kernel
theorem dX10_statement_104 : decode cX10_statement 104 = .ok (.iaload, 1) := by decide +kernel
theorem dX10_statement_105 : decode cX10_statement 105 = .ok (.iload_n 3, 1) := by decide +kernel
theorem dX10_statement_106 : decode cX10_statement 106 = .ok (.if_icmp .gt 15, 3) := by decide +kernel
theorem dX10_statement_109 : decode cX10_statement 109 = .ok (.iload 4, 2) := by decide +kernel
theorem dX10_statement_111 : decode cX10_statement 111 = .ok (.aload_n 0, 1) := by decide +kernel
theorem dX10_statement_112 : decode cX10_statement 112 = .ok (.getfield 58, 3) := by decide +kernel
theorem dX10_statement_115 : decode cX10_statement 115 = .ok (.iload 5, 2) := by decide +kernel
theorem dX10_statement_117 : decode cX10_statement 117 = .ok (.iaload, 1) := by decide +kernel
theorem dX10_statement_118 : decode cX10_statement 118 = .ok (.iadd, 1) := by decide +kernel
theorem dX10_statement_119 : decode cX10_statement 119 = .ok (.istore 4, 2) := by decide +kernel
theorem dX10_statement_121 : decode cX10_statement 121 = .ok (.aload_n 0, 1) := by decide +kernel
theorem dX10_statement_122 : decode cX10_statement 122 = .ok (.getfield 52, 3) := by decide +kernel
theorem dX10_statement_125 : decode cX10_statement 125 = .ok (.iload 5, 2) := by decide +kernel
theorem dX10_statement_127 : decode cX10_statement 127 = .ok (.iaload, 1) := by decide +kernel
theorem dX10_statement_128 : decode cX10_statement 128 = .ok (.iload_n 2, 1) := by decide +kernel
theorem dX10_statement_129 : decode cX10_statement 129 = .ok (.invokestatic 257, 3) := by decide +kernel
theorem dX10_statement_132 : decode cX10_statement 132 = .ok (.ifCond .eq 26, 3) := by decide +kernel
theorem dX10_statement_135 : decode cX10_statement 135 = .ok (.aload_n 0, 1) := by decide +kernel
theorem dX10_statement_136 : decode cX10_statement 136 = .ok (.getfield 52, 3) := by decide +kernel
theorem dX10_statement_139 : decode cX10_statement 139 = .ok (.iload 5, 2) := by decide +kernel
theorem dX10_statement_141 : decode cX10_statement 141 = .ok (.iaload, 1) := by decide +kernel
theorem dX10_statement_142 : decode cX10_statement 142 = .ok (.iload_n 3, 1) := by decide +kernel
theorem dX10_statement_143 : decode cX10_statement 143 = .ok (.if_icmp .gt 15, 3) := by decide +kernel
theorem dX10_statement_146 : decode cX10_statement 146 = .ok (.iload 4, 2) := by decide +kernel
theorem dX10_statement_148 : decode cX10_statement 148 = .ok (.aload_n 0, 1) := by decide +kernel
theorem dX10_statement_149 : decode cX10_statement 149 = .ok (.getfield 58, 3) := by decide +kernel
theorem dX10_statement_152 : decode cX10_statement 152 = .ok (.iload 5, 2) := by decide +kernel
theorem dX10_statement_154 : decode cX10_statement 154 = .ok (.iaload, 1) := by decide +kernel
theorem dX10_statement_155 : decode cX10_statement 155 = .ok (.isub, 1) := by decide +kernel
theorem dX10_statement_156 : decode cX10_statement 156 = .ok (.istore 4, 2) := by decide +kernel
theorem dX10_statement_158 : decode cX10_statement 158 = .ok (.iinc 5 1, 3) := by decide +kernel
theorem dX10_statement_161 : decode cX10_statement 161 = .ok (.goto (-122), 3) := by decide +kernel
theorem dX10_statement_164 : decode cX10_statement 164 = .ok (.iload 4, 2) := by decide +kernel
theorem dX10_statement_166 : decode cX10_statement 166 = .ok (.ireturn, 1) := by decide +kernel
theorem dX10_count_0 : decode cX10_count 0 = .ok (.aload_n 0, 1) := by decide +kernel
theorem dX10_count_1 : decode cX10_count 1 = .ok (.iload_n 1, 1) := by decide +kernel
theorem dX10_count_2 : decode cX10_count 2 = .ok (.invokevirtual 122, 3) := by decide +kernel
theorem dX10_count_5 : decode cX10_count 5 = .ok (.ifCond .eq 14, 3) := by decide +kernel
theorem dX10_count_8 : decode cX10_count 8 = .ok (.iload_n 2, 1) := by decide +kernel
theorem dX10_count_9 : decode cX10_count 9 = .ok (.iconst 0, 1) := by decide +kernel
theorem dX10_count_10 : decode cX10_count 10 = .ok (.sipush 9999, 3) := by decide +kernel
theorem dX10_count_13 : decode cX10_count 13 = .ok (.invokestatic 111, 3) := by decide +kernel
theorem dX10_count_16 : decode cX10_count 16 = .ok (.ifCond .ne 7, 3) := by decide +kernel
theorem dX10_count_19 : decode cX10_count 19 = .ok (.ldc_w 268, 3) := by decide +kernel
theorem dX10_count_22 : decode cX10_count 22 = .ok (.ireturn, 1) := by decide +kernel
theorem dX10_count_23 : decode cX10_count 23 = .ok (.aload_n 0, 1) := by decide +kernel
theorem dX10_count_24 : decode cX10_count 24 = .ok (.getfield 13, 3) := by decide +kernel
theorem dX10_count_27 : decode cX10_count 27 = .ok (.iload_n 1, 1) := by decide +kernel
theorem dX10_count_28 : decode cX10_count 28 = .ok (.iaload, 1) := by decide +kernel
theorem dX10_count_29 : decode cX10_count 29 = .ok (.iload_n 2, 1) := by decide +kernel
theorem dX10_count_30 : decode cX10_count 30 = .ok (.isub, 1) := by decide +kernel
theorem dX10_count_31 : decode cX10_count 31 = .ok (.istore_n 3, 1) := by decide +kernel
theorem dX10_count_32 : decode cX10_count 32 = .ok (.aload_n 0, 1) := by decide +kernel
theorem dX10_count_33 : decode cX10_count 33 = .ok (.getfield 13, 3) := by decide +kernel
theorem dX10_count_36 : decode cX10_count 36 = .ok (.iload_n 1, 1) := by decide +kernel
theorem dX10_count_37 : decode cX10_count 37 = .ok (.iload_n 2, 1) := by decide +kernel
theorem dX10_count_38 : decode cX10_count 38 = .ok (.iastore, 1) := by decide +kernel
theorem dX10_count_39 : decode cX10_count 39 = .ok (.aload_n 0, 1) := by decide +kernel
theorem dX10_count_40 : decode cX10_count 40 = .ok (.getfield 19, 3) := by decide +kernel
theorem dX10_count_43 : decode cX10_count 43 = .ok (.iload_n 1, 1) := by decide +kernel
theorem dX10_count_44 : decode cX10_count 44 = .ok (.dup2, 1) := by decide +kernel
theorem dX10_count_45 : decode cX10_count 45 = .ok (.iaload, 1) := by decide +kernel
theorem dX10_count_46 : decode cX10_count 46 = .ok (.iload_n 3, 1) := by decide +kernel
theorem dX10_count_47 : decode cX10_count 47 = .ok (.aload_n 0, 1) := by decide +kernel
theorem dX10_count_48 : decode cX10_count 48 = .ok (.getfield 7, 3) := by decide +kernel
theorem dX10_count_51 : decode cX10_count 51 = .ok (.sipush 364, 3) := by decide +kernel
theorem dX10_count_54 : decode cX10_count 54 = .ok (.iload_n 1, 1) := by decide +kernel
theorem dX10_count_55 : decode cX10_count 55 = .ok (.imul, 1) := by decide +kernel
theorem dX10_count_56 : decode cX10_count 56 = .ok (.aload_n 0, 1) := by decide +kernel
theorem dX10_count_57 : decode cX10_count 57 = .ok (.getfield 119, 3) := by decide +kernel
theorem dX10_count_60 : decode cX10_count 60 = .ok (.iadd, 1) := by decide +kernel
theorem dX10_count_61 : decode cX10_count 61 = .ok (.iaload, 1) := by decide +kernel
theorem dX10_count_62 : decode cX10_count 62 = .ok (.imul, 1) := by decide +kernel
theorem dX10_count_63 : decode cX10_count 63 = .ok (.iadd, 1) := by decide +kernel
theorem dX10_count_64 : decode cX10_count 64 = .ok (.iastore, 1) := by decide +kernel
theorem dX10_count_65 : decode cX10_count 65 = .ok (.iload_n 3, 1) := by decide +kernel
theorem dX10_count_66 : decode cX10_count 66 = .ok (.ireturn, 1) := by decide +kernel
theorem dX10_level_0 : decode cX10_level 0 = .ok (.iload_n 1, 1) := by decide +kernel
theorem dX10_level_1 : decode cX10_level 1 = .ok (.iconst 0, 1) := by decide +kernel
theorem dX10_level_2 : decode cX10_level 2 = .ok (.iconst 3, 1) := by decide +kernel
theorem dX10_level_3 : decode cX10_level 3 = .ok (.invokestatic 111, 3) := by decide +kernel
theorem dX10_level_6 : decode cX10_level 6 = .ok (.ifCond .eq 24, 3) := by decide +kernel
theorem dX10_level_9 : decode cX10_level 9 = .ok (.iload_n 2, 1) := by decide +kernel
theorem dX10_level_10 : decode cX10_level 10 = .ok (.iconst 0, 1) := by decide +kernel
theorem dX10_level_11 : decode cX10_level 11 = .ok (.sipush 999, 3) := by decide +kernel
theorem dX10_level_14 : decode cX10_level 14 = .ok (.invokestatic 111, 3) := by decide +kernel
theorem dX10_level_17 : decode cX10_level 17 = .ok (.ifCond .eq 13, 3) := by decide +kernel
theorem dX10_level_20 : decode cX10_level 20 = .ok (.iload_n 3, 1) := by decide +kernel
theorem dX10_level_21 : decode cX10_level 21 = .ok (.iconst 0, 1) := by decide +kernel
theorem dX10_level_22 : decode cX10_level 22 = .ok (.bipush 99, 2) := by decide +kernel
theorem dX10_level_24 : decode cX10_level 24 = .ok (.invokestatic 111, 3) := by decide +kernel
theorem dX10_level_27 : decode cX10_level 27 = .ok (.ifCond .ne 5, 3) := by decide +kernel
theorem dX10_level_30 : decode cX10_level 30 = .ok (.iconst 0, 1) := by decide +kernel
theorem dX10_level_31 : decode cX10_level 31 = .ok (.ireturn, 1) := by decide +kernel
theorem dX10_level_32 : decode cX10_level 32 = .ok (.aload_n 0, 1) := by decide +kernel
theorem dX10_level_33 : decode cX10_level 33 = .ok (.getfield 96, 3) := by decide +kernel
theorem dX10_level_36 : decode cX10_level 36 = .ok (.iload_n 1, 1) := by decide +kernel
theorem dX10_level_37 : decode cX10_level 37 = .ok (.iload_n 2, 1) := by decide +kernel
theorem dX10_level_38 : decode cX10_level 38 = .ok (.iastore, 1) := by decide +kernel
theorem dX10_level_39 : decode cX10_level 39 = .ok (.aload_n 0, 1) := by decide +kernel
theorem dX10_level_40 : decode cX10_level 40 = .ok (.getfield 99, 3) := by decide +kernel
theorem dX10_level_43 : decode cX10_level 43 = .ok (.iload_n 1, 1) := by decide +kernel
theorem dX10_level_44 : decode cX10_level 44 = .ok (.iload_n 3, 1) := by decide +kernel
theorem dX10_level_45 : decode cX10_level 45 = .ok (.iastore, 1) := by decide +kernel
theorem dX10_level_46 : decode cX10_level 46 = .ok (.iconst 1, 1) := by decide +kernel
theorem dX10_level_47 : decode cX10_level 47 = .ok (.ireturn, 1) := by decide +kernel
theorem dX10_tries_0 : decode cX10_tries 0 = .ok (.iload_n 2, 1) := by decide +kernel
theorem dX10_tries_1 : decode cX10_tries 1 = .ok (.istore_n 3, 1) := by decide +kernel
theorem dX10_tries_2 : decode cX10_tries 2 = .ok (.iconst 0, 1) := by decide +kernel
theorem dX10_tries_3 : decode cX10_tries 3 = .ok (.istore 4, 2) := by decide +kernel
theorem dX10_tries_5 : decode cX10_tries 5 = .ok (.iconst 0, 1) := by decide +kernel
theorem dX10_tries_6 : decode cX10_tries 6 = .ok (.istore 5, 2) := by decide +kernel
theorem dX10_tries_8 : decode cX10_tries 8 = .ok (.iload 5, 2) := by decide +kernel
theorem dX10_tries_10 : decode cX10_tries 10 = .ok (.iload_n 1, 1) := by decide +kernel
theorem dX10_tries_11 : decode cX10_tries 11 = .ok (.if_icmp .ge 68, 3) := by decide +kernel
theorem dX10_tries_14 : decode cX10_tries 14 = .ok (.aload_n 0, 1) := by decide +kernel
theorem dX10_tries_15 : decode cX10_tries 15 = .ok (.getfield 99, 3) := by decide +kernel
theorem dX10_tries_18 : decode cX10_tries 18 = .ok (.aload_n 0, 1) := by decide +kernel
theorem dX10_tries_19 : decode cX10_tries 19 = .ok (.getfield 102, 3) := by decide +kernel
theorem dX10_tries_22 : decode cX10_tries 22 = .ok (.iload 5, 2) := by decide +kernel
theorem dX10_tries_24 : decode cX10_tries 24 = .ok (.iaload, 1) := by decide +kernel
theorem dX10_tries_25 : decode cX10_tries 25 = .ok (.iaload, 1) := by decide +kernel
theorem dX10_tries_26 : decode cX10_tries 26 = .ok (.iload_n 3, 1) := by decide +kernel
theorem dX10_tries_27 : decode cX10_tries 27 = .ok (.if_icmp .ge 18, 3) := by decide +kernel
theorem dX10_tries_30 : decode cX10_tries 30 = .ok (.aload_n 0, 1) := by decide +kernel
theorem dX10_tries_31 : decode cX10_tries 31 = .ok (.getfield 99, 3) := by decide +kernel
theorem dX10_tries_34 : decode cX10_tries 34 = .ok (.aload_n 0, 1) := by decide +kernel
theorem dX10_tries_35 : decode cX10_tries 35 = .ok (.getfield 102, 3) := by decide +kernel
theorem dX10_tries_38 : decode cX10_tries 38 = .ok (.iload 5, 2) := by decide +kernel
theorem dX10_tries_40 : decode cX10_tries 40 = .ok (.iaload, 1) := by decide +kernel
theorem dX10_tries_41 : decode cX10_tries 41 = .ok (.iaload, 1) := by decide +kernel
theorem dX10_tries_42 : decode cX10_tries 42 = .ok (.goto 4, 3) := by decide +kernel
theorem dX10_tries_45 : decode cX10_tries 45 = .ok (.iload_n 3, 1) := by decide +kernel
theorem dX10_tries_46 : decode cX10_tries 46 = .ok (.istore 6, 2) := by decide +kernel
theorem dX10_tries_48 : decode cX10_tries 48 = .ok (.iload_n 3, 1) := by decide +kernel
theorem dX10_tries_49 : decode cX10_tries 49 = .ok (.iload 6, 2) := by decide +kernel
theorem dX10_tries_51 : decode cX10_tries 51 = .ok (.isub, 1) := by decide +kernel
theorem dX10_tries_52 : decode cX10_tries 52 = .ok (.istore_n 3, 1) := by decide +kernel
theorem dX10_tries_53 : decode cX10_tries 53 = .ok (.iload 4, 2) := by decide +kernel
theorem dX10_tries_55 : decode cX10_tries 55 = .ok (.iload 6, 2) := by decide +kernel
theorem dX10_tries_57 : decode cX10_tries 57 = .ok (.aload_n 0, 1) := by decide +kernel
theorem dX10_tries_58 : decode cX10_tries 58 = .ok (.getfield 96, 3) := by decide +kernel
theorem dX10_tries_61 : decode cX10_tries 61 = .ok (.aload_n 0, 1) := by decide +kernel
theorem dX10_tries_62 : decode cX10_tries 62 = .ok (.getfield 102, 3) := by decide +kernel
theorem dX10_tries_65 : decode cX10_tries 65 = .ok (.iload 5, 2) := by decide +kernel
theorem dX10_tries_67 : decode cX10_tries 67 = .ok (.iaload, 1) := by decide +kernel
theorem dX10_tries_68 : decode cX10_tries 68 = .ok (.iaload, 1) := by decide +kernel
theorem dX10_tries_69 : decode cX10_tries 69 = .ok (.imul, 1) := by decide +kernel
theorem dX10_tries_70 : decode cX10_tries 70 = .ok (.iadd, 1) := by decide +kernel
theorem dX10_tries_71 : decode cX10_tries 71 = .ok (.istore 4, 2) := by decide +kernel
theorem dX10_tries_73 : decode cX10_tries 73 = .ok (.iinc 5 1, 3) := by decide +kernel
theorem dX10_tries_76 : decode cX10_tries 76 = .ok (.goto (-68), 3) := by decide +kernel
theorem dX10_tries_79 : decode cX10_tries 79 = .ok (.iload 4, 2) := by decide +kernel
theorem dX10_tries_81 : decode cX10_tries 81 = .ok (.aload_n 0, 1) := by decide +kernel
theorem dX10_tries_82 : decode cX10_tries 82 = .ok (.getfield 277, 3) := by decide +kernel
theorem dX10_tries_85 : decode cX10_tries 85 = .ok (.if_icmp .gt 4, 3) := by decide +kernel
theorem dX10_tries_88 : decode cX10_tries 88 = .ok (.return_, 1) := by decide +kernel
theorem dX10_tries_89 : decode cX10_tries 89 = .ok (.aload_n 0, 1) := by decide +kernel
theorem dX10_tries_90 : decode cX10_tries 90 = .ok (.iload 4, 2) := by decide +kernel
theorem dX10_tries_92 : decode cX10_tries 92 = .ok (.putfield 277, 3) := by decide +kernel
theorem dX10_tries_95 : decode cX10_tries 95 = .ok (.aload_n 0, 1) := by decide +kernel
theorem dX10_tries_96 : decode cX10_tries 96 = .ok (.iload_n 3, 1) := by decide +kernel
theorem dX10_tries_97 : decode cX10_tries 97 = .ok (.putfield 280, 3) := by decide +kernel
theorem dX10_tries_100 : decode cX10_tries 100 = .ok (.iconst 0, 1) := by decide +kernel
theorem dX10_tries_101 : decode cX10_tries 101 = .ok (.istore 5, 2) := by decide +kernel
theorem dX10_tries_103 : decode cX10_tries 103 = .ok (.iload 5, 2) := by decide +kernel
theorem dX10_tries_105 : decode cX10_tries 105 = .ok (.iload_n 1, 1) := by decide +kernel
theorem dX10_tries_106 : decode cX10_tries 106 = .ok (.if_icmp .ge 23, 3) := by decide +kernel
theorem dX10_tries_109 : decode cX10_tries 109 = .ok (.aload_n 0, 1) := by decide +kernel
theorem dX10_tries_110 : decode cX10_tries 110 = .ok (.getfield 105, 3) := by decide +kernel
theorem dX10_tries_113 : decode cX10_tries 113 = .ok (.iload 5, 2) := by decide +kernel
theorem dX10_tries_115 : decode cX10_tries 115 = .ok (.aload_n 0, 1) := by decide +kernel
theorem dX10_tries_116 : decode cX10_tries 116 = .ok (.getfield 102, 3) := by decide +kernel
theorem dX10_tries_119 : decode cX10_tries 119 = .ok (.iload 5, 2) := by decide +kernel
theorem dX10_tries_121 : decode cX10_tries 121 = .ok (.iaload, 1) := by decide +kernel
theorem dX10_tries_122 : decode cX10_tries 122 = .ok (.iastore, 1) := by decide +kernel
theorem dX10_tries_123 : decode cX10_tries 123 = .ok (.iinc 5 1, 3) := by decide +kernel
theorem dX10_tries_126 : decode cX10_tries 126 = .ok (.goto (-23), 3) := by decide +kernel
theorem dX10_tries_129 : decode cX10_tries 129 = .ok (.return_, 1) := by decide +kernel
theorem dX10_nextRow_0 : decode cX10_nextRow 0 = .ok (.iload_n 1, 1) := by decide +kernel
theorem dX10_nextRow_1 : decode cX10_nextRow 1 = .ok (.iconst 1, 1) := by decide +kernel
theorem dX10_nextRow_2 : decode cX10_nextRow 2 = .ok (.isub, 1) := by decide +kernel
theorem dX10_nextRow_3 : decode cX10_nextRow 3 = .ok (.istore_n 2, 1) := by decide +kernel
theorem dX10_nextRow_4 : decode cX10_nextRow 4 = .ok (.iload_n 2, 1) := by decide +kernel
theorem dX10_nextRow_5 : decode cX10_nextRow 5 = .ok (.ifCond .lt 19, 3) := by decide +kernel
theorem dX10_nextRow_8 : decode cX10_nextRow 8 = .ok (.aload_n 0, 1) := by decide +kernel
theorem dX10_nextRow_9 : decode cX10_nextRow 9 = .ok (.getfield 102, 3) := by decide +kernel
theorem dX10_nextRow_12 : decode cX10_nextRow 12 = .ok (.iload_n 2, 1) := by decide +kernel
theorem dX10_nextRow_13 : decode cX10_nextRow 13 = .ok (.iaload, 1) := by decide +kernel
theorem dX10_nextRow_14 : decode cX10_nextRow 14 = .ok (.iconst 3, 1) := by decide +kernel
theorem dX10_nextRow_15 : decode cX10_nextRow 15 = .ok (.if_icmp .ne 9, 3) := by decide +kernel
theorem dX10_nextRow_18 : decode cX10_nextRow 18 = .ok (.iinc 2 (-1), 3) := by decide +kernel
theorem dX10_nextRow_21 : decode cX10_nextRow 21 = .ok (.goto (-17), 3) := by decide +kernel
theorem dX10_nextRow_24 : decode cX10_nextRow 24 = .ok (.iload_n 2, 1) := by decide +kernel
theorem dX10_nextRow_25 : decode cX10_nextRow 25 = .ok (.ifCond .ge 5, 3) := by decide +kernel
theorem dX10_nextRow_28 : decode cX10_nextRow 28 = .ok (.iconst 0, 1) := by decide +kernel
theorem dX10_nextRow_29 : decode cX10_nextRow 29 = .ok (.ireturn, 1) := by decide +kernel
theorem dX10_nextRow_30 : decode cX10_nextRow 30 = .ok (.aload_n 0, 1) := by decide +kernel
theorem dX10_nextRow_31 : decode cX10_nextRow 31 = .ok (.getfield 102, 3) := by decide +kernel
theorem dX10_nextRow_34 : decode cX10_nextRow 34 = .ok (.iload_n 2, 1) := by decide +kernel
theorem dX10_nextRow_35 : decode cX10_nextRow 35 = .ok (.iaload, 1) := by decide +kernel
theorem dX10_nextRow_36 : decode cX10_nextRow 36 = .ok (.iconst 1, 1) := by decide +kernel
theorem dX10_nextRow_37 : decode cX10_nextRow 37 = .ok (.iadd, 1) := by decide +kernel
theorem dX10_nextRow_38 : decode cX10_nextRow 38 = .ok (.istore_n 3, 1) := by decide +kernel
theorem dX10_nextRow_39 : decode cX10_nextRow 39 = .ok (.iload_n 2, 1) := by decide +kernel
theorem dX10_nextRow_40 : decode cX10_nextRow 40 = .ok (.istore 4, 2) := by decide +kernel
theorem dX10_nextRow_42 : decode cX10_nextRow 42 = .ok (.iload 4, 2) := by decide +kernel
theorem dX10_nextRow_44 : decode cX10_nextRow 44 = .ok (.iload_n 1, 1) := by decide +kernel
theorem dX10_nextRow_45 : decode cX10_nextRow 45 = .ok (.if_icmp .ge 17, 3) := by decide +kernel
theorem dX10_nextRow_48 : decode cX10_nextRow 48 = .ok (.aload_n 0, 1) := by decide +kernel
theorem dX10_nextRow_49 : decode cX10_nextRow 49 = .ok (.getfield 102, 3) := by decide +kernel
theorem dX10_nextRow_52 : decode cX10_nextRow 52 = .ok (.iload 4, 2) := by decide +kernel
theorem dX10_nextRow_54 : decode cX10_nextRow 54 = .ok (.iload_n 3, 1) := by decide +kernel
theorem dX10_nextRow_55 : decode cX10_nextRow 55 = .ok (.iastore, 1) := by decide +kernel
theorem dX10_nextRow_56 : decode cX10_nextRow 56 = .ok (.iinc 4 1, 3) := by decide +kernel
theorem dX10_nextRow_59 : decode cX10_nextRow 59 = .ok (.goto (-17), 3) := by decide +kernel
theorem dX10_nextRow_62 : decode cX10_nextRow 62 = .ok (.iconst 1, 1) := by decide +kernel
theorem dX10_nextRow_63 : decode cX10_nextRow 63 = .ok (.ireturn, 1) := by decide +kernel
theorem dX10_best_0 : decode cX10_best 0 = .ok (.iload_n 1, 1) := by decide +kernel
theorem dX10_best_1 : decode cX10_best 1 = .ok (.iconst 0, 1) := by decide +kernel
theorem dX10_best_2 : decode cX10_best 2 = .ok (.sipush 200, 3) := by decide +kernel
theorem dX10_best_5 : decode cX10_best 5 = .ok (.invokestatic 111, 3) := by decide +kernel
theorem dX10_best_8 : decode cX10_best 8 = .ok (.ifCond .eq 22, 3) := by decide +kernel
theorem dX10_best_11 : decode cX10_best 11 = .ok (.iload_n 2, 1) := by decide +kernel
theorem dX10_best_12 : decode cX10_best 12 = .ok (.iconst 0, 1) := by decide +kernel
theorem dX10_best_13 : decode cX10_best 13 = .ok (.bipush 8, 2) := by decide +kernel
theorem dX10_best_15 : decode cX10_best 15 = .ok (.invokestatic 111, 3) := by decide +kernel
theorem dX10_best_18 : decode cX10_best 18 = .ok (.ifCond .eq 12, 3) := by decide +kernel
theorem dX10_best_21 : decode cX10_best 21 = .ok (.iload_n 3, 1) := by decide +kernel
theorem dX10_best_22 : decode cX10_best 22 = .ok (.iconst 0, 1) := by decide +kernel
theorem dX10_best_23 : decode cX10_best 23 = .ok (.iconst 3, 1) := by decide +kernel
theorem dX10_best_24 : decode cX10_best 24 = .ok (.invokestatic 111, 3) := by decide +kernel
theorem dX10_best_27 : decode cX10_best 27 = .ok (.ifCond .ne 5, 3) := by decide +kernel
theorem dX10_best_30 : decode cX10_best 30 = .ok (.iconst (-1), 1) := by decide +kernel
theorem dX10_best_31 : decode cX10_best 31 = .ok (.ireturn, 1) := by decide +kernel
theorem dX10_best_32 : decode cX10_best 32 = .ok (.aload_n 0, 1) := by decide +kernel
theorem dX10_best_33 : decode cX10_best 33 = .ok (.iconst (-1), 1) := by decide +kernel
theorem dX10_best_34 : decode cX10_best 34 = .ok (.putfield 277, 3) := by decide +kernel
theorem dX10_best_37 : decode cX10_best 37 = .ok (.iconst 0, 1) := by decide +kernel
theorem dX10_best_38 : decode cX10_best 38 = .ok (.istore 5, 2) := by decide +kernel
theorem dX10_best_40 : decode cX10_best 40 = .ok (.iload 5, 2) := by decide +kernel
theorem dX10_best_42 : decode cX10_best 42 = .ok (.iload_n 2, 1) := by decide +kernel
theorem dX10_best_43 : decode cX10_best 43 = .ok (.if_icmp .ge 17, 3) := by decide +kernel
theorem dX10_best_46 : decode cX10_best 46 = .ok (.aload_n 0, 1) := by decide +kernel
theorem dX10_best_47 : decode cX10_best 47 = .ok (.getfield 102, 3) := by decide +kernel
theorem dX10_best_50 : decode cX10_best 50 = .ok (.iload 5, 2) := by decide +kernel
theorem dX10_best_52 : decode cX10_best 52 = .ok (.iload_n 3, 1) := by decide +kernel
theorem dX10_best_53 : decode cX10_best 53 = .ok (.iastore, 1) := by decide +kernel
theorem dX10_best_54 : decode cX10_best 54 = .ok (.iinc 5 1, 3) := by decide +kernel
theorem dX10_best_57 : decode cX10_best 57 = .ok (.goto (-17), 3) := by decide +kernel
theorem dX10_best_60 : decode cX10_best 60 = .ok (.iconst 1, 1) := by decide +kernel
theorem dX10_best_61 : decode cX10_best 61 = .ok (.istore 5, 2) := by decide +kernel
theorem dX10_best_63 : decode cX10_best 63 = .ok (.iload 5, 2) := by decide +kernel
theorem dX10_best_65 : decode cX10_best 65 = .ok (.ifCond .eq 19, 3) := by decide +kernel
theorem dX10_best_68 : decode cX10_best 68 = .ok (.aload_n 0, 1) := by decide +kernel
theorem dX10_best_69 : decode cX10_best 69 = .ok (.iload_n 2, 1) := by decide +kernel
theorem dX10_best_70 : decode cX10_best 70 = .ok (.iload_n 1, 1) := by decide +kernel
theorem dX10_best_71 : decode cX10_best 71 = .ok (.invokevirtual 283, 3) := by decide +kernel
theorem dX10_best_74 : decode cX10_best 74 = .ok (.aload_n 0, 1) := by decide +kernel
theorem dX10_best_75 : decode cX10_best 75 = .ok (.iload_n 2, 1) := by decide +kernel
theorem dX10_best_76 : decode cX10_best 76 = .ok (.invokevirtual 286, 3) := by decide +kernel
theorem dX10_best_79 : decode cX10_best 79 = .ok (.istore 5, 2) := by decide +kernel
theorem dX10_best_81 : decode cX10_best 81 = .ok (.goto (-18), 3) := by decide +kernel
theorem dX10_best_84 : decode cX10_best 84 = .ok (.iload 4, 2) := by decide +kernel
theorem dX10_best_86 : decode cX10_best 86 = .ok (.ifCond .ne 10, 3) := by decide +kernel
theorem dX10_best_89 : decode cX10_best 89 = .ok (.aload_n 0, 1) := by decide +kernel
theorem dX10_best_90 : decode cX10_best 90 = .ok (.getfield 277, 3) := by decide +kernel
theorem dX10_best_93 : decode cX10_best 93 = .ok (.goto 44, 3) := by decide +kernel
theorem dX10_best_96 : decode cX10_best 96 = .ok (.iload 4, 2) := by decide +kernel
theorem dX10_best_98 : decode cX10_best 98 = .ok (.iconst 1, 1) := by decide +kernel
theorem dX10_best_99 : decode cX10_best 99 = .ok (.if_icmp .ne 10, 3) := by decide +kernel
theorem dX10_best_102 : decode cX10_best 102 = .ok (.aload_n 0, 1) := by decide +kernel
theorem dX10_best_103 : decode cX10_best 103 = .ok (.getfield 280, 3) := by decide +kernel
theorem dX10_best_106 : decode cX10_best 106 = .ok (.goto 31, 3) := by decide +kernel
theorem dX10_best_109 : decode cX10_best 109 = .ok (.iload 4, 2) := by decide +kernel
theorem dX10_best_111 : decode cX10_best 111 = .ok (.bipush 10, 2) := by decide +kernel
theorem dX10_best_113 : decode cX10_best 113 = .ok (.bipush 9, 2) := by decide +kernel
theorem dX10_best_115 : decode cX10_best 115 = .ok (.iload_n 2, 1) := by decide +kernel
theorem dX10_best_116 : decode cX10_best 116 = .ok (.iadd, 1) := by decide +kernel
theorem dX10_best_117 : decode cX10_best 117 = .ok (.invokestatic 111, 3) := by decide +kernel
theorem dX10_best_120 : decode cX10_best 120 = .ok (.ifCond .eq 16, 3) := by decide +kernel
theorem dX10_best_123 : decode cX10_best 123 = .ok (.aload_n 0, 1) := by decide +kernel
theorem dX10_best_124 : decode cX10_best 124 = .ok (.getfield 105, 3) := by decide +kernel
theorem dX10_best_127 : decode cX10_best 127 = .ok (.iload 4, 2) := by decide +kernel
theorem dX10_best_129 : decode cX10_best 129 = .ok (.bipush 10, 2) := by decide +kernel
theorem dX10_best_131 : decode cX10_best 131 = .ok (.isub, 1) := by decide +kernel
theorem dX10_best_132 : decode cX10_best 132 = .ok (.iaload, 1) := by decide +kernel
theorem dX10_best_133 : decode cX10_best 133 = .ok (.goto 4, 3) := by decide +kernel
theorem dX10_best_136 : decode cX10_best 136 = .ok (.iconst (-1), 1) := by decide +kernel
theorem dX10_best_137 : decode cX10_best 137 = .ok (.ireturn, 1) := by decide +kernel
theorem dX10_init_0 : decode cX10_init 0 = .ok (.aload_n 0, 1) := by decide +kernel
theorem dX10_init_1 : decode cX10_init 1 = .ok (.invokespecial 1, 3) := by decide +kernel
theorem dX10_init_4 : decode cX10_init 4 = .ok (.aload_n 0, 1) := by decide +kernel
theorem dX10_init_5 : decode cX10_init 5 = .ok (.sipush 4368, 3) := by decide +kernel
theorem dX10_init_8 : decode cX10_init 8 = .ok (.newarray .int, 2) := by decide +kernel
theorem dX10_init_10 : decode cX10_init 10 = .ok (.putfield 7, 3) := by decide +kernel
theorem dX10_init_13 : decode cX10_init 13 = .ok (.aload_n 0, 1) := by decide +kernel
theorem dX10_init_14 : decode cX10_init 14 = .ok (.bipush 12, 2) := by decide +kernel
theorem dX10_init_16 : decode cX10_init 16 = .ok (.newarray .int, 2) := by decide +kernel
theorem dX10_init_18 : decode cX10_init 18 = .ok (.putfield 13, 3) := by decide +kernel
theorem dX10_init_21 : decode cX10_init 21 = .ok (.aload_n 0, 1) := by decide +kernel
theorem dX10_init_22 : decode cX10_init 22 = .ok (.bipush 12, 2) := by decide +kernel
theorem dX10_init_24 : decode cX10_init 24 = .ok (.newarray .int, 2) := by decide +kernel
theorem dX10_init_26 : decode cX10_init 26 = .ok (.putfield 16, 3) := by decide +kernel
theorem dX10_init_29 : decode cX10_init 29 = .ok (.aload_n 0, 1) := by decide +kernel
theorem dX10_init_30 : decode cX10_init 30 = .ok (.bipush 12, 2) := by decide +kernel
theorem dX10_init_32 : decode cX10_init 32 = .ok (.newarray .int, 2) := by decide +kernel
theorem dX10_init_34 : decode cX10_init 34 = .ok (.putfield 19, 3) := by decide +kernel
theorem dX10_init_37 : decode cX10_init 37 = .ok (.aload_n 0, 1) := by decide +kernel
theorem dX10_init_38 : decode cX10_init 38 = .ok (.bipush 12, 2) := by decide +kernel
theorem dX10_init_40 : decode cX10_init 40 = .ok (.newarray .int, 2) := by decide +kernel
theorem dX10_init_42 : decode cX10_init 42 = .ok (.putfield 22, 3) := by decide +kernel
theorem dX10_init_45 : decode cX10_init 45 = .ok (.aload_n 0, 1) := by decide +kernel
theorem dX10_init_46 : decode cX10_init 46 = .ok (.bipush 120, 2) := by decide +kernel
theorem dX10_init_48 : decode cX10_init 48 = .ok (.newarray .int, 2) := by decide +kernel
theorem dX10_init_50 : decode cX10_init 50 = .ok (.putfield 25, 3) := by decide +kernel
theorem dX10_init_53 : decode cX10_init 53 = .ok (.aload_n 0, 1) := by decide +kernel
theorem dX10_init_54 : decode cX10_init 54 = .ok (.bipush 120, 2) := by decide +kernel
theorem dX10_init_56 : decode cX10_init 56 = .ok (.newarray .int, 2) := by decide +kernel
theorem dX10_init_58 : decode cX10_init 58 = .ok (.putfield 28, 3) := by decide +kernel
theorem dX10_init_61 : decode cX10_init 61 = .ok (.aload_n 0, 1) := by decide +kernel
theorem dX10_init_62 : decode cX10_init 62 = .ok (.bipush 120, 2) := by decide +kernel
theorem dX10_init_64 : decode cX10_init 64 = .ok (.newarray .int, 2) := by decide +kernel
theorem dX10_init_66 : decode cX10_init 66 = .ok (.putfield 31, 3) := by decide +kernel
theorem dX10_init_69 : decode cX10_init 69 = .ok (.aload_n 0, 1) := by decide +kernel
theorem dX10_init_70 : decode cX10_init 70 = .ok (.bipush 120, 2) := by decide +kernel
theorem dX10_init_72 : decode cX10_init 72 = .ok (.newarray .int, 2) := by decide +kernel
theorem dX10_init_74 : decode cX10_init 74 = .ok (.putfield 34, 3) := by decide +kernel
theorem dX10_init_77 : decode cX10_init 77 = .ok (.aload_n 0, 1) := by decide +kernel
theorem dX10_init_78 : decode cX10_init 78 = .ok (.bipush 120, 2) := by decide +kernel
theorem dX10_init_80 : decode cX10_init 80 = .ok (.newarray .int, 2) := by decide +kernel
theorem dX10_init_82 : decode cX10_init 82 = .ok (.putfield 37, 3) := by decide +kernel
theorem dX10_init_85 : decode cX10_init 85 = .ok (.aload_n 0, 1) := by decide +kernel
theorem dX10_init_86 : decode cX10_init 86 = .ok (.bipush 120, 2) := by decide +kernel
theorem dX10_init_88 : decode cX10_init 88 = .ok (.newarray .int, 2) := by decide +kernel
theorem dX10_init_90 : decode cX10_init 90 = .ok (.putfield 40, 3) := by decide +kernel
theorem dX10_init_93 : decode cX10_init 93 = .ok (.aload_n 0, 1) := by decide +kernel
theorem dX10_init_94 : decode cX10_init 94 = .ok (.bipush 120, 2) := by decide +kernel
theorem dX10_init_96 : decode cX10_init 96 = .ok (.newarray .int, 2) := by decide +kernel
theorem dX10_init_98 : decode cX10_init 98 = .ok (.putfield 43, 3) := by decide +kernel
theorem dX10_init_101 : decode cX10_init 101 = .ok (.aload_n 0, 1) := by decide +kernel
theorem dX10_init_102 : decode cX10_init 102 = .ok (.bipush 120, 2) := by decide +kernel
theorem dX10_init_104 : decode cX10_init 104 = .ok (.newarray .int, 2) := by decide +kernel
theorem dX10_init_106 : decode cX10_init 106 = .ok (.putfield 46, 3) := by decide +kernel
theorem dX10_init_109 : decode cX10_init 109 = .ok (.aload_n 0, 1) := by decide +kernel
theorem dX10_init_110 : decode cX10_init 110 = .ok (.bipush 120, 2) := by decide +kernel
theorem dX10_init_112 : decode cX10_init 112 = .ok (.newarray .int, 2) := by decide +kernel
theorem dX10_init_114 : decode cX10_init 114 = .ok (.putfield 49, 3) := by decide +kernel
theorem dX10_init_117 : decode cX10_init 117 = .ok (.aload_n 0, 1) := by decide +kernel
theorem dX10_init_118 : decode cX10_init 118 = .ok (.bipush 120, 2) := by decide +kernel
theorem dX10_init_120 : decode cX10_init 120 = .ok (.newarray .int, 2) := by decide +kernel
theorem dX10_init_122 : decode cX10_init 122 = .ok (.putfield 52, 3) := by decide +kernel
theorem dX10_init_125 : decode cX10_init 125 = .ok (.aload_n 0, 1) := by decide +kernel
theorem dX10_init_126 : decode cX10_init 126 = .ok (.bipush 120, 2) := by decide +kernel
theorem dX10_init_128 : decode cX10_init 128 = .ok (.newarray .int, 2) := by decide +kernel
theorem dX10_init_130 : decode cX10_init 130 = .ok (.putfield 55, 3) := by decide +kernel
theorem dX10_init_133 : decode cX10_init 133 = .ok (.aload_n 0, 1) := by decide +kernel
theorem dX10_init_134 : decode cX10_init 134 = .ok (.bipush 120, 2) := by decide +kernel
theorem dX10_init_136 : decode cX10_init 136 = .ok (.newarray .int, 2) := by decide +kernel
theorem dX10_init_138 : decode cX10_init 138 = .ok (.putfield 58, 3) := by decide +kernel
theorem dX10_init_141 : decode cX10_init 141 = .ok (.aload_n 0, 1) := by decide +kernel
theorem dX10_init_142 : decode cX10_init 142 = .ok (.bipush 20, 2) := by decide +kernel
theorem dX10_init_144 : decode cX10_init 144 = .ok (.newarray .int, 2) := by decide +kernel
theorem dX10_init_146 : decode cX10_init 146 = .ok (.putfield 61, 3) := by decide +kernel
theorem dX10_init_149 : decode cX10_init 149 = .ok (.aload_n 0, 1) := by decide +kernel
theorem dX10_init_150 : decode cX10_init 150 = .ok (.bipush 20, 2) := by decide +kernel
theorem dX10_init_152 : decode cX10_init 152 = .ok (.newarray .boolean, 2) := by decide +kernel
theorem dX10_init_154 : decode cX10_init 154 = .ok (.putfield 64, 3) := by decide +kernel
theorem dX10_init_157 : decode cX10_init 157 = .ok (.aload_n 0, 1) := by decide +kernel
theorem dX10_init_158 : decode cX10_init 158 = .ok (.bipush 9, 2) := by decide +kernel
theorem dX10_init_160 : decode cX10_init 160 = .ok (.newarray .int, 2) := by decide +kernel
theorem dX10_init_162 : decode cX10_init 162 = .ok (.putfield 68, 3) := by decide +kernel
theorem dX10_init_165 : decode cX10_init 165 = .ok (.aload_n 0, 1) := by decide +kernel
theorem dX10_init_166 : decode cX10_init 166 = .ok (.bipush 8, 2) := by decide +kernel
theorem dX10_init_168 : decode cX10_init 168 = .ok (.newarray .int, 2) := by decide +kernel
theorem dX10_init_170 : decode cX10_init 170 = .ok (.putfield 71, 3) := by decide +kernel
theorem dX10_init_173 : decode cX10_init 173 = .ok (.aload_n 0, 1) := by decide +kernel
theorem dX10_init_174 : decode cX10_init 174 = .ok (.sipush 500, 3) := by decide +kernel
theorem dX10_init_177 : decode cX10_init 177 = .ok (.newarray .int, 2) := by decide +kernel
theorem dX10_init_179 : decode cX10_init 179 = .ok (.putfield 74, 3) := by decide +kernel
theorem dX10_init_182 : decode cX10_init 182 = .ok (.aload_n 0, 1) := by decide +kernel
theorem dX10_init_183 : decode cX10_init 183 = .ok (.bipush 9, 2) := by decide +kernel
theorem dX10_init_185 : decode cX10_init 185 = .ok (.newarray .int, 2) := by decide +kernel
theorem dX10_init_187 : decode cX10_init 187 = .ok (.putfield 77, 3) := by decide +kernel
theorem dX10_init_190 : decode cX10_init 190 = .ok (.aload_n 0, 1) := by decide +kernel
theorem dX10_init_191 : decode cX10_init 191 = .ok (.bipush 8, 2) := by decide +kernel
theorem dX10_init_193 : decode cX10_init 193 = .ok (.newarray .int, 2) := by decide +kernel
theorem dX10_init_195 : decode cX10_init 195 = .ok (.putfield 80, 3) := by decide +kernel
theorem dX10_init_198 : decode cX10_init 198 = .ok (.aload_n 0, 1) := by decide +kernel
theorem dX10_init_199 : decode cX10_init 199 = .ok (.sipush 500, 3) := by decide +kernel
theorem dX10_init_202 : decode cX10_init 202 = .ok (.newarray .int, 2) := by decide +kernel
theorem dX10_init_204 : decode cX10_init 204 = .ok (.putfield 83, 3) := by decide +kernel
theorem dX10_init_207 : decode cX10_init 207 = .ok (.aload_n 0, 1) := by decide +kernel
theorem dX10_init_208 : decode cX10_init 208 = .ok (.sipush 500, 3) := by decide +kernel
theorem dX10_init_211 : decode cX10_init 211 = .ok (.newarray .int, 2) := by decide +kernel
theorem dX10_init_213 : decode cX10_init 213 = .ok (.putfield 86, 3) := by decide +kernel
theorem dX10_init_216 : decode cX10_init 216 = .ok (.aload_n 0, 1) := by decide +kernel
theorem dX10_init_217 : decode cX10_init 217 = .ok (.sipush 400, 3) := by decide +kernel
theorem dX10_init_220 : decode cX10_init 220 = .ok (.newarray .int, 2) := by decide +kernel
theorem dX10_init_222 : decode cX10_init 222 = .ok (.putfield 89, 3) := by decide +kernel
theorem dX10_init_225 : decode cX10_init 225 = .ok (.aload_n 0, 1) := by decide +kernel
theorem dX10_init_226 : decode cX10_init 226 = .ok (.iconst (-1), 1) := by decide +kernel
theorem dX10_init_227 : decode cX10_init 227 = .ok (.putfield 92, 3) := by decide +kernel
theorem dX10_init_230 : decode cX10_init 230 = .ok (.aload_n 0, 1) := by decide +kernel
theorem dX10_init_231 : decode cX10_init 231 = .ok (.iconst 4, 1) := by decide +kernel
theorem dX10_init_232 : decode cX10_init 232 = .ok (.newarray .int, 2) := by decide +kernel
theorem dX10_init_234 : decode cX10_init 234 = .ok (.putfield 96, 3) := by decide +kernel
theorem dX10_init_237 : decode cX10_init 237 = .ok (.aload_n 0, 1) := by decide +kernel
theorem dX10_init_238 : decode cX10_init 238 = .ok (.iconst 4, 1) := by decide +kernel
theorem dX10_init_239 : decode cX10_init 239 = .ok (.newarray .int, 2) := by decide +kernel
theorem dX10_init_241 : decode cX10_init 241 = .ok (.putfield 99, 3) := by decide +kernel
theorem dX10_init_244 : decode cX10_init 244 = .ok (.aload_n 0, 1) := by decide +kernel
theorem dX10_init_245 : decode cX10_init 245 = .ok (.bipush 8, 2) := by decide +kernel
theorem dX10_init_247 : decode cX10_init 247 = .ok (.newarray .int, 2) := by decide +kernel
theorem dX10_init_249 : decode cX10_init 249 = .ok (.putfield 102, 3) := by decide +kernel
theorem dX10_init_252 : decode cX10_init 252 = .ok (.aload_n 0, 1) := by decide +kernel
theorem dX10_init_253 : decode cX10_init 253 = .ok (.bipush 8, 2) := by decide +kernel
theorem dX10_init_255 : decode cX10_init 255 = .ok (.newarray .int, 2) := by decide +kernel
theorem dX10_init_257 : decode cX10_init 257 = .ok (.putfield 105, 3) := by decide +kernel
theorem dX10_init_260 : decode cX10_init 260 = .ok (.return_, 1) := by decide +kernel

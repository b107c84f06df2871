-- X10_thing cuts []
set_option maxRecDepth 20000 in
set_option maxHeartbeats 2000000 in
theorem wX10_thing {d bc bs : Nat} {h : HS} {P : Option AV → HS → Prop} {l1 : Int32} {l2 : Int32} (k : ((¬ (inR l1 1 9999)) → (P (some (aI (-1))) h)) ∧ (((inR l1 1 9999)) → (((¬ (inR l2 0 999)) → (P (some (aI (-1))) h)) ∧ (((inR l2 0 999)) → (((¬ (gI h 26 0 1) = 12) → (vp_in ((364 * (gI h 26 0 1)) + (gI h 26 0 0)) 4368 ∧ (vp_in (gI h 26 0 1) 12 ∧ (vp_in (gI h 26 0 1) 12 ∧ (P (some (aI (gI h 26 0 1))) (sI (sI (sI (sI h 26 0 1 ((gI h 26 0 1) + 1)) 27 0 ((364 * (gI h 26 0 1)) + (gI h 26 0 0)).toNatClampNeg l1) 28 0 (gI h 26 0 1).toNatClampNeg l2) 31 0 (gI h 26 0 1).toNatClampNeg (gI h 26 0 0))))))) ∧ (((gI h 26 0 1) = 12) → (P (some (aI (-1))) h))))))) : Cl true mX10_thing (d + 3) bc bs [aR 26 0, aI l1, aI l2] h P := by
  refine Cl_of (by decide) (Nat.le_of_ble_eq_true rfl) ?_
  show V true mX10_thing (d + 3) bc bs 0 [(0, aR 26 0), (1, aI l1), (2, aI l2)] [] h P
  refine V_iload_n 1 dX10_thing_0 rfl rfl ?_
  refine V_callS (mc := 0) (ms := 0) (as := [aI l1]) (st := []) dX10_thing_1 okX10_isTag stX10_isTag lkX10_115 rfl (Nat.le_of_ble_eq_true rfl) (Nat.zero_le _) (Nat.zero_le _) (cX10_isTag_ ?_)
  show V true mX10_thing (d + 3) bc bs 4 [(0, aR 26 0), (1, aI l1), (2, aI l2)] [aI (bI (inR l1 1 9999))] h P
  refine V_if_eq 27 dX10_thing_4 (by decide) ⟨fun z => ?_, fun z => ?_⟩
  · replace k := k.1 (bI_0 z)
    refine V_iconst (-1) dX10_thing_27 (by decide) ?_
    exact V_ireturn dX10_thing_28 rfl k
  · replace k := k.2 (bI_1 z)
    refine V_iload_n 2 dX10_thing_7 rfl rfl ?_
    refine V_iconst 0 dX10_thing_8 (by decide) ?_
    refine V_sipush 999 dX10_thing_9 (by decide) ?_
    refine V_callS (mc := 0) (ms := 0) (as := [aI l2, aI 0, aI 999]) (st := []) dX10_thing_12 okX10_isIn stX10_isIn lkX10_111 rfl (Nat.le_of_ble_eq_true rfl) (Nat.zero_le _) (Nat.zero_le _) (cX10_isIn_ ?_)
    show V true mX10_thing (d + 3) bc bs 15 [(0, aR 26 0), (1, aI l1), (2, aI l2)] [aI (bI (inR l2 0 999))] h P
    refine V_if_eq 27 dX10_thing_15 (by decide) ⟨fun z => ?_, fun z => ?_⟩
    · replace k := k.1 (bI_0 z)
      refine V_iconst (-1) dX10_thing_27 (by decide) ?_
      exact V_ireturn dX10_thing_28 rfl k
    · replace k := k.2 (bI_1 z)
      refine V_aload_n 0 dX10_thing_18 rfl rfl ?_
      refine GI_26_1 dX10_thing_19 lkX10_108 ?_
      refine V_bipush 12 dX10_thing_22 (by decide) ?_
      refine V_icmp_ne 29 dX10_thing_24 (by decide) ⟨fun z => ?_, fun z => ?_⟩
      · replace k := k.1 z
        refine V_aload_n 0 dX10_thing_29 rfl rfl ?_
        refine GI_26_1 dX10_thing_30 lkX10_108 ?_
        refine V_istore_n 3 dX10_thing_33 rfl (by decide) rfl ?_
        refine V_aload_n 0 dX10_thing_34 rfl rfl ?_
        refine V_dup dX10_thing_35 rfl ?_
        refine GI_26_1 dX10_thing_36 lkX10_108 ?_
        refine V_iconst 1 dX10_thing_39 (by decide) ?_
        refine V_iadd dX10_thing_40 ?_
        refine PI_26_1 dX10_thing_41 lkX10_108 ?_
        refine V_aload_n 0 dX10_thing_44 rfl rfl ?_
        refine GS_26_3 dX10_thing_45 lkX10_7 ?_
        refine V_sipush 364 dX10_thing_48 (by decide) ?_
        refine V_iload_n 3 dX10_thing_51 rfl rfl ?_
        refine V_imul dX10_thing_52 ?_
        refine V_aload_n 0 dX10_thing_53 rfl rfl ?_
        refine GI_26_0 dX10_thing_54 lkX10_119 ?_
        refine V_re (y := gI h 26 0 0) rfl ?_
        refine V_iadd dX10_thing_57 ?_
        refine V_iload_n 1 dX10_thing_58 rfl rfl ?_
        refine V_iast (by decide) rt_27 dX10_thing_59 k.1 ?_
        replace k := k.2
        refine V_aload_n 0 dX10_thing_60 rfl rfl ?_
        refine GS_26_4 dX10_thing_61 lkX10_13 ?_
        refine V_iload_n 3 dX10_thing_64 rfl rfl ?_
        refine V_iload_n 2 dX10_thing_65 rfl rfl ?_
        refine V_iast (by decide) rt_28 dX10_thing_66 k.1 ?_
        replace k := k.2
        refine V_aload_n 0 dX10_thing_67 rfl rfl ?_
        refine GS_26_7 dX10_thing_68 lkX10_22 ?_
        refine V_iload_n 3 dX10_thing_71 rfl rfl ?_
        refine V_aload_n 0 dX10_thing_72 rfl rfl ?_
        refine GI_26_0 dX10_thing_73 lkX10_119 ?_
        refine V_re (y := gI h 26 0 0) rfl ?_
        refine V_iast (by decide) rt_31 dX10_thing_76 k.1 ?_
        replace k := k.2
        refine V_iload_n 3 dX10_thing_77 rfl rfl ?_
        exact V_ireturn dX10_thing_78 rfl k
      · replace k := k.2 z
        refine V_iconst (-1) dX10_thing_27 (by decide) ?_
        exact V_ireturn dX10_thing_28 rfl k
-- X10_tag cuts []
set_option maxRecDepth 20000 in
set_option maxHeartbeats 2000000 in
theorem wX10_tag {d bc bs : Nat} {h : HS} {P : Option AV → HS → Prop} {l1 : Int32} {l2 : Int32} (k : ((¬ (inR l1 0 (gI h 26 0 1 - 1))) → (P (some (aI (-1))) h)) ∧ (((inR l1 0 (gI h 26 0 1 - 1))) → ((((inR l2 1 9999)) → (vp_in ((364 * l1) + (gI h 26 0 0)) 4368 ∧ (vp_in ((364 * l1) + (gI h 26 0 0)) 4368 ∧ (((l2 ≤ (gI h 27 0 ((364 * l1) + (gI h 26 0 0)).toNatClampNeg)) → ((((gI h 27 0 ((364 * l1) + (gI h 26 0 0)).toNatClampNeg) ≤ l2) → (((l2 ≤ (gI h 27 0 ((364 * l1) + (gI h 26 0 0)).toNatClampNeg)) → (P (some (aI 0)) (sI h 27 0 ((364 * l1) + (gI h 26 0 0)).toNatClampNeg l2))) ∧ ((¬ l2 ≤ (gI h 27 0 ((364 * l1) + (gI h 26 0 0)).toNatClampNeg)) → (P (some (aI 2)) (sI h 27 0 ((364 * l1) + (gI h 26 0 0)).toNatClampNeg l2))))) ∧ ((¬ (gI h 27 0 ((364 * l1) + (gI h 26 0 0)).toNatClampNeg) ≤ l2) → (P (some (aI 1)) (sI h 27 0 ((364 * l1) + (gI h 26 0 0)).toNatClampNeg l2))))) ∧ ((¬ l2 ≤ (gI h 27 0 ((364 * l1) + (gI h 26 0 0)).toNatClampNeg)) → (vp_in l1 12 ∧ (vp_in l1 12 ∧ ((((gI h 27 0 ((364 * l1) + (gI h 26 0 0)).toNatClampNeg) ≤ l2) → (((l2 ≤ (gI h 27 0 ((364 * l1) + (gI h 26 0 0)).toNatClampNeg)) → (P (some (aI 0)) (sI (sI h 27 0 ((364 * l1) + (gI h 26 0 0)).toNatClampNeg l2) 29 0 l1.toNatClampNeg ((gI h 29 0 l1.toNatClampNeg) + 1)))) ∧ ((¬ l2 ≤ (gI h 27 0 ((364 * l1) + (gI h 26 0 0)).toNatClampNeg)) → (P (some (aI 2)) (sI (sI h 27 0 ((364 * l1) + (gI h 26 0 0)).toNatClampNeg l2) 29 0 l1.toNatClampNeg ((gI h 29 0 l1.toNatClampNeg) + 1)))))) ∧ ((¬ (gI h 27 0 ((364 * l1) + (gI h 26 0 0)).toNatClampNeg) ≤ l2) → (P (some (aI 1)) (sI (sI h 27 0 ((364 * l1) + (gI h 26 0 0)).toNatClampNeg l2) 29 0 l1.toNatClampNeg ((gI h 29 0 l1.toNatClampNeg) + 1)))))))))))) ∧ ((¬ (inR l2 1 9999)) → (P (some (aI (-1))) h))))) : Cl true mX10_tag (d + 3) bc bs [aR 26 0, aI l1, aI l2] h P := by
  refine Cl_of (by decide) (Nat.le_of_ble_eq_true rfl) ?_
  show V true mX10_tag (d + 3) bc bs 0 [(0, aR 26 0), (1, aI l1), (2, aI l2)] [] h P
  refine V_aload_n 0 dX10_tag_0 rfl rfl ?_
  refine V_iload_n 1 dX10_tag_1 rfl rfl ?_
  refine V_callV (mc := 0) (ms := 0) (as := [aI l1]) (st := []) (by decide) rt_26 rfl dX10_tag_2 okX10_isThing inX10_isThing seX10_isThing lkX10_122 rfl (Nat.le_of_ble_eq_true rfl) (Nat.zero_le _) (Nat.zero_le _) (cX10_isThing_ ?_)
  show V true mX10_tag (d + 3) bc bs 5 [(0, aR 26 0), (1, aI l1), (2, aI l2)] [aI (bI (inR l1 0 (gI h 26 0 1 - 1)))] h P
  refine V_if_eq 15 dX10_tag_5 (by decide) ⟨fun z => ?_, fun z => ?_⟩
  · replace k := k.1 (bI_0 z)
    refine V_iconst (-1) dX10_tag_15 (by decide) ?_
    exact V_ireturn dX10_tag_16 rfl k
  · replace k := k.2 (bI_1 z)
    refine V_iload_n 2 dX10_tag_8 rfl rfl ?_
    refine V_callS (mc := 0) (ms := 0) (as := [aI l2]) (st := []) dX10_tag_9 okX10_isTag stX10_isTag lkX10_115 rfl (Nat.le_of_ble_eq_true rfl) (Nat.zero_le _) (Nat.zero_le _) (cX10_isTag_ ?_)
    show V true mX10_tag (d + 3) bc bs 12 [(0, aR 26 0), (1, aI l1), (2, aI l2)] [aI (bI (inR l2 1 9999))] h P
    refine V_if_ne 17 dX10_tag_12 (by decide) ⟨fun z => ?_, fun z => ?_⟩
    · replace k := k.1 (bI_1 z)
      refine V_aload_n 0 dX10_tag_17 rfl rfl ?_
      refine GS_26_3 dX10_tag_18 lkX10_7 ?_
      refine V_sipush 364 dX10_tag_21 (by decide) ?_
      refine V_iload_n 1 dX10_tag_24 rfl rfl ?_
      refine V_imul dX10_tag_25 ?_
      refine V_aload_n 0 dX10_tag_26 rfl rfl ?_
      refine GI_26_0 dX10_tag_27 lkX10_119 ?_
      refine V_iadd dX10_tag_30 ?_
      refine V_iald (by decide) rt_27 dX10_tag_31 k.1 ?_
      replace k := k.2
      refine V_istore_n 3 dX10_tag_32 rfl (by decide) rfl ?_
      refine V_aload_n 0 dX10_tag_33 rfl rfl ?_
      refine GS_26_3 dX10_tag_34 lkX10_7 ?_
      refine V_sipush 364 dX10_tag_37 (by decide) ?_
      refine V_iload_n 1 dX10_tag_40 rfl rfl ?_
      refine V_imul dX10_tag_41 ?_
      refine V_aload_n 0 dX10_tag_42 rfl rfl ?_
      refine GI_26_0 dX10_tag_43 lkX10_119 ?_
      refine V_iadd dX10_tag_46 ?_
      refine V_iload_n 2 dX10_tag_47 rfl rfl ?_
      refine V_iast (by decide) rt_27 dX10_tag_48 k.1 ?_
      replace k := k.2
      refine V_iload_n 2 dX10_tag_49 rfl rfl ?_
      refine V_iload_n 3 dX10_tag_50 rfl rfl ?_
      refine V_icmp_le 64 dX10_tag_51 (by decide) ⟨fun z => ?_, fun z => ?_⟩
      · replace k := k.1 z
        refine V_iload_n 2 dX10_tag_64 rfl rfl ?_
        refine V_iload_n 3 dX10_tag_65 rfl rfl ?_
        refine V_icmp_ge 73 dX10_tag_66 (by decide) ⟨fun z => ?_, fun z => ?_⟩
        · replace k := k.1 z
          refine V_iload_n 2 dX10_tag_73 rfl rfl ?_
          refine V_iload_n 3 dX10_tag_74 rfl rfl ?_
          refine V_icmp_le 82 dX10_tag_75 (by decide) ⟨fun z => ?_, fun z => ?_⟩
          · replace k := k.1 z
            refine V_iconst 0 dX10_tag_82 (by decide) ?_
            exact V_ireturn dX10_tag_83 rfl k
          · replace k := k.2 z
            refine V_iconst 2 dX10_tag_78 (by decide) ?_
            refine V_goto 83 dX10_tag_79 (by decide) ?_
            exact V_ireturn dX10_tag_83 rfl k
        · replace k := k.2 z
          refine V_iconst 1 dX10_tag_69 (by decide) ?_
          refine V_goto 83 dX10_tag_70 (by decide) ?_
          exact V_ireturn dX10_tag_83 rfl k
      · replace k := k.2 z
        refine V_aload_n 0 dX10_tag_54 rfl rfl ?_
        refine GS_26_5 dX10_tag_55 lkX10_16 ?_
        refine V_iload_n 1 dX10_tag_58 rfl rfl ?_
        refine V_dup2 dX10_tag_59 rfl rfl ?_
        refine V_iald (by decide) rt_29 dX10_tag_60 k.1 ?_
        replace k := k.2
        refine V_re (y := gI h 29 0 l1.toNatClampNeg) rfl ?_
        refine V_iconst 1 dX10_tag_61 (by decide) ?_
        refine V_iadd dX10_tag_62 ?_
        refine V_iast (by decide) rt_29 dX10_tag_63 k.1 ?_
        replace k := k.2
        refine V_iload_n 2 dX10_tag_64 rfl rfl ?_
        refine V_iload_n 3 dX10_tag_65 rfl rfl ?_
        refine V_icmp_ge 73 dX10_tag_66 (by decide) ⟨fun z => ?_, fun z => ?_⟩
        · replace k := k.1 z
          refine V_iload_n 2 dX10_tag_73 rfl rfl ?_
          refine V_iload_n 3 dX10_tag_74 rfl rfl ?_
          refine V_icmp_le 82 dX10_tag_75 (by decide) ⟨fun z => ?_, fun z => ?_⟩
          · replace k := k.1 z
            refine V_iconst 0 dX10_tag_82 (by decide) ?_
            exact V_ireturn dX10_tag_83 rfl k
          · replace k := k.2 z
            refine V_iconst 2 dX10_tag_78 (by decide) ?_
            refine V_goto 83 dX10_tag_79 (by decide) ?_
            exact V_ireturn dX10_tag_83 rfl k
        · replace k := k.2 z
          refine V_iconst 1 dX10_tag_69 (by decide) ?_
          refine V_goto 83 dX10_tag_70 (by decide) ?_
          exact V_ireturn dX10_tag_83 rfl k
    · replace k := k.2 (bI_0 z)
      refine V_iconst (-1) dX10_tag_15 (by decide) ?_
      exact V_ireturn dX10_tag_16 rfl k
-- X10_of cuts []
set_option maxRecDepth 20000 in
set_option maxHeartbeats 2000000 in
theorem wX10_of {d bc bs : Nat} {h : HS} {P : Option AV → HS → Prop} {l1 : Int32} {l2 : Int32} (k : (((inR l1 0 (gI h 26 0 1 - 1))) → ((l2 = 0 → (vp_in ((364 * l1) + (gI h 26 0 0)) 4368 ∧ (P (some (aI (gI h 27 0 ((364 * l1) + (gI h 26 0 0)).toNatClampNeg))) h))) ∧ (l2 = 1 → (vp_in l1 12 ∧ (P (some (aI (gI h 28 0 l1.toNatClampNeg))) h))) ∧ (l2 = 2 → (vp_in l1 12 ∧ (P (some (aI (gI h 29 0 l1.toNatClampNeg))) h))) ∧ (l2 = 3 → (vp_in l1 12 ∧ (P (some (aI (gI h 30 0 l1.toNatClampNeg))) h))) ∧ (¬ (0 ≤ (l2).toInt ∧ (l2).toInt ≤ 3) → (((¬ (inR l2 1000 (1000 + (gI h 26 0 0)))) → (P (some (aI (-1))) h)) ∧ (((inR l2 1000 (1000 + (gI h 26 0 0)))) → (vp_in (((364 * l1) + l2) - 1000) 4368 ∧ (P (some (aI (gI h 27 0 (((364 * l1) + l2) - 1000).toNatClampNeg))) h))))))) ∧ ((¬ (inR l1 0 (gI h 26 0 1 - 1))) → (P (some (aI (-1))) h))) : Cl true mX10_of (d + 3) bc bs [aR 26 0, aI l1, aI l2] h P := by
  refine Cl_of (by decide) (Nat.le_of_ble_eq_true rfl) ?_
  show V true mX10_of (d + 3) bc bs 0 [(0, aR 26 0), (1, aI l1), (2, aI l2)] [] h P
  refine V_aload_n 0 dX10_of_0 rfl rfl ?_
  refine V_iload_n 1 dX10_of_1 rfl rfl ?_
  refine V_callV (mc := 0) (ms := 0) (as := [aI l1]) (st := []) (by decide) rt_26 rfl dX10_of_2 okX10_isThing inX10_isThing seX10_isThing lkX10_122 rfl (Nat.le_of_ble_eq_true rfl) (Nat.zero_le _) (Nat.zero_le _) (cX10_isThing_ ?_)
  show V true mX10_of (d + 3) bc bs 5 [(0, aR 26 0), (1, aI l1), (2, aI l2)] [aI (bI (inR l1 0 (gI h 26 0 1 - 1)))] h P
  refine V_if_ne 10 dX10_of_5 (by decide) ⟨fun z => ?_, fun z => ?_⟩
  · replace k := k.1 (bI_1 z)
    refine V_iload_n 2 dX10_of_10 rfl rfl ?_
    obtain ⟨k0, k1, k2, k3, k4⟩ := k
    rcases sw_cases l2 (0) (3) (by decide) (by decide) with zo | ⟨zn, zl, zx⟩
    · have k := k4 zo
      refine V_tabOut 77 dX10_of_11 (sw_out zo) (by decide) ?_
      refine V_iload_n 2 dX10_of_77 rfl rfl ?_
      refine V_sipush 1000 dX10_of_78 (by decide) ?_
      refine V_sipush 1000 dX10_of_81 (by decide) ?_
      refine V_aload_n 0 dX10_of_84 rfl rfl ?_
      refine GI_26_0 dX10_of_85 lkX10_119 ?_
      refine V_iadd dX10_of_88 ?_
      refine V_callS (mc := 0) (ms := 0) (as := [aI l2, aI 1000, aI (1000 + (gI h 26 0 0))]) (st := []) dX10_of_89 okX10_isIn stX10_isIn lkX10_111 rfl (Nat.le_of_ble_eq_true rfl) (Nat.zero_le _) (Nat.zero_le _) (cX10_isIn_ ?_)
      show V true mX10_of (d + 3) bc bs 92 [(0, aR 26 0), (1, aI l1), (2, aI l2)] [aI (bI (inR l2 1000 (1000 + (gI h 26 0 0))))] h P
      refine V_if_eq 114 dX10_of_92 (by decide) ⟨fun z => ?_, fun z => ?_⟩
      · replace k := k.1 (bI_0 z)
        refine V_iconst (-1) dX10_of_114 (by decide) ?_
        exact V_ireturn dX10_of_115 rfl k
      · replace k := k.2 (bI_1 z)
        refine V_aload_n 0 dX10_of_95 rfl rfl ?_
        refine GS_26_3 dX10_of_96 lkX10_7 ?_
        refine V_sipush 364 dX10_of_99 (by decide) ?_
        refine V_iload_n 1 dX10_of_102 rfl rfl ?_
        refine V_imul dX10_of_103 ?_
        refine V_iload_n 2 dX10_of_104 rfl rfl ?_
        refine V_iadd dX10_of_105 ?_
        refine V_sipush 1000 dX10_of_106 (by decide) ?_
        refine V_isub dX10_of_109 ?_
        refine V_iald (by decide) rt_27 dX10_of_110 k.1 ?_
        replace k := k.2
        refine V_goto 115 dX10_of_111 (by decide) ?_
        exact V_ireturn dX10_of_115 rfl k
    · match zn, zl, zx with
      | 0, _, zx =>
        have zx : l2 = 0 := zx
        have k := k0 zx
        refine V_tabIn 40 dX10_of_11 (by rw [zx]; decide) (by rw [zx]; decide) (by rw [zx]; rfl) (by decide) ?_
        refine V_aload_n 0 dX10_of_40 rfl rfl ?_
        refine GS_26_3 dX10_of_41 lkX10_7 ?_
        refine V_sipush 364 dX10_of_44 (by decide) ?_
        refine V_iload_n 1 dX10_of_47 rfl rfl ?_
        refine V_imul dX10_of_48 ?_
        refine V_aload_n 0 dX10_of_49 rfl rfl ?_
        refine GI_26_0 dX10_of_50 lkX10_119 ?_
        refine V_iadd dX10_of_53 ?_
        refine V_iald (by decide) rt_27 dX10_of_54 k.1 ?_
        replace k := k.2
        exact V_ireturn dX10_of_55 rfl k
      | 1, _, zx =>
        have zx : l2 = 1 := zx
        have k := k1 zx
        refine V_tabIn 56 dX10_of_11 (by rw [zx]; decide) (by rw [zx]; decide) (by rw [zx]; rfl) (by decide) ?_
        refine V_aload_n 0 dX10_of_56 rfl rfl ?_
        refine GS_26_4 dX10_of_57 lkX10_13 ?_
        refine V_iload_n 1 dX10_of_60 rfl rfl ?_
        refine V_iald (by decide) rt_28 dX10_of_61 k.1 ?_
        replace k := k.2
        exact V_ireturn dX10_of_62 rfl k
      | 2, _, zx =>
        have zx : l2 = 2 := zx
        have k := k2 zx
        refine V_tabIn 63 dX10_of_11 (by rw [zx]; decide) (by rw [zx]; decide) (by rw [zx]; rfl) (by decide) ?_
        refine V_aload_n 0 dX10_of_63 rfl rfl ?_
        refine GS_26_5 dX10_of_64 lkX10_16 ?_
        refine V_iload_n 1 dX10_of_67 rfl rfl ?_
        refine V_iald (by decide) rt_29 dX10_of_68 k.1 ?_
        replace k := k.2
        exact V_ireturn dX10_of_69 rfl k
      | 3, _, zx =>
        have zx : l2 = 3 := zx
        have k := k3 zx
        refine V_tabIn 70 dX10_of_11 (by rw [zx]; decide) (by rw [zx]; decide) (by rw [zx]; rfl) (by decide) ?_
        refine V_aload_n 0 dX10_of_70 rfl rfl ?_
        refine GS_26_6 dX10_of_71 lkX10_19 ?_
        refine V_iload_n 1 dX10_of_74 rfl rfl ?_
        refine V_iald (by decide) rt_30 dX10_of_75 k.1 ?_
        replace k := k.2
        exact V_ireturn dX10_of_76 rfl k
      | n + 4, zl, _ => exact absurd zl (by omega)
  · replace k := k.2 (bI_0 z)
    refine V_iconst (-1) dX10_of_8 (by decide) ?_
    exact V_ireturn dX10_of_9 rfl k
-- X10_next cuts [24, 72]
set_option maxRecDepth 20000 in
set_option maxHeartbeats 2000000 in
theorem wX10_next {d bc bs : Nat} {h : HS} {P : Option AV → HS → Prop}  (k : ((¬ (gI h 26 0 0) = 363) → (V true mX10_next (d + 3) bc bs 24 [(0, aR 26 0), (1, aI 0)] [] (sI h 26 0 0 ((gI h 26 0 0) + 1)) P)) ∧ (((gI h 26 0 0) = 363) → (P (some (aI (-1))) h))) : Cl true mX10_next (d + 3) bc bs [aR 26 0] h P := by
  refine Cl_of (by decide) (Nat.le_of_ble_eq_true rfl) ?_
  show V true mX10_next (d + 3) bc bs 0 [(0, aR 26 0)] [] h P
  refine V_aload_n 0 dX10_next_0 rfl rfl ?_
  refine GI_26_0 dX10_next_1 lkX10_119 ?_
  refine V_sipush 363 dX10_next_4 (by decide) ?_
  refine V_icmp_ne 12 dX10_next_7 (by decide) ⟨fun z => ?_, fun z => ?_⟩
  · replace k := k.1 z
    refine V_aload_n 0 dX10_next_12 rfl rfl ?_
    refine V_dup dX10_next_13 rfl ?_
    refine GI_26_0 dX10_next_14 lkX10_119 ?_
    refine V_iconst 1 dX10_next_17 (by decide) ?_
    refine V_iadd dX10_next_18 ?_
    refine PI_26_0 dX10_next_19 lkX10_119 ?_
    refine V_iconst 0 dX10_next_22 (by decide) ?_
    refine V_istore_n 1 dX10_next_23 rfl (by decide) rfl ?_
    exact V_lv [1, 0] rfl k
  · replace k := k.2 z
    refine V_iconst (-1) dX10_next_10 (by decide) ?_
    exact V_ireturn dX10_next_11 rfl k
set_option maxRecDepth 20000 in
set_option maxHeartbeats 2000000 in
theorem wX10_next_24 {d bc bs : Nat} {h : HS} {P : Option AV → HS → Prop} {l1 : Int32} (k : (((gI h 26 0 1) ≤ l1) → (V true mX10_next (d + 3) bc bs 72 [(0, aR 26 0), (1, aI 0)] [] h P)) ∧ ((¬ (gI h 26 0 1) ≤ l1) → (vp_in (((364 * l1) + (gI h 26 0 0)) - 1) 4368 ∧ (vp_in ((364 * l1) + (gI h 26 0 0)) 4368 ∧ (V true mX10_next (d + 3) bc bs 24 [(0, aR 26 0), (1, aI (l1 + 1))] [] (sI h 27 0 ((364 * l1) + (gI h 26 0 0)).toNatClampNeg (gI h 27 0 (((364 * l1) + (gI h 26 0 0)) - 1).toNatClampNeg)) P))))) : V true mX10_next (d + 3) bc bs 24 [(0, aR 26 0), (1, aI l1)] [] h P := by
  refine V_iload_n 1 dX10_next_24 rfl rfl ?_
  refine V_aload_n 0 dX10_next_25 rfl rfl ?_
  refine GI_26_1 dX10_next_26 lkX10_108 ?_
  refine V_icmp_ge 70 dX10_next_29 (by decide) ⟨fun z => ?_, fun z => ?_⟩
  · replace k := k.1 z
    refine V_iconst 0 dX10_next_70 (by decide) ?_
    refine V_istore_n 1 dX10_next_71 rfl (by decide) rfl ?_
    exact V_lv [1, 0] rfl k
  · replace k := k.2 z
    refine V_aload_n 0 dX10_next_32 rfl rfl ?_
    refine GS_26_3 dX10_next_33 lkX10_7 ?_
    refine V_sipush 364 dX10_next_36 (by decide) ?_
    refine V_iload_n 1 dX10_next_39 rfl rfl ?_
    refine V_imul dX10_next_40 ?_
    refine V_aload_n 0 dX10_next_41 rfl rfl ?_
    refine GI_26_0 dX10_next_42 lkX10_119 ?_
    refine V_iadd dX10_next_45 ?_
    refine V_aload_n 0 dX10_next_46 rfl rfl ?_
    refine GS_26_3 dX10_next_47 lkX10_7 ?_
    refine V_sipush 364 dX10_next_50 (by decide) ?_
    refine V_iload_n 1 dX10_next_53 rfl rfl ?_
    refine V_imul dX10_next_54 ?_
    refine V_aload_n 0 dX10_next_55 rfl rfl ?_
    refine GI_26_0 dX10_next_56 lkX10_119 ?_
    refine V_iadd dX10_next_59 ?_
    refine V_iconst 1 dX10_next_60 (by decide) ?_
    refine V_isub dX10_next_61 ?_
    refine V_iald (by decide) rt_27 dX10_next_62 k.1 ?_
    replace k := k.2
    refine V_iast (by decide) rt_27 dX10_next_63 k.1 ?_
    replace k := k.2
    refine V_iinc 1 (v := l1 + 1) dX10_next_64 rfl rfl (by decide) rfl ?_
    refine V_goto 24 dX10_next_67 (by decide) ?_
    exact V_lv [1, 0] rfl k
set_option maxRecDepth 20000 in
set_option maxHeartbeats 2000000 in
theorem wX10_next_72 {d bc bs : Nat} {h : HS} {P : Option AV → HS → Prop} {l1 : Int32} (k : (((gI h 26 0 2) ≤ l1) → (P (some (aI (gI h 26 0 0))) (sI h 26 0 20 0))) ∧ ((¬ (gI h 26 0 2) ≤ l1) → (vp_in l1 120 ∧ (((¬ (gI h 32 0 l1.toNatClampNeg) = 2) → (V true mX10_next (d + 3) bc bs 72 [(0, aR 26 0), (1, aI (l1 + 1))] [] h P)) ∧ (((gI h 32 0 l1.toNatClampNeg) = 2) → (vp_in l1 120 ∧ (((¬ (gI h 40 0 l1.toNatClampNeg) = (-1)) → (V true mX10_next (d + 3) bc bs 72 [(0, aR 26 0), (1, aI (l1 + 1))] [] h P)) ∧ (((gI h 40 0 l1.toNatClampNeg) = (-1)) → (vp_in l1 120 ∧ (((¬ (gI h 41 0 l1.toNatClampNeg) = (-1)) → (V true mX10_next (d + 3) bc bs 72 [(0, aR 26 0), (1, aI (l1 + 1))] [] h P)) ∧ (((gI h 41 0 l1.toNatClampNeg) = (-1)) → (vp_in l1 120 ∧ (((¬ ((gI h 38 0 l1.toNatClampNeg) + 7) = (gI h 26 0 0)) → (V true mX10_next (d + 3) bc bs 72 [(0, aR 26 0), (1, aI (l1 + 1))] [] h P)) ∧ ((((gI h 38 0 l1.toNatClampNeg) + 7) = (gI h 26 0 0)) → (vp_in l1 120 ∧ (V true mX10_next (d + 3) bc bs 72 [(0, aR 26 0), (1, aI (l1 + 1))] [] (sI h 40 0 l1.toNatClampNeg (gI h 26 0 0)) P)))))))))))))))) : V true mX10_next (d + 3) bc bs 72 [(0, aR 26 0), (1, aI l1)] [] h P := by
  refine V_iload_n 1 dX10_next_72 rfl rfl ?_
  refine V_aload_n 0 dX10_next_73 rfl rfl ?_
  refine GI_26_2 dX10_next_74 lkX10_125 ?_
  refine V_icmp_ge 142 dX10_next_77 (by decide) ⟨fun z => ?_, fun z => ?_⟩
  · replace k := k.1 z
    refine V_aload_n 0 dX10_next_142 rfl rfl ?_
    refine V_iconst 0 dX10_next_143 (by decide) ?_
    refine PI_26_20 dX10_next_144 lkX10_128 ?_
    refine V_aload_n 0 dX10_next_147 rfl rfl ?_
    refine GI_26_0 dX10_next_148 lkX10_119 ?_
    refine V_re (y := gI h 26 0 0) rfl ?_
    exact V_ireturn dX10_next_151 rfl k
  · replace k := k.2 z
    refine V_aload_n 0 dX10_next_80 rfl rfl ?_
    refine GS_26_8 dX10_next_81 lkX10_25 ?_
    refine V_iload_n 1 dX10_next_84 rfl rfl ?_
    refine V_iald (by decide) rt_32 dX10_next_85 k.1 ?_
    replace k := k.2
    refine V_iconst 2 dX10_next_86 (by decide) ?_
    refine V_icmp_ne 136 dX10_next_87 (by decide) ⟨fun z => ?_, fun z => ?_⟩
    · replace k := k.1 z
      refine V_iinc 1 (v := l1 + 1) dX10_next_136 rfl rfl (by decide) rfl ?_
      refine V_goto 72 dX10_next_139 (by decide) ?_
      exact V_lv [1, 0] rfl k
    · replace k := k.2 z
      refine V_aload_n 0 dX10_next_90 rfl rfl ?_
      refine GS_26_16 dX10_next_91 lkX10_49 ?_
      refine V_iload_n 1 dX10_next_94 rfl rfl ?_
      refine V_iald (by decide) rt_40 dX10_next_95 k.1 ?_
      replace k := k.2
      refine V_iconst (-1) dX10_next_96 (by decide) ?_
      refine V_icmp_ne 136 dX10_next_97 (by decide) ⟨fun z => ?_, fun z => ?_⟩
      · replace k := k.1 z
        refine V_iinc 1 (v := l1 + 1) dX10_next_136 rfl rfl (by decide) rfl ?_
        refine V_goto 72 dX10_next_139 (by decide) ?_
        exact V_lv [1, 0] rfl k
      · replace k := k.2 z
        refine V_aload_n 0 dX10_next_100 rfl rfl ?_
        refine GS_26_17 dX10_next_101 lkX10_52 ?_
        refine V_iload_n 1 dX10_next_104 rfl rfl ?_
        refine V_iald (by decide) rt_41 dX10_next_105 k.1 ?_
        replace k := k.2
        refine V_iconst (-1) dX10_next_106 (by decide) ?_
        refine V_icmp_ne 136 dX10_next_107 (by decide) ⟨fun z => ?_, fun z => ?_⟩
        · replace k := k.1 z
          refine V_iinc 1 (v := l1 + 1) dX10_next_136 rfl rfl (by decide) rfl ?_
          refine V_goto 72 dX10_next_139 (by decide) ?_
          exact V_lv [1, 0] rfl k
        · replace k := k.2 z
          refine V_aload_n 0 dX10_next_110 rfl rfl ?_
          refine GS_26_14 dX10_next_111 lkX10_43 ?_
          refine V_iload_n 1 dX10_next_114 rfl rfl ?_
          refine V_iald (by decide) rt_38 dX10_next_115 k.1 ?_
          replace k := k.2
          refine V_bipush 7 dX10_next_116 (by decide) ?_
          refine V_iadd dX10_next_118 ?_
          refine V_aload_n 0 dX10_next_119 rfl rfl ?_
          refine GI_26_0 dX10_next_120 lkX10_119 ?_
          refine V_icmp_ne 136 dX10_next_123 (by decide) ⟨fun z => ?_, fun z => ?_⟩
          · replace k := k.1 z
            refine V_iinc 1 (v := l1 + 1) dX10_next_136 rfl rfl (by decide) rfl ?_
            refine V_goto 72 dX10_next_139 (by decide) ?_
            exact V_lv [1, 0] rfl k
          · replace k := k.2 z
            refine V_aload_n 0 dX10_next_126 rfl rfl ?_
            refine GS_26_16 dX10_next_127 lkX10_49 ?_
            refine V_iload_n 1 dX10_next_130 rfl rfl ?_
            refine V_aload_n 0 dX10_next_131 rfl rfl ?_
            refine GI_26_0 dX10_next_132 lkX10_119 ?_
            refine V_iast (by decide) rt_40 dX10_next_135 k.1 ?_
            replace k := k.2
            refine V_iinc 1 (v := l1 + 1) dX10_next_136 rfl rfl (by decide) rfl ?_
            refine V_goto 72 dX10_next_139 (by decide) ?_
            exact V_lv [1, 0] rfl k
-- X10_slip cuts []
set_option maxRecDepth 20000 in
set_option maxHeartbeats 2000000 in
theorem wX10_slip {d bc bs : Nat} {h : HS} {P : Option AV → HS → Prop} {l1 : Int32} {l2 : Int32} {l3 : Int32} {l4 : Int32} {l5 : Int32} {l6 : Int32} {l7 : Int32} (k : ((¬ (inR l1 0 2)) → (P (some (aI (-1))) h)) ∧ (((inR l1 0 2)) → (((¬ (inR l2 0 7)) → (P (some (aI (-1))) h)) ∧ (((inR l2 0 7)) → (((¬ (inR l4 0 (gI h 26 0 1 - 1))) → (P (some (aI (-1))) h)) ∧ (((inR l4 0 (gI h 26 0 1 - 1))) → (((¬ (inR l5 1 99)) → (P (some (aI (-1))) h)) ∧ (((inR l5 1 99)) → (((¬ (inR l6 (-1) 19)) → (P (some (aI (-1))) h)) ∧ (((inR l6 (-1) 19)) → (((¬ (gI h 26 0 2) = 120) → (((¬ l1 = 0) → ((((inR l3 0 9)) → (((¬ (inR l7 ((gI h 26 0 0) - 28) (gI h 26 0 0))) → (P (some (aI (-1))) h)) ∧ (((inR l7 ((gI h 26 0 0) - 28) (gI h 26 0 0))) → (((l7 < 0) → (P (some (aI (-1))) h)) ∧ ((¬ l7 < 0) → (vp_in l4 12 ∧ (((l7 < (gI h 31 0 l4.toNatClampNeg)) → (P (some (aI (-1))) h)) ∧ ((¬ l7 < (gI h 31 0 l4.toNatClampNeg)) → (vp_in l4 12 ∧ (((l5 ≤ (gI h 28 0 l4.toNatClampNeg)) → (vp_in (gI h 26 0 2) 120 ∧ (vp_in (gI h 26 0 2) 120 ∧ (vp_in (gI h 26 0 2) 120 ∧ (vp_in (gI h 26 0 2) 120 ∧ (vp_in (gI h 26 0 2) 120 ∧ (vp_in (gI h 26 0 2) 120 ∧ (vp_in (gI h 26 0 2) 120 ∧ (vp_in (gI h 26 0 2) 120 ∧ (((l1 = 2) → ((((gI h 26 0 0) < (l7 + 7)) → (vp_in (gI h 26 0 2) 120 ∧ (vp_in (gI h 26 0 2) 120 ∧ (vp_in (gI h 26 0 2) 120 ∧ (vp_in ((364 * l4) + l7) 4368 ∧ (vp_in (gI h 26 0 2) 120 ∧ (vp_in l4 12 ∧ (vp_in l4 12 ∧ (P (some (aI (gI h 26 0 2))) (sI (sI (sI (sI (sI (sI (sI (sI (sI (sI (sI (sI (sI (sI h 26 0 2 ((gI h 26 0 2) + 1)) 32 0 (gI h 26 0 2).toNatClampNeg l1) 33 0 (gI h 26 0 2).toNatClampNeg l2) 34 0 (gI h 26 0 2).toNatClampNeg l3) 35 0 (gI h 26 0 2).toNatClampNeg l4) 36 0 (gI h 26 0 2).toNatClampNeg l5) 37 0 (gI h 26 0 2).toNatClampNeg l6) 38 0 (gI h 26 0 2).toNatClampNeg l7) 39 0 (gI h 26 0 2).toNatClampNeg (gI h 26 0 0)) 40 0 (gI h 26 0 2).toNatClampNeg (-1)) 41 0 (gI h 26 0 2).toNatClampNeg (-1)) 42 0 (gI h 26 0 2).toNatClampNeg (-1)) 43 0 (gI h 26 0 2).toNatClampNeg (l5 * (gI h 27 0 ((364 * l4) + l7).toNatClampNeg))) 28 0 l4.toNatClampNeg ((gI h 28 0 l4.toNatClampNeg) - l5))))))))))) ∧ ((¬ (gI h 26 0 0) < (l7 + 7)) → (vp_in (gI h 26 0 2) 120 ∧ (vp_in (gI h 26 0 2) 120 ∧ (vp_in (gI h 26 0 2) 120 ∧ (vp_in ((364 * l4) + l7) 4368 ∧ (vp_in (gI h 26 0 2) 120 ∧ (vp_in l4 12 ∧ (vp_in l4 12 ∧ (P (some (aI (gI h 26 0 2))) (sI (sI (sI (sI (sI (sI (sI (sI (sI (sI (sI (sI (sI (sI h 26 0 2 ((gI h 26 0 2) + 1)) 32 0 (gI h 26 0 2).toNatClampNeg l1) 33 0 (gI h 26 0 2).toNatClampNeg l2) 34 0 (gI h 26 0 2).toNatClampNeg l3) 35 0 (gI h 26 0 2).toNatClampNeg l4) 36 0 (gI h 26 0 2).toNatClampNeg l5) 37 0 (gI h 26 0 2).toNatClampNeg l6) 38 0 (gI h 26 0 2).toNatClampNeg l7) 39 0 (gI h 26 0 2).toNatClampNeg (gI h 26 0 0)) 40 0 (gI h 26 0 2).toNatClampNeg (l7 + 7)) 41 0 (gI h 26 0 2).toNatClampNeg (-1)) 42 0 (gI h 26 0 2).toNatClampNeg (-1)) 43 0 (gI h 26 0 2).toNatClampNeg (l5 * (gI h 27 0 ((364 * l4) + l7).toNatClampNeg))) 28 0 l4.toNatClampNeg ((gI h 28 0 l4.toNatClampNeg) - l5))))))))))))) ∧ ((¬ l1 = 2) → (vp_in (gI h 26 0 2) 120 ∧ (vp_in (gI h 26 0 2) 120 ∧ (vp_in (gI h 26 0 2) 120 ∧ (vp_in ((364 * l4) + l7) 4368 ∧ (vp_in (gI h 26 0 2) 120 ∧ (vp_in l4 12 ∧ (vp_in l4 12 ∧ (P (some (aI (gI h 26 0 2))) (sI (sI (sI (sI (sI (sI (sI (sI (sI (sI (sI (sI (sI (sI h 26 0 2 ((gI h 26 0 2) + 1)) 32 0 (gI h 26 0 2).toNatClampNeg l1) 33 0 (gI h 26 0 2).toNatClampNeg l2) 34 0 (gI h 26 0 2).toNatClampNeg l3) 35 0 (gI h 26 0 2).toNatClampNeg l4) 36 0 (gI h 26 0 2).toNatClampNeg l5) 37 0 (gI h 26 0 2).toNatClampNeg l6) 38 0 (gI h 26 0 2).toNatClampNeg l7) 39 0 (gI h 26 0 2).toNatClampNeg (gI h 26 0 0)) 40 0 (gI h 26 0 2).toNatClampNeg l7) 41 0 (gI h 26 0 2).toNatClampNeg (-1)) 42 0 (gI h 26 0 2).toNatClampNeg (-1)) 43 0 (gI h 26 0 2).toNatClampNeg (l5 * (gI h 27 0 ((364 * l4) + l7).toNatClampNeg))) 28 0 l4.toNatClampNeg ((gI h 28 0 l4.toNatClampNeg) - l5))))))))))))))))))))) ∧ ((¬ l5 ≤ (gI h 28 0 l4.toNatClampNeg)) → (P (some (aI (-1))) h)))))))))))) ∧ ((¬ (inR l3 0 9)) → (P (some (aI (-1))) h)))) ∧ ((l1 = 0) → (((l3 = (-1)) → (((¬ (inR l7 ((gI h 26 0 0) - 28) (gI h 26 0 0))) → (P (some (aI (-1))) h)) ∧ (((inR l7 ((gI h 26 0 0) - 28) (gI h 26 0 0))) → (((l7 < 0) → (P (some (aI (-1))) h)) ∧ ((¬ l7 < 0) → (vp_in l4 12 ∧ (((l7 < (gI h 31 0 l4.toNatClampNeg)) → (P (some (aI (-1))) h)) ∧ ((¬ l7 < (gI h 31 0 l4.toNatClampNeg)) → (vp_in l4 12 ∧ (((l5 ≤ (gI h 28 0 l4.toNatClampNeg)) → (vp_in (gI h 26 0 2) 120 ∧ (vp_in (gI h 26 0 2) 120 ∧ (vp_in (gI h 26 0 2) 120 ∧ (vp_in (gI h 26 0 2) 120 ∧ (vp_in (gI h 26 0 2) 120 ∧ (vp_in (gI h 26 0 2) 120 ∧ (vp_in (gI h 26 0 2) 120 ∧ (vp_in (gI h 26 0 2) 120 ∧ (((l1 = 2) → ((((gI h 26 0 0) < (l7 + 7)) → (vp_in (gI h 26 0 2) 120 ∧ (vp_in (gI h 26 0 2) 120 ∧ (vp_in (gI h 26 0 2) 120 ∧ (vp_in ((364 * l4) + l7) 4368 ∧ (vp_in (gI h 26 0 2) 120 ∧ (vp_in l4 12 ∧ (vp_in l4 12 ∧ (P (some (aI (gI h 26 0 2))) (sI (sI (sI (sI (sI (sI (sI (sI (sI (sI (sI (sI (sI (sI h 26 0 2 ((gI h 26 0 2) + 1)) 32 0 (gI h 26 0 2).toNatClampNeg l1) 33 0 (gI h 26 0 2).toNatClampNeg l2) 34 0 (gI h 26 0 2).toNatClampNeg l3) 35 0 (gI h 26 0 2).toNatClampNeg l4) 36 0 (gI h 26 0 2).toNatClampNeg l5) 37 0 (gI h 26 0 2).toNatClampNeg l6) 38 0 (gI h 26 0 2).toNatClampNeg l7) 39 0 (gI h 26 0 2).toNatClampNeg (gI h 26 0 0)) 40 0 (gI h 26 0 2).toNatClampNeg (-1)) 41 0 (gI h 26 0 2).toNatClampNeg (-1)) 42 0 (gI h 26 0 2).toNatClampNeg (-1)) 43 0 (gI h 26 0 2).toNatClampNeg (l5 * (gI h 27 0 ((364 * l4) + l7).toNatClampNeg))) 28 0 l4.toNatClampNeg ((gI h 28 0 l4.toNatClampNeg) - l5))))))))))) ∧ ((¬ (gI h 26 0 0) < (l7 + 7)) → (vp_in (gI h 26 0 2) 120 ∧ (vp_in (gI h 26 0 2) 120 ∧ (vp_in (gI h 26 0 2) 120 ∧ (vp_in ((364 * l4) + l7) 4368 ∧ (vp_in (gI h 26 0 2) 120 ∧ (vp_in l4 12 ∧ (vp_in l4 12 ∧ (P (some (aI (gI h 26 0 2))) (sI (sI (sI (sI (sI (sI (sI (sI (sI (sI (sI (sI (sI (sI h 26 0 2 ((gI h 26 0 2) + 1)) 32 0 (gI h 26 0 2).toNatClampNeg l1) 33 0 (gI h 26 0 2).toNatClampNeg l2) 34 0 (gI h 26 0 2).toNatClampNeg l3) 35 0 (gI h 26 0 2).toNatClampNeg l4) 36 0 (gI h 26 0 2).toNatClampNeg l5) 37 0 (gI h 26 0 2).toNatClampNeg l6) 38 0 (gI h 26 0 2).toNatClampNeg l7) 39 0 (gI h 26 0 2).toNatClampNeg (gI h 26 0 0)) 40 0 (gI h 26 0 2).toNatClampNeg (l7 + 7)) 41 0 (gI h 26 0 2).toNatClampNeg (-1)) 42 0 (gI h 26 0 2).toNatClampNeg (-1)) 43 0 (gI h 26 0 2).toNatClampNeg (l5 * (gI h 27 0 ((364 * l4) + l7).toNatClampNeg))) 28 0 l4.toNatClampNeg ((gI h 28 0 l4.toNatClampNeg) - l5))))))))))))) ∧ ((¬ l1 = 2) → (vp_in (gI h 26 0 2) 120 ∧ (vp_in (gI h 26 0 2) 120 ∧ (vp_in (gI h 26 0 2) 120 ∧ (vp_in ((364 * l4) + l7) 4368 ∧ (vp_in (gI h 26 0 2) 120 ∧ (vp_in l4 12 ∧ (vp_in l4 12 ∧ (P (some (aI (gI h 26 0 2))) (sI (sI (sI (sI (sI (sI (sI (sI (sI (sI (sI (sI (sI (sI h 26 0 2 ((gI h 26 0 2) + 1)) 32 0 (gI h 26 0 2).toNatClampNeg l1) 33 0 (gI h 26 0 2).toNatClampNeg l2) 34 0 (gI h 26 0 2).toNatClampNeg l3) 35 0 (gI h 26 0 2).toNatClampNeg l4) 36 0 (gI h 26 0 2).toNatClampNeg l5) 37 0 (gI h 26 0 2).toNatClampNeg l6) 38 0 (gI h 26 0 2).toNatClampNeg l7) 39 0 (gI h 26 0 2).toNatClampNeg (gI h 26 0 0)) 40 0 (gI h 26 0 2).toNatClampNeg l7) 41 0 (gI h 26 0 2).toNatClampNeg (-1)) 42 0 (gI h 26 0 2).toNatClampNeg (-1)) 43 0 (gI h 26 0 2).toNatClampNeg (l5 * (gI h 27 0 ((364 * l4) + l7).toNatClampNeg))) 28 0 l4.toNatClampNeg ((gI h 28 0 l4.toNatClampNeg) - l5))))))))))))))))))))) ∧ ((¬ l5 ≤ (gI h 28 0 l4.toNatClampNeg)) → (P (some (aI (-1))) h)))))))))))) ∧ ((¬ l3 = (-1)) → (P (some (aI (-1))) h)))))) ∧ (((gI h 26 0 2) = 120) → (P (some (aI (-1))) h))))))))))))) : Cl true mX10_slip (d + 3) bc bs [aR 26 0, aI l1, aI l2, aI l3, aI l4, aI l5, aI l6, aI l7] h P := by
  refine Cl_of (by decide) (Nat.le_of_ble_eq_true rfl) ?_
  show V true mX10_slip (d + 3) bc bs 0 [(0, aR 26 0), (1, aI l1), (2, aI l2), (3, aI l3), (4, aI l4), (5, aI l5), (6, aI l6), (7, aI l7)] [] h P
  refine V_iload_n 1 dX10_slip_0 rfl rfl ?_
  refine V_iconst 0 dX10_slip_1 (by decide) ?_
  refine V_iconst 2 dX10_slip_2 (by decide) ?_
  refine V_callS (mc := 0) (ms := 0) (as := [aI l1, aI 0, aI 2]) (st := []) dX10_slip_3 okX10_isIn stX10_isIn lkX10_111 rfl (Nat.le_of_ble_eq_true rfl) (Nat.zero_le _) (Nat.zero_le _) (cX10_isIn_ ?_)
  show V true mX10_slip (d + 3) bc bs 6 [(0, aR 26 0), (1, aI l1), (2, aI l2), (3, aI l3), (4, aI l4), (5, aI l5), (6, aI l6), (7, aI l7)] [aI (bI (inR l1 0 2))] h P
  refine V_if_eq 59 dX10_slip_6 (by decide) ⟨fun z => ?_, fun z => ?_⟩
  · replace k := k.1 (bI_0 z)
    refine V_iconst (-1) dX10_slip_59 (by decide) ?_
    exact V_ireturn dX10_slip_60 rfl k
  · replace k := k.2 (bI_1 z)
    refine V_iload_n 2 dX10_slip_9 rfl rfl ?_
    refine V_iconst 0 dX10_slip_10 (by decide) ?_
    refine V_bipush 7 dX10_slip_11 (by decide) ?_
    refine V_callS (mc := 0) (ms := 0) (as := [aI l2, aI 0, aI 7]) (st := []) dX10_slip_13 okX10_isIn stX10_isIn lkX10_111 rfl (Nat.le_of_ble_eq_true rfl) (Nat.zero_le _) (Nat.zero_le _) (cX10_isIn_ ?_)
    show V true mX10_slip (d + 3) bc bs 16 [(0, aR 26 0), (1, aI l1), (2, aI l2), (3, aI l3), (4, aI l4), (5, aI l5), (6, aI l6), (7, aI l7)] [aI (bI (inR l2 0 7))] h P
    refine V_if_eq 59 dX10_slip_16 (by decide) ⟨fun z => ?_, fun z => ?_⟩
    · replace k := k.1 (bI_0 z)
      refine V_iconst (-1) dX10_slip_59 (by decide) ?_
      exact V_ireturn dX10_slip_60 rfl k
    · replace k := k.2 (bI_1 z)
      refine V_aload_n 0 dX10_slip_19 rfl rfl ?_
      refine V_iload 4 dX10_slip_20 rfl ?_
      refine V_callV (mc := 0) (ms := 0) (as := [aI l4]) (st := []) (by decide) rt_26 rfl dX10_slip_22 okX10_isThing inX10_isThing seX10_isThing lkX10_122 rfl (Nat.le_of_ble_eq_true rfl) (Nat.zero_le _) (Nat.zero_le _) (cX10_isThing_ ?_)
      show V true mX10_slip (d + 3) bc bs 25 [(0, aR 26 0), (1, aI l1), (2, aI l2), (3, aI l3), (4, aI l4), (5, aI l5), (6, aI l6), (7, aI l7)] [aI (bI (inR l4 0 (gI h 26 0 1 - 1)))] h P
      refine V_if_eq 59 dX10_slip_25 (by decide) ⟨fun z => ?_, fun z => ?_⟩
      · replace k := k.1 (bI_0 z)
        refine V_iconst (-1) dX10_slip_59 (by decide) ?_
        exact V_ireturn dX10_slip_60 rfl k
      · replace k := k.2 (bI_1 z)
        refine V_iload 5 dX10_slip_28 rfl ?_
        refine V_iconst 1 dX10_slip_30 (by decide) ?_
        refine V_bipush 99 dX10_slip_31 (by decide) ?_
        refine V_callS (mc := 0) (ms := 0) (as := [aI l5, aI 1, aI 99]) (st := []) dX10_slip_33 okX10_isIn stX10_isIn lkX10_111 rfl (Nat.le_of_ble_eq_true rfl) (Nat.zero_le _) (Nat.zero_le _) (cX10_isIn_ ?_)
        show V true mX10_slip (d + 3) bc bs 36 [(0, aR 26 0), (1, aI l1), (2, aI l2), (3, aI l3), (4, aI l4), (5, aI l5), (6, aI l6), (7, aI l7)] [aI (bI (inR l5 1 99))] h P
        refine V_if_eq 59 dX10_slip_36 (by decide) ⟨fun z => ?_, fun z => ?_⟩
        · replace k := k.1 (bI_0 z)
          refine V_iconst (-1) dX10_slip_59 (by decide) ?_
          exact V_ireturn dX10_slip_60 rfl k
        · replace k := k.2 (bI_1 z)
          refine V_iload 6 dX10_slip_39 rfl ?_
          refine V_iconst (-1) dX10_slip_41 (by decide) ?_
          refine V_bipush 19 dX10_slip_42 (by decide) ?_
          refine V_callS (mc := 0) (ms := 0) (as := [aI l6, aI (-1), aI 19]) (st := []) dX10_slip_44 okX10_isIn stX10_isIn lkX10_111 rfl (Nat.le_of_ble_eq_true rfl) (Nat.zero_le _) (Nat.zero_le _) (cX10_isIn_ ?_)
          show V true mX10_slip (d + 3) bc bs 47 [(0, aR 26 0), (1, aI l1), (2, aI l2), (3, aI l3), (4, aI l4), (5, aI l5), (6, aI l6), (7, aI l7)] [aI (bI (inR l6 (-1) 19))] h P
          refine V_if_eq 59 dX10_slip_47 (by decide) ⟨fun z => ?_, fun z => ?_⟩
          · replace k := k.1 (bI_0 z)
            refine V_iconst (-1) dX10_slip_59 (by decide) ?_
            exact V_ireturn dX10_slip_60 rfl k
          · replace k := k.2 (bI_1 z)
            refine V_aload_n 0 dX10_slip_50 rfl rfl ?_
            refine GI_26_2 dX10_slip_51 lkX10_125 ?_
            refine V_bipush 120 dX10_slip_54 (by decide) ?_
            refine V_icmp_ne 61 dX10_slip_56 (by decide) ⟨fun z => ?_, fun z => ?_⟩
            · replace k := k.1 z
              refine V_iload_n 1 dX10_slip_61 rfl rfl ?_
              refine V_if_ne 73 dX10_slip_62 (by decide) ⟨fun z => ?_, fun z => ?_⟩
              · replace k := k.1 z
                refine V_iload_n 3 dX10_slip_73 rfl rfl ?_
                refine V_iconst 0 dX10_slip_74 (by decide) ?_
                refine V_bipush 9 dX10_slip_75 (by decide) ?_
                refine V_callS (mc := 0) (ms := 0) (as := [aI l3, aI 0, aI 9]) (st := []) dX10_slip_77 okX10_isIn stX10_isIn lkX10_111 rfl (Nat.le_of_ble_eq_true rfl) (Nat.zero_le _) (Nat.zero_le _) (cX10_isIn_ ?_)
                show V true mX10_slip (d + 3) bc bs 80 [(0, aR 26 0), (1, aI l1), (2, aI l2), (3, aI l3), (4, aI l4), (5, aI l5), (6, aI l6), (7, aI l7)] [aI (bI (inR l3 0 9))] h P
                refine V_if_ne 85 dX10_slip_80 (by decide) ⟨fun z => ?_, fun z => ?_⟩
                · replace k := k.1 (bI_1 z)
                  refine V_iload 7 dX10_slip_85 rfl ?_
                  refine V_aload_n 0 dX10_slip_87 rfl rfl ?_
                  refine GI_26_0 dX10_slip_88 lkX10_119 ?_
                  refine V_bipush 28 dX10_slip_91 (by decide) ?_
                  refine V_isub dX10_slip_93 ?_
                  refine V_aload_n 0 dX10_slip_94 rfl rfl ?_
                  refine GI_26_0 dX10_slip_95 lkX10_119 ?_
                  refine V_callS (mc := 0) (ms := 0) (as := [aI l7, aI ((gI h 26 0 0) - 28), aI (gI h 26 0 0)]) (st := []) dX10_slip_98 okX10_isIn stX10_isIn lkX10_111 rfl (Nat.le_of_ble_eq_true rfl) (Nat.zero_le _) (Nat.zero_le _) (cX10_isIn_ ?_)
                  show V true mX10_slip (d + 3) bc bs 101 [(0, aR 26 0), (1, aI l1), (2, aI l2), (3, aI l3), (4, aI l4), (5, aI l5), (6, aI l6), (7, aI l7)] [aI (bI (inR l7 ((gI h 26 0 0) - 28) (gI h 26 0 0)))] h P
                  refine V_if_eq 133 dX10_slip_101 (by decide) ⟨fun z => ?_, fun z => ?_⟩
                  · replace k := k.1 (bI_0 z)
                    refine V_iconst (-1) dX10_slip_133 (by decide) ?_
                    exact V_ireturn dX10_slip_134 rfl k
                  · replace k := k.2 (bI_1 z)
                    refine V_iload 7 dX10_slip_104 rfl ?_
                    refine V_if_lt 133 dX10_slip_106 (by decide) ⟨fun z => ?_, fun z => ?_⟩
                    · replace k := k.1 z
                      refine V_iconst (-1) dX10_slip_133 (by decide) ?_
                      exact V_ireturn dX10_slip_134 rfl k
                    · replace k := k.2 z
                      refine V_aload_n 0 dX10_slip_109 rfl rfl ?_
                      refine GS_26_7 dX10_slip_110 lkX10_22 ?_
                      refine V_iload 4 dX10_slip_113 rfl ?_
                      refine V_iald (by decide) rt_31 dX10_slip_115 k.1 ?_
                      replace k := k.2
                      refine V_iload 7 dX10_slip_116 rfl ?_
                      refine V_icmp_gt 133 dX10_slip_118 (by decide) ⟨fun z => ?_, fun z => ?_⟩
                      · replace k := k.1 z
                        refine V_iconst (-1) dX10_slip_133 (by decide) ?_
                        exact V_ireturn dX10_slip_134 rfl k
                      · replace k := k.2 z
                        refine V_aload_n 0 dX10_slip_121 rfl rfl ?_
                        refine GS_26_4 dX10_slip_122 lkX10_13 ?_
                        refine V_iload 4 dX10_slip_125 rfl ?_
                        refine V_iald (by decide) rt_28 dX10_slip_127 k.1 ?_
                        replace k := k.2
                        refine V_iload 5 dX10_slip_128 rfl ?_
                        refine V_icmp_ge 135 dX10_slip_130 (by decide) ⟨fun z => ?_, fun z => ?_⟩
                        · replace k := k.1 z
                          refine V_aload_n 0 dX10_slip_135 rfl rfl ?_
                          refine GI_26_2 dX10_slip_136 lkX10_125 ?_
                          refine V_istore 8 dX10_slip_139 (by decide) rfl ?_
                          refine V_aload_n 0 dX10_slip_141 rfl rfl ?_
                          refine V_dup dX10_slip_142 rfl ?_
                          refine GI_26_2 dX10_slip_143 lkX10_125 ?_
                          refine V_iconst 1 dX10_slip_146 (by decide) ?_
                          refine V_iadd dX10_slip_147 ?_
                          refine PI_26_2 dX10_slip_148 lkX10_125 ?_
                          refine V_aload_n 0 dX10_slip_151 rfl rfl ?_
                          refine GS_26_8 dX10_slip_152 lkX10_25 ?_
                          refine V_iload 8 dX10_slip_155 rfl ?_
                          refine V_iload_n 1 dX10_slip_157 rfl rfl ?_
                          refine V_iast (by decide) rt_32 dX10_slip_158 k.1 ?_
                          replace k := k.2
                          refine V_aload_n 0 dX10_slip_159 rfl rfl ?_
                          refine GS_26_9 dX10_slip_160 lkX10_28 ?_
                          refine V_iload 8 dX10_slip_163 rfl ?_
                          refine V_iload_n 2 dX10_slip_165 rfl rfl ?_
                          refine V_iast (by decide) rt_33 dX10_slip_166 k.1 ?_
                          replace k := k.2
                          refine V_aload_n 0 dX10_slip_167 rfl rfl ?_
                          refine GS_26_10 dX10_slip_168 lkX10_31 ?_
                          refine V_iload 8 dX10_slip_171 rfl ?_
                          refine V_iload_n 3 dX10_slip_173 rfl rfl ?_
                          refine V_iast (by decide) rt_34 dX10_slip_174 k.1 ?_
                          replace k := k.2
                          refine V_aload_n 0 dX10_slip_175 rfl rfl ?_
                          refine GS_26_11 dX10_slip_176 lkX10_34 ?_
                          refine V_iload 8 dX10_slip_179 rfl ?_
                          refine V_iload 4 dX10_slip_181 rfl ?_
                          refine V_iast (by decide) rt_35 dX10_slip_183 k.1 ?_
                          replace k := k.2
                          refine V_aload_n 0 dX10_slip_184 rfl rfl ?_
                          refine GS_26_12 dX10_slip_185 lkX10_37 ?_
                          refine V_iload 8 dX10_slip_188 rfl ?_
                          refine V_iload 5 dX10_slip_190 rfl ?_
                          refine V_iast (by decide) rt_36 dX10_slip_192 k.1 ?_
                          replace k := k.2
                          refine V_aload_n 0 dX10_slip_193 rfl rfl ?_
                          refine GS_26_13 dX10_slip_194 lkX10_40 ?_
                          refine V_iload 8 dX10_slip_197 rfl ?_
                          refine V_iload 6 dX10_slip_199 rfl ?_
                          refine V_iast (by decide) rt_37 dX10_slip_201 k.1 ?_
                          replace k := k.2
                          refine V_aload_n 0 dX10_slip_202 rfl rfl ?_
                          refine GS_26_14 dX10_slip_203 lkX10_43 ?_
                          refine V_iload 8 dX10_slip_206 rfl ?_
                          refine V_iload 7 dX10_slip_208 rfl ?_
                          refine V_iast (by decide) rt_38 dX10_slip_210 k.1 ?_
                          replace k := k.2
                          refine V_aload_n 0 dX10_slip_211 rfl rfl ?_
                          refine GS_26_15 dX10_slip_212 lkX10_46 ?_
                          refine V_iload 8 dX10_slip_215 rfl ?_
                          refine V_aload_n 0 dX10_slip_217 rfl rfl ?_
                          refine GI_26_0 dX10_slip_218 lkX10_119 ?_
                          refine V_re (y := gI h 26 0 0) rfl ?_
                          refine V_iast (by decide) rt_39 dX10_slip_221 k.1 ?_
                          replace k := k.2
                          refine V_aload_n 0 dX10_slip_222 rfl rfl ?_
                          refine GS_26_16 dX10_slip_223 lkX10_49 ?_
                          refine V_iload 8 dX10_slip_226 rfl ?_
                          refine V_iload_n 1 dX10_slip_228 rfl rfl ?_
                          refine V_iconst 2 dX10_slip_229 (by decide) ?_
                          refine V_icmp_eq 238 dX10_slip_230 (by decide) ⟨fun z => ?_, fun z => ?_⟩
                          · replace k := k.1 z
                            refine V_iload 7 dX10_slip_238 rfl ?_
                            refine V_bipush 7 dX10_slip_240 (by decide) ?_
                            refine V_iadd dX10_slip_242 ?_
                            refine V_aload_n 0 dX10_slip_243 rfl rfl ?_
                            refine GI_26_0 dX10_slip_244 lkX10_119 ?_
                            refine V_re (y := gI h 26 0 0) rfl ?_
                            refine V_icmp_gt 258 dX10_slip_247 (by decide) ⟨fun z => ?_, fun z => ?_⟩
                            · replace k := k.1 z
                              refine V_iconst (-1) dX10_slip_258 (by decide) ?_
                              refine V_iast (by decide) rt_40 dX10_slip_259 k.1 ?_
                              replace k := k.2
                              refine V_aload_n 0 dX10_slip_260 rfl rfl ?_
                              refine GS_26_17 dX10_slip_261 lkX10_52 ?_
                              refine V_iload 8 dX10_slip_264 rfl ?_
                              refine V_iconst (-1) dX10_slip_266 (by decide) ?_
                              refine V_iast (by decide) rt_41 dX10_slip_267 k.1 ?_
                              replace k := k.2
                              refine V_aload_n 0 dX10_slip_268 rfl rfl ?_
                              refine GS_26_18 dX10_slip_269 lkX10_55 ?_
                              refine V_iload 8 dX10_slip_272 rfl ?_
                              refine V_iconst (-1) dX10_slip_274 (by decide) ?_
                              refine V_iast (by decide) rt_42 dX10_slip_275 k.1 ?_
                              replace k := k.2
                              refine V_aload_n 0 dX10_slip_276 rfl rfl ?_
                              refine GS_26_19 dX10_slip_277 lkX10_58 ?_
                              refine V_iload 8 dX10_slip_280 rfl ?_
                              refine V_iload 5 dX10_slip_282 rfl ?_
                              refine V_aload_n 0 dX10_slip_284 rfl rfl ?_
                              refine GS_26_3 dX10_slip_285 lkX10_7 ?_
                              refine V_sipush 364 dX10_slip_288 (by decide) ?_
                              refine V_iload 4 dX10_slip_291 rfl ?_
                              refine V_imul dX10_slip_293 ?_
                              refine V_iload 7 dX10_slip_294 rfl ?_
                              refine V_iadd dX10_slip_296 ?_
                              refine V_iald (by decide) rt_27 dX10_slip_297 k.1 ?_
                              replace k := k.2
                              refine V_re (y := gI h 27 0 ((364 * l4) + l7).toNatClampNeg) rfl ?_
                              refine V_imul dX10_slip_298 ?_
                              refine V_iast (by decide) rt_43 dX10_slip_299 k.1 ?_
                              replace k := k.2
                              refine V_aload_n 0 dX10_slip_300 rfl rfl ?_
                              refine GS_26_4 dX10_slip_301 lkX10_13 ?_
                              refine V_iload 4 dX10_slip_304 rfl ?_
                              refine V_dup2 dX10_slip_306 rfl rfl ?_
                              refine V_iald (by decide) rt_28 dX10_slip_307 k.1 ?_
                              replace k := k.2
                              refine V_re (y := gI h 28 0 l4.toNatClampNeg) rfl ?_
                              refine V_iload 5 dX10_slip_308 rfl ?_
                              refine V_isub dX10_slip_310 ?_
                              refine V_iast (by decide) rt_28 dX10_slip_311 k.1 ?_
                              replace k := k.2
                              refine V_iload 8 dX10_slip_312 rfl ?_
                              exact V_ireturn dX10_slip_314 rfl k
                            · replace k := k.2 z
                              refine V_iload 7 dX10_slip_250 rfl ?_
                              refine V_bipush 7 dX10_slip_252 (by decide) ?_
                              refine V_iadd dX10_slip_254 ?_
                              refine V_goto 259 dX10_slip_255 (by decide) ?_
                              refine V_iast (by decide) rt_40 dX10_slip_259 k.1 ?_
                              replace k := k.2
                              refine V_aload_n 0 dX10_slip_260 rfl rfl ?_
                              refine GS_26_17 dX10_slip_261 lkX10_52 ?_
                              refine V_iload 8 dX10_slip_264 rfl ?_
                              refine V_iconst (-1) dX10_slip_266 (by decide) ?_
                              refine V_iast (by decide) rt_41 dX10_slip_267 k.1 ?_
                              replace k := k.2
                              refine V_aload_n 0 dX10_slip_268 rfl rfl ?_
                              refine GS_26_18 dX10_slip_269 lkX10_55 ?_
                              refine V_iload 8 dX10_slip_272 rfl ?_
                              refine V_iconst (-1) dX10_slip_274 (by decide) ?_
                              refine V_iast (by decide) rt_42 dX10_slip_275 k.1 ?_
                              replace k := k.2
                              refine V_aload_n 0 dX10_slip_276 rfl rfl ?_
                              refine GS_26_19 dX10_slip_277 lkX10_58 ?_
                              refine V_iload 8 dX10_slip_280 rfl ?_
                              refine V_iload 5 dX10_slip_282 rfl ?_
                              refine V_aload_n 0 dX10_slip_284 rfl rfl ?_
                              refine GS_26_3 dX10_slip_285 lkX10_7 ?_
                              refine V_sipush 364 dX10_slip_288 (by decide) ?_
                              refine V_iload 4 dX10_slip_291 rfl ?_
                              refine V_imul dX10_slip_293 ?_
                              refine V_iload 7 dX10_slip_294 rfl ?_
                              refine V_iadd dX10_slip_296 ?_
                              refine V_iald (by decide) rt_27 dX10_slip_297 k.1 ?_
                              replace k := k.2
                              refine V_re (y := gI h 27 0 ((364 * l4) + l7).toNatClampNeg) rfl ?_
                              refine V_imul dX10_slip_298 ?_
                              refine V_iast (by decide) rt_43 dX10_slip_299 k.1 ?_
                              replace k := k.2
                              refine V_aload_n 0 dX10_slip_300 rfl rfl ?_
                              refine GS_26_4 dX10_slip_301 lkX10_13 ?_
                              refine V_iload 4 dX10_slip_304 rfl ?_
                              refine V_dup2 dX10_slip_306 rfl rfl ?_
                              refine V_iald (by decide) rt_28 dX10_slip_307 k.1 ?_
                              replace k := k.2
                              refine V_re (y := gI h 28 0 l4.toNatClampNeg) rfl ?_
                              refine V_iload 5 dX10_slip_308 rfl ?_
                              refine V_isub dX10_slip_310 ?_
                              refine V_iast (by decide) rt_28 dX10_slip_311 k.1 ?_
                              replace k := k.2
                              refine V_iload 8 dX10_slip_312 rfl ?_
                              exact V_ireturn dX10_slip_314 rfl k
                          · replace k := k.2 z
                            refine V_iload 7 dX10_slip_233 rfl ?_
                            refine V_goto 259 dX10_slip_235 (by decide) ?_
                            refine V_iast (by decide) rt_40 dX10_slip_259 k.1 ?_
                            replace k := k.2
                            refine V_aload_n 0 dX10_slip_260 rfl rfl ?_
                            refine GS_26_17 dX10_slip_261 lkX10_52 ?_
                            refine V_iload 8 dX10_slip_264 rfl ?_
                            refine V_iconst (-1) dX10_slip_266 (by decide) ?_
                            refine V_iast (by decide) rt_41 dX10_slip_267 k.1 ?_
                            replace k := k.2
                            refine V_aload_n 0 dX10_slip_268 rfl rfl ?_
                            refine GS_26_18 dX10_slip_269 lkX10_55 ?_
                            refine V_iload 8 dX10_slip_272 rfl ?_
                            refine V_iconst (-1) dX10_slip_274 (by decide) ?_
                            refine V_iast (by decide) rt_42 dX10_slip_275 k.1 ?_
                            replace k := k.2
                            refine V_aload_n 0 dX10_slip_276 rfl rfl ?_
                            refine GS_26_19 dX10_slip_277 lkX10_58 ?_
                            refine V_iload 8 dX10_slip_280 rfl ?_
                            refine V_iload 5 dX10_slip_282 rfl ?_
                            refine V_aload_n 0 dX10_slip_284 rfl rfl ?_
                            refine GS_26_3 dX10_slip_285 lkX10_7 ?_
                            refine V_sipush 364 dX10_slip_288 (by decide) ?_
                            refine V_iload 4 dX10_slip_291 rfl ?_
                            refine V_imul dX10_slip_293 ?_
                            refine V_iload 7 dX10_slip_294 rfl ?_
                            refine V_iadd dX10_slip_296 ?_
                            refine V_iald (by decide) rt_27 dX10_slip_297 k.1 ?_
                            replace k := k.2
                            refine V_re (y := gI h 27 0 ((364 * l4) + l7).toNatClampNeg) rfl ?_
                            refine V_imul dX10_slip_298 ?_
                            refine V_iast (by decide) rt_43 dX10_slip_299 k.1 ?_
                            replace k := k.2
                            refine V_aload_n 0 dX10_slip_300 rfl rfl ?_
                            refine GS_26_4 dX10_slip_301 lkX10_13 ?_
                            refine V_iload 4 dX10_slip_304 rfl ?_
                            refine V_dup2 dX10_slip_306 rfl rfl ?_
                            refine V_iald (by decide) rt_28 dX10_slip_307 k.1 ?_
                            replace k := k.2
                            refine V_re (y := gI h 28 0 l4.toNatClampNeg) rfl ?_
                            refine V_iload 5 dX10_slip_308 rfl ?_
                            refine V_isub dX10_slip_310 ?_
                            refine V_iast (by decide) rt_28 dX10_slip_311 k.1 ?_
                            replace k := k.2
                            refine V_iload 8 dX10_slip_312 rfl ?_
                            exact V_ireturn dX10_slip_314 rfl k
                        · replace k := k.2 z
                          refine V_iconst (-1) dX10_slip_133 (by decide) ?_
                          exact V_ireturn dX10_slip_134 rfl k
                · replace k := k.2 (bI_0 z)
                  refine V_iconst (-1) dX10_slip_83 (by decide) ?_
                  exact V_ireturn dX10_slip_84 rfl k
              · replace k := k.2 z
                refine V_iload_n 3 dX10_slip_65 rfl rfl ?_
                refine V_iconst (-1) dX10_slip_66 (by decide) ?_
                refine V_icmp_eq 85 dX10_slip_67 (by decide) ⟨fun z => ?_, fun z => ?_⟩
                · replace k := k.1 z
                  refine V_iload 7 dX10_slip_85 rfl ?_
                  refine V_aload_n 0 dX10_slip_87 rfl rfl ?_
                  refine GI_26_0 dX10_slip_88 lkX10_119 ?_
                  refine V_bipush 28 dX10_slip_91 (by decide) ?_
                  refine V_isub dX10_slip_93 ?_
                  refine V_aload_n 0 dX10_slip_94 rfl rfl ?_
                  refine GI_26_0 dX10_slip_95 lkX10_119 ?_
                  refine V_callS (mc := 0) (ms := 0) (as := [aI l7, aI ((gI h 26 0 0) - 28), aI (gI h 26 0 0)]) (st := []) dX10_slip_98 okX10_isIn stX10_isIn lkX10_111 rfl (Nat.le_of_ble_eq_true rfl) (Nat.zero_le _) (Nat.zero_le _) (cX10_isIn_ ?_)
                  show V true mX10_slip (d + 3) bc bs 101 [(0, aR 26 0), (1, aI l1), (2, aI l2), (3, aI l3), (4, aI l4), (5, aI l5), (6, aI l6), (7, aI l7)] [aI (bI (inR l7 ((gI h 26 0 0) - 28) (gI h 26 0 0)))] h P
                  refine V_if_eq 133 dX10_slip_101 (by decide) ⟨fun z => ?_, fun z => ?_⟩
                  · replace k := k.1 (bI_0 z)
                    refine V_iconst (-1) dX10_slip_133 (by decide) ?_
                    exact V_ireturn dX10_slip_134 rfl k
                  · replace k := k.2 (bI_1 z)
                    refine V_iload 7 dX10_slip_104 rfl ?_
                    refine V_if_lt 133 dX10_slip_106 (by decide) ⟨fun z => ?_, fun z => ?_⟩
                    · replace k := k.1 z
                      refine V_iconst (-1) dX10_slip_133 (by decide) ?_
                      exact V_ireturn dX10_slip_134 rfl k
                    · replace k := k.2 z
                      refine V_aload_n 0 dX10_slip_109 rfl rfl ?_
                      refine GS_26_7 dX10_slip_110 lkX10_22 ?_
                      refine V_iload 4 dX10_slip_113 rfl ?_
                      refine V_iald (by decide) rt_31 dX10_slip_115 k.1 ?_
                      replace k := k.2
                      refine V_iload 7 dX10_slip_116 rfl ?_
                      refine V_icmp_gt 133 dX10_slip_118 (by decide) ⟨fun z => ?_, fun z => ?_⟩
                      · replace k := k.1 z
                        refine V_iconst (-1) dX10_slip_133 (by decide) ?_
                        exact V_ireturn dX10_slip_134 rfl k
                      · replace k := k.2 z
                        refine V_aload_n 0 dX10_slip_121 rfl rfl ?_
                        refine GS_26_4 dX10_slip_122 lkX10_13 ?_
                        refine V_iload 4 dX10_slip_125 rfl ?_
                        refine V_iald (by decide) rt_28 dX10_slip_127 k.1 ?_
                        replace k := k.2
                        refine V_iload 5 dX10_slip_128 rfl ?_
                        refine V_icmp_ge 135 dX10_slip_130 (by decide) ⟨fun z => ?_, fun z => ?_⟩
                        · replace k := k.1 z
                          refine V_aload_n 0 dX10_slip_135 rfl rfl ?_
                          refine GI_26_2 dX10_slip_136 lkX10_125 ?_
                          refine V_istore 8 dX10_slip_139 (by decide) rfl ?_
                          refine V_aload_n 0 dX10_slip_141 rfl rfl ?_
                          refine V_dup dX10_slip_142 rfl ?_
                          refine GI_26_2 dX10_slip_143 lkX10_125 ?_
                          refine V_iconst 1 dX10_slip_146 (by decide) ?_
                          refine V_iadd dX10_slip_147 ?_
                          refine PI_26_2 dX10_slip_148 lkX10_125 ?_
                          refine V_aload_n 0 dX10_slip_151 rfl rfl ?_
                          refine GS_26_8 dX10_slip_152 lkX10_25 ?_
                          refine V_iload 8 dX10_slip_155 rfl ?_
                          refine V_iload_n 1 dX10_slip_157 rfl rfl ?_
                          refine V_iast (by decide) rt_32 dX10_slip_158 k.1 ?_
                          replace k := k.2
                          refine V_aload_n 0 dX10_slip_159 rfl rfl ?_
                          refine GS_26_9 dX10_slip_160 lkX10_28 ?_
                          refine V_iload 8 dX10_slip_163 rfl ?_
                          refine V_iload_n 2 dX10_slip_165 rfl rfl ?_
                          refine V_iast (by decide) rt_33 dX10_slip_166 k.1 ?_
                          replace k := k.2
                          refine V_aload_n 0 dX10_slip_167 rfl rfl ?_
                          refine GS_26_10 dX10_slip_168 lkX10_31 ?_
                          refine V_iload 8 dX10_slip_171 rfl ?_
                          refine V_iload_n 3 dX10_slip_173 rfl rfl ?_
                          refine V_iast (by decide) rt_34 dX10_slip_174 k.1 ?_
                          replace k := k.2
                          refine V_aload_n 0 dX10_slip_175 rfl rfl ?_
                          refine GS_26_11 dX10_slip_176 lkX10_34 ?_
                          refine V_iload 8 dX10_slip_179 rfl ?_
                          refine V_iload 4 dX10_slip_181 rfl ?_
                          refine V_iast (by decide) rt_35 dX10_slip_183 k.1 ?_
                          replace k := k.2
                          refine V_aload_n 0 dX10_slip_184 rfl rfl ?_
                          refine GS_26_12 dX10_slip_185 lkX10_37 ?_
                          refine V_iload 8 dX10_slip_188 rfl ?_
                          refine V_iload 5 dX10_slip_190 rfl ?_
                          refine V_iast (by decide) rt_36 dX10_slip_192 k.1 ?_
                          replace k := k.2
                          refine V_aload_n 0 dX10_slip_193 rfl rfl ?_
                          refine GS_26_13 dX10_slip_194 lkX10_40 ?_
                          refine V_iload 8 dX10_slip_197 rfl ?_
                          refine V_iload 6 dX10_slip_199 rfl ?_
                          refine V_iast (by decide) rt_37 dX10_slip_201 k.1 ?_
                          replace k := k.2
                          refine V_aload_n 0 dX10_slip_202 rfl rfl ?_
                          refine GS_26_14 dX10_slip_203 lkX10_43 ?_
                          refine V_iload 8 dX10_slip_206 rfl ?_
                          refine V_iload 7 dX10_slip_208 rfl ?_
                          refine V_iast (by decide) rt_38 dX10_slip_210 k.1 ?_
                          replace k := k.2
                          refine V_aload_n 0 dX10_slip_211 rfl rfl ?_
                          refine GS_26_15 dX10_slip_212 lkX10_46 ?_
                          refine V_iload 8 dX10_slip_215 rfl ?_
                          refine V_aload_n 0 dX10_slip_217 rfl rfl ?_
                          refine GI_26_0 dX10_slip_218 lkX10_119 ?_
                          refine V_re (y := gI h 26 0 0) rfl ?_
                          refine V_iast (by decide) rt_39 dX10_slip_221 k.1 ?_
                          replace k := k.2
                          refine V_aload_n 0 dX10_slip_222 rfl rfl ?_
                          refine GS_26_16 dX10_slip_223 lkX10_49 ?_
                          refine V_iload 8 dX10_slip_226 rfl ?_
                          refine V_iload_n 1 dX10_slip_228 rfl rfl ?_
                          refine V_iconst 2 dX10_slip_229 (by decide) ?_
                          refine V_icmp_eq 238 dX10_slip_230 (by decide) ⟨fun z => ?_, fun z => ?_⟩
                          · replace k := k.1 z
                            refine V_iload 7 dX10_slip_238 rfl ?_
                            refine V_bipush 7 dX10_slip_240 (by decide) ?_
                            refine V_iadd dX10_slip_242 ?_
                            refine V_aload_n 0 dX10_slip_243 rfl rfl ?_
                            refine GI_26_0 dX10_slip_244 lkX10_119 ?_
                            refine V_re (y := gI h 26 0 0) rfl ?_
                            refine V_icmp_gt 258 dX10_slip_247 (by decide) ⟨fun z => ?_, fun z => ?_⟩
                            · replace k := k.1 z
                              refine V_iconst (-1) dX10_slip_258 (by decide) ?_
                              refine V_iast (by decide) rt_40 dX10_slip_259 k.1 ?_
                              replace k := k.2
                              refine V_aload_n 0 dX10_slip_260 rfl rfl ?_
                              refine GS_26_17 dX10_slip_261 lkX10_52 ?_
                              refine V_iload 8 dX10_slip_264 rfl ?_
                              refine V_iconst (-1) dX10_slip_266 (by decide) ?_
                              refine V_iast (by decide) rt_41 dX10_slip_267 k.1 ?_
                              replace k := k.2
                              refine V_aload_n 0 dX10_slip_268 rfl rfl ?_
                              refine GS_26_18 dX10_slip_269 lkX10_55 ?_
                              refine V_iload 8 dX10_slip_272 rfl ?_
                              refine V_iconst (-1) dX10_slip_274 (by decide) ?_
                              refine V_iast (by decide) rt_42 dX10_slip_275 k.1 ?_
                              replace k := k.2
                              refine V_aload_n 0 dX10_slip_276 rfl rfl ?_
                              refine GS_26_19 dX10_slip_277 lkX10_58 ?_
                              refine V_iload 8 dX10_slip_280 rfl ?_
                              refine V_iload 5 dX10_slip_282 rfl ?_
                              refine V_aload_n 0 dX10_slip_284 rfl rfl ?_
                              refine GS_26_3 dX10_slip_285 lkX10_7 ?_
                              refine V_sipush 364 dX10_slip_288 (by decide) ?_
                              refine V_iload 4 dX10_slip_291 rfl ?_
                              refine V_imul dX10_slip_293 ?_
                              refine V_iload 7 dX10_slip_294 rfl ?_
                              refine V_iadd dX10_slip_296 ?_
                              refine V_iald (by decide) rt_27 dX10_slip_297 k.1 ?_
                              replace k := k.2
                              refine V_re (y := gI h 27 0 ((364 * l4) + l7).toNatClampNeg) rfl ?_
                              refine V_imul dX10_slip_298 ?_
                              refine V_iast (by decide) rt_43 dX10_slip_299 k.1 ?_
                              replace k := k.2
                              refine V_aload_n 0 dX10_slip_300 rfl rfl ?_
                              refine GS_26_4 dX10_slip_301 lkX10_13 ?_
                              refine V_iload 4 dX10_slip_304 rfl ?_
                              refine V_dup2 dX10_slip_306 rfl rfl ?_
                              refine V_iald (by decide) rt_28 dX10_slip_307 k.1 ?_
                              replace k := k.2
                              refine V_re (y := gI h 28 0 l4.toNatClampNeg) rfl ?_
                              refine V_iload 5 dX10_slip_308 rfl ?_
                              refine V_isub dX10_slip_310 ?_
                              refine V_iast (by decide) rt_28 dX10_slip_311 k.1 ?_
                              replace k := k.2
                              refine V_iload 8 dX10_slip_312 rfl ?_
                              exact V_ireturn dX10_slip_314 rfl k
                            · replace k := k.2 z
                              refine V_iload 7 dX10_slip_250 rfl ?_
                              refine V_bipush 7 dX10_slip_252 (by decide) ?_
                              refine V_iadd dX10_slip_254 ?_
                              refine V_goto 259 dX10_slip_255 (by decide) ?_
                              refine V_iast (by decide) rt_40 dX10_slip_259 k.1 ?_
                              replace k := k.2
                              refine V_aload_n 0 dX10_slip_260 rfl rfl ?_
                              refine GS_26_17 dX10_slip_261 lkX10_52 ?_
                              refine V_iload 8 dX10_slip_264 rfl ?_
                              refine V_iconst (-1) dX10_slip_266 (by decide) ?_
                              refine V_iast (by decide) rt_41 dX10_slip_267 k.1 ?_
                              replace k := k.2
                              refine V_aload_n 0 dX10_slip_268 rfl rfl ?_
                              refine GS_26_18 dX10_slip_269 lkX10_55 ?_
                              refine V_iload 8 dX10_slip_272 rfl ?_
                              refine V_iconst (-1) dX10_slip_274 (by decide) ?_
                              refine V_iast (by decide) rt_42 dX10_slip_275 k.1 ?_
                              replace k := k.2
                              refine V_aload_n 0 dX10_slip_276 rfl rfl ?_
                              refine GS_26_19 dX10_slip_277 lkX10_58 ?_
                              refine V_iload 8 dX10_slip_280 rfl ?_
                              refine V_iload 5 dX10_slip_282 rfl ?_
                              refine V_aload_n 0 dX10_slip_284 rfl rfl ?_
                              refine GS_26_3 dX10_slip_285 lkX10_7 ?_
                              refine V_sipush 364 dX10_slip_288 (by decide) ?_
                              refine V_iload 4 dX10_slip_291 rfl ?_
                              refine V_imul dX10_slip_293 ?_
                              refine V_iload 7 dX10_slip_294 rfl ?_
                              refine V_iadd dX10_slip_296 ?_
                              refine V_iald (by decide) rt_27 dX10_slip_297 k.1 ?_
                              replace k := k.2
                              refine V_re (y := gI h 27 0 ((364 * l4) + l7).toNatClampNeg) rfl ?_
                              refine V_imul dX10_slip_298 ?_
                              refine V_iast (by decide) rt_43 dX10_slip_299 k.1 ?_
                              replace k := k.2
                              refine V_aload_n 0 dX10_slip_300 rfl rfl ?_
                              refine GS_26_4 dX10_slip_301 lkX10_13 ?_
                              refine V_iload 4 dX10_slip_304 rfl ?_
                              refine V_dup2 dX10_slip_306 rfl rfl ?_
                              refine V_iald (by decide) rt_28 dX10_slip_307 k.1 ?_
                              replace k := k.2
                              refine V_re (y := gI h 28 0 l4.toNatClampNeg) rfl ?_
                              refine V_iload 5 dX10_slip_308 rfl ?_
                              refine V_isub dX10_slip_310 ?_
                              refine V_iast (by decide) rt_28 dX10_slip_311 k.1 ?_
                              replace k := k.2
                              refine V_iload 8 dX10_slip_312 rfl ?_
                              exact V_ireturn dX10_slip_314 rfl k
                          · replace k := k.2 z
                            refine V_iload 7 dX10_slip_233 rfl ?_
                            refine V_goto 259 dX10_slip_235 (by decide) ?_
                            refine V_iast (by decide) rt_40 dX10_slip_259 k.1 ?_
                            replace k := k.2
                            refine V_aload_n 0 dX10_slip_260 rfl rfl ?_
                            refine GS_26_17 dX10_slip_261 lkX10_52 ?_
                            refine V_iload 8 dX10_slip_264 rfl ?_
                            refine V_iconst (-1) dX10_slip_266 (by decide) ?_
                            refine V_iast (by decide) rt_41 dX10_slip_267 k.1 ?_
                            replace k := k.2
                            refine V_aload_n 0 dX10_slip_268 rfl rfl ?_
                            refine GS_26_18 dX10_slip_269 lkX10_55 ?_
                            refine V_iload 8 dX10_slip_272 rfl ?_
                            refine V_iconst (-1) dX10_slip_274 (by decide) ?_
                            refine V_iast (by decide) rt_42 dX10_slip_275 k.1 ?_
                            replace k := k.2
                            refine V_aload_n 0 dX10_slip_276 rfl rfl ?_
                            refine GS_26_19 dX10_slip_277 lkX10_58 ?_
                            refine V_iload 8 dX10_slip_280 rfl ?_
                            refine V_iload 5 dX10_slip_282 rfl ?_
                            refine V_aload_n 0 dX10_slip_284 rfl rfl ?_
                            refine GS_26_3 dX10_slip_285 lkX10_7 ?_
                            refine V_sipush 364 dX10_slip_288 (by decide) ?_
                            refine V_iload 4 dX10_slip_291 rfl ?_
                            refine V_imul dX10_slip_293 ?_
                            refine V_iload 7 dX10_slip_294 rfl ?_
                            refine V_iadd dX10_slip_296 ?_
                            refine V_iald (by decide) rt_27 dX10_slip_297 k.1 ?_
                            replace k := k.2
                            refine V_re (y := gI h 27 0 ((364 * l4) + l7).toNatClampNeg) rfl ?_
                            refine V_imul dX10_slip_298 ?_
                            refine V_iast (by decide) rt_43 dX10_slip_299 k.1 ?_
                            replace k := k.2
                            refine V_aload_n 0 dX10_slip_300 rfl rfl ?_
                            refine GS_26_4 dX10_slip_301 lkX10_13 ?_
                            refine V_iload 4 dX10_slip_304 rfl ?_
                            refine V_dup2 dX10_slip_306 rfl rfl ?_
                            refine V_iald (by decide) rt_28 dX10_slip_307 k.1 ?_
                            replace k := k.2
                            refine V_re (y := gI h 28 0 l4.toNatClampNeg) rfl ?_
                            refine V_iload 5 dX10_slip_308 rfl ?_
                            refine V_isub dX10_slip_310 ?_
                            refine V_iast (by decide) rt_28 dX10_slip_311 k.1 ?_
                            replace k := k.2
                            refine V_iload 8 dX10_slip_312 rfl ?_
                            exact V_ireturn dX10_slip_314 rfl k
                        · replace k := k.2 z
                          refine V_iconst (-1) dX10_slip_133 (by decide) ?_
                          exact V_ireturn dX10_slip_134 rfl k
                · replace k := k.2 z
                  refine V_goto 83 dX10_slip_70 (by decide) ?_
                  refine V_iconst (-1) dX10_slip_83 (by decide) ?_
                  exact V_ireturn dX10_slip_84 rfl k
            · replace k := k.2 z
              refine V_iconst (-1) dX10_slip_59 (by decide) ?_
              exact V_ireturn dX10_slip_60 rfl k
-- X10_paper cuts []
set_option maxRecDepth 20000 in
set_option maxHeartbeats 2000000 in
theorem wX10_paper {d bc bs : Nat} {h : HS} {P : Option AV → HS → Prop} {l1 : Int32} {l2 : Int32} (k : (((inR l1 0 (gI h 26 0 2 - 1))) → ((l2 = 0 → (vp_in l1 120 ∧ ((((gI h 41 0 l1.toNatClampNeg) = (-1)) → (vp_in l1 120 ∧ ((((gI h 40 0 l1.toNatClampNeg) = (-1)) → (P (some (aI 1)) h)) ∧ ((¬ (gI h 40 0 l1.toNatClampNeg) = (-1)) → (P (some (aI 0)) h))))) ∧ ((¬ (gI h 41 0 l1.toNatClampNeg) = (-1)) → (P (some (aI 2)) h))))) ∧ (l2 = 1 → (vp_in l1 120 ∧ (P (some (aI (gI h 43 0 l1.toNatClampNeg))) h))) ∧ (l2 = 2 → (vp_in l1 120 ∧ (P (some (aI (gI h 38 0 l1.toNatClampNeg))) h))) ∧ (l2 = 3 → (vp_in l1 120 ∧ (P (some (aI (gI h 39 0 l1.toNatClampNeg))) h))) ∧ (l2 = 4 → (vp_in l1 120 ∧ (P (some (aI (gI h 40 0 l1.toNatClampNeg))) h))) ∧ (l2 = 5 → (vp_in l1 120 ∧ (P (some (aI (gI h 41 0 l1.toNatClampNeg))) h))) ∧ (l2 = 6 → (vp_in l1 120 ∧ (P (some (aI (gI h 42 0 l1.toNatClampNeg))) h))) ∧ (¬ (0 ≤ (l2).toInt ∧ (l2).toInt ≤ 6) → (P (some (aI (-1))) h)))) ∧ ((¬ (inR l1 0 (gI h 26 0 2 - 1))) → (P (some (aI (-1))) h))) : Cl true mX10_paper (d + 3) bc bs [aR 26 0, aI l1, aI l2] h P := by
  refine Cl_of (by decide) (Nat.le_of_ble_eq_true rfl) ?_
  show V true mX10_paper (d + 3) bc bs 0 [(0, aR 26 0), (1, aI l1), (2, aI l2)] [] h P
  refine V_aload_n 0 dX10_paper_0 rfl rfl ?_
  refine V_iload_n 1 dX10_paper_1 rfl rfl ?_
  refine V_callV (mc := 0) (ms := 0) (as := [aI l1]) (st := []) (by decide) rt_26 rfl dX10_paper_2 okX10_isSlip inX10_isSlip seX10_isSlip lkX10_131 rfl (Nat.le_of_ble_eq_true rfl) (Nat.zero_le _) (Nat.zero_le _) (cX10_isSlip_ ?_)
  show V true mX10_paper (d + 3) bc bs 5 [(0, aR 26 0), (1, aI l1), (2, aI l2)] [aI (bI (inR l1 0 (gI h 26 0 2 - 1)))] h P
  refine V_if_ne 10 dX10_paper_5 (by decide) ⟨fun z => ?_, fun z => ?_⟩
  · replace k := k.1 (bI_1 z)
    refine V_iload_n 2 dX10_paper_10 rfl rfl ?_
    obtain ⟨k0, k1, k2, k3, k4, k5, k6, k7⟩ := k
    rcases sw_cases l2 (0) (6) (by decide) (by decide) with zo | ⟨zn, zl, zx⟩
    · have k := k7 zo
      refine V_tabOut 124 dX10_paper_11 (sw_out zo) (by decide) ?_
      refine V_iconst (-1) dX10_paper_124 (by decide) ?_
      exact V_ireturn dX10_paper_125 rfl k
    · match zn, zl, zx with
      | 0, _, zx =>
        have zx : l2 = 0 := zx
        have k := k0 zx
        refine V_tabIn 52 dX10_paper_11 (by rw [zx]; decide) (by rw [zx]; decide) (by rw [zx]; rfl) (by decide) ?_
        refine V_aload_n 0 dX10_paper_52 rfl rfl ?_
        refine GS_26_17 dX10_paper_53 lkX10_52 ?_
        refine V_iload_n 1 dX10_paper_56 rfl rfl ?_
        refine V_iald (by decide) rt_41 dX10_paper_57 k.1 ?_
        replace k := k.2
        refine V_iconst (-1) dX10_paper_58 (by decide) ?_
        refine V_icmp_eq 66 dX10_paper_59 (by decide) ⟨fun z => ?_, fun z => ?_⟩
        · replace k := k.1 z
          refine V_aload_n 0 dX10_paper_66 rfl rfl ?_
          refine GS_26_16 dX10_paper_67 lkX10_49 ?_
          refine V_iload_n 1 dX10_paper_70 rfl rfl ?_
          refine V_iald (by decide) rt_40 dX10_paper_71 k.1 ?_
          replace k := k.2
          refine V_iconst (-1) dX10_paper_72 (by decide) ?_
          refine V_icmp_eq 80 dX10_paper_73 (by decide) ⟨fun z => ?_, fun z => ?_⟩
          · replace k := k.1 z
            refine V_iconst 1 dX10_paper_80 (by decide) ?_
            exact V_ireturn dX10_paper_81 rfl k
          · replace k := k.2 z
            refine V_iconst 0 dX10_paper_76 (by decide) ?_
            refine V_goto 81 dX10_paper_77 (by decide) ?_
            exact V_ireturn dX10_paper_81 rfl k
        · replace k := k.2 z
          refine V_iconst 2 dX10_paper_62 (by decide) ?_
          refine V_goto 81 dX10_paper_63 (by decide) ?_
          exact V_ireturn dX10_paper_81 rfl k
      | 1, _, zx =>
        have zx : l2 = 1 := zx
        have k := k1 zx
        refine V_tabIn 82 dX10_paper_11 (by rw [zx]; decide) (by rw [zx]; decide) (by rw [zx]; rfl) (by decide) ?_
        refine V_aload_n 0 dX10_paper_82 rfl rfl ?_
        refine GS_26_19 dX10_paper_83 lkX10_58 ?_
        refine V_iload_n 1 dX10_paper_86 rfl rfl ?_
        refine V_iald (by decide) rt_43 dX10_paper_87 k.1 ?_
        replace k := k.2
        exact V_ireturn dX10_paper_88 rfl k
      | 2, _, zx =>
        have zx : l2 = 2 := zx
        have k := k2 zx
        refine V_tabIn 89 dX10_paper_11 (by rw [zx]; decide) (by rw [zx]; decide) (by rw [zx]; rfl) (by decide) ?_
        refine V_aload_n 0 dX10_paper_89 rfl rfl ?_
        refine GS_26_14 dX10_paper_90 lkX10_43 ?_
        refine V_iload_n 1 dX10_paper_93 rfl rfl ?_
        refine V_iald (by decide) rt_38 dX10_paper_94 k.1 ?_
        replace k := k.2
        exact V_ireturn dX10_paper_95 rfl k
      | 3, _, zx =>
        have zx : l2 = 3 := zx
        have k := k3 zx
        refine V_tabIn 96 dX10_paper_11 (by rw [zx]; decide) (by rw [zx]; decide) (by rw [zx]; rfl) (by decide) ?_
        refine V_aload_n 0 dX10_paper_96 rfl rfl ?_
        refine GS_26_15 dX10_paper_97 lkX10_46 ?_
        refine V_iload_n 1 dX10_paper_100 rfl rfl ?_
        refine V_iald (by decide) rt_39 dX10_paper_101 k.1 ?_
        replace k := k.2
        exact V_ireturn dX10_paper_102 rfl k
      | 4, _, zx =>
        have zx : l2 = 4 := zx
        have k := k4 zx
        refine V_tabIn 103 dX10_paper_11 (by rw [zx]; decide) (by rw [zx]; decide) (by rw [zx]; rfl) (by decide) ?_
        refine V_aload_n 0 dX10_paper_103 rfl rfl ?_
        refine GS_26_16 dX10_paper_104 lkX10_49 ?_
        refine V_iload_n 1 dX10_paper_107 rfl rfl ?_
        refine V_iald (by decide) rt_40 dX10_paper_108 k.1 ?_
        replace k := k.2
        exact V_ireturn dX10_paper_109 rfl k
      | 5, _, zx =>
        have zx : l2 = 5 := zx
        have k := k5 zx
        refine V_tabIn 110 dX10_paper_11 (by rw [zx]; decide) (by rw [zx]; decide) (by rw [zx]; rfl) (by decide) ?_
        refine V_aload_n 0 dX10_paper_110 rfl rfl ?_
        refine GS_26_17 dX10_paper_111 lkX10_52 ?_
        refine V_iload_n 1 dX10_paper_114 rfl rfl ?_
        refine V_iald (by decide) rt_41 dX10_paper_115 k.1 ?_
        replace k := k.2
        exact V_ireturn dX10_paper_116 rfl k
      | 6, _, zx =>
        have zx : l2 = 6 := zx
        have k := k6 zx
        refine V_tabIn 117 dX10_paper_11 (by rw [zx]; decide) (by rw [zx]; decide) (by rw [zx]; rfl) (by decide) ?_
        refine V_aload_n 0 dX10_paper_117 rfl rfl ?_
        refine GS_26_18 dX10_paper_118 lkX10_55 ?_
        refine V_iload_n 1 dX10_paper_121 rfl rfl ?_
        refine V_iald (by decide) rt_42 dX10_paper_122 k.1 ?_
        replace k := k.2
        exact V_ireturn dX10_paper_123 rfl k
      | n + 7, zl, _ => exact absurd zl (by omega)
  · replace k := k.2 (bI_0 z)
    refine V_iconst (-1) dX10_paper_8 (by decide) ?_
    exact V_ireturn dX10_paper_9 rfl k
-- X10_back cuts []
set_option maxRecDepth 20000 in
set_option maxHeartbeats 2000000 in
theorem wX10_back {d bc bs : Nat} {h : HS} {P : Option AV → HS → Prop} {l1 : Int32} (k : ((¬ (inR l1 0 (gI h 26 0 2 - 1))) → (P (some (aI 0)) h)) ∧ (((inR l1 0 (gI h 26 0 2 - 1))) → (vp_in l1 120 ∧ (((¬ (gI h 41 0 l1.toNatClampNeg) = (-1)) → (P (some (aI 0)) h)) ∧ (((gI h 41 0 l1.toNatClampNeg) = (-1)) → (vp_in l1 120 ∧ ((((gI h 40 0 l1.toNatClampNeg) = (-1)) → (vp_in l1 120 ∧ (vp_in l1 120 ∧ (vp_in (gI h 35 0 l1.toNatClampNeg) 12 ∧ (vp_in l1 120 ∧ (vp_in (gI h 35 0 l1.toNatClampNeg) 12 ∧ (P (some (aI 1)) (sI (sI h 41 0 l1.toNatClampNeg (gI h 26 0 0)) 28 0 (gI h 35 0 l1.toNatClampNeg).toNatClampNeg ((gI h 28 0 (gI h 35 0 l1.toNatClampNeg).toNatClampNeg) + (gI h 36 0 l1.toNatClampNeg)))))))))) ∧ ((¬ (gI h 40 0 l1.toNatClampNeg) = (-1)) → (vp_in l1 120 ∧ (((((gI h 26 0 0) - (gI h 40 0 l1.toNatClampNeg)) ≤ 28) → (vp_in l1 120 ∧ (vp_in l1 120 ∧ (vp_in (gI h 35 0 l1.toNatClampNeg) 12 ∧ (vp_in l1 120 ∧ (vp_in (gI h 35 0 l1.toNatClampNeg) 12 ∧ (P (some (aI 1)) (sI (sI h 41 0 l1.toNatClampNeg (gI h 26 0 0)) 28 0 (gI h 35 0 l1.toNatClampNeg).toNatClampNeg ((gI h 28 0 (gI h 35 0 l1.toNatClampNeg).toNatClampNeg) + (gI h 36 0 l1.toNatClampNeg)))))))))) ∧ ((¬ ((gI h 26 0 0) - (gI h 40 0 l1.toNatClampNeg)) ≤ 28) → (P (some (aI 0)) h)))))))))))) : Cl true mX10_back (d + 3) bc bs [aR 26 0, aI l1] h P := by
  refine Cl_of (by decide) (Nat.le_of_ble_eq_true rfl) ?_
  show V true mX10_back (d + 3) bc bs 0 [(0, aR 26 0), (1, aI l1)] [] h P
  refine V_aload_n 0 dX10_back_0 rfl rfl ?_
  refine V_iload_n 1 dX10_back_1 rfl rfl ?_
  refine V_callV (mc := 0) (ms := 0) (as := [aI l1]) (st := []) (by decide) rt_26 rfl dX10_back_2 okX10_isSlip inX10_isSlip seX10_isSlip lkX10_131 rfl (Nat.le_of_ble_eq_true rfl) (Nat.zero_le _) (Nat.zero_le _) (cX10_isSlip_ ?_)
  show V true mX10_back (d + 3) bc bs 5 [(0, aR 26 0), (1, aI l1)] [aI (bI (inR l1 0 (gI h 26 0 2 - 1)))] h P
  refine V_if_eq 44 dX10_back_5 (by decide) ⟨fun z => ?_, fun z => ?_⟩
  · replace k := k.1 (bI_0 z)
    refine V_iconst 0 dX10_back_44 (by decide) ?_
    exact V_zreturn dX10_back_45 rfl (by decide) k
  · replace k := k.2 (bI_1 z)
    refine V_aload_n 0 dX10_back_8 rfl rfl ?_
    refine GS_26_17 dX10_back_9 lkX10_52 ?_
    refine V_iload_n 1 dX10_back_12 rfl rfl ?_
    refine V_iald (by decide) rt_41 dX10_back_13 k.1 ?_
    replace k := k.2
    refine V_iconst (-1) dX10_back_14 (by decide) ?_
    refine V_icmp_ne 44 dX10_back_15 (by decide) ⟨fun z => ?_, fun z => ?_⟩
    · replace k := k.1 z
      refine V_iconst 0 dX10_back_44 (by decide) ?_
      exact V_zreturn dX10_back_45 rfl (by decide) k
    · replace k := k.2 z
      refine V_aload_n 0 dX10_back_18 rfl rfl ?_
      refine GS_26_16 dX10_back_19 lkX10_49 ?_
      refine V_iload_n 1 dX10_back_22 rfl rfl ?_
      refine V_iald (by decide) rt_40 dX10_back_23 k.1 ?_
      replace k := k.2
      refine V_iconst (-1) dX10_back_24 (by decide) ?_
      refine V_icmp_eq 46 dX10_back_25 (by decide) ⟨fun z => ?_, fun z => ?_⟩
      · replace k := k.1 z
        refine V_aload_n 0 dX10_back_46 rfl rfl ?_
        refine GS_26_17 dX10_back_47 lkX10_52 ?_
        refine V_iload_n 1 dX10_back_50 rfl rfl ?_
        refine V_aload_n 0 dX10_back_51 rfl rfl ?_
        refine GI_26_0 dX10_back_52 lkX10_119 ?_
        refine V_iast (by decide) rt_41 dX10_back_55 k.1 ?_
        replace k := k.2
        refine V_aload_n 0 dX10_back_56 rfl rfl ?_
        refine GS_26_4 dX10_back_57 lkX10_13 ?_
        refine V_aload_n 0 dX10_back_60 rfl rfl ?_
        refine GS_26_11 dX10_back_61 lkX10_34 ?_
        refine V_iload_n 1 dX10_back_64 rfl rfl ?_
        refine V_iald (by decide) rt_35 dX10_back_65 k.1 ?_
        replace k := k.2
        refine V_re (y := gI h 35 0 l1.toNatClampNeg) rfl ?_
        refine V_dup2 dX10_back_66 rfl rfl ?_
        refine V_iald (by decide) rt_28 dX10_back_67 k.1 ?_
        replace k := k.2
        refine V_re (y := gI h 28 0 (gI h 35 0 l1.toNatClampNeg).toNatClampNeg) rfl ?_
        refine V_aload_n 0 dX10_back_68 rfl rfl ?_
        refine GS_26_12 dX10_back_69 lkX10_37 ?_
        refine V_iload_n 1 dX10_back_72 rfl rfl ?_
        refine V_iald (by decide) rt_36 dX10_back_73 k.1 ?_
        replace k := k.2
        refine V_re (y := gI h 36 0 l1.toNatClampNeg) rfl ?_
        refine V_iadd dX10_back_74 ?_
        refine V_iast (by decide) rt_28 dX10_back_75 k.1 ?_
        replace k := k.2
        refine V_iconst 1 dX10_back_76 (by decide) ?_
        exact V_zreturn dX10_back_77 rfl (by decide) k
      · replace k := k.2 z
        refine V_aload_n 0 dX10_back_28 rfl rfl ?_
        refine GI_26_0 dX10_back_29 lkX10_119 ?_
        refine V_aload_n 0 dX10_back_32 rfl rfl ?_
        refine GS_26_16 dX10_back_33 lkX10_49 ?_
        refine V_iload_n 1 dX10_back_36 rfl rfl ?_
        refine V_iald (by decide) rt_40 dX10_back_37 k.1 ?_
        replace k := k.2
        refine V_isub dX10_back_38 ?_
        refine V_bipush 28 dX10_back_39 (by decide) ?_
        refine V_icmp_le 46 dX10_back_41 (by decide) ⟨fun z => ?_, fun z => ?_⟩
        · replace k := k.1 z
          refine V_aload_n 0 dX10_back_46 rfl rfl ?_
          refine GS_26_17 dX10_back_47 lkX10_52 ?_
          refine V_iload_n 1 dX10_back_50 rfl rfl ?_
          refine V_aload_n 0 dX10_back_51 rfl rfl ?_
          refine GI_26_0 dX10_back_52 lkX10_119 ?_
          refine V_iast (by decide) rt_41 dX10_back_55 k.1 ?_
          replace k := k.2
          refine V_aload_n 0 dX10_back_56 rfl rfl ?_
          refine GS_26_4 dX10_back_57 lkX10_13 ?_
          refine V_aload_n 0 dX10_back_60 rfl rfl ?_
          refine GS_26_11 dX10_back_61 lkX10_34 ?_
          refine V_iload_n 1 dX10_back_64 rfl rfl ?_
          refine V_iald (by decide) rt_35 dX10_back_65 k.1 ?_
          replace k := k.2
          refine V_re (y := gI h 35 0 l1.toNatClampNeg) rfl ?_
          refine V_dup2 dX10_back_66 rfl rfl ?_
          refine V_iald (by decide) rt_28 dX10_back_67 k.1 ?_
          replace k := k.2
          refine V_re (y := gI h 28 0 (gI h 35 0 l1.toNatClampNeg).toNatClampNeg) rfl ?_
          refine V_aload_n 0 dX10_back_68 rfl rfl ?_
          refine GS_26_12 dX10_back_69 lkX10_37 ?_
          refine V_iload_n 1 dX10_back_72 rfl rfl ?_
          refine V_iald (by decide) rt_36 dX10_back_73 k.1 ?_
          replace k := k.2
          refine V_re (y := gI h 36 0 l1.toNatClampNeg) rfl ?_
          refine V_iadd dX10_back_74 ?_
          refine V_iast (by decide) rt_28 dX10_back_75 k.1 ?_
          replace k := k.2
          refine V_iconst 1 dX10_back_76 (by decide) ?_
          exact V_zreturn dX10_back_77 rfl (by decide) k
        · replace k := k.2 z
          refine V_iconst 0 dX10_back_44 (by decide) ?_
          exact V_zreturn dX10_back_45 rfl (by decide) k
-- X10_look cuts [61, 107]
set_option maxRecDepth 20000 in
set_option maxHeartbeats 2000000 in
theorem wX10_look {d bc bs : Nat} {h : HS} {P : Option AV → HS → Prop} {l1 : Int32} (k : (l1 = 0 → (P (some (aI (gI h 26 0 0))) h)) ∧ (l1 = 1 → (P (some (aI (gI h 26 0 1))) h)) ∧ (l1 = 2 → (P (some (aI (gI h 26 0 2))) h)) ∧ (l1 = 3 → (V true mX10_look (d + 3) bc bs 61 [(0, aR 26 0), (2, aI 0), (3, aI 0)] [] h P)) ∧ (l1 = 4 → (V true mX10_look (d + 3) bc bs 107 [(0, aR 26 0), (2, aI 0), (3, aI 0)] [] h P)) ∧ (l1 = 5 → (P (some (aI (gI h 26 0 20))) h)) ∧ (l1 = 6 → (P (some (aI (gI h 26 0 24))) h)) ∧ (¬ (0 ≤ (l1).toInt ∧ (l1).toInt ≤ 6) → (P (some (aI (-1))) h))) : Cl true mX10_look (d + 3) bc bs [aR 26 0, aI l1] h P := by
  refine Cl_of (by decide) (Nat.le_of_ble_eq_true rfl) ?_
  show V true mX10_look (d + 3) bc bs 0 [(0, aR 26 0), (1, aI l1)] [] h P
  refine V_iconst 0 dX10_look_0 (by decide) ?_
  refine V_istore_n 2 dX10_look_1 rfl (by decide) rfl ?_
  refine V_iload_n 1 dX10_look_2 rfl rfl ?_
  obtain ⟨k0, k1, k2, k3, k4, k5, k6, k7⟩ := k
  rcases sw_cases l1 (0) (6) (by decide) (by decide) with zo | ⟨zn, zl, zx⟩
  · have k := k7 zo
    refine V_tabOut 149 dX10_look_3 (sw_out zo) (by decide) ?_
    refine V_iconst (-1) dX10_look_149 (by decide) ?_
    exact V_ireturn dX10_look_150 rfl k
  · match zn, zl, zx with
    | 0, _, zx =>
      have zx : l1 = 0 := zx
      have k := k0 zx
      refine V_tabIn 44 dX10_look_3 (by rw [zx]; decide) (by rw [zx]; decide) (by rw [zx]; rfl) (by decide) ?_
      refine V_aload_n 0 dX10_look_44 rfl rfl ?_
      refine GI_26_0 dX10_look_45 lkX10_119 ?_
      exact V_ireturn dX10_look_48 rfl k
    | 1, _, zx =>
      have zx : l1 = 1 := zx
      have k := k1 zx
      refine V_tabIn 49 dX10_look_3 (by rw [zx]; decide) (by rw [zx]; decide) (by rw [zx]; rfl) (by decide) ?_
      refine V_aload_n 0 dX10_look_49 rfl rfl ?_
      refine GI_26_1 dX10_look_50 lkX10_108 ?_
      exact V_ireturn dX10_look_53 rfl k
    | 2, _, zx =>
      have zx : l1 = 2 := zx
      have k := k2 zx
      refine V_tabIn 54 dX10_look_3 (by rw [zx]; decide) (by rw [zx]; decide) (by rw [zx]; rfl) (by decide) ?_
      refine V_aload_n 0 dX10_look_54 rfl rfl ?_
      refine GI_26_2 dX10_look_55 lkX10_125 ?_
      exact V_ireturn dX10_look_58 rfl k
    | 3, _, zx =>
      have zx : l1 = 3 := zx
      have k := k3 zx
      refine V_tabIn 59 dX10_look_3 (by rw [zx]; decide) (by rw [zx]; decide) (by rw [zx]; rfl) (by decide) ?_
      refine V_iconst 0 dX10_look_59 (by decide) ?_
      refine V_istore_n 3 dX10_look_60 rfl (by decide) rfl ?_
      exact V_lv [2, 1, 0] rfl k
    | 4, _, zx =>
      have zx : l1 = 4 := zx
      have k := k4 zx
      refine V_tabIn 105 dX10_look_3 (by rw [zx]; decide) (by rw [zx]; decide) (by rw [zx]; rfl) (by decide) ?_
      refine V_iconst 0 dX10_look_105 (by decide) ?_
      refine V_istore_n 3 dX10_look_106 rfl (by decide) rfl ?_
      exact V_lv [2, 1, 0] rfl k
    | 5, _, zx =>
      have zx : l1 = 5 := zx
      have k := k5 zx
      refine V_tabIn 139 dX10_look_3 (by rw [zx]; decide) (by rw [zx]; decide) (by rw [zx]; rfl) (by decide) ?_
      refine V_aload_n 0 dX10_look_139 rfl rfl ?_
      refine GI_26_20 dX10_look_140 lkX10_128 ?_
      exact V_ireturn dX10_look_143 rfl k
    | 6, _, zx =>
      have zx : l1 = 6 := zx
      have k := k6 zx
      refine V_tabIn 144 dX10_look_3 (by rw [zx]; decide) (by rw [zx]; decide) (by rw [zx]; rfl) (by decide) ?_
      refine V_aload_n 0 dX10_look_144 rfl rfl ?_
      refine GI_26_24 dX10_look_145 lkX10_137 ?_
      exact V_ireturn dX10_look_148 rfl k
    | n + 7, zl, _ => exact absurd zl (by omega)
set_option maxRecDepth 20000 in
set_option maxHeartbeats 2000000 in
theorem wX10_look_61 {d bc bs : Nat} {h : HS} {P : Option AV → HS → Prop} {l2 : Int32} {l3 : Int32} (k : (((gI h 26 0 2) ≤ l3) → (P (some (aI l2)) h)) ∧ ((¬ (gI h 26 0 2) ≤ l3) → (vp_in l3 120 ∧ (((¬ (gI h 40 0 l3.toNatClampNeg) = (-1)) → (V true mX10_look (d + 3) bc bs 61 [(0, aR 26 0), (2, aI (l2 + 0)), (3, aI (l3 + 1))] [] h P)) ∧ (((gI h 40 0 l3.toNatClampNeg) = (-1)) → (vp_in l3 120 ∧ (((¬ (gI h 41 0 l3.toNatClampNeg) = (-1)) → (V true mX10_look (d + 3) bc bs 61 [(0, aR 26 0), (2, aI (l2 + 0)), (3, aI (l3 + 1))] [] h P)) ∧ (((gI h 41 0 l3.toNatClampNeg) = (-1)) → (V true mX10_look (d + 3) bc bs 61 [(0, aR 26 0), (2, aI (l2 + 1)), (3, aI (l3 + 1))] [] h P))))))))) : V true mX10_look (d + 3) bc bs 61 [(0, aR 26 0), (2, aI l2), (3, aI l3)] [] h P := by
  refine V_iload_n 3 dX10_look_61 rfl rfl ?_
  refine V_aload_n 0 dX10_look_62 rfl rfl ?_
  refine GI_26_2 dX10_look_63 lkX10_125 ?_
  refine V_icmp_ge 103 dX10_look_66 (by decide) ⟨fun z => ?_, fun z => ?_⟩
  · replace k := k.1 z
    refine V_iload_n 2 dX10_look_103 rfl rfl ?_
    exact V_ireturn dX10_look_104 rfl k
  · replace k := k.2 z
    refine V_iload_n 2 dX10_look_69 rfl rfl ?_
    refine V_aload_n 0 dX10_look_70 rfl rfl ?_
    refine GS_26_16 dX10_look_71 lkX10_49 ?_
    refine V_iload_n 3 dX10_look_74 rfl rfl ?_
    refine V_iald (by decide) rt_40 dX10_look_75 k.1 ?_
    replace k := k.2
    refine V_iconst (-1) dX10_look_76 (by decide) ?_
    refine V_icmp_ne 94 dX10_look_77 (by decide) ⟨fun z => ?_, fun z => ?_⟩
    · replace k := k.1 z
      refine V_iconst 0 dX10_look_94 (by decide) ?_
      refine V_iadd dX10_look_95 ?_
      refine V_istore_n 2 dX10_look_96 rfl (by decide) rfl ?_
      refine V_iinc 3 (v := l3 + 1) dX10_look_97 rfl rfl (by decide) rfl ?_
      refine V_goto 61 dX10_look_100 (by decide) ?_
      exact V_lv [2, 1, 0] rfl k
    · replace k := k.2 z
      refine V_aload_n 0 dX10_look_80 rfl rfl ?_
      refine GS_26_17 dX10_look_81 lkX10_52 ?_
      refine V_iload_n 3 dX10_look_84 rfl rfl ?_
      refine V_iald (by decide) rt_41 dX10_look_85 k.1 ?_
      replace k := k.2
      refine V_iconst (-1) dX10_look_86 (by decide) ?_
      refine V_icmp_ne 94 dX10_look_87 (by decide) ⟨fun z => ?_, fun z => ?_⟩
      · replace k := k.1 z
        refine V_iconst 0 dX10_look_94 (by decide) ?_
        refine V_iadd dX10_look_95 ?_
        refine V_istore_n 2 dX10_look_96 rfl (by decide) rfl ?_
        refine V_iinc 3 (v := l3 + 1) dX10_look_97 rfl rfl (by decide) rfl ?_
        refine V_goto 61 dX10_look_100 (by decide) ?_
        exact V_lv [2, 1, 0] rfl k
      · replace k := k.2 z
        refine V_iconst 1 dX10_look_90 (by decide) ?_
        refine V_goto 95 dX10_look_91 (by decide) ?_
        refine V_iadd dX10_look_95 ?_
        refine V_istore_n 2 dX10_look_96 rfl (by decide) rfl ?_
        refine V_iinc 3 (v := l3 + 1) dX10_look_97 rfl rfl (by decide) rfl ?_
        refine V_goto 61 dX10_look_100 (by decide) ?_
        exact V_lv [2, 1, 0] rfl k
set_option maxRecDepth 20000 in
set_option maxHeartbeats 2000000 in
theorem wX10_look_107 {d bc bs : Nat} {h : HS} {P : Option AV → HS → Prop} {l2 : Int32} {l3 : Int32} (k : (((gI h 26 0 2) ≤ l3) → (P (some (aI l2)) h)) ∧ ((¬ (gI h 26 0 2) ≤ l3) → ((vp_in l3 120) ∧ (((¬ (mPar h l3.toNatClampNeg)) → (V true mX10_look (d + 3) bc bs 107 [(0, aR 26 0), (2, aI (l2 + 0)), (3, aI (l3 + 1))] [] h P)) ∧ (((mPar h l3.toNatClampNeg)) → (V true mX10_look (d + 3) bc bs 107 [(0, aR 26 0), (2, aI (l2 + 1)), (3, aI (l3 + 1))] [] h P)))))) : V true mX10_look (d + 3) bc bs 107 [(0, aR 26 0), (2, aI l2), (3, aI l3)] [] h P := by
  refine V_iload_n 3 dX10_look_107 rfl rfl ?_
  refine V_aload_n 0 dX10_look_108 rfl rfl ?_
  refine GI_26_2 dX10_look_109 lkX10_125 ?_
  refine V_icmp_ge 137 dX10_look_112 (by decide) ⟨fun z => ?_, fun z => ?_⟩
  · replace k := k.1 z
    refine V_iload_n 2 dX10_look_137 rfl rfl ?_
    exact V_ireturn dX10_look_138 rfl k
  · replace k := k.2 z
    refine V_iload_n 2 dX10_look_115 rfl rfl ?_
    refine V_aload_n 0 dX10_look_116 rfl rfl ?_
    refine V_iload_n 3 dX10_look_117 rfl rfl ?_
    obtain ⟨s3, k⟩ := k
    refine V_callV (mc := 0) (ms := 0) (as := [aI l3]) (st := [aI l2]) (by decide) rt_26 rfl dX10_look_118 okX10_isParcel inX10_isParcel seX10_isParcel lkX10_134 rfl (Nat.le_of_ble_eq_true rfl) (Nat.zero_le _) (Nat.zero_le _) (cX10_isParcel_ s3 ?_)
    show V true mX10_look (d + 3) bc bs 121 [(0, aR 26 0), (2, aI l2), (3, aI l3)] [aI (bI (mPar h l3.toNatClampNeg)), aI l2] h P
    refine V_if_eq 128 dX10_look_121 (by decide) ⟨fun z => ?_, fun z => ?_⟩
    · replace k := k.1 (bI_0 z)
      refine V_iconst 0 dX10_look_128 (by decide) ?_
      refine V_iadd dX10_look_129 ?_
      refine V_istore_n 2 dX10_look_130 rfl (by decide) rfl ?_
      refine V_iinc 3 (v := l3 + 1) dX10_look_131 rfl rfl (by decide) rfl ?_
      refine V_goto 107 dX10_look_134 (by decide) ?_
      exact V_lv [2, 1, 0] rfl k
    · replace k := k.2 (bI_1 z)
      refine V_iconst 1 dX10_look_124 (by decide) ?_
      refine V_goto 129 dX10_look_125 (by decide) ?_
      refine V_iadd dX10_look_129 ?_
      refine V_istore_n 2 dX10_look_130 rfl (by decide) rfl ?_
      refine V_iinc 3 (v := l3 + 1) dX10_look_131 rfl rfl (by decide) rfl ?_
      refine V_goto 107 dX10_look_134 (by decide) ?_
      exact V_lv [2, 1, 0] rfl k
-- X10_van cuts [33, 57, 116, 185]
set_option maxRecDepth 20000 in
set_option maxHeartbeats 2000000 in
theorem wX10_van {d bc bs : Nat} {h : HS} {P : Option AV → HS → Prop} {l1 : Int32} (k : ((¬ (inR l1 0 500)) → (P (some (aI (-1))) h)) ∧ (((inR l1 0 500)) → (((¬ (gI h 26 0 20) = 2) → (V true mX10_van (d + 3) bc bs 33 [(0, aR 26 0), (2, aI l1), (3, aI 0), (4, aI 0)] [] (sI h 26 0 21 0) P)) ∧ (((gI h 26 0 20) = 2) → (P (some (aI (-1))) h))))) : Cl true mX10_van (d + 3) bc bs [aR 26 0, aI l1] h P := by
  refine Cl_of (by decide) (Nat.le_of_ble_eq_true rfl) ?_
  show V true mX10_van (d + 3) bc bs 0 [(0, aR 26 0), (1, aI l1)] [] h P
  refine V_iload_n 1 dX10_van_0 rfl rfl ?_
  refine V_iconst 0 dX10_van_1 (by decide) ?_
  refine V_sipush 500 dX10_van_2 (by decide) ?_
  refine V_callS (mc := 0) (ms := 0) (as := [aI l1, aI 0, aI 500]) (st := []) dX10_van_5 okX10_isIn stX10_isIn lkX10_111 rfl (Nat.le_of_ble_eq_true rfl) (Nat.zero_le _) (Nat.zero_le _) (cX10_isIn_ ?_)
  show V true mX10_van (d + 3) bc bs 8 [(0, aR 26 0), (1, aI l1)] [aI (bI (inR l1 0 500))] h P
  refine V_if_eq 19 dX10_van_8 (by decide) ⟨fun z => ?_, fun z => ?_⟩
  · replace k := k.1 (bI_0 z)
    refine V_iconst (-1) dX10_van_19 (by decide) ?_
    exact V_ireturn dX10_van_20 rfl k
  · replace k := k.2 (bI_1 z)
    refine V_aload_n 0 dX10_van_11 rfl rfl ?_
    refine GI_26_20 dX10_van_12 lkX10_128 ?_
    refine V_iconst 2 dX10_van_15 (by decide) ?_
    refine V_icmp_ne 21 dX10_van_16 (by decide) ⟨fun z => ?_, fun z => ?_⟩
    · replace k := k.1 z
      refine V_iload_n 1 dX10_van_21 rfl rfl ?_
      refine V_istore_n 2 dX10_van_22 rfl (by decide) rfl ?_
      refine V_iconst 0 dX10_van_23 (by decide) ?_
      refine V_istore_n 3 dX10_van_24 rfl (by decide) rfl ?_
      refine V_aload_n 0 dX10_van_25 rfl rfl ?_
      refine V_iconst 0 dX10_van_26 (by decide) ?_
      refine PI_26_21 dX10_van_27 lkX10_140 ?_
      refine V_iconst 0 dX10_van_30 (by decide) ?_
      refine V_istore 4 dX10_van_31 (by decide) rfl ?_
      exact V_lv [3, 2, 1, 0] rfl k
    · replace k := k.2 z
      refine V_iconst (-1) dX10_van_19 (by decide) ?_
      exact V_ireturn dX10_van_20 rfl k
set_option maxRecDepth 20000 in
set_option maxHeartbeats 2000000 in
theorem wX10_van_33 {d bc bs : Nat} {h : HS} {P : Option AV → HS → Prop} {l2 : Int32} {l3 : Int32} {l4 : Int32} (k : ((20 ≤ l4) → (V true mX10_van (d + 3) bc bs 57 [(0, aR 26 0), (2, aI l2), (3, aI l3), (4, aI 0)] [] h P)) ∧ ((¬ 20 ≤ l4) → (vp_in l4 20 ∧ (V true mX10_van (d + 3) bc bs 33 [(0, aR 26 0), (2, aI l2), (3, aI l3), (4, aI (l4 + 1))] [] (sI h 45 0 l4.toNatClampNeg 0) P)))) : V true mX10_van (d + 3) bc bs 33 [(0, aR 26 0), (2, aI l2), (3, aI l3), (4, aI l4)] [] h P := by
  refine V_iload 4 dX10_van_33 rfl ?_
  refine V_bipush 20 dX10_van_35 (by decide) ?_
  refine V_icmp_ge 54 dX10_van_37 (by decide) ⟨fun z => ?_, fun z => ?_⟩
  · replace k := k.1 z
    refine V_iconst 0 dX10_van_54 (by decide) ?_
    refine V_istore 4 dX10_van_55 (by decide) rfl ?_
    exact V_lv [1, 2, 3, 0] rfl k
  · replace k := k.2 z
    refine V_aload_n 0 dX10_van_40 rfl rfl ?_
    refine GS_26_23 dX10_van_41 lkX10_64 ?_
    refine V_iload 4 dX10_van_44 rfl ?_
    refine V_iconst 0 dX10_van_46 (by decide) ?_
    refine V_zast (by decide) rt_45 dX10_van_47 k.1 (by decide) ?_
    replace k := k.2
    refine V_iinc 4 (v := l4 + 1) dX10_van_48 rfl rfl (by decide) rfl ?_
    refine V_goto 33 dX10_van_51 (by decide) ?_
    exact V_lv [1, 2, 3, 0] rfl k
set_option maxRecDepth 20000 in
set_option maxHeartbeats 2000000 in
theorem wX10_van_57 {d bc bs : Nat} {h : HS} {P : Option AV → HS → Prop} {l2 : Int32} {l3 : Int32} {l4 : Int32} (k : (((gI h 26 0 2) ≤ l4) → (P (some (aI l3)) (sI h 26 0 20 ((gI h 26 0 20) + 1)))) ∧ ((¬ (gI h 26 0 2) ≤ l4) → ((vp_in l4 120) ∧ (((¬ (mPar h l4.toNatClampNeg)) → (V true mX10_van (d + 3) bc bs 57 [(0, aR 26 0), (2, aI l2), (3, aI l3), (4, aI (l4 + 1))] [] h P)) ∧ (((mPar h l4.toNatClampNeg)) → (vp_in l4 120 ∧ (vp_in (gI h 37 0 l4.toNatClampNeg) 20 ∧ ((((gI h 45 0 (gI h 37 0 l4.toNatClampNeg).toNatClampNeg) = 0) → (vp_in l4 120 ∧ (vp_in (gI h 37 0 l4.toNatClampNeg) 20 ∧ (V true mX10_van (d + 3) bc bs 116 [(0, aR 26 0), (2, aI l2), (3, aI l3), (4, aI l4), (5, aI (gI h 37 0 l4.toNatClampNeg)), (6, aI 0), (7, aI 0)] [] (sI h 45 0 (gI h 37 0 l4.toNatClampNeg).toNatClampNeg 1) P)))) ∧ ((¬ (gI h 45 0 (gI h 37 0 l4.toNatClampNeg).toNatClampNeg) = 0) → (V true mX10_van (d + 3) bc bs 57 [(0, aR 26 0), (2, aI l2), (3, aI l3), (4, aI (l4 + 1))] [] h P)))))))))) : V true mX10_van (d + 3) bc bs 57 [(0, aR 26 0), (2, aI l2), (3, aI l3), (4, aI l4)] [] h P := by
  refine V_iload 4 dX10_van_57 rfl ?_
  refine V_aload_n 0 dX10_van_59 rfl rfl ?_
  refine GI_26_2 dX10_van_60 lkX10_125 ?_
  refine V_icmp_ge 279 dX10_van_63 (by decide) ⟨fun z => ?_, fun z => ?_⟩
  · replace k := k.1 z
    refine V_aload_n 0 dX10_van_279 rfl rfl ?_
    refine V_dup dX10_van_280 rfl ?_
    refine GI_26_20 dX10_van_281 lkX10_128 ?_
    refine V_iconst 1 dX10_van_284 (by decide) ?_
    refine V_iadd dX10_van_285 ?_
    refine PI_26_20 dX10_van_286 lkX10_128 ?_
    refine V_iload_n 3 dX10_van_289 rfl rfl ?_
    exact V_ireturn dX10_van_290 rfl k
  · replace k := k.2 z
    refine V_aload_n 0 dX10_van_66 rfl rfl ?_
    refine V_iload 4 dX10_van_67 rfl ?_
    obtain ⟨s3, k⟩ := k
    refine V_callV (mc := 0) (ms := 0) (as := [aI l4]) (st := []) (by decide) rt_26 rfl dX10_van_69 okX10_isParcel inX10_isParcel seX10_isParcel lkX10_134 rfl (Nat.le_of_ble_eq_true rfl) (Nat.zero_le _) (Nat.zero_le _) (cX10_isParcel_ s3 ?_)
    show V true mX10_van (d + 3) bc bs 72 [(0, aR 26 0), (2, aI l2), (3, aI l3), (4, aI l4)] [aI (bI (mPar h l4.toNatClampNeg))] h P
    refine V_if_eq 273 dX10_van_72 (by decide) ⟨fun z => ?_, fun z => ?_⟩
    · replace k := k.1 (bI_0 z)
      refine V_iinc 4 (v := l4 + 1) dX10_van_273 rfl rfl (by decide) rfl ?_
      refine V_goto 57 dX10_van_276 (by decide) ?_
      exact V_lv [1, 2, 3, 0] rfl k
    · replace k := k.2 (bI_1 z)
      refine V_aload_n 0 dX10_van_75 rfl rfl ?_
      refine GS_26_23 dX10_van_76 lkX10_64 ?_
      refine V_aload_n 0 dX10_van_79 rfl rfl ?_
      refine GS_26_13 dX10_van_80 lkX10_40 ?_
      refine V_iload 4 dX10_van_83 rfl ?_
      refine V_iald (by decide) rt_37 dX10_van_85 k.1 ?_
      replace k := k.2
      refine V_zald (by decide) rt_45 dX10_van_86 k.1 ?_
      replace k := k.2
      refine V_if_eq 93 dX10_van_87 (by decide) ⟨fun z => ?_, fun z => ?_⟩
      · replace k := k.1 z
        refine V_aload_n 0 dX10_van_93 rfl rfl ?_
        refine GS_26_13 dX10_van_94 lkX10_40 ?_
        refine V_iload 4 dX10_van_97 rfl ?_
        refine V_iald (by decide) rt_37 dX10_van_99 k.1 ?_
        replace k := k.2
        refine V_istore 5 dX10_van_100 (by decide) rfl ?_
        refine V_aload_n 0 dX10_van_102 rfl rfl ?_
        refine GS_26_23 dX10_van_103 lkX10_64 ?_
        refine V_iload 5 dX10_van_106 rfl ?_
        refine V_iconst 1 dX10_van_108 (by decide) ?_
        refine V_zast (by decide) rt_45 dX10_van_109 k.1 (by decide) ?_
        replace k := k.2
        refine V_iconst 0 dX10_van_110 (by decide) ?_
        refine V_istore 6 dX10_van_111 (by decide) rfl ?_
        refine V_iconst 0 dX10_van_113 (by decide) ?_
        refine V_istore 7 dX10_van_114 (by decide) rfl ?_
        exact V_lv [3, 4, 5, 6, 2, 1, 0] rfl k
      · replace k := k.2 z
        refine V_goto 273 dX10_van_90 (by decide) ?_
        refine V_iinc 4 (v := l4 + 1) dX10_van_273 rfl rfl (by decide) rfl ?_
        refine V_goto 57 dX10_van_276 (by decide) ?_
        exact V_lv [1, 2, 3, 0] rfl k
set_option maxRecDepth 20000 in
set_option maxHeartbeats 2000000 in
theorem wX10_van_116 {d bc bs : Nat} {h : HS} {P : Option AV → HS → Prop} {l2 : Int32} {l3 : Int32} {l4 : Int32} {l5 : Int32} {l6 : Int32} {l7 : Int32} (k : (((gI h 26 0 2) ≤ l7) → (((l6 ≤ l2) → (V true mX10_van (d + 3) bc bs 185 [(0, aR 26 0), (2, aI (l2 - l6)), (3, aI l3), (4, aI l4), (5, aI l5), (7, aI 0)] [] h P)) ∧ ((¬ l6 ≤ l2) → (V true mX10_van (d + 3) bc bs 57 [(0, aR 26 0), (2, aI l2), (3, aI l3), (4, aI (l4 + 1))] [] h P)))) ∧ ((¬ (gI h 26 0 2) ≤ l7) → ((vp_in l7 120) ∧ (((¬ (mPar h l7.toNatClampNeg)) → (V true mX10_van (d + 3) bc bs 116 [(0, aR 26 0), (2, aI l2), (3, aI l3), (4, aI l4), (5, aI l5), (6, aI (l6 + 0)), (7, aI (l7 + 1))] [] h P)) ∧ (((mPar h l7.toNatClampNeg)) → (vp_in l7 120 ∧ (((¬ (gI h 37 0 l7.toNatClampNeg) = l5) → (V true mX10_van (d + 3) bc bs 116 [(0, aR 26 0), (2, aI l2), (3, aI l3), (4, aI l4), (5, aI l5), (6, aI (l6 + 0)), (7, aI (l7 + 1))] [] h P)) ∧ (((gI h 37 0 l7.toNatClampNeg) = l5) → (vp_in l7 120 ∧ (V true mX10_van (d + 3) bc bs 116 [(0, aR 26 0), (2, aI l2), (3, aI l3), (4, aI l4), (5, aI l5), (6, aI (l6 + (gI h 36 0 l7.toNatClampNeg))), (7, aI (l7 + 1))] [] h P)))))))))) : V true mX10_van (d + 3) bc bs 116 [(0, aR 26 0), (2, aI l2), (3, aI l3), (4, aI l4), (5, aI l5), (6, aI l6), (7, aI l7)] [] h P := by
  refine V_iload 7 dX10_van_116 rfl ?_
  refine V_aload_n 0 dX10_van_118 rfl rfl ?_
  refine GI_26_2 dX10_van_119 lkX10_125 ?_
  refine V_icmp_ge 168 dX10_van_122 (by decide) ⟨fun z => ?_, fun z => ?_⟩
  · replace k := k.1 z
    refine V_iload 6 dX10_van_168 rfl ?_
    refine V_iload_n 2 dX10_van_170 rfl rfl ?_
    refine V_icmp_le 177 dX10_van_171 (by decide) ⟨fun z => ?_, fun z => ?_⟩
    · replace k := k.1 z
      refine V_iload_n 2 dX10_van_177 rfl rfl ?_
      refine V_iload 6 dX10_van_178 rfl ?_
      refine V_isub dX10_van_180 ?_
      refine V_istore_n 2 dX10_van_181 rfl (by decide) rfl ?_
      refine V_iconst 0 dX10_van_182 (by decide) ?_
      refine V_istore 7 dX10_van_183 (by decide) rfl ?_
      exact V_lv [2, 1, 3, 4, 5, 0] rfl k
    · replace k := k.2 z
      refine V_goto 273 dX10_van_174 (by decide) ?_
      refine V_iinc 4 (v := l4 + 1) dX10_van_273 rfl rfl (by decide) rfl ?_
      refine V_goto 57 dX10_van_276 (by decide) ?_
      exact V_lv [1, 2, 3, 0] rfl k
  · replace k := k.2 z
    refine V_iload 6 dX10_van_125 rfl ?_
    refine V_aload_n 0 dX10_van_127 rfl rfl ?_
    refine V_iload 7 dX10_van_128 rfl ?_
    obtain ⟨s3, k⟩ := k
    refine V_callV (mc := 0) (ms := 0) (as := [aI l7]) (st := [aI l6]) (by decide) rt_26 rfl dX10_van_130 okX10_isParcel inX10_isParcel seX10_isParcel lkX10_134 rfl (Nat.le_of_ble_eq_true rfl) (Nat.zero_le _) (Nat.zero_le _) (cX10_isParcel_ s3 ?_)
    show V true mX10_van (d + 3) bc bs 133 [(0, aR 26 0), (2, aI l2), (3, aI l3), (4, aI l4), (5, aI l5), (6, aI l6), (7, aI l7)] [aI (bI (mPar h l7.toNatClampNeg)), aI l6] h P
    refine V_if_eq 158 dX10_van_133 (by decide) ⟨fun z => ?_, fun z => ?_⟩
    · replace k := k.1 (bI_0 z)
      refine V_iconst 0 dX10_van_158 (by decide) ?_
      refine V_iadd dX10_van_159 ?_
      refine V_istore 6 dX10_van_160 (by decide) rfl ?_
      refine V_iinc 7 (v := l7 + 1) dX10_van_162 rfl rfl (by decide) rfl ?_
      refine V_goto 116 dX10_van_165 (by decide) ?_
      exact V_lv [2, 3, 4, 5, 6, 1, 0] rfl k
    · replace k := k.2 (bI_1 z)
      refine V_aload_n 0 dX10_van_136 rfl rfl ?_
      refine GS_26_13 dX10_van_137 lkX10_40 ?_
      refine V_iload 7 dX10_van_140 rfl ?_
      refine V_iald (by decide) rt_37 dX10_van_142 k.1 ?_
      replace k := k.2
      refine V_iload 5 dX10_van_143 rfl ?_
      refine V_icmp_ne 158 dX10_van_145 (by decide) ⟨fun z => ?_, fun z => ?_⟩
      · replace k := k.1 z
        refine V_iconst 0 dX10_van_158 (by decide) ?_
        refine V_iadd dX10_van_159 ?_
        refine V_istore 6 dX10_van_160 (by decide) rfl ?_
        refine V_iinc 7 (v := l7 + 1) dX10_van_162 rfl rfl (by decide) rfl ?_
        refine V_goto 116 dX10_van_165 (by decide) ?_
        exact V_lv [2, 3, 4, 5, 6, 1, 0] rfl k
      · replace k := k.2 z
        refine V_aload_n 0 dX10_van_148 rfl rfl ?_
        refine GS_26_12 dX10_van_149 lkX10_37 ?_
        refine V_iload 7 dX10_van_152 rfl ?_
        refine V_iald (by decide) rt_36 dX10_van_154 k.1 ?_
        replace k := k.2
        refine V_goto 159 dX10_van_155 (by decide) ?_
        refine V_iadd dX10_van_159 ?_
        refine V_istore 6 dX10_van_160 (by decide) rfl ?_
        refine V_iinc 7 (v := l7 + 1) dX10_van_162 rfl rfl (by decide) rfl ?_
        refine V_goto 116 dX10_van_165 (by decide) ?_
        exact V_lv [2, 3, 4, 5, 6, 1, 0] rfl k
set_option maxRecDepth 20000 in
set_option maxHeartbeats 2000000 in
theorem wX10_van_185 {d bc bs : Nat} {h : HS} {P : Option AV → HS → Prop} {l2 : Int32} {l3 : Int32} {l4 : Int32} {l5 : Int32} {l7 : Int32} (k : (((gI h 26 0 2) ≤ l7) → (vp_in (gI h 26 0 21) 20 ∧ (V true mX10_van (d + 3) bc bs 57 [(0, aR 26 0), (2, aI l2), (3, aI l3), (4, aI (l4 + 1))] [] (sI (sI h 44 0 (gI h 26 0 21).toNatClampNeg l5) 26 0 21 ((gI h 26 0 21) + 1)) P))) ∧ ((¬ (gI h 26 0 2) ≤ l7) → ((vp_in l7 120) ∧ (((¬ (mPar h l7.toNatClampNeg)) → (V true mX10_van (d + 3) bc bs 185 [(0, aR 26 0), (2, aI l2), (3, aI l3), (4, aI l4), (5, aI l5), (7, aI (l7 + 1))] [] h P)) ∧ (((mPar h l7.toNatClampNeg)) → (vp_in l7 120 ∧ ((((gI h 37 0 l7.toNatClampNeg) = l5) → (vp_in l7 120 ∧ (vp_in l7 120 ∧ (V true mX10_van (d + 3) bc bs 185 [(0, aR 26 0), (2, aI l2), (3, aI (l3 + (gI h 36 0 l7.toNatClampNeg))), (4, aI l4), (5, aI l5), (7, aI (l7 + 1))] [] (sI h 42 0 l7.toNatClampNeg ((2 * (gI h 26 0 0)) + (gI h 26 0 20))) P)))) ∧ ((¬ (gI h 37 0 l7.toNatClampNeg) = l5) → (V true mX10_van (d + 3) bc bs 185 [(0, aR 26 0), (2, aI l2), (3, aI l3), (4, aI l4), (5, aI l5), (7, aI (l7 + 1))] [] h P))))))))) : V true mX10_van (d + 3) bc bs 185 [(0, aR 26 0), (2, aI l2), (3, aI l3), (4, aI l4), (5, aI l5), (7, aI l7)] [] h P := by
  refine V_iload 7 dX10_van_185 rfl ?_
  refine V_aload_n 0 dX10_van_187 rfl rfl ?_
  refine GI_26_2 dX10_van_188 lkX10_125 ?_
  refine V_icmp_ge 252 dX10_van_191 (by decide) ⟨fun z => ?_, fun z => ?_⟩
  · replace k := k.1 z
    refine V_aload_n 0 dX10_van_252 rfl rfl ?_
    refine GS_26_22 dX10_van_253 lkX10_61 ?_
    refine V_aload_n 0 dX10_van_256 rfl rfl ?_
    refine GI_26_21 dX10_van_257 lkX10_140 ?_
    refine V_iload 5 dX10_van_260 rfl ?_
    refine V_iast (by decide) rt_44 dX10_van_262 k.1 ?_
    replace k := k.2
    refine V_aload_n 0 dX10_van_263 rfl rfl ?_
    refine V_dup dX10_van_264 rfl ?_
    refine GI_26_21 dX10_van_265 lkX10_140 ?_
    refine V_re (y := gI h 26 0 21) rfl ?_
    refine V_iconst 1 dX10_van_268 (by decide) ?_
    refine V_iadd dX10_van_269 ?_
    refine PI_26_21 dX10_van_270 lkX10_140 ?_
    refine V_iinc 4 (v := l4 + 1) dX10_van_273 rfl rfl (by decide) rfl ?_
    refine V_goto 57 dX10_van_276 (by decide) ?_
    exact V_lv [1, 2, 3, 0] rfl k
  · replace k := k.2 z
    refine V_aload_n 0 dX10_van_194 rfl rfl ?_
    refine V_iload 7 dX10_van_195 rfl ?_
    obtain ⟨s3, k⟩ := k
    refine V_callV (mc := 0) (ms := 0) (as := [aI l7]) (st := []) (by decide) rt_26 rfl dX10_van_197 okX10_isParcel inX10_isParcel seX10_isParcel lkX10_134 rfl (Nat.le_of_ble_eq_true rfl) (Nat.zero_le _) (Nat.zero_le _) (cX10_isParcel_ s3 ?_)
    show V true mX10_van (d + 3) bc bs 200 [(0, aR 26 0), (2, aI l2), (3, aI l3), (4, aI l4), (5, aI l5), (7, aI l7)] [aI (bI (mPar h l7.toNatClampNeg))] h P
    refine V_if_eq 246 dX10_van_200 (by decide) ⟨fun z => ?_, fun z => ?_⟩
    · replace k := k.1 (bI_0 z)
      refine V_iinc 7 (v := l7 + 1) dX10_van_246 rfl rfl (by decide) rfl ?_
      refine V_goto 185 dX10_van_249 (by decide) ?_
      exact V_lv [1, 2, 3, 4, 5, 0] rfl k
    · replace k := k.2 (bI_1 z)
      refine V_aload_n 0 dX10_van_203 rfl rfl ?_
      refine GS_26_13 dX10_van_204 lkX10_40 ?_
      refine V_iload 7 dX10_van_207 rfl ?_
      refine V_iald (by decide) rt_37 dX10_van_209 k.1 ?_
      replace k := k.2
      refine V_iload 5 dX10_van_210 rfl ?_
      refine V_icmp_eq 218 dX10_van_212 (by decide) ⟨fun z => ?_, fun z => ?_⟩
      · replace k := k.1 z
        refine V_aload_n 0 dX10_van_218 rfl rfl ?_
        refine GS_26_18 dX10_van_219 lkX10_55 ?_
        refine V_iload 7 dX10_van_222 rfl ?_
        refine V_iconst 2 dX10_van_224 (by decide) ?_
        refine V_aload_n 0 dX10_van_225 rfl rfl ?_
        refine GI_26_0 dX10_van_226 lkX10_119 ?_
        refine V_imul dX10_van_229 ?_
        refine V_aload_n 0 dX10_van_230 rfl rfl ?_
        refine GI_26_20 dX10_van_231 lkX10_128 ?_
        refine V_iadd dX10_van_234 ?_
        refine V_iast (by decide) rt_42 dX10_van_235 k.1 ?_
        replace k := k.2
        refine V_iload_n 3 dX10_van_236 rfl rfl ?_
        refine V_aload_n 0 dX10_van_237 rfl rfl ?_
        refine GS_26_12 dX10_van_238 lkX10_37 ?_
        refine V_iload 7 dX10_van_241 rfl ?_
        refine V_iald (by decide) rt_36 dX10_van_243 k.1 ?_
        replace k := k.2
        refine V_re (y := gI h 36 0 l7.toNatClampNeg) rfl ?_
        refine V_iadd dX10_van_244 ?_
        refine V_istore_n 3 dX10_van_245 rfl (by decide) rfl ?_
        refine V_iinc 7 (v := l7 + 1) dX10_van_246 rfl rfl (by decide) rfl ?_
        refine V_goto 185 dX10_van_249 (by decide) ?_
        exact V_lv [2, 3, 1, 4, 5, 0] rfl k
      · replace k := k.2 z
        refine V_goto 246 dX10_van_215 (by decide) ?_
        refine V_iinc 7 (v := l7 + 1) dX10_van_246 rfl rfl (by decide) rfl ?_
        refine V_goto 185 dX10_van_249 (by decide) ?_
        exact V_lv [1, 2, 3, 4, 5, 0] rfl k
-- X10_house cuts []
set_option maxRecDepth 20000 in
set_option maxHeartbeats 2000000 in
theorem wX10_house {d bc bs : Nat} {h : HS} {P : Option AV → HS → Prop} {l1 : Int32} (k : ((¬ (inR l1 0 ((gI h 26 0 21) - 1))) → (P (some (aI (-1))) h)) ∧ (((inR l1 0 ((gI h 26 0 21) - 1))) → (vp_in l1 20 ∧ (P (some (aI (gI h 44 0 l1.toNatClampNeg))) h)))) : Cl true mX10_house (d + 3) bc bs [aR 26 0, aI l1] h P := by
  refine Cl_of (by decide) (Nat.le_of_ble_eq_true rfl) ?_
  show V true mX10_house (d + 3) bc bs 0 [(0, aR 26 0), (1, aI l1)] [] h P
  refine V_iload_n 1 dX10_house_0 rfl rfl ?_
  refine V_iconst 0 dX10_house_1 (by decide) ?_
  refine V_aload_n 0 dX10_house_2 rfl rfl ?_
  refine GI_26_21 dX10_house_3 lkX10_140 ?_
  refine V_iconst 1 dX10_house_6 (by decide) ?_
  refine V_isub dX10_house_7 ?_
  refine V_callS (mc := 0) (ms := 0) (as := [aI l1, aI 0, aI ((gI h 26 0 21) - 1)]) (st := []) dX10_house_8 okX10_isIn stX10_isIn lkX10_111 rfl (Nat.le_of_ble_eq_true rfl) (Nat.zero_le _) (Nat.zero_le _) (cX10_isIn_ ?_)
  show V true mX10_house (d + 3) bc bs 11 [(0, aR 26 0), (1, aI l1)] [aI (bI (inR l1 0 ((gI h 26 0 21) - 1)))] h P
  refine V_if_eq 23 dX10_house_11 (by decide) ⟨fun z => ?_, fun z => ?_⟩
  · replace k := k.1 (bI_0 z)
    refine V_iconst (-1) dX10_house_23 (by decide) ?_
    exact V_ireturn dX10_house_24 rfl k
  · replace k := k.2 (bI_1 z)
    refine V_aload_n 0 dX10_house_14 rfl rfl ?_
    refine GS_26_22 dX10_house_15 lkX10_61 ?_
    refine V_iload_n 1 dX10_house_18 rfl rfl ?_
    refine V_iald (by decide) rt_44 dX10_house_19 k.1 ?_
    replace k := k.2
    refine V_goto 24 dX10_house_20 (by decide) ?_
    exact V_ireturn dX10_house_24 rfl k
-- X10_feed cuts [18]
set_option maxRecDepth 20000 in
set_option maxHeartbeats 2000000 in
theorem wX10_feed {d bc bs : Nat} {h : HS} {P : Option AV → HS → Prop} {l1 : Int32} {l2 : Int32} {l3 : Int32} {l4 : Int32} {l5 : Int32} (k : ((((gI h 26 0 35) + 20) ≤ 400) → (V true mX10_feed (d + 3) bc bs 18 [(0, aR 26 0), (1, aI l1), (2, aI l2), (3, aI l3), (4, aI l4), (5, aI l5), (6, aI 0)] [] h P)) ∧ ((¬ ((gI h 26 0 35) + 20) ≤ 400) → (P (some (aI (-1))) h))) : Cl true mX10_feed (d + 3) bc bs [aR 26 0, aI l1, aI l2, aI l3, aI l4, aI l5] h P := by
  refine Cl_of (by decide) (Nat.le_of_ble_eq_true rfl) ?_
  show V true mX10_feed (d + 3) bc bs 0 [(0, aR 26 0), (1, aI l1), (2, aI l2), (3, aI l3), (4, aI l4), (5, aI l5)] [] h P
  refine V_aload_n 0 dX10_feed_0 rfl rfl ?_
  refine GI_26_35 dX10_feed_1 lkX10_143 ?_
  refine V_bipush 20 dX10_feed_4 (by decide) ?_
  refine V_iadd dX10_feed_6 ?_
  refine V_sipush 400 dX10_feed_7 (by decide) ?_
  refine V_icmp_le 15 dX10_feed_10 (by decide) ⟨fun z => ?_, fun z => ?_⟩
  · replace k := k.1 z
    refine V_iconst 0 dX10_feed_15 (by decide) ?_
    refine V_istore 6 dX10_feed_16 (by decide) rfl ?_
    exact V_lv [1, 2, 3, 4, 5, 6, 0] rfl k
  · replace k := k.2 z
    refine V_iconst (-1) dX10_feed_13 (by decide) ?_
    exact V_ireturn dX10_feed_14 rfl k
set_option maxRecDepth 20000 in
set_option maxHeartbeats 2000000 in
theorem wX10_feed_18 {d bc bs : Nat} {h : HS} {P : Option AV → HS → Prop} {l1 : Int32} {l2 : Int32} {l3 : Int32} {l4 : Int32} {l5 : Int32} {l6 : Int32} (k : ((20 ≤ l6) → (P (some (aI (gI h 26 0 35))) h)) ∧ ((¬ 20 ≤ l6) → (((4 ≤ l6) → (((8 ≤ l6) → (((12 ≤ l6) → (((16 ≤ l6) → (vp_in (gI h 26 0 35) 400 ∧ (V true mX10_feed (d + 3) bc bs 18 [(0, aR 26 0), (1, aI l1), (2, aI l2), (3, aI l3), (4, aI l4), (5, aI l5), (6, aI (l6 + 1))] [] (sI (sI h 53 0 (gI h 26 0 35).toNatClampNeg ((l5 >>> ((24 - (8 * (l6 - l6 / 4 * 4))) &&& 31)) &&& 255)) 26 0 35 ((gI h 26 0 35) + 1)) P))) ∧ ((¬ 16 ≤ l6) → (vp_in (gI h 26 0 35) 400 ∧ (V true mX10_feed (d + 3) bc bs 18 [(0, aR 26 0), (1, aI l1), (2, aI l2), (3, aI l3), (4, aI l4), (5, aI l5), (6, aI (l6 + 1))] [] (sI (sI h 53 0 (gI h 26 0 35).toNatClampNeg ((l4 >>> ((24 - (8 * (l6 - l6 / 4 * 4))) &&& 31)) &&& 255)) 26 0 35 ((gI h 26 0 35) + 1)) P))))) ∧ ((¬ 12 ≤ l6) → (vp_in (gI h 26 0 35) 400 ∧ (V true mX10_feed (d + 3) bc bs 18 [(0, aR 26 0), (1, aI l1), (2, aI l2), (3, aI l3), (4, aI l4), (5, aI l5), (6, aI (l6 + 1))] [] (sI (sI h 53 0 (gI h 26 0 35).toNatClampNeg ((l3 >>> ((24 - (8 * (l6 - l6 / 4 * 4))) &&& 31)) &&& 255)) 26 0 35 ((gI h 26 0 35) + 1)) P))))) ∧ ((¬ 8 ≤ l6) → (vp_in (gI h 26 0 35) 400 ∧ (V true mX10_feed (d + 3) bc bs 18 [(0, aR 26 0), (1, aI l1), (2, aI l2), (3, aI l3), (4, aI l4), (5, aI l5), (6, aI (l6 + 1))] [] (sI (sI h 53 0 (gI h 26 0 35).toNatClampNeg ((l2 >>> ((24 - (8 * (l6 - l6 / 4 * 4))) &&& 31)) &&& 255)) 26 0 35 ((gI h 26 0 35) + 1)) P))))) ∧ ((¬ 4 ≤ l6) → (vp_in (gI h 26 0 35) 400 ∧ (V true mX10_feed (d + 3) bc bs 18 [(0, aR 26 0), (1, aI l1), (2, aI l2), (3, aI l3), (4, aI l4), (5, aI l5), (6, aI (l6 + 1))] [] (sI (sI h 53 0 (gI h 26 0 35).toNatClampNeg ((l1 >>> ((24 - (8 * (l6 - l6 / 4 * 4))) &&& 31)) &&& 255)) 26 0 35 ((gI h 26 0 35) + 1)) P)))))) : V true mX10_feed (d + 3) bc bs 18 [(0, aR 26 0), (1, aI l1), (2, aI l2), (3, aI l3), (4, aI l4), (5, aI l5), (6, aI l6)] [] h P := by
  refine V_iload 6 dX10_feed_18 rfl ?_
  refine V_bipush 20 dX10_feed_20 (by decide) ?_
  refine V_icmp_ge 115 dX10_feed_22 (by decide) ⟨fun z => ?_, fun z => ?_⟩
  · replace k := k.1 z
    refine V_aload_n 0 dX10_feed_115 rfl rfl ?_
    refine GI_26_35 dX10_feed_116 lkX10_143 ?_
    exact V_ireturn dX10_feed_119 rfl k
  · replace k := k.2 z
    refine V_iload 6 dX10_feed_25 rfl ?_
    refine V_iconst 4 dX10_feed_27 (by decide) ?_
    refine V_icmp_ge 35 dX10_feed_28 (by decide) ⟨fun z => ?_, fun z => ?_⟩
    · replace k := k.1 z
      refine V_iload 6 dX10_feed_35 rfl ?_
      refine V_bipush 8 dX10_feed_37 (by decide) ?_
      refine V_icmp_ge 46 dX10_feed_39 (by decide) ⟨fun z => ?_, fun z => ?_⟩
      · replace k := k.1 z
        refine V_iload 6 dX10_feed_46 rfl ?_
        refine V_bipush 12 dX10_feed_48 (by decide) ?_
        refine V_icmp_ge 57 dX10_feed_50 (by decide) ⟨fun z => ?_, fun z => ?_⟩
        · replace k := k.1 z
          refine V_iload 6 dX10_feed_57 rfl ?_
          refine V_bipush 16 dX10_feed_59 (by decide) ?_
          refine V_icmp_ge 69 dX10_feed_61 (by decide) ⟨fun z => ?_, fun z => ?_⟩
          · replace k := k.1 z
            refine V_iload 5 dX10_feed_69 rfl ?_
            refine V_istore 7 dX10_feed_71 (by decide) rfl ?_
            refine V_aload_n 0 dX10_feed_73 rfl rfl ?_
            refine GS_26_34 dX10_feed_74 lkX10_89 ?_
            refine V_aload_n 0 dX10_feed_77 rfl rfl ?_
            refine GI_26_35 dX10_feed_78 lkX10_143 ?_
            refine V_iload 7 dX10_feed_81 rfl ?_
            refine V_bipush 24 dX10_feed_83 (by decide) ?_
            refine V_bipush 8 dX10_feed_85 (by decide) ?_
            refine V_iload 6 dX10_feed_87 rfl ?_
            refine V_iconst 4 dX10_feed_89 (by decide) ?_
            refine V_irem dX10_feed_90 (by decide) ?_
            refine V_imul dX10_feed_91 ?_
            refine V_isub dX10_feed_92 ?_
            refine V_ishr dX10_feed_93 ?_
            refine V_sipush 255 dX10_feed_94 (by decide) ?_
            refine V_iand dX10_feed_97 ?_
            refine V_iast (by decide) rt_53 dX10_feed_98 k.1 ?_
            replace k := k.2
            refine V_aload_n 0 dX10_feed_99 rfl rfl ?_
            refine V_dup dX10_feed_100 rfl ?_
            refine GI_26_35 dX10_feed_101 lkX10_143 ?_
            refine V_re (y := gI h 26 0 35) rfl ?_
            refine V_iconst 1 dX10_feed_104 (by decide) ?_
            refine V_iadd dX10_feed_105 ?_
            refine PI_26_35 dX10_feed_106 lkX10_143 ?_
            refine V_iinc 6 (v := l6 + 1) dX10_feed_109 rfl rfl (by decide) rfl ?_
            refine V_goto 18 dX10_feed_112 (by decide) ?_
            exact V_lv [2, 3, 4, 5, 6, 7, 0] rfl k
          · replace k := k.2 z
            refine V_iload 4 dX10_feed_64 rfl ?_
            refine V_goto 71 dX10_feed_66 (by decide) ?_
            refine V_istore 7 dX10_feed_71 (by decide) rfl ?_
            refine V_aload_n 0 dX10_feed_73 rfl rfl ?_
            refine GS_26_34 dX10_feed_74 lkX10_89 ?_
            refine V_aload_n 0 dX10_feed_77 rfl rfl ?_
            refine GI_26_35 dX10_feed_78 lkX10_143 ?_
            refine V_iload 7 dX10_feed_81 rfl ?_
            refine V_bipush 24 dX10_feed_83 (by decide) ?_
            refine V_bipush 8 dX10_feed_85 (by decide) ?_
            refine V_iload 6 dX10_feed_87 rfl ?_
            refine V_iconst 4 dX10_feed_89 (by decide) ?_
            refine V_irem dX10_feed_90 (by decide) ?_
            refine V_imul dX10_feed_91 ?_
            refine V_isub dX10_feed_92 ?_
            refine V_ishr dX10_feed_93 ?_
            refine V_sipush 255 dX10_feed_94 (by decide) ?_
            refine V_iand dX10_feed_97 ?_
            refine V_iast (by decide) rt_53 dX10_feed_98 k.1 ?_
            replace k := k.2
            refine V_aload_n 0 dX10_feed_99 rfl rfl ?_
            refine V_dup dX10_feed_100 rfl ?_
            refine GI_26_35 dX10_feed_101 lkX10_143 ?_
            refine V_re (y := gI h 26 0 35) rfl ?_
            refine V_iconst 1 dX10_feed_104 (by decide) ?_
            refine V_iadd dX10_feed_105 ?_
            refine PI_26_35 dX10_feed_106 lkX10_143 ?_
            refine V_iinc 6 (v := l6 + 1) dX10_feed_109 rfl rfl (by decide) rfl ?_
            refine V_goto 18 dX10_feed_112 (by decide) ?_
            exact V_lv [2, 3, 4, 5, 6, 7, 0] rfl k
        · replace k := k.2 z
          refine V_iload_n 3 dX10_feed_53 rfl rfl ?_
          refine V_goto 71 dX10_feed_54 (by decide) ?_
          refine V_istore 7 dX10_feed_71 (by decide) rfl ?_
          refine V_aload_n 0 dX10_feed_73 rfl rfl ?_
          refine GS_26_34 dX10_feed_74 lkX10_89 ?_
          refine V_aload_n 0 dX10_feed_77 rfl rfl ?_
          refine GI_26_35 dX10_feed_78 lkX10_143 ?_
          refine V_iload 7 dX10_feed_81 rfl ?_
          refine V_bipush 24 dX10_feed_83 (by decide) ?_
          refine V_bipush 8 dX10_feed_85 (by decide) ?_
          refine V_iload 6 dX10_feed_87 rfl ?_
          refine V_iconst 4 dX10_feed_89 (by decide) ?_
          refine V_irem dX10_feed_90 (by decide) ?_
          refine V_imul dX10_feed_91 ?_
          refine V_isub dX10_feed_92 ?_
          refine V_ishr dX10_feed_93 ?_
          refine V_sipush 255 dX10_feed_94 (by decide) ?_
          refine V_iand dX10_feed_97 ?_
          refine V_iast (by decide) rt_53 dX10_feed_98 k.1 ?_
          replace k := k.2
          refine V_aload_n 0 dX10_feed_99 rfl rfl ?_
          refine V_dup dX10_feed_100 rfl ?_
          refine GI_26_35 dX10_feed_101 lkX10_143 ?_
          refine V_re (y := gI h 26 0 35) rfl ?_
          refine V_iconst 1 dX10_feed_104 (by decide) ?_
          refine V_iadd dX10_feed_105 ?_
          refine PI_26_35 dX10_feed_106 lkX10_143 ?_
          refine V_iinc 6 (v := l6 + 1) dX10_feed_109 rfl rfl (by decide) rfl ?_
          refine V_goto 18 dX10_feed_112 (by decide) ?_
          exact V_lv [2, 3, 4, 5, 6, 7, 0] rfl k
      · replace k := k.2 z
        refine V_iload_n 2 dX10_feed_42 rfl rfl ?_
        refine V_goto 71 dX10_feed_43 (by decide) ?_
        refine V_istore 7 dX10_feed_71 (by decide) rfl ?_
        refine V_aload_n 0 dX10_feed_73 rfl rfl ?_
        refine GS_26_34 dX10_feed_74 lkX10_89 ?_
        refine V_aload_n 0 dX10_feed_77 rfl rfl ?_
        refine GI_26_35 dX10_feed_78 lkX10_143 ?_
        refine V_iload 7 dX10_feed_81 rfl ?_
        refine V_bipush 24 dX10_feed_83 (by decide) ?_
        refine V_bipush 8 dX10_feed_85 (by decide) ?_
        refine V_iload 6 dX10_feed_87 rfl ?_
        refine V_iconst 4 dX10_feed_89 (by decide) ?_
        refine V_irem dX10_feed_90 (by decide) ?_
        refine V_imul dX10_feed_91 ?_
        refine V_isub dX10_feed_92 ?_
        refine V_ishr dX10_feed_93 ?_
        refine V_sipush 255 dX10_feed_94 (by decide) ?_
        refine V_iand dX10_feed_97 ?_
        refine V_iast (by decide) rt_53 dX10_feed_98 k.1 ?_
        replace k := k.2
        refine V_aload_n 0 dX10_feed_99 rfl rfl ?_
        refine V_dup dX10_feed_100 rfl ?_
        refine GI_26_35 dX10_feed_101 lkX10_143 ?_
        refine V_re (y := gI h 26 0 35) rfl ?_
        refine V_iconst 1 dX10_feed_104 (by decide) ?_
        refine V_iadd dX10_feed_105 ?_
        refine PI_26_35 dX10_feed_106 lkX10_143 ?_
        refine V_iinc 6 (v := l6 + 1) dX10_feed_109 rfl rfl (by decide) rfl ?_
        refine V_goto 18 dX10_feed_112 (by decide) ?_
        exact V_lv [2, 3, 4, 5, 6, 7, 0] rfl k
    · replace k := k.2 z
      refine V_iload_n 1 dX10_feed_31 rfl rfl ?_
      refine V_goto 71 dX10_feed_32 (by decide) ?_
      refine V_istore 7 dX10_feed_71 (by decide) rfl ?_
      refine V_aload_n 0 dX10_feed_73 rfl rfl ?_
      refine GS_26_34 dX10_feed_74 lkX10_89 ?_
      refine V_aload_n 0 dX10_feed_77 rfl rfl ?_
      refine GI_26_35 dX10_feed_78 lkX10_143 ?_
      refine V_iload 7 dX10_feed_81 rfl ?_
      refine V_bipush 24 dX10_feed_83 (by decide) ?_
      refine V_bipush 8 dX10_feed_85 (by decide) ?_
      refine V_iload 6 dX10_feed_87 rfl ?_
      refine V_iconst 4 dX10_feed_89 (by decide) ?_
      refine V_irem dX10_feed_90 (by decide) ?_
      refine V_imul dX10_feed_91 ?_
      refine V_isub dX10_feed_92 ?_
      refine V_ishr dX10_feed_93 ?_
      refine V_sipush 255 dX10_feed_94 (by decide) ?_
      refine V_iand dX10_feed_97 ?_
      refine V_iast (by decide) rt_53 dX10_feed_98 k.1 ?_
      replace k := k.2
      refine V_aload_n 0 dX10_feed_99 rfl rfl ?_
      refine V_dup dX10_feed_100 rfl ?_
      refine GI_26_35 dX10_feed_101 lkX10_143 ?_
      refine V_re (y := gI h 26 0 35) rfl ?_
      refine V_iconst 1 dX10_feed_104 (by decide) ?_
      refine V_iadd dX10_feed_105 ?_
      refine PI_26_35 dX10_feed_106 lkX10_143 ?_
      refine V_iinc 6 (v := l6 + 1) dX10_feed_109 rfl rfl (by decide) rfl ?_
      refine V_goto 18 dX10_feed_112 (by decide) ?_
      exact V_lv [2, 3, 4, 5, 6, 7, 0] rfl k
-- X10_end cuts []
set_option maxRecDepth 20000 in
set_option maxHeartbeats 2000000 in
theorem wX10_end {d bc bs : Nat} {h : HS} {P : Option AV → HS → Prop} {l1 : Int32} (k : (((inR l1 0 (gI h 26 0 35))) → (P (some (aI 1)) (sI h 26 0 35 l1))) ∧ ((¬ (inR l1 0 (gI h 26 0 35))) → (P (some (aI 0)) h))) : Cl true mX10_end (d + 3) bc bs [aR 26 0, aI l1] h P := by
  refine Cl_of (by decide) (Nat.le_of_ble_eq_true rfl) ?_
  show V true mX10_end (d + 3) bc bs 0 [(0, aR 26 0), (1, aI l1)] [] h P
  refine V_iload_n 1 dX10_end_0 rfl rfl ?_
  refine V_iconst 0 dX10_end_1 (by decide) ?_
  refine V_aload_n 0 dX10_end_2 rfl rfl ?_
  refine GI_26_35 dX10_end_3 lkX10_143 ?_
  refine V_callS (mc := 0) (ms := 0) (as := [aI l1, aI 0, aI (gI h 26 0 35)]) (st := []) dX10_end_6 okX10_isIn stX10_isIn lkX10_111 rfl (Nat.le_of_ble_eq_true rfl) (Nat.zero_le _) (Nat.zero_le _) (cX10_isIn_ ?_)
  show V true mX10_end (d + 3) bc bs 9 [(0, aR 26 0), (1, aI l1)] [aI (bI (inR l1 0 (gI h 26 0 35)))] h P
  refine V_if_ne 14 dX10_end_9 (by decide) ⟨fun z => ?_, fun z => ?_⟩
  · replace k := k.1 (bI_1 z)
    refine V_aload_n 0 dX10_end_14 rfl rfl ?_
    refine V_iload_n 1 dX10_end_15 rfl rfl ?_
    refine PI_26_35 dX10_end_16 lkX10_143 ?_
    refine V_iconst 1 dX10_end_19 (by decide) ?_
    exact V_zreturn dX10_end_20 rfl (by decide) k
  · replace k := k.2 (bI_0 z)
    refine V_iconst 0 dX10_end_12 (by decide) ?_
    exact V_zreturn dX10_end_13 rfl (by decide) k
-- X10_next0 cuts [0, 80, 164]
set_option maxRecDepth 20000 in
set_option maxHeartbeats 2000000 in
theorem wX10_next0 {d bc bs : Nat} {h : HS} {P : Option AV → HS → Prop}  (k : (¬ gI h 26 0 35 ≤ (gI h 26 0 36) → vp_in (gI h 26 0 36) 400) ∧ ((((seeF h (gI h 26 0 36)) = 32) → (V true mX10_next0 (d + 3) bc bs 0 [(0, aR 26 0)] [] (sI h 26 0 36 ((gI h 26 0 36) + 1)) P)) ∧ ((¬ (seeF h (gI h 26 0 36)) = 32) → ((¬ gI h 26 0 35 ≤ (gI h 26 0 36) → vp_in (gI h 26 0 36) 400) ∧ (((¬ (seeF h (gI h 26 0 36)) = 10) → ((¬ gI (sI h 26 0 38 (gI h 26 0 36)) 26 0 35 ≤ (gI h 26 0 36) → vp_in (gI h 26 0 36) 400) ∧ (((¬ (seeF (sI h 26 0 38 (gI h 26 0 36)) (gI h 26 0 36)) = (-1)) → (((¬ (ltr (seeF (sI h 26 0 38 (gI h 26 0 36)) (gI h 26 0 36)))) → (((¬ (inR (seeF (sI h 26 0 38 (gI h 26 0 36)) (gI h 26 0 36)) 48 57)) → ((((seeF (sI h 26 0 38 (gI h 26 0 36)) (gI h 26 0 36)) = 59) → (P none (sI (sI (sI h 26 0 38 (gI h 26 0 36)) 26 0 36 ((gI h 26 0 36) + 1)) 26 0 37 (seeF (sI h 26 0 38 (gI h 26 0 36)) (gI h 26 0 36))))) ∧ ((¬ (seeF (sI h 26 0 38 (gI h 26 0 36)) (gI h 26 0 36)) = 59) → ((((seeF (sI h 26 0 38 (gI h 26 0 36)) (gI h 26 0 36)) = 43) → (P none (sI (sI (sI h 26 0 38 (gI h 26 0 36)) 26 0 36 ((gI h 26 0 36) + 1)) 26 0 37 (seeF (sI h 26 0 38 (gI h 26 0 36)) (gI h 26 0 36))))) ∧ ((¬ (seeF (sI h 26 0 38 (gI h 26 0 36)) (gI h 26 0 36)) = 43) → ((((seeF (sI h 26 0 38 (gI h 26 0 36)) (gI h 26 0 36)) = 45) → (P none (sI (sI (sI h 26 0 38 (gI h 26 0 36)) 26 0 36 ((gI h 26 0 36) + 1)) 26 0 37 (seeF (sI h 26 0 38 (gI h 26 0 36)) (gI h 26 0 36))))) ∧ ((¬ (seeF (sI h 26 0 38 (gI h 26 0 36)) (gI h 26 0 36)) = 45) → ((((seeF (sI h 26 0 38 (gI h 26 0 36)) (gI h 26 0 36)) = 42) → (P none (sI (sI (sI h 26 0 38 (gI h 26 0 36)) 26 0 36 ((gI h 26 0 36) + 1)) 26 0 37 (seeF (sI h 26 0 38 (gI h 26 0 36)) (gI h 26 0 36))))) ∧ ((¬ (seeF (sI h 26 0 38 (gI h 26 0 36)) (gI h 26 0 36)) = 42) → ((((seeF (sI h 26 0 38 (gI h 26 0 36)) (gI h 26 0 36)) = 47) → (P none (sI (sI (sI h 26 0 38 (gI h 26 0 36)) 26 0 36 ((gI h 26 0 36) + 1)) 26 0 37 (seeF (sI h 26 0 38 (gI h 26 0 36)) (gI h 26 0 36))))) ∧ ((¬ (seeF (sI h 26 0 38 (gI h 26 0 36)) (gI h 26 0 36)) = 47) → ((((seeF (sI h 26 0 38 (gI h 26 0 36)) (gI h 26 0 36)) = 40) → (P none (sI (sI (sI h 26 0 38 (gI h 26 0 36)) 26 0 36 ((gI h 26 0 36) + 1)) 26 0 37 (seeF (sI h 26 0 38 (gI h 26 0 36)) (gI h 26 0 36))))) ∧ ((¬ (seeF (sI h 26 0 38 (gI h 26 0 36)) (gI h 26 0 36)) = 40) → ((((seeF (sI h 26 0 38 (gI h 26 0 36)) (gI h 26 0 36)) = 41) → (P none (sI (sI (sI h 26 0 38 (gI h 26 0 36)) 26 0 36 ((gI h 26 0 36) + 1)) 26 0 37 (seeF (sI h 26 0 38 (gI h 26 0 36)) (gI h 26 0 36))))) ∧ ((¬ (seeF (sI h 26 0 38 (gI h 26 0 36)) (gI h 26 0 36)) = 41) → ((((seeF (sI h 26 0 38 (gI h 26 0 36)) (gI h 26 0 36)) = 60) → (P none (sI (sI (sI h 26 0 38 (gI h 26 0 36)) 26 0 36 ((gI h 26 0 36) + 1)) 26 0 37 (seeF (sI h 26 0 38 (gI h 26 0 36)) (gI h 26 0 36))))) ∧ ((¬ (seeF (sI h 26 0 38 (gI h 26 0 36)) (gI h 26 0 36)) = 60) → ((((seeF (sI h 26 0 38 (gI h 26 0 36)) (gI h 26 0 36)) = 61) → (P none (sI (sI (sI h 26 0 38 (gI h 26 0 36)) 26 0 36 ((gI h 26 0 36) + 1)) 26 0 37 (seeF (sI h 26 0 38 (gI h 26 0 36)) (gI h 26 0 36))))) ∧ ((¬ (seeF (sI h 26 0 38 (gI h 26 0 36)) (gI h 26 0 36)) = 61) → (((¬ (seeF (sI h 26 0 38 (gI h 26 0 36)) (gI h 26 0 36)) = 62) → (P none (sI (sI (sI h 26 0 38 (gI h 26 0 36)) 26 0 36 ((gI h 26 0 36) + 1)) 26 0 37 1))) ∧ (((seeF (sI h 26 0 38 (gI h 26 0 36)) (gI h 26 0 36)) = 62) → (P none (sI (sI (sI h 26 0 38 (gI h 26 0 36)) 26 0 36 ((gI h 26 0 36) + 1)) 26 0 37 (seeF (sI h 26 0 38 (gI h 26 0 36)) (gI h 26 0 36))))))))))))))))))))))))) ∧ (((inR (seeF (sI h 26 0 38 (gI h 26 0 36)) (gI h 26 0 36)) 48 57)) → (V true mX10_next0 (d + 3) bc bs 164 [(0, aR 26 0), (2, aI 0)] [] (sI (sI h 26 0 38 (gI h 26 0 36)) 26 0 39 0) P)))) ∧ (((ltr (seeF (sI h 26 0 38 (gI h 26 0 36)) (gI h 26 0 36)))) → (V true mX10_next0 (d + 3) bc bs 80 [(0, aR 26 0), (2, aI 0), (3, aL 0)] [] (sI h 26 0 38 (gI h 26 0 36)) P)))) ∧ (((seeF (sI h 26 0 38 (gI h 26 0 36)) (gI h 26 0 36)) = (-1)) → (P none (sI (sI h 26 0 38 (gI h 26 0 36)) 26 0 37 0)))))) ∧ (((seeF h (gI h 26 0 36)) = 10) → (V true mX10_next0 (d + 3) bc bs 0 [(0, aR 26 0)] [] (sI h 26 0 36 ((gI h 26 0 36) + 1)) P))))))) : Cl true mX10_next0 (d + 3) bc bs [aR 26 0] h P := by
  refine Cl_of (by decide) (Nat.le_of_ble_eq_true rfl) ?_
  show V true mX10_next0 (d + 3) bc bs 0 [(0, aR 26 0)] [] h P
  refine V_aload_n 0 dX10_next0_0 rfl rfl ?_
  refine V_aload_n 0 dX10_next0_1 rfl rfl ?_
  refine GI_26_36 dX10_next0_2 lkX10_164 ?_
  obtain ⟨s3, k⟩ := k
  refine V_callV (mc := 0) (ms := 0) (as := [aI (gI h 26 0 36)]) (st := []) (by decide) rt_26 rfl dX10_next0_5 okX10_see inX10_see seX10_see lkX10_167 rfl (Nat.le_of_ble_eq_true rfl) (Nat.zero_le _) (Nat.zero_le _) (cX10_see_ s3 ?_)
  show V true mX10_next0 (d + 3) bc bs 8 [(0, aR 26 0)] [aI (seeF h (gI h 26 0 36))] h P
  refine V_bipush 32 dX10_next0_8 (by decide) ?_
  refine V_icmp_eq 26 dX10_next0_10 (by decide) ⟨fun z => ?_, fun z => ?_⟩
  · replace k := k.1 z
    refine V_aload_n 0 dX10_next0_26 rfl rfl ?_
    refine V_dup dX10_next0_27 rfl ?_
    refine GI_26_36 dX10_next0_28 lkX10_164 ?_
    refine V_iconst 1 dX10_next0_31 (by decide) ?_
    refine V_iadd dX10_next0_32 ?_
    refine PI_26_36 dX10_next0_33 lkX10_164 ?_
    refine V_goto 0 dX10_next0_36 (by decide) ?_
    exact V_lv [0] rfl k
  · replace k := k.2 z
    refine V_aload_n 0 dX10_next0_13 rfl rfl ?_
    refine V_aload_n 0 dX10_next0_14 rfl rfl ?_
    refine GI_26_36 dX10_next0_15 lkX10_164 ?_
    obtain ⟨s6, k⟩ := k
    refine V_callV (mc := 0) (ms := 0) (as := [aI (gI h 26 0 36)]) (st := []) (by decide) rt_26 rfl dX10_next0_18 okX10_see inX10_see seX10_see lkX10_167 rfl (Nat.le_of_ble_eq_true rfl) (Nat.zero_le _) (Nat.zero_le _) (cX10_see_ s6 ?_)
    show V true mX10_next0 (d + 3) bc bs 21 [(0, aR 26 0)] [aI (seeF h (gI h 26 0 36))] h P
    refine V_bipush 10 dX10_next0_21 (by decide) ?_
    refine V_icmp_ne 39 dX10_next0_23 (by decide) ⟨fun z => ?_, fun z => ?_⟩
    · replace k := k.1 z
      refine V_aload_n 0 dX10_next0_39 rfl rfl ?_
      refine V_aload_n 0 dX10_next0_40 rfl rfl ?_
      refine GI_26_36 dX10_next0_41 lkX10_164 ?_
      refine PI_26_38 dX10_next0_44 lkX10_171 ?_
      refine V_aload_n 0 dX10_next0_47 rfl rfl ?_
      refine V_aload_n 0 dX10_next0_48 rfl rfl ?_
      refine GI_26_36 dX10_next0_49 lkX10_164 ?_
      refine V_re (y := gI h 26 0 36) rfl ?_
      obtain ⟨s9, k⟩ := k
      refine V_callV (mc := 0) (ms := 0) (as := [aI (gI h 26 0 36)]) (st := []) (by decide) rt_26 rfl dX10_next0_52 okX10_see inX10_see seX10_see lkX10_167 rfl (Nat.le_of_ble_eq_true rfl) (Nat.zero_le _) (Nat.zero_le _) (cX10_see_ s9 ?_)
      show V true mX10_next0 (d + 3) bc bs 55 [(0, aR 26 0)] [aI (seeF (sI h 26 0 38 (gI h 26 0 36)) (gI h 26 0 36))] (sI h 26 0 38 (gI h 26 0 36)) P
      refine V_istore_n 1 dX10_next0_55 rfl (by decide) rfl ?_
      refine V_iconst 0 dX10_next0_56 (by decide) ?_
      refine V_istore_n 2 dX10_next0_57 rfl (by decide) rfl ?_
      refine V_iload_n 1 dX10_next0_58 rfl rfl ?_
      refine V_iconst (-1) dX10_next0_59 (by decide) ?_
      refine V_icmp_ne 71 dX10_next0_60 (by decide) ⟨fun z => ?_, fun z => ?_⟩
      · replace k := k.1 z
        refine V_iload_n 1 dX10_next0_71 rfl rfl ?_
        refine V_callS (mc := 0) (ms := 0) (as := [aI (seeF (sI h 26 0 38 (gI h 26 0 36)) (gI h 26 0 36))]) (st := []) dX10_next0_72 okX10_isLetter stX10_isLetter lkX10_177 rfl (Nat.le_of_ble_eq_true rfl) (Nat.zero_le _) (Nat.zero_le _) (cX10_isLetter_ ?_)
        show V true mX10_next0 (d + 3) bc bs 75 [(2, aI 0), (1, aI (seeF (sI h 26 0 38 (gI h 26 0 36)) (gI h 26 0 36))), (0, aR 26 0)] [aI (bI (ltr (seeF (sI h 26 0 38 (gI h 26 0 36)) (gI h 26 0 36))))] (sI h 26 0 38 (gI h 26 0 36)) P
        refine V_if_eq 152 dX10_next0_75 (by decide) ⟨fun z => ?_, fun z => ?_⟩
        · replace k := k.1 (bI_0 z)
          refine V_iload_n 1 dX10_next0_152 rfl rfl ?_
          refine V_callS (mc := 0) (ms := 0) (as := [aI (seeF (sI h 26 0 38 (gI h 26 0 36)) (gI h 26 0 36))]) (st := []) dX10_next0_153 okX10_isDigit stX10_isDigit lkX10_184 rfl (Nat.le_of_ble_eq_true rfl) (Nat.zero_le _) (Nat.zero_le _) (cX10_isDigit_ ?_)
          show V true mX10_next0 (d + 3) bc bs 156 [(2, aI 0), (1, aI (seeF (sI h 26 0 38 (gI h 26 0 36)) (gI h 26 0 36))), (0, aR 26 0)] [aI (bI (inR (seeF (sI h 26 0 38 (gI h 26 0 36)) (gI h 26 0 36)) 48 57))] (sI h 26 0 38 (gI h 26 0 36)) P
          refine V_if_eq 241 dX10_next0_156 (by decide) ⟨fun z => ?_, fun z => ?_⟩
          · replace k := k.1 (bI_0 z)
            refine V_aload_n 0 dX10_next0_241 rfl rfl ?_
            refine V_dup dX10_next0_242 rfl ?_
            refine GI_26_36 dX10_next0_243 lkX10_164 ?_
            refine V_re (y := gI h 26 0 36) rfl ?_
            refine V_iconst 1 dX10_next0_246 (by decide) ?_
            refine V_iadd dX10_next0_247 ?_
            refine PI_26_36 dX10_next0_248 lkX10_164 ?_
            refine V_iload_n 1 dX10_next0_251 rfl rfl ?_
            refine V_bipush 59 dX10_next0_252 (by decide) ?_
            refine V_icmp_eq 311 dX10_next0_254 (by decide) ⟨fun z => ?_, fun z => ?_⟩
            · replace k := k.1 z
              refine V_iconst 1 dX10_next0_311 (by decide) ?_
              refine V_goto 316 dX10_next0_312 (by decide) ?_
              refine V_istore_n 3 dX10_next0_316 rfl (by decide) rfl ?_
              refine V_aload_n 0 dX10_next0_317 rfl rfl ?_
              refine V_iload_n 3 dX10_next0_318 rfl rfl ?_
              refine V_if_eq 326 dX10_next0_319 (by decide) ⟨fun z => absurd z (by decide), fun z => ?_⟩
              refine V_iload_n 1 dX10_next0_322 rfl rfl ?_
              refine V_goto 327 dX10_next0_323 (by decide) ?_
              refine PI_26_37 dX10_next0_327 lkX10_174 ?_
              exact V_return dX10_next0_330 rfl k
            · replace k := k.2 z
              refine V_iload_n 1 dX10_next0_257 rfl rfl ?_
              refine V_bipush 43 dX10_next0_258 (by decide) ?_
              refine V_icmp_eq 311 dX10_next0_260 (by decide) ⟨fun z => ?_, fun z => ?_⟩
              · replace k := k.1 z
                refine V_iconst 1 dX10_next0_311 (by decide) ?_
                refine V_goto 316 dX10_next0_312 (by decide) ?_
                refine V_istore_n 3 dX10_next0_316 rfl (by decide) rfl ?_
                refine V_aload_n 0 dX10_next0_317 rfl rfl ?_
                refine V_iload_n 3 dX10_next0_318 rfl rfl ?_
                refine V_if_eq 326 dX10_next0_319 (by decide) ⟨fun z => absurd z (by decide), fun z => ?_⟩
                refine V_iload_n 1 dX10_next0_322 rfl rfl ?_
                refine V_goto 327 dX10_next0_323 (by decide) ?_
                refine PI_26_37 dX10_next0_327 lkX10_174 ?_
                exact V_return dX10_next0_330 rfl k
              · replace k := k.2 z
                refine V_iload_n 1 dX10_next0_263 rfl rfl ?_
                refine V_bipush 45 dX10_next0_264 (by decide) ?_
                refine V_icmp_eq 311 dX10_next0_266 (by decide) ⟨fun z => ?_, fun z => ?_⟩
                · replace k := k.1 z
                  refine V_iconst 1 dX10_next0_311 (by decide) ?_
                  refine V_goto 316 dX10_next0_312 (by decide) ?_
                  refine V_istore_n 3 dX10_next0_316 rfl (by decide) rfl ?_
                  refine V_aload_n 0 dX10_next0_317 rfl rfl ?_
                  refine V_iload_n 3 dX10_next0_318 rfl rfl ?_
                  refine V_if_eq 326 dX10_next0_319 (by decide) ⟨fun z => absurd z (by decide), fun z => ?_⟩
                  refine V_iload_n 1 dX10_next0_322 rfl rfl ?_
                  refine V_goto 327 dX10_next0_323 (by decide) ?_
                  refine PI_26_37 dX10_next0_327 lkX10_174 ?_
                  exact V_return dX10_next0_330 rfl k
                · replace k := k.2 z
                  refine V_iload_n 1 dX10_next0_269 rfl rfl ?_
                  refine V_bipush 42 dX10_next0_270 (by decide) ?_
                  refine V_icmp_eq 311 dX10_next0_272 (by decide) ⟨fun z => ?_, fun z => ?_⟩
                  · replace k := k.1 z
                    refine V_iconst 1 dX10_next0_311 (by decide) ?_
                    refine V_goto 316 dX10_next0_312 (by decide) ?_
                    refine V_istore_n 3 dX10_next0_316 rfl (by decide) rfl ?_
                    refine V_aload_n 0 dX10_next0_317 rfl rfl ?_
                    refine V_iload_n 3 dX10_next0_318 rfl rfl ?_
                    refine V_if_eq 326 dX10_next0_319 (by decide) ⟨fun z => absurd z (by decide), fun z => ?_⟩
                    refine V_iload_n 1 dX10_next0_322 rfl rfl ?_
                    refine V_goto 327 dX10_next0_323 (by decide) ?_
                    refine PI_26_37 dX10_next0_327 lkX10_174 ?_
                    exact V_return dX10_next0_330 rfl k
                  · replace k := k.2 z
                    refine V_iload_n 1 dX10_next0_275 rfl rfl ?_
                    refine V_bipush 47 dX10_next0_276 (by decide) ?_
                    refine V_icmp_eq 311 dX10_next0_278 (by decide) ⟨fun z => ?_, fun z => ?_⟩
                    · replace k := k.1 z
                      refine V_iconst 1 dX10_next0_311 (by decide) ?_
                      refine V_goto 316 dX10_next0_312 (by decide) ?_
                      refine V_istore_n 3 dX10_next0_316 rfl (by decide) rfl ?_
                      refine V_aload_n 0 dX10_next0_317 rfl rfl ?_
                      refine V_iload_n 3 dX10_next0_318 rfl rfl ?_
                      refine V_if_eq 326 dX10_next0_319 (by decide) ⟨fun z => absurd z (by decide), fun z => ?_⟩
                      refine V_iload_n 1 dX10_next0_322 rfl rfl ?_
                      refine V_goto 327 dX10_next0_323 (by decide) ?_
                      refine PI_26_37 dX10_next0_327 lkX10_174 ?_
                      exact V_return dX10_next0_330 rfl k
                    · replace k := k.2 z
                      refine V_iload_n 1 dX10_next0_281 rfl rfl ?_
                      refine V_bipush 40 dX10_next0_282 (by decide) ?_
                      refine V_icmp_eq 311 dX10_next0_284 (by decide) ⟨fun z => ?_, fun z => ?_⟩
                      · replace k := k.1 z
                        refine V_iconst 1 dX10_next0_311 (by decide) ?_
                        refine V_goto 316 dX10_next0_312 (by decide) ?_
                        refine V_istore_n 3 dX10_next0_316 rfl (by decide) rfl ?_
                        refine V_aload_n 0 dX10_next0_317 rfl rfl ?_
                        refine V_iload_n 3 dX10_next0_318 rfl rfl ?_
                        refine V_if_eq 326 dX10_next0_319 (by decide) ⟨fun z => absurd z (by decide), fun z => ?_⟩
                        refine V_iload_n 1 dX10_next0_322 rfl rfl ?_
                        refine V_goto 327 dX10_next0_323 (by decide) ?_
                        refine PI_26_37 dX10_next0_327 lkX10_174 ?_
                        exact V_return dX10_next0_330 rfl k
                      · replace k := k.2 z
                        refine V_iload_n 1 dX10_next0_287 rfl rfl ?_
                        refine V_bipush 41 dX10_next0_288 (by decide) ?_
                        refine V_icmp_eq 311 dX10_next0_290 (by decide) ⟨fun z => ?_, fun z => ?_⟩
                        · replace k := k.1 z
                          refine V_iconst 1 dX10_next0_311 (by decide) ?_
                          refine V_goto 316 dX10_next0_312 (by decide) ?_
                          refine V_istore_n 3 dX10_next0_316 rfl (by decide) rfl ?_
                          refine V_aload_n 0 dX10_next0_317 rfl rfl ?_
                          refine V_iload_n 3 dX10_next0_318 rfl rfl ?_
                          refine V_if_eq 326 dX10_next0_319 (by decide) ⟨fun z => absurd z (by decide), fun z => ?_⟩
                          refine V_iload_n 1 dX10_next0_322 rfl rfl ?_
                          refine V_goto 327 dX10_next0_323 (by decide) ?_
                          refine PI_26_37 dX10_next0_327 lkX10_174 ?_
                          exact V_return dX10_next0_330 rfl k
                        · replace k := k.2 z
                          refine V_iload_n 1 dX10_next0_293 rfl rfl ?_
                          refine V_bipush 60 dX10_next0_294 (by decide) ?_
                          refine V_icmp_eq 311 dX10_next0_296 (by decide) ⟨fun z => ?_, fun z => ?_⟩
                          · replace k := k.1 z
                            refine V_iconst 1 dX10_next0_311 (by decide) ?_
                            refine V_goto 316 dX10_next0_312 (by decide) ?_
                            refine V_istore_n 3 dX10_next0_316 rfl (by decide) rfl ?_
                            refine V_aload_n 0 dX10_next0_317 rfl rfl ?_
                            refine V_iload_n 3 dX10_next0_318 rfl rfl ?_
                            refine V_if_eq 326 dX10_next0_319 (by decide) ⟨fun z => absurd z (by decide), fun z => ?_⟩
                            refine V_iload_n 1 dX10_next0_322 rfl rfl ?_
                            refine V_goto 327 dX10_next0_323 (by decide) ?_
                            refine PI_26_37 dX10_next0_327 lkX10_174 ?_
                            exact V_return dX10_next0_330 rfl k
                          · replace k := k.2 z
                            refine V_iload_n 1 dX10_next0_299 rfl rfl ?_
                            refine V_bipush 61 dX10_next0_300 (by decide) ?_
                            refine V_icmp_eq 311 dX10_next0_302 (by decide) ⟨fun z => ?_, fun z => ?_⟩
                            · replace k := k.1 z
                              refine V_iconst 1 dX10_next0_311 (by decide) ?_
                              refine V_goto 316 dX10_next0_312 (by decide) ?_
                              refine V_istore_n 3 dX10_next0_316 rfl (by decide) rfl ?_
                              refine V_aload_n 0 dX10_next0_317 rfl rfl ?_
                              refine V_iload_n 3 dX10_next0_318 rfl rfl ?_
                              refine V_if_eq 326 dX10_next0_319 (by decide) ⟨fun z => absurd z (by decide), fun z => ?_⟩
                              refine V_iload_n 1 dX10_next0_322 rfl rfl ?_
                              refine V_goto 327 dX10_next0_323 (by decide) ?_
                              refine PI_26_37 dX10_next0_327 lkX10_174 ?_
                              exact V_return dX10_next0_330 rfl k
                            · replace k := k.2 z
                              refine V_iload_n 1 dX10_next0_305 rfl rfl ?_
                              refine V_bipush 62 dX10_next0_306 (by decide) ?_
                              refine V_icmp_ne 315 dX10_next0_308 (by decide) ⟨fun z => ?_, fun z => ?_⟩
                              · replace k := k.1 z
                                refine V_iconst 0 dX10_next0_315 (by decide) ?_
                                refine V_istore_n 3 dX10_next0_316 rfl (by decide) rfl ?_
                                refine V_aload_n 0 dX10_next0_317 rfl rfl ?_
                                refine V_iload_n 3 dX10_next0_318 rfl rfl ?_
                                refine V_if_eq 326 dX10_next0_319 (by decide) ⟨fun z => ?_, fun z => absurd z (by decide)⟩
                                refine V_iconst 1 dX10_next0_326 (by decide) ?_
                                refine PI_26_37 dX10_next0_327 lkX10_174 ?_
                                exact V_return dX10_next0_330 rfl k
                              · replace k := k.2 z
                                refine V_iconst 1 dX10_next0_311 (by decide) ?_
                                refine V_goto 316 dX10_next0_312 (by decide) ?_
                                refine V_istore_n 3 dX10_next0_316 rfl (by decide) rfl ?_
                                refine V_aload_n 0 dX10_next0_317 rfl rfl ?_
                                refine V_iload_n 3 dX10_next0_318 rfl rfl ?_
                                refine V_if_eq 326 dX10_next0_319 (by decide) ⟨fun z => absurd z (by decide), fun z => ?_⟩
                                refine V_iload_n 1 dX10_next0_322 rfl rfl ?_
                                refine V_goto 327 dX10_next0_323 (by decide) ?_
                                refine PI_26_37 dX10_next0_327 lkX10_174 ?_
                                exact V_return dX10_next0_330 rfl k
          · replace k := k.2 (bI_1 z)
            refine V_aload_n 0 dX10_next0_159 rfl rfl ?_
            refine V_iconst 0 dX10_next0_160 (by decide) ?_
            refine PI_26_39 dX10_next0_161 lkX10_187 ?_
            exact V_lv [2, 0] rfl k
        · replace k := k.2 (bI_1 z)
          refine V_lconst 0 dX10_next0_78 (by decide) ?_
          refine V_lstore_n 3 dX10_next0_79 rfl (by decide) rfl ?_
          exact V_lv [3, 1, 0] rfl k
      · replace k := k.2 z
        refine V_aload_n 0 dX10_next0_63 rfl rfl ?_
        refine V_iconst 0 dX10_next0_64 (by decide) ?_
        refine PI_26_37 dX10_next0_65 lkX10_174 ?_
        refine V_goto 330 dX10_next0_68 (by decide) ?_
        exact V_return dX10_next0_330 rfl k
    · replace k := k.2 z
      refine V_aload_n 0 dX10_next0_26 rfl rfl ?_
      refine V_dup dX10_next0_27 rfl ?_
      refine GI_26_36 dX10_next0_28 lkX10_164 ?_
      refine V_iconst 1 dX10_next0_31 (by decide) ?_
      refine V_iadd dX10_next0_32 ?_
      refine PI_26_36 dX10_next0_33 lkX10_164 ?_
      refine V_goto 0 dX10_next0_36 (by decide) ?_
      exact V_lv [0] rfl k
set_option maxRecDepth 20000 in
set_option maxHeartbeats 2000000 in
theorem wX10_next0_0 {d bc bs : Nat} {h : HS} {P : Option AV → HS → Prop}  (k : (¬ gI h 26 0 35 ≤ (gI h 26 0 36) → vp_in (gI h 26 0 36) 400) ∧ ((((seeF h (gI h 26 0 36)) = 32) → (V true mX10_next0 (d + 3) bc bs 0 [(0, aR 26 0)] [] (sI h 26 0 36 ((gI h 26 0 36) + 1)) P)) ∧ ((¬ (seeF h (gI h 26 0 36)) = 32) → ((¬ gI h 26 0 35 ≤ (gI h 26 0 36) → vp_in (gI h 26 0 36) 400) ∧ (((¬ (seeF h (gI h 26 0 36)) = 10) → ((¬ gI (sI h 26 0 38 (gI h 26 0 36)) 26 0 35 ≤ (gI h 26 0 36) → vp_in (gI h 26 0 36) 400) ∧ (((¬ (seeF (sI h 26 0 38 (gI h 26 0 36)) (gI h 26 0 36)) = (-1)) → (((¬ (ltr (seeF (sI h 26 0 38 (gI h 26 0 36)) (gI h 26 0 36)))) → (((¬ (inR (seeF (sI h 26 0 38 (gI h 26 0 36)) (gI h 26 0 36)) 48 57)) → ((((seeF (sI h 26 0 38 (gI h 26 0 36)) (gI h 26 0 36)) = 59) → (P none (sI (sI (sI h 26 0 38 (gI h 26 0 36)) 26 0 36 ((gI h 26 0 36) + 1)) 26 0 37 (seeF (sI h 26 0 38 (gI h 26 0 36)) (gI h 26 0 36))))) ∧ ((¬ (seeF (sI h 26 0 38 (gI h 26 0 36)) (gI h 26 0 36)) = 59) → ((((seeF (sI h 26 0 38 (gI h 26 0 36)) (gI h 26 0 36)) = 43) → (P none (sI (sI (sI h 26 0 38 (gI h 26 0 36)) 26 0 36 ((gI h 26 0 36) + 1)) 26 0 37 (seeF (sI h 26 0 38 (gI h 26 0 36)) (gI h 26 0 36))))) ∧ ((¬ (seeF (sI h 26 0 38 (gI h 26 0 36)) (gI h 26 0 36)) = 43) → ((((seeF (sI h 26 0 38 (gI h 26 0 36)) (gI h 26 0 36)) = 45) → (P none (sI (sI (sI h 26 0 38 (gI h 26 0 36)) 26 0 36 ((gI h 26 0 36) + 1)) 26 0 37 (seeF (sI h 26 0 38 (gI h 26 0 36)) (gI h 26 0 36))))) ∧ ((¬ (seeF (sI h 26 0 38 (gI h 26 0 36)) (gI h 26 0 36)) = 45) → ((((seeF (sI h 26 0 38 (gI h 26 0 36)) (gI h 26 0 36)) = 42) → (P none (sI (sI (sI h 26 0 38 (gI h 26 0 36)) 26 0 36 ((gI h 26 0 36) + 1)) 26 0 37 (seeF (sI h 26 0 38 (gI h 26 0 36)) (gI h 26 0 36))))) ∧ ((¬ (seeF (sI h 26 0 38 (gI h 26 0 36)) (gI h 26 0 36)) = 42) → ((((seeF (sI h 26 0 38 (gI h 26 0 36)) (gI h 26 0 36)) = 47) → (P none (sI (sI (sI h 26 0 38 (gI h 26 0 36)) 26 0 36 ((gI h 26 0 36) + 1)) 26 0 37 (seeF (sI h 26 0 38 (gI h 26 0 36)) (gI h 26 0 36))))) ∧ ((¬ (seeF (sI h 26 0 38 (gI h 26 0 36)) (gI h 26 0 36)) = 47) → ((((seeF (sI h 26 0 38 (gI h 26 0 36)) (gI h 26 0 36)) = 40) → (P none (sI (sI (sI h 26 0 38 (gI h 26 0 36)) 26 0 36 ((gI h 26 0 36) + 1)) 26 0 37 (seeF (sI h 26 0 38 (gI h 26 0 36)) (gI h 26 0 36))))) ∧ ((¬ (seeF (sI h 26 0 38 (gI h 26 0 36)) (gI h 26 0 36)) = 40) → ((((seeF (sI h 26 0 38 (gI h 26 0 36)) (gI h 26 0 36)) = 41) → (P none (sI (sI (sI h 26 0 38 (gI h 26 0 36)) 26 0 36 ((gI h 26 0 36) + 1)) 26 0 37 (seeF (sI h 26 0 38 (gI h 26 0 36)) (gI h 26 0 36))))) ∧ ((¬ (seeF (sI h 26 0 38 (gI h 26 0 36)) (gI h 26 0 36)) = 41) → ((((seeF (sI h 26 0 38 (gI h 26 0 36)) (gI h 26 0 36)) = 60) → (P none (sI (sI (sI h 26 0 38 (gI h 26 0 36)) 26 0 36 ((gI h 26 0 36) + 1)) 26 0 37 (seeF (sI h 26 0 38 (gI h 26 0 36)) (gI h 26 0 36))))) ∧ ((¬ (seeF (sI h 26 0 38 (gI h 26 0 36)) (gI h 26 0 36)) = 60) → ((((seeF (sI h 26 0 38 (gI h 26 0 36)) (gI h 26 0 36)) = 61) → (P none (sI (sI (sI h 26 0 38 (gI h 26 0 36)) 26 0 36 ((gI h 26 0 36) + 1)) 26 0 37 (seeF (sI h 26 0 38 (gI h 26 0 36)) (gI h 26 0 36))))) ∧ ((¬ (seeF (sI h 26 0 38 (gI h 26 0 36)) (gI h 26 0 36)) = 61) → (((¬ (seeF (sI h 26 0 38 (gI h 26 0 36)) (gI h 26 0 36)) = 62) → (P none (sI (sI (sI h 26 0 38 (gI h 26 0 36)) 26 0 36 ((gI h 26 0 36) + 1)) 26 0 37 1))) ∧ (((seeF (sI h 26 0 38 (gI h 26 0 36)) (gI h 26 0 36)) = 62) → (P none (sI (sI (sI h 26 0 38 (gI h 26 0 36)) 26 0 36 ((gI h 26 0 36) + 1)) 26 0 37 (seeF (sI h 26 0 38 (gI h 26 0 36)) (gI h 26 0 36))))))))))))))))))))))))) ∧ (((inR (seeF (sI h 26 0 38 (gI h 26 0 36)) (gI h 26 0 36)) 48 57)) → (V true mX10_next0 (d + 3) bc bs 164 [(0, aR 26 0), (2, aI 0)] [] (sI (sI h 26 0 38 (gI h 26 0 36)) 26 0 39 0) P)))) ∧ (((ltr (seeF (sI h 26 0 38 (gI h 26 0 36)) (gI h 26 0 36)))) → (V true mX10_next0 (d + 3) bc bs 80 [(0, aR 26 0), (2, aI 0), (3, aL 0)] [] (sI h 26 0 38 (gI h 26 0 36)) P)))) ∧ (((seeF (sI h 26 0 38 (gI h 26 0 36)) (gI h 26 0 36)) = (-1)) → (P none (sI (sI h 26 0 38 (gI h 26 0 36)) 26 0 37 0)))))) ∧ (((seeF h (gI h 26 0 36)) = 10) → (V true mX10_next0 (d + 3) bc bs 0 [(0, aR 26 0)] [] (sI h 26 0 36 ((gI h 26 0 36) + 1)) P))))))) : V true mX10_next0 (d + 3) bc bs 0 [(0, aR 26 0)] [] h P := by
  refine V_aload_n 0 dX10_next0_0 rfl rfl ?_
  refine V_aload_n 0 dX10_next0_1 rfl rfl ?_
  refine GI_26_36 dX10_next0_2 lkX10_164 ?_
  obtain ⟨s3, k⟩ := k
  refine V_callV (mc := 0) (ms := 0) (as := [aI (gI h 26 0 36)]) (st := []) (by decide) rt_26 rfl dX10_next0_5 okX10_see inX10_see seX10_see lkX10_167 rfl (Nat.le_of_ble_eq_true rfl) (Nat.zero_le _) (Nat.zero_le _) (cX10_see_ s3 ?_)
  show V true mX10_next0 (d + 3) bc bs 8 [(0, aR 26 0)] [aI (seeF h (gI h 26 0 36))] h P
  refine V_bipush 32 dX10_next0_8 (by decide) ?_
  refine V_icmp_eq 26 dX10_next0_10 (by decide) ⟨fun z => ?_, fun z => ?_⟩
  · replace k := k.1 z
    refine V_aload_n 0 dX10_next0_26 rfl rfl ?_
    refine V_dup dX10_next0_27 rfl ?_
    refine GI_26_36 dX10_next0_28 lkX10_164 ?_
    refine V_iconst 1 dX10_next0_31 (by decide) ?_
    refine V_iadd dX10_next0_32 ?_
    refine PI_26_36 dX10_next0_33 lkX10_164 ?_
    refine V_goto 0 dX10_next0_36 (by decide) ?_
    exact V_lv [0] rfl k
  · replace k := k.2 z
    refine V_aload_n 0 dX10_next0_13 rfl rfl ?_
    refine V_aload_n 0 dX10_next0_14 rfl rfl ?_
    refine GI_26_36 dX10_next0_15 lkX10_164 ?_
    obtain ⟨s6, k⟩ := k
    refine V_callV (mc := 0) (ms := 0) (as := [aI (gI h 26 0 36)]) (st := []) (by decide) rt_26 rfl dX10_next0_18 okX10_see inX10_see seX10_see lkX10_167 rfl (Nat.le_of_ble_eq_true rfl) (Nat.zero_le _) (Nat.zero_le _) (cX10_see_ s6 ?_)
    show V true mX10_next0 (d + 3) bc bs 21 [(0, aR 26 0)] [aI (seeF h (gI h 26 0 36))] h P
    refine V_bipush 10 dX10_next0_21 (by decide) ?_
    refine V_icmp_ne 39 dX10_next0_23 (by decide) ⟨fun z => ?_, fun z => ?_⟩
    · replace k := k.1 z
      refine V_aload_n 0 dX10_next0_39 rfl rfl ?_
      refine V_aload_n 0 dX10_next0_40 rfl rfl ?_
      refine GI_26_36 dX10_next0_41 lkX10_164 ?_
      refine PI_26_38 dX10_next0_44 lkX10_171 ?_
      refine V_aload_n 0 dX10_next0_47 rfl rfl ?_
      refine V_aload_n 0 dX10_next0_48 rfl rfl ?_
      refine GI_26_36 dX10_next0_49 lkX10_164 ?_
      refine V_re (y := gI h 26 0 36) rfl ?_
      obtain ⟨s9, k⟩ := k
      refine V_callV (mc := 0) (ms := 0) (as := [aI (gI h 26 0 36)]) (st := []) (by decide) rt_26 rfl dX10_next0_52 okX10_see inX10_see seX10_see lkX10_167 rfl (Nat.le_of_ble_eq_true rfl) (Nat.zero_le _) (Nat.zero_le _) (cX10_see_ s9 ?_)
      show V true mX10_next0 (d + 3) bc bs 55 [(0, aR 26 0)] [aI (seeF (sI h 26 0 38 (gI h 26 0 36)) (gI h 26 0 36))] (sI h 26 0 38 (gI h 26 0 36)) P
      refine V_istore_n 1 dX10_next0_55 rfl (by decide) rfl ?_
      refine V_iconst 0 dX10_next0_56 (by decide) ?_
      refine V_istore_n 2 dX10_next0_57 rfl (by decide) rfl ?_
      refine V_iload_n 1 dX10_next0_58 rfl rfl ?_
      refine V_iconst (-1) dX10_next0_59 (by decide) ?_
      refine V_icmp_ne 71 dX10_next0_60 (by decide) ⟨fun z => ?_, fun z => ?_⟩
      · replace k := k.1 z
        refine V_iload_n 1 dX10_next0_71 rfl rfl ?_
        refine V_callS (mc := 0) (ms := 0) (as := [aI (seeF (sI h 26 0 38 (gI h 26 0 36)) (gI h 26 0 36))]) (st := []) dX10_next0_72 okX10_isLetter stX10_isLetter lkX10_177 rfl (Nat.le_of_ble_eq_true rfl) (Nat.zero_le _) (Nat.zero_le _) (cX10_isLetter_ ?_)
        show V true mX10_next0 (d + 3) bc bs 75 [(2, aI 0), (1, aI (seeF (sI h 26 0 38 (gI h 26 0 36)) (gI h 26 0 36))), (0, aR 26 0)] [aI (bI (ltr (seeF (sI h 26 0 38 (gI h 26 0 36)) (gI h 26 0 36))))] (sI h 26 0 38 (gI h 26 0 36)) P
        refine V_if_eq 152 dX10_next0_75 (by decide) ⟨fun z => ?_, fun z => ?_⟩
        · replace k := k.1 (bI_0 z)
          refine V_iload_n 1 dX10_next0_152 rfl rfl ?_
          refine V_callS (mc := 0) (ms := 0) (as := [aI (seeF (sI h 26 0 38 (gI h 26 0 36)) (gI h 26 0 36))]) (st := []) dX10_next0_153 okX10_isDigit stX10_isDigit lkX10_184 rfl (Nat.le_of_ble_eq_true rfl) (Nat.zero_le _) (Nat.zero_le _) (cX10_isDigit_ ?_)
          show V true mX10_next0 (d + 3) bc bs 156 [(2, aI 0), (1, aI (seeF (sI h 26 0 38 (gI h 26 0 36)) (gI h 26 0 36))), (0, aR 26 0)] [aI (bI (inR (seeF (sI h 26 0 38 (gI h 26 0 36)) (gI h 26 0 36)) 48 57))] (sI h 26 0 38 (gI h 26 0 36)) P
          refine V_if_eq 241 dX10_next0_156 (by decide) ⟨fun z => ?_, fun z => ?_⟩
          · replace k := k.1 (bI_0 z)
            refine V_aload_n 0 dX10_next0_241 rfl rfl ?_
            refine V_dup dX10_next0_242 rfl ?_
            refine GI_26_36 dX10_next0_243 lkX10_164 ?_
            refine V_re (y := gI h 26 0 36) rfl ?_
            refine V_iconst 1 dX10_next0_246 (by decide) ?_
            refine V_iadd dX10_next0_247 ?_
            refine PI_26_36 dX10_next0_248 lkX10_164 ?_
            refine V_iload_n 1 dX10_next0_251 rfl rfl ?_
            refine V_bipush 59 dX10_next0_252 (by decide) ?_
            refine V_icmp_eq 311 dX10_next0_254 (by decide) ⟨fun z => ?_, fun z => ?_⟩
            · replace k := k.1 z
              refine V_iconst 1 dX10_next0_311 (by decide) ?_
              refine V_goto 316 dX10_next0_312 (by decide) ?_
              refine V_istore_n 3 dX10_next0_316 rfl (by decide) rfl ?_
              refine V_aload_n 0 dX10_next0_317 rfl rfl ?_
              refine V_iload_n 3 dX10_next0_318 rfl rfl ?_
              refine V_if_eq 326 dX10_next0_319 (by decide) ⟨fun z => absurd z (by decide), fun z => ?_⟩
              refine V_iload_n 1 dX10_next0_322 rfl rfl ?_
              refine V_goto 327 dX10_next0_323 (by decide) ?_
              refine PI_26_37 dX10_next0_327 lkX10_174 ?_
              exact V_return dX10_next0_330 rfl k
            · replace k := k.2 z
              refine V_iload_n 1 dX10_next0_257 rfl rfl ?_
              refine V_bipush 43 dX10_next0_258 (by decide) ?_
              refine V_icmp_eq 311 dX10_next0_260 (by decide) ⟨fun z => ?_, fun z => ?_⟩
              · replace k := k.1 z
                refine V_iconst 1 dX10_next0_311 (by decide) ?_
                refine V_goto 316 dX10_next0_312 (by decide) ?_
                refine V_istore_n 3 dX10_next0_316 rfl (by decide) rfl ?_
                refine V_aload_n 0 dX10_next0_317 rfl rfl ?_
                refine V_iload_n 3 dX10_next0_318 rfl rfl ?_
                refine V_if_eq 326 dX10_next0_319 (by decide) ⟨fun z => absurd z (by decide), fun z => ?_⟩
                refine V_iload_n 1 dX10_next0_322 rfl rfl ?_
                refine V_goto 327 dX10_next0_323 (by decide) ?_
                refine PI_26_37 dX10_next0_327 lkX10_174 ?_
                exact V_return dX10_next0_330 rfl k
              · replace k := k.2 z
                refine V_iload_n 1 dX10_next0_263 rfl rfl ?_
                refine V_bipush 45 dX10_next0_264 (by decide) ?_
                refine V_icmp_eq 311 dX10_next0_266 (by decide) ⟨fun z => ?_, fun z => ?_⟩
                · replace k := k.1 z
                  refine V_iconst 1 dX10_next0_311 (by decide) ?_
                  refine V_goto 316 dX10_next0_312 (by decide) ?_
                  refine V_istore_n 3 dX10_next0_316 rfl (by decide) rfl ?_
                  refine V_aload_n 0 dX10_next0_317 rfl rfl ?_
                  refine V_iload_n 3 dX10_next0_318 rfl rfl ?_
                  refine V_if_eq 326 dX10_next0_319 (by decide) ⟨fun z => absurd z (by decide), fun z => ?_⟩
                  refine V_iload_n 1 dX10_next0_322 rfl rfl ?_
                  refine V_goto 327 dX10_next0_323 (by decide) ?_
                  refine PI_26_37 dX10_next0_327 lkX10_174 ?_
                  exact V_return dX10_next0_330 rfl k
                · replace k := k.2 z
                  refine V_iload_n 1 dX10_next0_269 rfl rfl ?_
                  refine V_bipush 42 dX10_next0_270 (by decide) ?_
                  refine V_icmp_eq 311 dX10_next0_272 (by decide) ⟨fun z => ?_, fun z => ?_⟩
                  · replace k := k.1 z
                    refine V_iconst 1 dX10_next0_311 (by decide) ?_
                    refine V_goto 316 dX10_next0_312 (by decide) ?_
                    refine V_istore_n 3 dX10_next0_316 rfl (by decide) rfl ?_
                    refine V_aload_n 0 dX10_next0_317 rfl rfl ?_
                    refine V_iload_n 3 dX10_next0_318 rfl rfl ?_
                    refine V_if_eq 326 dX10_next0_319 (by decide) ⟨fun z => absurd z (by decide), fun z => ?_⟩
                    refine V_iload_n 1 dX10_next0_322 rfl rfl ?_
                    refine V_goto 327 dX10_next0_323 (by decide) ?_
                    refine PI_26_37 dX10_next0_327 lkX10_174 ?_
                    exact V_return dX10_next0_330 rfl k
                  · replace k := k.2 z
                    refine V_iload_n 1 dX10_next0_275 rfl rfl ?_
                    refine V_bipush 47 dX10_next0_276 (by decide) ?_
                    refine V_icmp_eq 311 dX10_next0_278 (by decide) ⟨fun z => ?_, fun z => ?_⟩
                    · replace k := k.1 z
                      refine V_iconst 1 dX10_next0_311 (by decide) ?_
                      refine V_goto 316 dX10_next0_312 (by decide) ?_
                      refine V_istore_n 3 dX10_next0_316 rfl (by decide) rfl ?_
                      refine V_aload_n 0 dX10_next0_317 rfl rfl ?_
                      refine V_iload_n 3 dX10_next0_318 rfl rfl ?_
                      refine V_if_eq 326 dX10_next0_319 (by decide) ⟨fun z => absurd z (by decide), fun z => ?_⟩
                      refine V_iload_n 1 dX10_next0_322 rfl rfl ?_
                      refine V_goto 327 dX10_next0_323 (by decide) ?_
                      refine PI_26_37 dX10_next0_327 lkX10_174 ?_
                      exact V_return dX10_next0_330 rfl k
                    · replace k := k.2 z
                      refine V_iload_n 1 dX10_next0_281 rfl rfl ?_
                      refine V_bipush 40 dX10_next0_282 (by decide) ?_
                      refine V_icmp_eq 311 dX10_next0_284 (by decide) ⟨fun z => ?_, fun z => ?_⟩
                      · replace k := k.1 z
                        refine V_iconst 1 dX10_next0_311 (by decide) ?_
                        refine V_goto 316 dX10_next0_312 (by decide) ?_
                        refine V_istore_n 3 dX10_next0_316 rfl (by decide) rfl ?_
                        refine V_aload_n 0 dX10_next0_317 rfl rfl ?_
                        refine V_iload_n 3 dX10_next0_318 rfl rfl ?_
                        refine V_if_eq 326 dX10_next0_319 (by decide) ⟨fun z => absurd z (by decide), fun z => ?_⟩
                        refine V_iload_n 1 dX10_next0_322 rfl rfl ?_
                        refine V_goto 327 dX10_next0_323 (by decide) ?_
                        refine PI_26_37 dX10_next0_327 lkX10_174 ?_
                        exact V_return dX10_next0_330 rfl k
                      · replace k := k.2 z
                        refine V_iload_n 1 dX10_next0_287 rfl rfl ?_
                        refine V_bipush 41 dX10_next0_288 (by decide) ?_
                        refine V_icmp_eq 311 dX10_next0_290 (by decide) ⟨fun z => ?_, fun z => ?_⟩
                        · replace k := k.1 z
                          refine V_iconst 1 dX10_next0_311 (by decide) ?_
                          refine V_goto 316 dX10_next0_312 (by decide) ?_
                          refine V_istore_n 3 dX10_next0_316 rfl (by decide) rfl ?_
                          refine V_aload_n 0 dX10_next0_317 rfl rfl ?_
                          refine V_iload_n 3 dX10_next0_318 rfl rfl ?_
                          refine V_if_eq 326 dX10_next0_319 (by decide) ⟨fun z => absurd z (by decide), fun z => ?_⟩
                          refine V_iload_n 1 dX10_next0_322 rfl rfl ?_
                          refine V_goto 327 dX10_next0_323 (by decide) ?_
                          refine PI_26_37 dX10_next0_327 lkX10_174 ?_
                          exact V_return dX10_next0_330 rfl k
                        · replace k := k.2 z
                          refine V_iload_n 1 dX10_next0_293 rfl rfl ?_
                          refine V_bipush 60 dX10_next0_294 (by decide) ?_
                          refine V_icmp_eq 311 dX10_next0_296 (by decide) ⟨fun z => ?_, fun z => ?_⟩
                          · replace k := k.1 z
                            refine V_iconst 1 dX10_next0_311 (by decide) ?_
                            refine V_goto 316 dX10_next0_312 (by decide) ?_
                            refine V_istore_n 3 dX10_next0_316 rfl (by decide) rfl ?_
                            refine V_aload_n 0 dX10_next0_317 rfl rfl ?_
                            refine V_iload_n 3 dX10_next0_318 rfl rfl ?_
                            refine V_if_eq 326 dX10_next0_319 (by decide) ⟨fun z => absurd z (by decide), fun z => ?_⟩
                            refine V_iload_n 1 dX10_next0_322 rfl rfl ?_
                            refine V_goto 327 dX10_next0_323 (by decide) ?_
                            refine PI_26_37 dX10_next0_327 lkX10_174 ?_
                            exact V_return dX10_next0_330 rfl k
                          · replace k := k.2 z
                            refine V_iload_n 1 dX10_next0_299 rfl rfl ?_
                            refine V_bipush 61 dX10_next0_300 (by decide) ?_
                            refine V_icmp_eq 311 dX10_next0_302 (by decide) ⟨fun z => ?_, fun z => ?_⟩
                            · replace k := k.1 z
                              refine V_iconst 1 dX10_next0_311 (by decide) ?_
                              refine V_goto 316 dX10_next0_312 (by decide) ?_
                              refine V_istore_n 3 dX10_next0_316 rfl (by decide) rfl ?_
                              refine V_aload_n 0 dX10_next0_317 rfl rfl ?_
                              refine V_iload_n 3 dX10_next0_318 rfl rfl ?_
                              refine V_if_eq 326 dX10_next0_319 (by decide) ⟨fun z => absurd z (by decide), fun z => ?_⟩
                              refine V_iload_n 1 dX10_next0_322 rfl rfl ?_
                              refine V_goto 327 dX10_next0_323 (by decide) ?_
                              refine PI_26_37 dX10_next0_327 lkX10_174 ?_
                              exact V_return dX10_next0_330 rfl k
                            · replace k := k.2 z
                              refine V_iload_n 1 dX10_next0_305 rfl rfl ?_
                              refine V_bipush 62 dX10_next0_306 (by decide) ?_
                              refine V_icmp_ne 315 dX10_next0_308 (by decide) ⟨fun z => ?_, fun z => ?_⟩
                              · replace k := k.1 z
                                refine V_iconst 0 dX10_next0_315 (by decide) ?_
                                refine V_istore_n 3 dX10_next0_316 rfl (by decide) rfl ?_
                                refine V_aload_n 0 dX10_next0_317 rfl rfl ?_
                                refine V_iload_n 3 dX10_next0_318 rfl rfl ?_
                                refine V_if_eq 326 dX10_next0_319 (by decide) ⟨fun z => ?_, fun z => absurd z (by decide)⟩
                                refine V_iconst 1 dX10_next0_326 (by decide) ?_
                                refine PI_26_37 dX10_next0_327 lkX10_174 ?_
                                exact V_return dX10_next0_330 rfl k
                              · replace k := k.2 z
                                refine V_iconst 1 dX10_next0_311 (by decide) ?_
                                refine V_goto 316 dX10_next0_312 (by decide) ?_
                                refine V_istore_n 3 dX10_next0_316 rfl (by decide) rfl ?_
                                refine V_aload_n 0 dX10_next0_317 rfl rfl ?_
                                refine V_iload_n 3 dX10_next0_318 rfl rfl ?_
                                refine V_if_eq 326 dX10_next0_319 (by decide) ⟨fun z => absurd z (by decide), fun z => ?_⟩
                                refine V_iload_n 1 dX10_next0_322 rfl rfl ?_
                                refine V_goto 327 dX10_next0_323 (by decide) ?_
                                refine PI_26_37 dX10_next0_327 lkX10_174 ?_
                                exact V_return dX10_next0_330 rfl k
          · replace k := k.2 (bI_1 z)
            refine V_aload_n 0 dX10_next0_159 rfl rfl ?_
            refine V_iconst 0 dX10_next0_160 (by decide) ?_
            refine PI_26_39 dX10_next0_161 lkX10_187 ?_
            exact V_lv [2, 0] rfl k
        · replace k := k.2 (bI_1 z)
          refine V_lconst 0 dX10_next0_78 (by decide) ?_
          refine V_lstore_n 3 dX10_next0_79 rfl (by decide) rfl ?_
          exact V_lv [3, 1, 0] rfl k
      · replace k := k.2 z
        refine V_aload_n 0 dX10_next0_63 rfl rfl ?_
        refine V_iconst 0 dX10_next0_64 (by decide) ?_
        refine PI_26_37 dX10_next0_65 lkX10_174 ?_
        refine V_goto 330 dX10_next0_68 (by decide) ?_
        exact V_return dX10_next0_330 rfl k
    · replace k := k.2 z
      refine V_aload_n 0 dX10_next0_26 rfl rfl ?_
      refine V_dup dX10_next0_27 rfl ?_
      refine GI_26_36 dX10_next0_28 lkX10_164 ?_
      refine V_iconst 1 dX10_next0_31 (by decide) ?_
      refine V_iadd dX10_next0_32 ?_
      refine PI_26_36 dX10_next0_33 lkX10_164 ?_
      refine V_goto 0 dX10_next0_36 (by decide) ?_
      exact V_lv [0] rfl k
set_option maxRecDepth 20000 in
set_option maxHeartbeats 2000000 in
theorem wX10_next0_80 {d bc bs : Nat} {h : HS} {P : Option AV → HS → Prop} {l2 : Int32} {l3 : Int64} (k : (¬ gI h 26 0 35 ≤ (gI h 26 0 36) → vp_in (gI h 26 0 36) 400) ∧ (((¬ (ltr (seeF h (gI h 26 0 36)))) → (((7 ≤ l2) → (P none (sI h 26 0 37 1))) ∧ ((¬ 7 ≤ l2) → (P none (sI h 26 0 37 (wordF l3)))))) ∧ (((ltr (seeF h (gI h 26 0 36)))) → (((7 ≤ l2) → (V true mX10_next0 (d + 3) bc bs 80 [(0, aR 26 0), (2, aI (l2 + 1)), (3, aL l3)] [] (sI h 26 0 36 ((gI h 26 0 36) + 1)) P)) ∧ ((¬ 7 ≤ l2) → ((¬ gI h 26 0 35 ≤ (gI h 26 0 36) → vp_in (gI h 26 0 36) 400) ∧ (V true mX10_next0 (d + 3) bc bs 80 [(0, aR 26 0), (2, aI (l2 + 1)), (3, aL ((l3 <<< (Int32.toInt64 8 &&& 63)) ||| ((seeF h (gI h 26 0 36)).toInt64)))] [] (sI h 26 0 36 ((gI h 26 0 36) + 1)) P))))))) : V true mX10_next0 (d + 3) bc bs 80 [(0, aR 26 0), (2, aI l2), (3, aL l3)] [] h P := by
  refine V_aload_n 0 dX10_next0_80 rfl rfl ?_
  refine V_aload_n 0 dX10_next0_81 rfl rfl ?_
  refine GI_26_36 dX10_next0_82 lkX10_164 ?_
  obtain ⟨s3, k⟩ := k
  refine V_callV (mc := 0) (ms := 0) (as := [aI (gI h 26 0 36)]) (st := []) (by decide) rt_26 rfl dX10_next0_85 okX10_see inX10_see seX10_see lkX10_167 rfl (Nat.le_of_ble_eq_true rfl) (Nat.zero_le _) (Nat.zero_le _) (cX10_see_ s3 ?_)
  show V true mX10_next0 (d + 3) bc bs 88 [(0, aR 26 0), (2, aI l2), (3, aL l3)] [aI (seeF h (gI h 26 0 36))] h P
  refine V_callS (mc := 0) (ms := 0) (as := [aI (seeF h (gI h 26 0 36))]) (st := []) dX10_next0_88 okX10_isLetter stX10_isLetter lkX10_177 rfl (Nat.le_of_ble_eq_true rfl) (Nat.zero_le _) (Nat.zero_le _) (cX10_isLetter_ ?_)
  show V true mX10_next0 (d + 3) bc bs 91 [(0, aR 26 0), (2, aI l2), (3, aL l3)] [aI (bI (ltr (seeF h (gI h 26 0 36))))] h P
  refine V_if_eq 131 dX10_next0_91 (by decide) ⟨fun z => ?_, fun z => ?_⟩
  · replace k := k.1 (bI_0 z)
    refine V_aload_n 0 dX10_next0_131 rfl rfl ?_
    refine V_iload_n 2 dX10_next0_132 rfl rfl ?_
    refine V_bipush 7 dX10_next0_133 (by decide) ?_
    refine V_icmp_ge 145 dX10_next0_135 (by decide) ⟨fun z => ?_, fun z => ?_⟩
    · replace k := k.1 z
      refine V_iconst 1 dX10_next0_145 (by decide) ?_
      refine PI_26_37 dX10_next0_146 lkX10_174 ?_
      refine V_goto 330 dX10_next0_149 (by decide) ?_
      exact V_return dX10_next0_330 rfl k
    · replace k := k.2 z
      refine V_lload_n 3 dX10_next0_138 rfl rfl ?_
      refine V_callS (mc := 0) (ms := 0) (as := [aL l3]) (st := [aR 26 0]) dX10_next0_139 okX10_word stX10_word lkX10_180 rfl (Nat.le_of_ble_eq_true rfl) (Nat.zero_le _) (Nat.zero_le _) (cX10_word_ ?_)
      show V true mX10_next0 (d + 3) bc bs 142 [(0, aR 26 0), (2, aI l2), (3, aL l3)] [aI (wordF l3), aR 26 0] h P
      refine V_goto 146 dX10_next0_142 (by decide) ?_
      refine PI_26_37 dX10_next0_146 lkX10_174 ?_
      refine V_goto 330 dX10_next0_149 (by decide) ?_
      exact V_return dX10_next0_330 rfl k
  · replace k := k.2 (bI_1 z)
    refine V_iload_n 2 dX10_next0_94 rfl rfl ?_
    refine V_bipush 7 dX10_next0_95 (by decide) ?_
    refine V_icmp_ge 115 dX10_next0_97 (by decide) ⟨fun z => ?_, fun z => ?_⟩
    · replace k := k.1 z
      refine V_iinc 2 (v := l2 + 1) dX10_next0_115 rfl rfl (by decide) rfl ?_
      refine V_aload_n 0 dX10_next0_118 rfl rfl ?_
      refine V_dup dX10_next0_119 rfl ?_
      refine GI_26_36 dX10_next0_120 lkX10_164 ?_
      refine V_iconst 1 dX10_next0_123 (by decide) ?_
      refine V_iadd dX10_next0_124 ?_
      refine PI_26_36 dX10_next0_125 lkX10_164 ?_
      refine V_goto 80 dX10_next0_128 (by decide) ?_
      exact V_lv [1, 0, 2] rfl k
    · replace k := k.2 z
      refine V_lload_n 3 dX10_next0_100 rfl rfl ?_
      refine V_bipush 8 dX10_next0_101 (by decide) ?_
      refine V_lshl dX10_next0_103 ?_
      refine V_aload_n 0 dX10_next0_104 rfl rfl ?_
      refine V_aload_n 0 dX10_next0_105 rfl rfl ?_
      refine GI_26_36 dX10_next0_106 lkX10_164 ?_
      obtain ⟨s10, k⟩ := k
      refine V_callV (mc := 0) (ms := 0) (as := [aI (gI h 26 0 36)]) (st := [aL (l3 <<< (Int32.toInt64 8 &&& 63))]) (by decide) rt_26 rfl dX10_next0_109 okX10_see inX10_see seX10_see lkX10_167 rfl (Nat.le_of_ble_eq_true rfl) (Nat.zero_le _) (Nat.zero_le _) (cX10_see_ s10 ?_)
      show V true mX10_next0 (d + 3) bc bs 112 [(0, aR 26 0), (2, aI l2), (3, aL l3)] [aI (seeF h (gI h 26 0 36)), aL (l3 <<< (Int32.toInt64 8 &&& 63))] h P
      refine V_i2l dX10_next0_112 ?_
      refine V_lor dX10_next0_113 ?_
      refine V_lstore_n 3 dX10_next0_114 rfl (by decide) rfl ?_
      refine V_iinc 2 (v := l2 + 1) dX10_next0_115 rfl rfl (by decide) rfl ?_
      refine V_aload_n 0 dX10_next0_118 rfl rfl ?_
      refine V_dup dX10_next0_119 rfl ?_
      refine GI_26_36 dX10_next0_120 lkX10_164 ?_
      refine V_iconst 1 dX10_next0_123 (by decide) ?_
      refine V_iadd dX10_next0_124 ?_
      refine PI_26_36 dX10_next0_125 lkX10_164 ?_
      refine V_goto 80 dX10_next0_128 (by decide) ?_
      exact V_lv [2, 0, 1] rfl k
set_option maxRecDepth 20000 in
set_option maxHeartbeats 2000000 in
theorem wX10_next0_164 {d bc bs : Nat} {h : HS} {P : Option AV → HS → Prop} {l2 : Int32} (k : (¬ gI h 26 0 35 ≤ (gI h 26 0 36) → vp_in (gI h 26 0 36) 400) ∧ (((¬ (inR (seeF h (gI h 26 0 36)) 48 57)) → (((7 ≤ l2) → (P none (sI h 26 0 37 1))) ∧ ((¬ 7 ≤ l2) → (P none (sI h 26 0 37 2))))) ∧ (((inR (seeF h (gI h 26 0 36)) 48 57)) → (((6 ≤ l2) → (V true mX10_next0 (d + 3) bc bs 164 [(0, aR 26 0), (2, aI (l2 + 1))] [] (sI h 26 0 36 ((gI h 26 0 36) + 1)) P)) ∧ ((¬ 6 ≤ l2) → ((¬ gI h 26 0 35 ≤ (gI h 26 0 36) → vp_in (gI h 26 0 36) 400) ∧ (V true mX10_next0 (d + 3) bc bs 164 [(0, aR 26 0), (2, aI (l2 + 1))] [] (sI (sI h 26 0 39 (((10 * (gI h 26 0 39)) + (seeF h (gI h 26 0 36))) - 48)) 26 0 36 ((gI h 26 0 36) + 1)) P))))))) : V true mX10_next0 (d + 3) bc bs 164 [(0, aR 26 0), (2, aI l2)] [] h P := by
  refine V_aload_n 0 dX10_next0_164 rfl rfl ?_
  refine V_aload_n 0 dX10_next0_165 rfl rfl ?_
  refine GI_26_36 dX10_next0_166 lkX10_164 ?_
  obtain ⟨s3, k⟩ := k
  refine V_callV (mc := 0) (ms := 0) (as := [aI (gI h 26 0 36)]) (st := []) (by decide) rt_26 rfl dX10_next0_169 okX10_see inX10_see seX10_see lkX10_167 rfl (Nat.le_of_ble_eq_true rfl) (Nat.zero_le _) (Nat.zero_le _) (cX10_see_ s3 ?_)
  show V true mX10_next0 (d + 3) bc bs 172 [(0, aR 26 0), (2, aI l2)] [aI (seeF h (gI h 26 0 36))] h P
  refine V_callS (mc := 0) (ms := 0) (as := [aI (seeF h (gI h 26 0 36))]) (st := []) dX10_next0_172 okX10_isDigit stX10_isDigit lkX10_184 rfl (Nat.le_of_ble_eq_true rfl) (Nat.zero_le _) (Nat.zero_le _) (cX10_isDigit_ ?_)
  show V true mX10_next0 (d + 3) bc bs 175 [(0, aR 26 0), (2, aI l2)] [aI (bI (inR (seeF h (gI h 26 0 36)) 48 57))] h P
  refine V_if_eq 223 dX10_next0_175 (by decide) ⟨fun z => ?_, fun z => ?_⟩
  · replace k := k.1 (bI_0 z)
    refine V_aload_n 0 dX10_next0_223 rfl rfl ?_
    refine V_iload_n 2 dX10_next0_224 rfl rfl ?_
    refine V_bipush 7 dX10_next0_225 (by decide) ?_
    refine V_icmp_ge 234 dX10_next0_227 (by decide) ⟨fun z => ?_, fun z => ?_⟩
    · replace k := k.1 z
      refine V_iconst 1 dX10_next0_234 (by decide) ?_
      refine PI_26_37 dX10_next0_235 lkX10_174 ?_
      refine V_goto 330 dX10_next0_238 (by decide) ?_
      exact V_return dX10_next0_330 rfl k
    · replace k := k.2 z
      refine V_iconst 2 dX10_next0_230 (by decide) ?_
      refine V_goto 235 dX10_next0_231 (by decide) ?_
      refine PI_26_37 dX10_next0_235 lkX10_174 ?_
      refine V_goto 330 dX10_next0_238 (by decide) ?_
      exact V_return dX10_next0_330 rfl k
  · replace k := k.2 (bI_1 z)
    refine V_iload_n 2 dX10_next0_178 rfl rfl ?_
    refine V_bipush 6 dX10_next0_179 (by decide) ?_
    refine V_icmp_ge 207 dX10_next0_181 (by decide) ⟨fun z => ?_, fun z => ?_⟩
    · replace k := k.1 z
      refine V_iinc 2 (v := l2 + 1) dX10_next0_207 rfl rfl (by decide) rfl ?_
      refine V_aload_n 0 dX10_next0_210 rfl rfl ?_
      refine V_dup dX10_next0_211 rfl ?_
      refine GI_26_36 dX10_next0_212 lkX10_164 ?_
      refine V_iconst 1 dX10_next0_215 (by decide) ?_
      refine V_iadd dX10_next0_216 ?_
      refine PI_26_36 dX10_next0_217 lkX10_164 ?_
      refine V_goto 164 dX10_next0_220 (by decide) ?_
      exact V_lv [1, 0] rfl k
    · replace k := k.2 z
      refine V_aload_n 0 dX10_next0_184 rfl rfl ?_
      refine V_bipush 10 dX10_next0_185 (by decide) ?_
      refine V_aload_n 0 dX10_next0_187 rfl rfl ?_
      refine GI_26_39 dX10_next0_188 lkX10_187 ?_
      refine V_imul dX10_next0_191 ?_
      refine V_aload_n 0 dX10_next0_192 rfl rfl ?_
      refine V_aload_n 0 dX10_next0_193 rfl rfl ?_
      refine GI_26_36 dX10_next0_194 lkX10_164 ?_
      obtain ⟨s8, k⟩ := k
      refine V_callV (mc := 0) (ms := 0) (as := [aI (gI h 26 0 36)]) (st := [aI (10 * (gI h 26 0 39)), aR 26 0]) (by decide) rt_26 rfl dX10_next0_197 okX10_see inX10_see seX10_see lkX10_167 rfl (Nat.le_of_ble_eq_true rfl) (Nat.zero_le _) (Nat.zero_le _) (cX10_see_ s8 ?_)
      show V true mX10_next0 (d + 3) bc bs 200 [(0, aR 26 0), (2, aI l2)] [aI (seeF h (gI h 26 0 36)), aI (10 * (gI h 26 0 39)), aR 26 0] h P
      refine V_iadd dX10_next0_200 ?_
      refine V_bipush 48 dX10_next0_201 (by decide) ?_
      refine V_isub dX10_next0_203 ?_
      refine PI_26_39 dX10_next0_204 lkX10_187 ?_
      refine V_iinc 2 (v := l2 + 1) dX10_next0_207 rfl rfl (by decide) rfl ?_
      refine V_aload_n 0 dX10_next0_210 rfl rfl ?_
      refine V_dup dX10_next0_211 rfl ?_
      refine GI_26_36 dX10_next0_212 lkX10_164 ?_
      refine V_re (y := gI h 26 0 36) rfl ?_
      refine V_iconst 1 dX10_next0_215 (by decide) ?_
      refine V_iadd dX10_next0_216 ?_
      refine PI_26_36 dX10_next0_217 lkX10_164 ?_
      refine V_goto 164 dX10_next0_220 (by decide) ?_
      exact V_lv [1, 0] rfl k
-- X10_bad cuts []
set_option maxRecDepth 20000 in
set_option maxHeartbeats 2000000 in
theorem wX10_bad {d bc bs : Nat} {h : HS} {P : Option AV → HS → Prop} {l1 : Int32} (k : P (some (aI 0)) (sI (sI h 26 0 40 l1) 26 0 41 (gI h 26 0 38))) : Cl true mX10_bad (d + 3) bc bs [aR 26 0, aI l1] h P := by
  refine Cl_of (by decide) (Nat.le_of_ble_eq_true rfl) ?_
  show V true mX10_bad (d + 3) bc bs 0 [(0, aR 26 0), (1, aI l1)] [] h P
  refine V_aload_n 0 dX10_bad_0 rfl rfl ?_
  refine V_iload_n 1 dX10_bad_1 rfl rfl ?_
  refine PI_26_40 dX10_bad_2 lkX10_190 ?_
  refine V_aload_n 0 dX10_bad_5 rfl rfl ?_
  refine V_aload_n 0 dX10_bad_6 rfl rfl ?_
  refine GI_26_38 dX10_bad_7 lkX10_171 ?_
  refine V_re (y := gI h 26 0 38) rfl ?_
  refine PI_26_41 dX10_bad_10 lkX10_193 ?_
  refine V_iconst 0 dX10_bad_13 (by decide) ?_
  exact V_zreturn dX10_bad_14 rfl (by decide) k
-- X10_need cuts []
set_option maxRecDepth 20000 in
set_option maxHeartbeats 2000000 in
theorem wX10_need {d bc bs : Nat} {h : HS} {P : Option AV → HS → Prop} {l1 : Int32} (k : (((gI h 26 0 37) = l1) → (Cl true mX10_next0 (d + 2) 0 0 [aR 26 0] h (fun r1 h2 => r1 = none ∧ (P (some (aI 1)) h2)))) ∧ ((¬ (gI h 26 0 37) = l1) → (Cl true mX10_bad (d + 2) 0 0 [aR 26 0, aI 1] h (fun r3 h4 => ∃ x5 : Int32, r3 = some (aI x5) ∧ ((x5 = 0 ∨ x5 = 1) ∧ P (some (aI x5)) h4))))) : Cl true mX10_need (d + 3) bc bs [aR 26 0, aI l1] h P := by
  refine Cl_of (by decide) (Nat.le_of_ble_eq_true rfl) ?_
  show V true mX10_need (d + 3) bc bs 0 [(0, aR 26 0), (1, aI l1)] [] h P
  refine V_aload_n 0 dX10_need_0 rfl rfl ?_
  refine GI_26_37 dX10_need_1 lkX10_174 ?_
  refine V_iload_n 1 dX10_need_4 rfl rfl ?_
  refine V_icmp_eq 14 dX10_need_5 (by decide) ⟨fun z => ?_, fun z => ?_⟩
  · replace k := k.1 z
    refine V_aload_n 0 dX10_need_14 rfl rfl ?_
    refine V_callV (mc := 0) (ms := 0) (as := []) (st := []) (by decide) rt_26 rfl dX10_need_15 okX10_next0 inX10_next0 seX10_next0 lkX10_199 rfl (Nat.le_of_ble_eq_true rfl) (Nat.zero_le _) (Nat.zero_le _) (Cl.mono (fun r1 h2 z => ?_) k)
    obtain ⟨rfl, k⟩ := z
    refine V_iconst 1 dX10_need_18 (by decide) ?_
    exact V_zreturn dX10_need_19 rfl (by decide) k
  · replace k := k.2 z
    refine V_aload_n 0 dX10_need_8 rfl rfl ?_
    refine V_iconst 1 dX10_need_9 (by decide) ?_
    refine V_callV (mc := 0) (ms := 0) (as := [aI 1]) (st := []) (by decide) rt_26 rfl dX10_need_10 okX10_bad inX10_bad seX10_bad lkX10_196 rfl (Nat.le_of_ble_eq_true rfl) (Nat.zero_le _) (Nat.zero_le _) (Cl.mono (fun r3 h4 z => ?_) k)
    obtain ⟨x5, rfl, k⟩ := z
    exact V_zreturn dX10_need_13 rfl k.1 k.2
-- X10_lay cuts []
set_option maxRecDepth 20000 in
set_option maxHeartbeats 2000000 in
theorem wX10_lay {d bc bs : Nat} {h : HS} {P : Option AV → HS → Prop} {l1 : Int32} (k : vp_in (gI h 26 0 26) 500 ∧ (P none (sI (sI h 51 0 (gI h 26 0 26).toNatClampNeg l1) 26 0 26 ((gI h 26 0 26) + 1)))) : Cl true mX10_lay (d + 3) bc bs [aR 26 0, aI l1] h P := by
  refine Cl_of (by decide) (Nat.le_of_ble_eq_true rfl) ?_
  show V true mX10_lay (d + 3) bc bs 0 [(0, aR 26 0), (1, aI l1)] [] h P
  refine V_aload_n 0 dX10_lay_0 rfl rfl ?_
  refine GS_26_32 dX10_lay_1 lkX10_83 ?_
  refine V_aload_n 0 dX10_lay_4 rfl rfl ?_
  refine GI_26_26 dX10_lay_5 lkX10_202 ?_
  refine V_iload_n 1 dX10_lay_8 rfl rfl ?_
  refine V_iast (by decide) rt_51 dX10_lay_9 k.1 ?_
  replace k := k.2
  refine V_aload_n 0 dX10_lay_10 rfl rfl ?_
  refine V_dup dX10_lay_11 rfl ?_
  refine GI_26_26 dX10_lay_12 lkX10_202 ?_
  refine V_re (y := gI h 26 0 26) rfl ?_
  refine V_iconst 1 dX10_lay_15 (by decide) ?_
  refine V_iadd dX10_lay_16 ?_
  refine PI_26_26 dX10_lay_17 lkX10_202 ?_
  exact V_return dX10_lay_20 rfl k
-- X10_sum cuts [9]
set_option maxRecDepth 20000 in
set_option maxHeartbeats 2000000 in
theorem wX10_sum {d bc bs : Nat} {h : HS} {P : Option AV → HS → Prop}  (k : Cl true mX10_product (d + 2) 0 0 [aR 26 0] h (fun r1 h2 => ∃ x3 : Int32, r1 = some (aI x3) ∧ (((¬ x3 = 0) → (V true mX10_sum (d + 3) bc bs 9 [(0, aR 26 0)] [] h2 P)) ∧ ((x3 = 0) → (P (some (aI 0)) h2))))) : Cl true mX10_sum (d + 3) bc bs [aR 26 0] h P := by
  refine Cl_of (by decide) (Nat.le_of_ble_eq_true rfl) ?_
  show V true mX10_sum (d + 3) bc bs 0 [(0, aR 26 0)] [] h P
  refine V_aload_n 0 dX10_sum_0 rfl rfl ?_
  refine V_callV (mc := 0) (ms := 0) (as := []) (st := []) (by decide) rt_26 rfl dX10_sum_1 okX10_product inX10_product seX10_product lkX10_205 rfl (Nat.le_of_ble_eq_true rfl) (Nat.zero_le _) (Nat.zero_le _) (Cl.mono (fun r1 h2 z => ?_) k)
  obtain ⟨x3, rfl, k⟩ := z
  refine V_if_ne 9 dX10_sum_4 (by decide) ⟨fun z => ?_, fun z => ?_⟩
  · replace k := k.1 z
    exact V_lv [0] rfl k
  · replace k := k.2 z
    refine V_iconst 0 dX10_sum_7 (by decide) ?_
    exact V_zreturn dX10_sum_8 rfl (by decide) k
set_option maxRecDepth 20000 in
set_option maxHeartbeats 2000000 in
theorem wX10_sum_9 {d bc bs : Nat} {h : HS} {P : Option AV → HS → Prop}  (k : (((gI h 26 0 37) = 43) → (((¬ (gI h 26 0 37) = 43) → (Cl true mX10_next0 (d + 2) 0 0 [aR 26 0] h (fun r1 h2 => r1 = none ∧ (Cl true mX10_product (d + 2) 0 0 [aR 26 0] h2 (fun r3 h4 => ∃ x5 : Int32, r3 = some (aI x5) ∧ (((¬ x5 = 0) → (Cl true mX10_lay (d + 2) 0 0 [aR 26 0, aI 1000011] h4 (fun r6 h7 => r6 = none ∧ (V true mX10_sum (d + 3) bc bs 9 [(0, aR 26 0)] [] h7 P)))) ∧ ((x5 = 0) → (P (some (aI 0)) h4)))))))) ∧ (((gI h 26 0 37) = 43) → (Cl true mX10_next0 (d + 2) 0 0 [aR 26 0] h (fun r8 h9 => r8 = none ∧ (Cl true mX10_product (d + 2) 0 0 [aR 26 0] h9 (fun r10 h11 => ∃ x12 : Int32, r10 = some (aI x12) ∧ (((¬ x12 = 0) → (Cl true mX10_lay (d + 2) 0 0 [aR 26 0, aI 1000010] h11 (fun r13 h14 => r13 = none ∧ (V true mX10_sum (d + 3) bc bs 9 [(0, aR 26 0)] [] h14 P)))) ∧ ((x12 = 0) → (P (some (aI 0)) h11)))))))))) ∧ ((¬ (gI h 26 0 37) = 43) → (((¬ (gI h 26 0 37) = 45) → (P (some (aI 1)) h)) ∧ (((gI h 26 0 37) = 45) → (((¬ (gI h 26 0 37) = 43) → (Cl true mX10_next0 (d + 2) 0 0 [aR 26 0] h (fun r15 h16 => r15 = none ∧ (Cl true mX10_product (d + 2) 0 0 [aR 26 0] h16 (fun r17 h18 => ∃ x19 : Int32, r17 = some (aI x19) ∧ (((¬ x19 = 0) → (Cl true mX10_lay (d + 2) 0 0 [aR 26 0, aI 1000011] h18 (fun r20 h21 => r20 = none ∧ (V true mX10_sum (d + 3) bc bs 9 [(0, aR 26 0)] [] h21 P)))) ∧ ((x19 = 0) → (P (some (aI 0)) h18)))))))) ∧ (((gI h 26 0 37) = 43) → (Cl true mX10_next0 (d + 2) 0 0 [aR 26 0] h (fun r22 h23 => r22 = none ∧ (Cl true mX10_product (d + 2) 0 0 [aR 26 0] h23 (fun r24 h25 => ∃ x26 : Int32, r24 = some (aI x26) ∧ (((¬ x26 = 0) → (Cl true mX10_lay (d + 2) 0 0 [aR 26 0, aI 1000010] h25 (fun r27 h28 => r27 = none ∧ (V true mX10_sum (d + 3) bc bs 9 [(0, aR 26 0)] [] h28 P)))) ∧ ((x26 = 0) → (P (some (aI 0)) h25))))))))))))) : V true mX10_sum (d + 3) bc bs 9 [(0, aR 26 0)] [] h P := by
  refine V_aload_n 0 dX10_sum_9 rfl rfl ?_
  refine GI_26_37 dX10_sum_10 lkX10_174 ?_
  refine V_bipush 43 dX10_sum_13 (by decide) ?_
  refine V_icmp_eq 27 dX10_sum_15 (by decide) ⟨fun z => ?_, fun z => ?_⟩
  · replace k := k.1 z
    refine V_aload_n 0 dX10_sum_27 rfl rfl ?_
    refine GI_26_37 dX10_sum_28 lkX10_174 ?_
    refine V_bipush 43 dX10_sum_31 (by decide) ?_
    refine V_icmp_ne 41 dX10_sum_33 (by decide) ⟨fun z => ?_, fun z => ?_⟩
    · replace k := k.1 z
      refine V_ldc 1000011 dX10_sum_41 lkX10_210 ?_
      refine V_istore_n 1 dX10_sum_43 rfl (by decide) rfl ?_
      refine V_aload_n 0 dX10_sum_44 rfl rfl ?_
      refine V_callV (mc := 0) (ms := 0) (as := []) (st := []) (by decide) rt_26 rfl dX10_sum_45 okX10_next0 inX10_next0 seX10_next0 lkX10_199 rfl (Nat.le_of_ble_eq_true rfl) (Nat.zero_le _) (Nat.zero_le _) (Cl.mono (fun r1 h2 z => ?_) k)
      obtain ⟨rfl, k⟩ := z
      refine V_aload_n 0 dX10_sum_48 rfl rfl ?_
      refine V_callV (mc := 0) (ms := 0) (as := []) (st := []) (by decide) rt_26 rfl dX10_sum_49 okX10_product inX10_product seX10_product lkX10_205 rfl (Nat.le_of_ble_eq_true rfl) (Nat.zero_le _) (Nat.zero_le _) (Cl.mono (fun r3 h4 z => ?_) k)
      obtain ⟨x5, rfl, k⟩ := z
      refine V_if_ne 57 dX10_sum_52 (by decide) ⟨fun z => ?_, fun z => ?_⟩
      · replace k := k.1 z
        refine V_aload_n 0 dX10_sum_57 rfl rfl ?_
        refine V_iload_n 1 dX10_sum_58 rfl rfl ?_
        refine V_callV (mc := 0) (ms := 0) (as := [aI 1000011]) (st := []) (by decide) rt_26 rfl dX10_sum_59 okX10_lay inX10_lay seX10_lay lkX10_211 rfl (Nat.le_of_ble_eq_true rfl) (Nat.zero_le _) (Nat.zero_le _) (Cl.mono (fun r6 h7 z => ?_) k)
        obtain ⟨rfl, k⟩ := z
        refine V_goto 9 dX10_sum_62 (by decide) ?_
        exact V_lv [1] rfl k
      · replace k := k.2 z
        refine V_iconst 0 dX10_sum_55 (by decide) ?_
        exact V_zreturn dX10_sum_56 rfl (by decide) k
    · replace k := k.2 z
      refine V_ldc 1000010 dX10_sum_36 lkX10_209 ?_
      refine V_goto 43 dX10_sum_38 (by decide) ?_
      refine V_istore_n 1 dX10_sum_43 rfl (by decide) rfl ?_
      refine V_aload_n 0 dX10_sum_44 rfl rfl ?_
      refine V_callV (mc := 0) (ms := 0) (as := []) (st := []) (by decide) rt_26 rfl dX10_sum_45 okX10_next0 inX10_next0 seX10_next0 lkX10_199 rfl (Nat.le_of_ble_eq_true rfl) (Nat.zero_le _) (Nat.zero_le _) (Cl.mono (fun r8 h9 z => ?_) k)
      obtain ⟨rfl, k⟩ := z
      refine V_aload_n 0 dX10_sum_48 rfl rfl ?_
      refine V_callV (mc := 0) (ms := 0) (as := []) (st := []) (by decide) rt_26 rfl dX10_sum_49 okX10_product inX10_product seX10_product lkX10_205 rfl (Nat.le_of_ble_eq_true rfl) (Nat.zero_le _) (Nat.zero_le _) (Cl.mono (fun r10 h11 z => ?_) k)
      obtain ⟨x12, rfl, k⟩ := z
      refine V_if_ne 57 dX10_sum_52 (by decide) ⟨fun z => ?_, fun z => ?_⟩
      · replace k := k.1 z
        refine V_aload_n 0 dX10_sum_57 rfl rfl ?_
        refine V_iload_n 1 dX10_sum_58 rfl rfl ?_
        refine V_callV (mc := 0) (ms := 0) (as := [aI 1000010]) (st := []) (by decide) rt_26 rfl dX10_sum_59 okX10_lay inX10_lay seX10_lay lkX10_211 rfl (Nat.le_of_ble_eq_true rfl) (Nat.zero_le _) (Nat.zero_le _) (Cl.mono (fun r13 h14 z => ?_) k)
        obtain ⟨rfl, k⟩ := z
        refine V_goto 9 dX10_sum_62 (by decide) ?_
        exact V_lv [1] rfl k
      · replace k := k.2 z
        refine V_iconst 0 dX10_sum_55 (by decide) ?_
        exact V_zreturn dX10_sum_56 rfl (by decide) k
  · replace k := k.2 z
    refine V_aload_n 0 dX10_sum_18 rfl rfl ?_
    refine GI_26_37 dX10_sum_19 lkX10_174 ?_
    refine V_bipush 45 dX10_sum_22 (by decide) ?_
    refine V_icmp_ne 65 dX10_sum_24 (by decide) ⟨fun z => ?_, fun z => ?_⟩
    · replace k := k.1 z
      refine V_iconst 1 dX10_sum_65 (by decide) ?_
      exact V_zreturn dX10_sum_66 rfl (by decide) k
    · replace k := k.2 z
      refine V_aload_n 0 dX10_sum_27 rfl rfl ?_
      refine GI_26_37 dX10_sum_28 lkX10_174 ?_
      refine V_bipush 43 dX10_sum_31 (by decide) ?_
      refine V_icmp_ne 41 dX10_sum_33 (by decide) ⟨fun z => ?_, fun z => ?_⟩
      · replace k := k.1 z
        refine V_ldc 1000011 dX10_sum_41 lkX10_210 ?_
        refine V_istore_n 1 dX10_sum_43 rfl (by decide) rfl ?_
        refine V_aload_n 0 dX10_sum_44 rfl rfl ?_
        refine V_callV (mc := 0) (ms := 0) (as := []) (st := []) (by decide) rt_26 rfl dX10_sum_45 okX10_next0 inX10_next0 seX10_next0 lkX10_199 rfl (Nat.le_of_ble_eq_true rfl) (Nat.zero_le _) (Nat.zero_le _) (Cl.mono (fun r15 h16 z => ?_) k)
        obtain ⟨rfl, k⟩ := z
        refine V_aload_n 0 dX10_sum_48 rfl rfl ?_
        refine V_callV (mc := 0) (ms := 0) (as := []) (st := []) (by decide) rt_26 rfl dX10_sum_49 okX10_product inX10_product seX10_product lkX10_205 rfl (Nat.le_of_ble_eq_true rfl) (Nat.zero_le _) (Nat.zero_le _) (Cl.mono (fun r17 h18 z => ?_) k)
        obtain ⟨x19, rfl, k⟩ := z
        refine V_if_ne 57 dX10_sum_52 (by decide) ⟨fun z => ?_, fun z => ?_⟩
        · replace k := k.1 z
          refine V_aload_n 0 dX10_sum_57 rfl rfl ?_
          refine V_iload_n 1 dX10_sum_58 rfl rfl ?_
          refine V_callV (mc := 0) (ms := 0) (as := [aI 1000011]) (st := []) (by decide) rt_26 rfl dX10_sum_59 okX10_lay inX10_lay seX10_lay lkX10_211 rfl (Nat.le_of_ble_eq_true rfl) (Nat.zero_le _) (Nat.zero_le _) (Cl.mono (fun r20 h21 z => ?_) k)
          obtain ⟨rfl, k⟩ := z
          refine V_goto 9 dX10_sum_62 (by decide) ?_
          exact V_lv [1] rfl k
        · replace k := k.2 z
          refine V_iconst 0 dX10_sum_55 (by decide) ?_
          exact V_zreturn dX10_sum_56 rfl (by decide) k
      · replace k := k.2 z
        refine V_ldc 1000010 dX10_sum_36 lkX10_209 ?_
        refine V_goto 43 dX10_sum_38 (by decide) ?_
        refine V_istore_n 1 dX10_sum_43 rfl (by decide) rfl ?_
        refine V_aload_n 0 dX10_sum_44 rfl rfl ?_
        refine V_callV (mc := 0) (ms := 0) (as := []) (st := []) (by decide) rt_26 rfl dX10_sum_45 okX10_next0 inX10_next0 seX10_next0 lkX10_199 rfl (Nat.le_of_ble_eq_true rfl) (Nat.zero_le _) (Nat.zero_le _) (Cl.mono (fun r22 h23 z => ?_) k)
        obtain ⟨rfl, k⟩ := z
        refine V_aload_n 0 dX10_sum_48 rfl rfl ?_
        refine V_callV (mc := 0) (ms := 0) (as := []) (st := []) (by decide) rt_26 rfl dX10_sum_49 okX10_product inX10_product seX10_product lkX10_205 rfl (Nat.le_of_ble_eq_true rfl) (Nat.zero_le _) (Nat.zero_le _) (Cl.mono (fun r24 h25 z => ?_) k)
        obtain ⟨x26, rfl, k⟩ := z
        refine V_if_ne 57 dX10_sum_52 (by decide) ⟨fun z => ?_, fun z => ?_⟩
        · replace k := k.1 z
          refine V_aload_n 0 dX10_sum_57 rfl rfl ?_
          refine V_iload_n 1 dX10_sum_58 rfl rfl ?_
          refine V_callV (mc := 0) (ms := 0) (as := [aI 1000010]) (st := []) (by decide) rt_26 rfl dX10_sum_59 okX10_lay inX10_lay seX10_lay lkX10_211 rfl (Nat.le_of_ble_eq_true rfl) (Nat.zero_le _) (Nat.zero_le _) (Cl.mono (fun r27 h28 z => ?_) k)
          obtain ⟨rfl, k⟩ := z
          refine V_goto 9 dX10_sum_62 (by decide) ?_
          exact V_lv [1] rfl k
        · replace k := k.2 z
          refine V_iconst 0 dX10_sum_55 (by decide) ?_
          exact V_zreturn dX10_sum_56 rfl (by decide) k
-- X10_product cuts [9]
set_option maxRecDepth 20000 in
set_option maxHeartbeats 2000000 in
theorem wX10_product {d bc bs : Nat} {h : HS} {P : Option AV → HS → Prop}  (k : Cl true mX10_unit (d + 2) 0 0 [aR 26 0] h (fun r1 h2 => ∃ x3 : Int32, r1 = some (aI x3) ∧ (((¬ x3 = 0) → (V true mX10_product (d + 3) bc bs 9 [(0, aR 26 0)] [] h2 P)) ∧ ((x3 = 0) → (P (some (aI 0)) h2))))) : Cl true mX10_product (d + 3) bc bs [aR 26 0] h P := by
  refine Cl_of (by decide) (Nat.le_of_ble_eq_true rfl) ?_
  show V true mX10_product (d + 3) bc bs 0 [(0, aR 26 0)] [] h P
  refine V_aload_n 0 dX10_product_0 rfl rfl ?_
  refine V_callV (mc := 0) (ms := 0) (as := []) (st := []) (by decide) rt_26 rfl dX10_product_1 okX10_unit inX10_unit seX10_unit lkX10_215 rfl (Nat.le_of_ble_eq_true rfl) (Nat.zero_le _) (Nat.zero_le _) (Cl.mono (fun r1 h2 z => ?_) k)
  obtain ⟨x3, rfl, k⟩ := z
  refine V_if_ne 9 dX10_product_4 (by decide) ⟨fun z => ?_, fun z => ?_⟩
  · replace k := k.1 z
    exact V_lv [0] rfl k
  · replace k := k.2 z
    refine V_iconst 0 dX10_product_7 (by decide) ?_
    exact V_zreturn dX10_product_8 rfl (by decide) k
set_option maxRecDepth 20000 in
set_option maxHeartbeats 2000000 in
theorem wX10_product_9 {d bc bs : Nat} {h : HS} {P : Option AV → HS → Prop}  (k : (((gI h 26 0 37) = 42) → (((¬ (gI h 26 0 37) = 47) → (Cl true mX10_next0 (d + 2) 0 0 [aR 26 0] h (fun r1 h2 => r1 = none ∧ (Cl true mX10_unit (d + 2) 0 0 [aR 26 0] h2 (fun r3 h4 => ∃ x5 : Int32, r3 = some (aI x5) ∧ (((¬ x5 = 0) → (Cl true mX10_lay (d + 2) 0 0 [aR 26 0, aI 1000012] h4 (fun r6 h7 => r6 = none ∧ (V true mX10_product (d + 3) bc bs 9 [(0, aR 26 0)] [] h7 P)))) ∧ ((x5 = 0) → (P (some (aI 0)) h4)))))))) ∧ (((gI h 26 0 37) = 47) → (Cl true mX10_next0 (d + 2) 0 0 [aR 26 0] h (fun r8 h9 => r8 = none ∧ ((((gI h9 26 0 37) = 2) → (((¬ (gI h9 26 0 39) = 0) → (Cl true mX10_unit (d + 2) 0 0 [aR 26 0] h9 (fun r10 h11 => ∃ x12 : Int32, r10 = some (aI x12) ∧ (((¬ x12 = 0) → (Cl true mX10_lay (d + 2) 0 0 [aR 26 0, aI 1000013] h11 (fun r13 h14 => r13 = none ∧ (V true mX10_product (d + 3) bc bs 9 [(0, aR 26 0)] [] h14 P)))) ∧ ((x12 = 0) → (P (some (aI 0)) h11)))))) ∧ (((gI h9 26 0 39) = 0) → (Cl true mX10_bad (d + 2) 0 0 [aR 26 0, aI 2] h9 (fun r15 h16 => ∃ x17 : Int32, r15 = some (aI x17) ∧ ((x17 = 0 ∨ x17 = 1) ∧ P (some (aI x17)) h16)))))) ∧ ((¬ (gI h9 26 0 37) = 2) → (Cl true mX10_bad (d + 2) 0 0 [aR 26 0, aI 1] h9 (fun r18 h19 => ∃ x20 : Int32, r18 = some (aI x20) ∧ ((x20 = 0 ∨ x20 = 1) ∧ P (some (aI x20)) h19)))))))))) ∧ ((¬ (gI h 26 0 37) = 42) → (((¬ (gI h 26 0 37) = 47) → (P (some (aI 1)) h)) ∧ (((gI h 26 0 37) = 47) → (((¬ (gI h 26 0 37) = 47) → (Cl true mX10_next0 (d + 2) 0 0 [aR 26 0] h (fun r21 h22 => r21 = none ∧ (Cl true mX10_unit (d + 2) 0 0 [aR 26 0] h22 (fun r23 h24 => ∃ x25 : Int32, r23 = some (aI x25) ∧ (((¬ x25 = 0) → (Cl true mX10_lay (d + 2) 0 0 [aR 26 0, aI 1000012] h24 (fun r26 h27 => r26 = none ∧ (V true mX10_product (d + 3) bc bs 9 [(0, aR 26 0)] [] h27 P)))) ∧ ((x25 = 0) → (P (some (aI 0)) h24)))))))) ∧ (((gI h 26 0 37) = 47) → (Cl true mX10_next0 (d + 2) 0 0 [aR 26 0] h (fun r28 h29 => r28 = none ∧ ((((gI h29 26 0 37) = 2) → (((¬ (gI h29 26 0 39) = 0) → (Cl true mX10_unit (d + 2) 0 0 [aR 26 0] h29 (fun r30 h31 => ∃ x32 : Int32, r30 = some (aI x32) ∧ (((¬ x32 = 0) → (Cl true mX10_lay (d + 2) 0 0 [aR 26 0, aI 1000013] h31 (fun r33 h34 => r33 = none ∧ (V true mX10_product (d + 3) bc bs 9 [(0, aR 26 0)] [] h34 P)))) ∧ ((x32 = 0) → (P (some (aI 0)) h31)))))) ∧ (((gI h29 26 0 39) = 0) → (Cl true mX10_bad (d + 2) 0 0 [aR 26 0, aI 2] h29 (fun r35 h36 => ∃ x37 : Int32, r35 = some (aI x37) ∧ ((x37 = 0 ∨ x37 = 1) ∧ P (some (aI x37)) h36)))))) ∧ ((¬ (gI h29 26 0 37) = 2) → (Cl true mX10_bad (d + 2) 0 0 [aR 26 0, aI 1] h29 (fun r38 h39 => ∃ x40 : Int32, r38 = some (aI x40) ∧ ((x40 = 0 ∨ x40 = 1) ∧ P (some (aI x40)) h39))))))))))))) : V true mX10_product (d + 3) bc bs 9 [(0, aR 26 0)] [] h P := by
  refine V_aload_n 0 dX10_product_9 rfl rfl ?_
  refine GI_26_37 dX10_product_10 lkX10_174 ?_
  refine V_bipush 42 dX10_product_13 (by decide) ?_
  refine V_icmp_eq 27 dX10_product_15 (by decide) ⟨fun z => ?_, fun z => ?_⟩
  · replace k := k.1 z
    refine V_aload_n 0 dX10_product_27 rfl rfl ?_
    refine GI_26_37 dX10_product_28 lkX10_174 ?_
    refine V_bipush 47 dX10_product_31 (by decide) ?_
    refine V_icmp_ne 40 dX10_product_33 (by decide) ⟨fun z => ?_, fun z => ?_⟩
    · replace k := k.1 z
      refine V_iconst 0 dX10_product_40 (by decide) ?_
      refine V_istore_n 1 dX10_product_41 rfl (by decide) rfl ?_
      refine V_aload_n 0 dX10_product_42 rfl rfl ?_
      refine V_callV (mc := 0) (ms := 0) (as := []) (st := []) (by decide) rt_26 rfl dX10_product_43 okX10_next0 inX10_next0 seX10_next0 lkX10_199 rfl (Nat.le_of_ble_eq_true rfl) (Nat.zero_le _) (Nat.zero_le _) (Cl.mono (fun r1 h2 z => ?_) k)
      obtain ⟨rfl, k⟩ := z
      refine V_iload_n 1 dX10_product_46 rfl rfl ?_
      refine V_if_eq 64 dX10_product_47 (by decide) ⟨fun z => ?_, fun z => absurd z (by decide)⟩
      refine V_iload_n 1 dX10_product_64 rfl rfl ?_
      refine V_if_eq 81 dX10_product_65 (by decide) ⟨fun z => ?_, fun z => absurd z (by decide)⟩
      refine V_aload_n 0 dX10_product_81 rfl rfl ?_
      refine V_callV (mc := 0) (ms := 0) (as := []) (st := []) (by decide) rt_26 rfl dX10_product_82 okX10_unit inX10_unit seX10_unit lkX10_215 rfl (Nat.le_of_ble_eq_true rfl) (Nat.zero_le _) (Nat.zero_le _) (Cl.mono (fun r3 h4 z => ?_) k)
      obtain ⟨x5, rfl, k⟩ := z
      refine V_if_ne 90 dX10_product_85 (by decide) ⟨fun z => ?_, fun z => ?_⟩
      · replace k := k.1 z
        refine V_aload_n 0 dX10_product_90 rfl rfl ?_
        refine V_iload_n 1 dX10_product_91 rfl rfl ?_
        refine V_if_eq 100 dX10_product_92 (by decide) ⟨fun z => ?_, fun z => absurd z (by decide)⟩
        refine V_ldc 1000012 dX10_product_100 lkX10_219 ?_
        refine V_callV (mc := 0) (ms := 0) (as := [aI 1000012]) (st := []) (by decide) rt_26 rfl dX10_product_102 okX10_lay inX10_lay seX10_lay lkX10_211 rfl (Nat.le_of_ble_eq_true rfl) (Nat.zero_le _) (Nat.zero_le _) (Cl.mono (fun r6 h7 z => ?_) k)
        obtain ⟨rfl, k⟩ := z
        refine V_goto 9 dX10_product_105 (by decide) ?_
        exact V_lv [1] rfl k
      · replace k := k.2 z
        refine V_iconst 0 dX10_product_88 (by decide) ?_
        exact V_zreturn dX10_product_89 rfl (by decide) k
    · replace k := k.2 z
      refine V_iconst 1 dX10_product_36 (by decide) ?_
      refine V_goto 41 dX10_product_37 (by decide) ?_
      refine V_istore_n 1 dX10_product_41 rfl (by decide) rfl ?_
      refine V_aload_n 0 dX10_product_42 rfl rfl ?_
      refine V_callV (mc := 0) (ms := 0) (as := []) (st := []) (by decide) rt_26 rfl dX10_product_43 okX10_next0 inX10_next0 seX10_next0 lkX10_199 rfl (Nat.le_of_ble_eq_true rfl) (Nat.zero_le _) (Nat.zero_le _) (Cl.mono (fun r8 h9 z => ?_) k)
      obtain ⟨rfl, k⟩ := z
      refine V_iload_n 1 dX10_product_46 rfl rfl ?_
      refine V_if_eq 64 dX10_product_47 (by decide) ⟨fun z => absurd z (by decide), fun z => ?_⟩
      refine V_aload_n 0 dX10_product_50 rfl rfl ?_
      refine GI_26_37 dX10_product_51 lkX10_174 ?_
      refine V_iconst 2 dX10_product_54 (by decide) ?_
      refine V_icmp_eq 64 dX10_product_55 (by decide) ⟨fun z => ?_, fun z => ?_⟩
      · replace k := k.1 z
        refine V_iload_n 1 dX10_product_64 rfl rfl ?_
        refine V_if_eq 81 dX10_product_65 (by decide) ⟨fun z => absurd z (by decide), fun z => ?_⟩
        refine V_aload_n 0 dX10_product_68 rfl rfl ?_
        refine GI_26_39 dX10_product_69 lkX10_187 ?_
        refine V_if_ne 81 dX10_product_72 (by decide) ⟨fun z => ?_, fun z => ?_⟩
        · replace k := k.1 z
          refine V_aload_n 0 dX10_product_81 rfl rfl ?_
          refine V_callV (mc := 0) (ms := 0) (as := []) (st := []) (by decide) rt_26 rfl dX10_product_82 okX10_unit inX10_unit seX10_unit lkX10_215 rfl (Nat.le_of_ble_eq_true rfl) (Nat.zero_le _) (Nat.zero_le _) (Cl.mono (fun r10 h11 z => ?_) k)
          obtain ⟨x12, rfl, k⟩ := z
          refine V_if_ne 90 dX10_product_85 (by decide) ⟨fun z => ?_, fun z => ?_⟩
          · replace k := k.1 z
            refine V_aload_n 0 dX10_product_90 rfl rfl ?_
            refine V_iload_n 1 dX10_product_91 rfl rfl ?_
            refine V_if_eq 100 dX10_product_92 (by decide) ⟨fun z => absurd z (by decide), fun z => ?_⟩
            refine V_ldc 1000013 dX10_product_95 lkX10_218 ?_
            refine V_goto 102 dX10_product_97 (by decide) ?_
            refine V_callV (mc := 0) (ms := 0) (as := [aI 1000013]) (st := []) (by decide) rt_26 rfl dX10_product_102 okX10_lay inX10_lay seX10_lay lkX10_211 rfl (Nat.le_of_ble_eq_true rfl) (Nat.zero_le _) (Nat.zero_le _) (Cl.mono (fun r13 h14 z => ?_) k)
            obtain ⟨rfl, k⟩ := z
            refine V_goto 9 dX10_product_105 (by decide) ?_
            exact V_lv [1] rfl k
          · replace k := k.2 z
            refine V_iconst 0 dX10_product_88 (by decide) ?_
            exact V_zreturn dX10_product_89 rfl (by decide) k
        · replace k := k.2 z
          refine V_aload_n 0 dX10_product_75 rfl rfl ?_
          refine V_iconst 2 dX10_product_76 (by decide) ?_
          refine V_callV (mc := 0) (ms := 0) (as := [aI 2]) (st := []) (by decide) rt_26 rfl dX10_product_77 okX10_bad inX10_bad seX10_bad lkX10_196 rfl (Nat.le_of_ble_eq_true rfl) (Nat.zero_le _) (Nat.zero_le _) (Cl.mono (fun r15 h16 z => ?_) k)
          obtain ⟨x17, rfl, k⟩ := z
          exact V_zreturn dX10_product_80 rfl k.1 k.2
      · replace k := k.2 z
        refine V_aload_n 0 dX10_product_58 rfl rfl ?_
        refine V_iconst 1 dX10_product_59 (by decide) ?_
        refine V_callV (mc := 0) (ms := 0) (as := [aI 1]) (st := []) (by decide) rt_26 rfl dX10_product_60 okX10_bad inX10_bad seX10_bad lkX10_196 rfl (Nat.le_of_ble_eq_true rfl) (Nat.zero_le _) (Nat.zero_le _) (Cl.mono (fun r18 h19 z => ?_) k)
        obtain ⟨x20, rfl, k⟩ := z
        exact V_zreturn dX10_product_63 rfl k.1 k.2
  · replace k := k.2 z
    refine V_aload_n 0 dX10_product_18 rfl rfl ?_
    refine GI_26_37 dX10_product_19 lkX10_174 ?_
    refine V_bipush 47 dX10_product_22 (by decide) ?_
    refine V_icmp_ne 108 dX10_product_24 (by decide) ⟨fun z => ?_, fun z => ?_⟩
    · replace k := k.1 z
      refine V_iconst 1 dX10_product_108 (by decide) ?_
      exact V_zreturn dX10_product_109 rfl (by decide) k
    · replace k := k.2 z
      refine V_aload_n 0 dX10_product_27 rfl rfl ?_
      refine GI_26_37 dX10_product_28 lkX10_174 ?_
      refine V_bipush 47 dX10_product_31 (by decide) ?_
      refine V_icmp_ne 40 dX10_product_33 (by decide) ⟨fun z => ?_, fun z => ?_⟩
      · replace k := k.1 z
        refine V_iconst 0 dX10_product_40 (by decide) ?_
        refine V_istore_n 1 dX10_product_41 rfl (by decide) rfl ?_
        refine V_aload_n 0 dX10_product_42 rfl rfl ?_
        refine V_callV (mc := 0) (ms := 0) (as := []) (st := []) (by decide) rt_26 rfl dX10_product_43 okX10_next0 inX10_next0 seX10_next0 lkX10_199 rfl (Nat.le_of_ble_eq_true rfl) (Nat.zero_le _) (Nat.zero_le _) (Cl.mono (fun r21 h22 z => ?_) k)
        obtain ⟨rfl, k⟩ := z
        refine V_iload_n 1 dX10_product_46 rfl rfl ?_
        refine V_if_eq 64 dX10_product_47 (by decide) ⟨fun z => ?_, fun z => absurd z (by decide)⟩
        refine V_iload_n 1 dX10_product_64 rfl rfl ?_
        refine V_if_eq 81 dX10_product_65 (by decide) ⟨fun z => ?_, fun z => absurd z (by decide)⟩
        refine V_aload_n 0 dX10_product_81 rfl rfl ?_
        refine V_callV (mc := 0) (ms := 0) (as := []) (st := []) (by decide) rt_26 rfl dX10_product_82 okX10_unit inX10_unit seX10_unit lkX10_215 rfl (Nat.le_of_ble_eq_true rfl) (Nat.zero_le _) (Nat.zero_le _) (Cl.mono (fun r23 h24 z => ?_) k)
        obtain ⟨x25, rfl, k⟩ := z
        refine V_if_ne 90 dX10_product_85 (by decide) ⟨fun z => ?_, fun z => ?_⟩
        · replace k := k.1 z
          refine V_aload_n 0 dX10_product_90 rfl rfl ?_
          refine V_iload_n 1 dX10_product_91 rfl rfl ?_
          refine V_if_eq 100 dX10_product_92 (by decide) ⟨fun z => ?_, fun z => absurd z (by decide)⟩
          refine V_ldc 1000012 dX10_product_100 lkX10_219 ?_
          refine V_callV (mc := 0) (ms := 0) (as := [aI 1000012]) (st := []) (by decide) rt_26 rfl dX10_product_102 okX10_lay inX10_lay seX10_lay lkX10_211 rfl (Nat.le_of_ble_eq_true rfl) (Nat.zero_le _) (Nat.zero_le _) (Cl.mono (fun r26 h27 z => ?_) k)
          obtain ⟨rfl, k⟩ := z
          refine V_goto 9 dX10_product_105 (by decide) ?_
          exact V_lv [1] rfl k
        · replace k := k.2 z
          refine V_iconst 0 dX10_product_88 (by decide) ?_
          exact V_zreturn dX10_product_89 rfl (by decide) k
      · replace k := k.2 z
        refine V_iconst 1 dX10_product_36 (by decide) ?_
        refine V_goto 41 dX10_product_37 (by decide) ?_
        refine V_istore_n 1 dX10_product_41 rfl (by decide) rfl ?_
        refine V_aload_n 0 dX10_product_42 rfl rfl ?_
        refine V_callV (mc := 0) (ms := 0) (as := []) (st := []) (by decide) rt_26 rfl dX10_product_43 okX10_next0 inX10_next0 seX10_next0 lkX10_199 rfl (Nat.le_of_ble_eq_true rfl) (Nat.zero_le _) (Nat.zero_le _) (Cl.mono (fun r28 h29 z => ?_) k)
        obtain ⟨rfl, k⟩ := z
        refine V_iload_n 1 dX10_product_46 rfl rfl ?_
        refine V_if_eq 64 dX10_product_47 (by decide) ⟨fun z => absurd z (by decide), fun z => ?_⟩
        refine V_aload_n 0 dX10_product_50 rfl rfl ?_
        refine GI_26_37 dX10_product_51 lkX10_174 ?_
        refine V_iconst 2 dX10_product_54 (by decide) ?_
        refine V_icmp_eq 64 dX10_product_55 (by decide) ⟨fun z => ?_, fun z => ?_⟩
        · replace k := k.1 z
          refine V_iload_n 1 dX10_product_64 rfl rfl ?_
          refine V_if_eq 81 dX10_product_65 (by decide) ⟨fun z => absurd z (by decide), fun z => ?_⟩
          refine V_aload_n 0 dX10_product_68 rfl rfl ?_
          refine GI_26_39 dX10_product_69 lkX10_187 ?_
          refine V_if_ne 81 dX10_product_72 (by decide) ⟨fun z => ?_, fun z => ?_⟩
          · replace k := k.1 z
            refine V_aload_n 0 dX10_product_81 rfl rfl ?_
            refine V_callV (mc := 0) (ms := 0) (as := []) (st := []) (by decide) rt_26 rfl dX10_product_82 okX10_unit inX10_unit seX10_unit lkX10_215 rfl (Nat.le_of_ble_eq_true rfl) (Nat.zero_le _) (Nat.zero_le _) (Cl.mono (fun r30 h31 z => ?_) k)
            obtain ⟨x32, rfl, k⟩ := z
            refine V_if_ne 90 dX10_product_85 (by decide) ⟨fun z => ?_, fun z => ?_⟩
            · replace k := k.1 z
              refine V_aload_n 0 dX10_product_90 rfl rfl ?_
              refine V_iload_n 1 dX10_product_91 rfl rfl ?_
              refine V_if_eq 100 dX10_product_92 (by decide) ⟨fun z => absurd z (by decide), fun z => ?_⟩
              refine V_ldc 1000013 dX10_product_95 lkX10_218 ?_
              refine V_goto 102 dX10_product_97 (by decide) ?_
              refine V_callV (mc := 0) (ms := 0) (as := [aI 1000013]) (st := []) (by decide) rt_26 rfl dX10_product_102 okX10_lay inX10_lay seX10_lay lkX10_211 rfl (Nat.le_of_ble_eq_true rfl) (Nat.zero_le _) (Nat.zero_le _) (Cl.mono (fun r33 h34 z => ?_) k)
              obtain ⟨rfl, k⟩ := z
              refine V_goto 9 dX10_product_105 (by decide) ?_
              exact V_lv [1] rfl k
            · replace k := k.2 z
              refine V_iconst 0 dX10_product_88 (by decide) ?_
              exact V_zreturn dX10_product_89 rfl (by decide) k
          · replace k := k.2 z
            refine V_aload_n 0 dX10_product_75 rfl rfl ?_
            refine V_iconst 2 dX10_product_76 (by decide) ?_
            refine V_callV (mc := 0) (ms := 0) (as := [aI 2]) (st := []) (by decide) rt_26 rfl dX10_product_77 okX10_bad inX10_bad seX10_bad lkX10_196 rfl (Nat.le_of_ble_eq_true rfl) (Nat.zero_le _) (Nat.zero_le _) (Cl.mono (fun r35 h36 z => ?_) k)
            obtain ⟨x37, rfl, k⟩ := z
            exact V_zreturn dX10_product_80 rfl k.1 k.2
        · replace k := k.2 z
          refine V_aload_n 0 dX10_product_58 rfl rfl ?_
          refine V_iconst 1 dX10_product_59 (by decide) ?_
          refine V_callV (mc := 0) (ms := 0) (as := [aI 1]) (st := []) (by decide) rt_26 rfl dX10_product_60 okX10_bad inX10_bad seX10_bad lkX10_196 rfl (Nat.le_of_ble_eq_true rfl) (Nat.zero_le _) (Nat.zero_le _) (Cl.mono (fun r38 h39 z => ?_) k)
          obtain ⟨x40, rfl, k⟩ := z
          exact V_zreturn dX10_product_63 rfl k.1 k.2
-- X10_unit cuts []
set_option maxRecDepth 20000 in
set_option maxHeartbeats 2000000 in
theorem wX10_unit {d bc bs : Nat} {h : HS} {P : Option AV → HS → Prop}  (k : ((¬ (gI h 26 0 37) = 40) → ((((gI h 26 0 37) = 2) → (((¬ (gI h 26 0 37) = 2) → (Cl true mX10_lay (d + 2) 0 0 [aR 26 0, aI (gI h 26 0 37)] h (fun r1 h2 => r1 = none ∧ (Cl true mX10_next0 (d + 2) 0 0 [aR 26 0] h2 (fun r3 h4 => r3 = none ∧ (P (some (aI 1)) h4)))))) ∧ (((gI h 26 0 37) = 2) → (Cl true mX10_lay (d + 2) 0 0 [aR 26 0, aI (gI h 26 0 39)] h (fun r5 h6 => r5 = none ∧ (Cl true mX10_next0 (d + 2) 0 0 [aR 26 0] h6 (fun r7 h8 => r7 = none ∧ (P (some (aI 1)) h8)))))))) ∧ ((¬ (gI h 26 0 37) = 2) → (((1000001 ≤ (gI h 26 0 37)) → (((¬ (gI h 26 0 37) = 2) → (Cl true mX10_lay (d + 2) 0 0 [aR 26 0, aI (gI h 26 0 37)] h (fun r9 h10 => r9 = none ∧ (Cl true mX10_next0 (d + 2) 0 0 [aR 26 0] h10 (fun r11 h12 => r11 = none ∧ (P (some (aI 1)) h12)))))) ∧ (((gI h 26 0 37) = 2) → (Cl true mX10_lay (d + 2) 0 0 [aR 26 0, aI (gI h 26 0 39)] h (fun r13 h14 => r13 = none ∧ (Cl true mX10_next0 (d + 2) 0 0 [aR 26 0] h14 (fun r15 h16 => r15 = none ∧ (P (some (aI 1)) h16)))))))) ∧ ((¬ 1000001 ≤ (gI h 26 0 37)) → (Cl true mX10_bad (d + 2) 0 0 [aR 26 0, aI 1] h (fun r17 h18 => ∃ x19 : Int32, r17 = some (aI x19) ∧ ((x19 = 0 ∨ x19 = 1) ∧ P (some (aI x19)) h18)))))))) ∧ (((gI h 26 0 37) = 40) → (((¬ (gI h 26 0 43) = 8) → (Cl true mX10_next0 (d + 2) 0 0 [aR 26 0] (sI h 26 0 43 ((gI h 26 0 43) + 1)) (fun r20 h21 => r20 = none ∧ (Cl true mX10_sum (d + 2) 0 0 [aR 26 0] h21 (fun r22 h23 => ∃ x24 : Int32, r22 = some (aI x24) ∧ (((x24 = 0) → (P (some (aI 0)) h23)) ∧ ((¬ x24 = 0) → (Cl true mX10_need (d + 2) 0 0 [aR 26 0, aI 41] h23 (fun r25 h26 => ∃ x27 : Int32, r25 = some (aI x27) ∧ (((¬ x27 = 0) → (P (some (aI 1)) (sI h26 26 0 43 ((gI h26 26 0 43) - 1)))) ∧ ((x27 = 0) → (P (some (aI 0)) h26)))))))))))) ∧ (((gI h 26 0 43) = 8) → (Cl true mX10_bad (d + 2) 0 0 [aR 26 0, aI 3] h (fun r28 h29 => ∃ x30 : Int32, r28 = some (aI x30) ∧ ((x30 = 0 ∨ x30 = 1) ∧ P (some (aI x30)) h29))))))) : Cl true mX10_unit (d + 3) bc bs [aR 26 0] h P := by
  refine Cl_of (by decide) (Nat.le_of_ble_eq_true rfl) ?_
  show V true mX10_unit (d + 3) bc bs 0 [(0, aR 26 0)] [] h P
  refine V_aload_n 0 dX10_unit_0 rfl rfl ?_
  refine GI_26_37 dX10_unit_1 lkX10_174 ?_
  refine V_bipush 40 dX10_unit_4 (by decide) ?_
  refine V_icmp_ne 68 dX10_unit_6 (by decide) ⟨fun z => ?_, fun z => ?_⟩
  · replace k := k.1 z
    refine V_aload_n 0 dX10_unit_68 rfl rfl ?_
    refine GI_26_37 dX10_unit_69 lkX10_174 ?_
    refine V_iconst 2 dX10_unit_72 (by decide) ?_
    refine V_icmp_eq 91 dX10_unit_73 (by decide) ⟨fun z => ?_, fun z => ?_⟩
    · replace k := k.1 z
      refine V_aload_n 0 dX10_unit_91 rfl rfl ?_
      refine V_aload_n 0 dX10_unit_92 rfl rfl ?_
      refine GI_26_37 dX10_unit_93 lkX10_174 ?_
      refine V_iconst 2 dX10_unit_96 (by decide) ?_
      refine V_icmp_ne 107 dX10_unit_97 (by decide) ⟨fun z => ?_, fun z => ?_⟩
      · replace k := k.1 z
        refine V_aload_n 0 dX10_unit_107 rfl rfl ?_
        refine GI_26_37 dX10_unit_108 lkX10_174 ?_
        refine V_callV (mc := 0) (ms := 0) (as := [aI (gI h 26 0 37)]) (st := []) (by decide) rt_26 rfl dX10_unit_111 okX10_lay inX10_lay seX10_lay lkX10_211 rfl (Nat.le_of_ble_eq_true rfl) (Nat.zero_le _) (Nat.zero_le _) (Cl.mono (fun r1 h2 z => ?_) k)
        obtain ⟨rfl, k⟩ := z
        refine V_aload_n 0 dX10_unit_114 rfl rfl ?_
        refine V_callV (mc := 0) (ms := 0) (as := []) (st := []) (by decide) rt_26 rfl dX10_unit_115 okX10_next0 inX10_next0 seX10_next0 lkX10_199 rfl (Nat.le_of_ble_eq_true rfl) (Nat.zero_le _) (Nat.zero_le _) (Cl.mono (fun r3 h4 z => ?_) k)
        obtain ⟨rfl, k⟩ := z
        refine V_iconst 1 dX10_unit_118 (by decide) ?_
        exact V_zreturn dX10_unit_119 rfl (by decide) k
      · replace k := k.2 z
        refine V_aload_n 0 dX10_unit_100 rfl rfl ?_
        refine GI_26_39 dX10_unit_101 lkX10_187 ?_
        refine V_goto 111 dX10_unit_104 (by decide) ?_
        refine V_callV (mc := 0) (ms := 0) (as := [aI (gI h 26 0 39)]) (st := []) (by decide) rt_26 rfl dX10_unit_111 okX10_lay inX10_lay seX10_lay lkX10_211 rfl (Nat.le_of_ble_eq_true rfl) (Nat.zero_le _) (Nat.zero_le _) (Cl.mono (fun r5 h6 z => ?_) k)
        obtain ⟨rfl, k⟩ := z
        refine V_aload_n 0 dX10_unit_114 rfl rfl ?_
        refine V_callV (mc := 0) (ms := 0) (as := []) (st := []) (by decide) rt_26 rfl dX10_unit_115 okX10_next0 inX10_next0 seX10_next0 lkX10_199 rfl (Nat.le_of_ble_eq_true rfl) (Nat.zero_le _) (Nat.zero_le _) (Cl.mono (fun r7 h8 z => ?_) k)
        obtain ⟨rfl, k⟩ := z
        refine V_iconst 1 dX10_unit_118 (by decide) ?_
        exact V_zreturn dX10_unit_119 rfl (by decide) k
    · replace k := k.2 z
      refine V_aload_n 0 dX10_unit_76 rfl rfl ?_
      refine GI_26_37 dX10_unit_77 lkX10_174 ?_
      refine V_ldc 1000001 dX10_unit_80 lkX10_154 ?_
      refine V_icmp_ge 91 dX10_unit_82 (by decide) ⟨fun z => ?_, fun z => ?_⟩
      · replace k := k.1 z
        refine V_aload_n 0 dX10_unit_91 rfl rfl ?_
        refine V_aload_n 0 dX10_unit_92 rfl rfl ?_
        refine GI_26_37 dX10_unit_93 lkX10_174 ?_
        refine V_iconst 2 dX10_unit_96 (by decide) ?_
        refine V_icmp_ne 107 dX10_unit_97 (by decide) ⟨fun z => ?_, fun z => ?_⟩
        · replace k := k.1 z
          refine V_aload_n 0 dX10_unit_107 rfl rfl ?_
          refine GI_26_37 dX10_unit_108 lkX10_174 ?_
          refine V_callV (mc := 0) (ms := 0) (as := [aI (gI h 26 0 37)]) (st := []) (by decide) rt_26 rfl dX10_unit_111 okX10_lay inX10_lay seX10_lay lkX10_211 rfl (Nat.le_of_ble_eq_true rfl) (Nat.zero_le _) (Nat.zero_le _) (Cl.mono (fun r9 h10 z => ?_) k)
          obtain ⟨rfl, k⟩ := z
          refine V_aload_n 0 dX10_unit_114 rfl rfl ?_
          refine V_callV (mc := 0) (ms := 0) (as := []) (st := []) (by decide) rt_26 rfl dX10_unit_115 okX10_next0 inX10_next0 seX10_next0 lkX10_199 rfl (Nat.le_of_ble_eq_true rfl) (Nat.zero_le _) (Nat.zero_le _) (Cl.mono (fun r11 h12 z => ?_) k)
          obtain ⟨rfl, k⟩ := z
          refine V_iconst 1 dX10_unit_118 (by decide) ?_
          exact V_zreturn dX10_unit_119 rfl (by decide) k
        · replace k := k.2 z
          refine V_aload_n 0 dX10_unit_100 rfl rfl ?_
          refine GI_26_39 dX10_unit_101 lkX10_187 ?_
          refine V_goto 111 dX10_unit_104 (by decide) ?_
          refine V_callV (mc := 0) (ms := 0) (as := [aI (gI h 26 0 39)]) (st := []) (by decide) rt_26 rfl dX10_unit_111 okX10_lay inX10_lay seX10_lay lkX10_211 rfl (Nat.le_of_ble_eq_true rfl) (Nat.zero_le _) (Nat.zero_le _) (Cl.mono (fun r13 h14 z => ?_) k)
          obtain ⟨rfl, k⟩ := z
          refine V_aload_n 0 dX10_unit_114 rfl rfl ?_
          refine V_callV (mc := 0) (ms := 0) (as := []) (st := []) (by decide) rt_26 rfl dX10_unit_115 okX10_next0 inX10_next0 seX10_next0 lkX10_199 rfl (Nat.le_of_ble_eq_true rfl) (Nat.zero_le _) (Nat.zero_le _) (Cl.mono (fun r15 h16 z => ?_) k)
          obtain ⟨rfl, k⟩ := z
          refine V_iconst 1 dX10_unit_118 (by decide) ?_
          exact V_zreturn dX10_unit_119 rfl (by decide) k
      · replace k := k.2 z
        refine V_aload_n 0 dX10_unit_85 rfl rfl ?_
        refine V_iconst 1 dX10_unit_86 (by decide) ?_
        refine V_callV (mc := 0) (ms := 0) (as := [aI 1]) (st := []) (by decide) rt_26 rfl dX10_unit_87 okX10_bad inX10_bad seX10_bad lkX10_196 rfl (Nat.le_of_ble_eq_true rfl) (Nat.zero_le _) (Nat.zero_le _) (Cl.mono (fun r17 h18 z => ?_) k)
        obtain ⟨x19, rfl, k⟩ := z
        exact V_zreturn dX10_unit_90 rfl k.1 k.2
  · replace k := k.2 z
    refine V_aload_n 0 dX10_unit_9 rfl rfl ?_
    refine GI_26_43 dX10_unit_10 lkX10_220 ?_
    refine V_bipush 8 dX10_unit_13 (by decide) ?_
    refine V_icmp_ne 24 dX10_unit_15 (by decide) ⟨fun z => ?_, fun z => ?_⟩
    · replace k := k.1 z
      refine V_aload_n 0 dX10_unit_24 rfl rfl ?_
      refine V_dup dX10_unit_25 rfl ?_
      refine GI_26_43 dX10_unit_26 lkX10_220 ?_
      refine V_iconst 1 dX10_unit_29 (by decide) ?_
      refine V_iadd dX10_unit_30 ?_
      refine PI_26_43 dX10_unit_31 lkX10_220 ?_
      refine V_aload_n 0 dX10_unit_34 rfl rfl ?_
      refine V_callV (mc := 0) (ms := 0) (as := []) (st := []) (by decide) rt_26 rfl dX10_unit_35 okX10_next0 inX10_next0 seX10_next0 lkX10_199 rfl (Nat.le_of_ble_eq_true rfl) (Nat.zero_le _) (Nat.zero_le _) (Cl.mono (fun r20 h21 z => ?_) k)
      obtain ⟨rfl, k⟩ := z
      refine V_aload_n 0 dX10_unit_38 rfl rfl ?_
      refine V_callV (mc := 0) (ms := 0) (as := []) (st := []) (by decide) rt_26 rfl dX10_unit_39 okX10_sum inX10_sum seX10_sum lkX10_223 rfl (Nat.le_of_ble_eq_true rfl) (Nat.zero_le _) (Nat.zero_le _) (Cl.mono (fun r22 h23 z => ?_) k)
      obtain ⟨x24, rfl, k⟩ := z
      refine V_if_eq 54 dX10_unit_42 (by decide) ⟨fun z => ?_, fun z => ?_⟩
      · replace k := k.1 z
        refine V_iconst 0 dX10_unit_54 (by decide) ?_
        exact V_zreturn dX10_unit_55 rfl (by decide) k
      · replace k := k.2 z
        refine V_aload_n 0 dX10_unit_45 rfl rfl ?_
        refine V_bipush 41 dX10_unit_46 (by decide) ?_
        refine V_callV (mc := 0) (ms := 0) (as := [aI 41]) (st := []) (by decide) rt_26 rfl dX10_unit_48 okX10_need inX10_need seX10_need lkX10_226 rfl (Nat.le_of_ble_eq_true rfl) (Nat.zero_le _) (Nat.zero_le _) (Cl.mono (fun r25 h26 z => ?_) k)
        obtain ⟨x27, rfl, k⟩ := z
        refine V_if_ne 56 dX10_unit_51 (by decide) ⟨fun z => ?_, fun z => ?_⟩
        · replace k := k.1 z
          refine V_aload_n 0 dX10_unit_56 rfl rfl ?_
          refine V_dup dX10_unit_57 rfl ?_
          refine GI_26_43 dX10_unit_58 lkX10_220 ?_
          refine V_iconst 1 dX10_unit_61 (by decide) ?_
          refine V_isub dX10_unit_62 ?_
          refine PI_26_43 dX10_unit_63 lkX10_220 ?_
          refine V_iconst 1 dX10_unit_66 (by decide) ?_
          exact V_zreturn dX10_unit_67 rfl (by decide) k
        · replace k := k.2 z
          refine V_iconst 0 dX10_unit_54 (by decide) ?_
          exact V_zreturn dX10_unit_55 rfl (by decide) k
    · replace k := k.2 z
      refine V_aload_n 0 dX10_unit_18 rfl rfl ?_
      refine V_iconst 3 dX10_unit_19 (by decide) ?_
      refine V_callV (mc := 0) (ms := 0) (as := [aI 3]) (st := []) (by decide) rt_26 rfl dX10_unit_20 okX10_bad inX10_bad seX10_bad lkX10_196 rfl (Nat.le_of_ble_eq_true rfl) (Nat.zero_le _) (Nat.zero_le _) (Cl.mono (fun r28 h29 z => ?_) k)
      obtain ⟨x30, rfl, k⟩ := z
      exact V_zreturn dX10_unit_23 rfl k.1 k.2
-- X10_holds cuts []
set_option maxRecDepth 20000 in
set_option maxHeartbeats 2000000 in
theorem wX10_holds {d bc bs : Nat} {h : HS} {P : Option AV → HS → Prop}  (k : Cl true mX10_sum (d + 2) 0 0 [aR 26 0] h (fun r1 h2 => ∃ x3 : Int32, r1 = some (aI x3) ∧ (((¬ x3 = 0) → (((¬ (gI h2 26 0 37) = 60) → (((¬ (gI h2 26 0 37) = 61) → (((¬ (gI h2 26 0 37) = 62) → (Cl true mX10_bad (d + 2) 0 0 [aR 26 0, aI 1] h2 (fun r4 h5 => ∃ x6 : Int32, r4 = some (aI x6) ∧ ((x6 = 0 ∨ x6 = 1) ∧ P (some (aI x6)) h5)))) ∧ (((gI h2 26 0 37) = 62) → (Cl true mX10_next0 (d + 2) 0 0 [aR 26 0] h2 (fun r7 h8 => r7 = none ∧ (Cl true mX10_sum (d + 2) 0 0 [aR 26 0] h8 (fun r9 h10 => ∃ x11 : Int32, r9 = some (aI x11) ∧ (((¬ x11 = 0) → (Cl true mX10_lay (d + 2) 0 0 [aR 26 0, aI 1000016] h10 (fun r12 h13 => r12 = none ∧ (P (some (aI 1)) h13)))) ∧ ((x11 = 0) → (P (some (aI 0)) h10)))))))))) ∧ (((gI h2 26 0 37) = 61) → (Cl true mX10_next0 (d + 2) 0 0 [aR 26 0] h2 (fun r14 h15 => r14 = none ∧ (Cl true mX10_sum (d + 2) 0 0 [aR 26 0] h15 (fun r16 h17 => ∃ x18 : Int32, r16 = some (aI x18) ∧ (((¬ x18 = 0) → (Cl true mX10_lay (d + 2) 0 0 [aR 26 0, aI 1000015] h17 (fun r19 h20 => r19 = none ∧ (P (some (aI 1)) h20)))) ∧ ((x18 = 0) → (P (some (aI 0)) h17)))))))))) ∧ (((gI h2 26 0 37) = 60) → (Cl true mX10_next0 (d + 2) 0 0 [aR 26 0] h2 (fun r21 h22 => r21 = none ∧ (Cl true mX10_sum (d + 2) 0 0 [aR 26 0] h22 (fun r23 h24 => ∃ x25 : Int32, r23 = some (aI x25) ∧ (((¬ x25 = 0) → (Cl true mX10_lay (d + 2) 0 0 [aR 26 0, aI 1000014] h24 (fun r26 h27 => r26 = none ∧ (P (some (aI 1)) h27)))) ∧ ((x25 = 0) → (P (some (aI 0)) h24)))))))))) ∧ ((x3 = 0) → (P (some (aI 0)) h2))))) : Cl true mX10_holds (d + 3) bc bs [aR 26 0] h P := by
  refine Cl_of (by decide) (Nat.le_of_ble_eq_true rfl) ?_
  show V true mX10_holds (d + 3) bc bs 0 [(0, aR 26 0)] [] h P
  refine V_aload_n 0 dX10_holds_0 rfl rfl ?_
  refine V_callV (mc := 0) (ms := 0) (as := []) (st := []) (by decide) rt_26 rfl dX10_holds_1 okX10_sum inX10_sum seX10_sum lkX10_223 rfl (Nat.le_of_ble_eq_true rfl) (Nat.zero_le _) (Nat.zero_le _) (Cl.mono (fun r1 h2 z => ?_) k)
  obtain ⟨x3, rfl, k⟩ := z
  refine V_if_ne 9 dX10_holds_4 (by decide) ⟨fun z => ?_, fun z => ?_⟩
  · replace k := k.1 z
    refine V_aload_n 0 dX10_holds_9 rfl rfl ?_
    refine GI_26_37 dX10_holds_10 lkX10_174 ?_
    refine V_bipush 60 dX10_holds_13 (by decide) ?_
    refine V_icmp_ne 23 dX10_holds_15 (by decide) ⟨fun z => ?_, fun z => ?_⟩
    · replace k := k.1 z
      refine V_aload_n 0 dX10_holds_23 rfl rfl ?_
      refine GI_26_37 dX10_holds_24 lkX10_174 ?_
      refine V_bipush 61 dX10_holds_27 (by decide) ?_
      refine V_icmp_ne 37 dX10_holds_29 (by decide) ⟨fun z => ?_, fun z => ?_⟩
      · replace k := k.1 z
        refine V_aload_n 0 dX10_holds_37 rfl rfl ?_
        refine GI_26_37 dX10_holds_38 lkX10_174 ?_
        refine V_bipush 62 dX10_holds_41 (by decide) ?_
        refine V_icmp_ne 51 dX10_holds_43 (by decide) ⟨fun z => ?_, fun z => ?_⟩
        · replace k := k.1 z
          refine V_iconst (-1) dX10_holds_51 (by decide) ?_
          refine V_istore_n 1 dX10_holds_52 rfl (by decide) rfl ?_
          refine V_iload_n 1 dX10_holds_53 rfl rfl ?_
          refine V_iconst (-1) dX10_holds_54 (by decide) ?_
          refine V_icmp_ne 64 dX10_holds_55 (by decide) ⟨fun z => absurd z (by decide), fun z => ?_⟩
          refine V_aload_n 0 dX10_holds_58 rfl rfl ?_
          refine V_iconst 1 dX10_holds_59 (by decide) ?_
          refine V_callV (mc := 0) (ms := 0) (as := [aI 1]) (st := []) (by decide) rt_26 rfl dX10_holds_60 okX10_bad inX10_bad seX10_bad lkX10_196 rfl (Nat.le_of_ble_eq_true rfl) (Nat.zero_le _) (Nat.zero_le _) (Cl.mono (fun r4 h5 z => ?_) k)
          obtain ⟨x6, rfl, k⟩ := z
          exact V_zreturn dX10_holds_63 rfl k.1 k.2
        · replace k := k.2 z
          refine V_ldc 1000016 dX10_holds_46 lkX10_231 ?_
          refine V_goto 52 dX10_holds_48 (by decide) ?_
          refine V_istore_n 1 dX10_holds_52 rfl (by decide) rfl ?_
          refine V_iload_n 1 dX10_holds_53 rfl rfl ?_
          refine V_iconst (-1) dX10_holds_54 (by decide) ?_
          refine V_icmp_ne 64 dX10_holds_55 (by decide) ⟨fun z => ?_, fun z => absurd z (by decide)⟩
          refine V_aload_n 0 dX10_holds_64 rfl rfl ?_
          refine V_callV (mc := 0) (ms := 0) (as := []) (st := []) (by decide) rt_26 rfl dX10_holds_65 okX10_next0 inX10_next0 seX10_next0 lkX10_199 rfl (Nat.le_of_ble_eq_true rfl) (Nat.zero_le _) (Nat.zero_le _) (Cl.mono (fun r7 h8 z => ?_) k)
          obtain ⟨rfl, k⟩ := z
          refine V_aload_n 0 dX10_holds_68 rfl rfl ?_
          refine V_callV (mc := 0) (ms := 0) (as := []) (st := []) (by decide) rt_26 rfl dX10_holds_69 okX10_sum inX10_sum seX10_sum lkX10_223 rfl (Nat.le_of_ble_eq_true rfl) (Nat.zero_le _) (Nat.zero_le _) (Cl.mono (fun r9 h10 z => ?_) k)
          obtain ⟨x11, rfl, k⟩ := z
          refine V_if_ne 77 dX10_holds_72 (by decide) ⟨fun z => ?_, fun z => ?_⟩
          · replace k := k.1 z
            refine V_aload_n 0 dX10_holds_77 rfl rfl ?_
            refine V_iload_n 1 dX10_holds_78 rfl rfl ?_
            refine V_callV (mc := 0) (ms := 0) (as := [aI 1000016]) (st := []) (by decide) rt_26 rfl dX10_holds_79 okX10_lay inX10_lay seX10_lay lkX10_211 rfl (Nat.le_of_ble_eq_true rfl) (Nat.zero_le _) (Nat.zero_le _) (Cl.mono (fun r12 h13 z => ?_) k)
            obtain ⟨rfl, k⟩ := z
            refine V_iconst 1 dX10_holds_82 (by decide) ?_
            exact V_zreturn dX10_holds_83 rfl (by decide) k
          · replace k := k.2 z
            refine V_iconst 0 dX10_holds_75 (by decide) ?_
            exact V_zreturn dX10_holds_76 rfl (by decide) k
      · replace k := k.2 z
        refine V_ldc 1000015 dX10_holds_32 lkX10_230 ?_
        refine V_goto 52 dX10_holds_34 (by decide) ?_
        refine V_istore_n 1 dX10_holds_52 rfl (by decide) rfl ?_
        refine V_iload_n 1 dX10_holds_53 rfl rfl ?_
        refine V_iconst (-1) dX10_holds_54 (by decide) ?_
        refine V_icmp_ne 64 dX10_holds_55 (by decide) ⟨fun z => ?_, fun z => absurd z (by decide)⟩
        refine V_aload_n 0 dX10_holds_64 rfl rfl ?_
        refine V_callV (mc := 0) (ms := 0) (as := []) (st := []) (by decide) rt_26 rfl dX10_holds_65 okX10_next0 inX10_next0 seX10_next0 lkX10_199 rfl (Nat.le_of_ble_eq_true rfl) (Nat.zero_le _) (Nat.zero_le _) (Cl.mono (fun r14 h15 z => ?_) k)
        obtain ⟨rfl, k⟩ := z
        refine V_aload_n 0 dX10_holds_68 rfl rfl ?_
        refine V_callV (mc := 0) (ms := 0) (as := []) (st := []) (by decide) rt_26 rfl dX10_holds_69 okX10_sum inX10_sum seX10_sum lkX10_223 rfl (Nat.le_of_ble_eq_true rfl) (Nat.zero_le _) (Nat.zero_le _) (Cl.mono (fun r16 h17 z => ?_) k)
        obtain ⟨x18, rfl, k⟩ := z
        refine V_if_ne 77 dX10_holds_72 (by decide) ⟨fun z => ?_, fun z => ?_⟩
        · replace k := k.1 z
          refine V_aload_n 0 dX10_holds_77 rfl rfl ?_
          refine V_iload_n 1 dX10_holds_78 rfl rfl ?_
          refine V_callV (mc := 0) (ms := 0) (as := [aI 1000015]) (st := []) (by decide) rt_26 rfl dX10_holds_79 okX10_lay inX10_lay seX10_lay lkX10_211 rfl (Nat.le_of_ble_eq_true rfl) (Nat.zero_le _) (Nat.zero_le _) (Cl.mono (fun r19 h20 z => ?_) k)
          obtain ⟨rfl, k⟩ := z
          refine V_iconst 1 dX10_holds_82 (by decide) ?_
          exact V_zreturn dX10_holds_83 rfl (by decide) k
        · replace k := k.2 z
          refine V_iconst 0 dX10_holds_75 (by decide) ?_
          exact V_zreturn dX10_holds_76 rfl (by decide) k
    · replace k := k.2 z
      refine V_ldc 1000014 dX10_holds_18 lkX10_229 ?_
      refine V_goto 52 dX10_holds_20 (by decide) ?_
      refine V_istore_n 1 dX10_holds_52 rfl (by decide) rfl ?_
      refine V_iload_n 1 dX10_holds_53 rfl rfl ?_
      refine V_iconst (-1) dX10_holds_54 (by decide) ?_
      refine V_icmp_ne 64 dX10_holds_55 (by decide) ⟨fun z => ?_, fun z => absurd z (by decide)⟩
      refine V_aload_n 0 dX10_holds_64 rfl rfl ?_
      refine V_callV (mc := 0) (ms := 0) (as := []) (st := []) (by decide) rt_26 rfl dX10_holds_65 okX10_next0 inX10_next0 seX10_next0 lkX10_199 rfl (Nat.le_of_ble_eq_true rfl) (Nat.zero_le _) (Nat.zero_le _) (Cl.mono (fun r21 h22 z => ?_) k)
      obtain ⟨rfl, k⟩ := z
      refine V_aload_n 0 dX10_holds_68 rfl rfl ?_
      refine V_callV (mc := 0) (ms := 0) (as := []) (st := []) (by decide) rt_26 rfl dX10_holds_69 okX10_sum inX10_sum seX10_sum lkX10_223 rfl (Nat.le_of_ble_eq_true rfl) (Nat.zero_le _) (Nat.zero_le _) (Cl.mono (fun r23 h24 z => ?_) k)
      obtain ⟨x25, rfl, k⟩ := z
      refine V_if_ne 77 dX10_holds_72 (by decide) ⟨fun z => ?_, fun z => ?_⟩
      · replace k := k.1 z
        refine V_aload_n 0 dX10_holds_77 rfl rfl ?_
        refine V_iload_n 1 dX10_holds_78 rfl rfl ?_
        refine V_callV (mc := 0) (ms := 0) (as := [aI 1000014]) (st := []) (by decide) rt_26 rfl dX10_holds_79 okX10_lay inX10_lay seX10_lay lkX10_211 rfl (Nat.le_of_ble_eq_true rfl) (Nat.zero_le _) (Nat.zero_le _) (Cl.mono (fun r26 h27 z => ?_) k)
        obtain ⟨rfl, k⟩ := z
        refine V_iconst 1 dX10_holds_82 (by decide) ?_
        exact V_zreturn dX10_holds_83 rfl (by decide) k
      · replace k := k.2 z
        refine V_iconst 0 dX10_holds_75 (by decide) ?_
        exact V_zreturn dX10_holds_76 rfl (by decide) k
  · replace k := k.2 z
    refine V_iconst 0 dX10_holds_7 (by decide) ?_
    exact V_zreturn dX10_holds_8 rfl (by decide) k
-- X10_aLine cuts [100]
set_option maxRecDepth 20000 in
set_option maxHeartbeats 2000000 in
theorem wX10_aLine {d bc bs : Nat} {h : HS} {P : Option AV → HS → Prop}  (k : (((gI h 26 0 37) = 3) → (((¬ (gI h 26 0 25) = 8) → (vp_in (gI h 26 0 25) 9 ∧ (Cl true mX10_next0 (d + 2) 0 0 [aR 26 0] (sI (sI h 26 0 43 0) 49 0 (gI h 26 0 25).toNatClampNeg (gI h 26 0 26)) (fun r1 h2 => r1 = none ∧ (Cl true mX10_sum (d + 2) 0 0 [aR 26 0] h2 (fun r3 h4 => ∃ x5 : Int32, r3 = some (aI x5) ∧ (((¬ x5 = 0) → (vp_in (gI h4 26 0 25) 8 ∧ (Cl true mX10_need (d + 2) 0 0 [aR 26 0, aI 4] (sI (sI h4 50 0 (gI h4 26 0 25).toNatClampNeg (gI h4 26 0 26)) 26 0 25 ((gI h4 26 0 25) + 1)) (fun r6 h7 => ∃ x8 : Int32, r6 = some (aI x8) ∧ (((x8 = 0) → (P (some (aI 0)) h7)) ∧ ((¬ x8 = 0) → (Cl true mX10_holds (d + 2) 0 0 [aR 26 0] h7 (fun r9 h10 => ∃ x11 : Int32, r9 = some (aI x11) ∧ (((¬ x11 = 0) → (V true mX10_aLine (d + 3) bc bs 100 [(0, aR 26 0)] [] h10 P)) ∧ ((x11 = 0) → (P (some (aI 0)) h10))))))))))) ∧ ((x5 = 0) → (P (some (aI 0)) h4))))))))) ∧ (((gI h 26 0 25) = 8) → (Cl true mX10_bad (d + 2) 0 0 [aR 26 0, aI 3] h (fun r12 h13 => ∃ x14 : Int32, r12 = some (aI x14) ∧ ((x14 = 0 ∨ x14 = 1) ∧ P (some (aI x14)) h13)))))) ∧ ((¬ (gI h 26 0 37) = 3) → (Cl true mX10_bad (d + 2) 0 0 [aR 26 0, aI 1] h (fun r15 h16 => ∃ x17 : Int32, r15 = some (aI x17) ∧ ((x17 = 0 ∨ x17 = 1) ∧ P (some (aI x17)) h16))))) : Cl true mX10_aLine (d + 3) bc bs [aR 26 0] h P := by
  refine Cl_of (by decide) (Nat.le_of_ble_eq_true rfl) ?_
  show V true mX10_aLine (d + 3) bc bs 0 [(0, aR 26 0)] [] h P
  refine V_aload_n 0 dX10_aLine_0 rfl rfl ?_
  refine GI_26_37 dX10_aLine_1 lkX10_174 ?_
  refine V_iconst 3 dX10_aLine_4 (by decide) ?_
  refine V_icmp_eq 14 dX10_aLine_5 (by decide) ⟨fun z => ?_, fun z => ?_⟩
  · replace k := k.1 z
    refine V_aload_n 0 dX10_aLine_14 rfl rfl ?_
    refine GI_26_25 dX10_aLine_15 lkX10_232 ?_
    refine V_bipush 8 dX10_aLine_18 (by decide) ?_
    refine V_icmp_ne 29 dX10_aLine_20 (by decide) ⟨fun z => ?_, fun z => ?_⟩
    · replace k := k.1 z
      refine V_aload_n 0 dX10_aLine_29 rfl rfl ?_
      refine V_iconst 0 dX10_aLine_30 (by decide) ?_
      refine PI_26_43 dX10_aLine_31 lkX10_220 ?_
      refine V_aload_n 0 dX10_aLine_34 rfl rfl ?_
      refine GS_26_30 dX10_aLine_35 lkX10_77 ?_
      refine V_aload_n 0 dX10_aLine_38 rfl rfl ?_
      refine GI_26_25 dX10_aLine_39 lkX10_232 ?_
      refine V_re (y := gI h 26 0 25) rfl ?_
      refine V_aload_n 0 dX10_aLine_42 rfl rfl ?_
      refine GI_26_26 dX10_aLine_43 lkX10_202 ?_
      refine V_re (y := gI h 26 0 26) rfl ?_
      refine V_iast (by decide) rt_49 dX10_aLine_46 k.1 ?_
      replace k := k.2
      refine V_aload_n 0 dX10_aLine_47 rfl rfl ?_
      refine V_callV (mc := 0) (ms := 0) (as := []) (st := []) (by decide) rt_26 rfl dX10_aLine_48 okX10_next0 inX10_next0 seX10_next0 lkX10_199 rfl (Nat.le_of_ble_eq_true rfl) (Nat.zero_le _) (Nat.zero_le _) (Cl.mono (fun r1 h2 z => ?_) k)
      obtain ⟨rfl, k⟩ := z
      refine V_aload_n 0 dX10_aLine_51 rfl rfl ?_
      refine V_callV (mc := 0) (ms := 0) (as := []) (st := []) (by decide) rt_26 rfl dX10_aLine_52 okX10_sum inX10_sum seX10_sum lkX10_223 rfl (Nat.le_of_ble_eq_true rfl) (Nat.zero_le _) (Nat.zero_le _) (Cl.mono (fun r3 h4 z => ?_) k)
      obtain ⟨x5, rfl, k⟩ := z
      refine V_if_ne 60 dX10_aLine_55 (by decide) ⟨fun z => ?_, fun z => ?_⟩
      · replace k := k.1 z
        refine V_aload_n 0 dX10_aLine_60 rfl rfl ?_
        refine GS_26_31 dX10_aLine_61 lkX10_80 ?_
        refine V_aload_n 0 dX10_aLine_64 rfl rfl ?_
        refine GI_26_25 dX10_aLine_65 lkX10_232 ?_
        refine V_aload_n 0 dX10_aLine_68 rfl rfl ?_
        refine GI_26_26 dX10_aLine_69 lkX10_202 ?_
        refine V_iast (by decide) rt_50 dX10_aLine_72 k.1 ?_
        replace k := k.2
        refine V_aload_n 0 dX10_aLine_73 rfl rfl ?_
        refine V_dup dX10_aLine_74 rfl ?_
        refine GI_26_25 dX10_aLine_75 lkX10_232 ?_
        refine V_re (y := gI h4 26 0 25) rfl ?_
        refine V_iconst 1 dX10_aLine_78 (by decide) ?_
        refine V_iadd dX10_aLine_79 ?_
        refine PI_26_25 dX10_aLine_80 lkX10_232 ?_
        refine V_aload_n 0 dX10_aLine_83 rfl rfl ?_
        refine V_iconst 4 dX10_aLine_84 (by decide) ?_
        refine V_callV (mc := 0) (ms := 0) (as := [aI 4]) (st := []) (by decide) rt_26 rfl dX10_aLine_85 okX10_need inX10_need seX10_need lkX10_226 rfl (Nat.le_of_ble_eq_true rfl) (Nat.zero_le _) (Nat.zero_le _) (Cl.mono (fun r6 h7 z => ?_) k)
        obtain ⟨x8, rfl, k⟩ := z
        refine V_if_eq 98 dX10_aLine_88 (by decide) ⟨fun z => ?_, fun z => ?_⟩
        · replace k := k.1 z
          refine V_iconst 0 dX10_aLine_98 (by decide) ?_
          exact V_zreturn dX10_aLine_99 rfl (by decide) k
        · replace k := k.2 z
          refine V_aload_n 0 dX10_aLine_91 rfl rfl ?_
          refine V_callV (mc := 0) (ms := 0) (as := []) (st := []) (by decide) rt_26 rfl dX10_aLine_92 okX10_holds inX10_holds seX10_holds lkX10_235 rfl (Nat.le_of_ble_eq_true rfl) (Nat.zero_le _) (Nat.zero_le _) (Cl.mono (fun r9 h10 z => ?_) k)
          obtain ⟨x11, rfl, k⟩ := z
          refine V_if_ne 100 dX10_aLine_95 (by decide) ⟨fun z => ?_, fun z => ?_⟩
          · replace k := k.1 z
            exact V_lv [0] rfl k
          · replace k := k.2 z
            refine V_iconst 0 dX10_aLine_98 (by decide) ?_
            exact V_zreturn dX10_aLine_99 rfl (by decide) k
      · replace k := k.2 z
        refine V_iconst 0 dX10_aLine_58 (by decide) ?_
        exact V_zreturn dX10_aLine_59 rfl (by decide) k
    · replace k := k.2 z
      refine V_aload_n 0 dX10_aLine_23 rfl rfl ?_
      refine V_iconst 3 dX10_aLine_24 (by decide) ?_
      refine V_callV (mc := 0) (ms := 0) (as := [aI 3]) (st := []) (by decide) rt_26 rfl dX10_aLine_25 okX10_bad inX10_bad seX10_bad lkX10_196 rfl (Nat.le_of_ble_eq_true rfl) (Nat.zero_le _) (Nat.zero_le _) (Cl.mono (fun r12 h13 z => ?_) k)
      obtain ⟨x14, rfl, k⟩ := z
      exact V_zreturn dX10_aLine_28 rfl k.1 k.2
  · replace k := k.2 z
    refine V_aload_n 0 dX10_aLine_8 rfl rfl ?_
    refine V_iconst 1 dX10_aLine_9 (by decide) ?_
    refine V_callV (mc := 0) (ms := 0) (as := [aI 1]) (st := []) (by decide) rt_26 rfl dX10_aLine_10 okX10_bad inX10_bad seX10_bad lkX10_196 rfl (Nat.le_of_ble_eq_true rfl) (Nat.zero_le _) (Nat.zero_le _) (Cl.mono (fun r15 h16 z => ?_) k)
    obtain ⟨x17, rfl, k⟩ := z
    exact V_zreturn dX10_aLine_13 rfl k.1 k.2
set_option maxRecDepth 20000 in
set_option maxHeartbeats 2000000 in
theorem wX10_aLine_100 {d bc bs : Nat} {h : HS} {P : Option AV → HS → Prop}  (k : ((¬ (gI h 26 0 37) = 5) → (Cl true mX10_need (d + 2) 0 0 [aR 26 0, aI 59] h (fun r1 h2 => ∃ x3 : Int32, r1 = some (aI x3) ∧ ((x3 = 0 ∨ x3 = 1) ∧ P (some (aI x3)) h2)))) ∧ (((gI h 26 0 37) = 5) → (Cl true mX10_next0 (d + 2) 0 0 [aR 26 0] h (fun r4 h5 => r4 = none ∧ (Cl true mX10_holds (d + 2) 0 0 [aR 26 0] h5 (fun r6 h7 => ∃ x8 : Int32, r6 = some (aI x8) ∧ (((¬ x8 = 0) → (Cl true mX10_lay (d + 2) 0 0 [aR 26 0, aI 1000017] h7 (fun r9 h10 => r9 = none ∧ (V true mX10_aLine (d + 3) bc bs 100 [(0, aR 26 0)] [] h10 P)))) ∧ ((x8 = 0) → (P (some (aI 0)) h7))))))))) : V true mX10_aLine (d + 3) bc bs 100 [(0, aR 26 0)] [] h P := by
  refine V_aload_n 0 dX10_aLine_100 rfl rfl ?_
  refine GI_26_37 dX10_aLine_101 lkX10_174 ?_
  refine V_iconst 5 dX10_aLine_104 (by decide) ?_
  refine V_icmp_ne 130 dX10_aLine_105 (by decide) ⟨fun z => ?_, fun z => ?_⟩
  · replace k := k.1 z
    refine V_aload_n 0 dX10_aLine_130 rfl rfl ?_
    refine V_bipush 59 dX10_aLine_131 (by decide) ?_
    refine V_callV (mc := 0) (ms := 0) (as := [aI 59]) (st := []) (by decide) rt_26 rfl dX10_aLine_133 okX10_need inX10_need seX10_need lkX10_226 rfl (Nat.le_of_ble_eq_true rfl) (Nat.zero_le _) (Nat.zero_le _) (Cl.mono (fun r1 h2 z => ?_) k)
    obtain ⟨x3, rfl, k⟩ := z
    exact V_zreturn dX10_aLine_136 rfl k.1 k.2
  · replace k := k.2 z
    refine V_aload_n 0 dX10_aLine_108 rfl rfl ?_
    refine V_callV (mc := 0) (ms := 0) (as := []) (st := []) (by decide) rt_26 rfl dX10_aLine_109 okX10_next0 inX10_next0 seX10_next0 lkX10_199 rfl (Nat.le_of_ble_eq_true rfl) (Nat.zero_le _) (Nat.zero_le _) (Cl.mono (fun r4 h5 z => ?_) k)
    obtain ⟨rfl, k⟩ := z
    refine V_aload_n 0 dX10_aLine_112 rfl rfl ?_
    refine V_callV (mc := 0) (ms := 0) (as := []) (st := []) (by decide) rt_26 rfl dX10_aLine_113 okX10_holds inX10_holds seX10_holds lkX10_235 rfl (Nat.le_of_ble_eq_true rfl) (Nat.zero_le _) (Nat.zero_le _) (Cl.mono (fun r6 h7 z => ?_) k)
    obtain ⟨x8, rfl, k⟩ := z
    refine V_if_ne 121 dX10_aLine_116 (by decide) ⟨fun z => ?_, fun z => ?_⟩
    · replace k := k.1 z
      refine V_aload_n 0 dX10_aLine_121 rfl rfl ?_
      refine V_ldc 1000017 dX10_aLine_122 lkX10_238 ?_
      refine V_callV (mc := 0) (ms := 0) (as := [aI 1000017]) (st := []) (by decide) rt_26 rfl dX10_aLine_124 okX10_lay inX10_lay seX10_lay lkX10_211 rfl (Nat.le_of_ble_eq_true rfl) (Nat.zero_le _) (Nat.zero_le _) (Cl.mono (fun r9 h10 z => ?_) k)
      obtain ⟨rfl, k⟩ := z
      refine V_goto 100 dX10_aLine_127 (by decide) ?_
      exact V_lv [0] rfl k
    · replace k := k.2 z
      refine V_iconst 0 dX10_aLine_119 (by decide) ?_
      exact V_zreturn dX10_aLine_120 rfl (by decide) k
-- X10_rule cuts [26, 90, 143]
set_option maxRecDepth 20000 in
set_option maxHeartbeats 2000000 in
theorem wX10_rule {d bc bs : Nat} {h : HS} {P : Option AV → HS → Prop}  (k : Cl true mX10_next0 (d + 2) 0 0 [aR 26 0] (sI (sI (sI (sI h 26 0 40 0) 26 0 36 0) 26 0 25 0) 26 0 26 0) (fun r1 h2 => r1 = none ∧ (V true mX10_rule (d + 3) bc bs 26 [(0, aR 26 0), (1, aI 1)] [] h2 P))) : Cl true mX10_rule (d + 3) bc bs [aR 26 0] h P := by
  refine Cl_of (by decide) (Nat.le_of_ble_eq_true rfl) ?_
  show V true mX10_rule (d + 3) bc bs 0 [(0, aR 26 0)] [] h P
  refine V_aload_n 0 dX10_rule_0 rfl rfl ?_
  refine V_iconst 0 dX10_rule_1 (by decide) ?_
  refine PI_26_40 dX10_rule_2 lkX10_190 ?_
  refine V_aload_n 0 dX10_rule_5 rfl rfl ?_
  refine V_iconst 0 dX10_rule_6 (by decide) ?_
  refine PI_26_36 dX10_rule_7 lkX10_164 ?_
  refine V_aload_n 0 dX10_rule_10 rfl rfl ?_
  refine V_iconst 0 dX10_rule_11 (by decide) ?_
  refine PI_26_25 dX10_rule_12 lkX10_232 ?_
  refine V_aload_n 0 dX10_rule_15 rfl rfl ?_
  refine V_iconst 0 dX10_rule_16 (by decide) ?_
  refine PI_26_26 dX10_rule_17 lkX10_202 ?_
  refine V_aload_n 0 dX10_rule_20 rfl rfl ?_
  refine V_callV (mc := 0) (ms := 0) (as := []) (st := []) (by decide) rt_26 rfl dX10_rule_21 okX10_next0 inX10_next0 seX10_next0 lkX10_199 rfl (Nat.le_of_ble_eq_true rfl) (Nat.zero_le _) (Nat.zero_le _) (Cl.mono (fun r1 h2 z => ?_) k)
  obtain ⟨rfl, k⟩ := z
  refine V_iconst 1 dX10_rule_24 (by decide) ?_
  refine V_istore_n 1 dX10_rule_25 rfl (by decide) rfl ?_
  exact V_lv [1, 0] rfl k
set_option maxRecDepth 20000 in
set_option maxHeartbeats 2000000 in
theorem wX10_rule_26 {d bc bs : Nat} {h : HS} {P : Option AV → HS → Prop} {l1 : Int32} (k : ((l1 = 0) → (((l1 = 0) → (((¬ l1 = 0) → (V true mX10_rule (d + 3) bc bs 90 [(0, aR 26 0), (2, aI 0)] [] (sI (sI (sI (sI h 26 0 35 0) 26 0 42 (gI h 26 0 40)) 26 0 44 (gI h 26 0 41)) 26 0 24 (gI h 26 0 25)) P)) ∧ ((l1 = 0) → (P (some (aI (-1))) (sI (sI (sI h 26 0 35 0) 26 0 42 (gI h 26 0 40)) 26 0 44 (gI h 26 0 41)))))) ∧ ((¬ l1 = 0) → (((¬ l1 = 0) → (V true mX10_rule (d + 3) bc bs 90 [(0, aR 26 0), (2, aI 0)] [] (sI (sI (sI (sI h 26 0 35 0) 26 0 42 (gI h 26 0 40)) 26 0 44 (-1)) 26 0 24 (gI h 26 0 25)) P)) ∧ ((l1 = 0) → (P (some (aI (-1))) (sI (sI (sI h 26 0 35 0) 26 0 42 (gI h 26 0 40)) 26 0 44 (-1)))))))) ∧ ((¬ l1 = 0) → ((((gI h 26 0 37) = 0) → (((l1 = 0) → (((¬ l1 = 0) → (V true mX10_rule (d + 3) bc bs 90 [(0, aR 26 0), (2, aI 0)] [] (sI (sI (sI (sI h 26 0 35 0) 26 0 42 (gI h 26 0 40)) 26 0 44 (gI h 26 0 41)) 26 0 24 (gI h 26 0 25)) P)) ∧ ((l1 = 0) → (P (some (aI (-1))) (sI (sI (sI h 26 0 35 0) 26 0 42 (gI h 26 0 40)) 26 0 44 (gI h 26 0 41)))))) ∧ ((¬ l1 = 0) → (((¬ l1 = 0) → (V true mX10_rule (d + 3) bc bs 90 [(0, aR 26 0), (2, aI 0)] [] (sI (sI (sI (sI h 26 0 35 0) 26 0 42 (gI h 26 0 40)) 26 0 44 (-1)) 26 0 24 (gI h 26 0 25)) P)) ∧ ((l1 = 0) → (P (some (aI (-1))) (sI (sI (sI h 26 0 35 0) 26 0 42 (gI h 26 0 40)) 26 0 44 (-1)))))))) ∧ ((¬ (gI h 26 0 37) = 0) → (Cl true mX10_aLine (d + 2) 0 0 [aR 26 0] h (fun r1 h2 => ∃ x3 : Int32, r1 = some (aI x3) ∧ (V true mX10_rule (d + 3) bc bs 26 [(0, aR 26 0), (1, aI x3)] [] h2 P))))))) : V true mX10_rule (d + 3) bc bs 26 [(0, aR 26 0), (1, aI l1)] [] h P := by
  refine V_iload_n 1 dX10_rule_26 rfl rfl ?_
  refine V_if_eq 45 dX10_rule_27 (by decide) ⟨fun z => ?_, fun z => ?_⟩
  · replace k := k.1 z
    refine V_aload_n 0 dX10_rule_45 rfl rfl ?_
    refine V_iconst 0 dX10_rule_46 (by decide) ?_
    refine PI_26_35 dX10_rule_47 lkX10_143 ?_
    refine V_aload_n 0 dX10_rule_50 rfl rfl ?_
    refine V_aload_n 0 dX10_rule_51 rfl rfl ?_
    refine GI_26_40 dX10_rule_52 lkX10_190 ?_
    refine V_re (y := gI h 26 0 40) rfl ?_
    refine PI_26_42 dX10_rule_55 lkX10_242 ?_
    refine V_aload_n 0 dX10_rule_58 rfl rfl ?_
    refine V_iload_n 1 dX10_rule_59 rfl rfl ?_
    refine V_if_eq 67 dX10_rule_60 (by decide) ⟨fun z => ?_, fun z => ?_⟩
    · replace k := k.1 z
      refine V_aload_n 0 dX10_rule_67 rfl rfl ?_
      refine GI_26_41 dX10_rule_68 lkX10_193 ?_
      refine V_re (y := gI h 26 0 41) rfl ?_
      refine PI_26_44 dX10_rule_71 lkX10_92 ?_
      refine V_iload_n 1 dX10_rule_74 rfl rfl ?_
      refine V_if_ne 80 dX10_rule_75 (by decide) ⟨fun z => ?_, fun z => ?_⟩
      · replace k := k.1 z
        refine V_aload_n 0 dX10_rule_80 rfl rfl ?_
        refine V_aload_n 0 dX10_rule_81 rfl rfl ?_
        refine GI_26_25 dX10_rule_82 lkX10_232 ?_
        refine V_re (y := gI h 26 0 25) rfl ?_
        refine PI_26_24 dX10_rule_85 lkX10_137 ?_
        refine V_iconst 0 dX10_rule_88 (by decide) ?_
        refine V_istore_n 2 dX10_rule_89 rfl (by decide) rfl ?_
        exact V_lv [1, 0] rfl k
      · replace k := k.2 z
        refine V_iconst (-1) dX10_rule_78 (by decide) ?_
        exact V_ireturn dX10_rule_79 rfl k
    · replace k := k.2 z
      refine V_iconst (-1) dX10_rule_63 (by decide) ?_
      refine V_goto 71 dX10_rule_64 (by decide) ?_
      refine PI_26_44 dX10_rule_71 lkX10_92 ?_
      refine V_iload_n 1 dX10_rule_74 rfl rfl ?_
      refine V_if_ne 80 dX10_rule_75 (by decide) ⟨fun z => ?_, fun z => ?_⟩
      · replace k := k.1 z
        refine V_aload_n 0 dX10_rule_80 rfl rfl ?_
        refine V_aload_n 0 dX10_rule_81 rfl rfl ?_
        refine GI_26_25 dX10_rule_82 lkX10_232 ?_
        refine V_re (y := gI h 26 0 25) rfl ?_
        refine PI_26_24 dX10_rule_85 lkX10_137 ?_
        refine V_iconst 0 dX10_rule_88 (by decide) ?_
        refine V_istore_n 2 dX10_rule_89 rfl (by decide) rfl ?_
        exact V_lv [1, 0] rfl k
      · replace k := k.2 z
        refine V_iconst (-1) dX10_rule_78 (by decide) ?_
        exact V_ireturn dX10_rule_79 rfl k
  · replace k := k.2 z
    refine V_aload_n 0 dX10_rule_30 rfl rfl ?_
    refine GI_26_37 dX10_rule_31 lkX10_174 ?_
    refine V_if_eq 45 dX10_rule_34 (by decide) ⟨fun z => ?_, fun z => ?_⟩
    · replace k := k.1 z
      refine V_aload_n 0 dX10_rule_45 rfl rfl ?_
      refine V_iconst 0 dX10_rule_46 (by decide) ?_
      refine PI_26_35 dX10_rule_47 lkX10_143 ?_
      refine V_aload_n 0 dX10_rule_50 rfl rfl ?_
      refine V_aload_n 0 dX10_rule_51 rfl rfl ?_
      refine GI_26_40 dX10_rule_52 lkX10_190 ?_
      refine V_re (y := gI h 26 0 40) rfl ?_
      refine PI_26_42 dX10_rule_55 lkX10_242 ?_
      refine V_aload_n 0 dX10_rule_58 rfl rfl ?_
      refine V_iload_n 1 dX10_rule_59 rfl rfl ?_
      refine V_if_eq 67 dX10_rule_60 (by decide) ⟨fun z => ?_, fun z => ?_⟩
      · replace k := k.1 z
        refine V_aload_n 0 dX10_rule_67 rfl rfl ?_
        refine GI_26_41 dX10_rule_68 lkX10_193 ?_
        refine V_re (y := gI h 26 0 41) rfl ?_
        refine PI_26_44 dX10_rule_71 lkX10_92 ?_
        refine V_iload_n 1 dX10_rule_74 rfl rfl ?_
        refine V_if_ne 80 dX10_rule_75 (by decide) ⟨fun z => ?_, fun z => ?_⟩
        · replace k := k.1 z
          refine V_aload_n 0 dX10_rule_80 rfl rfl ?_
          refine V_aload_n 0 dX10_rule_81 rfl rfl ?_
          refine GI_26_25 dX10_rule_82 lkX10_232 ?_
          refine V_re (y := gI h 26 0 25) rfl ?_
          refine PI_26_24 dX10_rule_85 lkX10_137 ?_
          refine V_iconst 0 dX10_rule_88 (by decide) ?_
          refine V_istore_n 2 dX10_rule_89 rfl (by decide) rfl ?_
          exact V_lv [1, 0] rfl k
        · replace k := k.2 z
          refine V_iconst (-1) dX10_rule_78 (by decide) ?_
          exact V_ireturn dX10_rule_79 rfl k
      · replace k := k.2 z
        refine V_iconst (-1) dX10_rule_63 (by decide) ?_
        refine V_goto 71 dX10_rule_64 (by decide) ?_
        refine PI_26_44 dX10_rule_71 lkX10_92 ?_
        refine V_iload_n 1 dX10_rule_74 rfl rfl ?_
        refine V_if_ne 80 dX10_rule_75 (by decide) ⟨fun z => ?_, fun z => ?_⟩
        · replace k := k.1 z
          refine V_aload_n 0 dX10_rule_80 rfl rfl ?_
          refine V_aload_n 0 dX10_rule_81 rfl rfl ?_
          refine GI_26_25 dX10_rule_82 lkX10_232 ?_
          refine V_re (y := gI h 26 0 25) rfl ?_
          refine PI_26_24 dX10_rule_85 lkX10_137 ?_
          refine V_iconst 0 dX10_rule_88 (by decide) ?_
          refine V_istore_n 2 dX10_rule_89 rfl (by decide) rfl ?_
          exact V_lv [1, 0] rfl k
        · replace k := k.2 z
          refine V_iconst (-1) dX10_rule_78 (by decide) ?_
          exact V_ireturn dX10_rule_79 rfl k
    · replace k := k.2 z
      refine V_aload_n 0 dX10_rule_37 rfl rfl ?_
      refine V_callV (mc := 0) (ms := 0) (as := []) (st := []) (by decide) rt_26 rfl dX10_rule_38 okX10_aLine inX10_aLine seX10_aLine lkX10_239 rfl (Nat.le_of_ble_eq_true rfl) (Nat.zero_le _) (Nat.zero_le _) (Cl.mono (fun r1 h2 z => ?_) k)
      obtain ⟨x3, rfl, k⟩ := z
      refine V_istore_n 1 dX10_rule_41 rfl (by decide) rfl ?_
      refine V_goto 26 dX10_rule_42 (by decide) ?_
      exact V_lv [1, 0] rfl k
set_option maxRecDepth 20000 in
set_option maxHeartbeats 2000000 in
theorem wX10_rule_90 {d bc bs : Nat} {h : HS} {P : Option AV → HS → Prop} {l2 : Int32} (k : (((gI h 26 0 24) ≤ l2) → (vp_in (gI h 26 0 24) 9 ∧ (V true mX10_rule (d + 3) bc bs 143 [(0, aR 26 0), (2, aI 0)] [] (sI h 46 0 (gI h 26 0 24).toNatClampNeg (gI h 26 0 26)) P))) ∧ ((¬ (gI h 26 0 24) ≤ l2) → (vp_in l2 9 ∧ (vp_in l2 9 ∧ (vp_in l2 8 ∧ (vp_in l2 8 ∧ (V true mX10_rule (d + 3) bc bs 90 [(0, aR 26 0), (2, aI (l2 + 1))] [] (sI (sI h 46 0 l2.toNatClampNeg (gI h 49 0 l2.toNatClampNeg)) 47 0 l2.toNatClampNeg (gI h 50 0 l2.toNatClampNeg)) P))))))) : V true mX10_rule (d + 3) bc bs 90 [(0, aR 26 0), (2, aI l2)] [] h P := by
  refine V_iload_n 2 dX10_rule_90 rfl rfl ?_
  refine V_aload_n 0 dX10_rule_91 rfl rfl ?_
  refine GI_26_24 dX10_rule_92 lkX10_137 ?_
  refine V_icmp_ge 128 dX10_rule_95 (by decide) ⟨fun z => ?_, fun z => ?_⟩
  · replace k := k.1 z
    refine V_aload_n 0 dX10_rule_128 rfl rfl ?_
    refine GS_26_27 dX10_rule_129 lkX10_68 ?_
    refine V_aload_n 0 dX10_rule_132 rfl rfl ?_
    refine GI_26_24 dX10_rule_133 lkX10_137 ?_
    refine V_aload_n 0 dX10_rule_136 rfl rfl ?_
    refine GI_26_26 dX10_rule_137 lkX10_202 ?_
    refine V_iast (by decide) rt_46 dX10_rule_140 k.1 ?_
    replace k := k.2
    refine V_iconst 0 dX10_rule_141 (by decide) ?_
    refine V_istore_n 2 dX10_rule_142 rfl (by decide) rfl ?_
    exact V_lv [1, 0] rfl k
  · replace k := k.2 z
    refine V_aload_n 0 dX10_rule_98 rfl rfl ?_
    refine GS_26_27 dX10_rule_99 lkX10_68 ?_
    refine V_iload_n 2 dX10_rule_102 rfl rfl ?_
    refine V_aload_n 0 dX10_rule_103 rfl rfl ?_
    refine GS_26_30 dX10_rule_104 lkX10_77 ?_
    refine V_iload_n 2 dX10_rule_107 rfl rfl ?_
    refine V_iald (by decide) rt_49 dX10_rule_108 k.1 ?_
    replace k := k.2
    refine V_iast (by decide) rt_46 dX10_rule_109 k.1 ?_
    replace k := k.2
    refine V_aload_n 0 dX10_rule_110 rfl rfl ?_
    refine GS_26_28 dX10_rule_111 lkX10_71 ?_
    refine V_iload_n 2 dX10_rule_114 rfl rfl ?_
    refine V_aload_n 0 dX10_rule_115 rfl rfl ?_
    refine GS_26_31 dX10_rule_116 lkX10_80 ?_
    refine V_iload_n 2 dX10_rule_119 rfl rfl ?_
    refine V_iald (by decide) rt_50 dX10_rule_120 k.1 ?_
    replace k := k.2
    refine V_re (y := gI h 50 0 l2.toNatClampNeg) rfl ?_
    refine V_iast (by decide) rt_47 dX10_rule_121 k.1 ?_
    replace k := k.2
    refine V_iinc 2 (v := l2 + 1) dX10_rule_122 rfl rfl (by decide) rfl ?_
    refine V_goto 90 dX10_rule_125 (by decide) ?_
    exact V_lv [1, 0] rfl k
set_option maxRecDepth 20000 in
set_option maxHeartbeats 2000000 in
theorem wX10_rule_143 {d bc bs : Nat} {h : HS} {P : Option AV → HS → Prop} {l2 : Int32} (k : (((gI h 26 0 26) ≤ l2) → (P (some (aI (gI h 26 0 24))) h)) ∧ ((¬ (gI h 26 0 26) ≤ l2) → (vp_in l2 500 ∧ (vp_in l2 500 ∧ (V true mX10_rule (d + 3) bc bs 143 [(0, aR 26 0), (2, aI (l2 + 1))] [] (sI h 48 0 l2.toNatClampNeg (gI h 51 0 l2.toNatClampNeg)) P))))) : V true mX10_rule (d + 3) bc bs 143 [(0, aR 26 0), (2, aI l2)] [] h P := by
  refine V_iload_n 2 dX10_rule_143 rfl rfl ?_
  refine V_aload_n 0 dX10_rule_144 rfl rfl ?_
  refine GI_26_26 dX10_rule_145 lkX10_202 ?_
  refine V_icmp_ge 169 dX10_rule_148 (by decide) ⟨fun z => ?_, fun z => ?_⟩
  · replace k := k.1 z
    refine V_aload_n 0 dX10_rule_169 rfl rfl ?_
    refine GI_26_24 dX10_rule_170 lkX10_137 ?_
    exact V_ireturn dX10_rule_173 rfl k
  · replace k := k.2 z
    refine V_aload_n 0 dX10_rule_151 rfl rfl ?_
    refine GS_26_29 dX10_rule_152 lkX10_74 ?_
    refine V_iload_n 2 dX10_rule_155 rfl rfl ?_
    refine V_aload_n 0 dX10_rule_156 rfl rfl ?_
    refine GS_26_32 dX10_rule_157 lkX10_83 ?_
    refine V_iload_n 2 dX10_rule_160 rfl rfl ?_
    refine V_iald (by decide) rt_51 dX10_rule_161 k.1 ?_
    replace k := k.2
    refine V_iast (by decide) rt_48 dX10_rule_162 k.1 ?_
    replace k := k.2
    refine V_iinc 2 (v := l2 + 1) dX10_rule_163 rfl rfl (by decide) rfl ?_
    refine V_goto 143 dX10_rule_166 (by decide) ?_
    exact V_lv [1, 0] rfl k
-- X10_fault cuts []
set_option maxRecDepth 20000 in
set_option maxHeartbeats 2000000 in
theorem wX10_fault {d bc bs : Nat} {h : HS} {P : Option AV → HS → Prop} {l1 : Int32} (k : ((¬ l1 = 0) → (((¬ l1 = 1) → (P (some (aI (-1))) h)) ∧ ((l1 = 1) → (P (some (aI (gI h 26 0 44))) h)))) ∧ ((l1 = 0) → (P (some (aI (gI h 26 0 42))) h))) : Cl true mX10_fault (d + 3) bc bs [aR 26 0, aI l1] h P := by
  refine Cl_of (by decide) (Nat.le_of_ble_eq_true rfl) ?_
  show V true mX10_fault (d + 3) bc bs 0 [(0, aR 26 0), (1, aI l1)] [] h P
  refine V_iload_n 1 dX10_fault_0 rfl rfl ?_
  refine V_if_ne 11 dX10_fault_1 (by decide) ⟨fun z => ?_, fun z => ?_⟩
  · replace k := k.1 z
    refine V_iload_n 1 dX10_fault_11 rfl rfl ?_
    refine V_iconst 1 dX10_fault_12 (by decide) ?_
    refine V_icmp_ne 23 dX10_fault_13 (by decide) ⟨fun z => ?_, fun z => ?_⟩
    · replace k := k.1 z
      refine V_iconst (-1) dX10_fault_23 (by decide) ?_
      exact V_ireturn dX10_fault_24 rfl k
    · replace k := k.2 z
      refine V_aload_n 0 dX10_fault_16 rfl rfl ?_
      refine GI_26_44 dX10_fault_17 lkX10_92 ?_
      refine V_goto 24 dX10_fault_20 (by decide) ?_
      exact V_ireturn dX10_fault_24 rfl k
  · replace k := k.2 z
    refine V_aload_n 0 dX10_fault_4 rfl rfl ?_
    refine GI_26_42 dX10_fault_5 lkX10_242 ?_
    refine V_goto 24 dX10_fault_8 (by decide) ?_
    exact V_ireturn dX10_fault_24 rfl k
-- X10_takes cuts [22]
set_option maxRecDepth 20000 in
set_option maxHeartbeats 2000000 in
theorem wX10_takes {d bc bs : Nat} {h : HS} {P : Option AV → HS → Prop} {l1 : Int32} {l2 : Int32} (k : V true mX10_takes (d + 3) bc bs 22 [(0, aR 26 0), (1, aI l1), (2, aI l2), (3, aI 0)] [] (sI (sI (sI (sI h 26 0 45 0) 26 0 46 0) 26 0 47 0) 26 0 48 l2) P) : Cl true mX10_takes (d + 3) bc bs [aR 26 0, aI l1, aI l2] h P := by
  refine Cl_of (by decide) (Nat.le_of_ble_eq_true rfl) ?_
  show V true mX10_takes (d + 3) bc bs 0 [(0, aR 26 0), (1, aI l1), (2, aI l2)] [] h P
  refine V_aload_n 0 dX10_takes_0 rfl rfl ?_
  refine V_iconst 0 dX10_takes_1 (by decide) ?_
  refine PI_26_45 dX10_takes_2 lkX10_245 ?_
  refine V_aload_n 0 dX10_takes_5 rfl rfl ?_
  refine V_iconst 0 dX10_takes_6 (by decide) ?_
  refine PI_26_46 dX10_takes_7 lkX10_248 ?_
  refine V_aload_n 0 dX10_takes_10 rfl rfl ?_
  refine V_iconst 0 dX10_takes_11 (by decide) ?_
  refine PI_26_47 dX10_takes_12 lkX10_251 ?_
  refine V_aload_n 0 dX10_takes_15 rfl rfl ?_
  refine V_iload_n 2 dX10_takes_16 rfl rfl ?_
  refine PI_26_48 dX10_takes_17 lkX10_254 ?_
  refine V_iconst 0 dX10_takes_20 (by decide) ?_
  refine V_istore_n 3 dX10_takes_21 rfl (by decide) rfl ?_
  exact V_lv [1, 2, 3, 0] rfl k
set_option maxRecDepth 20000 in
set_option maxHeartbeats 2000000 in
theorem wX10_takes_22 {d bc bs : Nat} {h : HS} {P : Option AV → HS → Prop} {l1 : Int32} {l2 : Int32} {l3 : Int32} (k : (((gI h 26 0 2) ≤ l3) → (P none h)) ∧ ((¬ (gI h 26 0 2) ≤ l3) → (vp_in l3 120 ∧ (((¬ (gI h 33 0 l3.toNatClampNeg) = l1) → (V true mX10_takes (d + 3) bc bs 22 [(0, aR 26 0), (1, aI l1), (2, aI l2), (3, aI (l3 + 1))] [] h P)) ∧ (((gI h 33 0 l3.toNatClampNeg) = l1) → (vp_in l3 120 ∧ (((¬ (gI h 40 0 l3.toNatClampNeg) = (-1)) → (vp_in l3 120 ∧ (((¬ (isOfP (gI h 40 0 l3.toNatClampNeg) l2)) → (vp_in l3 120 ∧ (((¬ (isOfP (gI h 41 0 l3.toNatClampNeg) l2)) → (V true mX10_takes (d + 3) bc bs 22 [(0, aR 26 0), (1, aI l1), (2, aI l2), (3, aI (l3 + 1))] [] h P)) ∧ (((isOfP (gI h 41 0 l3.toNatClampNeg) l2)) → (vp_in l3 120 ∧ (vp_in l3 120 ∧ (V true mX10_takes (d + 3) bc bs 22 [(0, aR 26 0), (1, aI l1), (2, aI l2), (3, aI (l3 + 1))] [] (sI (sI h 26 0 45 ((gI h 26 0 45) - (gI h 43 0 l3.toNatClampNeg))) 26 0 47 ((gI h 26 0 47) + (gI h 43 0 l3.toNatClampNeg))) P))))))) ∧ (((isOfP (gI h 40 0 l3.toNatClampNeg) l2)) → (vp_in l3 120 ∧ (vp_in l3 120 ∧ (((¬ (isOfP (gI h 41 0 l3.toNatClampNeg) l2)) → (V true mX10_takes (d + 3) bc bs 22 [(0, aR 26 0), (1, aI l1), (2, aI l2), (3, aI (l3 + 1))] [] (sI (sI h 26 0 45 ((gI h 26 0 45) + (gI h 43 0 l3.toNatClampNeg))) 26 0 46 ((gI h 26 0 46) + 1)) P)) ∧ (((isOfP (gI h 41 0 l3.toNatClampNeg) l2)) → (vp_in l3 120 ∧ (vp_in l3 120 ∧ (V true mX10_takes (d + 3) bc bs 22 [(0, aR 26 0), (1, aI l1), (2, aI l2), (3, aI (l3 + 1))] [] (sI (sI (sI (sI h 26 0 45 ((gI h 26 0 45) + (gI h 43 0 l3.toNatClampNeg))) 26 0 46 ((gI h 26 0 46) + 1)) 26 0 45 (((gI h 26 0 45) + (gI h 43 0 l3.toNatClampNeg)) - (gI h 43 0 l3.toNatClampNeg))) 26 0 47 ((gI h 26 0 47) + (gI h 43 0 l3.toNatClampNeg))) P))))))))))) ∧ (((gI h 40 0 l3.toNatClampNeg) = (-1)) → (V true mX10_takes (d + 3) bc bs 22 [(0, aR 26 0), (1, aI l1), (2, aI l2), (3, aI (l3 + 1))] [] h P))))))))) : V true mX10_takes (d + 3) bc bs 22 [(0, aR 26 0), (1, aI l1), (2, aI l2), (3, aI l3)] [] h P := by
  refine V_iload_n 3 dX10_takes_22 rfl rfl ?_
  refine V_aload_n 0 dX10_takes_23 rfl rfl ?_
  refine GI_26_2 dX10_takes_24 lkX10_125 ?_
  refine V_icmp_ge 140 dX10_takes_27 (by decide) ⟨fun z => ?_, fun z => ?_⟩
  · replace k := k.1 z
    exact V_return dX10_takes_140 rfl k
  · replace k := k.2 z
    refine V_aload_n 0 dX10_takes_30 rfl rfl ?_
    refine GS_26_9 dX10_takes_31 lkX10_28 ?_
    refine V_iload_n 3 dX10_takes_34 rfl rfl ?_
    refine V_iald (by decide) rt_33 dX10_takes_35 k.1 ?_
    replace k := k.2
    refine V_iload_n 1 dX10_takes_36 rfl rfl ?_
    refine V_icmp_ne 134 dX10_takes_37 (by decide) ⟨fun z => ?_, fun z => ?_⟩
    · replace k := k.1 z
      refine V_iinc 3 (v := l3 + 1) dX10_takes_134 rfl rfl (by decide) rfl ?_
      refine V_goto 22 dX10_takes_137 (by decide) ?_
      exact V_lv [1, 2, 3, 0] rfl k
    · replace k := k.2 z
      refine V_aload_n 0 dX10_takes_40 rfl rfl ?_
      refine GS_26_16 dX10_takes_41 lkX10_49 ?_
      refine V_iload_n 3 dX10_takes_44 rfl rfl ?_
      refine V_iald (by decide) rt_40 dX10_takes_45 k.1 ?_
      replace k := k.2
      refine V_iconst (-1) dX10_takes_46 (by decide) ?_
      refine V_icmp_ne 53 dX10_takes_47 (by decide) ⟨fun z => ?_, fun z => ?_⟩
      · replace k := k.1 z
        refine V_aload_n 0 dX10_takes_53 rfl rfl ?_
        refine GS_26_16 dX10_takes_54 lkX10_49 ?_
        refine V_iload_n 3 dX10_takes_57 rfl rfl ?_
        refine V_iald (by decide) rt_40 dX10_takes_58 k.1 ?_
        replace k := k.2
        refine V_iload_n 2 dX10_takes_59 rfl rfl ?_
        refine V_callS (mc := 0) (ms := 0) (as := [aI (gI h 40 0 l3.toNatClampNeg), aI l2]) (st := []) dX10_takes_60 okX10_isOf stX10_isOf lkX10_257 rfl (Nat.le_of_ble_eq_true rfl) (Nat.zero_le _) (Nat.zero_le _) (cX10_isOf_ ?_)
        show V true mX10_takes (d + 3) bc bs 63 [(0, aR 26 0), (1, aI l1), (2, aI l2), (3, aI l3)] [aI (bI (isOfP (gI h 40 0 l3.toNatClampNeg) l2))] h P
        refine V_if_eq 91 dX10_takes_63 (by decide) ⟨fun z => ?_, fun z => ?_⟩
        · replace k := k.1 (bI_0 z)
          refine V_aload_n 0 dX10_takes_91 rfl rfl ?_
          refine GS_26_17 dX10_takes_92 lkX10_52 ?_
          refine V_iload_n 3 dX10_takes_95 rfl rfl ?_
          refine V_iald (by decide) rt_41 dX10_takes_96 k.1 ?_
          replace k := k.2
          refine V_iload_n 2 dX10_takes_97 rfl rfl ?_
          refine V_callS (mc := 0) (ms := 0) (as := [aI (gI h 41 0 l3.toNatClampNeg), aI l2]) (st := []) dX10_takes_98 okX10_isOf stX10_isOf lkX10_257 rfl (Nat.le_of_ble_eq_true rfl) (Nat.zero_le _) (Nat.zero_le _) (cX10_isOf_ ?_)
          show V true mX10_takes (d + 3) bc bs 101 [(0, aR 26 0), (1, aI l1), (2, aI l2), (3, aI l3)] [aI (bI (isOfP (gI h 41 0 l3.toNatClampNeg) l2))] h P
          refine V_if_eq 134 dX10_takes_101 (by decide) ⟨fun z => ?_, fun z => ?_⟩
          · replace k := k.1 (bI_0 z)
            refine V_iinc 3 (v := l3 + 1) dX10_takes_134 rfl rfl (by decide) rfl ?_
            refine V_goto 22 dX10_takes_137 (by decide) ?_
            exact V_lv [1, 2, 3, 0] rfl k
          · replace k := k.2 (bI_1 z)
            refine V_aload_n 0 dX10_takes_104 rfl rfl ?_
            refine V_dup dX10_takes_105 rfl ?_
            refine GI_26_45 dX10_takes_106 lkX10_245 ?_
            refine V_aload_n 0 dX10_takes_109 rfl rfl ?_
            refine GS_26_19 dX10_takes_110 lkX10_58 ?_
            refine V_iload_n 3 dX10_takes_113 rfl rfl ?_
            refine V_iald (by decide) rt_43 dX10_takes_114 k.1 ?_
            replace k := k.2
            refine V_isub dX10_takes_115 ?_
            refine PI_26_45 dX10_takes_116 lkX10_245 ?_
            refine V_aload_n 0 dX10_takes_119 rfl rfl ?_
            refine V_dup dX10_takes_120 rfl ?_
            refine GI_26_47 dX10_takes_121 lkX10_251 ?_
            refine V_re (y := gI h 26 0 47) rfl ?_
            refine V_aload_n 0 dX10_takes_124 rfl rfl ?_
            refine GS_26_19 dX10_takes_125 lkX10_58 ?_
            refine V_iload_n 3 dX10_takes_128 rfl rfl ?_
            refine V_iald (by decide) rt_43 dX10_takes_129 k.1 ?_
            replace k := k.2
            refine V_re (y := gI h 43 0 l3.toNatClampNeg) rfl ?_
            refine V_iadd dX10_takes_130 ?_
            refine PI_26_47 dX10_takes_131 lkX10_251 ?_
            refine V_iinc 3 (v := l3 + 1) dX10_takes_134 rfl rfl (by decide) rfl ?_
            refine V_goto 22 dX10_takes_137 (by decide) ?_
            exact V_lv [1, 2, 3, 0] rfl k
        · replace k := k.2 (bI_1 z)
          refine V_aload_n 0 dX10_takes_66 rfl rfl ?_
          refine V_dup dX10_takes_67 rfl ?_
          refine GI_26_45 dX10_takes_68 lkX10_245 ?_
          refine V_aload_n 0 dX10_takes_71 rfl rfl ?_
          refine GS_26_19 dX10_takes_72 lkX10_58 ?_
          refine V_iload_n 3 dX10_takes_75 rfl rfl ?_
          refine V_iald (by decide) rt_43 dX10_takes_76 k.1 ?_
          replace k := k.2
          refine V_iadd dX10_takes_77 ?_
          refine PI_26_45 dX10_takes_78 lkX10_245 ?_
          refine V_aload_n 0 dX10_takes_81 rfl rfl ?_
          refine V_dup dX10_takes_82 rfl ?_
          refine GI_26_46 dX10_takes_83 lkX10_248 ?_
          refine V_re (y := gI h 26 0 46) rfl ?_
          refine V_iconst 1 dX10_takes_86 (by decide) ?_
          refine V_iadd dX10_takes_87 ?_
          refine PI_26_46 dX10_takes_88 lkX10_248 ?_
          refine V_aload_n 0 dX10_takes_91 rfl rfl ?_
          refine GS_26_17 dX10_takes_92 lkX10_52 ?_
          refine V_iload_n 3 dX10_takes_95 rfl rfl ?_
          refine V_iald (by decide) rt_41 dX10_takes_96 k.1 ?_
          replace k := k.2
          refine V_re (y := gI h 41 0 l3.toNatClampNeg) rfl ?_
          refine V_iload_n 2 dX10_takes_97 rfl rfl ?_
          refine V_callS (mc := 0) (ms := 0) (as := [aI (gI h 41 0 l3.toNatClampNeg), aI l2]) (st := []) dX10_takes_98 okX10_isOf stX10_isOf lkX10_257 rfl (Nat.le_of_ble_eq_true rfl) (Nat.zero_le _) (Nat.zero_le _) (cX10_isOf_ ?_)
          show V true mX10_takes (d + 3) bc bs 101 [(0, aR 26 0), (1, aI l1), (2, aI l2), (3, aI l3)] [aI (bI (isOfP (gI h 41 0 l3.toNatClampNeg) l2))] (sI (sI h 26 0 45 ((gI h 26 0 45) + (gI h 43 0 l3.toNatClampNeg))) 26 0 46 ((gI h 26 0 46) + 1)) P
          refine V_if_eq 134 dX10_takes_101 (by decide) ⟨fun z => ?_, fun z => ?_⟩
          · replace k := k.1 (bI_0 z)
            refine V_iinc 3 (v := l3 + 1) dX10_takes_134 rfl rfl (by decide) rfl ?_
            refine V_goto 22 dX10_takes_137 (by decide) ?_
            exact V_lv [1, 2, 3, 0] rfl k
          · replace k := k.2 (bI_1 z)
            refine V_aload_n 0 dX10_takes_104 rfl rfl ?_
            refine V_dup dX10_takes_105 rfl ?_
            refine GI_26_45 dX10_takes_106 lkX10_245 ?_
            refine V_re (y := ((gI h 26 0 45) + (gI h 43 0 l3.toNatClampNeg))) rfl ?_
            refine V_aload_n 0 dX10_takes_109 rfl rfl ?_
            refine GS_26_19 dX10_takes_110 lkX10_58 ?_
            refine V_iload_n 3 dX10_takes_113 rfl rfl ?_
            refine V_iald (by decide) rt_43 dX10_takes_114 k.1 ?_
            replace k := k.2
            refine V_re (y := gI h 43 0 l3.toNatClampNeg) rfl ?_
            refine V_isub dX10_takes_115 ?_
            refine PI_26_45 dX10_takes_116 lkX10_245 ?_
            refine V_aload_n 0 dX10_takes_119 rfl rfl ?_
            refine V_dup dX10_takes_120 rfl ?_
            refine GI_26_47 dX10_takes_121 lkX10_251 ?_
            refine V_re (y := gI h 26 0 47) rfl ?_
            refine V_aload_n 0 dX10_takes_124 rfl rfl ?_
            refine GS_26_19 dX10_takes_125 lkX10_58 ?_
            refine V_iload_n 3 dX10_takes_128 rfl rfl ?_
            refine V_iald (by decide) rt_43 dX10_takes_129 k.1 ?_
            replace k := k.2
            refine V_re (y := gI h 43 0 l3.toNatClampNeg) rfl ?_
            refine V_iadd dX10_takes_130 ?_
            refine PI_26_47 dX10_takes_131 lkX10_251 ?_
            refine V_iinc 3 (v := l3 + 1) dX10_takes_134 rfl rfl (by decide) rfl ?_
            refine V_goto 22 dX10_takes_137 (by decide) ?_
            exact V_lv [1, 2, 3, 0] rfl k
      · replace k := k.2 z
        refine V_goto 134 dX10_takes_50 (by decide) ?_
        refine V_iinc 3 (v := l3 + 1) dX10_takes_134 rfl rfl (by decide) rfl ?_
        refine V_goto 22 dX10_takes_137 (by decide) ?_
        exact V_lv [1, 2, 3, 0] rfl k
-- X10_worked cuts [5]
set_option maxRecDepth 20000 in
set_option maxHeartbeats 2000000 in
theorem wX10_worked {d bc bs : Nat} {h : HS} {P : Option AV → HS → Prop} {l1 : Int32} {l2 : Int32} (k : V true mX10_worked (d + 3) bc bs 5 [(0, aR 26 0), (2, aI l2), (3, aI 0), (4, aI l1)] [] h P) : Cl true mX10_worked (d + 3) bc bs [aR 26 0, aI l1, aI l2] h P := by
  refine Cl_of (by decide) (Nat.le_of_ble_eq_true rfl) ?_
  show V true mX10_worked (d + 3) bc bs 0 [(0, aR 26 0), (1, aI l1), (2, aI l2)] [] h P
  refine V_iconst 0 dX10_worked_0 (by decide) ?_
  refine V_istore_n 3 dX10_worked_1 rfl (by decide) rfl ?_
  refine V_iload_n 1 dX10_worked_2 rfl rfl ?_
  refine V_istore 4 dX10_worked_3 (by decide) rfl ?_
  exact V_lv [2, 4, 1, 0] rfl k
set_option maxRecDepth 20000 in
set_option maxHeartbeats 2000000 in
theorem wX10_worked_5 {d bc bs : Nat} {h : HS} {P : Option AV → HS → Prop} {l2 : Int32} {l3 : Int32} {l4 : Int32} (k : ((l2 ≤ l4) → (vp_in 0 500 ∧ (P (some (aI (gI h 52 0 (0 : Int32).toNatClampNeg))) h))) ∧ ((¬ l2 ≤ l4) → (vp_in l4 500 ∧ (((1000010 ≤ (gI h 48 0 l4.toNatClampNeg)) → (vp_in ((l3 + (-1)) - 1) 500 ∧ (vp_in (l3 + (-1)) 500 ∧ (((gI h 48 0 l4.toNatClampNeg) = 1000013 → ¬ (gI h 52 0 (l3 + (-1)).toNatClampNeg) = 0) ∧ (vp_in ((l3 + (-1)) - 1) 500 ∧ (V true mX10_worked (d + 3) bc bs 5 [(0, aR 26 0), (2, aI l2), (3, aI (l3 + (-1))), (4, aI (l4 + 1))] [] (sI h 52 0 ((l3 + (-1)) - 1).toNatClampNeg (bothF (gI h 48 0 l4.toNatClampNeg) (gI h 52 0 ((l3 + (-1)) - 1).toNatClampNeg) (gI h 52 0 (l3 + (-1)).toNatClampNeg))) P)))))) ∧ ((¬ 1000010 ≤ (gI h 48 0 l4.toNatClampNeg)) → (((¬ (gI h 48 0 l4.toNatClampNeg) = 1000001) → (((¬ (gI h 48 0 l4.toNatClampNeg) = 1000002) → (((¬ (gI h 48 0 l4.toNatClampNeg) = 1000003) → (((¬ (gI h 48 0 l4.toNatClampNeg) = 1000004) → (vp_in l3 500 ∧ (V true mX10_worked (d + 3) bc bs 5 [(0, aR 26 0), (2, aI l2), (3, aI (l3 + 1)), (4, aI (l4 + 1))] [] (sI h 52 0 l3.toNatClampNeg (gI h 48 0 l4.toNatClampNeg)) P))) ∧ (((gI h 48 0 l4.toNatClampNeg) = 1000004) → (vp_in l3 500 ∧ (V true mX10_worked (d + 3) bc bs 5 [(0, aR 26 0), (2, aI l2), (3, aI (l3 + 1)), (4, aI (l4 + 1))] [] (sI h 52 0 l3.toNatClampNeg (gI h 26 0 48)) P))))) ∧ (((gI h 48 0 l4.toNatClampNeg) = 1000003) → (vp_in l3 500 ∧ (V true mX10_worked (d + 3) bc bs 5 [(0, aR 26 0), (2, aI l2), (3, aI (l3 + 1)), (4, aI (l4 + 1))] [] (sI h 52 0 l3.toNatClampNeg (gI h 26 0 47)) P))))) ∧ (((gI h 48 0 l4.toNatClampNeg) = 1000002) → (vp_in l3 500 ∧ (V true mX10_worked (d + 3) bc bs 5 [(0, aR 26 0), (2, aI l2), (3, aI (l3 + 1)), (4, aI (l4 + 1))] [] (sI h 52 0 l3.toNatClampNeg (gI h 26 0 46)) P))))) ∧ (((gI h 48 0 l4.toNatClampNeg) = 1000001) → (vp_in l3 500 ∧ (V true mX10_worked (d + 3) bc bs 5 [(0, aR 26 0), (2, aI l2), (3, aI (l3 + 1)), (4, aI (l4 + 1))] [] (sI h 52 0 l3.toNatClampNeg (gI h 26 0 45)) P))))))))) : V true mX10_worked (d + 3) bc bs 5 [(0, aR 26 0), (2, aI l2), (3, aI l3), (4, aI l4)] [] h P := by
  refine V_iload 4 dX10_worked_5 rfl ?_
  refine V_iload_n 2 dX10_worked_7 rfl rfl ?_
  refine V_icmp_ge 133 dX10_worked_8 (by decide) ⟨fun z => ?_, fun z => ?_⟩
  · replace k := k.1 z
    refine V_aload_n 0 dX10_worked_133 rfl rfl ?_
    refine GS_26_33 dX10_worked_134 lkX10_86 ?_
    refine V_iconst 0 dX10_worked_137 (by decide) ?_
    refine V_iald (by decide) rt_52 dX10_worked_138 k.1 ?_
    replace k := k.2
    exact V_ireturn dX10_worked_139 rfl k
  · replace k := k.2 z
    refine V_aload_n 0 dX10_worked_11 rfl rfl ?_
    refine GS_26_29 dX10_worked_12 lkX10_74 ?_
    refine V_iload 4 dX10_worked_15 rfl ?_
    refine V_iald (by decide) rt_48 dX10_worked_17 k.1 ?_
    replace k := k.2
    refine V_istore 5 dX10_worked_18 (by decide) rfl ?_
    refine V_iload 5 dX10_worked_20 rfl ?_
    refine V_ldc 1000010 dX10_worked_22 lkX10_209 ?_
    refine V_icmp_ge 97 dX10_worked_24 (by decide) ⟨fun z => ?_, fun z => ?_⟩
    · replace k := k.1 z
      refine V_iinc 3 (v := l3 + (-1)) dX10_worked_97 rfl rfl (by decide) rfl ?_
      refine V_aload_n 0 dX10_worked_100 rfl rfl ?_
      refine GS_26_33 dX10_worked_101 lkX10_86 ?_
      refine V_iload_n 3 dX10_worked_104 rfl rfl ?_
      refine V_iconst 1 dX10_worked_105 (by decide) ?_
      refine V_isub dX10_worked_106 ?_
      refine V_iload 5 dX10_worked_107 rfl ?_
      refine V_aload_n 0 dX10_worked_109 rfl rfl ?_
      refine GS_26_33 dX10_worked_110 lkX10_86 ?_
      refine V_iload_n 3 dX10_worked_113 rfl rfl ?_
      refine V_iconst 1 dX10_worked_114 (by decide) ?_
      refine V_isub dX10_worked_115 ?_
      refine V_iald (by decide) rt_52 dX10_worked_116 k.1 ?_
      replace k := k.2
      refine V_aload_n 0 dX10_worked_117 rfl rfl ?_
      refine GS_26_33 dX10_worked_118 lkX10_86 ?_
      refine V_iload_n 3 dX10_worked_121 rfl rfl ?_
      refine V_iald (by decide) rt_52 dX10_worked_122 k.1 ?_
      replace k := k.2
      obtain ⟨s3, k⟩ := k
      refine V_callS (mc := 0) (ms := 0) (as := [aI (gI h 48 0 l4.toNatClampNeg), aI (gI h 52 0 ((l3 + (-1)) - 1).toNatClampNeg), aI (gI h 52 0 (l3 + (-1)).toNatClampNeg)]) (st := [aI ((l3 + (-1)) - 1), aR 52 0]) dX10_worked_123 okX10_both stX10_both lkX10_261 rfl (Nat.le_of_ble_eq_true rfl) (Nat.zero_le _) (Nat.zero_le _) (cX10_both_ s3 ?_)
      show V true mX10_worked (d + 3) bc bs 126 [(3, aI (l3 + (-1))), (5, aI (gI h 48 0 l4.toNatClampNeg)), (0, aR 26 0), (2, aI l2), (4, aI l4)] [aI (bothF (gI h 48 0 l4.toNatClampNeg) (gI h 52 0 ((l3 + (-1)) - 1).toNatClampNeg) (gI h 52 0 (l3 + (-1)).toNatClampNeg)), aI ((l3 + (-1)) - 1), aR 52 0] h P
      refine V_iast (by decide) rt_52 dX10_worked_126 k.1 ?_
      replace k := k.2
      refine V_iinc 4 (v := l4 + 1) dX10_worked_127 rfl rfl (by decide) rfl ?_
      refine V_goto 5 dX10_worked_130 (by decide) ?_
      exact V_lv [3, 4, 1, 0] rfl k
    · replace k := k.2 z
      refine V_aload_n 0 dX10_worked_27 rfl rfl ?_
      refine GS_26_33 dX10_worked_28 lkX10_86 ?_
      refine V_iload_n 3 dX10_worked_31 rfl rfl ?_
      refine V_iload 5 dX10_worked_32 rfl ?_
      refine V_ldc 1000001 dX10_worked_34 lkX10_154 ?_
      refine V_icmp_ne 46 dX10_worked_36 (by decide) ⟨fun z => ?_, fun z => ?_⟩
      · replace k := k.1 z
        refine V_iload 5 dX10_worked_46 rfl ?_
        refine V_ldc 1000002 dX10_worked_48 lkX10_157 ?_
        refine V_icmp_ne 60 dX10_worked_50 (by decide) ⟨fun z => ?_, fun z => ?_⟩
        · replace k := k.1 z
          refine V_iload 5 dX10_worked_60 rfl ?_
          refine V_ldc 1000003 dX10_worked_62 lkX10_160 ?_
          refine V_icmp_ne 74 dX10_worked_64 (by decide) ⟨fun z => ?_, fun z => ?_⟩
          · replace k := k.1 z
            refine V_iload 5 dX10_worked_74 rfl ?_
            refine V_ldc 1000004 dX10_worked_76 lkX10_163 ?_
            refine V_icmp_ne 88 dX10_worked_78 (by decide) ⟨fun z => ?_, fun z => ?_⟩
            · replace k := k.1 z
              refine V_iload 5 dX10_worked_88 rfl ?_
              refine V_iast (by decide) rt_52 dX10_worked_90 k.1 ?_
              replace k := k.2
              refine V_iinc 3 (v := l3 + 1) dX10_worked_91 rfl rfl (by decide) rfl ?_
              refine V_goto 127 dX10_worked_94 (by decide) ?_
              refine V_iinc 4 (v := l4 + 1) dX10_worked_127 rfl rfl (by decide) rfl ?_
              refine V_goto 5 dX10_worked_130 (by decide) ?_
              exact V_lv [3, 4, 1, 0] rfl k
            · replace k := k.2 z
              refine V_aload_n 0 dX10_worked_81 rfl rfl ?_
              refine GI_26_48 dX10_worked_82 lkX10_254 ?_
              refine V_goto 90 dX10_worked_85 (by decide) ?_
              refine V_iast (by decide) rt_52 dX10_worked_90 k.1 ?_
              replace k := k.2
              refine V_iinc 3 (v := l3 + 1) dX10_worked_91 rfl rfl (by decide) rfl ?_
              refine V_goto 127 dX10_worked_94 (by decide) ?_
              refine V_iinc 4 (v := l4 + 1) dX10_worked_127 rfl rfl (by decide) rfl ?_
              refine V_goto 5 dX10_worked_130 (by decide) ?_
              exact V_lv [3, 4, 1, 0] rfl k
          · replace k := k.2 z
            refine V_aload_n 0 dX10_worked_67 rfl rfl ?_
            refine GI_26_47 dX10_worked_68 lkX10_251 ?_
            refine V_goto 90 dX10_worked_71 (by decide) ?_
            refine V_iast (by decide) rt_52 dX10_worked_90 k.1 ?_
            replace k := k.2
            refine V_iinc 3 (v := l3 + 1) dX10_worked_91 rfl rfl (by decide) rfl ?_
            refine V_goto 127 dX10_worked_94 (by decide) ?_
            refine V_iinc 4 (v := l4 + 1) dX10_worked_127 rfl rfl (by decide) rfl ?_
            refine V_goto 5 dX10_worked_130 (by decide) ?_
            exact V_lv [3, 4, 1, 0] rfl k
        · replace k := k.2 z
          refine V_aload_n 0 dX10_worked_53 rfl rfl ?_
          refine GI_26_46 dX10_worked_54 lkX10_248 ?_
          refine V_goto 90 dX10_worked_57 (by decide) ?_
          refine V_iast (by decide) rt_52 dX10_worked_90 k.1 ?_
          replace k := k.2
          refine V_iinc 3 (v := l3 + 1) dX10_worked_91 rfl rfl (by decide) rfl ?_
          refine V_goto 127 dX10_worked_94 (by decide) ?_
          refine V_iinc 4 (v := l4 + 1) dX10_worked_127 rfl rfl (by decide) rfl ?_
          refine V_goto 5 dX10_worked_130 (by decide) ?_
          exact V_lv [3, 4, 1, 0] rfl k
      · replace k := k.2 z
        refine V_aload_n 0 dX10_worked_39 rfl rfl ?_
        refine GI_26_45 dX10_worked_40 lkX10_245 ?_
        refine V_goto 90 dX10_worked_43 (by decide) ?_
        refine V_iast (by decide) rt_52 dX10_worked_90 k.1 ?_
        replace k := k.2
        refine V_iinc 3 (v := l3 + 1) dX10_worked_91 rfl rfl (by decide) rfl ?_
        refine V_goto 127 dX10_worked_94 (by decide) ?_
        refine V_iinc 4 (v := l4 + 1) dX10_worked_127 rfl rfl (by decide) rfl ?_
        refine V_goto 5 dX10_worked_130 (by decide) ?_
        exact V_lv [3, 4, 1, 0] rfl k
-- X10_pay cuts [72]
set_option maxRecDepth 20000 in
set_option maxHeartbeats 2000000 in
theorem wX10_pay {d bc bs : Nat} {h : HS} {P : Option AV → HS → Prop} {l1 : Int32} {l2 : Int32} {l3 : Int32} (k : ((¬ (inR l1 0 7)) → (P (some (aI (-1000001))) h)) ∧ (((inR l1 0 7)) → (((¬ (inR l2 0 12)) → (P (some (aI (-1000001))) h)) ∧ (((inR l2 0 12)) → ((((inR l3 0 4)) → (Cl true mX10_takes (d + 2) 0 0 [aR 26 0, aI l1, aI l2] h (fun r7 h8 => r7 = none ∧ (((3 ≤ l3) → (V true mX10_pay (d + 3) bc bs 72 [(0, aR 26 0), (3, aI l3), (4, aI 0)] [] h8 P)) ∧ ((¬ 3 ≤ l3) → (((¬ l3 = 0) → (((¬ l3 = 1) → (P (some (aI (gI h8 26 0 47))) h8)) ∧ ((l3 = 1) → (P (some (aI (gI h8 26 0 46))) h8)))) ∧ ((l3 = 0) → (P (some (aI (gI h8 26 0 45))) h8)))))))) ∧ ((¬ (inR l3 0 4)) → (P (some (aI (-1000001))) h))))))) : Cl true mX10_pay (d + 3) bc bs [aR 26 0, aI l1, aI l2, aI l3] h P := by
  refine Cl_of (by decide) (Nat.le_of_ble_eq_true rfl) ?_
  show V true mX10_pay (d + 3) bc bs 0 [(0, aR 26 0), (1, aI l1), (2, aI l2), (3, aI l3)] [] h P
  refine V_iload_n 1 dX10_pay_0 rfl rfl ?_
  refine V_iconst 0 dX10_pay_1 (by decide) ?_
  refine V_bipush 7 dX10_pay_2 (by decide) ?_
  refine V_callS (mc := 0) (ms := 0) (as := [aI l1, aI 0, aI 7]) (st := []) dX10_pay_4 okX10_isIn stX10_isIn lkX10_111 rfl (Nat.le_of_ble_eq_true rfl) (Nat.zero_le _) (Nat.zero_le _) (cX10_isIn_ ?_)
  show V true mX10_pay (d + 3) bc bs 7 [(0, aR 26 0), (1, aI l1), (2, aI l2), (3, aI l3)] [aI (bI (inR l1 0 7))] h P
  refine V_if_eq 26 dX10_pay_7 (by decide) ⟨fun z => ?_, fun z => ?_⟩
  · replace k := k.1 (bI_0 z)
    refine V_ldc_w (-1000001) dX10_pay_26 lkX10_268 ?_
    exact V_ireturn dX10_pay_29 rfl k
  · replace k := k.2 (bI_1 z)
    refine V_iload_n 2 dX10_pay_10 rfl rfl ?_
    refine V_callS (mc := 0) (ms := 0) (as := [aI l2]) (st := []) dX10_pay_11 okX10_isMonth stX10_isMonth lkX10_265 rfl (Nat.le_of_ble_eq_true rfl) (Nat.zero_le _) (Nat.zero_le _) (cX10_isMonth_ ?_)
    show V true mX10_pay (d + 3) bc bs 14 [(0, aR 26 0), (1, aI l1), (2, aI l2), (3, aI l3)] [aI (bI (inR l2 0 12))] h P
    refine V_if_eq 26 dX10_pay_14 (by decide) ⟨fun z => ?_, fun z => ?_⟩
    · replace k := k.1 (bI_0 z)
      refine V_ldc_w (-1000001) dX10_pay_26 lkX10_268 ?_
      exact V_ireturn dX10_pay_29 rfl k
    · replace k := k.2 (bI_1 z)
      refine V_iload_n 3 dX10_pay_17 rfl rfl ?_
      refine V_iconst 0 dX10_pay_18 (by decide) ?_
      refine V_iconst 4 dX10_pay_19 (by decide) ?_
      refine V_callS (mc := 0) (ms := 0) (as := [aI l3, aI 0, aI 4]) (st := []) dX10_pay_20 okX10_isIn stX10_isIn lkX10_111 rfl (Nat.le_of_ble_eq_true rfl) (Nat.zero_le _) (Nat.zero_le _) (cX10_isIn_ ?_)
      show V true mX10_pay (d + 3) bc bs 23 [(0, aR 26 0), (1, aI l1), (2, aI l2), (3, aI l3)] [aI (bI (inR l3 0 4))] h P
      refine V_if_ne 30 dX10_pay_23 (by decide) ⟨fun z => ?_, fun z => ?_⟩
      · replace k := k.1 (bI_1 z)
        refine V_aload_n 0 dX10_pay_30 rfl rfl ?_
        refine V_iload_n 1 dX10_pay_31 rfl rfl ?_
        refine V_iload_n 2 dX10_pay_32 rfl rfl ?_
        refine V_callV (mc := 0) (ms := 0) (as := [aI l1, aI l2]) (st := []) (by decide) rt_26 rfl dX10_pay_33 okX10_takes inX10_takes seX10_takes lkX10_269 rfl (Nat.le_of_ble_eq_true rfl) (Nat.zero_le _) (Nat.zero_le _) (Cl.mono (fun r7 h8 z => ?_) k)
        obtain ⟨rfl, k⟩ := z
        refine V_iload_n 3 dX10_pay_36 rfl rfl ?_
        refine V_iconst 3 dX10_pay_37 (by decide) ?_
        refine V_icmp_ge 69 dX10_pay_38 (by decide) ⟨fun z => ?_, fun z => ?_⟩
        · replace k := k.1 z
          refine V_iconst 0 dX10_pay_69 (by decide) ?_
          refine V_istore 4 dX10_pay_70 (by decide) rfl ?_
          exact V_lv [1, 4, 0] rfl k
        · replace k := k.2 z
          refine V_iload_n 3 dX10_pay_41 rfl rfl ?_
          refine V_if_ne 52 dX10_pay_42 (by decide) ⟨fun z => ?_, fun z => ?_⟩
          · replace k := k.1 z
            refine V_iload_n 3 dX10_pay_52 rfl rfl ?_
            refine V_iconst 1 dX10_pay_53 (by decide) ?_
            refine V_icmp_ne 64 dX10_pay_54 (by decide) ⟨fun z => ?_, fun z => ?_⟩
            · replace k := k.1 z
              refine V_aload_n 0 dX10_pay_64 rfl rfl ?_
              refine GI_26_47 dX10_pay_65 lkX10_251 ?_
              exact V_ireturn dX10_pay_68 rfl k
            · replace k := k.2 z
              refine V_aload_n 0 dX10_pay_57 rfl rfl ?_
              refine GI_26_46 dX10_pay_58 lkX10_248 ?_
              refine V_goto 68 dX10_pay_61 (by decide) ?_
              exact V_ireturn dX10_pay_68 rfl k
          · replace k := k.2 z
            refine V_aload_n 0 dX10_pay_45 rfl rfl ?_
            refine GI_26_45 dX10_pay_46 lkX10_245 ?_
            refine V_goto 68 dX10_pay_49 (by decide) ?_
            exact V_ireturn dX10_pay_68 rfl k
      · replace k := k.2 (bI_0 z)
        refine V_ldc_w (-1000001) dX10_pay_26 lkX10_268 ?_
        exact V_ireturn dX10_pay_29 rfl k
set_option maxRecDepth 20000 in
set_option maxHeartbeats 2000000 in
theorem wX10_pay_72 {d bc bs : Nat} {h : HS} {P : Option AV → HS → Prop} {l3 : Int32} {l4 : Int32} (k : (((gI h 26 0 24) ≤ l4) → (((¬ l3 = 4) → (P (some (aI 0)) h)) ∧ ((l3 = 4) → (P (some (aI (-1))) h)))) ∧ ((¬ (gI h 26 0 24) ≤ l4) → (vp_in l4 8 ∧ (vp_in (l4 + 1) 9 ∧ (Cl true mX10_worked (d + 2) 0 0 [aR 26 0, aI (gI h 47 0 l4.toNatClampNeg), aI (gI h 46 0 (l4 + 1).toNatClampNeg)] h (fun r1 h2 => ∃ x3 : Int32, r1 = some (aI x3) ∧ (((¬ x3 = 1) → (V true mX10_pay (d + 3) bc bs 72 [(0, aR 26 0), (3, aI l3), (4, aI (l4 + 1))] [] h2 P)) ∧ ((x3 = 1) → (((¬ l3 = 4) → (vp_in l4 9 ∧ (vp_in l4 8 ∧ (Cl true mX10_worked (d + 2) 0 0 [aR 26 0, aI (gI h2 46 0 l4.toNatClampNeg), aI (gI h2 47 0 l4.toNatClampNeg)] h2 (fun r4 h5 => ∃ x6 : Int32, r4 = some (aI x6) ∧ (P (some (aI x6)) h5)))))) ∧ ((l3 = 4) → (P (some (aI l4)) h2))))))))))) : V true mX10_pay (d + 3) bc bs 72 [(0, aR 26 0), (3, aI l3), (4, aI l4)] [] h P := by
  refine V_iload 4 dX10_pay_72 rfl ?_
  refine V_aload_n 0 dX10_pay_74 rfl rfl ?_
  refine GI_26_24 dX10_pay_75 lkX10_137 ?_
  refine V_icmp_ge 140 dX10_pay_78 (by decide) ⟨fun z => ?_, fun z => ?_⟩
  · replace k := k.1 z
    refine V_iload_n 3 dX10_pay_140 rfl rfl ?_
    refine V_iconst 4 dX10_pay_141 (by decide) ?_
    refine V_icmp_ne 149 dX10_pay_142 (by decide) ⟨fun z => ?_, fun z => ?_⟩
    · replace k := k.1 z
      refine V_iconst 0 dX10_pay_149 (by decide) ?_
      exact V_ireturn dX10_pay_150 rfl k
    · replace k := k.2 z
      refine V_iconst (-1) dX10_pay_145 (by decide) ?_
      refine V_goto 150 dX10_pay_146 (by decide) ?_
      exact V_ireturn dX10_pay_150 rfl k
  · replace k := k.2 z
    refine V_aload_n 0 dX10_pay_81 rfl rfl ?_
    refine V_aload_n 0 dX10_pay_82 rfl rfl ?_
    refine GS_26_28 dX10_pay_83 lkX10_71 ?_
    refine V_iload 4 dX10_pay_86 rfl ?_
    refine V_iald (by decide) rt_47 dX10_pay_88 k.1 ?_
    replace k := k.2
    refine V_aload_n 0 dX10_pay_89 rfl rfl ?_
    refine GS_26_27 dX10_pay_90 lkX10_68 ?_
    refine V_iload 4 dX10_pay_93 rfl ?_
    refine V_iconst 1 dX10_pay_95 (by decide) ?_
    refine V_iadd dX10_pay_96 ?_
    refine V_iald (by decide) rt_46 dX10_pay_97 k.1 ?_
    replace k := k.2
    refine V_callV (mc := 0) (ms := 0) (as := [aI (gI h 47 0 l4.toNatClampNeg), aI (gI h 46 0 (l4 + 1).toNatClampNeg)]) (st := []) (by decide) rt_26 rfl dX10_pay_98 okX10_worked inX10_worked seX10_worked lkX10_273 rfl (Nat.le_of_ble_eq_true rfl) (Nat.zero_le _) (Nat.zero_le _) (Cl.mono (fun r1 h2 z => ?_) k)
    obtain ⟨x3, rfl, k⟩ := z
    refine V_iconst 1 dX10_pay_101 (by decide) ?_
    refine V_icmp_ne 134 dX10_pay_102 (by decide) ⟨fun z => ?_, fun z => ?_⟩
    · replace k := k.1 z
      refine V_iinc 4 (v := l4 + 1) dX10_pay_134 rfl rfl (by decide) rfl ?_
      refine V_goto 72 dX10_pay_137 (by decide) ?_
      exact V_lv [1, 2, 0] rfl k
    · replace k := k.2 z
      refine V_iload_n 3 dX10_pay_105 rfl rfl ?_
      refine V_iconst 4 dX10_pay_106 (by decide) ?_
      refine V_icmp_ne 115 dX10_pay_107 (by decide) ⟨fun z => ?_, fun z => ?_⟩
      · replace k := k.1 z
        refine V_aload_n 0 dX10_pay_115 rfl rfl ?_
        refine V_aload_n 0 dX10_pay_116 rfl rfl ?_
        refine GS_26_27 dX10_pay_117 lkX10_68 ?_
        refine V_iload 4 dX10_pay_120 rfl ?_
        refine V_iald (by decide) rt_46 dX10_pay_122 k.1 ?_
        replace k := k.2
        refine V_aload_n 0 dX10_pay_123 rfl rfl ?_
        refine GS_26_28 dX10_pay_124 lkX10_71 ?_
        refine V_iload 4 dX10_pay_127 rfl ?_
        refine V_iald (by decide) rt_47 dX10_pay_129 k.1 ?_
        replace k := k.2
        refine V_callV (mc := 0) (ms := 0) (as := [aI (gI h2 46 0 l4.toNatClampNeg), aI (gI h2 47 0 l4.toNatClampNeg)]) (st := []) (by decide) rt_26 rfl dX10_pay_130 okX10_worked inX10_worked seX10_worked lkX10_273 rfl (Nat.le_of_ble_eq_true rfl) (Nat.zero_le _) (Nat.zero_le _) (Cl.mono (fun r4 h5 z => ?_) k)
        obtain ⟨x6, rfl, k⟩ := z
        exact V_ireturn dX10_pay_133 rfl k
      · replace k := k.2 z
        refine V_iload 4 dX10_pay_110 rfl ?_
        refine V_goto 133 dX10_pay_112 (by decide) ?_
        exact V_ireturn dX10_pay_133 rfl k
-- X10_statement cuts [39]
set_option maxRecDepth 20000 in
set_option maxHeartbeats 2000000 in
theorem wX10_statement {d bc bs : Nat} {h : HS} {P : Option AV → HS → Prop} {l1 : Int32} {l2 : Int32} {l3 : Int32} (k : ((¬ (inR l1 0 9)) → (P (some (aI (-1000001))) h)) ∧ (((inR l1 0 9)) → (((¬ (inR l2 0 12)) → (P (some (aI (-1000001))) h)) ∧ (((inR l2 0 12)) → ((((inR l3 0 (gI h 26 0 0))) → (V true mX10_statement (d + 3) bc bs 39 [(0, aR 26 0), (1, aI l1), (2, aI l2), (3, aI l3), (4, aI 0), (5, aI 0)] [] h P)) ∧ ((¬ (inR l3 0 (gI h 26 0 0))) → (P (some (aI (-1000001))) h))))))) : Cl true mX10_statement (d + 3) bc bs [aR 26 0, aI l1, aI l2, aI l3] h P := by
  refine Cl_of (by decide) (Nat.le_of_ble_eq_true rfl) ?_
  show V true mX10_statement (d + 3) bc bs 0 [(0, aR 26 0), (1, aI l1), (2, aI l2), (3, aI l3)] [] h P
  refine V_iload_n 1 dX10_statement_0 rfl rfl ?_
  refine V_iconst 0 dX10_statement_1 (by decide) ?_
  refine V_bipush 9 dX10_statement_2 (by decide) ?_
  refine V_callS (mc := 0) (ms := 0) (as := [aI l1, aI 0, aI 9]) (st := []) dX10_statement_4 okX10_isIn stX10_isIn lkX10_111 rfl (Nat.le_of_ble_eq_true rfl) (Nat.zero_le _) (Nat.zero_le _) (cX10_isIn_ ?_)
  show V true mX10_statement (d + 3) bc bs 7 [(0, aR 26 0), (1, aI l1), (2, aI l2), (3, aI l3)] [aI (bI (inR l1 0 9))] h P
  refine V_if_eq 29 dX10_statement_7 (by decide) ⟨fun z => ?_, fun z => ?_⟩
  · replace k := k.1 (bI_0 z)
    refine V_ldc_w (-1000001) dX10_statement_29 lkX10_268 ?_
    exact V_ireturn dX10_statement_32 rfl k
  · replace k := k.2 (bI_1 z)
    refine V_iload_n 2 dX10_statement_10 rfl rfl ?_
    refine V_callS (mc := 0) (ms := 0) (as := [aI l2]) (st := []) dX10_statement_11 okX10_isMonth stX10_isMonth lkX10_265 rfl (Nat.le_of_ble_eq_true rfl) (Nat.zero_le _) (Nat.zero_le _) (cX10_isMonth_ ?_)
    show V true mX10_statement (d + 3) bc bs 14 [(0, aR 26 0), (1, aI l1), (2, aI l2), (3, aI l3)] [aI (bI (inR l2 0 12))] h P
    refine V_if_eq 29 dX10_statement_14 (by decide) ⟨fun z => ?_, fun z => ?_⟩
    · replace k := k.1 (bI_0 z)
      refine V_ldc_w (-1000001) dX10_statement_29 lkX10_268 ?_
      exact V_ireturn dX10_statement_32 rfl k
    · replace k := k.2 (bI_1 z)
      refine V_iload_n 3 dX10_statement_17 rfl rfl ?_
      refine V_iconst 0 dX10_statement_18 (by decide) ?_
      refine V_aload_n 0 dX10_statement_19 rfl rfl ?_
      refine GI_26_0 dX10_statement_20 lkX10_119 ?_
      refine V_callS (mc := 0) (ms := 0) (as := [aI l3, aI 0, aI (gI h 26 0 0)]) (st := []) dX10_statement_23 okX10_isIn stX10_isIn lkX10_111 rfl (Nat.le_of_ble_eq_true rfl) (Nat.zero_le _) (Nat.zero_le _) (cX10_isIn_ ?_)
      show V true mX10_statement (d + 3) bc bs 26 [(0, aR 26 0), (1, aI l1), (2, aI l2), (3, aI l3)] [aI (bI (inR l3 0 (gI h 26 0 0)))] h P
      refine V_if_ne 33 dX10_statement_26 (by decide) ⟨fun z => ?_, fun z => ?_⟩
      · replace k := k.1 (bI_1 z)
        refine V_iconst 0 dX10_statement_33 (by decide) ?_
        refine V_istore 4 dX10_statement_34 (by decide) rfl ?_
        refine V_iconst 0 dX10_statement_36 (by decide) ?_
        refine V_istore 5 dX10_statement_37 (by decide) rfl ?_
        exact V_lv [2, 3, 4, 5, 1, 0] rfl k
      · replace k := k.2 (bI_0 z)
        refine V_ldc_w (-1000001) dX10_statement_29 lkX10_268 ?_
        exact V_ireturn dX10_statement_32 rfl k
set_option maxRecDepth 20000 in
set_option maxHeartbeats 2000000 in
theorem wX10_statement_39 {d bc bs : Nat} {h : HS} {P : Option AV → HS → Prop} {l1 : Int32} {l2 : Int32} {l3 : Int32} {l4 : Int32} {l5 : Int32} (k : (((gI h 26 0 2) ≤ l5) → (P (some (aI l4)) h)) ∧ ((¬ (gI h 26 0 2) ≤ l5) → (vp_in l5 120 ∧ (((¬ (gI h 34 0 l5.toNatClampNeg) = l1) → (V true mX10_statement (d + 3) bc bs 39 [(0, aR 26 0), (1, aI l1), (2, aI l2), (3, aI l3), (4, aI l4), (5, aI (l5 + 1))] [] h P)) ∧ (((gI h 34 0 l5.toNatClampNeg) = l1) → (vp_in l5 120 ∧ (((l3 < (gI h 39 0 l5.toNatClampNeg)) → (V true mX10_statement (d + 3) bc bs 39 [(0, aR 26 0), (1, aI l1), (2, aI l2), (3, aI l3), (4, aI l4), (5, aI (l5 + 1))] [] h P)) ∧ ((¬ l3 < (gI h 39 0 l5.toNatClampNeg)) → (vp_in l5 120 ∧ (((¬ (gI h 40 0 l5.toNatClampNeg) = (-1)) → (vp_in l5 120 ∧ (((¬ (isOfP (gI h 40 0 l5.toNatClampNeg) l2)) → (vp_in l5 120 ∧ (((¬ (isOfP (gI h 41 0 l5.toNatClampNeg) l2)) → (V true mX10_statement (d + 3) bc bs 39 [(0, aR 26 0), (1, aI l1), (2, aI l2), (3, aI l3), (4, aI l4), (5, aI (l5 + 1))] [] h P)) ∧ (((isOfP (gI h 41 0 l5.toNatClampNeg) l2)) → (vp_in l5 120 ∧ (((l3 < (gI h 41 0 l5.toNatClampNeg)) → (V true mX10_statement (d + 3) bc bs 39 [(0, aR 26 0), (1, aI l1), (2, aI l2), (3, aI l3), (4, aI l4), (5, aI (l5 + 1))] [] h P)) ∧ ((¬ l3 < (gI h 41 0 l5.toNatClampNeg)) → (vp_in l5 120 ∧ (V true mX10_statement (d + 3) bc bs 39 [(0, aR 26 0), (1, aI l1), (2, aI l2), (3, aI l3), (4, aI (l4 - (gI h 43 0 l5.toNatClampNeg))), (5, aI (l5 + 1))] [] h P))))))))) ∧ (((isOfP (gI h 40 0 l5.toNatClampNeg) l2)) → (vp_in l5 120 ∧ (((l3 < (gI h 40 0 l5.toNatClampNeg)) → (vp_in l5 120 ∧ (((¬ (isOfP (gI h 41 0 l5.toNatClampNeg) l2)) → (V true mX10_statement (d + 3) bc bs 39 [(0, aR 26 0), (1, aI l1), (2, aI l2), (3, aI l3), (4, aI l4), (5, aI (l5 + 1))] [] h P)) ∧ (((isOfP (gI h 41 0 l5.toNatClampNeg) l2)) → (vp_in l5 120 ∧ (((l3 < (gI h 41 0 l5.toNatClampNeg)) → (V true mX10_statement (d + 3) bc bs 39 [(0, aR 26 0), (1, aI l1), (2, aI l2), (3, aI l3), (4, aI l4), (5, aI (l5 + 1))] [] h P)) ∧ ((¬ l3 < (gI h 41 0 l5.toNatClampNeg)) → (vp_in l5 120 ∧ (V true mX10_statement (d + 3) bc bs 39 [(0, aR 26 0), (1, aI l1), (2, aI l2), (3, aI l3), (4, aI (l4 - (gI h 43 0 l5.toNatClampNeg))), (5, aI (l5 + 1))] [] h P))))))))) ∧ ((¬ l3 < (gI h 40 0 l5.toNatClampNeg)) → (vp_in l5 120 ∧ (vp_in l5 120 ∧ (((¬ (isOfP (gI h 41 0 l5.toNatClampNeg) l2)) → (V true mX10_statement (d + 3) bc bs 39 [(0, aR 26 0), (1, aI l1), (2, aI l2), (3, aI l3), (4, aI (l4 + (gI h 43 0 l5.toNatClampNeg))), (5, aI (l5 + 1))] [] h P)) ∧ (((isOfP (gI h 41 0 l5.toNatClampNeg) l2)) → (vp_in l5 120 ∧ (((l3 < (gI h 41 0 l5.toNatClampNeg)) → (V true mX10_statement (d + 3) bc bs 39 [(0, aR 26 0), (1, aI l1), (2, aI l2), (3, aI l3), (4, aI (l4 + (gI h 43 0 l5.toNatClampNeg))), (5, aI (l5 + 1))] [] h P)) ∧ ((¬ l3 < (gI h 41 0 l5.toNatClampNeg)) → (vp_in l5 120 ∧ (V true mX10_statement (d + 3) bc bs 39 [(0, aR 26 0), (1, aI l1), (2, aI l2), (3, aI l3), (4, aI ((l4 + (gI h 43 0 l5.toNatClampNeg)) - (gI h 43 0 l5.toNatClampNeg))), (5, aI (l5 + 1))] [] h P)))))))))))))))) ∧ (((gI h 40 0 l5.toNatClampNeg) = (-1)) → (V true mX10_statement (d + 3) bc bs 39 [(0, aR 26 0), (1, aI l1), (2, aI l2), (3, aI l3), (4, aI l4), (5, aI (l5 + 1))] [] h P)))))))))))) : V true mX10_statement (d + 3) bc bs 39 [(0, aR 26 0), (1, aI l1), (2, aI l2), (3, aI l3), (4, aI l4), (5, aI l5)] [] h P := by
  refine V_iload 5 dX10_statement_39 rfl ?_
  refine V_aload_n 0 dX10_statement_41 rfl rfl ?_
  refine GI_26_2 dX10_statement_42 lkX10_125 ?_
  refine V_icmp_ge 164 dX10_statement_45 (by decide) ⟨fun z => ?_, fun z => ?_⟩
  · replace k := k.1 z
    refine V_iload 4 dX10_statement_164 rfl ?_
    exact V_ireturn dX10_statement_166 rfl k
  · replace k := k.2 z
    refine V_aload_n 0 dX10_statement_48 rfl rfl ?_
    refine GS_26_10 dX10_statement_49 lkX10_31 ?_
    refine V_iload 5 dX10_statement_52 rfl ?_
    refine V_iald (by decide) rt_34 dX10_statement_54 k.1 ?_
    replace k := k.2
    refine V_iload_n 1 dX10_statement_55 rfl rfl ?_
    refine V_icmp_ne 158 dX10_statement_56 (by decide) ⟨fun z => ?_, fun z => ?_⟩
    · replace k := k.1 z
      refine V_iinc 5 (v := l5 + 1) dX10_statement_158 rfl rfl (by decide) rfl ?_
      refine V_goto 39 dX10_statement_161 (by decide) ?_
      exact V_lv [1, 2, 3, 4, 5, 0] rfl k
    · replace k := k.2 z
      refine V_aload_n 0 dX10_statement_59 rfl rfl ?_
      refine GS_26_15 dX10_statement_60 lkX10_46 ?_
      refine V_iload 5 dX10_statement_63 rfl ?_
      refine V_iald (by decide) rt_39 dX10_statement_65 k.1 ?_
      replace k := k.2
      refine V_iload_n 3 dX10_statement_66 rfl rfl ?_
      refine V_icmp_gt 158 dX10_statement_67 (by decide) ⟨fun z => ?_, fun z => ?_⟩
      · replace k := k.1 z
        refine V_iinc 5 (v := l5 + 1) dX10_statement_158 rfl rfl (by decide) rfl ?_
        refine V_goto 39 dX10_statement_161 (by decide) ?_
        exact V_lv [1, 2, 3, 4, 5, 0] rfl k
      · replace k := k.2 z
        refine V_aload_n 0 dX10_statement_70 rfl rfl ?_
        refine GS_26_16 dX10_statement_71 lkX10_49 ?_
        refine V_iload 5 dX10_statement_74 rfl ?_
        refine V_iald (by decide) rt_40 dX10_statement_76 k.1 ?_
        replace k := k.2
        refine V_iconst (-1) dX10_statement_77 (by decide) ?_
        refine V_icmp_ne 84 dX10_statement_78 (by decide) ⟨fun z => ?_, fun z => ?_⟩
        · replace k := k.1 z
          refine V_aload_n 0 dX10_statement_84 rfl rfl ?_
          refine GS_26_16 dX10_statement_85 lkX10_49 ?_
          refine V_iload 5 dX10_statement_88 rfl ?_
          refine V_iald (by decide) rt_40 dX10_statement_90 k.1 ?_
          replace k := k.2
          refine V_iload_n 2 dX10_statement_91 rfl rfl ?_
          refine V_callS (mc := 0) (ms := 0) (as := [aI (gI h 40 0 l5.toNatClampNeg), aI l2]) (st := []) dX10_statement_92 okX10_isOf stX10_isOf lkX10_257 rfl (Nat.le_of_ble_eq_true rfl) (Nat.zero_le _) (Nat.zero_le _) (cX10_isOf_ ?_)
          show V true mX10_statement (d + 3) bc bs 95 [(0, aR 26 0), (1, aI l1), (2, aI l2), (3, aI l3), (4, aI l4), (5, aI l5)] [aI (bI (isOfP (gI h 40 0 l5.toNatClampNeg) l2))] h P
          refine V_if_eq 121 dX10_statement_95 (by decide) ⟨fun z => ?_, fun z => ?_⟩
          · replace k := k.1 (bI_0 z)
            refine V_aload_n 0 dX10_statement_121 rfl rfl ?_
            refine GS_26_17 dX10_statement_122 lkX10_52 ?_
            refine V_iload 5 dX10_statement_125 rfl ?_
            refine V_iald (by decide) rt_41 dX10_statement_127 k.1 ?_
            replace k := k.2
            refine V_iload_n 2 dX10_statement_128 rfl rfl ?_
            refine V_callS (mc := 0) (ms := 0) (as := [aI (gI h 41 0 l5.toNatClampNeg), aI l2]) (st := []) dX10_statement_129 okX10_isOf stX10_isOf lkX10_257 rfl (Nat.le_of_ble_eq_true rfl) (Nat.zero_le _) (Nat.zero_le _) (cX10_isOf_ ?_)
            show V true mX10_statement (d + 3) bc bs 132 [(0, aR 26 0), (1, aI l1), (2, aI l2), (3, aI l3), (4, aI l4), (5, aI l5)] [aI (bI (isOfP (gI h 41 0 l5.toNatClampNeg) l2))] h P
            refine V_if_eq 158 dX10_statement_132 (by decide) ⟨fun z => ?_, fun z => ?_⟩
            · replace k := k.1 (bI_0 z)
              refine V_iinc 5 (v := l5 + 1) dX10_statement_158 rfl rfl (by decide) rfl ?_
              refine V_goto 39 dX10_statement_161 (by decide) ?_
              exact V_lv [1, 2, 3, 4, 5, 0] rfl k
            · replace k := k.2 (bI_1 z)
              refine V_aload_n 0 dX10_statement_135 rfl rfl ?_
              refine GS_26_17 dX10_statement_136 lkX10_52 ?_
              refine V_iload 5 dX10_statement_139 rfl ?_
              refine V_iald (by decide) rt_41 dX10_statement_141 k.1 ?_
              replace k := k.2
              refine V_iload_n 3 dX10_statement_142 rfl rfl ?_
              refine V_icmp_gt 158 dX10_statement_143 (by decide) ⟨fun z => ?_, fun z => ?_⟩
              · replace k := k.1 z
                refine V_iinc 5 (v := l5 + 1) dX10_statement_158 rfl rfl (by decide) rfl ?_
                refine V_goto 39 dX10_statement_161 (by decide) ?_
                exact V_lv [1, 2, 3, 4, 5, 0] rfl k
              · replace k := k.2 z
                refine V_iload 4 dX10_statement_146 rfl ?_
                refine V_aload_n 0 dX10_statement_148 rfl rfl ?_
                refine GS_26_19 dX10_statement_149 lkX10_58 ?_
                refine V_iload 5 dX10_statement_152 rfl ?_
                refine V_iald (by decide) rt_43 dX10_statement_154 k.1 ?_
                replace k := k.2
                refine V_isub dX10_statement_155 ?_
                refine V_istore 4 dX10_statement_156 (by decide) rfl ?_
                refine V_iinc 5 (v := l5 + 1) dX10_statement_158 rfl rfl (by decide) rfl ?_
                refine V_goto 39 dX10_statement_161 (by decide) ?_
                exact V_lv [2, 3, 4, 5, 1, 0] rfl k
          · replace k := k.2 (bI_1 z)
            refine V_aload_n 0 dX10_statement_98 rfl rfl ?_
            refine GS_26_16 dX10_statement_99 lkX10_49 ?_
            refine V_iload 5 dX10_statement_102 rfl ?_
            refine V_iald (by decide) rt_40 dX10_statement_104 k.1 ?_
            replace k := k.2
            refine V_iload_n 3 dX10_statement_105 rfl rfl ?_
            refine V_icmp_gt 121 dX10_statement_106 (by decide) ⟨fun z => ?_, fun z => ?_⟩
            · replace k := k.1 z
              refine V_aload_n 0 dX10_statement_121 rfl rfl ?_
              refine GS_26_17 dX10_statement_122 lkX10_52 ?_
              refine V_iload 5 dX10_statement_125 rfl ?_
              refine V_iald (by decide) rt_41 dX10_statement_127 k.1 ?_
              replace k := k.2
              refine V_iload_n 2 dX10_statement_128 rfl rfl ?_
              refine V_callS (mc := 0) (ms := 0) (as := [aI (gI h 41 0 l5.toNatClampNeg), aI l2]) (st := []) dX10_statement_129 okX10_isOf stX10_isOf lkX10_257 rfl (Nat.le_of_ble_eq_true rfl) (Nat.zero_le _) (Nat.zero_le _) (cX10_isOf_ ?_)
              show V true mX10_statement (d + 3) bc bs 132 [(0, aR 26 0), (1, aI l1), (2, aI l2), (3, aI l3), (4, aI l4), (5, aI l5)] [aI (bI (isOfP (gI h 41 0 l5.toNatClampNeg) l2))] h P
              refine V_if_eq 158 dX10_statement_132 (by decide) ⟨fun z => ?_, fun z => ?_⟩
              · replace k := k.1 (bI_0 z)
                refine V_iinc 5 (v := l5 + 1) dX10_statement_158 rfl rfl (by decide) rfl ?_
                refine V_goto 39 dX10_statement_161 (by decide) ?_
                exact V_lv [1, 2, 3, 4, 5, 0] rfl k
              · replace k := k.2 (bI_1 z)
                refine V_aload_n 0 dX10_statement_135 rfl rfl ?_
                refine GS_26_17 dX10_statement_136 lkX10_52 ?_
                refine V_iload 5 dX10_statement_139 rfl ?_
                refine V_iald (by decide) rt_41 dX10_statement_141 k.1 ?_
                replace k := k.2
                refine V_iload_n 3 dX10_statement_142 rfl rfl ?_
                refine V_icmp_gt 158 dX10_statement_143 (by decide) ⟨fun z => ?_, fun z => ?_⟩
                · replace k := k.1 z
                  refine V_iinc 5 (v := l5 + 1) dX10_statement_158 rfl rfl (by decide) rfl ?_
                  refine V_goto 39 dX10_statement_161 (by decide) ?_
                  exact V_lv [1, 2, 3, 4, 5, 0] rfl k
                · replace k := k.2 z
                  refine V_iload 4 dX10_statement_146 rfl ?_
                  refine V_aload_n 0 dX10_statement_148 rfl rfl ?_
                  refine GS_26_19 dX10_statement_149 lkX10_58 ?_
                  refine V_iload 5 dX10_statement_152 rfl ?_
                  refine V_iald (by decide) rt_43 dX10_statement_154 k.1 ?_
                  replace k := k.2
                  refine V_isub dX10_statement_155 ?_
                  refine V_istore 4 dX10_statement_156 (by decide) rfl ?_
                  refine V_iinc 5 (v := l5 + 1) dX10_statement_158 rfl rfl (by decide) rfl ?_
                  refine V_goto 39 dX10_statement_161 (by decide) ?_
                  exact V_lv [2, 3, 4, 5, 1, 0] rfl k
            · replace k := k.2 z
              refine V_iload 4 dX10_statement_109 rfl ?_
              refine V_aload_n 0 dX10_statement_111 rfl rfl ?_
              refine GS_26_19 dX10_statement_112 lkX10_58 ?_
              refine V_iload 5 dX10_statement_115 rfl ?_
              refine V_iald (by decide) rt_43 dX10_statement_117 k.1 ?_
              replace k := k.2
              refine V_iadd dX10_statement_118 ?_
              refine V_istore 4 dX10_statement_119 (by decide) rfl ?_
              refine V_aload_n 0 dX10_statement_121 rfl rfl ?_
              refine GS_26_17 dX10_statement_122 lkX10_52 ?_
              refine V_iload 5 dX10_statement_125 rfl ?_
              refine V_iald (by decide) rt_41 dX10_statement_127 k.1 ?_
              replace k := k.2
              refine V_iload_n 2 dX10_statement_128 rfl rfl ?_
              refine V_callS (mc := 0) (ms := 0) (as := [aI (gI h 41 0 l5.toNatClampNeg), aI l2]) (st := []) dX10_statement_129 okX10_isOf stX10_isOf lkX10_257 rfl (Nat.le_of_ble_eq_true rfl) (Nat.zero_le _) (Nat.zero_le _) (cX10_isOf_ ?_)
              show V true mX10_statement (d + 3) bc bs 132 [(4, aI (l4 + (gI h 43 0 l5.toNatClampNeg))), (0, aR 26 0), (1, aI l1), (2, aI l2), (3, aI l3), (5, aI l5)] [aI (bI (isOfP (gI h 41 0 l5.toNatClampNeg) l2))] h P
              refine V_if_eq 158 dX10_statement_132 (by decide) ⟨fun z => ?_, fun z => ?_⟩
              · replace k := k.1 (bI_0 z)
                refine V_iinc 5 (v := l5 + 1) dX10_statement_158 rfl rfl (by decide) rfl ?_
                refine V_goto 39 dX10_statement_161 (by decide) ?_
                exact V_lv [2, 3, 4, 5, 1, 0] rfl k
              · replace k := k.2 (bI_1 z)
                refine V_aload_n 0 dX10_statement_135 rfl rfl ?_
                refine GS_26_17 dX10_statement_136 lkX10_52 ?_
                refine V_iload 5 dX10_statement_139 rfl ?_
                refine V_iald (by decide) rt_41 dX10_statement_141 k.1 ?_
                replace k := k.2
                refine V_iload_n 3 dX10_statement_142 rfl rfl ?_
                refine V_icmp_gt 158 dX10_statement_143 (by decide) ⟨fun z => ?_, fun z => ?_⟩
                · replace k := k.1 z
                  refine V_iinc 5 (v := l5 + 1) dX10_statement_158 rfl rfl (by decide) rfl ?_
                  refine V_goto 39 dX10_statement_161 (by decide) ?_
                  exact V_lv [2, 3, 4, 5, 1, 0] rfl k
                · replace k := k.2 z
                  refine V_iload 4 dX10_statement_146 rfl ?_
                  refine V_aload_n 0 dX10_statement_148 rfl rfl ?_
                  refine GS_26_19 dX10_statement_149 lkX10_58 ?_
                  refine V_iload 5 dX10_statement_152 rfl ?_
                  refine V_iald (by decide) rt_43 dX10_statement_154 k.1 ?_
                  replace k := k.2
                  refine V_isub dX10_statement_155 ?_
                  refine V_istore 4 dX10_statement_156 (by decide) rfl ?_
                  refine V_iinc 5 (v := l5 + 1) dX10_statement_158 rfl rfl (by decide) rfl ?_
                  refine V_goto 39 dX10_statement_161 (by decide) ?_
                  exact V_lv [2, 3, 4, 5, 1, 0] rfl k
        · replace k := k.2 z
          refine V_goto 158 dX10_statement_81 (by decide) ?_
          refine V_iinc 5 (v := l5 + 1) dX10_statement_158 rfl rfl (by decide) rfl ?_
          refine V_goto 39 dX10_statement_161 (by decide) ?_
          exact V_lv [1, 2, 3, 4, 5, 0] rfl k
-- X10_count cuts []
set_option maxRecDepth 20000 in
set_option maxHeartbeats 2000000 in
theorem wX10_count {d bc bs : Nat} {h : HS} {P : Option AV → HS → Prop} {l1 : Int32} {l2 : Int32} (k : ((¬ (inR l1 0 (gI h 26 0 1 - 1))) → (P (some (aI (-1000001))) h)) ∧ (((inR l1 0 (gI h 26 0 1 - 1))) → ((((inR l2 0 9999)) → (vp_in l1 12 ∧ (vp_in l1 12 ∧ (vp_in l1 12 ∧ (vp_in ((364 * l1) + (gI h 26 0 0)) 4368 ∧ (vp_in l1 12 ∧ (P (some (aI ((gI h 28 0 l1.toNatClampNeg) - l2))) (sI (sI h 28 0 l1.toNatClampNeg l2) 30 0 l1.toNatClampNeg ((gI h 30 0 l1.toNatClampNeg) + (((gI h 28 0 l1.toNatClampNeg) - l2) * (gI h 27 0 ((364 * l1) + (gI h 26 0 0)).toNatClampNeg))))))))))) ∧ ((¬ (inR l2 0 9999)) → (P (some (aI (-1000001))) h))))) : Cl true mX10_count (d + 3) bc bs [aR 26 0, aI l1, aI l2] h P := by
  refine Cl_of (by decide) (Nat.le_of_ble_eq_true rfl) ?_
  show V true mX10_count (d + 3) bc bs 0 [(0, aR 26 0), (1, aI l1), (2, aI l2)] [] h P
  refine V_aload_n 0 dX10_count_0 rfl rfl ?_
  refine V_iload_n 1 dX10_count_1 rfl rfl ?_
  refine V_callV (mc := 0) (ms := 0) (as := [aI l1]) (st := []) (by decide) rt_26 rfl dX10_count_2 okX10_isThing inX10_isThing seX10_isThing lkX10_122 rfl (Nat.le_of_ble_eq_true rfl) (Nat.zero_le _) (Nat.zero_le _) (cX10_isThing_ ?_)
  show V true mX10_count (d + 3) bc bs 5 [(0, aR 26 0), (1, aI l1), (2, aI l2)] [aI (bI (inR l1 0 (gI h 26 0 1 - 1)))] h P
  refine V_if_eq 19 dX10_count_5 (by decide) ⟨fun z => ?_, fun z => ?_⟩
  · replace k := k.1 (bI_0 z)
    refine V_ldc_w (-1000001) dX10_count_19 lkX10_268 ?_
    exact V_ireturn dX10_count_22 rfl k
  · replace k := k.2 (bI_1 z)
    refine V_iload_n 2 dX10_count_8 rfl rfl ?_
    refine V_iconst 0 dX10_count_9 (by decide) ?_
    refine V_sipush 9999 dX10_count_10 (by decide) ?_
    refine V_callS (mc := 0) (ms := 0) (as := [aI l2, aI 0, aI 9999]) (st := []) dX10_count_13 okX10_isIn stX10_isIn lkX10_111 rfl (Nat.le_of_ble_eq_true rfl) (Nat.zero_le _) (Nat.zero_le _) (cX10_isIn_ ?_)
    show V true mX10_count (d + 3) bc bs 16 [(0, aR 26 0), (1, aI l1), (2, aI l2)] [aI (bI (inR l2 0 9999))] h P
    refine V_if_ne 23 dX10_count_16 (by decide) ⟨fun z => ?_, fun z => ?_⟩
    · replace k := k.1 (bI_1 z)
      refine V_aload_n 0 dX10_count_23 rfl rfl ?_
      refine GS_26_4 dX10_count_24 lkX10_13 ?_
      refine V_iload_n 1 dX10_count_27 rfl rfl ?_
      refine V_iald (by decide) rt_28 dX10_count_28 k.1 ?_
      replace k := k.2
      refine V_iload_n 2 dX10_count_29 rfl rfl ?_
      refine V_isub dX10_count_30 ?_
      refine V_istore_n 3 dX10_count_31 rfl (by decide) rfl ?_
      refine V_aload_n 0 dX10_count_32 rfl rfl ?_
      refine GS_26_4 dX10_count_33 lkX10_13 ?_
      refine V_iload_n 1 dX10_count_36 rfl rfl ?_
      refine V_iload_n 2 dX10_count_37 rfl rfl ?_
      refine V_iast (by decide) rt_28 dX10_count_38 k.1 ?_
      replace k := k.2
      refine V_aload_n 0 dX10_count_39 rfl rfl ?_
      refine GS_26_6 dX10_count_40 lkX10_19 ?_
      refine V_iload_n 1 dX10_count_43 rfl rfl ?_
      refine V_dup2 dX10_count_44 rfl rfl ?_
      refine V_iald (by decide) rt_30 dX10_count_45 k.1 ?_
      replace k := k.2
      refine V_re (y := gI h 30 0 l1.toNatClampNeg) rfl ?_
      refine V_iload_n 3 dX10_count_46 rfl rfl ?_
      refine V_aload_n 0 dX10_count_47 rfl rfl ?_
      refine GS_26_3 dX10_count_48 lkX10_7 ?_
      refine V_sipush 364 dX10_count_51 (by decide) ?_
      refine V_iload_n 1 dX10_count_54 rfl rfl ?_
      refine V_imul dX10_count_55 ?_
      refine V_aload_n 0 dX10_count_56 rfl rfl ?_
      refine GI_26_0 dX10_count_57 lkX10_119 ?_
      refine V_re (y := gI h 26 0 0) rfl ?_
      refine V_iadd dX10_count_60 ?_
      refine V_iald (by decide) rt_27 dX10_count_61 k.1 ?_
      replace k := k.2
      refine V_re (y := gI h 27 0 ((364 * l1) + (gI h 26 0 0)).toNatClampNeg) rfl ?_
      refine V_imul dX10_count_62 ?_
      refine V_iadd dX10_count_63 ?_
      refine V_iast (by decide) rt_30 dX10_count_64 k.1 ?_
      replace k := k.2
      refine V_iload_n 3 dX10_count_65 rfl rfl ?_
      exact V_ireturn dX10_count_66 rfl k
    · replace k := k.2 (bI_0 z)
      refine V_ldc_w (-1000001) dX10_count_19 lkX10_268 ?_
      exact V_ireturn dX10_count_22 rfl k
-- X10_level cuts []
set_option maxRecDepth 20000 in
set_option maxHeartbeats 2000000 in
theorem wX10_level {d bc bs : Nat} {h : HS} {P : Option AV → HS → Prop} {l1 : Int32} {l2 : Int32} {l3 : Int32} (k : ((¬ (inR l1 0 3)) → (P (some (aI 0)) h)) ∧ (((inR l1 0 3)) → (((¬ (inR l2 0 999)) → (P (some (aI 0)) h)) ∧ (((inR l2 0 999)) → ((((inR l3 0 99)) → (vp_in l1 4 ∧ (vp_in l1 4 ∧ (P (some (aI 1)) (sI (sI h 54 0 l1.toNatClampNeg l2) 55 0 l1.toNatClampNeg l3))))) ∧ ((¬ (inR l3 0 99)) → (P (some (aI 0)) h))))))) : Cl true mX10_level (d + 3) bc bs [aR 26 0, aI l1, aI l2, aI l3] h P := by
  refine Cl_of (by decide) (Nat.le_of_ble_eq_true rfl) ?_
  show V true mX10_level (d + 3) bc bs 0 [(0, aR 26 0), (1, aI l1), (2, aI l2), (3, aI l3)] [] h P
  refine V_iload_n 1 dX10_level_0 rfl rfl ?_
  refine V_iconst 0 dX10_level_1 (by decide) ?_
  refine V_iconst 3 dX10_level_2 (by decide) ?_
  refine V_callS (mc := 0) (ms := 0) (as := [aI l1, aI 0, aI 3]) (st := []) dX10_level_3 okX10_isIn stX10_isIn lkX10_111 rfl (Nat.le_of_ble_eq_true rfl) (Nat.zero_le _) (Nat.zero_le _) (cX10_isIn_ ?_)
  show V true mX10_level (d + 3) bc bs 6 [(0, aR 26 0), (1, aI l1), (2, aI l2), (3, aI l3)] [aI (bI (inR l1 0 3))] h P
  refine V_if_eq 30 dX10_level_6 (by decide) ⟨fun z => ?_, fun z => ?_⟩
  · replace k := k.1 (bI_0 z)
    refine V_iconst 0 dX10_level_30 (by decide) ?_
    exact V_zreturn dX10_level_31 rfl (by decide) k
  · replace k := k.2 (bI_1 z)
    refine V_iload_n 2 dX10_level_9 rfl rfl ?_
    refine V_iconst 0 dX10_level_10 (by decide) ?_
    refine V_sipush 999 dX10_level_11 (by decide) ?_
    refine V_callS (mc := 0) (ms := 0) (as := [aI l2, aI 0, aI 999]) (st := []) dX10_level_14 okX10_isIn stX10_isIn lkX10_111 rfl (Nat.le_of_ble_eq_true rfl) (Nat.zero_le _) (Nat.zero_le _) (cX10_isIn_ ?_)
    show V true mX10_level (d + 3) bc bs 17 [(0, aR 26 0), (1, aI l1), (2, aI l2), (3, aI l3)] [aI (bI (inR l2 0 999))] h P
    refine V_if_eq 30 dX10_level_17 (by decide) ⟨fun z => ?_, fun z => ?_⟩
    · replace k := k.1 (bI_0 z)
      refine V_iconst 0 dX10_level_30 (by decide) ?_
      exact V_zreturn dX10_level_31 rfl (by decide) k
    · replace k := k.2 (bI_1 z)
      refine V_iload_n 3 dX10_level_20 rfl rfl ?_
      refine V_iconst 0 dX10_level_21 (by decide) ?_
      refine V_bipush 99 dX10_level_22 (by decide) ?_
      refine V_callS (mc := 0) (ms := 0) (as := [aI l3, aI 0, aI 99]) (st := []) dX10_level_24 okX10_isIn stX10_isIn lkX10_111 rfl (Nat.le_of_ble_eq_true rfl) (Nat.zero_le _) (Nat.zero_le _) (cX10_isIn_ ?_)
      show V true mX10_level (d + 3) bc bs 27 [(0, aR 26 0), (1, aI l1), (2, aI l2), (3, aI l3)] [aI (bI (inR l3 0 99))] h P
      refine V_if_ne 32 dX10_level_27 (by decide) ⟨fun z => ?_, fun z => ?_⟩
      · replace k := k.1 (bI_1 z)
        refine V_aload_n 0 dX10_level_32 rfl rfl ?_
        refine GS_26_49 dX10_level_33 lkX10_96 ?_
        refine V_iload_n 1 dX10_level_36 rfl rfl ?_
        refine V_iload_n 2 dX10_level_37 rfl rfl ?_
        refine V_iast (by decide) rt_54 dX10_level_38 k.1 ?_
        replace k := k.2
        refine V_aload_n 0 dX10_level_39 rfl rfl ?_
        refine GS_26_50 dX10_level_40 lkX10_99 ?_
        refine V_iload_n 1 dX10_level_43 rfl rfl ?_
        refine V_iload_n 3 dX10_level_44 rfl rfl ?_
        refine V_iast (by decide) rt_55 dX10_level_45 k.1 ?_
        replace k := k.2
        refine V_iconst 1 dX10_level_46 (by decide) ?_
        exact V_zreturn dX10_level_47 rfl (by decide) k
      · replace k := k.2 (bI_0 z)
        refine V_iconst 0 dX10_level_30 (by decide) ?_
        exact V_zreturn dX10_level_31 rfl (by decide) k
-- X10_tries cuts [8, 103]
set_option maxRecDepth 20000 in
set_option maxHeartbeats 2000000 in
theorem wX10_tries {d bc bs : Nat} {h : HS} {P : Option AV → HS → Prop} {l1 : Int32} {l2 : Int32} (k : V true mX10_tries (d + 3) bc bs 8 [(0, aR 26 0), (1, aI l1), (3, aI l2), (4, aI 0), (5, aI 0)] [] h P) : Cl true mX10_tries (d + 3) bc bs [aR 26 0, aI l1, aI l2] h P := by
  refine Cl_of (by decide) (Nat.le_of_ble_eq_true rfl) ?_
  show V true mX10_tries (d + 3) bc bs 0 [(0, aR 26 0), (1, aI l1), (2, aI l2)] [] h P
  refine V_iload_n 2 dX10_tries_0 rfl rfl ?_
  refine V_istore_n 3 dX10_tries_1 rfl (by decide) rfl ?_
  refine V_iconst 0 dX10_tries_2 (by decide) ?_
  refine V_istore 4 dX10_tries_3 (by decide) rfl ?_
  refine V_iconst 0 dX10_tries_5 (by decide) ?_
  refine V_istore 5 dX10_tries_6 (by decide) rfl ?_
  exact V_lv [3, 4, 2, 1, 0] rfl k
set_option maxRecDepth 20000 in
set_option maxHeartbeats 2000000 in
theorem wX10_tries_8 {d bc bs : Nat} {h : HS} {P : Option AV → HS → Prop} {l1 : Int32} {l3 : Int32} {l4 : Int32} {l5 : Int32} (k : ((l1 ≤ l5) → ((((gI h 26 0 53) < l4) → (V true mX10_tries (d + 3) bc bs 103 [(0, aR 26 0), (1, aI l1), (5, aI 0)] [] (sI (sI h 26 0 53 l4) 26 0 54 l3) P)) ∧ ((¬ (gI h 26 0 53) < l4) → (P none h)))) ∧ ((¬ l1 ≤ l5) → (vp_in l5 8 ∧ (vp_in (gI h 56 0 l5.toNatClampNeg) 4 ∧ (((l3 ≤ (gI h 55 0 (gI h 56 0 l5.toNatClampNeg).toNatClampNeg)) → (vp_in l5 8 ∧ (vp_in (gI h 56 0 l5.toNatClampNeg) 4 ∧ (V true mX10_tries (d + 3) bc bs 8 [(0, aR 26 0), (1, aI l1), (3, aI (l3 - l3)), (4, aI (l4 + (l3 * (gI h 54 0 (gI h 56 0 l5.toNatClampNeg).toNatClampNeg)))), (5, aI (l5 + 1))] [] h P)))) ∧ ((¬ l3 ≤ (gI h 55 0 (gI h 56 0 l5.toNatClampNeg).toNatClampNeg)) → (vp_in l5 8 ∧ (vp_in (gI h 56 0 l5.toNatClampNeg) 4 ∧ (vp_in l5 8 ∧ (vp_in (gI h 56 0 l5.toNatClampNeg) 4 ∧ (V true mX10_tries (d + 3) bc bs 8 [(0, aR 26 0), (1, aI l1), (3, aI (l3 - (gI h 55 0 (gI h 56 0 l5.toNatClampNeg).toNatClampNeg))), (4, aI (l4 + ((gI h 55 0 (gI h 56 0 l5.toNatClampNeg).toNatClampNeg) * (gI h 54 0 (gI h 56 0 l5.toNatClampNeg).toNatClampNeg)))), (5, aI (l5 + 1))] [] h P))))))))))) : V true mX10_tries (d + 3) bc bs 8 [(0, aR 26 0), (1, aI l1), (3, aI l3), (4, aI l4), (5, aI l5)] [] h P := by
  refine V_iload 5 dX10_tries_8 rfl ?_
  refine V_iload_n 1 dX10_tries_10 rfl rfl ?_
  refine V_icmp_ge 79 dX10_tries_11 (by decide) ⟨fun z => ?_, fun z => ?_⟩
  · replace k := k.1 z
    refine V_iload 4 dX10_tries_79 rfl ?_
    refine V_aload_n 0 dX10_tries_81 rfl rfl ?_
    refine GI_26_53 dX10_tries_82 lkX10_277 ?_
    refine V_icmp_gt 89 dX10_tries_85 (by decide) ⟨fun z => ?_, fun z => ?_⟩
    · replace k := k.1 z
      refine V_aload_n 0 dX10_tries_89 rfl rfl ?_
      refine V_iload 4 dX10_tries_90 rfl ?_
      refine PI_26_53 dX10_tries_92 lkX10_277 ?_
      refine V_aload_n 0 dX10_tries_95 rfl rfl ?_
      refine V_iload_n 3 dX10_tries_96 rfl rfl ?_
      refine PI_26_54 dX10_tries_97 lkX10_280 ?_
      refine V_iconst 0 dX10_tries_100 (by decide) ?_
      refine V_istore 5 dX10_tries_101 (by decide) rfl ?_
      exact V_lv [1, 2, 0] rfl k
    · replace k := k.2 z
      exact V_return dX10_tries_88 rfl k
  · replace k := k.2 z
    refine V_aload_n 0 dX10_tries_14 rfl rfl ?_
    refine GS_26_50 dX10_tries_15 lkX10_99 ?_
    refine V_aload_n 0 dX10_tries_18 rfl rfl ?_
    refine GS_26_51 dX10_tries_19 lkX10_102 ?_
    refine V_iload 5 dX10_tries_22 rfl ?_
    refine V_iald (by decide) rt_56 dX10_tries_24 k.1 ?_
    replace k := k.2
    refine V_iald (by decide) rt_55 dX10_tries_25 k.1 ?_
    replace k := k.2
    refine V_iload_n 3 dX10_tries_26 rfl rfl ?_
    refine V_icmp_ge 45 dX10_tries_27 (by decide) ⟨fun z => ?_, fun z => ?_⟩
    · replace k := k.1 z
      refine V_iload_n 3 dX10_tries_45 rfl rfl ?_
      refine V_istore 6 dX10_tries_46 (by decide) rfl ?_
      refine V_iload_n 3 dX10_tries_48 rfl rfl ?_
      refine V_iload 6 dX10_tries_49 rfl ?_
      refine V_isub dX10_tries_51 ?_
      refine V_istore_n 3 dX10_tries_52 rfl (by decide) rfl ?_
      refine V_iload 4 dX10_tries_53 rfl ?_
      refine V_iload 6 dX10_tries_55 rfl ?_
      refine V_aload_n 0 dX10_tries_57 rfl rfl ?_
      refine GS_26_49 dX10_tries_58 lkX10_96 ?_
      refine V_aload_n 0 dX10_tries_61 rfl rfl ?_
      refine GS_26_51 dX10_tries_62 lkX10_102 ?_
      refine V_iload 5 dX10_tries_65 rfl ?_
      refine V_iald (by decide) rt_56 dX10_tries_67 k.1 ?_
      replace k := k.2
      refine V_iald (by decide) rt_54 dX10_tries_68 k.1 ?_
      replace k := k.2
      refine V_imul dX10_tries_69 ?_
      refine V_iadd dX10_tries_70 ?_
      refine V_istore 4 dX10_tries_71 (by decide) rfl ?_
      refine V_iinc 5 (v := l5 + 1) dX10_tries_73 rfl rfl (by decide) rfl ?_
      refine V_goto 8 dX10_tries_76 (by decide) ?_
      exact V_lv [4, 5, 2, 1, 0] rfl k
    · replace k := k.2 z
      refine V_aload_n 0 dX10_tries_30 rfl rfl ?_
      refine GS_26_50 dX10_tries_31 lkX10_99 ?_
      refine V_aload_n 0 dX10_tries_34 rfl rfl ?_
      refine GS_26_51 dX10_tries_35 lkX10_102 ?_
      refine V_iload 5 dX10_tries_38 rfl ?_
      refine V_iald (by decide) rt_56 dX10_tries_40 k.1 ?_
      replace k := k.2
      refine V_iald (by decide) rt_55 dX10_tries_41 k.1 ?_
      replace k := k.2
      refine V_goto 46 dX10_tries_42 (by decide) ?_
      refine V_istore 6 dX10_tries_46 (by decide) rfl ?_
      refine V_iload_n 3 dX10_tries_48 rfl rfl ?_
      refine V_iload 6 dX10_tries_49 rfl ?_
      refine V_isub dX10_tries_51 ?_
      refine V_istore_n 3 dX10_tries_52 rfl (by decide) rfl ?_
      refine V_iload 4 dX10_tries_53 rfl ?_
      refine V_iload 6 dX10_tries_55 rfl ?_
      refine V_aload_n 0 dX10_tries_57 rfl rfl ?_
      refine GS_26_49 dX10_tries_58 lkX10_96 ?_
      refine V_aload_n 0 dX10_tries_61 rfl rfl ?_
      refine GS_26_51 dX10_tries_62 lkX10_102 ?_
      refine V_iload 5 dX10_tries_65 rfl ?_
      refine V_iald (by decide) rt_56 dX10_tries_67 k.1 ?_
      replace k := k.2
      refine V_iald (by decide) rt_54 dX10_tries_68 k.1 ?_
      replace k := k.2
      refine V_imul dX10_tries_69 ?_
      refine V_iadd dX10_tries_70 ?_
      refine V_istore 4 dX10_tries_71 (by decide) rfl ?_
      refine V_iinc 5 (v := l5 + 1) dX10_tries_73 rfl rfl (by decide) rfl ?_
      refine V_goto 8 dX10_tries_76 (by decide) ?_
      exact V_lv [4, 5, 2, 1, 0] rfl k
set_option maxRecDepth 20000 in
set_option maxHeartbeats 2000000 in
theorem wX10_tries_103 {d bc bs : Nat} {h : HS} {P : Option AV → HS → Prop} {l1 : Int32} {l5 : Int32} (k : ((l1 ≤ l5) → (P none h)) ∧ ((¬ l1 ≤ l5) → (vp_in l5 8 ∧ (vp_in l5 8 ∧ (V true mX10_tries (d + 3) bc bs 103 [(0, aR 26 0), (1, aI l1), (5, aI (l5 + 1))] [] (sI h 57 0 l5.toNatClampNeg (gI h 56 0 l5.toNatClampNeg)) P))))) : V true mX10_tries (d + 3) bc bs 103 [(0, aR 26 0), (1, aI l1), (5, aI l5)] [] h P := by
  refine V_iload 5 dX10_tries_103 rfl ?_
  refine V_iload_n 1 dX10_tries_105 rfl rfl ?_
  refine V_icmp_ge 129 dX10_tries_106 (by decide) ⟨fun z => ?_, fun z => ?_⟩
  · replace k := k.1 z
    exact V_return dX10_tries_129 rfl k
  · replace k := k.2 z
    refine V_aload_n 0 dX10_tries_109 rfl rfl ?_
    refine GS_26_52 dX10_tries_110 lkX10_105 ?_
    refine V_iload 5 dX10_tries_113 rfl ?_
    refine V_aload_n 0 dX10_tries_115 rfl rfl ?_
    refine GS_26_51 dX10_tries_116 lkX10_102 ?_
    refine V_iload 5 dX10_tries_119 rfl ?_
    refine V_iald (by decide) rt_56 dX10_tries_121 k.1 ?_
    replace k := k.2
    refine V_iast (by decide) rt_57 dX10_tries_122 k.1 ?_
    replace k := k.2
    refine V_iinc 5 (v := l5 + 1) dX10_tries_123 rfl rfl (by decide) rfl ?_
    refine V_goto 103 dX10_tries_126 (by decide) ?_
    exact V_lv [1, 2, 0] rfl k
-- X10_nextRow cuts [4, 42]
set_option maxRecDepth 20000 in
set_option maxHeartbeats 2000000 in
theorem wX10_nextRow {d bc bs : Nat} {h : HS} {P : Option AV → HS → Prop} {l1 : Int32} (k : V true mX10_nextRow (d + 3) bc bs 4 [(0, aR 26 0), (1, aI l1), (2, aI (l1 - 1))] [] h P) : Cl true mX10_nextRow (d + 3) bc bs [aR 26 0, aI l1] h P := by
  refine Cl_of (by decide) (Nat.le_of_ble_eq_true rfl) ?_
  show V true mX10_nextRow (d + 3) bc bs 0 [(0, aR 26 0), (1, aI l1)] [] h P
  refine V_iload_n 1 dX10_nextRow_0 rfl rfl ?_
  refine V_iconst 1 dX10_nextRow_1 (by decide) ?_
  refine V_isub dX10_nextRow_2 ?_
  refine V_istore_n 2 dX10_nextRow_3 rfl (by decide) rfl ?_
  exact V_lv [1, 2, 0] rfl k
set_option maxRecDepth 20000 in
set_option maxHeartbeats 2000000 in
theorem wX10_nextRow_4 {d bc bs : Nat} {h : HS} {P : Option AV → HS → Prop} {l1 : Int32} {l2 : Int32} (k : ((l2 < 0) → (((0 ≤ l2) → (vp_in l2 8 ∧ (V true mX10_nextRow (d + 3) bc bs 42 [(0, aR 26 0), (1, aI l1), (3, aI ((gI h 56 0 l2.toNatClampNeg) + 1)), (4, aI l2)] [] h P))) ∧ ((¬ 0 ≤ l2) → (P (some (aI 0)) h)))) ∧ ((¬ l2 < 0) → (vp_in l2 8 ∧ (((¬ (gI h 56 0 l2.toNatClampNeg) = 3) → (((0 ≤ l2) → (vp_in l2 8 ∧ (V true mX10_nextRow (d + 3) bc bs 42 [(0, aR 26 0), (1, aI l1), (3, aI ((gI h 56 0 l2.toNatClampNeg) + 1)), (4, aI l2)] [] h P))) ∧ ((¬ 0 ≤ l2) → (P (some (aI 0)) h)))) ∧ (((gI h 56 0 l2.toNatClampNeg) = 3) → (V true mX10_nextRow (d + 3) bc bs 4 [(0, aR 26 0), (1, aI l1), (2, aI (l2 + (-1)))] [] h P)))))) : V true mX10_nextRow (d + 3) bc bs 4 [(0, aR 26 0), (1, aI l1), (2, aI l2)] [] h P := by
  refine V_iload_n 2 dX10_nextRow_4 rfl rfl ?_
  refine V_if_lt 24 dX10_nextRow_5 (by decide) ⟨fun z => ?_, fun z => ?_⟩
  · replace k := k.1 z
    refine V_iload_n 2 dX10_nextRow_24 rfl rfl ?_
    refine V_if_ge 30 dX10_nextRow_25 (by decide) ⟨fun z => ?_, fun z => ?_⟩
    · replace k := k.1 z
      refine V_aload_n 0 dX10_nextRow_30 rfl rfl ?_
      refine GS_26_51 dX10_nextRow_31 lkX10_102 ?_
      refine V_iload_n 2 dX10_nextRow_34 rfl rfl ?_
      refine V_iald (by decide) rt_56 dX10_nextRow_35 k.1 ?_
      replace k := k.2
      refine V_iconst 1 dX10_nextRow_36 (by decide) ?_
      refine V_iadd dX10_nextRow_37 ?_
      refine V_istore_n 3 dX10_nextRow_38 rfl (by decide) rfl ?_
      refine V_iload_n 2 dX10_nextRow_39 rfl rfl ?_
      refine V_istore 4 dX10_nextRow_40 (by decide) rfl ?_
      exact V_lv [2, 3, 1, 0] rfl k
    · replace k := k.2 z
      refine V_iconst 0 dX10_nextRow_28 (by decide) ?_
      exact V_zreturn dX10_nextRow_29 rfl (by decide) k
  · replace k := k.2 z
    refine V_aload_n 0 dX10_nextRow_8 rfl rfl ?_
    refine GS_26_51 dX10_nextRow_9 lkX10_102 ?_
    refine V_iload_n 2 dX10_nextRow_12 rfl rfl ?_
    refine V_iald (by decide) rt_56 dX10_nextRow_13 k.1 ?_
    replace k := k.2
    refine V_iconst 3 dX10_nextRow_14 (by decide) ?_
    refine V_icmp_ne 24 dX10_nextRow_15 (by decide) ⟨fun z => ?_, fun z => ?_⟩
    · replace k := k.1 z
      refine V_iload_n 2 dX10_nextRow_24 rfl rfl ?_
      refine V_if_ge 30 dX10_nextRow_25 (by decide) ⟨fun z => ?_, fun z => ?_⟩
      · replace k := k.1 z
        refine V_aload_n 0 dX10_nextRow_30 rfl rfl ?_
        refine GS_26_51 dX10_nextRow_31 lkX10_102 ?_
        refine V_iload_n 2 dX10_nextRow_34 rfl rfl ?_
        refine V_iald (by decide) rt_56 dX10_nextRow_35 k.1 ?_
        replace k := k.2
        refine V_iconst 1 dX10_nextRow_36 (by decide) ?_
        refine V_iadd dX10_nextRow_37 ?_
        refine V_istore_n 3 dX10_nextRow_38 rfl (by decide) rfl ?_
        refine V_iload_n 2 dX10_nextRow_39 rfl rfl ?_
        refine V_istore 4 dX10_nextRow_40 (by decide) rfl ?_
        exact V_lv [2, 3, 1, 0] rfl k
      · replace k := k.2 z
        refine V_iconst 0 dX10_nextRow_28 (by decide) ?_
        exact V_zreturn dX10_nextRow_29 rfl (by decide) k
    · replace k := k.2 z
      refine V_iinc 2 (v := l2 + (-1)) dX10_nextRow_18 rfl rfl (by decide) rfl ?_
      refine V_goto 4 dX10_nextRow_21 (by decide) ?_
      exact V_lv [1, 2, 0] rfl k
set_option maxRecDepth 20000 in
set_option maxHeartbeats 2000000 in
theorem wX10_nextRow_42 {d bc bs : Nat} {h : HS} {P : Option AV → HS → Prop} {l1 : Int32} {l3 : Int32} {l4 : Int32} (k : ((l1 ≤ l4) → (P (some (aI 1)) h)) ∧ ((¬ l1 ≤ l4) → (vp_in l4 8 ∧ (V true mX10_nextRow (d + 3) bc bs 42 [(0, aR 26 0), (1, aI l1), (3, aI l3), (4, aI (l4 + 1))] [] (sI h 56 0 l4.toNatClampNeg l3) P)))) : V true mX10_nextRow (d + 3) bc bs 42 [(0, aR 26 0), (1, aI l1), (3, aI l3), (4, aI l4)] [] h P := by
  refine V_iload 4 dX10_nextRow_42 rfl ?_
  refine V_iload_n 1 dX10_nextRow_44 rfl rfl ?_
  refine V_icmp_ge 62 dX10_nextRow_45 (by decide) ⟨fun z => ?_, fun z => ?_⟩
  · replace k := k.1 z
    refine V_iconst 1 dX10_nextRow_62 (by decide) ?_
    exact V_zreturn dX10_nextRow_63 rfl (by decide) k
  · replace k := k.2 z
    refine V_aload_n 0 dX10_nextRow_48 rfl rfl ?_
    refine GS_26_51 dX10_nextRow_49 lkX10_102 ?_
    refine V_iload 4 dX10_nextRow_52 rfl ?_
    refine V_iload_n 3 dX10_nextRow_54 rfl rfl ?_
    refine V_iast (by decide) rt_56 dX10_nextRow_55 k.1 ?_
    replace k := k.2
    refine V_iinc 4 (v := l4 + 1) dX10_nextRow_56 rfl rfl (by decide) rfl ?_
    refine V_goto 42 dX10_nextRow_59 (by decide) ?_
    exact V_lv [1, 2, 3, 0] rfl k
-- X10_best cuts [40, 63]
set_option maxRecDepth 20000 in
set_option maxHeartbeats 2000000 in
theorem wX10_best {d bc bs : Nat} {h : HS} {P : Option AV → HS → Prop} {l1 : Int32} {l2 : Int32} {l3 : Int32} {l4 : Int32} (k : ((¬ (inR l1 0 200)) → (P (some (aI (-1))) h)) ∧ (((inR l1 0 200)) → (((¬ (inR l2 0 8)) → (P (some (aI (-1))) h)) ∧ (((inR l2 0 8)) → ((((inR l3 0 3)) → (V true mX10_best (d + 3) bc bs 40 [(0, aR 26 0), (1, aI l1), (2, aI l2), (3, aI l3), (4, aI l4), (5, aI 0)] [] (sI h 26 0 53 (-1)) P)) ∧ ((¬ (inR l3 0 3)) → (P (some (aI (-1))) h))))))) : Cl true mX10_best (d + 3) bc bs [aR 26 0, aI l1, aI l2, aI l3, aI l4] h P := by
  refine Cl_of (by decide) (Nat.le_of_ble_eq_true rfl) ?_
  show V true mX10_best (d + 3) bc bs 0 [(0, aR 26 0), (1, aI l1), (2, aI l2), (3, aI l3), (4, aI l4)] [] h P
  refine V_iload_n 1 dX10_best_0 rfl rfl ?_
  refine V_iconst 0 dX10_best_1 (by decide) ?_
  refine V_sipush 200 dX10_best_2 (by decide) ?_
  refine V_callS (mc := 0) (ms := 0) (as := [aI l1, aI 0, aI 200]) (st := []) dX10_best_5 okX10_isIn stX10_isIn lkX10_111 rfl (Nat.le_of_ble_eq_true rfl) (Nat.zero_le _) (Nat.zero_le _) (cX10_isIn_ ?_)
  show V true mX10_best (d + 3) bc bs 8 [(0, aR 26 0), (1, aI l1), (2, aI l2), (3, aI l3), (4, aI l4)] [aI (bI (inR l1 0 200))] h P
  refine V_if_eq 30 dX10_best_8 (by decide) ⟨fun z => ?_, fun z => ?_⟩
  · replace k := k.1 (bI_0 z)
    refine V_iconst (-1) dX10_best_30 (by decide) ?_
    exact V_ireturn dX10_best_31 rfl k
  · replace k := k.2 (bI_1 z)
    refine V_iload_n 2 dX10_best_11 rfl rfl ?_
    refine V_iconst 0 dX10_best_12 (by decide) ?_
    refine V_bipush 8 dX10_best_13 (by decide) ?_
    refine V_callS (mc := 0) (ms := 0) (as := [aI l2, aI 0, aI 8]) (st := []) dX10_best_15 okX10_isIn stX10_isIn lkX10_111 rfl (Nat.le_of_ble_eq_true rfl) (Nat.zero_le _) (Nat.zero_le _) (cX10_isIn_ ?_)
    show V true mX10_best (d + 3) bc bs 18 [(0, aR 26 0), (1, aI l1), (2, aI l2), (3, aI l3), (4, aI l4)] [aI (bI (inR l2 0 8))] h P
    refine V_if_eq 30 dX10_best_18 (by decide) ⟨fun z => ?_, fun z => ?_⟩
    · replace k := k.1 (bI_0 z)
      refine V_iconst (-1) dX10_best_30 (by decide) ?_
      exact V_ireturn dX10_best_31 rfl k
    · replace k := k.2 (bI_1 z)
      refine V_iload_n 3 dX10_best_21 rfl rfl ?_
      refine V_iconst 0 dX10_best_22 (by decide) ?_
      refine V_iconst 3 dX10_best_23 (by decide) ?_
      refine V_callS (mc := 0) (ms := 0) (as := [aI l3, aI 0, aI 3]) (st := []) dX10_best_24 okX10_isIn stX10_isIn lkX10_111 rfl (Nat.le_of_ble_eq_true rfl) (Nat.zero_le _) (Nat.zero_le _) (cX10_isIn_ ?_)
      show V true mX10_best (d + 3) bc bs 27 [(0, aR 26 0), (1, aI l1), (2, aI l2), (3, aI l3), (4, aI l4)] [aI (bI (inR l3 0 3))] h P
      refine V_if_ne 32 dX10_best_27 (by decide) ⟨fun z => ?_, fun z => ?_⟩
      · replace k := k.1 (bI_1 z)
        refine V_aload_n 0 dX10_best_32 rfl rfl ?_
        refine V_iconst (-1) dX10_best_33 (by decide) ?_
        refine PI_26_53 dX10_best_34 lkX10_277 ?_
        refine V_iconst 0 dX10_best_37 (by decide) ?_
        refine V_istore 5 dX10_best_38 (by decide) rfl ?_
        exact V_lv [1, 2, 3, 4, 5, 0] rfl k
      · replace k := k.2 (bI_0 z)
        refine V_iconst (-1) dX10_best_30 (by decide) ?_
        exact V_ireturn dX10_best_31 rfl k
set_option maxRecDepth 20000 in
set_option maxHeartbeats 2000000 in
theorem wX10_best_40 {d bc bs : Nat} {h : HS} {P : Option AV → HS → Prop} {l1 : Int32} {l2 : Int32} {l3 : Int32} {l4 : Int32} {l5 : Int32} (k : ((l2 ≤ l5) → (V true mX10_best (d + 3) bc bs 63 [(0, aR 26 0), (1, aI l1), (2, aI l2), (4, aI l4), (5, aI 1)] [] h P)) ∧ ((¬ l2 ≤ l5) → (vp_in l5 8 ∧ (V true mX10_best (d + 3) bc bs 40 [(0, aR 26 0), (1, aI l1), (2, aI l2), (3, aI l3), (4, aI l4), (5, aI (l5 + 1))] [] (sI h 56 0 l5.toNatClampNeg l3) P)))) : V true mX10_best (d + 3) bc bs 40 [(0, aR 26 0), (1, aI l1), (2, aI l2), (3, aI l3), (4, aI l4), (5, aI l5)] [] h P := by
  refine V_iload 5 dX10_best_40 rfl ?_
  refine V_iload_n 2 dX10_best_42 rfl rfl ?_
  refine V_icmp_ge 60 dX10_best_43 (by decide) ⟨fun z => ?_, fun z => ?_⟩
  · replace k := k.1 z
    refine V_iconst 1 dX10_best_60 (by decide) ?_
    refine V_istore 5 dX10_best_61 (by decide) rfl ?_
    exact V_lv [1, 2, 3, 5, 0] rfl k
  · replace k := k.2 z
    refine V_aload_n 0 dX10_best_46 rfl rfl ?_
    refine GS_26_51 dX10_best_47 lkX10_102 ?_
    refine V_iload 5 dX10_best_50 rfl ?_
    refine V_iload_n 3 dX10_best_52 rfl rfl ?_
    refine V_iast (by decide) rt_56 dX10_best_53 k.1 ?_
    replace k := k.2
    refine V_iinc 5 (v := l5 + 1) dX10_best_54 rfl rfl (by decide) rfl ?_
    refine V_goto 40 dX10_best_57 (by decide) ?_
    exact V_lv [1, 2, 3, 4, 5, 0] rfl k
set_option maxRecDepth 20000 in
set_option maxHeartbeats 2000000 in
theorem wX10_best_63 {d bc bs : Nat} {h : HS} {P : Option AV → HS → Prop} {l1 : Int32} {l2 : Int32} {l4 : Int32} {l5 : Int32} (k : ((l5 = 0) → (((¬ l4 = 0) → (((¬ l4 = 1) → (((¬ (inR l4 10 (9 + l2))) → (P (some (aI (-1))) h)) ∧ (((inR l4 10 (9 + l2))) → (vp_in (l4 - 10) 8 ∧ (P (some (aI (gI h 57 0 (l4 - 10).toNatClampNeg))) h))))) ∧ ((l4 = 1) → (P (some (aI (gI h 26 0 54))) h)))) ∧ ((l4 = 0) → (P (some (aI (gI h 26 0 53))) h)))) ∧ ((¬ l5 = 0) → (Cl true mX10_tries (d + 2) 0 0 [aR 26 0, aI l2, aI l1] h (fun r3 h4 => r3 = none ∧ (Cl true mX10_nextRow (d + 2) 0 0 [aR 26 0, aI l2] h4 (fun r5 h6 => ∃ x7 : Int32, r5 = some (aI x7) ∧ (V true mX10_best (d + 3) bc bs 63 [(0, aR 26 0), (1, aI l1), (2, aI l2), (4, aI l4), (5, aI x7)] [] h6 P))))))) : V true mX10_best (d + 3) bc bs 63 [(0, aR 26 0), (1, aI l1), (2, aI l2), (4, aI l4), (5, aI l5)] [] h P := by
  refine V_iload 5 dX10_best_63 rfl ?_
  refine V_if_eq 84 dX10_best_65 (by decide) ⟨fun z => ?_, fun z => ?_⟩
  · replace k := k.1 z
    refine V_iload 4 dX10_best_84 rfl ?_
    refine V_if_ne 96 dX10_best_86 (by decide) ⟨fun z => ?_, fun z => ?_⟩
    · replace k := k.1 z
      refine V_iload 4 dX10_best_96 rfl ?_
      refine V_iconst 1 dX10_best_98 (by decide) ?_
      refine V_icmp_ne 109 dX10_best_99 (by decide) ⟨fun z => ?_, fun z => ?_⟩
      · replace k := k.1 z
        refine V_iload 4 dX10_best_109 rfl ?_
        refine V_bipush 10 dX10_best_111 (by decide) ?_
        refine V_bipush 9 dX10_best_113 (by decide) ?_
        refine V_iload_n 2 dX10_best_115 rfl rfl ?_
        refine V_iadd dX10_best_116 ?_
        refine V_callS (mc := 0) (ms := 0) (as := [aI l4, aI 10, aI (9 + l2)]) (st := []) dX10_best_117 okX10_isIn stX10_isIn lkX10_111 rfl (Nat.le_of_ble_eq_true rfl) (Nat.zero_le _) (Nat.zero_le _) (cX10_isIn_ ?_)
        show V true mX10_best (d + 3) bc bs 120 [(0, aR 26 0), (1, aI l1), (2, aI l2), (4, aI l4), (5, aI l5)] [aI (bI (inR l4 10 (9 + l2)))] h P
        refine V_if_eq 136 dX10_best_120 (by decide) ⟨fun z => ?_, fun z => ?_⟩
        · replace k := k.1 (bI_0 z)
          refine V_iconst (-1) dX10_best_136 (by decide) ?_
          exact V_ireturn dX10_best_137 rfl k
        · replace k := k.2 (bI_1 z)
          refine V_aload_n 0 dX10_best_123 rfl rfl ?_
          refine GS_26_52 dX10_best_124 lkX10_105 ?_
          refine V_iload 4 dX10_best_127 rfl ?_
          refine V_bipush 10 dX10_best_129 (by decide) ?_
          refine V_isub dX10_best_131 ?_
          refine V_iald (by decide) rt_57 dX10_best_132 k.1 ?_
          replace k := k.2
          refine V_goto 137 dX10_best_133 (by decide) ?_
          exact V_ireturn dX10_best_137 rfl k
      · replace k := k.2 z
        refine V_aload_n 0 dX10_best_102 rfl rfl ?_
        refine GI_26_54 dX10_best_103 lkX10_280 ?_
        refine V_goto 137 dX10_best_106 (by decide) ?_
        exact V_ireturn dX10_best_137 rfl k
    · replace k := k.2 z
      refine V_aload_n 0 dX10_best_89 rfl rfl ?_
      refine GI_26_53 dX10_best_90 lkX10_277 ?_
      refine V_goto 137 dX10_best_93 (by decide) ?_
      exact V_ireturn dX10_best_137 rfl k
  · replace k := k.2 z
    refine V_aload_n 0 dX10_best_68 rfl rfl ?_
    refine V_iload_n 2 dX10_best_69 rfl rfl ?_
    refine V_iload_n 1 dX10_best_70 rfl rfl ?_
    refine V_callV (mc := 0) (ms := 0) (as := [aI l2, aI l1]) (st := []) (by decide) rt_26 rfl dX10_best_71 okX10_tries inX10_tries seX10_tries lkX10_283 rfl (Nat.le_of_ble_eq_true rfl) (Nat.zero_le _) (Nat.zero_le _) (Cl.mono (fun r3 h4 z => ?_) k)
    obtain ⟨rfl, k⟩ := z
    refine V_aload_n 0 dX10_best_74 rfl rfl ?_
    refine V_iload_n 2 dX10_best_75 rfl rfl ?_
    refine V_callV (mc := 0) (ms := 0) (as := [aI l2]) (st := []) (by decide) rt_26 rfl dX10_best_76 okX10_nextRow inX10_nextRow seX10_nextRow lkX10_286 rfl (Nat.le_of_ble_eq_true rfl) (Nat.zero_le _) (Nat.zero_le _) (Cl.mono (fun r5 h6 z => ?_) k)
    obtain ⟨x7, rfl, k⟩ := z
    refine V_istore 5 dX10_best_79 (by decide) rfl ?_
    refine V_goto 63 dX10_best_81 (by decide) ?_
    exact V_lv [1, 2, 3, 4, 0] rfl k

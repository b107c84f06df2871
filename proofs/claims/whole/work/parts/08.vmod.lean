-- X10_isIn cuts []
set_option maxRecDepth 20000 in
set_option maxHeartbeats 2000000 in
theorem wX10_isIn {d bc bs : Nat} {h : HS} {P : Option AV → HS → Prop} {l0 : Int32} {l1 : Int32} {l2 : Int32} (k : ((l0 < l1) → (P (some (aI 0)) h)) ∧ ((¬ l0 < l1) → (((l2 < l0) → (P (some (aI 0)) h)) ∧ ((¬ l2 < l0) → (P (some (aI 1)) h))))) : Cl true mX10_isIn (d + 1) bc bs [aI l0, aI l1, aI l2] h P := by
  refine Cl_of (by decide) (Nat.le_of_ble_eq_true rfl) ?_
  show V true mX10_isIn (d + 1) bc bs 0 [(0, aI l0), (1, aI l1), (2, aI l2)] [] h P
  refine V_iload_n 0 dX10_isIn_0 rfl rfl ?_
  refine V_iload_n 1 dX10_isIn_1 rfl rfl ?_
  refine V_icmp_lt 14 dX10_isIn_2 (by decide) ⟨fun z => ?_, fun z => ?_⟩
  · replace k := k.1 z
    refine V_iconst 0 dX10_isIn_14 (by decide) ?_
    exact V_zreturn dX10_isIn_15 rfl (by decide) k
  · replace k := k.2 z
    refine V_iload_n 0 dX10_isIn_5 rfl rfl ?_
    refine V_iload_n 2 dX10_isIn_6 rfl rfl ?_
    refine V_icmp_gt 14 dX10_isIn_7 (by decide) ⟨fun z => ?_, fun z => ?_⟩
    · replace k := k.1 z
      refine V_iconst 0 dX10_isIn_14 (by decide) ?_
      exact V_zreturn dX10_isIn_15 rfl (by decide) k
    · replace k := k.2 z
      refine V_iconst 1 dX10_isIn_10 (by decide) ?_
      refine V_goto 15 dX10_isIn_11 (by decide) ?_
      exact V_zreturn dX10_isIn_15 rfl (by decide) k
-- X10_isThing cuts []
set_option maxRecDepth 20000 in
set_option maxHeartbeats 2000000 in
theorem wX10_isThing {d bc bs : Nat} {h : HS} {P : Option AV → HS → Prop} {l1 : Int32} (k : Cl true mX10_isIn d 0 0 [aI l1, aI 0, aI ((gI h 26 0 1) - 1)] h (fun r1 h2 => ∃ x3 : Int32, r1 = some (aI x3) ∧ ((x3 = 0 ∨ x3 = 1) ∧ P (some (aI x3)) h2))) : Cl true mX10_isThing (d + 1) bc bs [aR 26 0, aI l1] h P := by
  refine Cl_of (by decide) (Nat.le_of_ble_eq_true rfl) ?_
  show V true mX10_isThing (d + 1) bc bs 0 [(0, aR 26 0), (1, aI l1)] [] h P
  refine V_iload_n 1 dX10_isThing_0 rfl rfl ?_
  refine V_iconst 0 dX10_isThing_1 (by decide) ?_
  refine V_aload_n 0 dX10_isThing_2 rfl rfl ?_
  refine GI_26_1 dX10_isThing_3 lkX10_108 ?_
  refine V_iconst 1 dX10_isThing_6 (by decide) ?_
  refine V_isub dX10_isThing_7 ?_
  refine V_callS (mc := 0) (ms := 0) (as := [aI l1, aI 0, aI ((gI h 26 0 1) - 1)]) (st := []) dX10_isThing_8 okX10_isIn stX10_isIn lkX10_111 rfl (Nat.le_of_ble_eq_true rfl) (Nat.zero_le _) (Nat.zero_le _) (Cl.mono (fun r1 h2 z => ?_) k)
  obtain ⟨x3, rfl, k⟩ := z
  exact V_zreturn dX10_isThing_11 rfl k.1 k.2
-- X10_isTag cuts []
set_option maxRecDepth 20000 in
set_option maxHeartbeats 2000000 in
theorem wX10_isTag {d bc bs : Nat} {h : HS} {P : Option AV → HS → Prop} {l0 : Int32} (k : Cl true mX10_isIn d 0 0 [aI l0, aI 1, aI 9999] h (fun r1 h2 => ∃ x3 : Int32, r1 = some (aI x3) ∧ ((x3 = 0 ∨ x3 = 1) ∧ P (some (aI x3)) h2))) : Cl true mX10_isTag (d + 1) bc bs [aI l0] h P := by
  refine Cl_of (by decide) (Nat.le_of_ble_eq_true rfl) ?_
  show V true mX10_isTag (d + 1) bc bs 0 [(0, aI l0)] [] h P
  refine V_iload_n 0 dX10_isTag_0 rfl rfl ?_
  refine V_iconst 1 dX10_isTag_1 (by decide) ?_
  refine V_sipush 9999 dX10_isTag_2 (by decide) ?_
  refine V_callS (mc := 0) (ms := 0) (as := [aI l0, aI 1, aI 9999]) (st := []) dX10_isTag_5 okX10_isIn stX10_isIn lkX10_111 rfl (Nat.le_of_ble_eq_true rfl) (Nat.zero_le _) (Nat.zero_le _) (Cl.mono (fun r1 h2 z => ?_) k)
  obtain ⟨x3, rfl, k⟩ := z
  exact V_zreturn dX10_isTag_8 rfl k.1 k.2
-- X10_isSlip cuts []
set_option maxRecDepth 20000 in
set_option maxHeartbeats 2000000 in
theorem wX10_isSlip {d bc bs : Nat} {h : HS} {P : Option AV → HS → Prop} {l1 : Int32} (k : Cl true mX10_isIn d 0 0 [aI l1, aI 0, aI ((gI h 26 0 2) - 1)] h (fun r1 h2 => ∃ x3 : Int32, r1 = some (aI x3) ∧ ((x3 = 0 ∨ x3 = 1) ∧ P (some (aI x3)) h2))) : Cl true mX10_isSlip (d + 1) bc bs [aR 26 0, aI l1] h P := by
  refine Cl_of (by decide) (Nat.le_of_ble_eq_true rfl) ?_
  show V true mX10_isSlip (d + 1) bc bs 0 [(0, aR 26 0), (1, aI l1)] [] h P
  refine V_iload_n 1 dX10_isSlip_0 rfl rfl ?_
  refine V_iconst 0 dX10_isSlip_1 (by decide) ?_
  refine V_aload_n 0 dX10_isSlip_2 rfl rfl ?_
  refine GI_26_2 dX10_isSlip_3 lkX10_125 ?_
  refine V_iconst 1 dX10_isSlip_6 (by decide) ?_
  refine V_isub dX10_isSlip_7 ?_
  refine V_callS (mc := 0) (ms := 0) (as := [aI l1, aI 0, aI ((gI h 26 0 2) - 1)]) (st := []) dX10_isSlip_8 okX10_isIn stX10_isIn lkX10_111 rfl (Nat.le_of_ble_eq_true rfl) (Nat.zero_le _) (Nat.zero_le _) (Cl.mono (fun r1 h2 z => ?_) k)
  obtain ⟨x3, rfl, k⟩ := z
  exact V_zreturn dX10_isSlip_11 rfl k.1 k.2
-- X10_isParcel cuts []
set_option maxRecDepth 20000 in
set_option maxHeartbeats 2000000 in
theorem wX10_isParcel {d bc bs : Nat} {h : HS} {P : Option AV → HS → Prop} {l1 : Int32} (k : vp_in l1 120 ∧ ((((gI h 37 0 l1.toNatClampNeg) = (-1)) → (P (some (aI 0)) h)) ∧ ((¬ (gI h 37 0 l1.toNatClampNeg) = (-1)) → (vp_in l1 120 ∧ (((¬ (gI h 42 0 l1.toNatClampNeg) = (-1)) → (P (some (aI 0)) h)) ∧ (((gI h 42 0 l1.toNatClampNeg) = (-1)) → (vp_in l1 120 ∧ (((¬ (gI h 41 0 l1.toNatClampNeg) = (-1)) → (P (some (aI 0)) h)) ∧ (((gI h 41 0 l1.toNatClampNeg) = (-1)) → (P (some (aI 1)) h)))))))))) : Cl true mX10_isParcel (d + 1) bc bs [aR 26 0, aI l1] h P := by
  refine Cl_of (by decide) (Nat.le_of_ble_eq_true rfl) ?_
  show V true mX10_isParcel (d + 1) bc bs 0 [(0, aR 26 0), (1, aI l1)] [] h P
  refine V_aload_n 0 dX10_isParcel_0 rfl rfl ?_
  refine GS_26_13 dX10_isParcel_1 lkX10_40 ?_
  refine V_iload_n 1 dX10_isParcel_4 rfl rfl ?_
  refine V_iald (by decide) rt_37 dX10_isParcel_5 k.1 ?_
  replace k := k.2
  refine V_iconst (-1) dX10_isParcel_6 (by decide) ?_
  refine V_icmp_eq 34 dX10_isParcel_7 (by decide) ⟨fun z => ?_, fun z => ?_⟩
  · replace k := k.1 z
    refine V_iconst 0 dX10_isParcel_34 (by decide) ?_
    exact V_zreturn dX10_isParcel_35 rfl (by decide) k
  · replace k := k.2 z
    refine V_aload_n 0 dX10_isParcel_10 rfl rfl ?_
    refine GS_26_18 dX10_isParcel_11 lkX10_55 ?_
    refine V_iload_n 1 dX10_isParcel_14 rfl rfl ?_
    refine V_iald (by decide) rt_42 dX10_isParcel_15 k.1 ?_
    replace k := k.2
    refine V_iconst (-1) dX10_isParcel_16 (by decide) ?_
    refine V_icmp_ne 34 dX10_isParcel_17 (by decide) ⟨fun z => ?_, fun z => ?_⟩
    · replace k := k.1 z
      refine V_iconst 0 dX10_isParcel_34 (by decide) ?_
      exact V_zreturn dX10_isParcel_35 rfl (by decide) k
    · replace k := k.2 z
      refine V_aload_n 0 dX10_isParcel_20 rfl rfl ?_
      refine GS_26_17 dX10_isParcel_21 lkX10_52 ?_
      refine V_iload_n 1 dX10_isParcel_24 rfl rfl ?_
      refine V_iald (by decide) rt_41 dX10_isParcel_25 k.1 ?_
      replace k := k.2
      refine V_iconst (-1) dX10_isParcel_26 (by decide) ?_
      refine V_icmp_ne 34 dX10_isParcel_27 (by decide) ⟨fun z => ?_, fun z => ?_⟩
      · replace k := k.1 z
        refine V_iconst 0 dX10_isParcel_34 (by decide) ?_
        exact V_zreturn dX10_isParcel_35 rfl (by decide) k
      · replace k := k.2 z
        refine V_iconst 1 dX10_isParcel_30 (by decide) ?_
        refine V_goto 35 dX10_isParcel_31 (by decide) ?_
        exact V_zreturn dX10_isParcel_35 rfl (by decide) k
-- X10_see cuts []
set_option maxRecDepth 20000 in
set_option maxHeartbeats 2000000 in
theorem wX10_see {d bc bs : Nat} {h : HS} {P : Option AV → HS → Prop} {l1 : Int32} (k : (((gI h 26 0 35) ≤ l1) → (P (some (aI (-1))) h)) ∧ ((¬ (gI h 26 0 35) ≤ l1) → (vp_in l1 400 ∧ (P (some (aI (gI h 53 0 l1.toNatClampNeg))) h)))) : Cl true mX10_see (d + 1) bc bs [aR 26 0, aI l1] h P := by
  refine Cl_of (by decide) (Nat.le_of_ble_eq_true rfl) ?_
  show V true mX10_see (d + 1) bc bs 0 [(0, aR 26 0), (1, aI l1)] [] h P
  refine V_iload_n 1 dX10_see_0 rfl rfl ?_
  refine V_aload_n 0 dX10_see_1 rfl rfl ?_
  refine GI_26_35 dX10_see_2 lkX10_143 ?_
  refine V_icmp_ge 17 dX10_see_5 (by decide) ⟨fun z => ?_, fun z => ?_⟩
  · replace k := k.1 z
    refine V_iconst (-1) dX10_see_17 (by decide) ?_
    exact V_ireturn dX10_see_18 rfl k
  · replace k := k.2 z
    refine V_aload_n 0 dX10_see_8 rfl rfl ?_
    refine GS_26_34 dX10_see_9 lkX10_89 ?_
    refine V_iload_n 1 dX10_see_12 rfl rfl ?_
    refine V_iald (by decide) rt_53 dX10_see_13 k.1 ?_
    replace k := k.2
    refine V_goto 18 dX10_see_14 (by decide) ?_
    exact V_ireturn dX10_see_18 rfl k
-- X10_isLetter cuts []
set_option maxRecDepth 20000 in
set_option maxHeartbeats 2000000 in
theorem wX10_isLetter {d bc bs : Nat} {h : HS} {P : Option AV → HS → Prop} {l0 : Int32} (k : Cl true mX10_isIn d 0 0 [aI l0, aI 97, aI 122] h (fun r1 h2 => ∃ x3 : Int32, r1 = some (aI x3) ∧ (((¬ x3 = 0) → (P (some (aI 1)) h2)) ∧ ((x3 = 0) → (Cl true mX10_isIn d 0 0 [aI l0, aI 65, aI 90] h2 (fun r4 h5 => ∃ x6 : Int32, r4 = some (aI x6) ∧ (((x6 = 0) → (P (some (aI 0)) h5)) ∧ ((¬ x6 = 0) → (P (some (aI 1)) h5))))))))) : Cl true mX10_isLetter (d + 1) bc bs [aI l0] h P := by
  refine Cl_of (by decide) (Nat.le_of_ble_eq_true rfl) ?_
  show V true mX10_isLetter (d + 1) bc bs 0 [(0, aI l0)] [] h P
  refine V_iload_n 0 dX10_isLetter_0 rfl rfl ?_
  refine V_bipush 97 dX10_isLetter_1 (by decide) ?_
  refine V_bipush 122 dX10_isLetter_3 (by decide) ?_
  refine V_callS (mc := 0) (ms := 0) (as := [aI l0, aI 97, aI 122]) (st := []) dX10_isLetter_5 okX10_isIn stX10_isIn lkX10_111 rfl (Nat.le_of_ble_eq_true rfl) (Nat.zero_le _) (Nat.zero_le _) (Cl.mono (fun r1 h2 z => ?_) k)
  obtain ⟨x3, rfl, k⟩ := z
  refine V_if_ne 22 dX10_isLetter_8 (by decide) ⟨fun z => ?_, fun z => ?_⟩
  · replace k := k.1 z
    refine V_iconst 1 dX10_isLetter_22 (by decide) ?_
    refine V_goto 27 dX10_isLetter_23 (by decide) ?_
    exact V_zreturn dX10_isLetter_27 rfl (by decide) k
  · replace k := k.2 z
    refine V_iload_n 0 dX10_isLetter_11 rfl rfl ?_
    refine V_bipush 65 dX10_isLetter_12 (by decide) ?_
    refine V_bipush 90 dX10_isLetter_14 (by decide) ?_
    refine V_callS (mc := 0) (ms := 0) (as := [aI l0, aI 65, aI 90]) (st := []) dX10_isLetter_16 okX10_isIn stX10_isIn lkX10_111 rfl (Nat.le_of_ble_eq_true rfl) (Nat.zero_le _) (Nat.zero_le _) (Cl.mono (fun r4 h5 z => ?_) k)
    obtain ⟨x6, rfl, k⟩ := z
    refine V_if_eq 26 dX10_isLetter_19 (by decide) ⟨fun z => ?_, fun z => ?_⟩
    · replace k := k.1 z
      refine V_iconst 0 dX10_isLetter_26 (by decide) ?_
      exact V_zreturn dX10_isLetter_27 rfl (by decide) k
    · replace k := k.2 z
      refine V_iconst 1 dX10_isLetter_22 (by decide) ?_
      refine V_goto 27 dX10_isLetter_23 (by decide) ?_
      exact V_zreturn dX10_isLetter_27 rfl (by decide) k
-- X10_isDigit cuts []
set_option maxRecDepth 20000 in
set_option maxHeartbeats 2000000 in
theorem wX10_isDigit {d bc bs : Nat} {h : HS} {P : Option AV → HS → Prop} {l0 : Int32} (k : Cl true mX10_isIn d 0 0 [aI l0, aI 48, aI 57] h (fun r1 h2 => ∃ x3 : Int32, r1 = some (aI x3) ∧ ((x3 = 0 ∨ x3 = 1) ∧ P (some (aI x3)) h2))) : Cl true mX10_isDigit (d + 1) bc bs [aI l0] h P := by
  refine Cl_of (by decide) (Nat.le_of_ble_eq_true rfl) ?_
  show V true mX10_isDigit (d + 1) bc bs 0 [(0, aI l0)] [] h P
  refine V_iload_n 0 dX10_isDigit_0 rfl rfl ?_
  refine V_bipush 48 dX10_isDigit_1 (by decide) ?_
  refine V_bipush 57 dX10_isDigit_3 (by decide) ?_
  refine V_callS (mc := 0) (ms := 0) (as := [aI l0, aI 48, aI 57]) (st := []) dX10_isDigit_5 okX10_isIn stX10_isIn lkX10_111 rfl (Nat.le_of_ble_eq_true rfl) (Nat.zero_le _) (Nat.zero_le _) (Cl.mono (fun r1 h2 z => ?_) k)
  obtain ⟨x3, rfl, k⟩ := z
  exact V_zreturn dX10_isDigit_8 rfl k.1 k.2
-- X10_word cuts []
set_option maxRecDepth 20000 in
set_option maxHeartbeats 2000000 in
theorem wX10_word {d bc bs : Nat} {h : HS} {P : Option AV → HS → Prop} {l0 : Int64} (k : ((¬ (lg_cmp l0 7364985) = 0) → (((¬ (lg_cmp l0 2003330414) = 0) → (((¬ (lg_cmp l0 6385252) = 0) → (((¬ (lg_cmp l0 7566701) = 0) → (((¬ (lg_cmp l0 495740088435) = 0) → (((¬ (lg_cmp l0 1650549611) = 0) → (((¬ (lg_cmp l0 470020945000) = 0) → (P (some (aI 1)) h)) ∧ (((lg_cmp l0 470020945000) = 0) → (P (some (aI 1000004)) h)))) ∧ (((lg_cmp l0 1650549611) = 0) → (P (some (aI 1000003)) h)))) ∧ (((lg_cmp l0 495740088435) = 0) → (P (some (aI 1000002)) h)))) ∧ (((lg_cmp l0 7566701) = 0) → (P (some (aI 1000001)) h)))) ∧ (((lg_cmp l0 6385252) = 0) → (P (some (aI 5)) h)))) ∧ (((lg_cmp l0 2003330414) = 0) → (P (some (aI 4)) h)))) ∧ (((lg_cmp l0 7364985) = 0) → (P (some (aI 3)) h))) : Cl true mX10_word (d + 1) bc bs [aL l0] h P := by
  refine Cl_of (by decide) (Nat.le_of_ble_eq_true rfl) ?_
  show V true mX10_word (d + 1) bc bs 0 [(0, aL l0)] [] h P
  refine V_lload_n 0 dX10_word_0 rfl rfl ?_
  refine V_ldc2 7364985 dX10_word_1 lkX10_146 ?_
  refine V_lcmp dX10_word_4 ?_
  refine V_if_ne 10 dX10_word_5 (by decide) ⟨fun z => ?_, fun z => ?_⟩
  · replace k := k.1 z
    refine V_lload_n 0 dX10_word_10 rfl rfl ?_
    refine V_ldc2 2003330414 dX10_word_11 lkX10_148 ?_
    refine V_lcmp dX10_word_14 ?_
    refine V_if_ne 20 dX10_word_15 (by decide) ⟨fun z => ?_, fun z => ?_⟩
    · replace k := k.1 z
      refine V_lload_n 0 dX10_word_20 rfl rfl ?_
      refine V_ldc2 6385252 dX10_word_21 lkX10_150 ?_
      refine V_lcmp dX10_word_24 ?_
      refine V_if_ne 30 dX10_word_25 (by decide) ⟨fun z => ?_, fun z => ?_⟩
      · replace k := k.1 z
        refine V_lload_n 0 dX10_word_30 rfl rfl ?_
        refine V_ldc2 7566701 dX10_word_31 lkX10_152 ?_
        refine V_lcmp dX10_word_34 ?_
        refine V_if_ne 41 dX10_word_35 (by decide) ⟨fun z => ?_, fun z => ?_⟩
        · replace k := k.1 z
          refine V_lload_n 0 dX10_word_41 rfl rfl ?_
          refine V_ldc2 495740088435 dX10_word_42 lkX10_155 ?_
          refine V_lcmp dX10_word_45 ?_
          refine V_if_ne 52 dX10_word_46 (by decide) ⟨fun z => ?_, fun z => ?_⟩
          · replace k := k.1 z
            refine V_lload_n 0 dX10_word_52 rfl rfl ?_
            refine V_ldc2 1650549611 dX10_word_53 lkX10_158 ?_
            refine V_lcmp dX10_word_56 ?_
            refine V_if_ne 63 dX10_word_57 (by decide) ⟨fun z => ?_, fun z => ?_⟩
            · replace k := k.1 z
              refine V_lload_n 0 dX10_word_63 rfl rfl ?_
              refine V_ldc2 470020945000 dX10_word_64 lkX10_161 ?_
              refine V_lcmp dX10_word_67 ?_
              refine V_if_ne 76 dX10_word_68 (by decide) ⟨fun z => ?_, fun z => ?_⟩
              · replace k := k.1 z
                refine V_iconst 1 dX10_word_76 (by decide) ?_
                exact V_ireturn dX10_word_77 rfl k
              · replace k := k.2 z
                refine V_ldc 1000004 dX10_word_71 lkX10_163 ?_
                refine V_goto 77 dX10_word_73 (by decide) ?_
                exact V_ireturn dX10_word_77 rfl k
            · replace k := k.2 z
              refine V_ldc 1000003 dX10_word_60 lkX10_160 ?_
              exact V_ireturn dX10_word_62 rfl k
          · replace k := k.2 z
            refine V_ldc 1000002 dX10_word_49 lkX10_157 ?_
            exact V_ireturn dX10_word_51 rfl k
        · replace k := k.2 z
          refine V_ldc 1000001 dX10_word_38 lkX10_154 ?_
          exact V_ireturn dX10_word_40 rfl k
      · replace k := k.2 z
        refine V_iconst 5 dX10_word_28 (by decide) ?_
        exact V_ireturn dX10_word_29 rfl k
    · replace k := k.2 z
      refine V_iconst 4 dX10_word_18 (by decide) ?_
      exact V_ireturn dX10_word_19 rfl k
  · replace k := k.2 z
    refine V_iconst 3 dX10_word_8 (by decide) ?_
    exact V_ireturn dX10_word_9 rfl k
-- X10_isOf cuts []
set_option maxRecDepth 20000 in
set_option maxHeartbeats 2000000 in
theorem wX10_isOf {d bc bs : Nat} {h : HS} {P : Option AV → HS → Prop} {l0 : Int32} {l1 : Int32} (k : ((l0 = (-1)) → (P (some (aI 0)) h)) ∧ ((¬ l0 = (-1)) → (((¬ (l0 / 28) = l1) → (P (some (aI 0)) h)) ∧ (((l0 / 28) = l1) → (P (some (aI 1)) h))))) : Cl true mX10_isOf (d + 1) bc bs [aI l0, aI l1] h P := by
  refine Cl_of (by decide) (Nat.le_of_ble_eq_true rfl) ?_
  show V true mX10_isOf (d + 1) bc bs 0 [(0, aI l0), (1, aI l1)] [] h P
  refine V_iload_n 0 dX10_isOf_0 rfl rfl ?_
  refine V_iconst (-1) dX10_isOf_1 (by decide) ?_
  refine V_icmp_eq 17 dX10_isOf_2 (by decide) ⟨fun z => ?_, fun z => ?_⟩
  · replace k := k.1 z
    refine V_iconst 0 dX10_isOf_17 (by decide) ?_
    exact V_zreturn dX10_isOf_18 rfl (by decide) k
  · replace k := k.2 z
    refine V_iload_n 0 dX10_isOf_5 rfl rfl ?_
    refine V_bipush 28 dX10_isOf_6 (by decide) ?_
    refine V_idiv dX10_isOf_8 (by decide) ?_
    refine V_iload_n 1 dX10_isOf_9 rfl rfl ?_
    refine V_icmp_ne 17 dX10_isOf_10 (by decide) ⟨fun z => ?_, fun z => ?_⟩
    · replace k := k.1 z
      refine V_iconst 0 dX10_isOf_17 (by decide) ?_
      exact V_zreturn dX10_isOf_18 rfl (by decide) k
    · replace k := k.2 z
      refine V_iconst 1 dX10_isOf_13 (by decide) ?_
      refine V_goto 18 dX10_isOf_14 (by decide) ?_
      exact V_zreturn dX10_isOf_18 rfl (by decide) k
-- X10_both cuts []
set_option maxRecDepth 20000 in
set_option maxHeartbeats 2000000 in
theorem wX10_both {d bc bs : Nat} {h : HS} {P : Option AV → HS → Prop} {l0 : Int32} {l1 : Int32} {l2 : Int32} (k : (l0 = 1000010 → (P (some (aI (l1 + l2))) h)) ∧ (l0 = 1000011 → (P (some (aI (l1 - l2))) h)) ∧ (l0 = 1000012 → (P (some (aI (l1 * l2))) h)) ∧ (l0 = 1000013 → (¬ l2 = 0 ∧ (P (some (aI (l1 / l2))) h))) ∧ (l0 = 1000014 → (((l2 ≤ l1) → (P (some (aI 0)) h)) ∧ ((¬ l2 ≤ l1) → (P (some (aI 1)) h)))) ∧ (l0 = 1000015 → (((¬ l1 = l2) → (P (some (aI 0)) h)) ∧ ((l1 = l2) → (P (some (aI 1)) h)))) ∧ (l0 = 1000016 → (((l1 ≤ l2) → (P (some (aI 0)) h)) ∧ ((¬ l1 ≤ l2) → (P (some (aI 1)) h)))) ∧ (¬ (1000010 ≤ (l0).toInt ∧ (l0).toInt ≤ 1000016) → (P (some (aI (l1 &&& l2))) h))) : Cl true mX10_both (d + 1) bc bs [aI l0, aI l1, aI l2] h P := by
  refine Cl_of (by decide) (Nat.le_of_ble_eq_true rfl) ?_
  show V true mX10_both (d + 1) bc bs 0 [(0, aI l0), (1, aI l1), (2, aI l2)] [] h P
  refine V_iload_n 0 dX10_both_0 rfl rfl ?_
  obtain ⟨k0, k1, k2, k3, k4, k5, k6, k7⟩ := k
  rcases sw_cases l0 (1000010) (1000016) (by decide) (by decide) with zo | ⟨zn, zl, zx⟩
  · have k := k7 zo
    refine V_tabOut 93 dX10_both_1 (sw_out zo) (by decide) ?_
    refine V_iload_n 1 dX10_both_93 rfl rfl ?_
    refine V_iload_n 2 dX10_both_94 rfl rfl ?_
    refine V_iand dX10_both_95 ?_
    exact V_ireturn dX10_both_96 rfl k
  · match zn, zl, zx with
    | 0, _, zx =>
      have zx : l0 = 1000010 := zx
      have k := k0 zx
      refine V_tabIn 44 dX10_both_1 (by rw [zx]; decide) (by rw [zx]; decide) (by rw [zx]; rfl) (by decide) ?_
      refine V_iload_n 1 dX10_both_44 rfl rfl ?_
      refine V_iload_n 2 dX10_both_45 rfl rfl ?_
      refine V_iadd dX10_both_46 ?_
      exact V_ireturn dX10_both_47 rfl k
    | 1, _, zx =>
      have zx : l0 = 1000011 := zx
      have k := k1 zx
      refine V_tabIn 48 dX10_both_1 (by rw [zx]; decide) (by rw [zx]; decide) (by rw [zx]; rfl) (by decide) ?_
      refine V_iload_n 1 dX10_both_48 rfl rfl ?_
      refine V_iload_n 2 dX10_both_49 rfl rfl ?_
      refine V_isub dX10_both_50 ?_
      exact V_ireturn dX10_both_51 rfl k
    | 2, _, zx =>
      have zx : l0 = 1000012 := zx
      have k := k2 zx
      refine V_tabIn 52 dX10_both_1 (by rw [zx]; decide) (by rw [zx]; decide) (by rw [zx]; rfl) (by decide) ?_
      refine V_iload_n 1 dX10_both_52 rfl rfl ?_
      refine V_iload_n 2 dX10_both_53 rfl rfl ?_
      refine V_imul dX10_both_54 ?_
      exact V_ireturn dX10_both_55 rfl k
    | 3, _, zx =>
      have zx : l0 = 1000013 := zx
      have k := k3 zx
      refine V_tabIn 56 dX10_both_1 (by rw [zx]; decide) (by rw [zx]; decide) (by rw [zx]; rfl) (by decide) ?_
      refine V_iload_n 1 dX10_both_56 rfl rfl ?_
      refine V_iload_n 2 dX10_both_57 rfl rfl ?_
      refine V_idiv dX10_both_58 k.1 ?_
      replace k := k.2
      exact V_ireturn dX10_both_59 rfl k
    | 4, _, zx =>
      have zx : l0 = 1000014 := zx
      have k := k4 zx
      refine V_tabIn 60 dX10_both_1 (by rw [zx]; decide) (by rw [zx]; decide) (by rw [zx]; rfl) (by decide) ?_
      refine V_iload_n 1 dX10_both_60 rfl rfl ?_
      refine V_iload_n 2 dX10_both_61 rfl rfl ?_
      refine V_icmp_ge 69 dX10_both_62 (by decide) ⟨fun z => ?_, fun z => ?_⟩
      · replace k := k.1 z
        refine V_iconst 0 dX10_both_69 (by decide) ?_
        exact V_ireturn dX10_both_70 rfl k
      · replace k := k.2 z
        refine V_iconst 1 dX10_both_65 (by decide) ?_
        refine V_goto 70 dX10_both_66 (by decide) ?_
        exact V_ireturn dX10_both_70 rfl k
    | 5, _, zx =>
      have zx : l0 = 1000015 := zx
      have k := k5 zx
      refine V_tabIn 71 dX10_both_1 (by rw [zx]; decide) (by rw [zx]; decide) (by rw [zx]; rfl) (by decide) ?_
      refine V_iload_n 1 dX10_both_71 rfl rfl ?_
      refine V_iload_n 2 dX10_both_72 rfl rfl ?_
      refine V_icmp_ne 80 dX10_both_73 (by decide) ⟨fun z => ?_, fun z => ?_⟩
      · replace k := k.1 z
        refine V_iconst 0 dX10_both_80 (by decide) ?_
        exact V_ireturn dX10_both_81 rfl k
      · replace k := k.2 z
        refine V_iconst 1 dX10_both_76 (by decide) ?_
        refine V_goto 81 dX10_both_77 (by decide) ?_
        exact V_ireturn dX10_both_81 rfl k
    | 6, _, zx =>
      have zx : l0 = 1000016 := zx
      have k := k6 zx
      refine V_tabIn 82 dX10_both_1 (by rw [zx]; decide) (by rw [zx]; decide) (by rw [zx]; rfl) (by decide) ?_
      refine V_iload_n 1 dX10_both_82 rfl rfl ?_
      refine V_iload_n 2 dX10_both_83 rfl rfl ?_
      refine V_icmp_le 91 dX10_both_84 (by decide) ⟨fun z => ?_, fun z => ?_⟩
      · replace k := k.1 z
        refine V_iconst 0 dX10_both_91 (by decide) ?_
        exact V_ireturn dX10_both_92 rfl k
      · replace k := k.2 z
        refine V_iconst 1 dX10_both_87 (by decide) ?_
        refine V_goto 92 dX10_both_88 (by decide) ?_
        exact V_ireturn dX10_both_92 rfl k
    | n + 7, zl, _ => exact absurd zl (by omega)
-- X10_isMonth cuts []
set_option maxRecDepth 20000 in
set_option maxHeartbeats 2000000 in
theorem wX10_isMonth {d bc bs : Nat} {h : HS} {P : Option AV → HS → Prop} {l0 : Int32} (k : Cl true mX10_isIn d 0 0 [aI l0, aI 0, aI 12] h (fun r1 h2 => ∃ x3 : Int32, r1 = some (aI x3) ∧ ((x3 = 0 ∨ x3 = 1) ∧ P (some (aI x3)) h2))) : Cl true mX10_isMonth (d + 1) bc bs [aI l0] h P := by
  refine Cl_of (by decide) (Nat.le_of_ble_eq_true rfl) ?_
  show V true mX10_isMonth (d + 1) bc bs 0 [(0, aI l0)] [] h P
  refine V_iload_n 0 dX10_isMonth_0 rfl rfl ?_
  refine V_iconst 0 dX10_isMonth_1 (by decide) ?_
  refine V_bipush 12 dX10_isMonth_2 (by decide) ?_
  refine V_callS (mc := 0) (ms := 0) (as := [aI l0, aI 0, aI 12]) (st := []) dX10_isMonth_4 okX10_isIn stX10_isIn lkX10_111 rfl (Nat.le_of_ble_eq_true rfl) (Nat.zero_le _) (Nat.zero_le _) (Cl.mono (fun r1 h2 z => ?_) k)
  obtain ⟨x3, rfl, k⟩ := z
  exact V_zreturn dX10_isMonth_7 rfl k.1 k.2

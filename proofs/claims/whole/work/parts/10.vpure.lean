-- X10_isIn cuts []
set_option maxRecDepth 20000 in
set_option maxHeartbeats 2000000 in
theorem wX10_isIn {d bc bs : Nat} {h : HS} {P : Option AV → HS → Prop} {l0 : Int32} {l1 : Int32} {l2 : Int32} (k : ((l0 < l1) → (P (some (aI 0)) h)) ∧ ((¬ l0 < l1) → (((l2 < l0) → (P (some (aI 0)) h)) ∧ ((¬ l2 < l0) → (P (some (aI 1)) h))))) : Cl true mX10_isIn (d + 1) bc bs [aI l0, aI l1, aI l2] h P := by
  refine Cl_of (by decide) (Nat.le_of_ble_eq_true rfl) ?_
  show V true mX10_isIn (d + 1) bc bs 0 [(0, aI l0), (1, aI l1), (2, aI l2)] [] h P
  refine V_iload_n 0 dX10_isIn_0 rfl rfl ?_
  refine V_iload_n 1 dX10_isIn_1 rfl rfl ?_
  refine V_icmp_lt 14 dX10_isIn_2 (by decide) ⟨fun z => ?_, fun z => ?_⟩
  · replace k := k.1 z
    refine V_iconst 0 dX10_isIn_14 (by decide) ?_
    exact V_zreturn dX10_isIn_15 rfl (by decide) k
  · replace k := k.2 z
    refine V_iload_n 0 dX10_isIn_5 rfl rfl ?_
    refine V_iload_n 2 dX10_isIn_6 rfl rfl ?_
    refine V_icmp_gt 14 dX10_isIn_7 (by decide) ⟨fun z => ?_, fun z => ?_⟩
    · replace k := k.1 z
      refine V_iconst 0 dX10_isIn_14 (by decide) ?_
      exact V_zreturn dX10_isIn_15 rfl (by decide) k
    · replace k := k.2 z
      refine V_iconst 1 dX10_isIn_10 (by decide) ?_
      refine V_goto 15 dX10_isIn_11 (by decide) ?_
      exact V_zreturn dX10_isIn_15 rfl (by decide) k
-- X10_isThing cuts []
set_option maxRecDepth 20000 in
set_option maxHeartbeats 2000000 in
theorem wX10_isThing {d bc bs : Nat} {h : HS} {P : Option AV → HS → Prop} {l1 : Int32} (k : Cl true mX10_isIn d 0 0 [aI l1, aI 0, aI ((gI h 26 0 1) - 1)] h (fun r1 h2 => ∃ x3 : Int32, r1 = some (aI x3) ∧ ((x3 = 0 ∨ x3 = 1) ∧ P (some (aI x3)) h2))) : Cl true mX10_isThing (d + 1) bc bs [aR 26 0, aI l1] h P := by
  refine Cl_of (by decide) (Nat.le_of_ble_eq_true rfl) ?_
  show V true mX10_isThing (d + 1) bc bs 0 [(0, aR 26 0), (1, aI l1)] [] h P
  refine V_iload_n 1 dX10_isThing_0 rfl rfl ?_
  refine V_iconst 0 dX10_isThing_1 (by decide) ?_
  refine V_aload_n 0 dX10_isThing_2 rfl rfl ?_
  refine GI_26_1 dX10_isThing_3 lkX10_108 ?_
  refine V_iconst 1 dX10_isThing_6 (by decide) ?_
  refine V_isub dX10_isThing_7 ?_
  refine V_callS (mc := 0) (ms := 0) (as := [aI l1, aI 0, aI ((gI h 26 0 1) - 1)]) (st := []) dX10_isThing_8 okX10_isIn stX10_isIn lkX10_111 rfl (Nat.le_of_ble_eq_true rfl) (Nat.zero_le _) (Nat.zero_le _) (Cl.mono (fun r1 h2 z => ?_) k)
  obtain ⟨x3, rfl, k⟩ := z
  exact V_zreturn dX10_isThing_11 rfl k.1 k.2
-- X10_isTag cuts []
set_option maxRecDepth 20000 in
set_option maxHeartbeats 2000000 in
theorem wX10_isTag {d bc bs : Nat} {h : HS} {P : Option AV → HS → Prop} {l0 : Int32} (k : Cl true mX10_isIn d 0 0 [aI l0, aI 1, aI 9999] h (fun r1 h2 => ∃ x3 : Int32, r1 = some (aI x3) ∧ ((x3 = 0 ∨ x3 = 1) ∧ P (some (aI x3)) h2))) : Cl true mX10_isTag (d + 1) bc bs [aI l0] h P := by
  refine Cl_of (by decide) (Nat.le_of_ble_eq_true rfl) ?_
  show V true mX10_isTag (d + 1) bc bs 0 [(0, aI l0)] [] h P
  refine V_iload_n 0 dX10_isTag_0 rfl rfl ?_
  refine V_iconst 1 dX10_isTag_1 (by decide) ?_
  refine V_sipush 9999 dX10_isTag_2 (by decide) ?_
  refine V_callS (mc := 0) (ms := 0) (as := [aI l0, aI 1, aI 9999]) (st := []) dX10_isTag_5 okX10_isIn stX10_isIn lkX10_111 rfl (Nat.le_of_ble_eq_true rfl) (Nat.zero_le _) (Nat.zero_le _) (Cl.mono (fun r1 h2 z => ?_) k)
  obtain ⟨x3, rfl, k⟩ := z
  exact V_zreturn dX10_isTag_8 rfl k.1 k.2
-- X10_isSlip cuts []
set_option maxRecDepth 20000 in
set_option maxHeartbeats 2000000 in
theorem wX10_isSlip {d bc bs : Nat} {h : HS} {P : Option AV → HS → Prop} {l1 : Int32} (k : Cl true mX10_isIn d 0 0 [aI l1, aI 0, aI ((gI h 26 0 2) - 1)] h (fun r1 h2 => ∃ x3 : Int32, r1 = some (aI x3) ∧ ((x3 = 0 ∨ x3 = 1) ∧ P (some (aI x3)) h2))) : Cl true mX10_isSlip (d + 1) bc bs [aR 26 0, aI l1] h P := by
  refine Cl_of (by decide) (Nat.le_of_ble_eq_true rfl) ?_
  show V true mX10_isSlip (d + 1) bc bs 0 [(0, aR 26 0), (1, aI l1)] [] h P
  refine V_iload_n 1 dX10_isSlip_0 rfl rfl ?_
  refine V_iconst 0 dX10_isSlip_1 (by decide) ?_
  refine V_aload_n 0 dX10_isSlip_2 rfl rfl ?_
  refine GI_26_2 dX10_isSlip_3 lkX10_125 ?_
  refine V_iconst 1 dX10_isSlip_6 (by decide) ?_
  refine V_isub dX10_isSlip_7 ?_
  refine V_callS (mc := 0) (ms := 0) (as := [aI l1, aI 0, aI ((gI h 26 0 2) - 1)]) (st := []) dX10_isSlip_8 okX10_isIn stX10_isIn lkX10_111 rfl (Nat.le_of_ble_eq_true rfl) (Nat.zero_le _) (Nat.zero_le _) (Cl.mono (fun r1 h2 z => ?_) k)
  obtain ⟨x3, rfl, k⟩ := z
  exact V_zreturn dX10_isSlip_11 rfl k.1 k.2
-- X10_isParcel cuts []
set_option maxRecDepth 20000 in
set_option maxHeartbeats 2000000 in
theorem wX10_isParcel {d bc bs : Nat} {h : HS} {P : Option AV → HS → Prop} {l1 : Int32} (k : vp_in l1 120 ∧ ((((gI h 37 0 l1.toNatClampNeg) = (-1)) → (P (some (aI 0)) h)) ∧ ((¬ (gI h 37 0 l1.toNatClampNeg) = (-1)) → (vp_in l1 120 ∧ (((¬ (gI h 42 0 l1.toNatClampNeg) = (-1)) → (P (some (aI 0)) h)) ∧ (((gI h 42 0 l1.toNatClampNeg) = (-1)) → (vp_in l1 120 ∧ (((¬ (gI h 41 0 l1.toNatClampNeg) = (-1)) → (P (some (aI 0)) h)) ∧ (((gI h 41 0 l1.toNatClampNeg) = (-1)) → (P (some (aI 1)) h)))))))))) : Cl true mX10_isParcel (d + 1) bc bs [aR 26 0, aI l1] h P := by
  refine Cl_of (by decide) (Nat.le_of_ble_eq_true rfl) ?_
  show V true mX10_isParcel (d + 1) bc bs 0 [(0, aR 26 0), (1, aI l1)] [] h P
  refine V_aload_n 0 dX10_isParcel_0 rfl rfl ?_
  refine GS_26_13 dX10_isParcel_1 lkX10_40 ?_
  refine V_iload_n 1 dX10_isParcel_4 rfl rfl ?_
  refine V_iald (by decide) rt_37 dX10_isParcel_5 k.1 ?_
  replace k := k.2
  refine V_iconst (-1) dX10_isParcel_6 (by decide) ?_
  refine V_icmp_eq 34 dX10_isParcel_7 (by decide) ⟨fun z => ?_, fun z => ?_⟩
  · replace k := k.1 z
    refine V_iconst 0 dX10_isParcel_34 (by decide) ?_
    exact V_zreturn dX10_isParcel_35 rfl (by decide) k
  · replace k := k.2 z
    refine V_aload_n 0 dX10_isParcel_10 rfl rfl ?_
    refine GS_26_18 dX10_isParcel_11 lkX10_55 ?_
    refine V_iload_n 1 dX10_isParcel_14 rfl rfl ?_
    refine V_iald (by decide) rt_42 dX10_isParcel_15 k.1 ?_
    replace k := k.2
    refine V_iconst (-1) dX10_isParcel_16 (by decide) ?_
    refine V_icmp_ne 34 dX10_isParcel_17 (by decide) ⟨fun z => ?_, fun z => ?_⟩
    · replace k := k.1 z
      refine V_iconst 0 dX10_isParcel_34 (by decide) ?_
      exact V_zreturn dX10_isParcel_35 rfl (by decide) k
    · replace k := k.2 z
      refine V_aload_n 0 dX10_isParcel_20 rfl rfl ?_
      refine GS_26_17 dX10_isParcel_21 lkX10_52 ?_
      refine V_iload_n 1 dX10_isParcel_24 rfl rfl ?_
      refine V_iald (by decide) rt_41 dX10_isParcel_25 k.1 ?_
      replace k := k.2
      refine V_iconst (-1) dX10_isParcel_26 (by decide) ?_
      refine V_icmp_ne 34 dX10_isParcel_27 (by decide) ⟨fun z => ?_, fun z => ?_⟩
      · replace k := k.1 z
        refine V_iconst 0 dX10_isParcel_34 (by decide) ?_
        exact V_zreturn dX10_isParcel_35 rfl (by decide) k
      · replace k := k.2 z
        refine V_iconst 1 dX10_isParcel_30 (by decide) ?_
        refine V_goto 35 dX10_isParcel_31 (by decide) ?_
        exact V_zreturn dX10_isParcel_35 rfl (by decide) k
-- X10_see cuts []
set_option maxRecDepth 20000 in
set_option maxHeartbeats 2000000 in
theorem wX10_see {d bc bs : Nat} {h : HS} {P : Option AV → HS → Prop} {l1 : Int32} (k : (((gI h 26 0 35) ≤ l1) → (P (some (aI (-1))) h)) ∧ ((¬ (gI h 26 0 35) ≤ l1) → (vp_in l1 400 ∧ (P (some (aI (gI h 53 0 l1.toNatClampNeg))) h)))) : Cl true mX10_see (d + 1) bc bs [aR 26 0, aI l1] h P := by
  refine Cl_of (by decide) (Nat.le_of_ble_eq_true rfl) ?_
  show V true mX10_see (d + 1) bc bs 0 [(0, aR 26 0), (1, aI l1)] [] h P
  refine V_iload_n 1 dX10_see_0 rfl rfl ?_
  refine V_aload_n 0 dX10_see_1 rfl rfl ?_
  refine GI_26_35 dX10_see_2 lkX10_143 ?_
  refine V_icmp_ge 17 dX10_see_5 (by decide) ⟨fun z => ?_, fun z => ?_⟩
  · replace k := k.1 z
    refine V_iconst (-1) dX10_see_17 (by decide) ?_
    exact V_ireturn dX10_see_18 rfl k
  · replace k := k.2 z
    refine V_aload_n 0 dX10_see_8 rfl rfl ?_
    refine GS_26_34 dX10_see_9 lkX10_89 ?_
    refine V_iload_n 1 dX10_see_12 rfl rfl ?_
    refine V_iald (by decide) rt_53 dX10_see_13 k.1 ?_
    replace k := k.2
    refine V_goto 18 dX10_see_14 (by decide) ?_
    exact V_ireturn dX10_see_18 rfl k
-- X10_isLetter cuts []
set_option maxRecDepth 20000 in
set_option maxHeartbeats 2000000 in
theorem wX10_isLetter {d bc bs : Nat} {h : HS} {P : Option AV → HS → Prop} {l0 : Int32} (k : Cl true mX10_isIn d 0 0 [aI l0, aI 97, aI 122] h (fun r1 h2 => ∃ x3 : Int32, r1 = some (aI x3) ∧ (((¬ x3 = 0) → (P (some (aI 1)) h2)) ∧ ((x3 = 0) → (Cl true mX10_isIn d 0 0 [aI l0, aI 65, aI 90] h2 (fun r4 h5 => ∃ x6 : Int32, r4 = some (aI x6) ∧ (((x6 = 0) → (P (some (aI 0)) h5)) ∧ ((¬ x6 = 0) → (P (some (aI 1)) h5))))))))) : Cl true mX10_isLetter (d + 1) bc bs [aI l0] h P := by
  refine Cl_of (by decide) (Nat.le_of_ble_eq_true rfl) ?_
  show V true mX10_isLetter (d + 1) bc bs 0 [(0, aI l0)] [] h P
  refine V_iload_n 0 dX10_isLetter_0 rfl rfl ?_
  refine V_bipush 97 dX10_isLetter_1 (by decide) ?_
  refine V_bipush 122 dX10_isLetter_3 (by decide) ?_
  refine V_callS (mc := 0) (ms := 0) (as := [aI l0, aI 97, aI 122]) (st := []) dX10_isLetter_5 okX10_isIn stX10_isIn lkX10_111 rfl (Nat.le_of_ble_eq_true rfl) (Nat.zero_le _) (Nat.zero_le _) (Cl.mono (fun r1 h2 z => ?_) k)
  obtain ⟨x3, rfl, k⟩ := z
  refine V_if_ne 22 dX10_isLetter_8 (by decide) ⟨fun z => ?_, fun z => ?_⟩
  · replace k := k.1 z
    refine V_iconst 1 dX10_isLetter_22 (by decide) ?_
    refine V_goto 27 dX10_isLetter_23 (by decide) ?_
    exact V_zreturn dX10_isLetter_27 rfl (by decide) k
  · replace k := k.2 z
    refine V_iload_n 0 dX10_isLetter_11 rfl rfl ?_
    refine V_bipush 65 dX10_isLetter_12 (by decide) ?_
    refine V_bipush 90 dX10_isLetter_14 (by decide) ?_
    refine V_callS (mc := 0) (ms := 0) (as := [aI l0, aI 65, aI 90]) (st := []) dX10_isLetter_16 okX10_isIn stX10_isIn lkX10_111 rfl (Nat.le_of_ble_eq_true rfl) (Nat.zero_le _) (Nat.zero_le _) (Cl.mono (fun r4 h5 z => ?_) k)
    obtain ⟨x6, rfl, k⟩ := z
    refine V_if_eq 26 dX10_isLetter_19 (by decide) ⟨fun z => ?_, fun z => ?_⟩
    · replace k := k.1 z
      refine V_iconst 0 dX10_isLetter_26 (by decide) ?_
      exact V_zreturn dX10_isLetter_27 rfl (by decide) k
    · replace k := k.2 z
      refine V_iconst 1 dX10_isLetter_22 (by decide) ?_
      refine V_goto 27 dX10_isLetter_23 (by decide) ?_
      exact V_zreturn dX10_isLetter_27 rfl (by decide) k
-- X10_isDigit cuts []
set_option maxRecDepth 20000 in
set_option maxHeartbeats 2000000 in
theorem wX10_isDigit {d bc bs : Nat} {h : HS} {P : Option AV → HS → Prop} {l0 : Int32} (k : Cl true mX10_isIn d 0 0 [aI l0, aI 48, aI 57] h (fun r1 h2 => ∃ x3 : Int32, r1 = some (aI x3) ∧ ((x3 = 0 ∨ x3 = 1) ∧ P (some (aI x3)) h2))) : Cl true mX10_isDigit (d + 1) bc bs [aI l0] h P := by
  refine Cl_of (by decide) (Nat.le_of_ble_eq_true rfl) ?_
  show V true mX10_isDigit (d + 1) bc bs 0 [(0, aI l0)] [] h P
  refine V_iload_n 0 dX10_isDigit_0 rfl rfl ?_
  refine V_bipush 48 dX10_isDigit_1 (by decide) ?_
  refine V_bipush 57 dX10_isDigit_3 (by decide) ?_
  refine V_callS (mc := 0) (ms := 0) (as := [aI l0, aI 48, aI 57]) (st := []) dX10_isDigit_5 okX10_isIn stX10_isIn lkX10_111 rfl (Nat.le_of_ble_eq_true rfl) (Nat.zero_le _) (Nat.zero_le _) (Cl.mono (fun r1 h2 z => ?_) k)
  obtain ⟨x3, rfl, k⟩ := z
  exact V_zreturn dX10_isDigit_8 rfl k.1 k.2
-- X10_word cuts []
set_option maxRecDepth 20000 in
set_option maxHeartbeats 2000000 in
theorem wX10_word {d bc bs : Nat} {h : HS} {P : Option AV → HS → Prop} {l0 : Int64} (k : ((¬ (lg_cmp l0 7364985) = 0) → (((¬ (lg_cmp l0 2003330414) = 0) → (((¬ (lg_cmp l0 6385252) = 0) → (((¬ (lg_cmp l0 7566701) = 0) → (((¬ (lg_cmp l0 495740088435) = 0) → (((¬ (lg_cmp l0 1650549611) = 0) → (((¬ (lg_cmp l0 470020945000) = 0) → (P (some (aI 1)) h)) ∧ (((lg_cmp l0 470020945000) = 0) → (P (some (aI 1000004)) h)))) ∧ (((lg_cmp l0 1650549611) = 0) → (P (some (aI 1000003)) h)))) ∧ (((lg_cmp l0 495740088435) = 0) → (P (some (aI 1000002)) h)))) ∧ (((lg_cmp l0 7566701) = 0) → (P (some (aI 1000001)) h)))) ∧ (((lg_cmp l0 6385252) = 0) → (P (some (aI 5)) h)))) ∧ (((lg_cmp l0 2003330414) = 0) → (P (some (aI 4)) h)))) ∧ (((lg_cmp l0 7364985) = 0) → (P (some (aI 3)) h))) : Cl true mX10_word (d + 1) bc bs [aL l0] h P := by
  refine Cl_of (by decide) (Nat.le_of_ble_eq_true rfl) ?_
  show V true mX10_word (d + 1) bc bs 0 [(0, aL l0)] [] h P
  refine V_lload_n 0 dX10_word_0 rfl rfl ?_
  refine V_ldc2 7364985 dX10_word_1 lkX10_146 ?_
  refine V_lcmp dX10_word_4 ?_
  refine V_if_ne 10 dX10_word_5 (by decide) ⟨fun z => ?_, fun z => ?_⟩
  · replace k := k.1 z
    refine V_lload_n 0 dX10_word_10 rfl rfl ?_
    refine V_ldc2 2003330414 dX10_word_11 lkX10_148 ?_
    refine V_lcmp dX10_word_14 ?_
    refine V_if_ne 20 dX10_word_15 (by decide) ⟨fun z => ?_, fun z => ?_⟩
    · replace k := k.1 z
      refine V_lload_n 0 dX10_word_20 rfl rfl ?_
      refine V_ldc2 6385252 dX10_word_21 lkX10_150 ?_
      refine V_lcmp dX10_word_24 ?_
      refine V_if_ne 30 dX10_word_25 (by decide) ⟨fun z => ?_, fun z => ?_⟩
      · replace k := k.1 z
        refine V_lload_n 0 dX10_word_30 rfl rfl ?_
        refine V_ldc2 7566701 dX10_word_31 lkX10_152 ?_
        refine V_lcmp dX10_word_34 ?_
        refine V_if_ne 41 dX10_word_35 (by decide) ⟨fun z => ?_, fun z => ?_⟩
        · replace k := k.1 z
          refine V_lload_n 0 dX10_word_41 rfl rfl ?_
          refine V_ldc2 495740088435 dX10_word_42 lkX10_155 ?_
          refine V_lcmp dX10_word_45 ?_
          refine V_if_ne 52 dX10_word_46 (by decide) ⟨fun z => ?_, fun z => ?_⟩
          · replace k := k.1 z
            refine V_lload_n 0 dX10_word_52 rfl rfl ?_
            refine V_ldc2 1650549611 dX10_word_53 lkX10_158 ?_
            refine V_lcmp dX10_word_56 ?_
            refine V_if_ne 63 dX10_word_57 (by decide) ⟨fun z => ?_, fun z => ?_⟩
            · replace k := k.1 z
              refine V_lload_n 0 dX10_word_63 rfl rfl ?_
              refine V_ldc2 470020945000 dX10_word_64 lkX10_161 ?_
              refine V_lcmp dX10_word_67 ?_
              refine V_if_ne 76 dX10_word_68 (by decide) ⟨fun z => ?_, fun z => ?_⟩
              · replace k := k.1 z
                refine V_iconst 1 dX10_word_76 (by decide) ?_
                exact V_ireturn dX10_word_77 rfl k
              · replace k := k.2 z
                refine V_ldc 1000004 dX10_word_71 lkX10_163 ?_
                refine V_goto 77 dX10_word_73 (by decide) ?_
                exact V_ireturn dX10_word_77 rfl k
            · replace k := k.2 z
              refine V_ldc 1000003 dX10_word_60 lkX10_160 ?_
              exact V_ireturn dX10_word_62 rfl k
          · replace k := k.2 z
            refine V_ldc 1000002 dX10_word_49 lkX10_157 ?_
            exact V_ireturn dX10_word_51 rfl k
        · replace k := k.2 z
          refine V_ldc 1000001 dX10_word_38 lkX10_154 ?_
          exact V_ireturn dX10_word_40 rfl k
      · replace k := k.2 z
        refine V_iconst 5 dX10_word_28 (by decide) ?_
        exact V_ireturn dX10_word_29 rfl k
    · replace k := k.2 z
      refine V_iconst 4 dX10_word_18 (by decide) ?_
      exact V_ireturn dX10_word_19 rfl k
  · replace k := k.2 z
    refine V_iconst 3 dX10_word_8 (by decide) ?_
    exact V_ireturn dX10_word_9 rfl k
-- X10_isOf cuts []
set_option maxRecDepth 20000 in
set_option maxHeartbeats 2000000 in
theorem wX10_isOf {d bc bs : Nat} {h : HS} {P : Option AV → HS → Prop} {l0 : Int32} {l1 : Int32} (k : ((l0 = (-1)) → (P (some (aI 0)) h)) ∧ ((¬ l0 = (-1)) → (((¬ (l0 / 28) = l1) → (P (some (aI 0)) h)) ∧ (((l0 / 28) = l1) → (P (some (aI 1)) h))))) : Cl true mX10_isOf (d + 1) bc bs [aI l0, aI l1] h P := by
  refine Cl_of (by decide) (Nat.le_of_ble_eq_true rfl) ?_
  show V true mX10_isOf (d + 1) bc bs 0 [(0, aI l0), (1, aI l1)] [] h P
  refine V_iload_n 0 dX10_isOf_0 rfl rfl ?_
  refine V_iconst (-1) dX10_isOf_1 (by decide) ?_
  refine V_icmp_eq 17 dX10_isOf_2 (by decide) ⟨fun z => ?_, fun z => ?_⟩
  · replace k := k.1 z
    refine V_iconst 0 dX10_isOf_17 (by decide) ?_
    exact V_zreturn dX10_isOf_18 rfl (by decide) k
  · replace k := k.2 z
    refine V_iload_n 0 dX10_isOf_5 rfl rfl ?_
    refine V_bipush 28 dX10_isOf_6 (by decide) ?_
    refine V_idiv dX10_isOf_8 (by decide) ?_
    refine V_iload_n 1 dX10_isOf_9 rfl rfl ?_
    refine V_icmp_ne 17 dX10_isOf_10 (by decide) ⟨fun z => ?_, fun z => ?_⟩
    · replace k := k.1 z
      refine V_iconst 0 dX10_isOf_17 (by decide) ?_
      exact V_zreturn dX10_isOf_18 rfl (by decide) k
    · replace k := k.2 z
      refine V_iconst 1 dX10_isOf_13 (by decide) ?_
      refine V_goto 18 dX10_isOf_14 (by decide) ?_
      exact V_zreturn dX10_isOf_18 rfl (by decide) k
-- X10_both cuts []
set_option maxRecDepth 20000 in
set_option maxHeartbeats 2000000 in
theorem wX10_both {d bc bs : Nat} {h : HS} {P : Option AV → HS → Prop} {l0 : Int32} {l1 : Int32} {l2 : Int32} (k : (l0 = 1000010 → (P (some (aI (l1 + l2))) h)) ∧ (l0 = 1000011 → (P (some (aI (l1 - l2))) h)) ∧ (l0 = 1000012 → (P (some (aI (l1 * l2))) h)) ∧ (l0 = 1000013 → (¬ l2 = 0 ∧ (P (some (aI (l1 / l2))) h))) ∧ (l0 = 1000014 → (((l2 ≤ l1) → (P (some (aI 0)) h)) ∧ ((¬ l2 ≤ l1) → (P (some (aI 1)) h)))) ∧ (l0 = 1000015 → (((¬ l1 = l2) → (P (some (aI 0)) h)) ∧ ((l1 = l2) → (P (some (aI 1)) h)))) ∧ (l0 = 1000016 → (((l1 ≤ l2) → (P (some (aI 0)) h)) ∧ ((¬ l1 ≤ l2) → (P (some (aI 1)) h)))) ∧ (¬ (1000010 ≤ (l0).toInt ∧ (l0).toInt ≤ 1000016) → (P (some (aI (l1 &&& l2))) h))) : Cl true mX10_both (d + 1) bc bs [aI l0, aI l1, aI l2] h P := by
  refine Cl_of (by decide) (Nat.le_of_ble_eq_true rfl) ?_
  show V true mX10_both (d + 1) bc bs 0 [(0, aI l0), (1, aI l1), (2, aI l2)] [] h P
  refine V_iload_n 0 dX10_both_0 rfl rfl ?_
  obtain ⟨k0, k1, k2, k3, k4, k5, k6, k7⟩ := k
  rcases sw_cases l0 (1000010) (1000016) (by decide) (by decide) with zo | ⟨zn, zl, zx⟩
  · have k := k7 zo
    refine V_tabOut 93 dX10_both_1 (sw_out zo) (by decide) ?_
    refine V_iload_n 1 dX10_both_93 rfl rfl ?_
    refine V_iload_n 2 dX10_both_94 rfl rfl ?_
    refine V_iand dX10_both_95 ?_
    exact V_ireturn dX10_both_96 rfl k
  · match zn, zl, zx with
    | 0, _, zx =>
      have zx : l0 = 1000010 := zx
      have k := k0 zx
      refine V_tabIn 44 dX10_both_1 (by rw [zx]; decide) (by rw [zx]; decide) (by rw [zx]; rfl) (by decide) ?_
      refine V_iload_n 1 dX10_both_44 rfl rfl ?_
      refine V_iload_n 2 dX10_both_45 rfl rfl ?_
      refine V_iadd dX10_both_46 ?_
      exact V_ireturn dX10_both_47 rfl k
    | 1, _, zx =>
      have zx : l0 = 1000011 := zx
      have k := k1 zx
      refine V_tabIn 48 dX10_both_1 (by rw [zx]; decide) (by rw [zx]; decide) (by rw [zx]; rfl) (by decide) ?_
      refine V_iload_n 1 dX10_both_48 rfl rfl ?_
      refine V_iload_n 2 dX10_both_49 rfl rfl ?_
      refine V_isub dX10_both_50 ?_
      exact V_ireturn dX10_both_51 rfl k
    | 2, _, zx =>
      have zx : l0 = 1000012 := zx
      have k := k2 zx
      refine V_tabIn 52 dX10_both_1 (by rw [zx]; decide) (by rw [zx]; decide) (by rw [zx]; rfl) (by decide) ?_
      refine V_iload_n 1 dX10_both_52 rfl rfl ?_
      refine V_iload_n 2 dX10_both_53 rfl rfl ?_
      refine V_imul dX10_both_54 ?_
      exact V_ireturn dX10_both_55 rfl k
    | 3, _, zx =>
      have zx : l0 = 1000013 := zx
      have k := k3 zx
      refine V_tabIn 56 dX10_both_1 (by rw [zx]; decide) (by rw [zx]; decide) (by rw [zx]; rfl) (by decide) ?_
      refine V_iload_n 1 dX10_both_56 rfl rfl ?_
      refine V_iload_n 2 dX10_both_57 rfl rfl ?_
      refine V_idiv dX10_both_58 k.1 ?_
      replace k := k.2
      exact V_ireturn dX10_both_59 rfl k
    | 4, _, zx =>
      have zx : l0 = 1000014 := zx
      have k := k4 zx
      refine V_tabIn 60 dX10_both_1 (by rw [zx]; decide) (by rw [zx]; decide) (by rw [zx]; rfl) (by decide) ?_
      refine V_iload_n 1 dX10_both_60 rfl rfl ?_
      refine V_iload_n 2 dX10_both_61 rfl rfl ?_
      refine V_icmp_ge 69 dX10_both_62 (by decide) ⟨fun z => ?_, fun z => ?_⟩
      · replace k := k.1 z
        refine V_iconst 0 dX10_both_69 (by decide) ?_
        exact V_ireturn dX10_both_70 rfl k
      · replace k := k.2 z
        refine V_iconst 1 dX10_both_65 (by decide) ?_
        refine V_goto 70 dX10_both_66 (by decide) ?_
        exact V_ireturn dX10_both_70 rfl k
    | 5, _, zx =>
      have zx : l0 = 1000015 := zx
      have k := k5 zx
      refine V_tabIn 71 dX10_both_1 (by rw [zx]; decide) (by rw [zx]; decide) (by rw [zx]; rfl) (by decide) ?_
      refine V_iload_n 1 dX10_both_71 rfl rfl ?_
      refine V_iload_n 2 dX10_both_72 rfl rfl ?_
      refine V_icmp_ne 80 dX10_both_73 (by decide) ⟨fun z => ?_, fun z => ?_⟩
      · replace k := k.1 z
        refine V_iconst 0 dX10_both_80 (by decide) ?_
        exact V_ireturn dX10_both_81 rfl k
      · replace k := k.2 z
        refine V_iconst 1 dX10_both_76 (by decide) ?_
        refine V_goto 81 dX10_both_77 (by decide) ?_
        exact V_ireturn dX10_both_81 rfl k
    | 6, _, zx =>
      have zx : l0 = 1000016 := zx
      have k := k6 zx
      refine V_tabIn 82 dX10_both_1 (by rw [zx]; decide) (by rw [zx]; decide) (by rw [zx]; rfl) (by decide) ?_
      refine V_iload_n 1 dX10_both_82 rfl rfl ?_
      refine V_iload_n 2 dX10_both_83 rfl rfl ?_
      refine V_icmp_le 91 dX10_both_84 (by decide) ⟨fun z => ?_, fun z => ?_⟩
      · replace k := k.1 z
        refine V_iconst 0 dX10_both_91 (by decide) ?_
        exact V_ireturn dX10_both_92 rfl k
      · replace k := k.2 z
        refine V_iconst 1 dX10_both_87 (by decide) ?_
        refine V_goto 92 dX10_both_88 (by decide) ?_
        exact V_ireturn dX10_both_92 rfl k
    | n + 7, zl, _ => exact absurd zl (by omega)
-- X10_isMonth cuts []
set_option maxRecDepth 20000 in
set_option maxHeartbeats 2000000 in
theorem wX10_isMonth {d bc bs : Nat} {h : HS} {P : Option AV → HS → Prop} {l0 : Int32} (k : Cl true mX10_isIn d 0 0 [aI l0, aI 0, aI 12] h (fun r1 h2 => ∃ x3 : Int32, r1 = some (aI x3) ∧ ((x3 = 0 ∨ x3 = 1) ∧ P (some (aI x3)) h2))) : Cl true mX10_isMonth (d + 1) bc bs [aI l0] h P := by
  refine Cl_of (by decide) (Nat.le_of_ble_eq_true rfl) ?_
  show V true mX10_isMonth (d + 1) bc bs 0 [(0, aI l0)] [] h P
  refine V_iload_n 0 dX10_isMonth_0 rfl rfl ?_
  refine V_iconst 0 dX10_isMonth_1 (by decide) ?_
  refine V_bipush 12 dX10_isMonth_2 (by decide) ?_
  refine V_callS (mc := 0) (ms := 0) (as := [aI l0, aI 0, aI 12]) (st := []) dX10_isMonth_4 okX10_isIn stX10_isIn lkX10_111 rfl (Nat.le_of_ble_eq_true rfl) (Nat.zero_le _) (Nat.zero_le _) (Cl.mono (fun r1 h2 z => ?_) k)
  obtain ⟨x3, rfl, k⟩ := z
  exact V_zreturn dX10_isMonth_7 rfl k.1 k.2
-- X1_part cuts []
set_option maxRecDepth 20000 in
set_option maxHeartbeats 2000000 in
theorem wX1_part {d bc bs : Nat} {h : HS} {P : Option AV → HS → Prop} {l0 : Int32} {l1 : Int32} (k : ((¬ l1 = 0) → (¬ l1 = 0 ∧ (P (some (aI (l0 / l1))) h))) ∧ ((l1 = 0) → (P (some (aI 0)) h))) : Cl true mX1_part (d + 1) bc bs [aI l0, aI l1] h P := by
  refine Cl_of (by decide) (Nat.le_of_ble_eq_true rfl) ?_
  show V true mX1_part (d + 1) bc bs 0 [(0, aI l0), (1, aI l1)] [] h P
  refine V_iload_n 1 dX1_part_0 rfl rfl ?_
  refine V_if_ne 8 dX1_part_1 (by decide) ⟨fun z => ?_, fun z => ?_⟩
  · replace k := k.1 z
    refine V_iload_n 0 dX1_part_8 rfl rfl ?_
    refine V_iload_n 1 dX1_part_9 rfl rfl ?_
    refine V_idiv dX1_part_10 k.1 ?_
    replace k := k.2
    exact V_ireturn dX1_part_11 rfl k
  · replace k := k.2 z
    refine V_iconst 0 dX1_part_4 (by decide) ?_
    refine V_goto 11 dX1_part_5 (by decide) ?_
    exact V_ireturn dX1_part_11 rfl k
-- X1_joined cuts []
set_option maxRecDepth 20000 in
set_option maxHeartbeats 2000000 in
theorem wX1_joined {d bc bs : Nat} {h : HS} {P : Option AV → HS → Prop} {l0 : Int32} {l1 : Int32} {l2 : Int32} (k : (l0 = 42 → (P (some (aI (l1 * l2))) h)) ∧ (l0 = 43 → (P (some (aI (l1 + l2))) h)) ∧ (l0 = 45 → (P (some (aI (l1 - l2))) h)) ∧ (l0 = 60 → (((l2 ≤ l1) → (P (some (aI 0)) h)) ∧ ((¬ l2 ≤ l1) → (P (some (aI 1)) h)))) ∧ (l0 = 61 → (((¬ l1 = l2) → (P (some (aI 0)) h)) ∧ ((l1 = l2) → (P (some (aI 1)) h)))) ∧ (l0 = 62 → (((l1 ≤ l2) → (P (some (aI 0)) h)) ∧ ((¬ l1 ≤ l2) → (P (some (aI 1)) h)))) ∧ (¬ l0 = 42 ∧ ¬ l0 = 43 ∧ ¬ l0 = 45 ∧ ¬ l0 = 60 ∧ ¬ l0 = 61 ∧ ¬ l0 = 62 → (P (some (aI (l1 &&& l2))) h))) : Cl true mX1_joined (d + 1) bc bs [aI l0, aI l1, aI l2] h P := by
  refine Cl_of (by decide) (Nat.le_of_ble_eq_true rfl) ?_
  show V true mX1_joined (d + 1) bc bs 0 [(0, aI l0), (1, aI l1), (2, aI l2)] [] h P
  refine V_iload_n 0 dX1_joined_0 rfl rfl ?_
  obtain ⟨k0, k1, k2, k3, k4, k5, k6⟩ := k
  by_cases z0 : l0 = 42
  · have k := k0 z0
    refine V_lookup (off := 67) 68 dX1_joined_1 (by decide) (by rw [z0] <;> decide) (by decide) ?_
    refine V_iload_n 1 dX1_joined_68 rfl rfl ?_
    refine V_iload_n 2 dX1_joined_69 rfl rfl ?_
    refine V_imul dX1_joined_70 ?_
    exact V_ireturn dX1_joined_71 rfl k
  by_cases z1 : l0 = 43
  · have k := k1 z1
    refine V_lookup (off := 59) 60 dX1_joined_1 (by decide) (by rw [z1] <;> decide) (by decide) ?_
    refine V_iload_n 1 dX1_joined_60 rfl rfl ?_
    refine V_iload_n 2 dX1_joined_61 rfl rfl ?_
    refine V_iadd dX1_joined_62 ?_
    exact V_ireturn dX1_joined_63 rfl k
  by_cases z2 : l0 = 45
  · have k := k2 z2
    refine V_lookup (off := 63) 64 dX1_joined_1 (by decide) (by rw [z2] <;> decide) (by decide) ?_
    refine V_iload_n 1 dX1_joined_64 rfl rfl ?_
    refine V_iload_n 2 dX1_joined_65 rfl rfl ?_
    refine V_isub dX1_joined_66 ?_
    exact V_ireturn dX1_joined_67 rfl k
  by_cases z3 : l0 = 60
  · have k := k3 z3
    refine V_lookup (off := 71) 72 dX1_joined_1 (by decide) (by rw [z3] <;> decide) (by decide) ?_
    refine V_iload_n 1 dX1_joined_72 rfl rfl ?_
    refine V_iload_n 2 dX1_joined_73 rfl rfl ?_
    refine V_icmp_ge 81 dX1_joined_74 (by decide) ⟨fun z => ?_, fun z => ?_⟩
    · replace k := k.1 z
      refine V_iconst 0 dX1_joined_81 (by decide) ?_
      exact V_ireturn dX1_joined_82 rfl k
    · replace k := k.2 z
      refine V_iconst 1 dX1_joined_77 (by decide) ?_
      refine V_goto 82 dX1_joined_78 (by decide) ?_
      exact V_ireturn dX1_joined_82 rfl k
  by_cases z4 : l0 = 61
  · have k := k4 z4
    refine V_lookup (off := 82) 83 dX1_joined_1 (by decide) (by rw [z4] <;> decide) (by decide) ?_
    refine V_iload_n 1 dX1_joined_83 rfl rfl ?_
    refine V_iload_n 2 dX1_joined_84 rfl rfl ?_
    refine V_icmp_ne 92 dX1_joined_85 (by decide) ⟨fun z => ?_, fun z => ?_⟩
    · replace k := k.1 z
      refine V_iconst 0 dX1_joined_92 (by decide) ?_
      exact V_ireturn dX1_joined_93 rfl k
    · replace k := k.2 z
      refine V_iconst 1 dX1_joined_88 (by decide) ?_
      refine V_goto 93 dX1_joined_89 (by decide) ?_
      exact V_ireturn dX1_joined_93 rfl k
  by_cases z5 : l0 = 62
  · have k := k5 z5
    refine V_lookup (off := 93) 94 dX1_joined_1 (by decide) (by rw [z5] <;> decide) (by decide) ?_
    refine V_iload_n 1 dX1_joined_94 rfl rfl ?_
    refine V_iload_n 2 dX1_joined_95 rfl rfl ?_
    refine V_icmp_le 103 dX1_joined_96 (by decide) ⟨fun z => ?_, fun z => ?_⟩
    · replace k := k.1 z
      refine V_iconst 0 dX1_joined_103 (by decide) ?_
      exact V_ireturn dX1_joined_104 rfl k
    · replace k := k.2 z
      refine V_iconst 1 dX1_joined_99 (by decide) ?_
      refine V_goto 104 dX1_joined_100 (by decide) ?_
      exact V_ireturn dX1_joined_104 rfl k
  have k := k6 ⟨z0, z1, z2, z3, z4, z5⟩
  refine V_lookup (off := 104) 105 dX1_joined_1 (by decide) (by simp [Op.lookupswitch.offset, lkn (v := 42) (n := 42) (by decide) z0, lkn (v := 43) (n := 43) (by decide) z1, lkn (v := 45) (n := 45) (by decide) z2, lkn (v := 60) (n := 60) (by decide) z3, lkn (v := 61) (n := 61) (by decide) z4, lkn (v := 62) (n := 62) (by decide) z5]) (by decide) ?_
  refine V_iload_n 1 dX1_joined_105 rfl rfl ?_
  refine V_iload_n 2 dX1_joined_106 rfl rfl ?_
  refine V_iand dX1_joined_107 ?_
  exact V_ireturn dX1_joined_108 rfl k
-- X2_kind cuts []
set_option maxRecDepth 20000 in
set_option maxHeartbeats 2000000 in
theorem wX2_kind {d bc bs : Nat} {h : HS} {P : Option AV → HS → Prop}  (k : (((gI h 19 0 2) < 0) → (P (some (aI 256)) h)) ∧ ((¬ (gI h 19 0 2) < 0) → ((((gI h 8 0 3) ≤ (gI h 19 0 2)) → (P (some (aI 256)) h)) ∧ ((¬ (gI h 8 0 3) ≤ (gI h 19 0 2)) → (((400 < (gI h 19 0 2)) → (P (some (aI 256)) h)) ∧ ((¬ 400 < (gI h 19 0 2)) → (vp_in (gI h 19 0 2) 401 ∧ (P (some (aI (gI h 9 0 (gI h 19 0 2).toNatClampNeg))) h)))))))) : Cl true mX2_kind (d + 1) bc bs [aR 19 0] h P := by
  refine Cl_of (by decide) (Nat.le_of_ble_eq_true rfl) ?_
  show V true mX2_kind (d + 1) bc bs 0 [(0, aR 19 0)] [] h P
  refine V_aload_n 0 dX2_kind_0 rfl rfl ?_
  refine GI_19_2 dX2_kind_1 lkX2_19 ?_
  refine V_if_lt 46 dX2_kind_4 (by decide) ⟨fun z => ?_, fun z => ?_⟩
  · replace k := k.1 z
    refine V_sipush 256 dX2_kind_46 (by decide) ?_
    exact V_ireturn dX2_kind_49 rfl k
  · replace k := k.2 z
    refine V_aload_n 0 dX2_kind_7 rfl rfl ?_
    refine GI_19_2 dX2_kind_8 lkX2_19 ?_
    refine V_aload_n 0 dX2_kind_11 rfl rfl ?_
    refine GS_19_0 dX2_kind_12 lkX2_9 ?_
    refine GI_8_3 dX2_kind_15 lkX2_79 ?_
    refine V_icmp_ge 46 dX2_kind_18 (by decide) ⟨fun z => ?_, fun z => ?_⟩
    · replace k := k.1 z
      refine V_sipush 256 dX2_kind_46 (by decide) ?_
      exact V_ireturn dX2_kind_49 rfl k
    · replace k := k.2 z
      refine V_aload_n 0 dX2_kind_21 rfl rfl ?_
      refine GI_19_2 dX2_kind_22 lkX2_19 ?_
      refine V_sipush 400 dX2_kind_25 (by decide) ?_
      refine V_icmp_gt 46 dX2_kind_28 (by decide) ⟨fun z => ?_, fun z => ?_⟩
      · replace k := k.1 z
        refine V_sipush 256 dX2_kind_46 (by decide) ?_
        exact V_ireturn dX2_kind_49 rfl k
      · replace k := k.2 z
        refine V_aload_n 0 dX2_kind_31 rfl rfl ?_
        refine GS_19_0 dX2_kind_32 lkX2_9 ?_
        refine GS_8_0 dX2_kind_35 lkX2_82 ?_
        refine V_aload_n 0 dX2_kind_38 rfl rfl ?_
        refine GI_19_2 dX2_kind_39 lkX2_19 ?_
        refine V_iald (by decide) rt_9 dX2_kind_42 k.1 ?_
        replace k := k.2
        refine V_goto 49 dX2_kind_43 (by decide) ?_
        exact V_ireturn dX2_kind_49 rfl k
-- X2_number cuts []
set_option maxRecDepth 20000 in
set_option maxHeartbeats 2000000 in
theorem wX2_number {d bc bs : Nat} {h : HS} {P : Option AV → HS → Prop}  (k : (((gI h 19 0 2) < 0) → (P (some (aI 0)) h)) ∧ ((¬ (gI h 19 0 2) < 0) → ((((gI h 8 0 3) ≤ (gI h 19 0 2)) → (P (some (aI 0)) h)) ∧ ((¬ (gI h 8 0 3) ≤ (gI h 19 0 2)) → (((400 < (gI h 19 0 2)) → (P (some (aI 0)) h)) ∧ ((¬ 400 < (gI h 19 0 2)) → (vp_in (gI h 19 0 2) 401 ∧ (P (some (aI (gI h 11 0 (gI h 19 0 2).toNatClampNeg))) h)))))))) : Cl true mX2_number (d + 1) bc bs [aR 19 0] h P := by
  refine Cl_of (by decide) (Nat.le_of_ble_eq_true rfl) ?_
  show V true mX2_number (d + 1) bc bs 0 [(0, aR 19 0)] [] h P
  refine V_aload_n 0 dX2_number_0 rfl rfl ?_
  refine GI_19_2 dX2_number_1 lkX2_19 ?_
  refine V_if_lt 46 dX2_number_4 (by decide) ⟨fun z => ?_, fun z => ?_⟩
  · replace k := k.1 z
    refine V_iconst 0 dX2_number_46 (by decide) ?_
    exact V_ireturn dX2_number_47 rfl k
  · replace k := k.2 z
    refine V_aload_n 0 dX2_number_7 rfl rfl ?_
    refine GI_19_2 dX2_number_8 lkX2_19 ?_
    refine V_aload_n 0 dX2_number_11 rfl rfl ?_
    refine GS_19_0 dX2_number_12 lkX2_9 ?_
    refine GI_8_3 dX2_number_15 lkX2_79 ?_
    refine V_icmp_ge 46 dX2_number_18 (by decide) ⟨fun z => ?_, fun z => ?_⟩
    · replace k := k.1 z
      refine V_iconst 0 dX2_number_46 (by decide) ?_
      exact V_ireturn dX2_number_47 rfl k
    · replace k := k.2 z
      refine V_aload_n 0 dX2_number_21 rfl rfl ?_
      refine GI_19_2 dX2_number_22 lkX2_19 ?_
      refine V_sipush 400 dX2_number_25 (by decide) ?_
      refine V_icmp_gt 46 dX2_number_28 (by decide) ⟨fun z => ?_, fun z => ?_⟩
      · replace k := k.1 z
        refine V_iconst 0 dX2_number_46 (by decide) ?_
        exact V_ireturn dX2_number_47 rfl k
      · replace k := k.2 z
        refine V_aload_n 0 dX2_number_31 rfl rfl ?_
        refine GS_19_0 dX2_number_32 lkX2_9 ?_
        refine GS_8_2 dX2_number_35 lkX2_86 ?_
        refine V_aload_n 0 dX2_number_38 rfl rfl ?_
        refine GI_19_2 dX2_number_39 lkX2_19 ?_
        refine V_iald (by decide) rt_11 dX2_number_42 k.1 ?_
        replace k := k.2
        refine V_goto 47 dX2_number_43 (by decide) ?_
        exact V_ireturn dX2_number_47 rfl k
-- X3_state cuts []
set_option maxRecDepth 20000 in
set_option maxHeartbeats 2000000 in
theorem wX3_state {d bc bs : Nat} {h : HS} {P : Option AV → HS → Prop} {i0 : Nat} (k : (((gI h 62 i0 10) = (-1)) → (((¬ (gI h 62 i0 9) = (-1)) → (P (some (aI 0)) h)) ∧ (((gI h 62 i0 9) = (-1)) → (P (some (aI 1)) h)))) ∧ ((¬ (gI h 62 i0 10) = (-1)) → (P (some (aI 2)) h))) : Cl true mX3_state (d + 1) bc bs [aR 62 i0] h P := by
  refine Cl_of (by decide) (Nat.le_of_ble_eq_true rfl) ?_
  show V true mX3_state (d + 1) bc bs 0 [(0, aR 62 i0)] [] h P
  refine V_aload_n 0 dX3_state_0 rfl rfl ?_
  refine GI_62_10 dX3_state_1 lkX3_49 ?_
  refine V_iconst (-1) dX3_state_4 (by decide) ?_
  refine V_icmp_eq 10 dX3_state_5 (by decide) ⟨fun z => ?_, fun z => ?_⟩
  · replace k := k.1 z
    refine V_aload_n 0 dX3_state_10 rfl rfl ?_
    refine GI_62_9 dX3_state_11 lkX3_46 ?_
    refine V_iconst (-1) dX3_state_14 (by decide) ?_
    refine V_icmp_ne 22 dX3_state_15 (by decide) ⟨fun z => ?_, fun z => ?_⟩
    · replace k := k.1 z
      refine V_iconst 0 dX3_state_22 (by decide) ?_
      exact V_ireturn dX3_state_23 rfl k
    · replace k := k.2 z
      refine V_iconst 1 dX3_state_18 (by decide) ?_
      refine V_goto 23 dX3_state_19 (by decide) ?_
      exact V_ireturn dX3_state_23 rfl k
  · replace k := k.2 z
    refine V_iconst 2 dX3_state_8 (by decide) ?_
    exact V_ireturn dX3_state_9 rfl k
-- X3_isParcel cuts []
set_option maxRecDepth 20000 in
set_option maxHeartbeats 2000000 in
theorem wX3_isParcel {d bc bs : Nat} {h : HS} {P : Option AV → HS → Prop} {i0 : Nat} (k : (((gI h 62 i0 5) = (-1)) → (P (some (aI 0)) h)) ∧ ((¬ (gI h 62 i0 5) = (-1)) → (((¬ (gI h 62 i0 11) = (-1)) → (P (some (aI 0)) h)) ∧ (((gI h 62 i0 11) = (-1)) → (((¬ (gI h 62 i0 10) = (-1)) → (P (some (aI 0)) h)) ∧ (((gI h 62 i0 10) = (-1)) → (P (some (aI 1)) h))))))) : Cl true mX3_isParcel (d + 1) bc bs [aR 62 i0] h P := by
  refine Cl_of (by decide) (Nat.le_of_ble_eq_true rfl) ?_
  show V true mX3_isParcel (d + 1) bc bs 0 [(0, aR 62 i0)] [] h P
  refine V_aload_n 0 dX3_isParcel_0 rfl rfl ?_
  refine GI_62_5 dX3_isParcel_1 lkX3_28 ?_
  refine V_iconst (-1) dX3_isParcel_4 (by decide) ?_
  refine V_icmp_eq 28 dX3_isParcel_5 (by decide) ⟨fun z => ?_, fun z => ?_⟩
  · replace k := k.1 z
    refine V_iconst 0 dX3_isParcel_28 (by decide) ?_
    exact V_zreturn dX3_isParcel_29 rfl (by decide) k
  · replace k := k.2 z
    refine V_aload_n 0 dX3_isParcel_8 rfl rfl ?_
    refine GI_62_11 dX3_isParcel_9 lkX3_52 ?_
    refine V_iconst (-1) dX3_isParcel_12 (by decide) ?_
    refine V_icmp_ne 28 dX3_isParcel_13 (by decide) ⟨fun z => ?_, fun z => ?_⟩
    · replace k := k.1 z
      refine V_iconst 0 dX3_isParcel_28 (by decide) ?_
      exact V_zreturn dX3_isParcel_29 rfl (by decide) k
    · replace k := k.2 z
      refine V_aload_n 0 dX3_isParcel_16 rfl rfl ?_
      refine GI_62_10 dX3_isParcel_17 lkX3_49 ?_
      refine V_iconst (-1) dX3_isParcel_20 (by decide) ?_
      refine V_icmp_ne 28 dX3_isParcel_21 (by decide) ⟨fun z => ?_, fun z => ?_⟩
      · replace k := k.1 z
        refine V_iconst 0 dX3_isParcel_28 (by decide) ?_
        exact V_zreturn dX3_isParcel_29 rfl (by decide) k
      · replace k := k.2 z
        refine V_iconst 1 dX3_isParcel_24 (by decide) ?_
        refine V_goto 29 dX3_isParcel_25 (by decide) ?_
        exact V_zreturn dX3_isParcel_29 rfl (by decide) k
-- X3_canComeBack cuts []
set_option maxRecDepth 20000 in
set_option maxHeartbeats 2000000 in
theorem wX3_canComeBack {d bc bs : Nat} {h : HS} {P : Option AV → HS → Prop} {i0 : Nat} {l1 : Int32} (k : (((gI h 62 i0 10) = (-1)) → ((((gI h 62 i0 9) = (-1)) → (P (some (aI 1)) h)) ∧ ((¬ (gI h 62 i0 9) = (-1)) → (((((gI h 62 i0 9) + 28) < l1) → (P (some (aI 0)) h)) ∧ ((¬ ((gI h 62 i0 9) + 28) < l1) → (P (some (aI 1)) h)))))) ∧ ((¬ (gI h 62 i0 10) = (-1)) → (P (some (aI 0)) h))) : Cl true mX3_canComeBack (d + 1) bc bs [aR 62 i0, aI l1] h P := by
  refine Cl_of (by decide) (Nat.le_of_ble_eq_true rfl) ?_
  show V true mX3_canComeBack (d + 1) bc bs 0 [(0, aR 62 i0), (1, aI l1)] [] h P
  refine V_aload_n 0 dX3_canComeBack_0 rfl rfl ?_
  refine GI_62_10 dX3_canComeBack_1 lkX3_49 ?_
  refine V_iconst (-1) dX3_canComeBack_4 (by decide) ?_
  refine V_icmp_eq 10 dX3_canComeBack_5 (by decide) ⟨fun z => ?_, fun z => ?_⟩
  · replace k := k.1 z
    refine V_aload_n 0 dX3_canComeBack_10 rfl rfl ?_
    refine GI_62_9 dX3_canComeBack_11 lkX3_46 ?_
    refine V_iconst (-1) dX3_canComeBack_14 (by decide) ?_
    refine V_icmp_eq 29 dX3_canComeBack_15 (by decide) ⟨fun z => ?_, fun z => ?_⟩
    · replace k := k.1 z
      refine V_iconst 1 dX3_canComeBack_29 (by decide) ?_
      refine V_goto 34 dX3_canComeBack_30 (by decide) ?_
      exact V_zreturn dX3_canComeBack_34 rfl (by decide) k
    · replace k := k.2 z
      refine V_iload_n 1 dX3_canComeBack_18 rfl rfl ?_
      refine V_aload_n 0 dX3_canComeBack_19 rfl rfl ?_
      refine GI_62_9 dX3_canComeBack_20 lkX3_46 ?_
      refine V_bipush 28 dX3_canComeBack_23 (by decide) ?_
      refine V_iadd dX3_canComeBack_25 ?_
      refine V_icmp_gt 33 dX3_canComeBack_26 (by decide) ⟨fun z => ?_, fun z => ?_⟩
      · replace k := k.1 z
        refine V_iconst 0 dX3_canComeBack_33 (by decide) ?_
        exact V_zreturn dX3_canComeBack_34 rfl (by decide) k
      · replace k := k.2 z
        refine V_iconst 1 dX3_canComeBack_29 (by decide) ?_
        refine V_goto 34 dX3_canComeBack_30 (by decide) ?_
        exact V_zreturn dX3_canComeBack_34 rfl (by decide) k
  · replace k := k.2 z
    refine V_iconst 0 dX3_canComeBack_8 (by decide) ?_
    exact V_zreturn dX3_canComeBack_9 rfl (by decide) k
-- X3_wasSoldIn cuts []
set_option maxRecDepth 20000 in
set_option maxHeartbeats 2000000 in
theorem wX3_wasSoldIn {d bc bs : Nat} {h : HS} {P : Option AV → HS → Prop} {i0 : Nat} {l1 : Int32} (k : (((gI h 62 i0 9) = (-1)) → (P (some (aI 0)) h)) ∧ ((¬ (gI h 62 i0 9) = (-1)) → (((¬ ((gI h 62 i0 9) / 28) = l1) → (P (some (aI 0)) h)) ∧ ((((gI h 62 i0 9) / 28) = l1) → (P (some (aI 1)) h))))) : Cl true mX3_wasSoldIn (d + 1) bc bs [aR 62 i0, aI l1] h P := by
  refine Cl_of (by decide) (Nat.le_of_ble_eq_true rfl) ?_
  show V true mX3_wasSoldIn (d + 1) bc bs 0 [(0, aR 62 i0), (1, aI l1)] [] h P
  refine V_aload_n 0 dX3_wasSoldIn_0 rfl rfl ?_
  refine GI_62_9 dX3_wasSoldIn_1 lkX3_46 ?_
  refine V_iconst (-1) dX3_wasSoldIn_4 (by decide) ?_
  refine V_icmp_eq 23 dX3_wasSoldIn_5 (by decide) ⟨fun z => ?_, fun z => ?_⟩
  · replace k := k.1 z
    refine V_iconst 0 dX3_wasSoldIn_23 (by decide) ?_
    exact V_zreturn dX3_wasSoldIn_24 rfl (by decide) k
  · replace k := k.2 z
    refine V_aload_n 0 dX3_wasSoldIn_8 rfl rfl ?_
    refine GI_62_9 dX3_wasSoldIn_9 lkX3_46 ?_
    refine V_bipush 28 dX3_wasSoldIn_12 (by decide) ?_
    refine V_idiv dX3_wasSoldIn_14 (by decide) ?_
    refine V_iload_n 1 dX3_wasSoldIn_15 rfl rfl ?_
    refine V_icmp_ne 23 dX3_wasSoldIn_16 (by decide) ⟨fun z => ?_, fun z => ?_⟩
    · replace k := k.1 z
      refine V_iconst 0 dX3_wasSoldIn_23 (by decide) ?_
      exact V_zreturn dX3_wasSoldIn_24 rfl (by decide) k
    · replace k := k.2 z
      refine V_iconst 1 dX3_wasSoldIn_19 (by decide) ?_
      refine V_goto 24 dX3_wasSoldIn_20 (by decide) ?_
      exact V_zreturn dX3_wasSoldIn_24 rfl (by decide) k
-- X3_cameBackSoldIn cuts []
set_option maxRecDepth 20000 in
set_option maxHeartbeats 2000000 in
theorem wX3_cameBackSoldIn {d bc bs : Nat} {h : HS} {P : Option AV → HS → Prop} {i0 : Nat} {l1 : Int32} (k : (((gI h 62 i0 9) = (-1)) → (P (some (aI 0)) h)) ∧ ((¬ (gI h 62 i0 9) = (-1)) → ((((gI h 62 i0 10) = (-1)) → (P (some (aI 0)) h)) ∧ ((¬ (gI h 62 i0 10) = (-1)) → (((¬ ((gI h 62 i0 10) / 28) = l1) → (P (some (aI 0)) h)) ∧ ((((gI h 62 i0 10) / 28) = l1) → (P (some (aI 1)) h))))))) : Cl true mX3_cameBackSoldIn (d + 1) bc bs [aR 62 i0, aI l1] h P := by
  refine Cl_of (by decide) (Nat.le_of_ble_eq_true rfl) ?_
  show V true mX3_cameBackSoldIn (d + 1) bc bs 0 [(0, aR 62 i0), (1, aI l1)] [] h P
  refine V_aload_n 0 dX3_cameBackSoldIn_0 rfl rfl ?_
  refine GI_62_9 dX3_cameBackSoldIn_1 lkX3_46 ?_
  refine V_iconst (-1) dX3_cameBackSoldIn_4 (by decide) ?_
  refine V_icmp_eq 31 dX3_cameBackSoldIn_5 (by decide) ⟨fun z => ?_, fun z => ?_⟩
  · replace k := k.1 z
    refine V_iconst 0 dX3_cameBackSoldIn_31 (by decide) ?_
    exact V_zreturn dX3_cameBackSoldIn_32 rfl (by decide) k
  · replace k := k.2 z
    refine V_aload_n 0 dX3_cameBackSoldIn_8 rfl rfl ?_
    refine GI_62_10 dX3_cameBackSoldIn_9 lkX3_49 ?_
    refine V_iconst (-1) dX3_cameBackSoldIn_12 (by decide) ?_
    refine V_icmp_eq 31 dX3_cameBackSoldIn_13 (by decide) ⟨fun z => ?_, fun z => ?_⟩
    · replace k := k.1 z
      refine V_iconst 0 dX3_cameBackSoldIn_31 (by decide) ?_
      exact V_zreturn dX3_cameBackSoldIn_32 rfl (by decide) k
    · replace k := k.2 z
      refine V_aload_n 0 dX3_cameBackSoldIn_16 rfl rfl ?_
      refine GI_62_10 dX3_cameBackSoldIn_17 lkX3_49 ?_
      refine V_bipush 28 dX3_cameBackSoldIn_20 (by decide) ?_
      refine V_idiv dX3_cameBackSoldIn_22 (by decide) ?_
      refine V_iload_n 1 dX3_cameBackSoldIn_23 rfl rfl ?_
      refine V_icmp_ne 31 dX3_cameBackSoldIn_24 (by decide) ⟨fun z => ?_, fun z => ?_⟩
      · replace k := k.1 z
        refine V_iconst 0 dX3_cameBackSoldIn_31 (by decide) ?_
        exact V_zreturn dX3_cameBackSoldIn_32 rfl (by decide) k
      · replace k := k.2 z
        refine V_iconst 1 dX3_cameBackSoldIn_27 (by decide) ?_
        refine V_goto 32 dX3_cameBackSoldIn_28 (by decide) ?_
        exact V_zreturn dX3_cameBackSoldIn_32 rfl (by decide) k
-- X3_statedWorth cuts []
set_option maxRecDepth 20000 in
set_option maxHeartbeats 2000000 in
theorem wX3_statedWorth {d bc bs : Nat} {h : HS} {P : Option AV → HS → Prop} {i0 : Nat} {l1 : Int32} {l2 : Int32} (k : (((gI h 62 i0 8) ≤ l2) → (Cl true mX3_wasSoldIn d 0 0 [aR 62 i0, aI l1] h (fun r1 h2 => ∃ x3 : Int32, r1 = some (aI x3) ∧ (((x3 = 0) → (Cl true mX3_cameBackSoldIn d 0 0 [aR 62 i0, aI l1] h2 (fun r4 h5 => ∃ x6 : Int32, r4 = some (aI x6) ∧ (((x6 = 0) → (P (some (aI 0)) h5)) ∧ ((¬ x6 = 0) → (((l2 < (gI h5 62 i0 10)) → (P (some (aI 0)) h5)) ∧ ((¬ l2 < (gI h5 62 i0 10)) → (P (some (aI (0 - (gI h5 62 i0 7)))) h5)))))))) ∧ ((¬ x3 = 0) → (((l2 < (gI h2 62 i0 9)) → (Cl true mX3_cameBackSoldIn d 0 0 [aR 62 i0, aI l1] h2 (fun r7 h8 => ∃ x9 : Int32, r7 = some (aI x9) ∧ (((x9 = 0) → (P (some (aI 0)) h8)) ∧ ((¬ x9 = 0) → (((l2 < (gI h8 62 i0 10)) → (P (some (aI 0)) h8)) ∧ ((¬ l2 < (gI h8 62 i0 10)) → (P (some (aI (0 - (gI h8 62 i0 7)))) h8)))))))) ∧ ((¬ l2 < (gI h2 62 i0 9)) → (Cl true mX3_cameBackSoldIn d 0 0 [aR 62 i0, aI l1] h2 (fun r10 h11 => ∃ x12 : Int32, r10 = some (aI x12) ∧ (((x12 = 0) → (P (some (aI (0 + (gI h2 62 i0 7)))) h11)) ∧ ((¬ x12 = 0) → (((l2 < (gI h11 62 i0 10)) → (P (some (aI (0 + (gI h2 62 i0 7)))) h11)) ∧ ((¬ l2 < (gI h11 62 i0 10)) → (P (some (aI ((0 + (gI h2 62 i0 7)) - (gI h11 62 i0 7)))) h11)))))))))))))) ∧ ((¬ (gI h 62 i0 8) ≤ l2) → (P (some (aI 0)) h))) : Cl true mX3_statedWorth (d + 1) bc bs [aR 62 i0, aI l1, aI l2] h P := by
  refine Cl_of (by decide) (Nat.le_of_ble_eq_true rfl) ?_
  show V true mX3_statedWorth (d + 1) bc bs 0 [(0, aR 62 i0), (1, aI l1), (2, aI l2)] [] h P
  refine V_iconst 0 dX3_statedWorth_0 (by decide) ?_
  refine V_istore_n 3 dX3_statedWorth_1 rfl (by decide) rfl ?_
  refine V_aload_n 0 dX3_statedWorth_2 rfl rfl ?_
  refine GI_62_8 dX3_statedWorth_3 lkX3_43 ?_
  refine V_iload_n 2 dX3_statedWorth_6 rfl rfl ?_
  refine V_icmp_le 12 dX3_statedWorth_7 (by decide) ⟨fun z => ?_, fun z => ?_⟩
  · replace k := k.1 z
    refine V_aload_n 0 dX3_statedWorth_12 rfl rfl ?_
    refine V_iload_n 1 dX3_statedWorth_13 rfl rfl ?_
    refine V_callV (mc := 0) (ms := 0) (as := [aI l1]) (st := []) (by decide) rt_62 rfl dX3_statedWorth_14 okX3_wasSoldIn inX3_wasSoldIn seX3_wasSoldIn lkX3_59 rfl (Nat.le_of_ble_eq_true rfl) (Nat.zero_le _) (Nat.zero_le _) (Cl.mono (fun r1 h2 z => ?_) k)
    obtain ⟨x3, rfl, k⟩ := z
    refine V_if_eq 35 dX3_statedWorth_17 (by decide) ⟨fun z => ?_, fun z => ?_⟩
    · replace k := k.1 z
      refine V_aload_n 0 dX3_statedWorth_35 rfl rfl ?_
      refine V_iload_n 1 dX3_statedWorth_36 rfl rfl ?_
      refine V_callV (mc := 0) (ms := 0) (as := [aI l1]) (st := []) (by decide) rt_62 rfl dX3_statedWorth_37 okX3_cameBackSoldIn inX3_cameBackSoldIn seX3_cameBackSoldIn lkX3_63 rfl (Nat.le_of_ble_eq_true rfl) (Nat.zero_le _) (Nat.zero_le _) (Cl.mono (fun r4 h5 z => ?_) k)
      obtain ⟨x6, rfl, k⟩ := z
      refine V_if_eq 58 dX3_statedWorth_40 (by decide) ⟨fun z => ?_, fun z => ?_⟩
      · replace k := k.1 z
        refine V_iload_n 3 dX3_statedWorth_58 rfl rfl ?_
        exact V_ireturn dX3_statedWorth_59 rfl k
      · replace k := k.2 z
        refine V_aload_n 0 dX3_statedWorth_43 rfl rfl ?_
        refine GI_62_10 dX3_statedWorth_44 lkX3_49 ?_
        refine V_iload_n 2 dX3_statedWorth_47 rfl rfl ?_
        refine V_icmp_gt 58 dX3_statedWorth_48 (by decide) ⟨fun z => ?_, fun z => ?_⟩
        · replace k := k.1 z
          refine V_iload_n 3 dX3_statedWorth_58 rfl rfl ?_
          exact V_ireturn dX3_statedWorth_59 rfl k
        · replace k := k.2 z
          refine V_iload_n 3 dX3_statedWorth_51 rfl rfl ?_
          refine V_aload_n 0 dX3_statedWorth_52 rfl rfl ?_
          refine GI_62_7 dX3_statedWorth_53 lkX3_40 ?_
          refine V_isub dX3_statedWorth_56 ?_
          refine V_istore_n 3 dX3_statedWorth_57 rfl (by decide) rfl ?_
          refine V_iload_n 3 dX3_statedWorth_58 rfl rfl ?_
          exact V_ireturn dX3_statedWorth_59 rfl k
    · replace k := k.2 z
      refine V_aload_n 0 dX3_statedWorth_20 rfl rfl ?_
      refine GI_62_9 dX3_statedWorth_21 lkX3_46 ?_
      refine V_iload_n 2 dX3_statedWorth_24 rfl rfl ?_
      refine V_icmp_gt 35 dX3_statedWorth_25 (by decide) ⟨fun z => ?_, fun z => ?_⟩
      · replace k := k.1 z
        refine V_aload_n 0 dX3_statedWorth_35 rfl rfl ?_
        refine V_iload_n 1 dX3_statedWorth_36 rfl rfl ?_
        refine V_callV (mc := 0) (ms := 0) (as := [aI l1]) (st := []) (by decide) rt_62 rfl dX3_statedWorth_37 okX3_cameBackSoldIn inX3_cameBackSoldIn seX3_cameBackSoldIn lkX3_63 rfl (Nat.le_of_ble_eq_true rfl) (Nat.zero_le _) (Nat.zero_le _) (Cl.mono (fun r7 h8 z => ?_) k)
        obtain ⟨x9, rfl, k⟩ := z
        refine V_if_eq 58 dX3_statedWorth_40 (by decide) ⟨fun z => ?_, fun z => ?_⟩
        · replace k := k.1 z
          refine V_iload_n 3 dX3_statedWorth_58 rfl rfl ?_
          exact V_ireturn dX3_statedWorth_59 rfl k
        · replace k := k.2 z
          refine V_aload_n 0 dX3_statedWorth_43 rfl rfl ?_
          refine GI_62_10 dX3_statedWorth_44 lkX3_49 ?_
          refine V_iload_n 2 dX3_statedWorth_47 rfl rfl ?_
          refine V_icmp_gt 58 dX3_statedWorth_48 (by decide) ⟨fun z => ?_, fun z => ?_⟩
          · replace k := k.1 z
            refine V_iload_n 3 dX3_statedWorth_58 rfl rfl ?_
            exact V_ireturn dX3_statedWorth_59 rfl k
          · replace k := k.2 z
            refine V_iload_n 3 dX3_statedWorth_51 rfl rfl ?_
            refine V_aload_n 0 dX3_statedWorth_52 rfl rfl ?_
            refine GI_62_7 dX3_statedWorth_53 lkX3_40 ?_
            refine V_isub dX3_statedWorth_56 ?_
            refine V_istore_n 3 dX3_statedWorth_57 rfl (by decide) rfl ?_
            refine V_iload_n 3 dX3_statedWorth_58 rfl rfl ?_
            exact V_ireturn dX3_statedWorth_59 rfl k
      · replace k := k.2 z
        refine V_iload_n 3 dX3_statedWorth_28 rfl rfl ?_
        refine V_aload_n 0 dX3_statedWorth_29 rfl rfl ?_
        refine GI_62_7 dX3_statedWorth_30 lkX3_40 ?_
        refine V_iadd dX3_statedWorth_33 ?_
        refine V_istore_n 3 dX3_statedWorth_34 rfl (by decide) rfl ?_
        refine V_aload_n 0 dX3_statedWorth_35 rfl rfl ?_
        refine V_iload_n 1 dX3_statedWorth_36 rfl rfl ?_
        refine V_callV (mc := 0) (ms := 0) (as := [aI l1]) (st := []) (by decide) rt_62 rfl dX3_statedWorth_37 okX3_cameBackSoldIn inX3_cameBackSoldIn seX3_cameBackSoldIn lkX3_63 rfl (Nat.le_of_ble_eq_true rfl) (Nat.zero_le _) (Nat.zero_le _) (Cl.mono (fun r10 h11 z => ?_) k)
        obtain ⟨x12, rfl, k⟩ := z
        refine V_if_eq 58 dX3_statedWorth_40 (by decide) ⟨fun z => ?_, fun z => ?_⟩
        · replace k := k.1 z
          refine V_iload_n 3 dX3_statedWorth_58 rfl rfl ?_
          exact V_ireturn dX3_statedWorth_59 rfl k
        · replace k := k.2 z
          refine V_aload_n 0 dX3_statedWorth_43 rfl rfl ?_
          refine GI_62_10 dX3_statedWorth_44 lkX3_49 ?_
          refine V_iload_n 2 dX3_statedWorth_47 rfl rfl ?_
          refine V_icmp_gt 58 dX3_statedWorth_48 (by decide) ⟨fun z => ?_, fun z => ?_⟩
          · replace k := k.1 z
            refine V_iload_n 3 dX3_statedWorth_58 rfl rfl ?_
            exact V_ireturn dX3_statedWorth_59 rfl k
          · replace k := k.2 z
            refine V_iload_n 3 dX3_statedWorth_51 rfl rfl ?_
            refine V_aload_n 0 dX3_statedWorth_52 rfl rfl ?_
            refine GI_62_7 dX3_statedWorth_53 lkX3_40 ?_
            refine V_isub dX3_statedWorth_56 ?_
            refine V_istore_n 3 dX3_statedWorth_57 rfl (by decide) rfl ?_
            refine V_iload_n 3 dX3_statedWorth_58 rfl rfl ?_
            exact V_ireturn dX3_statedWorth_59 rfl k
  · replace k := k.2 z
    refine V_iload_n 3 dX3_statedWorth_10 rfl rfl ?_
    exact V_ireturn dX3_statedWorth_11 rfl k
-- X4_valueOfWord cuts []
set_option maxRecDepth 20000 in
set_option maxHeartbeats 2000000 in
theorem wX4_valueOfWord {d bc bs : Nat} {h : HS} {P : Option AV → HS → Prop} {l1 : Int32} (k : (l1 = 262 → (P (some (aI (gI h 20 0 0))) h)) ∧ (l1 = 263 → (P (some (aI (gI h 20 0 1))) h)) ∧ (l1 = 264 → (P (some (aI (gI h 20 0 2))) h)) ∧ (¬ (262 ≤ (l1).toInt ∧ (l1).toInt ≤ 264) → (P (some (aI (gI h 20 0 3))) h))) : Cl true mX4_valueOfWord (d + 1) bc bs [aR 20 0, aI l1] h P := by
  refine Cl_of (by decide) (Nat.le_of_ble_eq_true rfl) ?_
  show V true mX4_valueOfWord (d + 1) bc bs 0 [(0, aR 20 0), (1, aI l1)] [] h P
  refine V_iload_n 1 dX4_valueOfWord_0 rfl rfl ?_
  obtain ⟨k0, k1, k2, k3⟩ := k
  rcases sw_cases l1 (262) (264) (by decide) (by decide) with zo | ⟨zn, zl, zx⟩
  · have k := k3 zo
    refine V_tabOut 43 dX4_valueOfWord_1 (sw_out zo) (by decide) ?_
    refine V_aload_n 0 dX4_valueOfWord_43 rfl rfl ?_
    refine GI_20_3 dX4_valueOfWord_44 lkX4_19 ?_
    exact V_ireturn dX4_valueOfWord_47 rfl k
  · match zn, zl, zx with
    | 0, _, zx =>
      have zx : l1 = 262 := zx
      have k := k0 zx
      refine V_tabIn 28 dX4_valueOfWord_1 (by rw [zx]; decide) (by rw [zx]; decide) (by rw [zx]; rfl) (by decide) ?_
      refine V_aload_n 0 dX4_valueOfWord_28 rfl rfl ?_
      refine GI_20_0 dX4_valueOfWord_29 lkX4_7 ?_
      exact V_ireturn dX4_valueOfWord_32 rfl k
    | 1, _, zx =>
      have zx : l1 = 263 := zx
      have k := k1 zx
      refine V_tabIn 33 dX4_valueOfWord_1 (by rw [zx]; decide) (by rw [zx]; decide) (by rw [zx]; rfl) (by decide) ?_
      refine V_aload_n 0 dX4_valueOfWord_33 rfl rfl ?_
      refine GI_20_1 dX4_valueOfWord_34 lkX4_13 ?_
      exact V_ireturn dX4_valueOfWord_37 rfl k
    | 2, _, zx =>
      have zx : l1 = 264 := zx
      have k := k2 zx
      refine V_tabIn 38 dX4_valueOfWord_1 (by rw [zx]; decide) (by rw [zx]; decide) (by rw [zx]; rfl) (by decide) ?_
      refine V_aload_n 0 dX4_valueOfWord_38 rfl rfl ?_
      refine GI_20_2 dX4_valueOfWord_39 lkX4_16 ?_
      exact V_ireturn dX4_valueOfWord_42 rfl k
    | n + 3, zl, _ => exact absurd zl (by omega)
-- X6_tagOn cuts []
set_option maxRecDepth 20000 in
set_option maxHeartbeats 2000000 in
theorem wX6_tagOn {d bc bs : Nat} {h : HS} {P : Option AV → HS → Prop} {i0 : Nat} {l1 : Int32} (k : ((l1 < 0) → (P (some (aI 0)) h)) ∧ ((¬ l1 < 0) → (((364 ≤ l1) → (P (some (aI 0)) h)) ∧ ((¬ 364 ≤ l1) → (gR h 60 i0 0 = some (61, i0) ∧ (vp_in l1 364 ∧ (P (some (aI (gI h 61 i0 l1.toNatClampNeg))) h))))))) : Cl true mX6_tagOn (d + 1) bc bs [aR 60 i0, aI l1] h P := by
  refine Cl_of (by decide) (Nat.le_of_ble_eq_true rfl) ?_
  show V true mX6_tagOn (d + 1) bc bs 0 [(0, aR 60 i0), (1, aI l1)] [] h P
  refine V_iload_n 1 dX6_tagOn_0 rfl rfl ?_
  refine V_if_lt 20 dX6_tagOn_1 (by decide) ⟨fun z => ?_, fun z => ?_⟩
  · replace k := k.1 z
    refine V_iconst 0 dX6_tagOn_20 (by decide) ?_
    exact V_ireturn dX6_tagOn_21 rfl k
  · replace k := k.2 z
    refine V_iload_n 1 dX6_tagOn_4 rfl rfl ?_
    refine V_sipush 364 dX6_tagOn_5 (by decide) ?_
    refine V_icmp_ge 20 dX6_tagOn_8 (by decide) ⟨fun z => ?_, fun z => ?_⟩
    · replace k := k.1 z
      refine V_iconst 0 dX6_tagOn_20 (by decide) ?_
      exact V_ireturn dX6_tagOn_21 rfl k
    · replace k := k.2 z
      refine V_aload_n 0 dX6_tagOn_11 rfl rfl ?_
      refine V_getR (k := 0) (some (61, i0)) (by decide) rt_60 rfl (by decide) rfl dX6_tagOn_12 lkX6_9 k.1 ?_
      replace k := k.2
      refine V_iload_n 1 dX6_tagOn_15 rfl rfl ?_
      refine V_iald (by decide) rt_61 dX6_tagOn_16 k.1 ?_
      replace k := k.2
      refine V_goto 21 dX6_tagOn_17 (by decide) ?_
      exact V_ireturn dX6_tagOn_21 rfl k
-- X7_isLetter cuts []
set_option maxRecDepth 20000 in
set_option maxHeartbeats 2000000 in
theorem wX7_isLetter {d bc bs : Nat} {h : HS} {P : Option AV → HS → Prop} {l0 : Int32} (k : ((l0 < 97) → (((l0 < 65) → (P (some (aI 0)) h)) ∧ ((¬ l0 < 65) → (((90 < l0) → (P (some (aI 0)) h)) ∧ ((¬ 90 < l0) → (P (some (aI 1)) h)))))) ∧ ((¬ l0 < 97) → (((l0 ≤ 122) → (P (some (aI 1)) h)) ∧ ((¬ l0 ≤ 122) → (((l0 < 65) → (P (some (aI 0)) h)) ∧ ((¬ l0 < 65) → (((90 < l0) → (P (some (aI 0)) h)) ∧ ((¬ 90 < l0) → (P (some (aI 1)) h))))))))) : Cl true mX7_isLetter (d + 1) bc bs [aI l0] h P := by
  refine Cl_of (by decide) (Nat.le_of_ble_eq_true rfl) ?_
  show V true mX7_isLetter (d + 1) bc bs 0 [(0, aI l0)] [] h P
  refine V_iload_n 0 dX7_isLetter_0 rfl rfl ?_
  refine V_bipush 97 dX7_isLetter_1 (by decide) ?_
  refine V_icmp_lt 12 dX7_isLetter_3 (by decide) ⟨fun z => ?_, fun z => ?_⟩
  · replace k := k.1 z
    refine V_iload_n 0 dX7_isLetter_12 rfl rfl ?_
    refine V_bipush 65 dX7_isLetter_13 (by decide) ?_
    refine V_icmp_lt 28 dX7_isLetter_15 (by decide) ⟨fun z => ?_, fun z => ?_⟩
    · replace k := k.1 z
      refine V_iconst 0 dX7_isLetter_28 (by decide) ?_
      exact V_zreturn dX7_isLetter_29 rfl (by decide) k
    · replace k := k.2 z
      refine V_iload_n 0 dX7_isLetter_18 rfl rfl ?_
      refine V_bipush 90 dX7_isLetter_19 (by decide) ?_
      refine V_icmp_gt 28 dX7_isLetter_21 (by decide) ⟨fun z => ?_, fun z => ?_⟩
      · replace k := k.1 z
        refine V_iconst 0 dX7_isLetter_28 (by decide) ?_
        exact V_zreturn dX7_isLetter_29 rfl (by decide) k
      · replace k := k.2 z
        refine V_iconst 1 dX7_isLetter_24 (by decide) ?_
        refine V_goto 29 dX7_isLetter_25 (by decide) ?_
        exact V_zreturn dX7_isLetter_29 rfl (by decide) k
  · replace k := k.2 z
    refine V_iload_n 0 dX7_isLetter_6 rfl rfl ?_
    refine V_bipush 122 dX7_isLetter_7 (by decide) ?_
    refine V_icmp_le 24 dX7_isLetter_9 (by decide) ⟨fun z => ?_, fun z => ?_⟩
    · replace k := k.1 z
      refine V_iconst 1 dX7_isLetter_24 (by decide) ?_
      refine V_goto 29 dX7_isLetter_25 (by decide) ?_
      exact V_zreturn dX7_isLetter_29 rfl (by decide) k
    · replace k := k.2 z
      refine V_iload_n 0 dX7_isLetter_12 rfl rfl ?_
      refine V_bipush 65 dX7_isLetter_13 (by decide) ?_
      refine V_icmp_lt 28 dX7_isLetter_15 (by decide) ⟨fun z => ?_, fun z => ?_⟩
      · replace k := k.1 z
        refine V_iconst 0 dX7_isLetter_28 (by decide) ?_
        exact V_zreturn dX7_isLetter_29 rfl (by decide) k
      · replace k := k.2 z
        refine V_iload_n 0 dX7_isLetter_18 rfl rfl ?_
        refine V_bipush 90 dX7_isLetter_19 (by decide) ?_
        refine V_icmp_gt 28 dX7_isLetter_21 (by decide) ⟨fun z => ?_, fun z => ?_⟩
        · replace k := k.1 z
          refine V_iconst 0 dX7_isLetter_28 (by decide) ?_
          exact V_zreturn dX7_isLetter_29 rfl (by decide) k
        · replace k := k.2 z
          refine V_iconst 1 dX7_isLetter_24 (by decide) ?_
          refine V_goto 29 dX7_isLetter_25 (by decide) ?_
          exact V_zreturn dX7_isLetter_29 rfl (by decide) k
-- X7_isDigit cuts []
set_option maxRecDepth 20000 in
set_option maxHeartbeats 2000000 in
theorem wX7_isDigit {d bc bs : Nat} {h : HS} {P : Option AV → HS → Prop} {l0 : Int32} (k : ((l0 < 48) → (P (some (aI 0)) h)) ∧ ((¬ l0 < 48) → (((57 < l0) → (P (some (aI 0)) h)) ∧ ((¬ 57 < l0) → (P (some (aI 1)) h))))) : Cl true mX7_isDigit (d + 1) bc bs [aI l0] h P := by
  refine Cl_of (by decide) (Nat.le_of_ble_eq_true rfl) ?_
  show V true mX7_isDigit (d + 1) bc bs 0 [(0, aI l0)] [] h P
  refine V_iload_n 0 dX7_isDigit_0 rfl rfl ?_
  refine V_bipush 48 dX7_isDigit_1 (by decide) ?_
  refine V_icmp_lt 16 dX7_isDigit_3 (by decide) ⟨fun z => ?_, fun z => ?_⟩
  · replace k := k.1 z
    refine V_iconst 0 dX7_isDigit_16 (by decide) ?_
    exact V_zreturn dX7_isDigit_17 rfl (by decide) k
  · replace k := k.2 z
    refine V_iload_n 0 dX7_isDigit_6 rfl rfl ?_
    refine V_bipush 57 dX7_isDigit_7 (by decide) ?_
    refine V_icmp_gt 16 dX7_isDigit_9 (by decide) ⟨fun z => ?_, fun z => ?_⟩
    · replace k := k.1 z
      refine V_iconst 0 dX7_isDigit_16 (by decide) ?_
      exact V_zreturn dX7_isDigit_17 rfl (by decide) k
    · replace k := k.2 z
      refine V_iconst 1 dX7_isDigit_12 (by decide) ?_
      refine V_goto 17 dX7_isDigit_13 (by decide) ?_
      exact V_zreturn dX7_isDigit_17 rfl (by decide) k
-- X9_isWithin cuts []
set_option maxRecDepth 20000 in
set_option maxHeartbeats 2000000 in
theorem wX9_isWithin {d bc bs : Nat} {h : HS} {P : Option AV → HS → Prop} {l0 : Int32} {l1 : Int32} {l2 : Int32} (k : ((l0 < l1) → (P (some (aI 0)) h)) ∧ ((¬ l0 < l1) → (((l2 < l0) → (P (some (aI 0)) h)) ∧ ((¬ l2 < l0) → (P (some (aI 1)) h))))) : Cl true mX9_isWithin (d + 1) bc bs [aI l0, aI l1, aI l2] h P := by
  refine Cl_of (by decide) (Nat.le_of_ble_eq_true rfl) ?_
  show V true mX9_isWithin (d + 1) bc bs 0 [(0, aI l0), (1, aI l1), (2, aI l2)] [] h P
  refine V_iload_n 0 dX9_isWithin_0 rfl rfl ?_
  refine V_iload_n 1 dX9_isWithin_1 rfl rfl ?_
  refine V_icmp_lt 14 dX9_isWithin_2 (by decide) ⟨fun z => ?_, fun z => ?_⟩
  · replace k := k.1 z
    refine V_iconst 0 dX9_isWithin_14 (by decide) ?_
    exact V_zreturn dX9_isWithin_15 rfl (by decide) k
  · replace k := k.2 z
    refine V_iload_n 0 dX9_isWithin_5 rfl rfl ?_
    refine V_iload_n 2 dX9_isWithin_6 rfl rfl ?_
    refine V_icmp_gt 14 dX9_isWithin_7 (by decide) ⟨fun z => ?_, fun z => ?_⟩
    · replace k := k.1 z
      refine V_iconst 0 dX9_isWithin_14 (by decide) ?_
      exact V_zreturn dX9_isWithin_15 rfl (by decide) k
    · replace k := k.2 z
      refine V_iconst 1 dX9_isWithin_10 (by decide) ?_
      refine V_goto 15 dX9_isWithin_11 (by decide) ?_
      exact V_zreturn dX9_isWithin_15 rfl (by decide) k
-- X9_isTag cuts []
set_option maxRecDepth 20000 in
set_option maxHeartbeats 2000000 in
theorem wX9_isTag {d bc bs : Nat} {h : HS} {P : Option AV → HS → Prop} {l0 : Int32} (k : Cl true mX9_isWithin d 0 0 [aI l0, aI 1, aI 9999] h (fun r1 h2 => ∃ x3 : Int32, r1 = some (aI x3) ∧ ((x3 = 0 ∨ x3 = 1) ∧ P (some (aI x3)) h2))) : Cl true mX9_isTag (d + 1) bc bs [aI l0] h P := by
  refine Cl_of (by decide) (Nat.le_of_ble_eq_true rfl) ?_
  show V true mX9_isTag (d + 1) bc bs 0 [(0, aI l0)] [] h P
  refine V_iload_n 0 dX9_isTag_0 rfl rfl ?_
  refine V_iconst 1 dX9_isTag_1 (by decide) ?_
  refine V_sipush 9999 dX9_isTag_2 (by decide) ?_
  refine V_callS (mc := 0) (ms := 0) (as := [aI l0, aI 1, aI 9999]) (st := []) dX9_isTag_5 okX9_isWithin stX9_isWithin lkX9_85 rfl (Nat.le_of_ble_eq_true rfl) (Nat.zero_le _) (Nat.zero_le _) (Cl.mono (fun r1 h2 z => ?_) k)
  obtain ⟨x3, rfl, k⟩ := z
  exact V_zreturn dX9_isTag_8 rfl k.1 k.2
-- X9_isLevel cuts []
set_option maxRecDepth 20000 in
set_option maxHeartbeats 2000000 in
theorem wX9_isLevel {d bc bs : Nat} {h : HS} {P : Option AV → HS → Prop} {l0 : Int32} (k : Cl true mX9_isWithin d 0 0 [aI l0, aI 0, aI 3] h (fun r1 h2 => ∃ x3 : Int32, r1 = some (aI x3) ∧ ((x3 = 0 ∨ x3 = 1) ∧ P (some (aI x3)) h2))) : Cl true mX9_isLevel (d + 1) bc bs [aI l0] h P := by
  refine Cl_of (by decide) (Nat.le_of_ble_eq_true rfl) ?_
  show V true mX9_isLevel (d + 1) bc bs 0 [(0, aI l0)] [] h P
  refine V_iload_n 0 dX9_isLevel_0 rfl rfl ?_
  refine V_iconst 0 dX9_isLevel_1 (by decide) ?_
  refine V_iconst 3 dX9_isLevel_2 (by decide) ?_
  refine V_callS (mc := 0) (ms := 0) (as := [aI l0, aI 0, aI 3]) (st := []) dX9_isLevel_3 okX9_isWithin stX9_isWithin lkX9_85 rfl (Nat.le_of_ble_eq_true rfl) (Nat.zero_le _) (Nat.zero_le _) (Cl.mono (fun r1 h2 z => ?_) k)
  obtain ⟨x3, rfl, k⟩ := z
  exact V_zreturn dX9_isLevel_6 rfl k.1 k.2
-- X9_isHouseOrNone cuts []
set_option maxRecDepth 20000 in
set_option maxHeartbeats 2000000 in
theorem wX9_isHouseOrNone {d bc bs : Nat} {h : HS} {P : Option AV → HS → Prop} {l0 : Int32} (k : Cl true mX9_isWithin d 0 0 [aI l0, aI (-1), aI 19] h (fun r1 h2 => ∃ x3 : Int32, r1 = some (aI x3) ∧ ((x3 = 0 ∨ x3 = 1) ∧ P (some (aI x3)) h2))) : Cl true mX9_isHouseOrNone (d + 1) bc bs [aI l0] h P := by
  refine Cl_of (by decide) (Nat.le_of_ble_eq_true rfl) ?_
  show V true mX9_isHouseOrNone (d + 1) bc bs 0 [(0, aI l0)] [] h P
  refine V_iload_n 0 dX9_isHouseOrNone_0 rfl rfl ?_
  refine V_iconst (-1) dX9_isHouseOrNone_1 (by decide) ?_
  refine V_bipush 19 dX9_isHouseOrNone_2 (by decide) ?_
  refine V_callS (mc := 0) (ms := 0) (as := [aI l0, aI (-1), aI 19]) (st := []) dX9_isHouseOrNone_4 okX9_isWithin stX9_isWithin lkX9_85 rfl (Nat.le_of_ble_eq_true rfl) (Nat.zero_le _) (Nat.zero_le _) (Cl.mono (fun r1 h2 z => ?_) k)
  obtain ⟨x3, rfl, k⟩ := z
  exact V_zreturn dX9_isHouseOrNone_7 rfl k.1 k.2
-- X9_isBuyer cuts []
set_option maxRecDepth 20000 in
set_option maxHeartbeats 2000000 in
theorem wX9_isBuyer {d bc bs : Nat} {h : HS} {P : Option AV → HS → Prop} {l0 : Int32} {l1 : Int32} (k : ((¬ l0 = 0) → (Cl true mX9_isWithin d 0 0 [aI l0, aI 0, aI 2] h (fun r1 h2 => ∃ x3 : Int32, r1 = some (aI x3) ∧ (((x3 = 0) → (P (some (aI 0)) h2)) ∧ ((¬ x3 = 0) → (Cl true mX9_isWithin d 0 0 [aI l1, aI 0, aI 9] h2 (fun r4 h5 => ∃ x6 : Int32, r4 = some (aI x6) ∧ (((x6 = 0) → (P (some (aI 0)) h5)) ∧ ((¬ x6 = 0) → (P (some (aI 1)) h5)))))))))) ∧ ((l0 = 0) → (((¬ l1 = (-1)) → (P (some (aI 0)) h)) ∧ ((l1 = (-1)) → (P (some (aI 1)) h))))) : Cl true mX9_isBuyer (d + 1) bc bs [aI l0, aI l1] h P := by
  refine Cl_of (by decide) (Nat.le_of_ble_eq_true rfl) ?_
  show V true mX9_isBuyer (d + 1) bc bs 0 [(0, aI l0), (1, aI l1)] [] h P
  refine V_iload_n 0 dX9_isBuyer_0 rfl rfl ?_
  refine V_if_ne 15 dX9_isBuyer_1 (by decide) ⟨fun z => ?_, fun z => ?_⟩
  · replace k := k.1 z
    refine V_iload_n 0 dX9_isBuyer_15 rfl rfl ?_
    refine V_iconst 0 dX9_isBuyer_16 (by decide) ?_
    refine V_iconst 2 dX9_isBuyer_17 (by decide) ?_
    refine V_callS (mc := 0) (ms := 0) (as := [aI l0, aI 0, aI 2]) (st := []) dX9_isBuyer_18 okX9_isWithin stX9_isWithin lkX9_85 rfl (Nat.le_of_ble_eq_true rfl) (Nat.zero_le _) (Nat.zero_le _) (Cl.mono (fun r1 h2 z => ?_) k)
    obtain ⟨x3, rfl, k⟩ := z
    refine V_if_eq 38 dX9_isBuyer_21 (by decide) ⟨fun z => ?_, fun z => ?_⟩
    · replace k := k.1 z
      refine V_iconst 0 dX9_isBuyer_38 (by decide) ?_
      exact V_zreturn dX9_isBuyer_39 rfl (by decide) k
    · replace k := k.2 z
      refine V_iload_n 1 dX9_isBuyer_24 rfl rfl ?_
      refine V_iconst 0 dX9_isBuyer_25 (by decide) ?_
      refine V_bipush 9 dX9_isBuyer_26 (by decide) ?_
      refine V_callS (mc := 0) (ms := 0) (as := [aI l1, aI 0, aI 9]) (st := []) dX9_isBuyer_28 okX9_isWithin stX9_isWithin lkX9_85 rfl (Nat.le_of_ble_eq_true rfl) (Nat.zero_le _) (Nat.zero_le _) (Cl.mono (fun r4 h5 z => ?_) k)
      obtain ⟨x6, rfl, k⟩ := z
      refine V_if_eq 38 dX9_isBuyer_31 (by decide) ⟨fun z => ?_, fun z => ?_⟩
      · replace k := k.1 z
        refine V_iconst 0 dX9_isBuyer_38 (by decide) ?_
        exact V_zreturn dX9_isBuyer_39 rfl (by decide) k
      · replace k := k.2 z
        refine V_iconst 1 dX9_isBuyer_34 (by decide) ?_
        refine V_goto 39 dX9_isBuyer_35 (by decide) ?_
        exact V_zreturn dX9_isBuyer_39 rfl (by decide) k
  · replace k := k.2 z
    refine V_iload_n 1 dX9_isBuyer_4 rfl rfl ?_
    refine V_iconst (-1) dX9_isBuyer_5 (by decide) ?_
    refine V_icmp_ne 13 dX9_isBuyer_6 (by decide) ⟨fun z => ?_, fun z => ?_⟩
    · replace k := k.1 z
      refine V_iconst 0 dX9_isBuyer_13 (by decide) ?_
      exact V_zreturn dX9_isBuyer_14 rfl (by decide) k
    · replace k := k.2 z
      refine V_iconst 1 dX9_isBuyer_9 (by decide) ?_
      refine V_goto 14 dX9_isBuyer_10 (by decide) ?_
      exact V_zreturn dX9_isBuyer_14 rfl (by decide) k
-- J9_max_7cf53 cuts []
set_option maxRecDepth 20000 in
set_option maxHeartbeats 2000000 in
theorem wJ9_max_7cf53 {d bc bs : Nat} {h : HS} {P : Option AV → HS → Prop} {l0 : Int32} {l1 : Int32} (k : ((l0 < l1) → (P (some (aI l1)) h)) ∧ ((¬ l0 < l1) → (P (some (aI l0)) h))) : Cl true mJ9_max_7cf53 (d + 1) bc bs [aI l0, aI l1] h P := by
  refine Cl_ofF (by decide +kernel) (Nat.le_of_ble_eq_true rfl) ?_
  show V true mJ9_max_7cf53 (d + 1) bc bs 0 [(0, aI l0), (1, aI l1)] [] h P
  refine V_iload_n 0 dJ9_max_7cf53_0 rfl rfl ?_
  refine V_iload_n 1 dJ9_max_7cf53_1 rfl rfl ?_
  refine V_icmp_lt 9 dJ9_max_7cf53_2 (by decide) ⟨fun z => ?_, fun z => ?_⟩
  · replace k := k.1 z
    refine V_iload_n 1 dJ9_max_7cf53_9 rfl rfl ?_
    exact V_ireturn dJ9_max_7cf53_10 rfl k
  · replace k := k.2 z
    refine V_iload_n 0 dJ9_max_7cf53_5 rfl rfl ?_
    refine V_goto 10 dJ9_max_7cf53_6 (by decide) ?_
    exact V_ireturn dJ9_max_7cf53_10 rfl k
-- J9_min_7cf53 cuts []
set_option maxRecDepth 20000 in
set_option maxHeartbeats 2000000 in
theorem wJ9_min_7cf53 {d bc bs : Nat} {h : HS} {P : Option AV → HS → Prop} {l0 : Int32} {l1 : Int32} (k : ((l1 < l0) → (P (some (aI l1)) h)) ∧ ((¬ l1 < l0) → (P (some (aI l0)) h))) : Cl true mJ9_min_7cf53 (d + 1) bc bs [aI l0, aI l1] h P := by
  refine Cl_ofF (by decide +kernel) (Nat.le_of_ble_eq_true rfl) ?_
  show V true mJ9_min_7cf53 (d + 1) bc bs 0 [(0, aI l0), (1, aI l1)] [] h P
  refine V_iload_n 0 dJ9_min_7cf53_0 rfl rfl ?_
  refine V_iload_n 1 dJ9_min_7cf53_1 rfl rfl ?_
  refine V_icmp_gt 9 dJ9_min_7cf53_2 (by decide) ⟨fun z => ?_, fun z => ?_⟩
  · replace k := k.1 z
    refine V_iload_n 1 dJ9_min_7cf53_9 rfl rfl ?_
    exact V_ireturn dJ9_min_7cf53_10 rfl k
  · replace k := k.2 z
    refine V_iload_n 0 dJ9_min_7cf53_5 rfl rfl ?_
    refine V_goto 10 dJ9_min_7cf53_6 (by decide) ?_
    exact V_ireturn dJ9_min_7cf53_10 rfl k
set_option maxRecDepth 20000 in
set_option maxHeartbeats 2000000 in
theorem wJx4a65c_size_8abf5_r1 {d bc bs : Nat} {h : HS} {P : Option AV → HS → Prop}  (k : P (some (aI (gI h 1 0 2))) h) : Cl true mJx4a65c_size_8abf5 (d + 1) bc bs [aR 1 0] h P := by
  refine Cl_ofF (by decide +kernel) (Nat.le_of_ble_eq_true rfl) ?_
  show V true mJx4a65c_size_8abf5 (d + 1) bc bs 0 [(0, aR 1 0)] [] h P
  refine V_aload_n 0 dJx4a65c_size_8abf5_0 rfl rfl ?_
  refine GI_1_2 dJx4a65c_size_8abf5_1 lkJx4a65c_48 ?_
  exact V_ireturn dJx4a65c_size_8abf5_4 rfl k
set_option maxRecDepth 20000 in
set_option maxHeartbeats 2000000 in
theorem wJx4a65c_size_8abf5_r2 {d bc bs : Nat} {h : HS} {P : Option AV → HS → Prop}  (k : P (some (aI (gI h 2 0 2))) h) : Cl true mJx4a65c_size_8abf5 (d + 1) bc bs [aR 2 0] h P := by
  refine Cl_ofF (by decide +kernel) (Nat.le_of_ble_eq_true rfl) ?_
  show V true mJx4a65c_size_8abf5 (d + 1) bc bs 0 [(0, aR 2 0)] [] h P
  refine V_aload_n 0 dJx4a65c_size_8abf5_0 rfl rfl ?_
  refine GI_2_2 dJx4a65c_size_8abf5_1 lkJx4a65c_48 ?_
  exact V_ireturn dJx4a65c_size_8abf5_4 rfl k

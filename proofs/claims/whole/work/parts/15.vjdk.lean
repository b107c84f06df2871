set_option maxRecDepth 20000 in
set_option maxHeartbeats 2000000 in
theorem wJx4a65c_elementData_915e3_1 {d bc bs : Nat} {h : HS} {P : Option AV → HS → Prop} {l1 : Int32} {t0 : Nat} (k : gR h 1 0 1 = some (63, t0) ∧ (vp_in l1 t0 ∧ (P (some (aP (gR h 63 t0 l1.toNatClampNeg))) h))) : Cl true mJx4a65c_elementData_915e3 (d + 3) bc bs [aR 1 0, aI l1] h P := by
  refine Cl_ofF (by decide +kernel) (Nat.le_of_ble_eq_true rfl) ?_
  show V true mJx4a65c_elementData_915e3 (d + 3) bc bs 0 [(0, aR 1 0), (1, aI l1)] [] h P
  refine V_aload_n 0 dJx4a65c_elementData_915e3_0 rfl rfl ?_
  refine V_getR (T := TJx4a65c) (k := 1) (some (63, t0)) (by decide) rt_1 rfl (by decide) rfl dJx4a65c_elementData_915e3_1 lkJx4a65c_9 k.1 ?_
  replace k := k.2
  refine V_iload_n 1 dJx4a65c_elementData_915e3_4 rfl rfl ?_
  refine V_aald (gR h 63 t0 l1.toNatClampNeg) (by decide) rt_63 dJx4a65c_elementData_915e3_5 k.1 rfl ?_
  replace k := k.2
  exact V_areturn dJx4a65c_elementData_915e3_6 rfl (by first | exact Or.inl ⟨_, rfl⟩ | exact Or.inr ⟨_, rfl⟩) k
set_option maxRecDepth 20000 in
set_option maxHeartbeats 2000000 in
theorem wJx4a65c_get_915e3_1 {d bc bs : Nat} {h : HS} {P : Option AV → HS → Prop} {l1 : Int32} (k : Cl true mJ15_checkIndex_7cf53 (d + 2) 0 0 [aI l1, aI (gI h 1 0 2)] h (fun r1 h2 => ∃ x3 : Int32, r1 = some (aI x3) ∧ (Cl true mJx4a65c_elementData_915e3 (d + 2) 0 0 [aR 1 0, aI l1] h2 (fun r4 h5 => ∃ q6 : Option PT, r4 = some (aP q6) ∧ (P (some (aP q6)) h5))))) : Cl true mJx4a65c_get_915e3 (d + 3) bc bs [aR 1 0, aI l1] h P := by
  refine Cl_ofF (by decide +kernel) (Nat.le_of_ble_eq_true rfl) ?_
  show V true mJx4a65c_get_915e3 (d + 3) bc bs 0 [(0, aR 1 0), (1, aI l1)] [] h P
  refine V_iload_n 1 dJx4a65c_get_915e3_0 rfl rfl ?_
  refine V_aload_n 0 dJx4a65c_get_915e3_1 rfl rfl ?_
  refine GI_1_2 dJx4a65c_get_915e3_2 lkJx4a65c_48 ?_
  refine V_callS (mc := 0) (ms := 0) (as := [aI l1, aI (gI h 1 0 2)]) (st := []) dJx4a65c_get_915e3_5 okJ15_checkIndex_7cf53 stJ15_checkIndex_7cf53 lkJx4a65c_118 rfl (Nat.le_of_ble_eq_true rfl) (Nat.zero_le _) (Nat.zero_le _) (Cl.mono (fun r1 h2 z => ?_) k)
  obtain ⟨x3, rfl, k⟩ := z
  refine V_pop dJx4a65c_get_915e3_8 rfl ?_
  refine V_aload_n 0 dJx4a65c_get_915e3_9 rfl rfl ?_
  refine V_iload_n 1 dJx4a65c_get_915e3_10 rfl rfl ?_
  refine V_callV (mc := 0) (ms := 0) (as := [aI l1]) (st := []) (by decide) rt_1 rfl dJx4a65c_get_915e3_11 okJx4a65c_elementData_915e3 inJx4a65c_elementData_915e3 seJx4a65c_elementData_915e3 lkJx4a65c_123 rfl (Nat.le_of_ble_eq_true rfl) (Nat.zero_le _) (Nat.zero_le _) (Cl.mono (fun r4 h5 z => ?_) k)
  obtain ⟨q6, rfl, k⟩ := z
  exact V_areturn dJx4a65c_get_915e3_14 rfl (by first | exact Or.inl ⟨_, rfl⟩ | exact Or.inr ⟨_, rfl⟩) k
set_option maxRecDepth 20000 in
set_option maxHeartbeats 2000000 in
theorem wJx4a65c_add_9ea2d_1b {d bc bs : Nat} {h : HS} {P : Option AV → HS → Prop} {i1 : Nat} {t0 : Nat} (k : gR (sI h 1 0 0 ((gI h 1 0 0) + 1)) 1 0 1 = some (63, t0) ∧ (1 ≤ bc ∧ 200 ≤ bs ∧ (Cl true mJx4a65c_add_72be8 (d + 2) 1 200 [aR 1 0, aR 60 i1, aR 63 t0, aI (gI h 1 0 2)] (sI h 1 0 0 ((gI h 1 0 0) + 1)) (fun r1 h2 => r1 = none ∧ (P (some (aI 1)) h2))))) : Cl true mJx4a65c_add_9ea2d (d + 3) bc bs [aR 1 0, aR 60 i1] h P := by
  refine Cl_ofF (by decide +kernel) (Nat.le_of_ble_eq_true rfl) ?_
  show V true mJx4a65c_add_9ea2d (d + 3) bc bs 0 [(0, aR 1 0), (1, aR 60 i1)] [] h P
  refine V_aload_n 0 dJx4a65c_add_9ea2d_0 rfl rfl ?_
  refine V_dup dJx4a65c_add_9ea2d_1 rfl ?_
  refine V_getI2 (T := TJx4a65c) (k := 0) (ref := "java/util/ArrayList") (by decide) rt_1 rfl (by decide) rfl dJx4a65c_add_9ea2d_2 sf_mod lkJx4a65c_63 ?_
  refine V_iconst 1 dJx4a65c_add_9ea2d_5 (by decide) ?_
  refine V_iadd dJx4a65c_add_9ea2d_6 ?_
  refine V_putI2 (T := TJx4a65c) (k := 0) (ref := "java/util/ArrayList") (by decide) rt_1 rfl (by decide) rfl (Or.inl rfl) dJx4a65c_add_9ea2d_7 sf_mod lkJx4a65c_63 ?_
  refine V_aload_n 0 dJx4a65c_add_9ea2d_10 rfl rfl ?_
  refine V_aload_n 1 dJx4a65c_add_9ea2d_11 rfl rfl ?_
  refine V_aload_n 0 dJx4a65c_add_9ea2d_12 rfl rfl ?_
  refine V_getR (T := TJx4a65c) (k := 1) (some (63, t0)) (by decide) rt_1 rfl (by decide) rfl dJx4a65c_add_9ea2d_13 lkJx4a65c_9 k.1 ?_
  replace k := k.2
  refine V_aload_n 0 dJx4a65c_add_9ea2d_16 rfl rfl ?_
  refine GI_1_2 dJx4a65c_add_9ea2d_17 lkJx4a65c_48 ?_
  refine V_re (y := gI h 1 0 2) rfl ?_
  obtain ⟨kb1, kb2, k⟩ := k
  refine V_callV (mc := 1) (ms := 200) (as := [aR 60 i1, aR 63 t0, aI (gI h 1 0 2)]) (st := []) (by decide) rt_1 rfl dJx4a65c_add_9ea2d_20 okJx4a65c_add_72be8 inJx4a65c_add_72be8 seJx4a65c_add_72be8 lkJx4a65c_131 rfl (Nat.le_of_ble_eq_true rfl) kb1 kb2 (Cl.mono (fun r1 h2 z => ?_) k)
  obtain ⟨rfl, k⟩ := z
  refine V_iconst 1 dJx4a65c_add_9ea2d_23 (by decide) ?_
  exact V_zreturn dJx4a65c_add_9ea2d_24 rfl (by decide) k
set_option maxRecDepth 20000 in
set_option maxHeartbeats 2000000 in
theorem wJx4a65c_add_9ea2d_1e {d bc bs : Nat} {h : HS} {P : Option AV → HS → Prop} {i1 : Nat} (k : gR (sI h 1 0 0 ((gI h 1 0 0) + 1)) 1 0 1 = some (66, 0) ∧ (1 ≤ bc ∧ 200 ≤ bs ∧ (Cl true mJx4a65c_add_72be8 (d + 2) 1 200 [aR 1 0, aR 60 i1, aR 66 0, aI (gI h 1 0 2)] (sI h 1 0 0 ((gI h 1 0 0) + 1)) (fun r1 h2 => r1 = none ∧ (P (some (aI 1)) h2))))) : Cl true mJx4a65c_add_9ea2d (d + 3) bc bs [aR 1 0, aR 60 i1] h P := by
  refine Cl_ofF (by decide +kernel) (Nat.le_of_ble_eq_true rfl) ?_
  show V true mJx4a65c_add_9ea2d (d + 3) bc bs 0 [(0, aR 1 0), (1, aR 60 i1)] [] h P
  refine V_aload_n 0 dJx4a65c_add_9ea2d_0 rfl rfl ?_
  refine V_dup dJx4a65c_add_9ea2d_1 rfl ?_
  refine V_getI2 (T := TJx4a65c) (k := 0) (ref := "java/util/ArrayList") (by decide) rt_1 rfl (by decide) rfl dJx4a65c_add_9ea2d_2 sf_mod lkJx4a65c_63 ?_
  refine V_iconst 1 dJx4a65c_add_9ea2d_5 (by decide) ?_
  refine V_iadd dJx4a65c_add_9ea2d_6 ?_
  refine V_putI2 (T := TJx4a65c) (k := 0) (ref := "java/util/ArrayList") (by decide) rt_1 rfl (by decide) rfl (Or.inl rfl) dJx4a65c_add_9ea2d_7 sf_mod lkJx4a65c_63 ?_
  refine V_aload_n 0 dJx4a65c_add_9ea2d_10 rfl rfl ?_
  refine V_aload_n 1 dJx4a65c_add_9ea2d_11 rfl rfl ?_
  refine V_aload_n 0 dJx4a65c_add_9ea2d_12 rfl rfl ?_
  refine V_getR (T := TJx4a65c) (k := 1) (some (66, 0)) (by decide) rt_1 rfl (by decide) rfl dJx4a65c_add_9ea2d_13 lkJx4a65c_9 k.1 ?_
  replace k := k.2
  refine V_aload_n 0 dJx4a65c_add_9ea2d_16 rfl rfl ?_
  refine GI_1_2 dJx4a65c_add_9ea2d_17 lkJx4a65c_48 ?_
  refine V_re (y := gI h 1 0 2) rfl ?_
  obtain ⟨kb1, kb2, k⟩ := k
  refine V_callV (mc := 1) (ms := 200) (as := [aR 60 i1, aR 66 0, aI (gI h 1 0 2)]) (st := []) (by decide) rt_1 rfl dJx4a65c_add_9ea2d_20 okJx4a65c_add_72be8 inJx4a65c_add_72be8 seJx4a65c_add_72be8 lkJx4a65c_131 rfl (Nat.le_of_ble_eq_true rfl) kb1 kb2 (Cl.mono (fun r1 h2 z => ?_) k)
  obtain ⟨rfl, k⟩ := z
  refine V_iconst 1 dJx4a65c_add_9ea2d_23 (by decide) ?_
  exact V_zreturn dJx4a65c_add_9ea2d_24 rfl (by decide) k
set_option maxRecDepth 20000 in
set_option maxHeartbeats 2000000 in
theorem wJx4a65c_add_72be8_1b {d bc bs : Nat} {h : HS} {P : Option AV → HS → Prop} {i1 : Nat} {t2 : Nat} {l3 : Int32} (k : ((¬ l3 = (Int32.ofNat t2)) → (vp_in l3 t2 ∧ (P none (sI (sR h 63 t2 l3.toNatClampNeg (some (60, i1))) 1 0 2 (l3 + 1))))) ∧ ((l3 = (Int32.ofNat t2)) → (1 ≤ bc ∧ 200 ≤ bs ∧ (Cl true mJx4a65c_grow_d5877 (d + 2) 1 200 [aR 1 0] h (fun r1 h2 => ∃ t3, r1 = some (aR 63 t3) ∧ (vp_in l3 t3 ∧ (P none (sI (sR h2 63 t3 l3.toNatClampNeg (some (60, i1))) 1 0 2 (l3 + 1))))))))) : Cl true mJx4a65c_add_72be8 (d + 3) bc bs [aR 1 0, aR 60 i1, aR 63 t2, aI l3] h P := by
  refine Cl_ofF (by decide +kernel) (Nat.le_of_ble_eq_true rfl) ?_
  show V true mJx4a65c_add_72be8 (d + 3) bc bs 0 [(0, aR 1 0), (1, aR 60 i1), (2, aR 63 t2), (3, aI l3)] [] h P
  refine V_iload_n 3 dJx4a65c_add_72be8_0 rfl rfl ?_
  refine V_aload_n 2 dJx4a65c_add_72be8_1 rfl rfl ?_
  refine V_alenR (by decide) rt_63 rfl dJx4a65c_add_72be8_2 ?_
  refine V_icmp_ne 11 dJx4a65c_add_72be8_3 (by decide) ⟨fun z => ?_, fun z => ?_⟩
  · replace k := k.1 z
    refine V_aload_n 2 dJx4a65c_add_72be8_11 rfl rfl ?_
    refine V_iload_n 3 dJx4a65c_add_72be8_12 rfl rfl ?_
    refine V_aload_n 1 dJx4a65c_add_72be8_13 rfl rfl ?_
    refine V_aast (by decide) rt_63 (by decide) rt_60 rfl (Or.inl rfl) (Or.inr (fun _ => rfl)) dJx4a65c_add_72be8_14 k.1 ?_
    replace k := k.2
    refine V_aload_n 0 dJx4a65c_add_72be8_15 rfl rfl ?_
    refine V_iload_n 3 dJx4a65c_add_72be8_16 rfl rfl ?_
    refine V_iconst 1 dJx4a65c_add_72be8_17 (by decide) ?_
    refine V_iadd dJx4a65c_add_72be8_18 ?_
    refine PI_1_2 dJx4a65c_add_72be8_19 lkJx4a65c_48 ?_
    exact V_return dJx4a65c_add_72be8_22 rfl k
  · replace k := k.2 z
    refine V_aload_n 0 dJx4a65c_add_72be8_6 rfl rfl ?_
    obtain ⟨kb1, kb2, k⟩ := k
    refine V_callV (mc := 1) (ms := 200) (as := []) (st := []) (by decide) rt_1 rfl dJx4a65c_add_72be8_7 okJx4a65c_grow_d5877 inJx4a65c_grow_d5877 seJx4a65c_grow_d5877 lkJx4a65c_129 rfl (Nat.le_of_ble_eq_true rfl) kb1 kb2 (Cl.mono (fun r1 h2 z => ?_) k)
    obtain ⟨t3, rfl, k⟩ := z
    refine V_astore_n 2 dJx4a65c_add_72be8_10 rfl (by decide) rfl ?_
    refine V_aload_n 2 dJx4a65c_add_72be8_11 rfl rfl ?_
    refine V_iload_n 3 dJx4a65c_add_72be8_12 rfl rfl ?_
    refine V_aload_n 1 dJx4a65c_add_72be8_13 rfl rfl ?_
    refine V_aast (by decide) rt_63 (by decide) rt_60 rfl (Or.inl rfl) (Or.inr (fun _ => rfl)) dJx4a65c_add_72be8_14 k.1 ?_
    replace k := k.2
    refine V_aload_n 0 dJx4a65c_add_72be8_15 rfl rfl ?_
    refine V_iload_n 3 dJx4a65c_add_72be8_16 rfl rfl ?_
    refine V_iconst 1 dJx4a65c_add_72be8_17 (by decide) ?_
    refine V_iadd dJx4a65c_add_72be8_18 ?_
    refine PI_1_2 dJx4a65c_add_72be8_19 lkJx4a65c_48 ?_
    exact V_return dJx4a65c_add_72be8_22 rfl k
set_option maxRecDepth 20000 in
set_option maxHeartbeats 2000000 in
theorem wJx4a65c_add_72be8_1e {d bc bs : Nat} {h : HS} {P : Option AV → HS → Prop} {i1 : Nat} {l3 : Int32} (k : ((¬ l3 = 0) → False) ∧ ((l3 = 0) → (1 ≤ bc ∧ 200 ≤ bs ∧ (Cl true mJx4a65c_grow_d5877 (d + 2) 1 200 [aR 1 0] h (fun r1 h2 => ∃ t3, r1 = some (aR 63 t3) ∧ (vp_in l3 t3 ∧ (P none (sI (sR h2 63 t3 l3.toNatClampNeg (some (60, i1))) 1 0 2 (l3 + 1))))))))) : Cl true mJx4a65c_add_72be8 (d + 3) bc bs [aR 1 0, aR 60 i1, aR 66 0, aI l3] h P := by
  refine Cl_ofF (by decide +kernel) (Nat.le_of_ble_eq_true rfl) ?_
  show V true mJx4a65c_add_72be8 (d + 3) bc bs 0 [(0, aR 1 0), (1, aR 60 i1), (2, aR 66 0), (3, aI l3)] [] h P
  refine V_iload_n 3 dJx4a65c_add_72be8_0 rfl rfl ?_
  refine V_aload_n 2 dJx4a65c_add_72be8_1 rfl rfl ?_
  refine V_alenE dJx4a65c_add_72be8_2 ?_
  refine V_icmp_ne 11 dJx4a65c_add_72be8_3 (by decide) ⟨fun z => ?_, fun z => ?_⟩
  · replace k := k.1 z
    exact k.elim
  · replace k := k.2 z
    refine V_aload_n 0 dJx4a65c_add_72be8_6 rfl rfl ?_
    obtain ⟨kb1, kb2, k⟩ := k
    refine V_callV (mc := 1) (ms := 200) (as := []) (st := []) (by decide) rt_1 rfl dJx4a65c_add_72be8_7 okJx4a65c_grow_d5877 inJx4a65c_grow_d5877 seJx4a65c_grow_d5877 lkJx4a65c_129 rfl (Nat.le_of_ble_eq_true rfl) kb1 kb2 (Cl.mono (fun r1 h2 z => ?_) k)
    obtain ⟨t3, rfl, k⟩ := z
    refine V_astore_n 2 dJx4a65c_add_72be8_10 rfl (by decide) rfl ?_
    refine V_aload_n 2 dJx4a65c_add_72be8_11 rfl rfl ?_
    refine V_iload_n 3 dJx4a65c_add_72be8_12 rfl rfl ?_
    refine V_aload_n 1 dJx4a65c_add_72be8_13 rfl rfl ?_
    refine V_aast (by decide) rt_63 (by decide) rt_60 rfl (Or.inl rfl) (Or.inr (fun _ => rfl)) dJx4a65c_add_72be8_14 k.1 ?_
    replace k := k.2
    refine V_aload_n 0 dJx4a65c_add_72be8_15 rfl rfl ?_
    refine V_iload_n 3 dJx4a65c_add_72be8_16 rfl rfl ?_
    refine V_iconst 1 dJx4a65c_add_72be8_17 (by decide) ?_
    refine V_iadd dJx4a65c_add_72be8_18 ?_
    refine PI_1_2 dJx4a65c_add_72be8_19 lkJx4a65c_48 ?_
    exact V_return dJx4a65c_add_72be8_22 rfl k
set_option maxRecDepth 20000 in
set_option maxHeartbeats 2000000 in
theorem wJx4a65c_grow_d5877_1 {d bc bs : Nat} {h : HS} {P : Option AV → HS → Prop}  (k : 1 ≤ bc ∧ 200 ≤ bs ∧ (Cl true mJx4a65c_grow_92f84 (d + 2) 1 200 [aR 1 0, aI ((gI h 1 0 2) + 1)] h (fun r1 h2 => ∃ t3, r1 = some (aR 63 t3) ∧ (P (some (aR 63 t3)) h2)))) : Cl true mJx4a65c_grow_d5877 (d + 3) bc bs [aR 1 0] h P := by
  refine Cl_ofF (by decide +kernel) (Nat.le_of_ble_eq_true rfl) ?_
  show V true mJx4a65c_grow_d5877 (d + 3) bc bs 0 [(0, aR 1 0)] [] h P
  refine V_aload_n 0 dJx4a65c_grow_d5877_0 rfl rfl ?_
  refine V_aload_n 0 dJx4a65c_grow_d5877_1 rfl rfl ?_
  refine GI_1_2 dJx4a65c_grow_d5877_2 lkJx4a65c_48 ?_
  refine V_iconst 1 dJx4a65c_grow_d5877_5 (by decide) ?_
  refine V_iadd dJx4a65c_grow_d5877_6 ?_
  obtain ⟨kb1, kb2, k⟩ := k
  refine V_callV (mc := 1) (ms := 200) (as := [aI ((gI h 1 0 2) + 1)]) (st := []) (by decide) rt_1 rfl dJx4a65c_grow_d5877_7 okJx4a65c_grow_92f84 inJx4a65c_grow_92f84 seJx4a65c_grow_92f84 lkJx4a65c_69 rfl (Nat.le_of_ble_eq_true rfl) kb1 kb2 (Cl.mono (fun r1 h2 z => ?_) k)
  obtain ⟨t3, rfl, k⟩ := z
  exact V_areturn dJx4a65c_grow_d5877_10 rfl (by first | exact Or.inl ⟨_, rfl⟩ | exact Or.inr ⟨_, rfl⟩) k
set_option maxRecDepth 20000 in
set_option maxHeartbeats 2000000 in
theorem wJx4a65c_grow_92f84_1b {d bc bs : Nat} {h : HS} {P : Option AV → HS → Prop} {l1 : Int32} {t0 : Nat} (k : gR h 1 0 1 = some (63, t0) ∧ (((0 < (Int32.ofNat t0)) → (Cl true mJ8_newLength_cabcc (d + 2) 0 0 [aI (Int32.ofNat t0), aI (l1 - (Int32.ofNat t0)), aI ((Int32.ofNat t0) >>> (1 &&& 31))] h (fun r1 h2 => ∃ x3 : Int32, r1 = some (aI x3) ∧ (gR h2 1 0 1 = some (63, t0) ∧ (1 ≤ bc ∧ 200 ≤ bs ∧ (Cl true mJ7_copyOf_1904c (d + 2) 1 200 [aR 63 t0, aI x3] h2 (fun r4 h5 => ∃ t6, r4 = some (aR 63 t6) ∧ (P (some (aR 63 t6)) (sR h5 1 0 1 (some (63, t6))))))))))) ∧ ((¬ 0 < (Int32.ofNat t0)) → False))) : Cl true mJx4a65c_grow_92f84 (d + 3) bc bs [aR 1 0, aI l1] h P := by
  refine Cl_ofF (by decide +kernel) (Nat.le_of_ble_eq_true rfl) ?_
  show V true mJx4a65c_grow_92f84 (d + 3) bc bs 0 [(0, aR 1 0), (1, aI l1)] [] h P
  refine V_aload_n 0 dJx4a65c_grow_92f84_0 rfl rfl ?_
  refine V_getR (T := TJx4a65c) (k := 1) (some (63, t0)) (by decide) rt_1 rfl (by decide) rfl dJx4a65c_grow_92f84_1 lkJx4a65c_9 k.1 ?_
  replace k := k.2
  refine V_alenR (by decide) rt_63 rfl dJx4a65c_grow_92f84_4 ?_
  refine V_istore_n 2 dJx4a65c_grow_92f84_5 rfl (by decide) rfl ?_
  refine V_iload_n 2 dJx4a65c_grow_92f84_6 rfl rfl ?_
  refine V_if_gt 20 dJx4a65c_grow_92f84_7 (by decide) ⟨fun z => ?_, fun z => ?_⟩
  · replace k := k.1 z
    refine V_iload_n 2 dJx4a65c_grow_92f84_20 rfl rfl ?_
    refine V_iload_n 1 dJx4a65c_grow_92f84_21 rfl rfl ?_
    refine V_iload_n 2 dJx4a65c_grow_92f84_22 rfl rfl ?_
    refine V_isub dJx4a65c_grow_92f84_23 ?_
    refine V_iload_n 2 dJx4a65c_grow_92f84_24 rfl rfl ?_
    refine V_iconst 1 dJx4a65c_grow_92f84_25 (by decide) ?_
    refine V_ishr dJx4a65c_grow_92f84_26 ?_
    refine V_callS (mc := 0) (ms := 0) (as := [aI (Int32.ofNat t0), aI (l1 - (Int32.ofNat t0)), aI ((Int32.ofNat t0) >>> (1 &&& 31))]) (st := []) dJx4a65c_grow_92f84_27 okJ8_newLength_cabcc stJ8_newLength_cabcc lkJx4a65c_73 rfl (Nat.le_of_ble_eq_true rfl) (Nat.zero_le _) (Nat.zero_le _) (Cl.mono (fun r1 h2 z => ?_) k)
    obtain ⟨x3, rfl, k⟩ := z
    refine V_istore_n 3 dJx4a65c_grow_92f84_30 rfl (by decide) rfl ?_
    refine V_aload_n 0 dJx4a65c_grow_92f84_31 rfl rfl ?_
    refine V_aload_n 0 dJx4a65c_grow_92f84_32 rfl rfl ?_
    refine V_getR (T := TJx4a65c) (k := 1) (some (63, t0)) (by decide) rt_1 rfl (by decide) rfl dJx4a65c_grow_92f84_33 lkJx4a65c_9 k.1 ?_
    replace k := k.2
    refine V_iload_n 3 dJx4a65c_grow_92f84_36 rfl rfl ?_
    obtain ⟨kb1, kb2, k⟩ := k
    refine V_callS (mc := 1) (ms := 200) (as := [aR 63 t0, aI x3]) (st := [aR 1 0]) dJx4a65c_grow_92f84_37 okJ7_copyOf_1904c stJ7_copyOf_1904c lkJx4a65c_66 rfl (Nat.le_of_ble_eq_true rfl) kb1 kb2 (Cl.mono (fun r4 h5 z => ?_) k)
    obtain ⟨t6, rfl, k⟩ := z
    refine V_dup_x1 dJx4a65c_grow_92f84_40 rfl rfl ?_
    refine V_putR (k := 1) (by decide) rt_1 rfl (by decide) rfl (Or.inl rfl) (Or.inr rfl) dJx4a65c_grow_92f84_41 lkJx4a65c_9 ?_
    exact V_areturn dJx4a65c_grow_92f84_44 rfl (by first | exact Or.inl ⟨_, rfl⟩ | exact Or.inr ⟨_, rfl⟩) k
  · replace k := k.2 z
    exact k.elim
set_option maxRecDepth 20000 in
set_option maxHeartbeats 2000000 in
theorem wJx4a65c_grow_92f84_1e {d bc bs : Nat} {h : HS} {P : Option AV → HS → Prop} {l1 : Int32} (k : gR h 1 0 1 = some (66, 0) ∧ (gR h 1 0 1 = some (66, 0) ∧ (∃ n3 : Nat, ¬ (maxF 10 l1) < 0 ∧ Int32.toNatClampNeg (maxF 10 l1) = n3 ∧ n3 ≤ 65536 ∧ 1 ≤ bc ∧ n3 ≤ bs ∧ (63, n3) ∉ h.2.2 ∧ (P (some (aR 63 n3)) (sR (nw h 63 n3) 1 0 1 (some (63, n3))))))) : Cl true mJx4a65c_grow_92f84 (d + 3) bc bs [aR 1 0, aI l1] h P := by
  refine Cl_ofF (by decide +kernel) (Nat.le_of_ble_eq_true rfl) ?_
  show V true mJx4a65c_grow_92f84 (d + 3) bc bs 0 [(0, aR 1 0), (1, aI l1)] [] h P
  refine V_aload_n 0 dJx4a65c_grow_92f84_0 rfl rfl ?_
  refine V_getR (T := TJx4a65c) (k := 1) (some (66, 0)) (by decide) rt_1 rfl (by decide) rfl dJx4a65c_grow_92f84_1 lkJx4a65c_9 k.1 ?_
  replace k := k.2
  refine V_alenE dJx4a65c_grow_92f84_4 ?_
  refine V_istore_n 2 dJx4a65c_grow_92f84_5 rfl (by decide) rfl ?_
  refine V_iload_n 2 dJx4a65c_grow_92f84_6 rfl rfl ?_
  refine V_if_gt 20 dJx4a65c_grow_92f84_7 (by decide) ⟨fun z => absurd z (by decide), fun z => ?_⟩
  refine V_aload_n 0 dJx4a65c_grow_92f84_10 rfl rfl ?_
  refine V_getR (T := TJx4a65c) (k := 1) (some (66, 0)) (by decide) rt_1 rfl (by decide) rfl dJx4a65c_grow_92f84_11 lkJx4a65c_9 k.1 ?_
  replace k := k.2
  refine V_getsE dJx4a65c_grow_92f84_14 lkJx4a65c_39 ?_
  refine V_acmpE 45 dJx4a65c_grow_92f84_17 (by decide) ?_
  refine V_aload_n 0 dJx4a65c_grow_92f84_45 rfl rfl ?_
  refine V_bipush 10 dJx4a65c_grow_92f84_46 (by decide) ?_
  refine V_iload_n 1 dJx4a65c_grow_92f84_48 rfl rfl ?_
  refine V_callS (mc := 0) (ms := 0) (as := [aI 10, aI l1]) (st := [aR 1 0]) dJx4a65c_grow_92f84_49 okJ9_max_7cf53 stJ9_max_7cf53 lkJx4a65c_79 rfl (Nat.le_of_ble_eq_true rfl) (Nat.zero_le _) (Nat.zero_le _) (cJ9_max_ ?_)
  show V true mJx4a65c_grow_92f84 (d + 3) _ _ 52 [(2, aI 0), (0, aR 1 0), (1, aI l1)] [aI (maxF 10 l1), aR 1 0] h P
  obtain ⟨n3, ka, kb, kc, kd, ke, kf, k⟩ := k
  refine V_anew (by decide) rt_63 (Or.inr (fun _ => rfl)) dJx4a65c_grow_92f84_52 lkJx4a65c_7 ka kb kc kd ke kf ?_
  refine V_dup_x1 dJx4a65c_grow_92f84_55 rfl rfl ?_
  refine V_putR (k := 1) (by decide) rt_1 rfl (by decide) rfl (Or.inl rfl) (Or.inr rfl) dJx4a65c_grow_92f84_56 lkJx4a65c_9 ?_
  exact V_areturn dJx4a65c_grow_92f84_59 rfl (by first | exact Or.inl ⟨_, rfl⟩ | exact Or.inr ⟨_, rfl⟩) k
set_option maxRecDepth 20000 in
set_option maxHeartbeats 2000000 in
theorem wJ7_copyOf_1904c_1 {d bc bs : Nat} {h : HS} {P : Option AV → HS → Prop} {t0 : Nat} {l1 : Int32} (k : 1 ≤ bc ∧ 200 ≤ bs ∧ (Cl true mJ7_copyOf_6403c (d + 2) 1 200 [aR 63 t0, aI l1, aR 67 0] h (fun r1 h2 => ∃ t3, r1 = some (aR 63 t3) ∧ (P (some (aR 63 t3)) h2)))) : Cl true mJ7_copyOf_1904c (d + 3) bc bs [aR 63 t0, aI l1] h P := by
  refine Cl_ofF (by decide +kernel) (Nat.le_of_ble_eq_true rfl) ?_
  show V true mJ7_copyOf_1904c (d + 3) bc bs 0 [(0, aR 63 t0), (1, aI l1)] [] h P
  refine V_aload_n 0 dJ7_copyOf_1904c_0 rfl rfl ?_
  refine V_iload_n 1 dJ7_copyOf_1904c_1 rfl rfl ?_
  refine V_aload_n 0 dJ7_copyOf_1904c_2 rfl rfl ?_
  refine V_getC (by decide) rt_63 dJ7_copyOf_1904c_3 lkJ7_86 (Nat.le_of_ble_eq_true rfl) ?_
  obtain ⟨kb1, kb2, k⟩ := k
  refine V_callS (mc := 1) (ms := 200) (as := [aR 63 t0, aI l1, aR 67 0]) (st := []) dJ7_copyOf_1904c_6 okJ7_copyOf_6403c stJ7_copyOf_6403c lkJ7_300 rfl (Nat.le_of_ble_eq_true rfl) kb1 kb2 (Cl.mono (fun r1 h2 z => ?_) k)
  obtain ⟨t3, rfl, k⟩ := z
  exact V_areturn dJ7_copyOf_1904c_9 rfl (by first | exact Or.inl ⟨_, rfl⟩ | exact Or.inr ⟨_, rfl⟩) k
set_option maxRecDepth 20000 in
set_option maxHeartbeats 2000000 in
theorem wJ7_copyOf_6403c_1 {d bc bs : Nat} {h : HS} {P : Option AV → HS → Prop} {t0 : Nat} {l1 : Int32} (k : ∃ n1 : Nat, ¬ l1 < 0 ∧ Int32.toNatClampNeg l1 = n1 ∧ n1 ≤ 65536 ∧ 1 ≤ bc ∧ n1 ≤ bs ∧ (63, n1) ∉ h.2.2 ∧ (t0 ≠ n1 ∧ ¬ (minF (Int32.ofNat t0) l1) < 0 ∧ Int32.toNatClampNeg (minF (Int32.ofNat t0) l1) ≤ t0 ∧ Int32.toNatClampNeg (minF (Int32.ofNat t0) l1) ≤ n1 ∧ (∀ k, k < Int32.toNatClampNeg (minF (Int32.ofNat t0) l1) → ∀ q, gR (nw h 63 n1) 63 t0 k = some q → (∃ i, q = (60, i)) ∨ ∃ i, q = (62, i)) ∧ (P (some (aR 63 n1)) (cpR (nw h 63 n1) 63 n1 t0 (Int32.toNatClampNeg (minF (Int32.ofNat t0) l1)))))) : Cl true mJ7_copyOf_6403c (d + 3) bc bs [aR 63 t0, aI l1, aR 67 0] h P := by
  refine Cl_ofF (by decide +kernel) (Nat.le_of_ble_eq_true rfl) ?_
  show V true mJ7_copyOf_6403c (d + 3) bc bs 0 [(0, aR 63 t0), (1, aI l1), (2, aR 67 0)] [] h P
  refine V_aload_n 2 dJ7_copyOf_6403c_0 rfl rfl ?_
  refine V_ldcM dJ7_copyOf_6403c_1 lkJ7_110 ?_
  refine V_acmpN 13 dJ7_copyOf_6403c_3 (by decide) ?_
  refine V_iload_n 1 dJ7_copyOf_6403c_6 rfl rfl ?_
  obtain ⟨n1, ka, kb, kc, kd, ke, kf, k⟩ := k
  refine V_anew (by decide) rt_63 (Or.inr (fun _ => rfl)) dJ7_copyOf_6403c_7 lkJ7_2 ka kb kc kd ke kf ?_
  refine V_goto 24 dJ7_copyOf_6403c_10 (by decide) ?_
  refine V_astore_n 3 dJ7_copyOf_6403c_24 rfl (by decide) rfl ?_
  refine V_aload_n 0 dJ7_copyOf_6403c_25 rfl rfl ?_
  refine V_iconst 0 dJ7_copyOf_6403c_26 (by decide) ?_
  refine V_aload_n 3 dJ7_copyOf_6403c_27 rfl rfl ?_
  refine V_iconst 0 dJ7_copyOf_6403c_28 (by decide) ?_
  refine V_aload_n 0 dJ7_copyOf_6403c_29 rfl rfl ?_
  refine V_alenR (by decide) rt_63 rfl dJ7_copyOf_6403c_30 ?_
  refine V_iload_n 1 dJ7_copyOf_6403c_31 rfl rfl ?_
  refine V_callS (mc := 0) (ms := 0) (as := [aI (Int32.ofNat t0), aI l1]) (st := [aI 0, aR 63 n1, aI 0, aR 63 t0]) dJ7_copyOf_6403c_32 okJ9_min_7cf53 stJ9_min_7cf53 lkJ7_304 rfl (Nat.le_of_ble_eq_true rfl) (Nat.zero_le _) (Nat.zero_le _) (cJ9_min_ ?_)
  show V true mJ7_copyOf_6403c (d + 3) _ _ 35 [(3, aR 63 n1), (0, aR 63 t0), (1, aI l1), (2, aR 67 0)] [aI (minF (Int32.ofNat t0) l1), aI 0, aR 63 n1, aI 0, aR 63 t0] (nw h 63 n1) P
  obtain ⟨ka, kb, kc, kd, ke, k⟩ := k
  refine V_acopy (by decide) rt_63 rt_63 ka (fun _ _ => rfl) dJ7_copyOf_6403c_35 lkJ7_150 (Nat.le_of_ble_eq_true rfl) kb kc kd ke ?_
  refine V_aload_n 3 dJ7_copyOf_6403c_38 rfl rfl ?_
  exact V_areturn dJ7_copyOf_6403c_39 rfl (by first | exact Or.inl ⟨_, rfl⟩ | exact Or.inr ⟨_, rfl⟩) k
set_option maxRecDepth 20000 in
set_option maxHeartbeats 2000000 in
theorem wJxa1e45_init_da8c8_1 {d bc bs : Nat} {h : HS} {P : Option AV → HS → Prop}  (k : P none h) : Cl false mJxa1e45_init_da8c8 (d + 1) bc bs [aR 1 0] h P := by
  refine Cl_ofF (by decide +kernel) (Nat.le_of_ble_eq_true rfl) ?_
  show V false mJxa1e45_init_da8c8 (d + 1) bc bs 0 [(0, aR 1 0)] [] h P
  refine V_aload_n 0 dJxa1e45_init_da8c8_0 rfl rfl ?_
  refine V_objInit dJxa1e45_init_da8c8_1 lkJxa1e45_1 (Nat.le_of_ble_eq_true rfl) ?_
  exact V_return dJxa1e45_init_da8c8_4 rfl k
set_option maxRecDepth 20000 in
set_option maxHeartbeats 2000000 in
theorem wJxc12de_init_da8c8_1 {d bc bs : Nat} {h : HS} {P : Option AV → HS → Prop}  (k : Cl false mJxa1e45_init_da8c8 d 0 0 [aR 1 0] h (fun r1 h2 => r1 = none ∧ (P none (sI h2 1 0 0 0)))) : Cl false mJxc12de_init_da8c8 (d + 1) bc bs [aR 1 0] h P := by
  refine Cl_ofF (by decide +kernel) (Nat.le_of_ble_eq_true rfl) ?_
  show V false mJxc12de_init_da8c8 (d + 1) bc bs 0 [(0, aR 1 0)] [] h P
  refine V_aload_n 0 dJxc12de_init_da8c8_0 rfl rfl ?_
  refine V_callI0 (as := []) (st := []) dJxc12de_init_da8c8_1 okJxa1e45_init_da8c8 rfl rfl inJxa1e45_init_da8c8 lkJxc12de_1 rfl (Nat.le_of_ble_eq_true rfl) (Cl.mono (fun r1 h2 z => ?_) k)
  obtain ⟨rfl, k⟩ := z
  refine V_aload_n 0 dJxc12de_init_da8c8_4 rfl rfl ?_
  refine V_iconst 0 dJxc12de_init_da8c8_5 (by decide) ?_
  refine V_putI (T := TJx4a65c) (k := 0) (by decide) rt_1 rfl (by decide) rfl (Or.inl rfl) dJxc12de_init_da8c8_6 lkJxc12de_7 ?_
  exact V_return dJxc12de_init_da8c8_9 rfl k
set_option maxRecDepth 20000 in
set_option maxHeartbeats 2000000 in
theorem wJx4a65c_init_da8c8_1 {d bc bs : Nat} {h : HS} {P : Option AV → HS → Prop}  (k : Cl false mJxc12de_init_da8c8 d 0 0 [aR 1 0] h (fun r1 h2 => r1 = none ∧ (P none (sR h2 1 0 1 (some (66, 0)))))) : Cl false mJx4a65c_init_da8c8 (d + 1) bc bs [aR 1 0] h P := by
  refine Cl_ofF (by decide +kernel) (Nat.le_of_ble_eq_true rfl) ?_
  show V false mJx4a65c_init_da8c8 (d + 1) bc bs 0 [(0, aR 1 0)] [] h P
  refine V_aload_n 0 dJx4a65c_init_da8c8_0 rfl rfl ?_
  refine V_callI0 (as := []) (st := []) dJx4a65c_init_da8c8_1 okJxc12de_init_da8c8 rfl rfl inJxc12de_init_da8c8 lkJx4a65c_1 rfl (Nat.le_of_ble_eq_true rfl) (Cl.mono (fun r1 h2 z => ?_) k)
  obtain ⟨rfl, k⟩ := z
  refine V_aload_n 0 dJx4a65c_init_da8c8_4 rfl rfl ?_
  refine V_getsE dJx4a65c_init_da8c8_5 lkJx4a65c_39 ?_
  refine V_putR (k := 1) (by decide) rt_1 rfl (by decide) rfl (Or.inl rfl) (Or.inl rfl) dJx4a65c_init_da8c8_8 lkJx4a65c_9 ?_
  exact V_return dJx4a65c_init_da8c8_11 rfl k
set_option maxRecDepth 20000 in
set_option maxHeartbeats 2000000 in
theorem wJx4a65c_elementData_915e3_2 {d bc bs : Nat} {h : HS} {P : Option AV → HS → Prop} {l1 : Int32} {t0 : Nat} (k : gR h 2 0 1 = some (64, t0) ∧ (vp_in l1 t0 ∧ (P (some (aP (gR h 64 t0 l1.toNatClampNeg))) h))) : Cl true mJx4a65c_elementData_915e3 (d + 3) bc bs [aR 2 0, aI l1] h P := by
  refine Cl_ofF (by decide +kernel) (Nat.le_of_ble_eq_true rfl) ?_
  show V true mJx4a65c_elementData_915e3 (d + 3) bc bs 0 [(0, aR 2 0), (1, aI l1)] [] h P
  refine V_aload_n 0 dJx4a65c_elementData_915e3_0 rfl rfl ?_
  refine V_getR (T := TJx4a65c) (k := 1) (some (64, t0)) (by decide) rt_2 rfl (by decide) rfl dJx4a65c_elementData_915e3_1 lkJx4a65c_9 k.1 ?_
  replace k := k.2
  refine V_iload_n 1 dJx4a65c_elementData_915e3_4 rfl rfl ?_
  refine V_aald (gR h 64 t0 l1.toNatClampNeg) (by decide) rt_64 dJx4a65c_elementData_915e3_5 k.1 rfl ?_
  replace k := k.2
  exact V_areturn dJx4a65c_elementData_915e3_6 rfl (by first | exact Or.inl ⟨_, rfl⟩ | exact Or.inr ⟨_, rfl⟩) k
set_option maxRecDepth 20000 in
set_option maxHeartbeats 2000000 in
theorem wJx4a65c_get_915e3_2 {d bc bs : Nat} {h : HS} {P : Option AV → HS → Prop} {l1 : Int32} (k : Cl true mJ15_checkIndex_7cf53 (d + 2) 0 0 [aI l1, aI (gI h 2 0 2)] h (fun r1 h2 => ∃ x3 : Int32, r1 = some (aI x3) ∧ (Cl true mJx4a65c_elementData_915e3 (d + 2) 0 0 [aR 2 0, aI l1] h2 (fun r4 h5 => ∃ q6 : Option PT, r4 = some (aP q6) ∧ (P (some (aP q6)) h5))))) : Cl true mJx4a65c_get_915e3 (d + 3) bc bs [aR 2 0, aI l1] h P := by
  refine Cl_ofF (by decide +kernel) (Nat.le_of_ble_eq_true rfl) ?_
  show V true mJx4a65c_get_915e3 (d + 3) bc bs 0 [(0, aR 2 0), (1, aI l1)] [] h P
  refine V_iload_n 1 dJx4a65c_get_915e3_0 rfl rfl ?_
  refine V_aload_n 0 dJx4a65c_get_915e3_1 rfl rfl ?_
  refine GI_2_2 dJx4a65c_get_915e3_2 lkJx4a65c_48 ?_
  refine V_callS (mc := 0) (ms := 0) (as := [aI l1, aI (gI h 2 0 2)]) (st := []) dJx4a65c_get_915e3_5 okJ15_checkIndex_7cf53 stJ15_checkIndex_7cf53 lkJx4a65c_118 rfl (Nat.le_of_ble_eq_true rfl) (Nat.zero_le _) (Nat.zero_le _) (Cl.mono (fun r1 h2 z => ?_) k)
  obtain ⟨x3, rfl, k⟩ := z
  refine V_pop dJx4a65c_get_915e3_8 rfl ?_
  refine V_aload_n 0 dJx4a65c_get_915e3_9 rfl rfl ?_
  refine V_iload_n 1 dJx4a65c_get_915e3_10 rfl rfl ?_
  refine V_callV (mc := 0) (ms := 0) (as := [aI l1]) (st := []) (by decide) rt_2 rfl dJx4a65c_get_915e3_11 okJx4a65c_elementData_915e3 inJx4a65c_elementData_915e3 seJx4a65c_elementData_915e3 lkJx4a65c_123 rfl (Nat.le_of_ble_eq_true rfl) (Nat.zero_le _) (Nat.zero_le _) (Cl.mono (fun r4 h5 z => ?_) k)
  obtain ⟨q6, rfl, k⟩ := z
  exact V_areturn dJx4a65c_get_915e3_14 rfl (by first | exact Or.inl ⟨_, rfl⟩ | exact Or.inr ⟨_, rfl⟩) k
set_option maxRecDepth 20000 in
set_option maxHeartbeats 2000000 in
theorem wJx4a65c_add_9ea2d_2b {d bc bs : Nat} {h : HS} {P : Option AV → HS → Prop} {i1 : Nat} {t0 : Nat} (k : gR (sI h 2 0 0 ((gI h 2 0 0) + 1)) 2 0 1 = some (64, t0) ∧ (1 ≤ bc ∧ 200 ≤ bs ∧ (Cl true mJx4a65c_add_72be8 (d + 2) 1 200 [aR 2 0, aR 62 i1, aR 64 t0, aI (gI h 2 0 2)] (sI h 2 0 0 ((gI h 2 0 0) + 1)) (fun r1 h2 => r1 = none ∧ (P (some (aI 1)) h2))))) : Cl true mJx4a65c_add_9ea2d (d + 3) bc bs [aR 2 0, aR 62 i1] h P := by
  refine Cl_ofF (by decide +kernel) (Nat.le_of_ble_eq_true rfl) ?_
  show V true mJx4a65c_add_9ea2d (d + 3) bc bs 0 [(0, aR 2 0), (1, aR 62 i1)] [] h P
  refine V_aload_n 0 dJx4a65c_add_9ea2d_0 rfl rfl ?_
  refine V_dup dJx4a65c_add_9ea2d_1 rfl ?_
  refine V_getI2 (T := TJx4a65c) (k := 0) (ref := "java/util/ArrayList") (by decide) rt_2 rfl (by decide) rfl dJx4a65c_add_9ea2d_2 sf_mod lkJx4a65c_63 ?_
  refine V_iconst 1 dJx4a65c_add_9ea2d_5 (by decide) ?_
  refine V_iadd dJx4a65c_add_9ea2d_6 ?_
  refine V_putI2 (T := TJx4a65c) (k := 0) (ref := "java/util/ArrayList") (by decide) rt_2 rfl (by decide) rfl (Or.inl rfl) dJx4a65c_add_9ea2d_7 sf_mod lkJx4a65c_63 ?_
  refine V_aload_n 0 dJx4a65c_add_9ea2d_10 rfl rfl ?_
  refine V_aload_n 1 dJx4a65c_add_9ea2d_11 rfl rfl ?_
  refine V_aload_n 0 dJx4a65c_add_9ea2d_12 rfl rfl ?_
  refine V_getR (T := TJx4a65c) (k := 1) (some (64, t0)) (by decide) rt_2 rfl (by decide) rfl dJx4a65c_add_9ea2d_13 lkJx4a65c_9 k.1 ?_
  replace k := k.2
  refine V_aload_n 0 dJx4a65c_add_9ea2d_16 rfl rfl ?_
  refine GI_2_2 dJx4a65c_add_9ea2d_17 lkJx4a65c_48 ?_
  refine V_re (y := gI h 2 0 2) rfl ?_
  obtain ⟨kb1, kb2, k⟩ := k
  refine V_callV (mc := 1) (ms := 200) (as := [aR 62 i1, aR 64 t0, aI (gI h 2 0 2)]) (st := []) (by decide) rt_2 rfl dJx4a65c_add_9ea2d_20 okJx4a65c_add_72be8 inJx4a65c_add_72be8 seJx4a65c_add_72be8 lkJx4a65c_131 rfl (Nat.le_of_ble_eq_true rfl) kb1 kb2 (Cl.mono (fun r1 h2 z => ?_) k)
  obtain ⟨rfl, k⟩ := z
  refine V_iconst 1 dJx4a65c_add_9ea2d_23 (by decide) ?_
  exact V_zreturn dJx4a65c_add_9ea2d_24 rfl (by decide) k
set_option maxRecDepth 20000 in
set_option maxHeartbeats 2000000 in
theorem wJx4a65c_add_9ea2d_2e {d bc bs : Nat} {h : HS} {P : Option AV → HS → Prop} {i1 : Nat} (k : gR (sI h 2 0 0 ((gI h 2 0 0) + 1)) 2 0 1 = some (66, 0) ∧ (1 ≤ bc ∧ 200 ≤ bs ∧ (Cl true mJx4a65c_add_72be8 (d + 2) 1 200 [aR 2 0, aR 62 i1, aR 66 0, aI (gI h 2 0 2)] (sI h 2 0 0 ((gI h 2 0 0) + 1)) (fun r1 h2 => r1 = none ∧ (P (some (aI 1)) h2))))) : Cl true mJx4a65c_add_9ea2d (d + 3) bc bs [aR 2 0, aR 62 i1] h P := by
  refine Cl_ofF (by decide +kernel) (Nat.le_of_ble_eq_true rfl) ?_
  show V true mJx4a65c_add_9ea2d (d + 3) bc bs 0 [(0, aR 2 0), (1, aR 62 i1)] [] h P
  refine V_aload_n 0 dJx4a65c_add_9ea2d_0 rfl rfl ?_
  refine V_dup dJx4a65c_add_9ea2d_1 rfl ?_
  refine V_getI2 (T := TJx4a65c) (k := 0) (ref := "java/util/ArrayList") (by decide) rt_2 rfl (by decide) rfl dJx4a65c_add_9ea2d_2 sf_mod lkJx4a65c_63 ?_
  refine V_iconst 1 dJx4a65c_add_9ea2d_5 (by decide) ?_
  refine V_iadd dJx4a65c_add_9ea2d_6 ?_
  refine V_putI2 (T := TJx4a65c) (k := 0) (ref := "java/util/ArrayList") (by decide) rt_2 rfl (by decide) rfl (Or.inl rfl) dJx4a65c_add_9ea2d_7 sf_mod lkJx4a65c_63 ?_
  refine V_aload_n 0 dJx4a65c_add_9ea2d_10 rfl rfl ?_
  refine V_aload_n 1 dJx4a65c_add_9ea2d_11 rfl rfl ?_
  refine V_aload_n 0 dJx4a65c_add_9ea2d_12 rfl rfl ?_
  refine V_getR (T := TJx4a65c) (k := 1) (some (66, 0)) (by decide) rt_2 rfl (by decide) rfl dJx4a65c_add_9ea2d_13 lkJx4a65c_9 k.1 ?_
  replace k := k.2
  refine V_aload_n 0 dJx4a65c_add_9ea2d_16 rfl rfl ?_
  refine GI_2_2 dJx4a65c_add_9ea2d_17 lkJx4a65c_48 ?_
  refine V_re (y := gI h 2 0 2) rfl ?_
  obtain ⟨kb1, kb2, k⟩ := k
  refine V_callV (mc := 1) (ms := 200) (as := [aR 62 i1, aR 66 0, aI (gI h 2 0 2)]) (st := []) (by decide) rt_2 rfl dJx4a65c_add_9ea2d_20 okJx4a65c_add_72be8 inJx4a65c_add_72be8 seJx4a65c_add_72be8 lkJx4a65c_131 rfl (Nat.le_of_ble_eq_true rfl) kb1 kb2 (Cl.mono (fun r1 h2 z => ?_) k)
  obtain ⟨rfl, k⟩ := z
  refine V_iconst 1 dJx4a65c_add_9ea2d_23 (by decide) ?_
  exact V_zreturn dJx4a65c_add_9ea2d_24 rfl (by decide) k
set_option maxRecDepth 20000 in
set_option maxHeartbeats 2000000 in
theorem wJx4a65c_add_72be8_2b {d bc bs : Nat} {h : HS} {P : Option AV → HS → Prop} {i1 : Nat} {t2 : Nat} {l3 : Int32} (k : ((¬ l3 = (Int32.ofNat t2)) → (vp_in l3 t2 ∧ (P none (sI (sR h 64 t2 l3.toNatClampNeg (some (62, i1))) 2 0 2 (l3 + 1))))) ∧ ((l3 = (Int32.ofNat t2)) → (1 ≤ bc ∧ 200 ≤ bs ∧ (Cl true mJx4a65c_grow_d5877 (d + 2) 1 200 [aR 2 0] h (fun r1 h2 => ∃ t3, r1 = some (aR 64 t3) ∧ (vp_in l3 t3 ∧ (P none (sI (sR h2 64 t3 l3.toNatClampNeg (some (62, i1))) 2 0 2 (l3 + 1))))))))) : Cl true mJx4a65c_add_72be8 (d + 3) bc bs [aR 2 0, aR 62 i1, aR 64 t2, aI l3] h P := by
  refine Cl_ofF (by decide +kernel) (Nat.le_of_ble_eq_true rfl) ?_
  show V true mJx4a65c_add_72be8 (d + 3) bc bs 0 [(0, aR 2 0), (1, aR 62 i1), (2, aR 64 t2), (3, aI l3)] [] h P
  refine V_iload_n 3 dJx4a65c_add_72be8_0 rfl rfl ?_
  refine V_aload_n 2 dJx4a65c_add_72be8_1 rfl rfl ?_
  refine V_alenR (by decide) rt_64 rfl dJx4a65c_add_72be8_2 ?_
  refine V_icmp_ne 11 dJx4a65c_add_72be8_3 (by decide) ⟨fun z => ?_, fun z => ?_⟩
  · replace k := k.1 z
    refine V_aload_n 2 dJx4a65c_add_72be8_11 rfl rfl ?_
    refine V_iload_n 3 dJx4a65c_add_72be8_12 rfl rfl ?_
    refine V_aload_n 1 dJx4a65c_add_72be8_13 rfl rfl ?_
    refine V_aast (by decide) rt_64 (by decide) rt_62 rfl (Or.inr rfl) (Or.inr (fun _ => rfl)) dJx4a65c_add_72be8_14 k.1 ?_
    replace k := k.2
    refine V_aload_n 0 dJx4a65c_add_72be8_15 rfl rfl ?_
    refine V_iload_n 3 dJx4a65c_add_72be8_16 rfl rfl ?_
    refine V_iconst 1 dJx4a65c_add_72be8_17 (by decide) ?_
    refine V_iadd dJx4a65c_add_72be8_18 ?_
    refine PI_2_2 dJx4a65c_add_72be8_19 lkJx4a65c_48 ?_
    exact V_return dJx4a65c_add_72be8_22 rfl k
  · replace k := k.2 z
    refine V_aload_n 0 dJx4a65c_add_72be8_6 rfl rfl ?_
    obtain ⟨kb1, kb2, k⟩ := k
    refine V_callV (mc := 1) (ms := 200) (as := []) (st := []) (by decide) rt_2 rfl dJx4a65c_add_72be8_7 okJx4a65c_grow_d5877 inJx4a65c_grow_d5877 seJx4a65c_grow_d5877 lkJx4a65c_129 rfl (Nat.le_of_ble_eq_true rfl) kb1 kb2 (Cl.mono (fun r1 h2 z => ?_) k)
    obtain ⟨t3, rfl, k⟩ := z
    refine V_astore_n 2 dJx4a65c_add_72be8_10 rfl (by decide) rfl ?_
    refine V_aload_n 2 dJx4a65c_add_72be8_11 rfl rfl ?_
    refine V_iload_n 3 dJx4a65c_add_72be8_12 rfl rfl ?_
    refine V_aload_n 1 dJx4a65c_add_72be8_13 rfl rfl ?_
    refine V_aast (by decide) rt_64 (by decide) rt_62 rfl (Or.inr rfl) (Or.inr (fun _ => rfl)) dJx4a65c_add_72be8_14 k.1 ?_
    replace k := k.2
    refine V_aload_n 0 dJx4a65c_add_72be8_15 rfl rfl ?_
    refine V_iload_n 3 dJx4a65c_add_72be8_16 rfl rfl ?_
    refine V_iconst 1 dJx4a65c_add_72be8_17 (by decide) ?_
    refine V_iadd dJx4a65c_add_72be8_18 ?_
    refine PI_2_2 dJx4a65c_add_72be8_19 lkJx4a65c_48 ?_
    exact V_return dJx4a65c_add_72be8_22 rfl k
set_option maxRecDepth 20000 in
set_option maxHeartbeats 2000000 in
theorem wJx4a65c_add_72be8_2e {d bc bs : Nat} {h : HS} {P : Option AV → HS → Prop} {i1 : Nat} {l3 : Int32} (k : ((¬ l3 = 0) → False) ∧ ((l3 = 0) → (1 ≤ bc ∧ 200 ≤ bs ∧ (Cl true mJx4a65c_grow_d5877 (d + 2) 1 200 [aR 2 0] h (fun r1 h2 => ∃ t3, r1 = some (aR 64 t3) ∧ (vp_in l3 t3 ∧ (P none (sI (sR h2 64 t3 l3.toNatClampNeg (some (62, i1))) 2 0 2 (l3 + 1))))))))) : Cl true mJx4a65c_add_72be8 (d + 3) bc bs [aR 2 0, aR 62 i1, aR 66 0, aI l3] h P := by
  refine Cl_ofF (by decide +kernel) (Nat.le_of_ble_eq_true rfl) ?_
  show V true mJx4a65c_add_72be8 (d + 3) bc bs 0 [(0, aR 2 0), (1, aR 62 i1), (2, aR 66 0), (3, aI l3)] [] h P
  refine V_iload_n 3 dJx4a65c_add_72be8_0 rfl rfl ?_
  refine V_aload_n 2 dJx4a65c_add_72be8_1 rfl rfl ?_
  refine V_alenE dJx4a65c_add_72be8_2 ?_
  refine V_icmp_ne 11 dJx4a65c_add_72be8_3 (by decide) ⟨fun z => ?_, fun z => ?_⟩
  · replace k := k.1 z
    exact k.elim
  · replace k := k.2 z
    refine V_aload_n 0 dJx4a65c_add_72be8_6 rfl rfl ?_
    obtain ⟨kb1, kb2, k⟩ := k
    refine V_callV (mc := 1) (ms := 200) (as := []) (st := []) (by decide) rt_2 rfl dJx4a65c_add_72be8_7 okJx4a65c_grow_d5877 inJx4a65c_grow_d5877 seJx4a65c_grow_d5877 lkJx4a65c_129 rfl (Nat.le_of_ble_eq_true rfl) kb1 kb2 (Cl.mono (fun r1 h2 z => ?_) k)
    obtain ⟨t3, rfl, k⟩ := z
    refine V_astore_n 2 dJx4a65c_add_72be8_10 rfl (by decide) rfl ?_
    refine V_aload_n 2 dJx4a65c_add_72be8_11 rfl rfl ?_
    refine V_iload_n 3 dJx4a65c_add_72be8_12 rfl rfl ?_
    refine V_aload_n 1 dJx4a65c_add_72be8_13 rfl rfl ?_
    refine V_aast (by decide) rt_64 (by decide) rt_62 rfl (Or.inr rfl) (Or.inr (fun _ => rfl)) dJx4a65c_add_72be8_14 k.1 ?_
    replace k := k.2
    refine V_aload_n 0 dJx4a65c_add_72be8_15 rfl rfl ?_
    refine V_iload_n 3 dJx4a65c_add_72be8_16 rfl rfl ?_
    refine V_iconst 1 dJx4a65c_add_72be8_17 (by decide) ?_
    refine V_iadd dJx4a65c_add_72be8_18 ?_
    refine PI_2_2 dJx4a65c_add_72be8_19 lkJx4a65c_48 ?_
    exact V_return dJx4a65c_add_72be8_22 rfl k
set_option maxRecDepth 20000 in
set_option maxHeartbeats 2000000 in
theorem wJx4a65c_grow_d5877_2 {d bc bs : Nat} {h : HS} {P : Option AV → HS → Prop}  (k : 1 ≤ bc ∧ 200 ≤ bs ∧ (Cl true mJx4a65c_grow_92f84 (d + 2) 1 200 [aR 2 0, aI ((gI h 2 0 2) + 1)] h (fun r1 h2 => ∃ t3, r1 = some (aR 64 t3) ∧ (P (some (aR 64 t3)) h2)))) : Cl true mJx4a65c_grow_d5877 (d + 3) bc bs [aR 2 0] h P := by
  refine Cl_ofF (by decide +kernel) (Nat.le_of_ble_eq_true rfl) ?_
  show V true mJx4a65c_grow_d5877 (d + 3) bc bs 0 [(0, aR 2 0)] [] h P
  refine V_aload_n 0 dJx4a65c_grow_d5877_0 rfl rfl ?_
  refine V_aload_n 0 dJx4a65c_grow_d5877_1 rfl rfl ?_
  refine GI_2_2 dJx4a65c_grow_d5877_2 lkJx4a65c_48 ?_
  refine V_iconst 1 dJx4a65c_grow_d5877_5 (by decide) ?_
  refine V_iadd dJx4a65c_grow_d5877_6 ?_
  obtain ⟨kb1, kb2, k⟩ := k
  refine V_callV (mc := 1) (ms := 200) (as := [aI ((gI h 2 0 2) + 1)]) (st := []) (by decide) rt_2 rfl dJx4a65c_grow_d5877_7 okJx4a65c_grow_92f84 inJx4a65c_grow_92f84 seJx4a65c_grow_92f84 lkJx4a65c_69 rfl (Nat.le_of_ble_eq_true rfl) kb1 kb2 (Cl.mono (fun r1 h2 z => ?_) k)
  obtain ⟨t3, rfl, k⟩ := z
  exact V_areturn dJx4a65c_grow_d5877_10 rfl (by first | exact Or.inl ⟨_, rfl⟩ | exact Or.inr ⟨_, rfl⟩) k
set_option maxRecDepth 20000 in
set_option maxHeartbeats 2000000 in
theorem wJx4a65c_grow_92f84_2b {d bc bs : Nat} {h : HS} {P : Option AV → HS → Prop} {l1 : Int32} {t0 : Nat} (k : gR h 2 0 1 = some (64, t0) ∧ (((0 < (Int32.ofNat t0)) → (Cl true mJ8_newLength_cabcc (d + 2) 0 0 [aI (Int32.ofNat t0), aI (l1 - (Int32.ofNat t0)), aI ((Int32.ofNat t0) >>> (1 &&& 31))] h (fun r1 h2 => ∃ x3 : Int32, r1 = some (aI x3) ∧ (gR h2 2 0 1 = some (64, t0) ∧ (1 ≤ bc ∧ 200 ≤ bs ∧ (Cl true mJ7_copyOf_1904c (d + 2) 1 200 [aR 64 t0, aI x3] h2 (fun r4 h5 => ∃ t6, r4 = some (aR 64 t6) ∧ (P (some (aR 64 t6)) (sR h5 2 0 1 (some (64, t6))))))))))) ∧ ((¬ 0 < (Int32.ofNat t0)) → False))) : Cl true mJx4a65c_grow_92f84 (d + 3) bc bs [aR 2 0, aI l1] h P := by
  refine Cl_ofF (by decide +kernel) (Nat.le_of_ble_eq_true rfl) ?_
  show V true mJx4a65c_grow_92f84 (d + 3) bc bs 0 [(0, aR 2 0), (1, aI l1)] [] h P
  refine V_aload_n 0 dJx4a65c_grow_92f84_0 rfl rfl ?_
  refine V_getR (T := TJx4a65c) (k := 1) (some (64, t0)) (by decide) rt_2 rfl (by decide) rfl dJx4a65c_grow_92f84_1 lkJx4a65c_9 k.1 ?_
  replace k := k.2
  refine V_alenR (by decide) rt_64 rfl dJx4a65c_grow_92f84_4 ?_
  refine V_istore_n 2 dJx4a65c_grow_92f84_5 rfl (by decide) rfl ?_
  refine V_iload_n 2 dJx4a65c_grow_92f84_6 rfl rfl ?_
  refine V_if_gt 20 dJx4a65c_grow_92f84_7 (by decide) ⟨fun z => ?_, fun z => ?_⟩
  · replace k := k.1 z
    refine V_iload_n 2 dJx4a65c_grow_92f84_20 rfl rfl ?_
    refine V_iload_n 1 dJx4a65c_grow_92f84_21 rfl rfl ?_
    refine V_iload_n 2 dJx4a65c_grow_92f84_22 rfl rfl ?_
    refine V_isub dJx4a65c_grow_92f84_23 ?_
    refine V_iload_n 2 dJx4a65c_grow_92f84_24 rfl rfl ?_
    refine V_iconst 1 dJx4a65c_grow_92f84_25 (by decide) ?_
    refine V_ishr dJx4a65c_grow_92f84_26 ?_
    refine V_callS (mc := 0) (ms := 0) (as := [aI (Int32.ofNat t0), aI (l1 - (Int32.ofNat t0)), aI ((Int32.ofNat t0) >>> (1 &&& 31))]) (st := []) dJx4a65c_grow_92f84_27 okJ8_newLength_cabcc stJ8_newLength_cabcc lkJx4a65c_73 rfl (Nat.le_of_ble_eq_true rfl) (Nat.zero_le _) (Nat.zero_le _) (Cl.mono (fun r1 h2 z => ?_) k)
    obtain ⟨x3, rfl, k⟩ := z
    refine V_istore_n 3 dJx4a65c_grow_92f84_30 rfl (by decide) rfl ?_
    refine V_aload_n 0 dJx4a65c_grow_92f84_31 rfl rfl ?_
    refine V_aload_n 0 dJx4a65c_grow_92f84_32 rfl rfl ?_
    refine V_getR (T := TJx4a65c) (k := 1) (some (64, t0)) (by decide) rt_2 rfl (by decide) rfl dJx4a65c_grow_92f84_33 lkJx4a65c_9 k.1 ?_
    replace k := k.2
    refine V_iload_n 3 dJx4a65c_grow_92f84_36 rfl rfl ?_
    obtain ⟨kb1, kb2, k⟩ := k
    refine V_callS (mc := 1) (ms := 200) (as := [aR 64 t0, aI x3]) (st := [aR 2 0]) dJx4a65c_grow_92f84_37 okJ7_copyOf_1904c stJ7_copyOf_1904c lkJx4a65c_66 rfl (Nat.le_of_ble_eq_true rfl) kb1 kb2 (Cl.mono (fun r4 h5 z => ?_) k)
    obtain ⟨t6, rfl, k⟩ := z
    refine V_dup_x1 dJx4a65c_grow_92f84_40 rfl rfl ?_
    refine V_putR (k := 1) (by decide) rt_2 rfl (by decide) rfl (Or.inl rfl) (Or.inr rfl) dJx4a65c_grow_92f84_41 lkJx4a65c_9 ?_
    exact V_areturn dJx4a65c_grow_92f84_44 rfl (by first | exact Or.inl ⟨_, rfl⟩ | exact Or.inr ⟨_, rfl⟩) k
  · replace k := k.2 z
    exact k.elim
set_option maxRecDepth 20000 in
set_option maxHeartbeats 2000000 in
theorem wJx4a65c_grow_92f84_2e {d bc bs : Nat} {h : HS} {P : Option AV → HS → Prop} {l1 : Int32} (k : gR h 2 0 1 = some (66, 0) ∧ (gR h 2 0 1 = some (66, 0) ∧ (∃ n3 : Nat, ¬ (maxF 10 l1) < 0 ∧ Int32.toNatClampNeg (maxF 10 l1) = n3 ∧ n3 ≤ 65536 ∧ 1 ≤ bc ∧ n3 ≤ bs ∧ (64, n3) ∉ h.2.2 ∧ (P (some (aR 64 n3)) (sR (nw h 64 n3) 2 0 1 (some (64, n3))))))) : Cl true mJx4a65c_grow_92f84 (d + 3) bc bs [aR 2 0, aI l1] h P := by
  refine Cl_ofF (by decide +kernel) (Nat.le_of_ble_eq_true rfl) ?_
  show V true mJx4a65c_grow_92f84 (d + 3) bc bs 0 [(0, aR 2 0), (1, aI l1)] [] h P
  refine V_aload_n 0 dJx4a65c_grow_92f84_0 rfl rfl ?_
  refine V_getR (T := TJx4a65c) (k := 1) (some (66, 0)) (by decide) rt_2 rfl (by decide) rfl dJx4a65c_grow_92f84_1 lkJx4a65c_9 k.1 ?_
  replace k := k.2
  refine V_alenE dJx4a65c_grow_92f84_4 ?_
  refine V_istore_n 2 dJx4a65c_grow_92f84_5 rfl (by decide) rfl ?_
  refine V_iload_n 2 dJx4a65c_grow_92f84_6 rfl rfl ?_
  refine V_if_gt 20 dJx4a65c_grow_92f84_7 (by decide) ⟨fun z => absurd z (by decide), fun z => ?_⟩
  refine V_aload_n 0 dJx4a65c_grow_92f84_10 rfl rfl ?_
  refine V_getR (T := TJx4a65c) (k := 1) (some (66, 0)) (by decide) rt_2 rfl (by decide) rfl dJx4a65c_grow_92f84_11 lkJx4a65c_9 k.1 ?_
  replace k := k.2
  refine V_getsE dJx4a65c_grow_92f84_14 lkJx4a65c_39 ?_
  refine V_acmpE 45 dJx4a65c_grow_92f84_17 (by decide) ?_
  refine V_aload_n 0 dJx4a65c_grow_92f84_45 rfl rfl ?_
  refine V_bipush 10 dJx4a65c_grow_92f84_46 (by decide) ?_
  refine V_iload_n 1 dJx4a65c_grow_92f84_48 rfl rfl ?_
  refine V_callS (mc := 0) (ms := 0) (as := [aI 10, aI l1]) (st := [aR 2 0]) dJx4a65c_grow_92f84_49 okJ9_max_7cf53 stJ9_max_7cf53 lkJx4a65c_79 rfl (Nat.le_of_ble_eq_true rfl) (Nat.zero_le _) (Nat.zero_le _) (cJ9_max_ ?_)
  show V true mJx4a65c_grow_92f84 (d + 3) _ _ 52 [(2, aI 0), (0, aR 2 0), (1, aI l1)] [aI (maxF 10 l1), aR 2 0] h P
  obtain ⟨n3, ka, kb, kc, kd, ke, kf, k⟩ := k
  refine V_anew (by decide) rt_64 (Or.inr (fun _ => rfl)) dJx4a65c_grow_92f84_52 lkJx4a65c_7 ka kb kc kd ke kf ?_
  refine V_dup_x1 dJx4a65c_grow_92f84_55 rfl rfl ?_
  refine V_putR (k := 1) (by decide) rt_2 rfl (by decide) rfl (Or.inl rfl) (Or.inr rfl) dJx4a65c_grow_92f84_56 lkJx4a65c_9 ?_
  exact V_areturn dJx4a65c_grow_92f84_59 rfl (by first | exact Or.inl ⟨_, rfl⟩ | exact Or.inr ⟨_, rfl⟩) k
set_option maxRecDepth 20000 in
set_option maxHeartbeats 2000000 in
theorem wJ7_copyOf_1904c_2 {d bc bs : Nat} {h : HS} {P : Option AV → HS → Prop} {t0 : Nat} {l1 : Int32} (k : 1 ≤ bc ∧ 200 ≤ bs ∧ (Cl true mJ7_copyOf_6403c (d + 2) 1 200 [aR 64 t0, aI l1, aR 67 0] h (fun r1 h2 => ∃ t3, r1 = some (aR 64 t3) ∧ (P (some (aR 64 t3)) h2)))) : Cl true mJ7_copyOf_1904c (d + 3) bc bs [aR 64 t0, aI l1] h P := by
  refine Cl_ofF (by decide +kernel) (Nat.le_of_ble_eq_true rfl) ?_
  show V true mJ7_copyOf_1904c (d + 3) bc bs 0 [(0, aR 64 t0), (1, aI l1)] [] h P
  refine V_aload_n 0 dJ7_copyOf_1904c_0 rfl rfl ?_
  refine V_iload_n 1 dJ7_copyOf_1904c_1 rfl rfl ?_
  refine V_aload_n 0 dJ7_copyOf_1904c_2 rfl rfl ?_
  refine V_getC (by decide) rt_64 dJ7_copyOf_1904c_3 lkJ7_86 (Nat.le_of_ble_eq_true rfl) ?_
  obtain ⟨kb1, kb2, k⟩ := k
  refine V_callS (mc := 1) (ms := 200) (as := [aR 64 t0, aI l1, aR 67 0]) (st := []) dJ7_copyOf_1904c_6 okJ7_copyOf_6403c stJ7_copyOf_6403c lkJ7_300 rfl (Nat.le_of_ble_eq_true rfl) kb1 kb2 (Cl.mono (fun r1 h2 z => ?_) k)
  obtain ⟨t3, rfl, k⟩ := z
  exact V_areturn dJ7_copyOf_1904c_9 rfl (by first | exact Or.inl ⟨_, rfl⟩ | exact Or.inr ⟨_, rfl⟩) k
set_option maxRecDepth 20000 in
set_option maxHeartbeats 2000000 in
theorem wJ7_copyOf_6403c_2 {d bc bs : Nat} {h : HS} {P : Option AV → HS → Prop} {t0 : Nat} {l1 : Int32} (k : ∃ n1 : Nat, ¬ l1 < 0 ∧ Int32.toNatClampNeg l1 = n1 ∧ n1 ≤ 65536 ∧ 1 ≤ bc ∧ n1 ≤ bs ∧ (64, n1) ∉ h.2.2 ∧ (t0 ≠ n1 ∧ ¬ (minF (Int32.ofNat t0) l1) < 0 ∧ Int32.toNatClampNeg (minF (Int32.ofNat t0) l1) ≤ t0 ∧ Int32.toNatClampNeg (minF (Int32.ofNat t0) l1) ≤ n1 ∧ (∀ k, k < Int32.toNatClampNeg (minF (Int32.ofNat t0) l1) → ∀ q, gR (nw h 64 n1) 64 t0 k = some q → (∃ i, q = (60, i)) ∨ ∃ i, q = (62, i)) ∧ (P (some (aR 64 n1)) (cpR (nw h 64 n1) 64 n1 t0 (Int32.toNatClampNeg (minF (Int32.ofNat t0) l1)))))) : Cl true mJ7_copyOf_6403c (d + 3) bc bs [aR 64 t0, aI l1, aR 67 0] h P := by
  refine Cl_ofF (by decide +kernel) (Nat.le_of_ble_eq_true rfl) ?_
  show V true mJ7_copyOf_6403c (d + 3) bc bs 0 [(0, aR 64 t0), (1, aI l1), (2, aR 67 0)] [] h P
  refine V_aload_n 2 dJ7_copyOf_6403c_0 rfl rfl ?_
  refine V_ldcM dJ7_copyOf_6403c_1 lkJ7_110 ?_
  refine V_acmpN 13 dJ7_copyOf_6403c_3 (by decide) ?_
  refine V_iload_n 1 dJ7_copyOf_6403c_6 rfl rfl ?_
  obtain ⟨n1, ka, kb, kc, kd, ke, kf, k⟩ := k
  refine V_anew (by decide) rt_64 (Or.inr (fun _ => rfl)) dJ7_copyOf_6403c_7 lkJ7_2 ka kb kc kd ke kf ?_
  refine V_goto 24 dJ7_copyOf_6403c_10 (by decide) ?_
  refine V_astore_n 3 dJ7_copyOf_6403c_24 rfl (by decide) rfl ?_
  refine V_aload_n 0 dJ7_copyOf_6403c_25 rfl rfl ?_
  refine V_iconst 0 dJ7_copyOf_6403c_26 (by decide) ?_
  refine V_aload_n 3 dJ7_copyOf_6403c_27 rfl rfl ?_
  refine V_iconst 0 dJ7_copyOf_6403c_28 (by decide) ?_
  refine V_aload_n 0 dJ7_copyOf_6403c_29 rfl rfl ?_
  refine V_alenR (by decide) rt_64 rfl dJ7_copyOf_6403c_30 ?_
  refine V_iload_n 1 dJ7_copyOf_6403c_31 rfl rfl ?_
  refine V_callS (mc := 0) (ms := 0) (as := [aI (Int32.ofNat t0), aI l1]) (st := [aI 0, aR 64 n1, aI 0, aR 64 t0]) dJ7_copyOf_6403c_32 okJ9_min_7cf53 stJ9_min_7cf53 lkJ7_304 rfl (Nat.le_of_ble_eq_true rfl) (Nat.zero_le _) (Nat.zero_le _) (cJ9_min_ ?_)
  show V true mJ7_copyOf_6403c (d + 3) _ _ 35 [(3, aR 64 n1), (0, aR 64 t0), (1, aI l1), (2, aR 67 0)] [aI (minF (Int32.ofNat t0) l1), aI 0, aR 64 n1, aI 0, aR 64 t0] (nw h 64 n1) P
  obtain ⟨ka, kb, kc, kd, ke, k⟩ := k
  refine V_acopy (by decide) rt_64 rt_64 ka (fun _ _ => rfl) dJ7_copyOf_6403c_35 lkJ7_150 (Nat.le_of_ble_eq_true rfl) kb kc kd ke ?_
  refine V_aload_n 3 dJ7_copyOf_6403c_38 rfl rfl ?_
  exact V_areturn dJ7_copyOf_6403c_39 rfl (by first | exact Or.inl ⟨_, rfl⟩ | exact Or.inr ⟨_, rfl⟩) k
set_option maxRecDepth 20000 in
set_option maxHeartbeats 2000000 in
theorem wJxa1e45_init_da8c8_2 {d bc bs : Nat} {h : HS} {P : Option AV → HS → Prop}  (k : P none h) : Cl false mJxa1e45_init_da8c8 (d + 1) bc bs [aR 2 0] h P := by
  refine Cl_ofF (by decide +kernel) (Nat.le_of_ble_eq_true rfl) ?_
  show V false mJxa1e45_init_da8c8 (d + 1) bc bs 0 [(0, aR 2 0)] [] h P
  refine V_aload_n 0 dJxa1e45_init_da8c8_0 rfl rfl ?_
  refine V_objInit dJxa1e45_init_da8c8_1 lkJxa1e45_1 (Nat.le_of_ble_eq_true rfl) ?_
  exact V_return dJxa1e45_init_da8c8_4 rfl k
set_option maxRecDepth 20000 in
set_option maxHeartbeats 2000000 in
theorem wJxc12de_init_da8c8_2 {d bc bs : Nat} {h : HS} {P : Option AV → HS → Prop}  (k : Cl false mJxa1e45_init_da8c8 d 0 0 [aR 2 0] h (fun r1 h2 => r1 = none ∧ (P none (sI h2 2 0 0 0)))) : Cl false mJxc12de_init_da8c8 (d + 1) bc bs [aR 2 0] h P := by
  refine Cl_ofF (by decide +kernel) (Nat.le_of_ble_eq_true rfl) ?_
  show V false mJxc12de_init_da8c8 (d + 1) bc bs 0 [(0, aR 2 0)] [] h P
  refine V_aload_n 0 dJxc12de_init_da8c8_0 rfl rfl ?_
  refine V_callI0 (as := []) (st := []) dJxc12de_init_da8c8_1 okJxa1e45_init_da8c8 rfl rfl inJxa1e45_init_da8c8 lkJxc12de_1 rfl (Nat.le_of_ble_eq_true rfl) (Cl.mono (fun r1 h2 z => ?_) k)
  obtain ⟨rfl, k⟩ := z
  refine V_aload_n 0 dJxc12de_init_da8c8_4 rfl rfl ?_
  refine V_iconst 0 dJxc12de_init_da8c8_5 (by decide) ?_
  refine V_putI (T := TJx4a65c) (k := 0) (by decide) rt_2 rfl (by decide) rfl (Or.inl rfl) dJxc12de_init_da8c8_6 lkJxc12de_7 ?_
  exact V_return dJxc12de_init_da8c8_9 rfl k
set_option maxRecDepth 20000 in
set_option maxHeartbeats 2000000 in
theorem wJx4a65c_init_da8c8_2 {d bc bs : Nat} {h : HS} {P : Option AV → HS → Prop}  (k : Cl false mJxc12de_init_da8c8 d 0 0 [aR 2 0] h (fun r1 h2 => r1 = none ∧ (P none (sR h2 2 0 1 (some (66, 0)))))) : Cl false mJx4a65c_init_da8c8 (d + 1) bc bs [aR 2 0] h P := by
  refine Cl_ofF (by decide +kernel) (Nat.le_of_ble_eq_true rfl) ?_
  show V false mJx4a65c_init_da8c8 (d + 1) bc bs 0 [(0, aR 2 0)] [] h P
  refine V_aload_n 0 dJx4a65c_init_da8c8_0 rfl rfl ?_
  refine V_callI0 (as := []) (st := []) dJx4a65c_init_da8c8_1 okJxc12de_init_da8c8 rfl rfl inJxc12de_init_da8c8 lkJx4a65c_1 rfl (Nat.le_of_ble_eq_true rfl) (Cl.mono (fun r1 h2 z => ?_) k)
  obtain ⟨rfl, k⟩ := z
  refine V_aload_n 0 dJx4a65c_init_da8c8_4 rfl rfl ?_
  refine V_getsE dJx4a65c_init_da8c8_5 lkJx4a65c_39 ?_
  refine V_putR (k := 1) (by decide) rt_2 rfl (by decide) rfl (Or.inl rfl) (Or.inl rfl) dJx4a65c_init_da8c8_8 lkJx4a65c_9 ?_
  exact V_return dJx4a65c_init_da8c8_11 rfl k
set_option maxRecDepth 20000 in
set_option maxHeartbeats 2000000 in
theorem wJ15_checkIndex_7cf53 {d bc bs : Nat} {h : HS} {P : Option AV → HS → Prop} {l0 : Int32} {l1 : Int32} (k : Cl true mJ3_checkIndex_8e157 (d + 2) 0 0 [aI l0, aI l1, aP none] h (fun r1 h2 => ∃ x3 : Int32, r1 = some (aI x3) ∧ (P (some (aI x3)) h2))) : Cl true mJ15_checkIndex_7cf53 (d + 3) bc bs [aI l0, aI l1] h P := by
  refine Cl_ofF (by decide +kernel) (Nat.le_of_ble_eq_true rfl) ?_
  show V true mJ15_checkIndex_7cf53 (d + 3) bc bs 0 [(0, aI l0), (1, aI l1)] [] h P
  refine V_iload_n 0 dJ15_checkIndex_7cf53_0 rfl rfl ?_
  refine V_iload_n 1 dJ15_checkIndex_7cf53_1 rfl rfl ?_
  refine V_null dJ15_checkIndex_7cf53_2 ?_
  refine V_callS (mc := 0) (ms := 0) (as := [aI l0, aI l1, aP none]) (st := []) dJ15_checkIndex_7cf53_3 okJ3_checkIndex_8e157 stJ3_checkIndex_8e157 lkJ15_105 rfl (Nat.le_of_ble_eq_true rfl) (Nat.zero_le _) (Nat.zero_le _) (Cl.mono (fun r1 h2 z => ?_) k)
  obtain ⟨x3, rfl, k⟩ := z
  exact V_ireturn dJ15_checkIndex_7cf53_6 rfl k
set_option maxRecDepth 20000 in
set_option maxHeartbeats 2000000 in
theorem wJ3_checkIndex_8e157 {d bc bs : Nat} {h : HS} {P : Option AV → HS → Prop} {l0 : Int32} {l1 : Int32} {q2 : Option PT} (k : ((l0 < 0) → False) ∧ ((¬ l0 < 0) → (((l0 < l1) → (P (some (aI l0)) h)) ∧ ((¬ l0 < l1) → False)))) : Cl true mJ3_checkIndex_8e157 (d + 3) bc bs [aI l0, aI l1, aP q2] h P := by
  refine Cl_ofF (by decide +kernel) (Nat.le_of_ble_eq_true rfl) ?_
  show V true mJ3_checkIndex_8e157 (d + 3) bc bs 0 [(0, aI l0), (1, aI l1), (2, aP q2)] [] h P
  refine V_iload_n 0 dJ3_checkIndex_8e157_0 rfl rfl ?_
  refine V_if_lt 9 dJ3_checkIndex_8e157_1 (by decide) ⟨fun z => ?_, fun z => ?_⟩
  · replace k := k.1 z
    exact k.elim
  · replace k := k.2 z
    refine V_iload_n 0 dJ3_checkIndex_8e157_4 rfl rfl ?_
    refine V_iload_n 1 dJ3_checkIndex_8e157_5 rfl rfl ?_
    refine V_icmp_lt 16 dJ3_checkIndex_8e157_6 (by decide) ⟨fun z => ?_, fun z => ?_⟩
    · replace k := k.1 z
      refine V_iload_n 0 dJ3_checkIndex_8e157_16 rfl rfl ?_
      exact V_ireturn dJ3_checkIndex_8e157_17 rfl k
    · replace k := k.2 z
      exact k.elim
set_option maxRecDepth 20000 in
set_option maxHeartbeats 2000000 in
theorem wJ8_newLength_cabcc {d bc bs : Nat} {h : HS} {P : Option AV → HS → Prop} {l0 : Int32} {l1 : Int32} {l2 : Int32} (k : (((l0 + (maxF l1 l2)) ≤ 0) → (Cl true mJ8_hugeLength_7cf53 (d + 2) 0 0 [aI l0, aI l1] h (fun r3 h4 => ∃ x5 : Int32, r3 = some (aI x5) ∧ (P (some (aI x5)) h4)))) ∧ ((¬ (l0 + (maxF l1 l2)) ≤ 0) → (((2147483639 < (l0 + (maxF l1 l2))) → (Cl true mJ8_hugeLength_7cf53 (d + 2) 0 0 [aI l0, aI l1] h (fun r6 h7 => ∃ x8 : Int32, r6 = some (aI x8) ∧ (P (some (aI x8)) h7)))) ∧ ((¬ 2147483639 < (l0 + (maxF l1 l2))) → (P (some (aI (l0 + (maxF l1 l2)))) h))))) : Cl true mJ8_newLength_cabcc (d + 3) bc bs [aI l0, aI l1, aI l2] h P := by
  refine Cl_ofF (by decide +kernel) (Nat.le_of_ble_eq_true rfl) ?_
  show V true mJ8_newLength_cabcc (d + 3) bc bs 0 [(0, aI l0), (1, aI l1), (2, aI l2)] [] h P
  refine V_iload_n 0 dJ8_newLength_cabcc_0 rfl rfl ?_
  refine V_iload_n 1 dJ8_newLength_cabcc_1 rfl rfl ?_
  refine V_iload_n 2 dJ8_newLength_cabcc_2 rfl rfl ?_
  refine V_callS (mc := 0) (ms := 0) (as := [aI l1, aI l2]) (st := [aI l0]) dJ8_newLength_cabcc_3 okJ9_max_7cf53 stJ9_max_7cf53 lkJ8_194 rfl (Nat.le_of_ble_eq_true rfl) (Nat.zero_le _) (Nat.zero_le _) (cJ9_max_ ?_)
  show V true mJ8_newLength_cabcc (d + 3) _ _ 6 [(0, aI l0), (1, aI l1), (2, aI l2)] [aI (maxF l1 l2), aI l0] h P
  refine V_iadd dJ8_newLength_cabcc_6 ?_
  refine V_istore_n 3 dJ8_newLength_cabcc_7 rfl (by decide) rfl ?_
  refine V_iconst 0 dJ8_newLength_cabcc_8 (by decide) ?_
  refine V_iload_n 3 dJ8_newLength_cabcc_9 rfl rfl ?_
  refine V_icmp_ge 21 dJ8_newLength_cabcc_10 (by decide) ⟨fun z => ?_, fun z => ?_⟩
  · replace k := k.1 z
    refine V_iload_n 0 dJ8_newLength_cabcc_21 rfl rfl ?_
    refine V_iload_n 1 dJ8_newLength_cabcc_22 rfl rfl ?_
    refine V_callS (mc := 0) (ms := 0) (as := [aI l0, aI l1]) (st := []) dJ8_newLength_cabcc_23 okJ8_hugeLength_7cf53 stJ8_hugeLength_7cf53 lkJ8_201 rfl (Nat.le_of_ble_eq_true rfl) (Nat.zero_le _) (Nat.zero_le _) (Cl.mono (fun r3 h4 z => ?_) k)
    obtain ⟨x5, rfl, k⟩ := z
    exact V_ireturn dJ8_newLength_cabcc_26 rfl k
  · replace k := k.2 z
    refine V_iload_n 3 dJ8_newLength_cabcc_13 rfl rfl ?_
    refine V_ldc 2147483639 dJ8_newLength_cabcc_14 lkJ8_200 ?_
    refine V_icmp_gt 21 dJ8_newLength_cabcc_16 (by decide) ⟨fun z => ?_, fun z => ?_⟩
    · replace k := k.1 z
      refine V_iload_n 0 dJ8_newLength_cabcc_21 rfl rfl ?_
      refine V_iload_n 1 dJ8_newLength_cabcc_22 rfl rfl ?_
      refine V_callS (mc := 0) (ms := 0) (as := [aI l0, aI l1]) (st := []) dJ8_newLength_cabcc_23 okJ8_hugeLength_7cf53 stJ8_hugeLength_7cf53 lkJ8_201 rfl (Nat.le_of_ble_eq_true rfl) (Nat.zero_le _) (Nat.zero_le _) (Cl.mono (fun r6 h7 z => ?_) k)
      obtain ⟨x8, rfl, k⟩ := z
      exact V_ireturn dJ8_newLength_cabcc_26 rfl k
    · replace k := k.2 z
      refine V_iload_n 3 dJ8_newLength_cabcc_19 rfl rfl ?_
      exact V_ireturn dJ8_newLength_cabcc_20 rfl k
set_option maxRecDepth 20000 in
set_option maxHeartbeats 2000000 in
theorem wJ0_length_8abf5 {d bc bs : Nat} {h : HS} {P : Option AV → HS → Prop} {i0 : Nat} (hj : i0 < 7) (k : i0 < 7 ∧ (Cl true mJ0_coder_7d493 (d + 2) 0 0 [aR 65 i0] h (fun r1 h2 => ∃ x3 : Int32, r1 = some (aI x3) ∧ (P (some (aI ((Int32.ofNat (sLn.getD i0 0)) >>> (x3 &&& 31)))) h2)))) : Cl true mJ0_length_8abf5 (d + 3) bc bs [aR 65 i0] h P := by
  refine Cl_ofF (by decide +kernel) (Nat.le_of_ble_eq_true rfl) ?_
  show V true mJ0_length_8abf5 (d + 3) bc bs 0 [(0, aR 65 i0)] [] h P
  refine V_aload_n 0 dJ0_length_8abf5_0 rfl rfl ?_
  refine V_getSV hj dJ0_length_8abf5_1 lkJ0_9 ?_
  refine V_alenS hj dJ0_length_8abf5_4 ?_
  refine V_aload_n 0 dJ0_length_8abf5_5 rfl rfl ?_
  obtain ⟨k7, k⟩ := k
  refine V_callX (mc := 0) (ms := 0) (as := []) (st := [aI (Int32.ofNat (sLn.getD i0 0))]) k7 rfl dJ0_length_8abf5_6 okJ0_coder_7d493 inJ0_coder_7d493 seJ0_coder_7d493 lkJ0_335 rfl (Nat.le_of_ble_eq_true rfl) (Nat.zero_le _) (Nat.zero_le _) (Cl.mono (fun r1 h2 z => ?_) k)
  obtain ⟨x3, rfl, k⟩ := z
  refine V_ishr dJ0_length_8abf5_9 ?_
  exact V_ireturn dJ0_length_8abf5_10 rfl k
set_option maxRecDepth 20000 in
set_option maxHeartbeats 2000000 in
theorem wJ0_charAt_5068e {d bc bs : Nat} {h : HS} {P : Option AV → HS → Prop} {i0 : Nat} {l1 : Int32} (hj : i0 < 7) (k : i0 < 7 ∧ (Cl true mJ0_isLatin1_aae02 (d + 2) 0 0 [aR 65 i0] h (fun r1 h2 => ∃ x3 : Int32, r1 = some (aI x3) ∧ (((x3 = 0) → (Cl true mJ2_charAt_3b067 (d + 2) 0 0 [aR 68 i0, aI l1] h2 (fun r4 h5 => ∃ x6 : Int32, r4 = some (aI x6) ∧ (narrow .char (.int x6) = .int x6 ∧ P (some (aI x6)) h5)))) ∧ ((¬ x3 = 0) → (Cl true mJ1_charAt_3b067 (d + 2) 0 0 [aR 68 i0, aI l1] h2 (fun r7 h8 => ∃ x9 : Int32, r7 = some (aI x9) ∧ (narrow .char (.int x9) = .int x9 ∧ P (some (aI x9)) h8)))))))) : Cl true mJ0_charAt_5068e (d + 3) bc bs [aR 65 i0, aI l1] h P := by
  refine Cl_ofF (by decide +kernel) (Nat.le_of_ble_eq_true rfl) ?_
  show V true mJ0_charAt_5068e (d + 3) bc bs 0 [(0, aR 65 i0), (1, aI l1)] [] h P
  refine V_aload_n 0 dJ0_charAt_5068e_0 rfl rfl ?_
  obtain ⟨k7, k⟩ := k
  refine V_callX (mc := 0) (ms := 0) (as := []) (st := []) k7 rfl dJ0_charAt_5068e_1 okJ0_isLatin1_aae02 inJ0_isLatin1_aae02 seJ0_isLatin1_aae02 lkJ0_492 rfl (Nat.le_of_ble_eq_true rfl) (Nat.zero_le _) (Nat.zero_le _) (Cl.mono (fun r1 h2 z => ?_) k)
  obtain ⟨x3, rfl, k⟩ := z
  refine V_if_eq 16 dJ0_charAt_5068e_4 (by decide) ⟨fun z => ?_, fun z => ?_⟩
  · replace k := k.1 z
    refine V_aload_n 0 dJ0_charAt_5068e_16 rfl rfl ?_
    refine V_getSV hj dJ0_charAt_5068e_17 lkJ0_9 ?_
    refine V_iload_n 1 dJ0_charAt_5068e_20 rfl rfl ?_
    refine V_callS (mc := 0) (ms := 0) (as := [aR 68 i0, aI l1]) (st := []) dJ0_charAt_5068e_21 okJ2_charAt_3b067 stJ2_charAt_3b067 lkJ0_498 rfl (Nat.le_of_ble_eq_true rfl) (Nat.zero_le _) (Nat.zero_le _) (Cl.mono (fun r4 h5 z => ?_) k)
    obtain ⟨x6, rfl, k⟩ := z
    exact V_nreturn dJ0_charAt_5068e_24 rfl k.1 k.2
  · replace k := k.2 z
    refine V_aload_n 0 dJ0_charAt_5068e_7 rfl rfl ?_
    refine V_getSV hj dJ0_charAt_5068e_8 lkJ0_9 ?_
    refine V_iload_n 1 dJ0_charAt_5068e_11 rfl rfl ?_
    refine V_callS (mc := 0) (ms := 0) (as := [aR 68 i0, aI l1]) (st := []) dJ0_charAt_5068e_12 okJ1_charAt_3b067 stJ1_charAt_3b067 lkJ0_495 rfl (Nat.le_of_ble_eq_true rfl) (Nat.zero_le _) (Nat.zero_le _) (Cl.mono (fun r7 h8 z => ?_) k)
    obtain ⟨x9, rfl, k⟩ := z
    exact V_nreturn dJ0_charAt_5068e_15 rfl k.1 k.2
set_option maxRecDepth 20000 in
set_option maxHeartbeats 2000000 in
theorem wJ0_coder_7d493 {d bc bs : Nat} {h : HS} {P : Option AV → HS → Prop} {i0 : Nat} (hj : i0 < 7) (k : narrow .byte (.int 0) = .int 0 ∧ P (some (aI 0)) h) : Cl true mJ0_coder_7d493 (d + 3) bc bs [aR 65 i0] h P := by
  refine Cl_ofF (by decide +kernel) (Nat.le_of_ble_eq_true rfl) ?_
  show V true mJ0_coder_7d493 (d + 3) bc bs 0 [(0, aR 65 i0)] [] h P
  refine V_getsC dJ0_coder_7d493_0 lkJ0_38 ?_
  refine V_if_eq 13 dJ0_coder_7d493_3 (by decide) ⟨fun z => absurd z (by decide), fun z => ?_⟩
  refine V_aload_n 0 dJ0_coder_7d493_6 rfl rfl ?_
  refine V_getSC hj dJ0_coder_7d493_7 lkJ0_15 ?_
  refine V_goto 14 dJ0_coder_7d493_10 (by decide) ?_
  exact V_nreturn dJ0_coder_7d493_14 rfl k.1 k.2
set_option maxRecDepth 20000 in
set_option maxHeartbeats 2000000 in
theorem wJ0_isLatin1_aae02 {d bc bs : Nat} {h : HS} {P : Option AV → HS → Prop} {i0 : Nat} (hj : i0 < 7) (k : P (some (aI 1)) h) : Cl true mJ0_isLatin1_aae02 (d + 3) bc bs [aR 65 i0] h P := by
  refine Cl_ofF (by decide +kernel) (Nat.le_of_ble_eq_true rfl) ?_
  show V true mJ0_isLatin1_aae02 (d + 3) bc bs 0 [(0, aR 65 i0)] [] h P
  refine V_getsC dJ0_isLatin1_aae02_0 lkJ0_38 ?_
  refine V_if_eq 17 dJ0_isLatin1_aae02_3 (by decide) ⟨fun z => absurd z (by decide), fun z => ?_⟩
  refine V_aload_n 0 dJ0_isLatin1_aae02_6 rfl rfl ?_
  refine V_getSC hj dJ0_isLatin1_aae02_7 lkJ0_15 ?_
  refine V_if_ne 17 dJ0_isLatin1_aae02_10 (by decide) ⟨fun z => absurd z (by decide), fun z => ?_⟩
  refine V_iconst 1 dJ0_isLatin1_aae02_13 (by decide) ?_
  refine V_goto 18 dJ0_isLatin1_aae02_14 (by decide) ?_
  exact V_zreturn dJ0_isLatin1_aae02_18 rfl (by decide) k
set_option maxRecDepth 20000 in
set_option maxHeartbeats 2000000 in
theorem wJ0_checkIndex_df160 {d bc bs : Nat} {h : HS} {P : Option AV → HS → Prop} {l0 : Int32} {l1 : Int32} (k : ∀ q1 : Option PT, (Cl true mJ3_checkIndex_8e157 (d + 2) 0 0 [aI l0, aI l1, aP q1] h (fun r2 h3 => ∃ x4 : Int32, r2 = some (aI x4) ∧ (P none h3)))) : Cl true mJ0_checkIndex_df160 (d + 3) bc bs [aI l0, aI l1] h P := by
  refine Cl_ofF (by decide +kernel) (Nat.le_of_ble_eq_true rfl) ?_
  show V true mJ0_checkIndex_df160 (d + 3) bc bs 0 [(0, aI l0), (1, aI l1)] [] h P
  refine V_iload_n 0 dJ0_checkIndex_df160_0 rfl rfl ?_
  refine V_iload_n 1 dJ0_checkIndex_df160_1 rfl rfl ?_
  refine V_getsF dJ0_checkIndex_df160_2 lkJ0_1053 (fun q1 => ?_)
  replace k := k q1
  refine V_callS (mc := 0) (ms := 0) (as := [aI l0, aI l1, aP q1]) (st := []) dJ0_checkIndex_df160_5 okJ3_checkIndex_8e157 stJ3_checkIndex_8e157 lkJ0_1059 rfl (Nat.le_of_ble_eq_true rfl) (Nat.zero_le _) (Nat.zero_le _) (Cl.mono (fun r2 h3 z => ?_) k)
  obtain ⟨x4, rfl, k⟩ := z
  refine V_pop dJ0_checkIndex_df160_8 rfl ?_
  exact V_return dJ0_checkIndex_df160_9 rfl k
set_option maxRecDepth 20000 in
set_option maxHeartbeats 2000000 in
theorem wJ1_charAt_3b067 {d bc bs : Nat} {h : HS} {P : Option AV → HS → Prop} {i0 : Nat} {l1 : Int32} (hj : i0 < 7) (k : Cl true mJ0_checkIndex_df160 (d + 2) 0 0 [aI l1, aI (Int32.ofNat (sLn.getD i0 0))] h (fun r1 h2 => r1 = none ∧ (vp_in l1 (sLn.getD i0 0) ∧ (narrow .char (.int ((Int32.toUInt32 (((sBy.getD i0 []).getD l1.toNatClampNeg 0) &&& 255) % 65536).toInt32)) = .int ((Int32.toUInt32 (((sBy.getD i0 []).getD l1.toNatClampNeg 0) &&& 255) % 65536).toInt32) ∧ P (some (aI ((Int32.toUInt32 (((sBy.getD i0 []).getD l1.toNatClampNeg 0) &&& 255) % 65536).toInt32))) h2)))) : Cl true mJ1_charAt_3b067 (d + 3) bc bs [aR 68 i0, aI l1] h P := by
  refine Cl_ofF (by decide +kernel) (Nat.le_of_ble_eq_true rfl) ?_
  show V true mJ1_charAt_3b067 (d + 3) bc bs 0 [(0, aR 68 i0), (1, aI l1)] [] h P
  refine V_iload_n 1 dJ1_charAt_3b067_0 rfl rfl ?_
  refine V_aload_n 0 dJ1_charAt_3b067_1 rfl rfl ?_
  refine V_alenS hj dJ1_charAt_3b067_2 ?_
  refine V_callS (mc := 0) (ms := 0) (as := [aI l1, aI (Int32.ofNat (sLn.getD i0 0))]) (st := []) dJ1_charAt_3b067_3 okJ0_checkIndex_df160 stJ0_checkIndex_df160 lkJ1_9 rfl (Nat.le_of_ble_eq_true rfl) (Nat.zero_le _) (Nat.zero_le _) (Cl.mono (fun r1 h2 z => ?_) k)
  obtain ⟨rfl, k⟩ := z
  refine V_aload_n 0 dJ1_charAt_3b067_6 rfl rfl ?_
  refine V_iload_n 1 dJ1_charAt_3b067_7 rfl rfl ?_
  refine V_baldS hj dJ1_charAt_3b067_8 k.1 ?_
  replace k := k.2
  refine V_sipush 255 dJ1_charAt_3b067_9 (by decide) ?_
  refine V_iand dJ1_charAt_3b067_12 ?_
  refine V_i2c dJ1_charAt_3b067_13 ?_
  exact V_nreturn dJ1_charAt_3b067_14 rfl k.1 k.2

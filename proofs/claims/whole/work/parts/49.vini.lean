set_option maxRecDepth 20000 in
set_option maxHeartbeats 4000000 in
theorem wX0_init {d bc bs : Nat} {h : HS} {P : Option AV → HS → Prop}  (k : (22, 0) ∉ h.2.2 ∧ 1 ≤ bc ∧ 4 ≤ bs ∧ ((23, 0) ∉ (sR (nw h 22 0) 21 0 0 (some (22, 0))).2.2 ∧ 1 ≤ (bc - 1) ∧ 4 ≤ (bs - 4) ∧ ((24, 0) ∉ (sR (nw (sR (nw h 22 0) 21 0 0 (some (22, 0))) 23 0) 21 0 1 (some (23, 0))).2.2 ∧ 1 ≤ ((bc - 1) - 1) ∧ 8 ≤ ((bs - 4) - 4) ∧ ((25, 0) ∉ (sR (nw (sR (nw (sR (nw h 22 0) 21 0 0 (some (22, 0))) 23 0) 21 0 1 (some (23, 0))) 24 0) 21 0 2 (some (24, 0))).2.2 ∧ 1 ≤ (((bc - 1) - 1) - 1) ∧ 8 ≤ (((bs - 4) - 4) - 8) ∧ (P none (sI (sI (sR (nw (sR (nw (sR (nw (sR (nw h 22 0) 21 0 0 (some (22, 0))) 23 0) 21 0 1 (some (23, 0))) 24 0) 21 0 2 (some (24, 0))) 25 0) 21 0 3 (some (25, 0))) 21 0 4 (-1)) 21 0 5 0)))))) : Cl false mX0_init (d + 1) bc bs [aR 21 0] h P := by
  refine Cl_of (by decide) (Nat.le_of_ble_eq_true rfl) ?_
  show V false mX0_init (d + 1) bc bs 0 [(0, aR 21 0)] [] h P
  refine V_aload_n 0 dX0_init_0 rfl rfl ?_
  refine V_objInit dX0_init_1 lkX0_3 (Nat.le_of_ble_eq_true rfl) ?_
  refine V_aload_n 0 dX0_init_4 rfl rfl ?_
  refine V_iconst 4 dX0_init_5 (by decide) ?_
  obtain ⟨kf, kb1, kb2, k⟩ := k
  refine V_newa (i := 0) (by decide) rt_22 (by decide) rfl (Or.inl rfl) dX0_init_6 ac_int (by decide) (by decide) (by decide) kb1 kb2 kf ?_
  refine V_putR (k := 0) (by decide) rt_21 rfl (by decide) rfl (Or.inr ⟨rfl, rfl, rfl⟩) (Or.inl rfl) dX0_init_8 lkX0_9 ?_
  refine V_aload_n 0 dX0_init_11 rfl rfl ?_
  refine V_iconst 4 dX0_init_12 (by decide) ?_
  obtain ⟨kf, kb1, kb2, k⟩ := k
  refine V_newa (i := 0) (by decide) rt_23 (by decide) rfl (Or.inl rfl) dX0_init_13 ac_int (by decide) (by decide) (by decide) kb1 kb2 kf ?_
  refine V_putR (k := 1) (by decide) rt_21 rfl (by decide) rfl (Or.inr ⟨rfl, rfl, rfl⟩) (Or.inl rfl) dX0_init_15 lkX0_15 ?_
  refine V_aload_n 0 dX0_init_18 rfl rfl ?_
  refine V_bipush 8 dX0_init_19 (by decide) ?_
  obtain ⟨kf, kb1, kb2, k⟩ := k
  refine V_newa (i := 0) (by decide) rt_24 (by decide) rfl (Or.inl rfl) dX0_init_21 ac_int (by decide) (by decide) (by decide) kb1 kb2 kf ?_
  refine V_putR (k := 2) (by decide) rt_21 rfl (by decide) rfl (Or.inr ⟨rfl, rfl, rfl⟩) (Or.inl rfl) dX0_init_23 lkX0_18 ?_
  refine V_aload_n 0 dX0_init_26 rfl rfl ?_
  refine V_bipush 8 dX0_init_27 (by decide) ?_
  obtain ⟨kf, kb1, kb2, k⟩ := k
  refine V_newa (i := 0) (by decide) rt_25 (by decide) rfl (Or.inl rfl) dX0_init_29 ac_int (by decide) (by decide) (by decide) kb1 kb2 kf ?_
  refine V_putR (k := 3) (by decide) rt_21 rfl (by decide) rfl (Or.inr ⟨rfl, rfl, rfl⟩) (Or.inl rfl) dX0_init_31 lkX0_21 ?_
  refine V_aload_n 0 dX0_init_34 rfl rfl ?_
  refine V_iconst (-1) dX0_init_35 (by decide) ?_
  refine PI_21_4 dX0_init_36 lkX0_24 ?_
  refine V_aload_n 0 dX0_init_39 rfl rfl ?_
  refine V_iconst 0 dX0_init_40 (by decide) ?_
  refine PI_21_5 dX0_init_41 lkX0_28 ?_
  exact V_return dX0_init_44 rfl k
set_option maxRecDepth 20000 in
set_option maxHeartbeats 4000000 in
theorem wX1_init {d bc bs : Nat} {h : HS} {P : Option AV → HS → Prop} {i0 : Nat} (k : (13, i0) ∉ h.2.2 ∧ 1 ≤ bc ∧ 400 ≤ bs ∧ ((14, i0) ∉ (sR (nw h 13 i0) 12 i0 0 (some (13, i0))).2.2 ∧ 1 ≤ (bc - 1) ∧ 400 ≤ (bs - 400) ∧ ((15, i0) ∉ (sR (nw (sR (nw h 13 i0) 12 i0 0 (some (13, i0))) 14 i0) 12 i0 1 (some (14, i0))).2.2 ∧ 1 ≤ ((bc - 1) - 1) ∧ 8 ≤ ((bs - 400) - 400) ∧ ((16, i0) ∉ (sR (nw (sR (nw (sR (nw h 13 i0) 12 i0 0 (some (13, i0))) 14 i0) 12 i0 1 (some (14, i0))) 15 i0) 12 i0 2 (some (15, i0))).2.2 ∧ 1 ≤ (((bc - 1) - 1) - 1) ∧ 8 ≤ (((bs - 400) - 400) - 8) ∧ ((17, i0) ∉ (sR (nw (sR (nw (sR (nw (sR (nw h 13 i0) 12 i0 0 (some (13, i0))) 14 i0) 12 i0 1 (some (14, i0))) 15 i0) 12 i0 2 (some (15, i0))) 16 i0) 12 i0 3 (some (16, i0))).2.2 ∧ 1 ≤ ((((bc - 1) - 1) - 1) - 1) ∧ 8 ≤ ((((bs - 400) - 400) - 8) - 8) ∧ ((18, i0) ∉ (sR (nw (sR (nw (sR (nw (sR (nw (sR (nw h 13 i0) 12 i0 0 (some (13, i0))) 14 i0) 12 i0 1 (some (14, i0))) 15 i0) 12 i0 2 (some (15, i0))) 16 i0) 12 i0 3 (some (16, i0))) 17 i0) 12 i0 4 (some (17, i0))).2.2 ∧ 1 ≤ (((((bc - 1) - 1) - 1) - 1) - 1) ∧ 64 ≤ (((((bs - 400) - 400) - 8) - 8) - 8) ∧ (P none (sI (sI (sI (sR (nw (sR (nw (sR (nw (sR (nw (sR (nw (sR (nw h 13 i0) 12 i0 0 (some (13, i0))) 14 i0) 12 i0 1 (some (14, i0))) 15 i0) 12 i0 2 (some (15, i0))) 16 i0) 12 i0 3 (some (16, i0))) 17 i0) 12 i0 4 (some (17, i0))) 18 i0) 12 i0 5 (some (18, i0))) 12 i0 6 0) 12 i0 7 0) 12 i0 8 0)))))))) : Cl false mX1_init (d + 1) bc bs [aR 12 i0] h P := by
  refine Cl_of (by decide) (Nat.le_of_ble_eq_true rfl) ?_
  show V false mX1_init (d + 1) bc bs 0 [(0, aR 12 i0)] [] h P
  refine V_aload_n 0 dX1_init_0 rfl rfl ?_
  refine V_objInit dX1_init_1 lkX1_3 (Nat.le_of_ble_eq_true rfl) ?_
  refine V_aload_n 0 dX1_init_4 rfl rfl ?_
  refine V_sipush 400 dX1_init_5 (by decide) ?_
  obtain ⟨kf, kb1, kb2, k⟩ := k
  refine V_newa (i := i0) (by decide) rt_13 (by decide) rfl (Or.inl rfl) dX1_init_8 ac_int (by decide) (by decide) (by decide) kb1 kb2 kf ?_
  refine V_putR (k := 0) (by decide) rt_12 rfl (by decide) rfl (Or.inr ⟨rfl, rfl, rfl⟩) (Or.inl rfl) dX1_init_10 lkX1_9 ?_
  refine V_aload_n 0 dX1_init_13 rfl rfl ?_
  refine V_sipush 400 dX1_init_14 (by decide) ?_
  obtain ⟨kf, kb1, kb2, k⟩ := k
  refine V_newa (i := i0) (by decide) rt_14 (by decide) rfl (Or.inl rfl) dX1_init_17 ac_int (by decide) (by decide) (by decide) kb1 kb2 kf ?_
  refine V_putR (k := 1) (by decide) rt_12 rfl (by decide) rfl (Or.inr ⟨rfl, rfl, rfl⟩) (Or.inl rfl) dX1_init_19 lkX1_15 ?_
  refine V_aload_n 0 dX1_init_22 rfl rfl ?_
  refine V_bipush 8 dX1_init_23 (by decide) ?_
  obtain ⟨kf, kb1, kb2, k⟩ := k
  refine V_newa (i := i0) (by decide) rt_15 (by decide) rfl (Or.inl rfl) dX1_init_25 ac_int (by decide) (by decide) (by decide) kb1 kb2 kf ?_
  refine V_putR (k := 2) (by decide) rt_12 rfl (by decide) rfl (Or.inr ⟨rfl, rfl, rfl⟩) (Or.inl rfl) dX1_init_27 lkX1_18 ?_
  refine V_aload_n 0 dX1_init_30 rfl rfl ?_
  refine V_bipush 8 dX1_init_31 (by decide) ?_
  obtain ⟨kf, kb1, kb2, k⟩ := k
  refine V_newa (i := i0) (by decide) rt_16 (by decide) rfl (Or.inl rfl) dX1_init_33 ac_int (by decide) (by decide) (by decide) kb1 kb2 kf ?_
  refine V_putR (k := 3) (by decide) rt_12 rfl (by decide) rfl (Or.inr ⟨rfl, rfl, rfl⟩) (Or.inl rfl) dX1_init_35 lkX1_21 ?_
  refine V_aload_n 0 dX1_init_38 rfl rfl ?_
  refine V_bipush 8 dX1_init_39 (by decide) ?_
  obtain ⟨kf, kb1, kb2, k⟩ := k
  refine V_newa (i := i0) (by decide) rt_17 (by decide) rfl (Or.inl rfl) dX1_init_41 ac_int (by decide) (by decide) (by decide) kb1 kb2 kf ?_
  refine V_putR (k := 4) (by decide) rt_12 rfl (by decide) rfl (Or.inr ⟨rfl, rfl, rfl⟩) (Or.inl rfl) dX1_init_43 lkX1_24 ?_
  refine V_aload_n 0 dX1_init_46 rfl rfl ?_
  refine V_bipush 64 dX1_init_47 (by decide) ?_
  obtain ⟨kf, kb1, kb2, k⟩ := k
  refine V_newa (i := i0) (by decide) rt_18 (by decide) rfl (Or.inl rfl) dX1_init_49 ac_int (by decide) (by decide) (by decide) kb1 kb2 kf ?_
  refine V_putR (k := 5) (by decide) rt_12 rfl (by decide) rfl (Or.inr ⟨rfl, rfl, rfl⟩) (Or.inl rfl) dX1_init_51 lkX1_27 ?_
  refine V_aload_n 0 dX1_init_54 rfl rfl ?_
  refine V_iconst 0 dX1_init_55 (by decide) ?_
  refine PI_12_6 dX1_init_56 lkX1_30 ?_
  refine V_aload_n 0 dX1_init_59 rfl rfl ?_
  refine V_iconst 0 dX1_init_60 (by decide) ?_
  refine PI_12_7 dX1_init_61 lkX1_34 ?_
  refine V_aload_n 0 dX1_init_64 rfl rfl ?_
  refine V_iconst 0 dX1_init_65 (by decide) ?_
  refine PI_12_8 dX1_init_66 lkX1_37 ?_
  exact V_return dX1_init_69 rfl k
set_option maxRecDepth 20000 in
set_option maxHeartbeats 4000000 in
theorem wX2_init {d bc bs : Nat} {h : HS} {P : Option AV → HS → Prop} {i2 : Nat} (k : P none (sI (sI (sI (sR (sR h 19 0 0 (some (8, 0))) 19 0 1 (some (12, i2))) 19 0 2 0) 19 0 3 0) 19 0 4 (-1))) : Cl false mX2_init (d + 1) bc bs [aR 19 0, aR 8 0, aR 12 i2] h P := by
  refine Cl_of (by decide) (Nat.le_of_ble_eq_true rfl) ?_
  show V false mX2_init (d + 1) bc bs 0 [(0, aR 19 0), (1, aR 8 0), (2, aR 12 i2)] [] h P
  refine V_aload_n 0 dX2_init_0 rfl rfl ?_
  refine V_objInit dX2_init_1 lkX2_3 (Nat.le_of_ble_eq_true rfl) ?_
  refine V_aload_n 0 dX2_init_4 rfl rfl ?_
  refine V_aload_n 1 dX2_init_5 rfl rfl ?_
  refine V_putR (k := 0) (by decide) rt_19 rfl (by decide) rfl (Or.inr ⟨rfl, rfl, rfl⟩) (Or.inl rfl) dX2_init_6 lkX2_9 ?_
  refine V_aload_n 0 dX2_init_9 rfl rfl ?_
  refine V_aload_n 2 dX2_init_10 rfl rfl ?_
  refine V_putR (k := 1) (by decide) rt_19 rfl (by decide) rfl (Or.inl rfl) (Or.inl rfl) dX2_init_11 lkX2_15 ?_
  refine V_aload_n 0 dX2_init_14 rfl rfl ?_
  refine V_iconst 0 dX2_init_15 (by decide) ?_
  refine PI_19_2 dX2_init_16 lkX2_19 ?_
  refine V_aload_n 0 dX2_init_19 rfl rfl ?_
  refine V_iconst 0 dX2_init_20 (by decide) ?_
  refine PI_19_3 dX2_init_21 lkX2_23 ?_
  refine V_aload_n 0 dX2_init_24 rfl rfl ?_
  refine V_iconst (-1) dX2_init_25 (by decide) ?_
  refine PI_19_4 dX2_init_26 lkX2_26 ?_
  exact V_return dX2_init_29 rfl k
set_option maxRecDepth 20000 in
set_option maxHeartbeats 4000000 in
theorem wX4_init {d bc bs : Nat} {h : HS} {P : Option AV → HS → Prop}  (k : P none (sI (sI (sI (sI h 20 0 0 0) 20 0 1 0) 20 0 2 0) 20 0 3 0)) : Cl false mX4_init (d + 1) bc bs [aR 20 0] h P := by
  refine Cl_of (by decide) (Nat.le_of_ble_eq_true rfl) ?_
  show V false mX4_init (d + 1) bc bs 0 [(0, aR 20 0)] [] h P
  refine V_aload_n 0 dX4_init_0 rfl rfl ?_
  refine V_objInit dX4_init_1 lkX4_1 (Nat.le_of_ble_eq_true rfl) ?_
  refine V_aload_n 0 dX4_init_4 rfl rfl ?_
  refine V_iconst 0 dX4_init_5 (by decide) ?_
  refine PI_20_0 dX4_init_6 lkX4_7 ?_
  refine V_aload_n 0 dX4_init_9 rfl rfl ?_
  refine V_iconst 0 dX4_init_10 (by decide) ?_
  refine PI_20_1 dX4_init_11 lkX4_13 ?_
  refine V_aload_n 0 dX4_init_14 rfl rfl ?_
  refine V_iconst 0 dX4_init_15 (by decide) ?_
  refine PI_20_2 dX4_init_16 lkX4_16 ?_
  refine V_aload_n 0 dX4_init_19 rfl rfl ?_
  refine V_iconst 0 dX4_init_20 (by decide) ?_
  refine PI_20_3 dX4_init_21 lkX4_19 ?_
  exact V_return dX4_init_24 rfl k
set_option maxRecDepth 20000 in
set_option maxHeartbeats 4000000 in
theorem wX5_init {d bc bs : Nat} {h : HS} {P : Option AV → HS → Prop}  (k : (7, 0) ∉ h.2.2 ∧ 1 ≤ bc ∧ 400 ≤ bs ∧ (P none (sI (sR (nw h 7 0) 6 0 0 (some (7, 0))) 6 0 1 0))) : Cl false mX5_init (d + 1) bc bs [aR 6 0] h P := by
  refine Cl_of (by decide) (Nat.le_of_ble_eq_true rfl) ?_
  show V false mX5_init (d + 1) bc bs 0 [(0, aR 6 0)] [] h P
  refine V_aload_n 0 dX5_init_0 rfl rfl ?_
  refine V_objInit dX5_init_1 lkX5_3 (Nat.le_of_ble_eq_true rfl) ?_
  refine V_aload_n 0 dX5_init_4 rfl rfl ?_
  refine V_sipush 400 dX5_init_5 (by decide) ?_
  obtain ⟨kf, kb1, kb2, k⟩ := k
  refine V_newa (i := 0) (by decide) rt_7 (by decide) rfl (Or.inl rfl) dX5_init_8 ac_byte (by decide) (by decide) (by decide) kb1 kb2 kf ?_
  refine V_putR (k := 0) (by decide) rt_6 rfl (by decide) rfl (Or.inr ⟨rfl, rfl, rfl⟩) (Or.inl rfl) dX5_init_10 lkX5_9 ?_
  refine V_aload_n 0 dX5_init_13 rfl rfl ?_
  refine V_iconst 0 dX5_init_14 (by decide) ?_
  refine PI_6_1 dX5_init_15 lkX5_15 ?_
  exact V_return dX5_init_18 rfl k
set_option maxRecDepth 20000 in
set_option maxHeartbeats 4000000 in
theorem wX7_init {d bc bs : Nat} {h : HS} {P : Option AV → HS → Prop}  (k : (9, 0) ∉ h.2.2 ∧ 1 ≤ bc ∧ 401 ≤ bs ∧ ((10, 0) ∉ (sR (nw h 9 0) 8 0 0 (some (9, 0))).2.2 ∧ 1 ≤ (bc - 1) ∧ 401 ≤ (bs - 401) ∧ ((11, 0) ∉ (sR (nw (sR (nw h 9 0) 8 0 0 (some (9, 0))) 10 0) 8 0 1 (some (10, 0))).2.2 ∧ 1 ≤ ((bc - 1) - 1) ∧ 401 ≤ ((bs - 401) - 401) ∧ (P none (sI (sR (nw (sR (nw (sR (nw h 9 0) 8 0 0 (some (9, 0))) 10 0) 8 0 1 (some (10, 0))) 11 0) 8 0 2 (some (11, 0))) 8 0 3 0))))) : Cl false mX7_init (d + 1) bc bs [aR 8 0] h P := by
  refine Cl_of (by decide) (Nat.le_of_ble_eq_true rfl) ?_
  show V false mX7_init (d + 1) bc bs 0 [(0, aR 8 0)] [] h P
  refine V_aload_n 0 dX7_init_0 rfl rfl ?_
  refine V_objInit dX7_init_1 lkX7_3 (Nat.le_of_ble_eq_true rfl) ?_
  refine V_aload_n 0 dX7_init_4 rfl rfl ?_
  refine V_sipush 401 dX7_init_5 (by decide) ?_
  obtain ⟨kf, kb1, kb2, k⟩ := k
  refine V_newa (i := 0) (by decide) rt_9 (by decide) rfl (Or.inl rfl) dX7_init_8 ac_int (by decide) (by decide) (by decide) kb1 kb2 kf ?_
  refine V_putR (k := 0) (by decide) rt_8 rfl (by decide) rfl (Or.inr ⟨rfl, rfl, rfl⟩) (Or.inl rfl) dX7_init_10 lkX7_9 ?_
  refine V_aload_n 0 dX7_init_13 rfl rfl ?_
  refine V_sipush 401 dX7_init_14 (by decide) ?_
  obtain ⟨kf, kb1, kb2, k⟩ := k
  refine V_newa (i := 0) (by decide) rt_10 (by decide) rfl (Or.inl rfl) dX7_init_17 ac_int (by decide) (by decide) (by decide) kb1 kb2 kf ?_
  refine V_putR (k := 1) (by decide) rt_8 rfl (by decide) rfl (Or.inr ⟨rfl, rfl, rfl⟩) (Or.inl rfl) dX7_init_19 lkX7_15 ?_
  refine V_aload_n 0 dX7_init_22 rfl rfl ?_
  refine V_sipush 401 dX7_init_23 (by decide) ?_
  obtain ⟨kf, kb1, kb2, k⟩ := k
  refine V_newa (i := 0) (by decide) rt_11 (by decide) rfl (Or.inl rfl) dX7_init_26 ac_int (by decide) (by decide) (by decide) kb1 kb2 kf ?_
  refine V_putR (k := 2) (by decide) rt_8 rfl (by decide) rfl (Or.inr ⟨rfl, rfl, rfl⟩) (Or.inl rfl) dX7_init_28 lkX7_18 ?_
  refine V_aload_n 0 dX7_init_31 rfl rfl ?_
  refine V_iconst 0 dX7_init_32 (by decide) ?_
  refine PI_8_3 dX7_init_33 lkX7_21 ?_
  exact V_return dX7_init_36 rfl k
set_option maxRecDepth 20000 in
set_option maxHeartbeats 4000000 in
theorem wX8_init {d bc bs : Nat} {h : HS} {P : Option AV → HS → Prop}  (k : (4, 0) ∉ h.2.2 ∧ 1 ≤ bc ∧ 20 ≤ bs ∧ ((5, 0) ∉ (sR (nw h 4 0) 3 0 0 (some (4, 0))).2.2 ∧ 1 ≤ (bc - 1) ∧ 20 ≤ (bs - 20) ∧ (P none (sI (sI (sR (nw (sR (nw h 4 0) 3 0 0 (some (4, 0))) 5 0) 3 0 1 (some (5, 0))) 3 0 2 0) 3 0 3 0)))) : Cl false mX8_init (d + 1) bc bs [aR 3 0] h P := by
  refine Cl_of (by decide) (Nat.le_of_ble_eq_true rfl) ?_
  show V false mX8_init (d + 1) bc bs 0 [(0, aR 3 0)] [] h P
  refine V_aload_n 0 dX8_init_0 rfl rfl ?_
  refine V_objInit dX8_init_1 lkX8_3 (Nat.le_of_ble_eq_true rfl) ?_
  refine V_aload_n 0 dX8_init_4 rfl rfl ?_
  refine V_bipush 20 dX8_init_5 (by decide) ?_
  obtain ⟨kf, kb1, kb2, k⟩ := k
  refine V_newa (i := 0) (by decide) rt_4 (by decide) rfl (Or.inl rfl) dX8_init_7 ac_int (by decide) (by decide) (by decide) kb1 kb2 kf ?_
  refine V_putR (k := 0) (by decide) rt_3 rfl (by decide) rfl (Or.inr ⟨rfl, rfl, rfl⟩) (Or.inl rfl) dX8_init_9 lkX8_9 ?_
  refine V_aload_n 0 dX8_init_12 rfl rfl ?_
  refine V_bipush 20 dX8_init_13 (by decide) ?_
  obtain ⟨kf, kb1, kb2, k⟩ := k
  refine V_newa (i := 0) (by decide) rt_5 (by decide) rfl (Or.inl rfl) dX8_init_15 ac_boolean (by decide) (by decide) (by decide) kb1 kb2 kf ?_
  refine V_putR (k := 1) (by decide) rt_3 rfl (by decide) rfl (Or.inr ⟨rfl, rfl, rfl⟩) (Or.inl rfl) dX8_init_17 lkX8_15 ?_
  refine V_aload_n 0 dX8_init_20 rfl rfl ?_
  refine V_iconst 0 dX8_init_21 (by decide) ?_
  refine PI_3_2 dX8_init_22 lkX8_19 ?_
  refine V_aload_n 0 dX8_init_25 rfl rfl ?_
  refine V_iconst 0 dX8_init_26 (by decide) ?_
  refine PI_3_3 dX8_init_27 lkX8_23 ?_
  exact V_return dX8_init_30 rfl k
set_option maxRecDepth 20000 in
set_option maxHeartbeats 4000000 in
theorem wX9_init {d bc bs : Nat} {h : HS} {P : Option AV → HS → Prop}  (k : (1, 0) ∉ h.2.2 ∧ 1 ≤ bc ∧ 3 ≤ bs ∧ (Cl false mJx4a65c_init_da8c8 d 0 0 [aR 1 0] (nw h 1 0) (fun r1 h2 => r1 = none ∧ ((2, 0) ∉ (sR h2 0 0 0 (some (1, 0))).2.2 ∧ 1 ≤ (bc - 1) ∧ 3 ≤ (bs - 3) ∧ (Cl false mJx4a65c_init_da8c8 d 0 0 [aR 2 0] (nw (sR h2 0 0 0 (some (1, 0))) 2 0) (fun r3 h4 => r3 = none ∧ ((3, 0) ∉ (sR h4 0 0 1 (some (2, 0))).2.2 ∧ 1 ≤ ((bc - 1) - 1) ∧ 4 ≤ ((bs - 3) - 3) ∧ (2 ≤ (((bc - 1) - 1) - 1) ∧ 40 ≤ (((bs - 3) - 3) - 4) ∧ (Cl false mX8_init d 2 40 [aR 3 0] (nw (sR h4 0 0 1 (some (2, 0))) 3 0) (fun r5 h6 => r5 = none ∧ ((6, 0) ∉ (sR h6 0 0 2 (some (3, 0))).2.2 ∧ 1 ≤ (((bc - 1) - 1) - 1 - 2) ∧ 2 ≤ (((bs - 3) - 3) - 4 - 40) ∧ (1 ≤ ((((bc - 1) - 1) - 1 - 2) - 1) ∧ 400 ≤ ((((bs - 3) - 3) - 4 - 40) - 2) ∧ (Cl false mX5_init d 1 400 [aR 6 0] (nw (sR h6 0 0 2 (some (3, 0))) 6 0) (fun r7 h8 => r7 = none ∧ ((8, 0) ∉ (sR h8 0 0 3 (some (6, 0))).2.2 ∧ 1 ≤ ((((bc - 1) - 1) - 1 - 2) - 1 - 1) ∧ 4 ≤ ((((bs - 3) - 3) - 4 - 40) - 2 - 400) ∧ (3 ≤ (((((bc - 1) - 1) - 1 - 2) - 1 - 1) - 1) ∧ 1203 ≤ (((((bs - 3) - 3) - 4 - 40) - 2 - 400) - 4) ∧ (Cl false mX7_init d 3 1203 [aR 8 0] (nw (sR h8 0 0 3 (some (6, 0))) 8 0) (fun r9 h10 => r9 = none ∧ ((12, 0) ∉ (sR h10 0 0 4 (some (8, 0))).2.2 ∧ 1 ≤ (((((bc - 1) - 1) - 1 - 2) - 1 - 1) - 1 - 3) ∧ 9 ≤ (((((bs - 3) - 3) - 4 - 40) - 2 - 400) - 4 - 1203) ∧ (6 ≤ ((((((bc - 1) - 1) - 1 - 2) - 1 - 1) - 1 - 3) - 1) ∧ 888 ≤ ((((((bs - 3) - 3) - 4 - 40) - 2 - 400) - 4 - 1203) - 9) ∧ (Cl false mX1_init d 6 888 [aR 12 0] (nw (sR h10 0 0 4 (some (8, 0))) 12 0) (fun r11 h12 => r11 = none ∧ ((12, 1) ∉ (sR h12 0 0 8 (some (12, 0))).2.2 ∧ 1 ≤ ((((((bc - 1) - 1) - 1 - 2) - 1 - 1) - 1 - 3) - 1 - 6) ∧ 9 ≤ ((((((bs - 3) - 3) - 4 - 40) - 2 - 400) - 4 - 1203) - 9 - 888) ∧ (6 ≤ (((((((bc - 1) - 1) - 1 - 2) - 1 - 1) - 1 - 3) - 1 - 6) - 1) ∧ 888 ≤ (((((((bs - 3) - 3) - 4 - 40) - 2 - 400) - 4 - 1203) - 9 - 888) - 9) ∧ (Cl false mX1_init d 6 888 [aR 12 1] (nw (sR h12 0 0 8 (some (12, 0))) 12 1) (fun r13 h14 => r13 = none ∧ ((19, 0) ∉ (sR h14 0 0 9 (some (12, 1))).2.2 ∧ 1 ≤ (((((((bc - 1) - 1) - 1 - 2) - 1 - 1) - 1 - 3) - 1 - 6) - 1 - 6) ∧ 5 ≤ (((((((bs - 3) - 3) - 4 - 40) - 2 - 400) - 4 - 1203) - 9 - 888) - 9 - 888) ∧ (gR (nw (sR h14 0 0 9 (some (12, 1))) 19 0) 0 0 4 = some (8, 0) ∧ (∃ t15, gR (nw (sR h14 0 0 9 (some (12, 1))) 19 0) 0 0 9 = some (12, t15) ∧ (Cl false mX2_init d 0 0 [aR 19 0, aR 8 0, aR 12 t15] (nw (sR h14 0 0 9 (some (12, 1))) 19 0) (fun r16 h17 => r16 = none ∧ ((20, 0) ∉ (sR h17 0 0 5 (some (19, 0))).2.2 ∧ 1 ≤ ((((((((bc - 1) - 1) - 1 - 2) - 1 - 1) - 1 - 3) - 1 - 6) - 1 - 6) - 1) ∧ 4 ≤ ((((((((bs - 3) - 3) - 4 - 40) - 2 - 400) - 4 - 1203) - 9 - 888) - 9 - 888) - 5) ∧ (Cl false mX4_init d 0 0 [aR 20 0] (nw (sR h17 0 0 5 (some (19, 0))) 20 0) (fun r18 h19 => r18 = none ∧ ((21, 0) ∉ (sR h19 0 0 6 (some (20, 0))).2.2 ∧ 1 ≤ (((((((((bc - 1) - 1) - 1 - 2) - 1 - 1) - 1 - 3) - 1 - 6) - 1 - 6) - 1) - 1) ∧ 6 ≤ (((((((((bs - 3) - 3) - 4 - 40) - 2 - 400) - 4 - 1203) - 9 - 888) - 9 - 888) - 5) - 4) ∧ (4 ≤ ((((((((((bc - 1) - 1) - 1 - 2) - 1 - 1) - 1 - 3) - 1 - 6) - 1 - 6) - 1) - 1) - 1) ∧ 24 ≤ ((((((((((bs - 3) - 3) - 4 - 40) - 2 - 400) - 4 - 1203) - 9 - 888) - 9 - 888) - 5) - 4) - 6) ∧ (Cl false mX0_init d 4 24 [aR 21 0] (nw (sR h19 0 0 6 (some (20, 0))) 21 0) (fun r20 h21 => r20 = none ∧ (P none (sI (sR h21 0 0 7 (some (21, 0))) 0 0 10 0)))))))))))))))))))))))))))))))))))))))) : Cl false mX9_init (d + 1) bc bs [aR 0 0] h P := by
  refine Cl_of (by decide) (Nat.le_of_ble_eq_true rfl) ?_
  show V false mX9_init (d + 1) bc bs 0 [(0, aR 0 0)] [] h P
  refine V_aload_n 0 dX9_init_0 rfl rfl ?_
  refine V_objInit dX9_init_1 lkX9_3 (Nat.le_of_ble_eq_true rfl) ?_
  refine V_aload_n 0 dX9_init_4 rfl rfl ?_
  obtain ⟨kf, kb1, kb2, k⟩ := k
  refine V_new (i := 0) (by decide) rt_1 rfl (Or.inl rfl) dX9_init_5 lkX9_9 (gwm 79 (by decide +kernel) (by decide +kernel)) (gwm 50 (by decide +kernel) (by decide +kernel)) kb1 kb2 kf ?_
  refine V_dup dX9_init_8 rfl ?_
  refine V_callI0 (as := []) (st := [aR 1 0, aR 0 0]) dX9_init_9 okJx4a65c_init_da8c8 rfl rfl inJx4a65c_init_da8c8 lkX9_11 rfl (Nat.le_of_ble_eq_true rfl) (Cl.mono (fun r1 h2 z => ?_) k)
  obtain ⟨rfl, k⟩ := z
  refine V_putR (k := 0) (by decide) rt_0 rfl (by decide) rfl (Or.inr ⟨rfl, rfl, rfl⟩) (Or.inl rfl) dX9_init_12 lkX9_12 ?_
  refine V_aload_n 0 dX9_init_15 rfl rfl ?_
  obtain ⟨kf, kb1, kb2, k⟩ := k
  refine V_new (i := 0) (by decide) rt_2 rfl (Or.inl rfl) dX9_init_16 lkX9_9 (gwm 79 (by decide +kernel) (by decide +kernel)) (gwm 50 (by decide +kernel) (by decide +kernel)) kb1 kb2 kf ?_
  refine V_dup dX9_init_19 rfl ?_
  refine V_callI0 (as := []) (st := [aR 2 0, aR 0 0]) dX9_init_20 okJx4a65c_init_da8c8 rfl rfl inJx4a65c_init_da8c8 lkX9_11 rfl (Nat.le_of_ble_eq_true rfl) (Cl.mono (fun r3 h4 z => ?_) k)
  obtain ⟨rfl, k⟩ := z
  refine V_putR (k := 1) (by decide) rt_0 rfl (by decide) rfl (Or.inr ⟨rfl, rfl, rfl⟩) (Or.inl rfl) dX9_init_23 lkX9_16 ?_
  refine V_aload_n 0 dX9_init_26 rfl rfl ?_
  obtain ⟨kf, kb1, kb2, k⟩ := k
  refine V_new (i := 0) (by decide) rt_3 rfl (Or.inl rfl) dX9_init_27 lkX9_19 (gwm 105 (by decide +kernel) (by decide +kernel)) (gwm 51 (by decide +kernel) (by decide +kernel)) kb1 kb2 kf ?_
  refine V_dup dX9_init_30 rfl ?_
  obtain ⟨kb1, kb2, k⟩ := k
  refine V_callI (mc := 2) (ms := 40) (as := []) (st := [aR 3 0, aR 0 0]) dX9_init_31 okX8_init rfl rfl inX8_init lkX9_21 rfl (Nat.le_of_ble_eq_true rfl) kb1 kb2 (Cl.mono (fun r5 h6 z => ?_) k)
  obtain ⟨rfl, k⟩ := z
  refine V_putR (k := 2) (by decide) rt_0 rfl (by decide) rfl (Or.inr ⟨rfl, rfl, rfl⟩) (Or.inl rfl) dX9_init_34 lkX9_22 ?_
  refine V_aload_n 0 dX9_init_37 rfl rfl ?_
  obtain ⟨kf, kb1, kb2, k⟩ := k
  refine V_new (i := 0) (by decide) rt_6 rfl (Or.inl rfl) dX9_init_38 lkX9_26 (gwm 127 (by decide +kernel) (by decide +kernel)) (gwm 52 (by decide +kernel) (by decide +kernel)) kb1 kb2 kf ?_
  refine V_dup dX9_init_41 rfl ?_
  obtain ⟨kb1, kb2, k⟩ := k
  refine V_callI (mc := 1) (ms := 400) (as := []) (st := [aR 6 0, aR 0 0]) dX9_init_42 okX5_init rfl rfl inX5_init lkX9_28 rfl (Nat.le_of_ble_eq_true rfl) kb1 kb2 (Cl.mono (fun r7 h8 z => ?_) k)
  obtain ⟨rfl, k⟩ := z
  refine V_putR (k := 3) (by decide) rt_0 rfl (by decide) rfl (Or.inr ⟨rfl, rfl, rfl⟩) (Or.inl rfl) dX9_init_45 lkX9_29 ?_
  refine V_aload_n 0 dX9_init_48 rfl rfl ?_
  obtain ⟨kf, kb1, kb2, k⟩ := k
  refine V_new (i := 0) (by decide) rt_8 rfl (Or.inl rfl) dX9_init_49 lkX9_33 (gwm 143 (by decide +kernel) (by decide +kernel)) (gwm 53 (by decide +kernel) (by decide +kernel)) kb1 kb2 kf ?_
  refine V_dup dX9_init_52 rfl ?_
  obtain ⟨kb1, kb2, k⟩ := k
  refine V_callI (mc := 3) (ms := 1203) (as := []) (st := [aR 8 0, aR 0 0]) dX9_init_53 okX7_init rfl rfl inX7_init lkX9_35 rfl (Nat.le_of_ble_eq_true rfl) kb1 kb2 (Cl.mono (fun r9 h10 z => ?_) k)
  obtain ⟨rfl, k⟩ := z
  refine V_putR (k := 4) (by decide) rt_0 rfl (by decide) rfl (Or.inr ⟨rfl, rfl, rfl⟩) (Or.inl rfl) dX9_init_56 lkX9_36 ?_
  refine V_aload_n 0 dX9_init_59 rfl rfl ?_
  obtain ⟨kf, kb1, kb2, k⟩ := k
  refine V_new (i := 0) (by decide) rt_12 rfl (Or.inl rfl) dX9_init_60 lkX9_40 (gwm 166 (by decide +kernel) (by decide +kernel)) (gwm 54 (by decide +kernel) (by decide +kernel)) kb1 kb2 kf ?_
  refine V_dup dX9_init_63 rfl ?_
  obtain ⟨kb1, kb2, k⟩ := k
  refine V_callI (mc := 6) (ms := 888) (as := []) (st := [aR 12 0, aR 0 0]) dX9_init_64 okX1_init rfl rfl inX1_init lkX9_42 rfl (Nat.le_of_ble_eq_true rfl) kb1 kb2 (Cl.mono (fun r11 h12 z => ?_) k)
  obtain ⟨rfl, k⟩ := z
  refine V_putR (k := 8) (by decide) rt_0 rfl (by decide) rfl (Or.inl rfl) (Or.inl rfl) dX9_init_67 lkX9_43 ?_
  refine V_aload_n 0 dX9_init_70 rfl rfl ?_
  obtain ⟨kf, kb1, kb2, k⟩ := k
  refine V_new (i := 1) (by decide) rt_12 rfl (Or.inl rfl) dX9_init_71 lkX9_40 (gwm 166 (by decide +kernel) (by decide +kernel)) (gwm 54 (by decide +kernel) (by decide +kernel)) kb1 kb2 kf ?_
  refine V_dup dX9_init_74 rfl ?_
  obtain ⟨kb1, kb2, k⟩ := k
  refine V_callI (mc := 6) (ms := 888) (as := []) (st := [aR 12 1, aR 0 0]) dX9_init_75 okX1_init rfl rfl inX1_init lkX9_42 rfl (Nat.le_of_ble_eq_true rfl) kb1 kb2 (Cl.mono (fun r13 h14 z => ?_) k)
  obtain ⟨rfl, k⟩ := z
  refine V_putR (k := 9) (by decide) rt_0 rfl (by decide) rfl (Or.inl rfl) (Or.inl rfl) dX9_init_78 lkX9_47 ?_
  refine V_aload_n 0 dX9_init_81 rfl rfl ?_
  obtain ⟨kf, kb1, kb2, k⟩ := k
  refine V_new (i := 0) (by decide) rt_19 rfl (Or.inl rfl) dX9_init_82 lkX9_50 (gwm 202 (by decide +kernel) (by decide +kernel)) (gwm 55 (by decide +kernel) (by decide +kernel)) kb1 kb2 kf ?_
  refine V_dup dX9_init_85 rfl ?_
  refine V_aload_n 0 dX9_init_86 rfl rfl ?_
  refine V_getR (k := 4) (some (8, 0)) (by decide) rt_0 rfl (by decide) rfl dX9_init_87 lkX9_36 k.1 ?_
  replace k := k.2
  refine V_aload_n 0 dX9_init_90 rfl rfl ?_
  obtain ⟨t15, kg, k⟩ := k
  refine V_getR (k := 9) (some (12, t15)) (by decide) rt_0 rfl (by decide) rfl dX9_init_91 lkX9_47 kg ?_
  refine V_callI0 (as := [aR 8 0, aR 12 t15]) (st := [aR 19 0, aR 0 0]) dX9_init_94 okX2_init rfl rfl inX2_init lkX9_52 rfl (Nat.le_of_ble_eq_true rfl) (Cl.mono (fun r16 h17 z => ?_) k)
  obtain ⟨rfl, k⟩ := z
  refine V_putR (k := 5) (by decide) rt_0 rfl (by decide) rfl (Or.inr ⟨rfl, rfl, rfl⟩) (Or.inl rfl) dX9_init_97 lkX9_55 ?_
  refine V_aload_n 0 dX9_init_100 rfl rfl ?_
  obtain ⟨kf, kb1, kb2, k⟩ := k
  refine V_new (i := 0) (by decide) rt_20 rfl (Or.inl rfl) dX9_init_101 lkX9_59 (gwm 226 (by decide +kernel) (by decide +kernel)) (gwm 56 (by decide +kernel) (by decide +kernel)) kb1 kb2 kf ?_
  refine V_dup dX9_init_104 rfl ?_
  refine V_callI0 (as := []) (st := [aR 20 0, aR 0 0]) dX9_init_105 okX4_init rfl rfl inX4_init lkX9_61 rfl (Nat.le_of_ble_eq_true rfl) (Cl.mono (fun r18 h19 z => ?_) k)
  obtain ⟨rfl, k⟩ := z
  refine V_putR (k := 6) (by decide) rt_0 rfl (by decide) rfl (Or.inr ⟨rfl, rfl, rfl⟩) (Or.inl rfl) dX9_init_108 lkX9_62 ?_
  refine V_aload_n 0 dX9_init_111 rfl rfl ?_
  obtain ⟨kf, kb1, kb2, k⟩ := k
  refine V_new (i := 0) (by decide) rt_21 rfl (Or.inl rfl) dX9_init_112 lkX9_66 (gwm 248 (by decide +kernel) (by decide +kernel)) (gwm 57 (by decide +kernel) (by decide +kernel)) kb1 kb2 kf ?_
  refine V_dup dX9_init_115 rfl ?_
  obtain ⟨kb1, kb2, k⟩ := k
  refine V_callI (mc := 4) (ms := 24) (as := []) (st := [aR 21 0, aR 0 0]) dX9_init_116 okX0_init rfl rfl inX0_init lkX9_68 rfl (Nat.le_of_ble_eq_true rfl) kb1 kb2 (Cl.mono (fun r20 h21 z => ?_) k)
  obtain ⟨rfl, k⟩ := z
  refine V_putR (k := 7) (by decide) rt_0 rfl (by decide) rfl (Or.inr ⟨rfl, rfl, rfl⟩) (Or.inl rfl) dX9_init_119 lkX9_69 ?_
  refine V_aload_n 0 dX9_init_122 rfl rfl ?_
  refine V_iconst 0 dX9_init_123 (by decide) ?_
  refine PI_0_10 dX9_init_124 lkX9_73 ?_
  exact V_return dX9_init_127 rfl k
set_option maxRecDepth 20000 in
set_option maxHeartbeats 4000000 in
theorem wX10_init {d bc bs : Nat} {h : HS} {P : Option AV → HS → Prop}  (k : (27, 0) ∉ h.2.2 ∧ 1 ≤ bc ∧ 4368 ≤ bs ∧ ((28, 0) ∉ (sR (nw h 27 0) 26 0 3 (some (27, 0))).2.2 ∧ 1 ≤ (bc - 1) ∧ 12 ≤ (bs - 4368) ∧ ((29, 0) ∉ (sR (nw (sR (nw h 27 0) 26 0 3 (some (27, 0))) 28 0) 26 0 4 (some (28, 0))).2.2 ∧ 1 ≤ ((bc - 1) - 1) ∧ 12 ≤ ((bs - 4368) - 12) ∧ ((30, 0) ∉ (sR (nw (sR (nw (sR (nw h 27 0) 26 0 3 (some (27, 0))) 28 0) 26 0 4 (some (28, 0))) 29 0) 26 0 5 (some (29, 0))).2.2 ∧ 1 ≤ (((bc - 1) - 1) - 1) ∧ 12 ≤ (((bs - 4368) - 12) - 12) ∧ ((31, 0) ∉ (sR (nw (sR (nw (sR (nw (sR (nw h 27 0) 26 0 3 (some (27, 0))) 28 0) 26 0 4 (some (28, 0))) 29 0) 26 0 5 (some (29, 0))) 30 0) 26 0 6 (some (30, 0))).2.2 ∧ 1 ≤ ((((bc - 1) - 1) - 1) - 1) ∧ 12 ≤ ((((bs - 4368) - 12) - 12) - 12) ∧ ((32, 0) ∉ (sR (nw (sR (nw (sR (nw (sR (nw (sR (nw h 27 0) 26 0 3 (some (27, 0))) 28 0) 26 0 4 (some (28, 0))) 29 0) 26 0 5 (some (29, 0))) 30 0) 26 0 6 (some (30, 0))) 31 0) 26 0 7 (some (31, 0))).2.2 ∧ 1 ≤ (((((bc - 1) - 1) - 1) - 1) - 1) ∧ 120 ≤ (((((bs - 4368) - 12) - 12) - 12) - 12) ∧ ((33, 0) ∉ (sR (nw (sR (nw (sR (nw (sR (nw (sR (nw (sR (nw h 27 0) 26 0 3 (some (27, 0))) 28 0) 26 0 4 (some (28, 0))) 29 0) 26 0 5 (some (29, 0))) 30 0) 26 0 6 (some (30, 0))) 31 0) 26 0 7 (some (31, 0))) 32 0) 26 0 8 (some (32, 0))).2.2 ∧ 1 ≤ ((((((bc - 1) - 1) - 1) - 1) - 1) - 1) ∧ 120 ≤ ((((((bs - 4368) - 12) - 12) - 12) - 12) - 120) ∧ ((34, 0) ∉ (sR (nw (sR (nw (sR (nw (sR (nw (sR (nw (sR (nw (sR (nw h 27 0) 26 0 3 (some (27, 0))) 28 0) 26 0 4 (some (28, 0))) 29 0) 26 0 5 (some (29, 0))) 30 0) 26 0 6 (some (30, 0))) 31 0) 26 0 7 (some (31, 0))) 32 0) 26 0 8 (some (32, 0))) 33 0) 26 0 9 (some (33, 0))).2.2 ∧ 1 ≤ (((((((bc - 1) - 1) - 1) - 1) - 1) - 1) - 1) ∧ 120 ≤ (((((((bs - 4368) - 12) - 12) - 12) - 12) - 120) - 120) ∧ ((35, 0) ∉ (sR (nw (sR (nw (sR (nw (sR (nw (sR (nw (sR (nw (sR (nw (sR (nw h 27 0) 26 0 3 (some (27, 0))) 28 0) 26 0 4 (some (28, 0))) 29 0) 26 0 5 (some (29, 0))) 30 0) 26 0 6 (some (30, 0))) 31 0) 26 0 7 (some (31, 0))) 32 0) 26 0 8 (some (32, 0))) 33 0) 26 0 9 (some (33, 0))) 34 0) 26 0 10 (some (34, 0))).2.2 ∧ 1 ≤ ((((((((bc - 1) - 1) - 1) - 1) - 1) - 1) - 1) - 1) ∧ 120 ≤ ((((((((bs - 4368) - 12) - 12) - 12) - 12) - 120) - 120) - 120) ∧ ((36, 0) ∉ (sR (nw (sR (nw (sR (nw (sR (nw (sR (nw (sR (nw (sR (nw (sR (nw (sR (nw h 27 0) 26 0 3 (some (27, 0))) 28 0) 26 0 4 (some (28, 0))) 29 0) 26 0 5 (some (29, 0))) 30 0) 26 0 6 (some (30, 0))) 31 0) 26 0 7 (some (31, 0))) 32 0) 26 0 8 (some (32, 0))) 33 0) 26 0 9 (some (33, 0))) 34 0) 26 0 10 (some (34, 0))) 35 0) 26 0 11 (some (35, 0))).2.2 ∧ 1 ≤ (((((((((bc - 1) - 1) - 1) - 1) - 1) - 1) - 1) - 1) - 1) ∧ 120 ≤ (((((((((bs - 4368) - 12) - 12) - 12) - 12) - 120) - 120) - 120) - 120) ∧ ((37, 0) ∉ (sR (nw (sR (nw (sR (nw (sR (nw (sR (nw (sR (nw (sR (nw (sR (nw (sR (nw (sR (nw h 27 0) 26 0 3 (some (27, 0))) 28 0) 26 0 4 (some (28, 0))) 29 0) 26 0 5 (some (29, 0))) 30 0) 26 0 6 (some (30, 0))) 31 0) 26 0 7 (some (31, 0))) 32 0) 26 0 8 (some (32, 0))) 33 0) 26 0 9 (some (33, 0))) 34 0) 26 0 10 (some (34, 0))) 35 0) 26 0 11 (some (35, 0))) 36 0) 26 0 12 (some (36, 0))).2.2 ∧ 1 ≤ ((((((((((bc - 1) - 1) - 1) - 1) - 1) - 1) - 1) - 1) - 1) - 1) ∧ 120 ≤ ((((((((((bs - 4368) - 12) - 12) - 12) - 12) - 120) - 120) - 120) - 120) - 120) ∧ ((38, 0) ∉ (sR (nw (sR (nw (sR (nw (sR (nw (sR (nw (sR (nw (sR (nw (sR (nw (sR (nw (sR (nw (sR (nw h 27 0) 26 0 3 (some (27, 0))) 28 0) 26 0 4 (some (28, 0))) 29 0) 26 0 5 (some (29, 0))) 30 0) 26 0 6 (some (30, 0))) 31 0) 26 0 7 (some (31, 0))) 32 0) 26 0 8 (some (32, 0))) 33 0) 26 0 9 (some (33, 0))) 34 0) 26 0 10 (some (34, 0))) 35 0) 26 0 11 (some (35, 0))) 36 0) 26 0 12 (some (36, 0))) 37 0) 26 0 13 (some (37, 0))).2.2 ∧ 1 ≤ (((((((((((bc - 1) - 1) - 1) - 1) - 1) - 1) - 1) - 1) - 1) - 1) - 1) ∧ 120 ≤ (((((((((((bs - 4368) - 12) - 12) - 12) - 12) - 120) - 120) - 120) - 120) - 120) - 120) ∧ ((39, 0) ∉ (sR (nw (sR (nw (sR (nw (sR (nw (sR (nw (sR (nw (sR (nw (sR (nw (sR (nw (sR (nw (sR (nw (sR (nw h 27 0) 26 0 3 (some (27, 0))) 28 0) 26 0 4 (some (28, 0))) 29 0) 26 0 5 (some (29, 0))) 30 0) 26 0 6 (some (30, 0))) 31 0) 26 0 7 (some (31, 0))) 32 0) 26 0 8 (some (32, 0))) 33 0) 26 0 9 (some (33, 0))) 34 0) 26 0 10 (some (34, 0))) 35 0) 26 0 11 (some (35, 0))) 36 0) 26 0 12 (some (36, 0))) 37 0) 26 0 13 (some (37, 0))) 38 0) 26 0 14 (some (38, 0))).2.2 ∧ 1 ≤ ((((((((((((bc - 1) - 1) - 1) - 1) - 1) - 1) - 1) - 1) - 1) - 1) - 1) - 1) ∧ 120 ≤ ((((((((((((bs - 4368) - 12) - 12) - 12) - 12) - 120) - 120) - 120) - 120) - 120) - 120) - 120) ∧ ((40, 0) ∉ (sR (nw (sR (nw (sR (nw (sR (nw (sR (nw (sR (nw (sR (nw (sR (nw (sR (nw (sR (nw (sR (nw (sR (nw (sR (nw h 27 0) 26 0 3 (some (27, 0))) 28 0) 26 0 4 (some (28, 0))) 29 0) 26 0 5 (some (29, 0))) 30 0) 26 0 6 (some (30, 0))) 31 0) 26 0 7 (some (31, 0))) 32 0) 26 0 8 (some (32, 0))) 33 0) 26 0 9 (some (33, 0))) 34 0) 26 0 10 (some (34, 0))) 35 0) 26 0 11 (some (35, 0))) 36 0) 26 0 12 (some (36, 0))) 37 0) 26 0 13 (some (37, 0))) 38 0) 26 0 14 (some (38, 0))) 39 0) 26 0 15 (some (39, 0))).2.2 ∧ 1 ≤ (((((((((((((bc - 1) - 1) - 1) - 1) - 1) - 1) - 1) - 1) - 1) - 1) - 1) - 1) - 1) ∧ 120 ≤ (((((((((((((bs - 4368) - 12) - 12) - 12) - 12) - 120) - 120) - 120) - 120) - 120) - 120) - 120) - 120) ∧ ((41, 0) ∉ (sR (nw (sR (nw (sR (nw (sR (nw (sR (nw (sR (nw (sR (nw (sR (nw (sR (nw (sR (nw (sR (nw (sR (nw (sR (nw (sR (nw h 27 0) 26 0 3 (some (27, 0))) 28 0) 26 0 4 (some (28, 0))) 29 0) 26 0 5 (some (29, 0))) 30 0) 26 0 6 (some (30, 0))) 31 0) 26 0 7 (some (31, 0))) 32 0) 26 0 8 (some (32, 0))) 33 0) 26 0 9 (some (33, 0))) 34 0) 26 0 10 (some (34, 0))) 35 0) 26 0 11 (some (35, 0))) 36 0) 26 0 12 (some (36, 0))) 37 0) 26 0 13 (some (37, 0))) 38 0) 26 0 14 (some (38, 0))) 39 0) 26 0 15 (some (39, 0))) 40 0) 26 0 16 (some (40, 0))).2.2 ∧ 1 ≤ ((((((((((((((bc - 1) - 1) - 1) - 1) - 1) - 1) - 1) - 1) - 1) - 1) - 1) - 1) - 1) - 1) ∧ 120 ≤ ((((((((((((((bs - 4368) - 12) - 12) - 12) - 12) - 120) - 120) - 120) - 120) - 120) - 120) - 120) - 120) - 120) ∧ ((42, 0) ∉ (sR (nw (sR (nw (sR (nw (sR (nw (sR (nw (sR (nw (sR (nw (sR (nw (sR (nw (sR (nw (sR (nw (sR (nw (sR (nw (sR (nw (sR (nw h 27 0) 26 0 3 (some (27, 0))) 28 0) 26 0 4 (some (28, 0))) 29 0) 26 0 5 (some (29, 0))) 30 0) 26 0 6 (some (30, 0))) 31 0) 26 0 7 (some (31, 0))) 32 0) 26 0 8 (some (32, 0))) 33 0) 26 0 9 (some (33, 0))) 34 0) 26 0 10 (some (34, 0))) 35 0) 26 0 11 (some (35, 0))) 36 0) 26 0 12 (some (36, 0))) 37 0) 26 0 13 (some (37, 0))) 38 0) 26 0 14 (some (38, 0))) 39 0) 26 0 15 (some (39, 0))) 40 0) 26 0 16 (some (40, 0))) 41 0) 26 0 17 (some (41, 0))).2.2 ∧ 1 ≤ (((((((((((((((bc - 1) - 1) - 1) - 1) - 1) - 1) - 1) - 1) - 1) - 1) - 1) - 1) - 1) - 1) - 1) ∧ 120 ≤ (((((((((((((((bs - 4368) - 12) - 12) - 12) - 12) - 120) - 120) - 120) - 120) - 120) - 120) - 120) - 120) - 120) - 120) ∧ ((43, 0) ∉ (sR (nw (sR (nw (sR (nw (sR (nw (sR (nw (sR (nw (sR (nw (sR (nw (sR (nw (sR (nw (sR (nw (sR (nw (sR (nw (sR (nw (sR (nw (sR (nw h 27 0) 26 0 3 (some (27, 0))) 28 0) 26 0 4 (some (28, 0))) 29 0) 26 0 5 (some (29, 0))) 30 0) 26 0 6 (some (30, 0))) 31 0) 26 0 7 (some (31, 0))) 32 0) 26 0 8 (some (32, 0))) 33 0) 26 0 9 (some (33, 0))) 34 0) 26 0 10 (some (34, 0))) 35 0) 26 0 11 (some (35, 0))) 36 0) 26 0 12 (some (36, 0))) 37 0) 26 0 13 (some (37, 0))) 38 0) 26 0 14 (some (38, 0))) 39 0) 26 0 15 (some (39, 0))) 40 0) 26 0 16 (some (40, 0))) 41 0) 26 0 17 (some (41, 0))) 42 0) 26 0 18 (some (42, 0))).2.2 ∧ 1 ≤ ((((((((((((((((bc - 1) - 1) - 1) - 1) - 1) - 1) - 1) - 1) - 1) - 1) - 1) - 1) - 1) - 1) - 1) - 1) ∧ 120 ≤ ((((((((((((((((bs - 4368) - 12) - 12) - 12) - 12) - 120) - 120) - 120) - 120) - 120) - 120) - 120) - 120) - 120) - 120) - 120) ∧ ((44, 0) ∉ (sR (nw (sR (nw (sR (nw (sR (nw (sR (nw (sR (nw (sR (nw (sR (nw (sR (nw (sR (nw (sR (nw (sR (nw (sR (nw (sR (nw (sR (nw (sR (nw (sR (nw h 27 0) 26 0 3 (some (27, 0))) 28 0) 26 0 4 (some (28, 0))) 29 0) 26 0 5 (some (29, 0))) 30 0) 26 0 6 (some (30, 0))) 31 0) 26 0 7 (some (31, 0))) 32 0) 26 0 8 (some (32, 0))) 33 0) 26 0 9 (some (33, 0))) 34 0) 26 0 10 (some (34, 0))) 35 0) 26 0 11 (some (35, 0))) 36 0) 26 0 12 (some (36, 0))) 37 0) 26 0 13 (some (37, 0))) 38 0) 26 0 14 (some (38, 0))) 39 0) 26 0 15 (some (39, 0))) 40 0) 26 0 16 (some (40, 0))) 41 0) 26 0 17 (some (41, 0))) 42 0) 26 0 18 (some (42, 0))) 43 0) 26 0 19 (some (43, 0))).2.2 ∧ 1 ≤ (((((((((((((((((bc - 1) - 1) - 1) - 1) - 1) - 1) - 1) - 1) - 1) - 1) - 1) - 1) - 1) - 1) - 1) - 1) - 1) ∧ 20 ≤ (((((((((((((((((bs - 4368) - 12) - 12) - 12) - 12) - 120) - 120) - 120) - 120) - 120) - 120) - 120) - 120) - 120) - 120) - 120) - 120) ∧ ((45, 0) ∉ (sR (nw (sR (nw (sR (nw (sR (nw (sR (nw (sR (nw (sR (nw (sR (nw (sR (nw (sR (nw (sR (nw (sR (nw (sR (nw (sR (nw (sR (nw (sR (nw (sR (nw (sR (nw h 27 0) 26 0 3 (some (27, 0))) 28 0) 26 0 4 (some (28, 0))) 29 0) 26 0 5 (some (29, 0))) 30 0) 26 0 6 (some (30, 0))) 31 0) 26 0 7 (some (31, 0))) 32 0) 26 0 8 (some (32, 0))) 33 0) 26 0 9 (some (33, 0))) 34 0) 26 0 10 (some (34, 0))) 35 0) 26 0 11 (some (35, 0))) 36 0) 26 0 12 (some (36, 0))) 37 0) 26 0 13 (some (37, 0))) 38 0) 26 0 14 (some (38, 0))) 39 0) 26 0 15 (some (39, 0))) 40 0) 26 0 16 (some (40, 0))) 41 0) 26 0 17 (some (41, 0))) 42 0) 26 0 18 (some (42, 0))) 43 0) 26 0 19 (some (43, 0))) 44 0) 26 0 22 (some (44, 0))).2.2 ∧ 1 ≤ ((((((((((((((((((bc - 1) - 1) - 1) - 1) - 1) - 1) - 1) - 1) - 1) - 1) - 1) - 1) - 1) - 1) - 1) - 1) - 1) - 1) ∧ 20 ≤ ((((((((((((((((((bs - 4368) - 12) - 12) - 12) - 12) - 120) - 120) - 120) - 120) - 120) - 120) - 120) - 120) - 120) - 120) - 120) - 120) - 20) ∧ ((46, 0) ∉ (sR (nw (sR (nw (sR (nw (sR (nw (sR (nw (sR (nw (sR (nw (sR (nw (sR (nw (sR (nw (sR (nw (sR (nw (sR (nw (sR (nw (sR (nw (sR (nw (sR (nw (sR (nw (sR (nw h 27 0) 26 0 3 (some (27, 0))) 28 0) 26 0 4 (some (28, 0))) 29 0) 26 0 5 (some (29, 0))) 30 0) 26 0 6 (some (30, 0))) 31 0) 26 0 7 (some (31, 0))) 32 0) 26 0 8 (some (32, 0))) 33 0) 26 0 9 (some (33, 0))) 34 0) 26 0 10 (some (34, 0))) 35 0) 26 0 11 (some (35, 0))) 36 0) 26 0 12 (some (36, 0))) 37 0) 26 0 13 (some (37, 0))) 38 0) 26 0 14 (some (38, 0))) 39 0) 26 0 15 (some (39, 0))) 40 0) 26 0 16 (some (40, 0))) 41 0) 26 0 17 (some (41, 0))) 42 0) 26 0 18 (some (42, 0))) 43 0) 26 0 19 (some (43, 0))) 44 0) 26 0 22 (some (44, 0))) 45 0) 26 0 23 (some (45, 0))).2.2 ∧ 1 ≤ (((((((((((((((((((bc - 1) - 1) - 1) - 1) - 1) - 1) - 1) - 1) - 1) - 1) - 1) - 1) - 1) - 1) - 1) - 1) - 1) - 1) - 1) ∧ 9 ≤ (((((((((((((((((((bs - 4368) - 12) - 12) - 12) - 12) - 120) - 120) - 120) - 120) - 120) - 120) - 120) - 120) - 120) - 120) - 120) - 120) - 20) - 20) ∧ ((47, 0) ∉ (sR (nw (sR (nw (sR (nw (sR (nw (sR (nw (sR (nw (sR (nw (sR (nw (sR (nw (sR (nw (sR (nw (sR (nw (sR (nw (sR (nw (sR (nw (sR (nw (sR (nw (sR (nw (sR (nw (sR (nw h 27 0) 26 0 3 (some (27, 0))) 28 0) 26 0 4 (some (28, 0))) 29 0) 26 0 5 (some (29, 0))) 30 0) 26 0 6 (some (30, 0))) 31 0) 26 0 7 (some (31, 0))) 32 0) 26 0 8 (some (32, 0))) 33 0) 26 0 9 (some (33, 0))) 34 0) 26 0 10 (some (34, 0))) 35 0) 26 0 11 (some (35, 0))) 36 0) 26 0 12 (some (36, 0))) 37 0) 26 0 13 (some (37, 0))) 38 0) 26 0 14 (some (38, 0))) 39 0) 26 0 15 (some (39, 0))) 40 0) 26 0 16 (some (40, 0))) 41 0) 26 0 17 (some (41, 0))) 42 0) 26 0 18 (some (42, 0))) 43 0) 26 0 19 (some (43, 0))) 44 0) 26 0 22 (some (44, 0))) 45 0) 26 0 23 (some (45, 0))) 46 0) 26 0 27 (some (46, 0))).2.2 ∧ 1 ≤ ((((((((((((((((((((bc - 1) - 1) - 1) - 1) - 1) - 1) - 1) - 1) - 1) - 1) - 1) - 1) - 1) - 1) - 1) - 1) - 1) - 1) - 1) - 1) ∧ 8 ≤ ((((((((((((((((((((bs - 4368) - 12) - 12) - 12) - 12) - 120) - 120) - 120) - 120) - 120) - 120) - 120) - 120) - 120) - 120) - 120) - 120) - 20) - 20) - 9) ∧ ((48, 0) ∉ (sR (nw (sR (nw (sR (nw (sR (nw (sR (nw (sR (nw (sR (nw (sR (nw (sR (nw (sR (nw (sR (nw (sR (nw (sR (nw (sR (nw (sR (nw (sR (nw (sR (nw (sR (nw (sR (nw (sR (nw (sR (nw h 27 0) 26 0 3 (some (27, 0))) 28 0) 26 0 4 (some (28, 0))) 29 0) 26 0 5 (some (29, 0))) 30 0) 26 0 6 (some (30, 0))) 31 0) 26 0 7 (some (31, 0))) 32 0) 26 0 8 (some (32, 0))) 33 0) 26 0 9 (some (33, 0))) 34 0) 26 0 10 (some (34, 0))) 35 0) 26 0 11 (some (35, 0))) 36 0) 26 0 12 (some (36, 0))) 37 0) 26 0 13 (some (37, 0))) 38 0) 26 0 14 (some (38, 0))) 39 0) 26 0 15 (some (39, 0))) 40 0) 26 0 16 (some (40, 0))) 41 0) 26 0 17 (some (41, 0))) 42 0) 26 0 18 (some (42, 0))) 43 0) 26 0 19 (some (43, 0))) 44 0) 26 0 22 (some (44, 0))) 45 0) 26 0 23 (some (45, 0))) 46 0) 26 0 27 (some (46, 0))) 47 0) 26 0 28 (some (47, 0))).2.2 ∧ 1 ≤ (((((((((((((((((((((bc - 1) - 1) - 1) - 1) - 1) - 1) - 1) - 1) - 1) - 1) - 1) - 1) - 1) - 1) - 1) - 1) - 1) - 1) - 1) - 1) - 1) ∧ 500 ≤ (((((((((((((((((((((bs - 4368) - 12) - 12) - 12) - 12) - 120) - 120) - 120) - 120) - 120) - 120) - 120) - 120) - 120) - 120) - 120) - 120) - 20) - 20) - 9) - 8) ∧ ((49, 0) ∉ (sR (nw (sR (nw (sR (nw (sR (nw (sR (nw (sR (nw (sR (nw (sR (nw (sR (nw (sR (nw (sR (nw (sR (nw (sR (nw (sR (nw (sR (nw (sR (nw (sR (nw (sR (nw (sR (nw (sR (nw (sR (nw (sR (nw h 27 0) 26 0 3 (some (27, 0))) 28 0) 26 0 4 (some (28, 0))) 29 0) 26 0 5 (some (29, 0))) 30 0) 26 0 6 (some (30, 0))) 31 0) 26 0 7 (some (31, 0))) 32 0) 26 0 8 (some (32, 0))) 33 0) 26 0 9 (some (33, 0))) 34 0) 26 0 10 (some (34, 0))) 35 0) 26 0 11 (some (35, 0))) 36 0) 26 0 12 (some (36, 0))) 37 0) 26 0 13 (some (37, 0))) 38 0) 26 0 14 (some (38, 0))) 39 0) 26 0 15 (some (39, 0))) 40 0) 26 0 16 (some (40, 0))) 41 0) 26 0 17 (some (41, 0))) 42 0) 26 0 18 (some (42, 0))) 43 0) 26 0 19 (some (43, 0))) 44 0) 26 0 22 (some (44, 0))) 45 0) 26 0 23 (some (45, 0))) 46 0) 26 0 27 (some (46, 0))) 47 0) 26 0 28 (some (47, 0))) 48 0) 26 0 29 (some (48, 0))).2.2 ∧ 1 ≤ ((((((((((((((((((((((bc - 1) - 1) - 1) - 1) - 1) - 1) - 1) - 1) - 1) - 1) - 1) - 1) - 1) - 1) - 1) - 1) - 1) - 1) - 1) - 1) - 1) - 1) ∧ 9 ≤ ((((((((((((((((((((((bs - 4368) - 12) - 12) - 12) - 12) - 120) - 120) - 120) - 120) - 120) - 120) - 120) - 120) - 120) - 120) - 120) - 120) - 20) - 20) - 9) - 8) - 500) ∧ ((50, 0) ∉ (sR (nw (sR (nw (sR (nw (sR (nw (sR (nw (sR (nw (sR (nw (sR (nw (sR (nw (sR (nw (sR (nw (sR (nw (sR (nw (sR (nw (sR (nw (sR (nw (sR (nw (sR (nw (sR (nw (sR (nw (sR (nw (sR (nw (sR (nw h 27 0) 26 0 3 (some (27, 0))) 28 0) 26 0 4 (some (28, 0))) 29 0) 26 0 5 (some (29, 0))) 30 0) 26 0 6 (some (30, 0))) 31 0) 26 0 7 (some (31, 0))) 32 0) 26 0 8 (some (32, 0))) 33 0) 26 0 9 (some (33, 0))) 34 0) 26 0 10 (some (34, 0))) 35 0) 26 0 11 (some (35, 0))) 36 0) 26 0 12 (some (36, 0))) 37 0) 26 0 13 (some (37, 0))) 38 0) 26 0 14 (some (38, 0))) 39 0) 26 0 15 (some (39, 0))) 40 0) 26 0 16 (some (40, 0))) 41 0) 26 0 17 (some (41, 0))) 42 0) 26 0 18 (some (42, 0))) 43 0) 26 0 19 (some (43, 0))) 44 0) 26 0 22 (some (44, 0))) 45 0) 26 0 23 (some (45, 0))) 46 0) 26 0 27 (some (46, 0))) 47 0) 26 0 28 (some (47, 0))) 48 0) 26 0 29 (some (48, 0))) 49 0) 26 0 30 (some (49, 0))).2.2 ∧ 1 ≤ (((((((((((((((((((((((bc - 1) - 1) - 1) - 1) - 1) - 1) - 1) - 1) - 1) - 1) - 1) - 1) - 1) - 1) - 1) - 1) - 1) - 1) - 1) - 1) - 1) - 1) - 1) ∧ 8 ≤ (((((((((((((((((((((((bs - 4368) - 12) - 12) - 12) - 12) - 120) - 120) - 120) - 120) - 120) - 120) - 120) - 120) - 120) - 120) - 120) - 120) - 20) - 20) - 9) - 8) - 500) - 9) ∧ ((51, 0) ∉ (sR (nw (sR (nw (sR (nw (sR (nw (sR (nw (sR (nw (sR (nw (sR (nw (sR (nw (sR (nw (sR (nw (sR (nw (sR (nw (sR (nw (sR (nw (sR (nw (sR (nw (sR (nw (sR (nw (sR (nw (sR (nw (sR (nw (sR (nw (sR (nw h 27 0) 26 0 3 (some (27, 0))) 28 0) 26 0 4 (some (28, 0))) 29 0) 26 0 5 (some (29, 0))) 30 0) 26 0 6 (some (30, 0))) 31 0) 26 0 7 (some (31, 0))) 32 0) 26 0 8 (some (32, 0))) 33 0) 26 0 9 (some (33, 0))) 34 0) 26 0 10 (some (34, 0))) 35 0) 26 0 11 (some (35, 0))) 36 0) 26 0 12 (some (36, 0))) 37 0) 26 0 13 (some (37, 0))) 38 0) 26 0 14 (some (38, 0))) 39 0) 26 0 15 (some (39, 0))) 40 0) 26 0 16 (some (40, 0))) 41 0) 26 0 17 (some (41, 0))) 42 0) 26 0 18 (some (42, 0))) 43 0) 26 0 19 (some (43, 0))) 44 0) 26 0 22 (some (44, 0))) 45 0) 26 0 23 (some (45, 0))) 46 0) 26 0 27 (some (46, 0))) 47 0) 26 0 28 (some (47, 0))) 48 0) 26 0 29 (some (48, 0))) 49 0) 26 0 30 (some (49, 0))) 50 0) 26 0 31 (some (50, 0))).2.2 ∧ 1 ≤ ((((((((((((((((((((((((bc - 1) - 1) - 1) - 1) - 1) - 1) - 1) - 1) - 1) - 1) - 1) - 1) - 1) - 1) - 1) - 1) - 1) - 1) - 1) - 1) - 1) - 1) - 1) - 1) ∧ 500 ≤ ((((((((((((((((((((((((bs - 4368) - 12) - 12) - 12) - 12) - 120) - 120) - 120) - 120) - 120) - 120) - 120) - 120) - 120) - 120) - 120) - 120) - 20) - 20) - 9) - 8) - 500) - 9) - 8) ∧ ((52, 0) ∉ (sR (nw (sR (nw (sR (nw (sR (nw (sR (nw (sR (nw (sR (nw (sR (nw (sR (nw (sR (nw (sR (nw (sR (nw (sR (nw (sR (nw (sR (nw (sR (nw (sR (nw (sR (nw (sR (nw (sR (nw (sR (nw (sR (nw (sR (nw (sR (nw (sR (nw h 27 0) 26 0 3 (some (27, 0))) 28 0) 26 0 4 (some (28, 0))) 29 0) 26 0 5 (some (29, 0))) 30 0) 26 0 6 (some (30, 0))) 31 0) 26 0 7 (some (31, 0))) 32 0) 26 0 8 (some (32, 0))) 33 0) 26 0 9 (some (33, 0))) 34 0) 26 0 10 (some (34, 0))) 35 0) 26 0 11 (some (35, 0))) 36 0) 26 0 12 (some (36, 0))) 37 0) 26 0 13 (some (37, 0))) 38 0) 26 0 14 (some (38, 0))) 39 0) 26 0 15 (some (39, 0))) 40 0) 26 0 16 (some (40, 0))) 41 0) 26 0 17 (some (41, 0))) 42 0) 26 0 18 (some (42, 0))) 43 0) 26 0 19 (some (43, 0))) 44 0) 26 0 22 (some (44, 0))) 45 0) 26 0 23 (some (45, 0))) 46 0) 26 0 27 (some (46, 0))) 47 0) 26 0 28 (some (47, 0))) 48 0) 26 0 29 (some (48, 0))) 49 0) 26 0 30 (some (49, 0))) 50 0) 26 0 31 (some (50, 0))) 51 0) 26 0 32 (some (51, 0))).2.2 ∧ 1 ≤ (((((((((((((((((((((((((bc - 1) - 1) - 1) - 1) - 1) - 1) - 1) - 1) - 1) - 1) - 1) - 1) - 1) - 1) - 1) - 1) - 1) - 1) - 1) - 1) - 1) - 1) - 1) - 1) - 1) ∧ 500 ≤ (((((((((((((((((((((((((bs - 4368) - 12) - 12) - 12) - 12) - 120) - 120) - 120) - 120) - 120) - 120) - 120) - 120) - 120) - 120) - 120) - 120) - 20) - 20) - 9) - 8) - 500) - 9) - 8) - 500) ∧ ((53, 0) ∉ (sR (nw (sR (nw (sR (nw (sR (nw (sR (nw (sR (nw (sR (nw (sR (nw (sR (nw (sR (nw (sR (nw (sR (nw (sR (nw (sR (nw (sR (nw (sR (nw (sR (nw (sR (nw (sR (nw (sR (nw (sR (nw (sR (nw (sR (nw (sR (nw (sR (nw (sR (nw h 27 0) 26 0 3 (some (27, 0))) 28 0) 26 0 4 (some (28, 0))) 29 0) 26 0 5 (some (29, 0))) 30 0) 26 0 6 (some (30, 0))) 31 0) 26 0 7 (some (31, 0))) 32 0) 26 0 8 (some (32, 0))) 33 0) 26 0 9 (some (33, 0))) 34 0) 26 0 10 (some (34, 0))) 35 0) 26 0 11 (some (35, 0))) 36 0) 26 0 12 (some (36, 0))) 37 0) 26 0 13 (some (37, 0))) 38 0) 26 0 14 (some (38, 0))) 39 0) 26 0 15 (some (39, 0))) 40 0) 26 0 16 (some (40, 0))) 41 0) 26 0 17 (some (41, 0))) 42 0) 26 0 18 (some (42, 0))) 43 0) 26 0 19 (some (43, 0))) 44 0) 26 0 22 (some (44, 0))) 45 0) 26 0 23 (some (45, 0))) 46 0) 26 0 27 (some (46, 0))) 47 0) 26 0 28 (some (47, 0))) 48 0) 26 0 29 (some (48, 0))) 49 0) 26 0 30 (some (49, 0))) 50 0) 26 0 31 (some (50, 0))) 51 0) 26 0 32 (some (51, 0))) 52 0) 26 0 33 (some (52, 0))).2.2 ∧ 1 ≤ ((((((((((((((((((((((((((bc - 1) - 1) - 1) - 1) - 1) - 1) - 1) - 1) - 1) - 1) - 1) - 1) - 1) - 1) - 1) - 1) - 1) - 1) - 1) - 1) - 1) - 1) - 1) - 1) - 1) - 1) ∧ 400 ≤ ((((((((((((((((((((((((((bs - 4368) - 12) - 12) - 12) - 12) - 120) - 120) - 120) - 120) - 120) - 120) - 120) - 120) - 120) - 120) - 120) - 120) - 20) - 20) - 9) - 8) - 500) - 9) - 8) - 500) - 500) ∧ ((54, 0) ∉ (sI (sR (nw (sR (nw (sR (nw (sR (nw (sR (nw (sR (nw (sR (nw (sR (nw (sR (nw (sR (nw (sR (nw (sR (nw (sR (nw (sR (nw (sR (nw (sR (nw (sR (nw (sR (nw (sR (nw (sR (nw (sR (nw (sR (nw (sR (nw (sR (nw (sR (nw (sR (nw (sR (nw h 27 0) 26 0 3 (some (27, 0))) 28 0) 26 0 4 (some (28, 0))) 29 0) 26 0 5 (some (29, 0))) 30 0) 26 0 6 (some (30, 0))) 31 0) 26 0 7 (some (31, 0))) 32 0) 26 0 8 (some (32, 0))) 33 0) 26 0 9 (some (33, 0))) 34 0) 26 0 10 (some (34, 0))) 35 0) 26 0 11 (some (35, 0))) 36 0) 26 0 12 (some (36, 0))) 37 0) 26 0 13 (some (37, 0))) 38 0) 26 0 14 (some (38, 0))) 39 0) 26 0 15 (some (39, 0))) 40 0) 26 0 16 (some (40, 0))) 41 0) 26 0 17 (some (41, 0))) 42 0) 26 0 18 (some (42, 0))) 43 0) 26 0 19 (some (43, 0))) 44 0) 26 0 22 (some (44, 0))) 45 0) 26 0 23 (some (45, 0))) 46 0) 26 0 27 (some (46, 0))) 47 0) 26 0 28 (some (47, 0))) 48 0) 26 0 29 (some (48, 0))) 49 0) 26 0 30 (some (49, 0))) 50 0) 26 0 31 (some (50, 0))) 51 0) 26 0 32 (some (51, 0))) 52 0) 26 0 33 (some (52, 0))) 53 0) 26 0 34 (some (53, 0))) 26 0 44 (-1)).2.2 ∧ 1 ≤ (((((((((((((((((((((((((((bc - 1) - 1) - 1) - 1) - 1) - 1) - 1) - 1) - 1) - 1) - 1) - 1) - 1) - 1) - 1) - 1) - 1) - 1) - 1) - 1) - 1) - 1) - 1) - 1) - 1) - 1) - 1) ∧ 4 ≤ (((((((((((((((((((((((((((bs - 4368) - 12) - 12) - 12) - 12) - 120) - 120) - 120) - 120) - 120) - 120) - 120) - 120) - 120) - 120) - 120) - 120) - 20) - 20) - 9) - 8) - 500) - 9) - 8) - 500) - 500) - 400) ∧ ((55, 0) ∉ (sR (nw (sI (sR (nw (sR (nw (sR (nw (sR (nw (sR (nw (sR (nw (sR (nw (sR (nw (sR (nw (sR (nw (sR (nw (sR (nw (sR (nw (sR (nw (sR (nw (sR (nw (sR (nw (sR (nw (sR (nw (sR (nw (sR (nw (sR (nw (sR (nw (sR (nw (sR (nw (sR (nw (sR (nw h 27 0) 26 0 3 (some (27, 0))) 28 0) 26 0 4 (some (28, 0))) 29 0) 26 0 5 (some (29, 0))) 30 0) 26 0 6 (some (30, 0))) 31 0) 26 0 7 (some (31, 0))) 32 0) 26 0 8 (some (32, 0))) 33 0) 26 0 9 (some (33, 0))) 34 0) 26 0 10 (some (34, 0))) 35 0) 26 0 11 (some (35, 0))) 36 0) 26 0 12 (some (36, 0))) 37 0) 26 0 13 (some (37, 0))) 38 0) 26 0 14 (some (38, 0))) 39 0) 26 0 15 (some (39, 0))) 40 0) 26 0 16 (some (40, 0))) 41 0) 26 0 17 (some (41, 0))) 42 0) 26 0 18 (some (42, 0))) 43 0) 26 0 19 (some (43, 0))) 44 0) 26 0 22 (some (44, 0))) 45 0) 26 0 23 (some (45, 0))) 46 0) 26 0 27 (some (46, 0))) 47 0) 26 0 28 (some (47, 0))) 48 0) 26 0 29 (some (48, 0))) 49 0) 26 0 30 (some (49, 0))) 50 0) 26 0 31 (some (50, 0))) 51 0) 26 0 32 (some (51, 0))) 52 0) 26 0 33 (some (52, 0))) 53 0) 26 0 34 (some (53, 0))) 26 0 44 (-1)) 54 0) 26 0 49 (some (54, 0))).2.2 ∧ 1 ≤ ((((((((((((((((((((((((((((bc - 1) - 1) - 1) - 1) - 1) - 1) - 1) - 1) - 1) - 1) - 1) - 1) - 1) - 1) - 1) - 1) - 1) - 1) - 1) - 1) - 1) - 1) - 1) - 1) - 1) - 1) - 1) - 1) ∧ 4 ≤ ((((((((((((((((((((((((((((bs - 4368) - 12) - 12) - 12) - 12) - 120) - 120) - 120) - 120) - 120) - 120) - 120) - 120) - 120) - 120) - 120) - 120) - 20) - 20) - 9) - 8) - 500) - 9) - 8) - 500) - 500) - 400) - 4) ∧ ((56, 0) ∉ (sR (nw (sR (nw (sI (sR (nw (sR (nw (sR (nw (sR (nw (sR (nw (sR (nw (sR (nw (sR (nw (sR (nw (sR (nw (sR (nw (sR (nw (sR (nw (sR (nw (sR (nw (sR (nw (sR (nw (sR (nw (sR (nw (sR (nw (sR (nw (sR (nw (sR (nw (sR (nw (sR (nw (sR (nw (sR (nw h 27 0) 26 0 3 (some (27, 0))) 28 0) 26 0 4 (some (28, 0))) 29 0) 26 0 5 (some (29, 0))) 30 0) 26 0 6 (some (30, 0))) 31 0) 26 0 7 (some (31, 0))) 32 0) 26 0 8 (some (32, 0))) 33 0) 26 0 9 (some (33, 0))) 34 0) 26 0 10 (some (34, 0))) 35 0) 26 0 11 (some (35, 0))) 36 0) 26 0 12 (some (36, 0))) 37 0) 26 0 13 (some (37, 0))) 38 0) 26 0 14 (some (38, 0))) 39 0) 26 0 15 (some (39, 0))) 40 0) 26 0 16 (some (40, 0))) 41 0) 26 0 17 (some (41, 0))) 42 0) 26 0 18 (some (42, 0))) 43 0) 26 0 19 (some (43, 0))) 44 0) 26 0 22 (some (44, 0))) 45 0) 26 0 23 (some (45, 0))) 46 0) 26 0 27 (some (46, 0))) 47 0) 26 0 28 (some (47, 0))) 48 0) 26 0 29 (some (48, 0))) 49 0) 26 0 30 (some (49, 0))) 50 0) 26 0 31 (some (50, 0))) 51 0) 26 0 32 (some (51, 0))) 52 0) 26 0 33 (some (52, 0))) 53 0) 26 0 34 (some (53, 0))) 26 0 44 (-1)) 54 0) 26 0 49 (some (54, 0))) 55 0) 26 0 50 (some (55, 0))).2.2 ∧ 1 ≤ (((((((((((((((((((((((((((((bc - 1) - 1) - 1) - 1) - 1) - 1) - 1) - 1) - 1) - 1) - 1) - 1) - 1) - 1) - 1) - 1) - 1) - 1) - 1) - 1) - 1) - 1) - 1) - 1) - 1) - 1) - 1) - 1) - 1) ∧ 8 ≤ (((((((((((((((((((((((((((((bs - 4368) - 12) - 12) - 12) - 12) - 120) - 120) - 120) - 120) - 120) - 120) - 120) - 120) - 120) - 120) - 120) - 120) - 20) - 20) - 9) - 8) - 500) - 9) - 8) - 500) - 500) - 400) - 4) - 4) ∧ ((57, 0) ∉ (sR (nw (sR (nw (sR (nw (sI (sR (nw (sR (nw (sR (nw (sR (nw (sR (nw (sR (nw (sR (nw (sR (nw (sR (nw (sR (nw (sR (nw (sR (nw (sR (nw (sR (nw (sR (nw (sR (nw (sR (nw (sR (nw (sR (nw (sR (nw (sR (nw (sR (nw (sR (nw (sR (nw (sR (nw (sR (nw (sR (nw h 27 0) 26 0 3 (some (27, 0))) 28 0) 26 0 4 (some (28, 0))) 29 0) 26 0 5 (some (29, 0))) 30 0) 26 0 6 (some (30, 0))) 31 0) 26 0 7 (some (31, 0))) 32 0) 26 0 8 (some (32, 0))) 33 0) 26 0 9 (some (33, 0))) 34 0) 26 0 10 (some (34, 0))) 35 0) 26 0 11 (some (35, 0))) 36 0) 26 0 12 (some (36, 0))) 37 0) 26 0 13 (some (37, 0))) 38 0) 26 0 14 (some (38, 0))) 39 0) 26 0 15 (some (39, 0))) 40 0) 26 0 16 (some (40, 0))) 41 0) 26 0 17 (some (41, 0))) 42 0) 26 0 18 (some (42, 0))) 43 0) 26 0 19 (some (43, 0))) 44 0) 26 0 22 (some (44, 0))) 45 0) 26 0 23 (some (45, 0))) 46 0) 26 0 27 (some (46, 0))) 47 0) 26 0 28 (some (47, 0))) 48 0) 26 0 29 (some (48, 0))) 49 0) 26 0 30 (some (49, 0))) 50 0) 26 0 31 (some (50, 0))) 51 0) 26 0 32 (some (51, 0))) 52 0) 26 0 33 (some (52, 0))) 53 0) 26 0 34 (some (53, 0))) 26 0 44 (-1)) 54 0) 26 0 49 (some (54, 0))) 55 0) 26 0 50 (some (55, 0))) 56 0) 26 0 51 (some (56, 0))).2.2 ∧ 1 ≤ ((((((((((((((((((((((((((((((bc - 1) - 1) - 1) - 1) - 1) - 1) - 1) - 1) - 1) - 1) - 1) - 1) - 1) - 1) - 1) - 1) - 1) - 1) - 1) - 1) - 1) - 1) - 1) - 1) - 1) - 1) - 1) - 1) - 1) - 1) ∧ 8 ≤ ((((((((((((((((((((((((((((((bs - 4368) - 12) - 12) - 12) - 12) - 120) - 120) - 120) - 120) - 120) - 120) - 120) - 120) - 120) - 120) - 120) - 120) - 20) - 20) - 9) - 8) - 500) - 9) - 8) - 500) - 500) - 400) - 4) - 4) - 8) ∧ (P none (sR (nw (sR (nw (sR (nw (sR (nw (sI (sR (nw (sR (nw (sR (nw (sR (nw (sR (nw (sR (nw (sR (nw (sR (nw (sR (nw (sR (nw (sR (nw (sR (nw (sR (nw (sR (nw (sR (nw (sR (nw (sR (nw (sR (nw (sR (nw (sR (nw (sR (nw (sR (nw (sR (nw (sR (nw (sR (nw (sR (nw (sR (nw h 27 0) 26 0 3 (some (27, 0))) 28 0) 26 0 4 (some (28, 0))) 29 0) 26 0 5 (some (29, 0))) 30 0) 26 0 6 (some (30, 0))) 31 0) 26 0 7 (some (31, 0))) 32 0) 26 0 8 (some (32, 0))) 33 0) 26 0 9 (some (33, 0))) 34 0) 26 0 10 (some (34, 0))) 35 0) 26 0 11 (some (35, 0))) 36 0) 26 0 12 (some (36, 0))) 37 0) 26 0 13 (some (37, 0))) 38 0) 26 0 14 (some (38, 0))) 39 0) 26 0 15 (some (39, 0))) 40 0) 26 0 16 (some (40, 0))) 41 0) 26 0 17 (some (41, 0))) 42 0) 26 0 18 (some (42, 0))) 43 0) 26 0 19 (some (43, 0))) 44 0) 26 0 22 (some (44, 0))) 45 0) 26 0 23 (some (45, 0))) 46 0) 26 0 27 (some (46, 0))) 47 0) 26 0 28 (some (47, 0))) 48 0) 26 0 29 (some (48, 0))) 49 0) 26 0 30 (some (49, 0))) 50 0) 26 0 31 (some (50, 0))) 51 0) 26 0 32 (some (51, 0))) 52 0) 26 0 33 (some (52, 0))) 53 0) 26 0 34 (some (53, 0))) 26 0 44 (-1)) 54 0) 26 0 49 (some (54, 0))) 55 0) 26 0 50 (some (55, 0))) 56 0) 26 0 51 (some (56, 0))) 57 0) 26 0 52 (some (57, 0))))))))))))))))))))))))))))))))))) : Cl false mX10_init (d + 1) bc bs [aR 26 0] h P := by
  refine Cl_of (by decide) (Nat.le_of_ble_eq_true rfl) ?_
  show V false mX10_init (d + 1) bc bs 0 [(0, aR 26 0)] [] h P
  refine V_aload_n 0 dX10_init_0 rfl rfl ?_
  refine V_objInit dX10_init_1 lkX10_1 (Nat.le_of_ble_eq_true rfl) ?_
  refine V_aload_n 0 dX10_init_4 rfl rfl ?_
  refine V_sipush 4368 dX10_init_5 (by decide) ?_
  obtain ⟨kf, kb1, kb2, k⟩ := k
  refine V_newa (i := 0) (by decide) rt_27 (by decide) rfl (Or.inl rfl) dX10_init_8 ac_int (by decide) (by decide) (by decide) kb1 kb2 kf ?_
  refine V_putR (k := 3) (by decide) rt_26 rfl (by decide) rfl (Or.inr ⟨rfl, rfl, rfl⟩) (Or.inl rfl) dX10_init_10 lkX10_7 ?_
  refine V_aload_n 0 dX10_init_13 rfl rfl ?_
  refine V_bipush 12 dX10_init_14 (by decide) ?_
  obtain ⟨kf, kb1, kb2, k⟩ := k
  refine V_newa (i := 0) (by decide) rt_28 (by decide) rfl (Or.inl rfl) dX10_init_16 ac_int (by decide) (by decide) (by decide) kb1 kb2 kf ?_
  refine V_putR (k := 4) (by decide) rt_26 rfl (by decide) rfl (Or.inr ⟨rfl, rfl, rfl⟩) (Or.inl rfl) dX10_init_18 lkX10_13 ?_
  refine V_aload_n 0 dX10_init_21 rfl rfl ?_
  refine V_bipush 12 dX10_init_22 (by decide) ?_
  obtain ⟨kf, kb1, kb2, k⟩ := k
  refine V_newa (i := 0) (by decide) rt_29 (by decide) rfl (Or.inl rfl) dX10_init_24 ac_int (by decide) (by decide) (by decide) kb1 kb2 kf ?_
  refine V_putR (k := 5) (by decide) rt_26 rfl (by decide) rfl (Or.inr ⟨rfl, rfl, rfl⟩) (Or.inl rfl) dX10_init_26 lkX10_16 ?_
  refine V_aload_n 0 dX10_init_29 rfl rfl ?_
  refine V_bipush 12 dX10_init_30 (by decide) ?_
  obtain ⟨kf, kb1, kb2, k⟩ := k
  refine V_newa (i := 0) (by decide) rt_30 (by decide) rfl (Or.inl rfl) dX10_init_32 ac_int (by decide) (by decide) (by decide) kb1 kb2 kf ?_
  refine V_putR (k := 6) (by decide) rt_26 rfl (by decide) rfl (Or.inr ⟨rfl, rfl, rfl⟩) (Or.inl rfl) dX10_init_34 lkX10_19 ?_
  refine V_aload_n 0 dX10_init_37 rfl rfl ?_
  refine V_bipush 12 dX10_init_38 (by decide) ?_
  obtain ⟨kf, kb1, kb2, k⟩ := k
  refine V_newa (i := 0) (by decide) rt_31 (by decide) rfl (Or.inl rfl) dX10_init_40 ac_int (by decide) (by decide) (by decide) kb1 kb2 kf ?_
  refine V_putR (k := 7) (by decide) rt_26 rfl (by decide) rfl (Or.inr ⟨rfl, rfl, rfl⟩) (Or.inl rfl) dX10_init_42 lkX10_22 ?_
  refine V_aload_n 0 dX10_init_45 rfl rfl ?_
  refine V_bipush 120 dX10_init_46 (by decide) ?_
  obtain ⟨kf, kb1, kb2, k⟩ := k
  refine V_newa (i := 0) (by decide) rt_32 (by decide) rfl (Or.inl rfl) dX10_init_48 ac_int (by decide) (by decide) (by decide) kb1 kb2 kf ?_
  refine V_putR (k := 8) (by decide) rt_26 rfl (by decide) rfl (Or.inr ⟨rfl, rfl, rfl⟩) (Or.inl rfl) dX10_init_50 lkX10_25 ?_
  refine V_aload_n 0 dX10_init_53 rfl rfl ?_
  refine V_bipush 120 dX10_init_54 (by decide) ?_
  obtain ⟨kf, kb1, kb2, k⟩ := k
  refine V_newa (i := 0) (by decide) rt_33 (by decide) rfl (Or.inl rfl) dX10_init_56 ac_int (by decide) (by decide) (by decide) kb1 kb2 kf ?_
  refine V_putR (k := 9) (by decide) rt_26 rfl (by decide) rfl (Or.inr ⟨rfl, rfl, rfl⟩) (Or.inl rfl) dX10_init_58 lkX10_28 ?_
  refine V_aload_n 0 dX10_init_61 rfl rfl ?_
  refine V_bipush 120 dX10_init_62 (by decide) ?_
  obtain ⟨kf, kb1, kb2, k⟩ := k
  refine V_newa (i := 0) (by decide) rt_34 (by decide) rfl (Or.inl rfl) dX10_init_64 ac_int (by decide) (by decide) (by decide) kb1 kb2 kf ?_
  refine V_putR (k := 10) (by decide) rt_26 rfl (by decide) rfl (Or.inr ⟨rfl, rfl, rfl⟩) (Or.inl rfl) dX10_init_66 lkX10_31 ?_
  refine V_aload_n 0 dX10_init_69 rfl rfl ?_
  refine V_bipush 120 dX10_init_70 (by decide) ?_
  obtain ⟨kf, kb1, kb2, k⟩ := k
  refine V_newa (i := 0) (by decide) rt_35 (by decide) rfl (Or.inl rfl) dX10_init_72 ac_int (by decide) (by decide) (by decide) kb1 kb2 kf ?_
  refine V_putR (k := 11) (by decide) rt_26 rfl (by decide) rfl (Or.inr ⟨rfl, rfl, rfl⟩) (Or.inl rfl) dX10_init_74 lkX10_34 ?_
  refine V_aload_n 0 dX10_init_77 rfl rfl ?_
  refine V_bipush 120 dX10_init_78 (by decide) ?_
  obtain ⟨kf, kb1, kb2, k⟩ := k
  refine V_newa (i := 0) (by decide) rt_36 (by decide) rfl (Or.inl rfl) dX10_init_80 ac_int (by decide) (by decide) (by decide) kb1 kb2 kf ?_
  refine V_putR (k := 12) (by decide) rt_26 rfl (by decide) rfl (Or.inr ⟨rfl, rfl, rfl⟩) (Or.inl rfl) dX10_init_82 lkX10_37 ?_
  refine V_aload_n 0 dX10_init_85 rfl rfl ?_
  refine V_bipush 120 dX10_init_86 (by decide) ?_
  obtain ⟨kf, kb1, kb2, k⟩ := k
  refine V_newa (i := 0) (by decide) rt_37 (by decide) rfl (Or.inl rfl) dX10_init_88 ac_int (by decide) (by decide) (by decide) kb1 kb2 kf ?_
  refine V_putR (k := 13) (by decide) rt_26 rfl (by decide) rfl (Or.inr ⟨rfl, rfl, rfl⟩) (Or.inl rfl) dX10_init_90 lkX10_40 ?_
  refine V_aload_n 0 dX10_init_93 rfl rfl ?_
  refine V_bipush 120 dX10_init_94 (by decide) ?_
  obtain ⟨kf, kb1, kb2, k⟩ := k
  refine V_newa (i := 0) (by decide) rt_38 (by decide) rfl (Or.inl rfl) dX10_init_96 ac_int (by decide) (by decide) (by decide) kb1 kb2 kf ?_
  refine V_putR (k := 14) (by decide) rt_26 rfl (by decide) rfl (Or.inr ⟨rfl, rfl, rfl⟩) (Or.inl rfl) dX10_init_98 lkX10_43 ?_
  refine V_aload_n 0 dX10_init_101 rfl rfl ?_
  refine V_bipush 120 dX10_init_102 (by decide) ?_
  obtain ⟨kf, kb1, kb2, k⟩ := k
  refine V_newa (i := 0) (by decide) rt_39 (by decide) rfl (Or.inl rfl) dX10_init_104 ac_int (by decide) (by decide) (by decide) kb1 kb2 kf ?_
  refine V_putR (k := 15) (by decide) rt_26 rfl (by decide) rfl (Or.inr ⟨rfl, rfl, rfl⟩) (Or.inl rfl) dX10_init_106 lkX10_46 ?_
  refine V_aload_n 0 dX10_init_109 rfl rfl ?_
  refine V_bipush 120 dX10_init_110 (by decide) ?_
  obtain ⟨kf, kb1, kb2, k⟩ := k
  refine V_newa (i := 0) (by decide) rt_40 (by decide) rfl (Or.inl rfl) dX10_init_112 ac_int (by decide) (by decide) (by decide) kb1 kb2 kf ?_
  refine V_putR (k := 16) (by decide) rt_26 rfl (by decide) rfl (Or.inr ⟨rfl, rfl, rfl⟩) (Or.inl rfl) dX10_init_114 lkX10_49 ?_
  refine V_aload_n 0 dX10_init_117 rfl rfl ?_
  refine V_bipush 120 dX10_init_118 (by decide) ?_
  obtain ⟨kf, kb1, kb2, k⟩ := k
  refine V_newa (i := 0) (by decide) rt_41 (by decide) rfl (Or.inl rfl) dX10_init_120 ac_int (by decide) (by decide) (by decide) kb1 kb2 kf ?_
  refine V_putR (k := 17) (by decide) rt_26 rfl (by decide) rfl (Or.inr ⟨rfl, rfl, rfl⟩) (Or.inl rfl) dX10_init_122 lkX10_52 ?_
  refine V_aload_n 0 dX10_init_125 rfl rfl ?_
  refine V_bipush 120 dX10_init_126 (by decide) ?_
  obtain ⟨kf, kb1, kb2, k⟩ := k
  refine V_newa (i := 0) (by decide) rt_42 (by decide) rfl (Or.inl rfl) dX10_init_128 ac_int (by decide) (by decide) (by decide) kb1 kb2 kf ?_
  refine V_putR (k := 18) (by decide) rt_26 rfl (by decide) rfl (Or.inr ⟨rfl, rfl, rfl⟩) (Or.inl rfl) dX10_init_130 lkX10_55 ?_
  refine V_aload_n 0 dX10_init_133 rfl rfl ?_
  refine V_bipush 120 dX10_init_134 (by decide) ?_
  obtain ⟨kf, kb1, kb2, k⟩ := k
  refine V_newa (i := 0) (by decide) rt_43 (by decide) rfl (Or.inl rfl) dX10_init_136 ac_int (by decide) (by decide) (by decide) kb1 kb2 kf ?_
  refine V_putR (k := 19) (by decide) rt_26 rfl (by decide) rfl (Or.inr ⟨rfl, rfl, rfl⟩) (Or.inl rfl) dX10_init_138 lkX10_58 ?_
  refine V_aload_n 0 dX10_init_141 rfl rfl ?_
  refine V_bipush 20 dX10_init_142 (by decide) ?_
  obtain ⟨kf, kb1, kb2, k⟩ := k
  refine V_newa (i := 0) (by decide) rt_44 (by decide) rfl (Or.inl rfl) dX10_init_144 ac_int (by decide) (by decide) (by decide) kb1 kb2 kf ?_
  refine V_putR (k := 22) (by decide) rt_26 rfl (by decide) rfl (Or.inr ⟨rfl, rfl, rfl⟩) (Or.inl rfl) dX10_init_146 lkX10_61 ?_
  refine V_aload_n 0 dX10_init_149 rfl rfl ?_
  refine V_bipush 20 dX10_init_150 (by decide) ?_
  obtain ⟨kf, kb1, kb2, k⟩ := k
  refine V_newa (i := 0) (by decide) rt_45 (by decide) rfl (Or.inl rfl) dX10_init_152 ac_boolean (by decide) (by decide) (by decide) kb1 kb2 kf ?_
  refine V_putR (k := 23) (by decide) rt_26 rfl (by decide) rfl (Or.inr ⟨rfl, rfl, rfl⟩) (Or.inl rfl) dX10_init_154 lkX10_64 ?_
  refine V_aload_n 0 dX10_init_157 rfl rfl ?_
  refine V_bipush 9 dX10_init_158 (by decide) ?_
  obtain ⟨kf, kb1, kb2, k⟩ := k
  refine V_newa (i := 0) (by decide) rt_46 (by decide) rfl (Or.inl rfl) dX10_init_160 ac_int (by decide) (by decide) (by decide) kb1 kb2 kf ?_
  refine V_putR (k := 27) (by decide) rt_26 rfl (by decide) rfl (Or.inr ⟨rfl, rfl, rfl⟩) (Or.inl rfl) dX10_init_162 lkX10_68 ?_
  refine V_aload_n 0 dX10_init_165 rfl rfl ?_
  refine V_bipush 8 dX10_init_166 (by decide) ?_
  obtain ⟨kf, kb1, kb2, k⟩ := k
  refine V_newa (i := 0) (by decide) rt_47 (by decide) rfl (Or.inl rfl) dX10_init_168 ac_int (by decide) (by decide) (by decide) kb1 kb2 kf ?_
  refine V_putR (k := 28) (by decide) rt_26 rfl (by decide) rfl (Or.inr ⟨rfl, rfl, rfl⟩) (Or.inl rfl) dX10_init_170 lkX10_71 ?_
  refine V_aload_n 0 dX10_init_173 rfl rfl ?_
  refine V_sipush 500 dX10_init_174 (by decide) ?_
  obtain ⟨kf, kb1, kb2, k⟩ := k
  refine V_newa (i := 0) (by decide) rt_48 (by decide) rfl (Or.inl rfl) dX10_init_177 ac_int (by decide) (by decide) (by decide) kb1 kb2 kf ?_
  refine V_putR (k := 29) (by decide) rt_26 rfl (by decide) rfl (Or.inr ⟨rfl, rfl, rfl⟩) (Or.inl rfl) dX10_init_179 lkX10_74 ?_
  refine V_aload_n 0 dX10_init_182 rfl rfl ?_
  refine V_bipush 9 dX10_init_183 (by decide) ?_
  obtain ⟨kf, kb1, kb2, k⟩ := k
  refine V_newa (i := 0) (by decide) rt_49 (by decide) rfl (Or.inl rfl) dX10_init_185 ac_int (by decide) (by decide) (by decide) kb1 kb2 kf ?_
  refine V_putR (k := 30) (by decide) rt_26 rfl (by decide) rfl (Or.inr ⟨rfl, rfl, rfl⟩) (Or.inl rfl) dX10_init_187 lkX10_77 ?_
  refine V_aload_n 0 dX10_init_190 rfl rfl ?_
  refine V_bipush 8 dX10_init_191 (by decide) ?_
  obtain ⟨kf, kb1, kb2, k⟩ := k
  refine V_newa (i := 0) (by decide) rt_50 (by decide) rfl (Or.inl rfl) dX10_init_193 ac_int (by decide) (by decide) (by decide) kb1 kb2 kf ?_
  refine V_putR (k := 31) (by decide) rt_26 rfl (by decide) rfl (Or.inr ⟨rfl, rfl, rfl⟩) (Or.inl rfl) dX10_init_195 lkX10_80 ?_
  refine V_aload_n 0 dX10_init_198 rfl rfl ?_
  refine V_sipush 500 dX10_init_199 (by decide) ?_
  obtain ⟨kf, kb1, kb2, k⟩ := k
  refine V_newa (i := 0) (by decide) rt_51 (by decide) rfl (Or.inl rfl) dX10_init_202 ac_int (by decide) (by decide) (by decide) kb1 kb2 kf ?_
  refine V_putR (k := 32) (by decide) rt_26 rfl (by decide) rfl (Or.inr ⟨rfl, rfl, rfl⟩) (Or.inl rfl) dX10_init_204 lkX10_83 ?_
  refine V_aload_n 0 dX10_init_207 rfl rfl ?_
  refine V_sipush 500 dX10_init_208 (by decide) ?_
  obtain ⟨kf, kb1, kb2, k⟩ := k
  refine V_newa (i := 0) (by decide) rt_52 (by decide) rfl (Or.inl rfl) dX10_init_211 ac_int (by decide) (by decide) (by decide) kb1 kb2 kf ?_
  refine V_putR (k := 33) (by decide) rt_26 rfl (by decide) rfl (Or.inr ⟨rfl, rfl, rfl⟩) (Or.inl rfl) dX10_init_213 lkX10_86 ?_
  refine V_aload_n 0 dX10_init_216 rfl rfl ?_
  refine V_sipush 400 dX10_init_217 (by decide) ?_
  obtain ⟨kf, kb1, kb2, k⟩ := k
  refine V_newa (i := 0) (by decide) rt_53 (by decide) rfl (Or.inl rfl) dX10_init_220 ac_int (by decide) (by decide) (by decide) kb1 kb2 kf ?_
  refine V_putR (k := 34) (by decide) rt_26 rfl (by decide) rfl (Or.inr ⟨rfl, rfl, rfl⟩) (Or.inl rfl) dX10_init_222 lkX10_89 ?_
  refine V_aload_n 0 dX10_init_225 rfl rfl ?_
  refine V_iconst (-1) dX10_init_226 (by decide) ?_
  refine PI_26_44 dX10_init_227 lkX10_92 ?_
  refine V_aload_n 0 dX10_init_230 rfl rfl ?_
  refine V_iconst 4 dX10_init_231 (by decide) ?_
  obtain ⟨kf, kb1, kb2, k⟩ := k
  refine V_newa (i := 0) (by decide) rt_54 (by decide) rfl (Or.inl rfl) dX10_init_232 ac_int (by decide) (by decide) (by decide) kb1 kb2 kf ?_
  refine V_putR (k := 49) (by decide) rt_26 rfl (by decide) rfl (Or.inr ⟨rfl, rfl, rfl⟩) (Or.inl rfl) dX10_init_234 lkX10_96 ?_
  refine V_aload_n 0 dX10_init_237 rfl rfl ?_
  refine V_iconst 4 dX10_init_238 (by decide) ?_
  obtain ⟨kf, kb1, kb2, k⟩ := k
  refine V_newa (i := 0) (by decide) rt_55 (by decide) rfl (Or.inl rfl) dX10_init_239 ac_int (by decide) (by decide) (by decide) kb1 kb2 kf ?_
  refine V_putR (k := 50) (by decide) rt_26 rfl (by decide) rfl (Or.inr ⟨rfl, rfl, rfl⟩) (Or.inl rfl) dX10_init_241 lkX10_99 ?_
  refine V_aload_n 0 dX10_init_244 rfl rfl ?_
  refine V_bipush 8 dX10_init_245 (by decide) ?_
  obtain ⟨kf, kb1, kb2, k⟩ := k
  refine V_newa (i := 0) (by decide) rt_56 (by decide) rfl (Or.inl rfl) dX10_init_247 ac_int (by decide) (by decide) (by decide) kb1 kb2 kf ?_
  refine V_putR (k := 51) (by decide) rt_26 rfl (by decide) rfl (Or.inr ⟨rfl, rfl, rfl⟩) (Or.inl rfl) dX10_init_249 lkX10_102 ?_
  refine V_aload_n 0 dX10_init_252 rfl rfl ?_
  refine V_bipush 8 dX10_init_253 (by decide) ?_
  obtain ⟨kf, kb1, kb2, k⟩ := k
  refine V_newa (i := 0) (by decide) rt_57 (by decide) rfl (Or.inl rfl) dX10_init_255 ac_int (by decide) (by decide) (by decide) kb1 kb2 kf ?_
  refine V_putR (k := 52) (by decide) rt_26 rfl (by decide) rfl (Or.inr ⟨rfl, rfl, rfl⟩) (Or.inl rfl) dX10_init_257 lkX10_105 ?_
  exact V_return dX10_init_260 rfl k
